section
-- ===== PART A: goes FIRST, ahead of the names: the tables' words, and 'selects' of the private methods out of them =====
/-- a private method of a class that the tables say can be made, by its rows of tables_1 -/
def lw_okq (q : MethodName × Nat) : Prop := (q.1.cls ≠ "java/lang/invoke/MethodHandle" ∧ q.1.cls ≠ "java/lang/invoke/VarHandle") ∧ Cond.instantiable q.1.cls q.2 ∈ tables_1 ∧ Cond.privateMethod q.1 ∈ tables_1 ∧ Cond.instanceMethod q.1 ∈ tables_1
theorem lw_p0 : lw_okq (⟨"LitmusRunner$Programs", "isDraftGood", "()Z"⟩, 5) := ⟨⟨by decide +kernel, by decide +kernel⟩, List.mem_of_getElem? (i := 25) (by decide +kernel), List.mem_of_getElem? (i := 279) (by decide +kernel), List.mem_of_getElem? (i := 280) (by decide +kernel)⟩
theorem lw_p1 : lw_okq (⟨"LitmusRunner$Programs", "copyDraft", "([I)V"⟩, 5) := ⟨⟨by decide +kernel, by decide +kernel⟩, List.mem_of_getElem? (i := 25) (by decide +kernel), List.mem_of_getElem? (i := 358) (by decide +kernel), List.mem_of_getElem? (i := 359) (by decide +kernel)⟩
theorem lw_p2 : lw_okq (⟨"LitmusRunner$Way", "walkHart", "(I)V"⟩, 14) := ⟨⟨by decide +kernel, by decide +kernel⟩, List.mem_of_getElem? (i := 69) (by decide +kernel), List.mem_of_getElem? (i := 384) (by decide +kernel), List.mem_of_getElem? (i := 385) (by decide +kernel)⟩
theorem lw_p3 : lw_okq (⟨"LitmusRunner$Way", "leftOut", "([I)I"⟩, 14) := ⟨⟨by decide +kernel, by decide +kernel⟩, List.mem_of_getElem? (i := 69) (by decide +kernel), List.mem_of_getElem? (i := 393) (by decide +kernel), List.mem_of_getElem? (i := 394) (by decide +kernel)⟩
theorem lw_p4 : lw_okq (⟨"LitmusRunner$Way", "carriedBy", "(I)I"⟩, 14) := ⟨⟨by decide +kernel, by decide +kernel⟩, List.mem_of_getElem? (i := 69) (by decide +kernel), List.mem_of_getElem? (i := 397) (by decide +kernel), List.mem_of_getElem? (i := 398) (by decide +kernel)⟩
theorem lw_p5 : lw_okq (⟨"LitmusRunner$Way", "valueOf", "(I)I"⟩, 14) := ⟨⟨by decide +kernel, by decide +kernel⟩, List.mem_of_getElem? (i := 69) (by decide +kernel), List.mem_of_getElem? (i := 401) (by decide +kernel), List.mem_of_getElem? (i := 402) (by decide +kernel)⟩
theorem lw_p6 : lw_okq (⟨"LitmusRunner$Way", "step", "([I)V"⟩, 14) := ⟨⟨by decide +kernel, by decide +kernel⟩, List.mem_of_getElem? (i := 69) (by decide +kernel), List.mem_of_getElem? (i := 405) (by decide +kernel), List.mem_of_getElem? (i := 406) (by decide +kernel)⟩
theorem lw_p7 : lw_okq (⟨"LitmusRunner$Way", "fence", "(II)V"⟩, 14) := ⟨⟨by decide +kernel, by decide +kernel⟩, List.mem_of_getElem? (i := 69) (by decide +kernel), List.mem_of_getElem? (i := 409) (by decide +kernel), List.mem_of_getElem? (i := 410) (by decide +kernel)⟩
theorem lw_p8 : lw_okq (⟨"LitmusRunner$Way", "setRegister", "(III)V"⟩, 14) := ⟨⟨by decide +kernel, by decide +kernel⟩, List.mem_of_getElem? (i := 69) (by decide +kernel), List.mem_of_getElem? (i := 413) (by decide +kernel), List.mem_of_getElem? (i := 414) (by decide +kernel)⟩
theorem lw_p9 : lw_okq (⟨"LitmusRunner$Way", "fails", "([I)Z"⟩, 14) := ⟨⟨by decide +kernel, by decide +kernel⟩, List.mem_of_getElem? (i := 69) (by decide +kernel), List.mem_of_getElem? (i := 417) (by decide +kernel), List.mem_of_getElem? (i := 418) (by decide +kernel)⟩
theorem lw_p10 : lw_okq (⟨"LitmusRunner$Way", "place", "(II)I"⟩, 14) := ⟨⟨by decide +kernel, by decide +kernel⟩, List.mem_of_getElem? (i := 69) (by decide +kernel), List.mem_of_getElem? (i := 421) (by decide +kernel), List.mem_of_getElem? (i := 422) (by decide +kernel)⟩
theorem lw_p11 : lw_okq (⟨"LitmusRunner$Way", "makeAccess", "([I)V"⟩, 14) := ⟨⟨by decide +kernel, by decide +kernel⟩, List.mem_of_getElem? (i := 69) (by decide +kernel), List.mem_of_getElem? (i := 429) (by decide +kernel), List.mem_of_getElem? (i := 430) (by decide +kernel)⟩
theorem lw_p12 : lw_okq (⟨"LitmusRunner$Way", "written", "(ILLitmusRunner$Access;)I"⟩, 14) := ⟨⟨by decide +kernel, by decide +kernel⟩, List.mem_of_getElem? (i := 69) (by decide +kernel), List.mem_of_getElem? (i := 435) (by decide +kernel), List.mem_of_getElem? (i := 436) (by decide +kernel)⟩
theorem lw_p13 : lw_okq (⟨"LitmusRunner$Way", "relate", "(LLitmusRunner$Access;)V"⟩, 14) := ⟨⟨by decide +kernel, by decide +kernel⟩, List.mem_of_getElem? (i := 69) (by decide +kernel), List.mem_of_getElem? (i := 439) (by decide +kernel), List.mem_of_getElem? (i := 440) (by decide +kernel)⟩
theorem lw_p14 : lw_okq (⟨"LitmusRunner$Way", "isOrdered", "(ILLitmusRunner$Access;)Z"⟩, 14) := ⟨⟨by decide +kernel, by decide +kernel⟩, List.mem_of_getElem? (i := 69) (by decide +kernel), List.mem_of_getElem? (i := 443) (by decide +kernel), List.mem_of_getElem? (i := 444) (by decide +kernel)⟩
theorem lw_p15 : lw_okq (⟨"LitmusRunner$Way", "isWrittenFor", "(I)Z"⟩, 14) := ⟨⟨by decide +kernel, by decide +kernel⟩, List.mem_of_getElem? (i := 69) (by decide +kernel), List.mem_of_getElem? (i := 451) (by decide +kernel), List.mem_of_getElem? (i := 452) (by decide +kernel)⟩
def lw_privs_1 : List (MethodName × Nat) := [(⟨"LitmusRunner$Programs", "isDraftGood", "()Z"⟩, 5), (⟨"LitmusRunner$Programs", "copyDraft", "([I)V"⟩, 5), (⟨"LitmusRunner$Way", "walkHart", "(I)V"⟩, 14), (⟨"LitmusRunner$Way", "leftOut", "([I)I"⟩, 14), (⟨"LitmusRunner$Way", "carriedBy", "(I)I"⟩, 14), (⟨"LitmusRunner$Way", "valueOf", "(I)I"⟩, 14), (⟨"LitmusRunner$Way", "step", "([I)V"⟩, 14), (⟨"LitmusRunner$Way", "fence", "(II)V"⟩, 14), (⟨"LitmusRunner$Way", "setRegister", "(III)V"⟩, 14), (⟨"LitmusRunner$Way", "fails", "([I)Z"⟩, 14), (⟨"LitmusRunner$Way", "place", "(II)I"⟩, 14), (⟨"LitmusRunner$Way", "makeAccess", "([I)V"⟩, 14), (⟨"LitmusRunner$Way", "written", "(ILLitmusRunner$Access;)I"⟩, 14), (⟨"LitmusRunner$Way", "relate", "(LLitmusRunner$Access;)V"⟩, 14), (⟨"LitmusRunner$Way", "isOrdered", "(ILLitmusRunner$Access;)Z"⟩, 14), (⟨"LitmusRunner$Way", "isWrittenFor", "(I)Z"⟩, 14)]
theorem lw_r1 : ∀ q ∈ lw_privs_1, lw_okq q := List.forall_mem_cons.mpr ⟨lw_p0, List.forall_mem_cons.mpr ⟨lw_p1, List.forall_mem_cons.mpr ⟨lw_p2, List.forall_mem_cons.mpr ⟨lw_p3, List.forall_mem_cons.mpr ⟨lw_p4, List.forall_mem_cons.mpr ⟨lw_p5, List.forall_mem_cons.mpr ⟨lw_p6, List.forall_mem_cons.mpr ⟨lw_p7, List.forall_mem_cons.mpr ⟨lw_p8, List.forall_mem_cons.mpr ⟨lw_p9, List.forall_mem_cons.mpr ⟨lw_p10, List.forall_mem_cons.mpr ⟨lw_p11, List.forall_mem_cons.mpr ⟨lw_p12, List.forall_mem_cons.mpr ⟨lw_p13, List.forall_mem_cons.mpr ⟨lw_p14, List.forall_mem_cons.mpr ⟨lw_p15, fun _ h => absurd h List.not_mem_nil⟩⟩⟩⟩⟩⟩⟩⟩⟩⟩⟩⟩⟩⟩⟩⟩
theorem lw_p16 : lw_okq (⟨"LitmusRunner$Ordering", "extend", "(II)V"⟩, 7) := ⟨⟨by decide +kernel, by decide +kernel⟩, List.mem_of_getElem? (i := 195) (by decide +kernel), List.mem_of_getElem? (i := 465) (by decide +kernel), List.mem_of_getElem? (i := 466) (by decide +kernel)⟩
theorem lw_p17 : lw_okq (⟨"LitmusRunner$Outcomes", "spotOf", "(J)I"⟩, 2) := ⟨⟨by decide +kernel, by decide +kernel⟩, List.mem_of_getElem? (i := 181) (by decide +kernel), List.mem_of_getElem? (i := 481) (by decide +kernel), List.mem_of_getElem? (i := 482) (by decide +kernel)⟩
theorem lw_p18 : lw_okq (⟨"LitmusRunner$Ordering", "sourceOf", "(LLitmusRunner$Access;I)I"⟩, 7) := ⟨⟨by decide +kernel, by decide +kernel⟩, List.mem_of_getElem? (i := 195) (by decide +kernel), List.mem_of_getElem? (i := 509) (by decide +kernel), List.mem_of_getElem? (i := 510) (by decide +kernel)⟩
theorem lw_p19 : lw_okq (⟨"LitmusRunner$Ordering", "mayReadHere", "(II)Z"⟩, 7) := ⟨⟨by decide +kernel, by decide +kernel⟩, List.mem_of_getElem? (i := 195) (by decide +kernel), List.mem_of_getElem? (i := 513) (by decide +kernel), List.mem_of_getElem? (i := 514) (by decide +kernel)⟩
theorem lw_p20 : lw_okq (⟨"LitmusRunner$Ordering", "mayForward", "(II)Z"⟩, 7) := ⟨⟨by decide +kernel, by decide +kernel⟩, List.mem_of_getElem? (i := 195) (by decide +kernel), List.mem_of_getElem? (i := 517) (by decide +kernel), List.mem_of_getElem? (i := 518) (by decide +kernel)⟩
theorem lw_p21 : lw_okq (⟨"LitmusRunner$Ordering", "agreesWithTwins", "(II)Z"⟩, 7) := ⟨⟨by decide +kernel, by decide +kernel⟩, List.mem_of_getElem? (i := 195) (by decide +kernel), List.mem_of_getElem? (i := 521) (by decide +kernel), List.mem_of_getElem? (i := 522) (by decide +kernel)⟩
theorem lw_p22 : lw_okq (⟨"LitmusRunner$Ordering", "isAtomic", "(LLitmusRunner$Access;I)Z"⟩, 7) := ⟨⟨by decide +kernel, by decide +kernel⟩, List.mem_of_getElem? (i := 195) (by decide +kernel), List.mem_of_getElem? (i := 525) (by decide +kernel), List.mem_of_getElem? (i := 526) (by decide +kernel)⟩
theorem lw_p23 : lw_okq (⟨"LitmusRunner$Ordering", "place", "(III)V"⟩, 7) := ⟨⟨by decide +kernel, by decide +kernel⟩, List.mem_of_getElem? (i := 195) (by decide +kernel), List.mem_of_getElem? (i := 529) (by decide +kernel), List.mem_of_getElem? (i := 530) (by decide +kernel)⟩
theorem lw_p24 : lw_okq (⟨"LitmusRunnerModel", "instructions", "(I)I"⟩, 35) := ⟨⟨by decide +kernel, by decide +kernel⟩, List.mem_of_getElem? (i := 599) (by decide +kernel), List.mem_of_getElem? (i := 737) (by decide +kernel), List.mem_of_getElem? (i := 738) (by decide +kernel)⟩
theorem lw_p25 : lw_okq (⟨"LitmusRunnerModel", "doWay", "()V"⟩, 35) := ⟨⟨by decide +kernel, by decide +kernel⟩, List.mem_of_getElem? (i := 599) (by decide +kernel), List.mem_of_getElem? (i := 751) (by decide +kernel), List.mem_of_getElem? (i := 752) (by decide +kernel)⟩
theorem lw_p26 : lw_okq (⟨"LitmusRunnerModel", "doHart", "(I)V"⟩, 35) := ⟨⟨by decide +kernel, by decide +kernel⟩, List.mem_of_getElem? (i := 599) (by decide +kernel), List.mem_of_getElem? (i := 755) (by decide +kernel), List.mem_of_getElem? (i := 756) (by decide +kernel)⟩
theorem lw_p27 : lw_okq (⟨"LitmusRunnerModel", "access", "(III)V"⟩, 35) := ⟨⟨by decide +kernel, by decide +kernel⟩, List.mem_of_getElem? (i := 599) (by decide +kernel), List.mem_of_getElem? (i := 759) (by decide +kernel), List.mem_of_getElem? (i := 760) (by decide +kernel)⟩
theorem lw_p28 : lw_okq (⟨"LitmusRunnerModel", "choose", "(I)I"⟩, 35) := ⟨⟨by decide +kernel, by decide +kernel⟩, List.mem_of_getElem? (i := 599) (by decide +kernel), List.mem_of_getElem? (i := 763) (by decide +kernel), List.mem_of_getElem? (i := 764) (by decide +kernel)⟩
theorem lw_p29 : lw_okq (⟨"LitmusRunnerModel", "goThrough", "()Z"⟩, 35) := ⟨⟨by decide +kernel, by decide +kernel⟩, List.mem_of_getElem? (i := 599) (by decide +kernel), List.mem_of_getElem? (i := 770) (by decide +kernel), List.mem_of_getElem? (i := 771) (by decide +kernel)⟩
theorem lw_p30 : lw_okq (⟨"LitmusRunnerModel", "findMust", "()V"⟩, 35) := ⟨⟨by decide +kernel, by decide +kernel⟩, List.mem_of_getElem? (i := 599) (by decide +kernel), List.mem_of_getElem? (i := 774) (by decide +kernel), List.mem_of_getElem? (i := 775) (by decide +kernel)⟩
theorem lw_p31 : lw_okq (⟨"LitmusRunnerModel", "mustStand", "(II)Z"⟩, 35) := ⟨⟨by decide +kernel, by decide +kernel⟩, List.mem_of_getElem? (i := 599) (by decide +kernel), List.mem_of_getElem? (i := 778) (by decide +kernel), List.mem_of_getElem? (i := 779) (by decide +kernel)⟩
def lw_privs_2 : List (MethodName × Nat) := [(⟨"LitmusRunner$Ordering", "extend", "(II)V"⟩, 7), (⟨"LitmusRunner$Outcomes", "spotOf", "(J)I"⟩, 2), (⟨"LitmusRunner$Ordering", "sourceOf", "(LLitmusRunner$Access;I)I"⟩, 7), (⟨"LitmusRunner$Ordering", "mayReadHere", "(II)Z"⟩, 7), (⟨"LitmusRunner$Ordering", "mayForward", "(II)Z"⟩, 7), (⟨"LitmusRunner$Ordering", "agreesWithTwins", "(II)Z"⟩, 7), (⟨"LitmusRunner$Ordering", "isAtomic", "(LLitmusRunner$Access;I)Z"⟩, 7), (⟨"LitmusRunner$Ordering", "place", "(III)V"⟩, 7), (⟨"LitmusRunnerModel", "instructions", "(I)I"⟩, 35), (⟨"LitmusRunnerModel", "doWay", "()V"⟩, 35), (⟨"LitmusRunnerModel", "doHart", "(I)V"⟩, 35), (⟨"LitmusRunnerModel", "access", "(III)V"⟩, 35), (⟨"LitmusRunnerModel", "choose", "(I)I"⟩, 35), (⟨"LitmusRunnerModel", "goThrough", "()Z"⟩, 35), (⟨"LitmusRunnerModel", "findMust", "()V"⟩, 35), (⟨"LitmusRunnerModel", "mustStand", "(II)Z"⟩, 35)]
theorem lw_r2 : ∀ q ∈ lw_privs_2, lw_okq q := List.forall_mem_cons.mpr ⟨lw_p16, List.forall_mem_cons.mpr ⟨lw_p17, List.forall_mem_cons.mpr ⟨lw_p18, List.forall_mem_cons.mpr ⟨lw_p19, List.forall_mem_cons.mpr ⟨lw_p20, List.forall_mem_cons.mpr ⟨lw_p21, List.forall_mem_cons.mpr ⟨lw_p22, List.forall_mem_cons.mpr ⟨lw_p23, List.forall_mem_cons.mpr ⟨lw_p24, List.forall_mem_cons.mpr ⟨lw_p25, List.forall_mem_cons.mpr ⟨lw_p26, List.forall_mem_cons.mpr ⟨lw_p27, List.forall_mem_cons.mpr ⟨lw_p28, List.forall_mem_cons.mpr ⟨lw_p29, List.forall_mem_cons.mpr ⟨lw_p30, List.forall_mem_cons.mpr ⟨lw_p31, fun _ h => absurd h List.not_mem_nil⟩⟩⟩⟩⟩⟩⟩⟩⟩⟩⟩⟩⟩⟩⟩⟩
theorem lw_p32 : lw_okq (⟨"LitmusRunnerModel", "reads", "(I)Z"⟩, 35) := ⟨⟨by decide +kernel, by decide +kernel⟩, List.mem_of_getElem? (i := 599) (by decide +kernel), List.mem_of_getElem? (i := 782) (by decide +kernel), List.mem_of_getElem? (i := 783) (by decide +kernel)⟩
theorem lw_p33 : lw_okq (⟨"LitmusRunnerModel", "writes", "(I)Z"⟩, 35) := ⟨⟨by decide +kernel, by decide +kernel⟩, List.mem_of_getElem? (i := 599) (by decide +kernel), List.mem_of_getElem? (i := 786) (by decide +kernel), List.mem_of_getElem? (i := 787) (by decide +kernel)⟩
theorem lw_p34 : lw_okq (⟨"LitmusRunnerModel", "isFenced", "(II)Z"⟩, 35) := ⟨⟨by decide +kernel, by decide +kernel⟩, List.mem_of_getElem? (i := 599) (by decide +kernel), List.mem_of_getElem? (i := 790) (by decide +kernel), List.mem_of_getElem? (i := 791) (by decide +kernel)⟩
theorem lw_p35 : lw_okq (⟨"LitmusRunnerModel", "isOrder", "()Z"⟩, 35) := ⟨⟨by decide +kernel, by decide +kernel⟩, List.mem_of_getElem? (i := 599) (by decide +kernel), List.mem_of_getElem? (i := 797) (by decide +kernel), List.mem_of_getElem? (i := 798) (by decide +kernel)⟩
theorem lw_p36 : lw_okq (⟨"LitmusRunnerModel", "sourceOf", "(I)I"⟩, 35) := ⟨⟨by decide +kernel, by decide +kernel⟩, List.mem_of_getElem? (i := 599) (by decide +kernel), List.mem_of_getElem? (i := 801) (by decide +kernel), List.mem_of_getElem? (i := 802) (by decide +kernel)⟩
theorem lw_p37 : lw_okq (⟨"LitmusRunnerModel", "isAsked", "(II)Z"⟩, 35) := ⟨⟨by decide +kernel, by decide +kernel⟩, List.mem_of_getElem? (i := 599) (by decide +kernel), List.mem_of_getElem? (i := 805) (by decide +kernel), List.mem_of_getElem? (i := 806) (by decide +kernel)⟩
theorem lw_p38 : lw_okq (⟨"LitmusRunnerModel", "isWriteBetween", "(II)Z"⟩, 35) := ⟨⟨by decide +kernel, by decide +kernel⟩, List.mem_of_getElem? (i := 599) (by decide +kernel), List.mem_of_getElem? (i := 809) (by decide +kernel), List.mem_of_getElem? (i := 810) (by decide +kernel)⟩
theorem lw_p39 : lw_okq (⟨"LitmusRunnerModel", "isAtomic", "(I)Z"⟩, 35) := ⟨⟨by decide +kernel, by decide +kernel⟩, List.mem_of_getElem? (i := 599) (by decide +kernel), List.mem_of_getElem? (i := 813) (by decide +kernel), List.mem_of_getElem? (i := 814) (by decide +kernel)⟩
theorem lw_p40 : lw_okq (⟨"LitmusRunnerModel", "reckon", "()J"⟩, 35) := ⟨⟨by decide +kernel, by decide +kernel⟩, List.mem_of_getElem? (i := 599) (by decide +kernel), List.mem_of_getElem? (i := 817) (by decide +kernel), List.mem_of_getElem? (i := 818) (by decide +kernel)⟩
theorem lw_p41 : lw_okq (⟨"LitmusRunnerModel", "keep", "(J)V"⟩, 35) := ⟨⟨by decide +kernel, by decide +kernel⟩, List.mem_of_getElem? (i := 599) (by decide +kernel), List.mem_of_getElem? (i := 821) (by decide +kernel), List.mem_of_getElem? (i := 822) (by decide +kernel)⟩
theorem lw_p42 : lw_okq (⟨"LitmusRunnerModel", "placeOf", "(J)I"⟩, 35) := ⟨⟨by decide +kernel, by decide +kernel⟩, List.mem_of_getElem? (i := 599) (by decide +kernel), List.mem_of_getElem? (i := 825) (by decide +kernel), List.mem_of_getElem? (i := 826) (by decide +kernel)⟩
theorem lw_p43 : lw_okq (⟨"LitmusRunnerModel", "nextOrder", "()Z"⟩, 35) := ⟨⟨by decide +kernel, by decide +kernel⟩, List.mem_of_getElem? (i := 599) (by decide +kernel), List.mem_of_getElem? (i := 829) (by decide +kernel), List.mem_of_getElem? (i := 830) (by decide +kernel)⟩
theorem lw_p44 : lw_okq (⟨"LitmusRunnerModel", "nextWay", "()Z"⟩, 35) := ⟨⟨by decide +kernel, by decide +kernel⟩, List.mem_of_getElem? (i := 599) (by decide +kernel), List.mem_of_getElem? (i := 833) (by decide +kernel), List.mem_of_getElem? (i := 834) (by decide +kernel)⟩
def lw_privs_3 : List (MethodName × Nat) := [(⟨"LitmusRunnerModel", "reads", "(I)Z"⟩, 35), (⟨"LitmusRunnerModel", "writes", "(I)Z"⟩, 35), (⟨"LitmusRunnerModel", "isFenced", "(II)Z"⟩, 35), (⟨"LitmusRunnerModel", "isOrder", "()Z"⟩, 35), (⟨"LitmusRunnerModel", "sourceOf", "(I)I"⟩, 35), (⟨"LitmusRunnerModel", "isAsked", "(II)Z"⟩, 35), (⟨"LitmusRunnerModel", "isWriteBetween", "(II)Z"⟩, 35), (⟨"LitmusRunnerModel", "isAtomic", "(I)Z"⟩, 35), (⟨"LitmusRunnerModel", "reckon", "()J"⟩, 35), (⟨"LitmusRunnerModel", "keep", "(J)V"⟩, 35), (⟨"LitmusRunnerModel", "placeOf", "(J)I"⟩, 35), (⟨"LitmusRunnerModel", "nextOrder", "()Z"⟩, 35), (⟨"LitmusRunnerModel", "nextWay", "()Z"⟩, 35)]
theorem lw_r3 : ∀ q ∈ lw_privs_3, lw_okq q := List.forall_mem_cons.mpr ⟨lw_p32, List.forall_mem_cons.mpr ⟨lw_p33, List.forall_mem_cons.mpr ⟨lw_p34, List.forall_mem_cons.mpr ⟨lw_p35, List.forall_mem_cons.mpr ⟨lw_p36, List.forall_mem_cons.mpr ⟨lw_p37, List.forall_mem_cons.mpr ⟨lw_p38, List.forall_mem_cons.mpr ⟨lw_p39, List.forall_mem_cons.mpr ⟨lw_p40, List.forall_mem_cons.mpr ⟨lw_p41, List.forall_mem_cons.mpr ⟨lw_p42, List.forall_mem_cons.mpr ⟨lw_p43, List.forall_mem_cons.mpr ⟨lw_p44, fun _ h => absurd h List.not_mem_nil⟩⟩⟩⟩⟩⟩⟩⟩⟩⟩⟩⟩⟩
def lw_privs : List (MethodName × Nat) := lw_privs_1 ++ (lw_privs_2 ++ (lw_privs_3))
def lw_tbl : List Cond := k2_sels lw_privs ++ tables_1
theorem lw_privs_ok : ∀ q ∈ lw_privs, lw_okq q := by
  show ∀ q ∈ lw_privs_1 ++ (lw_privs_2 ++ (lw_privs_3)), lw_okq q
  exact List.forall_mem_append.mpr ⟨lw_r1, List.forall_mem_append.mpr ⟨lw_r2, lw_r3⟩⟩
end
section
/-! ===== BEGIN words of one list among another's, by their places ===== -/
theorem goodIn_r {big : List Cond} (ws : List Cond) (ps : List Nat) (hp : ws = ps.filterMap (fun i => big[i]?)) (h : ws.all goodWord = true) : GoodIn big ws := by
  intro w hw
  have h1 := List.all_eq_true.mp h w hw
  rw [hp] at hw
  obtain ⟨i, -, hi⟩ := List.mem_filterMap.mp hw
  have hm : w ∈ big := by first | exact List.mem_of_getElem? hi | exact List.getElem?_mem hi
  exact ⟨hm, good_of_word h1⟩
theorem goodIn_app {big a b : List Cond} (ha : GoodIn big a) (hb : GoodIn big b) : GoodIn big (a ++ b) := fun w h => (List.mem_append.mp h).elim (ha w) (hb w)
theorem goodIn_ca {big a b : List Cond} {c : Cond} (ha : GoodIn big (c :: a)) (hb : GoodIn big b) : GoodIn big (c :: (a ++ b)) := fun w h => (List.mem_cons.mp h).elim (fun e => ha w (List.mem_cons.mpr (Or.inl e))) (fun h => (List.mem_append.mp h).elim (fun h => ha w (List.mem_cons.mpr (Or.inr h))) (hb w))
theorem goodIn_sub {big ws : List Cond} (hm : ∀ w ∈ ws, w ∈ big) (h : ws.all goodWord = true) : GoodIn big ws := fun w hw => ⟨hm w hw, good_of_word (List.all_eq_true.mp h w hw)⟩
/-! ===== END ===== -/
/-! ===== BEGIN printed: names, fields, word lists, decode rows ===== -/
def RX0 : String := "LitmusRunner$Access"
def TX0 : u_T := fun k => match k with
  | 0 => ("LitmusRunner$Access", "hart", "I", false)
  | 1 => ("LitmusRunner$Access", "kind", "I", false)
  | 2 => ("LitmusRunner$Access", "location", "I", false)
  | 3 => ("LitmusRunner$Access", "marks", "I", false)
  | 4 => ("LitmusRunner$Access", "reads", "Z", false)
  | 5 => ("LitmusRunner$Access", "writes", "Z", false)
  | 6 => ("LitmusRunner$Access", "got", "I", false)
  | 7 => ("LitmusRunner$Access", "put", "I", false)
  | 8 => ("LitmusRunner$Access", "byPlace", "I", false)
  | 9 => ("LitmusRunner$Access", "byValue", "I", false)
  | 10 => ("LitmusRunner$Access", "reserve", "I", false)
  | 11 => ("LitmusRunner$Access", "ownWrite", "I", false)
  | 12 => ("LitmusRunner$Access", "twins", "I", false)
  | _ => ("LitmusRunner$Access", "after", "I", false)
def tyX0 : Nat → FieldType := fun k => match k with
  | 0 => .int
  | 1 => .int
  | 2 => .int
  | 3 => .int
  | 4 => .boolean
  | 5 => .boolean
  | 6 => .int
  | 7 => .int
  | 8 => .int
  | 9 => .int
  | 10 => .int
  | 11 => .int
  | 12 => .int
  | _ => .int
abbrev wsX00 : List Cond := u_ws RX0 TX0 14
theorem nmX0 : ∀ a, a < 14 → ∀ b, b < 14 → a ≠ b → (TX0 a).2.1 ≠ (TX0 b).2.1 := by decide +kernel
theorem tyX0_ok : ∀ k, k < 14 → parseFieldDescriptor (TX0 k).2.2.1 = some (tyX0 k) := by decide +kernel
abbrev cX0_init : ByteArray := prog_2_method_1_code
def yX0_init : MethodName := ⟨RX0, "<init>", "()V"⟩
def RX1 : String := "LitmusRunner$Choices"
def TX1 : u_T := fun k => match k with
  | 0 => ("LitmusRunner$Choices", "chosen", "[I", true)
  | 1 => ("LitmusRunner$Choices", "limits", "[I", true)
  | 2 => ("LitmusRunner$Choices", "made", "I", false)
  | _ => ("LitmusRunner$Choices", "kept", "I", false)
def tyX1 : Nat → FieldType := fun k => match k with
  | 0 => .array .int
  | 1 => .array .int
  | 2 => .int
  | _ => .int
abbrev wsX10 : List Cond := u_ws RX1 TX1 4
theorem nmX1 : ∀ a, a < 4 → ∀ b, b < 4 → a ≠ b → (TX1 a).2.1 ≠ (TX1 b).2.1 := by decide +kernel
theorem tyX1_ok : ∀ k, k < 4 → parseFieldDescriptor (TX1 k).2.2.1 = some (tyX1 k) := by decide +kernel
abbrev cX1_init : ByteArray := prog_3_method_1_code
def yX1_init : MethodName := ⟨RX1, "<init>", "()V"⟩
abbrev cX1_restart : ByteArray := prog_3_method_2_code
def yX1_restart : MethodName := ⟨RX1, "restart", "()V"⟩
abbrev cX1_choose : ByteArray := prog_3_method_3_code
def yX1_choose : MethodName := ⟨RX1, "choose", "(I)I"⟩
abbrev cX1_advance : ByteArray := prog_3_method_4_code
def yX1_advance : MethodName := ⟨RX1, "advance", "()Z"⟩
def RX2 : String := "LitmusRunner$Ordering"
def TX2 : u_T := fun k => match k with
  | 0 => ("LitmusRunner$Ordering", "way", "LLitmusRunner$Way;", true)
  | 1 => ("LitmusRunner$Ordering", "outcomes", "LLitmusRunner$Outcomes;", true)
  | 2 => ("LitmusRunner$Ordering", "spots", "[I", true)
  | 3 => ("LitmusRunner$Ordering", "sources", "[I", true)
  | 4 => ("LitmusRunner$Ordering", "latest", "[I", true)
  | 5 => ("LitmusRunner$Ordering", "registersPart", "J", false)
  | _ => ("LitmusRunner$Ordering", "any", "Z", false)
def tyX2 : Nat → FieldType := fun k => match k with
  | 0 => .object "LitmusRunner$Way"
  | 1 => .object "LitmusRunner$Outcomes"
  | 2 => .array .int
  | 3 => .array .int
  | 4 => .array .int
  | 5 => .long
  | _ => .boolean
abbrev wsX20 : List Cond := u_ws RX2 TX2 7
theorem nmX2 : ∀ a, a < 7 → ∀ b, b < 7 → a ≠ b → (TX2 a).2.1 ≠ (TX2 b).2.1 := by decide +kernel
theorem tyX2_ok : ∀ k, k < 7 → parseFieldDescriptor (TX2 k).2.2.1 = some (tyX2 k) := by decide +kernel
abbrev cX2_init : ByteArray := prog_4_method_1_code
def yX2_init : MethodName := ⟨RX2, "<init>", "(LLitmusRunner$Way;LLitmusRunner$Outcomes;)V"⟩
abbrev cX2_search : ByteArray := prog_4_method_2_code
def yX2_search : MethodName := ⟨RX2, "search", "()Z"⟩
abbrev cX2_extend : ByteArray := prog_4_method_3_code
def yX2_extend : MethodName := ⟨RX2, "extend", "(II)V"⟩
abbrev cX2_place : ByteArray := prog_4_method_4_code
def yX2_place : MethodName := ⟨RX2, "place", "(III)V"⟩
abbrev cX2_sourceOf : ByteArray := prog_4_method_5_code
def yX2_sourceOf : MethodName := ⟨RX2, "sourceOf", "(LLitmusRunner$Access;I)I"⟩
abbrev cX2_mayReadHere : ByteArray := prog_4_method_6_code
def yX2_mayReadHere : MethodName := ⟨RX2, "mayReadHere", "(II)Z"⟩
abbrev cX2_mayForward : ByteArray := prog_4_method_7_code
def yX2_mayForward : MethodName := ⟨RX2, "mayForward", "(II)Z"⟩
abbrev cX2_agreesWithTwins : ByteArray := prog_4_method_8_code
def yX2_agreesWithTwins : MethodName := ⟨RX2, "agreesWithTwins", "(II)Z"⟩
abbrev cX2_isAtomic : ByteArray := prog_4_method_9_code
def yX2_isAtomic : MethodName := ⟨RX2, "isAtomic", "(LLitmusRunner$Access;I)Z"⟩
abbrev cX2_isIn : ByteArray := prog_4_method_10_code
def yX2_isIn : MethodName := ⟨RX2, "isIn", "(II)Z"⟩
def RX3 : String := "LitmusRunner$Outcomes"
def TX3 : u_T := fun k => match k with
  | 0 => ("LitmusRunner$Outcomes", "rows", "[J", false)
  | _ => ("LitmusRunner$Outcomes", "size", "I", false)
def tyX3 : Nat → FieldType := fun k => match k with
  | 0 => .array .long
  | _ => .int
abbrev wsX30 : List Cond := u_ws RX3 TX3 2
theorem nmX3 : ∀ a, a < 2 → ∀ b, b < 2 → a ≠ b → (TX3 a).2.1 ≠ (TX3 b).2.1 := by decide +kernel
theorem tyX3_ok : ∀ k, k < 2 → parseFieldDescriptor (TX3 k).2.2.1 = some (tyX3 k) := by decide +kernel
abbrev cX3_init : ByteArray := prog_5_method_1_code
def yX3_init : MethodName := ⟨RX3, "<init>", "()V"⟩
abbrev cX3_removeAll : ByteArray := prog_5_method_2_code
def yX3_removeAll : MethodName := ⟨RX3, "removeAll", "()V"⟩
abbrev cX3_size : ByteArray := prog_5_method_3_code
def yX3_size : MethodName := ⟨RX3, "size", "()I"⟩
abbrev cX3_at : ByteArray := prog_5_method_4_code
def yX3_at : MethodName := ⟨RX3, "at", "(I)J"⟩
abbrev cX3_holds : ByteArray := prog_5_method_5_code
def yX3_holds : MethodName := ⟨RX3, "holds", "(J)Z"⟩
abbrev cX3_keep : ByteArray := prog_5_method_6_code
def yX3_keep : MethodName := ⟨RX3, "keep", "(J)V"⟩
abbrev cX3_howMany : ByteArray := prog_5_method_7_code
def yX3_howMany : MethodName := ⟨RX3, "howMany", "(IIII)I"⟩
abbrev cX3_spotOf : ByteArray := prog_5_method_8_code
def yX3_spotOf : MethodName := ⟨RX3, "spotOf", "(J)I"⟩
abbrev cX3_partOf : ByteArray := prog_5_method_9_code
def yX3_partOf : MethodName := ⟨RX3, "partOf", "(JI)I"⟩
def RX4 : String := "LitmusRunner$Programs"
def TX4 : u_T := fun k => match k with
  | 0 => ("LitmusRunner$Programs", "rows", "[[I", true)
  | 1 => ("LitmusRunner$Programs", "lengths", "[I", true)
  | 2 => ("LitmusRunner$Programs", "draft", "[I", true)
  | 3 => ("LitmusRunner$Programs", "accesses", "I", false)
  | _ => ("LitmusRunner$Programs", "readers", "I", false)
def tyX4 : Nat → FieldType := fun k => match k with
  | 0 => .array (.array .int)
  | 1 => .array .int
  | 2 => .array .int
  | 3 => .int
  | _ => .int
abbrev wsX40 : List Cond := u_ws RX4 TX4 5
theorem nmX4 : ∀ a, a < 5 → ∀ b, b < 5 → a ≠ b → (TX4 a).2.1 ≠ (TX4 b).2.1 := by decide +kernel
theorem tyX4_ok : ∀ k, k < 5 → parseFieldDescriptor (TX4 k).2.2.1 = some (tyX4 k) := by decide +kernel
abbrev cX4_init : ByteArray := prog_6_method_1_code
def yX4_init : MethodName := ⟨RX4, "<init>", "()V"⟩
abbrev cX4_removeAll : ByteArray := prog_6_method_2_code
def yX4_removeAll : MethodName := ⟨RX4, "removeAll", "()I"⟩
abbrev cX4_size : ByteArray := prog_6_method_3_code
def yX4_size : MethodName := ⟨RX4, "size", "()I"⟩
abbrev cX4_accesses : ByteArray := prog_6_method_4_code
def yX4_accesses : MethodName := ⟨RX4, "accesses", "()I"⟩
abbrev cX4_readers : ByteArray := prog_6_method_5_code
def yX4_readers : MethodName := ⟨RX4, "readers", "()I"⟩
abbrev cX4_length : ByteArray := prog_6_method_6_code
def yX4_length : MethodName := ⟨RX4, "length", "(I)I"⟩
abbrev cX4_has : ByteArray := prog_6_method_7_code
def yX4_has : MethodName := ⟨RX4, "has", "(II)Z"⟩
abbrev cX4_row : ByteArray := prog_6_method_8_code
def yX4_row : MethodName := ⟨RX4, "row", "(II)[I"⟩
abbrev cX4_propose : ByteArray := prog_6_method_9_code
def yX4_propose : MethodName := ⟨RX4, "propose", "(IIIIII)V"⟩
abbrev cX4_append : ByteArray := prog_6_method_10_code
def yX4_append : MethodName := ⟨RX4, "append", "(I)I"⟩
abbrev cX4_isDraftGood : ByteArray := prog_6_method_11_code
def yX4_isDraftGood : MethodName := ⟨RX4, "isDraftGood", "()Z"⟩
abbrev cX4_copyDraft : ByteArray := prog_6_method_12_code
def yX4_copyDraft : MethodName := ⟨RX4, "copyDraft", "([I)V"⟩
abbrev cX4_formOf : ByteArray := prog_6_method_13_code
def yX4_formOf : MethodName := ⟨RX4, "formOf", "(I)Ljava/lang/String;"⟩
abbrev cX4_isOfSort : ByteArray := prog_6_method_14_code
def yX4_isOfSort : MethodName := ⟨RX4, "isOfSort", "(CI)Z"⟩
def RX5 : String := "LitmusRunner$Way"
def TX5 : u_T := fun k => match k with
  | 0 => ("LitmusRunner$Way", "programs", "LLitmusRunner$Programs;", true)
  | 1 => ("LitmusRunner$Way", "choices", "LLitmusRunner$Choices;", true)
  | 2 => ("LitmusRunner$Way", "accesses", "[LLitmusRunner$Access;", true)
  | 3 => ("LitmusRunner$Way", "values", "[I", true)
  | 4 => ("LitmusRunner$Way", "carried", "[I", true)
  | 5 => ("LitmusRunner$Way", "size", "I", false)
  | 6 => ("LitmusRunner$Way", "model", "I", false)
  | 7 => ("LitmusRunner$Way", "hart", "I", false)
  | 8 => ("LitmusRunner$Way", "first", "I", false)
  | 9 => ("LitmusRunner$Way", "reserve", "I", false)
  | 10 => ("LitmusRunner$Way", "byWay", "I", false)
  | 11 => ("LitmusRunner$Way", "neededForPlaces", "I", false)
  | 12 => ("LitmusRunner$Way", "fencedBeforeReads", "I", false)
  | _ => ("LitmusRunner$Way", "fencedBeforeWrites", "I", false)
def tyX5 : Nat → FieldType := fun k => match k with
  | 0 => .object "LitmusRunner$Programs"
  | 1 => .object "LitmusRunner$Choices"
  | 2 => .array (.object "LitmusRunner$Access")
  | 3 => .array .int
  | 4 => .array .int
  | 5 => .int
  | 6 => .int
  | 7 => .int
  | 8 => .int
  | 9 => .int
  | 10 => .int
  | 11 => .int
  | 12 => .int
  | _ => .int
abbrev wsX50 : List Cond := u_ws RX5 TX5 14
theorem nmX5 : ∀ a, a < 14 → ∀ b, b < 14 → a ≠ b → (TX5 a).2.1 ≠ (TX5 b).2.1 := by decide +kernel
theorem tyX5_ok : ∀ k, k < 14 → parseFieldDescriptor (TX5 k).2.2.1 = some (tyX5 k) := by decide +kernel
abbrev cX5_init : ByteArray := prog_7_method_1_code
def yX5_init : MethodName := ⟨RX5, "<init>", "(LLitmusRunner$Programs;LLitmusRunner$Choices;)V"⟩
abbrev cX5_size : ByteArray := prog_7_method_2_code
def yX5_size : MethodName := ⟨RX5, "size", "()I"⟩
abbrev cX5_accessAt : ByteArray := prog_7_method_3_code
def yX5_accessAt : MethodName := ⟨RX5, "accessAt", "(I)LLitmusRunner$Access;"⟩
abbrev cX5_registersPart : ByteArray := prog_7_method_4_code
def yX5_registersPart : MethodName := ⟨RX5, "registersPart", "()J"⟩
abbrev cX5_locationsPart : ByteArray := prog_7_method_5_code
def yX5_locationsPart : MethodName := ⟨RX5, "locationsPart", "([I)J"⟩
abbrev cX5_walk : ByteArray := prog_7_method_6_code
def yX5_walk : MethodName := ⟨RX5, "walk", "(I)V"⟩
abbrev cX5_isPlausible : ByteArray := prog_7_method_7_code
def yX5_isPlausible : MethodName := ⟨RX5, "isPlausible", "()Z"⟩
abbrev cX5_isWrittenFor : ByteArray := prog_7_method_8_code
def yX5_isWrittenFor : MethodName := ⟨RX5, "isWrittenFor", "(I)Z"⟩
abbrev cX5_walkHart : ByteArray := prog_7_method_9_code
def yX5_walkHart : MethodName := ⟨RX5, "walkHart", "(I)V"⟩
abbrev cX5_leftOut : ByteArray := prog_7_method_10_code
def yX5_leftOut : MethodName := ⟨RX5, "leftOut", "([I)I"⟩
abbrev cX5_step : ByteArray := prog_7_method_11_code
def yX5_step : MethodName := ⟨RX5, "step", "([I)V"⟩
abbrev cX5_fence : ByteArray := prog_7_method_12_code
def yX5_fence : MethodName := ⟨RX5, "fence", "(II)V"⟩
abbrev cX5_fails : ByteArray := prog_7_method_13_code
def yX5_fails : MethodName := ⟨RX5, "fails", "([I)Z"⟩
abbrev cX5_makeAccess : ByteArray := prog_7_method_14_code
def yX5_makeAccess : MethodName := ⟨RX5, "makeAccess", "([I)V"⟩
abbrev cX5_written : ByteArray := prog_7_method_15_code
def yX5_written : MethodName := ⟨RX5, "written", "(ILLitmusRunner$Access;)I"⟩
abbrev cX5_relate : ByteArray := prog_7_method_16_code
def yX5_relate : MethodName := ⟨RX5, "relate", "(LLitmusRunner$Access;)V"⟩
abbrev cX5_isOrdered : ByteArray := prog_7_method_17_code
def yX5_isOrdered : MethodName := ⟨RX5, "isOrdered", "(ILLitmusRunner$Access;)Z"⟩
abbrev cX5_place : ByteArray := prog_7_method_18_code
def yX5_place : MethodName := ⟨RX5, "place", "(II)I"⟩
abbrev cX5_valueOf : ByteArray := prog_7_method_19_code
def yX5_valueOf : MethodName := ⟨RX5, "valueOf", "(I)I"⟩
abbrev cX5_carriedBy : ByteArray := prog_7_method_20_code
def yX5_carriedBy : MethodName := ⟨RX5, "carriedBy", "(I)I"⟩
abbrev cX5_setRegister : ByteArray := prog_7_method_21_code
def yX5_setRegister : MethodName := ⟨RX5, "setRegister", "(III)V"⟩
def RX6 : String := "LitmusRunner"
def TX6 : u_T := fun k => match k with
  | 0 => ("LitmusRunner", "programs", "LLitmusRunner$Programs;", true)
  | 1 => ("LitmusRunner", "choices", "LLitmusRunner$Choices;", true)
  | 2 => ("LitmusRunner", "way", "LLitmusRunner$Way;", true)
  | 3 => ("LitmusRunner", "ordering", "LLitmusRunner$Ordering;", true)
  | 4 => ("LitmusRunner", "outcomes", "LLitmusRunner$Outcomes;", true)
  | 5 => ("LitmusRunner", "model", "I", false)
  | 6 => ("LitmusRunner", "ways", "I", false)
  | _ => ("LitmusRunner", "found", "Z", false)
def tyX6 : Nat → FieldType := fun k => match k with
  | 0 => .object "LitmusRunner$Programs"
  | 1 => .object "LitmusRunner$Choices"
  | 2 => .object "LitmusRunner$Way"
  | 3 => .object "LitmusRunner$Ordering"
  | 4 => .object "LitmusRunner$Outcomes"
  | 5 => .int
  | 6 => .int
  | _ => .boolean
abbrev wsX60 : List Cond := u_ws RX6 TX6 8
theorem nmX6 : ∀ a, a < 8 → ∀ b, b < 8 → a ≠ b → (TX6 a).2.1 ≠ (TX6 b).2.1 := by decide +kernel
theorem tyX6_ok : ∀ k, k < 8 → parseFieldDescriptor (TX6 k).2.2.1 = some (tyX6 k) := by decide +kernel
abbrev cX6_init : ByteArray := prog_1_method_1_code
def yX6_init : MethodName := ⟨RX6, "<init>", "()V"⟩
abbrev cX6_clear : ByteArray := prog_1_method_2_code
def yX6_clear : MethodName := ⟨RX6, "clear", "()I"⟩
abbrev cX6_model : ByteArray := prog_1_method_3_code
def yX6_model : MethodName := ⟨RX6, "model", "(I)I"⟩
abbrev cX6_add : ByteArray := prog_1_method_4_code
def yX6_add : MethodName := ⟨RX6, "add", "(IIIIIII)I"⟩
abbrev cX6_find : ByteArray := prog_1_method_5_code
def yX6_find : MethodName := ⟨RX6, "find", "()I"⟩
abbrev cX6_outcome : ByteArray := prog_1_method_6_code
def yX6_outcome : MethodName := ⟨RX6, "outcome", "(I)J"⟩
abbrev cX6_with : ByteArray := prog_1_method_7_code
def yX6_with : MethodName := ⟨RX6, "with", "(II)I"⟩
abbrev cX6_both : ByteArray := prog_1_method_8_code
def yX6_both : MethodName := ⟨RX6, "both", "(IIII)I"⟩
abbrev cX6_is : ByteArray := prog_1_method_9_code
def yX6_is : MethodName := ⟨RX6, "is", "(J)I"⟩
abbrev cX6_instruction : ByteArray := prog_1_method_10_code
def yX6_instruction : MethodName := ⟨RX6, "instruction", "(III)I"⟩
abbrev cX6_count : ByteArray := prog_1_method_11_code
def yX6_count : MethodName := ⟨RX6, "count", "(I)I"⟩
abbrev cX6_isPart : ByteArray := prog_1_method_12_code
def yX6_isPart : MethodName := ⟨RX6, "isPart", "(I)Z"⟩
abbrev cX6_isValue : ByteArray := prog_1_method_13_code
def yX6_isValue : MethodName := ⟨RX6, "isValue", "(I)Z"⟩
abbrev cX6_isReader : ByteArray := prog_1_method_14_code
def yX6_isReader : MethodName := ⟨RX6, "isReader", "(I)Z"⟩
abbrev cX6_isWriter : ByteArray := prog_1_method_15_code
def yX6_isWriter : MethodName := ⟨RX6, "isWriter", "(I)Z"⟩
abbrev cX6_isAccess : ByteArray := prog_1_method_16_code
def yX6_isAccess : MethodName := ⟨RX6, "isAccess", "(I)Z"⟩
def RX7 : String := "LitmusRunnerModel"
def TX7 : u_T := fun k => match k with
  | 0 => ("LitmusRunnerModel", "model", "I", false)
  | 1 => ("LitmusRunnerModel", "programs", "[I", true)
  | 2 => ("LitmusRunnerModel", "lengths", "[I", true)
  | 3 => ("LitmusRunnerModel", "isFound", "Z", false)
  | 4 => ("LitmusRunnerModel", "outcomes", "[J", true)
  | 5 => ("LitmusRunnerModel", "many", "I", false)
  | 6 => ("LitmusRunnerModel", "ways", "I", false)
  | 7 => ("LitmusRunnerModel", "choice", "[I", true)
  | 8 => ("LitmusRunnerModel", "options", "[I", true)
  | 9 => ("LitmusRunnerModel", "choices", "I", false)
  | 10 => ("LitmusRunnerModel", "told", "I", false)
  | 11 => ("LitmusRunnerModel", "values", "[I", true)
  | 12 => ("LitmusRunnerModel", "carry", "[I", true)
  | 13 => ("LitmusRunnerModel", "accesses", "I", false)
  | 14 => ("LitmusRunnerModel", "hartOf", "[I", true)
  | 15 => ("LitmusRunnerModel", "kindOf", "[I", true)
  | 16 => ("LitmusRunnerModel", "locationOf", "[I", true)
  | 17 => ("LitmusRunnerModel", "read", "[I", true)
  | 18 => ("LitmusRunnerModel", "written", "[I", true)
  | 19 => ("LitmusRunnerModel", "marks", "[I", true)
  | 20 => ("LitmusRunnerModel", "byPlace", "[I", true)
  | 21 => ("LitmusRunnerModel", "byValue", "[I", true)
  | 22 => ("LitmusRunnerModel", "byWay", "[I", true)
  | 23 => ("LitmusRunnerModel", "reserve", "[I", true)
  | 24 => ("LitmusRunnerModel", "fences", "I", false)
  | 25 => ("LitmusRunnerModel", "fenceHart", "[I", true)
  | 26 => ("LitmusRunnerModel", "fenceAt", "[I", true)
  | 27 => ("LitmusRunnerModel", "fenceFirst", "[I", true)
  | 28 => ("LitmusRunnerModel", "fenceSecond", "[I", true)
  | 29 => ("LitmusRunnerModel", "must", "[Z", true)
  | 30 => ("LitmusRunnerModel", "order", "[I", true)
  | 31 => ("LitmusRunnerModel", "place", "[I", true)
  | 32 => ("LitmusRunnerModel", "source", "[I", true)
  | 33 => ("LitmusRunnerModel", "way", "I", false)
  | _ => ("LitmusRunnerModel", "reserved", "I", false)
def tyX7 : Nat → FieldType := fun k => match k with
  | 0 => .int
  | 1 => .array .int
  | 2 => .array .int
  | 3 => .boolean
  | 4 => .array .long
  | 5 => .int
  | 6 => .int
  | 7 => .array .int
  | 8 => .array .int
  | 9 => .int
  | 10 => .int
  | 11 => .array .int
  | 12 => .array .int
  | 13 => .int
  | 14 => .array .int
  | 15 => .array .int
  | 16 => .array .int
  | 17 => .array .int
  | 18 => .array .int
  | 19 => .array .int
  | 20 => .array .int
  | 21 => .array .int
  | 22 => .array .int
  | 23 => .array .int
  | 24 => .int
  | 25 => .array .int
  | 26 => .array .int
  | 27 => .array .int
  | 28 => .array .int
  | 29 => .array .boolean
  | 30 => .array .int
  | 31 => .array .int
  | 32 => .array .int
  | 33 => .int
  | _ => .int
abbrev wsX70 : List Cond := u_ws RX7 TX7 35
theorem nmX7 : ∀ a, a < 35 → ∀ b, b < 35 → a ≠ b → (TX7 a).2.1 ≠ (TX7 b).2.1 := by decide +kernel
theorem tyX7_ok : ∀ k, k < 35 → parseFieldDescriptor (TX7 k).2.2.1 = some (tyX7 k) := by decide +kernel
abbrev cX7_init : ByteArray := prog_9_method_1_code
def yX7_init : MethodName := ⟨RX7, "<init>", "()V"⟩
abbrev cX7_in : ByteArray := prog_9_method_2_code
def yX7_in : MethodName := ⟨RX7, "in", "(III)Z"⟩
abbrev cX7_clear : ByteArray := prog_9_method_3_code
def yX7_clear : MethodName := ⟨RX7, "clear", "()I"⟩
abbrev cX7_model : ByteArray := prog_9_method_4_code
def yX7_model : MethodName := ⟨RX7, "model", "(I)I"⟩
abbrev cX7_isRegister : ByteArray := prog_9_method_5_code
def yX7_isRegister : MethodName := ⟨RX7, "isRegister", "(I)Z"⟩
abbrev cX7_isPlace : ByteArray := prog_9_method_6_code
def yX7_isPlace : MethodName := ⟨RX7, "isPlace", "(II)Z"⟩
abbrev cX7_isGood : ByteArray := prog_9_method_7_code
def yX7_isGood : MethodName := ⟨RX7, "isGood", "(IIIIII)Z"⟩
abbrev cX7_numbersOf : ByteArray := prog_9_method_8_code
def yX7_numbersOf : MethodName := ⟨RX7, "numbersOf", "(I)I"⟩
abbrev cX7_isReading : ByteArray := prog_9_method_9_code
def yX7_isReading : MethodName := ⟨RX7, "isReading", "(I)Z"⟩
abbrev cX7_isWriting : ByteArray := prog_9_method_10_code
def yX7_isWriting : MethodName := ⟨RX7, "isWriting", "(I)Z"⟩
abbrev cX7_instructions : ByteArray := prog_9_method_11_code
def yX7_instructions : MethodName := ⟨RX7, "instructions", "(I)I"⟩
abbrev cX7_add : ByteArray := prog_9_method_12_code
def yX7_add : MethodName := ⟨RX7, "add", "(IIIIIII)I"⟩
abbrev cX7_choose : ByteArray := prog_9_method_13_code
def yX7_choose : MethodName := ⟨RX7, "choose", "(I)I"⟩
abbrev cX7_nextWay : ByteArray := prog_9_method_14_code
def yX7_nextWay : MethodName := ⟨RX7, "nextWay", "()Z"⟩
abbrev cX7_doWay : ByteArray := prog_9_method_15_code
def yX7_doWay : MethodName := ⟨RX7, "doWay", "()V"⟩
abbrev cX7_doHart : ByteArray := prog_9_method_16_code
def yX7_doHart : MethodName := ⟨RX7, "doHart", "(I)V"⟩
abbrev cX7_access : ByteArray := prog_9_method_17_code
def yX7_access : MethodName := ⟨RX7, "access", "(III)V"⟩
abbrev cX7_reads : ByteArray := prog_9_method_18_code
def yX7_reads : MethodName := ⟨RX7, "reads", "(I)Z"⟩
abbrev cX7_writes : ByteArray := prog_9_method_19_code
def yX7_writes : MethodName := ⟨RX7, "writes", "(I)Z"⟩
abbrev cX7_needs : ByteArray := prog_9_method_20_code
def yX7_needs : MethodName := ⟨RX7, "needs", "(II)Z"⟩
abbrev cX7_isFenced : ByteArray := prog_9_method_21_code
def yX7_isFenced : MethodName := ⟨RX7, "isFenced", "(II)Z"⟩
abbrev cX7_mustStand : ByteArray := prog_9_method_22_code
def yX7_mustStand : MethodName := ⟨RX7, "mustStand", "(II)Z"⟩
abbrev cX7_findMust : ByteArray := prog_9_method_23_code
def yX7_findMust : MethodName := ⟨RX7, "findMust", "()V"⟩
abbrev cX7_sourceOf : ByteArray := prog_9_method_24_code
def yX7_sourceOf : MethodName := ⟨RX7, "sourceOf", "(I)I"⟩
abbrev cX7_isWriteBetween : ByteArray := prog_9_method_25_code
def yX7_isWriteBetween : MethodName := ⟨RX7, "isWriteBetween", "(II)Z"⟩
abbrev cX7_isAsked : ByteArray := prog_9_method_26_code
def yX7_isAsked : MethodName := ⟨RX7, "isAsked", "(II)Z"⟩
abbrev cX7_isAtomic : ByteArray := prog_9_method_27_code
def yX7_isAtomic : MethodName := ⟨RX7, "isAtomic", "(I)Z"⟩
abbrev cX7_isOrder : ByteArray := prog_9_method_28_code
def yX7_isOrder : MethodName := ⟨RX7, "isOrder", "()Z"⟩
abbrev cX7_nextOrder : ByteArray := prog_9_method_29_code
def yX7_nextOrder : MethodName := ⟨RX7, "nextOrder", "()Z"⟩
abbrev cX7_reckon : ByteArray := prog_9_method_30_code
def yX7_reckon : MethodName := ⟨RX7, "reckon", "()J"⟩
abbrev cX7_placeOf : ByteArray := prog_9_method_31_code
def yX7_placeOf : MethodName := ⟨RX7, "placeOf", "(J)I"⟩
abbrev cX7_keep : ByteArray := prog_9_method_32_code
def yX7_keep : MethodName := ⟨RX7, "keep", "(J)V"⟩
abbrev cX7_goThrough : ByteArray := prog_9_method_33_code
def yX7_goThrough : MethodName := ⟨RX7, "goThrough", "()Z"⟩
abbrev cX7_find : ByteArray := prog_9_method_34_code
def yX7_find : MethodName := ⟨RX7, "find", "()I"⟩
abbrev cX7_outcome : ByteArray := prog_9_method_35_code
def yX7_outcome : MethodName := ⟨RX7, "outcome", "(I)J"⟩
abbrev cX7_isAsking : ByteArray := prog_9_method_36_code
def yX7_isAsking : MethodName := ⟨RX7, "isAsking", "(II)Z"⟩
abbrev cX7_has : ByteArray := prog_9_method_37_code
def yX7_has : MethodName := ⟨RX7, "has", "(JII)Z"⟩
abbrev cX7_with : ByteArray := prog_9_method_38_code
def yX7_with : MethodName := ⟨RX7, "with", "(II)I"⟩
abbrev cX7_both : ByteArray := prog_9_method_39_code
def yX7_both : MethodName := ⟨RX7, "both", "(IIII)I"⟩
abbrev cX7_is : ByteArray := prog_9_method_40_code
def yX7_is : MethodName := ⟨RX7, "is", "(J)I"⟩
abbrev cX7_instruction : ByteArray := prog_9_method_41_code
def yX7_instruction : MethodName := ⟨RX7, "instruction", "(III)I"⟩
abbrev cX7_count : ByteArray := prog_9_method_42_code
def yX7_count : MethodName := ⟨RX7, "count", "(I)I"⟩
def RJx8e188 : String := "java/lang/Cloneable"
def TJx8e188 : u_T := fun k => match k with
  | _ => ("", "", "", false)
def tyJx8e188 : Nat → FieldType := fun k => match k with
  | _ => .int
abbrev wsJx8e1880 : List Cond := u_ws RJx8e188 TJx8e188 0
theorem nmJx8e188 : ∀ a, a < 0 → ∀ b, b < 0 → a ≠ b → (TJx8e188 a).2.1 ≠ (TJx8e188 b).2.1 := by decide +kernel
theorem tyJx8e188_ok : ∀ k, k < 0 → parseFieldDescriptor (TJx8e188 k).2.2.1 = some (tyJx8e188 k) := by decide +kernel
def RJ9 : String := "java/lang/Math"
def TJ9 : u_T := fun k => match k with
  | _ => ("", "", "", false)
def tyJ9 : Nat → FieldType := fun k => match k with
  | _ => .int
abbrev wsJ90 : List Cond := u_ws RJ9 TJ9 0
theorem nmJ9 : ∀ a, a < 0 → ∀ b, b < 0 → a ≠ b → (TJ9 a).2.1 ≠ (TJ9 b).2.1 := by decide +kernel
theorem tyJ9_ok : ∀ k, k < 0 → parseFieldDescriptor (TJ9 k).2.2.1 = some (tyJ9 k) := by decide +kernel
abbrev cJ9_min_7cf53 : ByteArray := prog_11_method_69_code
def yJ9_min_7cf53 : MethodName := ⟨RJ9, "min", "(II)I"⟩
def RJ0 : String := "java/lang/String"
def TJ0 : u_T := fun k => match k with
  | _ => ("", "", "", false)
def tyJ0 : Nat → FieldType := fun k => match k with
  | _ => .int
abbrev wsJ00 : List Cond := u_ws RJ0 TJ0 0
theorem nmJ0 : ∀ a, a < 0 → ∀ b, b < 0 → a ≠ b → (TJ0 a).2.1 ≠ (TJ0 b).2.1 := by decide +kernel
theorem tyJ0_ok : ∀ k, k < 0 → parseFieldDescriptor (TJ0 k).2.2.1 = some (tyJ0 k) := by decide +kernel
abbrev cJ0_length_8abf5 : ByteArray := prog_12_method_54_code
def yJ0_length_8abf5 : MethodName := ⟨RJ0, "length", "()I"⟩
abbrev cJ0_charAt_5068e : ByteArray := prog_12_method_56_code
def yJ0_charAt_5068e : MethodName := ⟨RJ0, "charAt", "(I)C"⟩
abbrev cJ0_coder_7d493 : ByteArray := prog_12_method_152_code
def yJ0_coder_7d493 : MethodName := ⟨RJ0, "coder", "()B"⟩
abbrev cJ0_isLatin1_aae02 : ByteArray := prog_12_method_154_code
def yJ0_isLatin1_aae02 : MethodName := ⟨RJ0, "isLatin1", "()Z"⟩
abbrev cJ0_checkIndex_df160 : ByteArray := prog_12_method_155_code
def yJ0_checkIndex_df160 : MethodName := ⟨RJ0, "checkIndex", "(II)V"⟩
def RJ1 : String := "java/lang/StringLatin1"
def TJ1 : u_T := fun k => match k with
  | _ => ("", "", "", false)
def tyJ1 : Nat → FieldType := fun k => match k with
  | _ => .int
abbrev wsJ10 : List Cond := u_ws RJ1 TJ1 0
theorem nmJ1 : ∀ a, a < 0 → ∀ b, b < 0 → a ≠ b → (TJ1 a).2.1 ≠ (TJ1 b).2.1 := by decide +kernel
theorem tyJ1_ok : ∀ k, k < 0 → parseFieldDescriptor (TJ1 k).2.2.1 = some (tyJ1 k) := by decide +kernel
abbrev cJ1_charAt_3b067 : ByteArray := prog_13_method_2_code
def yJ1_charAt_3b067 : MethodName := ⟨RJ1, "charAt", "([BI)C"⟩
def RJ2 : String := "java/lang/StringUTF16"
def TJ2 : u_T := fun k => match k with
  | _ => ("", "", "", false)
def tyJ2 : Nat → FieldType := fun k => match k with
  | _ => .int
abbrev wsJ20 : List Cond := u_ws RJ2 TJ2 0
theorem nmJ2 : ∀ a, a < 0 → ∀ b, b < 0 → a ≠ b → (TJ2 a).2.1 ≠ (TJ2 b).2.1 := by decide +kernel
theorem tyJ2_ok : ∀ k, k < 0 → parseFieldDescriptor (TJ2 k).2.2.1 = some (tyJ2 k) := by decide +kernel
abbrev cJ2_getChar_3b067 : ByteArray := prog_14_method_5_code
def yJ2_getChar_3b067 : MethodName := ⟨RJ2, "getChar", "([BI)C"⟩
abbrev cJ2_length_9d52b : ByteArray := prog_14_method_6_code
def yJ2_length_9d52b : MethodName := ⟨RJ2, "length", "([B)I"⟩
abbrev cJ2_charAt_3b067 : ByteArray := prog_14_method_83_code
def yJ2_charAt_3b067 : MethodName := ⟨RJ2, "charAt", "([BI)C"⟩
abbrev cJ2_checkIndex_2214a : ByteArray := prog_14_method_91_code
def yJ2_checkIndex_2214a : MethodName := ⟨RJ2, "checkIndex", "(I[B)V"⟩
def RJ10 : String := "java/lang/System"
def TJ10 : u_T := fun k => match k with
  | _ => ("", "", "", false)
def tyJ10 : Nat → FieldType := fun k => match k with
  | _ => .int
abbrev wsJ100 : List Cond := u_ws RJ10 TJ10 0
theorem nmJ10 : ∀ a, a < 0 → ∀ b, b < 0 → a ≠ b → (TJ10 a).2.1 ≠ (TJ10 b).2.1 := by decide +kernel
theorem tyJ10_ok : ∀ k, k < 0 → parseFieldDescriptor (TJ10 k).2.2.1 = some (tyJ10 k) := by decide +kernel
def RJ7 : String := "java/util/Arrays"
def TJ7 : u_T := fun k => match k with
  | _ => ("", "", "", false)
def tyJ7 : Nat → FieldType := fun k => match k with
  | _ => .int
abbrev wsJ70 : List Cond := u_ws RJ7 TJ7 0
theorem nmJ7 : ∀ a, a < 0 → ∀ b, b < 0 → a ≠ b → (TJ7 a).2.1 ≠ (TJ7 b).2.1 := by decide +kernel
theorem tyJ7_ok : ∀ k, k < 0 → parseFieldDescriptor (TJ7 k).2.2.1 = some (tyJ7 k) := by decide +kernel
abbrev cJ7_fill_53178 : ByteArray := prog_16_method_103_code
def yJ7_fill_53178 : MethodName := ⟨RJ7, "fill", "([II)V"⟩
abbrev cJ7_copyOf_c38d5 : ByteArray := prog_16_method_124_code
def yJ7_copyOf_c38d5 : MethodName := ⟨RJ7, "copyOf", "([JI)[J"⟩
def RJ3 : String := "jdk/internal/util/Preconditions"
def TJ3 : u_T := fun k => match k with
  | _ => ("", "", "", false)
def tyJ3 : Nat → FieldType := fun k => match k with
  | _ => .int
abbrev wsJ30 : List Cond := u_ws RJ3 TJ3 0
theorem nmJ3 : ∀ a, a < 0 → ∀ b, b < 0 → a ≠ b → (TJ3 a).2.1 ≠ (TJ3 b).2.1 := by decide +kernel
theorem tyJ3_ok : ∀ k, k < 0 → parseFieldDescriptor (TJ3 k).2.2.1 = some (tyJ3 k) := by decide +kernel
abbrev cJ3_checkIndex_8e157 : ByteArray := prog_17_method_11_code
def yJ3_checkIndex_8e157 : MethodName := ⟨RJ3, "checkIndex", "(IILjava/util/function/BiFunction;)I"⟩
def RL : String := "LitmusRunnerLaw"
abbrev cL_law : ByteArray := code
def yL_law : MethodName := ⟨RL, "law", "([I)Z"⟩
def wsX0_init : List Cond := .code yX0_init cX0_init 1 none :: ([.methodLink RX0 1 objectInit, .instanceMethod objectInit, .code objectInit ⟨#[0xb1]⟩ 1 none])
def wsX1_init : List Cond := .code yX1_init cX1_init 1 none :: ([.methodLink RX1 3 objectInit, .instanceMethod objectInit, .code objectInit ⟨#[0xb1]⟩ 1 none, .arrayClass .int, .fieldLink RX1 9 "LitmusRunner$Choices" "chosen" "[I", .fieldLink RX1 15 "LitmusRunner$Choices" "limits" "[I", .fieldLink RX1 18 "LitmusRunner$Choices" "made" "I", .fieldLink RX1 22 "LitmusRunner$Choices" "kept" "I"] ++ wsX10)
def wsX1_restart : List Cond := .code yX1_restart cX1_restart 1 none :: ([.fieldLink RX1 18 "LitmusRunner$Choices" "made" "I", .fieldLink RX1 22 "LitmusRunner$Choices" "kept" "I"] ++ wsX10)
def wsX1_choose : List Cond := .code yX1_choose cX1_choose 2 (some .int) :: ([.fieldLink RX1 18 "LitmusRunner$Choices" "made" "I", .fieldLink RX1 22 "LitmusRunner$Choices" "kept" "I", .fieldLink RX1 9 "LitmusRunner$Choices" "chosen" "[I", .fieldLink RX1 15 "LitmusRunner$Choices" "limits" "[I"] ++ wsX10)
def wsX1_advance : List Cond := .code yX1_advance cX1_advance 2 (some .boolean) :: ([.fieldLink RX1 18 "LitmusRunner$Choices" "made" "I", .fieldLink RX1 9 "LitmusRunner$Choices" "chosen" "[I", .fieldLink RX1 15 "LitmusRunner$Choices" "limits" "[I", .fieldLink RX1 22 "LitmusRunner$Choices" "kept" "I"] ++ wsX10)
def wsX2_init : List Cond := .code yX2_init cX2_init 3 none :: ([.methodLink RX2 3 objectInit, .instanceMethod objectInit, .code objectInit ⟨#[0xb1]⟩ 1 none, .fieldLink RX2 9 "LitmusRunner$Ordering" "way" "LLitmusRunner$Way;", .fieldLink RX2 15 "LitmusRunner$Ordering" "outcomes" "LLitmusRunner$Outcomes;", .arrayClass .int, .fieldLink RX2 19 "LitmusRunner$Ordering" "spots" "[I", .fieldLink RX2 23 "LitmusRunner$Ordering" "sources" "[I", .fieldLink RX2 26 "LitmusRunner$Ordering" "latest" "[I", .fieldLink RX2 29 "LitmusRunner$Ordering" "registersPart" "J", .fieldLink RX2 33 "LitmusRunner$Ordering" "any" "Z"] ++ wsX20)
def wsX5_registersPart : List Cond := .code yX5_registersPart cX5_registersPart 4 (some .long) :: ([.constantLong RX5 37 (4), .fieldLink RX5 26 "LitmusRunner$Way" "values" "[I"] ++ wsX50)
def wsJ7_fill_53178 : List Cond := .code yJ7_fill_53178 cJ7_fill_53178 4 none :: ([])
def wsX5_size : List Cond := .code yX5_size cX5_size 1 (some .int) :: ([.fieldLink RX5 33 "LitmusRunner$Way" "size" "I"] ++ wsX50)
def wsX5_locationsPart : List Cond := .code yX5_locationsPart cX5_locationsPart 5 (some .long) :: ([.constantLong RX5 37 (4), .fieldLink RX5 21 "LitmusRunner$Way" "accesses" "[LLitmusRunner$Access;"] ++ wsX50 ++ wsX00)
def wsX3_spotOf : List Cond := .code yX3_spotOf cX3_spotOf 7 (some .int) :: ([.fieldLink RX3 15 "LitmusRunner$Outcomes" "size" "I", .fieldLink RX3 9 "LitmusRunner$Outcomes" "rows" "[J"] ++ wsX30)
def wsJ7_copyOf_c38d5 : List Cond := .code yJ7_copyOf_c38d5 cJ7_copyOf_c38d5 3 (some (.array .long)) :: ([.methodLink RJ7 319 ⟨"[J", "clone", "()Ljava/lang/Object;"⟩, .sameMethod "[J" "java/lang/Object" "clone" "()Ljava/lang/Object;", .native ⟨"java/lang/Object", "clone", "()Ljava/lang/Object;"⟩, .instanceMethod ⟨"java/lang/Object", "clone", "()Ljava/lang/Object;"⟩, .selects "[J" ⟨"[J", "clone", "()Ljava/lang/Object;"⟩ ⟨"java/lang/Object", "clone", "()Ljava/lang/Object;"⟩, .classLink RJ7 320 "[J", .arrayClass .long, .methodLink RJ7 304 Lib.Math.min.name, .static Lib.Math.min.name, .initialized "java/lang/Math", .code Lib.Math.min.name Lib.Math.min.code 2 (some .int), .methodLink RJ7 150 arraycopyName, .native arraycopyName, .static arraycopyName, .initialized "java/lang/System"])
def wsX3_keep_r1 : List Cond := [Cond.fieldLink RX3 15 "LitmusRunner$Outcomes" "size" "I", Cond.fieldLink RX3 9 "LitmusRunner$Outcomes" "rows" "[J", Cond.methodLink RX3 31 arraycopyName, Cond.native arraycopyName, Cond.static arraycopyName, Cond.initialized "java/lang/System", Cond.methodLink RX3 21 yX3_spotOf, Cond.instanceMethod yX3_spotOf, Cond.selects RX3 yX3_spotOf yX3_spotOf, Cond.initialized RX3, Cond.code yX3_spotOf cX3_spotOf 7 (some .int), Cond.methodLink RX3 25 yJ7_copyOf_c38d5, Cond.static yJ7_copyOf_c38d5, Cond.initialized RJ7, Cond.code yJ7_copyOf_c38d5 cJ7_copyOf_c38d5 3 (some (.array .long)), Cond.methodLink RJ7 319 ⟨"[J", "clone", "()Ljava/lang/Object;"⟩, Cond.sameMethod "[J" "java/lang/Object" "clone" "()Ljava/lang/Object;", Cond.native ⟨"java/lang/Object", "clone", "()Ljava/lang/Object;"⟩, Cond.instanceMethod ⟨"java/lang/Object", "clone", "()Ljava/lang/Object;"⟩, Cond.selects "[J" ⟨"[J", "clone", "()Ljava/lang/Object;"⟩ ⟨"java/lang/Object", "clone", "()Ljava/lang/Object;"⟩, Cond.classLink RJ7 320 "[J", Cond.arrayClass .long, Cond.methodLink RJ7 304 Lib.Math.min.name, Cond.static Lib.Math.min.name]
def wsX3_keep_r2 : List Cond := [Cond.initialized "java/lang/Math", Cond.code Lib.Math.min.name Lib.Math.min.code 2 (some .int), Cond.methodLink RJ7 150 arraycopyName]
def wsX3_keep : List Cond := .code yX3_keep cX3_keep 4 none :: ((wsX3_keep_r1 ++ wsX3_keep_r2) ++ wsX30)
def wsX5_accessAt : List Cond := .code yX5_accessAt cX5_accessAt 2 (some (.object "LitmusRunner$Access")) :: ([.fieldLink RX5 21 "LitmusRunner$Way" "accesses" "[LLitmusRunner$Access;"] ++ wsX50)
def wsX2_isIn : List Cond := .code yX2_isIn cX2_isIn 2 (some .boolean) :: ([])
def wsX2_sourceOf : List Cond := .code yX2_sourceOf cX2_sourceOf 4 (some .int) :: ([.fieldLink RX2 26 "LitmusRunner$Ordering" "latest" "[I", .methodLink RX2 70 yX2_isIn, .static yX2_isIn, .initialized RX2, .code yX2_isIn cX2_isIn 2 (some .boolean)] ++ wsX00 ++ wsX20)
def wsX2_mayForward : List Cond := .code yX2_mayForward cX2_mayForward 4 (some .boolean) :: ([.fieldLink RX2 9 "LitmusRunner$Ordering" "way" "LLitmusRunner$Way;", .methodLink RX2 70 yX2_isIn, .static yX2_isIn, .initialized RX2, .code yX2_isIn cX2_isIn 2 (some .boolean), .methodLink RX2 66 yX5_accessAt, .instanceMethod yX5_accessAt, .selects RX5 yX5_accessAt yX5_accessAt, .initialized RX5, .code yX5_accessAt cX5_accessAt 2 (some (.object "LitmusRunner$Access")), .fieldLink RX5 21 "LitmusRunner$Way" "accesses" "[LLitmusRunner$Access;"] ++ wsX20 ++ wsX00 ++ wsX50)
def wsX2_agreesWithTwins : List Cond := .code yX2_agreesWithTwins cX2_agreesWithTwins 4 (some .boolean) :: ([.fieldLink RX2 9 "LitmusRunner$Ordering" "way" "LLitmusRunner$Way;", .fieldLink RX2 23 "LitmusRunner$Ordering" "sources" "[I", .methodLink RX2 52 yX5_size, .instanceMethod yX5_size, .selects RX5 yX5_size yX5_size, .initialized RX5, .code yX5_size cX5_size 1 (some .int), .fieldLink RX5 33 "LitmusRunner$Way" "size" "I", .methodLink RX2 70 yX2_isIn, .static yX2_isIn, .initialized RX2, .code yX2_isIn cX2_isIn 2 (some .boolean), .methodLink RX2 66 yX5_accessAt, .instanceMethod yX5_accessAt, .selects RX5 yX5_accessAt yX5_accessAt, .code yX5_accessAt cX5_accessAt 2 (some (.object "LitmusRunner$Access")), .fieldLink RX5 21 "LitmusRunner$Way" "accesses" "[LLitmusRunner$Access;"] ++ wsX20 ++ wsX00 ++ wsX50)
def wsX2_mayReadHere_r1 : List Cond := [Cond.fieldLink RX2 9 "LitmusRunner$Ordering" "way" "LLitmusRunner$Way;", Cond.fieldLink RX2 23 "LitmusRunner$Ordering" "sources" "[I", Cond.methodLink RX2 66 yX5_accessAt, Cond.instanceMethod yX5_accessAt, Cond.selects RX5 yX5_accessAt yX5_accessAt, Cond.initialized RX5, Cond.code yX5_accessAt cX5_accessAt 2 (some (.object "LitmusRunner$Access")), Cond.fieldLink RX5 21 "LitmusRunner$Way" "accesses" "[LLitmusRunner$Access;", Cond.methodLink RX2 113 yX2_mayForward, Cond.instanceMethod yX2_mayForward, Cond.selects RX2 yX2_mayForward yX2_mayForward, Cond.initialized RX2, Cond.code yX2_mayForward cX2_mayForward 4 (some .boolean), Cond.methodLink RX2 70 yX2_isIn, Cond.static yX2_isIn, Cond.code yX2_isIn cX2_isIn 2 (some .boolean), Cond.methodLink RX2 116 yX2_agreesWithTwins, Cond.instanceMethod yX2_agreesWithTwins, Cond.selects RX2 yX2_agreesWithTwins yX2_agreesWithTwins, Cond.code yX2_agreesWithTwins cX2_agreesWithTwins 4 (some .boolean), Cond.methodLink RX2 52 yX5_size, Cond.instanceMethod yX5_size, Cond.selects RX5 yX5_size yX5_size, Cond.code yX5_size cX5_size 1 (some .int)]
def wsX2_mayReadHere_r2 : List Cond := [Cond.fieldLink RX5 33 "LitmusRunner$Way" "size" "I"]
def wsX2_mayReadHere : List Cond := .code yX2_mayReadHere cX2_mayReadHere 5 (some .boolean) :: ((wsX2_mayReadHere_r1 ++ wsX2_mayReadHere_r2) ++ wsX20 ++ wsX00 ++ wsX50)
def wsX2_isAtomic : List Cond := .code yX2_isAtomic cX2_isAtomic 8 (some .boolean) :: ([.fieldLink RX2 23 "LitmusRunner$Ordering" "sources" "[I", .fieldLink RX2 19 "LitmusRunner$Ordering" "spots" "[I", .fieldLink RX2 9 "LitmusRunner$Ordering" "way" "LLitmusRunner$Way;", .methodLink RX2 52 yX5_size, .instanceMethod yX5_size, .selects RX5 yX5_size yX5_size, .initialized RX5, .code yX5_size cX5_size 1 (some .int), .fieldLink RX5 33 "LitmusRunner$Way" "size" "I", .methodLink RX2 66 yX5_accessAt, .instanceMethod yX5_accessAt, .selects RX5 yX5_accessAt yX5_accessAt, .code yX5_accessAt cX5_accessAt 2 (some (.object "LitmusRunner$Access")), .fieldLink RX5 21 "LitmusRunner$Way" "accesses" "[LLitmusRunner$Access;", .methodLink RX2 70 yX2_isIn, .static yX2_isIn, .initialized RX2, .code yX2_isIn cX2_isIn 2 (some .boolean)] ++ wsX00 ++ wsX20 ++ wsX50)
def wsX2_extend_r1 : List Cond := [Cond.fieldLink RX2 9 "LitmusRunner$Ordering" "way" "LLitmusRunner$Way;", Cond.fieldLink RX2 33 "LitmusRunner$Ordering" "any" "Z", Cond.fieldLink RX2 15 "LitmusRunner$Ordering" "outcomes" "LLitmusRunner$Outcomes;", Cond.fieldLink RX2 29 "LitmusRunner$Ordering" "registersPart" "J", Cond.fieldLink RX2 26 "LitmusRunner$Ordering" "latest" "[I", Cond.fieldLink RX2 23 "LitmusRunner$Ordering" "sources" "[I", Cond.methodLink RX2 52 yX5_size, Cond.instanceMethod yX5_size, Cond.selects RX5 yX5_size yX5_size, Cond.initialized RX5, Cond.code yX5_size cX5_size 1 (some .int), Cond.fieldLink RX5 33 "LitmusRunner$Way" "size" "I", Cond.methodLink RX2 56 yX5_locationsPart, Cond.instanceMethod yX5_locationsPart, Cond.selects RX5 yX5_locationsPart yX5_locationsPart, Cond.code yX5_locationsPart cX5_locationsPart 5 (some .long), Cond.constantLong RX5 37 (4), Cond.fieldLink RX5 21 "LitmusRunner$Way" "accesses" "[LLitmusRunner$Access;", Cond.methodLink RX2 60 yX3_keep, Cond.instanceMethod yX3_keep, Cond.selects RX3 yX3_keep yX3_keep, Cond.initialized RX3, Cond.code yX3_keep cX3_keep 4 none, Cond.fieldLink RX3 15 "LitmusRunner$Outcomes" "size" "I"]
def wsX2_extend_r2 : List Cond := [Cond.fieldLink RX3 9 "LitmusRunner$Outcomes" "rows" "[J", Cond.methodLink RX3 31 arraycopyName, Cond.native arraycopyName, Cond.static arraycopyName, Cond.initialized "java/lang/System", Cond.methodLink RX3 21 yX3_spotOf, Cond.instanceMethod yX3_spotOf, Cond.selects RX3 yX3_spotOf yX3_spotOf, Cond.code yX3_spotOf cX3_spotOf 7 (some .int), Cond.methodLink RX3 25 yJ7_copyOf_c38d5, Cond.static yJ7_copyOf_c38d5, Cond.initialized RJ7, Cond.code yJ7_copyOf_c38d5 cJ7_copyOf_c38d5 3 (some (.array .long)), Cond.methodLink RJ7 319 ⟨"[J", "clone", "()Ljava/lang/Object;"⟩, Cond.sameMethod "[J" "java/lang/Object" "clone" "()Ljava/lang/Object;", Cond.native ⟨"java/lang/Object", "clone", "()Ljava/lang/Object;"⟩, Cond.instanceMethod ⟨"java/lang/Object", "clone", "()Ljava/lang/Object;"⟩, Cond.selects "[J" ⟨"[J", "clone", "()Ljava/lang/Object;"⟩ ⟨"java/lang/Object", "clone", "()Ljava/lang/Object;"⟩, Cond.classLink RJ7 320 "[J", Cond.arrayClass .long, Cond.methodLink RJ7 304 Lib.Math.min.name, Cond.static Lib.Math.min.name, Cond.initialized "java/lang/Math", Cond.code Lib.Math.min.name Lib.Math.min.code 2 (some .int)]
def wsX2_extend_r3 : List Cond := [Cond.methodLink RJ7 150 arraycopyName, Cond.methodLink RX2 66 yX5_accessAt, Cond.instanceMethod yX5_accessAt, Cond.selects RX5 yX5_accessAt yX5_accessAt, Cond.code yX5_accessAt cX5_accessAt 2 (some (.object "LitmusRunner$Access")), Cond.methodLink RX2 70 yX2_isIn, Cond.static yX2_isIn, Cond.initialized RX2, Cond.code yX2_isIn cX2_isIn 2 (some .boolean), Cond.methodLink RX2 83 yX2_sourceOf, Cond.instanceMethod yX2_sourceOf, Cond.selects RX2 yX2_sourceOf yX2_sourceOf, Cond.code yX2_sourceOf cX2_sourceOf 4 (some .int), Cond.methodLink RX2 87 yX2_mayReadHere, Cond.instanceMethod yX2_mayReadHere, Cond.selects RX2 yX2_mayReadHere yX2_mayReadHere, Cond.code yX2_mayReadHere cX2_mayReadHere 5 (some .boolean), Cond.methodLink RX2 113 yX2_mayForward, Cond.instanceMethod yX2_mayForward, Cond.selects RX2 yX2_mayForward yX2_mayForward, Cond.code yX2_mayForward cX2_mayForward 4 (some .boolean), Cond.methodLink RX2 116 yX2_agreesWithTwins, Cond.instanceMethod yX2_agreesWithTwins, Cond.selects RX2 yX2_agreesWithTwins yX2_agreesWithTwins]
def wsX2_extend_r4 : List Cond := [Cond.code yX2_agreesWithTwins cX2_agreesWithTwins 4 (some .boolean), Cond.methodLink RX2 90 yX2_isAtomic, Cond.instanceMethod yX2_isAtomic, Cond.selects RX2 yX2_isAtomic yX2_isAtomic, Cond.code yX2_isAtomic cX2_isAtomic 8 (some .boolean), Cond.fieldLink RX2 19 "LitmusRunner$Ordering" "spots" "[I", Cond.methodLink RX2 94 yX2_place, Cond.instanceMethod yX2_place, Cond.selects RX2 yX2_place yX2_place, Cond.code yX2_place cX2_place 6 none, Cond.methodLink RX2 48 yX2_extend, Cond.instanceMethod yX2_extend, Cond.selects RX2 yX2_extend yX2_extend]
def wsX2_extend : List Cond := .code yX2_extend cX2_extend 5 none :: ((wsX2_extend_r1 ++ (wsX2_extend_r2 ++ (wsX2_extend_r3 ++ wsX2_extend_r4))) ++ wsX20 ++ wsX00 ++ wsX50 ++ wsX30)
def wsX2_place_r1 : List Cond := [Cond.fieldLink RX2 9 "LitmusRunner$Ordering" "way" "LLitmusRunner$Way;", Cond.fieldLink RX2 26 "LitmusRunner$Ordering" "latest" "[I", Cond.fieldLink RX2 19 "LitmusRunner$Ordering" "spots" "[I", Cond.methodLink RX2 66 yX5_accessAt, Cond.instanceMethod yX5_accessAt, Cond.selects RX5 yX5_accessAt yX5_accessAt, Cond.initialized RX5, Cond.code yX5_accessAt cX5_accessAt 2 (some (.object "LitmusRunner$Access")), Cond.fieldLink RX5 21 "LitmusRunner$Way" "accesses" "[LLitmusRunner$Access;", Cond.methodLink RX2 48 yX2_extend, Cond.instanceMethod yX2_extend, Cond.selects RX2 yX2_extend yX2_extend, Cond.initialized RX2, Cond.code yX2_extend cX2_extend 5 none, Cond.fieldLink RX2 33 "LitmusRunner$Ordering" "any" "Z", Cond.fieldLink RX2 15 "LitmusRunner$Ordering" "outcomes" "LLitmusRunner$Outcomes;", Cond.fieldLink RX2 29 "LitmusRunner$Ordering" "registersPart" "J", Cond.fieldLink RX2 23 "LitmusRunner$Ordering" "sources" "[I", Cond.methodLink RX2 52 yX5_size, Cond.instanceMethod yX5_size, Cond.selects RX5 yX5_size yX5_size, Cond.code yX5_size cX5_size 1 (some .int), Cond.fieldLink RX5 33 "LitmusRunner$Way" "size" "I", Cond.methodLink RX2 56 yX5_locationsPart]
def wsX2_place_r2 : List Cond := [Cond.instanceMethod yX5_locationsPart, Cond.selects RX5 yX5_locationsPart yX5_locationsPart, Cond.code yX5_locationsPart cX5_locationsPart 5 (some .long), Cond.constantLong RX5 37 (4), Cond.methodLink RX2 60 yX3_keep, Cond.instanceMethod yX3_keep, Cond.selects RX3 yX3_keep yX3_keep, Cond.initialized RX3, Cond.code yX3_keep cX3_keep 4 none, Cond.fieldLink RX3 15 "LitmusRunner$Outcomes" "size" "I", Cond.fieldLink RX3 9 "LitmusRunner$Outcomes" "rows" "[J", Cond.methodLink RX3 31 arraycopyName, Cond.native arraycopyName, Cond.static arraycopyName, Cond.initialized "java/lang/System", Cond.methodLink RX3 21 yX3_spotOf, Cond.instanceMethod yX3_spotOf, Cond.selects RX3 yX3_spotOf yX3_spotOf, Cond.code yX3_spotOf cX3_spotOf 7 (some .int), Cond.methodLink RX3 25 yJ7_copyOf_c38d5, Cond.static yJ7_copyOf_c38d5, Cond.initialized RJ7, Cond.code yJ7_copyOf_c38d5 cJ7_copyOf_c38d5 3 (some (.array .long)), Cond.methodLink RJ7 319 ⟨"[J", "clone", "()Ljava/lang/Object;"⟩]
def wsX2_place_r3 : List Cond := [Cond.sameMethod "[J" "java/lang/Object" "clone" "()Ljava/lang/Object;", Cond.native ⟨"java/lang/Object", "clone", "()Ljava/lang/Object;"⟩, Cond.instanceMethod ⟨"java/lang/Object", "clone", "()Ljava/lang/Object;"⟩, Cond.selects "[J" ⟨"[J", "clone", "()Ljava/lang/Object;"⟩ ⟨"java/lang/Object", "clone", "()Ljava/lang/Object;"⟩, Cond.classLink RJ7 320 "[J", Cond.arrayClass .long, Cond.methodLink RJ7 304 Lib.Math.min.name, Cond.static Lib.Math.min.name, Cond.initialized "java/lang/Math", Cond.code Lib.Math.min.name Lib.Math.min.code 2 (some .int), Cond.methodLink RJ7 150 arraycopyName, Cond.methodLink RX2 70 yX2_isIn, Cond.static yX2_isIn, Cond.code yX2_isIn cX2_isIn 2 (some .boolean), Cond.methodLink RX2 83 yX2_sourceOf, Cond.instanceMethod yX2_sourceOf, Cond.selects RX2 yX2_sourceOf yX2_sourceOf, Cond.code yX2_sourceOf cX2_sourceOf 4 (some .int), Cond.methodLink RX2 87 yX2_mayReadHere, Cond.instanceMethod yX2_mayReadHere, Cond.selects RX2 yX2_mayReadHere yX2_mayReadHere, Cond.code yX2_mayReadHere cX2_mayReadHere 5 (some .boolean), Cond.methodLink RX2 113 yX2_mayForward, Cond.instanceMethod yX2_mayForward]
def wsX2_place_r4 : List Cond := [Cond.selects RX2 yX2_mayForward yX2_mayForward, Cond.code yX2_mayForward cX2_mayForward 4 (some .boolean), Cond.methodLink RX2 116 yX2_agreesWithTwins, Cond.instanceMethod yX2_agreesWithTwins, Cond.selects RX2 yX2_agreesWithTwins yX2_agreesWithTwins, Cond.code yX2_agreesWithTwins cX2_agreesWithTwins 4 (some .boolean), Cond.methodLink RX2 90 yX2_isAtomic, Cond.instanceMethod yX2_isAtomic, Cond.selects RX2 yX2_isAtomic yX2_isAtomic, Cond.code yX2_isAtomic cX2_isAtomic 8 (some .boolean), Cond.methodLink RX2 94 yX2_place, Cond.instanceMethod yX2_place, Cond.selects RX2 yX2_place yX2_place]
def wsX2_place : List Cond := .code yX2_place cX2_place 6 none :: ((wsX2_place_r1 ++ (wsX2_place_r2 ++ (wsX2_place_r3 ++ wsX2_place_r4))) ++ wsX20 ++ wsX00 ++ wsX50 ++ wsX30)
def wsX2_search_r1 : List Cond := [Cond.fieldLink RX2 33 "LitmusRunner$Ordering" "any" "Z", Cond.fieldLink RX2 9 "LitmusRunner$Ordering" "way" "LLitmusRunner$Way;", Cond.fieldLink RX2 29 "LitmusRunner$Ordering" "registersPart" "J", Cond.fieldLink RX2 26 "LitmusRunner$Ordering" "latest" "[I", Cond.methodLink RX2 37 yX5_registersPart, Cond.instanceMethod yX5_registersPart, Cond.selects RX5 yX5_registersPart yX5_registersPart, Cond.initialized RX5, Cond.code yX5_registersPart cX5_registersPart 4 (some .long), Cond.constantLong RX5 37 (4), Cond.fieldLink RX5 26 "LitmusRunner$Way" "values" "[I", Cond.methodLink RX2 42 yJ7_fill_53178, Cond.static yJ7_fill_53178, Cond.initialized RJ7, Cond.code yJ7_fill_53178 cJ7_fill_53178 4 none, Cond.methodLink RX2 48 yX2_extend, Cond.instanceMethod yX2_extend, Cond.selects RX2 yX2_extend yX2_extend, Cond.initialized RX2, Cond.code yX2_extend cX2_extend 5 none, Cond.fieldLink RX2 15 "LitmusRunner$Ordering" "outcomes" "LLitmusRunner$Outcomes;", Cond.fieldLink RX2 23 "LitmusRunner$Ordering" "sources" "[I", Cond.methodLink RX2 52 yX5_size, Cond.instanceMethod yX5_size]
def wsX2_search_r2 : List Cond := [Cond.selects RX5 yX5_size yX5_size, Cond.code yX5_size cX5_size 1 (some .int), Cond.fieldLink RX5 33 "LitmusRunner$Way" "size" "I", Cond.methodLink RX2 56 yX5_locationsPart, Cond.instanceMethod yX5_locationsPart, Cond.selects RX5 yX5_locationsPart yX5_locationsPart, Cond.code yX5_locationsPart cX5_locationsPart 5 (some .long), Cond.fieldLink RX5 21 "LitmusRunner$Way" "accesses" "[LLitmusRunner$Access;", Cond.methodLink RX2 60 yX3_keep, Cond.instanceMethod yX3_keep, Cond.selects RX3 yX3_keep yX3_keep, Cond.initialized RX3, Cond.code yX3_keep cX3_keep 4 none, Cond.fieldLink RX3 15 "LitmusRunner$Outcomes" "size" "I", Cond.fieldLink RX3 9 "LitmusRunner$Outcomes" "rows" "[J", Cond.methodLink RX3 31 arraycopyName, Cond.native arraycopyName, Cond.static arraycopyName, Cond.initialized "java/lang/System", Cond.methodLink RX3 21 yX3_spotOf, Cond.instanceMethod yX3_spotOf, Cond.selects RX3 yX3_spotOf yX3_spotOf, Cond.code yX3_spotOf cX3_spotOf 7 (some .int), Cond.methodLink RX3 25 yJ7_copyOf_c38d5]
def wsX2_search_r3 : List Cond := [Cond.static yJ7_copyOf_c38d5, Cond.code yJ7_copyOf_c38d5 cJ7_copyOf_c38d5 3 (some (.array .long)), Cond.methodLink RJ7 319 ⟨"[J", "clone", "()Ljava/lang/Object;"⟩, Cond.sameMethod "[J" "java/lang/Object" "clone" "()Ljava/lang/Object;", Cond.native ⟨"java/lang/Object", "clone", "()Ljava/lang/Object;"⟩, Cond.instanceMethod ⟨"java/lang/Object", "clone", "()Ljava/lang/Object;"⟩, Cond.selects "[J" ⟨"[J", "clone", "()Ljava/lang/Object;"⟩ ⟨"java/lang/Object", "clone", "()Ljava/lang/Object;"⟩, Cond.classLink RJ7 320 "[J", Cond.arrayClass .long, Cond.methodLink RJ7 304 Lib.Math.min.name, Cond.static Lib.Math.min.name, Cond.initialized "java/lang/Math", Cond.code Lib.Math.min.name Lib.Math.min.code 2 (some .int), Cond.methodLink RJ7 150 arraycopyName, Cond.methodLink RX2 66 yX5_accessAt, Cond.instanceMethod yX5_accessAt, Cond.selects RX5 yX5_accessAt yX5_accessAt, Cond.code yX5_accessAt cX5_accessAt 2 (some (.object "LitmusRunner$Access")), Cond.methodLink RX2 70 yX2_isIn, Cond.static yX2_isIn, Cond.code yX2_isIn cX2_isIn 2 (some .boolean), Cond.methodLink RX2 83 yX2_sourceOf, Cond.instanceMethod yX2_sourceOf, Cond.selects RX2 yX2_sourceOf yX2_sourceOf]
def wsX2_search_r4 : List Cond := [Cond.code yX2_sourceOf cX2_sourceOf 4 (some .int), Cond.methodLink RX2 87 yX2_mayReadHere, Cond.instanceMethod yX2_mayReadHere, Cond.selects RX2 yX2_mayReadHere yX2_mayReadHere, Cond.code yX2_mayReadHere cX2_mayReadHere 5 (some .boolean), Cond.methodLink RX2 113 yX2_mayForward, Cond.instanceMethod yX2_mayForward, Cond.selects RX2 yX2_mayForward yX2_mayForward, Cond.code yX2_mayForward cX2_mayForward 4 (some .boolean), Cond.methodLink RX2 116 yX2_agreesWithTwins, Cond.instanceMethod yX2_agreesWithTwins, Cond.selects RX2 yX2_agreesWithTwins yX2_agreesWithTwins, Cond.code yX2_agreesWithTwins cX2_agreesWithTwins 4 (some .boolean), Cond.methodLink RX2 90 yX2_isAtomic, Cond.instanceMethod yX2_isAtomic, Cond.selects RX2 yX2_isAtomic yX2_isAtomic, Cond.code yX2_isAtomic cX2_isAtomic 8 (some .boolean), Cond.fieldLink RX2 19 "LitmusRunner$Ordering" "spots" "[I", Cond.methodLink RX2 94 yX2_place, Cond.instanceMethod yX2_place, Cond.selects RX2 yX2_place yX2_place, Cond.code yX2_place cX2_place 6 none]
def wsX2_search : List Cond := .code yX2_search cX2_search 1 (some .boolean) :: ((wsX2_search_r1 ++ (wsX2_search_r2 ++ (wsX2_search_r3 ++ wsX2_search_r4))) ++ wsX20 ++ wsX50 ++ wsX00 ++ wsX30)
def wsX3_init : List Cond := .code yX3_init cX3_init 1 none :: ([.methodLink RX3 3 objectInit, .instanceMethod objectInit, .code objectInit ⟨#[0xb1]⟩ 1 none, .arrayClass .long, .fieldLink RX3 9 "LitmusRunner$Outcomes" "rows" "[J", .fieldLink RX3 15 "LitmusRunner$Outcomes" "size" "I"] ++ wsX30)
def wsX3_removeAll : List Cond := .code yX3_removeAll cX3_removeAll 1 none :: ([.fieldLink RX3 15 "LitmusRunner$Outcomes" "size" "I"] ++ wsX30)
def wsX3_size : List Cond := .code yX3_size cX3_size 1 (some .int) :: ([.fieldLink RX3 15 "LitmusRunner$Outcomes" "size" "I"] ++ wsX30)
def wsX3_at : List Cond := .code yX3_at cX3_at 2 (some .long) :: ([.fieldLink RX3 15 "LitmusRunner$Outcomes" "size" "I", .fieldLink RX3 9 "LitmusRunner$Outcomes" "rows" "[J", .constantLong RX3 19 (-1)] ++ wsX30)
def wsX3_holds : List Cond := .code yX3_holds cX3_holds 4 (some .boolean) :: ([.fieldLink RX3 15 "LitmusRunner$Outcomes" "size" "I", .fieldLink RX3 9 "LitmusRunner$Outcomes" "rows" "[J", .methodLink RX3 21 yX3_spotOf, .instanceMethod yX3_spotOf, .selects RX3 yX3_spotOf yX3_spotOf, .initialized RX3, .code yX3_spotOf cX3_spotOf 7 (some .int)] ++ wsX30)
def wsX3_partOf : List Cond := .code yX3_partOf cX3_partOf 3 (some .int) :: ([])
def wsX3_howMany : List Cond := .code yX3_howMany cX3_howMany 7 (some .int) :: ([.fieldLink RX3 15 "LitmusRunner$Outcomes" "size" "I", .fieldLink RX3 9 "LitmusRunner$Outcomes" "rows" "[J", .methodLink RX3 37 yX3_partOf, .static yX3_partOf, .initialized RX3, .code yX3_partOf cX3_partOf 3 (some .int)] ++ wsX30)
def wsX4_init : List Cond := .code yX4_init cX4_init 1 none :: ([.methodLink RX4 3 objectInit, .instanceMethod objectInit, .code objectInit ⟨#[0xb1]⟩ 1 none, .classLink RX4 9 "[[I", .arrayClass .int, .fieldLink RX4 11 "LitmusRunner$Programs" "rows" "[[I", .fieldLink RX4 16 "LitmusRunner$Programs" "lengths" "[I", .fieldLink RX4 20 "LitmusRunner$Programs" "draft" "[I", .fieldLink RX4 23 "LitmusRunner$Programs" "accesses" "I", .fieldLink RX4 27 "LitmusRunner$Programs" "readers" "I"] ++ wsX40)
def wsX4_size : List Cond := .code yX4_size cX4_size 6 (some .int) :: ([.fieldLink RX4 16 "LitmusRunner$Programs" "lengths" "[I"] ++ wsX40)
def wsX4_removeAll : List Cond := .code yX4_removeAll cX4_removeAll 2 (some .int) :: ([.fieldLink RX4 16 "LitmusRunner$Programs" "lengths" "[I", .fieldLink RX4 23 "LitmusRunner$Programs" "accesses" "I", .fieldLink RX4 27 "LitmusRunner$Programs" "readers" "I", .methodLink RX4 30 yX4_size, .instanceMethod yX4_size, .selects RX4 yX4_size yX4_size, .initialized RX4, .code yX4_size cX4_size 6 (some .int), .methodLink RX4 34 yJ7_fill_53178, .static yJ7_fill_53178, .initialized RJ7, .code yJ7_fill_53178 cJ7_fill_53178 4 none] ++ wsX40)
def wsX4_accesses : List Cond := .code yX4_accesses cX4_accesses 1 (some .int) :: ([.fieldLink RX4 23 "LitmusRunner$Programs" "accesses" "I"] ++ wsX40)
def wsX4_readers : List Cond := .code yX4_readers cX4_readers 1 (some .int) :: ([.fieldLink RX4 27 "LitmusRunner$Programs" "readers" "I"] ++ wsX40)
def wsX4_length : List Cond := .code yX4_length cX4_length 2 (some .int) :: ([.fieldLink RX4 16 "LitmusRunner$Programs" "lengths" "[I"] ++ wsX40)
def wsX4_has : List Cond := .code yX4_has cX4_has 3 (some .boolean) :: ([.fieldLink RX4 16 "LitmusRunner$Programs" "lengths" "[I"] ++ wsX40)
def wsX4_row : List Cond := .code yX4_row cX4_row 3 (some (.array .int)) :: ([.fieldLink RX4 11 "LitmusRunner$Programs" "rows" "[[I"] ++ wsX40)
def wsX4_propose : List Cond := .code yX4_propose cX4_propose 7 none :: ([.fieldLink RX4 20 "LitmusRunner$Programs" "draft" "[I"] ++ wsX40)
def wsX4_formOf : List Cond := .code yX4_formOf cX4_formOf 1 (some (.object "java/lang/String")) :: ([])
def wsJ0_coder_7d493 : List Cond := .code yJ0_coder_7d493 cJ0_coder_7d493 1 (some .byte) :: ([.fieldLink RJ0 38 "java/lang/String" "COMPACT_STRINGS" "Z", .fieldLink RJ0 15 "java/lang/String" "coder" "B"])
def wsJ0_length_8abf5 : List Cond := .code yJ0_length_8abf5 cJ0_length_8abf5 1 (some .int) :: ([.fieldLink RJ0 9 "java/lang/String" "value" "[B", .methodLink RJ0 335 yJ0_coder_7d493, .instanceMethod yJ0_coder_7d493, .selects RJ0 yJ0_coder_7d493 yJ0_coder_7d493, .initialized RJ0, .code yJ0_coder_7d493 cJ0_coder_7d493 1 (some .byte), .fieldLink RJ0 38 "java/lang/String" "COMPACT_STRINGS" "Z", .fieldLink RJ0 15 "java/lang/String" "coder" "B"])
def wsJ0_isLatin1_aae02 : List Cond := .code yJ0_isLatin1_aae02 cJ0_isLatin1_aae02 1 (some .boolean) :: ([.fieldLink RJ0 38 "java/lang/String" "COMPACT_STRINGS" "Z", .fieldLink RJ0 15 "java/lang/String" "coder" "B"])
def wsJ3_checkIndex_8e157 : List Cond := .code yJ3_checkIndex_8e157 cJ3_checkIndex_8e157 3 (some .int) :: ([])
def wsJ0_checkIndex_df160 : List Cond := .code yJ0_checkIndex_df160 cJ0_checkIndex_df160 2 none :: ([.fieldLink RJ0 1053 "jdk/internal/util/Preconditions" "SIOOBE_FORMATTER" "Ljava/util/function/BiFunction;", .methodLink RJ0 1059 yJ3_checkIndex_8e157, .static yJ3_checkIndex_8e157, .initialized RJ3, .code yJ3_checkIndex_8e157 cJ3_checkIndex_8e157 3 (some .int)])
def wsJ1_charAt_3b067 : List Cond := .code yJ1_charAt_3b067 cJ1_charAt_3b067 2 (some .char) :: ([.methodLink RJ1 9 yJ0_checkIndex_df160, .static yJ0_checkIndex_df160, .initialized RJ0, .code yJ0_checkIndex_df160 cJ0_checkIndex_df160 2 none, .fieldLink RJ0 1053 "jdk/internal/util/Preconditions" "SIOOBE_FORMATTER" "Ljava/util/function/BiFunction;", .methodLink RJ0 1059 yJ3_checkIndex_8e157, .static yJ3_checkIndex_8e157, .initialized RJ3, .code yJ3_checkIndex_8e157 cJ3_checkIndex_8e157 3 (some .int)])
def wsJ2_length_9d52b : List Cond := .code yJ2_length_9d52b cJ2_length_9d52b 1 (some .int) :: ([])
def wsJ2_checkIndex_2214a : List Cond := .code yJ2_checkIndex_2214a cJ2_checkIndex_2214a 2 none :: ([.methodLink RJ2 48 yJ2_length_9d52b, .static yJ2_length_9d52b, .initialized RJ2, .code yJ2_length_9d52b cJ2_length_9d52b 1 (some .int), .methodLink RJ2 414 yJ0_checkIndex_df160, .static yJ0_checkIndex_df160, .initialized RJ0, .code yJ0_checkIndex_df160 cJ0_checkIndex_df160 2 none, .fieldLink RJ0 1053 "jdk/internal/util/Preconditions" "SIOOBE_FORMATTER" "Ljava/util/function/BiFunction;", .methodLink RJ0 1059 yJ3_checkIndex_8e157, .static yJ3_checkIndex_8e157, .initialized RJ3, .code yJ3_checkIndex_8e157 cJ3_checkIndex_8e157 3 (some .int)])
def wsJ2_getChar_3b067 : List Cond := .code yJ2_getChar_3b067 cJ2_getChar_3b067 2 (some .char) :: ([.fieldLink RJ2 44 "java/lang/StringUTF16" "$assertionsDisabled" "Z", .fieldLink RJ2 59 "java/lang/StringUTF16" "HI_BYTE_SHIFT" "I", .fieldLink RJ2 63 "java/lang/StringUTF16" "LO_BYTE_SHIFT" "I", .methodLink RJ2 48 yJ2_length_9d52b, .static yJ2_length_9d52b, .initialized RJ2, .code yJ2_length_9d52b cJ2_length_9d52b 1 (some .int)])
def wsJ2_charAt_3b067 : List Cond := .code yJ2_charAt_3b067 cJ2_charAt_3b067 2 (some .char) :: ([.methodLink RJ2 67 yJ2_checkIndex_2214a, .static yJ2_checkIndex_2214a, .initialized RJ2, .code yJ2_checkIndex_2214a cJ2_checkIndex_2214a 2 none, .methodLink RJ2 48 yJ2_length_9d52b, .static yJ2_length_9d52b, .code yJ2_length_9d52b cJ2_length_9d52b 1 (some .int), .methodLink RJ2 414 yJ0_checkIndex_df160, .static yJ0_checkIndex_df160, .initialized RJ0, .code yJ0_checkIndex_df160 cJ0_checkIndex_df160 2 none, .fieldLink RJ0 1053 "jdk/internal/util/Preconditions" "SIOOBE_FORMATTER" "Ljava/util/function/BiFunction;", .methodLink RJ0 1059 yJ3_checkIndex_8e157, .static yJ3_checkIndex_8e157, .initialized RJ3, .code yJ3_checkIndex_8e157 cJ3_checkIndex_8e157 3 (some .int), .methodLink RJ2 71 yJ2_getChar_3b067, .static yJ2_getChar_3b067, .code yJ2_getChar_3b067 cJ2_getChar_3b067 2 (some .char), .fieldLink RJ2 44 "java/lang/StringUTF16" "$assertionsDisabled" "Z", .fieldLink RJ2 59 "java/lang/StringUTF16" "HI_BYTE_SHIFT" "I", .fieldLink RJ2 63 "java/lang/StringUTF16" "LO_BYTE_SHIFT" "I"])
def wsJ0_charAt_5068e_r1 : List Cond := [Cond.fieldLink RJ0 9 "java/lang/String" "value" "[B", Cond.methodLink RJ0 492 yJ0_isLatin1_aae02, Cond.instanceMethod yJ0_isLatin1_aae02, Cond.selects RJ0 yJ0_isLatin1_aae02 yJ0_isLatin1_aae02, Cond.initialized RJ0, Cond.code yJ0_isLatin1_aae02 cJ0_isLatin1_aae02 1 (some .boolean), Cond.fieldLink RJ0 38 "java/lang/String" "COMPACT_STRINGS" "Z", Cond.fieldLink RJ0 15 "java/lang/String" "coder" "B", Cond.methodLink RJ0 495 yJ1_charAt_3b067, Cond.static yJ1_charAt_3b067, Cond.initialized RJ1, Cond.code yJ1_charAt_3b067 cJ1_charAt_3b067 2 (some .char), Cond.methodLink RJ1 9 yJ0_checkIndex_df160, Cond.static yJ0_checkIndex_df160, Cond.code yJ0_checkIndex_df160 cJ0_checkIndex_df160 2 none, Cond.fieldLink RJ0 1053 "jdk/internal/util/Preconditions" "SIOOBE_FORMATTER" "Ljava/util/function/BiFunction;", Cond.methodLink RJ0 1059 yJ3_checkIndex_8e157, Cond.static yJ3_checkIndex_8e157, Cond.initialized RJ3, Cond.code yJ3_checkIndex_8e157 cJ3_checkIndex_8e157 3 (some .int), Cond.methodLink RJ0 498 yJ2_charAt_3b067, Cond.static yJ2_charAt_3b067, Cond.initialized RJ2, Cond.code yJ2_charAt_3b067 cJ2_charAt_3b067 2 (some .char)]
def wsJ0_charAt_5068e_r2 : List Cond := [Cond.methodLink RJ2 67 yJ2_checkIndex_2214a, Cond.static yJ2_checkIndex_2214a, Cond.code yJ2_checkIndex_2214a cJ2_checkIndex_2214a 2 none, Cond.methodLink RJ2 48 yJ2_length_9d52b, Cond.static yJ2_length_9d52b, Cond.code yJ2_length_9d52b cJ2_length_9d52b 1 (some .int), Cond.methodLink RJ2 414 yJ0_checkIndex_df160, Cond.methodLink RJ2 71 yJ2_getChar_3b067, Cond.static yJ2_getChar_3b067, Cond.code yJ2_getChar_3b067 cJ2_getChar_3b067 2 (some .char), Cond.fieldLink RJ2 44 "java/lang/StringUTF16" "$assertionsDisabled" "Z", Cond.fieldLink RJ2 59 "java/lang/StringUTF16" "HI_BYTE_SHIFT" "I", Cond.fieldLink RJ2 63 "java/lang/StringUTF16" "LO_BYTE_SHIFT" "I"]
def wsJ0_charAt_5068e : List Cond := .code yJ0_charAt_5068e cJ0_charAt_5068e 2 (some .char) :: ((wsJ0_charAt_5068e_r1 ++ wsJ0_charAt_5068e_r2))
def wsX4_isOfSort : List Cond := .code yX4_isOfSort cX4_isOfSort 2 (some .boolean) :: ([])
def wsX4_isDraftGood_r1 : List Cond := [Cond.fieldLink RX4 20 "LitmusRunner$Programs" "draft" "[I", Cond.methodLink RX4 59 yX4_formOf, Cond.static yX4_formOf, Cond.initialized RX4, Cond.code yX4_formOf cX4_formOf 1 (some (.object "java/lang/String")), Cond.methodLink RX4 63 yJ0_length_8abf5, Cond.instanceMethod yJ0_length_8abf5, Cond.selects RJ0 yJ0_length_8abf5 yJ0_length_8abf5, Cond.initialized RJ0, Cond.code yJ0_length_8abf5 cJ0_length_8abf5 1 (some .int), Cond.fieldLink RJ0 9 "java/lang/String" "value" "[B", Cond.methodLink RJ0 335 yJ0_coder_7d493, Cond.instanceMethod yJ0_coder_7d493, Cond.selects RJ0 yJ0_coder_7d493 yJ0_coder_7d493, Cond.code yJ0_coder_7d493 cJ0_coder_7d493 1 (some .byte), Cond.fieldLink RJ0 38 "java/lang/String" "COMPACT_STRINGS" "Z", Cond.fieldLink RJ0 15 "java/lang/String" "coder" "B", Cond.methodLink RX4 68 yJ0_charAt_5068e, Cond.instanceMethod yJ0_charAt_5068e, Cond.selects RJ0 yJ0_charAt_5068e yJ0_charAt_5068e, Cond.code yJ0_charAt_5068e cJ0_charAt_5068e 2 (some .char), Cond.methodLink RJ0 492 yJ0_isLatin1_aae02, Cond.instanceMethod yJ0_isLatin1_aae02, Cond.selects RJ0 yJ0_isLatin1_aae02 yJ0_isLatin1_aae02]
def wsX4_isDraftGood_r2 : List Cond := [Cond.code yJ0_isLatin1_aae02 cJ0_isLatin1_aae02 1 (some .boolean), Cond.methodLink RJ0 495 yJ1_charAt_3b067, Cond.static yJ1_charAt_3b067, Cond.initialized RJ1, Cond.code yJ1_charAt_3b067 cJ1_charAt_3b067 2 (some .char), Cond.methodLink RJ1 9 yJ0_checkIndex_df160, Cond.static yJ0_checkIndex_df160, Cond.code yJ0_checkIndex_df160 cJ0_checkIndex_df160 2 none, Cond.fieldLink RJ0 1053 "jdk/internal/util/Preconditions" "SIOOBE_FORMATTER" "Ljava/util/function/BiFunction;", Cond.methodLink RJ0 1059 yJ3_checkIndex_8e157, Cond.static yJ3_checkIndex_8e157, Cond.initialized RJ3, Cond.code yJ3_checkIndex_8e157 cJ3_checkIndex_8e157 3 (some .int), Cond.methodLink RJ0 498 yJ2_charAt_3b067, Cond.static yJ2_charAt_3b067, Cond.initialized RJ2, Cond.code yJ2_charAt_3b067 cJ2_charAt_3b067 2 (some .char), Cond.methodLink RJ2 67 yJ2_checkIndex_2214a, Cond.static yJ2_checkIndex_2214a, Cond.code yJ2_checkIndex_2214a cJ2_checkIndex_2214a 2 none, Cond.methodLink RJ2 48 yJ2_length_9d52b, Cond.static yJ2_length_9d52b, Cond.code yJ2_length_9d52b cJ2_length_9d52b 1 (some .int), Cond.methodLink RJ2 414 yJ0_checkIndex_df160]
def wsX4_isDraftGood_r3 : List Cond := [Cond.methodLink RJ2 71 yJ2_getChar_3b067, Cond.static yJ2_getChar_3b067, Cond.code yJ2_getChar_3b067 cJ2_getChar_3b067 2 (some .char), Cond.fieldLink RJ2 44 "java/lang/StringUTF16" "$assertionsDisabled" "Z", Cond.fieldLink RJ2 59 "java/lang/StringUTF16" "HI_BYTE_SHIFT" "I", Cond.fieldLink RJ2 63 "java/lang/StringUTF16" "LO_BYTE_SHIFT" "I", Cond.methodLink RX4 72 yX4_isOfSort, Cond.static yX4_isOfSort, Cond.code yX4_isOfSort cX4_isOfSort 2 (some .boolean)]
def wsX4_isDraftGood : List Cond := .code yX4_isDraftGood cX4_isDraftGood 3 (some .boolean) :: ((wsX4_isDraftGood_r1 ++ (wsX4_isDraftGood_r2 ++ wsX4_isDraftGood_r3)) ++ wsX40)
def wsX6_isReader : List Cond := .code yX6_isReader cX6_isReader 1 (some .boolean) :: ([])
def wsX6_isWriter : List Cond := .code yX6_isWriter cX6_isWriter 1 (some .boolean) :: ([])
def wsX6_isAccess : List Cond := .code yX6_isAccess cX6_isAccess 1 (some .boolean) :: ([.methodLink RX6 132 yX6_isReader, .static yX6_isReader, .initialized RX6, .code yX6_isReader cX6_isReader 1 (some .boolean), .methodLink RX6 135 yX6_isWriter, .static yX6_isWriter, .code yX6_isWriter cX6_isWriter 1 (some .boolean)])
def wsX4_copyDraft : List Cond := .code yX4_copyDraft cX4_copyDraft 4 none :: ([.fieldLink RX4 20 "LitmusRunner$Programs" "draft" "[I", .methodLink RX4 59 yX4_formOf, .static yX4_formOf, .initialized RX4, .code yX4_formOf cX4_formOf 1 (some (.object "java/lang/String")), .methodLink RX4 63 yJ0_length_8abf5, .instanceMethod yJ0_length_8abf5, .selects RJ0 yJ0_length_8abf5 yJ0_length_8abf5, .initialized RJ0, .code yJ0_length_8abf5 cJ0_length_8abf5 1 (some .int), .fieldLink RJ0 9 "java/lang/String" "value" "[B", .methodLink RJ0 335 yJ0_coder_7d493, .instanceMethod yJ0_coder_7d493, .selects RJ0 yJ0_coder_7d493 yJ0_coder_7d493, .code yJ0_coder_7d493 cJ0_coder_7d493 1 (some .byte), .fieldLink RJ0 38 "java/lang/String" "COMPACT_STRINGS" "Z", .fieldLink RJ0 15 "java/lang/String" "coder" "B"] ++ wsX40)
def wsX4_append_r1 : List Cond := [Cond.fieldLink RX4 20 "LitmusRunner$Programs" "draft" "[I", Cond.fieldLink RX4 23 "LitmusRunner$Programs" "accesses" "I", Cond.fieldLink RX4 27 "LitmusRunner$Programs" "readers" "I", Cond.fieldLink RX4 16 "LitmusRunner$Programs" "lengths" "[I", Cond.methodLink RX4 40 yX4_isDraftGood, Cond.instanceMethod yX4_isDraftGood, Cond.selects RX4 yX4_isDraftGood yX4_isDraftGood, Cond.initialized RX4, Cond.code yX4_isDraftGood cX4_isDraftGood 3 (some .boolean), Cond.methodLink RX4 59 yX4_formOf, Cond.static yX4_formOf, Cond.code yX4_formOf cX4_formOf 1 (some (.object "java/lang/String")), Cond.methodLink RX4 63 yJ0_length_8abf5, Cond.instanceMethod yJ0_length_8abf5, Cond.selects RJ0 yJ0_length_8abf5 yJ0_length_8abf5, Cond.initialized RJ0, Cond.code yJ0_length_8abf5 cJ0_length_8abf5 1 (some .int), Cond.fieldLink RJ0 9 "java/lang/String" "value" "[B", Cond.methodLink RJ0 335 yJ0_coder_7d493, Cond.instanceMethod yJ0_coder_7d493, Cond.selects RJ0 yJ0_coder_7d493 yJ0_coder_7d493, Cond.code yJ0_coder_7d493 cJ0_coder_7d493 1 (some .byte), Cond.fieldLink RJ0 38 "java/lang/String" "COMPACT_STRINGS" "Z", Cond.fieldLink RJ0 15 "java/lang/String" "coder" "B"]
def wsX4_append_r2 : List Cond := [Cond.methodLink RX4 68 yJ0_charAt_5068e, Cond.instanceMethod yJ0_charAt_5068e, Cond.selects RJ0 yJ0_charAt_5068e yJ0_charAt_5068e, Cond.code yJ0_charAt_5068e cJ0_charAt_5068e 2 (some .char), Cond.methodLink RJ0 492 yJ0_isLatin1_aae02, Cond.instanceMethod yJ0_isLatin1_aae02, Cond.selects RJ0 yJ0_isLatin1_aae02 yJ0_isLatin1_aae02, Cond.code yJ0_isLatin1_aae02 cJ0_isLatin1_aae02 1 (some .boolean), Cond.methodLink RJ0 495 yJ1_charAt_3b067, Cond.static yJ1_charAt_3b067, Cond.initialized RJ1, Cond.code yJ1_charAt_3b067 cJ1_charAt_3b067 2 (some .char), Cond.methodLink RJ1 9 yJ0_checkIndex_df160, Cond.static yJ0_checkIndex_df160, Cond.code yJ0_checkIndex_df160 cJ0_checkIndex_df160 2 none, Cond.fieldLink RJ0 1053 "jdk/internal/util/Preconditions" "SIOOBE_FORMATTER" "Ljava/util/function/BiFunction;", Cond.methodLink RJ0 1059 yJ3_checkIndex_8e157, Cond.static yJ3_checkIndex_8e157, Cond.initialized RJ3, Cond.code yJ3_checkIndex_8e157 cJ3_checkIndex_8e157 3 (some .int), Cond.methodLink RJ0 498 yJ2_charAt_3b067, Cond.static yJ2_charAt_3b067, Cond.initialized RJ2, Cond.code yJ2_charAt_3b067 cJ2_charAt_3b067 2 (some .char)]
def wsX4_append_r3 : List Cond := [Cond.methodLink RJ2 67 yJ2_checkIndex_2214a, Cond.static yJ2_checkIndex_2214a, Cond.code yJ2_checkIndex_2214a cJ2_checkIndex_2214a 2 none, Cond.methodLink RJ2 48 yJ2_length_9d52b, Cond.static yJ2_length_9d52b, Cond.code yJ2_length_9d52b cJ2_length_9d52b 1 (some .int), Cond.methodLink RJ2 414 yJ0_checkIndex_df160, Cond.methodLink RJ2 71 yJ2_getChar_3b067, Cond.static yJ2_getChar_3b067, Cond.code yJ2_getChar_3b067 cJ2_getChar_3b067 2 (some .char), Cond.fieldLink RJ2 44 "java/lang/StringUTF16" "$assertionsDisabled" "Z", Cond.fieldLink RJ2 59 "java/lang/StringUTF16" "HI_BYTE_SHIFT" "I", Cond.fieldLink RJ2 63 "java/lang/StringUTF16" "LO_BYTE_SHIFT" "I", Cond.methodLink RX4 72 yX4_isOfSort, Cond.static yX4_isOfSort, Cond.code yX4_isOfSort cX4_isOfSort 2 (some .boolean), Cond.static yX6_isAccess, Cond.initialized RX6, Cond.code yX6_isAccess cX6_isAccess 1 (some .boolean), Cond.methodLink RX6 132 yX6_isReader, Cond.static yX6_isReader, Cond.code yX6_isReader cX6_isReader 1 (some .boolean), Cond.methodLink RX6 135 yX6_isWriter, Cond.static yX6_isWriter]
def wsX4_append_r4 : List Cond := [Cond.code yX6_isWriter cX6_isWriter 1 (some .boolean), Cond.methodLink RX4 51 yX4_row, Cond.instanceMethod yX4_row, Cond.selects RX4 yX4_row yX4_row, Cond.code yX4_row cX4_row 3 (some (.array .int)), Cond.fieldLink RX4 11 "LitmusRunner$Programs" "rows" "[[I", Cond.methodLink RX4 55 yX4_copyDraft, Cond.instanceMethod yX4_copyDraft, Cond.selects RX4 yX4_copyDraft yX4_copyDraft, Cond.code yX4_copyDraft cX4_copyDraft 4 none]
def wsX4_append : List Cond := .code yX4_append cX4_append 6 (some .int) :: ((wsX4_append_r1 ++ (wsX4_append_r2 ++ (wsX4_append_r3 ++ wsX4_append_r4))) ++ wsX40)
def wsX5_init : List Cond := .code yX5_init cX5_init 4 none :: ([.methodLink RX5 3 objectInit, .instanceMethod objectInit, .code objectInit ⟨#[0xb1]⟩ 1 none, .fieldLink RX5 9 "LitmusRunner$Way" "programs" "LLitmusRunner$Programs;", .fieldLink RX5 15 "LitmusRunner$Way" "choices" "LLitmusRunner$Choices;", .classLink RX5 19 RX0, .fieldLink RX5 21 "LitmusRunner$Way" "accesses" "[LLitmusRunner$Access;", .instantiable RX0 14, .initialized RX0, .arrayClass .int, .fieldLink RX5 26 "LitmusRunner$Way" "values" "[I", .fieldLink RX5 30 "LitmusRunner$Way" "carried" "[I", .instanceMethod yX0_init, .code yX0_init cX0_init 1 none, .methodLink RX0 1 objectInit] ++ wsX50 ++ wsX00)
def wsX5_carriedBy : List Cond := .code yX5_carriedBy cX5_carriedBy 2 (some .int) :: ([.fieldLink RX5 30 "LitmusRunner$Way" "carried" "[I", .fieldLink RX5 72 "LitmusRunner$Way" "hart" "I"] ++ wsX50)
def wsX5_valueOf : List Cond := .code yX5_valueOf cX5_valueOf 2 (some .int) :: ([.fieldLink RX5 26 "LitmusRunner$Way" "values" "[I", .fieldLink RX5 72 "LitmusRunner$Way" "hart" "I"] ++ wsX50)
def wsX5_leftOut : List Cond := .code yX5_leftOut cX5_leftOut 2 (some .int) :: ([.fieldLink RX5 81 "LitmusRunner$Way" "byWay" "I", .methodLink RX5 111 yX5_carriedBy, .instanceMethod yX5_carriedBy, .selects RX5 yX5_carriedBy yX5_carriedBy, .initialized RX5, .code yX5_carriedBy cX5_carriedBy 2 (some .int), .fieldLink RX5 30 "LitmusRunner$Way" "carried" "[I", .fieldLink RX5 72 "LitmusRunner$Way" "hart" "I", .methodLink RX5 114 yX5_valueOf, .instanceMethod yX5_valueOf, .selects RX5 yX5_valueOf yX5_valueOf, .code yX5_valueOf cX5_valueOf 2 (some .int), .fieldLink RX5 26 "LitmusRunner$Way" "values" "[I"] ++ wsX50)
def wsX5_fence : List Cond := .code yX5_fence cX5_fence 8 none :: ([.fieldLink RX5 75 "LitmusRunner$Way" "first" "I", .fieldLink RX5 33 "LitmusRunner$Way" "size" "I", .fieldLink RX5 21 "LitmusRunner$Way" "accesses" "[LLitmusRunner$Access;", .fieldLink RX5 87 "LitmusRunner$Way" "fencedBeforeReads" "I", .fieldLink RX5 90 "LitmusRunner$Way" "fencedBeforeWrites" "I"] ++ wsX50 ++ wsX00)
def wsX5_setRegister : List Cond := .code yX5_setRegister cX5_setRegister 4 none :: ([.fieldLink RX5 26 "LitmusRunner$Way" "values" "[I", .fieldLink RX5 72 "LitmusRunner$Way" "hart" "I", .fieldLink RX5 30 "LitmusRunner$Way" "carried" "[I"] ++ wsX50)
def wsX5_place : List Cond := .code yX5_place cX5_place 3 (some .int) :: ([.methodLink RX5 114 yX5_valueOf, .instanceMethod yX5_valueOf, .selects RX5 yX5_valueOf yX5_valueOf, .initialized RX5, .code yX5_valueOf cX5_valueOf 2 (some .int), .fieldLink RX5 26 "LitmusRunner$Way" "values" "[I", .fieldLink RX5 72 "LitmusRunner$Way" "hart" "I"] ++ wsX50)
def wsX5_fails : List Cond := .code yX5_fails cX5_fails 3 (some .boolean) :: ([.fieldLink RX5 78 "LitmusRunner$Way" "reserve" "I", .fieldLink RX5 21 "LitmusRunner$Way" "accesses" "[LLitmusRunner$Access;", .fieldLink RX5 15 "LitmusRunner$Way" "choices" "LLitmusRunner$Choices;", .methodLink RX5 132 yX5_place, .instanceMethod yX5_place, .selects RX5 yX5_place yX5_place, .initialized RX5, .code yX5_place cX5_place 3 (some .int), .methodLink RX5 114 yX5_valueOf, .instanceMethod yX5_valueOf, .selects RX5 yX5_valueOf yX5_valueOf, .code yX5_valueOf cX5_valueOf 2 (some .int), .fieldLink RX5 26 "LitmusRunner$Way" "values" "[I", .fieldLink RX5 72 "LitmusRunner$Way" "hart" "I", .methodLink RX5 136 yX1_choose, .instanceMethod yX1_choose, .selects RX1 yX1_choose yX1_choose, .initialized RX1, .code yX1_choose cX1_choose 2 (some .int), .fieldLink RX1 18 "LitmusRunner$Choices" "made" "I", .fieldLink RX1 22 "LitmusRunner$Choices" "kept" "I", .fieldLink RX1 9 "LitmusRunner$Choices" "chosen" "[I", .fieldLink RX1 15 "LitmusRunner$Choices" "limits" "[I"] ++ wsX50 ++ wsX00 ++ wsX10)
def wsX5_written : List Cond := .code yX5_written cX5_written 4 (some .int) :: ([.methodLink RX5 114 yX5_valueOf, .instanceMethod yX5_valueOf, .selects RX5 yX5_valueOf yX5_valueOf, .initialized RX5, .code yX5_valueOf cX5_valueOf 2 (some .int), .fieldLink RX5 26 "LitmusRunner$Way" "values" "[I", .fieldLink RX5 72 "LitmusRunner$Way" "hart" "I"] ++ wsX00 ++ wsX50)
def wsX5_isOrdered : List Cond := .code yX5_isOrdered cX5_isOrdered 13 (some .boolean) :: ([.fieldLink RX5 21 "LitmusRunner$Way" "accesses" "[LLitmusRunner$Access;", .fieldLink RX5 87 "LitmusRunner$Way" "fencedBeforeReads" "I", .fieldLink RX5 90 "LitmusRunner$Way" "fencedBeforeWrites" "I", .fieldLink RX5 81 "LitmusRunner$Way" "byWay" "I", .fieldLink RX5 84 "LitmusRunner$Way" "neededForPlaces" "I", .fieldLink RX5 42 "LitmusRunner$Way" "model" "I"] ++ wsX50 ++ wsX00)
def wsX5_relate : List Cond := .code yX5_relate cX5_relate 5 none :: ([.fieldLink RX5 33 "LitmusRunner$Way" "size" "I", .fieldLink RX5 75 "LitmusRunner$Way" "first" "I", .fieldLink RX5 21 "LitmusRunner$Way" "accesses" "[LLitmusRunner$Access;", .methodLink RX5 178 yX5_isOrdered, .instanceMethod yX5_isOrdered, .selects RX5 yX5_isOrdered yX5_isOrdered, .initialized RX5, .code yX5_isOrdered cX5_isOrdered 13 (some .boolean), .fieldLink RX5 87 "LitmusRunner$Way" "fencedBeforeReads" "I", .fieldLink RX5 90 "LitmusRunner$Way" "fencedBeforeWrites" "I", .fieldLink RX5 81 "LitmusRunner$Way" "byWay" "I", .fieldLink RX5 84 "LitmusRunner$Way" "neededForPlaces" "I", .fieldLink RX5 42 "LitmusRunner$Way" "model" "I"] ++ wsX00 ++ wsX50)
def wsX5_makeAccess_r1 : List Cond := [Cond.fieldLink RX5 33 "LitmusRunner$Way" "size" "I", Cond.fieldLink RX5 21 "LitmusRunner$Way" "accesses" "[LLitmusRunner$Access;", Cond.fieldLink RX5 72 "LitmusRunner$Way" "hart" "I", Cond.fieldLink RX5 78 "LitmusRunner$Way" "reserve" "I", Cond.fieldLink RX5 15 "LitmusRunner$Way" "choices" "LLitmusRunner$Choices;", Cond.fieldLink RX5 84 "LitmusRunner$Way" "neededForPlaces" "I", Cond.methodLink RX5 132 yX5_place, Cond.instanceMethod yX5_place, Cond.selects RX5 yX5_place yX5_place, Cond.initialized RX5, Cond.code yX5_place cX5_place 3 (some .int), Cond.methodLink RX5 114 yX5_valueOf, Cond.instanceMethod yX5_valueOf, Cond.selects RX5 yX5_valueOf yX5_valueOf, Cond.code yX5_valueOf cX5_valueOf 2 (some .int), Cond.fieldLink RX5 26 "LitmusRunner$Way" "values" "[I", Cond.static yX6_isReader, Cond.initialized RX6, Cond.code yX6_isReader cX6_isReader 1 (some .boolean), Cond.static yX6_isWriter, Cond.code yX6_isWriter cX6_isWriter 1 (some .boolean), Cond.methodLink RX5 111 yX5_carriedBy, Cond.instanceMethod yX5_carriedBy, Cond.selects RX5 yX5_carriedBy yX5_carriedBy]
def wsX5_makeAccess_r2 : List Cond := [Cond.code yX5_carriedBy cX5_carriedBy 2 (some .int), Cond.fieldLink RX5 30 "LitmusRunner$Way" "carried" "[I", Cond.methodLink RX5 136 yX1_choose, Cond.instanceMethod yX1_choose, Cond.selects RX1 yX1_choose yX1_choose, Cond.initialized RX1, Cond.code yX1_choose cX1_choose 2 (some .int), Cond.fieldLink RX1 18 "LitmusRunner$Choices" "made" "I", Cond.fieldLink RX1 22 "LitmusRunner$Choices" "kept" "I", Cond.fieldLink RX1 9 "LitmusRunner$Choices" "chosen" "[I", Cond.fieldLink RX1 15 "LitmusRunner$Choices" "limits" "[I", Cond.methodLink RX5 161 yX5_written, Cond.instanceMethod yX5_written, Cond.selects RX5 yX5_written yX5_written, Cond.code yX5_written cX5_written 4 (some .int), Cond.methodLink RX5 165 yX5_relate, Cond.instanceMethod yX5_relate, Cond.selects RX5 yX5_relate yX5_relate, Cond.code yX5_relate cX5_relate 5 none, Cond.fieldLink RX5 75 "LitmusRunner$Way" "first" "I", Cond.methodLink RX5 178 yX5_isOrdered, Cond.instanceMethod yX5_isOrdered, Cond.selects RX5 yX5_isOrdered yX5_isOrdered, Cond.code yX5_isOrdered cX5_isOrdered 13 (some .boolean)]
def wsX5_makeAccess_r3 : List Cond := [Cond.fieldLink RX5 87 "LitmusRunner$Way" "fencedBeforeReads" "I", Cond.fieldLink RX5 90 "LitmusRunner$Way" "fencedBeforeWrites" "I", Cond.fieldLink RX5 81 "LitmusRunner$Way" "byWay" "I", Cond.fieldLink RX5 42 "LitmusRunner$Way" "model" "I", Cond.methodLink RX5 121 yX5_setRegister, Cond.instanceMethod yX5_setRegister, Cond.selects RX5 yX5_setRegister yX5_setRegister, Cond.code yX5_setRegister cX5_setRegister 4 none]
def wsX5_makeAccess : List Cond := .code yX5_makeAccess cX5_makeAccess 6 none :: ((wsX5_makeAccess_r1 ++ (wsX5_makeAccess_r2 ++ wsX5_makeAccess_r3)) ++ wsX50 ++ wsX00 ++ wsX10)
def wsX5_step_r1 : List Cond := [Cond.fieldLink RX5 78 "LitmusRunner$Way" "reserve" "I", Cond.methodLink RX5 117 yX5_fence, Cond.instanceMethod yX5_fence, Cond.selects RX5 yX5_fence yX5_fence, Cond.initialized RX5, Cond.code yX5_fence cX5_fence 8 none, Cond.fieldLink RX5 75 "LitmusRunner$Way" "first" "I", Cond.fieldLink RX5 33 "LitmusRunner$Way" "size" "I", Cond.fieldLink RX5 21 "LitmusRunner$Way" "accesses" "[LLitmusRunner$Access;", Cond.fieldLink RX5 87 "LitmusRunner$Way" "fencedBeforeReads" "I", Cond.fieldLink RX5 90 "LitmusRunner$Way" "fencedBeforeWrites" "I", Cond.methodLink RX5 121 yX5_setRegister, Cond.instanceMethod yX5_setRegister, Cond.selects RX5 yX5_setRegister yX5_setRegister, Cond.code yX5_setRegister cX5_setRegister 4 none, Cond.fieldLink RX5 26 "LitmusRunner$Way" "values" "[I", Cond.fieldLink RX5 72 "LitmusRunner$Way" "hart" "I", Cond.fieldLink RX5 30 "LitmusRunner$Way" "carried" "[I", Cond.methodLink RX5 114 yX5_valueOf, Cond.instanceMethod yX5_valueOf, Cond.selects RX5 yX5_valueOf yX5_valueOf, Cond.code yX5_valueOf cX5_valueOf 2 (some .int), Cond.methodLink RX5 111 yX5_carriedBy, Cond.instanceMethod yX5_carriedBy]
def wsX5_step_r2 : List Cond := [Cond.selects RX5 yX5_carriedBy yX5_carriedBy, Cond.code yX5_carriedBy cX5_carriedBy 2 (some .int), Cond.methodLink RX5 125 yX5_fails, Cond.instanceMethod yX5_fails, Cond.selects RX5 yX5_fails yX5_fails, Cond.code yX5_fails cX5_fails 3 (some .boolean), Cond.fieldLink RX5 15 "LitmusRunner$Way" "choices" "LLitmusRunner$Choices;", Cond.methodLink RX5 132 yX5_place, Cond.instanceMethod yX5_place, Cond.selects RX5 yX5_place yX5_place, Cond.code yX5_place cX5_place 3 (some .int), Cond.methodLink RX5 136 yX1_choose, Cond.instanceMethod yX1_choose, Cond.selects RX1 yX1_choose yX1_choose, Cond.initialized RX1, Cond.code yX1_choose cX1_choose 2 (some .int), Cond.fieldLink RX1 18 "LitmusRunner$Choices" "made" "I", Cond.fieldLink RX1 22 "LitmusRunner$Choices" "kept" "I", Cond.fieldLink RX1 9 "LitmusRunner$Choices" "chosen" "[I", Cond.fieldLink RX1 15 "LitmusRunner$Choices" "limits" "[I", Cond.methodLink RX5 129 yX5_makeAccess, Cond.instanceMethod yX5_makeAccess, Cond.selects RX5 yX5_makeAccess yX5_makeAccess, Cond.code yX5_makeAccess cX5_makeAccess 6 none]
def wsX5_step_r3 : List Cond := [Cond.fieldLink RX5 84 "LitmusRunner$Way" "neededForPlaces" "I", Cond.static yX6_isReader, Cond.initialized RX6, Cond.code yX6_isReader cX6_isReader 1 (some .boolean), Cond.static yX6_isWriter, Cond.code yX6_isWriter cX6_isWriter 1 (some .boolean), Cond.methodLink RX5 161 yX5_written, Cond.instanceMethod yX5_written, Cond.selects RX5 yX5_written yX5_written, Cond.code yX5_written cX5_written 4 (some .int), Cond.methodLink RX5 165 yX5_relate, Cond.instanceMethod yX5_relate, Cond.selects RX5 yX5_relate yX5_relate, Cond.code yX5_relate cX5_relate 5 none, Cond.methodLink RX5 178 yX5_isOrdered, Cond.instanceMethod yX5_isOrdered, Cond.selects RX5 yX5_isOrdered yX5_isOrdered, Cond.code yX5_isOrdered cX5_isOrdered 13 (some .boolean), Cond.fieldLink RX5 81 "LitmusRunner$Way" "byWay" "I", Cond.fieldLink RX5 42 "LitmusRunner$Way" "model" "I"]
def wsX5_step : List Cond := .code yX5_step cX5_step 2 none :: ((wsX5_step_r1 ++ (wsX5_step_r2 ++ wsX5_step_r3)) ++ wsX50 ++ wsX00 ++ wsX10)
def wsX5_walkHart_r1 : List Cond := [Cond.fieldLink RX5 72 "LitmusRunner$Way" "hart" "I", Cond.fieldLink RX5 33 "LitmusRunner$Way" "size" "I", Cond.fieldLink RX5 75 "LitmusRunner$Way" "first" "I", Cond.fieldLink RX5 78 "LitmusRunner$Way" "reserve" "I", Cond.fieldLink RX5 81 "LitmusRunner$Way" "byWay" "I", Cond.fieldLink RX5 84 "LitmusRunner$Way" "neededForPlaces" "I", Cond.fieldLink RX5 87 "LitmusRunner$Way" "fencedBeforeReads" "I", Cond.fieldLink RX5 90 "LitmusRunner$Way" "fencedBeforeWrites" "I", Cond.fieldLink RX5 9 "LitmusRunner$Way" "programs" "LLitmusRunner$Programs;", Cond.methodLink RX5 93 yX4_length, Cond.instanceMethod yX4_length, Cond.selects RX4 yX4_length yX4_length, Cond.initialized RX4, Cond.code yX4_length cX4_length 2 (some .int), Cond.fieldLink RX4 16 "LitmusRunner$Programs" "lengths" "[I", Cond.methodLink RX5 99 yX4_row, Cond.instanceMethod yX4_row, Cond.selects RX4 yX4_row yX4_row, Cond.code yX4_row cX4_row 3 (some (.array .int)), Cond.fieldLink RX4 11 "LitmusRunner$Programs" "rows" "[[I", Cond.methodLink RX5 103 yX5_leftOut, Cond.instanceMethod yX5_leftOut, Cond.selects RX5 yX5_leftOut yX5_leftOut, Cond.initialized RX5]
def wsX5_walkHart_r2 : List Cond := [Cond.code yX5_leftOut cX5_leftOut 2 (some .int), Cond.methodLink RX5 111 yX5_carriedBy, Cond.instanceMethod yX5_carriedBy, Cond.selects RX5 yX5_carriedBy yX5_carriedBy, Cond.code yX5_carriedBy cX5_carriedBy 2 (some .int), Cond.fieldLink RX5 30 "LitmusRunner$Way" "carried" "[I", Cond.methodLink RX5 114 yX5_valueOf, Cond.instanceMethod yX5_valueOf, Cond.selects RX5 yX5_valueOf yX5_valueOf, Cond.code yX5_valueOf cX5_valueOf 2 (some .int), Cond.fieldLink RX5 26 "LitmusRunner$Way" "values" "[I", Cond.methodLink RX5 107 yX5_step, Cond.instanceMethod yX5_step, Cond.selects RX5 yX5_step yX5_step, Cond.code yX5_step cX5_step 2 none, Cond.methodLink RX5 117 yX5_fence, Cond.instanceMethod yX5_fence, Cond.selects RX5 yX5_fence yX5_fence, Cond.code yX5_fence cX5_fence 8 none, Cond.fieldLink RX5 21 "LitmusRunner$Way" "accesses" "[LLitmusRunner$Access;", Cond.methodLink RX5 121 yX5_setRegister, Cond.instanceMethod yX5_setRegister, Cond.selects RX5 yX5_setRegister yX5_setRegister, Cond.code yX5_setRegister cX5_setRegister 4 none]
def wsX5_walkHart_r3 : List Cond := [Cond.methodLink RX5 125 yX5_fails, Cond.instanceMethod yX5_fails, Cond.selects RX5 yX5_fails yX5_fails, Cond.code yX5_fails cX5_fails 3 (some .boolean), Cond.fieldLink RX5 15 "LitmusRunner$Way" "choices" "LLitmusRunner$Choices;", Cond.methodLink RX5 132 yX5_place, Cond.instanceMethod yX5_place, Cond.selects RX5 yX5_place yX5_place, Cond.code yX5_place cX5_place 3 (some .int), Cond.methodLink RX5 136 yX1_choose, Cond.instanceMethod yX1_choose, Cond.selects RX1 yX1_choose yX1_choose, Cond.initialized RX1, Cond.code yX1_choose cX1_choose 2 (some .int), Cond.fieldLink RX1 18 "LitmusRunner$Choices" "made" "I", Cond.fieldLink RX1 22 "LitmusRunner$Choices" "kept" "I", Cond.fieldLink RX1 9 "LitmusRunner$Choices" "chosen" "[I", Cond.fieldLink RX1 15 "LitmusRunner$Choices" "limits" "[I", Cond.methodLink RX5 129 yX5_makeAccess, Cond.instanceMethod yX5_makeAccess, Cond.selects RX5 yX5_makeAccess yX5_makeAccess, Cond.code yX5_makeAccess cX5_makeAccess 6 none, Cond.static yX6_isReader, Cond.initialized RX6]
def wsX5_walkHart_r4 : List Cond := [Cond.code yX6_isReader cX6_isReader 1 (some .boolean), Cond.static yX6_isWriter, Cond.code yX6_isWriter cX6_isWriter 1 (some .boolean), Cond.methodLink RX5 161 yX5_written, Cond.instanceMethod yX5_written, Cond.selects RX5 yX5_written yX5_written, Cond.code yX5_written cX5_written 4 (some .int), Cond.methodLink RX5 165 yX5_relate, Cond.instanceMethod yX5_relate, Cond.selects RX5 yX5_relate yX5_relate, Cond.code yX5_relate cX5_relate 5 none, Cond.methodLink RX5 178 yX5_isOrdered, Cond.instanceMethod yX5_isOrdered, Cond.selects RX5 yX5_isOrdered yX5_isOrdered, Cond.code yX5_isOrdered cX5_isOrdered 13 (some .boolean), Cond.fieldLink RX5 42 "LitmusRunner$Way" "model" "I"]
def wsX5_walkHart : List Cond := .code yX5_walkHart cX5_walkHart 5 none :: ((wsX5_walkHart_r1 ++ (wsX5_walkHart_r2 ++ (wsX5_walkHart_r3 ++ wsX5_walkHart_r4))) ++ wsX50 ++ wsX40 ++ wsX00 ++ wsX10)
def wsX5_walk_r1 : List Cond := [Cond.fieldLink RX5 42 "LitmusRunner$Way" "model" "I", Cond.fieldLink RX5 33 "LitmusRunner$Way" "size" "I", Cond.fieldLink RX5 26 "LitmusRunner$Way" "values" "[I", Cond.fieldLink RX5 30 "LitmusRunner$Way" "carried" "[I", Cond.methodLink RX5 45 yJ7_fill_53178, Cond.static yJ7_fill_53178, Cond.initialized RJ7, Cond.code yJ7_fill_53178 cJ7_fill_53178 4 none, Cond.methodLink RX5 51 yX5_walkHart, Cond.instanceMethod yX5_walkHart, Cond.selects RX5 yX5_walkHart yX5_walkHart, Cond.initialized RX5, Cond.code yX5_walkHart cX5_walkHart 5 none, Cond.fieldLink RX5 72 "LitmusRunner$Way" "hart" "I", Cond.fieldLink RX5 75 "LitmusRunner$Way" "first" "I", Cond.fieldLink RX5 78 "LitmusRunner$Way" "reserve" "I", Cond.fieldLink RX5 81 "LitmusRunner$Way" "byWay" "I", Cond.fieldLink RX5 84 "LitmusRunner$Way" "neededForPlaces" "I", Cond.fieldLink RX5 87 "LitmusRunner$Way" "fencedBeforeReads" "I", Cond.fieldLink RX5 90 "LitmusRunner$Way" "fencedBeforeWrites" "I", Cond.fieldLink RX5 9 "LitmusRunner$Way" "programs" "LLitmusRunner$Programs;", Cond.methodLink RX5 93 yX4_length, Cond.instanceMethod yX4_length, Cond.selects RX4 yX4_length yX4_length]
def wsX5_walk_r2 : List Cond := [Cond.initialized RX4, Cond.code yX4_length cX4_length 2 (some .int), Cond.fieldLink RX4 16 "LitmusRunner$Programs" "lengths" "[I", Cond.methodLink RX5 99 yX4_row, Cond.instanceMethod yX4_row, Cond.selects RX4 yX4_row yX4_row, Cond.code yX4_row cX4_row 3 (some (.array .int)), Cond.fieldLink RX4 11 "LitmusRunner$Programs" "rows" "[[I", Cond.methodLink RX5 103 yX5_leftOut, Cond.instanceMethod yX5_leftOut, Cond.selects RX5 yX5_leftOut yX5_leftOut, Cond.code yX5_leftOut cX5_leftOut 2 (some .int), Cond.methodLink RX5 111 yX5_carriedBy, Cond.instanceMethod yX5_carriedBy, Cond.selects RX5 yX5_carriedBy yX5_carriedBy, Cond.code yX5_carriedBy cX5_carriedBy 2 (some .int), Cond.methodLink RX5 114 yX5_valueOf, Cond.instanceMethod yX5_valueOf, Cond.selects RX5 yX5_valueOf yX5_valueOf, Cond.code yX5_valueOf cX5_valueOf 2 (some .int), Cond.methodLink RX5 107 yX5_step, Cond.instanceMethod yX5_step, Cond.selects RX5 yX5_step yX5_step, Cond.code yX5_step cX5_step 2 none]
def wsX5_walk_r3 : List Cond := [Cond.methodLink RX5 117 yX5_fence, Cond.instanceMethod yX5_fence, Cond.selects RX5 yX5_fence yX5_fence, Cond.code yX5_fence cX5_fence 8 none, Cond.fieldLink RX5 21 "LitmusRunner$Way" "accesses" "[LLitmusRunner$Access;", Cond.methodLink RX5 121 yX5_setRegister, Cond.instanceMethod yX5_setRegister, Cond.selects RX5 yX5_setRegister yX5_setRegister, Cond.code yX5_setRegister cX5_setRegister 4 none, Cond.methodLink RX5 125 yX5_fails, Cond.instanceMethod yX5_fails, Cond.selects RX5 yX5_fails yX5_fails, Cond.code yX5_fails cX5_fails 3 (some .boolean), Cond.fieldLink RX5 15 "LitmusRunner$Way" "choices" "LLitmusRunner$Choices;", Cond.methodLink RX5 132 yX5_place, Cond.instanceMethod yX5_place, Cond.selects RX5 yX5_place yX5_place, Cond.code yX5_place cX5_place 3 (some .int), Cond.methodLink RX5 136 yX1_choose, Cond.instanceMethod yX1_choose, Cond.selects RX1 yX1_choose yX1_choose, Cond.initialized RX1, Cond.code yX1_choose cX1_choose 2 (some .int), Cond.fieldLink RX1 18 "LitmusRunner$Choices" "made" "I"]
def wsX5_walk_r4 : List Cond := [Cond.fieldLink RX1 22 "LitmusRunner$Choices" "kept" "I", Cond.fieldLink RX1 9 "LitmusRunner$Choices" "chosen" "[I", Cond.fieldLink RX1 15 "LitmusRunner$Choices" "limits" "[I", Cond.methodLink RX5 129 yX5_makeAccess, Cond.instanceMethod yX5_makeAccess, Cond.selects RX5 yX5_makeAccess yX5_makeAccess, Cond.code yX5_makeAccess cX5_makeAccess 6 none, Cond.static yX6_isReader, Cond.initialized RX6, Cond.code yX6_isReader cX6_isReader 1 (some .boolean), Cond.static yX6_isWriter, Cond.code yX6_isWriter cX6_isWriter 1 (some .boolean), Cond.methodLink RX5 161 yX5_written, Cond.instanceMethod yX5_written, Cond.selects RX5 yX5_written yX5_written, Cond.code yX5_written cX5_written 4 (some .int), Cond.methodLink RX5 165 yX5_relate, Cond.instanceMethod yX5_relate, Cond.selects RX5 yX5_relate yX5_relate, Cond.code yX5_relate cX5_relate 5 none, Cond.methodLink RX5 178 yX5_isOrdered, Cond.instanceMethod yX5_isOrdered, Cond.selects RX5 yX5_isOrdered yX5_isOrdered, Cond.code yX5_isOrdered cX5_isOrdered 13 (some .boolean)]
def wsX5_walk : List Cond := .code yX5_walk cX5_walk 3 none :: ((wsX5_walk_r1 ++ (wsX5_walk_r2 ++ (wsX5_walk_r3 ++ wsX5_walk_r4))) ++ wsX50 ++ wsX40 ++ wsX00 ++ wsX10)
def wsX5_isWrittenFor : List Cond := .code yX5_isWrittenFor cX5_isWrittenFor 5 (some .boolean) :: ([.fieldLink RX5 21 "LitmusRunner$Way" "accesses" "[LLitmusRunner$Access;", .fieldLink RX5 33 "LitmusRunner$Way" "size" "I"] ++ wsX50 ++ wsX00)
def wsX5_isPlausible : List Cond := .code yX5_isPlausible cX5_isPlausible 2 (some .boolean) :: ([.fieldLink RX5 33 "LitmusRunner$Way" "size" "I", .fieldLink RX5 21 "LitmusRunner$Way" "accesses" "[LLitmusRunner$Access;", .methodLink RX5 62 yX5_isWrittenFor, .instanceMethod yX5_isWrittenFor, .selects RX5 yX5_isWrittenFor yX5_isWrittenFor, .initialized RX5, .code yX5_isWrittenFor cX5_isWrittenFor 5 (some .boolean)] ++ wsX50 ++ wsX00)
def wsX6_init_r1 : List Cond := [Cond.methodLink RX6 1 objectInit, Cond.instanceMethod objectInit, Cond.code objectInit ⟨#[0xb1]⟩ 1 none, Cond.classLink RX6 7 RX4, Cond.instantiable RX4 5, Cond.initialized RX4, Cond.fieldLink RX6 10 "LitmusRunner" "programs" "LLitmusRunner$Programs;", Cond.classLink RX6 16 RX1, Cond.instantiable RX1 4, Cond.initialized RX1, Cond.fieldLink RX6 19 "LitmusRunner" "choices" "LLitmusRunner$Choices;", Cond.classLink RX6 23 RX5, Cond.instantiable RX5 14, Cond.initialized RX5, Cond.fieldLink RX6 28 "LitmusRunner" "way" "LLitmusRunner$Way;", Cond.classLink RX6 32 RX3, Cond.instantiable RX3 2, Cond.initialized RX3, Cond.fieldLink RX6 35 "LitmusRunner" "outcomes" "LLitmusRunner$Outcomes;", Cond.classLink RX6 39 RX2, Cond.instantiable RX2 7, Cond.initialized RX2, Cond.fieldLink RX6 44 "LitmusRunner" "ordering" "LLitmusRunner$Ordering;", Cond.fieldLink RX6 48 "LitmusRunner" "model" "I"]
def wsX6_init_r2 : List Cond := [Cond.fieldLink RX6 52 "LitmusRunner" "ways" "I", Cond.fieldLink RX6 55 "LitmusRunner" "found" "Z", Cond.methodLink RX6 9 yX4_init, Cond.instanceMethod yX4_init, Cond.code yX4_init cX4_init 1 none, Cond.methodLink RX4 3 objectInit, Cond.classLink RX4 9 "[[I", Cond.arrayClass .int, Cond.fieldLink RX4 11 "LitmusRunner$Programs" "rows" "[[I", Cond.fieldLink RX4 16 "LitmusRunner$Programs" "lengths" "[I", Cond.fieldLink RX4 20 "LitmusRunner$Programs" "draft" "[I", Cond.fieldLink RX4 23 "LitmusRunner$Programs" "accesses" "I", Cond.fieldLink RX4 27 "LitmusRunner$Programs" "readers" "I", Cond.methodLink RX6 18 yX1_init, Cond.instanceMethod yX1_init, Cond.code yX1_init cX1_init 1 none, Cond.methodLink RX1 3 objectInit, Cond.fieldLink RX1 9 "LitmusRunner$Choices" "chosen" "[I", Cond.fieldLink RX1 15 "LitmusRunner$Choices" "limits" "[I", Cond.fieldLink RX1 18 "LitmusRunner$Choices" "made" "I", Cond.fieldLink RX1 22 "LitmusRunner$Choices" "kept" "I", Cond.methodLink RX6 25 yX5_init, Cond.instanceMethod yX5_init, Cond.code yX5_init cX5_init 4 none]
def wsX6_init_r3 : List Cond := [Cond.methodLink RX5 3 objectInit, Cond.fieldLink RX5 9 "LitmusRunner$Way" "programs" "LLitmusRunner$Programs;", Cond.fieldLink RX5 15 "LitmusRunner$Way" "choices" "LLitmusRunner$Choices;", Cond.classLink RX5 19 RX0, Cond.fieldLink RX5 21 "LitmusRunner$Way" "accesses" "[LLitmusRunner$Access;", Cond.instantiable RX0 14, Cond.initialized RX0, Cond.fieldLink RX5 26 "LitmusRunner$Way" "values" "[I", Cond.fieldLink RX5 30 "LitmusRunner$Way" "carried" "[I", Cond.instanceMethod yX0_init, Cond.code yX0_init cX0_init 1 none, Cond.methodLink RX0 1 objectInit, Cond.methodLink RX6 34 yX3_init, Cond.instanceMethod yX3_init, Cond.code yX3_init cX3_init 1 none, Cond.methodLink RX3 3 objectInit, Cond.arrayClass .long, Cond.fieldLink RX3 9 "LitmusRunner$Outcomes" "rows" "[J", Cond.fieldLink RX3 15 "LitmusRunner$Outcomes" "size" "I", Cond.methodLink RX6 41 yX2_init, Cond.instanceMethod yX2_init, Cond.code yX2_init cX2_init 3 none, Cond.methodLink RX2 3 objectInit, Cond.fieldLink RX2 9 "LitmusRunner$Ordering" "way" "LLitmusRunner$Way;"]
def wsX6_init_r4 : List Cond := [Cond.fieldLink RX2 15 "LitmusRunner$Ordering" "outcomes" "LLitmusRunner$Outcomes;", Cond.fieldLink RX2 19 "LitmusRunner$Ordering" "spots" "[I", Cond.fieldLink RX2 23 "LitmusRunner$Ordering" "sources" "[I", Cond.fieldLink RX2 26 "LitmusRunner$Ordering" "latest" "[I", Cond.fieldLink RX2 29 "LitmusRunner$Ordering" "registersPart" "J", Cond.fieldLink RX2 33 "LitmusRunner$Ordering" "any" "Z"]
def wsX6_init : List Cond := .code yX6_init cX6_init 1 none :: ((wsX6_init_r1 ++ (wsX6_init_r2 ++ (wsX6_init_r3 ++ wsX6_init_r4))) ++ wsX40 ++ wsX60 ++ wsX10 ++ wsX50 ++ wsX30 ++ wsX20 ++ wsX00)
def wsX6_clear : List Cond := .code yX6_clear cX6_clear 1 (some .int) :: ([.fieldLink RX6 55 "LitmusRunner" "found" "Z", .fieldLink RX6 10 "LitmusRunner" "programs" "LLitmusRunner$Programs;", .methodLink RX6 59 yX4_removeAll, .instanceMethod yX4_removeAll, .selects RX4 yX4_removeAll yX4_removeAll, .initialized RX4, .code yX4_removeAll cX4_removeAll 2 (some .int), .fieldLink RX4 16 "LitmusRunner$Programs" "lengths" "[I", .fieldLink RX4 23 "LitmusRunner$Programs" "accesses" "I", .fieldLink RX4 27 "LitmusRunner$Programs" "readers" "I", .methodLink RX4 30 yX4_size, .instanceMethod yX4_size, .selects RX4 yX4_size yX4_size, .code yX4_size cX4_size 6 (some .int), .methodLink RX4 34 yJ7_fill_53178, .static yJ7_fill_53178, .initialized RJ7, .code yJ7_fill_53178 cJ7_fill_53178 4 none] ++ wsX60 ++ wsX40)
def wsX6_model : List Cond := .code yX6_model cX6_model 3 (some .int) :: ([.fieldLink RX6 48 "LitmusRunner" "model" "I", .fieldLink RX6 55 "LitmusRunner" "found" "Z"] ++ wsX60)
def wsX6_add_r1 : List Cond := [Cond.fieldLink RX6 10 "LitmusRunner" "programs" "LLitmusRunner$Programs;", Cond.fieldLink RX6 55 "LitmusRunner" "found" "Z", Cond.methodLink RX6 63 yX4_propose, Cond.instanceMethod yX4_propose, Cond.selects RX4 yX4_propose yX4_propose, Cond.initialized RX4, Cond.code yX4_propose cX4_propose 7 none, Cond.fieldLink RX4 20 "LitmusRunner$Programs" "draft" "[I", Cond.methodLink RX6 67 yX4_append, Cond.instanceMethod yX4_append, Cond.selects RX4 yX4_append yX4_append, Cond.code yX4_append cX4_append 6 (some .int), Cond.fieldLink RX4 23 "LitmusRunner$Programs" "accesses" "I", Cond.fieldLink RX4 27 "LitmusRunner$Programs" "readers" "I", Cond.fieldLink RX4 16 "LitmusRunner$Programs" "lengths" "[I", Cond.methodLink RX4 40 yX4_isDraftGood, Cond.instanceMethod yX4_isDraftGood, Cond.selects RX4 yX4_isDraftGood yX4_isDraftGood, Cond.code yX4_isDraftGood cX4_isDraftGood 3 (some .boolean), Cond.methodLink RX4 59 yX4_formOf, Cond.static yX4_formOf, Cond.code yX4_formOf cX4_formOf 1 (some (.object "java/lang/String")), Cond.methodLink RX4 63 yJ0_length_8abf5, Cond.instanceMethod yJ0_length_8abf5]
def wsX6_add_r2 : List Cond := [Cond.selects RJ0 yJ0_length_8abf5 yJ0_length_8abf5, Cond.initialized RJ0, Cond.code yJ0_length_8abf5 cJ0_length_8abf5 1 (some .int), Cond.fieldLink RJ0 9 "java/lang/String" "value" "[B", Cond.methodLink RJ0 335 yJ0_coder_7d493, Cond.instanceMethod yJ0_coder_7d493, Cond.selects RJ0 yJ0_coder_7d493 yJ0_coder_7d493, Cond.code yJ0_coder_7d493 cJ0_coder_7d493 1 (some .byte), Cond.fieldLink RJ0 38 "java/lang/String" "COMPACT_STRINGS" "Z", Cond.fieldLink RJ0 15 "java/lang/String" "coder" "B", Cond.methodLink RX4 68 yJ0_charAt_5068e, Cond.instanceMethod yJ0_charAt_5068e, Cond.selects RJ0 yJ0_charAt_5068e yJ0_charAt_5068e, Cond.code yJ0_charAt_5068e cJ0_charAt_5068e 2 (some .char), Cond.methodLink RJ0 492 yJ0_isLatin1_aae02, Cond.instanceMethod yJ0_isLatin1_aae02, Cond.selects RJ0 yJ0_isLatin1_aae02 yJ0_isLatin1_aae02, Cond.code yJ0_isLatin1_aae02 cJ0_isLatin1_aae02 1 (some .boolean), Cond.methodLink RJ0 495 yJ1_charAt_3b067, Cond.static yJ1_charAt_3b067, Cond.initialized RJ1, Cond.code yJ1_charAt_3b067 cJ1_charAt_3b067 2 (some .char), Cond.methodLink RJ1 9 yJ0_checkIndex_df160, Cond.static yJ0_checkIndex_df160]
def wsX6_add_r3 : List Cond := [Cond.code yJ0_checkIndex_df160 cJ0_checkIndex_df160 2 none, Cond.fieldLink RJ0 1053 "jdk/internal/util/Preconditions" "SIOOBE_FORMATTER" "Ljava/util/function/BiFunction;", Cond.methodLink RJ0 1059 yJ3_checkIndex_8e157, Cond.static yJ3_checkIndex_8e157, Cond.initialized RJ3, Cond.code yJ3_checkIndex_8e157 cJ3_checkIndex_8e157 3 (some .int), Cond.methodLink RJ0 498 yJ2_charAt_3b067, Cond.static yJ2_charAt_3b067, Cond.initialized RJ2, Cond.code yJ2_charAt_3b067 cJ2_charAt_3b067 2 (some .char), Cond.methodLink RJ2 67 yJ2_checkIndex_2214a, Cond.static yJ2_checkIndex_2214a, Cond.code yJ2_checkIndex_2214a cJ2_checkIndex_2214a 2 none, Cond.methodLink RJ2 48 yJ2_length_9d52b, Cond.static yJ2_length_9d52b, Cond.code yJ2_length_9d52b cJ2_length_9d52b 1 (some .int), Cond.methodLink RJ2 414 yJ0_checkIndex_df160, Cond.methodLink RJ2 71 yJ2_getChar_3b067, Cond.static yJ2_getChar_3b067, Cond.code yJ2_getChar_3b067 cJ2_getChar_3b067 2 (some .char), Cond.fieldLink RJ2 44 "java/lang/StringUTF16" "$assertionsDisabled" "Z", Cond.fieldLink RJ2 59 "java/lang/StringUTF16" "HI_BYTE_SHIFT" "I", Cond.fieldLink RJ2 63 "java/lang/StringUTF16" "LO_BYTE_SHIFT" "I", Cond.methodLink RX4 72 yX4_isOfSort]
def wsX6_add_r4 : List Cond := [Cond.static yX4_isOfSort, Cond.code yX4_isOfSort cX4_isOfSort 2 (some .boolean), Cond.static yX6_isAccess, Cond.initialized RX6, Cond.code yX6_isAccess cX6_isAccess 1 (some .boolean), Cond.methodLink RX6 132 yX6_isReader, Cond.static yX6_isReader, Cond.code yX6_isReader cX6_isReader 1 (some .boolean), Cond.methodLink RX6 135 yX6_isWriter, Cond.static yX6_isWriter, Cond.code yX6_isWriter cX6_isWriter 1 (some .boolean), Cond.methodLink RX4 51 yX4_row, Cond.instanceMethod yX4_row, Cond.selects RX4 yX4_row yX4_row, Cond.code yX4_row cX4_row 3 (some (.array .int)), Cond.fieldLink RX4 11 "LitmusRunner$Programs" "rows" "[[I", Cond.methodLink RX4 55 yX4_copyDraft, Cond.instanceMethod yX4_copyDraft, Cond.selects RX4 yX4_copyDraft yX4_copyDraft, Cond.code yX4_copyDraft cX4_copyDraft 4 none]
def wsX6_add : List Cond := .code yX6_add cX6_add 9 (some .int) :: ((wsX6_add_r1 ++ (wsX6_add_r2 ++ (wsX6_add_r3 ++ wsX6_add_r4))) ++ wsX60 ++ wsX40)
def wsX6_find_r1 : List Cond := [Cond.fieldLink RX6 55 "LitmusRunner" "found" "Z", Cond.fieldLink RX6 35 "LitmusRunner" "outcomes" "LLitmusRunner$Outcomes;", Cond.fieldLink RX6 19 "LitmusRunner" "choices" "LLitmusRunner$Choices;", Cond.fieldLink RX6 52 "LitmusRunner" "ways" "I", Cond.fieldLink RX6 28 "LitmusRunner" "way" "LLitmusRunner$Way;", Cond.fieldLink RX6 48 "LitmusRunner" "model" "I", Cond.fieldLink RX6 44 "LitmusRunner" "ordering" "LLitmusRunner$Ordering;", Cond.methodLink RX6 71 yX3_size, Cond.instanceMethod yX3_size, Cond.selects RX3 yX3_size yX3_size, Cond.initialized RX3, Cond.code yX3_size cX3_size 1 (some .int), Cond.fieldLink RX3 15 "LitmusRunner$Outcomes" "size" "I", Cond.methodLink RX6 74 yX3_removeAll, Cond.instanceMethod yX3_removeAll, Cond.selects RX3 yX3_removeAll yX3_removeAll, Cond.code yX3_removeAll cX3_removeAll 1 none, Cond.methodLink RX6 76 yX1_restart, Cond.instanceMethod yX1_restart, Cond.selects RX1 yX1_restart yX1_restart, Cond.initialized RX1, Cond.code yX1_restart cX1_restart 1 none, Cond.fieldLink RX1 18 "LitmusRunner$Choices" "made" "I", Cond.fieldLink RX1 22 "LitmusRunner$Choices" "kept" "I"]
def wsX6_find_r2 : List Cond := [Cond.methodLink RX6 79 yX5_walk, Cond.instanceMethod yX5_walk, Cond.selects RX5 yX5_walk yX5_walk, Cond.initialized RX5, Cond.code yX5_walk cX5_walk 3 none, Cond.fieldLink RX5 42 "LitmusRunner$Way" "model" "I", Cond.fieldLink RX5 33 "LitmusRunner$Way" "size" "I", Cond.fieldLink RX5 26 "LitmusRunner$Way" "values" "[I", Cond.fieldLink RX5 30 "LitmusRunner$Way" "carried" "[I", Cond.methodLink RX5 45 yJ7_fill_53178, Cond.static yJ7_fill_53178, Cond.initialized RJ7, Cond.code yJ7_fill_53178 cJ7_fill_53178 4 none, Cond.methodLink RX5 51 yX5_walkHart, Cond.instanceMethod yX5_walkHart, Cond.selects RX5 yX5_walkHart yX5_walkHart, Cond.code yX5_walkHart cX5_walkHart 5 none, Cond.fieldLink RX5 72 "LitmusRunner$Way" "hart" "I", Cond.fieldLink RX5 75 "LitmusRunner$Way" "first" "I", Cond.fieldLink RX5 78 "LitmusRunner$Way" "reserve" "I", Cond.fieldLink RX5 81 "LitmusRunner$Way" "byWay" "I", Cond.fieldLink RX5 84 "LitmusRunner$Way" "neededForPlaces" "I", Cond.fieldLink RX5 87 "LitmusRunner$Way" "fencedBeforeReads" "I", Cond.fieldLink RX5 90 "LitmusRunner$Way" "fencedBeforeWrites" "I"]
def wsX6_find_r3 : List Cond := [Cond.fieldLink RX5 9 "LitmusRunner$Way" "programs" "LLitmusRunner$Programs;", Cond.methodLink RX5 93 yX4_length, Cond.instanceMethod yX4_length, Cond.selects RX4 yX4_length yX4_length, Cond.initialized RX4, Cond.code yX4_length cX4_length 2 (some .int), Cond.fieldLink RX4 16 "LitmusRunner$Programs" "lengths" "[I", Cond.methodLink RX5 99 yX4_row, Cond.instanceMethod yX4_row, Cond.selects RX4 yX4_row yX4_row, Cond.code yX4_row cX4_row 3 (some (.array .int)), Cond.fieldLink RX4 11 "LitmusRunner$Programs" "rows" "[[I", Cond.methodLink RX5 103 yX5_leftOut, Cond.instanceMethod yX5_leftOut, Cond.selects RX5 yX5_leftOut yX5_leftOut, Cond.code yX5_leftOut cX5_leftOut 2 (some .int), Cond.methodLink RX5 111 yX5_carriedBy, Cond.instanceMethod yX5_carriedBy, Cond.selects RX5 yX5_carriedBy yX5_carriedBy, Cond.code yX5_carriedBy cX5_carriedBy 2 (some .int), Cond.methodLink RX5 114 yX5_valueOf, Cond.instanceMethod yX5_valueOf, Cond.selects RX5 yX5_valueOf yX5_valueOf, Cond.code yX5_valueOf cX5_valueOf 2 (some .int)]
def wsX6_find_r4 : List Cond := [Cond.methodLink RX5 107 yX5_step, Cond.instanceMethod yX5_step, Cond.selects RX5 yX5_step yX5_step, Cond.code yX5_step cX5_step 2 none, Cond.methodLink RX5 117 yX5_fence, Cond.instanceMethod yX5_fence, Cond.selects RX5 yX5_fence yX5_fence, Cond.code yX5_fence cX5_fence 8 none, Cond.fieldLink RX5 21 "LitmusRunner$Way" "accesses" "[LLitmusRunner$Access;", Cond.methodLink RX5 121 yX5_setRegister, Cond.instanceMethod yX5_setRegister, Cond.selects RX5 yX5_setRegister yX5_setRegister, Cond.code yX5_setRegister cX5_setRegister 4 none, Cond.methodLink RX5 125 yX5_fails, Cond.instanceMethod yX5_fails, Cond.selects RX5 yX5_fails yX5_fails, Cond.code yX5_fails cX5_fails 3 (some .boolean), Cond.fieldLink RX5 15 "LitmusRunner$Way" "choices" "LLitmusRunner$Choices;", Cond.methodLink RX5 132 yX5_place, Cond.instanceMethod yX5_place, Cond.selects RX5 yX5_place yX5_place, Cond.code yX5_place cX5_place 3 (some .int), Cond.methodLink RX5 136 yX1_choose, Cond.instanceMethod yX1_choose]
def wsX6_find_r5 : List Cond := [Cond.selects RX1 yX1_choose yX1_choose, Cond.code yX1_choose cX1_choose 2 (some .int), Cond.fieldLink RX1 9 "LitmusRunner$Choices" "chosen" "[I", Cond.fieldLink RX1 15 "LitmusRunner$Choices" "limits" "[I", Cond.methodLink RX5 129 yX5_makeAccess, Cond.instanceMethod yX5_makeAccess, Cond.selects RX5 yX5_makeAccess yX5_makeAccess, Cond.code yX5_makeAccess cX5_makeAccess 6 none, Cond.static yX6_isReader, Cond.initialized RX6, Cond.code yX6_isReader cX6_isReader 1 (some .boolean), Cond.static yX6_isWriter, Cond.code yX6_isWriter cX6_isWriter 1 (some .boolean), Cond.methodLink RX5 161 yX5_written, Cond.instanceMethod yX5_written, Cond.selects RX5 yX5_written yX5_written, Cond.code yX5_written cX5_written 4 (some .int), Cond.methodLink RX5 165 yX5_relate, Cond.instanceMethod yX5_relate, Cond.selects RX5 yX5_relate yX5_relate, Cond.code yX5_relate cX5_relate 5 none, Cond.methodLink RX5 178 yX5_isOrdered, Cond.instanceMethod yX5_isOrdered, Cond.selects RX5 yX5_isOrdered yX5_isOrdered]
def wsX6_find_r6 : List Cond := [Cond.code yX5_isOrdered cX5_isOrdered 13 (some .boolean), Cond.methodLink RX6 83 yX5_isPlausible, Cond.instanceMethod yX5_isPlausible, Cond.selects RX5 yX5_isPlausible yX5_isPlausible, Cond.code yX5_isPlausible cX5_isPlausible 2 (some .boolean), Cond.methodLink RX5 62 yX5_isWrittenFor, Cond.instanceMethod yX5_isWrittenFor, Cond.selects RX5 yX5_isWrittenFor yX5_isWrittenFor, Cond.code yX5_isWrittenFor cX5_isWrittenFor 5 (some .boolean), Cond.methodLink RX6 87 yX2_search, Cond.instanceMethod yX2_search, Cond.selects RX2 yX2_search yX2_search, Cond.initialized RX2, Cond.code yX2_search cX2_search 1 (some .boolean), Cond.fieldLink RX2 33 "LitmusRunner$Ordering" "any" "Z", Cond.fieldLink RX2 9 "LitmusRunner$Ordering" "way" "LLitmusRunner$Way;", Cond.fieldLink RX2 29 "LitmusRunner$Ordering" "registersPart" "J", Cond.fieldLink RX2 26 "LitmusRunner$Ordering" "latest" "[I", Cond.methodLink RX2 37 yX5_registersPart, Cond.instanceMethod yX5_registersPart, Cond.selects RX5 yX5_registersPart yX5_registersPart, Cond.code yX5_registersPart cX5_registersPart 4 (some .long), Cond.constantLong RX5 37 (4), Cond.methodLink RX2 42 yJ7_fill_53178]
def wsX6_find_r7 : List Cond := [Cond.methodLink RX2 48 yX2_extend, Cond.instanceMethod yX2_extend, Cond.selects RX2 yX2_extend yX2_extend, Cond.code yX2_extend cX2_extend 5 none, Cond.fieldLink RX2 15 "LitmusRunner$Ordering" "outcomes" "LLitmusRunner$Outcomes;", Cond.fieldLink RX2 23 "LitmusRunner$Ordering" "sources" "[I", Cond.methodLink RX2 52 yX5_size, Cond.instanceMethod yX5_size, Cond.selects RX5 yX5_size yX5_size, Cond.code yX5_size cX5_size 1 (some .int), Cond.methodLink RX2 56 yX5_locationsPart, Cond.instanceMethod yX5_locationsPart, Cond.selects RX5 yX5_locationsPart yX5_locationsPart, Cond.code yX5_locationsPart cX5_locationsPart 5 (some .long), Cond.methodLink RX2 60 yX3_keep, Cond.instanceMethod yX3_keep, Cond.selects RX3 yX3_keep yX3_keep, Cond.code yX3_keep cX3_keep 4 none, Cond.fieldLink RX3 9 "LitmusRunner$Outcomes" "rows" "[J", Cond.methodLink RX3 31 arraycopyName, Cond.native arraycopyName, Cond.static arraycopyName, Cond.initialized "java/lang/System", Cond.methodLink RX3 21 yX3_spotOf]
def wsX6_find_r8 : List Cond := [Cond.instanceMethod yX3_spotOf, Cond.selects RX3 yX3_spotOf yX3_spotOf, Cond.code yX3_spotOf cX3_spotOf 7 (some .int), Cond.methodLink RX3 25 yJ7_copyOf_c38d5, Cond.static yJ7_copyOf_c38d5, Cond.code yJ7_copyOf_c38d5 cJ7_copyOf_c38d5 3 (some (.array .long)), Cond.methodLink RJ7 319 ⟨"[J", "clone", "()Ljava/lang/Object;"⟩, Cond.sameMethod "[J" "java/lang/Object" "clone" "()Ljava/lang/Object;", Cond.native ⟨"java/lang/Object", "clone", "()Ljava/lang/Object;"⟩, Cond.instanceMethod ⟨"java/lang/Object", "clone", "()Ljava/lang/Object;"⟩, Cond.selects "[J" ⟨"[J", "clone", "()Ljava/lang/Object;"⟩ ⟨"java/lang/Object", "clone", "()Ljava/lang/Object;"⟩, Cond.classLink RJ7 320 "[J", Cond.arrayClass .long, Cond.methodLink RJ7 304 Lib.Math.min.name, Cond.static Lib.Math.min.name, Cond.initialized "java/lang/Math", Cond.code Lib.Math.min.name Lib.Math.min.code 2 (some .int), Cond.methodLink RJ7 150 arraycopyName, Cond.methodLink RX2 66 yX5_accessAt, Cond.instanceMethod yX5_accessAt, Cond.selects RX5 yX5_accessAt yX5_accessAt, Cond.code yX5_accessAt cX5_accessAt 2 (some (.object "LitmusRunner$Access")), Cond.methodLink RX2 70 yX2_isIn, Cond.static yX2_isIn]
def wsX6_find_r9 : List Cond := [Cond.code yX2_isIn cX2_isIn 2 (some .boolean), Cond.methodLink RX2 83 yX2_sourceOf, Cond.instanceMethod yX2_sourceOf, Cond.selects RX2 yX2_sourceOf yX2_sourceOf, Cond.code yX2_sourceOf cX2_sourceOf 4 (some .int), Cond.methodLink RX2 87 yX2_mayReadHere, Cond.instanceMethod yX2_mayReadHere, Cond.selects RX2 yX2_mayReadHere yX2_mayReadHere, Cond.code yX2_mayReadHere cX2_mayReadHere 5 (some .boolean), Cond.methodLink RX2 113 yX2_mayForward, Cond.instanceMethod yX2_mayForward, Cond.selects RX2 yX2_mayForward yX2_mayForward, Cond.code yX2_mayForward cX2_mayForward 4 (some .boolean), Cond.methodLink RX2 116 yX2_agreesWithTwins, Cond.instanceMethod yX2_agreesWithTwins, Cond.selects RX2 yX2_agreesWithTwins yX2_agreesWithTwins, Cond.code yX2_agreesWithTwins cX2_agreesWithTwins 4 (some .boolean), Cond.methodLink RX2 90 yX2_isAtomic, Cond.instanceMethod yX2_isAtomic, Cond.selects RX2 yX2_isAtomic yX2_isAtomic, Cond.code yX2_isAtomic cX2_isAtomic 8 (some .boolean), Cond.fieldLink RX2 19 "LitmusRunner$Ordering" "spots" "[I", Cond.methodLink RX2 94 yX2_place, Cond.instanceMethod yX2_place]
def wsX6_find_r10 : List Cond := [Cond.selects RX2 yX2_place yX2_place, Cond.code yX2_place cX2_place 6 none, Cond.methodLink RX6 90 yX1_advance, Cond.instanceMethod yX1_advance, Cond.selects RX1 yX1_advance yX1_advance, Cond.code yX1_advance cX1_advance 2 (some .boolean)]
def wsX6_find : List Cond := .code yX6_find cX6_find 3 (some .int) :: ((wsX6_find_r1 ++ (wsX6_find_r2 ++ (wsX6_find_r3 ++ (wsX6_find_r4 ++ (wsX6_find_r5 ++ (wsX6_find_r6 ++ (wsX6_find_r7 ++ (wsX6_find_r8 ++ (wsX6_find_r9 ++ wsX6_find_r10))))))))) ++ wsX60 ++ wsX30 ++ wsX10 ++ wsX50 ++ wsX40 ++ wsX00 ++ wsX20)
def wsX6_outcome : List Cond := .code yX6_outcome cX6_outcome 2 (some .long) :: ([.fieldLink RX6 55 "LitmusRunner" "found" "Z", .fieldLink RX6 35 "LitmusRunner" "outcomes" "LLitmusRunner$Outcomes;", .constantLong RX6 97 (-1), .methodLink RX6 93 yX3_at, .instanceMethod yX3_at, .selects RX3 yX3_at yX3_at, .initialized RX3, .code yX3_at cX3_at 2 (some .long), .fieldLink RX3 15 "LitmusRunner$Outcomes" "size" "I", .fieldLink RX3 9 "LitmusRunner$Outcomes" "rows" "[J", .constantLong RX3 19 (-1)] ++ wsX60 ++ wsX30)
def wsX6_isPart : List Cond := .code yX6_isPart cX6_isPart 1 (some .boolean) :: ([])
def wsX6_isValue : List Cond := .code yX6_isValue cX6_isValue 1 (some .boolean) :: ([])
def wsX6_both : List Cond := .code yX6_both cX6_both 5 (some .int) :: ([.fieldLink RX6 55 "LitmusRunner" "found" "Z", .fieldLink RX6 35 "LitmusRunner" "outcomes" "LLitmusRunner$Outcomes;", .methodLink RX6 103 yX6_isPart, .static yX6_isPart, .initialized RX6, .code yX6_isPart cX6_isPart 1 (some .boolean), .methodLink RX6 107 yX6_isValue, .static yX6_isValue, .code yX6_isValue cX6_isValue 1 (some .boolean), .methodLink RX6 110 yX3_howMany, .instanceMethod yX3_howMany, .selects RX3 yX3_howMany yX3_howMany, .initialized RX3, .code yX3_howMany cX3_howMany 7 (some .int), .fieldLink RX3 15 "LitmusRunner$Outcomes" "size" "I", .fieldLink RX3 9 "LitmusRunner$Outcomes" "rows" "[J", .methodLink RX3 37 yX3_partOf, .static yX3_partOf, .code yX3_partOf cX3_partOf 3 (some .int)] ++ wsX60 ++ wsX30)
def wsX6_with : List Cond := .code yX6_with cX6_with 3 (some .int) :: ([.methodLink RX6 99 yX6_both, .instanceMethod yX6_both, .selects RX6 yX6_both yX6_both, .initialized RX6, .code yX6_both cX6_both 5 (some .int), .fieldLink RX6 55 "LitmusRunner" "found" "Z", .fieldLink RX6 35 "LitmusRunner" "outcomes" "LLitmusRunner$Outcomes;", .methodLink RX6 103 yX6_isPart, .static yX6_isPart, .code yX6_isPart cX6_isPart 1 (some .boolean), .methodLink RX6 107 yX6_isValue, .static yX6_isValue, .code yX6_isValue cX6_isValue 1 (some .boolean), .methodLink RX6 110 yX3_howMany, .instanceMethod yX3_howMany, .selects RX3 yX3_howMany yX3_howMany, .initialized RX3, .code yX3_howMany cX3_howMany 7 (some .int), .fieldLink RX3 15 "LitmusRunner$Outcomes" "size" "I", .fieldLink RX3 9 "LitmusRunner$Outcomes" "rows" "[J", .methodLink RX3 37 yX3_partOf, .static yX3_partOf, .code yX3_partOf cX3_partOf 3 (some .int)] ++ wsX60 ++ wsX30)
def wsX6_is : List Cond := .code yX6_is cX6_is 3 (some .int) :: ([.fieldLink RX6 55 "LitmusRunner" "found" "Z", .fieldLink RX6 35 "LitmusRunner" "outcomes" "LLitmusRunner$Outcomes;", .methodLink RX6 113 yX3_holds, .instanceMethod yX3_holds, .selects RX3 yX3_holds yX3_holds, .initialized RX3, .code yX3_holds cX3_holds 4 (some .boolean), .fieldLink RX3 15 "LitmusRunner$Outcomes" "size" "I", .fieldLink RX3 9 "LitmusRunner$Outcomes" "rows" "[J", .methodLink RX3 21 yX3_spotOf, .instanceMethod yX3_spotOf, .selects RX3 yX3_spotOf yX3_spotOf, .code yX3_spotOf cX3_spotOf 7 (some .int)] ++ wsX60 ++ wsX30)
def wsX6_instruction : List Cond := .code yX6_instruction cX6_instruction 4 (some .int) :: ([.fieldLink RX6 10 "LitmusRunner" "programs" "LLitmusRunner$Programs;", .methodLink RX6 117 yX4_has, .instanceMethod yX4_has, .selects RX4 yX4_has yX4_has, .initialized RX4, .code yX4_has cX4_has 3 (some .boolean), .fieldLink RX4 16 "LitmusRunner$Programs" "lengths" "[I", .methodLink RX6 121 yX4_row, .instanceMethod yX4_row, .selects RX4 yX4_row yX4_row, .code yX4_row cX4_row 3 (some (.array .int)), .fieldLink RX4 11 "LitmusRunner$Programs" "rows" "[[I"] ++ wsX60 ++ wsX40)
def wsX6_count_r1 : List Cond := [Cond.fieldLink RX6 10 "LitmusRunner" "programs" "LLitmusRunner$Programs;", Cond.fieldLink RX6 55 "LitmusRunner" "found" "Z", Cond.fieldLink RX6 35 "LitmusRunner" "outcomes" "LLitmusRunner$Outcomes;", Cond.fieldLink RX6 48 "LitmusRunner" "model" "I", Cond.fieldLink RX6 52 "LitmusRunner" "ways" "I", Cond.methodLink RX6 125 yX4_size, Cond.instanceMethod yX4_size, Cond.selects RX4 yX4_size yX4_size, Cond.initialized RX4, Cond.code yX4_size cX4_size 6 (some .int), Cond.fieldLink RX4 16 "LitmusRunner$Programs" "lengths" "[I", Cond.methodLink RX6 126 yX4_accesses, Cond.instanceMethod yX4_accesses, Cond.selects RX4 yX4_accesses yX4_accesses, Cond.code yX4_accesses cX4_accesses 1 (some .int), Cond.fieldLink RX4 23 "LitmusRunner$Programs" "accesses" "I", Cond.methodLink RX6 129 yX4_readers, Cond.instanceMethod yX4_readers, Cond.selects RX4 yX4_readers yX4_readers, Cond.code yX4_readers cX4_readers 1 (some .int), Cond.fieldLink RX4 27 "LitmusRunner$Programs" "readers" "I", Cond.methodLink RX6 71 yX3_size, Cond.instanceMethod yX3_size, Cond.selects RX3 yX3_size yX3_size]
def wsX6_count_r2 : List Cond := [Cond.initialized RX3, Cond.code yX3_size cX3_size 1 (some .int), Cond.fieldLink RX3 15 "LitmusRunner$Outcomes" "size" "I"]
def wsX6_count : List Cond := .code yX6_count cX6_count 2 (some .int) :: ((wsX6_count_r1 ++ wsX6_count_r2) ++ wsX60 ++ wsX40 ++ wsX30)
def wsX7_init_r1 : List Cond := [Cond.methodLink RX7 1 objectInit, Cond.instanceMethod objectInit, Cond.code objectInit ⟨#[0xb1]⟩ 1 none, Cond.arrayClass .int, Cond.fieldLink RX7 7 "LitmusRunnerModel" "programs" "[I", Cond.fieldLink RX7 13 "LitmusRunnerModel" "lengths" "[I", Cond.constant RX7 16 (40000), Cond.arrayClass .long, Cond.fieldLink RX7 17 "LitmusRunnerModel" "outcomes" "[J", Cond.fieldLink RX7 21 "LitmusRunnerModel" "choice" "[I", Cond.fieldLink RX7 24 "LitmusRunnerModel" "options" "[I", Cond.fieldLink RX7 27 "LitmusRunnerModel" "values" "[I", Cond.fieldLink RX7 30 "LitmusRunnerModel" "carry" "[I", Cond.fieldLink RX7 33 "LitmusRunnerModel" "hartOf" "[I", Cond.fieldLink RX7 36 "LitmusRunnerModel" "kindOf" "[I", Cond.fieldLink RX7 39 "LitmusRunnerModel" "locationOf" "[I", Cond.fieldLink RX7 42 "LitmusRunnerModel" "read" "[I", Cond.fieldLink RX7 45 "LitmusRunnerModel" "written" "[I", Cond.fieldLink RX7 48 "LitmusRunnerModel" "marks" "[I", Cond.fieldLink RX7 51 "LitmusRunnerModel" "byPlace" "[I", Cond.fieldLink RX7 54 "LitmusRunnerModel" "byValue" "[I", Cond.fieldLink RX7 57 "LitmusRunnerModel" "byWay" "[I", Cond.fieldLink RX7 60 "LitmusRunnerModel" "reserve" "[I", Cond.fieldLink RX7 63 "LitmusRunnerModel" "fenceHart" "[I"]
def wsX7_init_r2 : List Cond := [Cond.fieldLink RX7 66 "LitmusRunnerModel" "fenceAt" "[I", Cond.fieldLink RX7 69 "LitmusRunnerModel" "fenceFirst" "[I", Cond.fieldLink RX7 72 "LitmusRunnerModel" "fenceSecond" "[I", Cond.arrayClass .boolean, Cond.fieldLink RX7 75 "LitmusRunnerModel" "must" "[Z", Cond.fieldLink RX7 79 "LitmusRunnerModel" "order" "[I", Cond.fieldLink RX7 82 "LitmusRunnerModel" "place" "[I", Cond.fieldLink RX7 85 "LitmusRunnerModel" "source" "[I", Cond.fieldLink RX7 88 "LitmusRunnerModel" "model" "I"]
def wsX7_init : List Cond := .code yX7_init cX7_init 1 none :: ((wsX7_init_r1 ++ wsX7_init_r2) ++ wsX70)
def wsX7_in : List Cond := .code yX7_in cX7_in 3 (some .boolean) :: ([])
def wsX7_clear : List Cond := .code yX7_clear cX7_clear 3 (some .int) :: ([.fieldLink RX7 13 "LitmusRunnerModel" "lengths" "[I", .fieldLink RX7 92 "LitmusRunnerModel" "isFound" "Z"] ++ wsX70)
def wsX7_model : List Cond := .code yX7_model cX7_model 3 (some .int) :: ([.fieldLink RX7 88 "LitmusRunnerModel" "model" "I", .fieldLink RX7 92 "LitmusRunnerModel" "isFound" "Z", .methodLink RX7 96 yX7_in, .static yX7_in, .initialized RX7, .code yX7_in cX7_in 3 (some .boolean)] ++ wsX70)
def wsX7_isRegister : List Cond := .code yX7_isRegister cX7_isRegister 1 (some .boolean) :: ([.methodLink RX7 96 yX7_in, .static yX7_in, .initialized RX7, .code yX7_in cX7_in 3 (some .boolean)])
def wsX7_isPlace : List Cond := .code yX7_isPlace cX7_isPlace 2 (some .boolean) :: ([.methodLink RX7 96 yX7_in, .static yX7_in, .initialized RX7, .code yX7_in cX7_in 3 (some .boolean)])
def wsX7_isGood : List Cond := .code yX7_isGood cX7_isGood 6 (some .boolean) :: ([.methodLink RX7 100 yX7_isRegister, .static yX7_isRegister, .initialized RX7, .code yX7_isRegister cX7_isRegister 1 (some .boolean), .methodLink RX7 96 yX7_in, .static yX7_in, .code yX7_in cX7_in 3 (some .boolean), .methodLink RX7 104 yX7_isPlace, .static yX7_isPlace, .code yX7_isPlace cX7_isPlace 2 (some .boolean)])
def wsX7_numbersOf : List Cond := .code yX7_numbersOf cX7_numbersOf 1 (some .int) :: ([])
def wsX7_isReading : List Cond := .code yX7_isReading cX7_isReading 1 (some .boolean) :: ([])
def wsX7_isWriting : List Cond := .code yX7_isWriting cX7_isWriting 1 (some .boolean) :: ([])
def wsX7_instructions : List Cond := .code yX7_instructions cX7_instructions 6 (some .int) :: ([.fieldLink RX7 13 "LitmusRunnerModel" "lengths" "[I", .fieldLink RX7 7 "LitmusRunnerModel" "programs" "[I", .methodLink RX7 108 yX7_isReading, .static yX7_isReading, .initialized RX7, .code yX7_isReading cX7_isReading 1 (some .boolean)] ++ wsX70)
def wsX7_add_r1 : List Cond := [Cond.fieldLink RX7 13 "LitmusRunnerModel" "lengths" "[I", Cond.fieldLink RX7 7 "LitmusRunnerModel" "programs" "[I", Cond.fieldLink RX7 92 "LitmusRunnerModel" "isFound" "Z", Cond.methodLink RX7 96 yX7_in, Cond.static yX7_in, Cond.initialized RX7, Cond.code yX7_in cX7_in 3 (some .boolean), Cond.methodLink RX7 111 yX7_isGood, Cond.static yX7_isGood, Cond.code yX7_isGood cX7_isGood 6 (some .boolean), Cond.methodLink RX7 100 yX7_isRegister, Cond.static yX7_isRegister, Cond.code yX7_isRegister cX7_isRegister 1 (some .boolean), Cond.methodLink RX7 104 yX7_isPlace, Cond.static yX7_isPlace, Cond.code yX7_isPlace cX7_isPlace 2 (some .boolean), Cond.methodLink RX7 115 yX7_instructions, Cond.instanceMethod yX7_instructions, Cond.selects RX7 yX7_instructions yX7_instructions, Cond.code yX7_instructions cX7_instructions 6 (some .int), Cond.methodLink RX7 108 yX7_isReading, Cond.static yX7_isReading, Cond.code yX7_isReading cX7_isReading 1 (some .boolean), Cond.methodLink RX7 119 yX7_numbersOf]
def wsX7_add_r2 : List Cond := [Cond.static yX7_numbersOf, Cond.code yX7_numbersOf cX7_numbersOf 1 (some .int)]
def wsX7_add : List Cond := .code yX7_add cX7_add 11 (some .int) :: ((wsX7_add_r1 ++ wsX7_add_r2) ++ wsX70)
def wsX7_choose : List Cond := .code yX7_choose cX7_choose 2 (some .int) :: ([.fieldLink RX7 122 "LitmusRunnerModel" "told" "I", .fieldLink RX7 125 "LitmusRunnerModel" "choices" "I", .fieldLink RX7 21 "LitmusRunnerModel" "choice" "[I", .fieldLink RX7 24 "LitmusRunnerModel" "options" "[I"] ++ wsX70)
def wsX7_nextWay : List Cond := .code yX7_nextWay cX7_nextWay 1 (some .boolean) :: ([.fieldLink RX7 125 "LitmusRunnerModel" "choices" "I", .fieldLink RX7 21 "LitmusRunnerModel" "choice" "[I", .fieldLink RX7 24 "LitmusRunnerModel" "options" "[I"] ++ wsX70)
def wsX7_access_r1 : List Cond := [Cond.fieldLink RX7 7 "LitmusRunnerModel" "programs" "[I", Cond.fieldLink RX7 27 "LitmusRunnerModel" "values" "[I", Cond.fieldLink RX7 141 "LitmusRunnerModel" "reserved" "I", Cond.fieldLink RX7 39 "LitmusRunnerModel" "locationOf" "[I", Cond.fieldLink RX7 30 "LitmusRunnerModel" "carry" "[I", Cond.fieldLink RX7 60 "LitmusRunnerModel" "reserve" "[I", Cond.fieldLink RX7 128 "LitmusRunnerModel" "accesses" "I", Cond.fieldLink RX7 33 "LitmusRunnerModel" "hartOf" "[I", Cond.fieldLink RX7 36 "LitmusRunnerModel" "kindOf" "[I", Cond.fieldLink RX7 48 "LitmusRunnerModel" "marks" "[I", Cond.fieldLink RX7 51 "LitmusRunnerModel" "byPlace" "[I", Cond.fieldLink RX7 57 "LitmusRunnerModel" "byWay" "[I", Cond.fieldLink RX7 138 "LitmusRunnerModel" "way" "I", Cond.fieldLink RX7 54 "LitmusRunnerModel" "byValue" "[I", Cond.fieldLink RX7 42 "LitmusRunnerModel" "read" "[I", Cond.fieldLink RX7 45 "LitmusRunnerModel" "written" "[I", Cond.methodLink RX7 148 yX7_choose, Cond.instanceMethod yX7_choose, Cond.selects RX7 yX7_choose yX7_choose, Cond.initialized RX7, Cond.code yX7_choose cX7_choose 2 (some .int), Cond.fieldLink RX7 122 "LitmusRunnerModel" "told" "I", Cond.fieldLink RX7 125 "LitmusRunnerModel" "choices" "I", Cond.fieldLink RX7 21 "LitmusRunnerModel" "choice" "[I"]
def wsX7_access_r2 : List Cond := [Cond.fieldLink RX7 24 "LitmusRunnerModel" "options" "[I", Cond.methodLink RX7 151 yX7_isWriting, Cond.static yX7_isWriting, Cond.code yX7_isWriting cX7_isWriting 1 (some .boolean), Cond.methodLink RX7 108 yX7_isReading, Cond.static yX7_isReading, Cond.code yX7_isReading cX7_isReading 1 (some .boolean)]
def wsX7_access : List Cond := .code yX7_access cX7_access 14 none :: ((wsX7_access_r1 ++ wsX7_access_r2) ++ wsX70)
def wsX7_doHart_r1 : List Cond := [Cond.fieldLink RX7 138 "LitmusRunnerModel" "way" "I", Cond.fieldLink RX7 141 "LitmusRunnerModel" "reserved" "I", Cond.fieldLink RX7 13 "LitmusRunnerModel" "lengths" "[I", Cond.fieldLink RX7 7 "LitmusRunnerModel" "programs" "[I", Cond.fieldLink RX7 63 "LitmusRunnerModel" "fenceHart" "[I", Cond.fieldLink RX7 131 "LitmusRunnerModel" "fences" "I", Cond.fieldLink RX7 66 "LitmusRunnerModel" "fenceAt" "[I", Cond.fieldLink RX7 128 "LitmusRunnerModel" "accesses" "I", Cond.fieldLink RX7 69 "LitmusRunnerModel" "fenceFirst" "[I", Cond.fieldLink RX7 72 "LitmusRunnerModel" "fenceSecond" "[I", Cond.fieldLink RX7 27 "LitmusRunnerModel" "values" "[I", Cond.fieldLink RX7 30 "LitmusRunnerModel" "carry" "[I", Cond.methodLink RX7 144 yX7_access, Cond.instanceMethod yX7_access, Cond.selects RX7 yX7_access yX7_access, Cond.initialized RX7, Cond.code yX7_access cX7_access 14 none, Cond.fieldLink RX7 39 "LitmusRunnerModel" "locationOf" "[I", Cond.fieldLink RX7 60 "LitmusRunnerModel" "reserve" "[I", Cond.fieldLink RX7 33 "LitmusRunnerModel" "hartOf" "[I", Cond.fieldLink RX7 36 "LitmusRunnerModel" "kindOf" "[I", Cond.fieldLink RX7 48 "LitmusRunnerModel" "marks" "[I", Cond.fieldLink RX7 51 "LitmusRunnerModel" "byPlace" "[I", Cond.fieldLink RX7 57 "LitmusRunnerModel" "byWay" "[I"]
def wsX7_doHart_r2 : List Cond := [Cond.fieldLink RX7 54 "LitmusRunnerModel" "byValue" "[I", Cond.fieldLink RX7 42 "LitmusRunnerModel" "read" "[I", Cond.fieldLink RX7 45 "LitmusRunnerModel" "written" "[I", Cond.methodLink RX7 148 yX7_choose, Cond.instanceMethod yX7_choose, Cond.selects RX7 yX7_choose yX7_choose, Cond.code yX7_choose cX7_choose 2 (some .int), Cond.fieldLink RX7 122 "LitmusRunnerModel" "told" "I", Cond.fieldLink RX7 125 "LitmusRunnerModel" "choices" "I", Cond.fieldLink RX7 21 "LitmusRunnerModel" "choice" "[I", Cond.fieldLink RX7 24 "LitmusRunnerModel" "options" "[I", Cond.methodLink RX7 151 yX7_isWriting, Cond.static yX7_isWriting, Cond.code yX7_isWriting cX7_isWriting 1 (some .boolean), Cond.methodLink RX7 108 yX7_isReading, Cond.static yX7_isReading, Cond.code yX7_isReading cX7_isReading 1 (some .boolean)]
def wsX7_doHart : List Cond := .code yX7_doHart cX7_doHart 10 none :: ((wsX7_doHart_r1 ++ wsX7_doHart_r2) ++ wsX70)
def wsX7_doWay_r1 : List Cond := [Cond.fieldLink RX7 122 "LitmusRunnerModel" "told" "I", Cond.fieldLink RX7 128 "LitmusRunnerModel" "accesses" "I", Cond.fieldLink RX7 131 "LitmusRunnerModel" "fences" "I", Cond.fieldLink RX7 27 "LitmusRunnerModel" "values" "[I", Cond.fieldLink RX7 30 "LitmusRunnerModel" "carry" "[I", Cond.methodLink RX7 134 yX7_doHart, Cond.instanceMethod yX7_doHart, Cond.selects RX7 yX7_doHart yX7_doHart, Cond.initialized RX7, Cond.code yX7_doHart cX7_doHart 10 none, Cond.fieldLink RX7 138 "LitmusRunnerModel" "way" "I", Cond.fieldLink RX7 141 "LitmusRunnerModel" "reserved" "I", Cond.fieldLink RX7 13 "LitmusRunnerModel" "lengths" "[I", Cond.fieldLink RX7 7 "LitmusRunnerModel" "programs" "[I", Cond.fieldLink RX7 63 "LitmusRunnerModel" "fenceHart" "[I", Cond.fieldLink RX7 66 "LitmusRunnerModel" "fenceAt" "[I", Cond.fieldLink RX7 69 "LitmusRunnerModel" "fenceFirst" "[I", Cond.fieldLink RX7 72 "LitmusRunnerModel" "fenceSecond" "[I", Cond.methodLink RX7 144 yX7_access, Cond.instanceMethod yX7_access, Cond.selects RX7 yX7_access yX7_access, Cond.code yX7_access cX7_access 14 none, Cond.fieldLink RX7 39 "LitmusRunnerModel" "locationOf" "[I", Cond.fieldLink RX7 60 "LitmusRunnerModel" "reserve" "[I"]
def wsX7_doWay_r2 : List Cond := [Cond.fieldLink RX7 33 "LitmusRunnerModel" "hartOf" "[I", Cond.fieldLink RX7 36 "LitmusRunnerModel" "kindOf" "[I", Cond.fieldLink RX7 48 "LitmusRunnerModel" "marks" "[I", Cond.fieldLink RX7 51 "LitmusRunnerModel" "byPlace" "[I", Cond.fieldLink RX7 57 "LitmusRunnerModel" "byWay" "[I", Cond.fieldLink RX7 54 "LitmusRunnerModel" "byValue" "[I", Cond.fieldLink RX7 42 "LitmusRunnerModel" "read" "[I", Cond.fieldLink RX7 45 "LitmusRunnerModel" "written" "[I", Cond.methodLink RX7 148 yX7_choose, Cond.instanceMethod yX7_choose, Cond.selects RX7 yX7_choose yX7_choose, Cond.code yX7_choose cX7_choose 2 (some .int), Cond.fieldLink RX7 125 "LitmusRunnerModel" "choices" "I", Cond.fieldLink RX7 21 "LitmusRunnerModel" "choice" "[I", Cond.fieldLink RX7 24 "LitmusRunnerModel" "options" "[I", Cond.methodLink RX7 151 yX7_isWriting, Cond.static yX7_isWriting, Cond.code yX7_isWriting cX7_isWriting 1 (some .boolean), Cond.methodLink RX7 108 yX7_isReading, Cond.static yX7_isReading, Cond.code yX7_isReading cX7_isReading 1 (some .boolean)]
def wsX7_doWay : List Cond := .code yX7_doWay cX7_doWay 2 none :: ((wsX7_doWay_r1 ++ wsX7_doWay_r2) ++ wsX70)
def wsX7_reads : List Cond := .code yX7_reads cX7_reads 2 (some .boolean) :: ([.fieldLink RX7 36 "LitmusRunnerModel" "kindOf" "[I", .methodLink RX7 108 yX7_isReading, .static yX7_isReading, .initialized RX7, .code yX7_isReading cX7_isReading 1 (some .boolean)] ++ wsX70)
def wsX7_writes : List Cond := .code yX7_writes cX7_writes 2 (some .boolean) :: ([.fieldLink RX7 36 "LitmusRunnerModel" "kindOf" "[I", .methodLink RX7 151 yX7_isWriting, .static yX7_isWriting, .initialized RX7, .code yX7_isWriting cX7_isWriting 1 (some .boolean)] ++ wsX70)
def wsX7_needs : List Cond := .code yX7_needs cX7_needs 2 (some .boolean) :: ([])
def wsX7_isFenced : List Cond := .code yX7_isFenced cX7_isFenced 7 (some .boolean) :: ([.fieldLink RX7 131 "LitmusRunnerModel" "fences" "I", .fieldLink RX7 63 "LitmusRunnerModel" "fenceHart" "[I", .fieldLink RX7 33 "LitmusRunnerModel" "hartOf" "[I", .fieldLink RX7 66 "LitmusRunnerModel" "fenceAt" "[I", .fieldLink RX7 69 "LitmusRunnerModel" "fenceFirst" "[I", .fieldLink RX7 72 "LitmusRunnerModel" "fenceSecond" "[I", .methodLink RX7 154 yX7_reads, .instanceMethod yX7_reads, .selects RX7 yX7_reads yX7_reads, .initialized RX7, .code yX7_reads cX7_reads 2 (some .boolean), .fieldLink RX7 36 "LitmusRunnerModel" "kindOf" "[I", .methodLink RX7 108 yX7_isReading, .static yX7_isReading, .code yX7_isReading cX7_isReading 1 (some .boolean), .methodLink RX7 157 yX7_writes, .instanceMethod yX7_writes, .selects RX7 yX7_writes yX7_writes, .code yX7_writes cX7_writes 2 (some .boolean), .methodLink RX7 151 yX7_isWriting, .static yX7_isWriting, .code yX7_isWriting cX7_isWriting 1 (some .boolean)] ++ wsX70)
def wsX7_mustStand_r1 : List Cond := [Cond.fieldLink RX7 88 "LitmusRunnerModel" "model" "I", Cond.fieldLink RX7 39 "LitmusRunnerModel" "locationOf" "[I", Cond.fieldLink RX7 48 "LitmusRunnerModel" "marks" "[I", Cond.fieldLink RX7 36 "LitmusRunnerModel" "kindOf" "[I", Cond.fieldLink RX7 60 "LitmusRunnerModel" "reserve" "[I", Cond.fieldLink RX7 51 "LitmusRunnerModel" "byPlace" "[I", Cond.fieldLink RX7 54 "LitmusRunnerModel" "byValue" "[I", Cond.fieldLink RX7 57 "LitmusRunnerModel" "byWay" "[I", Cond.methodLink RX7 154 yX7_reads, Cond.instanceMethod yX7_reads, Cond.selects RX7 yX7_reads yX7_reads, Cond.initialized RX7, Cond.code yX7_reads cX7_reads 2 (some .boolean), Cond.methodLink RX7 108 yX7_isReading, Cond.static yX7_isReading, Cond.code yX7_isReading cX7_isReading 1 (some .boolean), Cond.methodLink RX7 157 yX7_writes, Cond.instanceMethod yX7_writes, Cond.selects RX7 yX7_writes yX7_writes, Cond.code yX7_writes cX7_writes 2 (some .boolean), Cond.methodLink RX7 151 yX7_isWriting, Cond.static yX7_isWriting, Cond.code yX7_isWriting cX7_isWriting 1 (some .boolean), Cond.methodLink RX7 160 yX7_isFenced]
def wsX7_mustStand_r2 : List Cond := [Cond.instanceMethod yX7_isFenced, Cond.selects RX7 yX7_isFenced yX7_isFenced, Cond.code yX7_isFenced cX7_isFenced 7 (some .boolean), Cond.fieldLink RX7 131 "LitmusRunnerModel" "fences" "I", Cond.fieldLink RX7 63 "LitmusRunnerModel" "fenceHart" "[I", Cond.fieldLink RX7 33 "LitmusRunnerModel" "hartOf" "[I", Cond.fieldLink RX7 66 "LitmusRunnerModel" "fenceAt" "[I", Cond.fieldLink RX7 69 "LitmusRunnerModel" "fenceFirst" "[I", Cond.fieldLink RX7 72 "LitmusRunnerModel" "fenceSecond" "[I", Cond.methodLink RX7 163 yX7_needs, Cond.static yX7_needs, Cond.code yX7_needs cX7_needs 2 (some .boolean)]
def wsX7_mustStand : List Cond := .code yX7_mustStand cX7_mustStand 6 (some .boolean) :: ((wsX7_mustStand_r1 ++ wsX7_mustStand_r2) ++ wsX70)
def wsX7_findMust_r1 : List Cond := [Cond.fieldLink RX7 128 "LitmusRunnerModel" "accesses" "I", Cond.fieldLink RX7 75 "LitmusRunnerModel" "must" "[Z", Cond.fieldLink RX7 33 "LitmusRunnerModel" "hartOf" "[I", Cond.methodLink RX7 166 yX7_mustStand, Cond.instanceMethod yX7_mustStand, Cond.selects RX7 yX7_mustStand yX7_mustStand, Cond.initialized RX7, Cond.code yX7_mustStand cX7_mustStand 6 (some .boolean), Cond.fieldLink RX7 88 "LitmusRunnerModel" "model" "I", Cond.fieldLink RX7 39 "LitmusRunnerModel" "locationOf" "[I", Cond.fieldLink RX7 48 "LitmusRunnerModel" "marks" "[I", Cond.fieldLink RX7 36 "LitmusRunnerModel" "kindOf" "[I", Cond.fieldLink RX7 60 "LitmusRunnerModel" "reserve" "[I", Cond.fieldLink RX7 51 "LitmusRunnerModel" "byPlace" "[I", Cond.fieldLink RX7 54 "LitmusRunnerModel" "byValue" "[I", Cond.fieldLink RX7 57 "LitmusRunnerModel" "byWay" "[I", Cond.methodLink RX7 154 yX7_reads, Cond.instanceMethod yX7_reads, Cond.selects RX7 yX7_reads yX7_reads, Cond.code yX7_reads cX7_reads 2 (some .boolean), Cond.methodLink RX7 108 yX7_isReading, Cond.static yX7_isReading, Cond.code yX7_isReading cX7_isReading 1 (some .boolean), Cond.methodLink RX7 157 yX7_writes]
def wsX7_findMust_r2 : List Cond := [Cond.instanceMethod yX7_writes, Cond.selects RX7 yX7_writes yX7_writes, Cond.code yX7_writes cX7_writes 2 (some .boolean), Cond.methodLink RX7 151 yX7_isWriting, Cond.static yX7_isWriting, Cond.code yX7_isWriting cX7_isWriting 1 (some .boolean), Cond.methodLink RX7 160 yX7_isFenced, Cond.instanceMethod yX7_isFenced, Cond.selects RX7 yX7_isFenced yX7_isFenced, Cond.code yX7_isFenced cX7_isFenced 7 (some .boolean), Cond.fieldLink RX7 131 "LitmusRunnerModel" "fences" "I", Cond.fieldLink RX7 63 "LitmusRunnerModel" "fenceHart" "[I", Cond.fieldLink RX7 66 "LitmusRunnerModel" "fenceAt" "[I", Cond.fieldLink RX7 69 "LitmusRunnerModel" "fenceFirst" "[I", Cond.fieldLink RX7 72 "LitmusRunnerModel" "fenceSecond" "[I", Cond.methodLink RX7 163 yX7_needs, Cond.static yX7_needs, Cond.code yX7_needs cX7_needs 2 (some .boolean)]
def wsX7_findMust : List Cond := .code yX7_findMust cX7_findMust 3 none :: ((wsX7_findMust_r1 ++ wsX7_findMust_r2) ++ wsX70)
def wsX7_sourceOf : List Cond := .code yX7_sourceOf cX7_sourceOf 5 (some .int) :: ([.fieldLink RX7 128 "LitmusRunnerModel" "accesses" "I", .fieldLink RX7 39 "LitmusRunnerModel" "locationOf" "[I", .fieldLink RX7 82 "LitmusRunnerModel" "place" "[I", .fieldLink RX7 33 "LitmusRunnerModel" "hartOf" "[I", .methodLink RX7 157 yX7_writes, .instanceMethod yX7_writes, .selects RX7 yX7_writes yX7_writes, .initialized RX7, .code yX7_writes cX7_writes 2 (some .boolean), .fieldLink RX7 36 "LitmusRunnerModel" "kindOf" "[I", .methodLink RX7 151 yX7_isWriting, .static yX7_isWriting, .code yX7_isWriting cX7_isWriting 1 (some .boolean)] ++ wsX70)
def wsX7_isWriteBetween : List Cond := .code yX7_isWriteBetween cX7_isWriteBetween 5 (some .boolean) :: ([.fieldLink RX7 39 "LitmusRunnerModel" "locationOf" "[I", .methodLink RX7 157 yX7_writes, .instanceMethod yX7_writes, .selects RX7 yX7_writes yX7_writes, .initialized RX7, .code yX7_writes cX7_writes 2 (some .boolean), .fieldLink RX7 36 "LitmusRunnerModel" "kindOf" "[I", .methodLink RX7 151 yX7_isWriting, .static yX7_isWriting, .code yX7_isWriting cX7_isWriting 1 (some .boolean)] ++ wsX70)
def wsX7_isAsked_r1 : List Cond := [Cond.fieldLink RX7 39 "LitmusRunnerModel" "locationOf" "[I", Cond.fieldLink RX7 85 "LitmusRunnerModel" "source" "[I", Cond.fieldLink RX7 36 "LitmusRunnerModel" "kindOf" "[I", Cond.fieldLink RX7 33 "LitmusRunnerModel" "hartOf" "[I", Cond.fieldLink RX7 51 "LitmusRunnerModel" "byPlace" "[I", Cond.fieldLink RX7 54 "LitmusRunnerModel" "byValue" "[I", Cond.methodLink RX7 154 yX7_reads, Cond.instanceMethod yX7_reads, Cond.selects RX7 yX7_reads yX7_reads, Cond.initialized RX7, Cond.code yX7_reads cX7_reads 2 (some .boolean), Cond.methodLink RX7 108 yX7_isReading, Cond.static yX7_isReading, Cond.code yX7_isReading cX7_isReading 1 (some .boolean), Cond.methodLink RX7 169 yX7_isWriteBetween, Cond.instanceMethod yX7_isWriteBetween, Cond.selects RX7 yX7_isWriteBetween yX7_isWriteBetween, Cond.code yX7_isWriteBetween cX7_isWriteBetween 5 (some .boolean), Cond.methodLink RX7 157 yX7_writes, Cond.instanceMethod yX7_writes, Cond.selects RX7 yX7_writes yX7_writes, Cond.code yX7_writes cX7_writes 2 (some .boolean), Cond.methodLink RX7 151 yX7_isWriting, Cond.static yX7_isWriting]
def wsX7_isAsked_r2 : List Cond := [Cond.code yX7_isWriting cX7_isWriting 1 (some .boolean), Cond.methodLink RX7 163 yX7_needs, Cond.static yX7_needs, Cond.code yX7_needs cX7_needs 2 (some .boolean)]
def wsX7_isAsked : List Cond := .code yX7_isAsked cX7_isAsked 6 (some .boolean) :: ((wsX7_isAsked_r1 ++ wsX7_isAsked_r2) ++ wsX70)
def wsX7_isAtomic : List Cond := .code yX7_isAtomic cX7_isAtomic 8 (some .boolean) :: ([.fieldLink RX7 60 "LitmusRunnerModel" "reserve" "[I", .fieldLink RX7 85 "LitmusRunnerModel" "source" "[I", .fieldLink RX7 82 "LitmusRunnerModel" "place" "[I", .fieldLink RX7 128 "LitmusRunnerModel" "accesses" "I", .fieldLink RX7 33 "LitmusRunnerModel" "hartOf" "[I", .fieldLink RX7 39 "LitmusRunnerModel" "locationOf" "[I", .methodLink RX7 157 yX7_writes, .instanceMethod yX7_writes, .selects RX7 yX7_writes yX7_writes, .initialized RX7, .code yX7_writes cX7_writes 2 (some .boolean), .fieldLink RX7 36 "LitmusRunnerModel" "kindOf" "[I", .methodLink RX7 151 yX7_isWriting, .static yX7_isWriting, .code yX7_isWriting cX7_isWriting 1 (some .boolean)] ++ wsX70)
def wsX7_isOrder_r1 : List Cond := [Cond.fieldLink RX7 128 "LitmusRunnerModel" "accesses" "I", Cond.fieldLink RX7 75 "LitmusRunnerModel" "must" "[Z", Cond.fieldLink RX7 82 "LitmusRunnerModel" "place" "[I", Cond.fieldLink RX7 85 "LitmusRunnerModel" "source" "[I", Cond.fieldLink RX7 45 "LitmusRunnerModel" "written" "[I", Cond.fieldLink RX7 42 "LitmusRunnerModel" "read" "[I", Cond.fieldLink RX7 33 "LitmusRunnerModel" "hartOf" "[I", Cond.fieldLink RX7 36 "LitmusRunnerModel" "kindOf" "[I", Cond.methodLink RX7 154 yX7_reads, Cond.instanceMethod yX7_reads, Cond.selects RX7 yX7_reads yX7_reads, Cond.initialized RX7, Cond.code yX7_reads cX7_reads 2 (some .boolean), Cond.methodLink RX7 108 yX7_isReading, Cond.static yX7_isReading, Cond.code yX7_isReading cX7_isReading 1 (some .boolean), Cond.methodLink RX7 172 yX7_sourceOf, Cond.instanceMethod yX7_sourceOf, Cond.selects RX7 yX7_sourceOf yX7_sourceOf, Cond.code yX7_sourceOf cX7_sourceOf 5 (some .int), Cond.fieldLink RX7 39 "LitmusRunnerModel" "locationOf" "[I", Cond.methodLink RX7 157 yX7_writes, Cond.instanceMethod yX7_writes, Cond.selects RX7 yX7_writes yX7_writes]
def wsX7_isOrder_r2 : List Cond := [Cond.code yX7_writes cX7_writes 2 (some .boolean), Cond.methodLink RX7 151 yX7_isWriting, Cond.static yX7_isWriting, Cond.code yX7_isWriting cX7_isWriting 1 (some .boolean), Cond.methodLink RX7 175 yX7_isAsked, Cond.instanceMethod yX7_isAsked, Cond.selects RX7 yX7_isAsked yX7_isAsked, Cond.code yX7_isAsked cX7_isAsked 6 (some .boolean), Cond.fieldLink RX7 51 "LitmusRunnerModel" "byPlace" "[I", Cond.fieldLink RX7 54 "LitmusRunnerModel" "byValue" "[I", Cond.methodLink RX7 169 yX7_isWriteBetween, Cond.instanceMethod yX7_isWriteBetween, Cond.selects RX7 yX7_isWriteBetween yX7_isWriteBetween, Cond.code yX7_isWriteBetween cX7_isWriteBetween 5 (some .boolean), Cond.methodLink RX7 163 yX7_needs, Cond.static yX7_needs, Cond.code yX7_needs cX7_needs 2 (some .boolean), Cond.methodLink RX7 178 yX7_isAtomic, Cond.instanceMethod yX7_isAtomic, Cond.selects RX7 yX7_isAtomic yX7_isAtomic, Cond.code yX7_isAtomic cX7_isAtomic 8 (some .boolean), Cond.fieldLink RX7 60 "LitmusRunnerModel" "reserve" "[I"]
def wsX7_isOrder : List Cond := .code yX7_isOrder cX7_isOrder 3 (some .boolean) :: ((wsX7_isOrder_r1 ++ wsX7_isOrder_r2) ++ wsX70)
def wsX7_nextOrder : List Cond := .code yX7_nextOrder cX7_nextOrder 7 (some .boolean) :: ([.fieldLink RX7 128 "LitmusRunnerModel" "accesses" "I", .fieldLink RX7 79 "LitmusRunnerModel" "order" "[I"] ++ wsX70)
def wsX7_reckon : List Cond := .code yX7_reckon cX7_reckon 6 (some .long) :: ([.fieldLink RX7 27 "LitmusRunnerModel" "values" "[I", .fieldLink RX7 128 "LitmusRunnerModel" "accesses" "I", .fieldLink RX7 39 "LitmusRunnerModel" "locationOf" "[I", .fieldLink RX7 82 "LitmusRunnerModel" "place" "[I", .fieldLink RX7 45 "LitmusRunnerModel" "written" "[I", .methodLink RX7 157 yX7_writes, .instanceMethod yX7_writes, .selects RX7 yX7_writes yX7_writes, .initialized RX7, .code yX7_writes cX7_writes 2 (some .boolean), .fieldLink RX7 36 "LitmusRunnerModel" "kindOf" "[I", .methodLink RX7 151 yX7_isWriting, .static yX7_isWriting, .code yX7_isWriting cX7_isWriting 1 (some .boolean)] ++ wsX70)
def wsX7_placeOf : List Cond := .code yX7_placeOf cX7_placeOf 6 (some .int) :: ([.fieldLink RX7 181 "LitmusRunnerModel" "many" "I", .fieldLink RX7 17 "LitmusRunnerModel" "outcomes" "[J"] ++ wsX70)
def wsX7_keep : List Cond := .code yX7_keep cX7_keep 5 none :: ([.fieldLink RX7 181 "LitmusRunnerModel" "many" "I", .fieldLink RX7 17 "LitmusRunnerModel" "outcomes" "[J", .methodLink RX7 184 yX7_placeOf, .instanceMethod yX7_placeOf, .selects RX7 yX7_placeOf yX7_placeOf, .initialized RX7, .code yX7_placeOf cX7_placeOf 6 (some .int)] ++ wsX70)
def wsX7_goThrough_r1 : List Cond := [Cond.fieldLink RX7 128 "LitmusRunnerModel" "accesses" "I", Cond.fieldLink RX7 79 "LitmusRunnerModel" "order" "[I", Cond.fieldLink RX7 82 "LitmusRunnerModel" "place" "[I", Cond.methodLink RX7 188 yX7_findMust, Cond.instanceMethod yX7_findMust, Cond.selects RX7 yX7_findMust yX7_findMust, Cond.initialized RX7, Cond.code yX7_findMust cX7_findMust 3 none, Cond.fieldLink RX7 75 "LitmusRunnerModel" "must" "[Z", Cond.fieldLink RX7 33 "LitmusRunnerModel" "hartOf" "[I", Cond.methodLink RX7 166 yX7_mustStand, Cond.instanceMethod yX7_mustStand, Cond.selects RX7 yX7_mustStand yX7_mustStand, Cond.code yX7_mustStand cX7_mustStand 6 (some .boolean), Cond.fieldLink RX7 88 "LitmusRunnerModel" "model" "I", Cond.fieldLink RX7 39 "LitmusRunnerModel" "locationOf" "[I", Cond.fieldLink RX7 48 "LitmusRunnerModel" "marks" "[I", Cond.fieldLink RX7 36 "LitmusRunnerModel" "kindOf" "[I", Cond.fieldLink RX7 60 "LitmusRunnerModel" "reserve" "[I", Cond.fieldLink RX7 51 "LitmusRunnerModel" "byPlace" "[I", Cond.fieldLink RX7 54 "LitmusRunnerModel" "byValue" "[I", Cond.fieldLink RX7 57 "LitmusRunnerModel" "byWay" "[I", Cond.methodLink RX7 154 yX7_reads, Cond.instanceMethod yX7_reads]
def wsX7_goThrough_r2 : List Cond := [Cond.selects RX7 yX7_reads yX7_reads, Cond.code yX7_reads cX7_reads 2 (some .boolean), Cond.methodLink RX7 108 yX7_isReading, Cond.static yX7_isReading, Cond.code yX7_isReading cX7_isReading 1 (some .boolean), Cond.methodLink RX7 157 yX7_writes, Cond.instanceMethod yX7_writes, Cond.selects RX7 yX7_writes yX7_writes, Cond.code yX7_writes cX7_writes 2 (some .boolean), Cond.methodLink RX7 151 yX7_isWriting, Cond.static yX7_isWriting, Cond.code yX7_isWriting cX7_isWriting 1 (some .boolean), Cond.methodLink RX7 160 yX7_isFenced, Cond.instanceMethod yX7_isFenced, Cond.selects RX7 yX7_isFenced yX7_isFenced, Cond.code yX7_isFenced cX7_isFenced 7 (some .boolean), Cond.fieldLink RX7 131 "LitmusRunnerModel" "fences" "I", Cond.fieldLink RX7 63 "LitmusRunnerModel" "fenceHart" "[I", Cond.fieldLink RX7 66 "LitmusRunnerModel" "fenceAt" "[I", Cond.fieldLink RX7 69 "LitmusRunnerModel" "fenceFirst" "[I", Cond.fieldLink RX7 72 "LitmusRunnerModel" "fenceSecond" "[I", Cond.methodLink RX7 163 yX7_needs, Cond.static yX7_needs, Cond.code yX7_needs cX7_needs 2 (some .boolean)]
def wsX7_goThrough_r3 : List Cond := [Cond.methodLink RX7 191 yX7_isOrder, Cond.instanceMethod yX7_isOrder, Cond.selects RX7 yX7_isOrder yX7_isOrder, Cond.code yX7_isOrder cX7_isOrder 3 (some .boolean), Cond.fieldLink RX7 85 "LitmusRunnerModel" "source" "[I", Cond.fieldLink RX7 45 "LitmusRunnerModel" "written" "[I", Cond.fieldLink RX7 42 "LitmusRunnerModel" "read" "[I", Cond.methodLink RX7 172 yX7_sourceOf, Cond.instanceMethod yX7_sourceOf, Cond.selects RX7 yX7_sourceOf yX7_sourceOf, Cond.code yX7_sourceOf cX7_sourceOf 5 (some .int), Cond.methodLink RX7 175 yX7_isAsked, Cond.instanceMethod yX7_isAsked, Cond.selects RX7 yX7_isAsked yX7_isAsked, Cond.code yX7_isAsked cX7_isAsked 6 (some .boolean), Cond.methodLink RX7 169 yX7_isWriteBetween, Cond.instanceMethod yX7_isWriteBetween, Cond.selects RX7 yX7_isWriteBetween yX7_isWriteBetween, Cond.code yX7_isWriteBetween cX7_isWriteBetween 5 (some .boolean), Cond.methodLink RX7 178 yX7_isAtomic, Cond.instanceMethod yX7_isAtomic, Cond.selects RX7 yX7_isAtomic yX7_isAtomic, Cond.code yX7_isAtomic cX7_isAtomic 8 (some .boolean), Cond.methodLink RX7 195 yX7_reckon]
def wsX7_goThrough_r4 : List Cond := [Cond.instanceMethod yX7_reckon, Cond.selects RX7 yX7_reckon yX7_reckon, Cond.code yX7_reckon cX7_reckon 6 (some .long), Cond.fieldLink RX7 27 "LitmusRunnerModel" "values" "[I", Cond.methodLink RX7 199 yX7_keep, Cond.instanceMethod yX7_keep, Cond.selects RX7 yX7_keep yX7_keep, Cond.code yX7_keep cX7_keep 5 none, Cond.fieldLink RX7 181 "LitmusRunnerModel" "many" "I", Cond.fieldLink RX7 17 "LitmusRunnerModel" "outcomes" "[J", Cond.methodLink RX7 184 yX7_placeOf, Cond.instanceMethod yX7_placeOf, Cond.selects RX7 yX7_placeOf yX7_placeOf, Cond.code yX7_placeOf cX7_placeOf 6 (some .int), Cond.methodLink RX7 203 yX7_nextOrder, Cond.instanceMethod yX7_nextOrder, Cond.selects RX7 yX7_nextOrder yX7_nextOrder, Cond.code yX7_nextOrder cX7_nextOrder 7 (some .boolean)]
def wsX7_goThrough : List Cond := .code yX7_goThrough cX7_goThrough 4 (some .boolean) :: ((wsX7_goThrough_r1 ++ (wsX7_goThrough_r2 ++ (wsX7_goThrough_r3 ++ wsX7_goThrough_r4))) ++ wsX70)
def wsX7_find_r1 : List Cond := [Cond.fieldLink RX7 92 "LitmusRunnerModel" "isFound" "Z", Cond.fieldLink RX7 181 "LitmusRunnerModel" "many" "I", Cond.fieldLink RX7 206 "LitmusRunnerModel" "ways" "I", Cond.fieldLink RX7 125 "LitmusRunnerModel" "choices" "I", Cond.methodLink RX7 209 yX7_doWay, Cond.instanceMethod yX7_doWay, Cond.selects RX7 yX7_doWay yX7_doWay, Cond.initialized RX7, Cond.code yX7_doWay cX7_doWay 2 none, Cond.fieldLink RX7 122 "LitmusRunnerModel" "told" "I", Cond.fieldLink RX7 128 "LitmusRunnerModel" "accesses" "I", Cond.fieldLink RX7 131 "LitmusRunnerModel" "fences" "I", Cond.fieldLink RX7 27 "LitmusRunnerModel" "values" "[I", Cond.fieldLink RX7 30 "LitmusRunnerModel" "carry" "[I", Cond.methodLink RX7 134 yX7_doHart, Cond.instanceMethod yX7_doHart, Cond.selects RX7 yX7_doHart yX7_doHart, Cond.code yX7_doHart cX7_doHart 10 none, Cond.fieldLink RX7 138 "LitmusRunnerModel" "way" "I", Cond.fieldLink RX7 141 "LitmusRunnerModel" "reserved" "I", Cond.fieldLink RX7 13 "LitmusRunnerModel" "lengths" "[I", Cond.fieldLink RX7 7 "LitmusRunnerModel" "programs" "[I", Cond.fieldLink RX7 63 "LitmusRunnerModel" "fenceHart" "[I", Cond.fieldLink RX7 66 "LitmusRunnerModel" "fenceAt" "[I"]
def wsX7_find_r2 : List Cond := [Cond.fieldLink RX7 69 "LitmusRunnerModel" "fenceFirst" "[I", Cond.fieldLink RX7 72 "LitmusRunnerModel" "fenceSecond" "[I", Cond.methodLink RX7 144 yX7_access, Cond.instanceMethod yX7_access, Cond.selects RX7 yX7_access yX7_access, Cond.code yX7_access cX7_access 14 none, Cond.fieldLink RX7 39 "LitmusRunnerModel" "locationOf" "[I", Cond.fieldLink RX7 60 "LitmusRunnerModel" "reserve" "[I", Cond.fieldLink RX7 33 "LitmusRunnerModel" "hartOf" "[I", Cond.fieldLink RX7 36 "LitmusRunnerModel" "kindOf" "[I", Cond.fieldLink RX7 48 "LitmusRunnerModel" "marks" "[I", Cond.fieldLink RX7 51 "LitmusRunnerModel" "byPlace" "[I", Cond.fieldLink RX7 57 "LitmusRunnerModel" "byWay" "[I", Cond.fieldLink RX7 54 "LitmusRunnerModel" "byValue" "[I", Cond.fieldLink RX7 42 "LitmusRunnerModel" "read" "[I", Cond.fieldLink RX7 45 "LitmusRunnerModel" "written" "[I", Cond.methodLink RX7 148 yX7_choose, Cond.instanceMethod yX7_choose, Cond.selects RX7 yX7_choose yX7_choose, Cond.code yX7_choose cX7_choose 2 (some .int), Cond.fieldLink RX7 21 "LitmusRunnerModel" "choice" "[I", Cond.fieldLink RX7 24 "LitmusRunnerModel" "options" "[I", Cond.methodLink RX7 151 yX7_isWriting, Cond.static yX7_isWriting]
def wsX7_find_r3 : List Cond := [Cond.code yX7_isWriting cX7_isWriting 1 (some .boolean), Cond.methodLink RX7 108 yX7_isReading, Cond.static yX7_isReading, Cond.code yX7_isReading cX7_isReading 1 (some .boolean), Cond.methodLink RX7 212 yX7_goThrough, Cond.instanceMethod yX7_goThrough, Cond.selects RX7 yX7_goThrough yX7_goThrough, Cond.code yX7_goThrough cX7_goThrough 4 (some .boolean), Cond.fieldLink RX7 79 "LitmusRunnerModel" "order" "[I", Cond.fieldLink RX7 82 "LitmusRunnerModel" "place" "[I", Cond.methodLink RX7 188 yX7_findMust, Cond.instanceMethod yX7_findMust, Cond.selects RX7 yX7_findMust yX7_findMust, Cond.code yX7_findMust cX7_findMust 3 none, Cond.fieldLink RX7 75 "LitmusRunnerModel" "must" "[Z", Cond.methodLink RX7 166 yX7_mustStand, Cond.instanceMethod yX7_mustStand, Cond.selects RX7 yX7_mustStand yX7_mustStand, Cond.code yX7_mustStand cX7_mustStand 6 (some .boolean), Cond.fieldLink RX7 88 "LitmusRunnerModel" "model" "I", Cond.methodLink RX7 154 yX7_reads, Cond.instanceMethod yX7_reads, Cond.selects RX7 yX7_reads yX7_reads, Cond.code yX7_reads cX7_reads 2 (some .boolean)]
def wsX7_find_r4 : List Cond := [Cond.methodLink RX7 157 yX7_writes, Cond.instanceMethod yX7_writes, Cond.selects RX7 yX7_writes yX7_writes, Cond.code yX7_writes cX7_writes 2 (some .boolean), Cond.methodLink RX7 160 yX7_isFenced, Cond.instanceMethod yX7_isFenced, Cond.selects RX7 yX7_isFenced yX7_isFenced, Cond.code yX7_isFenced cX7_isFenced 7 (some .boolean), Cond.methodLink RX7 163 yX7_needs, Cond.static yX7_needs, Cond.code yX7_needs cX7_needs 2 (some .boolean), Cond.methodLink RX7 191 yX7_isOrder, Cond.instanceMethod yX7_isOrder, Cond.selects RX7 yX7_isOrder yX7_isOrder, Cond.code yX7_isOrder cX7_isOrder 3 (some .boolean), Cond.fieldLink RX7 85 "LitmusRunnerModel" "source" "[I", Cond.methodLink RX7 172 yX7_sourceOf, Cond.instanceMethod yX7_sourceOf, Cond.selects RX7 yX7_sourceOf yX7_sourceOf, Cond.code yX7_sourceOf cX7_sourceOf 5 (some .int), Cond.methodLink RX7 175 yX7_isAsked, Cond.instanceMethod yX7_isAsked, Cond.selects RX7 yX7_isAsked yX7_isAsked, Cond.code yX7_isAsked cX7_isAsked 6 (some .boolean)]
def wsX7_find_r5 : List Cond := [Cond.methodLink RX7 169 yX7_isWriteBetween, Cond.instanceMethod yX7_isWriteBetween, Cond.selects RX7 yX7_isWriteBetween yX7_isWriteBetween, Cond.code yX7_isWriteBetween cX7_isWriteBetween 5 (some .boolean), Cond.methodLink RX7 178 yX7_isAtomic, Cond.instanceMethod yX7_isAtomic, Cond.selects RX7 yX7_isAtomic yX7_isAtomic, Cond.code yX7_isAtomic cX7_isAtomic 8 (some .boolean), Cond.methodLink RX7 195 yX7_reckon, Cond.instanceMethod yX7_reckon, Cond.selects RX7 yX7_reckon yX7_reckon, Cond.code yX7_reckon cX7_reckon 6 (some .long), Cond.methodLink RX7 199 yX7_keep, Cond.instanceMethod yX7_keep, Cond.selects RX7 yX7_keep yX7_keep, Cond.code yX7_keep cX7_keep 5 none, Cond.fieldLink RX7 17 "LitmusRunnerModel" "outcomes" "[J", Cond.methodLink RX7 184 yX7_placeOf, Cond.instanceMethod yX7_placeOf, Cond.selects RX7 yX7_placeOf yX7_placeOf, Cond.code yX7_placeOf cX7_placeOf 6 (some .int), Cond.methodLink RX7 203 yX7_nextOrder, Cond.instanceMethod yX7_nextOrder, Cond.selects RX7 yX7_nextOrder yX7_nextOrder]
def wsX7_find_r6 : List Cond := [Cond.code yX7_nextOrder cX7_nextOrder 7 (some .boolean), Cond.methodLink RX7 215 yX7_nextWay, Cond.instanceMethod yX7_nextWay, Cond.selects RX7 yX7_nextWay yX7_nextWay, Cond.code yX7_nextWay cX7_nextWay 1 (some .boolean)]
def wsX7_find : List Cond := .code yX7_find cX7_find 2 (some .int) :: ((wsX7_find_r1 ++ (wsX7_find_r2 ++ (wsX7_find_r3 ++ (wsX7_find_r4 ++ (wsX7_find_r5 ++ wsX7_find_r6))))) ++ wsX70)
def wsX7_outcome : List Cond := .code yX7_outcome cX7_outcome 2 (some .long) :: ([.fieldLink RX7 92 "LitmusRunnerModel" "isFound" "Z", .fieldLink RX7 181 "LitmusRunnerModel" "many" "I", .fieldLink RX7 17 "LitmusRunnerModel" "outcomes" "[J", .constantLong RX7 218 (-1), .methodLink RX7 96 yX7_in, .static yX7_in, .initialized RX7, .code yX7_in cX7_in 3 (some .boolean)] ++ wsX70)
def wsX7_isAsking : List Cond := .code yX7_isAsking cX7_isAsking 2 (some .boolean) :: ([.methodLink RX7 96 yX7_in, .static yX7_in, .initialized RX7, .code yX7_in cX7_in 3 (some .boolean)])
def wsX7_has : List Cond := .code yX7_has cX7_has 4 (some .boolean) :: ([.constantLong RX7 220 (3)])
def wsX7_both : List Cond := .code yX7_both cX7_both 7 (some .int) :: ([.fieldLink RX7 92 "LitmusRunnerModel" "isFound" "Z", .fieldLink RX7 181 "LitmusRunnerModel" "many" "I", .fieldLink RX7 17 "LitmusRunnerModel" "outcomes" "[J", .methodLink RX7 226 yX7_isAsking, .static yX7_isAsking, .initialized RX7, .code yX7_isAsking cX7_isAsking 2 (some .boolean), .methodLink RX7 96 yX7_in, .static yX7_in, .code yX7_in cX7_in 3 (some .boolean), .methodLink RX7 229 yX7_has, .static yX7_has, .code yX7_has cX7_has 4 (some .boolean), .constantLong RX7 220 (3)] ++ wsX70)
def wsX7_with : List Cond := .code yX7_with cX7_with 3 (some .int) :: ([.methodLink RX7 222 yX7_both, .instanceMethod yX7_both, .selects RX7 yX7_both yX7_both, .initialized RX7, .code yX7_both cX7_both 7 (some .int), .fieldLink RX7 92 "LitmusRunnerModel" "isFound" "Z", .fieldLink RX7 181 "LitmusRunnerModel" "many" "I", .fieldLink RX7 17 "LitmusRunnerModel" "outcomes" "[J", .methodLink RX7 226 yX7_isAsking, .static yX7_isAsking, .code yX7_isAsking cX7_isAsking 2 (some .boolean), .methodLink RX7 96 yX7_in, .static yX7_in, .code yX7_in cX7_in 3 (some .boolean), .methodLink RX7 229 yX7_has, .static yX7_has, .code yX7_has cX7_has 4 (some .boolean), .constantLong RX7 220 (3)] ++ wsX70)
def wsX7_is : List Cond := .code yX7_is cX7_is 4 (some .int) :: ([.fieldLink RX7 92 "LitmusRunnerModel" "isFound" "Z", .fieldLink RX7 181 "LitmusRunnerModel" "many" "I", .fieldLink RX7 17 "LitmusRunnerModel" "outcomes" "[J", .methodLink RX7 184 yX7_placeOf, .instanceMethod yX7_placeOf, .selects RX7 yX7_placeOf yX7_placeOf, .initialized RX7, .code yX7_placeOf cX7_placeOf 6 (some .int)] ++ wsX70)
def wsX7_instruction : List Cond := .code yX7_instruction cX7_instruction 4 (some .int) :: ([.fieldLink RX7 13 "LitmusRunnerModel" "lengths" "[I", .fieldLink RX7 7 "LitmusRunnerModel" "programs" "[I", .methodLink RX7 96 yX7_in, .static yX7_in, .initialized RX7, .code yX7_in cX7_in 3 (some .boolean)] ++ wsX70)
def wsX7_count : List Cond := .code yX7_count cX7_count 2 (some .int) :: ([.fieldLink RX7 92 "LitmusRunnerModel" "isFound" "Z", .fieldLink RX7 181 "LitmusRunnerModel" "many" "I", .fieldLink RX7 88 "LitmusRunnerModel" "model" "I", .fieldLink RX7 206 "LitmusRunnerModel" "ways" "I", .methodLink RX7 115 yX7_instructions, .instanceMethod yX7_instructions, .selects RX7 yX7_instructions yX7_instructions, .initialized RX7, .code yX7_instructions cX7_instructions 6 (some .int), .fieldLink RX7 13 "LitmusRunnerModel" "lengths" "[I", .fieldLink RX7 7 "LitmusRunnerModel" "programs" "[I", .methodLink RX7 108 yX7_isReading, .static yX7_isReading, .code yX7_isReading cX7_isReading 1 (some .boolean)] ++ wsX70)
def wsJ9_min_7cf53 : List Cond := .code yJ9_min_7cf53 cJ9_min_7cf53 2 (some .int) :: ([])
def wsL_law_r1 : List Cond := [Cond.classLink RL 7 RX6, Cond.instantiable RX6 8, Cond.initialized RX6, Cond.classLink RL 10 RX7, Cond.instantiable RX7 35, Cond.initialized RX7, Cond.constantLong RL 47 (4294967295), Cond.methodLink RL 9 yX6_init, Cond.instanceMethod yX6_init, Cond.code yX6_init cX6_init 1 none, Cond.methodLink RX6 1 objectInit, Cond.instanceMethod objectInit, Cond.code objectInit ⟨#[0xb1]⟩ 1 none, Cond.classLink RX6 7 RX4, Cond.instantiable RX4 5, Cond.initialized RX4, Cond.fieldLink RX6 10 "LitmusRunner" "programs" "LLitmusRunner$Programs;", Cond.classLink RX6 16 RX1, Cond.instantiable RX1 4, Cond.initialized RX1, Cond.fieldLink RX6 19 "LitmusRunner" "choices" "LLitmusRunner$Choices;", Cond.classLink RX6 23 RX5, Cond.instantiable RX5 14, Cond.initialized RX5]
def wsL_law_r2 : List Cond := [Cond.fieldLink RX6 28 "LitmusRunner" "way" "LLitmusRunner$Way;", Cond.classLink RX6 32 RX3, Cond.instantiable RX3 2, Cond.initialized RX3, Cond.fieldLink RX6 35 "LitmusRunner" "outcomes" "LLitmusRunner$Outcomes;", Cond.classLink RX6 39 RX2, Cond.instantiable RX2 7, Cond.initialized RX2, Cond.fieldLink RX6 44 "LitmusRunner" "ordering" "LLitmusRunner$Ordering;", Cond.fieldLink RX6 48 "LitmusRunner" "model" "I", Cond.fieldLink RX6 52 "LitmusRunner" "ways" "I", Cond.fieldLink RX6 55 "LitmusRunner" "found" "Z", Cond.methodLink RX6 9 yX4_init, Cond.instanceMethod yX4_init, Cond.code yX4_init cX4_init 1 none, Cond.methodLink RX4 3 objectInit, Cond.classLink RX4 9 "[[I", Cond.arrayClass .int, Cond.fieldLink RX4 11 "LitmusRunner$Programs" "rows" "[[I", Cond.fieldLink RX4 16 "LitmusRunner$Programs" "lengths" "[I", Cond.fieldLink RX4 20 "LitmusRunner$Programs" "draft" "[I", Cond.fieldLink RX4 23 "LitmusRunner$Programs" "accesses" "I", Cond.fieldLink RX4 27 "LitmusRunner$Programs" "readers" "I", Cond.methodLink RX6 18 yX1_init]
def wsL_law_r3 : List Cond := [Cond.instanceMethod yX1_init, Cond.code yX1_init cX1_init 1 none, Cond.methodLink RX1 3 objectInit, Cond.fieldLink RX1 9 "LitmusRunner$Choices" "chosen" "[I", Cond.fieldLink RX1 15 "LitmusRunner$Choices" "limits" "[I", Cond.fieldLink RX1 18 "LitmusRunner$Choices" "made" "I", Cond.fieldLink RX1 22 "LitmusRunner$Choices" "kept" "I", Cond.methodLink RX6 25 yX5_init, Cond.instanceMethod yX5_init, Cond.code yX5_init cX5_init 4 none, Cond.methodLink RX5 3 objectInit, Cond.fieldLink RX5 9 "LitmusRunner$Way" "programs" "LLitmusRunner$Programs;", Cond.fieldLink RX5 15 "LitmusRunner$Way" "choices" "LLitmusRunner$Choices;", Cond.classLink RX5 19 RX0, Cond.fieldLink RX5 21 "LitmusRunner$Way" "accesses" "[LLitmusRunner$Access;", Cond.instantiable RX0 14, Cond.initialized RX0, Cond.fieldLink RX5 26 "LitmusRunner$Way" "values" "[I", Cond.fieldLink RX5 30 "LitmusRunner$Way" "carried" "[I", Cond.instanceMethod yX0_init, Cond.code yX0_init cX0_init 1 none, Cond.methodLink RX0 1 objectInit, Cond.methodLink RX6 34 yX3_init, Cond.instanceMethod yX3_init]
def wsL_law_r4 : List Cond := [Cond.code yX3_init cX3_init 1 none, Cond.methodLink RX3 3 objectInit, Cond.arrayClass .long, Cond.fieldLink RX3 9 "LitmusRunner$Outcomes" "rows" "[J", Cond.fieldLink RX3 15 "LitmusRunner$Outcomes" "size" "I", Cond.methodLink RX6 41 yX2_init, Cond.instanceMethod yX2_init, Cond.code yX2_init cX2_init 3 none, Cond.methodLink RX2 3 objectInit, Cond.fieldLink RX2 9 "LitmusRunner$Ordering" "way" "LLitmusRunner$Way;", Cond.fieldLink RX2 15 "LitmusRunner$Ordering" "outcomes" "LLitmusRunner$Outcomes;", Cond.fieldLink RX2 19 "LitmusRunner$Ordering" "spots" "[I", Cond.fieldLink RX2 23 "LitmusRunner$Ordering" "sources" "[I", Cond.fieldLink RX2 26 "LitmusRunner$Ordering" "latest" "[I", Cond.fieldLink RX2 29 "LitmusRunner$Ordering" "registersPart" "J", Cond.fieldLink RX2 33 "LitmusRunner$Ordering" "any" "Z", Cond.methodLink RL 12 yX7_init, Cond.instanceMethod yX7_init, Cond.code yX7_init cX7_init 1 none, Cond.methodLink RX7 1 objectInit, Cond.fieldLink RX7 7 "LitmusRunnerModel" "programs" "[I", Cond.fieldLink RX7 13 "LitmusRunnerModel" "lengths" "[I", Cond.constant RX7 16 (40000), Cond.fieldLink RX7 17 "LitmusRunnerModel" "outcomes" "[J"]
def wsL_law_r5 : List Cond := [Cond.fieldLink RX7 21 "LitmusRunnerModel" "choice" "[I", Cond.fieldLink RX7 24 "LitmusRunnerModel" "options" "[I", Cond.fieldLink RX7 27 "LitmusRunnerModel" "values" "[I", Cond.fieldLink RX7 30 "LitmusRunnerModel" "carry" "[I", Cond.fieldLink RX7 33 "LitmusRunnerModel" "hartOf" "[I", Cond.fieldLink RX7 36 "LitmusRunnerModel" "kindOf" "[I", Cond.fieldLink RX7 39 "LitmusRunnerModel" "locationOf" "[I", Cond.fieldLink RX7 42 "LitmusRunnerModel" "read" "[I", Cond.fieldLink RX7 45 "LitmusRunnerModel" "written" "[I", Cond.fieldLink RX7 48 "LitmusRunnerModel" "marks" "[I", Cond.fieldLink RX7 51 "LitmusRunnerModel" "byPlace" "[I", Cond.fieldLink RX7 54 "LitmusRunnerModel" "byValue" "[I", Cond.fieldLink RX7 57 "LitmusRunnerModel" "byWay" "[I", Cond.fieldLink RX7 60 "LitmusRunnerModel" "reserve" "[I", Cond.fieldLink RX7 63 "LitmusRunnerModel" "fenceHart" "[I", Cond.fieldLink RX7 66 "LitmusRunnerModel" "fenceAt" "[I", Cond.fieldLink RX7 69 "LitmusRunnerModel" "fenceFirst" "[I", Cond.fieldLink RX7 72 "LitmusRunnerModel" "fenceSecond" "[I", Cond.arrayClass .boolean, Cond.fieldLink RX7 75 "LitmusRunnerModel" "must" "[Z", Cond.fieldLink RX7 79 "LitmusRunnerModel" "order" "[I", Cond.fieldLink RX7 82 "LitmusRunnerModel" "place" "[I", Cond.fieldLink RX7 85 "LitmusRunnerModel" "source" "[I", Cond.fieldLink RX7 88 "LitmusRunnerModel" "model" "I"]
def wsL_law_r6 : List Cond := [Cond.methodLink RL 13 yX6_clear, Cond.instanceMethod yX6_clear, Cond.selects RX6 yX6_clear yX6_clear, Cond.code yX6_clear cX6_clear 1 (some .int), Cond.methodLink RX6 59 yX4_removeAll, Cond.instanceMethod yX4_removeAll, Cond.selects RX4 yX4_removeAll yX4_removeAll, Cond.code yX4_removeAll cX4_removeAll 2 (some .int), Cond.methodLink RX4 30 yX4_size, Cond.instanceMethod yX4_size, Cond.selects RX4 yX4_size yX4_size, Cond.code yX4_size cX4_size 6 (some .int), Cond.methodLink RX4 34 yJ7_fill_53178, Cond.static yJ7_fill_53178, Cond.initialized RJ7, Cond.code yJ7_fill_53178 cJ7_fill_53178 4 none, Cond.methodLink RL 17 yX7_clear, Cond.instanceMethod yX7_clear, Cond.selects RX7 yX7_clear yX7_clear, Cond.code yX7_clear cX7_clear 3 (some .int), Cond.fieldLink RX7 92 "LitmusRunnerModel" "isFound" "Z", Cond.methodLink RL 18 yX6_model, Cond.instanceMethod yX6_model, Cond.selects RX6 yX6_model yX6_model]
def wsL_law_r7 : List Cond := [Cond.code yX6_model cX6_model 3 (some .int), Cond.methodLink RL 22 yX7_model, Cond.instanceMethod yX7_model, Cond.selects RX7 yX7_model yX7_model, Cond.code yX7_model cX7_model 3 (some .int), Cond.methodLink RX7 96 yX7_in, Cond.static yX7_in, Cond.code yX7_in cX7_in 3 (some .boolean), Cond.methodLink RL 23 yX6_add, Cond.instanceMethod yX6_add, Cond.selects RX6 yX6_add yX6_add, Cond.code yX6_add cX6_add 9 (some .int), Cond.methodLink RX6 63 yX4_propose, Cond.instanceMethod yX4_propose, Cond.selects RX4 yX4_propose yX4_propose, Cond.code yX4_propose cX4_propose 7 none, Cond.methodLink RX6 67 yX4_append, Cond.instanceMethod yX4_append, Cond.selects RX4 yX4_append yX4_append, Cond.code yX4_append cX4_append 6 (some .int), Cond.methodLink RX4 40 yX4_isDraftGood, Cond.instanceMethod yX4_isDraftGood, Cond.selects RX4 yX4_isDraftGood yX4_isDraftGood, Cond.code yX4_isDraftGood cX4_isDraftGood 3 (some .boolean)]
def wsL_law_r8 : List Cond := [Cond.methodLink RX4 59 yX4_formOf, Cond.static yX4_formOf, Cond.code yX4_formOf cX4_formOf 1 (some (.object "java/lang/String")), Cond.methodLink RX4 63 yJ0_length_8abf5, Cond.instanceMethod yJ0_length_8abf5, Cond.selects RJ0 yJ0_length_8abf5 yJ0_length_8abf5, Cond.initialized RJ0, Cond.code yJ0_length_8abf5 cJ0_length_8abf5 1 (some .int), Cond.fieldLink RJ0 9 "java/lang/String" "value" "[B", Cond.methodLink RJ0 335 yJ0_coder_7d493, Cond.instanceMethod yJ0_coder_7d493, Cond.selects RJ0 yJ0_coder_7d493 yJ0_coder_7d493, Cond.code yJ0_coder_7d493 cJ0_coder_7d493 1 (some .byte), Cond.fieldLink RJ0 38 "java/lang/String" "COMPACT_STRINGS" "Z", Cond.fieldLink RJ0 15 "java/lang/String" "coder" "B", Cond.methodLink RX4 68 yJ0_charAt_5068e, Cond.instanceMethod yJ0_charAt_5068e, Cond.selects RJ0 yJ0_charAt_5068e yJ0_charAt_5068e, Cond.code yJ0_charAt_5068e cJ0_charAt_5068e 2 (some .char), Cond.methodLink RJ0 492 yJ0_isLatin1_aae02, Cond.instanceMethod yJ0_isLatin1_aae02, Cond.selects RJ0 yJ0_isLatin1_aae02 yJ0_isLatin1_aae02, Cond.code yJ0_isLatin1_aae02 cJ0_isLatin1_aae02 1 (some .boolean), Cond.methodLink RJ0 495 yJ1_charAt_3b067]
def wsL_law_r9 : List Cond := [Cond.static yJ1_charAt_3b067, Cond.initialized RJ1, Cond.code yJ1_charAt_3b067 cJ1_charAt_3b067 2 (some .char), Cond.methodLink RJ1 9 yJ0_checkIndex_df160, Cond.static yJ0_checkIndex_df160, Cond.code yJ0_checkIndex_df160 cJ0_checkIndex_df160 2 none, Cond.fieldLink RJ0 1053 "jdk/internal/util/Preconditions" "SIOOBE_FORMATTER" "Ljava/util/function/BiFunction;", Cond.methodLink RJ0 1059 yJ3_checkIndex_8e157, Cond.static yJ3_checkIndex_8e157, Cond.initialized RJ3, Cond.code yJ3_checkIndex_8e157 cJ3_checkIndex_8e157 3 (some .int), Cond.methodLink RJ0 498 yJ2_charAt_3b067, Cond.static yJ2_charAt_3b067, Cond.initialized RJ2, Cond.code yJ2_charAt_3b067 cJ2_charAt_3b067 2 (some .char), Cond.methodLink RJ2 67 yJ2_checkIndex_2214a, Cond.static yJ2_checkIndex_2214a, Cond.code yJ2_checkIndex_2214a cJ2_checkIndex_2214a 2 none, Cond.methodLink RJ2 48 yJ2_length_9d52b, Cond.static yJ2_length_9d52b, Cond.code yJ2_length_9d52b cJ2_length_9d52b 1 (some .int), Cond.methodLink RJ2 414 yJ0_checkIndex_df160, Cond.methodLink RJ2 71 yJ2_getChar_3b067, Cond.static yJ2_getChar_3b067]
def wsL_law_r10 : List Cond := [Cond.code yJ2_getChar_3b067 cJ2_getChar_3b067 2 (some .char), Cond.fieldLink RJ2 44 "java/lang/StringUTF16" "$assertionsDisabled" "Z", Cond.fieldLink RJ2 59 "java/lang/StringUTF16" "HI_BYTE_SHIFT" "I", Cond.fieldLink RJ2 63 "java/lang/StringUTF16" "LO_BYTE_SHIFT" "I", Cond.methodLink RX4 72 yX4_isOfSort, Cond.static yX4_isOfSort, Cond.code yX4_isOfSort cX4_isOfSort 2 (some .boolean), Cond.static yX6_isAccess, Cond.code yX6_isAccess cX6_isAccess 1 (some .boolean), Cond.methodLink RX6 132 yX6_isReader, Cond.static yX6_isReader, Cond.code yX6_isReader cX6_isReader 1 (some .boolean), Cond.methodLink RX6 135 yX6_isWriter, Cond.static yX6_isWriter, Cond.code yX6_isWriter cX6_isWriter 1 (some .boolean), Cond.methodLink RX4 51 yX4_row, Cond.instanceMethod yX4_row, Cond.selects RX4 yX4_row yX4_row, Cond.code yX4_row cX4_row 3 (some (.array .int)), Cond.methodLink RX4 55 yX4_copyDraft, Cond.instanceMethod yX4_copyDraft, Cond.selects RX4 yX4_copyDraft yX4_copyDraft, Cond.code yX4_copyDraft cX4_copyDraft 4 none, Cond.methodLink RL 27 yX7_add]
def wsL_law_r11 : List Cond := [Cond.instanceMethod yX7_add, Cond.selects RX7 yX7_add yX7_add, Cond.code yX7_add cX7_add 11 (some .int), Cond.methodLink RX7 111 yX7_isGood, Cond.static yX7_isGood, Cond.code yX7_isGood cX7_isGood 6 (some .boolean), Cond.methodLink RX7 100 yX7_isRegister, Cond.static yX7_isRegister, Cond.code yX7_isRegister cX7_isRegister 1 (some .boolean), Cond.methodLink RX7 104 yX7_isPlace, Cond.static yX7_isPlace, Cond.code yX7_isPlace cX7_isPlace 2 (some .boolean), Cond.methodLink RX7 115 yX7_instructions, Cond.instanceMethod yX7_instructions, Cond.selects RX7 yX7_instructions yX7_instructions, Cond.code yX7_instructions cX7_instructions 6 (some .int), Cond.methodLink RX7 108 yX7_isReading, Cond.static yX7_isReading, Cond.code yX7_isReading cX7_isReading 1 (some .boolean), Cond.methodLink RX7 119 yX7_numbersOf, Cond.static yX7_numbersOf, Cond.code yX7_numbersOf cX7_numbersOf 1 (some .int), Cond.methodLink RL 28 yX6_find, Cond.instanceMethod yX6_find]
def wsL_law_r12 : List Cond := [Cond.selects RX6 yX6_find yX6_find, Cond.code yX6_find cX6_find 3 (some .int), Cond.methodLink RX6 71 yX3_size, Cond.instanceMethod yX3_size, Cond.selects RX3 yX3_size yX3_size, Cond.code yX3_size cX3_size 1 (some .int), Cond.methodLink RX6 74 yX3_removeAll, Cond.instanceMethod yX3_removeAll, Cond.selects RX3 yX3_removeAll yX3_removeAll, Cond.code yX3_removeAll cX3_removeAll 1 none, Cond.methodLink RX6 76 yX1_restart, Cond.instanceMethod yX1_restart, Cond.selects RX1 yX1_restart yX1_restart, Cond.code yX1_restart cX1_restart 1 none, Cond.methodLink RX6 79 yX5_walk, Cond.instanceMethod yX5_walk, Cond.selects RX5 yX5_walk yX5_walk, Cond.code yX5_walk cX5_walk 3 none, Cond.fieldLink RX5 42 "LitmusRunner$Way" "model" "I", Cond.fieldLink RX5 33 "LitmusRunner$Way" "size" "I", Cond.methodLink RX5 45 yJ7_fill_53178, Cond.methodLink RX5 51 yX5_walkHart, Cond.instanceMethod yX5_walkHart, Cond.selects RX5 yX5_walkHart yX5_walkHart]
def wsL_law_r13 : List Cond := [Cond.code yX5_walkHart cX5_walkHart 5 none, Cond.fieldLink RX5 72 "LitmusRunner$Way" "hart" "I", Cond.fieldLink RX5 75 "LitmusRunner$Way" "first" "I", Cond.fieldLink RX5 78 "LitmusRunner$Way" "reserve" "I", Cond.fieldLink RX5 81 "LitmusRunner$Way" "byWay" "I", Cond.fieldLink RX5 84 "LitmusRunner$Way" "neededForPlaces" "I", Cond.fieldLink RX5 87 "LitmusRunner$Way" "fencedBeforeReads" "I", Cond.fieldLink RX5 90 "LitmusRunner$Way" "fencedBeforeWrites" "I", Cond.methodLink RX5 93 yX4_length, Cond.instanceMethod yX4_length, Cond.selects RX4 yX4_length yX4_length, Cond.code yX4_length cX4_length 2 (some .int), Cond.methodLink RX5 99 yX4_row, Cond.methodLink RX5 103 yX5_leftOut, Cond.instanceMethod yX5_leftOut, Cond.selects RX5 yX5_leftOut yX5_leftOut, Cond.code yX5_leftOut cX5_leftOut 2 (some .int), Cond.methodLink RX5 111 yX5_carriedBy, Cond.instanceMethod yX5_carriedBy, Cond.selects RX5 yX5_carriedBy yX5_carriedBy, Cond.code yX5_carriedBy cX5_carriedBy 2 (some .int), Cond.methodLink RX5 114 yX5_valueOf, Cond.instanceMethod yX5_valueOf, Cond.selects RX5 yX5_valueOf yX5_valueOf]
def wsL_law_r14 : List Cond := [Cond.code yX5_valueOf cX5_valueOf 2 (some .int), Cond.methodLink RX5 107 yX5_step, Cond.instanceMethod yX5_step, Cond.selects RX5 yX5_step yX5_step, Cond.code yX5_step cX5_step 2 none, Cond.methodLink RX5 117 yX5_fence, Cond.instanceMethod yX5_fence, Cond.selects RX5 yX5_fence yX5_fence, Cond.code yX5_fence cX5_fence 8 none, Cond.methodLink RX5 121 yX5_setRegister, Cond.instanceMethod yX5_setRegister, Cond.selects RX5 yX5_setRegister yX5_setRegister, Cond.code yX5_setRegister cX5_setRegister 4 none, Cond.methodLink RX5 125 yX5_fails, Cond.instanceMethod yX5_fails, Cond.selects RX5 yX5_fails yX5_fails, Cond.code yX5_fails cX5_fails 3 (some .boolean), Cond.methodLink RX5 132 yX5_place, Cond.instanceMethod yX5_place, Cond.selects RX5 yX5_place yX5_place, Cond.code yX5_place cX5_place 3 (some .int), Cond.methodLink RX5 136 yX1_choose, Cond.instanceMethod yX1_choose, Cond.selects RX1 yX1_choose yX1_choose]
def wsL_law_r15 : List Cond := [Cond.code yX1_choose cX1_choose 2 (some .int), Cond.methodLink RX5 129 yX5_makeAccess, Cond.instanceMethod yX5_makeAccess, Cond.selects RX5 yX5_makeAccess yX5_makeAccess, Cond.code yX5_makeAccess cX5_makeAccess 6 none, Cond.methodLink RX5 161 yX5_written, Cond.instanceMethod yX5_written, Cond.selects RX5 yX5_written yX5_written, Cond.code yX5_written cX5_written 4 (some .int), Cond.methodLink RX5 165 yX5_relate, Cond.instanceMethod yX5_relate, Cond.selects RX5 yX5_relate yX5_relate, Cond.code yX5_relate cX5_relate 5 none, Cond.methodLink RX5 178 yX5_isOrdered, Cond.instanceMethod yX5_isOrdered, Cond.selects RX5 yX5_isOrdered yX5_isOrdered, Cond.code yX5_isOrdered cX5_isOrdered 13 (some .boolean), Cond.methodLink RX6 83 yX5_isPlausible, Cond.instanceMethod yX5_isPlausible, Cond.selects RX5 yX5_isPlausible yX5_isPlausible, Cond.code yX5_isPlausible cX5_isPlausible 2 (some .boolean), Cond.methodLink RX5 62 yX5_isWrittenFor, Cond.instanceMethod yX5_isWrittenFor, Cond.selects RX5 yX5_isWrittenFor yX5_isWrittenFor]
def wsL_law_r16 : List Cond := [Cond.code yX5_isWrittenFor cX5_isWrittenFor 5 (some .boolean), Cond.methodLink RX6 87 yX2_search, Cond.instanceMethod yX2_search, Cond.selects RX2 yX2_search yX2_search, Cond.code yX2_search cX2_search 1 (some .boolean), Cond.methodLink RX2 37 yX5_registersPart, Cond.instanceMethod yX5_registersPart, Cond.selects RX5 yX5_registersPart yX5_registersPart, Cond.code yX5_registersPart cX5_registersPart 4 (some .long), Cond.constantLong RX5 37 (4), Cond.methodLink RX2 42 yJ7_fill_53178, Cond.methodLink RX2 48 yX2_extend, Cond.instanceMethod yX2_extend, Cond.selects RX2 yX2_extend yX2_extend, Cond.code yX2_extend cX2_extend 5 none, Cond.methodLink RX2 52 yX5_size, Cond.instanceMethod yX5_size, Cond.selects RX5 yX5_size yX5_size, Cond.code yX5_size cX5_size 1 (some .int), Cond.methodLink RX2 56 yX5_locationsPart, Cond.instanceMethod yX5_locationsPart, Cond.selects RX5 yX5_locationsPart yX5_locationsPart, Cond.code yX5_locationsPart cX5_locationsPart 5 (some .long), Cond.methodLink RX2 60 yX3_keep]
def wsL_law_r17 : List Cond := [Cond.instanceMethod yX3_keep, Cond.selects RX3 yX3_keep yX3_keep, Cond.code yX3_keep cX3_keep 4 none, Cond.methodLink RX3 31 arraycopyName, Cond.native arraycopyName, Cond.static arraycopyName, Cond.initialized "java/lang/System", Cond.methodLink RX3 21 yX3_spotOf, Cond.instanceMethod yX3_spotOf, Cond.selects RX3 yX3_spotOf yX3_spotOf, Cond.code yX3_spotOf cX3_spotOf 7 (some .int), Cond.methodLink RX3 25 yJ7_copyOf_c38d5, Cond.static yJ7_copyOf_c38d5, Cond.code yJ7_copyOf_c38d5 cJ7_copyOf_c38d5 3 (some (.array .long)), Cond.methodLink RJ7 319 ⟨"[J", "clone", "()Ljava/lang/Object;"⟩, Cond.sameMethod "[J" "java/lang/Object" "clone" "()Ljava/lang/Object;", Cond.native ⟨"java/lang/Object", "clone", "()Ljava/lang/Object;"⟩, Cond.instanceMethod ⟨"java/lang/Object", "clone", "()Ljava/lang/Object;"⟩, Cond.selects "[J" ⟨"[J", "clone", "()Ljava/lang/Object;"⟩ ⟨"java/lang/Object", "clone", "()Ljava/lang/Object;"⟩, Cond.classLink RJ7 320 "[J", Cond.methodLink RJ7 304 Lib.Math.min.name, Cond.static Lib.Math.min.name, Cond.initialized "java/lang/Math", Cond.code Lib.Math.min.name Lib.Math.min.code 2 (some .int)]
def wsL_law_r18 : List Cond := [Cond.methodLink RJ7 150 arraycopyName, Cond.methodLink RX2 66 yX5_accessAt, Cond.instanceMethod yX5_accessAt, Cond.selects RX5 yX5_accessAt yX5_accessAt, Cond.code yX5_accessAt cX5_accessAt 2 (some (.object "LitmusRunner$Access")), Cond.methodLink RX2 70 yX2_isIn, Cond.static yX2_isIn, Cond.code yX2_isIn cX2_isIn 2 (some .boolean), Cond.methodLink RX2 83 yX2_sourceOf, Cond.instanceMethod yX2_sourceOf, Cond.selects RX2 yX2_sourceOf yX2_sourceOf, Cond.code yX2_sourceOf cX2_sourceOf 4 (some .int), Cond.methodLink RX2 87 yX2_mayReadHere, Cond.instanceMethod yX2_mayReadHere, Cond.selects RX2 yX2_mayReadHere yX2_mayReadHere, Cond.code yX2_mayReadHere cX2_mayReadHere 5 (some .boolean), Cond.methodLink RX2 113 yX2_mayForward, Cond.instanceMethod yX2_mayForward, Cond.selects RX2 yX2_mayForward yX2_mayForward, Cond.code yX2_mayForward cX2_mayForward 4 (some .boolean), Cond.methodLink RX2 116 yX2_agreesWithTwins, Cond.instanceMethod yX2_agreesWithTwins, Cond.selects RX2 yX2_agreesWithTwins yX2_agreesWithTwins, Cond.code yX2_agreesWithTwins cX2_agreesWithTwins 4 (some .boolean)]
def wsL_law_r19 : List Cond := [Cond.methodLink RX2 90 yX2_isAtomic, Cond.instanceMethod yX2_isAtomic, Cond.selects RX2 yX2_isAtomic yX2_isAtomic, Cond.code yX2_isAtomic cX2_isAtomic 8 (some .boolean), Cond.methodLink RX2 94 yX2_place, Cond.instanceMethod yX2_place, Cond.selects RX2 yX2_place yX2_place, Cond.code yX2_place cX2_place 6 none, Cond.methodLink RX6 90 yX1_advance, Cond.instanceMethod yX1_advance, Cond.selects RX1 yX1_advance yX1_advance, Cond.code yX1_advance cX1_advance 2 (some .boolean), Cond.methodLink RL 31 yX7_find, Cond.instanceMethod yX7_find, Cond.selects RX7 yX7_find yX7_find, Cond.code yX7_find cX7_find 2 (some .int), Cond.fieldLink RX7 181 "LitmusRunnerModel" "many" "I", Cond.fieldLink RX7 206 "LitmusRunnerModel" "ways" "I", Cond.fieldLink RX7 125 "LitmusRunnerModel" "choices" "I", Cond.methodLink RX7 209 yX7_doWay, Cond.instanceMethod yX7_doWay, Cond.selects RX7 yX7_doWay yX7_doWay, Cond.code yX7_doWay cX7_doWay 2 none, Cond.fieldLink RX7 122 "LitmusRunnerModel" "told" "I"]
def wsL_law_r20 : List Cond := [Cond.fieldLink RX7 128 "LitmusRunnerModel" "accesses" "I", Cond.fieldLink RX7 131 "LitmusRunnerModel" "fences" "I", Cond.methodLink RX7 134 yX7_doHart, Cond.instanceMethod yX7_doHart, Cond.selects RX7 yX7_doHart yX7_doHart, Cond.code yX7_doHart cX7_doHart 10 none, Cond.fieldLink RX7 138 "LitmusRunnerModel" "way" "I", Cond.fieldLink RX7 141 "LitmusRunnerModel" "reserved" "I", Cond.methodLink RX7 144 yX7_access, Cond.instanceMethod yX7_access, Cond.selects RX7 yX7_access yX7_access, Cond.code yX7_access cX7_access 14 none, Cond.methodLink RX7 148 yX7_choose, Cond.instanceMethod yX7_choose, Cond.selects RX7 yX7_choose yX7_choose, Cond.code yX7_choose cX7_choose 2 (some .int), Cond.methodLink RX7 151 yX7_isWriting, Cond.static yX7_isWriting, Cond.code yX7_isWriting cX7_isWriting 1 (some .boolean), Cond.methodLink RX7 212 yX7_goThrough, Cond.instanceMethod yX7_goThrough, Cond.selects RX7 yX7_goThrough yX7_goThrough, Cond.code yX7_goThrough cX7_goThrough 4 (some .boolean), Cond.methodLink RX7 188 yX7_findMust]
def wsL_law_r21 : List Cond := [Cond.instanceMethod yX7_findMust, Cond.selects RX7 yX7_findMust yX7_findMust, Cond.code yX7_findMust cX7_findMust 3 none, Cond.methodLink RX7 166 yX7_mustStand, Cond.instanceMethod yX7_mustStand, Cond.selects RX7 yX7_mustStand yX7_mustStand, Cond.code yX7_mustStand cX7_mustStand 6 (some .boolean), Cond.methodLink RX7 154 yX7_reads, Cond.instanceMethod yX7_reads, Cond.selects RX7 yX7_reads yX7_reads, Cond.code yX7_reads cX7_reads 2 (some .boolean), Cond.methodLink RX7 157 yX7_writes, Cond.instanceMethod yX7_writes, Cond.selects RX7 yX7_writes yX7_writes, Cond.code yX7_writes cX7_writes 2 (some .boolean), Cond.methodLink RX7 160 yX7_isFenced, Cond.instanceMethod yX7_isFenced, Cond.selects RX7 yX7_isFenced yX7_isFenced, Cond.code yX7_isFenced cX7_isFenced 7 (some .boolean), Cond.methodLink RX7 163 yX7_needs, Cond.static yX7_needs, Cond.code yX7_needs cX7_needs 2 (some .boolean), Cond.methodLink RX7 191 yX7_isOrder, Cond.instanceMethod yX7_isOrder]
def wsL_law_r22 : List Cond := [Cond.selects RX7 yX7_isOrder yX7_isOrder, Cond.code yX7_isOrder cX7_isOrder 3 (some .boolean), Cond.methodLink RX7 172 yX7_sourceOf, Cond.instanceMethod yX7_sourceOf, Cond.selects RX7 yX7_sourceOf yX7_sourceOf, Cond.code yX7_sourceOf cX7_sourceOf 5 (some .int), Cond.methodLink RX7 175 yX7_isAsked, Cond.instanceMethod yX7_isAsked, Cond.selects RX7 yX7_isAsked yX7_isAsked, Cond.code yX7_isAsked cX7_isAsked 6 (some .boolean), Cond.methodLink RX7 169 yX7_isWriteBetween, Cond.instanceMethod yX7_isWriteBetween, Cond.selects RX7 yX7_isWriteBetween yX7_isWriteBetween, Cond.code yX7_isWriteBetween cX7_isWriteBetween 5 (some .boolean), Cond.methodLink RX7 178 yX7_isAtomic, Cond.instanceMethod yX7_isAtomic, Cond.selects RX7 yX7_isAtomic yX7_isAtomic, Cond.code yX7_isAtomic cX7_isAtomic 8 (some .boolean), Cond.methodLink RX7 195 yX7_reckon, Cond.instanceMethod yX7_reckon, Cond.selects RX7 yX7_reckon yX7_reckon, Cond.code yX7_reckon cX7_reckon 6 (some .long), Cond.methodLink RX7 199 yX7_keep, Cond.instanceMethod yX7_keep]
def wsL_law_r23 : List Cond := [Cond.selects RX7 yX7_keep yX7_keep, Cond.code yX7_keep cX7_keep 5 none, Cond.methodLink RX7 184 yX7_placeOf, Cond.instanceMethod yX7_placeOf, Cond.selects RX7 yX7_placeOf yX7_placeOf, Cond.code yX7_placeOf cX7_placeOf 6 (some .int), Cond.methodLink RX7 203 yX7_nextOrder, Cond.instanceMethod yX7_nextOrder, Cond.selects RX7 yX7_nextOrder yX7_nextOrder, Cond.code yX7_nextOrder cX7_nextOrder 7 (some .boolean), Cond.methodLink RX7 215 yX7_nextWay, Cond.instanceMethod yX7_nextWay, Cond.selects RX7 yX7_nextWay yX7_nextWay, Cond.code yX7_nextWay cX7_nextWay 1 (some .boolean), Cond.methodLink RL 32 yX6_outcome, Cond.instanceMethod yX6_outcome, Cond.selects RX6 yX6_outcome yX6_outcome, Cond.code yX6_outcome cX6_outcome 2 (some .long), Cond.constantLong RX6 97 (-1), Cond.methodLink RX6 93 yX3_at, Cond.instanceMethod yX3_at, Cond.selects RX3 yX3_at yX3_at, Cond.code yX3_at cX3_at 2 (some .long), Cond.constantLong RX3 19 (-1)]
def wsL_law_r24 : List Cond := [Cond.methodLink RL 36 yX7_outcome, Cond.instanceMethod yX7_outcome, Cond.selects RX7 yX7_outcome yX7_outcome, Cond.code yX7_outcome cX7_outcome 2 (some .long), Cond.constantLong RX7 218 (-1), Cond.methodLink RL 37 yX6_with, Cond.instanceMethod yX6_with, Cond.selects RX6 yX6_with yX6_with, Cond.code yX6_with cX6_with 3 (some .int), Cond.methodLink RX6 99 yX6_both, Cond.instanceMethod yX6_both, Cond.selects RX6 yX6_both yX6_both, Cond.code yX6_both cX6_both 5 (some .int), Cond.methodLink RX6 103 yX6_isPart, Cond.static yX6_isPart, Cond.code yX6_isPart cX6_isPart 1 (some .boolean), Cond.methodLink RX6 107 yX6_isValue, Cond.static yX6_isValue, Cond.code yX6_isValue cX6_isValue 1 (some .boolean), Cond.methodLink RX6 110 yX3_howMany, Cond.instanceMethod yX3_howMany, Cond.selects RX3 yX3_howMany yX3_howMany, Cond.code yX3_howMany cX3_howMany 7 (some .int), Cond.methodLink RX3 37 yX3_partOf]
def wsL_law_r25 : List Cond := [Cond.static yX3_partOf, Cond.code yX3_partOf cX3_partOf 3 (some .int), Cond.methodLink RL 41 yX7_with, Cond.instanceMethod yX7_with, Cond.selects RX7 yX7_with yX7_with, Cond.code yX7_with cX7_with 3 (some .int), Cond.methodLink RX7 222 yX7_both, Cond.instanceMethod yX7_both, Cond.selects RX7 yX7_both yX7_both, Cond.code yX7_both cX7_both 7 (some .int), Cond.methodLink RX7 226 yX7_isAsking, Cond.static yX7_isAsking, Cond.code yX7_isAsking cX7_isAsking 2 (some .boolean), Cond.methodLink RX7 229 yX7_has, Cond.static yX7_has, Cond.code yX7_has cX7_has 4 (some .boolean), Cond.constantLong RX7 220 (3), Cond.methodLink RL 42 yX6_both, Cond.methodLink RL 46 yX7_both, Cond.methodLink RL 49 yX6_is, Cond.instanceMethod yX6_is, Cond.selects RX6 yX6_is yX6_is, Cond.code yX6_is cX6_is 3 (some .int), Cond.methodLink RX6 113 yX3_holds]
def wsL_law_r26 : List Cond := [Cond.instanceMethod yX3_holds, Cond.selects RX3 yX3_holds yX3_holds, Cond.code yX3_holds cX3_holds 4 (some .boolean), Cond.methodLink RL 53 yX7_is, Cond.instanceMethod yX7_is, Cond.selects RX7 yX7_is yX7_is, Cond.code yX7_is cX7_is 4 (some .int), Cond.methodLink RL 54 yX6_instruction, Cond.instanceMethod yX6_instruction, Cond.selects RX6 yX6_instruction yX6_instruction, Cond.code yX6_instruction cX6_instruction 4 (some .int), Cond.methodLink RX6 117 yX4_has, Cond.instanceMethod yX4_has, Cond.selects RX4 yX4_has yX4_has, Cond.code yX4_has cX4_has 3 (some .boolean), Cond.methodLink RX6 121 yX4_row, Cond.methodLink RL 58 yX7_instruction, Cond.instanceMethod yX7_instruction, Cond.selects RX7 yX7_instruction yX7_instruction, Cond.code yX7_instruction cX7_instruction 4 (some .int), Cond.methodLink RL 59 yX6_count, Cond.instanceMethod yX6_count, Cond.selects RX6 yX6_count yX6_count, Cond.code yX6_count cX6_count 2 (some .int)]
def wsL_law_r27 : List Cond := [Cond.methodLink RX6 125 yX4_size, Cond.methodLink RX6 126 yX4_accesses, Cond.instanceMethod yX4_accesses, Cond.selects RX4 yX4_accesses yX4_accesses, Cond.code yX4_accesses cX4_accesses 1 (some .int), Cond.methodLink RX6 129 yX4_readers, Cond.instanceMethod yX4_readers, Cond.selects RX4 yX4_readers yX4_readers, Cond.code yX4_readers cX4_readers 1 (some .int), Cond.methodLink RL 62 yX7_count, Cond.instanceMethod yX7_count, Cond.selects RX7 yX7_count yX7_count, Cond.code yX7_count cX7_count 2 (some .int)]
def wsL_law : List Cond := (wsL_law_r1 ++ (wsL_law_r2 ++ (wsL_law_r3 ++ (wsL_law_r4 ++ (wsL_law_r5 ++ (wsL_law_r6 ++ (wsL_law_r7 ++ (wsL_law_r8 ++ (wsL_law_r9 ++ (wsL_law_r10 ++ (wsL_law_r11 ++ (wsL_law_r12 ++ (wsL_law_r13 ++ (wsL_law_r14 ++ (wsL_law_r15 ++ (wsL_law_r16 ++ (wsL_law_r17 ++ (wsL_law_r18 ++ (wsL_law_r19 ++ (wsL_law_r20 ++ (wsL_law_r21 ++ (wsL_law_r22 ++ (wsL_law_r23 ++ (wsL_law_r24 ++ (wsL_law_r25 ++ (wsL_law_r26 ++ wsL_law_r27)))))))))))))))))))))))))) ++ wsX60 ++ wsX70 ++ wsX40 ++ wsX10 ++ wsX50 ++ wsX30 ++ wsX20 ++ wsX00 ++ ([] : List Cond)
abbrev vwCl : List vw_C := [(RX0, TX0, 14), (RX1, TX1, 4), (RX2, TX2, 7), (RX3, TX3, 2), (RX4, TX4, 5), (RX5, TX5, 14), (RX6, TX6, 8), (RX7, TX7, 35)]
end
section
theorem dX0_init_0 : decode cX0_init 0 = .ok (.aload_n 0, 1) := by decide +kernel
theorem dX0_init_1 : decode cX0_init 1 = .ok (.invokespecial 1, 3) := by decide +kernel
theorem dX0_init_4 : decode cX0_init 4 = .ok (.return_, 1) := by decide +kernel
theorem dX1_init_0 : decode cX1_init 0 = .ok (.aload_n 0, 1) := by decide +kernel
theorem dX1_init_1 : decode cX1_init 1 = .ok (.invokespecial 3, 3) := by decide +kernel
theorem dX1_init_4 : decode cX1_init 4 = .ok (.aload_n 0, 1) := by decide +kernel
theorem dX1_init_5 : decode cX1_init 5 = .ok (.bipush 6, 2) := by decide +kernel
theorem dX1_init_7 : decode cX1_init 7 = .ok (.newarray .int, 2) := by decide +kernel
theorem dX1_init_9 : decode cX1_init 9 = .ok (.putfield 9, 3) := by decide +kernel
theorem dX1_init_12 : decode cX1_init 12 = .ok (.aload_n 0, 1) := by decide +kernel
theorem dX1_init_13 : decode cX1_init 13 = .ok (.bipush 6, 2) := by decide +kernel
theorem dX1_init_15 : decode cX1_init 15 = .ok (.newarray .int, 2) := by decide +kernel
theorem dX1_init_17 : decode cX1_init 17 = .ok (.putfield 15, 3) := by decide +kernel
theorem dX1_init_20 : decode cX1_init 20 = .ok (.aload_n 0, 1) := by decide +kernel
theorem dX1_init_21 : decode cX1_init 21 = .ok (.iconst 0, 1) := by decide +kernel
theorem dX1_init_22 : decode cX1_init 22 = .ok (.putfield 18, 3) := by decide +kernel
theorem dX1_init_25 : decode cX1_init 25 = .ok (.aload_n 0, 1) := by decide +kernel
theorem dX1_init_26 : decode cX1_init 26 = .ok (.iconst 0, 1) := by decide +kernel
theorem dX1_init_27 : decode cX1_init 27 = .ok (.putfield 22, 3) := by decide +kernel
theorem dX1_init_30 : decode cX1_init 30 = .ok (.return_, 1) := by decide +kernel
theorem dX1_restart_0 : decode cX1_restart 0 = .ok (.aload_n 0, 1) := by decide +kernel
theorem dX1_restart_1 : decode cX1_restart 1 = .ok (.iconst 0, 1) := by decide +kernel
theorem dX1_restart_2 : decode cX1_restart 2 = .ok (.putfield 18, 3) := by decide +kernel
theorem dX1_restart_5 : decode cX1_restart 5 = .ok (.aload_n 0, 1) := by decide +kernel
theorem dX1_restart_6 : decode cX1_restart 6 = .ok (.iconst 0, 1) := by decide +kernel
theorem dX1_restart_7 : decode cX1_restart 7 = .ok (.putfield 22, 3) := by decide +kernel
theorem dX1_restart_10 : decode cX1_restart 10 = .ok (.return_, 1) := by decide +kernel
theorem dX1_choose_0 : decode cX1_choose 0 = .ok (.aload_n 0, 1) := by decide +kernel
theorem dX1_choose_1 : decode cX1_choose 1 = .ok (.getfield 18, 3) := by decide +kernel
theorem dX1_choose_4 : decode cX1_choose 4 = .ok (.bipush 6, 2) := by decide +kernel
theorem dX1_choose_6 : decode cX1_choose 6 = .ok (.if_icmp .lt 5, 3) := by decide +kernel
theorem dX1_choose_9 : decode cX1_choose 9 = .ok (.iconst 0, 1) := by decide +kernel
theorem dX1_choose_10 : decode cX1_choose 10 = .ok (.ireturn, 1) := by decide +kernel
theorem dX1_choose_11 : decode cX1_choose 11 = .ok (.aload_n 0, 1) := by decide +kernel
theorem dX1_choose_12 : decode cX1_choose 12 = .ok (.getfield 18, 3) := by decide +kernel
theorem dX1_choose_15 : decode cX1_choose 15 = .ok (.aload_n 0, 1) := by decide +kernel
theorem dX1_choose_16 : decode cX1_choose 16 = .ok (.getfield 22, 3) := by decide +kernel
theorem dX1_choose_19 : decode cX1_choose 19 = .ok (.if_icmp .lt 23, 3) := by decide +kernel
theorem dX1_choose_22 : decode cX1_choose 22 = .ok (.aload_n 0, 1) := by decide +kernel
theorem dX1_choose_23 : decode cX1_choose 23 = .ok (.getfield 9, 3) := by decide +kernel
theorem dX1_choose_26 : decode cX1_choose 26 = .ok (.aload_n 0, 1) := by decide +kernel
theorem dX1_choose_27 : decode cX1_choose 27 = .ok (.getfield 18, 3) := by decide +kernel
theorem dX1_choose_30 : decode cX1_choose 30 = .ok (.iconst 0, 1) := by decide +kernel
theorem dX1_choose_31 : decode cX1_choose 31 = .ok (.iastore, 1) := by decide +kernel
theorem dX1_choose_32 : decode cX1_choose 32 = .ok (.aload_n 0, 1) := by decide +kernel
theorem dX1_choose_33 : decode cX1_choose 33 = .ok (.getfield 15, 3) := by decide +kernel
theorem dX1_choose_36 : decode cX1_choose 36 = .ok (.aload_n 0, 1) := by decide +kernel
theorem dX1_choose_37 : decode cX1_choose 37 = .ok (.getfield 18, 3) := by decide +kernel
theorem dX1_choose_40 : decode cX1_choose 40 = .ok (.iload_n 1, 1) := by decide +kernel
theorem dX1_choose_41 : decode cX1_choose 41 = .ok (.iastore, 1) := by decide +kernel
theorem dX1_choose_42 : decode cX1_choose 42 = .ok (.aload_n 0, 1) := by decide +kernel
theorem dX1_choose_43 : decode cX1_choose 43 = .ok (.getfield 9, 3) := by decide +kernel
theorem dX1_choose_46 : decode cX1_choose 46 = .ok (.aload_n 0, 1) := by decide +kernel
theorem dX1_choose_47 : decode cX1_choose 47 = .ok (.dup, 1) := by decide +kernel
theorem dX1_choose_48 : decode cX1_choose 48 = .ok (.getfield 18, 3) := by decide +kernel
theorem dX1_choose_51 : decode cX1_choose 51 = .ok (.dup_x1, 1) := by decide +kernel
theorem dX1_choose_52 : decode cX1_choose 52 = .ok (.iconst 1, 1) := by decide +kernel
theorem dX1_choose_53 : decode cX1_choose 53 = .ok (.iadd, 1) := by decide +kernel
theorem dX1_choose_54 : decode cX1_choose 54 = .ok (.putfield 18, 3) := by decide +kernel
theorem dX1_choose_57 : decode cX1_choose 57 = .ok (.iaload, 1) := by decide +kernel
theorem dX1_choose_58 : decode cX1_choose 58 = .ok (.ireturn, 1) := by decide +kernel
theorem dX1_advance_0 : decode cX1_advance 0 = .ok (.aload_n 0, 1) := by decide +kernel
theorem dX1_advance_1 : decode cX1_advance 1 = .ok (.getfield 18, 3) := by decide +kernel
theorem dX1_advance_4 : decode cX1_advance 4 = .ok (.iconst 1, 1) := by decide +kernel
theorem dX1_advance_5 : decode cX1_advance 5 = .ok (.isub, 1) := by decide +kernel
theorem dX1_advance_6 : decode cX1_advance 6 = .ok (.istore_n 1, 1) := by decide +kernel
theorem dX1_advance_7 : decode cX1_advance 7 = .ok (.iload_n 1, 1) := by decide +kernel
theorem dX1_advance_8 : decode cX1_advance 8 = .ok (.ifCond .lt 26, 3) := by decide +kernel
theorem dX1_advance_11 : decode cX1_advance 11 = .ok (.aload_n 0, 1) := by decide +kernel
theorem dX1_advance_12 : decode cX1_advance 12 = .ok (.getfield 9, 3) := by decide +kernel
theorem dX1_advance_15 : decode cX1_advance 15 = .ok (.iload_n 1, 1) := by decide +kernel
theorem dX1_advance_16 : decode cX1_advance 16 = .ok (.iaload, 1) := by decide +kernel
theorem dX1_advance_17 : decode cX1_advance 17 = .ok (.iconst 1, 1) := by decide +kernel
theorem dX1_advance_18 : decode cX1_advance 18 = .ok (.iadd, 1) := by decide +kernel
theorem dX1_advance_19 : decode cX1_advance 19 = .ok (.aload_n 0, 1) := by decide +kernel
theorem dX1_advance_20 : decode cX1_advance 20 = .ok (.getfield 15, 3) := by decide +kernel
theorem dX1_advance_23 : decode cX1_advance 23 = .ok (.iload_n 1, 1) := by decide +kernel
theorem dX1_advance_24 : decode cX1_advance 24 = .ok (.iaload, 1) := by decide +kernel
theorem dX1_advance_25 : decode cX1_advance 25 = .ok (.if_icmp .lt 9, 3) := by decide +kernel
theorem dX1_advance_28 : decode cX1_advance 28 = .ok (.iinc 1 (-1), 3) := by decide +kernel
theorem dX1_advance_31 : decode cX1_advance 31 = .ok (.goto (-24), 3) := by decide +kernel
theorem dX1_advance_34 : decode cX1_advance 34 = .ok (.iload_n 1, 1) := by decide +kernel
theorem dX1_advance_35 : decode cX1_advance 35 = .ok (.ifCond .lt 13, 3) := by decide +kernel
theorem dX1_advance_38 : decode cX1_advance 38 = .ok (.aload_n 0, 1) := by decide +kernel
theorem dX1_advance_39 : decode cX1_advance 39 = .ok (.getfield 9, 3) := by decide +kernel
theorem dX1_advance_42 : decode cX1_advance 42 = .ok (.iload_n 1, 1) := by decide +kernel
theorem dX1_advance_43 : decode cX1_advance 43 = .ok (.dup2, 1) := by decide +kernel
theorem dX1_advance_44 : decode cX1_advance 44 = .ok (.iaload, 1) := by decide +kernel
theorem dX1_advance_45 : decode cX1_advance 45 = .ok (.iconst 1, 1) := by decide +kernel
theorem dX1_advance_46 : decode cX1_advance 46 = .ok (.iadd, 1) := by decide +kernel
theorem dX1_advance_47 : decode cX1_advance 47 = .ok (.iastore, 1) := by decide +kernel
theorem dX1_advance_48 : decode cX1_advance 48 = .ok (.aload_n 0, 1) := by decide +kernel
theorem dX1_advance_49 : decode cX1_advance 49 = .ok (.iload_n 1, 1) := by decide +kernel
theorem dX1_advance_50 : decode cX1_advance 50 = .ok (.iconst 1, 1) := by decide +kernel
theorem dX1_advance_51 : decode cX1_advance 51 = .ok (.iadd, 1) := by decide +kernel
theorem dX1_advance_52 : decode cX1_advance 52 = .ok (.putfield 22, 3) := by decide +kernel
theorem dX1_advance_55 : decode cX1_advance 55 = .ok (.aload_n 0, 1) := by decide +kernel
theorem dX1_advance_56 : decode cX1_advance 56 = .ok (.iconst 0, 1) := by decide +kernel
theorem dX1_advance_57 : decode cX1_advance 57 = .ok (.putfield 18, 3) := by decide +kernel
theorem dX1_advance_60 : decode cX1_advance 60 = .ok (.iload_n 1, 1) := by decide +kernel
theorem dX1_advance_61 : decode cX1_advance 61 = .ok (.ifCond .lt 7, 3) := by decide +kernel
theorem dX1_advance_64 : decode cX1_advance 64 = .ok (.iconst 1, 1) := by decide +kernel
theorem dX1_advance_65 : decode cX1_advance 65 = .ok (.goto 4, 3) := by decide +kernel
theorem dX1_advance_68 : decode cX1_advance 68 = .ok (.iconst 0, 1) := by decide +kernel
theorem dX1_advance_69 : decode cX1_advance 69 = .ok (.ireturn, 1) := by decide +kernel
theorem dX2_init_0 : decode cX2_init 0 = .ok (.aload_n 0, 1) := by decide +kernel
theorem dX2_init_1 : decode cX2_init 1 = .ok (.invokespecial 3, 3) := by decide +kernel
theorem dX2_init_4 : decode cX2_init 4 = .ok (.aload_n 0, 1) := by decide +kernel
theorem dX2_init_5 : decode cX2_init 5 = .ok (.aload_n 1, 1) := by decide +kernel
theorem dX2_init_6 : decode cX2_init 6 = .ok (.putfield 9, 3) := by decide +kernel
theorem dX2_init_9 : decode cX2_init 9 = .ok (.aload_n 0, 1) := by decide +kernel
theorem dX2_init_10 : decode cX2_init 10 = .ok (.aload_n 2, 1) := by decide +kernel
theorem dX2_init_11 : decode cX2_init 11 = .ok (.putfield 15, 3) := by decide +kernel
theorem dX2_init_14 : decode cX2_init 14 = .ok (.aload_n 0, 1) := by decide +kernel
theorem dX2_init_15 : decode cX2_init 15 = .ok (.bipush 6, 2) := by decide +kernel
theorem dX2_init_17 : decode cX2_init 17 = .ok (.newarray .int, 2) := by decide +kernel
theorem dX2_init_19 : decode cX2_init 19 = .ok (.putfield 19, 3) := by decide +kernel
theorem dX2_init_22 : decode cX2_init 22 = .ok (.aload_n 0, 1) := by decide +kernel
theorem dX2_init_23 : decode cX2_init 23 = .ok (.bipush 6, 2) := by decide +kernel
theorem dX2_init_25 : decode cX2_init 25 = .ok (.newarray .int, 2) := by decide +kernel
theorem dX2_init_27 : decode cX2_init 27 = .ok (.putfield 23, 3) := by decide +kernel
theorem dX2_init_30 : decode cX2_init 30 = .ok (.aload_n 0, 1) := by decide +kernel
theorem dX2_init_31 : decode cX2_init 31 = .ok (.iconst 3, 1) := by decide +kernel
theorem dX2_init_32 : decode cX2_init 32 = .ok (.newarray .int, 2) := by decide +kernel
theorem dX2_init_34 : decode cX2_init 34 = .ok (.putfield 26, 3) := by decide +kernel
theorem dX2_init_37 : decode cX2_init 37 = .ok (.aload_n 0, 1) := by decide +kernel
theorem dX2_init_38 : decode cX2_init 38 = .ok (.lconst 0, 1) := by decide +kernel
theorem dX2_init_39 : decode cX2_init 39 = .ok (.putfield 29, 3) := by decide +kernel
theorem dX2_init_42 : decode cX2_init 42 = .ok (.aload_n 0, 1) := by decide +kernel
theorem dX2_init_43 : decode cX2_init 43 = .ok (.iconst 0, 1) := by decide +kernel
theorem dX2_init_44 : decode cX2_init 44 = .ok (.putfield 33, 3) := by decide +kernel
theorem dX2_init_47 : decode cX2_init 47 = .ok (.return_, 1) := by decide +kernel
set_option maxRecDepth 20000 in
theorem ggX2_search_X5_registersPart : GoodIn wsX2_search wsX5_registersPart := goodIn_r _ [9, 10, 11, 102, 103, 104, 105, 106, 107, 108, 109, 110, 111, 112, 113, 114, 115] (by decide +kernel) (by decide +kernel)
set_option maxRecDepth 20000 in
theorem gX2_search_X5_registersPart : GoodIn wsX2_search (wsV RX2 37 RX5 yX5_registersPart wsX5_registersPart) := goodIn_app (goodIn_of _ (by decide +kernel)) ggX2_search_X5_registersPart
set_option maxRecDepth 20000 in
theorem ggX2_search_J7_fill_53178 : GoodIn wsX2_search wsJ7_fill_53178 := goodIn_r _ [15] (by decide +kernel) (by decide +kernel)
set_option maxRecDepth 20000 in
theorem gX2_search_J7_fill_53178 : GoodIn wsX2_search (va_wsS RX2 42 yJ7_fill_53178 wsJ7_fill_53178) := goodIn_app (goodIn_of _ (by decide +kernel)) ggX2_search_J7_fill_53178
set_option maxRecDepth 20000 in
theorem ggX2_search_X2_extend : GoodIn wsX2_search wsX2_extend := goodIn_r _ [20, 2, 1, 21, 3, 4, 22, 23, 24, 25, 8, 26, 27, 28, 29, 30, 31, 10, 32, 33, 34, 35, 36, 37, 38, 39, 40, 41, 42, 43, 44, 45, 46, 47, 48, 49, 14, 50, 51, 52, 53, 54, 55, 56, 57, 58, 59, 60, 61, 62, 63, 64, 65, 66, 67, 68, 19, 69, 70, 71, 72, 73, 74, 75, 76, 77, 78, 79, 80, 81, 82, 83, 84, 85, 86, 87, 88, 89, 90, 91, 92, 93, 94, 16, 17, 18, 95, 96, 97, 98, 99, 100, 101, 116, 117, 118, 119, 120, 121, 122, 123, 124, 125, 126, 127, 128, 129, 102, 103, 104, 105, 106, 107, 108, 109, 110, 111, 112, 113, 114, 115, 130, 131] (by decide +kernel) (by decide +kernel)
set_option maxRecDepth 20000 in
theorem gX2_search_X2_extend : GoodIn wsX2_search (wsV RX2 48 RX2 yX2_extend wsX2_extend) := goodIn_app (goodIn_of _ (by decide +kernel)) ggX2_search_X2_extend
theorem dX2_search_0 : decode cX2_search 0 = .ok (.aload_n 0, 1) := by decide +kernel
theorem dX2_search_1 : decode cX2_search 1 = .ok (.iconst 0, 1) := by decide +kernel
theorem dX2_search_2 : decode cX2_search 2 = .ok (.putfield 33, 3) := by decide +kernel
theorem dX2_search_5 : decode cX2_search 5 = .ok (.aload_n 0, 1) := by decide +kernel
theorem dX2_search_6 : decode cX2_search 6 = .ok (.aload_n 0, 1) := by decide +kernel
theorem dX2_search_7 : decode cX2_search 7 = .ok (.getfield 9, 3) := by decide +kernel
theorem dX2_search_10 : decode cX2_search 10 = .ok (.invokevirtual 37, 3) := by decide +kernel
theorem dX2_search_13 : decode cX2_search 13 = .ok (.putfield 29, 3) := by decide +kernel
theorem dX2_search_16 : decode cX2_search 16 = .ok (.aload_n 0, 1) := by decide +kernel
theorem dX2_search_17 : decode cX2_search 17 = .ok (.getfield 26, 3) := by decide +kernel
theorem dX2_search_20 : decode cX2_search 20 = .ok (.iconst (-1), 1) := by decide +kernel
theorem dX2_search_21 : decode cX2_search 21 = .ok (.invokestatic 42, 3) := by decide +kernel
theorem dX2_search_24 : decode cX2_search 24 = .ok (.aload_n 0, 1) := by decide +kernel
theorem dX2_search_25 : decode cX2_search 25 = .ok (.iconst 0, 1) := by decide +kernel
theorem dX2_search_26 : decode cX2_search 26 = .ok (.iconst 0, 1) := by decide +kernel
theorem dX2_search_27 : decode cX2_search 27 = .ok (.invokevirtual 48, 3) := by decide +kernel
theorem dX2_search_30 : decode cX2_search 30 = .ok (.aload_n 0, 1) := by decide +kernel
theorem dX2_search_31 : decode cX2_search 31 = .ok (.getfield 33, 3) := by decide +kernel
theorem dX2_search_34 : decode cX2_search 34 = .ok (.ireturn, 1) := by decide +kernel
set_option maxRecDepth 20000 in
theorem ggX2_extend_X5_size : GoodIn wsX2_extend wsX5_size := goodIn_r _ [11, 12, 107, 108, 109, 110, 111, 112, 113, 114, 115, 116, 117, 118, 119, 120] (by decide +kernel) (by decide +kernel)
set_option maxRecDepth 20000 in
theorem gX2_extend_X5_size : GoodIn wsX2_extend (wsV RX2 52 RX5 yX5_size wsX5_size) := goodIn_app (goodIn_of _ (by decide +kernel)) ggX2_extend_X5_size
set_option maxRecDepth 20000 in
theorem ggX2_extend_X5_locationsPart : GoodIn wsX2_extend wsX5_locationsPart := goodIn_r _ [16, 17, 18, 107, 108, 109, 110, 111, 112, 113, 114, 115, 116, 117, 118, 119, 120, 93, 94, 95, 96, 97, 98, 99, 100, 101, 102, 103, 104, 105, 106] (by decide +kernel) (by decide +kernel)
set_option maxRecDepth 20000 in
theorem gX2_extend_X5_locationsPart : GoodIn wsX2_extend (wsV RX2 56 RX5 yX5_locationsPart wsX5_locationsPart) := goodIn_app (goodIn_of _ (by decide +kernel)) ggX2_extend_X5_locationsPart
set_option maxRecDepth 20000 in
theorem ggX2_extend_X3_keep : GoodIn wsX2_extend wsX3_keep := goodIn_r _ [23, 24, 25, 26, 27, 28, 29, 30, 31, 32, 22, 33, 34, 35, 36, 37, 38, 39, 40, 41, 42, 43, 44, 45, 46, 47, 48, 49, 121, 122] (by decide +kernel) (by decide +kernel)
set_option maxRecDepth 20000 in
theorem gX2_extend_X3_keep : GoodIn wsX2_extend (wsV RX2 60 RX3 yX3_keep wsX3_keep) := goodIn_app (goodIn_of _ (by decide +kernel)) ggX2_extend_X3_keep
set_option maxRecDepth 20000 in
theorem ggX2_extend_X5_accessAt : GoodIn wsX2_extend wsX5_accessAt := goodIn_r _ [53, 18, 107, 108, 109, 110, 111, 112, 113, 114, 115, 116, 117, 118, 119, 120] (by decide +kernel) (by decide +kernel)
set_option maxRecDepth 20000 in
theorem gX2_extend_X5_accessAt : GoodIn wsX2_extend (wsV RX2 66 RX5 yX5_accessAt wsX5_accessAt) := goodIn_app (goodIn_of _ (by decide +kernel)) ggX2_extend_X5_accessAt
set_option maxRecDepth 20000 in
theorem ggX2_extend_X2_isIn : GoodIn wsX2_extend wsX2_isIn := goodIn_r _ [57] (by decide +kernel) (by decide +kernel)
set_option maxRecDepth 20000 in
theorem gX2_extend_X2_isIn : GoodIn wsX2_extend (va_wsS RX2 70 yX2_isIn wsX2_isIn) := goodIn_app (goodIn_of _ (by decide +kernel)) ggX2_extend_X2_isIn
set_option maxRecDepth 20000 in
theorem ggX2_extend_X2_sourceOf : GoodIn wsX2_extend wsX2_sourceOf := goodIn_r _ [61, 5, 54, 55, 56, 57, 93, 94, 95, 96, 97, 98, 99, 100, 101, 102, 103, 104, 105, 106, 86, 87, 88, 89, 90, 91, 92] (by decide +kernel) (by decide +kernel)
set_option maxRecDepth 20000 in
theorem gX2_extend_X2_sourceOf : GoodIn wsX2_extend (wsV RX2 83 RX2 yX2_sourceOf wsX2_sourceOf) := goodIn_app (goodIn_of _ (by decide +kernel)) ggX2_extend_X2_sourceOf
set_option maxRecDepth 20000 in
theorem ggX2_extend_X2_mayReadHere : GoodIn wsX2_extend wsX2_mayReadHere := goodIn_r _ [65, 1, 6, 50, 51, 52, 10, 53, 18, 66, 67, 68, 56, 69, 54, 55, 57, 70, 71, 72, 73, 7, 8, 9, 11, 12, 86, 87, 88, 89, 90, 91, 92, 93, 94, 95, 96, 97, 98, 99, 100, 101, 102, 103, 104, 105, 106, 107, 108, 109, 110, 111, 112, 113, 114, 115, 116, 117, 118, 119, 120] (by decide +kernel) (by decide +kernel)
set_option maxRecDepth 20000 in
theorem gX2_extend_X2_mayReadHere : GoodIn wsX2_extend (wsV RX2 87 RX2 yX2_mayReadHere wsX2_mayReadHere) := goodIn_app (goodIn_of _ (by decide +kernel)) ggX2_extend_X2_mayReadHere
set_option maxRecDepth 20000 in
theorem ggX2_extend_X2_isAtomic : GoodIn wsX2_extend wsX2_isAtomic := goodIn_r _ [77, 6, 78, 1, 7, 8, 9, 10, 11, 12, 50, 51, 52, 53, 18, 54, 55, 56, 57, 93, 94, 95, 96, 97, 98, 99, 100, 101, 102, 103, 104, 105, 106, 86, 87, 88, 89, 90, 91, 92, 107, 108, 109, 110, 111, 112, 113, 114, 115, 116, 117, 118, 119, 120] (by decide +kernel) (by decide +kernel)
set_option maxRecDepth 20000 in
theorem gX2_extend_X2_isAtomic : GoodIn wsX2_extend (wsV RX2 90 RX2 yX2_isAtomic wsX2_isAtomic) := goodIn_app (goodIn_of _ (by decide +kernel)) ggX2_extend_X2_isAtomic
set_option maxRecDepth 20000 in
theorem ggX2_extend_X2_place : GoodIn wsX2_extend wsX2_place := goodIn_r _ [82, 1, 5, 78, 50, 51, 52, 10, 53, 18, 83, 84, 85, 56, 0, 2, 3, 4, 6, 7, 8, 9, 11, 12, 13, 14, 15, 16, 17, 19, 20, 21, 22, 23, 24, 25, 26, 27, 28, 29, 30, 31, 32, 33, 34, 35, 36, 37, 38, 39, 40, 41, 42, 43, 44, 45, 46, 47, 48, 49, 54, 55, 57, 58, 59, 60, 61, 62, 63, 64, 65, 66, 67, 68, 69, 70, 71, 72, 73, 74, 75, 76, 77, 79, 80, 81, 86, 87, 88, 89, 90, 91, 92, 93, 94, 95, 96, 97, 98, 99, 100, 101, 102, 103, 104, 105, 106, 107, 108, 109, 110, 111, 112, 113, 114, 115, 116, 117, 118, 119, 120, 121, 122] (by decide +kernel) (by decide +kernel)
set_option maxRecDepth 20000 in
theorem gX2_extend_X2_place : GoodIn wsX2_extend (wsV RX2 94 RX2 yX2_place wsX2_place) := goodIn_app (goodIn_of _ (by decide +kernel)) ggX2_extend_X2_place
theorem dX2_extend_0 : decode cX2_extend 0 = .ok (.iload_n 2, 1) := by decide +kernel
theorem dX2_extend_1 : decode cX2_extend 1 = .ok (.aload_n 0, 1) := by decide +kernel
theorem dX2_extend_2 : decode cX2_extend 2 = .ok (.getfield 9, 3) := by decide +kernel
theorem dX2_extend_5 : decode cX2_extend 5 = .ok (.invokevirtual 52, 3) := by decide +kernel
theorem dX2_extend_8 : decode cX2_extend 8 = .ok (.if_icmp .lt 32, 3) := by decide +kernel
theorem dX2_extend_11 : decode cX2_extend 11 = .ok (.aload_n 0, 1) := by decide +kernel
theorem dX2_extend_12 : decode cX2_extend 12 = .ok (.iconst 1, 1) := by decide +kernel
theorem dX2_extend_13 : decode cX2_extend 13 = .ok (.putfield 33, 3) := by decide +kernel
theorem dX2_extend_16 : decode cX2_extend 16 = .ok (.aload_n 0, 1) := by decide +kernel
theorem dX2_extend_17 : decode cX2_extend 17 = .ok (.getfield 15, 3) := by decide +kernel
theorem dX2_extend_20 : decode cX2_extend 20 = .ok (.aload_n 0, 1) := by decide +kernel
theorem dX2_extend_21 : decode cX2_extend 21 = .ok (.getfield 29, 3) := by decide +kernel
theorem dX2_extend_24 : decode cX2_extend 24 = .ok (.aload_n 0, 1) := by decide +kernel
theorem dX2_extend_25 : decode cX2_extend 25 = .ok (.getfield 9, 3) := by decide +kernel
theorem dX2_extend_28 : decode cX2_extend 28 = .ok (.aload_n 0, 1) := by decide +kernel
theorem dX2_extend_29 : decode cX2_extend 29 = .ok (.getfield 26, 3) := by decide +kernel
theorem dX2_extend_32 : decode cX2_extend 32 = .ok (.invokevirtual 56, 3) := by decide +kernel
theorem dX2_extend_35 : decode cX2_extend 35 = .ok (.ladd, 1) := by decide +kernel
theorem dX2_extend_36 : decode cX2_extend 36 = .ok (.invokevirtual 60, 3) := by decide +kernel
theorem dX2_extend_39 : decode cX2_extend 39 = .ok (.return_, 1) := by decide +kernel
theorem dX2_extend_40 : decode cX2_extend 40 = .ok (.iconst 0, 1) := by decide +kernel
theorem dX2_extend_41 : decode cX2_extend 41 = .ok (.istore_n 3, 1) := by decide +kernel
theorem dX2_extend_42 : decode cX2_extend 42 = .ok (.iload_n 3, 1) := by decide +kernel
theorem dX2_extend_43 : decode cX2_extend 43 = .ok (.aload_n 0, 1) := by decide +kernel
theorem dX2_extend_44 : decode cX2_extend 44 = .ok (.getfield 9, 3) := by decide +kernel
theorem dX2_extend_47 : decode cX2_extend 47 = .ok (.invokevirtual 52, 3) := by decide +kernel
theorem dX2_extend_50 : decode cX2_extend 50 = .ok (.if_icmp .ge 93, 3) := by decide +kernel
theorem dX2_extend_53 : decode cX2_extend 53 = .ok (.aload_n 0, 1) := by decide +kernel
theorem dX2_extend_54 : decode cX2_extend 54 = .ok (.getfield 9, 3) := by decide +kernel
theorem dX2_extend_57 : decode cX2_extend 57 = .ok (.iload_n 3, 1) := by decide +kernel
theorem dX2_extend_58 : decode cX2_extend 58 = .ok (.invokevirtual 66, 3) := by decide +kernel
theorem dX2_extend_61 : decode cX2_extend 61 = .ok (.astore 4, 2) := by decide +kernel
theorem dX2_extend_63 : decode cX2_extend 63 = .ok (.iload_n 1, 1) := by decide +kernel
theorem dX2_extend_64 : decode cX2_extend 64 = .ok (.iload_n 3, 1) := by decide +kernel
theorem dX2_extend_65 : decode cX2_extend 65 = .ok (.invokestatic 70, 3) := by decide +kernel
theorem dX2_extend_68 : decode cX2_extend 68 = .ok (.ifCond .ne 69, 3) := by decide +kernel
theorem dX2_extend_71 : decode cX2_extend 71 = .ok (.aload 4, 2) := by decide +kernel
theorem dX2_extend_73 : decode cX2_extend 73 = .ok (.getfield 74, 3) := by decide +kernel
theorem dX2_extend_76 : decode cX2_extend 76 = .ok (.iload_n 1, 1) := by decide +kernel
theorem dX2_extend_77 : decode cX2_extend 77 = .ok (.iconst (-1), 1) := by decide +kernel
theorem dX2_extend_78 : decode cX2_extend 78 = .ok (.ixor, 1) := by decide +kernel
theorem dX2_extend_79 : decode cX2_extend 79 = .ok (.iand, 1) := by decide +kernel
theorem dX2_extend_80 : decode cX2_extend 80 = .ok (.ifCond .eq 6, 3) := by decide +kernel
theorem dX2_extend_83 : decode cX2_extend 83 = .ok (.goto 54, 3) := by decide +kernel
theorem dX2_extend_86 : decode cX2_extend 86 = .ok (.aload_n 0, 1) := by decide +kernel
theorem dX2_extend_87 : decode cX2_extend 87 = .ok (.getfield 23, 3) := by decide +kernel
theorem dX2_extend_90 : decode cX2_extend 90 = .ok (.iload_n 3, 1) := by decide +kernel
theorem dX2_extend_91 : decode cX2_extend 91 = .ok (.aload 4, 2) := by decide +kernel
theorem dX2_extend_93 : decode cX2_extend 93 = .ok (.getfield 80, 3) := by decide +kernel
theorem dX2_extend_96 : decode cX2_extend 96 = .ok (.ifCond .eq 13, 3) := by decide +kernel
theorem dX2_extend_99 : decode cX2_extend 99 = .ok (.aload_n 0, 1) := by decide +kernel
theorem dX2_extend_100 : decode cX2_extend 100 = .ok (.aload 4, 2) := by decide +kernel
theorem dX2_extend_102 : decode cX2_extend 102 = .ok (.iload_n 1, 1) := by decide +kernel
theorem dX2_extend_103 : decode cX2_extend 103 = .ok (.invokevirtual 83, 3) := by decide +kernel
theorem dX2_extend_106 : decode cX2_extend 106 = .ok (.goto 4, 3) := by decide +kernel
theorem dX2_extend_109 : decode cX2_extend 109 = .ok (.iconst (-1), 1) := by decide +kernel
theorem dX2_extend_110 : decode cX2_extend 110 = .ok (.iastore, 1) := by decide +kernel
theorem dX2_extend_111 : decode cX2_extend 111 = .ok (.aload_n 0, 1) := by decide +kernel
theorem dX2_extend_112 : decode cX2_extend 112 = .ok (.iload_n 3, 1) := by decide +kernel
theorem dX2_extend_113 : decode cX2_extend 113 = .ok (.iload_n 1, 1) := by decide +kernel
theorem dX2_extend_114 : decode cX2_extend 114 = .ok (.invokevirtual 87, 3) := by decide +kernel
theorem dX2_extend_117 : decode cX2_extend 117 = .ok (.ifCond .eq 20, 3) := by decide +kernel
theorem dX2_extend_120 : decode cX2_extend 120 = .ok (.aload_n 0, 1) := by decide +kernel
theorem dX2_extend_121 : decode cX2_extend 121 = .ok (.aload 4, 2) := by decide +kernel
theorem dX2_extend_123 : decode cX2_extend 123 = .ok (.iload_n 1, 1) := by decide +kernel
theorem dX2_extend_124 : decode cX2_extend 124 = .ok (.invokevirtual 90, 3) := by decide +kernel
theorem dX2_extend_127 : decode cX2_extend 127 = .ok (.ifCond .eq 10, 3) := by decide +kernel
theorem dX2_extend_130 : decode cX2_extend 130 = .ok (.aload_n 0, 1) := by decide +kernel
theorem dX2_extend_131 : decode cX2_extend 131 = .ok (.iload_n 3, 1) := by decide +kernel
theorem dX2_extend_132 : decode cX2_extend 132 = .ok (.iload_n 1, 1) := by decide +kernel
theorem dX2_extend_133 : decode cX2_extend 133 = .ok (.iload_n 2, 1) := by decide +kernel
theorem dX2_extend_134 : decode cX2_extend 134 = .ok (.invokevirtual 94, 3) := by decide +kernel
theorem dX2_extend_137 : decode cX2_extend 137 = .ok (.iinc 3 1, 3) := by decide +kernel
theorem dX2_extend_140 : decode cX2_extend 140 = .ok (.goto (-98), 3) := by decide +kernel
theorem dX2_extend_143 : decode cX2_extend 143 = .ok (.return_, 1) := by decide +kernel
set_option maxRecDepth 20000 in
theorem ggX2_place_X5_accessAt : GoodIn wsX2_place wsX5_accessAt := goodIn_r _ [8, 9, 107, 108, 109, 110, 111, 112, 113, 114, 115, 116, 117, 118, 119, 120] (by decide +kernel) (by decide +kernel)
set_option maxRecDepth 20000 in
theorem gX2_place_X5_accessAt : GoodIn wsX2_place (wsV RX2 66 RX5 yX5_accessAt wsX5_accessAt) := goodIn_app (goodIn_of _ (by decide +kernel)) ggX2_place_X5_accessAt
set_option maxRecDepth 20000 in
theorem ggX2_place_X2_extend : GoodIn wsX2_place wsX2_extend := goodIn_r _ [14, 1, 15, 16, 17, 2, 18, 19, 20, 21, 7, 22, 23, 24, 25, 26, 27, 28, 9, 29, 30, 31, 32, 33, 34, 35, 36, 37, 38, 39, 40, 41, 42, 43, 44, 45, 46, 47, 48, 49, 50, 51, 52, 53, 54, 55, 56, 57, 58, 59, 4, 5, 6, 8, 60, 61, 13, 62, 63, 64, 65, 66, 67, 68, 69, 70, 71, 72, 73, 74, 75, 76, 77, 78, 79, 80, 81, 82, 3, 83, 84, 85, 0, 10, 11, 12, 86, 87, 88, 89, 90, 91, 92, 93, 94, 95, 96, 97, 98, 99, 100, 101, 102, 103, 104, 105, 106, 107, 108, 109, 110, 111, 112, 113, 114, 115, 116, 117, 118, 119, 120, 121, 122] (by decide +kernel) (by decide +kernel)
set_option maxRecDepth 20000 in
theorem gX2_place_X2_extend : GoodIn wsX2_place (wsV RX2 48 RX2 yX2_extend wsX2_extend) := goodIn_app (goodIn_of _ (by decide +kernel)) ggX2_place_X2_extend
theorem dX2_place_0 : decode cX2_place 0 = .ok (.aload_n 0, 1) := by decide +kernel
theorem dX2_place_1 : decode cX2_place 1 = .ok (.getfield 9, 3) := by decide +kernel
theorem dX2_place_4 : decode cX2_place 4 = .ok (.iload_n 1, 1) := by decide +kernel
theorem dX2_place_5 : decode cX2_place 5 = .ok (.invokevirtual 66, 3) := by decide +kernel
theorem dX2_place_8 : decode cX2_place 8 = .ok (.getfield 98, 3) := by decide +kernel
theorem dX2_place_11 : decode cX2_place 11 = .ok (.istore 4, 2) := by decide +kernel
theorem dX2_place_13 : decode cX2_place 13 = .ok (.aload_n 0, 1) := by decide +kernel
theorem dX2_place_14 : decode cX2_place 14 = .ok (.getfield 26, 3) := by decide +kernel
theorem dX2_place_17 : decode cX2_place 17 = .ok (.iload 4, 2) := by decide +kernel
theorem dX2_place_19 : decode cX2_place 19 = .ok (.iaload, 1) := by decide +kernel
theorem dX2_place_20 : decode cX2_place 20 = .ok (.istore 5, 2) := by decide +kernel
theorem dX2_place_22 : decode cX2_place 22 = .ok (.aload_n 0, 1) := by decide +kernel
theorem dX2_place_23 : decode cX2_place 23 = .ok (.getfield 19, 3) := by decide +kernel
theorem dX2_place_26 : decode cX2_place 26 = .ok (.iload_n 1, 1) := by decide +kernel
theorem dX2_place_27 : decode cX2_place 27 = .ok (.iload_n 3, 1) := by decide +kernel
theorem dX2_place_28 : decode cX2_place 28 = .ok (.iastore, 1) := by decide +kernel
theorem dX2_place_29 : decode cX2_place 29 = .ok (.aload_n 0, 1) := by decide +kernel
theorem dX2_place_30 : decode cX2_place 30 = .ok (.getfield 9, 3) := by decide +kernel
theorem dX2_place_33 : decode cX2_place 33 = .ok (.iload_n 1, 1) := by decide +kernel
theorem dX2_place_34 : decode cX2_place 34 = .ok (.invokevirtual 66, 3) := by decide +kernel
theorem dX2_place_37 : decode cX2_place 37 = .ok (.getfield 101, 3) := by decide +kernel
theorem dX2_place_40 : decode cX2_place 40 = .ok (.ifCond .eq 11, 3) := by decide +kernel
theorem dX2_place_43 : decode cX2_place 43 = .ok (.aload_n 0, 1) := by decide +kernel
theorem dX2_place_44 : decode cX2_place 44 = .ok (.getfield 26, 3) := by decide +kernel
theorem dX2_place_47 : decode cX2_place 47 = .ok (.iload 4, 2) := by decide +kernel
theorem dX2_place_49 : decode cX2_place 49 = .ok (.iload_n 1, 1) := by decide +kernel
theorem dX2_place_50 : decode cX2_place 50 = .ok (.iastore, 1) := by decide +kernel
theorem dX2_place_51 : decode cX2_place 51 = .ok (.aload_n 0, 1) := by decide +kernel
theorem dX2_place_52 : decode cX2_place 52 = .ok (.iload_n 2, 1) := by decide +kernel
theorem dX2_place_53 : decode cX2_place 53 = .ok (.iconst 1, 1) := by decide +kernel
theorem dX2_place_54 : decode cX2_place 54 = .ok (.iload_n 1, 1) := by decide +kernel
theorem dX2_place_55 : decode cX2_place 55 = .ok (.ishl, 1) := by decide +kernel
theorem dX2_place_56 : decode cX2_place 56 = .ok (.ior, 1) := by decide +kernel
theorem dX2_place_57 : decode cX2_place 57 = .ok (.iload_n 3, 1) := by decide +kernel
theorem dX2_place_58 : decode cX2_place 58 = .ok (.iconst 1, 1) := by decide +kernel
theorem dX2_place_59 : decode cX2_place 59 = .ok (.iadd, 1) := by decide +kernel
theorem dX2_place_60 : decode cX2_place 60 = .ok (.invokevirtual 48, 3) := by decide +kernel
theorem dX2_place_63 : decode cX2_place 63 = .ok (.aload_n 0, 1) := by decide +kernel
theorem dX2_place_64 : decode cX2_place 64 = .ok (.getfield 26, 3) := by decide +kernel
theorem dX2_place_67 : decode cX2_place 67 = .ok (.iload 4, 2) := by decide +kernel
theorem dX2_place_69 : decode cX2_place 69 = .ok (.iload 5, 2) := by decide +kernel
theorem dX2_place_71 : decode cX2_place 71 = .ok (.iastore, 1) := by decide +kernel
theorem dX2_place_72 : decode cX2_place 72 = .ok (.return_, 1) := by decide +kernel
set_option maxRecDepth 20000 in
theorem ggX2_sourceOf_X2_isIn : GoodIn wsX2_sourceOf wsX2_isIn := goodIn_r _ [5] (by decide +kernel) (by decide +kernel)
set_option maxRecDepth 20000 in
theorem gX2_sourceOf_X2_isIn : GoodIn wsX2_sourceOf (va_wsS RX2 70 yX2_isIn wsX2_isIn) := goodIn_app (goodIn_of _ (by decide +kernel)) ggX2_sourceOf_X2_isIn
theorem dX2_sourceOf_0 : decode cX2_sourceOf 0 = .ok (.aload_n 1, 1) := by decide +kernel
theorem dX2_sourceOf_1 : decode cX2_sourceOf 1 = .ok (.getfield 104, 3) := by decide +kernel
theorem dX2_sourceOf_4 : decode cX2_sourceOf 4 = .ok (.iconst (-1), 1) := by decide +kernel
theorem dX2_sourceOf_5 : decode cX2_sourceOf 5 = .ok (.if_icmp .eq 18, 3) := by decide +kernel
theorem dX2_sourceOf_8 : decode cX2_sourceOf 8 = .ok (.iload_n 2, 1) := by decide +kernel
theorem dX2_sourceOf_9 : decode cX2_sourceOf 9 = .ok (.aload_n 1, 1) := by decide +kernel
theorem dX2_sourceOf_10 : decode cX2_sourceOf 10 = .ok (.getfield 104, 3) := by decide +kernel
theorem dX2_sourceOf_13 : decode cX2_sourceOf 13 = .ok (.invokestatic 70, 3) := by decide +kernel
theorem dX2_sourceOf_16 : decode cX2_sourceOf 16 = .ok (.ifCond .ne 7, 3) := by decide +kernel
theorem dX2_sourceOf_19 : decode cX2_sourceOf 19 = .ok (.iconst 1, 1) := by decide +kernel
theorem dX2_sourceOf_20 : decode cX2_sourceOf 20 = .ok (.goto 4, 3) := by decide +kernel
theorem dX2_sourceOf_23 : decode cX2_sourceOf 23 = .ok (.iconst 0, 1) := by decide +kernel
theorem dX2_sourceOf_24 : decode cX2_sourceOf 24 = .ok (.istore_n 3, 1) := by decide +kernel
theorem dX2_sourceOf_25 : decode cX2_sourceOf 25 = .ok (.iload_n 3, 1) := by decide +kernel
theorem dX2_sourceOf_26 : decode cX2_sourceOf 26 = .ok (.ifCond .eq 10, 3) := by decide +kernel
theorem dX2_sourceOf_29 : decode cX2_sourceOf 29 = .ok (.aload_n 1, 1) := by decide +kernel
theorem dX2_sourceOf_30 : decode cX2_sourceOf 30 = .ok (.getfield 104, 3) := by decide +kernel
theorem dX2_sourceOf_33 : decode cX2_sourceOf 33 = .ok (.goto 12, 3) := by decide +kernel
theorem dX2_sourceOf_36 : decode cX2_sourceOf 36 = .ok (.aload_n 0, 1) := by decide +kernel
theorem dX2_sourceOf_37 : decode cX2_sourceOf 37 = .ok (.getfield 26, 3) := by decide +kernel
theorem dX2_sourceOf_40 : decode cX2_sourceOf 40 = .ok (.aload_n 1, 1) := by decide +kernel
theorem dX2_sourceOf_41 : decode cX2_sourceOf 41 = .ok (.getfield 98, 3) := by decide +kernel
theorem dX2_sourceOf_44 : decode cX2_sourceOf 44 = .ok (.iaload, 1) := by decide +kernel
theorem dX2_sourceOf_45 : decode cX2_sourceOf 45 = .ok (.ireturn, 1) := by decide +kernel
set_option maxRecDepth 20000 in
theorem ggX2_mayReadHere_X5_accessAt : GoodIn wsX2_mayReadHere wsX5_accessAt := goodIn_r _ [7, 8, 47, 48, 49, 50, 51, 52, 53, 54, 55, 56, 57, 58, 59, 60] (by decide +kernel) (by decide +kernel)
set_option maxRecDepth 20000 in
theorem gX2_mayReadHere_X5_accessAt : GoodIn wsX2_mayReadHere (wsV RX2 66 RX5 yX5_accessAt wsX5_accessAt) := goodIn_app (goodIn_of _ (by decide +kernel)) ggX2_mayReadHere_X5_accessAt
set_option maxRecDepth 20000 in
theorem ggX2_mayReadHere_X2_mayForward : GoodIn wsX2_mayReadHere wsX2_mayForward := goodIn_r _ [13, 1, 14, 15, 12, 16, 3, 4, 5, 6, 7, 8, 26, 27, 28, 29, 30, 31, 32, 33, 34, 35, 36, 37, 38, 39, 40, 41, 42, 43, 44, 45, 46, 47, 48, 49, 50, 51, 52, 53, 54, 55, 56, 57, 58, 59, 60] (by decide +kernel) (by decide +kernel)
set_option maxRecDepth 20000 in
theorem gX2_mayReadHere_X2_mayForward : GoodIn wsX2_mayReadHere (wsV RX2 113 RX2 yX2_mayForward wsX2_mayForward) := goodIn_app (goodIn_of _ (by decide +kernel)) ggX2_mayReadHere_X2_mayForward
set_option maxRecDepth 20000 in
theorem ggX2_mayReadHere_X2_agreesWithTwins : GoodIn wsX2_mayReadHere wsX2_agreesWithTwins := goodIn_r _ [20, 1, 2, 21, 22, 23, 6, 24, 25, 14, 15, 12, 16, 3, 4, 5, 7, 8, 26, 27, 28, 29, 30, 31, 32, 33, 34, 35, 36, 37, 38, 39, 40, 41, 42, 43, 44, 45, 46, 47, 48, 49, 50, 51, 52, 53, 54, 55, 56, 57, 58, 59, 60] (by decide +kernel) (by decide +kernel)
set_option maxRecDepth 20000 in
theorem gX2_mayReadHere_X2_agreesWithTwins : GoodIn wsX2_mayReadHere (wsV RX2 116 RX2 yX2_agreesWithTwins wsX2_agreesWithTwins) := goodIn_app (goodIn_of _ (by decide +kernel)) ggX2_mayReadHere_X2_agreesWithTwins
theorem dX2_mayReadHere_0 : decode cX2_mayReadHere 0 = .ok (.aload_n 0, 1) := by decide +kernel
theorem dX2_mayReadHere_1 : decode cX2_mayReadHere 1 = .ok (.getfield 9, 3) := by decide +kernel
theorem dX2_mayReadHere_4 : decode cX2_mayReadHere 4 = .ok (.iload_n 1, 1) := by decide +kernel
theorem dX2_mayReadHere_5 : decode cX2_mayReadHere 5 = .ok (.invokevirtual 66, 3) := by decide +kernel
theorem dX2_mayReadHere_8 : decode cX2_mayReadHere 8 = .ok (.getfield 80, 3) := by decide +kernel
theorem dX2_mayReadHere_11 : decode cX2_mayReadHere 11 = .ok (.ifCond .ne 5, 3) := by decide +kernel
theorem dX2_mayReadHere_14 : decode cX2_mayReadHere 14 = .ok (.iconst 1, 1) := by decide +kernel
theorem dX2_mayReadHere_15 : decode cX2_mayReadHere 15 = .ok (.ireturn, 1) := by decide +kernel
theorem dX2_mayReadHere_16 : decode cX2_mayReadHere 16 = .ok (.aload_n 0, 1) := by decide +kernel
theorem dX2_mayReadHere_17 : decode cX2_mayReadHere 17 = .ok (.getfield 23, 3) := by decide +kernel
theorem dX2_mayReadHere_20 : decode cX2_mayReadHere 20 = .ok (.iload_n 1, 1) := by decide +kernel
theorem dX2_mayReadHere_21 : decode cX2_mayReadHere 21 = .ok (.iaload, 1) := by decide +kernel
theorem dX2_mayReadHere_22 : decode cX2_mayReadHere 22 = .ok (.istore_n 3, 1) := by decide +kernel
theorem dX2_mayReadHere_23 : decode cX2_mayReadHere 23 = .ok (.iload_n 3, 1) := by decide +kernel
theorem dX2_mayReadHere_24 : decode cX2_mayReadHere 24 = .ok (.iconst (-1), 1) := by decide +kernel
theorem dX2_mayReadHere_25 : decode cX2_mayReadHere 25 = .ok (.if_icmp .ne 7, 3) := by decide +kernel
theorem dX2_mayReadHere_28 : decode cX2_mayReadHere 28 = .ok (.iconst 0, 1) := by decide +kernel
theorem dX2_mayReadHere_29 : decode cX2_mayReadHere 29 = .ok (.goto 14, 3) := by decide +kernel
theorem dX2_mayReadHere_32 : decode cX2_mayReadHere 32 = .ok (.aload_n 0, 1) := by decide +kernel
theorem dX2_mayReadHere_33 : decode cX2_mayReadHere 33 = .ok (.getfield 9, 3) := by decide +kernel
theorem dX2_mayReadHere_36 : decode cX2_mayReadHere 36 = .ok (.iload_n 3, 1) := by decide +kernel
theorem dX2_mayReadHere_37 : decode cX2_mayReadHere 37 = .ok (.invokevirtual 66, 3) := by decide +kernel
theorem dX2_mayReadHere_40 : decode cX2_mayReadHere 40 = .ok (.getfield 107, 3) := by decide +kernel
theorem dX2_mayReadHere_43 : decode cX2_mayReadHere 43 = .ok (.istore 4, 2) := by decide +kernel
theorem dX2_mayReadHere_45 : decode cX2_mayReadHere 45 = .ok (.iload 4, 2) := by decide +kernel
theorem dX2_mayReadHere_47 : decode cX2_mayReadHere 47 = .ok (.aload_n 0, 1) := by decide +kernel
theorem dX2_mayReadHere_48 : decode cX2_mayReadHere 48 = .ok (.getfield 9, 3) := by decide +kernel
theorem dX2_mayReadHere_51 : decode cX2_mayReadHere 51 = .ok (.iload_n 1, 1) := by decide +kernel
theorem dX2_mayReadHere_52 : decode cX2_mayReadHere 52 = .ok (.invokevirtual 66, 3) := by decide +kernel
theorem dX2_mayReadHere_55 : decode cX2_mayReadHere 55 = .ok (.getfield 110, 3) := by decide +kernel
theorem dX2_mayReadHere_58 : decode cX2_mayReadHere 58 = .ok (.if_icmp .ne 25, 3) := by decide +kernel
theorem dX2_mayReadHere_61 : decode cX2_mayReadHere 61 = .ok (.aload_n 0, 1) := by decide +kernel
theorem dX2_mayReadHere_62 : decode cX2_mayReadHere 62 = .ok (.iload_n 3, 1) := by decide +kernel
theorem dX2_mayReadHere_63 : decode cX2_mayReadHere 63 = .ok (.iload_n 2, 1) := by decide +kernel
theorem dX2_mayReadHere_64 : decode cX2_mayReadHere 64 = .ok (.invokevirtual 113, 3) := by decide +kernel
theorem dX2_mayReadHere_67 : decode cX2_mayReadHere 67 = .ok (.ifCond .eq 16, 3) := by decide +kernel
theorem dX2_mayReadHere_70 : decode cX2_mayReadHere 70 = .ok (.aload_n 0, 1) := by decide +kernel
theorem dX2_mayReadHere_71 : decode cX2_mayReadHere 71 = .ok (.iload_n 1, 1) := by decide +kernel
theorem dX2_mayReadHere_72 : decode cX2_mayReadHere 72 = .ok (.iload_n 2, 1) := by decide +kernel
theorem dX2_mayReadHere_73 : decode cX2_mayReadHere 73 = .ok (.invokevirtual 116, 3) := by decide +kernel
theorem dX2_mayReadHere_76 : decode cX2_mayReadHere 76 = .ok (.ifCond .eq 7, 3) := by decide +kernel
theorem dX2_mayReadHere_79 : decode cX2_mayReadHere 79 = .ok (.iconst 1, 1) := by decide +kernel
theorem dX2_mayReadHere_80 : decode cX2_mayReadHere 80 = .ok (.goto 4, 3) := by decide +kernel
theorem dX2_mayReadHere_83 : decode cX2_mayReadHere 83 = .ok (.iconst 0, 1) := by decide +kernel
theorem dX2_mayReadHere_84 : decode cX2_mayReadHere 84 = .ok (.ireturn, 1) := by decide +kernel
set_option maxRecDepth 20000 in
theorem ggX2_mayForward_X2_isIn : GoodIn wsX2_mayForward wsX2_isIn := goodIn_r _ [5] (by decide +kernel) (by decide +kernel)
set_option maxRecDepth 20000 in
theorem gX2_mayForward_X2_isIn : GoodIn wsX2_mayForward (va_wsS RX2 70 yX2_isIn wsX2_isIn) := goodIn_app (goodIn_of _ (by decide +kernel)) ggX2_mayForward_X2_isIn
set_option maxRecDepth 20000 in
theorem ggX2_mayForward_X5_accessAt : GoodIn wsX2_mayForward wsX5_accessAt := goodIn_r _ [10, 11, 33, 34, 35, 36, 37, 38, 39, 40, 41, 42, 43, 44, 45, 46] (by decide +kernel) (by decide +kernel)
set_option maxRecDepth 20000 in
theorem gX2_mayForward_X5_accessAt : GoodIn wsX2_mayForward (wsV RX2 66 RX5 yX5_accessAt wsX5_accessAt) := goodIn_app (goodIn_of _ (by decide +kernel)) ggX2_mayForward_X5_accessAt
theorem dX2_mayForward_0 : decode cX2_mayForward 0 = .ok (.iload_n 1, 1) := by decide +kernel
theorem dX2_mayForward_1 : decode cX2_mayForward 1 = .ok (.iconst (-1), 1) := by decide +kernel
theorem dX2_mayForward_2 : decode cX2_mayForward 2 = .ok (.if_icmp .eq 11, 3) := by decide +kernel
theorem dX2_mayForward_5 : decode cX2_mayForward 5 = .ok (.iload_n 2, 1) := by decide +kernel
theorem dX2_mayForward_6 : decode cX2_mayForward 6 = .ok (.iload_n 1, 1) := by decide +kernel
theorem dX2_mayForward_7 : decode cX2_mayForward 7 = .ok (.invokestatic 70, 3) := by decide +kernel
theorem dX2_mayForward_10 : decode cX2_mayForward 10 = .ok (.ifCond .eq 5, 3) := by decide +kernel
theorem dX2_mayForward_13 : decode cX2_mayForward 13 = .ok (.iconst 1, 1) := by decide +kernel
theorem dX2_mayForward_14 : decode cX2_mayForward 14 = .ok (.ireturn, 1) := by decide +kernel
theorem dX2_mayForward_15 : decode cX2_mayForward 15 = .ok (.aload_n 0, 1) := by decide +kernel
theorem dX2_mayForward_16 : decode cX2_mayForward 16 = .ok (.getfield 9, 3) := by decide +kernel
theorem dX2_mayForward_19 : decode cX2_mayForward 19 = .ok (.iload_n 1, 1) := by decide +kernel
theorem dX2_mayForward_20 : decode cX2_mayForward 20 = .ok (.invokevirtual 66, 3) := by decide +kernel
theorem dX2_mayForward_23 : decode cX2_mayForward 23 = .ok (.astore_n 3, 1) := by decide +kernel
theorem dX2_mayForward_24 : decode cX2_mayForward 24 = .ok (.aload_n 3, 1) := by decide +kernel
theorem dX2_mayForward_25 : decode cX2_mayForward 25 = .ok (.getfield 119, 3) := by decide +kernel
theorem dX2_mayForward_28 : decode cX2_mayForward 28 = .ok (.iconst 1, 1) := by decide +kernel
theorem dX2_mayForward_29 : decode cX2_mayForward 29 = .ok (.if_icmp .ne 23, 3) := by decide +kernel
theorem dX2_mayForward_32 : decode cX2_mayForward 32 = .ok (.aload_n 3, 1) := by decide +kernel
theorem dX2_mayForward_33 : decode cX2_mayForward 33 = .ok (.getfield 122, 3) := by decide +kernel
theorem dX2_mayForward_36 : decode cX2_mayForward 36 = .ok (.aload_n 3, 1) := by decide +kernel
theorem dX2_mayForward_37 : decode cX2_mayForward 37 = .ok (.getfield 125, 3) := by decide +kernel
theorem dX2_mayForward_40 : decode cX2_mayForward 40 = .ok (.ior, 1) := by decide +kernel
theorem dX2_mayForward_41 : decode cX2_mayForward 41 = .ok (.iload_n 2, 1) := by decide +kernel
theorem dX2_mayForward_42 : decode cX2_mayForward 42 = .ok (.iconst (-1), 1) := by decide +kernel
theorem dX2_mayForward_43 : decode cX2_mayForward 43 = .ok (.ixor, 1) := by decide +kernel
theorem dX2_mayForward_44 : decode cX2_mayForward 44 = .ok (.iand, 1) := by decide +kernel
theorem dX2_mayForward_45 : decode cX2_mayForward 45 = .ok (.ifCond .ne 7, 3) := by decide +kernel
theorem dX2_mayForward_48 : decode cX2_mayForward 48 = .ok (.iconst 1, 1) := by decide +kernel
theorem dX2_mayForward_49 : decode cX2_mayForward 49 = .ok (.goto 4, 3) := by decide +kernel
theorem dX2_mayForward_52 : decode cX2_mayForward 52 = .ok (.iconst 0, 1) := by decide +kernel
theorem dX2_mayForward_53 : decode cX2_mayForward 53 = .ok (.ireturn, 1) := by decide +kernel
set_option maxRecDepth 20000 in
theorem ggX2_agreesWithTwins_X5_size : GoodIn wsX2_agreesWithTwins wsX5_size := goodIn_r _ [7, 8, 39, 40, 41, 42, 43, 44, 45, 46, 47, 48, 49, 50, 51, 52] (by decide +kernel) (by decide +kernel)
set_option maxRecDepth 20000 in
theorem gX2_agreesWithTwins_X5_size : GoodIn wsX2_agreesWithTwins (wsV RX2 52 RX5 yX5_size wsX5_size) := goodIn_app (goodIn_of _ (by decide +kernel)) ggX2_agreesWithTwins_X5_size
set_option maxRecDepth 20000 in
theorem ggX2_agreesWithTwins_X2_isIn : GoodIn wsX2_agreesWithTwins wsX2_isIn := goodIn_r _ [12] (by decide +kernel) (by decide +kernel)
set_option maxRecDepth 20000 in
theorem gX2_agreesWithTwins_X2_isIn : GoodIn wsX2_agreesWithTwins (va_wsS RX2 70 yX2_isIn wsX2_isIn) := goodIn_app (goodIn_of _ (by decide +kernel)) ggX2_agreesWithTwins_X2_isIn
set_option maxRecDepth 20000 in
theorem ggX2_agreesWithTwins_X5_accessAt : GoodIn wsX2_agreesWithTwins wsX5_accessAt := goodIn_r _ [16, 17, 39, 40, 41, 42, 43, 44, 45, 46, 47, 48, 49, 50, 51, 52] (by decide +kernel) (by decide +kernel)
set_option maxRecDepth 20000 in
theorem gX2_agreesWithTwins_X5_accessAt : GoodIn wsX2_agreesWithTwins (wsV RX2 66 RX5 yX5_accessAt wsX5_accessAt) := goodIn_app (goodIn_of _ (by decide +kernel)) ggX2_agreesWithTwins_X5_accessAt
theorem dX2_agreesWithTwins_0 : decode cX2_agreesWithTwins 0 = .ok (.iload_n 1, 1) := by decide +kernel
theorem dX2_agreesWithTwins_1 : decode cX2_agreesWithTwins 1 = .ok (.iconst 1, 1) := by decide +kernel
theorem dX2_agreesWithTwins_2 : decode cX2_agreesWithTwins 2 = .ok (.iadd, 1) := by decide +kernel
theorem dX2_agreesWithTwins_3 : decode cX2_agreesWithTwins 3 = .ok (.istore_n 3, 1) := by decide +kernel
theorem dX2_agreesWithTwins_4 : decode cX2_agreesWithTwins 4 = .ok (.iload_n 3, 1) := by decide +kernel
theorem dX2_agreesWithTwins_5 : decode cX2_agreesWithTwins 5 = .ok (.aload_n 0, 1) := by decide +kernel
theorem dX2_agreesWithTwins_6 : decode cX2_agreesWithTwins 6 = .ok (.getfield 9, 3) := by decide +kernel
theorem dX2_agreesWithTwins_9 : decode cX2_agreesWithTwins 9 = .ok (.invokevirtual 52, 3) := by decide +kernel
theorem dX2_agreesWithTwins_12 : decode cX2_agreesWithTwins 12 = .ok (.if_icmp .ge 52, 3) := by decide +kernel
theorem dX2_agreesWithTwins_15 : decode cX2_agreesWithTwins 15 = .ok (.iload_n 2, 1) := by decide +kernel
theorem dX2_agreesWithTwins_16 : decode cX2_agreesWithTwins 16 = .ok (.iload_n 3, 1) := by decide +kernel
theorem dX2_agreesWithTwins_17 : decode cX2_agreesWithTwins 17 = .ok (.invokestatic 70, 3) := by decide +kernel
theorem dX2_agreesWithTwins_20 : decode cX2_agreesWithTwins 20 = .ok (.ifCond .eq 38, 3) := by decide +kernel
theorem dX2_agreesWithTwins_23 : decode cX2_agreesWithTwins 23 = .ok (.aload_n 0, 1) := by decide +kernel
theorem dX2_agreesWithTwins_24 : decode cX2_agreesWithTwins 24 = .ok (.getfield 9, 3) := by decide +kernel
theorem dX2_agreesWithTwins_27 : decode cX2_agreesWithTwins 27 = .ok (.iload_n 3, 1) := by decide +kernel
theorem dX2_agreesWithTwins_28 : decode cX2_agreesWithTwins 28 = .ok (.invokevirtual 66, 3) := by decide +kernel
theorem dX2_agreesWithTwins_31 : decode cX2_agreesWithTwins 31 = .ok (.getfield 128, 3) := by decide +kernel
theorem dX2_agreesWithTwins_34 : decode cX2_agreesWithTwins 34 = .ok (.iload_n 1, 1) := by decide +kernel
theorem dX2_agreesWithTwins_35 : decode cX2_agreesWithTwins 35 = .ok (.invokestatic 70, 3) := by decide +kernel
theorem dX2_agreesWithTwins_38 : decode cX2_agreesWithTwins 38 = .ok (.ifCond .eq 20, 3) := by decide +kernel
theorem dX2_agreesWithTwins_41 : decode cX2_agreesWithTwins 41 = .ok (.aload_n 0, 1) := by decide +kernel
theorem dX2_agreesWithTwins_42 : decode cX2_agreesWithTwins 42 = .ok (.getfield 23, 3) := by decide +kernel
theorem dX2_agreesWithTwins_45 : decode cX2_agreesWithTwins 45 = .ok (.iload_n 3, 1) := by decide +kernel
theorem dX2_agreesWithTwins_46 : decode cX2_agreesWithTwins 46 = .ok (.iaload, 1) := by decide +kernel
theorem dX2_agreesWithTwins_47 : decode cX2_agreesWithTwins 47 = .ok (.aload_n 0, 1) := by decide +kernel
theorem dX2_agreesWithTwins_48 : decode cX2_agreesWithTwins 48 = .ok (.getfield 23, 3) := by decide +kernel
theorem dX2_agreesWithTwins_51 : decode cX2_agreesWithTwins 51 = .ok (.iload_n 1, 1) := by decide +kernel
theorem dX2_agreesWithTwins_52 : decode cX2_agreesWithTwins 52 = .ok (.iaload, 1) := by decide +kernel
theorem dX2_agreesWithTwins_53 : decode cX2_agreesWithTwins 53 = .ok (.if_icmp .eq 5, 3) := by decide +kernel
theorem dX2_agreesWithTwins_56 : decode cX2_agreesWithTwins 56 = .ok (.iconst 0, 1) := by decide +kernel
theorem dX2_agreesWithTwins_57 : decode cX2_agreesWithTwins 57 = .ok (.ireturn, 1) := by decide +kernel
theorem dX2_agreesWithTwins_58 : decode cX2_agreesWithTwins 58 = .ok (.iinc 3 1, 3) := by decide +kernel
theorem dX2_agreesWithTwins_61 : decode cX2_agreesWithTwins 61 = .ok (.goto (-57), 3) := by decide +kernel
theorem dX2_agreesWithTwins_64 : decode cX2_agreesWithTwins 64 = .ok (.iconst 1, 1) := by decide +kernel
theorem dX2_agreesWithTwins_65 : decode cX2_agreesWithTwins 65 = .ok (.ireturn, 1) := by decide +kernel
set_option maxRecDepth 20000 in
theorem ggX2_isAtomic_X5_size : GoodIn wsX2_isAtomic wsX5_size := goodIn_r _ [8, 9, 40, 41, 42, 43, 44, 45, 46, 47, 48, 49, 50, 51, 52, 53] (by decide +kernel) (by decide +kernel)
set_option maxRecDepth 20000 in
theorem gX2_isAtomic_X5_size : GoodIn wsX2_isAtomic (wsV RX2 52 RX5 yX5_size wsX5_size) := goodIn_app (goodIn_of _ (by decide +kernel)) ggX2_isAtomic_X5_size
set_option maxRecDepth 20000 in
theorem ggX2_isAtomic_X5_accessAt : GoodIn wsX2_isAtomic wsX5_accessAt := goodIn_r _ [13, 14, 40, 41, 42, 43, 44, 45, 46, 47, 48, 49, 50, 51, 52, 53] (by decide +kernel) (by decide +kernel)
set_option maxRecDepth 20000 in
theorem gX2_isAtomic_X5_accessAt : GoodIn wsX2_isAtomic (wsV RX2 66 RX5 yX5_accessAt wsX5_accessAt) := goodIn_app (goodIn_of _ (by decide +kernel)) ggX2_isAtomic_X5_accessAt
set_option maxRecDepth 20000 in
theorem ggX2_isAtomic_X2_isIn : GoodIn wsX2_isAtomic wsX2_isIn := goodIn_r _ [18] (by decide +kernel) (by decide +kernel)
set_option maxRecDepth 20000 in
theorem gX2_isAtomic_X2_isIn : GoodIn wsX2_isAtomic (va_wsS RX2 70 yX2_isIn wsX2_isIn) := goodIn_app (goodIn_of _ (by decide +kernel)) ggX2_isAtomic_X2_isIn
theorem dX2_isAtomic_0 : decode cX2_isAtomic 0 = .ok (.aload_n 1, 1) := by decide +kernel
theorem dX2_isAtomic_1 : decode cX2_isAtomic 1 = .ok (.getfield 131, 3) := by decide +kernel
theorem dX2_isAtomic_4 : decode cX2_isAtomic 4 = .ok (.iconst (-1), 1) := by decide +kernel
theorem dX2_isAtomic_5 : decode cX2_isAtomic 5 = .ok (.if_icmp .ne 5, 3) := by decide +kernel
theorem dX2_isAtomic_8 : decode cX2_isAtomic 8 = .ok (.iconst 1, 1) := by decide +kernel
theorem dX2_isAtomic_9 : decode cX2_isAtomic 9 = .ok (.ireturn, 1) := by decide +kernel
theorem dX2_isAtomic_10 : decode cX2_isAtomic 10 = .ok (.aload_n 0, 1) := by decide +kernel
theorem dX2_isAtomic_11 : decode cX2_isAtomic 11 = .ok (.getfield 23, 3) := by decide +kernel
theorem dX2_isAtomic_14 : decode cX2_isAtomic 14 = .ok (.aload_n 1, 1) := by decide +kernel
theorem dX2_isAtomic_15 : decode cX2_isAtomic 15 = .ok (.getfield 131, 3) := by decide +kernel
theorem dX2_isAtomic_18 : decode cX2_isAtomic 18 = .ok (.iaload, 1) := by decide +kernel
theorem dX2_isAtomic_19 : decode cX2_isAtomic 19 = .ok (.istore_n 3, 1) := by decide +kernel
theorem dX2_isAtomic_20 : decode cX2_isAtomic 20 = .ok (.iload_n 3, 1) := by decide +kernel
theorem dX2_isAtomic_21 : decode cX2_isAtomic 21 = .ok (.iconst (-1), 1) := by decide +kernel
theorem dX2_isAtomic_22 : decode cX2_isAtomic 22 = .ok (.if_icmp .ne 7, 3) := by decide +kernel
theorem dX2_isAtomic_25 : decode cX2_isAtomic 25 = .ok (.iconst (-1), 1) := by decide +kernel
theorem dX2_isAtomic_26 : decode cX2_isAtomic 26 = .ok (.goto 9, 3) := by decide +kernel
theorem dX2_isAtomic_29 : decode cX2_isAtomic 29 = .ok (.aload_n 0, 1) := by decide +kernel
theorem dX2_isAtomic_30 : decode cX2_isAtomic 30 = .ok (.getfield 19, 3) := by decide +kernel
theorem dX2_isAtomic_33 : decode cX2_isAtomic 33 = .ok (.iload_n 3, 1) := by decide +kernel
theorem dX2_isAtomic_34 : decode cX2_isAtomic 34 = .ok (.iaload, 1) := by decide +kernel
theorem dX2_isAtomic_35 : decode cX2_isAtomic 35 = .ok (.istore 4, 2) := by decide +kernel
theorem dX2_isAtomic_37 : decode cX2_isAtomic 37 = .ok (.iconst 0, 1) := by decide +kernel
theorem dX2_isAtomic_38 : decode cX2_isAtomic 38 = .ok (.istore 5, 2) := by decide +kernel
theorem dX2_isAtomic_40 : decode cX2_isAtomic 40 = .ok (.iload 5, 2) := by decide +kernel
theorem dX2_isAtomic_42 : decode cX2_isAtomic 42 = .ok (.aload_n 0, 1) := by decide +kernel
theorem dX2_isAtomic_43 : decode cX2_isAtomic 43 = .ok (.getfield 9, 3) := by decide +kernel
theorem dX2_isAtomic_46 : decode cX2_isAtomic 46 = .ok (.invokevirtual 52, 3) := by decide +kernel
theorem dX2_isAtomic_49 : decode cX2_isAtomic 49 = .ok (.if_icmp .ge 87, 3) := by decide +kernel
theorem dX2_isAtomic_52 : decode cX2_isAtomic 52 = .ok (.aload_n 0, 1) := by decide +kernel
theorem dX2_isAtomic_53 : decode cX2_isAtomic 53 = .ok (.getfield 9, 3) := by decide +kernel
theorem dX2_isAtomic_56 : decode cX2_isAtomic 56 = .ok (.iload 5, 2) := by decide +kernel
theorem dX2_isAtomic_58 : decode cX2_isAtomic 58 = .ok (.invokevirtual 66, 3) := by decide +kernel
theorem dX2_isAtomic_61 : decode cX2_isAtomic 61 = .ok (.astore 6, 2) := by decide +kernel
theorem dX2_isAtomic_63 : decode cX2_isAtomic 63 = .ok (.aload 6, 2) := by decide +kernel
theorem dX2_isAtomic_65 : decode cX2_isAtomic 65 = .ok (.getfield 101, 3) := by decide +kernel
theorem dX2_isAtomic_68 : decode cX2_isAtomic 68 = .ok (.ifCond .eq 31, 3) := by decide +kernel
theorem dX2_isAtomic_71 : decode cX2_isAtomic 71 = .ok (.aload 6, 2) := by decide +kernel
theorem dX2_isAtomic_73 : decode cX2_isAtomic 73 = .ok (.getfield 134, 3) := by decide +kernel
theorem dX2_isAtomic_76 : decode cX2_isAtomic 76 = .ok (.aload_n 1, 1) := by decide +kernel
theorem dX2_isAtomic_77 : decode cX2_isAtomic 77 = .ok (.getfield 134, 3) := by decide +kernel
theorem dX2_isAtomic_80 : decode cX2_isAtomic 80 = .ok (.if_icmp .eq 19, 3) := by decide +kernel
theorem dX2_isAtomic_83 : decode cX2_isAtomic 83 = .ok (.aload 6, 2) := by decide +kernel
theorem dX2_isAtomic_85 : decode cX2_isAtomic 85 = .ok (.getfield 98, 3) := by decide +kernel
theorem dX2_isAtomic_88 : decode cX2_isAtomic 88 = .ok (.aload_n 1, 1) := by decide +kernel
theorem dX2_isAtomic_89 : decode cX2_isAtomic 89 = .ok (.getfield 98, 3) := by decide +kernel
theorem dX2_isAtomic_92 : decode cX2_isAtomic 92 = .ok (.if_icmp .ne 7, 3) := by decide +kernel
theorem dX2_isAtomic_95 : decode cX2_isAtomic 95 = .ok (.iconst 1, 1) := by decide +kernel
theorem dX2_isAtomic_96 : decode cX2_isAtomic 96 = .ok (.goto 4, 3) := by decide +kernel
theorem dX2_isAtomic_99 : decode cX2_isAtomic 99 = .ok (.iconst 0, 1) := by decide +kernel
theorem dX2_isAtomic_100 : decode cX2_isAtomic 100 = .ok (.istore 7, 2) := by decide +kernel
theorem dX2_isAtomic_102 : decode cX2_isAtomic 102 = .ok (.iload_n 2, 1) := by decide +kernel
theorem dX2_isAtomic_103 : decode cX2_isAtomic 103 = .ok (.iload 5, 2) := by decide +kernel
theorem dX2_isAtomic_105 : decode cX2_isAtomic 105 = .ok (.invokestatic 70, 3) := by decide +kernel
theorem dX2_isAtomic_108 : decode cX2_isAtomic 108 = .ok (.ifCond .eq 22, 3) := by decide +kernel
theorem dX2_isAtomic_111 : decode cX2_isAtomic 111 = .ok (.iload 7, 2) := by decide +kernel
theorem dX2_isAtomic_113 : decode cX2_isAtomic 113 = .ok (.ifCond .eq 17, 3) := by decide +kernel
theorem dX2_isAtomic_116 : decode cX2_isAtomic 116 = .ok (.aload_n 0, 1) := by decide +kernel
theorem dX2_isAtomic_117 : decode cX2_isAtomic 117 = .ok (.getfield 19, 3) := by decide +kernel
theorem dX2_isAtomic_120 : decode cX2_isAtomic 120 = .ok (.iload 5, 2) := by decide +kernel
theorem dX2_isAtomic_122 : decode cX2_isAtomic 122 = .ok (.iaload, 1) := by decide +kernel
theorem dX2_isAtomic_123 : decode cX2_isAtomic 123 = .ok (.iload 4, 2) := by decide +kernel
theorem dX2_isAtomic_125 : decode cX2_isAtomic 125 = .ok (.if_icmp .le 5, 3) := by decide +kernel
theorem dX2_isAtomic_128 : decode cX2_isAtomic 128 = .ok (.iconst 0, 1) := by decide +kernel
theorem dX2_isAtomic_129 : decode cX2_isAtomic 129 = .ok (.ireturn, 1) := by decide +kernel
theorem dX2_isAtomic_130 : decode cX2_isAtomic 130 = .ok (.iinc 5 1, 3) := by decide +kernel
theorem dX2_isAtomic_133 : decode cX2_isAtomic 133 = .ok (.goto (-93), 3) := by decide +kernel
theorem dX2_isAtomic_136 : decode cX2_isAtomic 136 = .ok (.iconst 1, 1) := by decide +kernel
theorem dX2_isAtomic_137 : decode cX2_isAtomic 137 = .ok (.ireturn, 1) := by decide +kernel
theorem dX2_isIn_0 : decode cX2_isIn 0 = .ok (.iload_n 0, 1) := by decide +kernel
theorem dX2_isIn_1 : decode cX2_isIn 1 = .ok (.iload_n 1, 1) := by decide +kernel
theorem dX2_isIn_2 : decode cX2_isIn 2 = .ok (.ishr, 1) := by decide +kernel
theorem dX2_isIn_3 : decode cX2_isIn 3 = .ok (.iconst 1, 1) := by decide +kernel
theorem dX2_isIn_4 : decode cX2_isIn 4 = .ok (.iand, 1) := by decide +kernel
theorem dX2_isIn_5 : decode cX2_isIn 5 = .ok (.ifCond .eq 7, 3) := by decide +kernel
theorem dX2_isIn_8 : decode cX2_isIn 8 = .ok (.iconst 1, 1) := by decide +kernel
theorem dX2_isIn_9 : decode cX2_isIn 9 = .ok (.goto 4, 3) := by decide +kernel
theorem dX2_isIn_12 : decode cX2_isIn 12 = .ok (.iconst 0, 1) := by decide +kernel
theorem dX2_isIn_13 : decode cX2_isIn 13 = .ok (.ireturn, 1) := by decide +kernel
theorem dX3_init_0 : decode cX3_init 0 = .ok (.aload_n 0, 1) := by decide +kernel
theorem dX3_init_1 : decode cX3_init 1 = .ok (.invokespecial 3, 3) := by decide +kernel
theorem dX3_init_4 : decode cX3_init 4 = .ok (.aload_n 0, 1) := by decide +kernel
theorem dX3_init_5 : decode cX3_init 5 = .ok (.bipush 64, 2) := by decide +kernel
theorem dX3_init_7 : decode cX3_init 7 = .ok (.newarray .long, 2) := by decide +kernel
theorem dX3_init_9 : decode cX3_init 9 = .ok (.putfield 9, 3) := by decide +kernel
theorem dX3_init_12 : decode cX3_init 12 = .ok (.aload_n 0, 1) := by decide +kernel
theorem dX3_init_13 : decode cX3_init 13 = .ok (.iconst 0, 1) := by decide +kernel
theorem dX3_init_14 : decode cX3_init 14 = .ok (.putfield 15, 3) := by decide +kernel
theorem dX3_init_17 : decode cX3_init 17 = .ok (.return_, 1) := by decide +kernel
theorem dX3_removeAll_0 : decode cX3_removeAll 0 = .ok (.aload_n 0, 1) := by decide +kernel
theorem dX3_removeAll_1 : decode cX3_removeAll 1 = .ok (.iconst 0, 1) := by decide +kernel
theorem dX3_removeAll_2 : decode cX3_removeAll 2 = .ok (.putfield 15, 3) := by decide +kernel
theorem dX3_removeAll_5 : decode cX3_removeAll 5 = .ok (.return_, 1) := by decide +kernel
theorem dX3_size_0 : decode cX3_size 0 = .ok (.aload_n 0, 1) := by decide +kernel
theorem dX3_size_1 : decode cX3_size 1 = .ok (.getfield 15, 3) := by decide +kernel
theorem dX3_size_4 : decode cX3_size 4 = .ok (.ireturn, 1) := by decide +kernel
theorem dX3_at_0 : decode cX3_at 0 = .ok (.iload_n 1, 1) := by decide +kernel
theorem dX3_at_1 : decode cX3_at 1 = .ok (.ifCond .lt 20, 3) := by decide +kernel
theorem dX3_at_4 : decode cX3_at 4 = .ok (.iload_n 1, 1) := by decide +kernel
theorem dX3_at_5 : decode cX3_at 5 = .ok (.aload_n 0, 1) := by decide +kernel
theorem dX3_at_6 : decode cX3_at 6 = .ok (.getfield 15, 3) := by decide +kernel
theorem dX3_at_9 : decode cX3_at 9 = .ok (.if_icmp .ge 12, 3) := by decide +kernel
theorem dX3_at_12 : decode cX3_at 12 = .ok (.aload_n 0, 1) := by decide +kernel
theorem dX3_at_13 : decode cX3_at 13 = .ok (.getfield 9, 3) := by decide +kernel
theorem dX3_at_16 : decode cX3_at 16 = .ok (.iload_n 1, 1) := by decide +kernel
theorem dX3_at_17 : decode cX3_at 17 = .ok (.laload, 1) := by decide +kernel
theorem dX3_at_18 : decode cX3_at 18 = .ok (.goto 6, 3) := by decide +kernel
theorem dX3_at_21 : decode cX3_at 21 = .ok (.ldc2_w 19, 3) := by decide +kernel
theorem dX3_at_24 : decode cX3_at 24 = .ok (.lreturn, 1) := by decide +kernel
set_option maxRecDepth 20000 in
theorem ggX3_holds_X3_spotOf : GoodIn wsX3_holds wsX3_spotOf := goodIn_r _ [7, 1, 2, 8, 9] (by decide +kernel) (by decide +kernel)
set_option maxRecDepth 20000 in
theorem gX3_holds_X3_spotOf : GoodIn wsX3_holds (wsV RX3 21 RX3 yX3_spotOf wsX3_spotOf) := goodIn_app (goodIn_of _ (by decide +kernel)) ggX3_holds_X3_spotOf
theorem dX3_holds_0 : decode cX3_holds 0 = .ok (.aload_n 0, 1) := by decide +kernel
theorem dX3_holds_1 : decode cX3_holds 1 = .ok (.lload_n 1, 1) := by decide +kernel
theorem dX3_holds_2 : decode cX3_holds 2 = .ok (.invokevirtual 21, 3) := by decide +kernel
theorem dX3_holds_5 : decode cX3_holds 5 = .ok (.istore_n 3, 1) := by decide +kernel
theorem dX3_holds_6 : decode cX3_holds 6 = .ok (.iload_n 3, 1) := by decide +kernel
theorem dX3_holds_7 : decode cX3_holds 7 = .ok (.aload_n 0, 1) := by decide +kernel
theorem dX3_holds_8 : decode cX3_holds 8 = .ok (.getfield 15, 3) := by decide +kernel
theorem dX3_holds_11 : decode cX3_holds 11 = .ok (.if_icmp .ge 18, 3) := by decide +kernel
theorem dX3_holds_14 : decode cX3_holds 14 = .ok (.aload_n 0, 1) := by decide +kernel
theorem dX3_holds_15 : decode cX3_holds 15 = .ok (.getfield 9, 3) := by decide +kernel
theorem dX3_holds_18 : decode cX3_holds 18 = .ok (.iload_n 3, 1) := by decide +kernel
theorem dX3_holds_19 : decode cX3_holds 19 = .ok (.laload, 1) := by decide +kernel
theorem dX3_holds_20 : decode cX3_holds 20 = .ok (.lload_n 1, 1) := by decide +kernel
theorem dX3_holds_21 : decode cX3_holds 21 = .ok (.lcmp, 1) := by decide +kernel
theorem dX3_holds_22 : decode cX3_holds 22 = .ok (.ifCond .ne 7, 3) := by decide +kernel
theorem dX3_holds_25 : decode cX3_holds 25 = .ok (.iconst 1, 1) := by decide +kernel
theorem dX3_holds_26 : decode cX3_holds 26 = .ok (.goto 4, 3) := by decide +kernel
theorem dX3_holds_29 : decode cX3_holds 29 = .ok (.iconst 0, 1) := by decide +kernel
theorem dX3_holds_30 : decode cX3_holds 30 = .ok (.ireturn, 1) := by decide +kernel
set_option maxRecDepth 20000 in
theorem ggX3_keep_X3_spotOf : GoodIn wsX3_keep wsX3_spotOf := goodIn_r _ [11, 1, 2, 28, 29] (by decide +kernel) (by decide +kernel)
set_option maxRecDepth 20000 in
theorem gX3_keep_X3_spotOf : GoodIn wsX3_keep (wsV RX3 21 RX3 yX3_spotOf wsX3_spotOf) := goodIn_app (goodIn_of _ (by decide +kernel)) ggX3_keep_X3_spotOf
set_option maxRecDepth 20000 in
theorem ggX3_keep_J7_copyOf_c38d5 : GoodIn wsX3_keep wsJ7_copyOf_c38d5 := goodIn_r _ [15, 16, 17, 18, 19, 20, 21, 22, 23, 24, 25, 26, 27, 4, 5, 6] (by decide +kernel) (by decide +kernel)
set_option maxRecDepth 20000 in
theorem gX3_keep_J7_copyOf_c38d5 : GoodIn wsX3_keep (va_wsS RX3 25 yJ7_copyOf_c38d5 wsJ7_copyOf_c38d5) := goodIn_app (goodIn_of _ (by decide +kernel)) ggX3_keep_J7_copyOf_c38d5
theorem dX3_keep_0 : decode cX3_keep 0 = .ok (.aload_n 0, 1) := by decide +kernel
theorem dX3_keep_1 : decode cX3_keep 1 = .ok (.lload_n 1, 1) := by decide +kernel
theorem dX3_keep_2 : decode cX3_keep 2 = .ok (.invokevirtual 21, 3) := by decide +kernel
theorem dX3_keep_5 : decode cX3_keep 5 = .ok (.istore_n 3, 1) := by decide +kernel
theorem dX3_keep_6 : decode cX3_keep 6 = .ok (.iload_n 3, 1) := by decide +kernel
theorem dX3_keep_7 : decode cX3_keep 7 = .ok (.aload_n 0, 1) := by decide +kernel
theorem dX3_keep_8 : decode cX3_keep 8 = .ok (.getfield 15, 3) := by decide +kernel
theorem dX3_keep_11 : decode cX3_keep 11 = .ok (.if_icmp .ge 15, 3) := by decide +kernel
theorem dX3_keep_14 : decode cX3_keep 14 = .ok (.aload_n 0, 1) := by decide +kernel
theorem dX3_keep_15 : decode cX3_keep 15 = .ok (.getfield 9, 3) := by decide +kernel
theorem dX3_keep_18 : decode cX3_keep 18 = .ok (.iload_n 3, 1) := by decide +kernel
theorem dX3_keep_19 : decode cX3_keep 19 = .ok (.laload, 1) := by decide +kernel
theorem dX3_keep_20 : decode cX3_keep 20 = .ok (.lload_n 1, 1) := by decide +kernel
theorem dX3_keep_21 : decode cX3_keep 21 = .ok (.lcmp, 1) := by decide +kernel
theorem dX3_keep_22 : decode cX3_keep 22 = .ok (.ifCond .ne 4, 3) := by decide +kernel
theorem dX3_keep_25 : decode cX3_keep 25 = .ok (.return_, 1) := by decide +kernel
theorem dX3_keep_26 : decode cX3_keep 26 = .ok (.aload_n 0, 1) := by decide +kernel
theorem dX3_keep_27 : decode cX3_keep 27 = .ok (.getfield 15, 3) := by decide +kernel
theorem dX3_keep_30 : decode cX3_keep 30 = .ok (.aload_n 0, 1) := by decide +kernel
theorem dX3_keep_31 : decode cX3_keep 31 = .ok (.getfield 9, 3) := by decide +kernel
theorem dX3_keep_34 : decode cX3_keep 34 = .ok (.arraylength, 1) := by decide +kernel
theorem dX3_keep_35 : decode cX3_keep 35 = .ok (.if_icmp .lt 21, 3) := by decide +kernel
theorem dX3_keep_38 : decode cX3_keep 38 = .ok (.aload_n 0, 1) := by decide +kernel
theorem dX3_keep_39 : decode cX3_keep 39 = .ok (.aload_n 0, 1) := by decide +kernel
theorem dX3_keep_40 : decode cX3_keep 40 = .ok (.getfield 9, 3) := by decide +kernel
theorem dX3_keep_43 : decode cX3_keep 43 = .ok (.aload_n 0, 1) := by decide +kernel
theorem dX3_keep_44 : decode cX3_keep 44 = .ok (.getfield 9, 3) := by decide +kernel
theorem dX3_keep_47 : decode cX3_keep 47 = .ok (.arraylength, 1) := by decide +kernel
theorem dX3_keep_48 : decode cX3_keep 48 = .ok (.iconst 2, 1) := by decide +kernel
theorem dX3_keep_49 : decode cX3_keep 49 = .ok (.imul, 1) := by decide +kernel
theorem dX3_keep_50 : decode cX3_keep 50 = .ok (.invokestatic 25, 3) := by decide +kernel
theorem dX3_keep_53 : decode cX3_keep 53 = .ok (.putfield 9, 3) := by decide +kernel
theorem dX3_keep_56 : decode cX3_keep 56 = .ok (.aload_n 0, 1) := by decide +kernel
theorem dX3_keep_57 : decode cX3_keep 57 = .ok (.getfield 9, 3) := by decide +kernel
theorem dX3_keep_60 : decode cX3_keep 60 = .ok (.iload_n 3, 1) := by decide +kernel
theorem dX3_keep_61 : decode cX3_keep 61 = .ok (.aload_n 0, 1) := by decide +kernel
theorem dX3_keep_62 : decode cX3_keep 62 = .ok (.getfield 9, 3) := by decide +kernel
theorem dX3_keep_65 : decode cX3_keep 65 = .ok (.iload_n 3, 1) := by decide +kernel
theorem dX3_keep_66 : decode cX3_keep 66 = .ok (.iconst 1, 1) := by decide +kernel
theorem dX3_keep_67 : decode cX3_keep 67 = .ok (.iadd, 1) := by decide +kernel
theorem dX3_keep_68 : decode cX3_keep 68 = .ok (.aload_n 0, 1) := by decide +kernel
theorem dX3_keep_69 : decode cX3_keep 69 = .ok (.getfield 15, 3) := by decide +kernel
theorem dX3_keep_72 : decode cX3_keep 72 = .ok (.iload_n 3, 1) := by decide +kernel
theorem dX3_keep_73 : decode cX3_keep 73 = .ok (.isub, 1) := by decide +kernel
theorem dX3_keep_74 : decode cX3_keep 74 = .ok (.invokestatic 31, 3) := by decide +kernel
theorem dX3_keep_77 : decode cX3_keep 77 = .ok (.aload_n 0, 1) := by decide +kernel
theorem dX3_keep_78 : decode cX3_keep 78 = .ok (.getfield 9, 3) := by decide +kernel
theorem dX3_keep_81 : decode cX3_keep 81 = .ok (.iload_n 3, 1) := by decide +kernel
theorem dX3_keep_82 : decode cX3_keep 82 = .ok (.lload_n 1, 1) := by decide +kernel
theorem dX3_keep_83 : decode cX3_keep 83 = .ok (.lastore, 1) := by decide +kernel
theorem dX3_keep_84 : decode cX3_keep 84 = .ok (.aload_n 0, 1) := by decide +kernel
theorem dX3_keep_85 : decode cX3_keep 85 = .ok (.dup, 1) := by decide +kernel
theorem dX3_keep_86 : decode cX3_keep 86 = .ok (.getfield 15, 3) := by decide +kernel
theorem dX3_keep_89 : decode cX3_keep 89 = .ok (.iconst 1, 1) := by decide +kernel
theorem dX3_keep_90 : decode cX3_keep 90 = .ok (.iadd, 1) := by decide +kernel
theorem dX3_keep_91 : decode cX3_keep 91 = .ok (.putfield 15, 3) := by decide +kernel
theorem dX3_keep_94 : decode cX3_keep 94 = .ok (.return_, 1) := by decide +kernel
set_option maxRecDepth 20000 in
theorem ggX3_howMany_X3_partOf : GoodIn wsX3_howMany wsX3_partOf := goodIn_r _ [6] (by decide +kernel) (by decide +kernel)
set_option maxRecDepth 20000 in
theorem gX3_howMany_X3_partOf : GoodIn wsX3_howMany (va_wsS RX3 37 yX3_partOf wsX3_partOf) := goodIn_app (goodIn_of _ (by decide +kernel)) ggX3_howMany_X3_partOf
theorem dX3_howMany_0 : decode cX3_howMany 0 = .ok (.iconst 0, 1) := by decide +kernel
theorem dX3_howMany_1 : decode cX3_howMany 1 = .ok (.istore 5, 2) := by decide +kernel
theorem dX3_howMany_3 : decode cX3_howMany 3 = .ok (.iconst 0, 1) := by decide +kernel
theorem dX3_howMany_4 : decode cX3_howMany 4 = .ok (.istore 6, 2) := by decide +kernel
theorem dX3_howMany_6 : decode cX3_howMany 6 = .ok (.iload 6, 2) := by decide +kernel
theorem dX3_howMany_8 : decode cX3_howMany 8 = .ok (.aload_n 0, 1) := by decide +kernel
theorem dX3_howMany_9 : decode cX3_howMany 9 = .ok (.getfield 15, 3) := by decide +kernel
theorem dX3_howMany_12 : decode cX3_howMany 12 = .ok (.if_icmp .ge 43, 3) := by decide +kernel
theorem dX3_howMany_15 : decode cX3_howMany 15 = .ok (.aload_n 0, 1) := by decide +kernel
theorem dX3_howMany_16 : decode cX3_howMany 16 = .ok (.getfield 9, 3) := by decide +kernel
theorem dX3_howMany_19 : decode cX3_howMany 19 = .ok (.iload 6, 2) := by decide +kernel
theorem dX3_howMany_21 : decode cX3_howMany 21 = .ok (.laload, 1) := by decide +kernel
theorem dX3_howMany_22 : decode cX3_howMany 22 = .ok (.iload_n 1, 1) := by decide +kernel
theorem dX3_howMany_23 : decode cX3_howMany 23 = .ok (.invokestatic 37, 3) := by decide +kernel
theorem dX3_howMany_26 : decode cX3_howMany 26 = .ok (.iload_n 2, 1) := by decide +kernel
theorem dX3_howMany_27 : decode cX3_howMany 27 = .ok (.if_icmp .ne 22, 3) := by decide +kernel
theorem dX3_howMany_30 : decode cX3_howMany 30 = .ok (.aload_n 0, 1) := by decide +kernel
theorem dX3_howMany_31 : decode cX3_howMany 31 = .ok (.getfield 9, 3) := by decide +kernel
theorem dX3_howMany_34 : decode cX3_howMany 34 = .ok (.iload 6, 2) := by decide +kernel
theorem dX3_howMany_36 : decode cX3_howMany 36 = .ok (.laload, 1) := by decide +kernel
theorem dX3_howMany_37 : decode cX3_howMany 37 = .ok (.iload_n 3, 1) := by decide +kernel
theorem dX3_howMany_38 : decode cX3_howMany 38 = .ok (.invokestatic 37, 3) := by decide +kernel
theorem dX3_howMany_41 : decode cX3_howMany 41 = .ok (.iload 4, 2) := by decide +kernel
theorem dX3_howMany_43 : decode cX3_howMany 43 = .ok (.if_icmp .ne 6, 3) := by decide +kernel
theorem dX3_howMany_46 : decode cX3_howMany 46 = .ok (.iinc 5 1, 3) := by decide +kernel
theorem dX3_howMany_49 : decode cX3_howMany 49 = .ok (.iinc 6 1, 3) := by decide +kernel
theorem dX3_howMany_52 : decode cX3_howMany 52 = .ok (.goto (-46), 3) := by decide +kernel
theorem dX3_howMany_55 : decode cX3_howMany 55 = .ok (.iload 5, 2) := by decide +kernel
theorem dX3_howMany_57 : decode cX3_howMany 57 = .ok (.ireturn, 1) := by decide +kernel
theorem dX3_spotOf_0 : decode cX3_spotOf 0 = .ok (.iconst 0, 1) := by decide +kernel
theorem dX3_spotOf_1 : decode cX3_spotOf 1 = .ok (.istore_n 3, 1) := by decide +kernel
theorem dX3_spotOf_2 : decode cX3_spotOf 2 = .ok (.aload_n 0, 1) := by decide +kernel
theorem dX3_spotOf_3 : decode cX3_spotOf 3 = .ok (.getfield 15, 3) := by decide +kernel
theorem dX3_spotOf_6 : decode cX3_spotOf 6 = .ok (.istore 4, 2) := by decide +kernel
theorem dX3_spotOf_8 : decode cX3_spotOf 8 = .ok (.iconst 0, 1) := by decide +kernel
theorem dX3_spotOf_9 : decode cX3_spotOf 9 = .ok (.istore 5, 2) := by decide +kernel
theorem dX3_spotOf_11 : decode cX3_spotOf 11 = .ok (.iload_n 3, 1) := by decide +kernel
theorem dX3_spotOf_12 : decode cX3_spotOf 12 = .ok (.iload 4, 2) := by decide +kernel
theorem dX3_spotOf_14 : decode cX3_spotOf 14 = .ok (.if_icmp .ge 48, 3) := by decide +kernel
theorem dX3_spotOf_17 : decode cX3_spotOf 17 = .ok (.iload 5, 2) := by decide +kernel
theorem dX3_spotOf_19 : decode cX3_spotOf 19 = .ok (.bipush 32, 2) := by decide +kernel
theorem dX3_spotOf_21 : decode cX3_spotOf 21 = .ok (.if_icmp .ge 41, 3) := by decide +kernel
theorem dX3_spotOf_24 : decode cX3_spotOf 24 = .ok (.iload_n 3, 1) := by decide +kernel
theorem dX3_spotOf_25 : decode cX3_spotOf 25 = .ok (.iload 4, 2) := by decide +kernel
theorem dX3_spotOf_27 : decode cX3_spotOf 27 = .ok (.iadd, 1) := by decide +kernel
theorem dX3_spotOf_28 : decode cX3_spotOf 28 = .ok (.iconst 2, 1) := by decide +kernel
theorem dX3_spotOf_29 : decode cX3_spotOf 29 = .ok (.idiv, 1) := by decide +kernel
theorem dX3_spotOf_30 : decode cX3_spotOf 30 = .ok (.istore 6, 2) := by decide +kernel
theorem dX3_spotOf_32 : decode cX3_spotOf 32 = .ok (.aload_n 0, 1) := by decide +kernel
theorem dX3_spotOf_33 : decode cX3_spotOf 33 = .ok (.getfield 9, 3) := by decide +kernel
theorem dX3_spotOf_36 : decode cX3_spotOf 36 = .ok (.iload 6, 2) := by decide +kernel
theorem dX3_spotOf_38 : decode cX3_spotOf 38 = .ok (.laload, 1) := by decide +kernel
theorem dX3_spotOf_39 : decode cX3_spotOf 39 = .ok (.lload_n 1, 1) := by decide +kernel
theorem dX3_spotOf_40 : decode cX3_spotOf 40 = .ok (.lcmp, 1) := by decide +kernel
theorem dX3_spotOf_41 : decode cX3_spotOf 41 = .ok (.ifCond .ge 11, 3) := by decide +kernel
theorem dX3_spotOf_44 : decode cX3_spotOf 44 = .ok (.iload 6, 2) := by decide +kernel
theorem dX3_spotOf_46 : decode cX3_spotOf 46 = .ok (.iconst 1, 1) := by decide +kernel
theorem dX3_spotOf_47 : decode cX3_spotOf 47 = .ok (.iadd, 1) := by decide +kernel
theorem dX3_spotOf_48 : decode cX3_spotOf 48 = .ok (.istore_n 3, 1) := by decide +kernel
theorem dX3_spotOf_49 : decode cX3_spotOf 49 = .ok (.goto 7, 3) := by decide +kernel
theorem dX3_spotOf_52 : decode cX3_spotOf 52 = .ok (.iload 6, 2) := by decide +kernel
theorem dX3_spotOf_54 : decode cX3_spotOf 54 = .ok (.istore 4, 2) := by decide +kernel
theorem dX3_spotOf_56 : decode cX3_spotOf 56 = .ok (.iinc 5 1, 3) := by decide +kernel
theorem dX3_spotOf_59 : decode cX3_spotOf 59 = .ok (.goto (-48), 3) := by decide +kernel
theorem dX3_spotOf_62 : decode cX3_spotOf 62 = .ok (.iload_n 3, 1) := by decide +kernel
theorem dX3_spotOf_63 : decode cX3_spotOf 63 = .ok (.ireturn, 1) := by decide +kernel
theorem dX3_partOf_0 : decode cX3_partOf 0 = .ok (.lload_n 0, 1) := by decide +kernel
theorem dX3_partOf_1 : decode cX3_partOf 1 = .ok (.iconst 2, 1) := by decide +kernel
theorem dX3_partOf_2 : decode cX3_partOf 2 = .ok (.iload_n 2, 1) := by decide +kernel
theorem dX3_partOf_3 : decode cX3_partOf 3 = .ok (.imul, 1) := by decide +kernel
theorem dX3_partOf_4 : decode cX3_partOf 4 = .ok (.lshr, 1) := by decide +kernel
theorem dX3_partOf_5 : decode cX3_partOf 5 = .ok (.l2i, 1) := by decide +kernel
theorem dX3_partOf_6 : decode cX3_partOf 6 = .ok (.iconst 3, 1) := by decide +kernel
theorem dX3_partOf_7 : decode cX3_partOf 7 = .ok (.iand, 1) := by decide +kernel
theorem dX3_partOf_8 : decode cX3_partOf 8 = .ok (.ireturn, 1) := by decide +kernel
theorem dX4_init_0 : decode cX4_init 0 = .ok (.aload_n 0, 1) := by decide +kernel
theorem dX4_init_1 : decode cX4_init 1 = .ok (.invokespecial 3, 3) := by decide +kernel
theorem dX4_init_4 : decode cX4_init 4 = .ok (.aload_n 0, 1) := by decide +kernel
theorem dX4_init_5 : decode cX4_init 5 = .ok (.bipush 24, 2) := by decide +kernel
theorem dX4_init_7 : decode cX4_init 7 = .ok (.bipush 6, 2) := by decide +kernel
theorem dX4_init_9 : decode cX4_init 9 = .ok (.multianewarray 9 2, 4) := by decide +kernel
theorem dX4_init_13 : decode cX4_init 13 = .ok (.putfield 11, 3) := by decide +kernel
theorem dX4_init_16 : decode cX4_init 16 = .ok (.aload_n 0, 1) := by decide +kernel
theorem dX4_init_17 : decode cX4_init 17 = .ok (.iconst 4, 1) := by decide +kernel
theorem dX4_init_18 : decode cX4_init 18 = .ok (.newarray .int, 2) := by decide +kernel
theorem dX4_init_20 : decode cX4_init 20 = .ok (.putfield 16, 3) := by decide +kernel
theorem dX4_init_23 : decode cX4_init 23 = .ok (.aload_n 0, 1) := by decide +kernel
theorem dX4_init_24 : decode cX4_init 24 = .ok (.bipush 6, 2) := by decide +kernel
theorem dX4_init_26 : decode cX4_init 26 = .ok (.newarray .int, 2) := by decide +kernel
theorem dX4_init_28 : decode cX4_init 28 = .ok (.putfield 20, 3) := by decide +kernel
theorem dX4_init_31 : decode cX4_init 31 = .ok (.aload_n 0, 1) := by decide +kernel
theorem dX4_init_32 : decode cX4_init 32 = .ok (.iconst 0, 1) := by decide +kernel
theorem dX4_init_33 : decode cX4_init 33 = .ok (.putfield 23, 3) := by decide +kernel
theorem dX4_init_36 : decode cX4_init 36 = .ok (.aload_n 0, 1) := by decide +kernel
theorem dX4_init_37 : decode cX4_init 37 = .ok (.iconst 0, 1) := by decide +kernel
theorem dX4_init_38 : decode cX4_init 38 = .ok (.putfield 27, 3) := by decide +kernel
theorem dX4_init_41 : decode cX4_init 41 = .ok (.return_, 1) := by decide +kernel
set_option maxRecDepth 20000 in
theorem ggX4_removeAll_X4_size : GoodIn wsX4_removeAll wsX4_size := goodIn_r _ [8, 1, 13, 14, 15, 16, 17] (by decide +kernel) (by decide +kernel)
set_option maxRecDepth 20000 in
theorem gX4_removeAll_X4_size : GoodIn wsX4_removeAll (wsV RX4 30 RX4 yX4_size wsX4_size) := goodIn_app (goodIn_of _ (by decide +kernel)) ggX4_removeAll_X4_size
set_option maxRecDepth 20000 in
theorem ggX4_removeAll_J7_fill_53178 : GoodIn wsX4_removeAll wsJ7_fill_53178 := goodIn_r _ [12] (by decide +kernel) (by decide +kernel)
set_option maxRecDepth 20000 in
theorem gX4_removeAll_J7_fill_53178 : GoodIn wsX4_removeAll (va_wsS RX4 34 yJ7_fill_53178 wsJ7_fill_53178) := goodIn_app (goodIn_of _ (by decide +kernel)) ggX4_removeAll_J7_fill_53178
theorem dX4_removeAll_0 : decode cX4_removeAll 0 = .ok (.aload_n 0, 1) := by decide +kernel
theorem dX4_removeAll_1 : decode cX4_removeAll 1 = .ok (.invokevirtual 30, 3) := by decide +kernel
theorem dX4_removeAll_4 : decode cX4_removeAll 4 = .ok (.istore_n 1, 1) := by decide +kernel
theorem dX4_removeAll_5 : decode cX4_removeAll 5 = .ok (.aload_n 0, 1) := by decide +kernel
theorem dX4_removeAll_6 : decode cX4_removeAll 6 = .ok (.getfield 16, 3) := by decide +kernel
theorem dX4_removeAll_9 : decode cX4_removeAll 9 = .ok (.iconst 0, 1) := by decide +kernel
theorem dX4_removeAll_10 : decode cX4_removeAll 10 = .ok (.invokestatic 34, 3) := by decide +kernel
theorem dX4_removeAll_13 : decode cX4_removeAll 13 = .ok (.aload_n 0, 1) := by decide +kernel
theorem dX4_removeAll_14 : decode cX4_removeAll 14 = .ok (.iconst 0, 1) := by decide +kernel
theorem dX4_removeAll_15 : decode cX4_removeAll 15 = .ok (.putfield 23, 3) := by decide +kernel
theorem dX4_removeAll_18 : decode cX4_removeAll 18 = .ok (.aload_n 0, 1) := by decide +kernel
theorem dX4_removeAll_19 : decode cX4_removeAll 19 = .ok (.iconst 0, 1) := by decide +kernel
theorem dX4_removeAll_20 : decode cX4_removeAll 20 = .ok (.putfield 27, 3) := by decide +kernel
theorem dX4_removeAll_23 : decode cX4_removeAll 23 = .ok (.iload_n 1, 1) := by decide +kernel
theorem dX4_removeAll_24 : decode cX4_removeAll 24 = .ok (.ireturn, 1) := by decide +kernel
theorem dX4_size_0 : decode cX4_size 0 = .ok (.iconst 0, 1) := by decide +kernel
theorem dX4_size_1 : decode cX4_size 1 = .ok (.istore_n 1, 1) := by decide +kernel
theorem dX4_size_2 : decode cX4_size 2 = .ok (.aload_n 0, 1) := by decide +kernel
theorem dX4_size_3 : decode cX4_size 3 = .ok (.getfield 16, 3) := by decide +kernel
theorem dX4_size_6 : decode cX4_size 6 = .ok (.astore_n 2, 1) := by decide +kernel
theorem dX4_size_7 : decode cX4_size 7 = .ok (.aload_n 2, 1) := by decide +kernel
theorem dX4_size_8 : decode cX4_size 8 = .ok (.arraylength, 1) := by decide +kernel
theorem dX4_size_9 : decode cX4_size 9 = .ok (.istore_n 3, 1) := by decide +kernel
theorem dX4_size_10 : decode cX4_size 10 = .ok (.iconst 0, 1) := by decide +kernel
theorem dX4_size_11 : decode cX4_size 11 = .ok (.istore 4, 2) := by decide +kernel
theorem dX4_size_13 : decode cX4_size 13 = .ok (.iload 4, 2) := by decide +kernel
theorem dX4_size_15 : decode cX4_size 15 = .ok (.iload_n 3, 1) := by decide +kernel
theorem dX4_size_16 : decode cX4_size 16 = .ok (.if_icmp .ge 20, 3) := by decide +kernel
theorem dX4_size_19 : decode cX4_size 19 = .ok (.aload_n 2, 1) := by decide +kernel
theorem dX4_size_20 : decode cX4_size 20 = .ok (.iload 4, 2) := by decide +kernel
theorem dX4_size_22 : decode cX4_size 22 = .ok (.iaload, 1) := by decide +kernel
theorem dX4_size_23 : decode cX4_size 23 = .ok (.istore 5, 2) := by decide +kernel
theorem dX4_size_25 : decode cX4_size 25 = .ok (.iload_n 1, 1) := by decide +kernel
theorem dX4_size_26 : decode cX4_size 26 = .ok (.iload 5, 2) := by decide +kernel
theorem dX4_size_28 : decode cX4_size 28 = .ok (.iadd, 1) := by decide +kernel
theorem dX4_size_29 : decode cX4_size 29 = .ok (.istore_n 1, 1) := by decide +kernel
theorem dX4_size_30 : decode cX4_size 30 = .ok (.iinc 4 1, 3) := by decide +kernel
theorem dX4_size_33 : decode cX4_size 33 = .ok (.goto (-20), 3) := by decide +kernel
theorem dX4_size_36 : decode cX4_size 36 = .ok (.iload_n 1, 1) := by decide +kernel
theorem dX4_size_37 : decode cX4_size 37 = .ok (.ireturn, 1) := by decide +kernel
theorem dX4_accesses_0 : decode cX4_accesses 0 = .ok (.aload_n 0, 1) := by decide +kernel
theorem dX4_accesses_1 : decode cX4_accesses 1 = .ok (.getfield 23, 3) := by decide +kernel
theorem dX4_accesses_4 : decode cX4_accesses 4 = .ok (.ireturn, 1) := by decide +kernel
theorem dX4_readers_0 : decode cX4_readers 0 = .ok (.aload_n 0, 1) := by decide +kernel
theorem dX4_readers_1 : decode cX4_readers 1 = .ok (.getfield 27, 3) := by decide +kernel
theorem dX4_readers_4 : decode cX4_readers 4 = .ok (.ireturn, 1) := by decide +kernel
theorem dX4_length_0 : decode cX4_length 0 = .ok (.aload_n 0, 1) := by decide +kernel
theorem dX4_length_1 : decode cX4_length 1 = .ok (.getfield 16, 3) := by decide +kernel
theorem dX4_length_4 : decode cX4_length 4 = .ok (.iload_n 1, 1) := by decide +kernel
theorem dX4_length_5 : decode cX4_length 5 = .ok (.iaload, 1) := by decide +kernel
theorem dX4_length_6 : decode cX4_length 6 = .ok (.ireturn, 1) := by decide +kernel
theorem dX4_has_0 : decode cX4_has 0 = .ok (.iload_n 1, 1) := by decide +kernel
theorem dX4_has_1 : decode cX4_has 1 = .ok (.ifCond .lt 26, 3) := by decide +kernel
theorem dX4_has_4 : decode cX4_has 4 = .ok (.iload_n 1, 1) := by decide +kernel
theorem dX4_has_5 : decode cX4_has 5 = .ok (.iconst 4, 1) := by decide +kernel
theorem dX4_has_6 : decode cX4_has 6 = .ok (.if_icmp .ge 21, 3) := by decide +kernel
theorem dX4_has_9 : decode cX4_has 9 = .ok (.iload_n 2, 1) := by decide +kernel
theorem dX4_has_10 : decode cX4_has 10 = .ok (.ifCond .lt 17, 3) := by decide +kernel
theorem dX4_has_13 : decode cX4_has 13 = .ok (.iload_n 2, 1) := by decide +kernel
theorem dX4_has_14 : decode cX4_has 14 = .ok (.aload_n 0, 1) := by decide +kernel
theorem dX4_has_15 : decode cX4_has 15 = .ok (.getfield 16, 3) := by decide +kernel
theorem dX4_has_18 : decode cX4_has 18 = .ok (.iload_n 1, 1) := by decide +kernel
theorem dX4_has_19 : decode cX4_has 19 = .ok (.iaload, 1) := by decide +kernel
theorem dX4_has_20 : decode cX4_has 20 = .ok (.if_icmp .ge 7, 3) := by decide +kernel
theorem dX4_has_23 : decode cX4_has 23 = .ok (.iconst 1, 1) := by decide +kernel
theorem dX4_has_24 : decode cX4_has 24 = .ok (.goto 4, 3) := by decide +kernel
theorem dX4_has_27 : decode cX4_has 27 = .ok (.iconst 0, 1) := by decide +kernel
theorem dX4_has_28 : decode cX4_has 28 = .ok (.ireturn, 1) := by decide +kernel
theorem dX4_row_0 : decode cX4_row 0 = .ok (.aload_n 0, 1) := by decide +kernel
theorem dX4_row_1 : decode cX4_row 1 = .ok (.getfield 11, 3) := by decide +kernel
theorem dX4_row_4 : decode cX4_row 4 = .ok (.iload_n 1, 1) := by decide +kernel
theorem dX4_row_5 : decode cX4_row 5 = .ok (.bipush 6, 2) := by decide +kernel
theorem dX4_row_7 : decode cX4_row 7 = .ok (.imul, 1) := by decide +kernel
theorem dX4_row_8 : decode cX4_row 8 = .ok (.iload_n 2, 1) := by decide +kernel
theorem dX4_row_9 : decode cX4_row 9 = .ok (.iadd, 1) := by decide +kernel
theorem dX4_row_10 : decode cX4_row 10 = .ok (.aaload, 1) := by decide +kernel
theorem dX4_row_11 : decode cX4_row 11 = .ok (.areturn, 1) := by decide +kernel
theorem dX4_propose_0 : decode cX4_propose 0 = .ok (.aload_n 0, 1) := by decide +kernel
theorem dX4_propose_1 : decode cX4_propose 1 = .ok (.getfield 20, 3) := by decide +kernel
theorem dX4_propose_4 : decode cX4_propose 4 = .ok (.iconst 0, 1) := by decide +kernel
theorem dX4_propose_5 : decode cX4_propose 5 = .ok (.iload_n 1, 1) := by decide +kernel
theorem dX4_propose_6 : decode cX4_propose 6 = .ok (.iastore, 1) := by decide +kernel
theorem dX4_propose_7 : decode cX4_propose 7 = .ok (.aload_n 0, 1) := by decide +kernel
theorem dX4_propose_8 : decode cX4_propose 8 = .ok (.getfield 20, 3) := by decide +kernel
theorem dX4_propose_11 : decode cX4_propose 11 = .ok (.iconst 1, 1) := by decide +kernel
theorem dX4_propose_12 : decode cX4_propose 12 = .ok (.iload_n 2, 1) := by decide +kernel
theorem dX4_propose_13 : decode cX4_propose 13 = .ok (.iastore, 1) := by decide +kernel
theorem dX4_propose_14 : decode cX4_propose 14 = .ok (.aload_n 0, 1) := by decide +kernel
theorem dX4_propose_15 : decode cX4_propose 15 = .ok (.getfield 20, 3) := by decide +kernel
theorem dX4_propose_18 : decode cX4_propose 18 = .ok (.iconst 2, 1) := by decide +kernel
theorem dX4_propose_19 : decode cX4_propose 19 = .ok (.iload_n 3, 1) := by decide +kernel
theorem dX4_propose_20 : decode cX4_propose 20 = .ok (.iastore, 1) := by decide +kernel
theorem dX4_propose_21 : decode cX4_propose 21 = .ok (.aload_n 0, 1) := by decide +kernel
theorem dX4_propose_22 : decode cX4_propose 22 = .ok (.getfield 20, 3) := by decide +kernel
theorem dX4_propose_25 : decode cX4_propose 25 = .ok (.iconst 3, 1) := by decide +kernel
theorem dX4_propose_26 : decode cX4_propose 26 = .ok (.iload 4, 2) := by decide +kernel
theorem dX4_propose_28 : decode cX4_propose 28 = .ok (.iastore, 1) := by decide +kernel
theorem dX4_propose_29 : decode cX4_propose 29 = .ok (.aload_n 0, 1) := by decide +kernel
theorem dX4_propose_30 : decode cX4_propose 30 = .ok (.getfield 20, 3) := by decide +kernel
theorem dX4_propose_33 : decode cX4_propose 33 = .ok (.iconst 4, 1) := by decide +kernel
theorem dX4_propose_34 : decode cX4_propose 34 = .ok (.iload 5, 2) := by decide +kernel
theorem dX4_propose_36 : decode cX4_propose 36 = .ok (.iastore, 1) := by decide +kernel
theorem dX4_propose_37 : decode cX4_propose 37 = .ok (.aload_n 0, 1) := by decide +kernel
theorem dX4_propose_38 : decode cX4_propose 38 = .ok (.getfield 20, 3) := by decide +kernel
theorem dX4_propose_41 : decode cX4_propose 41 = .ok (.iconst 5, 1) := by decide +kernel
theorem dX4_propose_42 : decode cX4_propose 42 = .ok (.iload 6, 2) := by decide +kernel
theorem dX4_propose_44 : decode cX4_propose 44 = .ok (.iastore, 1) := by decide +kernel
theorem dX4_propose_45 : decode cX4_propose 45 = .ok (.return_, 1) := by decide +kernel
set_option maxRecDepth 20000 in
theorem ggX4_append_X4_isDraftGood : GoodIn wsX4_append wsX4_isDraftGood := goodIn_r _ [9, 1, 10, 11, 8, 12, 13, 14, 15, 16, 17, 18, 19, 20, 21, 22, 23, 24, 25, 26, 27, 28, 29, 30, 31, 32, 33, 34, 35, 36, 37, 38, 39, 40, 41, 42, 43, 44, 45, 46, 47, 48, 49, 50, 51, 52, 53, 54, 55, 56, 57, 58, 59, 60, 61, 62, 63, 64, 83, 84, 85, 86, 87] (by decide +kernel) (by decide +kernel)
set_option maxRecDepth 20000 in
theorem gX4_append_X4_isDraftGood : GoodIn wsX4_append (wsV RX4 40 RX4 yX4_isDraftGood wsX4_isDraftGood) := goodIn_app (goodIn_of _ (by decide +kernel)) ggX4_append_X4_isDraftGood
set_option maxRecDepth 20000 in
theorem ggX4_append_X6_isAccess : GoodIn wsX4_append wsX6_isAccess := goodIn_r _ [67, 68, 69, 66, 70, 71, 72, 73] (by decide +kernel) (by decide +kernel)
set_option maxRecDepth 20000 in
theorem gX4_append_X6_isAccess_n44 : GoodIn wsX4_append (wsX6_isAccess) := ggX4_append_X6_isAccess
set_option maxRecDepth 20000 in
theorem ggX4_append_X6_isReader : GoodIn wsX4_append wsX6_isReader := goodIn_r _ [70] (by decide +kernel) (by decide +kernel)
set_option maxRecDepth 20000 in
theorem gX4_append_X6_isReader_n48 : GoodIn wsX4_append (wsX6_isReader) := ggX4_append_X6_isReader
set_option maxRecDepth 20000 in
theorem ggX4_append_X4_row : GoodIn wsX4_append wsX4_row := goodIn_r _ [77, 78, 83, 84, 85, 86, 87] (by decide +kernel) (by decide +kernel)
set_option maxRecDepth 20000 in
theorem gX4_append_X4_row : GoodIn wsX4_append (wsV RX4 51 RX4 yX4_row wsX4_row) := goodIn_app (goodIn_of _ (by decide +kernel)) ggX4_append_X4_row
set_option maxRecDepth 20000 in
theorem ggX4_append_X4_copyDraft : GoodIn wsX4_append wsX4_copyDraft := goodIn_r _ [82, 1, 10, 11, 8, 12, 13, 14, 15, 16, 17, 18, 19, 20, 21, 22, 23, 24, 83, 84, 85, 86, 87] (by decide +kernel) (by decide +kernel)
set_option maxRecDepth 20000 in
theorem gX4_append_X4_copyDraft : GoodIn wsX4_append (wsV RX4 55 RX4 yX4_copyDraft wsX4_copyDraft) := goodIn_app (goodIn_of _ (by decide +kernel)) ggX4_append_X4_copyDraft
theorem dX4_append_0 : decode cX4_append 0 = .ok (.iload_n 1, 1) := by decide +kernel
theorem dX4_append_1 : decode cX4_append 1 = .ok (.ifCond .lt 15, 3) := by decide +kernel
theorem dX4_append_4 : decode cX4_append 4 = .ok (.iload_n 1, 1) := by decide +kernel
theorem dX4_append_5 : decode cX4_append 5 = .ok (.iconst 4, 1) := by decide +kernel
theorem dX4_append_6 : decode cX4_append 6 = .ok (.if_icmp .ge 10, 3) := by decide +kernel
theorem dX4_append_9 : decode cX4_append 9 = .ok (.aload_n 0, 1) := by decide +kernel
theorem dX4_append_10 : decode cX4_append 10 = .ok (.invokevirtual 40, 3) := by decide +kernel
theorem dX4_append_13 : decode cX4_append 13 = .ok (.ifCond .ne 6, 3) := by decide +kernel
theorem dX4_append_16 : decode cX4_append 16 = .ok (.bipush (-2), 2) := by decide +kernel
theorem dX4_append_18 : decode cX4_append 18 = .ok (.ireturn, 1) := by decide +kernel
theorem dX4_append_19 : decode cX4_append 19 = .ok (.aload_n 0, 1) := by decide +kernel
theorem dX4_append_20 : decode cX4_append 20 = .ok (.getfield 20, 3) := by decide +kernel
theorem dX4_append_23 : decode cX4_append 23 = .ok (.iconst 0, 1) := by decide +kernel
theorem dX4_append_24 : decode cX4_append 24 = .ok (.iaload, 1) := by decide +kernel
theorem dX4_append_25 : decode cX4_append 25 = .ok (.istore_n 2, 1) := by decide +kernel
theorem dX4_append_26 : decode cX4_append 26 = .ok (.iload_n 2, 1) := by decide +kernel
theorem dX4_append_27 : decode cX4_append 27 = .ok (.invokestatic 44, 3) := by decide +kernel
theorem dX4_append_30 : decode cX4_append 30 = .ok (.ifCond .eq 16, 3) := by decide +kernel
theorem dX4_append_33 : decode cX4_append 33 = .ok (.aload_n 0, 1) := by decide +kernel
theorem dX4_append_34 : decode cX4_append 34 = .ok (.getfield 23, 3) := by decide +kernel
theorem dX4_append_37 : decode cX4_append 37 = .ok (.bipush 6, 2) := by decide +kernel
theorem dX4_append_39 : decode cX4_append 39 = .ok (.if_icmp .lt 7, 3) := by decide +kernel
theorem dX4_append_42 : decode cX4_append 42 = .ok (.iconst 1, 1) := by decide +kernel
theorem dX4_append_43 : decode cX4_append 43 = .ok (.goto 4, 3) := by decide +kernel
theorem dX4_append_46 : decode cX4_append 46 = .ok (.iconst 0, 1) := by decide +kernel
theorem dX4_append_47 : decode cX4_append 47 = .ok (.istore_n 3, 1) := by decide +kernel
theorem dX4_append_48 : decode cX4_append 48 = .ok (.iload_n 2, 1) := by decide +kernel
theorem dX4_append_49 : decode cX4_append 49 = .ok (.invokestatic 48, 3) := by decide +kernel
theorem dX4_append_52 : decode cX4_append 52 = .ok (.ifCond .eq 15, 3) := by decide +kernel
theorem dX4_append_55 : decode cX4_append 55 = .ok (.aload_n 0, 1) := by decide +kernel
end
section
theorem dX4_append_56 : decode cX4_append 56 = .ok (.getfield 27, 3) := by decide +kernel
theorem dX4_append_59 : decode cX4_append 59 = .ok (.iconst 4, 1) := by decide +kernel
theorem dX4_append_60 : decode cX4_append 60 = .ok (.if_icmp .lt 7, 3) := by decide +kernel
theorem dX4_append_63 : decode cX4_append 63 = .ok (.iconst 1, 1) := by decide +kernel
theorem dX4_append_64 : decode cX4_append 64 = .ok (.goto 4, 3) := by decide +kernel
theorem dX4_append_67 : decode cX4_append 67 = .ok (.iconst 0, 1) := by decide +kernel
theorem dX4_append_68 : decode cX4_append 68 = .ok (.istore 4, 2) := by decide +kernel
theorem dX4_append_70 : decode cX4_append 70 = .ok (.aload_n 0, 1) := by decide +kernel
theorem dX4_append_71 : decode cX4_append 71 = .ok (.getfield 16, 3) := by decide +kernel
theorem dX4_append_74 : decode cX4_append 74 = .ok (.iload_n 1, 1) := by decide +kernel
theorem dX4_append_75 : decode cX4_append 75 = .ok (.iaload, 1) := by decide +kernel
theorem dX4_append_76 : decode cX4_append 76 = .ok (.bipush 6, 2) := by decide +kernel
theorem dX4_append_78 : decode cX4_append 78 = .ok (.if_icmp .ge 12, 3) := by decide +kernel
theorem dX4_append_81 : decode cX4_append 81 = .ok (.iload_n 3, 1) := by decide +kernel
theorem dX4_append_82 : decode cX4_append 82 = .ok (.ifCond .ne 8, 3) := by decide +kernel
theorem dX4_append_85 : decode cX4_append 85 = .ok (.iload 4, 2) := by decide +kernel
theorem dX4_append_87 : decode cX4_append 87 = .ok (.ifCond .eq 6, 3) := by decide +kernel
theorem dX4_append_90 : decode cX4_append 90 = .ok (.bipush (-3), 2) := by decide +kernel
theorem dX4_append_92 : decode cX4_append 92 = .ok (.ireturn, 1) := by decide +kernel
theorem dX4_append_93 : decode cX4_append 93 = .ok (.aload_n 0, 1) := by decide +kernel
theorem dX4_append_94 : decode cX4_append 94 = .ok (.dup, 1) := by decide +kernel
theorem dX4_append_95 : decode cX4_append 95 = .ok (.getfield 23, 3) := by decide +kernel
theorem dX4_append_98 : decode cX4_append 98 = .ok (.iload_n 2, 1) := by decide +kernel
theorem dX4_append_99 : decode cX4_append 99 = .ok (.invokestatic 44, 3) := by decide +kernel
theorem dX4_append_102 : decode cX4_append 102 = .ok (.ifCond .eq 7, 3) := by decide +kernel
theorem dX4_append_105 : decode cX4_append 105 = .ok (.iconst 1, 1) := by decide +kernel
theorem dX4_append_106 : decode cX4_append 106 = .ok (.goto 4, 3) := by decide +kernel
theorem dX4_append_109 : decode cX4_append 109 = .ok (.iconst 0, 1) := by decide +kernel
theorem dX4_append_110 : decode cX4_append 110 = .ok (.iadd, 1) := by decide +kernel
theorem dX4_append_111 : decode cX4_append 111 = .ok (.putfield 23, 3) := by decide +kernel
theorem dX4_append_114 : decode cX4_append 114 = .ok (.aload_n 0, 1) := by decide +kernel
theorem dX4_append_115 : decode cX4_append 115 = .ok (.dup, 1) := by decide +kernel
theorem dX4_append_116 : decode cX4_append 116 = .ok (.getfield 27, 3) := by decide +kernel
theorem dX4_append_119 : decode cX4_append 119 = .ok (.iload_n 2, 1) := by decide +kernel
theorem dX4_append_120 : decode cX4_append 120 = .ok (.invokestatic 48, 3) := by decide +kernel
theorem dX4_append_123 : decode cX4_append 123 = .ok (.ifCond .eq 7, 3) := by decide +kernel
theorem dX4_append_126 : decode cX4_append 126 = .ok (.iconst 1, 1) := by decide +kernel
theorem dX4_append_127 : decode cX4_append 127 = .ok (.goto 4, 3) := by decide +kernel
theorem dX4_append_130 : decode cX4_append 130 = .ok (.iconst 0, 1) := by decide +kernel
theorem dX4_append_131 : decode cX4_append 131 = .ok (.iadd, 1) := by decide +kernel
theorem dX4_append_132 : decode cX4_append 132 = .ok (.putfield 27, 3) := by decide +kernel
theorem dX4_append_135 : decode cX4_append 135 = .ok (.aload_n 0, 1) := by decide +kernel
theorem dX4_append_136 : decode cX4_append 136 = .ok (.getfield 16, 3) := by decide +kernel
theorem dX4_append_139 : decode cX4_append 139 = .ok (.iload_n 1, 1) := by decide +kernel
theorem dX4_append_140 : decode cX4_append 140 = .ok (.iaload, 1) := by decide +kernel
theorem dX4_append_141 : decode cX4_append 141 = .ok (.istore 5, 2) := by decide +kernel
theorem dX4_append_143 : decode cX4_append 143 = .ok (.aload_n 0, 1) := by decide +kernel
theorem dX4_append_144 : decode cX4_append 144 = .ok (.aload_n 0, 1) := by decide +kernel
theorem dX4_append_145 : decode cX4_append 145 = .ok (.iload_n 1, 1) := by decide +kernel
theorem dX4_append_146 : decode cX4_append 146 = .ok (.iload 5, 2) := by decide +kernel
theorem dX4_append_148 : decode cX4_append 148 = .ok (.invokevirtual 51, 3) := by decide +kernel
theorem dX4_append_151 : decode cX4_append 151 = .ok (.invokevirtual 55, 3) := by decide +kernel
theorem dX4_append_154 : decode cX4_append 154 = .ok (.aload_n 0, 1) := by decide +kernel
theorem dX4_append_155 : decode cX4_append 155 = .ok (.getfield 16, 3) := by decide +kernel
theorem dX4_append_158 : decode cX4_append 158 = .ok (.iload_n 1, 1) := by decide +kernel
theorem dX4_append_159 : decode cX4_append 159 = .ok (.dup2, 1) := by decide +kernel
theorem dX4_append_160 : decode cX4_append 160 = .ok (.iaload, 1) := by decide +kernel
theorem dX4_append_161 : decode cX4_append 161 = .ok (.iconst 1, 1) := by decide +kernel
theorem dX4_append_162 : decode cX4_append 162 = .ok (.iadd, 1) := by decide +kernel
theorem dX4_append_163 : decode cX4_append 163 = .ok (.iastore, 1) := by decide +kernel
theorem dX4_append_164 : decode cX4_append 164 = .ok (.iload 5, 2) := by decide +kernel
theorem dX4_append_166 : decode cX4_append 166 = .ok (.ireturn, 1) := by decide +kernel
set_option maxRecDepth 20000 in
theorem ggX4_isDraftGood_X4_formOf : GoodIn wsX4_isDraftGood wsX4_formOf := goodIn_r _ [5] (by decide +kernel) (by decide +kernel)
set_option maxRecDepth 20000 in
theorem gX4_isDraftGood_X4_formOf : GoodIn wsX4_isDraftGood (va_wsS RX4 59 yX4_formOf wsX4_formOf) := goodIn_app (goodIn_of _ (by decide +kernel)) ggX4_isDraftGood_X4_formOf
set_option maxRecDepth 20000 in
theorem ggX4_isDraftGood_J0_length_8abf5 : GoodIn wsX4_isDraftGood wsJ0_length_8abf5 := goodIn_r _ [10, 11, 12, 13, 14, 9, 15, 16, 17] (by decide +kernel) (by decide +kernel)
set_option maxRecDepth 20000 in
theorem gX4_isDraftGood_J0_length_8abf5 : GoodIn wsX4_isDraftGood (wsV RX4 63 RJ0 yJ0_length_8abf5 wsJ0_length_8abf5) := goodIn_app (goodIn_of _ (by decide +kernel)) ggX4_isDraftGood_J0_length_8abf5
set_option maxRecDepth 20000 in
theorem ggX4_isDraftGood_J0_charAt_5068e : GoodIn wsX4_isDraftGood wsJ0_charAt_5068e := goodIn_r _ [21, 11, 22, 23, 24, 9, 25, 16, 17, 26, 27, 28, 29, 30, 31, 32, 33, 34, 35, 36, 37, 38, 39, 40, 41, 42, 43, 44, 45, 46, 47, 48, 49, 50, 51, 52, 53, 54] (by decide +kernel) (by decide +kernel)
set_option maxRecDepth 20000 in
theorem gX4_isDraftGood_J0_charAt_5068e : GoodIn wsX4_isDraftGood (wsV RX4 68 RJ0 yJ0_charAt_5068e wsJ0_charAt_5068e) := goodIn_app (goodIn_of _ (by decide +kernel)) ggX4_isDraftGood_J0_charAt_5068e
set_option maxRecDepth 20000 in
theorem ggX4_isDraftGood_X4_isOfSort : GoodIn wsX4_isDraftGood wsX4_isOfSort := goodIn_r _ [57] (by decide +kernel) (by decide +kernel)
set_option maxRecDepth 20000 in
theorem gX4_isDraftGood_X4_isOfSort : GoodIn wsX4_isDraftGood (va_wsS RX4 72 yX4_isOfSort wsX4_isOfSort) := goodIn_app (goodIn_of _ (by decide +kernel)) ggX4_isDraftGood_X4_isOfSort
theorem dX4_isDraftGood_0 : decode cX4_isDraftGood 0 = .ok (.aload_n 0, 1) := by decide +kernel
theorem dX4_isDraftGood_1 : decode cX4_isDraftGood 1 = .ok (.getfield 20, 3) := by decide +kernel
theorem dX4_isDraftGood_4 : decode cX4_isDraftGood 4 = .ok (.iconst 0, 1) := by decide +kernel
theorem dX4_isDraftGood_5 : decode cX4_isDraftGood 5 = .ok (.iaload, 1) := by decide +kernel
theorem dX4_isDraftGood_6 : decode cX4_isDraftGood 6 = .ok (.ifCond .lt 14, 3) := by decide +kernel
theorem dX4_isDraftGood_9 : decode cX4_isDraftGood 9 = .ok (.aload_n 0, 1) := by decide +kernel
theorem dX4_isDraftGood_10 : decode cX4_isDraftGood 10 = .ok (.getfield 20, 3) := by decide +kernel
theorem dX4_isDraftGood_13 : decode cX4_isDraftGood 13 = .ok (.iconst 0, 1) := by decide +kernel
theorem dX4_isDraftGood_14 : decode cX4_isDraftGood 14 = .ok (.iaload, 1) := by decide +kernel
theorem dX4_isDraftGood_15 : decode cX4_isDraftGood 15 = .ok (.bipush 11, 2) := by decide +kernel
theorem dX4_isDraftGood_17 : decode cX4_isDraftGood 17 = .ok (.if_icmp .lt 5, 3) := by decide +kernel
theorem dX4_isDraftGood_20 : decode cX4_isDraftGood 20 = .ok (.iconst 0, 1) := by decide +kernel
theorem dX4_isDraftGood_21 : decode cX4_isDraftGood 21 = .ok (.ireturn, 1) := by decide +kernel
theorem dX4_isDraftGood_22 : decode cX4_isDraftGood 22 = .ok (.aload_n 0, 1) := by decide +kernel
theorem dX4_isDraftGood_23 : decode cX4_isDraftGood 23 = .ok (.getfield 20, 3) := by decide +kernel
theorem dX4_isDraftGood_26 : decode cX4_isDraftGood 26 = .ok (.iconst 0, 1) := by decide +kernel
theorem dX4_isDraftGood_27 : decode cX4_isDraftGood 27 = .ok (.iaload, 1) := by decide +kernel
theorem dX4_isDraftGood_28 : decode cX4_isDraftGood 28 = .ok (.invokestatic 59, 3) := by decide +kernel
theorem dX4_isDraftGood_31 : decode cX4_isDraftGood 31 = .ok (.astore_n 1, 1) := by decide +kernel
theorem dX4_isDraftGood_32 : decode cX4_isDraftGood 32 = .ok (.iconst 0, 1) := by decide +kernel
theorem dX4_isDraftGood_33 : decode cX4_isDraftGood 33 = .ok (.istore_n 2, 1) := by decide +kernel
theorem dX4_isDraftGood_34 : decode cX4_isDraftGood 34 = .ok (.iload_n 2, 1) := by decide +kernel
theorem dX4_isDraftGood_35 : decode cX4_isDraftGood 35 = .ok (.aload_n 1, 1) := by decide +kernel
theorem dX4_isDraftGood_36 : decode cX4_isDraftGood 36 = .ok (.invokevirtual 63, 3) := by decide +kernel
theorem dX4_isDraftGood_39 : decode cX4_isDraftGood 39 = .ok (.if_icmp .ge 30, 3) := by decide +kernel
theorem dX4_isDraftGood_42 : decode cX4_isDraftGood 42 = .ok (.aload_n 1, 1) := by decide +kernel
theorem dX4_isDraftGood_43 : decode cX4_isDraftGood 43 = .ok (.iload_n 2, 1) := by decide +kernel
theorem dX4_isDraftGood_44 : decode cX4_isDraftGood 44 = .ok (.invokevirtual 68, 3) := by decide +kernel
theorem dX4_isDraftGood_47 : decode cX4_isDraftGood 47 = .ok (.aload_n 0, 1) := by decide +kernel
theorem dX4_isDraftGood_48 : decode cX4_isDraftGood 48 = .ok (.getfield 20, 3) := by decide +kernel
theorem dX4_isDraftGood_51 : decode cX4_isDraftGood 51 = .ok (.iload_n 2, 1) := by decide +kernel
theorem dX4_isDraftGood_52 : decode cX4_isDraftGood 52 = .ok (.iconst 1, 1) := by decide +kernel
theorem dX4_isDraftGood_53 : decode cX4_isDraftGood 53 = .ok (.iadd, 1) := by decide +kernel
theorem dX4_isDraftGood_54 : decode cX4_isDraftGood 54 = .ok (.iaload, 1) := by decide +kernel
theorem dX4_isDraftGood_55 : decode cX4_isDraftGood 55 = .ok (.invokestatic 72, 3) := by decide +kernel
theorem dX4_isDraftGood_58 : decode cX4_isDraftGood 58 = .ok (.ifCond .ne 5, 3) := by decide +kernel
theorem dX4_isDraftGood_61 : decode cX4_isDraftGood 61 = .ok (.iconst 0, 1) := by decide +kernel
theorem dX4_isDraftGood_62 : decode cX4_isDraftGood 62 = .ok (.ireturn, 1) := by decide +kernel
theorem dX4_isDraftGood_63 : decode cX4_isDraftGood 63 = .ok (.iinc 2 1, 3) := by decide +kernel
theorem dX4_isDraftGood_66 : decode cX4_isDraftGood 66 = .ok (.goto (-32), 3) := by decide +kernel
theorem dX4_isDraftGood_69 : decode cX4_isDraftGood 69 = .ok (.iconst 1, 1) := by decide +kernel
theorem dX4_isDraftGood_70 : decode cX4_isDraftGood 70 = .ok (.ireturn, 1) := by decide +kernel
set_option maxRecDepth 20000 in
theorem ggX4_copyDraft_X4_formOf : GoodIn wsX4_copyDraft wsX4_formOf := goodIn_r _ [5] (by decide +kernel) (by decide +kernel)
set_option maxRecDepth 20000 in
theorem gX4_copyDraft_X4_formOf : GoodIn wsX4_copyDraft (va_wsS RX4 59 yX4_formOf wsX4_formOf) := goodIn_app (goodIn_of _ (by decide +kernel)) ggX4_copyDraft_X4_formOf
set_option maxRecDepth 20000 in
theorem ggX4_copyDraft_J0_length_8abf5 : GoodIn wsX4_copyDraft wsJ0_length_8abf5 := goodIn_r _ [10, 11, 12, 13, 14, 9, 15, 16, 17] (by decide +kernel) (by decide +kernel)
set_option maxRecDepth 20000 in
theorem gX4_copyDraft_J0_length_8abf5 : GoodIn wsX4_copyDraft (wsV RX4 63 RJ0 yJ0_length_8abf5 wsJ0_length_8abf5) := goodIn_app (goodIn_of _ (by decide +kernel)) ggX4_copyDraft_J0_length_8abf5
theorem dX4_copyDraft_0 : decode cX4_copyDraft 0 = .ok (.aload_n 0, 1) := by decide +kernel
theorem dX4_copyDraft_1 : decode cX4_copyDraft 1 = .ok (.getfield 20, 3) := by decide +kernel
theorem dX4_copyDraft_4 : decode cX4_copyDraft 4 = .ok (.iconst 0, 1) := by decide +kernel
theorem dX4_copyDraft_5 : decode cX4_copyDraft 5 = .ok (.iaload, 1) := by decide +kernel
theorem dX4_copyDraft_6 : decode cX4_copyDraft 6 = .ok (.invokestatic 59, 3) := by decide +kernel
theorem dX4_copyDraft_9 : decode cX4_copyDraft 9 = .ok (.invokevirtual 63, 3) := by decide +kernel
theorem dX4_copyDraft_12 : decode cX4_copyDraft 12 = .ok (.iconst 1, 1) := by decide +kernel
theorem dX4_copyDraft_13 : decode cX4_copyDraft 13 = .ok (.iadd, 1) := by decide +kernel
theorem dX4_copyDraft_14 : decode cX4_copyDraft 14 = .ok (.istore_n 2, 1) := by decide +kernel
theorem dX4_copyDraft_15 : decode cX4_copyDraft 15 = .ok (.iconst 0, 1) := by decide +kernel
theorem dX4_copyDraft_16 : decode cX4_copyDraft 16 = .ok (.istore_n 3, 1) := by decide +kernel
theorem dX4_copyDraft_17 : decode cX4_copyDraft 17 = .ok (.iload_n 3, 1) := by decide +kernel
theorem dX4_copyDraft_18 : decode cX4_copyDraft 18 = .ok (.bipush 6, 2) := by decide +kernel
theorem dX4_copyDraft_20 : decode cX4_copyDraft 20 = .ok (.if_icmp .ge 27, 3) := by decide +kernel
theorem dX4_copyDraft_23 : decode cX4_copyDraft 23 = .ok (.aload_n 1, 1) := by decide +kernel
theorem dX4_copyDraft_24 : decode cX4_copyDraft 24 = .ok (.iload_n 3, 1) := by decide +kernel
theorem dX4_copyDraft_25 : decode cX4_copyDraft 25 = .ok (.iload_n 3, 1) := by decide +kernel
theorem dX4_copyDraft_26 : decode cX4_copyDraft 26 = .ok (.iload_n 2, 1) := by decide +kernel
theorem dX4_copyDraft_27 : decode cX4_copyDraft 27 = .ok (.if_icmp .ge 12, 3) := by decide +kernel
theorem dX4_copyDraft_30 : decode cX4_copyDraft 30 = .ok (.aload_n 0, 1) := by decide +kernel
theorem dX4_copyDraft_31 : decode cX4_copyDraft 31 = .ok (.getfield 20, 3) := by decide +kernel
theorem dX4_copyDraft_34 : decode cX4_copyDraft 34 = .ok (.iload_n 3, 1) := by decide +kernel
theorem dX4_copyDraft_35 : decode cX4_copyDraft 35 = .ok (.iaload, 1) := by decide +kernel
theorem dX4_copyDraft_36 : decode cX4_copyDraft 36 = .ok (.goto 4, 3) := by decide +kernel
theorem dX4_copyDraft_39 : decode cX4_copyDraft 39 = .ok (.iconst 0, 1) := by decide +kernel
theorem dX4_copyDraft_40 : decode cX4_copyDraft 40 = .ok (.iastore, 1) := by decide +kernel
theorem dX4_copyDraft_41 : decode cX4_copyDraft 41 = .ok (.iinc 3 1, 3) := by decide +kernel
theorem dX4_copyDraft_44 : decode cX4_copyDraft 44 = .ok (.goto (-27), 3) := by decide +kernel
theorem dX4_copyDraft_47 : decode cX4_copyDraft 47 = .ok (.return_, 1) := by decide +kernel
theorem dX4_formOf_0 : decode cX4_formOf 0 = .ok (.iload_n 0, 1) := by decide +kernel
theorem dX4_formOf_1 : decode cX4_formOf 1 = .ok (.tableswitch 73 0 9 #[55, 58, 61, 61, 55, 61, 64, 67, 70, 70], 55) := by decide +kernel
theorem dX4_formOf_56 : decode cX4_formOf 56 = .ok (.ldc 76, 2) := by decide +kernel
theorem dX4_formOf_58 : decode cX4_formOf 58 = .ok (.areturn, 1) := by decide +kernel
theorem dX4_formOf_59 : decode cX4_formOf 59 = .ok (.ldc 78, 2) := by decide +kernel
theorem dX4_formOf_61 : decode cX4_formOf 61 = .ok (.areturn, 1) := by decide +kernel
theorem dX4_formOf_62 : decode cX4_formOf 62 = .ok (.ldc 80, 2) := by decide +kernel
theorem dX4_formOf_64 : decode cX4_formOf 64 = .ok (.areturn, 1) := by decide +kernel
theorem dX4_formOf_65 : decode cX4_formOf 65 = .ok (.ldc 82, 2) := by decide +kernel
theorem dX4_formOf_67 : decode cX4_formOf 67 = .ok (.areturn, 1) := by decide +kernel
theorem dX4_formOf_68 : decode cX4_formOf 68 = .ok (.ldc 84, 2) := by decide +kernel
theorem dX4_formOf_70 : decode cX4_formOf 70 = .ok (.areturn, 1) := by decide +kernel
theorem dX4_formOf_71 : decode cX4_formOf 71 = .ok (.ldc 86, 2) := by decide +kernel
theorem dX4_formOf_73 : decode cX4_formOf 73 = .ok (.areturn, 1) := by decide +kernel
theorem dX4_formOf_74 : decode cX4_formOf 74 = .ok (.ldc 88, 2) := by decide +kernel
theorem dX4_formOf_76 : decode cX4_formOf 76 = .ok (.areturn, 1) := by decide +kernel
theorem dX4_isOfSort_0 : decode cX4_isOfSort 0 = .ok (.iload_n 0, 1) := by decide +kernel
theorem dX4_isOfSort_1 : decode cX4_isOfSort 1 = .ok (.tableswitch 168 108 121 #[117, 168, 152, 168, 168, 168, 71, 137, 168, 168, 168, 168, 86, 101], 71) := by decide +kernel
theorem dX4_isOfSort_72 : decode cX4_isOfSort 72 = .ok (.iload_n 1, 1) := by decide +kernel
theorem dX4_isOfSort_73 : decode cX4_isOfSort 73 = .ok (.ifCond .lt 12, 3) := by decide +kernel
theorem dX4_isOfSort_76 : decode cX4_isOfSort 76 = .ok (.iload_n 1, 1) := by decide +kernel
theorem dX4_isOfSort_77 : decode cX4_isOfSort 77 = .ok (.iconst 4, 1) := by decide +kernel
theorem dX4_isOfSort_78 : decode cX4_isOfSort 78 = .ok (.if_icmp .ge 7, 3) := by decide +kernel
theorem dX4_isOfSort_81 : decode cX4_isOfSort 81 = .ok (.iconst 1, 1) := by decide +kernel
theorem dX4_isOfSort_82 : decode cX4_isOfSort 82 = .ok (.goto 4, 3) := by decide +kernel
theorem dX4_isOfSort_85 : decode cX4_isOfSort 85 = .ok (.iconst 0, 1) := by decide +kernel
theorem dX4_isOfSort_86 : decode cX4_isOfSort 86 = .ok (.ireturn, 1) := by decide +kernel
theorem dX4_isOfSort_87 : decode cX4_isOfSort 87 = .ok (.iload_n 1, 1) := by decide +kernel
theorem dX4_isOfSort_88 : decode cX4_isOfSort 88 = .ok (.ifCond .lt 12, 3) := by decide +kernel
theorem dX4_isOfSort_91 : decode cX4_isOfSort 91 = .ok (.iload_n 1, 1) := by decide +kernel
theorem dX4_isOfSort_92 : decode cX4_isOfSort 92 = .ok (.iconst 3, 1) := by decide +kernel
theorem dX4_isOfSort_93 : decode cX4_isOfSort 93 = .ok (.if_icmp .ge 7, 3) := by decide +kernel
theorem dX4_isOfSort_96 : decode cX4_isOfSort 96 = .ok (.iconst 1, 1) := by decide +kernel
theorem dX4_isOfSort_97 : decode cX4_isOfSort 97 = .ok (.goto 4, 3) := by decide +kernel
theorem dX4_isOfSort_100 : decode cX4_isOfSort 100 = .ok (.iconst 0, 1) := by decide +kernel
theorem dX4_isOfSort_101 : decode cX4_isOfSort 101 = .ok (.ireturn, 1) := by decide +kernel
theorem dX4_isOfSort_102 : decode cX4_isOfSort 102 = .ok (.iload_n 1, 1) := by decide +kernel
theorem dX4_isOfSort_103 : decode cX4_isOfSort 103 = .ok (.iconst (-1), 1) := by decide +kernel
theorem dX4_isOfSort_104 : decode cX4_isOfSort 104 = .ok (.if_icmp .lt 12, 3) := by decide +kernel
theorem dX4_isOfSort_107 : decode cX4_isOfSort 107 = .ok (.iload_n 1, 1) := by decide +kernel
theorem dX4_isOfSort_108 : decode cX4_isOfSort 108 = .ok (.iconst 4, 1) := by decide +kernel
theorem dX4_isOfSort_109 : decode cX4_isOfSort 109 = .ok (.if_icmp .ge 7, 3) := by decide +kernel
theorem dX4_isOfSort_112 : decode cX4_isOfSort 112 = .ok (.iconst 1, 1) := by decide +kernel
theorem dX4_isOfSort_113 : decode cX4_isOfSort 113 = .ok (.goto 4, 3) := by decide +kernel
theorem dX4_isOfSort_116 : decode cX4_isOfSort 116 = .ok (.iconst 0, 1) := by decide +kernel
theorem dX4_isOfSort_117 : decode cX4_isOfSort 117 = .ok (.ireturn, 1) := by decide +kernel
theorem dX4_isOfSort_118 : decode cX4_isOfSort 118 = .ok (.iload_n 1, 1) := by decide +kernel
theorem dX4_isOfSort_119 : decode cX4_isOfSort 119 = .ok (.ifCond .eq 13, 3) := by decide +kernel
theorem dX4_isOfSort_122 : decode cX4_isOfSort 122 = .ok (.iload_n 1, 1) := by decide +kernel
theorem dX4_isOfSort_123 : decode cX4_isOfSort 123 = .ok (.iconst 1, 1) := by decide +kernel
theorem dX4_isOfSort_124 : decode cX4_isOfSort 124 = .ok (.if_icmp .eq 8, 3) := by decide +kernel
theorem dX4_isOfSort_127 : decode cX4_isOfSort 127 = .ok (.iload_n 1, 1) := by decide +kernel
theorem dX4_isOfSort_128 : decode cX4_isOfSort 128 = .ok (.iconst 3, 1) := by decide +kernel
theorem dX4_isOfSort_129 : decode cX4_isOfSort 129 = .ok (.if_icmp .ne 7, 3) := by decide +kernel
theorem dX4_isOfSort_132 : decode cX4_isOfSort 132 = .ok (.iconst 1, 1) := by decide +kernel
theorem dX4_isOfSort_133 : decode cX4_isOfSort 133 = .ok (.goto 4, 3) := by decide +kernel
theorem dX4_isOfSort_136 : decode cX4_isOfSort 136 = .ok (.iconst 0, 1) := by decide +kernel
theorem dX4_isOfSort_137 : decode cX4_isOfSort 137 = .ok (.ireturn, 1) := by decide +kernel
theorem dX4_isOfSort_138 : decode cX4_isOfSort 138 = .ok (.iload_n 1, 1) := by decide +kernel
theorem dX4_isOfSort_139 : decode cX4_isOfSort 139 = .ok (.ifCond .eq 8, 3) := by decide +kernel
theorem dX4_isOfSort_142 : decode cX4_isOfSort 142 = .ok (.iload_n 1, 1) := by decide +kernel
theorem dX4_isOfSort_143 : decode cX4_isOfSort 143 = .ok (.iconst 2, 1) := by decide +kernel
theorem dX4_isOfSort_144 : decode cX4_isOfSort 144 = .ok (.if_icmp .ne 7, 3) := by decide +kernel
theorem dX4_isOfSort_147 : decode cX4_isOfSort 147 = .ok (.iconst 1, 1) := by decide +kernel
theorem dX4_isOfSort_148 : decode cX4_isOfSort 148 = .ok (.goto 4, 3) := by decide +kernel
theorem dX4_isOfSort_151 : decode cX4_isOfSort 151 = .ok (.iconst 0, 1) := by decide +kernel
theorem dX4_isOfSort_152 : decode cX4_isOfSort 152 = .ok (.ireturn, 1) := by decide +kernel
theorem dX4_isOfSort_153 : decode cX4_isOfSort 153 = .ok (.iload_n 1, 1) := by decide +kernel
theorem dX4_isOfSort_154 : decode cX4_isOfSort 154 = .ok (.iconst 1, 1) := by decide +kernel
theorem dX4_isOfSort_155 : decode cX4_isOfSort 155 = .ok (.if_icmp .lt 12, 3) := by decide +kernel
theorem dX4_isOfSort_158 : decode cX4_isOfSort 158 = .ok (.iload_n 1, 1) := by decide +kernel
theorem dX4_isOfSort_159 : decode cX4_isOfSort 159 = .ok (.iconst 5, 1) := by decide +kernel
theorem dX4_isOfSort_160 : decode cX4_isOfSort 160 = .ok (.if_icmp .gt 7, 3) := by decide +kernel
theorem dX4_isOfSort_163 : decode cX4_isOfSort 163 = .ok (.iconst 1, 1) := by decide +kernel
theorem dX4_isOfSort_164 : decode cX4_isOfSort 164 = .ok (.goto 4, 3) := by decide +kernel
theorem dX4_isOfSort_167 : decode cX4_isOfSort 167 = .ok (.iconst 0, 1) := by decide +kernel
theorem dX4_isOfSort_168 : decode cX4_isOfSort 168 = .ok (.ireturn, 1) := by decide +kernel
theorem dX4_isOfSort_169 : decode cX4_isOfSort 169 = .ok (.iload_n 1, 1) := by decide +kernel
theorem dX4_isOfSort_170 : decode cX4_isOfSort 170 = .ok (.ifCond .lt 12, 3) := by decide +kernel
theorem dX4_isOfSort_173 : decode cX4_isOfSort 173 = .ok (.iload_n 1, 1) := by decide +kernel
theorem dX4_isOfSort_174 : decode cX4_isOfSort 174 = .ok (.iconst 3, 1) := by decide +kernel
theorem dX4_isOfSort_175 : decode cX4_isOfSort 175 = .ok (.if_icmp .gt 7, 3) := by decide +kernel
theorem dX4_isOfSort_178 : decode cX4_isOfSort 178 = .ok (.iconst 1, 1) := by decide +kernel
theorem dX4_isOfSort_179 : decode cX4_isOfSort 179 = .ok (.goto 4, 3) := by decide +kernel
theorem dX4_isOfSort_182 : decode cX4_isOfSort 182 = .ok (.iconst 0, 1) := by decide +kernel
theorem dX4_isOfSort_183 : decode cX4_isOfSort 183 = .ok (.ireturn, 1) := by decide +kernel
set_option maxRecDepth 20000 in
theorem ggX5_init_X0_init : GoodIn wsX5_init wsX0_init := goodIn_r _ [14, 15, 2, 3] (by decide +kernel) (by decide +kernel)
set_option maxRecDepth 20000 in
theorem gX5_init_X0_init_n25 : GoodIn wsX5_init (wsX0_init) := ggX5_init_X0_init
theorem dX5_init_0 : decode cX5_init 0 = .ok (.aload_n 0, 1) := by decide +kernel
theorem dX5_init_1 : decode cX5_init 1 = .ok (.invokespecial 3, 3) := by decide +kernel
theorem dX5_init_4 : decode cX5_init 4 = .ok (.aload_n 0, 1) := by decide +kernel
theorem dX5_init_5 : decode cX5_init 5 = .ok (.aload_n 1, 1) := by decide +kernel
theorem dX5_init_6 : decode cX5_init 6 = .ok (.putfield 9, 3) := by decide +kernel
theorem dX5_init_9 : decode cX5_init 9 = .ok (.aload_n 0, 1) := by decide +kernel
theorem dX5_init_10 : decode cX5_init 10 = .ok (.aload_n 2, 1) := by decide +kernel
theorem dX5_init_11 : decode cX5_init 11 = .ok (.putfield 15, 3) := by decide +kernel
theorem dX5_init_14 : decode cX5_init 14 = .ok (.aload_n 0, 1) := by decide +kernel
theorem dX5_init_15 : decode cX5_init 15 = .ok (.bipush 6, 2) := by decide +kernel
theorem dX5_init_17 : decode cX5_init 17 = .ok (.anewarray 19, 3) := by decide +kernel
theorem dX5_init_20 : decode cX5_init 20 = .ok (.putfield 21, 3) := by decide +kernel
theorem dX5_init_23 : decode cX5_init 23 = .ok (.iconst 0, 1) := by decide +kernel
theorem dX5_init_24 : decode cX5_init 24 = .ok (.istore_n 3, 1) := by decide +kernel
theorem dX5_init_25 : decode cX5_init 25 = .ok (.iload_n 3, 1) := by decide +kernel
theorem dX5_init_26 : decode cX5_init 26 = .ok (.bipush 6, 2) := by decide +kernel
theorem dX5_init_28 : decode cX5_init 28 = .ok (.if_icmp .ge 22, 3) := by decide +kernel
theorem dX5_init_31 : decode cX5_init 31 = .ok (.aload_n 0, 1) := by decide +kernel
theorem dX5_init_32 : decode cX5_init 32 = .ok (.getfield 21, 3) := by decide +kernel
theorem dX5_init_35 : decode cX5_init 35 = .ok (.iload_n 3, 1) := by decide +kernel
theorem dX5_init_36 : decode cX5_init 36 = .ok (.new 19, 3) := by decide +kernel
theorem dX5_init_39 : decode cX5_init 39 = .ok (.dup, 1) := by decide +kernel
theorem dX5_init_40 : decode cX5_init 40 = .ok (.invokespecial 25, 3) := by decide +kernel
theorem dX5_init_43 : decode cX5_init 43 = .ok (.aastore, 1) := by decide +kernel
theorem dX5_init_44 : decode cX5_init 44 = .ok (.iinc 3 1, 3) := by decide +kernel
theorem dX5_init_47 : decode cX5_init 47 = .ok (.goto (-22), 3) := by decide +kernel
theorem dX5_init_50 : decode cX5_init 50 = .ok (.aload_n 0, 1) := by decide +kernel
theorem dX5_init_51 : decode cX5_init 51 = .ok (.bipush 16, 2) := by decide +kernel
theorem dX5_init_53 : decode cX5_init 53 = .ok (.newarray .int, 2) := by decide +kernel
theorem dX5_init_55 : decode cX5_init 55 = .ok (.putfield 26, 3) := by decide +kernel
theorem dX5_init_58 : decode cX5_init 58 = .ok (.aload_n 0, 1) := by decide +kernel
theorem dX5_init_59 : decode cX5_init 59 = .ok (.bipush 16, 2) := by decide +kernel
theorem dX5_init_61 : decode cX5_init 61 = .ok (.newarray .int, 2) := by decide +kernel
theorem dX5_init_63 : decode cX5_init 63 = .ok (.putfield 30, 3) := by decide +kernel
theorem dX5_init_66 : decode cX5_init 66 = .ok (.return_, 1) := by decide +kernel
theorem dX5_size_0 : decode cX5_size 0 = .ok (.aload_n 0, 1) := by decide +kernel
theorem dX5_size_1 : decode cX5_size 1 = .ok (.getfield 33, 3) := by decide +kernel
theorem dX5_size_4 : decode cX5_size 4 = .ok (.ireturn, 1) := by decide +kernel
theorem dX5_accessAt_0 : decode cX5_accessAt 0 = .ok (.aload_n 0, 1) := by decide +kernel
theorem dX5_accessAt_1 : decode cX5_accessAt 1 = .ok (.getfield 21, 3) := by decide +kernel
theorem dX5_accessAt_4 : decode cX5_accessAt 4 = .ok (.iload_n 1, 1) := by decide +kernel
theorem dX5_accessAt_5 : decode cX5_accessAt 5 = .ok (.aaload, 1) := by decide +kernel
theorem dX5_accessAt_6 : decode cX5_accessAt 6 = .ok (.areturn, 1) := by decide +kernel
theorem dX5_registersPart_0 : decode cX5_registersPart 0 = .ok (.lconst 0, 1) := by decide +kernel
theorem dX5_registersPart_1 : decode cX5_registersPart 1 = .ok (.lstore_n 1, 1) := by decide +kernel
theorem dX5_registersPart_2 : decode cX5_registersPart 2 = .ok (.bipush 15, 2) := by decide +kernel
theorem dX5_registersPart_4 : decode cX5_registersPart 4 = .ok (.istore_n 3, 1) := by decide +kernel
theorem dX5_registersPart_5 : decode cX5_registersPart 5 = .ok (.iload_n 3, 1) := by decide +kernel
theorem dX5_registersPart_6 : decode cX5_registersPart 6 = .ok (.ifCond .lt 23, 3) := by decide +kernel
theorem dX5_registersPart_9 : decode cX5_registersPart 9 = .ok (.lload_n 1, 1) := by decide +kernel
theorem dX5_registersPart_10 : decode cX5_registersPart 10 = .ok (.ldc2_w 37, 3) := by decide +kernel
theorem dX5_registersPart_13 : decode cX5_registersPart 13 = .ok (.lmul, 1) := by decide +kernel
theorem dX5_registersPart_14 : decode cX5_registersPart 14 = .ok (.aload_n 0, 1) := by decide +kernel
theorem dX5_registersPart_15 : decode cX5_registersPart 15 = .ok (.getfield 26, 3) := by decide +kernel
theorem dX5_registersPart_18 : decode cX5_registersPart 18 = .ok (.iload_n 3, 1) := by decide +kernel
theorem dX5_registersPart_19 : decode cX5_registersPart 19 = .ok (.iaload, 1) := by decide +kernel
theorem dX5_registersPart_20 : decode cX5_registersPart 20 = .ok (.i2l, 1) := by decide +kernel
theorem dX5_registersPart_21 : decode cX5_registersPart 21 = .ok (.ladd, 1) := by decide +kernel
theorem dX5_registersPart_22 : decode cX5_registersPart 22 = .ok (.lstore_n 1, 1) := by decide +kernel
theorem dX5_registersPart_23 : decode cX5_registersPart 23 = .ok (.iinc 3 (-1), 3) := by decide +kernel
theorem dX5_registersPart_26 : decode cX5_registersPart 26 = .ok (.goto (-21), 3) := by decide +kernel
theorem dX5_registersPart_29 : decode cX5_registersPart 29 = .ok (.lload_n 1, 1) := by decide +kernel
theorem dX5_registersPart_30 : decode cX5_registersPart 30 = .ok (.lreturn, 1) := by decide +kernel
theorem dX5_locationsPart_0 : decode cX5_locationsPart 0 = .ok (.lconst 0, 1) := by decide +kernel
theorem dX5_locationsPart_1 : decode cX5_locationsPart 1 = .ok (.lstore_n 2, 1) := by decide +kernel
theorem dX5_locationsPart_2 : decode cX5_locationsPart 2 = .ok (.iconst 2, 1) := by decide +kernel
theorem dX5_locationsPart_3 : decode cX5_locationsPart 3 = .ok (.istore 4, 2) := by decide +kernel
theorem dX5_locationsPart_5 : decode cX5_locationsPart 5 = .ok (.iload 4, 2) := by decide +kernel
theorem dX5_locationsPart_7 : decode cX5_locationsPart 7 = .ok (.ifCond .lt 41, 3) := by decide +kernel
theorem dX5_locationsPart_10 : decode cX5_locationsPart 10 = .ok (.lload_n 2, 1) := by decide +kernel
theorem dX5_locationsPart_11 : decode cX5_locationsPart 11 = .ok (.ldc2_w 37, 3) := by decide +kernel
theorem dX5_locationsPart_14 : decode cX5_locationsPart 14 = .ok (.lmul, 1) := by decide +kernel
theorem dX5_locationsPart_15 : decode cX5_locationsPart 15 = .ok (.aload_n 1, 1) := by decide +kernel
theorem dX5_locationsPart_16 : decode cX5_locationsPart 16 = .ok (.iload 4, 2) := by decide +kernel
theorem dX5_locationsPart_18 : decode cX5_locationsPart 18 = .ok (.iaload, 1) := by decide +kernel
theorem dX5_locationsPart_19 : decode cX5_locationsPart 19 = .ok (.iconst (-1), 1) := by decide +kernel
theorem dX5_locationsPart_20 : decode cX5_locationsPart 20 = .ok (.if_icmp .ne 7, 3) := by decide +kernel
theorem dX5_locationsPart_23 : decode cX5_locationsPart 23 = .ok (.iconst 0, 1) := by decide +kernel
theorem dX5_locationsPart_24 : decode cX5_locationsPart 24 = .ok (.goto 15, 3) := by decide +kernel
theorem dX5_locationsPart_27 : decode cX5_locationsPart 27 = .ok (.aload_n 0, 1) := by decide +kernel
theorem dX5_locationsPart_28 : decode cX5_locationsPart 28 = .ok (.getfield 21, 3) := by decide +kernel
theorem dX5_locationsPart_31 : decode cX5_locationsPart 31 = .ok (.aload_n 1, 1) := by decide +kernel
theorem dX5_locationsPart_32 : decode cX5_locationsPart 32 = .ok (.iload 4, 2) := by decide +kernel
theorem dX5_locationsPart_34 : decode cX5_locationsPart 34 = .ok (.iaload, 1) := by decide +kernel
theorem dX5_locationsPart_35 : decode cX5_locationsPart 35 = .ok (.aaload, 1) := by decide +kernel
theorem dX5_locationsPart_36 : decode cX5_locationsPart 36 = .ok (.getfield 39, 3) := by decide +kernel
theorem dX5_locationsPart_39 : decode cX5_locationsPart 39 = .ok (.i2l, 1) := by decide +kernel
theorem dX5_locationsPart_40 : decode cX5_locationsPart 40 = .ok (.ladd, 1) := by decide +kernel
theorem dX5_locationsPart_41 : decode cX5_locationsPart 41 = .ok (.lstore_n 2, 1) := by decide +kernel
theorem dX5_locationsPart_42 : decode cX5_locationsPart 42 = .ok (.iinc 4 (-1), 3) := by decide +kernel
theorem dX5_locationsPart_45 : decode cX5_locationsPart 45 = .ok (.goto (-40), 3) := by decide +kernel
theorem dX5_locationsPart_48 : decode cX5_locationsPart 48 = .ok (.lload_n 2, 1) := by decide +kernel
theorem dX5_locationsPart_49 : decode cX5_locationsPart 49 = .ok (.bipush 32, 2) := by decide +kernel
theorem dX5_locationsPart_51 : decode cX5_locationsPart 51 = .ok (.lshl, 1) := by decide +kernel
theorem dX5_locationsPart_52 : decode cX5_locationsPart 52 = .ok (.lreturn, 1) := by decide +kernel
set_option maxRecDepth 20000 in
theorem ggX5_walk_J7_fill_53178 : GoodIn wsX5_walk wsJ7_fill_53178 := goodIn_r _ [8] (by decide +kernel) (by decide +kernel)
set_option maxRecDepth 20000 in
theorem gX5_walk_J7_fill_53178 : GoodIn wsX5_walk (va_wsS RX5 45 yJ7_fill_53178 wsJ7_fill_53178) := goodIn_app (goodIn_of _ (by decide +kernel)) ggX5_walk_J7_fill_53178
set_option maxRecDepth 20000 in
theorem ggX5_walk_X5_walkHart : GoodIn wsX5_walk wsX5_walkHart := goodIn_r _ [13, 14, 2, 15, 16, 17, 18, 19, 20, 21, 22, 23, 24, 25, 26, 27, 28, 29, 30, 31, 32, 33, 34, 35, 12, 36, 37, 38, 39, 40, 4, 41, 42, 43, 44, 3, 45, 46, 47, 48, 49, 50, 51, 52, 53, 54, 55, 56, 57, 58, 59, 60, 61, 62, 63, 64, 65, 66, 67, 68, 69, 70, 71, 72, 73, 74, 75, 76, 77, 78, 79, 80, 81, 82, 83, 84, 85, 86, 87, 88, 89, 90, 91, 92, 93, 94, 95, 96, 1, 97, 98, 99, 100, 101, 102, 103, 104, 105, 106, 107, 108, 109, 110, 111, 112, 113, 114, 115, 116, 117, 118, 119, 120, 121, 122, 123, 124, 125, 126, 127, 128, 129, 130, 131, 132, 133] (by decide +kernel) (by decide +kernel)
set_option maxRecDepth 20000 in
theorem gX5_walk_X5_walkHart : GoodIn wsX5_walk (wsV RX5 51 RX5 yX5_walkHart wsX5_walkHart) := goodIn_app (goodIn_of _ (by decide +kernel)) ggX5_walk_X5_walkHart
theorem dX5_walk_0 : decode cX5_walk 0 = .ok (.aload_n 0, 1) := by decide +kernel
theorem dX5_walk_1 : decode cX5_walk 1 = .ok (.iload_n 1, 1) := by decide +kernel
theorem dX5_walk_2 : decode cX5_walk 2 = .ok (.putfield 42, 3) := by decide +kernel
theorem dX5_walk_5 : decode cX5_walk 5 = .ok (.aload_n 0, 1) := by decide +kernel
theorem dX5_walk_6 : decode cX5_walk 6 = .ok (.iconst 0, 1) := by decide +kernel
theorem dX5_walk_7 : decode cX5_walk 7 = .ok (.putfield 33, 3) := by decide +kernel
theorem dX5_walk_10 : decode cX5_walk 10 = .ok (.aload_n 0, 1) := by decide +kernel
theorem dX5_walk_11 : decode cX5_walk 11 = .ok (.getfield 26, 3) := by decide +kernel
theorem dX5_walk_14 : decode cX5_walk 14 = .ok (.iconst 0, 1) := by decide +kernel
theorem dX5_walk_15 : decode cX5_walk 15 = .ok (.invokestatic 45, 3) := by decide +kernel
theorem dX5_walk_18 : decode cX5_walk 18 = .ok (.aload_n 0, 1) := by decide +kernel
theorem dX5_walk_19 : decode cX5_walk 19 = .ok (.getfield 30, 3) := by decide +kernel
theorem dX5_walk_22 : decode cX5_walk 22 = .ok (.iconst 0, 1) := by decide +kernel
theorem dX5_walk_23 : decode cX5_walk 23 = .ok (.invokestatic 45, 3) := by decide +kernel
theorem dX5_walk_26 : decode cX5_walk 26 = .ok (.iconst 0, 1) := by decide +kernel
theorem dX5_walk_27 : decode cX5_walk 27 = .ok (.istore_n 2, 1) := by decide +kernel
theorem dX5_walk_28 : decode cX5_walk 28 = .ok (.iload_n 2, 1) := by decide +kernel
theorem dX5_walk_29 : decode cX5_walk 29 = .ok (.iconst 4, 1) := by decide +kernel
theorem dX5_walk_30 : decode cX5_walk 30 = .ok (.if_icmp .ge 14, 3) := by decide +kernel
theorem dX5_walk_33 : decode cX5_walk 33 = .ok (.aload_n 0, 1) := by decide +kernel
theorem dX5_walk_34 : decode cX5_walk 34 = .ok (.iload_n 2, 1) := by decide +kernel
theorem dX5_walk_35 : decode cX5_walk 35 = .ok (.invokevirtual 51, 3) := by decide +kernel
theorem dX5_walk_38 : decode cX5_walk 38 = .ok (.iinc 2 1, 3) := by decide +kernel
theorem dX5_walk_41 : decode cX5_walk 41 = .ok (.goto (-13), 3) := by decide +kernel
theorem dX5_walk_44 : decode cX5_walk 44 = .ok (.return_, 1) := by decide +kernel
set_option maxRecDepth 20000 in
theorem ggX5_isPlausible_X5_isWrittenFor : GoodIn wsX5_isPlausible wsX5_isWrittenFor := goodIn_r _ [7, 2, 1, 8, 9, 10, 11, 12, 13, 14, 15, 16, 17, 18, 19, 20, 21, 22, 23, 24, 25, 26, 27, 28, 29, 30, 31, 32, 33, 34, 35] (by decide +kernel) (by decide +kernel)
set_option maxRecDepth 20000 in
theorem gX5_isPlausible_X5_isWrittenFor : GoodIn wsX5_isPlausible (wsV RX5 62 RX5 yX5_isWrittenFor wsX5_isWrittenFor) := goodIn_app (goodIn_of _ (by decide +kernel)) ggX5_isPlausible_X5_isWrittenFor
theorem dX5_isPlausible_0 : decode cX5_isPlausible 0 = .ok (.iconst 0, 1) := by decide +kernel
theorem dX5_isPlausible_1 : decode cX5_isPlausible 1 = .ok (.istore_n 1, 1) := by decide +kernel
theorem dX5_isPlausible_2 : decode cX5_isPlausible 2 = .ok (.iload_n 1, 1) := by decide +kernel
theorem dX5_isPlausible_3 : decode cX5_isPlausible 3 = .ok (.aload_n 0, 1) := by decide +kernel
theorem dX5_isPlausible_4 : decode cX5_isPlausible 4 = .ok (.getfield 33, 3) := by decide +kernel
theorem dX5_isPlausible_7 : decode cX5_isPlausible 7 = .ok (.if_icmp .ge 43, 3) := by decide +kernel
theorem dX5_isPlausible_10 : decode cX5_isPlausible 10 = .ok (.aload_n 0, 1) := by decide +kernel
theorem dX5_isPlausible_11 : decode cX5_isPlausible 11 = .ok (.getfield 21, 3) := by decide +kernel
theorem dX5_isPlausible_14 : decode cX5_isPlausible 14 = .ok (.iload_n 1, 1) := by decide +kernel
theorem dX5_isPlausible_15 : decode cX5_isPlausible 15 = .ok (.aaload, 1) := by decide +kernel
theorem dX5_isPlausible_16 : decode cX5_isPlausible 16 = .ok (.getfield 55, 3) := by decide +kernel
theorem dX5_isPlausible_19 : decode cX5_isPlausible 19 = .ok (.ifCond .eq 25, 3) := by decide +kernel
theorem dX5_isPlausible_22 : decode cX5_isPlausible 22 = .ok (.aload_n 0, 1) := by decide +kernel
theorem dX5_isPlausible_23 : decode cX5_isPlausible 23 = .ok (.getfield 21, 3) := by decide +kernel
theorem dX5_isPlausible_26 : decode cX5_isPlausible 26 = .ok (.iload_n 1, 1) := by decide +kernel
theorem dX5_isPlausible_27 : decode cX5_isPlausible 27 = .ok (.aaload, 1) := by decide +kernel
theorem dX5_isPlausible_28 : decode cX5_isPlausible 28 = .ok (.getfield 59, 3) := by decide +kernel
theorem dX5_isPlausible_31 : decode cX5_isPlausible 31 = .ok (.ifCond .eq 13, 3) := by decide +kernel
theorem dX5_isPlausible_34 : decode cX5_isPlausible 34 = .ok (.aload_n 0, 1) := by decide +kernel
theorem dX5_isPlausible_35 : decode cX5_isPlausible 35 = .ok (.iload_n 1, 1) := by decide +kernel
theorem dX5_isPlausible_36 : decode cX5_isPlausible 36 = .ok (.invokevirtual 62, 3) := by decide +kernel
theorem dX5_isPlausible_39 : decode cX5_isPlausible 39 = .ok (.ifCond .ne 5, 3) := by decide +kernel
theorem dX5_isPlausible_42 : decode cX5_isPlausible 42 = .ok (.iconst 0, 1) := by decide +kernel
theorem dX5_isPlausible_43 : decode cX5_isPlausible 43 = .ok (.ireturn, 1) := by decide +kernel
theorem dX5_isPlausible_44 : decode cX5_isPlausible 44 = .ok (.iinc 1 1, 3) := by decide +kernel
theorem dX5_isPlausible_47 : decode cX5_isPlausible 47 = .ok (.goto (-45), 3) := by decide +kernel
theorem dX5_isPlausible_50 : decode cX5_isPlausible 50 = .ok (.iconst 1, 1) := by decide +kernel
theorem dX5_isPlausible_51 : decode cX5_isPlausible 51 = .ok (.ireturn, 1) := by decide +kernel
theorem dX5_isWrittenFor_0 : decode cX5_isWrittenFor 0 = .ok (.aload_n 0, 1) := by decide +kernel
theorem dX5_isWrittenFor_1 : decode cX5_isWrittenFor 1 = .ok (.getfield 21, 3) := by decide +kernel
theorem dX5_isWrittenFor_4 : decode cX5_isWrittenFor 4 = .ok (.iload_n 1, 1) := by decide +kernel
theorem dX5_isWrittenFor_5 : decode cX5_isWrittenFor 5 = .ok (.aaload, 1) := by decide +kernel
theorem dX5_isWrittenFor_6 : decode cX5_isWrittenFor 6 = .ok (.astore_n 2, 1) := by decide +kernel
theorem dX5_isWrittenFor_7 : decode cX5_isWrittenFor 7 = .ok (.iconst 0, 1) := by decide +kernel
theorem dX5_isWrittenFor_8 : decode cX5_isWrittenFor 8 = .ok (.istore_n 3, 1) := by decide +kernel
theorem dX5_isWrittenFor_9 : decode cX5_isWrittenFor 9 = .ok (.iload_n 3, 1) := by decide +kernel
theorem dX5_isWrittenFor_10 : decode cX5_isWrittenFor 10 = .ok (.aload_n 0, 1) := by decide +kernel
theorem dX5_isWrittenFor_11 : decode cX5_isWrittenFor 11 = .ok (.getfield 33, 3) := by decide +kernel
theorem dX5_isWrittenFor_14 : decode cX5_isWrittenFor 14 = .ok (.if_icmp .ge 56, 3) := by decide +kernel
theorem dX5_isWrittenFor_17 : decode cX5_isWrittenFor 17 = .ok (.aload_n 0, 1) := by decide +kernel
theorem dX5_isWrittenFor_18 : decode cX5_isWrittenFor 18 = .ok (.getfield 21, 3) := by decide +kernel
theorem dX5_isWrittenFor_21 : decode cX5_isWrittenFor 21 = .ok (.iload_n 3, 1) := by decide +kernel
theorem dX5_isWrittenFor_22 : decode cX5_isWrittenFor 22 = .ok (.aaload, 1) := by decide +kernel
theorem dX5_isWrittenFor_23 : decode cX5_isWrittenFor 23 = .ok (.astore 4, 2) := by decide +kernel
theorem dX5_isWrittenFor_25 : decode cX5_isWrittenFor 25 = .ok (.iload_n 3, 1) := by decide +kernel
theorem dX5_isWrittenFor_26 : decode cX5_isWrittenFor 26 = .ok (.iload_n 1, 1) := by decide +kernel
theorem dX5_isWrittenFor_27 : decode cX5_isWrittenFor 27 = .ok (.if_icmp .eq 37, 3) := by decide +kernel
theorem dX5_isWrittenFor_30 : decode cX5_isWrittenFor 30 = .ok (.aload 4, 2) := by decide +kernel
theorem dX5_isWrittenFor_32 : decode cX5_isWrittenFor 32 = .ok (.getfield 66, 3) := by decide +kernel
theorem dX5_isWrittenFor_35 : decode cX5_isWrittenFor 35 = .ok (.ifCond .eq 29, 3) := by decide +kernel
theorem dX5_isWrittenFor_38 : decode cX5_isWrittenFor 38 = .ok (.aload 4, 2) := by decide +kernel
theorem dX5_isWrittenFor_40 : decode cX5_isWrittenFor 40 = .ok (.getfield 69, 3) := by decide +kernel
theorem dX5_isWrittenFor_43 : decode cX5_isWrittenFor 43 = .ok (.aload_n 2, 1) := by decide +kernel
theorem dX5_isWrittenFor_44 : decode cX5_isWrittenFor 44 = .ok (.getfield 69, 3) := by decide +kernel
theorem dX5_isWrittenFor_47 : decode cX5_isWrittenFor 47 = .ok (.if_icmp .ne 17, 3) := by decide +kernel
theorem dX5_isWrittenFor_50 : decode cX5_isWrittenFor 50 = .ok (.aload 4, 2) := by decide +kernel
theorem dX5_isWrittenFor_52 : decode cX5_isWrittenFor 52 = .ok (.getfield 39, 3) := by decide +kernel
theorem dX5_isWrittenFor_55 : decode cX5_isWrittenFor 55 = .ok (.aload_n 2, 1) := by decide +kernel
theorem dX5_isWrittenFor_56 : decode cX5_isWrittenFor 56 = .ok (.getfield 59, 3) := by decide +kernel
theorem dX5_isWrittenFor_59 : decode cX5_isWrittenFor 59 = .ok (.if_icmp .ne 5, 3) := by decide +kernel
theorem dX5_isWrittenFor_62 : decode cX5_isWrittenFor 62 = .ok (.iconst 1, 1) := by decide +kernel
theorem dX5_isWrittenFor_63 : decode cX5_isWrittenFor 63 = .ok (.ireturn, 1) := by decide +kernel
theorem dX5_isWrittenFor_64 : decode cX5_isWrittenFor 64 = .ok (.iinc 3 1, 3) := by decide +kernel
theorem dX5_isWrittenFor_67 : decode cX5_isWrittenFor 67 = .ok (.goto (-58), 3) := by decide +kernel
theorem dX5_isWrittenFor_70 : decode cX5_isWrittenFor 70 = .ok (.iconst 0, 1) := by decide +kernel
theorem dX5_isWrittenFor_71 : decode cX5_isWrittenFor 71 = .ok (.ireturn, 1) := by decide +kernel
set_option maxRecDepth 20000 in
theorem ggX5_walkHart_X4_length : GoodIn wsX5_walkHart wsX4_length := goodIn_r _ [14, 15, 103, 104, 105, 106, 107] (by decide +kernel) (by decide +kernel)
set_option maxRecDepth 20000 in
theorem gX5_walkHart_X4_length : GoodIn wsX5_walkHart (wsV RX5 93 RX4 yX4_length wsX4_length) := goodIn_app (goodIn_of _ (by decide +kernel)) ggX5_walkHart_X4_length
set_option maxRecDepth 20000 in
theorem ggX5_walkHart_X4_row : GoodIn wsX5_walkHart wsX4_row := goodIn_r _ [19, 20, 103, 104, 105, 106, 107] (by decide +kernel) (by decide +kernel)
set_option maxRecDepth 20000 in
theorem gX5_walkHart_X4_row : GoodIn wsX5_walkHart (wsV RX5 99 RX4 yX4_row wsX4_row) := goodIn_app (goodIn_of _ (by decide +kernel)) ggX5_walkHart_X4_row
set_option maxRecDepth 20000 in
theorem ggX5_walkHart_X5_leftOut : GoodIn wsX5_walkHart wsX5_leftOut := goodIn_r _ [25, 5, 26, 27, 28, 24, 29, 30, 1, 31, 32, 33, 34, 35, 89, 90, 91, 92, 93, 94, 95, 96, 97, 98, 99, 100, 101, 102] (by decide +kernel) (by decide +kernel)
set_option maxRecDepth 20000 in
theorem gX5_walkHart_X5_leftOut : GoodIn wsX5_walkHart (wsV RX5 103 RX5 yX5_leftOut wsX5_leftOut) := goodIn_app (goodIn_of _ (by decide +kernel)) ggX5_walkHart_X5_leftOut
set_option maxRecDepth 20000 in
theorem ggX5_walkHart_X5_step : GoodIn wsX5_walkHart wsX5_step := goodIn_r _ [39, 4, 40, 41, 42, 24, 43, 3, 2, 44, 7, 8, 45, 46, 47, 48, 35, 1, 30, 31, 32, 33, 34, 26, 27, 28, 29, 49, 50, 51, 52, 53, 54, 55, 56, 57, 58, 59, 60, 61, 62, 63, 64, 65, 66, 67, 68, 69, 70, 6, 71, 72, 73, 74, 75, 76, 77, 78, 79, 80, 81, 82, 83, 84, 85, 86, 87, 5, 88, 89, 90, 91, 92, 93, 94, 95, 96, 97, 98, 99, 100, 101, 102, 108, 109, 110, 111, 112, 113, 114, 115, 116, 117, 118, 119, 120, 121, 122, 123, 124, 125] (by decide +kernel) (by decide +kernel)
set_option maxRecDepth 20000 in
theorem gX5_walkHart_X5_step : GoodIn wsX5_walkHart (wsV RX5 107 RX5 yX5_step wsX5_step) := goodIn_app (goodIn_of _ (by decide +kernel)) ggX5_walkHart_X5_step
theorem dX5_walkHart_0 : decode cX5_walkHart 0 = .ok (.aload_n 0, 1) := by decide +kernel
theorem dX5_walkHart_1 : decode cX5_walkHart 1 = .ok (.iload_n 1, 1) := by decide +kernel
theorem dX5_walkHart_2 : decode cX5_walkHart 2 = .ok (.putfield 72, 3) := by decide +kernel
theorem dX5_walkHart_5 : decode cX5_walkHart 5 = .ok (.aload_n 0, 1) := by decide +kernel
theorem dX5_walkHart_6 : decode cX5_walkHart 6 = .ok (.aload_n 0, 1) := by decide +kernel
theorem dX5_walkHart_7 : decode cX5_walkHart 7 = .ok (.getfield 33, 3) := by decide +kernel
theorem dX5_walkHart_10 : decode cX5_walkHart 10 = .ok (.putfield 75, 3) := by decide +kernel
theorem dX5_walkHart_13 : decode cX5_walkHart 13 = .ok (.aload_n 0, 1) := by decide +kernel
theorem dX5_walkHart_14 : decode cX5_walkHart 14 = .ok (.iconst (-1), 1) := by decide +kernel
theorem dX5_walkHart_15 : decode cX5_walkHart 15 = .ok (.putfield 78, 3) := by decide +kernel
theorem dX5_walkHart_18 : decode cX5_walkHart 18 = .ok (.aload_n 0, 1) := by decide +kernel
theorem dX5_walkHart_19 : decode cX5_walkHart 19 = .ok (.iconst 0, 1) := by decide +kernel
theorem dX5_walkHart_20 : decode cX5_walkHart 20 = .ok (.putfield 81, 3) := by decide +kernel
theorem dX5_walkHart_23 : decode cX5_walkHart 23 = .ok (.aload_n 0, 1) := by decide +kernel
theorem dX5_walkHart_24 : decode cX5_walkHart 24 = .ok (.iconst 0, 1) := by decide +kernel
theorem dX5_walkHart_25 : decode cX5_walkHart 25 = .ok (.putfield 84, 3) := by decide +kernel
theorem dX5_walkHart_28 : decode cX5_walkHart 28 = .ok (.aload_n 0, 1) := by decide +kernel
theorem dX5_walkHart_29 : decode cX5_walkHart 29 = .ok (.iconst 0, 1) := by decide +kernel
theorem dX5_walkHart_30 : decode cX5_walkHart 30 = .ok (.putfield 87, 3) := by decide +kernel
theorem dX5_walkHart_33 : decode cX5_walkHart 33 = .ok (.aload_n 0, 1) := by decide +kernel
theorem dX5_walkHart_34 : decode cX5_walkHart 34 = .ok (.iconst 0, 1) := by decide +kernel
theorem dX5_walkHart_35 : decode cX5_walkHart 35 = .ok (.putfield 90, 3) := by decide +kernel
theorem dX5_walkHart_38 : decode cX5_walkHart 38 = .ok (.aload_n 0, 1) := by decide +kernel
theorem dX5_walkHart_39 : decode cX5_walkHart 39 = .ok (.getfield 9, 3) := by decide +kernel
theorem dX5_walkHart_42 : decode cX5_walkHart 42 = .ok (.aload_n 0, 1) := by decide +kernel
theorem dX5_walkHart_43 : decode cX5_walkHart 43 = .ok (.getfield 72, 3) := by decide +kernel
theorem dX5_walkHart_46 : decode cX5_walkHart 46 = .ok (.invokevirtual 93, 3) := by decide +kernel
theorem dX5_walkHart_49 : decode cX5_walkHart 49 = .ok (.istore_n 2, 1) := by decide +kernel
theorem dX5_walkHart_50 : decode cX5_walkHart 50 = .ok (.iconst 0, 1) := by decide +kernel
theorem dX5_walkHart_51 : decode cX5_walkHart 51 = .ok (.istore_n 3, 1) := by decide +kernel
theorem dX5_walkHart_52 : decode cX5_walkHart 52 = .ok (.iload_n 3, 1) := by decide +kernel
theorem dX5_walkHart_53 : decode cX5_walkHart 53 = .ok (.iload_n 2, 1) := by decide +kernel
theorem dX5_walkHart_54 : decode cX5_walkHart 54 = .ok (.if_icmp .ge 50, 3) := by decide +kernel
theorem dX5_walkHart_57 : decode cX5_walkHart 57 = .ok (.aload_n 0, 1) := by decide +kernel
theorem dX5_walkHart_58 : decode cX5_walkHart 58 = .ok (.getfield 9, 3) := by decide +kernel
theorem dX5_walkHart_61 : decode cX5_walkHart 61 = .ok (.aload_n 0, 1) := by decide +kernel
theorem dX5_walkHart_62 : decode cX5_walkHart 62 = .ok (.getfield 72, 3) := by decide +kernel
theorem dX5_walkHart_65 : decode cX5_walkHart 65 = .ok (.iload_n 3, 1) := by decide +kernel
theorem dX5_walkHart_66 : decode cX5_walkHart 66 = .ok (.invokevirtual 99, 3) := by decide +kernel
theorem dX5_walkHart_69 : decode cX5_walkHart 69 = .ok (.astore 4, 2) := by decide +kernel
theorem dX5_walkHart_71 : decode cX5_walkHart 71 = .ok (.aload 4, 2) := by decide +kernel
theorem dX5_walkHart_73 : decode cX5_walkHart 73 = .ok (.iconst 0, 1) := by decide +kernel
theorem dX5_walkHart_74 : decode cX5_walkHart 74 = .ok (.iaload, 1) := by decide +kernel
theorem dX5_walkHart_75 : decode cX5_walkHart 75 = .ok (.bipush 10, 2) := by decide +kernel
theorem dX5_walkHart_77 : decode cX5_walkHart 77 = .ok (.if_icmp .ne 15, 3) := by decide +kernel
theorem dX5_walkHart_80 : decode cX5_walkHart 80 = .ok (.iload_n 3, 1) := by decide +kernel
theorem dX5_walkHart_81 : decode cX5_walkHart 81 = .ok (.aload_n 0, 1) := by decide +kernel
theorem dX5_walkHart_82 : decode cX5_walkHart 82 = .ok (.aload 4, 2) := by decide +kernel
theorem dX5_walkHart_84 : decode cX5_walkHart 84 = .ok (.invokevirtual 103, 3) := by decide +kernel
theorem dX5_walkHart_87 : decode cX5_walkHart 87 = .ok (.iadd, 1) := by decide +kernel
theorem dX5_walkHart_88 : decode cX5_walkHart 88 = .ok (.istore_n 3, 1) := by decide +kernel
theorem dX5_walkHart_89 : decode cX5_walkHart 89 = .ok (.goto 9, 3) := by decide +kernel
theorem dX5_walkHart_92 : decode cX5_walkHart 92 = .ok (.aload_n 0, 1) := by decide +kernel
theorem dX5_walkHart_93 : decode cX5_walkHart 93 = .ok (.aload 4, 2) := by decide +kernel
theorem dX5_walkHart_95 : decode cX5_walkHart 95 = .ok (.invokevirtual 107, 3) := by decide +kernel
theorem dX5_walkHart_98 : decode cX5_walkHart 98 = .ok (.iinc 3 1, 3) := by decide +kernel
theorem dX5_walkHart_101 : decode cX5_walkHart 101 = .ok (.goto (-49), 3) := by decide +kernel
theorem dX5_walkHart_104 : decode cX5_walkHart 104 = .ok (.return_, 1) := by decide +kernel
set_option maxRecDepth 20000 in
theorem ggX5_leftOut_X5_carriedBy : GoodIn wsX5_leftOut wsX5_carriedBy := goodIn_r _ [6, 7, 8, 14, 15, 16, 17, 18, 19, 20, 21, 22, 23, 24, 25, 26, 27] (by decide +kernel) (by decide +kernel)
set_option maxRecDepth 20000 in
theorem gX5_leftOut_X5_carriedBy : GoodIn wsX5_leftOut (wsV RX5 111 RX5 yX5_carriedBy wsX5_carriedBy) := goodIn_app (goodIn_of _ (by decide +kernel)) ggX5_leftOut_X5_carriedBy
set_option maxRecDepth 20000 in
theorem ggX5_leftOut_X5_valueOf : GoodIn wsX5_leftOut wsX5_valueOf := goodIn_r _ [12, 13, 8, 14, 15, 16, 17, 18, 19, 20, 21, 22, 23, 24, 25, 26, 27] (by decide +kernel) (by decide +kernel)
set_option maxRecDepth 20000 in
theorem gX5_leftOut_X5_valueOf : GoodIn wsX5_leftOut (wsV RX5 114 RX5 yX5_valueOf wsX5_valueOf) := goodIn_app (goodIn_of _ (by decide +kernel)) ggX5_leftOut_X5_valueOf
theorem dX5_leftOut_0 : decode cX5_leftOut 0 = .ok (.aload_n 0, 1) := by decide +kernel
theorem dX5_leftOut_1 : decode cX5_leftOut 1 = .ok (.dup, 1) := by decide +kernel
theorem dX5_leftOut_2 : decode cX5_leftOut 2 = .ok (.getfield 81, 3) := by decide +kernel
theorem dX5_leftOut_5 : decode cX5_leftOut 5 = .ok (.aload_n 0, 1) := by decide +kernel
theorem dX5_leftOut_6 : decode cX5_leftOut 6 = .ok (.aload_n 1, 1) := by decide +kernel
theorem dX5_leftOut_7 : decode cX5_leftOut 7 = .ok (.iconst 1, 1) := by decide +kernel
theorem dX5_leftOut_8 : decode cX5_leftOut 8 = .ok (.iaload, 1) := by decide +kernel
theorem dX5_leftOut_9 : decode cX5_leftOut 9 = .ok (.invokevirtual 111, 3) := by decide +kernel
theorem dX5_leftOut_12 : decode cX5_leftOut 12 = .ok (.ior, 1) := by decide +kernel
theorem dX5_leftOut_13 : decode cX5_leftOut 13 = .ok (.putfield 81, 3) := by decide +kernel
theorem dX5_leftOut_16 : decode cX5_leftOut 16 = .ok (.aload_n 0, 1) := by decide +kernel
theorem dX5_leftOut_17 : decode cX5_leftOut 17 = .ok (.aload_n 1, 1) := by decide +kernel
theorem dX5_leftOut_18 : decode cX5_leftOut 18 = .ok (.iconst 1, 1) := by decide +kernel
theorem dX5_leftOut_19 : decode cX5_leftOut 19 = .ok (.iaload, 1) := by decide +kernel
theorem dX5_leftOut_20 : decode cX5_leftOut 20 = .ok (.invokevirtual 114, 3) := by decide +kernel
theorem dX5_leftOut_23 : decode cX5_leftOut 23 = .ok (.ifCond .ne 9, 3) := by decide +kernel
theorem dX5_leftOut_26 : decode cX5_leftOut 26 = .ok (.aload_n 1, 1) := by decide +kernel
theorem dX5_leftOut_27 : decode cX5_leftOut 27 = .ok (.iconst 2, 1) := by decide +kernel
theorem dX5_leftOut_28 : decode cX5_leftOut 28 = .ok (.iaload, 1) := by decide +kernel
theorem dX5_leftOut_29 : decode cX5_leftOut 29 = .ok (.goto 4, 3) := by decide +kernel
theorem dX5_leftOut_32 : decode cX5_leftOut 32 = .ok (.iconst 0, 1) := by decide +kernel
theorem dX5_leftOut_33 : decode cX5_leftOut 33 = .ok (.ireturn, 1) := by decide +kernel
set_option maxRecDepth 20000 in
theorem ggX5_step_X5_fence : GoodIn wsX5_step wsX5_fence := goodIn_r _ [6, 7, 8, 9, 10, 11, 69, 70, 71, 72, 73, 74, 75, 76, 77, 78, 79, 80, 81, 82, 83, 84, 85, 86, 87, 88, 89, 90, 91, 92, 93, 94, 95, 96] (by decide +kernel) (by decide +kernel)
set_option maxRecDepth 20000 in
theorem gX5_step_X5_fence : GoodIn wsX5_step (wsV RX5 117 RX5 yX5_fence wsX5_fence) := goodIn_app (goodIn_of _ (by decide +kernel)) ggX5_step_X5_fence
set_option maxRecDepth 20000 in
theorem ggX5_step_X5_setRegister : GoodIn wsX5_step wsX5_setRegister := goodIn_r _ [15, 16, 17, 18, 69, 70, 71, 72, 73, 74, 75, 76, 77, 78, 79, 80, 81, 82] (by decide +kernel) (by decide +kernel)
set_option maxRecDepth 20000 in
theorem gX5_step_X5_setRegister : GoodIn wsX5_step (wsV RX5 121 RX5 yX5_setRegister wsX5_setRegister) := goodIn_app (goodIn_of _ (by decide +kernel)) ggX5_step_X5_setRegister
set_option maxRecDepth 20000 in
theorem ggX5_step_X5_valueOf : GoodIn wsX5_step wsX5_valueOf := goodIn_r _ [22, 16, 17, 69, 70, 71, 72, 73, 74, 75, 76, 77, 78, 79, 80, 81, 82] (by decide +kernel) (by decide +kernel)
set_option maxRecDepth 20000 in
theorem gX5_step_X5_valueOf : GoodIn wsX5_step (wsV RX5 114 RX5 yX5_valueOf wsX5_valueOf) := goodIn_app (goodIn_of _ (by decide +kernel)) ggX5_step_X5_valueOf
set_option maxRecDepth 20000 in
theorem ggX5_step_X5_carriedBy : GoodIn wsX5_step wsX5_carriedBy := goodIn_r _ [26, 18, 17, 69, 70, 71, 72, 73, 74, 75, 76, 77, 78, 79, 80, 81, 82] (by decide +kernel) (by decide +kernel)
set_option maxRecDepth 20000 in
theorem gX5_step_X5_carriedBy : GoodIn wsX5_step (wsV RX5 111 RX5 yX5_carriedBy wsX5_carriedBy) := goodIn_app (goodIn_of _ (by decide +kernel)) ggX5_step_X5_carriedBy
set_option maxRecDepth 20000 in
theorem ggX5_step_X5_fails : GoodIn wsX5_step wsX5_fails := goodIn_r _ [30, 1, 9, 31, 32, 33, 34, 5, 35, 19, 20, 21, 22, 16, 17, 36, 37, 38, 39, 40, 41, 42, 43, 44, 69, 70, 71, 72, 73, 74, 75, 76, 77, 78, 79, 80, 81, 82, 83, 84, 85, 86, 87, 88, 89, 90, 91, 92, 93, 94, 95, 96, 97, 98, 99, 100] (by decide +kernel) (by decide +kernel)
set_option maxRecDepth 20000 in
theorem gX5_step_X5_fails : GoodIn wsX5_step (wsV RX5 125 RX5 yX5_fails wsX5_fails) := goodIn_app (goodIn_of _ (by decide +kernel)) ggX5_step_X5_fails
set_option maxRecDepth 20000 in
theorem ggX5_step_X5_makeAccess : GoodIn wsX5_step wsX5_makeAccess := goodIn_r _ [48, 8, 9, 17, 1, 31, 49, 32, 33, 34, 5, 35, 19, 20, 21, 22, 16, 50, 51, 52, 53, 54, 23, 24, 25, 26, 18, 36, 37, 38, 39, 40, 41, 42, 43, 44, 55, 56, 57, 58, 59, 60, 61, 62, 7, 63, 64, 65, 66, 10, 11, 67, 68, 12, 13, 14, 15, 69, 70, 71, 72, 73, 74, 75, 76, 77, 78, 79, 80, 81, 82, 83, 84, 85, 86, 87, 88, 89, 90, 91, 92, 93, 94, 95, 96, 97, 98, 99, 100] (by decide +kernel) (by decide +kernel)
set_option maxRecDepth 20000 in
theorem gX5_step_X5_makeAccess : GoodIn wsX5_step (wsV RX5 129 RX5 yX5_makeAccess wsX5_makeAccess) := goodIn_app (goodIn_of _ (by decide +kernel)) ggX5_step_X5_makeAccess
theorem dX5_step_0 : decode cX5_step 0 = .ok (.aload_n 1, 1) := by decide +kernel
theorem dX5_step_1 : decode cX5_step 1 = .ok (.iconst 0, 1) := by decide +kernel
theorem dX5_step_2 : decode cX5_step 2 = .ok (.iaload, 1) := by decide +kernel
theorem dX5_step_3 : decode cX5_step 3 = .ok (.tableswitch 173 5 9 #[140, 33, 46, 60, 100], 33) := by decide +kernel
theorem dX5_step_36 : decode cX5_step 36 = .ok (.aload_n 0, 1) := by decide +kernel
theorem dX5_step_37 : decode cX5_step 37 = .ok (.aload_n 1, 1) := by decide +kernel
theorem dX5_step_38 : decode cX5_step 38 = .ok (.iconst 1, 1) := by decide +kernel
theorem dX5_step_39 : decode cX5_step 39 = .ok (.iaload, 1) := by decide +kernel
theorem dX5_step_40 : decode cX5_step 40 = .ok (.aload_n 1, 1) := by decide +kernel
theorem dX5_step_41 : decode cX5_step 41 = .ok (.iconst 2, 1) := by decide +kernel
theorem dX5_step_42 : decode cX5_step 42 = .ok (.iaload, 1) := by decide +kernel
theorem dX5_step_43 : decode cX5_step 43 = .ok (.invokevirtual 117, 3) := by decide +kernel
theorem dX5_step_46 : decode cX5_step 46 = .ok (.goto 135, 3) := by decide +kernel
theorem dX5_step_49 : decode cX5_step 49 = .ok (.aload_n 0, 1) := by decide +kernel
theorem dX5_step_50 : decode cX5_step 50 = .ok (.aload_n 1, 1) := by decide +kernel
theorem dX5_step_51 : decode cX5_step 51 = .ok (.iconst 1, 1) := by decide +kernel
theorem dX5_step_52 : decode cX5_step 52 = .ok (.iaload, 1) := by decide +kernel
theorem dX5_step_53 : decode cX5_step 53 = .ok (.aload_n 1, 1) := by decide +kernel
theorem dX5_step_54 : decode cX5_step 54 = .ok (.iconst 2, 1) := by decide +kernel
theorem dX5_step_55 : decode cX5_step 55 = .ok (.iaload, 1) := by decide +kernel
theorem dX5_step_56 : decode cX5_step 56 = .ok (.iconst 0, 1) := by decide +kernel
theorem dX5_step_57 : decode cX5_step 57 = .ok (.invokevirtual 121, 3) := by decide +kernel
theorem dX5_step_60 : decode cX5_step 60 = .ok (.goto 121, 3) := by decide +kernel
theorem dX5_step_63 : decode cX5_step 63 = .ok (.aload_n 0, 1) := by decide +kernel
theorem dX5_step_64 : decode cX5_step 64 = .ok (.aload_n 1, 1) := by decide +kernel
theorem dX5_step_65 : decode cX5_step 65 = .ok (.iconst 1, 1) := by decide +kernel
theorem dX5_step_66 : decode cX5_step 66 = .ok (.iaload, 1) := by decide +kernel
theorem dX5_step_67 : decode cX5_step 67 = .ok (.aload_n 0, 1) := by decide +kernel
theorem dX5_step_68 : decode cX5_step 68 = .ok (.aload_n 1, 1) := by decide +kernel
theorem dX5_step_69 : decode cX5_step 69 = .ok (.iconst 2, 1) := by decide +kernel
theorem dX5_step_70 : decode cX5_step 70 = .ok (.iaload, 1) := by decide +kernel
theorem dX5_step_71 : decode cX5_step 71 = .ok (.invokevirtual 114, 3) := by decide +kernel
theorem dX5_step_74 : decode cX5_step 74 = .ok (.aload_n 0, 1) := by decide +kernel
theorem dX5_step_75 : decode cX5_step 75 = .ok (.aload_n 1, 1) := by decide +kernel
theorem dX5_step_76 : decode cX5_step 76 = .ok (.iconst 3, 1) := by decide +kernel
theorem dX5_step_77 : decode cX5_step 77 = .ok (.iaload, 1) := by decide +kernel
theorem dX5_step_78 : decode cX5_step 78 = .ok (.invokevirtual 114, 3) := by decide +kernel
theorem dX5_step_81 : decode cX5_step 81 = .ok (.iadd, 1) := by decide +kernel
theorem dX5_step_82 : decode cX5_step 82 = .ok (.aload_n 0, 1) := by decide +kernel
theorem dX5_step_83 : decode cX5_step 83 = .ok (.aload_n 1, 1) := by decide +kernel
theorem dX5_step_84 : decode cX5_step 84 = .ok (.iconst 2, 1) := by decide +kernel
theorem dX5_step_85 : decode cX5_step 85 = .ok (.iaload, 1) := by decide +kernel
theorem dX5_step_86 : decode cX5_step 86 = .ok (.invokevirtual 111, 3) := by decide +kernel
theorem dX5_step_89 : decode cX5_step 89 = .ok (.aload_n 0, 1) := by decide +kernel
theorem dX5_step_90 : decode cX5_step 90 = .ok (.aload_n 1, 1) := by decide +kernel
theorem dX5_step_91 : decode cX5_step 91 = .ok (.iconst 3, 1) := by decide +kernel
theorem dX5_step_92 : decode cX5_step 92 = .ok (.iaload, 1) := by decide +kernel
theorem dX5_step_93 : decode cX5_step 93 = .ok (.invokevirtual 111, 3) := by decide +kernel
theorem dX5_step_96 : decode cX5_step 96 = .ok (.ior, 1) := by decide +kernel
theorem dX5_step_97 : decode cX5_step 97 = .ok (.invokevirtual 121, 3) := by decide +kernel
theorem dX5_step_100 : decode cX5_step 100 = .ok (.goto 81, 3) := by decide +kernel
theorem dX5_step_103 : decode cX5_step 103 = .ok (.aload_n 0, 1) := by decide +kernel
theorem dX5_step_104 : decode cX5_step 104 = .ok (.aload_n 1, 1) := by decide +kernel
theorem dX5_step_105 : decode cX5_step 105 = .ok (.iconst 1, 1) := by decide +kernel
theorem dX5_step_106 : decode cX5_step 106 = .ok (.iaload, 1) := by decide +kernel
theorem dX5_step_107 : decode cX5_step 107 = .ok (.aload_n 0, 1) := by decide +kernel
theorem dX5_step_108 : decode cX5_step 108 = .ok (.aload_n 1, 1) := by decide +kernel
theorem dX5_step_109 : decode cX5_step 109 = .ok (.iconst 2, 1) := by decide +kernel
theorem dX5_step_110 : decode cX5_step 110 = .ok (.iaload, 1) := by decide +kernel
theorem dX5_step_111 : decode cX5_step 111 = .ok (.invokevirtual 114, 3) := by decide +kernel
theorem dX5_step_114 : decode cX5_step 114 = .ok (.aload_n 0, 1) := by decide +kernel
theorem dX5_step_115 : decode cX5_step 115 = .ok (.aload_n 1, 1) := by decide +kernel
theorem dX5_step_116 : decode cX5_step 116 = .ok (.iconst 3, 1) := by decide +kernel
theorem dX5_step_117 : decode cX5_step 117 = .ok (.iaload, 1) := by decide +kernel
theorem dX5_step_118 : decode cX5_step 118 = .ok (.invokevirtual 114, 3) := by decide +kernel
theorem dX5_step_121 : decode cX5_step 121 = .ok (.ixor, 1) := by decide +kernel
theorem dX5_step_122 : decode cX5_step 122 = .ok (.aload_n 0, 1) := by decide +kernel
theorem dX5_step_123 : decode cX5_step 123 = .ok (.aload_n 1, 1) := by decide +kernel
theorem dX5_step_124 : decode cX5_step 124 = .ok (.iconst 2, 1) := by decide +kernel
theorem dX5_step_125 : decode cX5_step 125 = .ok (.iaload, 1) := by decide +kernel
theorem dX5_step_126 : decode cX5_step 126 = .ok (.invokevirtual 111, 3) := by decide +kernel
theorem dX5_step_129 : decode cX5_step 129 = .ok (.aload_n 0, 1) := by decide +kernel
theorem dX5_step_130 : decode cX5_step 130 = .ok (.aload_n 1, 1) := by decide +kernel
theorem dX5_step_131 : decode cX5_step 131 = .ok (.iconst 3, 1) := by decide +kernel
theorem dX5_step_132 : decode cX5_step 132 = .ok (.iaload, 1) := by decide +kernel
theorem dX5_step_133 : decode cX5_step 133 = .ok (.invokevirtual 111, 3) := by decide +kernel
theorem dX5_step_136 : decode cX5_step 136 = .ok (.ior, 1) := by decide +kernel
theorem dX5_step_137 : decode cX5_step 137 = .ok (.invokevirtual 121, 3) := by decide +kernel
theorem dX5_step_140 : decode cX5_step 140 = .ok (.goto 41, 3) := by decide +kernel
theorem dX5_step_143 : decode cX5_step 143 = .ok (.aload_n 0, 1) := by decide +kernel
theorem dX5_step_144 : decode cX5_step 144 = .ok (.aload_n 1, 1) := by decide +kernel
theorem dX5_step_145 : decode cX5_step 145 = .ok (.invokevirtual 125, 3) := by decide +kernel
theorem dX5_step_148 : decode cX5_step 148 = .ok (.ifCond .eq 15, 3) := by decide +kernel
theorem dX5_step_151 : decode cX5_step 151 = .ok (.aload_n 0, 1) := by decide +kernel
theorem dX5_step_152 : decode cX5_step 152 = .ok (.aload_n 1, 1) := by decide +kernel
theorem dX5_step_153 : decode cX5_step 153 = .ok (.iconst 1, 1) := by decide +kernel
theorem dX5_step_154 : decode cX5_step 154 = .ok (.iaload, 1) := by decide +kernel
theorem dX5_step_155 : decode cX5_step 155 = .ok (.iconst 1, 1) := by decide +kernel
theorem dX5_step_156 : decode cX5_step 156 = .ok (.iconst 0, 1) := by decide +kernel
theorem dX5_step_157 : decode cX5_step 157 = .ok (.invokevirtual 121, 3) := by decide +kernel
theorem dX5_step_160 : decode cX5_step 160 = .ok (.goto 8, 3) := by decide +kernel
theorem dX5_step_163 : decode cX5_step 163 = .ok (.aload_n 0, 1) := by decide +kernel
theorem dX5_step_164 : decode cX5_step 164 = .ok (.aload_n 1, 1) := by decide +kernel
theorem dX5_step_165 : decode cX5_step 165 = .ok (.invokevirtual 129, 3) := by decide +kernel
theorem dX5_step_168 : decode cX5_step 168 = .ok (.aload_n 0, 1) := by decide +kernel
theorem dX5_step_169 : decode cX5_step 169 = .ok (.iconst (-1), 1) := by decide +kernel
theorem dX5_step_170 : decode cX5_step 170 = .ok (.putfield 78, 3) := by decide +kernel
theorem dX5_step_173 : decode cX5_step 173 = .ok (.goto 8, 3) := by decide +kernel
theorem dX5_step_176 : decode cX5_step 176 = .ok (.aload_n 0, 1) := by decide +kernel
theorem dX5_step_177 : decode cX5_step 177 = .ok (.aload_n 1, 1) := by decide +kernel
theorem dX5_step_178 : decode cX5_step 178 = .ok (.invokevirtual 129, 3) := by decide +kernel
theorem dX5_step_181 : decode cX5_step 181 = .ok (.return_, 1) := by decide +kernel
theorem dX5_fence_0 : decode cX5_fence 0 = .ok (.iconst 0, 1) := by decide +kernel
theorem dX5_fence_1 : decode cX5_fence 1 = .ok (.istore_n 3, 1) := by decide +kernel
theorem dX5_fence_2 : decode cX5_fence 2 = .ok (.aload_n 0, 1) := by decide +kernel
theorem dX5_fence_3 : decode cX5_fence 3 = .ok (.getfield 75, 3) := by decide +kernel
theorem dX5_fence_6 : decode cX5_fence 6 = .ok (.istore 4, 2) := by decide +kernel
theorem dX5_fence_8 : decode cX5_fence 8 = .ok (.iload 4, 2) := by decide +kernel
theorem dX5_fence_10 : decode cX5_fence 10 = .ok (.aload_n 0, 1) := by decide +kernel
theorem dX5_fence_11 : decode cX5_fence 11 = .ok (.getfield 33, 3) := by decide +kernel
theorem dX5_fence_14 : decode cX5_fence 14 = .ok (.if_icmp .ge 81, 3) := by decide +kernel
theorem dX5_fence_17 : decode cX5_fence 17 = .ok (.aload_n 0, 1) := by decide +kernel
theorem dX5_fence_18 : decode cX5_fence 18 = .ok (.getfield 21, 3) := by decide +kernel
theorem dX5_fence_21 : decode cX5_fence 21 = .ok (.iload 4, 2) := by decide +kernel
theorem dX5_fence_23 : decode cX5_fence 23 = .ok (.aaload, 1) := by decide +kernel
theorem dX5_fence_24 : decode cX5_fence 24 = .ok (.astore 5, 2) := by decide +kernel
theorem dX5_fence_26 : decode cX5_fence 26 = .ok (.aload 5, 2) := by decide +kernel
theorem dX5_fence_28 : decode cX5_fence 28 = .ok (.getfield 55, 3) := by decide +kernel
theorem dX5_fence_31 : decode cX5_fence 31 = .ok (.ifCond .eq 13, 3) := by decide +kernel
theorem dX5_fence_34 : decode cX5_fence 34 = .ok (.iload_n 1, 1) := by decide +kernel
theorem dX5_fence_35 : decode cX5_fence 35 = .ok (.iconst 1, 1) := by decide +kernel
theorem dX5_fence_36 : decode cX5_fence 36 = .ok (.iand, 1) := by decide +kernel
theorem dX5_fence_37 : decode cX5_fence 37 = .ok (.ifCond .eq 7, 3) := by decide +kernel
theorem dX5_fence_40 : decode cX5_fence 40 = .ok (.iconst 1, 1) := by decide +kernel
theorem dX5_fence_41 : decode cX5_fence 41 = .ok (.goto 4, 3) := by decide +kernel
theorem dX5_fence_44 : decode cX5_fence 44 = .ok (.iconst 0, 1) := by decide +kernel
theorem dX5_fence_45 : decode cX5_fence 45 = .ok (.istore 6, 2) := by decide +kernel
theorem dX5_fence_47 : decode cX5_fence 47 = .ok (.aload 5, 2) := by decide +kernel
theorem dX5_fence_49 : decode cX5_fence 49 = .ok (.getfield 66, 3) := by decide +kernel
theorem dX5_fence_52 : decode cX5_fence 52 = .ok (.ifCond .eq 13, 3) := by decide +kernel
theorem dX5_fence_55 : decode cX5_fence 55 = .ok (.iload_n 1, 1) := by decide +kernel
theorem dX5_fence_56 : decode cX5_fence 56 = .ok (.iconst 2, 1) := by decide +kernel
theorem dX5_fence_57 : decode cX5_fence 57 = .ok (.iand, 1) := by decide +kernel
theorem dX5_fence_58 : decode cX5_fence 58 = .ok (.ifCond .eq 7, 3) := by decide +kernel
theorem dX5_fence_61 : decode cX5_fence 61 = .ok (.iconst 1, 1) := by decide +kernel
theorem dX5_fence_62 : decode cX5_fence 62 = .ok (.goto 4, 3) := by decide +kernel
theorem dX5_fence_65 : decode cX5_fence 65 = .ok (.iconst 0, 1) := by decide +kernel
theorem dX5_fence_66 : decode cX5_fence 66 = .ok (.istore 7, 2) := by decide +kernel
theorem dX5_fence_68 : decode cX5_fence 68 = .ok (.iload_n 3, 1) := by decide +kernel
theorem dX5_fence_69 : decode cX5_fence 69 = .ok (.iload 6, 2) := by decide +kernel
theorem dX5_fence_71 : decode cX5_fence 71 = .ok (.ifCond .ne 8, 3) := by decide +kernel
theorem dX5_fence_74 : decode cX5_fence 74 = .ok (.iload 7, 2) := by decide +kernel
theorem dX5_fence_76 : decode cX5_fence 76 = .ok (.ifCond .eq 10, 3) := by decide +kernel
theorem dX5_fence_79 : decode cX5_fence 79 = .ok (.iconst 1, 1) := by decide +kernel
theorem dX5_fence_80 : decode cX5_fence 80 = .ok (.iload 4, 2) := by decide +kernel
theorem dX5_fence_82 : decode cX5_fence 82 = .ok (.ishl, 1) := by decide +kernel
theorem dX5_fence_83 : decode cX5_fence 83 = .ok (.goto 4, 3) := by decide +kernel
theorem dX5_fence_86 : decode cX5_fence 86 = .ok (.iconst 0, 1) := by decide +kernel
theorem dX5_fence_87 : decode cX5_fence 87 = .ok (.ior, 1) := by decide +kernel
theorem dX5_fence_88 : decode cX5_fence 88 = .ok (.istore_n 3, 1) := by decide +kernel
theorem dX5_fence_89 : decode cX5_fence 89 = .ok (.iinc 4 1, 3) := by decide +kernel
theorem dX5_fence_92 : decode cX5_fence 92 = .ok (.goto (-84), 3) := by decide +kernel
theorem dX5_fence_95 : decode cX5_fence 95 = .ok (.aload_n 0, 1) := by decide +kernel
theorem dX5_fence_96 : decode cX5_fence 96 = .ok (.dup, 1) := by decide +kernel
theorem dX5_fence_97 : decode cX5_fence 97 = .ok (.getfield 87, 3) := by decide +kernel
theorem dX5_fence_100 : decode cX5_fence 100 = .ok (.iload_n 2, 1) := by decide +kernel
theorem dX5_fence_101 : decode cX5_fence 101 = .ok (.iconst 1, 1) := by decide +kernel
theorem dX5_fence_102 : decode cX5_fence 102 = .ok (.iand, 1) := by decide +kernel
theorem dX5_fence_103 : decode cX5_fence 103 = .ok (.ifCond .eq 7, 3) := by decide +kernel
theorem dX5_fence_106 : decode cX5_fence 106 = .ok (.iload_n 3, 1) := by decide +kernel
theorem dX5_fence_107 : decode cX5_fence 107 = .ok (.goto 4, 3) := by decide +kernel
theorem dX5_fence_110 : decode cX5_fence 110 = .ok (.iconst 0, 1) := by decide +kernel
theorem dX5_fence_111 : decode cX5_fence 111 = .ok (.ior, 1) := by decide +kernel
theorem dX5_fence_112 : decode cX5_fence 112 = .ok (.putfield 87, 3) := by decide +kernel
theorem dX5_fence_115 : decode cX5_fence 115 = .ok (.aload_n 0, 1) := by decide +kernel
theorem dX5_fence_116 : decode cX5_fence 116 = .ok (.dup, 1) := by decide +kernel
theorem dX5_fence_117 : decode cX5_fence 117 = .ok (.getfield 90, 3) := by decide +kernel
theorem dX5_fence_120 : decode cX5_fence 120 = .ok (.iload_n 2, 1) := by decide +kernel
theorem dX5_fence_121 : decode cX5_fence 121 = .ok (.iconst 2, 1) := by decide +kernel
theorem dX5_fence_122 : decode cX5_fence 122 = .ok (.iand, 1) := by decide +kernel
theorem dX5_fence_123 : decode cX5_fence 123 = .ok (.ifCond .eq 7, 3) := by decide +kernel
theorem dX5_fence_126 : decode cX5_fence 126 = .ok (.iload_n 3, 1) := by decide +kernel
theorem dX5_fence_127 : decode cX5_fence 127 = .ok (.goto 4, 3) := by decide +kernel
theorem dX5_fence_130 : decode cX5_fence 130 = .ok (.iconst 0, 1) := by decide +kernel
theorem dX5_fence_131 : decode cX5_fence 131 = .ok (.ior, 1) := by decide +kernel
theorem dX5_fence_132 : decode cX5_fence 132 = .ok (.putfield 90, 3) := by decide +kernel
theorem dX5_fence_135 : decode cX5_fence 135 = .ok (.return_, 1) := by decide +kernel
set_option maxRecDepth 20000 in
theorem ggX5_fails_X5_place : GoodIn wsX5_fails wsX5_place := goodIn_r _ [8, 9, 10, 11, 7, 12, 13, 14, 24, 25, 26, 27, 28, 29, 30, 31, 32, 33, 34, 35, 36, 37] (by decide +kernel) (by decide +kernel)
set_option maxRecDepth 20000 in
theorem gX5_fails_X5_place : GoodIn wsX5_fails (wsV RX5 132 RX5 yX5_place wsX5_place) := goodIn_app (goodIn_of _ (by decide +kernel)) ggX5_fails_X5_place
set_option maxRecDepth 20000 in
theorem ggX5_fails_X1_choose : GoodIn wsX5_fails wsX1_choose := goodIn_r _ [19, 20, 21, 22, 23, 52, 53, 54, 55] (by decide +kernel) (by decide +kernel)
set_option maxRecDepth 20000 in
theorem gX5_fails_X1_choose : GoodIn wsX5_fails (wsV RX5 136 RX1 yX1_choose wsX1_choose) := goodIn_app (goodIn_of _ (by decide +kernel)) ggX5_fails_X1_choose
theorem dX5_fails_0 : decode cX5_fails 0 = .ok (.aload_n 0, 1) := by decide +kernel
theorem dX5_fails_1 : decode cX5_fails 1 = .ok (.getfield 78, 3) := by decide +kernel
theorem dX5_fails_4 : decode cX5_fails 4 = .ok (.iconst (-1), 1) := by decide +kernel
theorem dX5_fails_5 : decode cX5_fails 5 = .ok (.if_icmp .eq 32, 3) := by decide +kernel
theorem dX5_fails_8 : decode cX5_fails 8 = .ok (.aload_n 0, 1) := by decide +kernel
theorem dX5_fails_9 : decode cX5_fails 9 = .ok (.getfield 21, 3) := by decide +kernel
theorem dX5_fails_12 : decode cX5_fails 12 = .ok (.aload_n 0, 1) := by decide +kernel
theorem dX5_fails_13 : decode cX5_fails 13 = .ok (.getfield 78, 3) := by decide +kernel
theorem dX5_fails_16 : decode cX5_fails 16 = .ok (.aaload, 1) := by decide +kernel
theorem dX5_fails_17 : decode cX5_fails 17 = .ok (.getfield 69, 3) := by decide +kernel
theorem dX5_fails_20 : decode cX5_fails 20 = .ok (.aload_n 0, 1) := by decide +kernel
theorem dX5_fails_21 : decode cX5_fails 21 = .ok (.aload_n 1, 1) := by decide +kernel
theorem dX5_fails_22 : decode cX5_fails 22 = .ok (.iconst 3, 1) := by decide +kernel
theorem dX5_fails_23 : decode cX5_fails 23 = .ok (.iaload, 1) := by decide +kernel
theorem dX5_fails_24 : decode cX5_fails 24 = .ok (.aload_n 1, 1) := by decide +kernel
theorem dX5_fails_25 : decode cX5_fails 25 = .ok (.iconst 4, 1) := by decide +kernel
theorem dX5_fails_26 : decode cX5_fails 26 = .ok (.iaload, 1) := by decide +kernel
theorem dX5_fails_27 : decode cX5_fails 27 = .ok (.invokevirtual 132, 3) := by decide +kernel
theorem dX5_fails_30 : decode cX5_fails 30 = .ok (.if_icmp .ne 7, 3) := by decide +kernel
theorem dX5_fails_33 : decode cX5_fails 33 = .ok (.iconst 1, 1) := by decide +kernel
theorem dX5_fails_34 : decode cX5_fails 34 = .ok (.goto 4, 3) := by decide +kernel
theorem dX5_fails_37 : decode cX5_fails 37 = .ok (.iconst 0, 1) := by decide +kernel
theorem dX5_fails_38 : decode cX5_fails 38 = .ok (.istore_n 2, 1) := by decide +kernel
theorem dX5_fails_39 : decode cX5_fails 39 = .ok (.iload_n 2, 1) := by decide +kernel
theorem dX5_fails_40 : decode cX5_fails 40 = .ok (.ifCond .eq 15, 3) := by decide +kernel
theorem dX5_fails_43 : decode cX5_fails 43 = .ok (.aload_n 0, 1) := by decide +kernel
theorem dX5_fails_44 : decode cX5_fails 44 = .ok (.getfield 15, 3) := by decide +kernel
theorem dX5_fails_47 : decode cX5_fails 47 = .ok (.iconst 2, 1) := by decide +kernel
theorem dX5_fails_48 : decode cX5_fails 48 = .ok (.invokevirtual 136, 3) := by decide +kernel
theorem dX5_fails_51 : decode cX5_fails 51 = .ok (.iconst 1, 1) := by decide +kernel
theorem dX5_fails_52 : decode cX5_fails 52 = .ok (.if_icmp .ne 7, 3) := by decide +kernel
theorem dX5_fails_55 : decode cX5_fails 55 = .ok (.iconst 1, 1) := by decide +kernel
theorem dX5_fails_56 : decode cX5_fails 56 = .ok (.goto 4, 3) := by decide +kernel
theorem dX5_fails_59 : decode cX5_fails 59 = .ok (.iconst 0, 1) := by decide +kernel
theorem dX5_fails_60 : decode cX5_fails 60 = .ok (.ireturn, 1) := by decide +kernel
set_option maxRecDepth 20000 in
theorem ggX5_makeAccess_X5_place : GoodIn wsX5_makeAccess wsX5_place := goodIn_r _ [11, 12, 13, 14, 10, 15, 16, 3, 57, 58, 59, 60, 61, 62, 63, 64, 65, 66, 67, 68, 69, 70] (by decide +kernel) (by decide +kernel)
set_option maxRecDepth 20000 in
theorem gX5_makeAccess_X5_place : GoodIn wsX5_makeAccess (wsV RX5 132 RX5 yX5_place wsX5_place) := goodIn_app (goodIn_of _ (by decide +kernel)) ggX5_makeAccess_X5_place
set_option maxRecDepth 20000 in
theorem ggX5_makeAccess_X6_isReader : GoodIn wsX5_makeAccess wsX6_isReader := goodIn_r _ [19] (by decide +kernel) (by decide +kernel)
set_option maxRecDepth 20000 in
theorem gX5_makeAccess_X6_isReader_n148 : GoodIn wsX5_makeAccess (wsX6_isReader) := ggX5_makeAccess_X6_isReader
set_option maxRecDepth 20000 in
theorem ggX5_makeAccess_X6_isWriter : GoodIn wsX5_makeAccess wsX6_isWriter := goodIn_r _ [21] (by decide +kernel) (by decide +kernel)
set_option maxRecDepth 20000 in
theorem gX5_makeAccess_X6_isWriter_n151 : GoodIn wsX5_makeAccess (wsX6_isWriter) := ggX5_makeAccess_X6_isWriter
set_option maxRecDepth 20000 in
theorem ggX5_makeAccess_X5_carriedBy : GoodIn wsX5_makeAccess wsX5_carriedBy := goodIn_r _ [25, 26, 3, 57, 58, 59, 60, 61, 62, 63, 64, 65, 66, 67, 68, 69, 70] (by decide +kernel) (by decide +kernel)
set_option maxRecDepth 20000 in
theorem gX5_makeAccess_X5_carriedBy : GoodIn wsX5_makeAccess (wsV RX5 111 RX5 yX5_carriedBy wsX5_carriedBy) := goodIn_app (goodIn_of _ (by decide +kernel)) ggX5_makeAccess_X5_carriedBy
set_option maxRecDepth 20000 in
theorem ggX5_makeAccess_X1_choose : GoodIn wsX5_makeAccess wsX1_choose := goodIn_r _ [31, 32, 33, 34, 35, 85, 86, 87, 88] (by decide +kernel) (by decide +kernel)
set_option maxRecDepth 20000 in
theorem gX5_makeAccess_X1_choose : GoodIn wsX5_makeAccess (wsV RX5 136 RX1 yX1_choose wsX1_choose) := goodIn_app (goodIn_of _ (by decide +kernel)) ggX5_makeAccess_X1_choose
set_option maxRecDepth 20000 in
theorem ggX5_makeAccess_X5_written : GoodIn wsX5_makeAccess wsX5_written := goodIn_r _ [39, 12, 13, 14, 10, 15, 16, 3, 71, 72, 73, 74, 75, 76, 77, 78, 79, 80, 81, 82, 83, 84, 57, 58, 59, 60, 61, 62, 63, 64, 65, 66, 67, 68, 69, 70] (by decide +kernel) (by decide +kernel)
set_option maxRecDepth 20000 in
theorem gX5_makeAccess_X5_written : GoodIn wsX5_makeAccess (wsV RX5 161 RX5 yX5_written wsX5_written) := goodIn_app (goodIn_of _ (by decide +kernel)) ggX5_makeAccess_X5_written
set_option maxRecDepth 20000 in
theorem ggX5_makeAccess_X5_relate : GoodIn wsX5_makeAccess wsX5_relate := goodIn_r _ [43, 1, 44, 2, 45, 46, 47, 10, 48, 49, 50, 51, 6, 52, 71, 72, 73, 74, 75, 76, 77, 78, 79, 80, 81, 82, 83, 84, 57, 58, 59, 60, 61, 62, 63, 64, 65, 66, 67, 68, 69, 70] (by decide +kernel) (by decide +kernel)
set_option maxRecDepth 20000 in
theorem gX5_makeAccess_X5_relate : GoodIn wsX5_makeAccess (wsV RX5 165 RX5 yX5_relate wsX5_relate) := goodIn_app (goodIn_of _ (by decide +kernel)) ggX5_makeAccess_X5_relate
set_option maxRecDepth 20000 in
theorem ggX5_makeAccess_X5_setRegister : GoodIn wsX5_makeAccess wsX5_setRegister := goodIn_r _ [56, 16, 3, 26, 57, 58, 59, 60, 61, 62, 63, 64, 65, 66, 67, 68, 69, 70] (by decide +kernel) (by decide +kernel)
set_option maxRecDepth 20000 in
theorem gX5_makeAccess_X5_setRegister : GoodIn wsX5_makeAccess (wsV RX5 121 RX5 yX5_setRegister wsX5_setRegister) := goodIn_app (goodIn_of _ (by decide +kernel)) ggX5_makeAccess_X5_setRegister
theorem dX5_makeAccess_0 : decode cX5_makeAccess 0 = .ok (.aload_n 0, 1) := by decide +kernel
theorem dX5_makeAccess_1 : decode cX5_makeAccess 1 = .ok (.getfield 33, 3) := by decide +kernel
theorem dX5_makeAccess_4 : decode cX5_makeAccess 4 = .ok (.bipush 6, 2) := by decide +kernel
theorem dX5_makeAccess_6 : decode cX5_makeAccess 6 = .ok (.if_icmp .lt 4, 3) := by decide +kernel
theorem dX5_makeAccess_9 : decode cX5_makeAccess 9 = .ok (.return_, 1) := by decide +kernel
theorem dX5_makeAccess_10 : decode cX5_makeAccess 10 = .ok (.aload_n 1, 1) := by decide +kernel
theorem dX5_makeAccess_11 : decode cX5_makeAccess 11 = .ok (.iconst 0, 1) := by decide +kernel
theorem dX5_makeAccess_12 : decode cX5_makeAccess 12 = .ok (.iaload, 1) := by decide +kernel
theorem dX5_makeAccess_13 : decode cX5_makeAccess 13 = .ok (.istore_n 2, 1) := by decide +kernel
theorem dX5_makeAccess_14 : decode cX5_makeAccess 14 = .ok (.iload_n 2, 1) := by decide +kernel
theorem dX5_makeAccess_15 : decode cX5_makeAccess 15 = .ok (.iconst 2, 1) := by decide +kernel
theorem dX5_makeAccess_16 : decode cX5_makeAccess 16 = .ok (.if_icmp .eq 13, 3) := by decide +kernel
theorem dX5_makeAccess_19 : decode cX5_makeAccess 19 = .ok (.iload_n 2, 1) := by decide +kernel
theorem dX5_makeAccess_20 : decode cX5_makeAccess 20 = .ok (.iconst 3, 1) := by decide +kernel
theorem dX5_makeAccess_21 : decode cX5_makeAccess 21 = .ok (.if_icmp .eq 8, 3) := by decide +kernel
theorem dX5_makeAccess_24 : decode cX5_makeAccess 24 = .ok (.iload_n 2, 1) := by decide +kernel
theorem dX5_makeAccess_25 : decode cX5_makeAccess 25 = .ok (.iconst 5, 1) := by decide +kernel
theorem dX5_makeAccess_26 : decode cX5_makeAccess 26 = .ok (.if_icmp .ne 7, 3) := by decide +kernel
theorem dX5_makeAccess_29 : decode cX5_makeAccess 29 = .ok (.iconst 3, 1) := by decide +kernel
theorem dX5_makeAccess_30 : decode cX5_makeAccess 30 = .ok (.goto 4, 3) := by decide +kernel
theorem dX5_makeAccess_33 : decode cX5_makeAccess 33 = .ok (.iconst 2, 1) := by decide +kernel
theorem dX5_makeAccess_34 : decode cX5_makeAccess 34 = .ok (.istore_n 3, 1) := by decide +kernel
theorem dX5_makeAccess_35 : decode cX5_makeAccess 35 = .ok (.aload_n 0, 1) := by decide +kernel
theorem dX5_makeAccess_36 : decode cX5_makeAccess 36 = .ok (.getfield 33, 3) := by decide +kernel
theorem dX5_makeAccess_39 : decode cX5_makeAccess 39 = .ok (.istore 4, 2) := by decide +kernel
theorem dX5_makeAccess_41 : decode cX5_makeAccess 41 = .ok (.aload_n 0, 1) := by decide +kernel
theorem dX5_makeAccess_42 : decode cX5_makeAccess 42 = .ok (.getfield 21, 3) := by decide +kernel
theorem dX5_makeAccess_45 : decode cX5_makeAccess 45 = .ok (.iload 4, 2) := by decide +kernel
theorem dX5_makeAccess_47 : decode cX5_makeAccess 47 = .ok (.aaload, 1) := by decide +kernel
theorem dX5_makeAccess_48 : decode cX5_makeAccess 48 = .ok (.astore 5, 2) := by decide +kernel
theorem dX5_makeAccess_50 : decode cX5_makeAccess 50 = .ok (.aload 5, 2) := by decide +kernel
theorem dX5_makeAccess_52 : decode cX5_makeAccess 52 = .ok (.aload_n 0, 1) := by decide +kernel
theorem dX5_makeAccess_53 : decode cX5_makeAccess 53 = .ok (.getfield 72, 3) := by decide +kernel
theorem dX5_makeAccess_56 : decode cX5_makeAccess 56 = .ok (.putfield 141, 3) := by decide +kernel
theorem dX5_makeAccess_59 : decode cX5_makeAccess 59 = .ok (.aload 5, 2) := by decide +kernel
theorem dX5_makeAccess_61 : decode cX5_makeAccess 61 = .ok (.iload_n 2, 1) := by decide +kernel
theorem dX5_makeAccess_62 : decode cX5_makeAccess 62 = .ok (.putfield 142, 3) := by decide +kernel
theorem dX5_makeAccess_65 : decode cX5_makeAccess 65 = .ok (.aload 5, 2) := by decide +kernel
theorem dX5_makeAccess_67 : decode cX5_makeAccess 67 = .ok (.aload_n 0, 1) := by decide +kernel
theorem dX5_makeAccess_68 : decode cX5_makeAccess 68 = .ok (.aload_n 1, 1) := by decide +kernel
theorem dX5_makeAccess_69 : decode cX5_makeAccess 69 = .ok (.iload_n 3, 1) := by decide +kernel
theorem dX5_makeAccess_70 : decode cX5_makeAccess 70 = .ok (.iaload, 1) := by decide +kernel
theorem dX5_makeAccess_71 : decode cX5_makeAccess 71 = .ok (.aload_n 1, 1) := by decide +kernel
theorem dX5_makeAccess_72 : decode cX5_makeAccess 72 = .ok (.iload_n 3, 1) := by decide +kernel
theorem dX5_makeAccess_73 : decode cX5_makeAccess 73 = .ok (.iconst 1, 1) := by decide +kernel
theorem dX5_makeAccess_74 : decode cX5_makeAccess 74 = .ok (.iadd, 1) := by decide +kernel
theorem dX5_makeAccess_75 : decode cX5_makeAccess 75 = .ok (.iaload, 1) := by decide +kernel
theorem dX5_makeAccess_76 : decode cX5_makeAccess 76 = .ok (.invokevirtual 132, 3) := by decide +kernel
theorem dX5_makeAccess_79 : decode cX5_makeAccess 79 = .ok (.putfield 69, 3) := by decide +kernel
theorem dX5_makeAccess_82 : decode cX5_makeAccess 82 = .ok (.aload 5, 2) := by decide +kernel
theorem dX5_makeAccess_84 : decode cX5_makeAccess 84 = .ok (.aload_n 1, 1) := by decide +kernel
theorem dX5_makeAccess_85 : decode cX5_makeAccess 85 = .ok (.iload_n 3, 1) := by decide +kernel
theorem dX5_makeAccess_86 : decode cX5_makeAccess 86 = .ok (.iconst 2, 1) := by decide +kernel
theorem dX5_makeAccess_87 : decode cX5_makeAccess 87 = .ok (.iadd, 1) := by decide +kernel
theorem dX5_makeAccess_88 : decode cX5_makeAccess 88 = .ok (.iaload, 1) := by decide +kernel
theorem dX5_makeAccess_89 : decode cX5_makeAccess 89 = .ok (.putfield 145, 3) := by decide +kernel
theorem dX5_makeAccess_92 : decode cX5_makeAccess 92 = .ok (.aload 5, 2) := by decide +kernel
theorem dX5_makeAccess_94 : decode cX5_makeAccess 94 = .ok (.iload_n 2, 1) := by decide +kernel
theorem dX5_makeAccess_95 : decode cX5_makeAccess 95 = .ok (.invokestatic 148, 3) := by decide +kernel
theorem dX5_makeAccess_98 : decode cX5_makeAccess 98 = .ok (.putfield 55, 3) := by decide +kernel
theorem dX5_makeAccess_101 : decode cX5_makeAccess 101 = .ok (.aload 5, 2) := by decide +kernel
theorem dX5_makeAccess_103 : decode cX5_makeAccess 103 = .ok (.iload_n 2, 1) := by decide +kernel
theorem dX5_makeAccess_104 : decode cX5_makeAccess 104 = .ok (.invokestatic 151, 3) := by decide +kernel
theorem dX5_makeAccess_107 : decode cX5_makeAccess 107 = .ok (.putfield 66, 3) := by decide +kernel
theorem dX5_makeAccess_110 : decode cX5_makeAccess 110 = .ok (.aload 5, 2) := by decide +kernel
theorem dX5_makeAccess_112 : decode cX5_makeAccess 112 = .ok (.aload_n 1, 1) := by decide +kernel
theorem dX5_makeAccess_113 : decode cX5_makeAccess 113 = .ok (.iload_n 3, 1) := by decide +kernel
theorem dX5_makeAccess_114 : decode cX5_makeAccess 114 = .ok (.iconst 1, 1) := by decide +kernel
theorem dX5_makeAccess_115 : decode cX5_makeAccess 115 = .ok (.iadd, 1) := by decide +kernel
theorem dX5_makeAccess_116 : decode cX5_makeAccess 116 = .ok (.iaload, 1) := by decide +kernel
theorem dX5_makeAccess_117 : decode cX5_makeAccess 117 = .ok (.iconst (-1), 1) := by decide +kernel
theorem dX5_makeAccess_118 : decode cX5_makeAccess 118 = .ok (.if_icmp .ne 7, 3) := by decide +kernel
theorem dX5_makeAccess_121 : decode cX5_makeAccess 121 = .ok (.iconst 0, 1) := by decide +kernel
theorem dX5_makeAccess_122 : decode cX5_makeAccess 122 = .ok (.goto 12, 3) := by decide +kernel
theorem dX5_makeAccess_125 : decode cX5_makeAccess 125 = .ok (.aload_n 0, 1) := by decide +kernel
theorem dX5_makeAccess_126 : decode cX5_makeAccess 126 = .ok (.aload_n 1, 1) := by decide +kernel
theorem dX5_makeAccess_127 : decode cX5_makeAccess 127 = .ok (.iload_n 3, 1) := by decide +kernel
theorem dX5_makeAccess_128 : decode cX5_makeAccess 128 = .ok (.iconst 1, 1) := by decide +kernel
theorem dX5_makeAccess_129 : decode cX5_makeAccess 129 = .ok (.iadd, 1) := by decide +kernel
theorem dX5_makeAccess_130 : decode cX5_makeAccess 130 = .ok (.iaload, 1) := by decide +kernel
theorem dX5_makeAccess_131 : decode cX5_makeAccess 131 = .ok (.invokevirtual 111, 3) := by decide +kernel
theorem dX5_makeAccess_134 : decode cX5_makeAccess 134 = .ok (.putfield 154, 3) := by decide +kernel
theorem dX5_makeAccess_137 : decode cX5_makeAccess 137 = .ok (.aload 5, 2) := by decide +kernel
theorem dX5_makeAccess_139 : decode cX5_makeAccess 139 = .ok (.aload 5, 2) := by decide +kernel
theorem dX5_makeAccess_141 : decode cX5_makeAccess 141 = .ok (.getfield 66, 3) := by decide +kernel
theorem dX5_makeAccess_144 : decode cX5_makeAccess 144 = .ok (.ifCond .eq 15, 3) := by decide +kernel
theorem dX5_makeAccess_147 : decode cX5_makeAccess 147 = .ok (.aload_n 0, 1) := by decide +kernel
theorem dX5_makeAccess_148 : decode cX5_makeAccess 148 = .ok (.aload_n 1, 1) := by decide +kernel
theorem dX5_makeAccess_149 : decode cX5_makeAccess 149 = .ok (.iload_n 3, 1) := by decide +kernel
theorem dX5_makeAccess_150 : decode cX5_makeAccess 150 = .ok (.iconst 1, 1) := by decide +kernel
theorem dX5_makeAccess_151 : decode cX5_makeAccess 151 = .ok (.isub, 1) := by decide +kernel
theorem dX5_makeAccess_152 : decode cX5_makeAccess 152 = .ok (.iaload, 1) := by decide +kernel
theorem dX5_makeAccess_153 : decode cX5_makeAccess 153 = .ok (.invokevirtual 111, 3) := by decide +kernel
theorem dX5_makeAccess_156 : decode cX5_makeAccess 156 = .ok (.goto 4, 3) := by decide +kernel
theorem dX5_makeAccess_159 : decode cX5_makeAccess 159 = .ok (.iconst 0, 1) := by decide +kernel
theorem dX5_makeAccess_160 : decode cX5_makeAccess 160 = .ok (.putfield 157, 3) := by decide +kernel
theorem dX5_makeAccess_163 : decode cX5_makeAccess 163 = .ok (.aload 5, 2) := by decide +kernel
theorem dX5_makeAccess_165 : decode cX5_makeAccess 165 = .ok (.iload_n 2, 1) := by decide +kernel
theorem dX5_makeAccess_166 : decode cX5_makeAccess 166 = .ok (.iconst 5, 1) := by decide +kernel
theorem dX5_makeAccess_167 : decode cX5_makeAccess 167 = .ok (.if_icmp .ne 10, 3) := by decide +kernel
theorem dX5_makeAccess_170 : decode cX5_makeAccess 170 = .ok (.aload_n 0, 1) := by decide +kernel
theorem dX5_makeAccess_171 : decode cX5_makeAccess 171 = .ok (.getfield 78, 3) := by decide +kernel
theorem dX5_makeAccess_174 : decode cX5_makeAccess 174 = .ok (.goto 4, 3) := by decide +kernel
theorem dX5_makeAccess_177 : decode cX5_makeAccess 177 = .ok (.iconst (-1), 1) := by decide +kernel
theorem dX5_makeAccess_178 : decode cX5_makeAccess 178 = .ok (.putfield 160, 3) := by decide +kernel
theorem dX5_makeAccess_181 : decode cX5_makeAccess 181 = .ok (.aload 5, 2) := by decide +kernel
theorem dX5_makeAccess_183 : decode cX5_makeAccess 183 = .ok (.aload 5, 2) := by decide +kernel
theorem dX5_makeAccess_185 : decode cX5_makeAccess 185 = .ok (.getfield 55, 3) := by decide +kernel
theorem dX5_makeAccess_188 : decode cX5_makeAccess 188 = .ok (.ifCond .eq 14, 3) := by decide +kernel
theorem dX5_makeAccess_191 : decode cX5_makeAccess 191 = .ok (.aload_n 0, 1) := by decide +kernel
theorem dX5_makeAccess_192 : decode cX5_makeAccess 192 = .ok (.getfield 15, 3) := by decide +kernel
theorem dX5_makeAccess_195 : decode cX5_makeAccess 195 = .ok (.iconst 4, 1) := by decide +kernel
theorem dX5_makeAccess_196 : decode cX5_makeAccess 196 = .ok (.invokevirtual 136, 3) := by decide +kernel
theorem dX5_makeAccess_199 : decode cX5_makeAccess 199 = .ok (.goto 4, 3) := by decide +kernel
theorem dX5_makeAccess_202 : decode cX5_makeAccess 202 = .ok (.iconst 0, 1) := by decide +kernel
theorem dX5_makeAccess_203 : decode cX5_makeAccess 203 = .ok (.putfield 59, 3) := by decide +kernel
theorem dX5_makeAccess_206 : decode cX5_makeAccess 206 = .ok (.aload 5, 2) := by decide +kernel
theorem dX5_makeAccess_208 : decode cX5_makeAccess 208 = .ok (.aload 5, 2) := by decide +kernel
theorem dX5_makeAccess_210 : decode cX5_makeAccess 210 = .ok (.getfield 66, 3) := by decide +kernel
theorem dX5_makeAccess_213 : decode cX5_makeAccess 213 = .ok (.ifCond .eq 17, 3) := by decide +kernel
theorem dX5_makeAccess_216 : decode cX5_makeAccess 216 = .ok (.aload_n 0, 1) := by decide +kernel
theorem dX5_makeAccess_217 : decode cX5_makeAccess 217 = .ok (.aload_n 1, 1) := by decide +kernel
theorem dX5_makeAccess_218 : decode cX5_makeAccess 218 = .ok (.iload_n 3, 1) := by decide +kernel
theorem dX5_makeAccess_219 : decode cX5_makeAccess 219 = .ok (.iconst 1, 1) := by decide +kernel
theorem dX5_makeAccess_220 : decode cX5_makeAccess 220 = .ok (.isub, 1) := by decide +kernel
theorem dX5_makeAccess_221 : decode cX5_makeAccess 221 = .ok (.iaload, 1) := by decide +kernel
theorem dX5_makeAccess_222 : decode cX5_makeAccess 222 = .ok (.aload 5, 2) := by decide +kernel
theorem dX5_makeAccess_224 : decode cX5_makeAccess 224 = .ok (.invokevirtual 161, 3) := by decide +kernel
theorem dX5_makeAccess_227 : decode cX5_makeAccess 227 = .ok (.goto 4, 3) := by decide +kernel
theorem dX5_makeAccess_230 : decode cX5_makeAccess 230 = .ok (.iconst 0, 1) := by decide +kernel
theorem dX5_makeAccess_231 : decode cX5_makeAccess 231 = .ok (.putfield 39, 3) := by decide +kernel
theorem dX5_makeAccess_234 : decode cX5_makeAccess 234 = .ok (.aload_n 0, 1) := by decide +kernel
theorem dX5_makeAccess_235 : decode cX5_makeAccess 235 = .ok (.aload 5, 2) := by decide +kernel
theorem dX5_makeAccess_237 : decode cX5_makeAccess 237 = .ok (.invokevirtual 165, 3) := by decide +kernel
theorem dX5_makeAccess_240 : decode cX5_makeAccess 240 = .ok (.aload_n 0, 1) := by decide +kernel
theorem dX5_makeAccess_241 : decode cX5_makeAccess 241 = .ok (.dup, 1) := by decide +kernel
theorem dX5_makeAccess_242 : decode cX5_makeAccess 242 = .ok (.getfield 33, 3) := by decide +kernel
theorem dX5_makeAccess_245 : decode cX5_makeAccess 245 = .ok (.iconst 1, 1) := by decide +kernel
theorem dX5_makeAccess_246 : decode cX5_makeAccess 246 = .ok (.iadd, 1) := by decide +kernel
end
section
theorem dX5_makeAccess_247 : decode cX5_makeAccess 247 = .ok (.putfield 33, 3) := by decide +kernel
theorem dX5_makeAccess_250 : decode cX5_makeAccess 250 = .ok (.aload_n 0, 1) := by decide +kernel
theorem dX5_makeAccess_251 : decode cX5_makeAccess 251 = .ok (.dup, 1) := by decide +kernel
theorem dX5_makeAccess_252 : decode cX5_makeAccess 252 = .ok (.getfield 84, 3) := by decide +kernel
theorem dX5_makeAccess_255 : decode cX5_makeAccess 255 = .ok (.aload 5, 2) := by decide +kernel
theorem dX5_makeAccess_257 : decode cX5_makeAccess 257 = .ok (.getfield 154, 3) := by decide +kernel
theorem dX5_makeAccess_260 : decode cX5_makeAccess 260 = .ok (.ior, 1) := by decide +kernel
theorem dX5_makeAccess_261 : decode cX5_makeAccess 261 = .ok (.putfield 84, 3) := by decide +kernel
theorem dX5_makeAccess_264 : decode cX5_makeAccess 264 = .ok (.iload_n 2, 1) := by decide +kernel
theorem dX5_makeAccess_265 : decode cX5_makeAccess 265 = .ok (.iconst 4, 1) := by decide +kernel
theorem dX5_makeAccess_266 : decode cX5_makeAccess 266 = .ok (.if_icmp .ne 9, 3) := by decide +kernel
theorem dX5_makeAccess_269 : decode cX5_makeAccess 269 = .ok (.aload_n 0, 1) := by decide +kernel
theorem dX5_makeAccess_270 : decode cX5_makeAccess 270 = .ok (.iload 4, 2) := by decide +kernel
theorem dX5_makeAccess_272 : decode cX5_makeAccess 272 = .ok (.putfield 78, 3) := by decide +kernel
theorem dX5_makeAccess_275 : decode cX5_makeAccess 275 = .ok (.iload_n 2, 1) := by decide +kernel
theorem dX5_makeAccess_276 : decode cX5_makeAccess 276 = .ok (.iconst 1, 1) := by decide +kernel
theorem dX5_makeAccess_277 : decode cX5_makeAccess 277 = .ok (.if_icmp .eq 19, 3) := by decide +kernel
theorem dX5_makeAccess_280 : decode cX5_makeAccess 280 = .ok (.aload_n 0, 1) := by decide +kernel
theorem dX5_makeAccess_281 : decode cX5_makeAccess 281 = .ok (.aload_n 1, 1) := by decide +kernel
theorem dX5_makeAccess_282 : decode cX5_makeAccess 282 = .ok (.iconst 1, 1) := by decide +kernel
theorem dX5_makeAccess_283 : decode cX5_makeAccess 283 = .ok (.iaload, 1) := by decide +kernel
theorem dX5_makeAccess_284 : decode cX5_makeAccess 284 = .ok (.aload 5, 2) := by decide +kernel
theorem dX5_makeAccess_286 : decode cX5_makeAccess 286 = .ok (.getfield 59, 3) := by decide +kernel
theorem dX5_makeAccess_289 : decode cX5_makeAccess 289 = .ok (.iconst 1, 1) := by decide +kernel
theorem dX5_makeAccess_290 : decode cX5_makeAccess 290 = .ok (.iload 4, 2) := by decide +kernel
theorem dX5_makeAccess_292 : decode cX5_makeAccess 292 = .ok (.ishl, 1) := by decide +kernel
theorem dX5_makeAccess_293 : decode cX5_makeAccess 293 = .ok (.invokevirtual 121, 3) := by decide +kernel
theorem dX5_makeAccess_296 : decode cX5_makeAccess 296 = .ok (.return_, 1) := by decide +kernel
set_option maxRecDepth 20000 in
theorem ggX5_written_X5_valueOf : GoodIn wsX5_written wsX5_valueOf := goodIn_r _ [5, 6, 7, 22, 23, 24, 25, 26, 27, 28, 29, 30, 31, 32, 33, 34, 35] (by decide +kernel) (by decide +kernel)
set_option maxRecDepth 20000 in
theorem gX5_written_X5_valueOf : GoodIn wsX5_written (wsV RX5 114 RX5 yX5_valueOf wsX5_valueOf) := goodIn_app (goodIn_of _ (by decide +kernel)) ggX5_written_X5_valueOf
theorem dX5_written_0 : decode cX5_written 0 = .ok (.aload_n 0, 1) := by decide +kernel
theorem dX5_written_1 : decode cX5_written 1 = .ok (.iload_n 1, 1) := by decide +kernel
theorem dX5_written_2 : decode cX5_written 2 = .ok (.invokevirtual 114, 3) := by decide +kernel
theorem dX5_written_5 : decode cX5_written 5 = .ok (.aload_n 2, 1) := by decide +kernel
theorem dX5_written_6 : decode cX5_written 6 = .ok (.getfield 142, 3) := by decide +kernel
theorem dX5_written_9 : decode cX5_written 9 = .ok (.iconst 3, 1) := by decide +kernel
theorem dX5_written_10 : decode cX5_written 10 = .ok (.if_icmp .ne 10, 3) := by decide +kernel
theorem dX5_written_13 : decode cX5_written 13 = .ok (.aload_n 2, 1) := by decide +kernel
theorem dX5_written_14 : decode cX5_written 14 = .ok (.getfield 59, 3) := by decide +kernel
theorem dX5_written_17 : decode cX5_written 17 = .ok (.goto 4, 3) := by decide +kernel
theorem dX5_written_20 : decode cX5_written 20 = .ok (.iconst 0, 1) := by decide +kernel
theorem dX5_written_21 : decode cX5_written 21 = .ok (.iadd, 1) := by decide +kernel
theorem dX5_written_22 : decode cX5_written 22 = .ok (.istore_n 3, 1) := by decide +kernel
theorem dX5_written_23 : decode cX5_written 23 = .ok (.iload_n 3, 1) := by decide +kernel
theorem dX5_written_24 : decode cX5_written 24 = .ok (.iconst 4, 1) := by decide +kernel
theorem dX5_written_25 : decode cX5_written 25 = .ok (.irem, 1) := by decide +kernel
theorem dX5_written_26 : decode cX5_written 26 = .ok (.ireturn, 1) := by decide +kernel
set_option maxRecDepth 20000 in
theorem ggX5_relate_X5_isOrdered : GoodIn wsX5_relate wsX5_isOrdered := goodIn_r _ [8, 3, 9, 10, 11, 12, 13, 28, 29, 30, 31, 32, 33, 34, 35, 36, 37, 38, 39, 40, 41, 14, 15, 16, 17, 18, 19, 20, 21, 22, 23, 24, 25, 26, 27] (by decide +kernel) (by decide +kernel)
set_option maxRecDepth 20000 in
theorem gX5_relate_X5_isOrdered : GoodIn wsX5_relate (wsV RX5 178 RX5 yX5_isOrdered wsX5_isOrdered) := goodIn_app (goodIn_of _ (by decide +kernel)) ggX5_relate_X5_isOrdered
theorem dX5_relate_0 : decode cX5_relate 0 = .ok (.aload_n 1, 1) := by decide +kernel
theorem dX5_relate_1 : decode cX5_relate 1 = .ok (.iconst 0, 1) := by decide +kernel
theorem dX5_relate_2 : decode cX5_relate 2 = .ok (.putfield 169, 3) := by decide +kernel
theorem dX5_relate_5 : decode cX5_relate 5 = .ok (.aload_n 1, 1) := by decide +kernel
theorem dX5_relate_6 : decode cX5_relate 6 = .ok (.iconst 0, 1) := by decide +kernel
theorem dX5_relate_7 : decode cX5_relate 7 = .ok (.putfield 172, 3) := by decide +kernel
theorem dX5_relate_10 : decode cX5_relate 10 = .ok (.aload_n 1, 1) := by decide +kernel
theorem dX5_relate_11 : decode cX5_relate 11 = .ok (.iconst (-1), 1) := by decide +kernel
theorem dX5_relate_12 : decode cX5_relate 12 = .ok (.putfield 175, 3) := by decide +kernel
theorem dX5_relate_15 : decode cX5_relate 15 = .ok (.aload_n 0, 1) := by decide +kernel
theorem dX5_relate_16 : decode cX5_relate 16 = .ok (.getfield 33, 3) := by decide +kernel
theorem dX5_relate_19 : decode cX5_relate 19 = .ok (.iconst 1, 1) := by decide +kernel
theorem dX5_relate_20 : decode cX5_relate 20 = .ok (.isub, 1) := by decide +kernel
theorem dX5_relate_21 : decode cX5_relate 21 = .ok (.istore_n 2, 1) := by decide +kernel
theorem dX5_relate_22 : decode cX5_relate 22 = .ok (.iload_n 2, 1) := by decide +kernel
theorem dX5_relate_23 : decode cX5_relate 23 = .ok (.aload_n 0, 1) := by decide +kernel
theorem dX5_relate_24 : decode cX5_relate 24 = .ok (.getfield 75, 3) := by decide +kernel
theorem dX5_relate_27 : decode cX5_relate 27 = .ok (.if_icmp .lt 114, 3) := by decide +kernel
theorem dX5_relate_30 : decode cX5_relate 30 = .ok (.aload_n 0, 1) := by decide +kernel
theorem dX5_relate_31 : decode cX5_relate 31 = .ok (.getfield 21, 3) := by decide +kernel
theorem dX5_relate_34 : decode cX5_relate 34 = .ok (.iload_n 2, 1) := by decide +kernel
theorem dX5_relate_35 : decode cX5_relate 35 = .ok (.aaload, 1) := by decide +kernel
theorem dX5_relate_36 : decode cX5_relate 36 = .ok (.astore_n 3, 1) := by decide +kernel
theorem dX5_relate_37 : decode cX5_relate 37 = .ok (.aload_n 3, 1) := by decide +kernel
theorem dX5_relate_38 : decode cX5_relate 38 = .ok (.getfield 69, 3) := by decide +kernel
theorem dX5_relate_41 : decode cX5_relate 41 = .ok (.aload_n 1, 1) := by decide +kernel
theorem dX5_relate_42 : decode cX5_relate 42 = .ok (.getfield 69, 3) := by decide +kernel
theorem dX5_relate_45 : decode cX5_relate 45 = .ok (.if_icmp .ne 7, 3) := by decide +kernel
theorem dX5_relate_48 : decode cX5_relate 48 = .ok (.iconst 1, 1) := by decide +kernel
theorem dX5_relate_49 : decode cX5_relate 49 = .ok (.goto 4, 3) := by decide +kernel
theorem dX5_relate_52 : decode cX5_relate 52 = .ok (.iconst 0, 1) := by decide +kernel
theorem dX5_relate_53 : decode cX5_relate 53 = .ok (.istore 4, 2) := by decide +kernel
theorem dX5_relate_55 : decode cX5_relate 55 = .ok (.iload 4, 2) := by decide +kernel
theorem dX5_relate_57 : decode cX5_relate 57 = .ok (.ifCond .eq 57, 3) := by decide +kernel
theorem dX5_relate_60 : decode cX5_relate 60 = .ok (.aload_n 1, 1) := by decide +kernel
theorem dX5_relate_61 : decode cX5_relate 61 = .ok (.getfield 175, 3) := by decide +kernel
theorem dX5_relate_64 : decode cX5_relate 64 = .ok (.iconst (-1), 1) := by decide +kernel
theorem dX5_relate_65 : decode cX5_relate 65 = .ok (.if_icmp .ne 49, 3) := by decide +kernel
theorem dX5_relate_68 : decode cX5_relate 68 = .ok (.aload_n 1, 1) := by decide +kernel
theorem dX5_relate_69 : decode cX5_relate 69 = .ok (.dup, 1) := by decide +kernel
theorem dX5_relate_70 : decode cX5_relate 70 = .ok (.getfield 172, 3) := by decide +kernel
theorem dX5_relate_73 : decode cX5_relate 73 = .ok (.aload_n 1, 1) := by decide +kernel
theorem dX5_relate_74 : decode cX5_relate 74 = .ok (.getfield 55, 3) := by decide +kernel
theorem dX5_relate_77 : decode cX5_relate 77 = .ok (.ifCond .eq 16, 3) := by decide +kernel
theorem dX5_relate_80 : decode cX5_relate 80 = .ok (.aload_n 3, 1) := by decide +kernel
theorem dX5_relate_81 : decode cX5_relate 81 = .ok (.getfield 55, 3) := by decide +kernel
theorem dX5_relate_84 : decode cX5_relate 84 = .ok (.ifCond .eq 9, 3) := by decide +kernel
theorem dX5_relate_87 : decode cX5_relate 87 = .ok (.iconst 1, 1) := by decide +kernel
theorem dX5_relate_88 : decode cX5_relate 88 = .ok (.iload_n 2, 1) := by decide +kernel
theorem dX5_relate_89 : decode cX5_relate 89 = .ok (.ishl, 1) := by decide +kernel
theorem dX5_relate_90 : decode cX5_relate 90 = .ok (.goto 4, 3) := by decide +kernel
theorem dX5_relate_93 : decode cX5_relate 93 = .ok (.iconst 0, 1) := by decide +kernel
theorem dX5_relate_94 : decode cX5_relate 94 = .ok (.ior, 1) := by decide +kernel
theorem dX5_relate_95 : decode cX5_relate 95 = .ok (.putfield 172, 3) := by decide +kernel
theorem dX5_relate_98 : decode cX5_relate 98 = .ok (.aload_n 1, 1) := by decide +kernel
theorem dX5_relate_99 : decode cX5_relate 99 = .ok (.aload_n 3, 1) := by decide +kernel
theorem dX5_relate_100 : decode cX5_relate 100 = .ok (.getfield 66, 3) := by decide +kernel
theorem dX5_relate_103 : decode cX5_relate 103 = .ok (.ifCond .eq 7, 3) := by decide +kernel
theorem dX5_relate_106 : decode cX5_relate 106 = .ok (.iload_n 2, 1) := by decide +kernel
theorem dX5_relate_107 : decode cX5_relate 107 = .ok (.goto 4, 3) := by decide +kernel
theorem dX5_relate_110 : decode cX5_relate 110 = .ok (.iconst (-1), 1) := by decide +kernel
theorem dX5_relate_111 : decode cX5_relate 111 = .ok (.putfield 175, 3) := by decide +kernel
theorem dX5_relate_114 : decode cX5_relate 114 = .ok (.aload_n 0, 1) := by decide +kernel
theorem dX5_relate_115 : decode cX5_relate 115 = .ok (.iload_n 2, 1) := by decide +kernel
theorem dX5_relate_116 : decode cX5_relate 116 = .ok (.aload_n 1, 1) := by decide +kernel
theorem dX5_relate_117 : decode cX5_relate 117 = .ok (.invokevirtual 178, 3) := by decide +kernel
theorem dX5_relate_120 : decode cX5_relate 120 = .ok (.ifCond .eq 15, 3) := by decide +kernel
theorem dX5_relate_123 : decode cX5_relate 123 = .ok (.aload_n 1, 1) := by decide +kernel
theorem dX5_relate_124 : decode cX5_relate 124 = .ok (.dup, 1) := by decide +kernel
theorem dX5_relate_125 : decode cX5_relate 125 = .ok (.getfield 169, 3) := by decide +kernel
theorem dX5_relate_128 : decode cX5_relate 128 = .ok (.iconst 1, 1) := by decide +kernel
theorem dX5_relate_129 : decode cX5_relate 129 = .ok (.iload_n 2, 1) := by decide +kernel
theorem dX5_relate_130 : decode cX5_relate 130 = .ok (.ishl, 1) := by decide +kernel
theorem dX5_relate_131 : decode cX5_relate 131 = .ok (.ior, 1) := by decide +kernel
theorem dX5_relate_132 : decode cX5_relate 132 = .ok (.putfield 169, 3) := by decide +kernel
theorem dX5_relate_135 : decode cX5_relate 135 = .ok (.iinc 2 (-1), 3) := by decide +kernel
theorem dX5_relate_138 : decode cX5_relate 138 = .ok (.goto (-116), 3) := by decide +kernel
theorem dX5_relate_141 : decode cX5_relate 141 = .ok (.return_, 1) := by decide +kernel
theorem dX5_isOrdered_0 : decode cX5_isOrdered 0 = .ok (.aload_n 0, 1) := by decide +kernel
theorem dX5_isOrdered_1 : decode cX5_isOrdered 1 = .ok (.getfield 21, 3) := by decide +kernel
theorem dX5_isOrdered_4 : decode cX5_isOrdered 4 = .ok (.iload_n 1, 1) := by decide +kernel
theorem dX5_isOrdered_5 : decode cX5_isOrdered 5 = .ok (.aaload, 1) := by decide +kernel
theorem dX5_isOrdered_6 : decode cX5_isOrdered 6 = .ok (.astore_n 3, 1) := by decide +kernel
theorem dX5_isOrdered_7 : decode cX5_isOrdered 7 = .ok (.aload_n 2, 1) := by decide +kernel
theorem dX5_isOrdered_8 : decode cX5_isOrdered 8 = .ok (.getfield 154, 3) := by decide +kernel
theorem dX5_isOrdered_11 : decode cX5_isOrdered 11 = .ok (.aload_n 2, 1) := by decide +kernel
theorem dX5_isOrdered_12 : decode cX5_isOrdered 12 = .ok (.getfield 157, 3) := by decide +kernel
theorem dX5_isOrdered_15 : decode cX5_isOrdered 15 = .ok (.ior, 1) := by decide +kernel
theorem dX5_isOrdered_16 : decode cX5_isOrdered 16 = .ok (.istore 4, 2) := by decide +kernel
theorem dX5_isOrdered_18 : decode cX5_isOrdered 18 = .ok (.iconst 0, 1) := by decide +kernel
theorem dX5_isOrdered_19 : decode cX5_isOrdered 19 = .ok (.istore 5, 2) := by decide +kernel
theorem dX5_isOrdered_21 : decode cX5_isOrdered 21 = .ok (.aload_n 2, 1) := by decide +kernel
theorem dX5_isOrdered_22 : decode cX5_isOrdered 22 = .ok (.getfield 55, 3) := by decide +kernel
theorem dX5_isOrdered_25 : decode cX5_isOrdered 25 = .ok (.ifCond .eq 12, 3) := by decide +kernel
theorem dX5_isOrdered_28 : decode cX5_isOrdered 28 = .ok (.iload 5, 2) := by decide +kernel
theorem dX5_isOrdered_30 : decode cX5_isOrdered 30 = .ok (.aload_n 0, 1) := by decide +kernel
theorem dX5_isOrdered_31 : decode cX5_isOrdered 31 = .ok (.getfield 87, 3) := by decide +kernel
theorem dX5_isOrdered_34 : decode cX5_isOrdered 34 = .ok (.ior, 1) := by decide +kernel
theorem dX5_isOrdered_35 : decode cX5_isOrdered 35 = .ok (.istore 5, 2) := by decide +kernel
theorem dX5_isOrdered_37 : decode cX5_isOrdered 37 = .ok (.aload_n 2, 1) := by decide +kernel
theorem dX5_isOrdered_38 : decode cX5_isOrdered 38 = .ok (.getfield 66, 3) := by decide +kernel
theorem dX5_isOrdered_41 : decode cX5_isOrdered 41 = .ok (.ifCond .eq 26, 3) := by decide +kernel
theorem dX5_isOrdered_44 : decode cX5_isOrdered 44 = .ok (.iload 5, 2) := by decide +kernel
theorem dX5_isOrdered_46 : decode cX5_isOrdered 46 = .ok (.aload_n 0, 1) := by decide +kernel
theorem dX5_isOrdered_47 : decode cX5_isOrdered 47 = .ok (.getfield 90, 3) := by decide +kernel
theorem dX5_isOrdered_50 : decode cX5_isOrdered 50 = .ok (.ior, 1) := by decide +kernel
theorem dX5_isOrdered_51 : decode cX5_isOrdered 51 = .ok (.istore 5, 2) := by decide +kernel
theorem dX5_isOrdered_53 : decode cX5_isOrdered 53 = .ok (.iload 4, 2) := by decide +kernel
theorem dX5_isOrdered_55 : decode cX5_isOrdered 55 = .ok (.aload_n 0, 1) := by decide +kernel
theorem dX5_isOrdered_56 : decode cX5_isOrdered 56 = .ok (.getfield 81, 3) := by decide +kernel
theorem dX5_isOrdered_59 : decode cX5_isOrdered 59 = .ok (.aload_n 0, 1) := by decide +kernel
theorem dX5_isOrdered_60 : decode cX5_isOrdered 60 = .ok (.getfield 84, 3) := by decide +kernel
theorem dX5_isOrdered_63 : decode cX5_isOrdered 63 = .ok (.ior, 1) := by decide +kernel
theorem dX5_isOrdered_64 : decode cX5_isOrdered 64 = .ok (.ior, 1) := by decide +kernel
theorem dX5_isOrdered_65 : decode cX5_isOrdered 65 = .ok (.istore 4, 2) := by decide +kernel
theorem dX5_isOrdered_67 : decode cX5_isOrdered 67 = .ok (.aload_n 2, 1) := by decide +kernel
theorem dX5_isOrdered_68 : decode cX5_isOrdered 68 = .ok (.getfield 66, 3) := by decide +kernel
theorem dX5_isOrdered_71 : decode cX5_isOrdered 71 = .ok (.ifCond .eq 18, 3) := by decide +kernel
theorem dX5_isOrdered_74 : decode cX5_isOrdered 74 = .ok (.aload_n 3, 1) := by decide +kernel
theorem dX5_isOrdered_75 : decode cX5_isOrdered 75 = .ok (.getfield 69, 3) := by decide +kernel
theorem dX5_isOrdered_78 : decode cX5_isOrdered 78 = .ok (.aload_n 2, 1) := by decide +kernel
theorem dX5_isOrdered_79 : decode cX5_isOrdered 79 = .ok (.getfield 69, 3) := by decide +kernel
theorem dX5_isOrdered_82 : decode cX5_isOrdered 82 = .ok (.if_icmp .ne 7, 3) := by decide +kernel
theorem dX5_isOrdered_85 : decode cX5_isOrdered 85 = .ok (.iconst 1, 1) := by decide +kernel
theorem dX5_isOrdered_86 : decode cX5_isOrdered 86 = .ok (.goto 4, 3) := by decide +kernel
theorem dX5_isOrdered_89 : decode cX5_isOrdered 89 = .ok (.iconst 0, 1) := by decide +kernel
theorem dX5_isOrdered_90 : decode cX5_isOrdered 90 = .ok (.istore 6, 2) := by decide +kernel
theorem dX5_isOrdered_92 : decode cX5_isOrdered 92 = .ok (.iload 5, 2) := by decide +kernel
theorem dX5_isOrdered_94 : decode cX5_isOrdered 94 = .ok (.iload_n 1, 1) := by decide +kernel
theorem dX5_isOrdered_95 : decode cX5_isOrdered 95 = .ok (.ishr, 1) := by decide +kernel
theorem dX5_isOrdered_96 : decode cX5_isOrdered 96 = .ok (.iconst 1, 1) := by decide +kernel
theorem dX5_isOrdered_97 : decode cX5_isOrdered 97 = .ok (.iand, 1) := by decide +kernel
theorem dX5_isOrdered_98 : decode cX5_isOrdered 98 = .ok (.ifCond .eq 7, 3) := by decide +kernel
theorem dX5_isOrdered_101 : decode cX5_isOrdered 101 = .ok (.iconst 1, 1) := by decide +kernel
theorem dX5_isOrdered_102 : decode cX5_isOrdered 102 = .ok (.goto 4, 3) := by decide +kernel
theorem dX5_isOrdered_105 : decode cX5_isOrdered 105 = .ok (.iconst 0, 1) := by decide +kernel
theorem dX5_isOrdered_106 : decode cX5_isOrdered 106 = .ok (.istore 7, 2) := by decide +kernel
theorem dX5_isOrdered_108 : decode cX5_isOrdered 108 = .ok (.aload_n 3, 1) := by decide +kernel
theorem dX5_isOrdered_109 : decode cX5_isOrdered 109 = .ok (.getfield 145, 3) := by decide +kernel
theorem dX5_isOrdered_112 : decode cX5_isOrdered 112 = .ok (.iconst 1, 1) := by decide +kernel
theorem dX5_isOrdered_113 : decode cX5_isOrdered 113 = .ok (.iand, 1) := by decide +kernel
theorem dX5_isOrdered_114 : decode cX5_isOrdered 114 = .ok (.ifCond .ne 12, 3) := by decide +kernel
theorem dX5_isOrdered_117 : decode cX5_isOrdered 117 = .ok (.aload_n 2, 1) := by decide +kernel
theorem dX5_isOrdered_118 : decode cX5_isOrdered 118 = .ok (.getfield 145, 3) := by decide +kernel
theorem dX5_isOrdered_121 : decode cX5_isOrdered 121 = .ok (.iconst 2, 1) := by decide +kernel
theorem dX5_isOrdered_122 : decode cX5_isOrdered 122 = .ok (.iand, 1) := by decide +kernel
theorem dX5_isOrdered_123 : decode cX5_isOrdered 123 = .ok (.ifCond .eq 7, 3) := by decide +kernel
theorem dX5_isOrdered_126 : decode cX5_isOrdered 126 = .ok (.iconst 1, 1) := by decide +kernel
theorem dX5_isOrdered_127 : decode cX5_isOrdered 127 = .ok (.goto 4, 3) := by decide +kernel
theorem dX5_isOrdered_130 : decode cX5_isOrdered 130 = .ok (.iconst 0, 1) := by decide +kernel
theorem dX5_isOrdered_131 : decode cX5_isOrdered 131 = .ok (.istore 8, 2) := by decide +kernel
theorem dX5_isOrdered_133 : decode cX5_isOrdered 133 = .ok (.aload_n 3, 1) := by decide +kernel
theorem dX5_isOrdered_134 : decode cX5_isOrdered 134 = .ok (.getfield 145, 3) := by decide +kernel
theorem dX5_isOrdered_137 : decode cX5_isOrdered 137 = .ok (.ifCond .eq 14, 3) := by decide +kernel
theorem dX5_isOrdered_140 : decode cX5_isOrdered 140 = .ok (.aload_n 2, 1) := by decide +kernel
theorem dX5_isOrdered_141 : decode cX5_isOrdered 141 = .ok (.getfield 145, 3) := by decide +kernel
theorem dX5_isOrdered_144 : decode cX5_isOrdered 144 = .ok (.ifCond .eq 7, 3) := by decide +kernel
theorem dX5_isOrdered_147 : decode cX5_isOrdered 147 = .ok (.iconst 1, 1) := by decide +kernel
theorem dX5_isOrdered_148 : decode cX5_isOrdered 148 = .ok (.goto 4, 3) := by decide +kernel
theorem dX5_isOrdered_151 : decode cX5_isOrdered 151 = .ok (.iconst 0, 1) := by decide +kernel
theorem dX5_isOrdered_152 : decode cX5_isOrdered 152 = .ok (.istore 9, 2) := by decide +kernel
theorem dX5_isOrdered_154 : decode cX5_isOrdered 154 = .ok (.aload_n 2, 1) := by decide +kernel
theorem dX5_isOrdered_155 : decode cX5_isOrdered 155 = .ok (.getfield 160, 3) := by decide +kernel
theorem dX5_isOrdered_158 : decode cX5_isOrdered 158 = .ok (.iload_n 1, 1) := by decide +kernel
theorem dX5_isOrdered_159 : decode cX5_isOrdered 159 = .ok (.if_icmp .ne 7, 3) := by decide +kernel
theorem dX5_isOrdered_162 : decode cX5_isOrdered 162 = .ok (.iconst 1, 1) := by decide +kernel
theorem dX5_isOrdered_163 : decode cX5_isOrdered 163 = .ok (.goto 4, 3) := by decide +kernel
theorem dX5_isOrdered_166 : decode cX5_isOrdered 166 = .ok (.iconst 0, 1) := by decide +kernel
theorem dX5_isOrdered_167 : decode cX5_isOrdered 167 = .ok (.istore 10, 2) := by decide +kernel
theorem dX5_isOrdered_169 : decode cX5_isOrdered 169 = .ok (.iload 4, 2) := by decide +kernel
theorem dX5_isOrdered_171 : decode cX5_isOrdered 171 = .ok (.iload_n 1, 1) := by decide +kernel
theorem dX5_isOrdered_172 : decode cX5_isOrdered 172 = .ok (.ishr, 1) := by decide +kernel
theorem dX5_isOrdered_173 : decode cX5_isOrdered 173 = .ok (.iconst 1, 1) := by decide +kernel
theorem dX5_isOrdered_174 : decode cX5_isOrdered 174 = .ok (.iand, 1) := by decide +kernel
theorem dX5_isOrdered_175 : decode cX5_isOrdered 175 = .ok (.ifCond .eq 7, 3) := by decide +kernel
theorem dX5_isOrdered_178 : decode cX5_isOrdered 178 = .ok (.iconst 1, 1) := by decide +kernel
theorem dX5_isOrdered_179 : decode cX5_isOrdered 179 = .ok (.goto 4, 3) := by decide +kernel
theorem dX5_isOrdered_182 : decode cX5_isOrdered 182 = .ok (.iconst 0, 1) := by decide +kernel
theorem dX5_isOrdered_183 : decode cX5_isOrdered 183 = .ok (.istore 11, 2) := by decide +kernel
theorem dX5_isOrdered_185 : decode cX5_isOrdered 185 = .ok (.aload_n 0, 1) := by decide +kernel
theorem dX5_isOrdered_186 : decode cX5_isOrdered 186 = .ok (.getfield 42, 3) := by decide +kernel
theorem dX5_isOrdered_189 : decode cX5_isOrdered 189 = .ok (.iconst 2, 1) := by decide +kernel
theorem dX5_isOrdered_190 : decode cX5_isOrdered 190 = .ok (.if_icmp .eq 25, 3) := by decide +kernel
theorem dX5_isOrdered_193 : decode cX5_isOrdered 193 = .ok (.aload_n 0, 1) := by decide +kernel
theorem dX5_isOrdered_194 : decode cX5_isOrdered 194 = .ok (.getfield 42, 3) := by decide +kernel
theorem dX5_isOrdered_197 : decode cX5_isOrdered 197 = .ok (.iconst 1, 1) := by decide +kernel
theorem dX5_isOrdered_198 : decode cX5_isOrdered 198 = .ok (.if_icmp .ne 21, 3) := by decide +kernel
theorem dX5_isOrdered_201 : decode cX5_isOrdered 201 = .ok (.aload_n 3, 1) := by decide +kernel
theorem dX5_isOrdered_202 : decode cX5_isOrdered 202 = .ok (.getfield 55, 3) := by decide +kernel
theorem dX5_isOrdered_205 : decode cX5_isOrdered 205 = .ok (.ifCond .ne 10, 3) := by decide +kernel
theorem dX5_isOrdered_208 : decode cX5_isOrdered 208 = .ok (.aload_n 2, 1) := by decide +kernel
theorem dX5_isOrdered_209 : decode cX5_isOrdered 209 = .ok (.getfield 66, 3) := by decide +kernel
theorem dX5_isOrdered_212 : decode cX5_isOrdered 212 = .ok (.ifCond .eq 7, 3) := by decide +kernel
theorem dX5_isOrdered_215 : decode cX5_isOrdered 215 = .ok (.iconst 1, 1) := by decide +kernel
theorem dX5_isOrdered_216 : decode cX5_isOrdered 216 = .ok (.goto 4, 3) := by decide +kernel
theorem dX5_isOrdered_219 : decode cX5_isOrdered 219 = .ok (.iconst 0, 1) := by decide +kernel
theorem dX5_isOrdered_220 : decode cX5_isOrdered 220 = .ok (.istore 12, 2) := by decide +kernel
theorem dX5_isOrdered_222 : decode cX5_isOrdered 222 = .ok (.iload 6, 2) := by decide +kernel
theorem dX5_isOrdered_224 : decode cX5_isOrdered 224 = .ok (.ifCond .ne 33, 3) := by decide +kernel
theorem dX5_isOrdered_227 : decode cX5_isOrdered 227 = .ok (.iload 7, 2) := by decide +kernel
theorem dX5_isOrdered_229 : decode cX5_isOrdered 229 = .ok (.ifCond .ne 28, 3) := by decide +kernel
theorem dX5_isOrdered_232 : decode cX5_isOrdered 232 = .ok (.iload 8, 2) := by decide +kernel
theorem dX5_isOrdered_234 : decode cX5_isOrdered 234 = .ok (.ifCond .ne 23, 3) := by decide +kernel
theorem dX5_isOrdered_237 : decode cX5_isOrdered 237 = .ok (.iload 9, 2) := by decide +kernel
theorem dX5_isOrdered_239 : decode cX5_isOrdered 239 = .ok (.ifCond .ne 18, 3) := by decide +kernel
theorem dX5_isOrdered_242 : decode cX5_isOrdered 242 = .ok (.iload 10, 2) := by decide +kernel
theorem dX5_isOrdered_244 : decode cX5_isOrdered 244 = .ok (.ifCond .ne 13, 3) := by decide +kernel
theorem dX5_isOrdered_247 : decode cX5_isOrdered 247 = .ok (.iload 11, 2) := by decide +kernel
theorem dX5_isOrdered_249 : decode cX5_isOrdered 249 = .ok (.ifCond .ne 8, 3) := by decide +kernel
theorem dX5_isOrdered_252 : decode cX5_isOrdered 252 = .ok (.iload 12, 2) := by decide +kernel
theorem dX5_isOrdered_254 : decode cX5_isOrdered 254 = .ok (.ifCond .eq 7, 3) := by decide +kernel
theorem dX5_isOrdered_257 : decode cX5_isOrdered 257 = .ok (.iconst 1, 1) := by decide +kernel
theorem dX5_isOrdered_258 : decode cX5_isOrdered 258 = .ok (.goto 4, 3) := by decide +kernel
theorem dX5_isOrdered_261 : decode cX5_isOrdered 261 = .ok (.iconst 0, 1) := by decide +kernel
theorem dX5_isOrdered_262 : decode cX5_isOrdered 262 = .ok (.ireturn, 1) := by decide +kernel
set_option maxRecDepth 20000 in
theorem ggX5_place_X5_valueOf : GoodIn wsX5_place wsX5_valueOf := goodIn_r _ [5, 6, 7, 8, 9, 10, 11, 12, 13, 14, 15, 16, 17, 18, 19, 20, 21] (by decide +kernel) (by decide +kernel)
set_option maxRecDepth 20000 in
theorem gX5_place_X5_valueOf : GoodIn wsX5_place (wsV RX5 114 RX5 yX5_valueOf wsX5_valueOf) := goodIn_app (goodIn_of _ (by decide +kernel)) ggX5_place_X5_valueOf
theorem dX5_place_0 : decode cX5_place 0 = .ok (.iload_n 2, 1) := by decide +kernel
theorem dX5_place_1 : decode cX5_place 1 = .ok (.iconst (-1), 1) := by decide +kernel
theorem dX5_place_2 : decode cX5_place 2 = .ok (.if_icmp .ne 7, 3) := by decide +kernel
theorem dX5_place_5 : decode cX5_place 5 = .ok (.iload_n 1, 1) := by decide +kernel
theorem dX5_place_6 : decode cX5_place 6 = .ok (.goto 12, 3) := by decide +kernel
theorem dX5_place_9 : decode cX5_place 9 = .ok (.iload_n 1, 1) := by decide +kernel
theorem dX5_place_10 : decode cX5_place 10 = .ok (.aload_n 0, 1) := by decide +kernel
theorem dX5_place_11 : decode cX5_place 11 = .ok (.iload_n 2, 1) := by decide +kernel
theorem dX5_place_12 : decode cX5_place 12 = .ok (.invokevirtual 114, 3) := by decide +kernel
theorem dX5_place_15 : decode cX5_place 15 = .ok (.iadd, 1) := by decide +kernel
theorem dX5_place_16 : decode cX5_place 16 = .ok (.iconst 3, 1) := by decide +kernel
theorem dX5_place_17 : decode cX5_place 17 = .ok (.irem, 1) := by decide +kernel
theorem dX5_place_18 : decode cX5_place 18 = .ok (.ireturn, 1) := by decide +kernel
theorem dX5_valueOf_0 : decode cX5_valueOf 0 = .ok (.aload_n 0, 1) := by decide +kernel
theorem dX5_valueOf_1 : decode cX5_valueOf 1 = .ok (.getfield 26, 3) := by decide +kernel
theorem dX5_valueOf_4 : decode cX5_valueOf 4 = .ok (.aload_n 0, 1) := by decide +kernel
theorem dX5_valueOf_5 : decode cX5_valueOf 5 = .ok (.getfield 72, 3) := by decide +kernel
theorem dX5_valueOf_8 : decode cX5_valueOf 8 = .ok (.iconst 4, 1) := by decide +kernel
theorem dX5_valueOf_9 : decode cX5_valueOf 9 = .ok (.imul, 1) := by decide +kernel
theorem dX5_valueOf_10 : decode cX5_valueOf 10 = .ok (.iload_n 1, 1) := by decide +kernel
theorem dX5_valueOf_11 : decode cX5_valueOf 11 = .ok (.iadd, 1) := by decide +kernel
theorem dX5_valueOf_12 : decode cX5_valueOf 12 = .ok (.iaload, 1) := by decide +kernel
theorem dX5_valueOf_13 : decode cX5_valueOf 13 = .ok (.ireturn, 1) := by decide +kernel
theorem dX5_carriedBy_0 : decode cX5_carriedBy 0 = .ok (.aload_n 0, 1) := by decide +kernel
theorem dX5_carriedBy_1 : decode cX5_carriedBy 1 = .ok (.getfield 30, 3) := by decide +kernel
theorem dX5_carriedBy_4 : decode cX5_carriedBy 4 = .ok (.aload_n 0, 1) := by decide +kernel
theorem dX5_carriedBy_5 : decode cX5_carriedBy 5 = .ok (.getfield 72, 3) := by decide +kernel
theorem dX5_carriedBy_8 : decode cX5_carriedBy 8 = .ok (.iconst 4, 1) := by decide +kernel
theorem dX5_carriedBy_9 : decode cX5_carriedBy 9 = .ok (.imul, 1) := by decide +kernel
theorem dX5_carriedBy_10 : decode cX5_carriedBy 10 = .ok (.iload_n 1, 1) := by decide +kernel
theorem dX5_carriedBy_11 : decode cX5_carriedBy 11 = .ok (.iadd, 1) := by decide +kernel
theorem dX5_carriedBy_12 : decode cX5_carriedBy 12 = .ok (.iaload, 1) := by decide +kernel
theorem dX5_carriedBy_13 : decode cX5_carriedBy 13 = .ok (.ireturn, 1) := by decide +kernel
theorem dX5_setRegister_0 : decode cX5_setRegister 0 = .ok (.aload_n 0, 1) := by decide +kernel
theorem dX5_setRegister_1 : decode cX5_setRegister 1 = .ok (.getfield 26, 3) := by decide +kernel
theorem dX5_setRegister_4 : decode cX5_setRegister 4 = .ok (.aload_n 0, 1) := by decide +kernel
theorem dX5_setRegister_5 : decode cX5_setRegister 5 = .ok (.getfield 72, 3) := by decide +kernel
theorem dX5_setRegister_8 : decode cX5_setRegister 8 = .ok (.iconst 4, 1) := by decide +kernel
theorem dX5_setRegister_9 : decode cX5_setRegister 9 = .ok (.imul, 1) := by decide +kernel
theorem dX5_setRegister_10 : decode cX5_setRegister 10 = .ok (.iload_n 1, 1) := by decide +kernel
theorem dX5_setRegister_11 : decode cX5_setRegister 11 = .ok (.iadd, 1) := by decide +kernel
theorem dX5_setRegister_12 : decode cX5_setRegister 12 = .ok (.iload_n 2, 1) := by decide +kernel
theorem dX5_setRegister_13 : decode cX5_setRegister 13 = .ok (.iconst 4, 1) := by decide +kernel
theorem dX5_setRegister_14 : decode cX5_setRegister 14 = .ok (.irem, 1) := by decide +kernel
theorem dX5_setRegister_15 : decode cX5_setRegister 15 = .ok (.iastore, 1) := by decide +kernel
theorem dX5_setRegister_16 : decode cX5_setRegister 16 = .ok (.aload_n 0, 1) := by decide +kernel
theorem dX5_setRegister_17 : decode cX5_setRegister 17 = .ok (.getfield 30, 3) := by decide +kernel
theorem dX5_setRegister_20 : decode cX5_setRegister 20 = .ok (.aload_n 0, 1) := by decide +kernel
theorem dX5_setRegister_21 : decode cX5_setRegister 21 = .ok (.getfield 72, 3) := by decide +kernel
theorem dX5_setRegister_24 : decode cX5_setRegister 24 = .ok (.iconst 4, 1) := by decide +kernel
theorem dX5_setRegister_25 : decode cX5_setRegister 25 = .ok (.imul, 1) := by decide +kernel
theorem dX5_setRegister_26 : decode cX5_setRegister 26 = .ok (.iload_n 1, 1) := by decide +kernel
theorem dX5_setRegister_27 : decode cX5_setRegister 27 = .ok (.iadd, 1) := by decide +kernel
theorem dX5_setRegister_28 : decode cX5_setRegister 28 = .ok (.iload_n 3, 1) := by decide +kernel
theorem dX5_setRegister_29 : decode cX5_setRegister 29 = .ok (.iastore, 1) := by decide +kernel
theorem dX5_setRegister_30 : decode cX5_setRegister 30 = .ok (.return_, 1) := by decide +kernel
set_option maxRecDepth 20000 in
theorem ggX6_init_X4_init : GoodIn wsX6_init wsX4_init := goodIn_r _ [29, 30, 2, 3, 31, 32, 33, 34, 35, 36, 37, 79, 80, 81, 82, 83] (by decide +kernel) (by decide +kernel)
set_option maxRecDepth 20000 in
theorem gX6_init_X4_init : GoodIn wsX6_init (wsX4_init) := ggX6_init_X4_init
set_option maxRecDepth 20000 in
theorem ggX6_init_X1_init : GoodIn wsX6_init wsX1_init := goodIn_r _ [40, 41, 2, 3, 32, 42, 43, 44, 45, 92, 93, 94, 95] (by decide +kernel) (by decide +kernel)
set_option maxRecDepth 20000 in
theorem gX6_init_X1_init : GoodIn wsX6_init (wsX1_init) := ggX6_init_X1_init
set_option maxRecDepth 20000 in
theorem ggX6_init_X5_init : GoodIn wsX6_init wsX5_init := goodIn_r _ [48, 49, 2, 3, 50, 51, 52, 53, 54, 55, 32, 56, 57, 58, 59, 60, 96, 97, 98, 99, 100, 101, 102, 103, 104, 105, 106, 107, 108, 109, 119, 120, 121, 122, 123, 124, 125, 126, 127, 128, 129, 130, 131, 132] (by decide +kernel) (by decide +kernel)
set_option maxRecDepth 20000 in
theorem gX6_init_X5_init : GoodIn wsX6_init (wsX5_init) := ggX6_init_X5_init
set_option maxRecDepth 20000 in
theorem ggX6_init_X3_init : GoodIn wsX6_init wsX3_init := goodIn_r _ [63, 64, 2, 3, 65, 66, 67, 110, 111] (by decide +kernel) (by decide +kernel)
set_option maxRecDepth 20000 in
theorem gX6_init_X3_init : GoodIn wsX6_init (wsX3_init) := ggX6_init_X3_init
set_option maxRecDepth 20000 in
theorem ggX6_init_X2_init : GoodIn wsX6_init wsX2_init := goodIn_r _ [70, 71, 2, 3, 72, 73, 32, 74, 75, 76, 77, 78, 112, 113, 114, 115, 116, 117, 118] (by decide +kernel) (by decide +kernel)
set_option maxRecDepth 20000 in
theorem gX6_init_X2_init : GoodIn wsX6_init (wsX2_init) := ggX6_init_X2_init
theorem dX6_init_0 : decode cX6_init 0 = .ok (.aload_n 0, 1) := by decide +kernel
theorem dX6_init_1 : decode cX6_init 1 = .ok (.invokespecial 1, 3) := by decide +kernel
theorem dX6_init_4 : decode cX6_init 4 = .ok (.aload_n 0, 1) := by decide +kernel
theorem dX6_init_5 : decode cX6_init 5 = .ok (.new 7, 3) := by decide +kernel
theorem dX6_init_8 : decode cX6_init 8 = .ok (.dup, 1) := by decide +kernel
theorem dX6_init_9 : decode cX6_init 9 = .ok (.invokespecial 9, 3) := by decide +kernel
theorem dX6_init_12 : decode cX6_init 12 = .ok (.putfield 10, 3) := by decide +kernel
theorem dX6_init_15 : decode cX6_init 15 = .ok (.aload_n 0, 1) := by decide +kernel
theorem dX6_init_16 : decode cX6_init 16 = .ok (.new 16, 3) := by decide +kernel
theorem dX6_init_19 : decode cX6_init 19 = .ok (.dup, 1) := by decide +kernel
theorem dX6_init_20 : decode cX6_init 20 = .ok (.invokespecial 18, 3) := by decide +kernel
theorem dX6_init_23 : decode cX6_init 23 = .ok (.putfield 19, 3) := by decide +kernel
theorem dX6_init_26 : decode cX6_init 26 = .ok (.aload_n 0, 1) := by decide +kernel
theorem dX6_init_27 : decode cX6_init 27 = .ok (.new 23, 3) := by decide +kernel
theorem dX6_init_30 : decode cX6_init 30 = .ok (.dup, 1) := by decide +kernel
theorem dX6_init_31 : decode cX6_init 31 = .ok (.aload_n 0, 1) := by decide +kernel
theorem dX6_init_32 : decode cX6_init 32 = .ok (.getfield 10, 3) := by decide +kernel
theorem dX6_init_35 : decode cX6_init 35 = .ok (.aload_n 0, 1) := by decide +kernel
theorem dX6_init_36 : decode cX6_init 36 = .ok (.getfield 19, 3) := by decide +kernel
theorem dX6_init_39 : decode cX6_init 39 = .ok (.invokespecial 25, 3) := by decide +kernel
theorem dX6_init_42 : decode cX6_init 42 = .ok (.putfield 28, 3) := by decide +kernel
theorem dX6_init_45 : decode cX6_init 45 = .ok (.aload_n 0, 1) := by decide +kernel
theorem dX6_init_46 : decode cX6_init 46 = .ok (.new 32, 3) := by decide +kernel
theorem dX6_init_49 : decode cX6_init 49 = .ok (.dup, 1) := by decide +kernel
theorem dX6_init_50 : decode cX6_init 50 = .ok (.invokespecial 34, 3) := by decide +kernel
theorem dX6_init_53 : decode cX6_init 53 = .ok (.putfield 35, 3) := by decide +kernel
theorem dX6_init_56 : decode cX6_init 56 = .ok (.aload_n 0, 1) := by decide +kernel
theorem dX6_init_57 : decode cX6_init 57 = .ok (.new 39, 3) := by decide +kernel
theorem dX6_init_60 : decode cX6_init 60 = .ok (.dup, 1) := by decide +kernel
theorem dX6_init_61 : decode cX6_init 61 = .ok (.aload_n 0, 1) := by decide +kernel
theorem dX6_init_62 : decode cX6_init 62 = .ok (.getfield 28, 3) := by decide +kernel
theorem dX6_init_65 : decode cX6_init 65 = .ok (.aload_n 0, 1) := by decide +kernel
theorem dX6_init_66 : decode cX6_init 66 = .ok (.getfield 35, 3) := by decide +kernel
theorem dX6_init_69 : decode cX6_init 69 = .ok (.invokespecial 41, 3) := by decide +kernel
theorem dX6_init_72 : decode cX6_init 72 = .ok (.putfield 44, 3) := by decide +kernel
theorem dX6_init_75 : decode cX6_init 75 = .ok (.aload_n 0, 1) := by decide +kernel
theorem dX6_init_76 : decode cX6_init 76 = .ok (.iconst 0, 1) := by decide +kernel
theorem dX6_init_77 : decode cX6_init 77 = .ok (.putfield 48, 3) := by decide +kernel
theorem dX6_init_80 : decode cX6_init 80 = .ok (.aload_n 0, 1) := by decide +kernel
theorem dX6_init_81 : decode cX6_init 81 = .ok (.iconst 0, 1) := by decide +kernel
theorem dX6_init_82 : decode cX6_init 82 = .ok (.putfield 52, 3) := by decide +kernel
theorem dX6_init_85 : decode cX6_init 85 = .ok (.aload_n 0, 1) := by decide +kernel
theorem dX6_init_86 : decode cX6_init 86 = .ok (.iconst 0, 1) := by decide +kernel
theorem dX6_init_87 : decode cX6_init 87 = .ok (.putfield 55, 3) := by decide +kernel
theorem dX6_init_90 : decode cX6_init 90 = .ok (.return_, 1) := by decide +kernel
set_option maxRecDepth 20000 in
theorem ggX6_clear_X4_removeAll : GoodIn wsX6_clear wsX4_removeAll := goodIn_r _ [7, 8, 9, 10, 11, 12, 13, 6, 14, 15, 16, 17, 18, 27, 28, 29, 30, 31] (by decide +kernel) (by decide +kernel)
set_option maxRecDepth 20000 in
theorem gX6_clear_X4_removeAll : GoodIn wsX6_clear (wsV RX6 59 RX4 yX4_removeAll wsX4_removeAll) := goodIn_app (goodIn_of _ (by decide +kernel)) ggX6_clear_X4_removeAll
theorem dX6_clear_0 : decode cX6_clear 0 = .ok (.aload_n 0, 1) := by decide +kernel
theorem dX6_clear_1 : decode cX6_clear 1 = .ok (.iconst 0, 1) := by decide +kernel
theorem dX6_clear_2 : decode cX6_clear 2 = .ok (.putfield 55, 3) := by decide +kernel
theorem dX6_clear_5 : decode cX6_clear 5 = .ok (.aload_n 0, 1) := by decide +kernel
theorem dX6_clear_6 : decode cX6_clear 6 = .ok (.getfield 10, 3) := by decide +kernel
theorem dX6_clear_9 : decode cX6_clear 9 = .ok (.invokevirtual 59, 3) := by decide +kernel
theorem dX6_clear_12 : decode cX6_clear 12 = .ok (.ireturn, 1) := by decide +kernel
theorem dX6_model_0 : decode cX6_model 0 = .ok (.iload_n 1, 1) := by decide +kernel
theorem dX6_model_1 : decode cX6_model 1 = .ok (.ifCond .lt 8, 3) := by decide +kernel
theorem dX6_model_4 : decode cX6_model 4 = .ok (.iload_n 1, 1) := by decide +kernel
theorem dX6_model_5 : decode cX6_model 5 = .ok (.iconst 3, 1) := by decide +kernel
theorem dX6_model_6 : decode cX6_model 6 = .ok (.if_icmp .lt 6, 3) := by decide +kernel
theorem dX6_model_9 : decode cX6_model 9 = .ok (.bipush (-2), 2) := by decide +kernel
theorem dX6_model_11 : decode cX6_model 11 = .ok (.ireturn, 1) := by decide +kernel
theorem dX6_model_12 : decode cX6_model 12 = .ok (.aload_n 0, 1) := by decide +kernel
theorem dX6_model_13 : decode cX6_model 13 = .ok (.getfield 48, 3) := by decide +kernel
theorem dX6_model_16 : decode cX6_model 16 = .ok (.istore_n 2, 1) := by decide +kernel
theorem dX6_model_17 : decode cX6_model 17 = .ok (.aload_n 0, 1) := by decide +kernel
theorem dX6_model_18 : decode cX6_model 18 = .ok (.iload_n 1, 1) := by decide +kernel
theorem dX6_model_19 : decode cX6_model 19 = .ok (.putfield 48, 3) := by decide +kernel
theorem dX6_model_22 : decode cX6_model 22 = .ok (.aload_n 0, 1) := by decide +kernel
theorem dX6_model_23 : decode cX6_model 23 = .ok (.iconst 0, 1) := by decide +kernel
theorem dX6_model_24 : decode cX6_model 24 = .ok (.putfield 55, 3) := by decide +kernel
theorem dX6_model_27 : decode cX6_model 27 = .ok (.iload_n 2, 1) := by decide +kernel
theorem dX6_model_28 : decode cX6_model 28 = .ok (.ireturn, 1) := by decide +kernel
set_option maxRecDepth 20000 in
theorem ggX6_add_X4_propose : GoodIn wsX6_add wsX4_propose := goodIn_r _ [7, 8, 101, 102, 103, 104, 105] (by decide +kernel) (by decide +kernel)
set_option maxRecDepth 20000 in
theorem gX6_add_X4_propose : GoodIn wsX6_add (wsV RX6 63 RX4 yX4_propose wsX4_propose) := goodIn_app (goodIn_of _ (by decide +kernel)) ggX6_add_X4_propose
set_option maxRecDepth 20000 in
theorem ggX6_add_X4_append : GoodIn wsX6_add wsX4_append := goodIn_r _ [12, 8, 13, 14, 15, 16, 17, 18, 6, 19, 20, 21, 22, 23, 24, 25, 26, 27, 28, 29, 30, 31, 32, 33, 34, 35, 36, 37, 38, 39, 40, 41, 42, 43, 44, 45, 46, 47, 48, 49, 50, 51, 52, 53, 54, 55, 56, 57, 58, 59, 60, 61, 62, 63, 64, 65, 66, 67, 68, 69, 70, 71, 72, 73, 74, 75, 76, 77, 78, 79, 80, 81, 82, 83, 84, 85, 86, 87, 88, 89, 90, 91, 92, 101, 102, 103, 104, 105] (by decide +kernel) (by decide +kernel)
set_option maxRecDepth 20000 in
theorem gX6_add_X4_append : GoodIn wsX6_add (wsV RX6 67 RX4 yX4_append wsX4_append) := goodIn_app (goodIn_of _ (by decide +kernel)) ggX6_add_X4_append
theorem dX6_add_0 : decode cX6_add 0 = .ok (.aload_n 0, 1) := by decide +kernel
theorem dX6_add_1 : decode cX6_add 1 = .ok (.getfield 10, 3) := by decide +kernel
theorem dX6_add_4 : decode cX6_add 4 = .ok (.iload_n 2, 1) := by decide +kernel
theorem dX6_add_5 : decode cX6_add 5 = .ok (.iload_n 3, 1) := by decide +kernel
theorem dX6_add_6 : decode cX6_add 6 = .ok (.iload 4, 2) := by decide +kernel
theorem dX6_add_8 : decode cX6_add 8 = .ok (.iload 5, 2) := by decide +kernel
theorem dX6_add_10 : decode cX6_add 10 = .ok (.iload 6, 2) := by decide +kernel
theorem dX6_add_12 : decode cX6_add 12 = .ok (.iload 7, 2) := by decide +kernel
theorem dX6_add_14 : decode cX6_add 14 = .ok (.invokevirtual 63, 3) := by decide +kernel
theorem dX6_add_17 : decode cX6_add 17 = .ok (.aload_n 0, 1) := by decide +kernel
theorem dX6_add_18 : decode cX6_add 18 = .ok (.getfield 10, 3) := by decide +kernel
theorem dX6_add_21 : decode cX6_add 21 = .ok (.iload_n 1, 1) := by decide +kernel
theorem dX6_add_22 : decode cX6_add 22 = .ok (.invokevirtual 67, 3) := by decide +kernel
theorem dX6_add_25 : decode cX6_add 25 = .ok (.istore 8, 2) := by decide +kernel
theorem dX6_add_27 : decode cX6_add 27 = .ok (.iload 8, 2) := by decide +kernel
theorem dX6_add_29 : decode cX6_add 29 = .ok (.ifCond .lt 8, 3) := by decide +kernel
theorem dX6_add_32 : decode cX6_add 32 = .ok (.aload_n 0, 1) := by decide +kernel
theorem dX6_add_33 : decode cX6_add 33 = .ok (.iconst 0, 1) := by decide +kernel
theorem dX6_add_34 : decode cX6_add 34 = .ok (.putfield 55, 3) := by decide +kernel
theorem dX6_add_37 : decode cX6_add 37 = .ok (.iload 8, 2) := by decide +kernel
theorem dX6_add_39 : decode cX6_add 39 = .ok (.ireturn, 1) := by decide +kernel
set_option maxRecDepth 20000 in
theorem ggX6_find_X3_size : GoodIn wsX6_find wsX3_size := goodIn_r _ [12, 13, 231, 232] (by decide +kernel) (by decide +kernel)
set_option maxRecDepth 20000 in
theorem gX6_find_X3_size : GoodIn wsX6_find (wsV RX6 71 RX3 yX3_size wsX3_size) := goodIn_app (goodIn_of _ (by decide +kernel)) ggX6_find_X3_size
set_option maxRecDepth 20000 in
theorem ggX6_find_X3_removeAll : GoodIn wsX6_find wsX3_removeAll := goodIn_r _ [17, 13, 231, 232] (by decide +kernel) (by decide +kernel)
set_option maxRecDepth 20000 in
theorem gX6_find_X3_removeAll : GoodIn wsX6_find (wsV RX6 74 RX3 yX3_removeAll wsX3_removeAll) := goodIn_app (goodIn_of _ (by decide +kernel)) ggX6_find_X3_removeAll
set_option maxRecDepth 20000 in
theorem ggX6_find_X1_restart : GoodIn wsX6_find wsX1_restart := goodIn_r _ [22, 23, 24, 233, 234, 235, 236] (by decide +kernel) (by decide +kernel)
set_option maxRecDepth 20000 in
theorem gX6_find_X1_restart : GoodIn wsX6_find (wsV RX6 76 RX1 yX1_restart wsX1_restart) := goodIn_app (goodIn_of _ (by decide +kernel)) ggX6_find_X1_restart
set_option maxRecDepth 20000 in
theorem ggX6_find_X5_walk : GoodIn wsX6_find wsX5_walk := goodIn_r _ [29, 30, 31, 32, 33, 34, 35, 36, 37, 38, 39, 40, 28, 41, 42, 43, 44, 45, 46, 47, 48, 49, 50, 51, 52, 53, 54, 55, 56, 57, 58, 59, 60, 61, 62, 63, 64, 65, 66, 67, 68, 69, 70, 71, 72, 73, 74, 75, 76, 77, 78, 79, 80, 81, 82, 83, 84, 85, 86, 87, 88, 89, 90, 91, 92, 93, 94, 95, 96, 97, 21, 98, 23, 24, 99, 100, 101, 102, 103, 104, 105, 106, 107, 108, 109, 110, 111, 112, 113, 114, 115, 116, 117, 118, 119, 120, 121, 237, 238, 239, 240, 241, 242, 243, 244, 245, 246, 247, 248, 249, 250, 251, 252, 253, 254, 255, 256, 257, 258, 259, 260, 261, 262, 263, 264, 265, 266, 267, 268, 269, 233, 234, 235, 236] (by decide +kernel) (by decide +kernel)
set_option maxRecDepth 20000 in
theorem gX6_find_X5_walk : GoodIn wsX6_find (wsV RX6 79 RX5 yX5_walk wsX5_walk) := goodIn_app (goodIn_of _ (by decide +kernel)) ggX6_find_X5_walk
set_option maxRecDepth 20000 in
theorem ggX6_find_X5_isPlausible : GoodIn wsX6_find wsX5_isPlausible := goodIn_r _ [125, 31, 81, 126, 127, 128, 28, 129, 237, 238, 239, 240, 241, 242, 243, 244, 245, 246, 247, 248, 249, 250, 256, 257, 258, 259, 260, 261, 262, 263, 264, 265, 266, 267, 268, 269] (by decide +kernel) (by decide +kernel)
set_option maxRecDepth 20000 in
theorem gX6_find_X5_isPlausible : GoodIn wsX6_find (wsV RX6 83 RX5 yX5_isPlausible wsX5_isPlausible) := goodIn_app (goodIn_of _ (by decide +kernel)) ggX6_find_X5_isPlausible
set_option maxRecDepth 20000 in
theorem ggX6_find_X2_search : GoodIn wsX6_find wsX2_search := goodIn_r _ [134, 135, 136, 137, 138, 139, 140, 141, 28, 142, 143, 32, 144, 35, 36, 37, 145, 146, 147, 133, 148, 149, 150, 151, 152, 153, 154, 31, 155, 156, 157, 158, 81, 159, 160, 161, 11, 162, 13, 163, 164, 165, 166, 167, 168, 169, 170, 171, 172, 173, 174, 175, 176, 177, 178, 179, 180, 181, 182, 183, 184, 185, 186, 187, 188, 189, 190, 191, 192, 193, 194, 195, 196, 197, 198, 199, 200, 201, 202, 203, 204, 205, 206, 207, 208, 209, 210, 211, 212, 213, 214, 215, 216, 217, 218, 270, 271, 272, 273, 274, 275, 276, 237, 238, 239, 240, 241, 242, 243, 244, 245, 246, 247, 248, 249, 250, 256, 257, 258, 259, 260, 261, 262, 263, 264, 265, 266, 267, 268, 269, 231, 232] (by decide +kernel) (by decide +kernel)
set_option maxRecDepth 20000 in
theorem gX6_find_X2_search : GoodIn wsX6_find (wsV RX6 87 RX2 yX2_search wsX2_search) := goodIn_app (goodIn_of _ (by decide +kernel)) ggX6_find_X2_search
set_option maxRecDepth 20000 in
theorem ggX6_find_X1_advance : GoodIn wsX6_find wsX1_advance := goodIn_r _ [222, 23, 99, 100, 24, 233, 234, 235, 236] (by decide +kernel) (by decide +kernel)
set_option maxRecDepth 20000 in
theorem gX6_find_X1_advance : GoodIn wsX6_find (wsV RX6 90 RX1 yX1_advance wsX1_advance) := goodIn_app (goodIn_of _ (by decide +kernel)) ggX6_find_X1_advance
theorem dX6_find_0 : decode cX6_find 0 = .ok (.aload_n 0, 1) := by decide +kernel
theorem dX6_find_1 : decode cX6_find 1 = .ok (.getfield 55, 3) := by decide +kernel
theorem dX6_find_4 : decode cX6_find 4 = .ok (.ifCond .eq 11, 3) := by decide +kernel
theorem dX6_find_7 : decode cX6_find 7 = .ok (.aload_n 0, 1) := by decide +kernel
theorem dX6_find_8 : decode cX6_find 8 = .ok (.getfield 35, 3) := by decide +kernel
theorem dX6_find_11 : decode cX6_find 11 = .ok (.invokevirtual 71, 3) := by decide +kernel
theorem dX6_find_14 : decode cX6_find 14 = .ok (.ireturn, 1) := by decide +kernel
theorem dX6_find_15 : decode cX6_find 15 = .ok (.aload_n 0, 1) := by decide +kernel
theorem dX6_find_16 : decode cX6_find 16 = .ok (.getfield 35, 3) := by decide +kernel
theorem dX6_find_19 : decode cX6_find 19 = .ok (.invokevirtual 74, 3) := by decide +kernel
theorem dX6_find_22 : decode cX6_find 22 = .ok (.aload_n 0, 1) := by decide +kernel
theorem dX6_find_23 : decode cX6_find 23 = .ok (.getfield 19, 3) := by decide +kernel
theorem dX6_find_26 : decode cX6_find 26 = .ok (.invokevirtual 76, 3) := by decide +kernel
theorem dX6_find_29 : decode cX6_find 29 = .ok (.aload_n 0, 1) := by decide +kernel
theorem dX6_find_30 : decode cX6_find 30 = .ok (.iconst 0, 1) := by decide +kernel
theorem dX6_find_31 : decode cX6_find 31 = .ok (.putfield 52, 3) := by decide +kernel
theorem dX6_find_34 : decode cX6_find 34 = .ok (.iconst 1, 1) := by decide +kernel
theorem dX6_find_35 : decode cX6_find 35 = .ok (.istore_n 1, 1) := by decide +kernel
theorem dX6_find_36 : decode cX6_find 36 = .ok (.iconst 0, 1) := by decide +kernel
theorem dX6_find_37 : decode cX6_find 37 = .ok (.istore_n 2, 1) := by decide +kernel
theorem dX6_find_38 : decode cX6_find 38 = .ok (.iload_n 1, 1) := by decide +kernel
theorem dX6_find_39 : decode cX6_find 39 = .ok (.ifCond .eq 65, 3) := by decide +kernel
theorem dX6_find_42 : decode cX6_find 42 = .ok (.iload_n 2, 1) := by decide +kernel
theorem dX6_find_43 : decode cX6_find 43 = .ok (.sipush 4096, 3) := by decide +kernel
theorem dX6_find_46 : decode cX6_find 46 = .ok (.if_icmp .ge 58, 3) := by decide +kernel
theorem dX6_find_49 : decode cX6_find 49 = .ok (.aload_n 0, 1) := by decide +kernel
theorem dX6_find_50 : decode cX6_find 50 = .ok (.getfield 28, 3) := by decide +kernel
theorem dX6_find_53 : decode cX6_find 53 = .ok (.aload_n 0, 1) := by decide +kernel
theorem dX6_find_54 : decode cX6_find 54 = .ok (.getfield 48, 3) := by decide +kernel
theorem dX6_find_57 : decode cX6_find 57 = .ok (.invokevirtual 79, 3) := by decide +kernel
theorem dX6_find_60 : decode cX6_find 60 = .ok (.aload_n 0, 1) := by decide +kernel
theorem dX6_find_61 : decode cX6_find 61 = .ok (.getfield 28, 3) := by decide +kernel
theorem dX6_find_64 : decode cX6_find 64 = .ok (.invokevirtual 83, 3) := by decide +kernel
theorem dX6_find_67 : decode cX6_find 67 = .ok (.ifCond .eq 23, 3) := by decide +kernel
theorem dX6_find_70 : decode cX6_find 70 = .ok (.aload_n 0, 1) := by decide +kernel
theorem dX6_find_71 : decode cX6_find 71 = .ok (.getfield 44, 3) := by decide +kernel
theorem dX6_find_74 : decode cX6_find 74 = .ok (.invokevirtual 87, 3) := by decide +kernel
theorem dX6_find_77 : decode cX6_find 77 = .ok (.ifCond .eq 13, 3) := by decide +kernel
theorem dX6_find_80 : decode cX6_find 80 = .ok (.aload_n 0, 1) := by decide +kernel
theorem dX6_find_81 : decode cX6_find 81 = .ok (.dup, 1) := by decide +kernel
theorem dX6_find_82 : decode cX6_find 82 = .ok (.getfield 52, 3) := by decide +kernel
theorem dX6_find_85 : decode cX6_find 85 = .ok (.iconst 1, 1) := by decide +kernel
theorem dX6_find_86 : decode cX6_find 86 = .ok (.iadd, 1) := by decide +kernel
theorem dX6_find_87 : decode cX6_find 87 = .ok (.putfield 52, 3) := by decide +kernel
theorem dX6_find_90 : decode cX6_find 90 = .ok (.aload_n 0, 1) := by decide +kernel
theorem dX6_find_91 : decode cX6_find 91 = .ok (.getfield 19, 3) := by decide +kernel
theorem dX6_find_94 : decode cX6_find 94 = .ok (.invokevirtual 90, 3) := by decide +kernel
theorem dX6_find_97 : decode cX6_find 97 = .ok (.istore_n 1, 1) := by decide +kernel
theorem dX6_find_98 : decode cX6_find 98 = .ok (.iinc 2 1, 3) := by decide +kernel
theorem dX6_find_101 : decode cX6_find 101 = .ok (.goto (-63), 3) := by decide +kernel
theorem dX6_find_104 : decode cX6_find 104 = .ok (.aload_n 0, 1) := by decide +kernel
theorem dX6_find_105 : decode cX6_find 105 = .ok (.iconst 1, 1) := by decide +kernel
theorem dX6_find_106 : decode cX6_find 106 = .ok (.putfield 55, 3) := by decide +kernel
theorem dX6_find_109 : decode cX6_find 109 = .ok (.aload_n 0, 1) := by decide +kernel
theorem dX6_find_110 : decode cX6_find 110 = .ok (.getfield 35, 3) := by decide +kernel
theorem dX6_find_113 : decode cX6_find 113 = .ok (.invokevirtual 71, 3) := by decide +kernel
theorem dX6_find_116 : decode cX6_find 116 = .ok (.ireturn, 1) := by decide +kernel
set_option maxRecDepth 20000 in
theorem ggX6_outcome_X3_at : GoodIn wsX6_outcome wsX3_at := goodIn_r _ [8, 9, 10, 11, 20, 21] (by decide +kernel) (by decide +kernel)
set_option maxRecDepth 20000 in
theorem gX6_outcome_X3_at : GoodIn wsX6_outcome (wsV RX6 93 RX3 yX3_at wsX3_at) := goodIn_app (goodIn_of _ (by decide +kernel)) ggX6_outcome_X3_at
theorem dX6_outcome_0 : decode cX6_outcome 0 = .ok (.aload_n 0, 1) := by decide +kernel
theorem dX6_outcome_1 : decode cX6_outcome 1 = .ok (.getfield 55, 3) := by decide +kernel
theorem dX6_outcome_4 : decode cX6_outcome 4 = .ok (.ifCond .eq 14, 3) := by decide +kernel
theorem dX6_outcome_7 : decode cX6_outcome 7 = .ok (.aload_n 0, 1) := by decide +kernel
theorem dX6_outcome_8 : decode cX6_outcome 8 = .ok (.getfield 35, 3) := by decide +kernel
theorem dX6_outcome_11 : decode cX6_outcome 11 = .ok (.iload_n 1, 1) := by decide +kernel
theorem dX6_outcome_12 : decode cX6_outcome 12 = .ok (.invokevirtual 93, 3) := by decide +kernel
theorem dX6_outcome_15 : decode cX6_outcome 15 = .ok (.goto 6, 3) := by decide +kernel
theorem dX6_outcome_18 : decode cX6_outcome 18 = .ok (.ldc2_w 97, 3) := by decide +kernel
theorem dX6_outcome_21 : decode cX6_outcome 21 = .ok (.lreturn, 1) := by decide +kernel
set_option maxRecDepth 20000 in
theorem ggX6_with_X6_both : GoodIn wsX6_with wsX6_both := goodIn_r _ [5, 6, 7, 8, 9, 4, 10, 11, 12, 13, 14, 15, 16, 17, 18, 19, 20, 21, 22, 23, 24, 25, 26, 27, 28, 29, 30, 31, 32, 33] (by decide +kernel) (by decide +kernel)
set_option maxRecDepth 20000 in
theorem gX6_with_X6_both : GoodIn wsX6_with (wsV RX6 99 RX6 yX6_both wsX6_both) := goodIn_app (goodIn_of _ (by decide +kernel)) ggX6_with_X6_both
theorem dX6_with_0 : decode cX6_with 0 = .ok (.aload_n 0, 1) := by decide +kernel
theorem dX6_with_1 : decode cX6_with 1 = .ok (.iload_n 1, 1) := by decide +kernel
theorem dX6_with_2 : decode cX6_with 2 = .ok (.iload_n 2, 1) := by decide +kernel
theorem dX6_with_3 : decode cX6_with 3 = .ok (.iload_n 1, 1) := by decide +kernel
theorem dX6_with_4 : decode cX6_with 4 = .ok (.iload_n 2, 1) := by decide +kernel
theorem dX6_with_5 : decode cX6_with 5 = .ok (.invokevirtual 99, 3) := by decide +kernel
theorem dX6_with_8 : decode cX6_with 8 = .ok (.ireturn, 1) := by decide +kernel
set_option maxRecDepth 20000 in
theorem ggX6_both_X6_isPart : GoodIn wsX6_both wsX6_isPart := goodIn_r _ [6] (by decide +kernel) (by decide +kernel)
set_option maxRecDepth 20000 in
theorem gX6_both_X6_isPart : GoodIn wsX6_both (va_wsS RX6 103 yX6_isPart wsX6_isPart) := goodIn_app (goodIn_of _ (by decide +kernel)) ggX6_both_X6_isPart
set_option maxRecDepth 20000 in
theorem ggX6_both_X6_isValue : GoodIn wsX6_both wsX6_isValue := goodIn_r _ [9] (by decide +kernel) (by decide +kernel)
set_option maxRecDepth 20000 in
theorem gX6_both_X6_isValue : GoodIn wsX6_both (va_wsS RX6 107 yX6_isValue wsX6_isValue) := goodIn_app (goodIn_of _ (by decide +kernel)) ggX6_both_X6_isValue
set_option maxRecDepth 20000 in
theorem ggX6_both_X3_howMany : GoodIn wsX6_both wsX3_howMany := goodIn_r _ [14, 15, 16, 17, 18, 13, 19, 28, 29] (by decide +kernel) (by decide +kernel)
set_option maxRecDepth 20000 in
theorem gX6_both_X3_howMany : GoodIn wsX6_both (wsV RX6 110 RX3 yX3_howMany wsX3_howMany) := goodIn_app (goodIn_of _ (by decide +kernel)) ggX6_both_X3_howMany
theorem dX6_both_0 : decode cX6_both 0 = .ok (.iload_n 1, 1) := by decide +kernel
theorem dX6_both_1 : decode cX6_both 1 = .ok (.invokestatic 103, 3) := by decide +kernel
theorem dX6_both_4 : decode cX6_both 4 = .ok (.ifCond .eq 25, 3) := by decide +kernel
theorem dX6_both_7 : decode cX6_both 7 = .ok (.iload_n 2, 1) := by decide +kernel
theorem dX6_both_8 : decode cX6_both 8 = .ok (.invokestatic 107, 3) := by decide +kernel
theorem dX6_both_11 : decode cX6_both 11 = .ok (.ifCond .eq 18, 3) := by decide +kernel
theorem dX6_both_14 : decode cX6_both 14 = .ok (.iload_n 3, 1) := by decide +kernel
theorem dX6_both_15 : decode cX6_both 15 = .ok (.invokestatic 103, 3) := by decide +kernel
theorem dX6_both_18 : decode cX6_both 18 = .ok (.ifCond .eq 11, 3) := by decide +kernel
theorem dX6_both_21 : decode cX6_both 21 = .ok (.iload 4, 2) := by decide +kernel
theorem dX6_both_23 : decode cX6_both 23 = .ok (.invokestatic 107, 3) := by decide +kernel
theorem dX6_both_26 : decode cX6_both 26 = .ok (.ifCond .ne 6, 3) := by decide +kernel
theorem dX6_both_29 : decode cX6_both 29 = .ok (.bipush (-2), 2) := by decide +kernel
theorem dX6_both_31 : decode cX6_both 31 = .ok (.ireturn, 1) := by decide +kernel
theorem dX6_both_32 : decode cX6_both 32 = .ok (.aload_n 0, 1) := by decide +kernel
theorem dX6_both_33 : decode cX6_both 33 = .ok (.getfield 55, 3) := by decide +kernel
theorem dX6_both_36 : decode cX6_both 36 = .ok (.ifCond .eq 18, 3) := by decide +kernel
theorem dX6_both_39 : decode cX6_both 39 = .ok (.aload_n 0, 1) := by decide +kernel
theorem dX6_both_40 : decode cX6_both 40 = .ok (.getfield 35, 3) := by decide +kernel
theorem dX6_both_43 : decode cX6_both 43 = .ok (.iload_n 1, 1) := by decide +kernel
theorem dX6_both_44 : decode cX6_both 44 = .ok (.iload_n 2, 1) := by decide +kernel
theorem dX6_both_45 : decode cX6_both 45 = .ok (.iload_n 3, 1) := by decide +kernel
theorem dX6_both_46 : decode cX6_both 46 = .ok (.iload 4, 2) := by decide +kernel
theorem dX6_both_48 : decode cX6_both 48 = .ok (.invokevirtual 110, 3) := by decide +kernel
theorem dX6_both_51 : decode cX6_both 51 = .ok (.goto 4, 3) := by decide +kernel
theorem dX6_both_54 : decode cX6_both 54 = .ok (.iconst (-1), 1) := by decide +kernel
theorem dX6_both_55 : decode cX6_both 55 = .ok (.ireturn, 1) := by decide +kernel
set_option maxRecDepth 20000 in
theorem ggX6_is_X3_holds : GoodIn wsX6_is wsX3_holds := goodIn_r _ [7, 8, 9, 10, 11, 12, 6, 13, 22, 23] (by decide +kernel) (by decide +kernel)
set_option maxRecDepth 20000 in
theorem gX6_is_X3_holds : GoodIn wsX6_is (wsV RX6 113 RX3 yX3_holds wsX3_holds) := goodIn_app (goodIn_of _ (by decide +kernel)) ggX6_is_X3_holds
theorem dX6_is_0 : decode cX6_is 0 = .ok (.aload_n 0, 1) := by decide +kernel
theorem dX6_is_1 : decode cX6_is 1 = .ok (.getfield 55, 3) := by decide +kernel
theorem dX6_is_4 : decode cX6_is 4 = .ok (.ifCond .ne 5, 3) := by decide +kernel
theorem dX6_is_7 : decode cX6_is 7 = .ok (.iconst (-1), 1) := by decide +kernel
theorem dX6_is_8 : decode cX6_is 8 = .ok (.ireturn, 1) := by decide +kernel
theorem dX6_is_9 : decode cX6_is 9 = .ok (.aload_n 0, 1) := by decide +kernel
theorem dX6_is_10 : decode cX6_is 10 = .ok (.getfield 35, 3) := by decide +kernel
theorem dX6_is_13 : decode cX6_is 13 = .ok (.lload_n 1, 1) := by decide +kernel
theorem dX6_is_14 : decode cX6_is 14 = .ok (.invokevirtual 113, 3) := by decide +kernel
theorem dX6_is_17 : decode cX6_is 17 = .ok (.ifCond .eq 7, 3) := by decide +kernel
theorem dX6_is_20 : decode cX6_is 20 = .ok (.iconst 1, 1) := by decide +kernel
theorem dX6_is_21 : decode cX6_is 21 = .ok (.goto 4, 3) := by decide +kernel
theorem dX6_is_24 : decode cX6_is 24 = .ok (.iconst 0, 1) := by decide +kernel
theorem dX6_is_25 : decode cX6_is 25 = .ok (.ireturn, 1) := by decide +kernel
set_option maxRecDepth 20000 in
theorem ggX6_instruction_X4_has : GoodIn wsX6_instruction wsX4_has := goodIn_r _ [6, 7, 21, 22, 23, 24, 25] (by decide +kernel) (by decide +kernel)
set_option maxRecDepth 20000 in
theorem gX6_instruction_X4_has : GoodIn wsX6_instruction (wsV RX6 117 RX4 yX4_has wsX4_has) := goodIn_app (goodIn_of _ (by decide +kernel)) ggX6_instruction_X4_has
set_option maxRecDepth 20000 in
theorem ggX6_instruction_X4_row : GoodIn wsX6_instruction wsX4_row := goodIn_r _ [11, 12, 21, 22, 23, 24, 25] (by decide +kernel) (by decide +kernel)
set_option maxRecDepth 20000 in
theorem gX6_instruction_X4_row : GoodIn wsX6_instruction (wsV RX6 121 RX4 yX4_row wsX4_row) := goodIn_app (goodIn_of _ (by decide +kernel)) ggX6_instruction_X4_row
theorem dX6_instruction_0 : decode cX6_instruction 0 = .ok (.aload_n 0, 1) := by decide +kernel
theorem dX6_instruction_1 : decode cX6_instruction 1 = .ok (.getfield 10, 3) := by decide +kernel
theorem dX6_instruction_4 : decode cX6_instruction 4 = .ok (.iload_n 1, 1) := by decide +kernel
theorem dX6_instruction_5 : decode cX6_instruction 5 = .ok (.iload_n 2, 1) := by decide +kernel
theorem dX6_instruction_6 : decode cX6_instruction 6 = .ok (.invokevirtual 117, 3) := by decide +kernel
theorem dX6_instruction_9 : decode cX6_instruction 9 = .ok (.ifCond .ne 5, 3) := by decide +kernel
theorem dX6_instruction_12 : decode cX6_instruction 12 = .ok (.iconst (-1), 1) := by decide +kernel
theorem dX6_instruction_13 : decode cX6_instruction 13 = .ok (.ireturn, 1) := by decide +kernel
theorem dX6_instruction_14 : decode cX6_instruction 14 = .ok (.iload_n 3, 1) := by decide +kernel
theorem dX6_instruction_15 : decode cX6_instruction 15 = .ok (.ifCond .lt 23, 3) := by decide +kernel
theorem dX6_instruction_18 : decode cX6_instruction 18 = .ok (.iload_n 3, 1) := by decide +kernel
theorem dX6_instruction_19 : decode cX6_instruction 19 = .ok (.bipush 6, 2) := by decide +kernel
theorem dX6_instruction_21 : decode cX6_instruction 21 = .ok (.if_icmp .ge 17, 3) := by decide +kernel
theorem dX6_instruction_24 : decode cX6_instruction 24 = .ok (.aload_n 0, 1) := by decide +kernel
theorem dX6_instruction_25 : decode cX6_instruction 25 = .ok (.getfield 10, 3) := by decide +kernel
theorem dX6_instruction_28 : decode cX6_instruction 28 = .ok (.iload_n 1, 1) := by decide +kernel
theorem dX6_instruction_29 : decode cX6_instruction 29 = .ok (.iload_n 2, 1) := by decide +kernel
theorem dX6_instruction_30 : decode cX6_instruction 30 = .ok (.invokevirtual 121, 3) := by decide +kernel
theorem dX6_instruction_33 : decode cX6_instruction 33 = .ok (.iload_n 3, 1) := by decide +kernel
theorem dX6_instruction_34 : decode cX6_instruction 34 = .ok (.iaload, 1) := by decide +kernel
theorem dX6_instruction_35 : decode cX6_instruction 35 = .ok (.goto 5, 3) := by decide +kernel
theorem dX6_instruction_38 : decode cX6_instruction 38 = .ok (.bipush (-2), 2) := by decide +kernel
theorem dX6_instruction_40 : decode cX6_instruction 40 = .ok (.ireturn, 1) := by decide +kernel
set_option maxRecDepth 20000 in
theorem ggX6_count_X4_size : GoodIn wsX6_count wsX4_size := goodIn_r _ [10, 11, 36, 37, 38, 39, 40] (by decide +kernel) (by decide +kernel)
set_option maxRecDepth 20000 in
theorem gX6_count_X4_size : GoodIn wsX6_count (wsV RX6 125 RX4 yX4_size wsX4_size) := goodIn_app (goodIn_of _ (by decide +kernel)) ggX6_count_X4_size
set_option maxRecDepth 20000 in
theorem ggX6_count_X4_accesses : GoodIn wsX6_count wsX4_accesses := goodIn_r _ [15, 16, 36, 37, 38, 39, 40] (by decide +kernel) (by decide +kernel)
set_option maxRecDepth 20000 in
theorem gX6_count_X4_accesses : GoodIn wsX6_count (wsV RX6 126 RX4 yX4_accesses wsX4_accesses) := goodIn_app (goodIn_of _ (by decide +kernel)) ggX6_count_X4_accesses
set_option maxRecDepth 20000 in
theorem ggX6_count_X4_readers : GoodIn wsX6_count wsX4_readers := goodIn_r _ [20, 21, 36, 37, 38, 39, 40] (by decide +kernel) (by decide +kernel)
set_option maxRecDepth 20000 in
theorem gX6_count_X4_readers : GoodIn wsX6_count (wsV RX6 129 RX4 yX4_readers wsX4_readers) := goodIn_app (goodIn_of _ (by decide +kernel)) ggX6_count_X4_readers
set_option maxRecDepth 20000 in
theorem ggX6_count_X3_size : GoodIn wsX6_count wsX3_size := goodIn_r _ [26, 27, 41, 42] (by decide +kernel) (by decide +kernel)
set_option maxRecDepth 20000 in
theorem gX6_count_X3_size : GoodIn wsX6_count (wsV RX6 71 RX3 yX3_size wsX3_size) := goodIn_app (goodIn_of _ (by decide +kernel)) ggX6_count_X3_size
theorem dX6_count_0 : decode cX6_count 0 = .ok (.iload_n 1, 1) := by decide +kernel
theorem dX6_count_1 : decode cX6_count 1 = .ok (.tableswitch 103 0 5 #[39, 47, 55, 63, 82, 87], 39) := by decide +kernel
theorem dX6_count_40 : decode cX6_count 40 = .ok (.aload_n 0, 1) := by decide +kernel
theorem dX6_count_41 : decode cX6_count 41 = .ok (.getfield 10, 3) := by decide +kernel
theorem dX6_count_44 : decode cX6_count 44 = .ok (.invokevirtual 125, 3) := by decide +kernel
theorem dX6_count_47 : decode cX6_count 47 = .ok (.ireturn, 1) := by decide +kernel
theorem dX6_count_48 : decode cX6_count 48 = .ok (.aload_n 0, 1) := by decide +kernel
theorem dX6_count_49 : decode cX6_count 49 = .ok (.getfield 10, 3) := by decide +kernel
theorem dX6_count_52 : decode cX6_count 52 = .ok (.invokevirtual 126, 3) := by decide +kernel
theorem dX6_count_55 : decode cX6_count 55 = .ok (.ireturn, 1) := by decide +kernel
theorem dX6_count_56 : decode cX6_count 56 = .ok (.aload_n 0, 1) := by decide +kernel
theorem dX6_count_57 : decode cX6_count 57 = .ok (.getfield 10, 3) := by decide +kernel
theorem dX6_count_60 : decode cX6_count 60 = .ok (.invokevirtual 129, 3) := by decide +kernel
theorem dX6_count_63 : decode cX6_count 63 = .ok (.ireturn, 1) := by decide +kernel
theorem dX6_count_64 : decode cX6_count 64 = .ok (.aload_n 0, 1) := by decide +kernel
theorem dX6_count_65 : decode cX6_count 65 = .ok (.getfield 55, 3) := by decide +kernel
theorem dX6_count_68 : decode cX6_count 68 = .ok (.ifCond .eq 13, 3) := by decide +kernel
theorem dX6_count_71 : decode cX6_count 71 = .ok (.aload_n 0, 1) := by decide +kernel
theorem dX6_count_72 : decode cX6_count 72 = .ok (.getfield 35, 3) := by decide +kernel
theorem dX6_count_75 : decode cX6_count 75 = .ok (.invokevirtual 71, 3) := by decide +kernel
theorem dX6_count_78 : decode cX6_count 78 = .ok (.goto 4, 3) := by decide +kernel
theorem dX6_count_81 : decode cX6_count 81 = .ok (.iconst (-1), 1) := by decide +kernel
theorem dX6_count_82 : decode cX6_count 82 = .ok (.ireturn, 1) := by decide +kernel
theorem dX6_count_83 : decode cX6_count 83 = .ok (.aload_n 0, 1) := by decide +kernel
theorem dX6_count_84 : decode cX6_count 84 = .ok (.getfield 48, 3) := by decide +kernel
theorem dX6_count_87 : decode cX6_count 87 = .ok (.ireturn, 1) := by decide +kernel
theorem dX6_count_88 : decode cX6_count 88 = .ok (.aload_n 0, 1) := by decide +kernel
theorem dX6_count_89 : decode cX6_count 89 = .ok (.getfield 55, 3) := by decide +kernel
theorem dX6_count_92 : decode cX6_count 92 = .ok (.ifCond .eq 10, 3) := by decide +kernel
theorem dX6_count_95 : decode cX6_count 95 = .ok (.aload_n 0, 1) := by decide +kernel
theorem dX6_count_96 : decode cX6_count 96 = .ok (.getfield 52, 3) := by decide +kernel
theorem dX6_count_99 : decode cX6_count 99 = .ok (.goto 4, 3) := by decide +kernel
theorem dX6_count_102 : decode cX6_count 102 = .ok (.iconst (-1), 1) := by decide +kernel
theorem dX6_count_103 : decode cX6_count 103 = .ok (.ireturn, 1) := by decide +kernel
theorem dX6_count_104 : decode cX6_count 104 = .ok (.bipush (-2), 2) := by decide +kernel
theorem dX6_count_106 : decode cX6_count 106 = .ok (.ireturn, 1) := by decide +kernel
theorem dX6_isPart_0 : decode cX6_isPart 0 = .ok (.iload_n 0, 1) := by decide +kernel
theorem dX6_isPart_1 : decode cX6_isPart 1 = .ok (.ifCond .lt 13, 3) := by decide +kernel
theorem dX6_isPart_4 : decode cX6_isPart 4 = .ok (.iload_n 0, 1) := by decide +kernel
theorem dX6_isPart_5 : decode cX6_isPart 5 = .ok (.bipush 19, 2) := by decide +kernel
theorem dX6_isPart_7 : decode cX6_isPart 7 = .ok (.if_icmp .ge 7, 3) := by decide +kernel
theorem dX6_isPart_10 : decode cX6_isPart 10 = .ok (.iconst 1, 1) := by decide +kernel
theorem dX6_isPart_11 : decode cX6_isPart 11 = .ok (.goto 4, 3) := by decide +kernel
theorem dX6_isPart_14 : decode cX6_isPart 14 = .ok (.iconst 0, 1) := by decide +kernel
theorem dX6_isPart_15 : decode cX6_isPart 15 = .ok (.ireturn, 1) := by decide +kernel
theorem dX6_isValue_0 : decode cX6_isValue 0 = .ok (.iload_n 0, 1) := by decide +kernel
theorem dX6_isValue_1 : decode cX6_isValue 1 = .ok (.ifCond .lt 12, 3) := by decide +kernel
theorem dX6_isValue_4 : decode cX6_isValue 4 = .ok (.iload_n 0, 1) := by decide +kernel
theorem dX6_isValue_5 : decode cX6_isValue 5 = .ok (.iconst 4, 1) := by decide +kernel
theorem dX6_isValue_6 : decode cX6_isValue 6 = .ok (.if_icmp .ge 7, 3) := by decide +kernel
theorem dX6_isValue_9 : decode cX6_isValue 9 = .ok (.iconst 1, 1) := by decide +kernel
theorem dX6_isValue_10 : decode cX6_isValue 10 = .ok (.goto 4, 3) := by decide +kernel
theorem dX6_isValue_13 : decode cX6_isValue 13 = .ok (.iconst 0, 1) := by decide +kernel
theorem dX6_isValue_14 : decode cX6_isValue 14 = .ok (.ireturn, 1) := by decide +kernel
theorem dX6_isReader_0 : decode cX6_isReader 0 = .ok (.iload_n 0, 1) := by decide +kernel
theorem dX6_isReader_1 : decode cX6_isReader 1 = .ok (.ifCond .eq 18, 3) := by decide +kernel
theorem dX6_isReader_4 : decode cX6_isReader 4 = .ok (.iload_n 0, 1) := by decide +kernel
theorem dX6_isReader_5 : decode cX6_isReader 5 = .ok (.iconst 2, 1) := by decide +kernel
theorem dX6_isReader_6 : decode cX6_isReader 6 = .ok (.if_icmp .eq 13, 3) := by decide +kernel
theorem dX6_isReader_9 : decode cX6_isReader 9 = .ok (.iload_n 0, 1) := by decide +kernel
theorem dX6_isReader_10 : decode cX6_isReader 10 = .ok (.iconst 3, 1) := by decide +kernel
theorem dX6_isReader_11 : decode cX6_isReader 11 = .ok (.if_icmp .eq 8, 3) := by decide +kernel
theorem dX6_isReader_14 : decode cX6_isReader 14 = .ok (.iload_n 0, 1) := by decide +kernel
theorem dX6_isReader_15 : decode cX6_isReader 15 = .ok (.iconst 4, 1) := by decide +kernel
theorem dX6_isReader_16 : decode cX6_isReader 16 = .ok (.if_icmp .ne 7, 3) := by decide +kernel
theorem dX6_isReader_19 : decode cX6_isReader 19 = .ok (.iconst 1, 1) := by decide +kernel
theorem dX6_isReader_20 : decode cX6_isReader 20 = .ok (.goto 4, 3) := by decide +kernel
theorem dX6_isReader_23 : decode cX6_isReader 23 = .ok (.iconst 0, 1) := by decide +kernel
theorem dX6_isReader_24 : decode cX6_isReader 24 = .ok (.ireturn, 1) := by decide +kernel
theorem dX6_isWriter_0 : decode cX6_isWriter 0 = .ok (.iload_n 0, 1) := by decide +kernel
theorem dX6_isWriter_1 : decode cX6_isWriter 1 = .ok (.iconst 1, 1) := by decide +kernel
theorem dX6_isWriter_2 : decode cX6_isWriter 2 = .ok (.if_icmp .eq 18, 3) := by decide +kernel
theorem dX6_isWriter_5 : decode cX6_isWriter 5 = .ok (.iload_n 0, 1) := by decide +kernel
theorem dX6_isWriter_6 : decode cX6_isWriter 6 = .ok (.iconst 2, 1) := by decide +kernel
theorem dX6_isWriter_7 : decode cX6_isWriter 7 = .ok (.if_icmp .eq 13, 3) := by decide +kernel
theorem dX6_isWriter_10 : decode cX6_isWriter 10 = .ok (.iload_n 0, 1) := by decide +kernel
theorem dX6_isWriter_11 : decode cX6_isWriter 11 = .ok (.iconst 3, 1) := by decide +kernel
theorem dX6_isWriter_12 : decode cX6_isWriter 12 = .ok (.if_icmp .eq 8, 3) := by decide +kernel
theorem dX6_isWriter_15 : decode cX6_isWriter 15 = .ok (.iload_n 0, 1) := by decide +kernel
theorem dX6_isWriter_16 : decode cX6_isWriter 16 = .ok (.iconst 5, 1) := by decide +kernel
theorem dX6_isWriter_17 : decode cX6_isWriter 17 = .ok (.if_icmp .ne 7, 3) := by decide +kernel
theorem dX6_isWriter_20 : decode cX6_isWriter 20 = .ok (.iconst 1, 1) := by decide +kernel
theorem dX6_isWriter_21 : decode cX6_isWriter 21 = .ok (.goto 4, 3) := by decide +kernel
theorem dX6_isWriter_24 : decode cX6_isWriter 24 = .ok (.iconst 0, 1) := by decide +kernel
theorem dX6_isWriter_25 : decode cX6_isWriter 25 = .ok (.ireturn, 1) := by decide +kernel
set_option maxRecDepth 20000 in
theorem ggX6_isAccess_X6_isReader : GoodIn wsX6_isAccess wsX6_isReader := goodIn_r _ [4] (by decide +kernel) (by decide +kernel)
set_option maxRecDepth 20000 in
theorem gX6_isAccess_X6_isReader : GoodIn wsX6_isAccess (va_wsS RX6 132 yX6_isReader wsX6_isReader) := goodIn_app (goodIn_of _ (by decide +kernel)) ggX6_isAccess_X6_isReader
set_option maxRecDepth 20000 in
theorem ggX6_isAccess_X6_isWriter : GoodIn wsX6_isAccess wsX6_isWriter := goodIn_r _ [7] (by decide +kernel) (by decide +kernel)
set_option maxRecDepth 20000 in
theorem gX6_isAccess_X6_isWriter : GoodIn wsX6_isAccess (va_wsS RX6 135 yX6_isWriter wsX6_isWriter) := goodIn_app (goodIn_of _ (by decide +kernel)) ggX6_isAccess_X6_isWriter
theorem dX6_isAccess_0 : decode cX6_isAccess 0 = .ok (.iload_n 0, 1) := by decide +kernel
theorem dX6_isAccess_1 : decode cX6_isAccess 1 = .ok (.invokestatic 132, 3) := by decide +kernel
theorem dX6_isAccess_4 : decode cX6_isAccess 4 = .ok (.ifCond .ne 10, 3) := by decide +kernel
theorem dX6_isAccess_7 : decode cX6_isAccess 7 = .ok (.iload_n 0, 1) := by decide +kernel
theorem dX6_isAccess_8 : decode cX6_isAccess 8 = .ok (.invokestatic 135, 3) := by decide +kernel
theorem dX6_isAccess_11 : decode cX6_isAccess 11 = .ok (.ifCond .eq 7, 3) := by decide +kernel
theorem dX6_isAccess_14 : decode cX6_isAccess 14 = .ok (.iconst 1, 1) := by decide +kernel
theorem dX6_isAccess_15 : decode cX6_isAccess 15 = .ok (.goto 4, 3) := by decide +kernel
theorem dX6_isAccess_18 : decode cX6_isAccess 18 = .ok (.iconst 0, 1) := by decide +kernel
theorem dX6_isAccess_19 : decode cX6_isAccess 19 = .ok (.ireturn, 1) := by decide +kernel
theorem dX7_init_0 : decode cX7_init 0 = .ok (.aload_n 0, 1) := by decide +kernel
theorem dX7_init_1 : decode cX7_init 1 = .ok (.invokespecial 1, 3) := by decide +kernel
theorem dX7_init_4 : decode cX7_init 4 = .ok (.aload_n 0, 1) := by decide +kernel
theorem dX7_init_5 : decode cX7_init 5 = .ok (.sipush 144, 3) := by decide +kernel
theorem dX7_init_8 : decode cX7_init 8 = .ok (.newarray .int, 2) := by decide +kernel
theorem dX7_init_10 : decode cX7_init 10 = .ok (.putfield 7, 3) := by decide +kernel
theorem dX7_init_13 : decode cX7_init 13 = .ok (.aload_n 0, 1) := by decide +kernel
theorem dX7_init_14 : decode cX7_init 14 = .ok (.iconst 4, 1) := by decide +kernel
theorem dX7_init_15 : decode cX7_init 15 = .ok (.newarray .int, 2) := by decide +kernel
theorem dX7_init_17 : decode cX7_init 17 = .ok (.putfield 13, 3) := by decide +kernel
theorem dX7_init_20 : decode cX7_init 20 = .ok (.aload_n 0, 1) := by decide +kernel
theorem dX7_init_21 : decode cX7_init 21 = .ok (.ldc 16, 2) := by decide +kernel
theorem dX7_init_23 : decode cX7_init 23 = .ok (.newarray .long, 2) := by decide +kernel
theorem dX7_init_25 : decode cX7_init 25 = .ok (.putfield 17, 3) := by decide +kernel
theorem dX7_init_28 : decode cX7_init 28 = .ok (.aload_n 0, 1) := by decide +kernel
theorem dX7_init_29 : decode cX7_init 29 = .ok (.bipush 64, 2) := by decide +kernel
theorem dX7_init_31 : decode cX7_init 31 = .ok (.newarray .int, 2) := by decide +kernel
theorem dX7_init_33 : decode cX7_init 33 = .ok (.putfield 21, 3) := by decide +kernel
theorem dX7_init_36 : decode cX7_init 36 = .ok (.aload_n 0, 1) := by decide +kernel
theorem dX7_init_37 : decode cX7_init 37 = .ok (.bipush 64, 2) := by decide +kernel
theorem dX7_init_39 : decode cX7_init 39 = .ok (.newarray .int, 2) := by decide +kernel
theorem dX7_init_41 : decode cX7_init 41 = .ok (.putfield 24, 3) := by decide +kernel
theorem dX7_init_44 : decode cX7_init 44 = .ok (.aload_n 0, 1) := by decide +kernel
theorem dX7_init_45 : decode cX7_init 45 = .ok (.bipush 16, 2) := by decide +kernel
theorem dX7_init_47 : decode cX7_init 47 = .ok (.newarray .int, 2) := by decide +kernel
theorem dX7_init_49 : decode cX7_init 49 = .ok (.putfield 27, 3) := by decide +kernel
theorem dX7_init_52 : decode cX7_init 52 = .ok (.aload_n 0, 1) := by decide +kernel
theorem dX7_init_53 : decode cX7_init 53 = .ok (.bipush 16, 2) := by decide +kernel
theorem dX7_init_55 : decode cX7_init 55 = .ok (.newarray .int, 2) := by decide +kernel
theorem dX7_init_57 : decode cX7_init 57 = .ok (.putfield 30, 3) := by decide +kernel
theorem dX7_init_60 : decode cX7_init 60 = .ok (.aload_n 0, 1) := by decide +kernel
theorem dX7_init_61 : decode cX7_init 61 = .ok (.bipush 6, 2) := by decide +kernel
theorem dX7_init_63 : decode cX7_init 63 = .ok (.newarray .int, 2) := by decide +kernel
theorem dX7_init_65 : decode cX7_init 65 = .ok (.putfield 33, 3) := by decide +kernel
theorem dX7_init_68 : decode cX7_init 68 = .ok (.aload_n 0, 1) := by decide +kernel
theorem dX7_init_69 : decode cX7_init 69 = .ok (.bipush 6, 2) := by decide +kernel
theorem dX7_init_71 : decode cX7_init 71 = .ok (.newarray .int, 2) := by decide +kernel
theorem dX7_init_73 : decode cX7_init 73 = .ok (.putfield 36, 3) := by decide +kernel
theorem dX7_init_76 : decode cX7_init 76 = .ok (.aload_n 0, 1) := by decide +kernel
theorem dX7_init_77 : decode cX7_init 77 = .ok (.bipush 6, 2) := by decide +kernel
theorem dX7_init_79 : decode cX7_init 79 = .ok (.newarray .int, 2) := by decide +kernel
theorem dX7_init_81 : decode cX7_init 81 = .ok (.putfield 39, 3) := by decide +kernel
theorem dX7_init_84 : decode cX7_init 84 = .ok (.aload_n 0, 1) := by decide +kernel
theorem dX7_init_85 : decode cX7_init 85 = .ok (.bipush 6, 2) := by decide +kernel
theorem dX7_init_87 : decode cX7_init 87 = .ok (.newarray .int, 2) := by decide +kernel
theorem dX7_init_89 : decode cX7_init 89 = .ok (.putfield 42, 3) := by decide +kernel
theorem dX7_init_92 : decode cX7_init 92 = .ok (.aload_n 0, 1) := by decide +kernel
theorem dX7_init_93 : decode cX7_init 93 = .ok (.bipush 6, 2) := by decide +kernel
theorem dX7_init_95 : decode cX7_init 95 = .ok (.newarray .int, 2) := by decide +kernel
theorem dX7_init_97 : decode cX7_init 97 = .ok (.putfield 45, 3) := by decide +kernel
theorem dX7_init_100 : decode cX7_init 100 = .ok (.aload_n 0, 1) := by decide +kernel
theorem dX7_init_101 : decode cX7_init 101 = .ok (.bipush 6, 2) := by decide +kernel
theorem dX7_init_103 : decode cX7_init 103 = .ok (.newarray .int, 2) := by decide +kernel
theorem dX7_init_105 : decode cX7_init 105 = .ok (.putfield 48, 3) := by decide +kernel
theorem dX7_init_108 : decode cX7_init 108 = .ok (.aload_n 0, 1) := by decide +kernel
theorem dX7_init_109 : decode cX7_init 109 = .ok (.bipush 6, 2) := by decide +kernel
theorem dX7_init_111 : decode cX7_init 111 = .ok (.newarray .int, 2) := by decide +kernel
theorem dX7_init_113 : decode cX7_init 113 = .ok (.putfield 51, 3) := by decide +kernel
theorem dX7_init_116 : decode cX7_init 116 = .ok (.aload_n 0, 1) := by decide +kernel
theorem dX7_init_117 : decode cX7_init 117 = .ok (.bipush 6, 2) := by decide +kernel
theorem dX7_init_119 : decode cX7_init 119 = .ok (.newarray .int, 2) := by decide +kernel
theorem dX7_init_121 : decode cX7_init 121 = .ok (.putfield 54, 3) := by decide +kernel
theorem dX7_init_124 : decode cX7_init 124 = .ok (.aload_n 0, 1) := by decide +kernel
theorem dX7_init_125 : decode cX7_init 125 = .ok (.bipush 6, 2) := by decide +kernel
theorem dX7_init_127 : decode cX7_init 127 = .ok (.newarray .int, 2) := by decide +kernel
theorem dX7_init_129 : decode cX7_init 129 = .ok (.putfield 57, 3) := by decide +kernel
theorem dX7_init_132 : decode cX7_init 132 = .ok (.aload_n 0, 1) := by decide +kernel
theorem dX7_init_133 : decode cX7_init 133 = .ok (.bipush 6, 2) := by decide +kernel
theorem dX7_init_135 : decode cX7_init 135 = .ok (.newarray .int, 2) := by decide +kernel
theorem dX7_init_137 : decode cX7_init 137 = .ok (.putfield 60, 3) := by decide +kernel
theorem dX7_init_140 : decode cX7_init 140 = .ok (.aload_n 0, 1) := by decide +kernel
theorem dX7_init_141 : decode cX7_init 141 = .ok (.bipush 24, 2) := by decide +kernel
theorem dX7_init_143 : decode cX7_init 143 = .ok (.newarray .int, 2) := by decide +kernel
theorem dX7_init_145 : decode cX7_init 145 = .ok (.putfield 63, 3) := by decide +kernel
theorem dX7_init_148 : decode cX7_init 148 = .ok (.aload_n 0, 1) := by decide +kernel
theorem dX7_init_149 : decode cX7_init 149 = .ok (.bipush 24, 2) := by decide +kernel
theorem dX7_init_151 : decode cX7_init 151 = .ok (.newarray .int, 2) := by decide +kernel
theorem dX7_init_153 : decode cX7_init 153 = .ok (.putfield 66, 3) := by decide +kernel
theorem dX7_init_156 : decode cX7_init 156 = .ok (.aload_n 0, 1) := by decide +kernel
theorem dX7_init_157 : decode cX7_init 157 = .ok (.bipush 24, 2) := by decide +kernel
theorem dX7_init_159 : decode cX7_init 159 = .ok (.newarray .int, 2) := by decide +kernel
theorem dX7_init_161 : decode cX7_init 161 = .ok (.putfield 69, 3) := by decide +kernel
theorem dX7_init_164 : decode cX7_init 164 = .ok (.aload_n 0, 1) := by decide +kernel
theorem dX7_init_165 : decode cX7_init 165 = .ok (.bipush 24, 2) := by decide +kernel
theorem dX7_init_167 : decode cX7_init 167 = .ok (.newarray .int, 2) := by decide +kernel
theorem dX7_init_169 : decode cX7_init 169 = .ok (.putfield 72, 3) := by decide +kernel
theorem dX7_init_172 : decode cX7_init 172 = .ok (.aload_n 0, 1) := by decide +kernel
theorem dX7_init_173 : decode cX7_init 173 = .ok (.bipush 36, 2) := by decide +kernel
theorem dX7_init_175 : decode cX7_init 175 = .ok (.newarray .boolean, 2) := by decide +kernel
theorem dX7_init_177 : decode cX7_init 177 = .ok (.putfield 75, 3) := by decide +kernel
theorem dX7_init_180 : decode cX7_init 180 = .ok (.aload_n 0, 1) := by decide +kernel
theorem dX7_init_181 : decode cX7_init 181 = .ok (.bipush 6, 2) := by decide +kernel
theorem dX7_init_183 : decode cX7_init 183 = .ok (.newarray .int, 2) := by decide +kernel
theorem dX7_init_185 : decode cX7_init 185 = .ok (.putfield 79, 3) := by decide +kernel
theorem dX7_init_188 : decode cX7_init 188 = .ok (.aload_n 0, 1) := by decide +kernel
theorem dX7_init_189 : decode cX7_init 189 = .ok (.bipush 6, 2) := by decide +kernel
theorem dX7_init_191 : decode cX7_init 191 = .ok (.newarray .int, 2) := by decide +kernel
theorem dX7_init_193 : decode cX7_init 193 = .ok (.putfield 82, 3) := by decide +kernel
theorem dX7_init_196 : decode cX7_init 196 = .ok (.aload_n 0, 1) := by decide +kernel
theorem dX7_init_197 : decode cX7_init 197 = .ok (.bipush 6, 2) := by decide +kernel
theorem dX7_init_199 : decode cX7_init 199 = .ok (.newarray .int, 2) := by decide +kernel
theorem dX7_init_201 : decode cX7_init 201 = .ok (.putfield 85, 3) := by decide +kernel
theorem dX7_init_204 : decode cX7_init 204 = .ok (.aload_n 0, 1) := by decide +kernel
theorem dX7_init_205 : decode cX7_init 205 = .ok (.iconst 0, 1) := by decide +kernel
theorem dX7_init_206 : decode cX7_init 206 = .ok (.putfield 88, 3) := by decide +kernel
theorem dX7_init_209 : decode cX7_init 209 = .ok (.return_, 1) := by decide +kernel
theorem dX7_in_0 : decode cX7_in 0 = .ok (.iload_n 0, 1) := by decide +kernel
theorem dX7_in_1 : decode cX7_in 1 = .ok (.iload_n 1, 1) := by decide +kernel
theorem dX7_in_2 : decode cX7_in 2 = .ok (.if_icmp .lt 12, 3) := by decide +kernel
theorem dX7_in_5 : decode cX7_in 5 = .ok (.iload_n 0, 1) := by decide +kernel
theorem dX7_in_6 : decode cX7_in 6 = .ok (.iload_n 2, 1) := by decide +kernel
theorem dX7_in_7 : decode cX7_in 7 = .ok (.if_icmp .gt 7, 3) := by decide +kernel
theorem dX7_in_10 : decode cX7_in 10 = .ok (.iconst 1, 1) := by decide +kernel
theorem dX7_in_11 : decode cX7_in 11 = .ok (.goto 4, 3) := by decide +kernel
theorem dX7_in_14 : decode cX7_in 14 = .ok (.iconst 0, 1) := by decide +kernel
theorem dX7_in_15 : decode cX7_in 15 = .ok (.ireturn, 1) := by decide +kernel
theorem dX7_clear_0 : decode cX7_clear 0 = .ok (.iconst 0, 1) := by decide +kernel
theorem dX7_clear_1 : decode cX7_clear 1 = .ok (.istore_n 1, 1) := by decide +kernel
theorem dX7_clear_2 : decode cX7_clear 2 = .ok (.iconst 0, 1) := by decide +kernel
theorem dX7_clear_3 : decode cX7_clear 3 = .ok (.istore_n 2, 1) := by decide +kernel
theorem dX7_clear_4 : decode cX7_clear 4 = .ok (.iload_n 2, 1) := by decide +kernel
theorem dX7_clear_5 : decode cX7_clear 5 = .ok (.iconst 4, 1) := by decide +kernel
theorem dX7_clear_6 : decode cX7_clear 6 = .ok (.if_icmp .ge 25, 3) := by decide +kernel
theorem dX7_clear_9 : decode cX7_clear 9 = .ok (.iload_n 1, 1) := by decide +kernel
theorem dX7_clear_10 : decode cX7_clear 10 = .ok (.aload_n 0, 1) := by decide +kernel
theorem dX7_clear_11 : decode cX7_clear 11 = .ok (.getfield 13, 3) := by decide +kernel
theorem dX7_clear_14 : decode cX7_clear 14 = .ok (.iload_n 2, 1) := by decide +kernel
theorem dX7_clear_15 : decode cX7_clear 15 = .ok (.iaload, 1) := by decide +kernel
theorem dX7_clear_16 : decode cX7_clear 16 = .ok (.iadd, 1) := by decide +kernel
theorem dX7_clear_17 : decode cX7_clear 17 = .ok (.istore_n 1, 1) := by decide +kernel
theorem dX7_clear_18 : decode cX7_clear 18 = .ok (.aload_n 0, 1) := by decide +kernel
theorem dX7_clear_19 : decode cX7_clear 19 = .ok (.getfield 13, 3) := by decide +kernel
theorem dX7_clear_22 : decode cX7_clear 22 = .ok (.iload_n 2, 1) := by decide +kernel
theorem dX7_clear_23 : decode cX7_clear 23 = .ok (.iconst 0, 1) := by decide +kernel
theorem dX7_clear_24 : decode cX7_clear 24 = .ok (.iastore, 1) := by decide +kernel
theorem dX7_clear_25 : decode cX7_clear 25 = .ok (.iinc 2 1, 3) := by decide +kernel
theorem dX7_clear_28 : decode cX7_clear 28 = .ok (.goto (-24), 3) := by decide +kernel
theorem dX7_clear_31 : decode cX7_clear 31 = .ok (.aload_n 0, 1) := by decide +kernel
theorem dX7_clear_32 : decode cX7_clear 32 = .ok (.iconst 0, 1) := by decide +kernel
theorem dX7_clear_33 : decode cX7_clear 33 = .ok (.putfield 92, 3) := by decide +kernel
theorem dX7_clear_36 : decode cX7_clear 36 = .ok (.iload_n 1, 1) := by decide +kernel
theorem dX7_clear_37 : decode cX7_clear 37 = .ok (.ireturn, 1) := by decide +kernel
set_option maxRecDepth 20000 in
theorem ggX7_model_X7_in : GoodIn wsX7_model wsX7_in := goodIn_r _ [6] (by decide +kernel) (by decide +kernel)
set_option maxRecDepth 20000 in
theorem gX7_model_X7_in : GoodIn wsX7_model (va_wsS RX7 96 yX7_in wsX7_in) := goodIn_app (goodIn_of _ (by decide +kernel)) ggX7_model_X7_in
theorem dX7_model_0 : decode cX7_model 0 = .ok (.iload_n 1, 1) := by decide +kernel
theorem dX7_model_1 : decode cX7_model 1 = .ok (.iconst 0, 1) := by decide +kernel
theorem dX7_model_2 : decode cX7_model 2 = .ok (.iconst 2, 1) := by decide +kernel
theorem dX7_model_3 : decode cX7_model 3 = .ok (.invokestatic 96, 3) := by decide +kernel
theorem dX7_model_6 : decode cX7_model 6 = .ok (.ifCond .ne 6, 3) := by decide +kernel
theorem dX7_model_9 : decode cX7_model 9 = .ok (.bipush (-2), 2) := by decide +kernel
theorem dX7_model_11 : decode cX7_model 11 = .ok (.ireturn, 1) := by decide +kernel
theorem dX7_model_12 : decode cX7_model 12 = .ok (.aload_n 0, 1) := by decide +kernel
theorem dX7_model_13 : decode cX7_model 13 = .ok (.getfield 88, 3) := by decide +kernel
theorem dX7_model_16 : decode cX7_model 16 = .ok (.istore_n 2, 1) := by decide +kernel
theorem dX7_model_17 : decode cX7_model 17 = .ok (.aload_n 0, 1) := by decide +kernel
theorem dX7_model_18 : decode cX7_model 18 = .ok (.iload_n 1, 1) := by decide +kernel
theorem dX7_model_19 : decode cX7_model 19 = .ok (.putfield 88, 3) := by decide +kernel
theorem dX7_model_22 : decode cX7_model 22 = .ok (.aload_n 0, 1) := by decide +kernel
theorem dX7_model_23 : decode cX7_model 23 = .ok (.iconst 0, 1) := by decide +kernel
theorem dX7_model_24 : decode cX7_model 24 = .ok (.putfield 92, 3) := by decide +kernel
theorem dX7_model_27 : decode cX7_model 27 = .ok (.iload_n 2, 1) := by decide +kernel
theorem dX7_model_28 : decode cX7_model 28 = .ok (.ireturn, 1) := by decide +kernel
set_option maxRecDepth 20000 in
theorem ggX7_isRegister_X7_in : GoodIn wsX7_isRegister wsX7_in := goodIn_r _ [4] (by decide +kernel) (by decide +kernel)
set_option maxRecDepth 20000 in
theorem gX7_isRegister_X7_in : GoodIn wsX7_isRegister (va_wsS RX7 96 yX7_in wsX7_in) := goodIn_app (goodIn_of _ (by decide +kernel)) ggX7_isRegister_X7_in
theorem dX7_isRegister_0 : decode cX7_isRegister 0 = .ok (.iload_n 0, 1) := by decide +kernel
theorem dX7_isRegister_1 : decode cX7_isRegister 1 = .ok (.iconst 0, 1) := by decide +kernel
theorem dX7_isRegister_2 : decode cX7_isRegister 2 = .ok (.iconst 3, 1) := by decide +kernel
theorem dX7_isRegister_3 : decode cX7_isRegister 3 = .ok (.invokestatic 96, 3) := by decide +kernel
theorem dX7_isRegister_6 : decode cX7_isRegister 6 = .ok (.ireturn, 1) := by decide +kernel
set_option maxRecDepth 20000 in
theorem ggX7_isPlace_X7_in : GoodIn wsX7_isPlace wsX7_in := goodIn_r _ [4] (by decide +kernel) (by decide +kernel)
set_option maxRecDepth 20000 in
theorem gX7_isPlace_X7_in : GoodIn wsX7_isPlace (va_wsS RX7 96 yX7_in wsX7_in) := goodIn_app (goodIn_of _ (by decide +kernel)) ggX7_isPlace_X7_in
theorem dX7_isPlace_0 : decode cX7_isPlace 0 = .ok (.iload_n 0, 1) := by decide +kernel
theorem dX7_isPlace_1 : decode cX7_isPlace 1 = .ok (.iconst 0, 1) := by decide +kernel
theorem dX7_isPlace_2 : decode cX7_isPlace 2 = .ok (.iconst 2, 1) := by decide +kernel
theorem dX7_isPlace_3 : decode cX7_isPlace 3 = .ok (.invokestatic 96, 3) := by decide +kernel
theorem dX7_isPlace_6 : decode cX7_isPlace 6 = .ok (.ifCond .eq 16, 3) := by decide +kernel
theorem dX7_isPlace_9 : decode cX7_isPlace 9 = .ok (.iload_n 1, 1) := by decide +kernel
theorem dX7_isPlace_10 : decode cX7_isPlace 10 = .ok (.iconst (-1), 1) := by decide +kernel
theorem dX7_isPlace_11 : decode cX7_isPlace 11 = .ok (.iconst 3, 1) := by decide +kernel
theorem dX7_isPlace_12 : decode cX7_isPlace 12 = .ok (.invokestatic 96, 3) := by decide +kernel
theorem dX7_isPlace_15 : decode cX7_isPlace 15 = .ok (.ifCond .eq 7, 3) := by decide +kernel
theorem dX7_isPlace_18 : decode cX7_isPlace 18 = .ok (.iconst 1, 1) := by decide +kernel
theorem dX7_isPlace_19 : decode cX7_isPlace 19 = .ok (.goto 4, 3) := by decide +kernel
theorem dX7_isPlace_22 : decode cX7_isPlace 22 = .ok (.iconst 0, 1) := by decide +kernel
theorem dX7_isPlace_23 : decode cX7_isPlace 23 = .ok (.ireturn, 1) := by decide +kernel
set_option maxRecDepth 20000 in
theorem ggX7_isGood_X7_isRegister : GoodIn wsX7_isGood wsX7_isRegister := goodIn_r _ [4, 5, 6, 3, 7] (by decide +kernel) (by decide +kernel)
set_option maxRecDepth 20000 in
theorem gX7_isGood_X7_isRegister : GoodIn wsX7_isGood (va_wsS RX7 100 yX7_isRegister wsX7_isRegister) := goodIn_app (goodIn_of _ (by decide +kernel)) ggX7_isGood_X7_isRegister
set_option maxRecDepth 20000 in
theorem ggX7_isGood_X7_isPlace : GoodIn wsX7_isGood wsX7_isPlace := goodIn_r _ [10, 5, 6, 3, 7] (by decide +kernel) (by decide +kernel)
set_option maxRecDepth 20000 in
theorem gX7_isGood_X7_isPlace : GoodIn wsX7_isGood (va_wsS RX7 104 yX7_isPlace wsX7_isPlace) := goodIn_app (goodIn_of _ (by decide +kernel)) ggX7_isGood_X7_isPlace
set_option maxRecDepth 20000 in
theorem ggX7_isGood_X7_in : GoodIn wsX7_isGood wsX7_in := goodIn_r _ [7] (by decide +kernel) (by decide +kernel)
set_option maxRecDepth 20000 in
theorem gX7_isGood_X7_in : GoodIn wsX7_isGood (va_wsS RX7 96 yX7_in wsX7_in) := goodIn_app (goodIn_of _ (by decide +kernel)) ggX7_isGood_X7_in
theorem dX7_isGood_0 : decode cX7_isGood 0 = .ok (.iload_n 0, 1) := by decide +kernel
theorem dX7_isGood_1 : decode cX7_isGood 1 = .ok (.tableswitch 241 0 10 #[59, 97, 129, 129, 59, 129, 168, 168, 192, 192, 219], 59) := by decide +kernel
theorem dX7_isGood_60 : decode cX7_isGood 60 = .ok (.iload_n 1, 1) := by decide +kernel
theorem dX7_isGood_61 : decode cX7_isGood 61 = .ok (.invokestatic 100, 3) := by decide +kernel
theorem dX7_isGood_64 : decode cX7_isGood 64 = .ok (.ifCond .eq 32, 3) := by decide +kernel
end
section
theorem dX7_isGood_67 : decode cX7_isGood 67 = .ok (.iload_n 2, 1) := by decide +kernel
theorem dX7_isGood_68 : decode cX7_isGood 68 = .ok (.iload_n 3, 1) := by decide +kernel
theorem dX7_isGood_69 : decode cX7_isGood 69 = .ok (.invokestatic 104, 3) := by decide +kernel
theorem dX7_isGood_72 : decode cX7_isGood 72 = .ok (.ifCond .eq 24, 3) := by decide +kernel
theorem dX7_isGood_75 : decode cX7_isGood 75 = .ok (.iload 4, 2) := by decide +kernel
theorem dX7_isGood_77 : decode cX7_isGood 77 = .ok (.ifCond .eq 15, 3) := by decide +kernel
theorem dX7_isGood_80 : decode cX7_isGood 80 = .ok (.iload 4, 2) := by decide +kernel
theorem dX7_isGood_82 : decode cX7_isGood 82 = .ok (.iconst 1, 1) := by decide +kernel
theorem dX7_isGood_83 : decode cX7_isGood 83 = .ok (.if_icmp .eq 9, 3) := by decide +kernel
theorem dX7_isGood_86 : decode cX7_isGood 86 = .ok (.iload 4, 2) := by decide +kernel
theorem dX7_isGood_88 : decode cX7_isGood 88 = .ok (.iconst 3, 1) := by decide +kernel
theorem dX7_isGood_89 : decode cX7_isGood 89 = .ok (.if_icmp .ne 7, 3) := by decide +kernel
theorem dX7_isGood_92 : decode cX7_isGood 92 = .ok (.iconst 1, 1) := by decide +kernel
theorem dX7_isGood_93 : decode cX7_isGood 93 = .ok (.goto 4, 3) := by decide +kernel
theorem dX7_isGood_96 : decode cX7_isGood 96 = .ok (.iconst 0, 1) := by decide +kernel
theorem dX7_isGood_97 : decode cX7_isGood 97 = .ok (.ireturn, 1) := by decide +kernel
theorem dX7_isGood_98 : decode cX7_isGood 98 = .ok (.iload_n 1, 1) := by decide +kernel
theorem dX7_isGood_99 : decode cX7_isGood 99 = .ok (.invokestatic 100, 3) := by decide +kernel
theorem dX7_isGood_102 : decode cX7_isGood 102 = .ok (.ifCond .eq 26, 3) := by decide +kernel
theorem dX7_isGood_105 : decode cX7_isGood 105 = .ok (.iload_n 2, 1) := by decide +kernel
theorem dX7_isGood_106 : decode cX7_isGood 106 = .ok (.iload_n 3, 1) := by decide +kernel
theorem dX7_isGood_107 : decode cX7_isGood 107 = .ok (.invokestatic 104, 3) := by decide +kernel
theorem dX7_isGood_110 : decode cX7_isGood 110 = .ok (.ifCond .eq 18, 3) := by decide +kernel
theorem dX7_isGood_113 : decode cX7_isGood 113 = .ok (.iload 4, 2) := by decide +kernel
theorem dX7_isGood_115 : decode cX7_isGood 115 = .ok (.ifCond .eq 9, 3) := by decide +kernel
theorem dX7_isGood_118 : decode cX7_isGood 118 = .ok (.iload 4, 2) := by decide +kernel
theorem dX7_isGood_120 : decode cX7_isGood 120 = .ok (.iconst 2, 1) := by decide +kernel
theorem dX7_isGood_121 : decode cX7_isGood 121 = .ok (.if_icmp .ne 7, 3) := by decide +kernel
theorem dX7_isGood_124 : decode cX7_isGood 124 = .ok (.iconst 1, 1) := by decide +kernel
theorem dX7_isGood_125 : decode cX7_isGood 125 = .ok (.goto 4, 3) := by decide +kernel
theorem dX7_isGood_128 : decode cX7_isGood 128 = .ok (.iconst 0, 1) := by decide +kernel
theorem dX7_isGood_129 : decode cX7_isGood 129 = .ok (.ireturn, 1) := by decide +kernel
theorem dX7_isGood_130 : decode cX7_isGood 130 = .ok (.iload_n 1, 1) := by decide +kernel
theorem dX7_isGood_131 : decode cX7_isGood 131 = .ok (.invokestatic 100, 3) := by decide +kernel
theorem dX7_isGood_134 : decode cX7_isGood 134 = .ok (.ifCond .eq 33, 3) := by decide +kernel
theorem dX7_isGood_137 : decode cX7_isGood 137 = .ok (.iload_n 2, 1) := by decide +kernel
theorem dX7_isGood_138 : decode cX7_isGood 138 = .ok (.invokestatic 100, 3) := by decide +kernel
theorem dX7_isGood_141 : decode cX7_isGood 141 = .ok (.ifCond .eq 26, 3) := by decide +kernel
theorem dX7_isGood_144 : decode cX7_isGood 144 = .ok (.iload_n 3, 1) := by decide +kernel
theorem dX7_isGood_145 : decode cX7_isGood 145 = .ok (.iload 4, 2) := by decide +kernel
theorem dX7_isGood_147 : decode cX7_isGood 147 = .ok (.invokestatic 104, 3) := by decide +kernel
theorem dX7_isGood_150 : decode cX7_isGood 150 = .ok (.ifCond .eq 17, 3) := by decide +kernel
theorem dX7_isGood_153 : decode cX7_isGood 153 = .ok (.iload 5, 2) := by decide +kernel
theorem dX7_isGood_155 : decode cX7_isGood 155 = .ok (.iconst 0, 1) := by decide +kernel
theorem dX7_isGood_156 : decode cX7_isGood 156 = .ok (.iconst 3, 1) := by decide +kernel
theorem dX7_isGood_157 : decode cX7_isGood 157 = .ok (.invokestatic 96, 3) := by decide +kernel
theorem dX7_isGood_160 : decode cX7_isGood 160 = .ok (.ifCond .eq 7, 3) := by decide +kernel
theorem dX7_isGood_163 : decode cX7_isGood 163 = .ok (.iconst 1, 1) := by decide +kernel
theorem dX7_isGood_164 : decode cX7_isGood 164 = .ok (.goto 4, 3) := by decide +kernel
theorem dX7_isGood_167 : decode cX7_isGood 167 = .ok (.iconst 0, 1) := by decide +kernel
theorem dX7_isGood_168 : decode cX7_isGood 168 = .ok (.ireturn, 1) := by decide +kernel
theorem dX7_isGood_169 : decode cX7_isGood 169 = .ok (.iload_n 1, 1) := by decide +kernel
theorem dX7_isGood_170 : decode cX7_isGood 170 = .ok (.iconst 0, 1) := by decide +kernel
theorem dX7_isGood_171 : decode cX7_isGood 171 = .ok (.iconst 3, 1) := by decide +kernel
theorem dX7_isGood_172 : decode cX7_isGood 172 = .ok (.invokestatic 96, 3) := by decide +kernel
theorem dX7_isGood_175 : decode cX7_isGood 175 = .ok (.ifCond .eq 16, 3) := by decide +kernel
theorem dX7_isGood_178 : decode cX7_isGood 178 = .ok (.iload_n 2, 1) := by decide +kernel
theorem dX7_isGood_179 : decode cX7_isGood 179 = .ok (.iconst 0, 1) := by decide +kernel
theorem dX7_isGood_180 : decode cX7_isGood 180 = .ok (.iconst 3, 1) := by decide +kernel
theorem dX7_isGood_181 : decode cX7_isGood 181 = .ok (.invokestatic 96, 3) := by decide +kernel
theorem dX7_isGood_184 : decode cX7_isGood 184 = .ok (.ifCond .eq 7, 3) := by decide +kernel
theorem dX7_isGood_187 : decode cX7_isGood 187 = .ok (.iconst 1, 1) := by decide +kernel
theorem dX7_isGood_188 : decode cX7_isGood 188 = .ok (.goto 4, 3) := by decide +kernel
theorem dX7_isGood_191 : decode cX7_isGood 191 = .ok (.iconst 0, 1) := by decide +kernel
theorem dX7_isGood_192 : decode cX7_isGood 192 = .ok (.ireturn, 1) := by decide +kernel
theorem dX7_isGood_193 : decode cX7_isGood 193 = .ok (.iload_n 1, 1) := by decide +kernel
theorem dX7_isGood_194 : decode cX7_isGood 194 = .ok (.invokestatic 100, 3) := by decide +kernel
theorem dX7_isGood_197 : decode cX7_isGood 197 = .ok (.ifCond .eq 21, 3) := by decide +kernel
theorem dX7_isGood_200 : decode cX7_isGood 200 = .ok (.iload_n 2, 1) := by decide +kernel
theorem dX7_isGood_201 : decode cX7_isGood 201 = .ok (.invokestatic 100, 3) := by decide +kernel
theorem dX7_isGood_204 : decode cX7_isGood 204 = .ok (.ifCond .eq 14, 3) := by decide +kernel
theorem dX7_isGood_207 : decode cX7_isGood 207 = .ok (.iload_n 3, 1) := by decide +kernel
theorem dX7_isGood_208 : decode cX7_isGood 208 = .ok (.invokestatic 100, 3) := by decide +kernel
theorem dX7_isGood_211 : decode cX7_isGood 211 = .ok (.ifCond .eq 7, 3) := by decide +kernel
theorem dX7_isGood_214 : decode cX7_isGood 214 = .ok (.iconst 1, 1) := by decide +kernel
theorem dX7_isGood_215 : decode cX7_isGood 215 = .ok (.goto 4, 3) := by decide +kernel
theorem dX7_isGood_218 : decode cX7_isGood 218 = .ok (.iconst 0, 1) := by decide +kernel
theorem dX7_isGood_219 : decode cX7_isGood 219 = .ok (.ireturn, 1) := by decide +kernel
theorem dX7_isGood_220 : decode cX7_isGood 220 = .ok (.iload_n 1, 1) := by decide +kernel
theorem dX7_isGood_221 : decode cX7_isGood 221 = .ok (.invokestatic 100, 3) := by decide +kernel
theorem dX7_isGood_224 : decode cX7_isGood 224 = .ok (.ifCond .eq 16, 3) := by decide +kernel
theorem dX7_isGood_227 : decode cX7_isGood 227 = .ok (.iload_n 2, 1) := by decide +kernel
theorem dX7_isGood_228 : decode cX7_isGood 228 = .ok (.iconst 1, 1) := by decide +kernel
theorem dX7_isGood_229 : decode cX7_isGood 229 = .ok (.iconst 5, 1) := by decide +kernel
theorem dX7_isGood_230 : decode cX7_isGood 230 = .ok (.invokestatic 96, 3) := by decide +kernel
theorem dX7_isGood_233 : decode cX7_isGood 233 = .ok (.ifCond .eq 7, 3) := by decide +kernel
theorem dX7_isGood_236 : decode cX7_isGood 236 = .ok (.iconst 1, 1) := by decide +kernel
theorem dX7_isGood_237 : decode cX7_isGood 237 = .ok (.goto 4, 3) := by decide +kernel
theorem dX7_isGood_240 : decode cX7_isGood 240 = .ok (.iconst 0, 1) := by decide +kernel
theorem dX7_isGood_241 : decode cX7_isGood 241 = .ok (.ireturn, 1) := by decide +kernel
theorem dX7_isGood_242 : decode cX7_isGood 242 = .ok (.iconst 0, 1) := by decide +kernel
theorem dX7_isGood_243 : decode cX7_isGood 243 = .ok (.ireturn, 1) := by decide +kernel
theorem dX7_numbersOf_0 : decode cX7_numbersOf 0 = .ok (.iload_n 0, 1) := by decide +kernel
theorem dX7_numbersOf_1 : decode cX7_numbersOf 1 = .ok (.iconst 2, 1) := by decide +kernel
theorem dX7_numbersOf_2 : decode cX7_numbersOf 2 = .ok (.if_icmp .eq 13, 3) := by decide +kernel
theorem dX7_numbersOf_5 : decode cX7_numbersOf 5 = .ok (.iload_n 0, 1) := by decide +kernel
theorem dX7_numbersOf_6 : decode cX7_numbersOf 6 = .ok (.iconst 3, 1) := by decide +kernel
theorem dX7_numbersOf_7 : decode cX7_numbersOf 7 = .ok (.if_icmp .eq 8, 3) := by decide +kernel
theorem dX7_numbersOf_10 : decode cX7_numbersOf 10 = .ok (.iload_n 0, 1) := by decide +kernel
theorem dX7_numbersOf_11 : decode cX7_numbersOf 11 = .ok (.iconst 5, 1) := by decide +kernel
theorem dX7_numbersOf_12 : decode cX7_numbersOf 12 = .ok (.if_icmp .ne 7, 3) := by decide +kernel
theorem dX7_numbersOf_15 : decode cX7_numbersOf 15 = .ok (.iconst 5, 1) := by decide +kernel
theorem dX7_numbersOf_16 : decode cX7_numbersOf 16 = .ok (.goto 30, 3) := by decide +kernel
theorem dX7_numbersOf_19 : decode cX7_numbersOf 19 = .ok (.iload_n 0, 1) := by decide +kernel
theorem dX7_numbersOf_20 : decode cX7_numbersOf 20 = .ok (.bipush 6, 2) := by decide +kernel
theorem dX7_numbersOf_22 : decode cX7_numbersOf 22 = .ok (.if_icmp .ge 7, 3) := by decide +kernel
theorem dX7_numbersOf_25 : decode cX7_numbersOf 25 = .ok (.iconst 4, 1) := by decide +kernel
theorem dX7_numbersOf_26 : decode cX7_numbersOf 26 = .ok (.goto 20, 3) := by decide +kernel
theorem dX7_numbersOf_29 : decode cX7_numbersOf 29 = .ok (.iload_n 0, 1) := by decide +kernel
theorem dX7_numbersOf_30 : decode cX7_numbersOf 30 = .ok (.bipush 8, 2) := by decide +kernel
theorem dX7_numbersOf_32 : decode cX7_numbersOf 32 = .ok (.if_icmp .eq 9, 3) := by decide +kernel
theorem dX7_numbersOf_35 : decode cX7_numbersOf 35 = .ok (.iload_n 0, 1) := by decide +kernel
theorem dX7_numbersOf_36 : decode cX7_numbersOf 36 = .ok (.bipush 9, 2) := by decide +kernel
theorem dX7_numbersOf_38 : decode cX7_numbersOf 38 = .ok (.if_icmp .ne 7, 3) := by decide +kernel
theorem dX7_numbersOf_41 : decode cX7_numbersOf 41 = .ok (.iconst 3, 1) := by decide +kernel
theorem dX7_numbersOf_42 : decode cX7_numbersOf 42 = .ok (.goto 4, 3) := by decide +kernel
theorem dX7_numbersOf_45 : decode cX7_numbersOf 45 = .ok (.iconst 2, 1) := by decide +kernel
theorem dX7_numbersOf_46 : decode cX7_numbersOf 46 = .ok (.ireturn, 1) := by decide +kernel
theorem dX7_isReading_0 : decode cX7_isReading 0 = .ok (.iload_n 0, 1) := by decide +kernel
theorem dX7_isReading_1 : decode cX7_isReading 1 = .ok (.ifCond .eq 18, 3) := by decide +kernel
theorem dX7_isReading_4 : decode cX7_isReading 4 = .ok (.iload_n 0, 1) := by decide +kernel
theorem dX7_isReading_5 : decode cX7_isReading 5 = .ok (.iconst 2, 1) := by decide +kernel
theorem dX7_isReading_6 : decode cX7_isReading 6 = .ok (.if_icmp .eq 13, 3) := by decide +kernel
theorem dX7_isReading_9 : decode cX7_isReading 9 = .ok (.iload_n 0, 1) := by decide +kernel
theorem dX7_isReading_10 : decode cX7_isReading 10 = .ok (.iconst 3, 1) := by decide +kernel
theorem dX7_isReading_11 : decode cX7_isReading 11 = .ok (.if_icmp .eq 8, 3) := by decide +kernel
theorem dX7_isReading_14 : decode cX7_isReading 14 = .ok (.iload_n 0, 1) := by decide +kernel
theorem dX7_isReading_15 : decode cX7_isReading 15 = .ok (.iconst 4, 1) := by decide +kernel
theorem dX7_isReading_16 : decode cX7_isReading 16 = .ok (.if_icmp .ne 7, 3) := by decide +kernel
theorem dX7_isReading_19 : decode cX7_isReading 19 = .ok (.iconst 1, 1) := by decide +kernel
theorem dX7_isReading_20 : decode cX7_isReading 20 = .ok (.goto 4, 3) := by decide +kernel
theorem dX7_isReading_23 : decode cX7_isReading 23 = .ok (.iconst 0, 1) := by decide +kernel
theorem dX7_isReading_24 : decode cX7_isReading 24 = .ok (.ireturn, 1) := by decide +kernel
theorem dX7_isWriting_0 : decode cX7_isWriting 0 = .ok (.iload_n 0, 1) := by decide +kernel
theorem dX7_isWriting_1 : decode cX7_isWriting 1 = .ok (.iconst 1, 1) := by decide +kernel
theorem dX7_isWriting_2 : decode cX7_isWriting 2 = .ok (.if_icmp .eq 18, 3) := by decide +kernel
theorem dX7_isWriting_5 : decode cX7_isWriting 5 = .ok (.iload_n 0, 1) := by decide +kernel
theorem dX7_isWriting_6 : decode cX7_isWriting 6 = .ok (.iconst 2, 1) := by decide +kernel
theorem dX7_isWriting_7 : decode cX7_isWriting 7 = .ok (.if_icmp .eq 13, 3) := by decide +kernel
theorem dX7_isWriting_10 : decode cX7_isWriting 10 = .ok (.iload_n 0, 1) := by decide +kernel
theorem dX7_isWriting_11 : decode cX7_isWriting 11 = .ok (.iconst 3, 1) := by decide +kernel
theorem dX7_isWriting_12 : decode cX7_isWriting 12 = .ok (.if_icmp .eq 8, 3) := by decide +kernel
theorem dX7_isWriting_15 : decode cX7_isWriting 15 = .ok (.iload_n 0, 1) := by decide +kernel
theorem dX7_isWriting_16 : decode cX7_isWriting 16 = .ok (.iconst 5, 1) := by decide +kernel
theorem dX7_isWriting_17 : decode cX7_isWriting 17 = .ok (.if_icmp .ne 7, 3) := by decide +kernel
theorem dX7_isWriting_20 : decode cX7_isWriting 20 = .ok (.iconst 1, 1) := by decide +kernel
theorem dX7_isWriting_21 : decode cX7_isWriting 21 = .ok (.goto 4, 3) := by decide +kernel
theorem dX7_isWriting_24 : decode cX7_isWriting 24 = .ok (.iconst 0, 1) := by decide +kernel
theorem dX7_isWriting_25 : decode cX7_isWriting 25 = .ok (.ireturn, 1) := by decide +kernel
set_option maxRecDepth 20000 in
theorem ggX7_instructions_X7_isReading : GoodIn wsX7_instructions wsX7_isReading := goodIn_r _ [6] (by decide +kernel) (by decide +kernel)
set_option maxRecDepth 20000 in
theorem gX7_instructions_X7_isReading : GoodIn wsX7_instructions (va_wsS RX7 108 yX7_isReading wsX7_isReading) := goodIn_app (goodIn_of _ (by decide +kernel)) ggX7_instructions_X7_isReading
theorem dX7_instructions_0 : decode cX7_instructions 0 = .ok (.iconst 0, 1) := by decide +kernel
theorem dX7_instructions_1 : decode cX7_instructions 1 = .ok (.istore_n 2, 1) := by decide +kernel
theorem dX7_instructions_2 : decode cX7_instructions 2 = .ok (.iconst 0, 1) := by decide +kernel
theorem dX7_instructions_3 : decode cX7_instructions 3 = .ok (.istore_n 3, 1) := by decide +kernel
theorem dX7_instructions_4 : decode cX7_instructions 4 = .ok (.iload_n 3, 1) := by decide +kernel
theorem dX7_instructions_5 : decode cX7_instructions 5 = .ok (.iconst 4, 1) := by decide +kernel
theorem dX7_instructions_6 : decode cX7_instructions 6 = .ok (.if_icmp .ge 83, 3) := by decide +kernel
theorem dX7_instructions_9 : decode cX7_instructions 9 = .ok (.iconst 0, 1) := by decide +kernel
theorem dX7_instructions_10 : decode cX7_instructions 10 = .ok (.istore 4, 2) := by decide +kernel
theorem dX7_instructions_12 : decode cX7_instructions 12 = .ok (.iload 4, 2) := by decide +kernel
theorem dX7_instructions_14 : decode cX7_instructions 14 = .ok (.aload_n 0, 1) := by decide +kernel
theorem dX7_instructions_15 : decode cX7_instructions 15 = .ok (.getfield 13, 3) := by decide +kernel
theorem dX7_instructions_18 : decode cX7_instructions 18 = .ok (.iload_n 3, 1) := by decide +kernel
theorem dX7_instructions_19 : decode cX7_instructions 19 = .ok (.iaload, 1) := by decide +kernel
theorem dX7_instructions_20 : decode cX7_instructions 20 = .ok (.if_icmp .ge 63, 3) := by decide +kernel
theorem dX7_instructions_23 : decode cX7_instructions 23 = .ok (.aload_n 0, 1) := by decide +kernel
theorem dX7_instructions_24 : decode cX7_instructions 24 = .ok (.getfield 7, 3) := by decide +kernel
theorem dX7_instructions_27 : decode cX7_instructions 27 = .ok (.bipush 36, 2) := by decide +kernel
theorem dX7_instructions_29 : decode cX7_instructions 29 = .ok (.iload_n 3, 1) := by decide +kernel
theorem dX7_instructions_30 : decode cX7_instructions 30 = .ok (.imul, 1) := by decide +kernel
theorem dX7_instructions_31 : decode cX7_instructions 31 = .ok (.bipush 6, 2) := by decide +kernel
theorem dX7_instructions_33 : decode cX7_instructions 33 = .ok (.iload 4, 2) := by decide +kernel
theorem dX7_instructions_35 : decode cX7_instructions 35 = .ok (.imul, 1) := by decide +kernel
theorem dX7_instructions_36 : decode cX7_instructions 36 = .ok (.iadd, 1) := by decide +kernel
theorem dX7_instructions_37 : decode cX7_instructions 37 = .ok (.iaload, 1) := by decide +kernel
theorem dX7_instructions_38 : decode cX7_instructions 38 = .ok (.istore 5, 2) := by decide +kernel
theorem dX7_instructions_40 : decode cX7_instructions 40 = .ok (.iload_n 1, 1) := by decide +kernel
theorem dX7_instructions_41 : decode cX7_instructions 41 = .ok (.ifCond .eq 28, 3) := by decide +kernel
theorem dX7_instructions_44 : decode cX7_instructions 44 = .ok (.iload_n 1, 1) := by decide +kernel
theorem dX7_instructions_45 : decode cX7_instructions 45 = .ok (.iconst 1, 1) := by decide +kernel
theorem dX7_instructions_46 : decode cX7_instructions 46 = .ok (.if_icmp .ne 10, 3) := by decide +kernel
theorem dX7_instructions_49 : decode cX7_instructions 49 = .ok (.iload 5, 2) := by decide +kernel
theorem dX7_instructions_51 : decode cX7_instructions 51 = .ok (.bipush 6, 2) := by decide +kernel
theorem dX7_instructions_53 : decode cX7_instructions 53 = .ok (.if_icmp .lt 16, 3) := by decide +kernel
theorem dX7_instructions_56 : decode cX7_instructions 56 = .ok (.iload_n 1, 1) := by decide +kernel
theorem dX7_instructions_57 : decode cX7_instructions 57 = .ok (.iconst 2, 1) := by decide +kernel
theorem dX7_instructions_58 : decode cX7_instructions 58 = .ok (.if_icmp .ne 17, 3) := by decide +kernel
theorem dX7_instructions_61 : decode cX7_instructions 61 = .ok (.iload 5, 2) := by decide +kernel
theorem dX7_instructions_63 : decode cX7_instructions 63 = .ok (.invokestatic 108, 3) := by decide +kernel
theorem dX7_instructions_66 : decode cX7_instructions 66 = .ok (.ifCond .eq 9, 3) := by decide +kernel
theorem dX7_instructions_69 : decode cX7_instructions 69 = .ok (.iload_n 2, 1) := by decide +kernel
theorem dX7_instructions_70 : decode cX7_instructions 70 = .ok (.iconst 1, 1) := by decide +kernel
theorem dX7_instructions_71 : decode cX7_instructions 71 = .ok (.iadd, 1) := by decide +kernel
theorem dX7_instructions_72 : decode cX7_instructions 72 = .ok (.goto 4, 3) := by decide +kernel
theorem dX7_instructions_75 : decode cX7_instructions 75 = .ok (.iload_n 2, 1) := by decide +kernel
theorem dX7_instructions_76 : decode cX7_instructions 76 = .ok (.istore_n 2, 1) := by decide +kernel
theorem dX7_instructions_77 : decode cX7_instructions 77 = .ok (.iinc 4 1, 3) := by decide +kernel
theorem dX7_instructions_80 : decode cX7_instructions 80 = .ok (.goto (-68), 3) := by decide +kernel
theorem dX7_instructions_83 : decode cX7_instructions 83 = .ok (.iinc 3 1, 3) := by decide +kernel
theorem dX7_instructions_86 : decode cX7_instructions 86 = .ok (.goto (-82), 3) := by decide +kernel
theorem dX7_instructions_89 : decode cX7_instructions 89 = .ok (.iload_n 2, 1) := by decide +kernel
theorem dX7_instructions_90 : decode cX7_instructions 90 = .ok (.ireturn, 1) := by decide +kernel
set_option maxRecDepth 20000 in
theorem ggX7_add_X7_in : GoodIn wsX7_add wsX7_in := goodIn_r _ [7] (by decide +kernel) (by decide +kernel)
set_option maxRecDepth 20000 in
theorem gX7_add_X7_in : GoodIn wsX7_add (va_wsS RX7 96 yX7_in wsX7_in) := goodIn_app (goodIn_of _ (by decide +kernel)) ggX7_add_X7_in
set_option maxRecDepth 20000 in
theorem ggX7_add_X7_isGood : GoodIn wsX7_add wsX7_isGood := goodIn_r _ [10, 11, 12, 6, 13, 4, 5, 7, 14, 15, 16] (by decide +kernel) (by decide +kernel)
set_option maxRecDepth 20000 in
theorem gX7_add_X7_isGood : GoodIn wsX7_add (va_wsS RX7 111 yX7_isGood wsX7_isGood) := goodIn_app (goodIn_of _ (by decide +kernel)) ggX7_add_X7_isGood
set_option maxRecDepth 20000 in
theorem ggX7_add_X7_instructions : GoodIn wsX7_add wsX7_instructions := goodIn_r _ [20, 1, 2, 21, 22, 6, 23, 27, 28, 29, 30, 31, 32, 33, 34, 35, 36, 37, 38, 39, 40, 41, 42, 43, 44, 45, 46, 47, 48, 49, 50, 51, 52, 53, 54, 55, 56, 57, 58, 59, 60, 61] (by decide +kernel) (by decide +kernel)
set_option maxRecDepth 20000 in
theorem gX7_add_X7_instructions : GoodIn wsX7_add (wsV RX7 115 RX7 yX7_instructions wsX7_instructions) := goodIn_app (goodIn_of _ (by decide +kernel)) ggX7_add_X7_instructions
set_option maxRecDepth 20000 in
theorem ggX7_add_X7_isReading : GoodIn wsX7_add wsX7_isReading := goodIn_r _ [23] (by decide +kernel) (by decide +kernel)
set_option maxRecDepth 20000 in
theorem gX7_add_X7_isReading : GoodIn wsX7_add (va_wsS RX7 108 yX7_isReading wsX7_isReading) := goodIn_app (goodIn_of _ (by decide +kernel)) ggX7_add_X7_isReading
set_option maxRecDepth 20000 in
theorem ggX7_add_X7_numbersOf : GoodIn wsX7_add wsX7_numbersOf := goodIn_r _ [26] (by decide +kernel) (by decide +kernel)
set_option maxRecDepth 20000 in
theorem gX7_add_X7_numbersOf : GoodIn wsX7_add (va_wsS RX7 119 yX7_numbersOf wsX7_numbersOf) := goodIn_app (goodIn_of _ (by decide +kernel)) ggX7_add_X7_numbersOf
theorem dX7_add_0 : decode cX7_add 0 = .ok (.iload_n 1, 1) := by decide +kernel
theorem dX7_add_1 : decode cX7_add 1 = .ok (.iconst 0, 1) := by decide +kernel
theorem dX7_add_2 : decode cX7_add 2 = .ok (.iconst 3, 1) := by decide +kernel
theorem dX7_add_3 : decode cX7_add 3 = .ok (.invokestatic 96, 3) := by decide +kernel
theorem dX7_add_6 : decode cX7_add 6 = .ok (.ifCond .eq 19, 3) := by decide +kernel
theorem dX7_add_9 : decode cX7_add 9 = .ok (.iload_n 2, 1) := by decide +kernel
theorem dX7_add_10 : decode cX7_add 10 = .ok (.iload_n 3, 1) := by decide +kernel
theorem dX7_add_11 : decode cX7_add 11 = .ok (.iload 4, 2) := by decide +kernel
theorem dX7_add_13 : decode cX7_add 13 = .ok (.iload 5, 2) := by decide +kernel
theorem dX7_add_15 : decode cX7_add 15 = .ok (.iload 6, 2) := by decide +kernel
theorem dX7_add_17 : decode cX7_add 17 = .ok (.iload 7, 2) := by decide +kernel
theorem dX7_add_19 : decode cX7_add 19 = .ok (.invokestatic 111, 3) := by decide +kernel
theorem dX7_add_22 : decode cX7_add 22 = .ok (.ifCond .ne 6, 3) := by decide +kernel
theorem dX7_add_25 : decode cX7_add 25 = .ok (.bipush (-2), 2) := by decide +kernel
theorem dX7_add_27 : decode cX7_add 27 = .ok (.ireturn, 1) := by decide +kernel
theorem dX7_add_28 : decode cX7_add 28 = .ok (.aload_n 0, 1) := by decide +kernel
theorem dX7_add_29 : decode cX7_add 29 = .ok (.getfield 13, 3) := by decide +kernel
theorem dX7_add_32 : decode cX7_add 32 = .ok (.iload_n 1, 1) := by decide +kernel
theorem dX7_add_33 : decode cX7_add 33 = .ok (.iaload, 1) := by decide +kernel
theorem dX7_add_34 : decode cX7_add 34 = .ok (.istore 8, 2) := by decide +kernel
theorem dX7_add_36 : decode cX7_add 36 = .ok (.iload 8, 2) := by decide +kernel
theorem dX7_add_38 : decode cX7_add 38 = .ok (.bipush 6, 2) := by decide +kernel
theorem dX7_add_40 : decode cX7_add 40 = .ok (.if_icmp .eq 35, 3) := by decide +kernel
theorem dX7_add_43 : decode cX7_add 43 = .ok (.iload_n 2, 1) := by decide +kernel
theorem dX7_add_44 : decode cX7_add 44 = .ok (.bipush 6, 2) := by decide +kernel
theorem dX7_add_46 : decode cX7_add 46 = .ok (.if_icmp .ge 13, 3) := by decide +kernel
theorem dX7_add_49 : decode cX7_add 49 = .ok (.aload_n 0, 1) := by decide +kernel
theorem dX7_add_50 : decode cX7_add 50 = .ok (.iconst 1, 1) := by decide +kernel
theorem dX7_add_51 : decode cX7_add 51 = .ok (.invokevirtual 115, 3) := by decide +kernel
theorem dX7_add_54 : decode cX7_add 54 = .ok (.bipush 6, 2) := by decide +kernel
theorem dX7_add_56 : decode cX7_add 56 = .ok (.if_icmp .eq 19, 3) := by decide +kernel
theorem dX7_add_59 : decode cX7_add 59 = .ok (.iload_n 2, 1) := by decide +kernel
theorem dX7_add_60 : decode cX7_add 60 = .ok (.invokestatic 108, 3) := by decide +kernel
theorem dX7_add_63 : decode cX7_add 63 = .ok (.ifCond .eq 15, 3) := by decide +kernel
theorem dX7_add_66 : decode cX7_add 66 = .ok (.aload_n 0, 1) := by decide +kernel
theorem dX7_add_67 : decode cX7_add 67 = .ok (.iconst 2, 1) := by decide +kernel
theorem dX7_add_68 : decode cX7_add 68 = .ok (.invokevirtual 115, 3) := by decide +kernel
theorem dX7_add_71 : decode cX7_add 71 = .ok (.iconst 4, 1) := by decide +kernel
theorem dX7_add_72 : decode cX7_add 72 = .ok (.if_icmp .ne 6, 3) := by decide +kernel
theorem dX7_add_75 : decode cX7_add 75 = .ok (.bipush (-3), 2) := by decide +kernel
theorem dX7_add_77 : decode cX7_add 77 = .ok (.ireturn, 1) := by decide +kernel
theorem dX7_add_78 : decode cX7_add 78 = .ok (.bipush 36, 2) := by decide +kernel
theorem dX7_add_80 : decode cX7_add 80 = .ok (.iload_n 1, 1) := by decide +kernel
theorem dX7_add_81 : decode cX7_add 81 = .ok (.imul, 1) := by decide +kernel
theorem dX7_add_82 : decode cX7_add 82 = .ok (.bipush 6, 2) := by decide +kernel
theorem dX7_add_84 : decode cX7_add 84 = .ok (.iload 8, 2) := by decide +kernel
theorem dX7_add_86 : decode cX7_add 86 = .ok (.imul, 1) := by decide +kernel
theorem dX7_add_87 : decode cX7_add 87 = .ok (.iadd, 1) := by decide +kernel
theorem dX7_add_88 : decode cX7_add 88 = .ok (.istore 9, 2) := by decide +kernel
theorem dX7_add_90 : decode cX7_add 90 = .ok (.iload_n 2, 1) := by decide +kernel
theorem dX7_add_91 : decode cX7_add 91 = .ok (.invokestatic 119, 3) := by decide +kernel
theorem dX7_add_94 : decode cX7_add 94 = .ok (.istore 10, 2) := by decide +kernel
theorem dX7_add_96 : decode cX7_add 96 = .ok (.aload_n 0, 1) := by decide +kernel
theorem dX7_add_97 : decode cX7_add 97 = .ok (.getfield 7, 3) := by decide +kernel
theorem dX7_add_100 : decode cX7_add 100 = .ok (.iload 9, 2) := by decide +kernel
theorem dX7_add_102 : decode cX7_add 102 = .ok (.iload_n 2, 1) := by decide +kernel
theorem dX7_add_103 : decode cX7_add 103 = .ok (.iastore, 1) := by decide +kernel
theorem dX7_add_104 : decode cX7_add 104 = .ok (.aload_n 0, 1) := by decide +kernel
theorem dX7_add_105 : decode cX7_add 105 = .ok (.getfield 7, 3) := by decide +kernel
theorem dX7_add_108 : decode cX7_add 108 = .ok (.iload 9, 2) := by decide +kernel
theorem dX7_add_110 : decode cX7_add 110 = .ok (.iconst 1, 1) := by decide +kernel
theorem dX7_add_111 : decode cX7_add 111 = .ok (.iadd, 1) := by decide +kernel
theorem dX7_add_112 : decode cX7_add 112 = .ok (.iload_n 3, 1) := by decide +kernel
theorem dX7_add_113 : decode cX7_add 113 = .ok (.iastore, 1) := by decide +kernel
theorem dX7_add_114 : decode cX7_add 114 = .ok (.aload_n 0, 1) := by decide +kernel
theorem dX7_add_115 : decode cX7_add 115 = .ok (.getfield 7, 3) := by decide +kernel
theorem dX7_add_118 : decode cX7_add 118 = .ok (.iload 9, 2) := by decide +kernel
theorem dX7_add_120 : decode cX7_add 120 = .ok (.iconst 2, 1) := by decide +kernel
theorem dX7_add_121 : decode cX7_add 121 = .ok (.iadd, 1) := by decide +kernel
theorem dX7_add_122 : decode cX7_add 122 = .ok (.iload 4, 2) := by decide +kernel
theorem dX7_add_124 : decode cX7_add 124 = .ok (.iastore, 1) := by decide +kernel
theorem dX7_add_125 : decode cX7_add 125 = .ok (.aload_n 0, 1) := by decide +kernel
theorem dX7_add_126 : decode cX7_add 126 = .ok (.getfield 7, 3) := by decide +kernel
theorem dX7_add_129 : decode cX7_add 129 = .ok (.iload 9, 2) := by decide +kernel
theorem dX7_add_131 : decode cX7_add 131 = .ok (.iconst 3, 1) := by decide +kernel
theorem dX7_add_132 : decode cX7_add 132 = .ok (.iadd, 1) := by decide +kernel
theorem dX7_add_133 : decode cX7_add 133 = .ok (.iload 10, 2) := by decide +kernel
theorem dX7_add_135 : decode cX7_add 135 = .ok (.iconst 2, 1) := by decide +kernel
theorem dX7_add_136 : decode cX7_add 136 = .ok (.if_icmp .le 8, 3) := by decide +kernel
theorem dX7_add_139 : decode cX7_add 139 = .ok (.iload 5, 2) := by decide +kernel
theorem dX7_add_141 : decode cX7_add 141 = .ok (.goto 4, 3) := by decide +kernel
theorem dX7_add_144 : decode cX7_add 144 = .ok (.iconst 0, 1) := by decide +kernel
theorem dX7_add_145 : decode cX7_add 145 = .ok (.iastore, 1) := by decide +kernel
theorem dX7_add_146 : decode cX7_add 146 = .ok (.aload_n 0, 1) := by decide +kernel
theorem dX7_add_147 : decode cX7_add 147 = .ok (.getfield 7, 3) := by decide +kernel
theorem dX7_add_150 : decode cX7_add 150 = .ok (.iload 9, 2) := by decide +kernel
theorem dX7_add_152 : decode cX7_add 152 = .ok (.iconst 4, 1) := by decide +kernel
theorem dX7_add_153 : decode cX7_add 153 = .ok (.iadd, 1) := by decide +kernel
theorem dX7_add_154 : decode cX7_add 154 = .ok (.iload 10, 2) := by decide +kernel
theorem dX7_add_156 : decode cX7_add 156 = .ok (.iconst 3, 1) := by decide +kernel
theorem dX7_add_157 : decode cX7_add 157 = .ok (.if_icmp .le 8, 3) := by decide +kernel
theorem dX7_add_160 : decode cX7_add 160 = .ok (.iload 6, 2) := by decide +kernel
theorem dX7_add_162 : decode cX7_add 162 = .ok (.goto 4, 3) := by decide +kernel
theorem dX7_add_165 : decode cX7_add 165 = .ok (.iconst 0, 1) := by decide +kernel
theorem dX7_add_166 : decode cX7_add 166 = .ok (.iastore, 1) := by decide +kernel
theorem dX7_add_167 : decode cX7_add 167 = .ok (.aload_n 0, 1) := by decide +kernel
theorem dX7_add_168 : decode cX7_add 168 = .ok (.getfield 7, 3) := by decide +kernel
theorem dX7_add_171 : decode cX7_add 171 = .ok (.iload 9, 2) := by decide +kernel
theorem dX7_add_173 : decode cX7_add 173 = .ok (.iconst 5, 1) := by decide +kernel
theorem dX7_add_174 : decode cX7_add 174 = .ok (.iadd, 1) := by decide +kernel
theorem dX7_add_175 : decode cX7_add 175 = .ok (.iload 10, 2) := by decide +kernel
theorem dX7_add_177 : decode cX7_add 177 = .ok (.iconst 4, 1) := by decide +kernel
theorem dX7_add_178 : decode cX7_add 178 = .ok (.if_icmp .le 8, 3) := by decide +kernel
theorem dX7_add_181 : decode cX7_add 181 = .ok (.iload 7, 2) := by decide +kernel
theorem dX7_add_183 : decode cX7_add 183 = .ok (.goto 4, 3) := by decide +kernel
theorem dX7_add_186 : decode cX7_add 186 = .ok (.iconst 0, 1) := by decide +kernel
theorem dX7_add_187 : decode cX7_add 187 = .ok (.iastore, 1) := by decide +kernel
theorem dX7_add_188 : decode cX7_add 188 = .ok (.aload_n 0, 1) := by decide +kernel
theorem dX7_add_189 : decode cX7_add 189 = .ok (.getfield 13, 3) := by decide +kernel
theorem dX7_add_192 : decode cX7_add 192 = .ok (.iload_n 1, 1) := by decide +kernel
theorem dX7_add_193 : decode cX7_add 193 = .ok (.dup2, 1) := by decide +kernel
theorem dX7_add_194 : decode cX7_add 194 = .ok (.iaload, 1) := by decide +kernel
theorem dX7_add_195 : decode cX7_add 195 = .ok (.iconst 1, 1) := by decide +kernel
theorem dX7_add_196 : decode cX7_add 196 = .ok (.iadd, 1) := by decide +kernel
theorem dX7_add_197 : decode cX7_add 197 = .ok (.iastore, 1) := by decide +kernel
theorem dX7_add_198 : decode cX7_add 198 = .ok (.aload_n 0, 1) := by decide +kernel
theorem dX7_add_199 : decode cX7_add 199 = .ok (.iconst 0, 1) := by decide +kernel
theorem dX7_add_200 : decode cX7_add 200 = .ok (.putfield 92, 3) := by decide +kernel
theorem dX7_add_203 : decode cX7_add 203 = .ok (.iload 8, 2) := by decide +kernel
theorem dX7_add_205 : decode cX7_add 205 = .ok (.ireturn, 1) := by decide +kernel
theorem dX7_choose_0 : decode cX7_choose 0 = .ok (.aload_n 0, 1) := by decide +kernel
theorem dX7_choose_1 : decode cX7_choose 1 = .ok (.getfield 122, 3) := by decide +kernel
theorem dX7_choose_4 : decode cX7_choose 4 = .ok (.aload_n 0, 1) := by decide +kernel
theorem dX7_choose_5 : decode cX7_choose 5 = .ok (.getfield 125, 3) := by decide +kernel
theorem dX7_choose_8 : decode cX7_choose 8 = .ok (.if_icmp .ne 33, 3) := by decide +kernel
theorem dX7_choose_11 : decode cX7_choose 11 = .ok (.aload_n 0, 1) := by decide +kernel
theorem dX7_choose_12 : decode cX7_choose 12 = .ok (.getfield 21, 3) := by decide +kernel
theorem dX7_choose_15 : decode cX7_choose 15 = .ok (.aload_n 0, 1) := by decide +kernel
theorem dX7_choose_16 : decode cX7_choose 16 = .ok (.getfield 125, 3) := by decide +kernel
theorem dX7_choose_19 : decode cX7_choose 19 = .ok (.iconst 0, 1) := by decide +kernel
theorem dX7_choose_20 : decode cX7_choose 20 = .ok (.iastore, 1) := by decide +kernel
theorem dX7_choose_21 : decode cX7_choose 21 = .ok (.aload_n 0, 1) := by decide +kernel
theorem dX7_choose_22 : decode cX7_choose 22 = .ok (.getfield 24, 3) := by decide +kernel
theorem dX7_choose_25 : decode cX7_choose 25 = .ok (.aload_n 0, 1) := by decide +kernel
theorem dX7_choose_26 : decode cX7_choose 26 = .ok (.getfield 125, 3) := by decide +kernel
theorem dX7_choose_29 : decode cX7_choose 29 = .ok (.iload_n 1, 1) := by decide +kernel
theorem dX7_choose_30 : decode cX7_choose 30 = .ok (.iastore, 1) := by decide +kernel
theorem dX7_choose_31 : decode cX7_choose 31 = .ok (.aload_n 0, 1) := by decide +kernel
theorem dX7_choose_32 : decode cX7_choose 32 = .ok (.dup, 1) := by decide +kernel
theorem dX7_choose_33 : decode cX7_choose 33 = .ok (.getfield 125, 3) := by decide +kernel
theorem dX7_choose_36 : decode cX7_choose 36 = .ok (.iconst 1, 1) := by decide +kernel
theorem dX7_choose_37 : decode cX7_choose 37 = .ok (.iadd, 1) := by decide +kernel
theorem dX7_choose_38 : decode cX7_choose 38 = .ok (.putfield 125, 3) := by decide +kernel
theorem dX7_choose_41 : decode cX7_choose 41 = .ok (.aload_n 0, 1) := by decide +kernel
theorem dX7_choose_42 : decode cX7_choose 42 = .ok (.dup, 1) := by decide +kernel
theorem dX7_choose_43 : decode cX7_choose 43 = .ok (.getfield 122, 3) := by decide +kernel
theorem dX7_choose_46 : decode cX7_choose 46 = .ok (.iconst 1, 1) := by decide +kernel
theorem dX7_choose_47 : decode cX7_choose 47 = .ok (.iadd, 1) := by decide +kernel
theorem dX7_choose_48 : decode cX7_choose 48 = .ok (.putfield 122, 3) := by decide +kernel
theorem dX7_choose_51 : decode cX7_choose 51 = .ok (.aload_n 0, 1) := by decide +kernel
theorem dX7_choose_52 : decode cX7_choose 52 = .ok (.getfield 21, 3) := by decide +kernel
theorem dX7_choose_55 : decode cX7_choose 55 = .ok (.aload_n 0, 1) := by decide +kernel
theorem dX7_choose_56 : decode cX7_choose 56 = .ok (.getfield 122, 3) := by decide +kernel
theorem dX7_choose_59 : decode cX7_choose 59 = .ok (.iconst 1, 1) := by decide +kernel
theorem dX7_choose_60 : decode cX7_choose 60 = .ok (.isub, 1) := by decide +kernel
theorem dX7_choose_61 : decode cX7_choose 61 = .ok (.iaload, 1) := by decide +kernel
theorem dX7_choose_62 : decode cX7_choose 62 = .ok (.ireturn, 1) := by decide +kernel
theorem dX7_nextWay_0 : decode cX7_nextWay 0 = .ok (.aload_n 0, 1) := by decide +kernel
theorem dX7_nextWay_1 : decode cX7_nextWay 1 = .ok (.getfield 125, 3) := by decide +kernel
theorem dX7_nextWay_4 : decode cX7_nextWay 4 = .ok (.ifCond .le 43, 3) := by decide +kernel
theorem dX7_nextWay_7 : decode cX7_nextWay 7 = .ok (.aload_n 0, 1) := by decide +kernel
theorem dX7_nextWay_8 : decode cX7_nextWay 8 = .ok (.getfield 21, 3) := by decide +kernel
theorem dX7_nextWay_11 : decode cX7_nextWay 11 = .ok (.aload_n 0, 1) := by decide +kernel
theorem dX7_nextWay_12 : decode cX7_nextWay 12 = .ok (.getfield 125, 3) := by decide +kernel
theorem dX7_nextWay_15 : decode cX7_nextWay 15 = .ok (.iconst 1, 1) := by decide +kernel
theorem dX7_nextWay_16 : decode cX7_nextWay 16 = .ok (.isub, 1) := by decide +kernel
theorem dX7_nextWay_17 : decode cX7_nextWay 17 = .ok (.iaload, 1) := by decide +kernel
theorem dX7_nextWay_18 : decode cX7_nextWay 18 = .ok (.aload_n 0, 1) := by decide +kernel
theorem dX7_nextWay_19 : decode cX7_nextWay 19 = .ok (.getfield 24, 3) := by decide +kernel
theorem dX7_nextWay_22 : decode cX7_nextWay 22 = .ok (.aload_n 0, 1) := by decide +kernel
theorem dX7_nextWay_23 : decode cX7_nextWay 23 = .ok (.getfield 125, 3) := by decide +kernel
theorem dX7_nextWay_26 : decode cX7_nextWay 26 = .ok (.iconst 1, 1) := by decide +kernel
theorem dX7_nextWay_27 : decode cX7_nextWay 27 = .ok (.isub, 1) := by decide +kernel
theorem dX7_nextWay_28 : decode cX7_nextWay 28 = .ok (.iaload, 1) := by decide +kernel
theorem dX7_nextWay_29 : decode cX7_nextWay 29 = .ok (.iconst 1, 1) := by decide +kernel
theorem dX7_nextWay_30 : decode cX7_nextWay 30 = .ok (.isub, 1) := by decide +kernel
theorem dX7_nextWay_31 : decode cX7_nextWay 31 = .ok (.if_icmp .ne 16, 3) := by decide +kernel
theorem dX7_nextWay_34 : decode cX7_nextWay 34 = .ok (.aload_n 0, 1) := by decide +kernel
theorem dX7_nextWay_35 : decode cX7_nextWay 35 = .ok (.dup, 1) := by decide +kernel
theorem dX7_nextWay_36 : decode cX7_nextWay 36 = .ok (.getfield 125, 3) := by decide +kernel
theorem dX7_nextWay_39 : decode cX7_nextWay 39 = .ok (.iconst 1, 1) := by decide +kernel
theorem dX7_nextWay_40 : decode cX7_nextWay 40 = .ok (.isub, 1) := by decide +kernel
theorem dX7_nextWay_41 : decode cX7_nextWay 41 = .ok (.putfield 125, 3) := by decide +kernel
theorem dX7_nextWay_44 : decode cX7_nextWay 44 = .ok (.goto (-44), 3) := by decide +kernel
theorem dX7_nextWay_47 : decode cX7_nextWay 47 = .ok (.aload_n 0, 1) := by decide +kernel
theorem dX7_nextWay_48 : decode cX7_nextWay 48 = .ok (.getfield 125, 3) := by decide +kernel
theorem dX7_nextWay_51 : decode cX7_nextWay 51 = .ok (.ifCond .ne 5, 3) := by decide +kernel
theorem dX7_nextWay_54 : decode cX7_nextWay 54 = .ok (.iconst 0, 1) := by decide +kernel
theorem dX7_nextWay_55 : decode cX7_nextWay 55 = .ok (.ireturn, 1) := by decide +kernel
theorem dX7_nextWay_56 : decode cX7_nextWay 56 = .ok (.aload_n 0, 1) := by decide +kernel
theorem dX7_nextWay_57 : decode cX7_nextWay 57 = .ok (.getfield 21, 3) := by decide +kernel
theorem dX7_nextWay_60 : decode cX7_nextWay 60 = .ok (.aload_n 0, 1) := by decide +kernel
theorem dX7_nextWay_61 : decode cX7_nextWay 61 = .ok (.getfield 125, 3) := by decide +kernel
theorem dX7_nextWay_64 : decode cX7_nextWay 64 = .ok (.iconst 1, 1) := by decide +kernel
theorem dX7_nextWay_65 : decode cX7_nextWay 65 = .ok (.isub, 1) := by decide +kernel
theorem dX7_nextWay_66 : decode cX7_nextWay 66 = .ok (.dup2, 1) := by decide +kernel
theorem dX7_nextWay_67 : decode cX7_nextWay 67 = .ok (.iaload, 1) := by decide +kernel
theorem dX7_nextWay_68 : decode cX7_nextWay 68 = .ok (.iconst 1, 1) := by decide +kernel
theorem dX7_nextWay_69 : decode cX7_nextWay 69 = .ok (.iadd, 1) := by decide +kernel
theorem dX7_nextWay_70 : decode cX7_nextWay 70 = .ok (.iastore, 1) := by decide +kernel
theorem dX7_nextWay_71 : decode cX7_nextWay 71 = .ok (.iconst 1, 1) := by decide +kernel
theorem dX7_nextWay_72 : decode cX7_nextWay 72 = .ok (.ireturn, 1) := by decide +kernel
set_option maxRecDepth 20000 in
theorem ggX7_doWay_X7_doHart : GoodIn wsX7_doWay wsX7_doHart := goodIn_r _ [10, 11, 12, 13, 14, 15, 3, 16, 2, 17, 18, 4, 5, 19, 20, 21, 9, 22, 23, 24, 25, 26, 27, 28, 29, 30, 31, 32, 33, 34, 35, 36, 1, 37, 38, 39, 40, 41, 42, 43, 44, 45, 46, 47, 48, 49, 50, 51, 52, 53, 54, 55, 56, 57, 58, 59, 60, 61, 62, 63, 64, 65, 66, 67, 68, 69, 70, 71, 72, 73, 74, 75, 76, 77, 78, 79, 80] (by decide +kernel) (by decide +kernel)
set_option maxRecDepth 20000 in
theorem gX7_doWay_X7_doHart : GoodIn wsX7_doWay (wsV RX7 134 RX7 yX7_doHart wsX7_doHart) := goodIn_app (goodIn_of _ (by decide +kernel)) ggX7_doWay_X7_doHart
theorem dX7_doWay_0 : decode cX7_doWay 0 = .ok (.aload_n 0, 1) := by decide +kernel
theorem dX7_doWay_1 : decode cX7_doWay 1 = .ok (.iconst 0, 1) := by decide +kernel
theorem dX7_doWay_2 : decode cX7_doWay 2 = .ok (.putfield 122, 3) := by decide +kernel
theorem dX7_doWay_5 : decode cX7_doWay 5 = .ok (.aload_n 0, 1) := by decide +kernel
theorem dX7_doWay_6 : decode cX7_doWay 6 = .ok (.iconst 0, 1) := by decide +kernel
theorem dX7_doWay_7 : decode cX7_doWay 7 = .ok (.putfield 128, 3) := by decide +kernel
theorem dX7_doWay_10 : decode cX7_doWay 10 = .ok (.aload_n 0, 1) := by decide +kernel
theorem dX7_doWay_11 : decode cX7_doWay 11 = .ok (.iconst 0, 1) := by decide +kernel
theorem dX7_doWay_12 : decode cX7_doWay 12 = .ok (.putfield 131, 3) := by decide +kernel
theorem dX7_doWay_15 : decode cX7_doWay 15 = .ok (.iconst 0, 1) := by decide +kernel
theorem dX7_doWay_16 : decode cX7_doWay 16 = .ok (.istore_n 1, 1) := by decide +kernel
theorem dX7_doWay_17 : decode cX7_doWay 17 = .ok (.iload_n 1, 1) := by decide +kernel
theorem dX7_doWay_18 : decode cX7_doWay 18 = .ok (.bipush 16, 2) := by decide +kernel
theorem dX7_doWay_20 : decode cX7_doWay 20 = .ok (.if_icmp .ge 23, 3) := by decide +kernel
theorem dX7_doWay_23 : decode cX7_doWay 23 = .ok (.aload_n 0, 1) := by decide +kernel
theorem dX7_doWay_24 : decode cX7_doWay 24 = .ok (.getfield 27, 3) := by decide +kernel
theorem dX7_doWay_27 : decode cX7_doWay 27 = .ok (.iload_n 1, 1) := by decide +kernel
theorem dX7_doWay_28 : decode cX7_doWay 28 = .ok (.iconst 0, 1) := by decide +kernel
theorem dX7_doWay_29 : decode cX7_doWay 29 = .ok (.iastore, 1) := by decide +kernel
theorem dX7_doWay_30 : decode cX7_doWay 30 = .ok (.aload_n 0, 1) := by decide +kernel
theorem dX7_doWay_31 : decode cX7_doWay 31 = .ok (.getfield 30, 3) := by decide +kernel
theorem dX7_doWay_34 : decode cX7_doWay 34 = .ok (.iload_n 1, 1) := by decide +kernel
theorem dX7_doWay_35 : decode cX7_doWay 35 = .ok (.iconst 0, 1) := by decide +kernel
theorem dX7_doWay_36 : decode cX7_doWay 36 = .ok (.iastore, 1) := by decide +kernel
theorem dX7_doWay_37 : decode cX7_doWay 37 = .ok (.iinc 1 1, 3) := by decide +kernel
theorem dX7_doWay_40 : decode cX7_doWay 40 = .ok (.goto (-23), 3) := by decide +kernel
theorem dX7_doWay_43 : decode cX7_doWay 43 = .ok (.iconst 0, 1) := by decide +kernel
theorem dX7_doWay_44 : decode cX7_doWay 44 = .ok (.istore_n 1, 1) := by decide +kernel
theorem dX7_doWay_45 : decode cX7_doWay 45 = .ok (.iload_n 1, 1) := by decide +kernel
theorem dX7_doWay_46 : decode cX7_doWay 46 = .ok (.iconst 4, 1) := by decide +kernel
theorem dX7_doWay_47 : decode cX7_doWay 47 = .ok (.if_icmp .ge 14, 3) := by decide +kernel
theorem dX7_doWay_50 : decode cX7_doWay 50 = .ok (.aload_n 0, 1) := by decide +kernel
theorem dX7_doWay_51 : decode cX7_doWay 51 = .ok (.iload_n 1, 1) := by decide +kernel
theorem dX7_doWay_52 : decode cX7_doWay 52 = .ok (.invokevirtual 134, 3) := by decide +kernel
theorem dX7_doWay_55 : decode cX7_doWay 55 = .ok (.iinc 1 1, 3) := by decide +kernel
theorem dX7_doWay_58 : decode cX7_doWay 58 = .ok (.goto (-13), 3) := by decide +kernel
theorem dX7_doWay_61 : decode cX7_doWay 61 = .ok (.return_, 1) := by decide +kernel
set_option maxRecDepth 20000 in
theorem ggX7_doHart_X7_access : GoodIn wsX7_doHart wsX7_access := goodIn_r _ [17, 4, 11, 2, 18, 12, 19, 8, 20, 21, 22, 23, 24, 1, 25, 26, 27, 28, 29, 30, 16, 31, 32, 33, 34, 35, 36, 37, 38, 39, 40, 41, 42, 43, 44, 45, 46, 47, 48, 49, 50, 51, 52, 53, 54, 55, 56, 57, 58, 59, 60, 61, 62, 63, 64, 65, 66, 67, 68, 69, 70, 71, 72, 73, 74, 75, 76] (by decide +kernel) (by decide +kernel)
set_option maxRecDepth 20000 in
theorem gX7_doHart_X7_access : GoodIn wsX7_doHart (wsV RX7 144 RX7 yX7_access wsX7_access) := goodIn_app (goodIn_of _ (by decide +kernel)) ggX7_doHart_X7_access
theorem dX7_doHart_0 : decode cX7_doHart 0 = .ok (.aload_n 0, 1) := by decide +kernel
theorem dX7_doHart_1 : decode cX7_doHart 1 = .ok (.iconst 0, 1) := by decide +kernel
theorem dX7_doHart_2 : decode cX7_doHart 2 = .ok (.putfield 138, 3) := by decide +kernel
theorem dX7_doHart_5 : decode cX7_doHart 5 = .ok (.aload_n 0, 1) := by decide +kernel
theorem dX7_doHart_6 : decode cX7_doHart 6 = .ok (.iconst (-1), 1) := by decide +kernel
theorem dX7_doHart_7 : decode cX7_doHart 7 = .ok (.putfield 141, 3) := by decide +kernel
theorem dX7_doHart_10 : decode cX7_doHart 10 = .ok (.iconst 0, 1) := by decide +kernel
theorem dX7_doHart_11 : decode cX7_doHart 11 = .ok (.istore_n 2, 1) := by decide +kernel
theorem dX7_doHart_12 : decode cX7_doHart 12 = .ok (.iload_n 2, 1) := by decide +kernel
theorem dX7_doHart_13 : decode cX7_doHart 13 = .ok (.aload_n 0, 1) := by decide +kernel
theorem dX7_doHart_14 : decode cX7_doHart 14 = .ok (.getfield 13, 3) := by decide +kernel
theorem dX7_doHart_17 : decode cX7_doHart 17 = .ok (.iload_n 1, 1) := by decide +kernel
theorem dX7_doHart_18 : decode cX7_doHart 18 = .ok (.iaload, 1) := by decide +kernel
theorem dX7_doHart_19 : decode cX7_doHart 19 = .ok (.if_icmp .ge 327, 3) := by decide +kernel
theorem dX7_doHart_22 : decode cX7_doHart 22 = .ok (.bipush 36, 2) := by decide +kernel
theorem dX7_doHart_24 : decode cX7_doHart 24 = .ok (.iload_n 1, 1) := by decide +kernel
theorem dX7_doHart_25 : decode cX7_doHart 25 = .ok (.imul, 1) := by decide +kernel
theorem dX7_doHart_26 : decode cX7_doHart 26 = .ok (.bipush 6, 2) := by decide +kernel
theorem dX7_doHart_28 : decode cX7_doHart 28 = .ok (.iload_n 2, 1) := by decide +kernel
theorem dX7_doHart_29 : decode cX7_doHart 29 = .ok (.imul, 1) := by decide +kernel
theorem dX7_doHart_30 : decode cX7_doHart 30 = .ok (.iadd, 1) := by decide +kernel
theorem dX7_doHart_31 : decode cX7_doHart 31 = .ok (.istore_n 3, 1) := by decide +kernel
theorem dX7_doHart_32 : decode cX7_doHart 32 = .ok (.aload_n 0, 1) := by decide +kernel
theorem dX7_doHart_33 : decode cX7_doHart 33 = .ok (.getfield 7, 3) := by decide +kernel
theorem dX7_doHart_36 : decode cX7_doHart 36 = .ok (.iload_n 3, 1) := by decide +kernel
theorem dX7_doHart_37 : decode cX7_doHart 37 = .ok (.iaload, 1) := by decide +kernel
theorem dX7_doHart_38 : decode cX7_doHart 38 = .ok (.istore 4, 2) := by decide +kernel
theorem dX7_doHart_40 : decode cX7_doHart 40 = .ok (.iconst 4, 1) := by decide +kernel
theorem dX7_doHart_41 : decode cX7_doHart 41 = .ok (.iload_n 1, 1) := by decide +kernel
theorem dX7_doHart_42 : decode cX7_doHart 42 = .ok (.imul, 1) := by decide +kernel
theorem dX7_doHart_43 : decode cX7_doHart 43 = .ok (.aload_n 0, 1) := by decide +kernel
theorem dX7_doHart_44 : decode cX7_doHart 44 = .ok (.getfield 7, 3) := by decide +kernel
theorem dX7_doHart_47 : decode cX7_doHart 47 = .ok (.iload_n 3, 1) := by decide +kernel
theorem dX7_doHart_48 : decode cX7_doHart 48 = .ok (.iconst 1, 1) := by decide +kernel
theorem dX7_doHart_49 : decode cX7_doHart 49 = .ok (.iadd, 1) := by decide +kernel
theorem dX7_doHart_50 : decode cX7_doHart 50 = .ok (.iaload, 1) := by decide +kernel
theorem dX7_doHart_51 : decode cX7_doHart 51 = .ok (.iadd, 1) := by decide +kernel
theorem dX7_doHart_52 : decode cX7_doHart 52 = .ok (.istore 5, 2) := by decide +kernel
theorem dX7_doHart_54 : decode cX7_doHart 54 = .ok (.iinc 2 1, 3) := by decide +kernel
theorem dX7_doHart_57 : decode cX7_doHart 57 = .ok (.iload 4, 2) := by decide +kernel
theorem dX7_doHart_59 : decode cX7_doHart 59 = .ok (.bipush 6, 2) := by decide +kernel
theorem dX7_doHart_61 : decode cX7_doHart 61 = .ok (.if_icmp .ge 14, 3) := by decide +kernel
theorem dX7_doHart_64 : decode cX7_doHart 64 = .ok (.aload_n 0, 1) := by decide +kernel
theorem dX7_doHart_65 : decode cX7_doHart 65 = .ok (.iload_n 1, 1) := by decide +kernel
theorem dX7_doHart_66 : decode cX7_doHart 66 = .ok (.iload_n 3, 1) := by decide +kernel
theorem dX7_doHart_67 : decode cX7_doHart 67 = .ok (.iload 4, 2) := by decide +kernel
theorem dX7_doHart_69 : decode cX7_doHart 69 = .ok (.invokevirtual 144, 3) := by decide +kernel
theorem dX7_doHart_72 : decode cX7_doHart 72 = .ok (.goto 271, 3) := by decide +kernel
theorem dX7_doHart_75 : decode cX7_doHart 75 = .ok (.iload 4, 2) := by decide +kernel
theorem dX7_doHart_77 : decode cX7_doHart 77 = .ok (.bipush 6, 2) := by decide +kernel
theorem dX7_doHart_79 : decode cX7_doHart 79 = .ok (.if_icmp .ne 73, 3) := by decide +kernel
theorem dX7_doHart_82 : decode cX7_doHart 82 = .ok (.aload_n 0, 1) := by decide +kernel
theorem dX7_doHart_83 : decode cX7_doHart 83 = .ok (.getfield 63, 3) := by decide +kernel
theorem dX7_doHart_86 : decode cX7_doHart 86 = .ok (.aload_n 0, 1) := by decide +kernel
theorem dX7_doHart_87 : decode cX7_doHart 87 = .ok (.getfield 131, 3) := by decide +kernel
theorem dX7_doHart_90 : decode cX7_doHart 90 = .ok (.iload_n 1, 1) := by decide +kernel
theorem dX7_doHart_91 : decode cX7_doHart 91 = .ok (.iastore, 1) := by decide +kernel
theorem dX7_doHart_92 : decode cX7_doHart 92 = .ok (.aload_n 0, 1) := by decide +kernel
theorem dX7_doHart_93 : decode cX7_doHart 93 = .ok (.getfield 66, 3) := by decide +kernel
theorem dX7_doHart_96 : decode cX7_doHart 96 = .ok (.aload_n 0, 1) := by decide +kernel
theorem dX7_doHart_97 : decode cX7_doHart 97 = .ok (.getfield 131, 3) := by decide +kernel
theorem dX7_doHart_100 : decode cX7_doHart 100 = .ok (.aload_n 0, 1) := by decide +kernel
theorem dX7_doHart_101 : decode cX7_doHart 101 = .ok (.getfield 128, 3) := by decide +kernel
theorem dX7_doHart_104 : decode cX7_doHart 104 = .ok (.iastore, 1) := by decide +kernel
theorem dX7_doHart_105 : decode cX7_doHart 105 = .ok (.aload_n 0, 1) := by decide +kernel
theorem dX7_doHart_106 : decode cX7_doHart 106 = .ok (.getfield 69, 3) := by decide +kernel
theorem dX7_doHart_109 : decode cX7_doHart 109 = .ok (.aload_n 0, 1) := by decide +kernel
theorem dX7_doHart_110 : decode cX7_doHart 110 = .ok (.getfield 131, 3) := by decide +kernel
theorem dX7_doHart_113 : decode cX7_doHart 113 = .ok (.aload_n 0, 1) := by decide +kernel
theorem dX7_doHart_114 : decode cX7_doHart 114 = .ok (.getfield 7, 3) := by decide +kernel
theorem dX7_doHart_117 : decode cX7_doHart 117 = .ok (.iload_n 3, 1) := by decide +kernel
theorem dX7_doHart_118 : decode cX7_doHart 118 = .ok (.iconst 1, 1) := by decide +kernel
theorem dX7_doHart_119 : decode cX7_doHart 119 = .ok (.iadd, 1) := by decide +kernel
theorem dX7_doHart_120 : decode cX7_doHart 120 = .ok (.iaload, 1) := by decide +kernel
theorem dX7_doHart_121 : decode cX7_doHart 121 = .ok (.iastore, 1) := by decide +kernel
theorem dX7_doHart_122 : decode cX7_doHart 122 = .ok (.aload_n 0, 1) := by decide +kernel
theorem dX7_doHart_123 : decode cX7_doHart 123 = .ok (.getfield 72, 3) := by decide +kernel
theorem dX7_doHart_126 : decode cX7_doHart 126 = .ok (.aload_n 0, 1) := by decide +kernel
theorem dX7_doHart_127 : decode cX7_doHart 127 = .ok (.getfield 131, 3) := by decide +kernel
theorem dX7_doHart_130 : decode cX7_doHart 130 = .ok (.aload_n 0, 1) := by decide +kernel
theorem dX7_doHart_131 : decode cX7_doHart 131 = .ok (.getfield 7, 3) := by decide +kernel
theorem dX7_doHart_134 : decode cX7_doHart 134 = .ok (.iload_n 3, 1) := by decide +kernel
theorem dX7_doHart_135 : decode cX7_doHart 135 = .ok (.iconst 2, 1) := by decide +kernel
theorem dX7_doHart_136 : decode cX7_doHart 136 = .ok (.iadd, 1) := by decide +kernel
theorem dX7_doHart_137 : decode cX7_doHart 137 = .ok (.iaload, 1) := by decide +kernel
theorem dX7_doHart_138 : decode cX7_doHart 138 = .ok (.iastore, 1) := by decide +kernel
theorem dX7_doHart_139 : decode cX7_doHart 139 = .ok (.aload_n 0, 1) := by decide +kernel
theorem dX7_doHart_140 : decode cX7_doHart 140 = .ok (.dup, 1) := by decide +kernel
theorem dX7_doHart_141 : decode cX7_doHart 141 = .ok (.getfield 131, 3) := by decide +kernel
theorem dX7_doHart_144 : decode cX7_doHart 144 = .ok (.iconst 1, 1) := by decide +kernel
theorem dX7_doHart_145 : decode cX7_doHart 145 = .ok (.iadd, 1) := by decide +kernel
theorem dX7_doHart_146 : decode cX7_doHart 146 = .ok (.putfield 131, 3) := by decide +kernel
theorem dX7_doHart_149 : decode cX7_doHart 149 = .ok (.goto 194, 3) := by decide +kernel
theorem dX7_doHart_152 : decode cX7_doHart 152 = .ok (.iload 4, 2) := by decide +kernel
theorem dX7_doHart_154 : decode cX7_doHart 154 = .ok (.bipush 7, 2) := by decide +kernel
theorem dX7_doHart_156 : decode cX7_doHart 156 = .ok (.if_icmp .ne 29, 3) := by decide +kernel
theorem dX7_doHart_159 : decode cX7_doHart 159 = .ok (.aload_n 0, 1) := by decide +kernel
theorem dX7_doHart_160 : decode cX7_doHart 160 = .ok (.getfield 27, 3) := by decide +kernel
theorem dX7_doHart_163 : decode cX7_doHart 163 = .ok (.iload 5, 2) := by decide +kernel
theorem dX7_doHart_165 : decode cX7_doHart 165 = .ok (.aload_n 0, 1) := by decide +kernel
theorem dX7_doHart_166 : decode cX7_doHart 166 = .ok (.getfield 7, 3) := by decide +kernel
theorem dX7_doHart_169 : decode cX7_doHart 169 = .ok (.iload_n 3, 1) := by decide +kernel
theorem dX7_doHart_170 : decode cX7_doHart 170 = .ok (.iconst 2, 1) := by decide +kernel
theorem dX7_doHart_171 : decode cX7_doHart 171 = .ok (.iadd, 1) := by decide +kernel
theorem dX7_doHart_172 : decode cX7_doHart 172 = .ok (.iaload, 1) := by decide +kernel
theorem dX7_doHart_173 : decode cX7_doHart 173 = .ok (.iastore, 1) := by decide +kernel
theorem dX7_doHart_174 : decode cX7_doHart 174 = .ok (.aload_n 0, 1) := by decide +kernel
theorem dX7_doHart_175 : decode cX7_doHart 175 = .ok (.getfield 30, 3) := by decide +kernel
theorem dX7_doHart_178 : decode cX7_doHart 178 = .ok (.iload 5, 2) := by decide +kernel
theorem dX7_doHart_180 : decode cX7_doHart 180 = .ok (.iconst 0, 1) := by decide +kernel
theorem dX7_doHart_181 : decode cX7_doHart 181 = .ok (.iastore, 1) := by decide +kernel
theorem dX7_doHart_182 : decode cX7_doHart 182 = .ok (.goto 161, 3) := by decide +kernel
theorem dX7_doHart_185 : decode cX7_doHart 185 = .ok (.iload 4, 2) := by decide +kernel
theorem dX7_doHart_187 : decode cX7_doHart 187 = .ok (.bipush 10, 2) := by decide +kernel
theorem dX7_doHart_189 : decode cX7_doHart 189 = .ok (.if_icmp .ne 47, 3) := by decide +kernel
theorem dX7_doHart_192 : decode cX7_doHart 192 = .ok (.aload_n 0, 1) := by decide +kernel
theorem dX7_doHart_193 : decode cX7_doHart 193 = .ok (.dup, 1) := by decide +kernel
theorem dX7_doHart_194 : decode cX7_doHart 194 = .ok (.getfield 138, 3) := by decide +kernel
theorem dX7_doHart_197 : decode cX7_doHart 197 = .ok (.aload_n 0, 1) := by decide +kernel
theorem dX7_doHart_198 : decode cX7_doHart 198 = .ok (.getfield 30, 3) := by decide +kernel
theorem dX7_doHart_201 : decode cX7_doHart 201 = .ok (.iload 5, 2) := by decide +kernel
theorem dX7_doHart_203 : decode cX7_doHart 203 = .ok (.iaload, 1) := by decide +kernel
theorem dX7_doHart_204 : decode cX7_doHart 204 = .ok (.ior, 1) := by decide +kernel
theorem dX7_doHart_205 : decode cX7_doHart 205 = .ok (.putfield 138, 3) := by decide +kernel
theorem dX7_doHart_208 : decode cX7_doHart 208 = .ok (.aload_n 0, 1) := by decide +kernel
theorem dX7_doHart_209 : decode cX7_doHart 209 = .ok (.getfield 27, 3) := by decide +kernel
theorem dX7_doHart_212 : decode cX7_doHart 212 = .ok (.iload 5, 2) := by decide +kernel
theorem dX7_doHart_214 : decode cX7_doHart 214 = .ok (.iaload, 1) := by decide +kernel
theorem dX7_doHart_215 : decode cX7_doHart 215 = .ok (.ifCond .ne 16, 3) := by decide +kernel
theorem dX7_doHart_218 : decode cX7_doHart 218 = .ok (.iload_n 2, 1) := by decide +kernel
theorem dX7_doHart_219 : decode cX7_doHart 219 = .ok (.aload_n 0, 1) := by decide +kernel
theorem dX7_doHart_220 : decode cX7_doHart 220 = .ok (.getfield 7, 3) := by decide +kernel
theorem dX7_doHart_223 : decode cX7_doHart 223 = .ok (.iload_n 3, 1) := by decide +kernel
theorem dX7_doHart_224 : decode cX7_doHart 224 = .ok (.iconst 2, 1) := by decide +kernel
theorem dX7_doHart_225 : decode cX7_doHart 225 = .ok (.iadd, 1) := by decide +kernel
theorem dX7_doHart_226 : decode cX7_doHart 226 = .ok (.iaload, 1) := by decide +kernel
theorem dX7_doHart_227 : decode cX7_doHart 227 = .ok (.iadd, 1) := by decide +kernel
theorem dX7_doHart_228 : decode cX7_doHart 228 = .ok (.goto 4, 3) := by decide +kernel
theorem dX7_doHart_231 : decode cX7_doHart 231 = .ok (.iload_n 2, 1) := by decide +kernel
theorem dX7_doHart_232 : decode cX7_doHart 232 = .ok (.istore_n 2, 1) := by decide +kernel
theorem dX7_doHart_233 : decode cX7_doHart 233 = .ok (.goto 110, 3) := by decide +kernel
theorem dX7_doHart_236 : decode cX7_doHart 236 = .ok (.iconst 4, 1) := by decide +kernel
theorem dX7_doHart_237 : decode cX7_doHart 237 = .ok (.iload_n 1, 1) := by decide +kernel
theorem dX7_doHart_238 : decode cX7_doHart 238 = .ok (.imul, 1) := by decide +kernel
theorem dX7_doHart_239 : decode cX7_doHart 239 = .ok (.aload_n 0, 1) := by decide +kernel
theorem dX7_doHart_240 : decode cX7_doHart 240 = .ok (.getfield 7, 3) := by decide +kernel
theorem dX7_doHart_243 : decode cX7_doHart 243 = .ok (.iload_n 3, 1) := by decide +kernel
theorem dX7_doHart_244 : decode cX7_doHart 244 = .ok (.iconst 2, 1) := by decide +kernel
theorem dX7_doHart_245 : decode cX7_doHart 245 = .ok (.iadd, 1) := by decide +kernel
theorem dX7_doHart_246 : decode cX7_doHart 246 = .ok (.iaload, 1) := by decide +kernel
theorem dX7_doHart_247 : decode cX7_doHart 247 = .ok (.iadd, 1) := by decide +kernel
theorem dX7_doHart_248 : decode cX7_doHart 248 = .ok (.istore 6, 2) := by decide +kernel
theorem dX7_doHart_250 : decode cX7_doHart 250 = .ok (.iconst 4, 1) := by decide +kernel
theorem dX7_doHart_251 : decode cX7_doHart 251 = .ok (.iload_n 1, 1) := by decide +kernel
theorem dX7_doHart_252 : decode cX7_doHart 252 = .ok (.imul, 1) := by decide +kernel
theorem dX7_doHart_253 : decode cX7_doHart 253 = .ok (.aload_n 0, 1) := by decide +kernel
theorem dX7_doHart_254 : decode cX7_doHart 254 = .ok (.getfield 7, 3) := by decide +kernel
theorem dX7_doHart_257 : decode cX7_doHart 257 = .ok (.iload_n 3, 1) := by decide +kernel
theorem dX7_doHart_258 : decode cX7_doHart 258 = .ok (.iconst 3, 1) := by decide +kernel
theorem dX7_doHart_259 : decode cX7_doHart 259 = .ok (.iadd, 1) := by decide +kernel
theorem dX7_doHart_260 : decode cX7_doHart 260 = .ok (.iaload, 1) := by decide +kernel
theorem dX7_doHart_261 : decode cX7_doHart 261 = .ok (.iadd, 1) := by decide +kernel
theorem dX7_doHart_262 : decode cX7_doHart 262 = .ok (.istore 7, 2) := by decide +kernel
theorem dX7_doHart_264 : decode cX7_doHart 264 = .ok (.iload 4, 2) := by decide +kernel
theorem dX7_doHart_266 : decode cX7_doHart 266 = .ok (.bipush 8, 2) := by decide +kernel
theorem dX7_doHart_268 : decode cX7_doHart 268 = .ok (.if_icmp .ne 23, 3) := by decide +kernel
theorem dX7_doHart_271 : decode cX7_doHart 271 = .ok (.aload_n 0, 1) := by decide +kernel
theorem dX7_doHart_272 : decode cX7_doHart 272 = .ok (.getfield 27, 3) := by decide +kernel
theorem dX7_doHart_275 : decode cX7_doHart 275 = .ok (.iload 6, 2) := by decide +kernel
theorem dX7_doHart_277 : decode cX7_doHart 277 = .ok (.iaload, 1) := by decide +kernel
theorem dX7_doHart_278 : decode cX7_doHart 278 = .ok (.aload_n 0, 1) := by decide +kernel
theorem dX7_doHart_279 : decode cX7_doHart 279 = .ok (.getfield 27, 3) := by decide +kernel
theorem dX7_doHart_282 : decode cX7_doHart 282 = .ok (.iload 7, 2) := by decide +kernel
theorem dX7_doHart_284 : decode cX7_doHart 284 = .ok (.iaload, 1) := by decide +kernel
theorem dX7_doHart_285 : decode cX7_doHart 285 = .ok (.iadd, 1) := by decide +kernel
theorem dX7_doHart_286 : decode cX7_doHart 286 = .ok (.iconst 3, 1) := by decide +kernel
theorem dX7_doHart_287 : decode cX7_doHart 287 = .ok (.iand, 1) := by decide +kernel
theorem dX7_doHart_288 : decode cX7_doHart 288 = .ok (.goto 18, 3) := by decide +kernel
theorem dX7_doHart_291 : decode cX7_doHart 291 = .ok (.aload_n 0, 1) := by decide +kernel
theorem dX7_doHart_292 : decode cX7_doHart 292 = .ok (.getfield 27, 3) := by decide +kernel
theorem dX7_doHart_295 : decode cX7_doHart 295 = .ok (.iload 6, 2) := by decide +kernel
theorem dX7_doHart_297 : decode cX7_doHart 297 = .ok (.iaload, 1) := by decide +kernel
theorem dX7_doHart_298 : decode cX7_doHart 298 = .ok (.aload_n 0, 1) := by decide +kernel
theorem dX7_doHart_299 : decode cX7_doHart 299 = .ok (.getfield 27, 3) := by decide +kernel
theorem dX7_doHart_302 : decode cX7_doHart 302 = .ok (.iload 7, 2) := by decide +kernel
theorem dX7_doHart_304 : decode cX7_doHart 304 = .ok (.iaload, 1) := by decide +kernel
theorem dX7_doHart_305 : decode cX7_doHart 305 = .ok (.ixor, 1) := by decide +kernel
theorem dX7_doHart_306 : decode cX7_doHart 306 = .ok (.istore 8, 2) := by decide +kernel
theorem dX7_doHart_308 : decode cX7_doHart 308 = .ok (.aload_n 0, 1) := by decide +kernel
theorem dX7_doHart_309 : decode cX7_doHart 309 = .ok (.getfield 30, 3) := by decide +kernel
theorem dX7_doHart_312 : decode cX7_doHart 312 = .ok (.iload 6, 2) := by decide +kernel
theorem dX7_doHart_314 : decode cX7_doHart 314 = .ok (.iaload, 1) := by decide +kernel
theorem dX7_doHart_315 : decode cX7_doHart 315 = .ok (.aload_n 0, 1) := by decide +kernel
theorem dX7_doHart_316 : decode cX7_doHart 316 = .ok (.getfield 30, 3) := by decide +kernel
theorem dX7_doHart_319 : decode cX7_doHart 319 = .ok (.iload 7, 2) := by decide +kernel
theorem dX7_doHart_321 : decode cX7_doHart 321 = .ok (.iaload, 1) := by decide +kernel
theorem dX7_doHart_322 : decode cX7_doHart 322 = .ok (.ior, 1) := by decide +kernel
theorem dX7_doHart_323 : decode cX7_doHart 323 = .ok (.istore 9, 2) := by decide +kernel
theorem dX7_doHart_325 : decode cX7_doHart 325 = .ok (.aload_n 0, 1) := by decide +kernel
theorem dX7_doHart_326 : decode cX7_doHart 326 = .ok (.getfield 27, 3) := by decide +kernel
theorem dX7_doHart_329 : decode cX7_doHart 329 = .ok (.iload 5, 2) := by decide +kernel
theorem dX7_doHart_331 : decode cX7_doHart 331 = .ok (.iload 8, 2) := by decide +kernel
theorem dX7_doHart_333 : decode cX7_doHart 333 = .ok (.iastore, 1) := by decide +kernel
theorem dX7_doHart_334 : decode cX7_doHart 334 = .ok (.aload_n 0, 1) := by decide +kernel
theorem dX7_doHart_335 : decode cX7_doHart 335 = .ok (.getfield 30, 3) := by decide +kernel
theorem dX7_doHart_338 : decode cX7_doHart 338 = .ok (.iload 5, 2) := by decide +kernel
theorem dX7_doHart_340 : decode cX7_doHart 340 = .ok (.iload 9, 2) := by decide +kernel
theorem dX7_doHart_342 : decode cX7_doHart 342 = .ok (.iastore, 1) := by decide +kernel
theorem dX7_doHart_343 : decode cX7_doHart 343 = .ok (.goto (-331), 3) := by decide +kernel
theorem dX7_doHart_346 : decode cX7_doHart 346 = .ok (.return_, 1) := by decide +kernel
set_option maxRecDepth 20000 in
theorem ggX7_access_X7_choose : GoodIn wsX7_access wsX7_choose := goodIn_r _ [21, 22, 23, 24, 25, 32, 33, 34, 35, 36, 37, 38, 39, 40, 41, 42, 43, 44, 45, 46, 47, 48, 49, 50, 51, 52, 53, 54, 55, 56, 57, 58, 59, 60, 61, 62, 63, 64, 65, 66] (by decide +kernel) (by decide +kernel)
set_option maxRecDepth 20000 in
theorem gX7_access_X7_choose : GoodIn wsX7_access (wsV RX7 148 RX7 yX7_choose wsX7_choose) := goodIn_app (goodIn_of _ (by decide +kernel)) ggX7_access_X7_choose
set_option maxRecDepth 20000 in
theorem ggX7_access_X7_isWriting : GoodIn wsX7_access wsX7_isWriting := goodIn_r _ [28] (by decide +kernel) (by decide +kernel)
set_option maxRecDepth 20000 in
theorem gX7_access_X7_isWriting : GoodIn wsX7_access (va_wsS RX7 151 yX7_isWriting wsX7_isWriting) := goodIn_app (goodIn_of _ (by decide +kernel)) ggX7_access_X7_isWriting
set_option maxRecDepth 20000 in
theorem ggX7_access_X7_isReading : GoodIn wsX7_access wsX7_isReading := goodIn_r _ [31] (by decide +kernel) (by decide +kernel)
set_option maxRecDepth 20000 in
theorem gX7_access_X7_isReading : GoodIn wsX7_access (va_wsS RX7 108 yX7_isReading wsX7_isReading) := goodIn_app (goodIn_of _ (by decide +kernel)) ggX7_access_X7_isReading
theorem dX7_access_0 : decode cX7_access 0 = .ok (.iload_n 3, 1) := by decide +kernel
theorem dX7_access_1 : decode cX7_access 1 = .ok (.iconst 2, 1) := by decide +kernel
theorem dX7_access_2 : decode cX7_access 2 = .ok (.if_icmp .eq 13, 3) := by decide +kernel
theorem dX7_access_5 : decode cX7_access 5 = .ok (.iload_n 3, 1) := by decide +kernel
theorem dX7_access_6 : decode cX7_access 6 = .ok (.iconst 3, 1) := by decide +kernel
theorem dX7_access_7 : decode cX7_access 7 = .ok (.if_icmp .eq 8, 3) := by decide +kernel
theorem dX7_access_10 : decode cX7_access 10 = .ok (.iload_n 3, 1) := by decide +kernel
theorem dX7_access_11 : decode cX7_access 11 = .ok (.iconst 5, 1) := by decide +kernel
theorem dX7_access_12 : decode cX7_access 12 = .ok (.if_icmp .ne 7, 3) := by decide +kernel
theorem dX7_access_15 : decode cX7_access 15 = .ok (.iconst 1, 1) := by decide +kernel
theorem dX7_access_16 : decode cX7_access 16 = .ok (.goto 4, 3) := by decide +kernel
theorem dX7_access_19 : decode cX7_access 19 = .ok (.iconst 0, 1) := by decide +kernel
theorem dX7_access_20 : decode cX7_access 20 = .ok (.istore 4, 2) := by decide +kernel
theorem dX7_access_22 : decode cX7_access 22 = .ok (.iconst 4, 1) := by decide +kernel
theorem dX7_access_23 : decode cX7_access 23 = .ok (.iload_n 1, 1) := by decide +kernel
theorem dX7_access_24 : decode cX7_access 24 = .ok (.imul, 1) := by decide +kernel
theorem dX7_access_25 : decode cX7_access 25 = .ok (.aload_n 0, 1) := by decide +kernel
theorem dX7_access_26 : decode cX7_access 26 = .ok (.getfield 7, 3) := by decide +kernel
theorem dX7_access_29 : decode cX7_access 29 = .ok (.iload_n 2, 1) := by decide +kernel
theorem dX7_access_30 : decode cX7_access 30 = .ok (.iconst 1, 1) := by decide +kernel
theorem dX7_access_31 : decode cX7_access 31 = .ok (.iadd, 1) := by decide +kernel
theorem dX7_access_32 : decode cX7_access 32 = .ok (.iaload, 1) := by decide +kernel
theorem dX7_access_33 : decode cX7_access 33 = .ok (.iadd, 1) := by decide +kernel
theorem dX7_access_34 : decode cX7_access 34 = .ok (.istore 5, 2) := by decide +kernel
theorem dX7_access_36 : decode cX7_access 36 = .ok (.iconst 4, 1) := by decide +kernel
theorem dX7_access_37 : decode cX7_access 37 = .ok (.iload_n 1, 1) := by decide +kernel
theorem dX7_access_38 : decode cX7_access 38 = .ok (.imul, 1) := by decide +kernel
theorem dX7_access_39 : decode cX7_access 39 = .ok (.aload_n 0, 1) := by decide +kernel
theorem dX7_access_40 : decode cX7_access 40 = .ok (.getfield 7, 3) := by decide +kernel
theorem dX7_access_43 : decode cX7_access 43 = .ok (.iload_n 2, 1) := by decide +kernel
theorem dX7_access_44 : decode cX7_access 44 = .ok (.iconst 2, 1) := by decide +kernel
theorem dX7_access_45 : decode cX7_access 45 = .ok (.iadd, 1) := by decide +kernel
theorem dX7_access_46 : decode cX7_access 46 = .ok (.iaload, 1) := by decide +kernel
theorem dX7_access_47 : decode cX7_access 47 = .ok (.iadd, 1) := by decide +kernel
theorem dX7_access_48 : decode cX7_access 48 = .ok (.istore 6, 2) := by decide +kernel
theorem dX7_access_50 : decode cX7_access 50 = .ok (.aload_n 0, 1) := by decide +kernel
theorem dX7_access_51 : decode cX7_access 51 = .ok (.getfield 7, 3) := by decide +kernel
theorem dX7_access_54 : decode cX7_access 54 = .ok (.iload_n 2, 1) := by decide +kernel
theorem dX7_access_55 : decode cX7_access 55 = .ok (.iload 4, 2) := by decide +kernel
theorem dX7_access_57 : decode cX7_access 57 = .ok (.ifCond .eq 7, 3) := by decide +kernel
theorem dX7_access_60 : decode cX7_access 60 = .ok (.iconst 3, 1) := by decide +kernel
theorem dX7_access_61 : decode cX7_access 61 = .ok (.goto 4, 3) := by decide +kernel
theorem dX7_access_64 : decode cX7_access 64 = .ok (.iconst 2, 1) := by decide +kernel
theorem dX7_access_65 : decode cX7_access 65 = .ok (.iadd, 1) := by decide +kernel
theorem dX7_access_66 : decode cX7_access 66 = .ok (.iaload, 1) := by decide +kernel
theorem dX7_access_67 : decode cX7_access 67 = .ok (.istore 7, 2) := by decide +kernel
theorem dX7_access_69 : decode cX7_access 69 = .ok (.aload_n 0, 1) := by decide +kernel
theorem dX7_access_70 : decode cX7_access 70 = .ok (.getfield 7, 3) := by decide +kernel
theorem dX7_access_73 : decode cX7_access 73 = .ok (.iload_n 2, 1) := by decide +kernel
theorem dX7_access_74 : decode cX7_access 74 = .ok (.iload 4, 2) := by decide +kernel
theorem dX7_access_76 : decode cX7_access 76 = .ok (.ifCond .eq 7, 3) := by decide +kernel
theorem dX7_access_79 : decode cX7_access 79 = .ok (.iconst 4, 1) := by decide +kernel
theorem dX7_access_80 : decode cX7_access 80 = .ok (.goto 4, 3) := by decide +kernel
theorem dX7_access_83 : decode cX7_access 83 = .ok (.iconst 3, 1) := by decide +kernel
theorem dX7_access_84 : decode cX7_access 84 = .ok (.iadd, 1) := by decide +kernel
theorem dX7_access_85 : decode cX7_access 85 = .ok (.iaload, 1) := by decide +kernel
theorem dX7_access_86 : decode cX7_access 86 = .ok (.istore 8, 2) := by decide +kernel
theorem dX7_access_88 : decode cX7_access 88 = .ok (.iload 8, 2) := by decide +kernel
theorem dX7_access_90 : decode cX7_access 90 = .ok (.ifCond .ge 8, 3) := by decide +kernel
theorem dX7_access_93 : decode cX7_access 93 = .ok (.iload 7, 2) := by decide +kernel
theorem dX7_access_95 : decode cX7_access 95 = .ok (.goto 19, 3) := by decide +kernel
theorem dX7_access_98 : decode cX7_access 98 = .ok (.iload 7, 2) := by decide +kernel
theorem dX7_access_100 : decode cX7_access 100 = .ok (.aload_n 0, 1) := by decide +kernel
theorem dX7_access_101 : decode cX7_access 101 = .ok (.getfield 27, 3) := by decide +kernel
theorem dX7_access_104 : decode cX7_access 104 = .ok (.iconst 4, 1) := by decide +kernel
theorem dX7_access_105 : decode cX7_access 105 = .ok (.iload_n 1, 1) := by decide +kernel
theorem dX7_access_106 : decode cX7_access 106 = .ok (.imul, 1) := by decide +kernel
theorem dX7_access_107 : decode cX7_access 107 = .ok (.iload 8, 2) := by decide +kernel
theorem dX7_access_109 : decode cX7_access 109 = .ok (.iadd, 1) := by decide +kernel
theorem dX7_access_110 : decode cX7_access 110 = .ok (.iaload, 1) := by decide +kernel
theorem dX7_access_111 : decode cX7_access 111 = .ok (.iadd, 1) := by decide +kernel
theorem dX7_access_112 : decode cX7_access 112 = .ok (.iconst 3, 1) := by decide +kernel
theorem dX7_access_113 : decode cX7_access 113 = .ok (.irem, 1) := by decide +kernel
theorem dX7_access_114 : decode cX7_access 114 = .ok (.istore 9, 2) := by decide +kernel
theorem dX7_access_116 : decode cX7_access 116 = .ok (.iload_n 3, 1) := by decide +kernel
theorem dX7_access_117 : decode cX7_access 117 = .ok (.iconst 5, 1) := by decide +kernel
theorem dX7_access_118 : decode cX7_access 118 = .ok (.if_icmp .ne 96, 3) := by decide +kernel
theorem dX7_access_121 : decode cX7_access 121 = .ok (.aload_n 0, 1) := by decide +kernel
theorem dX7_access_122 : decode cX7_access 122 = .ok (.getfield 141, 3) := by decide +kernel
theorem dX7_access_125 : decode cX7_access 125 = .ok (.ifCond .lt 21, 3) := by decide +kernel
theorem dX7_access_128 : decode cX7_access 128 = .ok (.aload_n 0, 1) := by decide +kernel
theorem dX7_access_129 : decode cX7_access 129 = .ok (.getfield 39, 3) := by decide +kernel
theorem dX7_access_132 : decode cX7_access 132 = .ok (.aload_n 0, 1) := by decide +kernel
theorem dX7_access_133 : decode cX7_access 133 = .ok (.getfield 141, 3) := by decide +kernel
theorem dX7_access_136 : decode cX7_access 136 = .ok (.iaload, 1) := by decide +kernel
theorem dX7_access_137 : decode cX7_access 137 = .ok (.iload 9, 2) := by decide +kernel
theorem dX7_access_139 : decode cX7_access 139 = .ok (.if_icmp .ne 7, 3) := by decide +kernel
theorem dX7_access_142 : decode cX7_access 142 = .ok (.iconst 1, 1) := by decide +kernel
theorem dX7_access_143 : decode cX7_access 143 = .ok (.goto 4, 3) := by decide +kernel
theorem dX7_access_146 : decode cX7_access 146 = .ok (.iconst 0, 1) := by decide +kernel
theorem dX7_access_147 : decode cX7_access 147 = .ok (.istore 10, 2) := by decide +kernel
theorem dX7_access_149 : decode cX7_access 149 = .ok (.iload 10, 2) := by decide +kernel
theorem dX7_access_151 : decode cX7_access 151 = .ok (.ifCond .eq 12, 3) := by decide +kernel
theorem dX7_access_154 : decode cX7_access 154 = .ok (.aload_n 0, 1) := by decide +kernel
theorem dX7_access_155 : decode cX7_access 155 = .ok (.iconst 2, 1) := by decide +kernel
theorem dX7_access_156 : decode cX7_access 156 = .ok (.invokevirtual 148, 3) := by decide +kernel
theorem dX7_access_159 : decode cX7_access 159 = .ok (.iconst 1, 1) := by decide +kernel
theorem dX7_access_160 : decode cX7_access 160 = .ok (.if_icmp .ne 7, 3) := by decide +kernel
theorem dX7_access_163 : decode cX7_access 163 = .ok (.iconst 1, 1) := by decide +kernel
theorem dX7_access_164 : decode cX7_access 164 = .ok (.goto 4, 3) := by decide +kernel
theorem dX7_access_167 : decode cX7_access 167 = .ok (.iconst 0, 1) := by decide +kernel
theorem dX7_access_168 : decode cX7_access 168 = .ok (.istore 11, 2) := by decide +kernel
theorem dX7_access_170 : decode cX7_access 170 = .ok (.aload_n 0, 1) := by decide +kernel
theorem dX7_access_171 : decode cX7_access 171 = .ok (.getfield 141, 3) := by decide +kernel
theorem dX7_access_174 : decode cX7_access 174 = .ok (.istore 12, 2) := by decide +kernel
theorem dX7_access_176 : decode cX7_access 176 = .ok (.aload_n 0, 1) := by decide +kernel
theorem dX7_access_177 : decode cX7_access 177 = .ok (.iconst (-1), 1) := by decide +kernel
theorem dX7_access_178 : decode cX7_access 178 = .ok (.putfield 141, 3) := by decide +kernel
theorem dX7_access_181 : decode cX7_access 181 = .ok (.iload 11, 2) := by decide +kernel
theorem dX7_access_183 : decode cX7_access 183 = .ok (.ifCond .eq 20, 3) := by decide +kernel
theorem dX7_access_186 : decode cX7_access 186 = .ok (.aload_n 0, 1) := by decide +kernel
theorem dX7_access_187 : decode cX7_access 187 = .ok (.getfield 27, 3) := by decide +kernel
theorem dX7_access_190 : decode cX7_access 190 = .ok (.iload 5, 2) := by decide +kernel
theorem dX7_access_192 : decode cX7_access 192 = .ok (.iconst 1, 1) := by decide +kernel
theorem dX7_access_193 : decode cX7_access 193 = .ok (.iastore, 1) := by decide +kernel
theorem dX7_access_194 : decode cX7_access 194 = .ok (.aload_n 0, 1) := by decide +kernel
theorem dX7_access_195 : decode cX7_access 195 = .ok (.getfield 30, 3) := by decide +kernel
theorem dX7_access_198 : decode cX7_access 198 = .ok (.iload 5, 2) := by decide +kernel
theorem dX7_access_200 : decode cX7_access 200 = .ok (.iconst 0, 1) := by decide +kernel
theorem dX7_access_201 : decode cX7_access 201 = .ok (.iastore, 1) := by decide +kernel
theorem dX7_access_202 : decode cX7_access 202 = .ok (.return_, 1) := by decide +kernel
theorem dX7_access_203 : decode cX7_access 203 = .ok (.aload_n 0, 1) := by decide +kernel
theorem dX7_access_204 : decode cX7_access 204 = .ok (.getfield 60, 3) := by decide +kernel
theorem dX7_access_207 : decode cX7_access 207 = .ok (.aload_n 0, 1) := by decide +kernel
theorem dX7_access_208 : decode cX7_access 208 = .ok (.getfield 128, 3) := by decide +kernel
theorem dX7_access_211 : decode cX7_access 211 = .ok (.iload 12, 2) := by decide +kernel
theorem dX7_access_213 : decode cX7_access 213 = .ok (.iastore, 1) := by decide +kernel
theorem dX7_access_214 : decode cX7_access 214 = .ok (.aload_n 0, 1) := by decide +kernel
theorem dX7_access_215 : decode cX7_access 215 = .ok (.getfield 128, 3) := by decide +kernel
theorem dX7_access_218 : decode cX7_access 218 = .ok (.istore 10, 2) := by decide +kernel
theorem dX7_access_220 : decode cX7_access 220 = .ok (.aload_n 0, 1) := by decide +kernel
theorem dX7_access_221 : decode cX7_access 221 = .ok (.dup, 1) := by decide +kernel
theorem dX7_access_222 : decode cX7_access 222 = .ok (.getfield 128, 3) := by decide +kernel
theorem dX7_access_225 : decode cX7_access 225 = .ok (.iconst 1, 1) := by decide +kernel
theorem dX7_access_226 : decode cX7_access 226 = .ok (.iadd, 1) := by decide +kernel
theorem dX7_access_227 : decode cX7_access 227 = .ok (.putfield 128, 3) := by decide +kernel
theorem dX7_access_230 : decode cX7_access 230 = .ok (.aload_n 0, 1) := by decide +kernel
theorem dX7_access_231 : decode cX7_access 231 = .ok (.getfield 33, 3) := by decide +kernel
theorem dX7_access_234 : decode cX7_access 234 = .ok (.iload 10, 2) := by decide +kernel
theorem dX7_access_236 : decode cX7_access 236 = .ok (.iload_n 1, 1) := by decide +kernel
theorem dX7_access_237 : decode cX7_access 237 = .ok (.iastore, 1) := by decide +kernel
theorem dX7_access_238 : decode cX7_access 238 = .ok (.aload_n 0, 1) := by decide +kernel
theorem dX7_access_239 : decode cX7_access 239 = .ok (.getfield 36, 3) := by decide +kernel
theorem dX7_access_242 : decode cX7_access 242 = .ok (.iload 10, 2) := by decide +kernel
theorem dX7_access_244 : decode cX7_access 244 = .ok (.iload_n 3, 1) := by decide +kernel
theorem dX7_access_245 : decode cX7_access 245 = .ok (.iastore, 1) := by decide +kernel
theorem dX7_access_246 : decode cX7_access 246 = .ok (.aload_n 0, 1) := by decide +kernel
theorem dX7_access_247 : decode cX7_access 247 = .ok (.getfield 39, 3) := by decide +kernel
theorem dX7_access_250 : decode cX7_access 250 = .ok (.iload 10, 2) := by decide +kernel
theorem dX7_access_252 : decode cX7_access 252 = .ok (.iload 9, 2) := by decide +kernel
theorem dX7_access_254 : decode cX7_access 254 = .ok (.iastore, 1) := by decide +kernel
theorem dX7_access_255 : decode cX7_access 255 = .ok (.aload_n 0, 1) := by decide +kernel
theorem dX7_access_256 : decode cX7_access 256 = .ok (.getfield 48, 3) := by decide +kernel
theorem dX7_access_259 : decode cX7_access 259 = .ok (.iload 10, 2) := by decide +kernel
theorem dX7_access_261 : decode cX7_access 261 = .ok (.aload_n 0, 1) := by decide +kernel
theorem dX7_access_262 : decode cX7_access 262 = .ok (.getfield 7, 3) := by decide +kernel
theorem dX7_access_265 : decode cX7_access 265 = .ok (.iload_n 2, 1) := by decide +kernel
theorem dX7_access_266 : decode cX7_access 266 = .ok (.iload 4, 2) := by decide +kernel
theorem dX7_access_268 : decode cX7_access 268 = .ok (.ifCond .eq 7, 3) := by decide +kernel
theorem dX7_access_271 : decode cX7_access 271 = .ok (.iconst 5, 1) := by decide +kernel
theorem dX7_access_272 : decode cX7_access 272 = .ok (.goto 4, 3) := by decide +kernel
theorem dX7_access_275 : decode cX7_access 275 = .ok (.iconst 4, 1) := by decide +kernel
theorem dX7_access_276 : decode cX7_access 276 = .ok (.iadd, 1) := by decide +kernel
theorem dX7_access_277 : decode cX7_access 277 = .ok (.iaload, 1) := by decide +kernel
theorem dX7_access_278 : decode cX7_access 278 = .ok (.iastore, 1) := by decide +kernel
theorem dX7_access_279 : decode cX7_access 279 = .ok (.aload_n 0, 1) := by decide +kernel
theorem dX7_access_280 : decode cX7_access 280 = .ok (.getfield 51, 3) := by decide +kernel
theorem dX7_access_283 : decode cX7_access 283 = .ok (.iload 10, 2) := by decide +kernel
theorem dX7_access_285 : decode cX7_access 285 = .ok (.iload 8, 2) := by decide +kernel
theorem dX7_access_287 : decode cX7_access 287 = .ok (.ifCond .ge 7, 3) := by decide +kernel
theorem dX7_access_290 : decode cX7_access 290 = .ok (.iconst 0, 1) := by decide +kernel
theorem dX7_access_291 : decode cX7_access 291 = .ok (.goto 14, 3) := by decide +kernel
theorem dX7_access_294 : decode cX7_access 294 = .ok (.aload_n 0, 1) := by decide +kernel
theorem dX7_access_295 : decode cX7_access 295 = .ok (.getfield 30, 3) := by decide +kernel
theorem dX7_access_298 : decode cX7_access 298 = .ok (.iconst 4, 1) := by decide +kernel
theorem dX7_access_299 : decode cX7_access 299 = .ok (.iload_n 1, 1) := by decide +kernel
theorem dX7_access_300 : decode cX7_access 300 = .ok (.imul, 1) := by decide +kernel
theorem dX7_access_301 : decode cX7_access 301 = .ok (.iload 8, 2) := by decide +kernel
theorem dX7_access_303 : decode cX7_access 303 = .ok (.iadd, 1) := by decide +kernel
theorem dX7_access_304 : decode cX7_access 304 = .ok (.iaload, 1) := by decide +kernel
theorem dX7_access_305 : decode cX7_access 305 = .ok (.iastore, 1) := by decide +kernel
theorem dX7_access_306 : decode cX7_access 306 = .ok (.aload_n 0, 1) := by decide +kernel
theorem dX7_access_307 : decode cX7_access 307 = .ok (.getfield 57, 3) := by decide +kernel
theorem dX7_access_310 : decode cX7_access 310 = .ok (.iload 10, 2) := by decide +kernel
theorem dX7_access_312 : decode cX7_access 312 = .ok (.aload_n 0, 1) := by decide +kernel
theorem dX7_access_313 : decode cX7_access 313 = .ok (.getfield 138, 3) := by decide +kernel
theorem dX7_access_316 : decode cX7_access 316 = .ok (.iastore, 1) := by decide +kernel
theorem dX7_access_317 : decode cX7_access 317 = .ok (.iload_n 3, 1) := by decide +kernel
theorem dX7_access_318 : decode cX7_access 318 = .ok (.iconst 1, 1) := by decide +kernel
theorem dX7_access_319 : decode cX7_access 319 = .ok (.if_icmp .ne 8, 3) := by decide +kernel
theorem dX7_access_322 : decode cX7_access 322 = .ok (.iload 5, 2) := by decide +kernel
theorem dX7_access_324 : decode cX7_access 324 = .ok (.goto 5, 3) := by decide +kernel
theorem dX7_access_327 : decode cX7_access 327 = .ok (.iload 6, 2) := by decide +kernel
theorem dX7_access_329 : decode cX7_access 329 = .ok (.istore 11, 2) := by decide +kernel
theorem dX7_access_331 : decode cX7_access 331 = .ok (.aload_n 0, 1) := by decide +kernel
theorem dX7_access_332 : decode cX7_access 332 = .ok (.getfield 54, 3) := by decide +kernel
theorem dX7_access_335 : decode cX7_access 335 = .ok (.iload 10, 2) := by decide +kernel
theorem dX7_access_337 : decode cX7_access 337 = .ok (.iload_n 3, 1) := by decide +kernel
theorem dX7_access_338 : decode cX7_access 338 = .ok (.invokestatic 151, 3) := by decide +kernel
theorem dX7_access_341 : decode cX7_access 341 = .ok (.ifCond .eq 13, 3) := by decide +kernel
theorem dX7_access_344 : decode cX7_access 344 = .ok (.aload_n 0, 1) := by decide +kernel
theorem dX7_access_345 : decode cX7_access 345 = .ok (.getfield 30, 3) := by decide +kernel
theorem dX7_access_348 : decode cX7_access 348 = .ok (.iload 11, 2) := by decide +kernel
theorem dX7_access_350 : decode cX7_access 350 = .ok (.iaload, 1) := by decide +kernel
theorem dX7_access_351 : decode cX7_access 351 = .ok (.goto 4, 3) := by decide +kernel
theorem dX7_access_354 : decode cX7_access 354 = .ok (.iconst 0, 1) := by decide +kernel
theorem dX7_access_355 : decode cX7_access 355 = .ok (.iastore, 1) := by decide +kernel
theorem dX7_access_356 : decode cX7_access 356 = .ok (.iload_n 3, 1) := by decide +kernel
theorem dX7_access_357 : decode cX7_access 357 = .ok (.invokestatic 151, 3) := by decide +kernel
theorem dX7_access_360 : decode cX7_access 360 = .ok (.ifCond .eq 13, 3) := by decide +kernel
theorem dX7_access_363 : decode cX7_access 363 = .ok (.aload_n 0, 1) := by decide +kernel
theorem dX7_access_364 : decode cX7_access 364 = .ok (.getfield 27, 3) := by decide +kernel
theorem dX7_access_367 : decode cX7_access 367 = .ok (.iload 11, 2) := by decide +kernel
theorem dX7_access_369 : decode cX7_access 369 = .ok (.iaload, 1) := by decide +kernel
theorem dX7_access_370 : decode cX7_access 370 = .ok (.goto 4, 3) := by decide +kernel
theorem dX7_access_373 : decode cX7_access 373 = .ok (.iconst 0, 1) := by decide +kernel
theorem dX7_access_374 : decode cX7_access 374 = .ok (.istore 12, 2) := by decide +kernel
theorem dX7_access_376 : decode cX7_access 376 = .ok (.iload_n 3, 1) := by decide +kernel
theorem dX7_access_377 : decode cX7_access 377 = .ok (.invokestatic 108, 3) := by decide +kernel
theorem dX7_access_380 : decode cX7_access 380 = .ok (.ifCond .eq 11, 3) := by decide +kernel
theorem dX7_access_383 : decode cX7_access 383 = .ok (.aload_n 0, 1) := by decide +kernel
theorem dX7_access_384 : decode cX7_access 384 = .ok (.iconst 4, 1) := by decide +kernel
theorem dX7_access_385 : decode cX7_access 385 = .ok (.invokevirtual 148, 3) := by decide +kernel
theorem dX7_access_388 : decode cX7_access 388 = .ok (.goto 4, 3) := by decide +kernel
theorem dX7_access_391 : decode cX7_access 391 = .ok (.iconst 0, 1) := by decide +kernel
theorem dX7_access_392 : decode cX7_access 392 = .ok (.istore 13, 2) := by decide +kernel
theorem dX7_access_394 : decode cX7_access 394 = .ok (.aload_n 0, 1) := by decide +kernel
theorem dX7_access_395 : decode cX7_access 395 = .ok (.getfield 42, 3) := by decide +kernel
end
section
theorem dX7_access_398 : decode cX7_access 398 = .ok (.iload 10, 2) := by decide +kernel
theorem dX7_access_400 : decode cX7_access 400 = .ok (.iload 13, 2) := by decide +kernel
theorem dX7_access_402 : decode cX7_access 402 = .ok (.iastore, 1) := by decide +kernel
theorem dX7_access_403 : decode cX7_access 403 = .ok (.aload_n 0, 1) := by decide +kernel
theorem dX7_access_404 : decode cX7_access 404 = .ok (.getfield 45, 3) := by decide +kernel
theorem dX7_access_407 : decode cX7_access 407 = .ok (.iload 10, 2) := by decide +kernel
theorem dX7_access_409 : decode cX7_access 409 = .ok (.iload_n 3, 1) := by decide +kernel
theorem dX7_access_410 : decode cX7_access 410 = .ok (.iconst 3, 1) := by decide +kernel
theorem dX7_access_411 : decode cX7_access 411 = .ok (.if_icmp .ne 13, 3) := by decide +kernel
theorem dX7_access_414 : decode cX7_access 414 = .ok (.iload 12, 2) := by decide +kernel
theorem dX7_access_416 : decode cX7_access 416 = .ok (.iload 13, 2) := by decide +kernel
theorem dX7_access_418 : decode cX7_access 418 = .ok (.iadd, 1) := by decide +kernel
theorem dX7_access_419 : decode cX7_access 419 = .ok (.iconst 3, 1) := by decide +kernel
theorem dX7_access_420 : decode cX7_access 420 = .ok (.iand, 1) := by decide +kernel
theorem dX7_access_421 : decode cX7_access 421 = .ok (.goto 5, 3) := by decide +kernel
theorem dX7_access_424 : decode cX7_access 424 = .ok (.iload 12, 2) := by decide +kernel
theorem dX7_access_426 : decode cX7_access 426 = .ok (.iastore, 1) := by decide +kernel
theorem dX7_access_427 : decode cX7_access 427 = .ok (.iload_n 3, 1) := by decide +kernel
theorem dX7_access_428 : decode cX7_access 428 = .ok (.iconst 1, 1) := by decide +kernel
theorem dX7_access_429 : decode cX7_access 429 = .ok (.if_icmp .eq 32, 3) := by decide +kernel
theorem dX7_access_432 : decode cX7_access 432 = .ok (.aload_n 0, 1) := by decide +kernel
theorem dX7_access_433 : decode cX7_access 433 = .ok (.getfield 27, 3) := by decide +kernel
theorem dX7_access_436 : decode cX7_access 436 = .ok (.iload 5, 2) := by decide +kernel
theorem dX7_access_438 : decode cX7_access 438 = .ok (.iload_n 3, 1) := by decide +kernel
theorem dX7_access_439 : decode cX7_access 439 = .ok (.iconst 5, 1) := by decide +kernel
theorem dX7_access_440 : decode cX7_access 440 = .ok (.if_icmp .ne 7, 3) := by decide +kernel
theorem dX7_access_443 : decode cX7_access 443 = .ok (.iconst 0, 1) := by decide +kernel
theorem dX7_access_444 : decode cX7_access 444 = .ok (.goto 5, 3) := by decide +kernel
theorem dX7_access_447 : decode cX7_access 447 = .ok (.iload 13, 2) := by decide +kernel
theorem dX7_access_449 : decode cX7_access 449 = .ok (.iastore, 1) := by decide +kernel
theorem dX7_access_450 : decode cX7_access 450 = .ok (.aload_n 0, 1) := by decide +kernel
theorem dX7_access_451 : decode cX7_access 451 = .ok (.getfield 30, 3) := by decide +kernel
theorem dX7_access_454 : decode cX7_access 454 = .ok (.iload 5, 2) := by decide +kernel
theorem dX7_access_456 : decode cX7_access 456 = .ok (.iconst 1, 1) := by decide +kernel
theorem dX7_access_457 : decode cX7_access 457 = .ok (.iload 10, 2) := by decide +kernel
theorem dX7_access_459 : decode cX7_access 459 = .ok (.ishl, 1) := by decide +kernel
theorem dX7_access_460 : decode cX7_access 460 = .ok (.iastore, 1) := by decide +kernel
theorem dX7_access_461 : decode cX7_access 461 = .ok (.iload_n 3, 1) := by decide +kernel
theorem dX7_access_462 : decode cX7_access 462 = .ok (.iconst 4, 1) := by decide +kernel
theorem dX7_access_463 : decode cX7_access 463 = .ok (.if_icmp .ne 9, 3) := by decide +kernel
theorem dX7_access_466 : decode cX7_access 466 = .ok (.aload_n 0, 1) := by decide +kernel
theorem dX7_access_467 : decode cX7_access 467 = .ok (.iload 10, 2) := by decide +kernel
theorem dX7_access_469 : decode cX7_access 469 = .ok (.putfield 141, 3) := by decide +kernel
theorem dX7_access_472 : decode cX7_access 472 = .ok (.return_, 1) := by decide +kernel
set_option maxRecDepth 20000 in
theorem ggX7_reads_X7_isReading : GoodIn wsX7_reads wsX7_isReading := goodIn_r _ [5] (by decide +kernel) (by decide +kernel)
set_option maxRecDepth 20000 in
theorem gX7_reads_X7_isReading : GoodIn wsX7_reads (va_wsS RX7 108 yX7_isReading wsX7_isReading) := goodIn_app (goodIn_of _ (by decide +kernel)) ggX7_reads_X7_isReading
theorem dX7_reads_0 : decode cX7_reads 0 = .ok (.aload_n 0, 1) := by decide +kernel
theorem dX7_reads_1 : decode cX7_reads 1 = .ok (.getfield 36, 3) := by decide +kernel
theorem dX7_reads_4 : decode cX7_reads 4 = .ok (.iload_n 1, 1) := by decide +kernel
theorem dX7_reads_5 : decode cX7_reads 5 = .ok (.iaload, 1) := by decide +kernel
theorem dX7_reads_6 : decode cX7_reads 6 = .ok (.invokestatic 108, 3) := by decide +kernel
theorem dX7_reads_9 : decode cX7_reads 9 = .ok (.ireturn, 1) := by decide +kernel
set_option maxRecDepth 20000 in
theorem ggX7_writes_X7_isWriting : GoodIn wsX7_writes wsX7_isWriting := goodIn_r _ [5] (by decide +kernel) (by decide +kernel)
set_option maxRecDepth 20000 in
theorem gX7_writes_X7_isWriting : GoodIn wsX7_writes (va_wsS RX7 151 yX7_isWriting wsX7_isWriting) := goodIn_app (goodIn_of _ (by decide +kernel)) ggX7_writes_X7_isWriting
theorem dX7_writes_0 : decode cX7_writes 0 = .ok (.aload_n 0, 1) := by decide +kernel
theorem dX7_writes_1 : decode cX7_writes 1 = .ok (.getfield 36, 3) := by decide +kernel
theorem dX7_writes_4 : decode cX7_writes 4 = .ok (.iload_n 1, 1) := by decide +kernel
theorem dX7_writes_5 : decode cX7_writes 5 = .ok (.iaload, 1) := by decide +kernel
theorem dX7_writes_6 : decode cX7_writes 6 = .ok (.invokestatic 151, 3) := by decide +kernel
theorem dX7_writes_9 : decode cX7_writes 9 = .ok (.ireturn, 1) := by decide +kernel
theorem dX7_needs_0 : decode cX7_needs 0 = .ok (.iload_n 0, 1) := by decide +kernel
theorem dX7_needs_1 : decode cX7_needs 1 = .ok (.iload_n 1, 1) := by decide +kernel
theorem dX7_needs_2 : decode cX7_needs 2 = .ok (.ishr, 1) := by decide +kernel
theorem dX7_needs_3 : decode cX7_needs 3 = .ok (.iconst 1, 1) := by decide +kernel
theorem dX7_needs_4 : decode cX7_needs 4 = .ok (.iand, 1) := by decide +kernel
theorem dX7_needs_5 : decode cX7_needs 5 = .ok (.iconst 1, 1) := by decide +kernel
theorem dX7_needs_6 : decode cX7_needs 6 = .ok (.if_icmp .ne 7, 3) := by decide +kernel
theorem dX7_needs_9 : decode cX7_needs 9 = .ok (.iconst 1, 1) := by decide +kernel
theorem dX7_needs_10 : decode cX7_needs 10 = .ok (.goto 4, 3) := by decide +kernel
theorem dX7_needs_13 : decode cX7_needs 13 = .ok (.iconst 0, 1) := by decide +kernel
theorem dX7_needs_14 : decode cX7_needs 14 = .ok (.ireturn, 1) := by decide +kernel
set_option maxRecDepth 20000 in
theorem ggX7_isFenced_X7_reads : GoodIn wsX7_isFenced wsX7_reads := goodIn_r _ [11, 12, 13, 14, 10, 15, 23, 24, 25, 26, 27, 28, 29, 30, 31, 32, 33, 34, 35, 36, 37, 38, 39, 40, 41, 42, 43, 44, 45, 46, 47, 48, 49, 50, 51, 52, 53, 54, 55, 56, 57] (by decide +kernel) (by decide +kernel)
set_option maxRecDepth 20000 in
theorem gX7_isFenced_X7_reads : GoodIn wsX7_isFenced (wsV RX7 154 RX7 yX7_reads wsX7_reads) := goodIn_app (goodIn_of _ (by decide +kernel)) ggX7_isFenced_X7_reads
set_option maxRecDepth 20000 in
theorem ggX7_isFenced_X7_writes : GoodIn wsX7_isFenced wsX7_writes := goodIn_r _ [19, 12, 20, 21, 10, 22, 23, 24, 25, 26, 27, 28, 29, 30, 31, 32, 33, 34, 35, 36, 37, 38, 39, 40, 41, 42, 43, 44, 45, 46, 47, 48, 49, 50, 51, 52, 53, 54, 55, 56, 57] (by decide +kernel) (by decide +kernel)
set_option maxRecDepth 20000 in
theorem gX7_isFenced_X7_writes : GoodIn wsX7_isFenced (wsV RX7 157 RX7 yX7_writes wsX7_writes) := goodIn_app (goodIn_of _ (by decide +kernel)) ggX7_isFenced_X7_writes
theorem dX7_isFenced_0 : decode cX7_isFenced 0 = .ok (.iconst 0, 1) := by decide +kernel
theorem dX7_isFenced_1 : decode cX7_isFenced 1 = .ok (.istore_n 3, 1) := by decide +kernel
theorem dX7_isFenced_2 : decode cX7_isFenced 2 = .ok (.iload_n 3, 1) := by decide +kernel
theorem dX7_isFenced_3 : decode cX7_isFenced 3 = .ok (.aload_n 0, 1) := by decide +kernel
theorem dX7_isFenced_4 : decode cX7_isFenced 4 = .ok (.getfield 131, 3) := by decide +kernel
theorem dX7_isFenced_7 : decode cX7_isFenced 7 = .ok (.if_icmp .ge 158, 3) := by decide +kernel
theorem dX7_isFenced_10 : decode cX7_isFenced 10 = .ok (.aload_n 0, 1) := by decide +kernel
theorem dX7_isFenced_11 : decode cX7_isFenced 11 = .ok (.getfield 63, 3) := by decide +kernel
theorem dX7_isFenced_14 : decode cX7_isFenced 14 = .ok (.iload_n 3, 1) := by decide +kernel
theorem dX7_isFenced_15 : decode cX7_isFenced 15 = .ok (.iaload, 1) := by decide +kernel
theorem dX7_isFenced_16 : decode cX7_isFenced 16 = .ok (.aload_n 0, 1) := by decide +kernel
theorem dX7_isFenced_17 : decode cX7_isFenced 17 = .ok (.getfield 33, 3) := by decide +kernel
theorem dX7_isFenced_20 : decode cX7_isFenced 20 = .ok (.iload_n 1, 1) := by decide +kernel
theorem dX7_isFenced_21 : decode cX7_isFenced 21 = .ok (.iaload, 1) := by decide +kernel
theorem dX7_isFenced_22 : decode cX7_isFenced 22 = .ok (.if_icmp .ne 27, 3) := by decide +kernel
theorem dX7_isFenced_25 : decode cX7_isFenced 25 = .ok (.aload_n 0, 1) := by decide +kernel
theorem dX7_isFenced_26 : decode cX7_isFenced 26 = .ok (.getfield 66, 3) := by decide +kernel
theorem dX7_isFenced_29 : decode cX7_isFenced 29 = .ok (.iload_n 3, 1) := by decide +kernel
theorem dX7_isFenced_30 : decode cX7_isFenced 30 = .ok (.iaload, 1) := by decide +kernel
theorem dX7_isFenced_31 : decode cX7_isFenced 31 = .ok (.iload_n 1, 1) := by decide +kernel
theorem dX7_isFenced_32 : decode cX7_isFenced 32 = .ok (.if_icmp .le 17, 3) := by decide +kernel
theorem dX7_isFenced_35 : decode cX7_isFenced 35 = .ok (.aload_n 0, 1) := by decide +kernel
theorem dX7_isFenced_36 : decode cX7_isFenced 36 = .ok (.getfield 66, 3) := by decide +kernel
theorem dX7_isFenced_39 : decode cX7_isFenced 39 = .ok (.iload_n 3, 1) := by decide +kernel
theorem dX7_isFenced_40 : decode cX7_isFenced 40 = .ok (.iaload, 1) := by decide +kernel
theorem dX7_isFenced_41 : decode cX7_isFenced 41 = .ok (.iload_n 2, 1) := by decide +kernel
theorem dX7_isFenced_42 : decode cX7_isFenced 42 = .ok (.if_icmp .gt 7, 3) := by decide +kernel
theorem dX7_isFenced_45 : decode cX7_isFenced 45 = .ok (.iconst 1, 1) := by decide +kernel
theorem dX7_isFenced_46 : decode cX7_isFenced 46 = .ok (.goto 4, 3) := by decide +kernel
theorem dX7_isFenced_49 : decode cX7_isFenced 49 = .ok (.iconst 0, 1) := by decide +kernel
theorem dX7_isFenced_50 : decode cX7_isFenced 50 = .ok (.istore 4, 2) := by decide +kernel
theorem dX7_isFenced_52 : decode cX7_isFenced 52 = .ok (.aload_n 0, 1) := by decide +kernel
theorem dX7_isFenced_53 : decode cX7_isFenced 53 = .ok (.iload_n 1, 1) := by decide +kernel
theorem dX7_isFenced_54 : decode cX7_isFenced 54 = .ok (.invokevirtual 154, 3) := by decide +kernel
theorem dX7_isFenced_57 : decode cX7_isFenced 57 = .ok (.ifCond .eq 14, 3) := by decide +kernel
theorem dX7_isFenced_60 : decode cX7_isFenced 60 = .ok (.aload_n 0, 1) := by decide +kernel
theorem dX7_isFenced_61 : decode cX7_isFenced 61 = .ok (.getfield 69, 3) := by decide +kernel
theorem dX7_isFenced_64 : decode cX7_isFenced 64 = .ok (.iload_n 3, 1) := by decide +kernel
theorem dX7_isFenced_65 : decode cX7_isFenced 65 = .ok (.iaload, 1) := by decide +kernel
theorem dX7_isFenced_66 : decode cX7_isFenced 66 = .ok (.iconst 1, 1) := by decide +kernel
theorem dX7_isFenced_67 : decode cX7_isFenced 67 = .ok (.iand, 1) := by decide +kernel
theorem dX7_isFenced_68 : decode cX7_isFenced 68 = .ok (.ifCond .ne 22, 3) := by decide +kernel
theorem dX7_isFenced_71 : decode cX7_isFenced 71 = .ok (.aload_n 0, 1) := by decide +kernel
theorem dX7_isFenced_72 : decode cX7_isFenced 72 = .ok (.iload_n 1, 1) := by decide +kernel
theorem dX7_isFenced_73 : decode cX7_isFenced 73 = .ok (.invokevirtual 157, 3) := by decide +kernel
theorem dX7_isFenced_76 : decode cX7_isFenced 76 = .ok (.ifCond .eq 18, 3) := by decide +kernel
theorem dX7_isFenced_79 : decode cX7_isFenced 79 = .ok (.aload_n 0, 1) := by decide +kernel
theorem dX7_isFenced_80 : decode cX7_isFenced 80 = .ok (.getfield 69, 3) := by decide +kernel
theorem dX7_isFenced_83 : decode cX7_isFenced 83 = .ok (.iload_n 3, 1) := by decide +kernel
theorem dX7_isFenced_84 : decode cX7_isFenced 84 = .ok (.iaload, 1) := by decide +kernel
theorem dX7_isFenced_85 : decode cX7_isFenced 85 = .ok (.iconst 2, 1) := by decide +kernel
theorem dX7_isFenced_86 : decode cX7_isFenced 86 = .ok (.iand, 1) := by decide +kernel
theorem dX7_isFenced_87 : decode cX7_isFenced 87 = .ok (.ifCond .eq 7, 3) := by decide +kernel
theorem dX7_isFenced_90 : decode cX7_isFenced 90 = .ok (.iconst 1, 1) := by decide +kernel
theorem dX7_isFenced_91 : decode cX7_isFenced 91 = .ok (.goto 4, 3) := by decide +kernel
theorem dX7_isFenced_94 : decode cX7_isFenced 94 = .ok (.iconst 0, 1) := by decide +kernel
theorem dX7_isFenced_95 : decode cX7_isFenced 95 = .ok (.istore 5, 2) := by decide +kernel
theorem dX7_isFenced_97 : decode cX7_isFenced 97 = .ok (.aload_n 0, 1) := by decide +kernel
theorem dX7_isFenced_98 : decode cX7_isFenced 98 = .ok (.iload_n 2, 1) := by decide +kernel
theorem dX7_isFenced_99 : decode cX7_isFenced 99 = .ok (.invokevirtual 154, 3) := by decide +kernel
theorem dX7_isFenced_102 : decode cX7_isFenced 102 = .ok (.ifCond .eq 14, 3) := by decide +kernel
theorem dX7_isFenced_105 : decode cX7_isFenced 105 = .ok (.aload_n 0, 1) := by decide +kernel
theorem dX7_isFenced_106 : decode cX7_isFenced 106 = .ok (.getfield 72, 3) := by decide +kernel
theorem dX7_isFenced_109 : decode cX7_isFenced 109 = .ok (.iload_n 3, 1) := by decide +kernel
theorem dX7_isFenced_110 : decode cX7_isFenced 110 = .ok (.iaload, 1) := by decide +kernel
theorem dX7_isFenced_111 : decode cX7_isFenced 111 = .ok (.iconst 1, 1) := by decide +kernel
theorem dX7_isFenced_112 : decode cX7_isFenced 112 = .ok (.iand, 1) := by decide +kernel
theorem dX7_isFenced_113 : decode cX7_isFenced 113 = .ok (.ifCond .ne 22, 3) := by decide +kernel
theorem dX7_isFenced_116 : decode cX7_isFenced 116 = .ok (.aload_n 0, 1) := by decide +kernel
theorem dX7_isFenced_117 : decode cX7_isFenced 117 = .ok (.iload_n 2, 1) := by decide +kernel
theorem dX7_isFenced_118 : decode cX7_isFenced 118 = .ok (.invokevirtual 157, 3) := by decide +kernel
theorem dX7_isFenced_121 : decode cX7_isFenced 121 = .ok (.ifCond .eq 18, 3) := by decide +kernel
theorem dX7_isFenced_124 : decode cX7_isFenced 124 = .ok (.aload_n 0, 1) := by decide +kernel
theorem dX7_isFenced_125 : decode cX7_isFenced 125 = .ok (.getfield 72, 3) := by decide +kernel
theorem dX7_isFenced_128 : decode cX7_isFenced 128 = .ok (.iload_n 3, 1) := by decide +kernel
theorem dX7_isFenced_129 : decode cX7_isFenced 129 = .ok (.iaload, 1) := by decide +kernel
theorem dX7_isFenced_130 : decode cX7_isFenced 130 = .ok (.iconst 2, 1) := by decide +kernel
theorem dX7_isFenced_131 : decode cX7_isFenced 131 = .ok (.iand, 1) := by decide +kernel
theorem dX7_isFenced_132 : decode cX7_isFenced 132 = .ok (.ifCond .eq 7, 3) := by decide +kernel
theorem dX7_isFenced_135 : decode cX7_isFenced 135 = .ok (.iconst 1, 1) := by decide +kernel
theorem dX7_isFenced_136 : decode cX7_isFenced 136 = .ok (.goto 4, 3) := by decide +kernel
theorem dX7_isFenced_139 : decode cX7_isFenced 139 = .ok (.iconst 0, 1) := by decide +kernel
theorem dX7_isFenced_140 : decode cX7_isFenced 140 = .ok (.istore 6, 2) := by decide +kernel
theorem dX7_isFenced_142 : decode cX7_isFenced 142 = .ok (.iload 4, 2) := by decide +kernel
theorem dX7_isFenced_144 : decode cX7_isFenced 144 = .ok (.ifCond .eq 15, 3) := by decide +kernel
theorem dX7_isFenced_147 : decode cX7_isFenced 147 = .ok (.iload 5, 2) := by decide +kernel
theorem dX7_isFenced_149 : decode cX7_isFenced 149 = .ok (.ifCond .eq 10, 3) := by decide +kernel
theorem dX7_isFenced_152 : decode cX7_isFenced 152 = .ok (.iload 6, 2) := by decide +kernel
theorem dX7_isFenced_154 : decode cX7_isFenced 154 = .ok (.ifCond .eq 5, 3) := by decide +kernel
theorem dX7_isFenced_157 : decode cX7_isFenced 157 = .ok (.iconst 1, 1) := by decide +kernel
theorem dX7_isFenced_158 : decode cX7_isFenced 158 = .ok (.ireturn, 1) := by decide +kernel
theorem dX7_isFenced_159 : decode cX7_isFenced 159 = .ok (.iinc 3 1, 3) := by decide +kernel
theorem dX7_isFenced_162 : decode cX7_isFenced 162 = .ok (.goto (-160), 3) := by decide +kernel
theorem dX7_isFenced_165 : decode cX7_isFenced 165 = .ok (.iconst 0, 1) := by decide +kernel
theorem dX7_isFenced_166 : decode cX7_isFenced 166 = .ok (.ireturn, 1) := by decide +kernel
set_option maxRecDepth 20000 in
theorem ggX7_mustStand_X7_reads : GoodIn wsX7_mustStand wsX7_reads := goodIn_r _ [13, 4, 14, 15, 12, 16, 37, 38, 39, 40, 41, 42, 43, 44, 45, 46, 47, 48, 49, 50, 51, 52, 53, 54, 55, 56, 57, 58, 59, 60, 61, 62, 63, 64, 65, 66, 67, 68, 69, 70, 71] (by decide +kernel) (by decide +kernel)
set_option maxRecDepth 20000 in
theorem gX7_mustStand_X7_reads : GoodIn wsX7_mustStand (wsV RX7 154 RX7 yX7_reads wsX7_reads) := goodIn_app (goodIn_of _ (by decide +kernel)) ggX7_mustStand_X7_reads
set_option maxRecDepth 20000 in
theorem ggX7_mustStand_X7_writes : GoodIn wsX7_mustStand wsX7_writes := goodIn_r _ [20, 4, 21, 22, 12, 23, 37, 38, 39, 40, 41, 42, 43, 44, 45, 46, 47, 48, 49, 50, 51, 52, 53, 54, 55, 56, 57, 58, 59, 60, 61, 62, 63, 64, 65, 66, 67, 68, 69, 70, 71] (by decide +kernel) (by decide +kernel)
set_option maxRecDepth 20000 in
theorem gX7_mustStand_X7_writes : GoodIn wsX7_mustStand (wsV RX7 157 RX7 yX7_writes wsX7_writes) := goodIn_app (goodIn_of _ (by decide +kernel)) ggX7_mustStand_X7_writes
set_option maxRecDepth 20000 in
theorem ggX7_mustStand_X7_isFenced : GoodIn wsX7_mustStand wsX7_isFenced := goodIn_r _ [27, 28, 29, 30, 31, 32, 33, 9, 10, 11, 12, 13, 4, 14, 15, 16, 17, 18, 19, 20, 21, 22, 23, 37, 38, 39, 40, 41, 42, 43, 44, 45, 46, 47, 48, 49, 50, 51, 52, 53, 54, 55, 56, 57, 58, 59, 60, 61, 62, 63, 64, 65, 66, 67, 68, 69, 70, 71] (by decide +kernel) (by decide +kernel)
set_option maxRecDepth 20000 in
theorem gX7_mustStand_X7_isFenced : GoodIn wsX7_mustStand (wsV RX7 160 RX7 yX7_isFenced wsX7_isFenced) := goodIn_app (goodIn_of _ (by decide +kernel)) ggX7_mustStand_X7_isFenced
set_option maxRecDepth 20000 in
theorem ggX7_mustStand_X7_needs : GoodIn wsX7_mustStand wsX7_needs := goodIn_r _ [36] (by decide +kernel) (by decide +kernel)
set_option maxRecDepth 20000 in
theorem gX7_mustStand_X7_needs : GoodIn wsX7_mustStand (va_wsS RX7 163 yX7_needs wsX7_needs) := goodIn_app (goodIn_of _ (by decide +kernel)) ggX7_mustStand_X7_needs
theorem dX7_mustStand_0 : decode cX7_mustStand 0 = .ok (.aload_n 0, 1) := by decide +kernel
theorem dX7_mustStand_1 : decode cX7_mustStand 1 = .ok (.getfield 88, 3) := by decide +kernel
theorem dX7_mustStand_4 : decode cX7_mustStand 4 = .ok (.iconst 2, 1) := by decide +kernel
theorem dX7_mustStand_5 : decode cX7_mustStand 5 = .ok (.if_icmp .eq 27, 3) := by decide +kernel
theorem dX7_mustStand_8 : decode cX7_mustStand 8 = .ok (.aload_n 0, 1) := by decide +kernel
theorem dX7_mustStand_9 : decode cX7_mustStand 9 = .ok (.getfield 88, 3) := by decide +kernel
theorem dX7_mustStand_12 : decode cX7_mustStand 12 = .ok (.iconst 1, 1) := by decide +kernel
theorem dX7_mustStand_13 : decode cX7_mustStand 13 = .ok (.if_icmp .ne 21, 3) := by decide +kernel
theorem dX7_mustStand_16 : decode cX7_mustStand 16 = .ok (.aload_n 0, 1) := by decide +kernel
theorem dX7_mustStand_17 : decode cX7_mustStand 17 = .ok (.iload_n 1, 1) := by decide +kernel
theorem dX7_mustStand_18 : decode cX7_mustStand 18 = .ok (.invokevirtual 154, 3) := by decide +kernel
theorem dX7_mustStand_21 : decode cX7_mustStand 21 = .ok (.ifCond .ne 11, 3) := by decide +kernel
theorem dX7_mustStand_24 : decode cX7_mustStand 24 = .ok (.aload_n 0, 1) := by decide +kernel
theorem dX7_mustStand_25 : decode cX7_mustStand 25 = .ok (.iload_n 2, 1) := by decide +kernel
theorem dX7_mustStand_26 : decode cX7_mustStand 26 = .ok (.invokevirtual 157, 3) := by decide +kernel
theorem dX7_mustStand_29 : decode cX7_mustStand 29 = .ok (.ifCond .eq 5, 3) := by decide +kernel
theorem dX7_mustStand_32 : decode cX7_mustStand 32 = .ok (.iconst 1, 1) := by decide +kernel
theorem dX7_mustStand_33 : decode cX7_mustStand 33 = .ok (.ireturn, 1) := by decide +kernel
theorem dX7_mustStand_34 : decode cX7_mustStand 34 = .ok (.aload_n 0, 1) := by decide +kernel
theorem dX7_mustStand_35 : decode cX7_mustStand 35 = .ok (.getfield 39, 3) := by decide +kernel
theorem dX7_mustStand_38 : decode cX7_mustStand 38 = .ok (.iload_n 1, 1) := by decide +kernel
theorem dX7_mustStand_39 : decode cX7_mustStand 39 = .ok (.iaload, 1) := by decide +kernel
theorem dX7_mustStand_40 : decode cX7_mustStand 40 = .ok (.aload_n 0, 1) := by decide +kernel
theorem dX7_mustStand_41 : decode cX7_mustStand 41 = .ok (.getfield 39, 3) := by decide +kernel
theorem dX7_mustStand_44 : decode cX7_mustStand 44 = .ok (.iload_n 2, 1) := by decide +kernel
theorem dX7_mustStand_45 : decode cX7_mustStand 45 = .ok (.iaload, 1) := by decide +kernel
theorem dX7_mustStand_46 : decode cX7_mustStand 46 = .ok (.if_icmp .ne 7, 3) := by decide +kernel
theorem dX7_mustStand_49 : decode cX7_mustStand 49 = .ok (.iconst 1, 1) := by decide +kernel
theorem dX7_mustStand_50 : decode cX7_mustStand 50 = .ok (.goto 4, 3) := by decide +kernel
theorem dX7_mustStand_53 : decode cX7_mustStand 53 = .ok (.iconst 0, 1) := by decide +kernel
theorem dX7_mustStand_54 : decode cX7_mustStand 54 = .ok (.istore_n 3, 1) := by decide +kernel
theorem dX7_mustStand_55 : decode cX7_mustStand 55 = .ok (.aload_n 0, 1) := by decide +kernel
theorem dX7_mustStand_56 : decode cX7_mustStand 56 = .ok (.iload_n 2, 1) := by decide +kernel
theorem dX7_mustStand_57 : decode cX7_mustStand 57 = .ok (.invokevirtual 157, 3) := by decide +kernel
theorem dX7_mustStand_60 : decode cX7_mustStand 60 = .ok (.ifCond .eq 7, 3) := by decide +kernel
theorem dX7_mustStand_63 : decode cX7_mustStand 63 = .ok (.iload_n 3, 1) := by decide +kernel
theorem dX7_mustStand_64 : decode cX7_mustStand 64 = .ok (.ifCond .ne 52, 3) := by decide +kernel
theorem dX7_mustStand_67 : decode cX7_mustStand 67 = .ok (.aload_n 0, 1) := by decide +kernel
theorem dX7_mustStand_68 : decode cX7_mustStand 68 = .ok (.iload_n 1, 1) := by decide +kernel
theorem dX7_mustStand_69 : decode cX7_mustStand 69 = .ok (.iload_n 2, 1) := by decide +kernel
theorem dX7_mustStand_70 : decode cX7_mustStand 70 = .ok (.invokevirtual 160, 3) := by decide +kernel
theorem dX7_mustStand_73 : decode cX7_mustStand 73 = .ok (.ifCond .ne 43, 3) := by decide +kernel
theorem dX7_mustStand_76 : decode cX7_mustStand 76 = .ok (.aload_n 0, 1) := by decide +kernel
theorem dX7_mustStand_77 : decode cX7_mustStand 77 = .ok (.getfield 48, 3) := by decide +kernel
theorem dX7_mustStand_80 : decode cX7_mustStand 80 = .ok (.iload_n 1, 1) := by decide +kernel
theorem dX7_mustStand_81 : decode cX7_mustStand 81 = .ok (.iaload, 1) := by decide +kernel
theorem dX7_mustStand_82 : decode cX7_mustStand 82 = .ok (.iconst 1, 1) := by decide +kernel
theorem dX7_mustStand_83 : decode cX7_mustStand 83 = .ok (.iand, 1) := by decide +kernel
theorem dX7_mustStand_84 : decode cX7_mustStand 84 = .ok (.ifCond .ne 32, 3) := by decide +kernel
theorem dX7_mustStand_87 : decode cX7_mustStand 87 = .ok (.aload_n 0, 1) := by decide +kernel
theorem dX7_mustStand_88 : decode cX7_mustStand 88 = .ok (.getfield 48, 3) := by decide +kernel
theorem dX7_mustStand_91 : decode cX7_mustStand 91 = .ok (.iload_n 2, 1) := by decide +kernel
theorem dX7_mustStand_92 : decode cX7_mustStand 92 = .ok (.iaload, 1) := by decide +kernel
theorem dX7_mustStand_93 : decode cX7_mustStand 93 = .ok (.iconst 2, 1) := by decide +kernel
theorem dX7_mustStand_94 : decode cX7_mustStand 94 = .ok (.iand, 1) := by decide +kernel
theorem dX7_mustStand_95 : decode cX7_mustStand 95 = .ok (.ifCond .ne 21, 3) := by decide +kernel
theorem dX7_mustStand_98 : decode cX7_mustStand 98 = .ok (.aload_n 0, 1) := by decide +kernel
theorem dX7_mustStand_99 : decode cX7_mustStand 99 = .ok (.getfield 48, 3) := by decide +kernel
theorem dX7_mustStand_102 : decode cX7_mustStand 102 = .ok (.iload_n 1, 1) := by decide +kernel
theorem dX7_mustStand_103 : decode cX7_mustStand 103 = .ok (.iaload, 1) := by decide +kernel
theorem dX7_mustStand_104 : decode cX7_mustStand 104 = .ok (.ifCond .eq 14, 3) := by decide +kernel
theorem dX7_mustStand_107 : decode cX7_mustStand 107 = .ok (.aload_n 0, 1) := by decide +kernel
theorem dX7_mustStand_108 : decode cX7_mustStand 108 = .ok (.getfield 48, 3) := by decide +kernel
theorem dX7_mustStand_111 : decode cX7_mustStand 111 = .ok (.iload_n 2, 1) := by decide +kernel
theorem dX7_mustStand_112 : decode cX7_mustStand 112 = .ok (.iaload, 1) := by decide +kernel
theorem dX7_mustStand_113 : decode cX7_mustStand 113 = .ok (.ifCond .eq 5, 3) := by decide +kernel
theorem dX7_mustStand_116 : decode cX7_mustStand 116 = .ok (.iconst 1, 1) := by decide +kernel
theorem dX7_mustStand_117 : decode cX7_mustStand 117 = .ok (.ireturn, 1) := by decide +kernel
theorem dX7_mustStand_118 : decode cX7_mustStand 118 = .ok (.aload_n 0, 1) := by decide +kernel
theorem dX7_mustStand_119 : decode cX7_mustStand 119 = .ok (.getfield 36, 3) := by decide +kernel
theorem dX7_mustStand_122 : decode cX7_mustStand 122 = .ok (.iload_n 2, 1) := by decide +kernel
theorem dX7_mustStand_123 : decode cX7_mustStand 123 = .ok (.iaload, 1) := by decide +kernel
theorem dX7_mustStand_124 : decode cX7_mustStand 124 = .ok (.iconst 5, 1) := by decide +kernel
theorem dX7_mustStand_125 : decode cX7_mustStand 125 = .ok (.if_icmp .ne 13, 3) := by decide +kernel
theorem dX7_mustStand_128 : decode cX7_mustStand 128 = .ok (.aload_n 0, 1) := by decide +kernel
theorem dX7_mustStand_129 : decode cX7_mustStand 129 = .ok (.getfield 60, 3) := by decide +kernel
theorem dX7_mustStand_132 : decode cX7_mustStand 132 = .ok (.iload_n 2, 1) := by decide +kernel
theorem dX7_mustStand_133 : decode cX7_mustStand 133 = .ok (.iaload, 1) := by decide +kernel
theorem dX7_mustStand_134 : decode cX7_mustStand 134 = .ok (.iload_n 1, 1) := by decide +kernel
theorem dX7_mustStand_135 : decode cX7_mustStand 135 = .ok (.if_icmp .eq 50, 3) := by decide +kernel
theorem dX7_mustStand_138 : decode cX7_mustStand 138 = .ok (.aload_n 0, 1) := by decide +kernel
theorem dX7_mustStand_139 : decode cX7_mustStand 139 = .ok (.getfield 51, 3) := by decide +kernel
theorem dX7_mustStand_142 : decode cX7_mustStand 142 = .ok (.iload_n 2, 1) := by decide +kernel
theorem dX7_mustStand_143 : decode cX7_mustStand 143 = .ok (.iaload, 1) := by decide +kernel
theorem dX7_mustStand_144 : decode cX7_mustStand 144 = .ok (.iload_n 1, 1) := by decide +kernel
theorem dX7_mustStand_145 : decode cX7_mustStand 145 = .ok (.invokestatic 163, 3) := by decide +kernel
theorem dX7_mustStand_148 : decode cX7_mustStand 148 = .ok (.ifCond .ne 37, 3) := by decide +kernel
theorem dX7_mustStand_151 : decode cX7_mustStand 151 = .ok (.aload_n 0, 1) := by decide +kernel
theorem dX7_mustStand_152 : decode cX7_mustStand 152 = .ok (.getfield 54, 3) := by decide +kernel
theorem dX7_mustStand_155 : decode cX7_mustStand 155 = .ok (.iload_n 2, 1) := by decide +kernel
theorem dX7_mustStand_156 : decode cX7_mustStand 156 = .ok (.iaload, 1) := by decide +kernel
theorem dX7_mustStand_157 : decode cX7_mustStand 157 = .ok (.iload_n 1, 1) := by decide +kernel
theorem dX7_mustStand_158 : decode cX7_mustStand 158 = .ok (.invokestatic 163, 3) := by decide +kernel
theorem dX7_mustStand_161 : decode cX7_mustStand 161 = .ok (.ifCond .ne 24, 3) := by decide +kernel
theorem dX7_mustStand_164 : decode cX7_mustStand 164 = .ok (.aload_n 0, 1) := by decide +kernel
theorem dX7_mustStand_165 : decode cX7_mustStand 165 = .ok (.iload_n 2, 1) := by decide +kernel
theorem dX7_mustStand_166 : decode cX7_mustStand 166 = .ok (.invokevirtual 157, 3) := by decide +kernel
theorem dX7_mustStand_169 : decode cX7_mustStand 169 = .ok (.ifCond .eq 18, 3) := by decide +kernel
theorem dX7_mustStand_172 : decode cX7_mustStand 172 = .ok (.aload_n 0, 1) := by decide +kernel
theorem dX7_mustStand_173 : decode cX7_mustStand 173 = .ok (.getfield 57, 3) := by decide +kernel
theorem dX7_mustStand_176 : decode cX7_mustStand 176 = .ok (.iload_n 2, 1) := by decide +kernel
theorem dX7_mustStand_177 : decode cX7_mustStand 177 = .ok (.iaload, 1) := by decide +kernel
theorem dX7_mustStand_178 : decode cX7_mustStand 178 = .ok (.iload_n 1, 1) := by decide +kernel
theorem dX7_mustStand_179 : decode cX7_mustStand 179 = .ok (.invokestatic 163, 3) := by decide +kernel
theorem dX7_mustStand_182 : decode cX7_mustStand 182 = .ok (.ifCond .eq 5, 3) := by decide +kernel
theorem dX7_mustStand_185 : decode cX7_mustStand 185 = .ok (.iconst 1, 1) := by decide +kernel
theorem dX7_mustStand_186 : decode cX7_mustStand 186 = .ok (.ireturn, 1) := by decide +kernel
theorem dX7_mustStand_187 : decode cX7_mustStand 187 = .ok (.iconst 0, 1) := by decide +kernel
theorem dX7_mustStand_188 : decode cX7_mustStand 188 = .ok (.istore 4, 2) := by decide +kernel
theorem dX7_mustStand_190 : decode cX7_mustStand 190 = .ok (.iload_n 1, 1) := by decide +kernel
theorem dX7_mustStand_191 : decode cX7_mustStand 191 = .ok (.iconst 1, 1) := by decide +kernel
theorem dX7_mustStand_192 : decode cX7_mustStand 192 = .ok (.iadd, 1) := by decide +kernel
theorem dX7_mustStand_193 : decode cX7_mustStand 193 = .ok (.istore 5, 2) := by decide +kernel
theorem dX7_mustStand_195 : decode cX7_mustStand 195 = .ok (.iload 5, 2) := by decide +kernel
theorem dX7_mustStand_197 : decode cX7_mustStand 197 = .ok (.iload_n 2, 1) := by decide +kernel
theorem dX7_mustStand_198 : decode cX7_mustStand 198 = .ok (.if_icmp .ge 35, 3) := by decide +kernel
theorem dX7_mustStand_201 : decode cX7_mustStand 201 = .ok (.iload 4, 2) := by decide +kernel
theorem dX7_mustStand_203 : decode cX7_mustStand 203 = .ok (.ifCond .ne 17, 3) := by decide +kernel
theorem dX7_mustStand_206 : decode cX7_mustStand 206 = .ok (.aload_n 0, 1) := by decide +kernel
theorem dX7_mustStand_207 : decode cX7_mustStand 207 = .ok (.getfield 51, 3) := by decide +kernel
theorem dX7_mustStand_210 : decode cX7_mustStand 210 = .ok (.iload 5, 2) := by decide +kernel
theorem dX7_mustStand_212 : decode cX7_mustStand 212 = .ok (.iaload, 1) := by decide +kernel
theorem dX7_mustStand_213 : decode cX7_mustStand 213 = .ok (.iload_n 1, 1) := by decide +kernel
theorem dX7_mustStand_214 : decode cX7_mustStand 214 = .ok (.invokestatic 163, 3) := by decide +kernel
theorem dX7_mustStand_217 : decode cX7_mustStand 217 = .ok (.ifCond .eq 7, 3) := by decide +kernel
theorem dX7_mustStand_220 : decode cX7_mustStand 220 = .ok (.iconst 1, 1) := by decide +kernel
theorem dX7_mustStand_221 : decode cX7_mustStand 221 = .ok (.goto 4, 3) := by decide +kernel
theorem dX7_mustStand_224 : decode cX7_mustStand 224 = .ok (.iconst 0, 1) := by decide +kernel
theorem dX7_mustStand_225 : decode cX7_mustStand 225 = .ok (.istore 4, 2) := by decide +kernel
theorem dX7_mustStand_227 : decode cX7_mustStand 227 = .ok (.iinc 5 1, 3) := by decide +kernel
theorem dX7_mustStand_230 : decode cX7_mustStand 230 = .ok (.goto (-35), 3) := by decide +kernel
theorem dX7_mustStand_233 : decode cX7_mustStand 233 = .ok (.aload_n 0, 1) := by decide +kernel
theorem dX7_mustStand_234 : decode cX7_mustStand 234 = .ok (.iload_n 2, 1) := by decide +kernel
theorem dX7_mustStand_235 : decode cX7_mustStand 235 = .ok (.invokevirtual 157, 3) := by decide +kernel
theorem dX7_mustStand_238 : decode cX7_mustStand 238 = .ok (.ifCond .eq 12, 3) := by decide +kernel
theorem dX7_mustStand_241 : decode cX7_mustStand 241 = .ok (.iload 4, 2) := by decide +kernel
theorem dX7_mustStand_243 : decode cX7_mustStand 243 = .ok (.ifCond .eq 7, 3) := by decide +kernel
theorem dX7_mustStand_246 : decode cX7_mustStand 246 = .ok (.iconst 1, 1) := by decide +kernel
theorem dX7_mustStand_247 : decode cX7_mustStand 247 = .ok (.goto 4, 3) := by decide +kernel
theorem dX7_mustStand_250 : decode cX7_mustStand 250 = .ok (.iconst 0, 1) := by decide +kernel
theorem dX7_mustStand_251 : decode cX7_mustStand 251 = .ok (.ireturn, 1) := by decide +kernel
set_option maxRecDepth 20000 in
theorem ggX7_findMust_X7_mustStand : GoodIn wsX7_findMust wsX7_mustStand := goodIn_r _ [8, 9, 10, 11, 12, 13, 14, 15, 16, 17, 18, 19, 7, 20, 21, 22, 23, 24, 25, 26, 27, 28, 29, 30, 31, 32, 33, 34, 35, 36, 3, 37, 38, 39, 40, 41, 42, 43, 44, 45, 46, 47, 48, 49, 50, 51, 52, 53, 54, 55, 56, 57, 58, 59, 60, 61, 62, 63, 64, 65, 66, 67, 68, 69, 70, 71, 72, 73, 74, 75, 76, 77] (by decide +kernel) (by decide +kernel)
set_option maxRecDepth 20000 in
theorem gX7_findMust_X7_mustStand : GoodIn wsX7_findMust (wsV RX7 166 RX7 yX7_mustStand wsX7_mustStand) := goodIn_app (goodIn_of _ (by decide +kernel)) ggX7_findMust_X7_mustStand
theorem dX7_findMust_0 : decode cX7_findMust 0 = .ok (.iconst 0, 1) := by decide +kernel
theorem dX7_findMust_1 : decode cX7_findMust 1 = .ok (.istore_n 1, 1) := by decide +kernel
theorem dX7_findMust_2 : decode cX7_findMust 2 = .ok (.iload_n 1, 1) := by decide +kernel
theorem dX7_findMust_3 : decode cX7_findMust 3 = .ok (.aload_n 0, 1) := by decide +kernel
theorem dX7_findMust_4 : decode cX7_findMust 4 = .ok (.getfield 128, 3) := by decide +kernel
theorem dX7_findMust_7 : decode cX7_findMust 7 = .ok (.if_icmp .ge 70, 3) := by decide +kernel
theorem dX7_findMust_10 : decode cX7_findMust 10 = .ok (.iconst 0, 1) := by decide +kernel
theorem dX7_findMust_11 : decode cX7_findMust 11 = .ok (.istore_n 2, 1) := by decide +kernel
theorem dX7_findMust_12 : decode cX7_findMust 12 = .ok (.iload_n 2, 1) := by decide +kernel
theorem dX7_findMust_13 : decode cX7_findMust 13 = .ok (.aload_n 0, 1) := by decide +kernel
theorem dX7_findMust_14 : decode cX7_findMust 14 = .ok (.getfield 128, 3) := by decide +kernel
theorem dX7_findMust_17 : decode cX7_findMust 17 = .ok (.if_icmp .ge 54, 3) := by decide +kernel
theorem dX7_findMust_20 : decode cX7_findMust 20 = .ok (.aload_n 0, 1) := by decide +kernel
theorem dX7_findMust_21 : decode cX7_findMust 21 = .ok (.getfield 75, 3) := by decide +kernel
theorem dX7_findMust_24 : decode cX7_findMust 24 = .ok (.bipush 6, 2) := by decide +kernel
theorem dX7_findMust_26 : decode cX7_findMust 26 = .ok (.iload_n 1, 1) := by decide +kernel
theorem dX7_findMust_27 : decode cX7_findMust 27 = .ok (.imul, 1) := by decide +kernel
theorem dX7_findMust_28 : decode cX7_findMust 28 = .ok (.iload_n 2, 1) := by decide +kernel
theorem dX7_findMust_29 : decode cX7_findMust 29 = .ok (.iadd, 1) := by decide +kernel
theorem dX7_findMust_30 : decode cX7_findMust 30 = .ok (.iload_n 1, 1) := by decide +kernel
theorem dX7_findMust_31 : decode cX7_findMust 31 = .ok (.iload_n 2, 1) := by decide +kernel
theorem dX7_findMust_32 : decode cX7_findMust 32 = .ok (.if_icmp .ge 31, 3) := by decide +kernel
theorem dX7_findMust_35 : decode cX7_findMust 35 = .ok (.aload_n 0, 1) := by decide +kernel
theorem dX7_findMust_36 : decode cX7_findMust 36 = .ok (.getfield 33, 3) := by decide +kernel
theorem dX7_findMust_39 : decode cX7_findMust 39 = .ok (.iload_n 1, 1) := by decide +kernel
theorem dX7_findMust_40 : decode cX7_findMust 40 = .ok (.iaload, 1) := by decide +kernel
theorem dX7_findMust_41 : decode cX7_findMust 41 = .ok (.aload_n 0, 1) := by decide +kernel
theorem dX7_findMust_42 : decode cX7_findMust 42 = .ok (.getfield 33, 3) := by decide +kernel
theorem dX7_findMust_45 : decode cX7_findMust 45 = .ok (.iload_n 2, 1) := by decide +kernel
theorem dX7_findMust_46 : decode cX7_findMust 46 = .ok (.iaload, 1) := by decide +kernel
theorem dX7_findMust_47 : decode cX7_findMust 47 = .ok (.if_icmp .ne 16, 3) := by decide +kernel
theorem dX7_findMust_50 : decode cX7_findMust 50 = .ok (.aload_n 0, 1) := by decide +kernel
theorem dX7_findMust_51 : decode cX7_findMust 51 = .ok (.iload_n 1, 1) := by decide +kernel
theorem dX7_findMust_52 : decode cX7_findMust 52 = .ok (.iload_n 2, 1) := by decide +kernel
theorem dX7_findMust_53 : decode cX7_findMust 53 = .ok (.invokevirtual 166, 3) := by decide +kernel
theorem dX7_findMust_56 : decode cX7_findMust 56 = .ok (.ifCond .eq 7, 3) := by decide +kernel
theorem dX7_findMust_59 : decode cX7_findMust 59 = .ok (.iconst 1, 1) := by decide +kernel
theorem dX7_findMust_60 : decode cX7_findMust 60 = .ok (.goto 4, 3) := by decide +kernel
theorem dX7_findMust_63 : decode cX7_findMust 63 = .ok (.iconst 0, 1) := by decide +kernel
theorem dX7_findMust_64 : decode cX7_findMust 64 = .ok (.bastore, 1) := by decide +kernel
theorem dX7_findMust_65 : decode cX7_findMust 65 = .ok (.iinc 2 1, 3) := by decide +kernel
theorem dX7_findMust_68 : decode cX7_findMust 68 = .ok (.goto (-56), 3) := by decide +kernel
theorem dX7_findMust_71 : decode cX7_findMust 71 = .ok (.iinc 1 1, 3) := by decide +kernel
theorem dX7_findMust_74 : decode cX7_findMust 74 = .ok (.goto (-72), 3) := by decide +kernel
theorem dX7_findMust_77 : decode cX7_findMust 77 = .ok (.return_, 1) := by decide +kernel
set_option maxRecDepth 20000 in
theorem ggX7_sourceOf_X7_writes : GoodIn wsX7_sourceOf wsX7_writes := goodIn_r _ [9, 10, 11, 12, 8, 13, 14, 15, 16, 17, 18, 19, 20, 21, 22, 23, 24, 25, 26, 27, 28, 29, 30, 31, 32, 33, 34, 35, 36, 37, 38, 39, 40, 41, 42, 43, 44, 45, 46, 47, 48] (by decide +kernel) (by decide +kernel)
set_option maxRecDepth 20000 in
theorem gX7_sourceOf_X7_writes : GoodIn wsX7_sourceOf (wsV RX7 157 RX7 yX7_writes wsX7_writes) := goodIn_app (goodIn_of _ (by decide +kernel)) ggX7_sourceOf_X7_writes
theorem dX7_sourceOf_0 : decode cX7_sourceOf 0 = .ok (.iconst (-1), 1) := by decide +kernel
theorem dX7_sourceOf_1 : decode cX7_sourceOf 1 = .ok (.istore_n 2, 1) := by decide +kernel
theorem dX7_sourceOf_2 : decode cX7_sourceOf 2 = .ok (.iconst 0, 1) := by decide +kernel
theorem dX7_sourceOf_3 : decode cX7_sourceOf 3 = .ok (.istore_n 3, 1) := by decide +kernel
theorem dX7_sourceOf_4 : decode cX7_sourceOf 4 = .ok (.iload_n 3, 1) := by decide +kernel
theorem dX7_sourceOf_5 : decode cX7_sourceOf 5 = .ok (.aload_n 0, 1) := by decide +kernel
theorem dX7_sourceOf_6 : decode cX7_sourceOf 6 = .ok (.getfield 128, 3) := by decide +kernel
theorem dX7_sourceOf_9 : decode cX7_sourceOf 9 = .ok (.if_icmp .ge 109, 3) := by decide +kernel
theorem dX7_sourceOf_12 : decode cX7_sourceOf 12 = .ok (.iload_n 3, 1) := by decide +kernel
theorem dX7_sourceOf_13 : decode cX7_sourceOf 13 = .ok (.iload_n 1, 1) := by decide +kernel
theorem dX7_sourceOf_14 : decode cX7_sourceOf 14 = .ok (.if_icmp .eq 65, 3) := by decide +kernel
theorem dX7_sourceOf_17 : decode cX7_sourceOf 17 = .ok (.aload_n 0, 1) := by decide +kernel
theorem dX7_sourceOf_18 : decode cX7_sourceOf 18 = .ok (.iload_n 3, 1) := by decide +kernel
theorem dX7_sourceOf_19 : decode cX7_sourceOf 19 = .ok (.invokevirtual 157, 3) := by decide +kernel
theorem dX7_sourceOf_22 : decode cX7_sourceOf 22 = .ok (.ifCond .eq 57, 3) := by decide +kernel
theorem dX7_sourceOf_25 : decode cX7_sourceOf 25 = .ok (.aload_n 0, 1) := by decide +kernel
theorem dX7_sourceOf_26 : decode cX7_sourceOf 26 = .ok (.getfield 39, 3) := by decide +kernel
theorem dX7_sourceOf_29 : decode cX7_sourceOf 29 = .ok (.iload_n 3, 1) := by decide +kernel
theorem dX7_sourceOf_30 : decode cX7_sourceOf 30 = .ok (.iaload, 1) := by decide +kernel
theorem dX7_sourceOf_31 : decode cX7_sourceOf 31 = .ok (.aload_n 0, 1) := by decide +kernel
theorem dX7_sourceOf_32 : decode cX7_sourceOf 32 = .ok (.getfield 39, 3) := by decide +kernel
theorem dX7_sourceOf_35 : decode cX7_sourceOf 35 = .ok (.iload_n 1, 1) := by decide +kernel
theorem dX7_sourceOf_36 : decode cX7_sourceOf 36 = .ok (.iaload, 1) := by decide +kernel
theorem dX7_sourceOf_37 : decode cX7_sourceOf 37 = .ok (.if_icmp .ne 42, 3) := by decide +kernel
theorem dX7_sourceOf_40 : decode cX7_sourceOf 40 = .ok (.aload_n 0, 1) := by decide +kernel
theorem dX7_sourceOf_41 : decode cX7_sourceOf 41 = .ok (.getfield 82, 3) := by decide +kernel
theorem dX7_sourceOf_44 : decode cX7_sourceOf 44 = .ok (.iload_n 3, 1) := by decide +kernel
theorem dX7_sourceOf_45 : decode cX7_sourceOf 45 = .ok (.iaload, 1) := by decide +kernel
theorem dX7_sourceOf_46 : decode cX7_sourceOf 46 = .ok (.aload_n 0, 1) := by decide +kernel
theorem dX7_sourceOf_47 : decode cX7_sourceOf 47 = .ok (.getfield 82, 3) := by decide +kernel
theorem dX7_sourceOf_50 : decode cX7_sourceOf 50 = .ok (.iload_n 1, 1) := by decide +kernel
theorem dX7_sourceOf_51 : decode cX7_sourceOf 51 = .ok (.iaload, 1) := by decide +kernel
theorem dX7_sourceOf_52 : decode cX7_sourceOf 52 = .ok (.if_icmp .lt 23, 3) := by decide +kernel
theorem dX7_sourceOf_55 : decode cX7_sourceOf 55 = .ok (.aload_n 0, 1) := by decide +kernel
theorem dX7_sourceOf_56 : decode cX7_sourceOf 56 = .ok (.getfield 33, 3) := by decide +kernel
theorem dX7_sourceOf_59 : decode cX7_sourceOf 59 = .ok (.iload_n 3, 1) := by decide +kernel
theorem dX7_sourceOf_60 : decode cX7_sourceOf 60 = .ok (.iaload, 1) := by decide +kernel
theorem dX7_sourceOf_61 : decode cX7_sourceOf 61 = .ok (.aload_n 0, 1) := by decide +kernel
theorem dX7_sourceOf_62 : decode cX7_sourceOf 62 = .ok (.getfield 33, 3) := by decide +kernel
theorem dX7_sourceOf_65 : decode cX7_sourceOf 65 = .ok (.iload_n 1, 1) := by decide +kernel
theorem dX7_sourceOf_66 : decode cX7_sourceOf 66 = .ok (.iaload, 1) := by decide +kernel
theorem dX7_sourceOf_67 : decode cX7_sourceOf 67 = .ok (.if_icmp .ne 12, 3) := by decide +kernel
theorem dX7_sourceOf_70 : decode cX7_sourceOf 70 = .ok (.iload_n 3, 1) := by decide +kernel
theorem dX7_sourceOf_71 : decode cX7_sourceOf 71 = .ok (.iload_n 1, 1) := by decide +kernel
theorem dX7_sourceOf_72 : decode cX7_sourceOf 72 = .ok (.if_icmp .ge 7, 3) := by decide +kernel
theorem dX7_sourceOf_75 : decode cX7_sourceOf 75 = .ok (.iconst 1, 1) := by decide +kernel
theorem dX7_sourceOf_76 : decode cX7_sourceOf 76 = .ok (.goto 4, 3) := by decide +kernel
theorem dX7_sourceOf_79 : decode cX7_sourceOf 79 = .ok (.iconst 0, 1) := by decide +kernel
theorem dX7_sourceOf_80 : decode cX7_sourceOf 80 = .ok (.istore 4, 2) := by decide +kernel
theorem dX7_sourceOf_82 : decode cX7_sourceOf 82 = .ok (.iload 4, 2) := by decide +kernel
theorem dX7_sourceOf_84 : decode cX7_sourceOf 84 = .ok (.ifCond .eq 26, 3) := by decide +kernel
theorem dX7_sourceOf_87 : decode cX7_sourceOf 87 = .ok (.iload_n 2, 1) := by decide +kernel
theorem dX7_sourceOf_88 : decode cX7_sourceOf 88 = .ok (.ifCond .lt 18, 3) := by decide +kernel
theorem dX7_sourceOf_91 : decode cX7_sourceOf 91 = .ok (.aload_n 0, 1) := by decide +kernel
theorem dX7_sourceOf_92 : decode cX7_sourceOf 92 = .ok (.getfield 82, 3) := by decide +kernel
theorem dX7_sourceOf_95 : decode cX7_sourceOf 95 = .ok (.iload_n 3, 1) := by decide +kernel
theorem dX7_sourceOf_96 : decode cX7_sourceOf 96 = .ok (.iaload, 1) := by decide +kernel
theorem dX7_sourceOf_97 : decode cX7_sourceOf 97 = .ok (.aload_n 0, 1) := by decide +kernel
theorem dX7_sourceOf_98 : decode cX7_sourceOf 98 = .ok (.getfield 82, 3) := by decide +kernel
theorem dX7_sourceOf_101 : decode cX7_sourceOf 101 = .ok (.iload_n 2, 1) := by decide +kernel
theorem dX7_sourceOf_102 : decode cX7_sourceOf 102 = .ok (.iaload, 1) := by decide +kernel
theorem dX7_sourceOf_103 : decode cX7_sourceOf 103 = .ok (.if_icmp .le 7, 3) := by decide +kernel
theorem dX7_sourceOf_106 : decode cX7_sourceOf 106 = .ok (.iload_n 3, 1) := by decide +kernel
theorem dX7_sourceOf_107 : decode cX7_sourceOf 107 = .ok (.goto 4, 3) := by decide +kernel
theorem dX7_sourceOf_110 : decode cX7_sourceOf 110 = .ok (.iload_n 2, 1) := by decide +kernel
theorem dX7_sourceOf_111 : decode cX7_sourceOf 111 = .ok (.istore_n 2, 1) := by decide +kernel
theorem dX7_sourceOf_112 : decode cX7_sourceOf 112 = .ok (.iinc 3 1, 3) := by decide +kernel
theorem dX7_sourceOf_115 : decode cX7_sourceOf 115 = .ok (.goto (-111), 3) := by decide +kernel
theorem dX7_sourceOf_118 : decode cX7_sourceOf 118 = .ok (.iload_n 2, 1) := by decide +kernel
theorem dX7_sourceOf_119 : decode cX7_sourceOf 119 = .ok (.ireturn, 1) := by decide +kernel
set_option maxRecDepth 20000 in
theorem ggX7_isWriteBetween_X7_writes : GoodIn wsX7_isWriteBetween wsX7_writes := goodIn_r _ [6, 7, 8, 9, 5, 10, 11, 12, 13, 14, 15, 16, 17, 18, 19, 20, 21, 22, 23, 24, 25, 26, 27, 28, 29, 30, 31, 32, 33, 34, 35, 36, 37, 38, 39, 40, 41, 42, 43, 44, 45] (by decide +kernel) (by decide +kernel)
set_option maxRecDepth 20000 in
theorem gX7_isWriteBetween_X7_writes : GoodIn wsX7_isWriteBetween (wsV RX7 157 RX7 yX7_writes wsX7_writes) := goodIn_app (goodIn_of _ (by decide +kernel)) ggX7_isWriteBetween_X7_writes
theorem dX7_isWriteBetween_0 : decode cX7_isWriteBetween 0 = .ok (.iconst 0, 1) := by decide +kernel
theorem dX7_isWriteBetween_1 : decode cX7_isWriteBetween 1 = .ok (.istore_n 3, 1) := by decide +kernel
theorem dX7_isWriteBetween_2 : decode cX7_isWriteBetween 2 = .ok (.iload_n 1, 1) := by decide +kernel
theorem dX7_isWriteBetween_3 : decode cX7_isWriteBetween 3 = .ok (.iconst 1, 1) := by decide +kernel
theorem dX7_isWriteBetween_4 : decode cX7_isWriteBetween 4 = .ok (.iadd, 1) := by decide +kernel
theorem dX7_isWriteBetween_5 : decode cX7_isWriteBetween 5 = .ok (.istore 4, 2) := by decide +kernel
theorem dX7_isWriteBetween_7 : decode cX7_isWriteBetween 7 = .ok (.iload 4, 2) := by decide +kernel
theorem dX7_isWriteBetween_9 : decode cX7_isWriteBetween 9 = .ok (.iload_n 2, 1) := by decide +kernel
theorem dX7_isWriteBetween_10 : decode cX7_isWriteBetween 10 = .ok (.if_icmp .ge 44, 3) := by decide +kernel
theorem dX7_isWriteBetween_13 : decode cX7_isWriteBetween 13 = .ok (.iload_n 3, 1) := by decide +kernel
theorem dX7_isWriteBetween_14 : decode cX7_isWriteBetween 14 = .ok (.ifCond .ne 28, 3) := by decide +kernel
theorem dX7_isWriteBetween_17 : decode cX7_isWriteBetween 17 = .ok (.aload_n 0, 1) := by decide +kernel
theorem dX7_isWriteBetween_18 : decode cX7_isWriteBetween 18 = .ok (.iload 4, 2) := by decide +kernel
theorem dX7_isWriteBetween_20 : decode cX7_isWriteBetween 20 = .ok (.invokevirtual 157, 3) := by decide +kernel
theorem dX7_isWriteBetween_23 : decode cX7_isWriteBetween 23 = .ok (.ifCond .eq 23, 3) := by decide +kernel
theorem dX7_isWriteBetween_26 : decode cX7_isWriteBetween 26 = .ok (.aload_n 0, 1) := by decide +kernel
theorem dX7_isWriteBetween_27 : decode cX7_isWriteBetween 27 = .ok (.getfield 39, 3) := by decide +kernel
theorem dX7_isWriteBetween_30 : decode cX7_isWriteBetween 30 = .ok (.iload 4, 2) := by decide +kernel
theorem dX7_isWriteBetween_32 : decode cX7_isWriteBetween 32 = .ok (.iaload, 1) := by decide +kernel
theorem dX7_isWriteBetween_33 : decode cX7_isWriteBetween 33 = .ok (.aload_n 0, 1) := by decide +kernel
theorem dX7_isWriteBetween_34 : decode cX7_isWriteBetween 34 = .ok (.getfield 39, 3) := by decide +kernel
theorem dX7_isWriteBetween_37 : decode cX7_isWriteBetween 37 = .ok (.iload_n 1, 1) := by decide +kernel
theorem dX7_isWriteBetween_38 : decode cX7_isWriteBetween 38 = .ok (.iaload, 1) := by decide +kernel
theorem dX7_isWriteBetween_39 : decode cX7_isWriteBetween 39 = .ok (.if_icmp .ne 7, 3) := by decide +kernel
theorem dX7_isWriteBetween_42 : decode cX7_isWriteBetween 42 = .ok (.iconst 1, 1) := by decide +kernel
theorem dX7_isWriteBetween_43 : decode cX7_isWriteBetween 43 = .ok (.goto 4, 3) := by decide +kernel
theorem dX7_isWriteBetween_46 : decode cX7_isWriteBetween 46 = .ok (.iconst 0, 1) := by decide +kernel
theorem dX7_isWriteBetween_47 : decode cX7_isWriteBetween 47 = .ok (.istore_n 3, 1) := by decide +kernel
theorem dX7_isWriteBetween_48 : decode cX7_isWriteBetween 48 = .ok (.iinc 4 1, 3) := by decide +kernel
theorem dX7_isWriteBetween_51 : decode cX7_isWriteBetween 51 = .ok (.goto (-44), 3) := by decide +kernel
theorem dX7_isWriteBetween_54 : decode cX7_isWriteBetween 54 = .ok (.iload_n 3, 1) := by decide +kernel
theorem dX7_isWriteBetween_55 : decode cX7_isWriteBetween 55 = .ok (.ireturn, 1) := by decide +kernel
set_option maxRecDepth 20000 in
theorem ggX7_isAsked_X7_reads : GoodIn wsX7_isAsked wsX7_reads := goodIn_r _ [11, 3, 12, 13, 10, 14, 29, 30, 31, 32, 33, 34, 35, 36, 37, 38, 39, 40, 41, 42, 43, 44, 45, 46, 47, 48, 49, 50, 51, 52, 53, 54, 55, 56, 57, 58, 59, 60, 61, 62, 63] (by decide +kernel) (by decide +kernel)
set_option maxRecDepth 20000 in
theorem gX7_isAsked_X7_reads : GoodIn wsX7_isAsked (wsV RX7 154 RX7 yX7_reads wsX7_reads) := goodIn_app (goodIn_of _ (by decide +kernel)) ggX7_isAsked_X7_reads
set_option maxRecDepth 20000 in
theorem ggX7_isAsked_X7_isWriteBetween : GoodIn wsX7_isAsked wsX7_isWriteBetween := goodIn_r _ [18, 1, 19, 20, 21, 10, 22, 3, 23, 24, 25, 29, 30, 31, 32, 33, 34, 35, 36, 37, 38, 39, 40, 41, 42, 43, 44, 45, 46, 47, 48, 49, 50, 51, 52, 53, 54, 55, 56, 57, 58, 59, 60, 61, 62, 63] (by decide +kernel) (by decide +kernel)
set_option maxRecDepth 20000 in
theorem gX7_isAsked_X7_isWriteBetween : GoodIn wsX7_isAsked (wsV RX7 169 RX7 yX7_isWriteBetween wsX7_isWriteBetween) := goodIn_app (goodIn_of _ (by decide +kernel)) ggX7_isAsked_X7_isWriteBetween
set_option maxRecDepth 20000 in
theorem ggX7_isAsked_X7_needs : GoodIn wsX7_isAsked wsX7_needs := goodIn_r _ [28] (by decide +kernel) (by decide +kernel)
set_option maxRecDepth 20000 in
theorem gX7_isAsked_X7_needs : GoodIn wsX7_isAsked (va_wsS RX7 163 yX7_needs wsX7_needs) := goodIn_app (goodIn_of _ (by decide +kernel)) ggX7_isAsked_X7_needs
theorem dX7_isAsked_0 : decode cX7_isAsked 0 = .ok (.aload_n 0, 1) := by decide +kernel
theorem dX7_isAsked_1 : decode cX7_isAsked 1 = .ok (.getfield 39, 3) := by decide +kernel
theorem dX7_isAsked_4 : decode cX7_isAsked 4 = .ok (.iload_n 1, 1) := by decide +kernel
theorem dX7_isAsked_5 : decode cX7_isAsked 5 = .ok (.iaload, 1) := by decide +kernel
theorem dX7_isAsked_6 : decode cX7_isAsked 6 = .ok (.aload_n 0, 1) := by decide +kernel
theorem dX7_isAsked_7 : decode cX7_isAsked 7 = .ok (.getfield 39, 3) := by decide +kernel
theorem dX7_isAsked_10 : decode cX7_isAsked 10 = .ok (.iload_n 2, 1) := by decide +kernel
theorem dX7_isAsked_11 : decode cX7_isAsked 11 = .ok (.iaload, 1) := by decide +kernel
theorem dX7_isAsked_12 : decode cX7_isAsked 12 = .ok (.if_icmp .ne 7, 3) := by decide +kernel
theorem dX7_isAsked_15 : decode cX7_isAsked 15 = .ok (.iconst 1, 1) := by decide +kernel
theorem dX7_isAsked_16 : decode cX7_isAsked 16 = .ok (.goto 4, 3) := by decide +kernel
theorem dX7_isAsked_19 : decode cX7_isAsked 19 = .ok (.iconst 0, 1) := by decide +kernel
theorem dX7_isAsked_20 : decode cX7_isAsked 20 = .ok (.istore_n 3, 1) := by decide +kernel
theorem dX7_isAsked_21 : decode cX7_isAsked 21 = .ok (.aload_n 0, 1) := by decide +kernel
theorem dX7_isAsked_22 : decode cX7_isAsked 22 = .ok (.iload_n 1, 1) := by decide +kernel
theorem dX7_isAsked_23 : decode cX7_isAsked 23 = .ok (.invokevirtual 154, 3) := by decide +kernel
theorem dX7_isAsked_26 : decode cX7_isAsked 26 = .ok (.ifCond .eq 33, 3) := by decide +kernel
theorem dX7_isAsked_29 : decode cX7_isAsked 29 = .ok (.iload_n 3, 1) := by decide +kernel
theorem dX7_isAsked_30 : decode cX7_isAsked 30 = .ok (.ifCond .eq 29, 3) := by decide +kernel
theorem dX7_isAsked_33 : decode cX7_isAsked 33 = .ok (.aload_n 0, 1) := by decide +kernel
theorem dX7_isAsked_34 : decode cX7_isAsked 34 = .ok (.iload_n 1, 1) := by decide +kernel
theorem dX7_isAsked_35 : decode cX7_isAsked 35 = .ok (.iload_n 2, 1) := by decide +kernel
theorem dX7_isAsked_36 : decode cX7_isAsked 36 = .ok (.invokevirtual 169, 3) := by decide +kernel
theorem dX7_isAsked_39 : decode cX7_isAsked 39 = .ok (.ifCond .ne 20, 3) := by decide +kernel
theorem dX7_isAsked_42 : decode cX7_isAsked 42 = .ok (.aload_n 0, 1) := by decide +kernel
theorem dX7_isAsked_43 : decode cX7_isAsked 43 = .ok (.getfield 85, 3) := by decide +kernel
theorem dX7_isAsked_46 : decode cX7_isAsked 46 = .ok (.iload_n 1, 1) := by decide +kernel
theorem dX7_isAsked_47 : decode cX7_isAsked 47 = .ok (.iaload, 1) := by decide +kernel
theorem dX7_isAsked_48 : decode cX7_isAsked 48 = .ok (.aload_n 0, 1) := by decide +kernel
theorem dX7_isAsked_49 : decode cX7_isAsked 49 = .ok (.getfield 85, 3) := by decide +kernel
theorem dX7_isAsked_52 : decode cX7_isAsked 52 = .ok (.iload_n 2, 1) := by decide +kernel
theorem dX7_isAsked_53 : decode cX7_isAsked 53 = .ok (.iaload, 1) := by decide +kernel
theorem dX7_isAsked_54 : decode cX7_isAsked 54 = .ok (.if_icmp .eq 5, 3) := by decide +kernel
theorem dX7_isAsked_57 : decode cX7_isAsked 57 = .ok (.iconst 1, 1) := by decide +kernel
theorem dX7_isAsked_58 : decode cX7_isAsked 58 = .ok (.ireturn, 1) := by decide +kernel
theorem dX7_isAsked_59 : decode cX7_isAsked 59 = .ok (.aload_n 0, 1) := by decide +kernel
theorem dX7_isAsked_60 : decode cX7_isAsked 60 = .ok (.getfield 36, 3) := by decide +kernel
theorem dX7_isAsked_63 : decode cX7_isAsked 63 = .ok (.iload_n 1, 1) := by decide +kernel
theorem dX7_isAsked_64 : decode cX7_isAsked 64 = .ok (.iaload, 1) := by decide +kernel
theorem dX7_isAsked_65 : decode cX7_isAsked 65 = .ok (.iconst 2, 1) := by decide +kernel
theorem dX7_isAsked_66 : decode cX7_isAsked 66 = .ok (.if_icmp .eq 23, 3) := by decide +kernel
theorem dX7_isAsked_69 : decode cX7_isAsked 69 = .ok (.aload_n 0, 1) := by decide +kernel
theorem dX7_isAsked_70 : decode cX7_isAsked 70 = .ok (.getfield 36, 3) := by decide +kernel
theorem dX7_isAsked_73 : decode cX7_isAsked 73 = .ok (.iload_n 1, 1) := by decide +kernel
theorem dX7_isAsked_74 : decode cX7_isAsked 74 = .ok (.iaload, 1) := by decide +kernel
theorem dX7_isAsked_75 : decode cX7_isAsked 75 = .ok (.iconst 3, 1) := by decide +kernel
theorem dX7_isAsked_76 : decode cX7_isAsked 76 = .ok (.if_icmp .eq 13, 3) := by decide +kernel
theorem dX7_isAsked_79 : decode cX7_isAsked 79 = .ok (.aload_n 0, 1) := by decide +kernel
theorem dX7_isAsked_80 : decode cX7_isAsked 80 = .ok (.getfield 36, 3) := by decide +kernel
theorem dX7_isAsked_83 : decode cX7_isAsked 83 = .ok (.iload_n 1, 1) := by decide +kernel
theorem dX7_isAsked_84 : decode cX7_isAsked 84 = .ok (.iaload, 1) := by decide +kernel
theorem dX7_isAsked_85 : decode cX7_isAsked 85 = .ok (.iconst 5, 1) := by decide +kernel
theorem dX7_isAsked_86 : decode cX7_isAsked 86 = .ok (.if_icmp .ne 7, 3) := by decide +kernel
theorem dX7_isAsked_89 : decode cX7_isAsked 89 = .ok (.iconst 1, 1) := by decide +kernel
theorem dX7_isAsked_90 : decode cX7_isAsked 90 = .ok (.goto 4, 3) := by decide +kernel
theorem dX7_isAsked_93 : decode cX7_isAsked 93 = .ok (.iconst 0, 1) := by decide +kernel
theorem dX7_isAsked_94 : decode cX7_isAsked 94 = .ok (.istore 4, 2) := by decide +kernel
theorem dX7_isAsked_96 : decode cX7_isAsked 96 = .ok (.iload 4, 2) := by decide +kernel
theorem dX7_isAsked_98 : decode cX7_isAsked 98 = .ok (.ifCond .eq 15, 3) := by decide +kernel
theorem dX7_isAsked_101 : decode cX7_isAsked 101 = .ok (.aload_n 0, 1) := by decide +kernel
theorem dX7_isAsked_102 : decode cX7_isAsked 102 = .ok (.getfield 85, 3) := by decide +kernel
theorem dX7_isAsked_105 : decode cX7_isAsked 105 = .ok (.iload_n 2, 1) := by decide +kernel
theorem dX7_isAsked_106 : decode cX7_isAsked 106 = .ok (.iaload, 1) := by decide +kernel
theorem dX7_isAsked_107 : decode cX7_isAsked 107 = .ok (.iload_n 1, 1) := by decide +kernel
theorem dX7_isAsked_108 : decode cX7_isAsked 108 = .ok (.if_icmp .ne 5, 3) := by decide +kernel
theorem dX7_isAsked_111 : decode cX7_isAsked 111 = .ok (.iconst 1, 1) := by decide +kernel
theorem dX7_isAsked_112 : decode cX7_isAsked 112 = .ok (.ireturn, 1) := by decide +kernel
theorem dX7_isAsked_113 : decode cX7_isAsked 113 = .ok (.aload_n 0, 1) := by decide +kernel
theorem dX7_isAsked_114 : decode cX7_isAsked 114 = .ok (.getfield 85, 3) := by decide +kernel
theorem dX7_isAsked_117 : decode cX7_isAsked 117 = .ok (.iload_n 2, 1) := by decide +kernel
theorem dX7_isAsked_118 : decode cX7_isAsked 118 = .ok (.iaload, 1) := by decide +kernel
theorem dX7_isAsked_119 : decode cX7_isAsked 119 = .ok (.istore 5, 2) := by decide +kernel
theorem dX7_isAsked_121 : decode cX7_isAsked 121 = .ok (.iload 5, 2) := by decide +kernel
theorem dX7_isAsked_123 : decode cX7_isAsked 123 = .ok (.iload_n 1, 1) := by decide +kernel
theorem dX7_isAsked_124 : decode cX7_isAsked 124 = .ok (.if_icmp .le 57, 3) := by decide +kernel
theorem dX7_isAsked_127 : decode cX7_isAsked 127 = .ok (.iload 5, 2) := by decide +kernel
theorem dX7_isAsked_129 : decode cX7_isAsked 129 = .ok (.iload_n 2, 1) := by decide +kernel
theorem dX7_isAsked_130 : decode cX7_isAsked 130 = .ok (.if_icmp .ge 51, 3) := by decide +kernel
theorem dX7_isAsked_133 : decode cX7_isAsked 133 = .ok (.aload_n 0, 1) := by decide +kernel
theorem dX7_isAsked_134 : decode cX7_isAsked 134 = .ok (.getfield 33, 3) := by decide +kernel
theorem dX7_isAsked_137 : decode cX7_isAsked 137 = .ok (.iload 5, 2) := by decide +kernel
theorem dX7_isAsked_139 : decode cX7_isAsked 139 = .ok (.iaload, 1) := by decide +kernel
theorem dX7_isAsked_140 : decode cX7_isAsked 140 = .ok (.aload_n 0, 1) := by decide +kernel
theorem dX7_isAsked_141 : decode cX7_isAsked 141 = .ok (.getfield 33, 3) := by decide +kernel
theorem dX7_isAsked_144 : decode cX7_isAsked 144 = .ok (.iload_n 1, 1) := by decide +kernel
theorem dX7_isAsked_145 : decode cX7_isAsked 145 = .ok (.iaload, 1) := by decide +kernel
theorem dX7_isAsked_146 : decode cX7_isAsked 146 = .ok (.if_icmp .ne 35, 3) := by decide +kernel
theorem dX7_isAsked_149 : decode cX7_isAsked 149 = .ok (.aload_n 0, 1) := by decide +kernel
theorem dX7_isAsked_150 : decode cX7_isAsked 150 = .ok (.getfield 51, 3) := by decide +kernel
theorem dX7_isAsked_153 : decode cX7_isAsked 153 = .ok (.iload 5, 2) := by decide +kernel
theorem dX7_isAsked_155 : decode cX7_isAsked 155 = .ok (.iaload, 1) := by decide +kernel
theorem dX7_isAsked_156 : decode cX7_isAsked 156 = .ok (.iload_n 1, 1) := by decide +kernel
theorem dX7_isAsked_157 : decode cX7_isAsked 157 = .ok (.invokestatic 163, 3) := by decide +kernel
theorem dX7_isAsked_160 : decode cX7_isAsked 160 = .ok (.ifCond .ne 17, 3) := by decide +kernel
theorem dX7_isAsked_163 : decode cX7_isAsked 163 = .ok (.aload_n 0, 1) := by decide +kernel
theorem dX7_isAsked_164 : decode cX7_isAsked 164 = .ok (.getfield 54, 3) := by decide +kernel
theorem dX7_isAsked_167 : decode cX7_isAsked 167 = .ok (.iload 5, 2) := by decide +kernel
theorem dX7_isAsked_169 : decode cX7_isAsked 169 = .ok (.iaload, 1) := by decide +kernel
theorem dX7_isAsked_170 : decode cX7_isAsked 170 = .ok (.iload_n 1, 1) := by decide +kernel
theorem dX7_isAsked_171 : decode cX7_isAsked 171 = .ok (.invokestatic 163, 3) := by decide +kernel
theorem dX7_isAsked_174 : decode cX7_isAsked 174 = .ok (.ifCond .eq 7, 3) := by decide +kernel
theorem dX7_isAsked_177 : decode cX7_isAsked 177 = .ok (.iconst 1, 1) := by decide +kernel
theorem dX7_isAsked_178 : decode cX7_isAsked 178 = .ok (.goto 4, 3) := by decide +kernel
theorem dX7_isAsked_181 : decode cX7_isAsked 181 = .ok (.iconst 0, 1) := by decide +kernel
theorem dX7_isAsked_182 : decode cX7_isAsked 182 = .ok (.ireturn, 1) := by decide +kernel
set_option maxRecDepth 20000 in
theorem ggX7_isAtomic_X7_writes : GoodIn wsX7_isAtomic wsX7_writes := goodIn_r _ [11, 12, 13, 14, 10, 15, 16, 17, 18, 19, 20, 21, 22, 23, 24, 25, 26, 27, 28, 29, 30, 31, 32, 33, 34, 35, 36, 37, 38, 39, 40, 41, 42, 43, 44, 45, 46, 47, 48, 49, 50] (by decide +kernel) (by decide +kernel)
set_option maxRecDepth 20000 in
theorem gX7_isAtomic_X7_writes : GoodIn wsX7_isAtomic (wsV RX7 157 RX7 yX7_writes wsX7_writes) := goodIn_app (goodIn_of _ (by decide +kernel)) ggX7_isAtomic_X7_writes
theorem dX7_isAtomic_0 : decode cX7_isAtomic 0 = .ok (.aload_n 0, 1) := by decide +kernel
theorem dX7_isAtomic_1 : decode cX7_isAtomic 1 = .ok (.getfield 60, 3) := by decide +kernel
theorem dX7_isAtomic_4 : decode cX7_isAtomic 4 = .ok (.iload_n 1, 1) := by decide +kernel
theorem dX7_isAtomic_5 : decode cX7_isAtomic 5 = .ok (.iaload, 1) := by decide +kernel
theorem dX7_isAtomic_6 : decode cX7_isAtomic 6 = .ok (.istore_n 2, 1) := by decide +kernel
theorem dX7_isAtomic_7 : decode cX7_isAtomic 7 = .ok (.aload_n 0, 1) := by decide +kernel
theorem dX7_isAtomic_8 : decode cX7_isAtomic 8 = .ok (.getfield 85, 3) := by decide +kernel
theorem dX7_isAtomic_11 : decode cX7_isAtomic 11 = .ok (.iload_n 2, 1) := by decide +kernel
theorem dX7_isAtomic_12 : decode cX7_isAtomic 12 = .ok (.iaload, 1) := by decide +kernel
theorem dX7_isAtomic_13 : decode cX7_isAtomic 13 = .ok (.istore_n 3, 1) := by decide +kernel
theorem dX7_isAtomic_14 : decode cX7_isAtomic 14 = .ok (.iload_n 3, 1) := by decide +kernel
theorem dX7_isAtomic_15 : decode cX7_isAtomic 15 = .ok (.ifCond .ge 7, 3) := by decide +kernel
theorem dX7_isAtomic_18 : decode cX7_isAtomic 18 = .ok (.iconst (-1), 1) := by decide +kernel
theorem dX7_isAtomic_19 : decode cX7_isAtomic 19 = .ok (.goto 9, 3) := by decide +kernel
theorem dX7_isAtomic_22 : decode cX7_isAtomic 22 = .ok (.aload_n 0, 1) := by decide +kernel
theorem dX7_isAtomic_23 : decode cX7_isAtomic 23 = .ok (.getfield 82, 3) := by decide +kernel
theorem dX7_isAtomic_26 : decode cX7_isAtomic 26 = .ok (.iload_n 3, 1) := by decide +kernel
theorem dX7_isAtomic_27 : decode cX7_isAtomic 27 = .ok (.iaload, 1) := by decide +kernel
theorem dX7_isAtomic_28 : decode cX7_isAtomic 28 = .ok (.istore 4, 2) := by decide +kernel
theorem dX7_isAtomic_30 : decode cX7_isAtomic 30 = .ok (.iload 4, 2) := by decide +kernel
theorem dX7_isAtomic_32 : decode cX7_isAtomic 32 = .ok (.aload_n 0, 1) := by decide +kernel
theorem dX7_isAtomic_33 : decode cX7_isAtomic 33 = .ok (.getfield 82, 3) := by decide +kernel
theorem dX7_isAtomic_36 : decode cX7_isAtomic 36 = .ok (.iload_n 1, 1) := by decide +kernel
theorem dX7_isAtomic_37 : decode cX7_isAtomic 37 = .ok (.iaload, 1) := by decide +kernel
theorem dX7_isAtomic_38 : decode cX7_isAtomic 38 = .ok (.if_icmp .ge 7, 3) := by decide +kernel
theorem dX7_isAtomic_41 : decode cX7_isAtomic 41 = .ok (.iconst 1, 1) := by decide +kernel
theorem dX7_isAtomic_42 : decode cX7_isAtomic 42 = .ok (.goto 4, 3) := by decide +kernel
theorem dX7_isAtomic_45 : decode cX7_isAtomic 45 = .ok (.iconst 0, 1) := by decide +kernel
theorem dX7_isAtomic_46 : decode cX7_isAtomic 46 = .ok (.istore 5, 2) := by decide +kernel
theorem dX7_isAtomic_48 : decode cX7_isAtomic 48 = .ok (.iconst 0, 1) := by decide +kernel
theorem dX7_isAtomic_49 : decode cX7_isAtomic 49 = .ok (.istore 6, 2) := by decide +kernel
theorem dX7_isAtomic_51 : decode cX7_isAtomic 51 = .ok (.iload 6, 2) := by decide +kernel
theorem dX7_isAtomic_53 : decode cX7_isAtomic 53 = .ok (.aload_n 0, 1) := by decide +kernel
theorem dX7_isAtomic_54 : decode cX7_isAtomic 54 = .ok (.getfield 128, 3) := by decide +kernel
theorem dX7_isAtomic_57 : decode cX7_isAtomic 57 = .ok (.if_icmp .ge 108, 3) := by decide +kernel
theorem dX7_isAtomic_60 : decode cX7_isAtomic 60 = .ok (.iload 5, 2) := by decide +kernel
theorem dX7_isAtomic_62 : decode cX7_isAtomic 62 = .ok (.ifCond .eq 103, 3) := by decide +kernel
theorem dX7_isAtomic_65 : decode cX7_isAtomic 65 = .ok (.iload 6, 2) := by decide +kernel
theorem dX7_isAtomic_67 : decode cX7_isAtomic 67 = .ok (.iload_n 3, 1) := by decide +kernel
theorem dX7_isAtomic_68 : decode cX7_isAtomic 68 = .ok (.if_icmp .eq 48, 3) := by decide +kernel
theorem dX7_isAtomic_71 : decode cX7_isAtomic 71 = .ok (.aload_n 0, 1) := by decide +kernel
theorem dX7_isAtomic_72 : decode cX7_isAtomic 72 = .ok (.iload 6, 2) := by decide +kernel
theorem dX7_isAtomic_74 : decode cX7_isAtomic 74 = .ok (.invokevirtual 157, 3) := by decide +kernel
theorem dX7_isAtomic_77 : decode cX7_isAtomic 77 = .ok (.ifCond .eq 39, 3) := by decide +kernel
theorem dX7_isAtomic_80 : decode cX7_isAtomic 80 = .ok (.aload_n 0, 1) := by decide +kernel
theorem dX7_isAtomic_81 : decode cX7_isAtomic 81 = .ok (.getfield 33, 3) := by decide +kernel
theorem dX7_isAtomic_84 : decode cX7_isAtomic 84 = .ok (.iload 6, 2) := by decide +kernel
theorem dX7_isAtomic_86 : decode cX7_isAtomic 86 = .ok (.iaload, 1) := by decide +kernel
theorem dX7_isAtomic_87 : decode cX7_isAtomic 87 = .ok (.aload_n 0, 1) := by decide +kernel
theorem dX7_isAtomic_88 : decode cX7_isAtomic 88 = .ok (.getfield 33, 3) := by decide +kernel
theorem dX7_isAtomic_91 : decode cX7_isAtomic 91 = .ok (.iload_n 1, 1) := by decide +kernel
theorem dX7_isAtomic_92 : decode cX7_isAtomic 92 = .ok (.iaload, 1) := by decide +kernel
theorem dX7_isAtomic_93 : decode cX7_isAtomic 93 = .ok (.if_icmp .eq 23, 3) := by decide +kernel
theorem dX7_isAtomic_96 : decode cX7_isAtomic 96 = .ok (.aload_n 0, 1) := by decide +kernel
theorem dX7_isAtomic_97 : decode cX7_isAtomic 97 = .ok (.getfield 39, 3) := by decide +kernel
theorem dX7_isAtomic_100 : decode cX7_isAtomic 100 = .ok (.iload 6, 2) := by decide +kernel
theorem dX7_isAtomic_102 : decode cX7_isAtomic 102 = .ok (.iaload, 1) := by decide +kernel
theorem dX7_isAtomic_103 : decode cX7_isAtomic 103 = .ok (.aload_n 0, 1) := by decide +kernel
theorem dX7_isAtomic_104 : decode cX7_isAtomic 104 = .ok (.getfield 39, 3) := by decide +kernel
theorem dX7_isAtomic_107 : decode cX7_isAtomic 107 = .ok (.iload_n 1, 1) := by decide +kernel
theorem dX7_isAtomic_108 : decode cX7_isAtomic 108 = .ok (.iaload, 1) := by decide +kernel
theorem dX7_isAtomic_109 : decode cX7_isAtomic 109 = .ok (.if_icmp .ne 7, 3) := by decide +kernel
theorem dX7_isAtomic_112 : decode cX7_isAtomic 112 = .ok (.iconst 1, 1) := by decide +kernel
theorem dX7_isAtomic_113 : decode cX7_isAtomic 113 = .ok (.goto 4, 3) := by decide +kernel
theorem dX7_isAtomic_116 : decode cX7_isAtomic 116 = .ok (.iconst 0, 1) := by decide +kernel
theorem dX7_isAtomic_117 : decode cX7_isAtomic 117 = .ok (.istore 7, 2) := by decide +kernel
theorem dX7_isAtomic_119 : decode cX7_isAtomic 119 = .ok (.iload 7, 2) := by decide +kernel
theorem dX7_isAtomic_121 : decode cX7_isAtomic 121 = .ok (.ifCond .eq 31, 3) := by decide +kernel
theorem dX7_isAtomic_124 : decode cX7_isAtomic 124 = .ok (.aload_n 0, 1) := by decide +kernel
theorem dX7_isAtomic_125 : decode cX7_isAtomic 125 = .ok (.getfield 82, 3) := by decide +kernel
theorem dX7_isAtomic_128 : decode cX7_isAtomic 128 = .ok (.iload 6, 2) := by decide +kernel
theorem dX7_isAtomic_130 : decode cX7_isAtomic 130 = .ok (.iaload, 1) := by decide +kernel
theorem dX7_isAtomic_131 : decode cX7_isAtomic 131 = .ok (.iload 4, 2) := by decide +kernel
theorem dX7_isAtomic_133 : decode cX7_isAtomic 133 = .ok (.if_icmp .lt 19, 3) := by decide +kernel
theorem dX7_isAtomic_136 : decode cX7_isAtomic 136 = .ok (.aload_n 0, 1) := by decide +kernel
theorem dX7_isAtomic_137 : decode cX7_isAtomic 137 = .ok (.getfield 82, 3) := by decide +kernel
theorem dX7_isAtomic_140 : decode cX7_isAtomic 140 = .ok (.iload 6, 2) := by decide +kernel
theorem dX7_isAtomic_142 : decode cX7_isAtomic 142 = .ok (.iaload, 1) := by decide +kernel
theorem dX7_isAtomic_143 : decode cX7_isAtomic 143 = .ok (.aload_n 0, 1) := by decide +kernel
theorem dX7_isAtomic_144 : decode cX7_isAtomic 144 = .ok (.getfield 82, 3) := by decide +kernel
theorem dX7_isAtomic_147 : decode cX7_isAtomic 147 = .ok (.iload_n 1, 1) := by decide +kernel
theorem dX7_isAtomic_148 : decode cX7_isAtomic 148 = .ok (.iaload, 1) := by decide +kernel
theorem dX7_isAtomic_149 : decode cX7_isAtomic 149 = .ok (.if_icmp .le 7, 3) := by decide +kernel
theorem dX7_isAtomic_152 : decode cX7_isAtomic 152 = .ok (.iconst 1, 1) := by decide +kernel
theorem dX7_isAtomic_153 : decode cX7_isAtomic 153 = .ok (.goto 4, 3) := by decide +kernel
theorem dX7_isAtomic_156 : decode cX7_isAtomic 156 = .ok (.iconst 0, 1) := by decide +kernel
theorem dX7_isAtomic_157 : decode cX7_isAtomic 157 = .ok (.istore 5, 2) := by decide +kernel
theorem dX7_isAtomic_159 : decode cX7_isAtomic 159 = .ok (.iinc 6 1, 3) := by decide +kernel
theorem dX7_isAtomic_162 : decode cX7_isAtomic 162 = .ok (.goto (-111), 3) := by decide +kernel
theorem dX7_isAtomic_165 : decode cX7_isAtomic 165 = .ok (.iload 5, 2) := by decide +kernel
theorem dX7_isAtomic_167 : decode cX7_isAtomic 167 = .ok (.ireturn, 1) := by decide +kernel
set_option maxRecDepth 20000 in
theorem ggX7_isOrder_X7_reads : GoodIn wsX7_isOrder wsX7_reads := goodIn_r _ [13, 8, 14, 15, 12, 16, 47, 48, 49, 50, 51, 52, 53, 54, 55, 56, 57, 58, 59, 60, 61, 62, 63, 64, 65, 66, 67, 68, 69, 70, 71, 72, 73, 74, 75, 76, 77, 78, 79, 80, 81] (by decide +kernel) (by decide +kernel)
set_option maxRecDepth 20000 in
theorem gX7_isOrder_X7_reads : GoodIn wsX7_isOrder (wsV RX7 154 RX7 yX7_reads wsX7_reads) := goodIn_app (goodIn_of _ (by decide +kernel)) ggX7_isOrder_X7_reads
set_option maxRecDepth 20000 in
theorem ggX7_isOrder_X7_sourceOf : GoodIn wsX7_isOrder wsX7_sourceOf := goodIn_r _ [20, 1, 21, 3, 7, 22, 23, 24, 12, 25, 8, 26, 27, 28, 47, 48, 49, 50, 51, 52, 53, 54, 55, 56, 57, 58, 59, 60, 61, 62, 63, 64, 65, 66, 67, 68, 69, 70, 71, 72, 73, 74, 75, 76, 77, 78, 79, 80, 81] (by decide +kernel) (by decide +kernel)
set_option maxRecDepth 20000 in
theorem gX7_isOrder_X7_sourceOf : GoodIn wsX7_isOrder (wsV RX7 172 RX7 yX7_sourceOf wsX7_sourceOf) := goodIn_app (goodIn_of _ (by decide +kernel)) ggX7_isOrder_X7_sourceOf
set_option maxRecDepth 20000 in
theorem ggX7_isOrder_X7_isAsked : GoodIn wsX7_isOrder wsX7_isAsked := goodIn_r _ [32, 21, 4, 8, 7, 33, 34, 9, 10, 11, 12, 13, 14, 15, 16, 35, 36, 37, 38, 22, 23, 24, 25, 26, 27, 28, 39, 40, 41, 47, 48, 49, 50, 51, 52, 53, 54, 55, 56, 57, 58, 59, 60, 61, 62, 63, 64, 65, 66, 67, 68, 69, 70, 71, 72, 73, 74, 75, 76, 77, 78, 79, 80, 81] (by decide +kernel) (by decide +kernel)
set_option maxRecDepth 20000 in
theorem gX7_isOrder_X7_isAsked : GoodIn wsX7_isOrder (wsV RX7 175 RX7 yX7_isAsked wsX7_isAsked) := goodIn_app (goodIn_of _ (by decide +kernel)) ggX7_isOrder_X7_isAsked
set_option maxRecDepth 20000 in
theorem ggX7_isOrder_X7_isAtomic : GoodIn wsX7_isOrder wsX7_isAtomic := goodIn_r _ [45, 46, 4, 3, 1, 7, 21, 22, 23, 24, 12, 25, 8, 26, 27, 28, 47, 48, 49, 50, 51, 52, 53, 54, 55, 56, 57, 58, 59, 60, 61, 62, 63, 64, 65, 66, 67, 68, 69, 70, 71, 72, 73, 74, 75, 76, 77, 78, 79, 80, 81] (by decide +kernel) (by decide +kernel)
set_option maxRecDepth 20000 in
theorem gX7_isOrder_X7_isAtomic : GoodIn wsX7_isOrder (wsV RX7 178 RX7 yX7_isAtomic wsX7_isAtomic) := goodIn_app (goodIn_of _ (by decide +kernel)) ggX7_isOrder_X7_isAtomic
theorem dX7_isOrder_0 : decode cX7_isOrder 0 = .ok (.iconst 0, 1) := by decide +kernel
theorem dX7_isOrder_1 : decode cX7_isOrder 1 = .ok (.istore_n 1, 1) := by decide +kernel
theorem dX7_isOrder_2 : decode cX7_isOrder 2 = .ok (.iload_n 1, 1) := by decide +kernel
theorem dX7_isOrder_3 : decode cX7_isOrder 3 = .ok (.aload_n 0, 1) := by decide +kernel
theorem dX7_isOrder_4 : decode cX7_isOrder 4 = .ok (.getfield 128, 3) := by decide +kernel
theorem dX7_isOrder_7 : decode cX7_isOrder 7 = .ok (.if_icmp .ge 58, 3) := by decide +kernel
theorem dX7_isOrder_10 : decode cX7_isOrder 10 = .ok (.iload_n 1, 1) := by decide +kernel
theorem dX7_isOrder_11 : decode cX7_isOrder 11 = .ok (.iconst 1, 1) := by decide +kernel
theorem dX7_isOrder_12 : decode cX7_isOrder 12 = .ok (.iadd, 1) := by decide +kernel
theorem dX7_isOrder_13 : decode cX7_isOrder 13 = .ok (.istore_n 2, 1) := by decide +kernel
theorem dX7_isOrder_14 : decode cX7_isOrder 14 = .ok (.iload_n 2, 1) := by decide +kernel
theorem dX7_isOrder_15 : decode cX7_isOrder 15 = .ok (.aload_n 0, 1) := by decide +kernel
theorem dX7_isOrder_16 : decode cX7_isOrder 16 = .ok (.getfield 128, 3) := by decide +kernel
theorem dX7_isOrder_19 : decode cX7_isOrder 19 = .ok (.if_icmp .ge 40, 3) := by decide +kernel
theorem dX7_isOrder_22 : decode cX7_isOrder 22 = .ok (.aload_n 0, 1) := by decide +kernel
theorem dX7_isOrder_23 : decode cX7_isOrder 23 = .ok (.getfield 75, 3) := by decide +kernel
theorem dX7_isOrder_26 : decode cX7_isOrder 26 = .ok (.bipush 6, 2) := by decide +kernel
theorem dX7_isOrder_28 : decode cX7_isOrder 28 = .ok (.iload_n 1, 1) := by decide +kernel
theorem dX7_isOrder_29 : decode cX7_isOrder 29 = .ok (.imul, 1) := by decide +kernel
theorem dX7_isOrder_30 : decode cX7_isOrder 30 = .ok (.iload_n 2, 1) := by decide +kernel
theorem dX7_isOrder_31 : decode cX7_isOrder 31 = .ok (.iadd, 1) := by decide +kernel
theorem dX7_isOrder_32 : decode cX7_isOrder 32 = .ok (.baload, 1) := by decide +kernel
theorem dX7_isOrder_33 : decode cX7_isOrder 33 = .ok (.ifCond .eq 20, 3) := by decide +kernel
theorem dX7_isOrder_36 : decode cX7_isOrder 36 = .ok (.aload_n 0, 1) := by decide +kernel
theorem dX7_isOrder_37 : decode cX7_isOrder 37 = .ok (.getfield 82, 3) := by decide +kernel
theorem dX7_isOrder_40 : decode cX7_isOrder 40 = .ok (.iload_n 1, 1) := by decide +kernel
theorem dX7_isOrder_41 : decode cX7_isOrder 41 = .ok (.iaload, 1) := by decide +kernel
theorem dX7_isOrder_42 : decode cX7_isOrder 42 = .ok (.aload_n 0, 1) := by decide +kernel
theorem dX7_isOrder_43 : decode cX7_isOrder 43 = .ok (.getfield 82, 3) := by decide +kernel
theorem dX7_isOrder_46 : decode cX7_isOrder 46 = .ok (.iload_n 2, 1) := by decide +kernel
theorem dX7_isOrder_47 : decode cX7_isOrder 47 = .ok (.iaload, 1) := by decide +kernel
theorem dX7_isOrder_48 : decode cX7_isOrder 48 = .ok (.if_icmp .le 5, 3) := by decide +kernel
theorem dX7_isOrder_51 : decode cX7_isOrder 51 = .ok (.iconst 0, 1) := by decide +kernel
theorem dX7_isOrder_52 : decode cX7_isOrder 52 = .ok (.ireturn, 1) := by decide +kernel
theorem dX7_isOrder_53 : decode cX7_isOrder 53 = .ok (.iinc 2 1, 3) := by decide +kernel
theorem dX7_isOrder_56 : decode cX7_isOrder 56 = .ok (.goto (-42), 3) := by decide +kernel
theorem dX7_isOrder_59 : decode cX7_isOrder 59 = .ok (.iinc 1 1, 3) := by decide +kernel
theorem dX7_isOrder_62 : decode cX7_isOrder 62 = .ok (.goto (-60), 3) := by decide +kernel
theorem dX7_isOrder_65 : decode cX7_isOrder 65 = .ok (.iconst 0, 1) := by decide +kernel
theorem dX7_isOrder_66 : decode cX7_isOrder 66 = .ok (.istore_n 1, 1) := by decide +kernel
theorem dX7_isOrder_67 : decode cX7_isOrder 67 = .ok (.iload_n 1, 1) := by decide +kernel
theorem dX7_isOrder_68 : decode cX7_isOrder 68 = .ok (.aload_n 0, 1) := by decide +kernel
theorem dX7_isOrder_69 : decode cX7_isOrder 69 = .ok (.getfield 128, 3) := by decide +kernel
theorem dX7_isOrder_72 : decode cX7_isOrder 72 = .ok (.if_icmp .ge 65, 3) := by decide +kernel
theorem dX7_isOrder_75 : decode cX7_isOrder 75 = .ok (.aload_n 0, 1) := by decide +kernel
theorem dX7_isOrder_76 : decode cX7_isOrder 76 = .ok (.iload_n 1, 1) := by decide +kernel
theorem dX7_isOrder_77 : decode cX7_isOrder 77 = .ok (.invokevirtual 154, 3) := by decide +kernel
theorem dX7_isOrder_80 : decode cX7_isOrder 80 = .ok (.ifCond .eq 51, 3) := by decide +kernel
theorem dX7_isOrder_83 : decode cX7_isOrder 83 = .ok (.aload_n 0, 1) := by decide +kernel
theorem dX7_isOrder_84 : decode cX7_isOrder 84 = .ok (.getfield 85, 3) := by decide +kernel
theorem dX7_isOrder_87 : decode cX7_isOrder 87 = .ok (.iload_n 1, 1) := by decide +kernel
theorem dX7_isOrder_88 : decode cX7_isOrder 88 = .ok (.aload_n 0, 1) := by decide +kernel
theorem dX7_isOrder_89 : decode cX7_isOrder 89 = .ok (.iload_n 1, 1) := by decide +kernel
theorem dX7_isOrder_90 : decode cX7_isOrder 90 = .ok (.invokevirtual 172, 3) := by decide +kernel
theorem dX7_isOrder_93 : decode cX7_isOrder 93 = .ok (.iastore, 1) := by decide +kernel
theorem dX7_isOrder_94 : decode cX7_isOrder 94 = .ok (.aload_n 0, 1) := by decide +kernel
theorem dX7_isOrder_95 : decode cX7_isOrder 95 = .ok (.getfield 85, 3) := by decide +kernel
theorem dX7_isOrder_98 : decode cX7_isOrder 98 = .ok (.iload_n 1, 1) := by decide +kernel
theorem dX7_isOrder_99 : decode cX7_isOrder 99 = .ok (.iaload, 1) := by decide +kernel
theorem dX7_isOrder_100 : decode cX7_isOrder 100 = .ok (.ifCond .ge 7, 3) := by decide +kernel
theorem dX7_isOrder_103 : decode cX7_isOrder 103 = .ok (.iconst 0, 1) := by decide +kernel
theorem dX7_isOrder_104 : decode cX7_isOrder 104 = .ok (.goto 14, 3) := by decide +kernel
theorem dX7_isOrder_107 : decode cX7_isOrder 107 = .ok (.aload_n 0, 1) := by decide +kernel
theorem dX7_isOrder_108 : decode cX7_isOrder 108 = .ok (.getfield 45, 3) := by decide +kernel
theorem dX7_isOrder_111 : decode cX7_isOrder 111 = .ok (.aload_n 0, 1) := by decide +kernel
theorem dX7_isOrder_112 : decode cX7_isOrder 112 = .ok (.getfield 85, 3) := by decide +kernel
theorem dX7_isOrder_115 : decode cX7_isOrder 115 = .ok (.iload_n 1, 1) := by decide +kernel
theorem dX7_isOrder_116 : decode cX7_isOrder 116 = .ok (.iaload, 1) := by decide +kernel
theorem dX7_isOrder_117 : decode cX7_isOrder 117 = .ok (.iaload, 1) := by decide +kernel
theorem dX7_isOrder_118 : decode cX7_isOrder 118 = .ok (.istore_n 2, 1) := by decide +kernel
theorem dX7_isOrder_119 : decode cX7_isOrder 119 = .ok (.iload_n 2, 1) := by decide +kernel
theorem dX7_isOrder_120 : decode cX7_isOrder 120 = .ok (.aload_n 0, 1) := by decide +kernel
theorem dX7_isOrder_121 : decode cX7_isOrder 121 = .ok (.getfield 42, 3) := by decide +kernel
theorem dX7_isOrder_124 : decode cX7_isOrder 124 = .ok (.iload_n 1, 1) := by decide +kernel
theorem dX7_isOrder_125 : decode cX7_isOrder 125 = .ok (.iaload, 1) := by decide +kernel
theorem dX7_isOrder_126 : decode cX7_isOrder 126 = .ok (.if_icmp .eq 5, 3) := by decide +kernel
theorem dX7_isOrder_129 : decode cX7_isOrder 129 = .ok (.iconst 0, 1) := by decide +kernel
theorem dX7_isOrder_130 : decode cX7_isOrder 130 = .ok (.ireturn, 1) := by decide +kernel
theorem dX7_isOrder_131 : decode cX7_isOrder 131 = .ok (.iinc 1 1, 3) := by decide +kernel
theorem dX7_isOrder_134 : decode cX7_isOrder 134 = .ok (.goto (-67), 3) := by decide +kernel
theorem dX7_isOrder_137 : decode cX7_isOrder 137 = .ok (.iconst 0, 1) := by decide +kernel
theorem dX7_isOrder_138 : decode cX7_isOrder 138 = .ok (.istore_n 1, 1) := by decide +kernel
theorem dX7_isOrder_139 : decode cX7_isOrder 139 = .ok (.iload_n 1, 1) := by decide +kernel
theorem dX7_isOrder_140 : decode cX7_isOrder 140 = .ok (.aload_n 0, 1) := by decide +kernel
theorem dX7_isOrder_141 : decode cX7_isOrder 141 = .ok (.getfield 128, 3) := by decide +kernel
theorem dX7_isOrder_144 : decode cX7_isOrder 144 = .ok (.if_icmp .ge 91, 3) := by decide +kernel
theorem dX7_isOrder_147 : decode cX7_isOrder 147 = .ok (.iconst 0, 1) := by decide +kernel
theorem dX7_isOrder_148 : decode cX7_isOrder 148 = .ok (.istore_n 2, 1) := by decide +kernel
theorem dX7_isOrder_149 : decode cX7_isOrder 149 = .ok (.iload_n 2, 1) := by decide +kernel
theorem dX7_isOrder_150 : decode cX7_isOrder 150 = .ok (.iload_n 1, 1) := by decide +kernel
theorem dX7_isOrder_151 : decode cX7_isOrder 151 = .ok (.if_icmp .ge 58, 3) := by decide +kernel
theorem dX7_isOrder_154 : decode cX7_isOrder 154 = .ok (.aload_n 0, 1) := by decide +kernel
theorem dX7_isOrder_155 : decode cX7_isOrder 155 = .ok (.iload_n 1, 1) := by decide +kernel
theorem dX7_isOrder_156 : decode cX7_isOrder 156 = .ok (.invokevirtual 154, 3) := by decide +kernel
theorem dX7_isOrder_159 : decode cX7_isOrder 159 = .ok (.ifCond .eq 44, 3) := by decide +kernel
theorem dX7_isOrder_162 : decode cX7_isOrder 162 = .ok (.aload_n 0, 1) := by decide +kernel
theorem dX7_isOrder_163 : decode cX7_isOrder 163 = .ok (.getfield 33, 3) := by decide +kernel
theorem dX7_isOrder_166 : decode cX7_isOrder 166 = .ok (.iload_n 2, 1) := by decide +kernel
theorem dX7_isOrder_167 : decode cX7_isOrder 167 = .ok (.iaload, 1) := by decide +kernel
theorem dX7_isOrder_168 : decode cX7_isOrder 168 = .ok (.aload_n 0, 1) := by decide +kernel
theorem dX7_isOrder_169 : decode cX7_isOrder 169 = .ok (.getfield 33, 3) := by decide +kernel
theorem dX7_isOrder_172 : decode cX7_isOrder 172 = .ok (.iload_n 1, 1) := by decide +kernel
theorem dX7_isOrder_173 : decode cX7_isOrder 173 = .ok (.iaload, 1) := by decide +kernel
theorem dX7_isOrder_174 : decode cX7_isOrder 174 = .ok (.if_icmp .ne 29, 3) := by decide +kernel
theorem dX7_isOrder_177 : decode cX7_isOrder 177 = .ok (.aload_n 0, 1) := by decide +kernel
theorem dX7_isOrder_178 : decode cX7_isOrder 178 = .ok (.getfield 82, 3) := by decide +kernel
theorem dX7_isOrder_181 : decode cX7_isOrder 181 = .ok (.iload_n 2, 1) := by decide +kernel
theorem dX7_isOrder_182 : decode cX7_isOrder 182 = .ok (.iaload, 1) := by decide +kernel
theorem dX7_isOrder_183 : decode cX7_isOrder 183 = .ok (.aload_n 0, 1) := by decide +kernel
theorem dX7_isOrder_184 : decode cX7_isOrder 184 = .ok (.getfield 82, 3) := by decide +kernel
theorem dX7_isOrder_187 : decode cX7_isOrder 187 = .ok (.iload_n 1, 1) := by decide +kernel
theorem dX7_isOrder_188 : decode cX7_isOrder 188 = .ok (.iaload, 1) := by decide +kernel
theorem dX7_isOrder_189 : decode cX7_isOrder 189 = .ok (.if_icmp .le 14, 3) := by decide +kernel
theorem dX7_isOrder_192 : decode cX7_isOrder 192 = .ok (.aload_n 0, 1) := by decide +kernel
theorem dX7_isOrder_193 : decode cX7_isOrder 193 = .ok (.iload_n 2, 1) := by decide +kernel
theorem dX7_isOrder_194 : decode cX7_isOrder 194 = .ok (.iload_n 1, 1) := by decide +kernel
theorem dX7_isOrder_195 : decode cX7_isOrder 195 = .ok (.invokevirtual 175, 3) := by decide +kernel
theorem dX7_isOrder_198 : decode cX7_isOrder 198 = .ok (.ifCond .eq 5, 3) := by decide +kernel
theorem dX7_isOrder_201 : decode cX7_isOrder 201 = .ok (.iconst 0, 1) := by decide +kernel
theorem dX7_isOrder_202 : decode cX7_isOrder 202 = .ok (.ireturn, 1) := by decide +kernel
theorem dX7_isOrder_203 : decode cX7_isOrder 203 = .ok (.iinc 2 1, 3) := by decide +kernel
theorem dX7_isOrder_206 : decode cX7_isOrder 206 = .ok (.goto (-57), 3) := by decide +kernel
theorem dX7_isOrder_209 : decode cX7_isOrder 209 = .ok (.aload_n 0, 1) := by decide +kernel
theorem dX7_isOrder_210 : decode cX7_isOrder 210 = .ok (.getfield 36, 3) := by decide +kernel
theorem dX7_isOrder_213 : decode cX7_isOrder 213 = .ok (.iload_n 1, 1) := by decide +kernel
theorem dX7_isOrder_214 : decode cX7_isOrder 214 = .ok (.iaload, 1) := by decide +kernel
theorem dX7_isOrder_215 : decode cX7_isOrder 215 = .ok (.iconst 5, 1) := by decide +kernel
theorem dX7_isOrder_216 : decode cX7_isOrder 216 = .ok (.if_icmp .ne 13, 3) := by decide +kernel
theorem dX7_isOrder_219 : decode cX7_isOrder 219 = .ok (.aload_n 0, 1) := by decide +kernel
theorem dX7_isOrder_220 : decode cX7_isOrder 220 = .ok (.iload_n 1, 1) := by decide +kernel
theorem dX7_isOrder_221 : decode cX7_isOrder 221 = .ok (.invokevirtual 178, 3) := by decide +kernel
theorem dX7_isOrder_224 : decode cX7_isOrder 224 = .ok (.ifCond .ne 5, 3) := by decide +kernel
theorem dX7_isOrder_227 : decode cX7_isOrder 227 = .ok (.iconst 0, 1) := by decide +kernel
theorem dX7_isOrder_228 : decode cX7_isOrder 228 = .ok (.ireturn, 1) := by decide +kernel
theorem dX7_isOrder_229 : decode cX7_isOrder 229 = .ok (.iinc 1 1, 3) := by decide +kernel
theorem dX7_isOrder_232 : decode cX7_isOrder 232 = .ok (.goto (-93), 3) := by decide +kernel
theorem dX7_isOrder_235 : decode cX7_isOrder 235 = .ok (.iconst 1, 1) := by decide +kernel
theorem dX7_isOrder_236 : decode cX7_isOrder 236 = .ok (.ireturn, 1) := by decide +kernel
theorem dX7_nextOrder_0 : decode cX7_nextOrder 0 = .ok (.aload_n 0, 1) := by decide +kernel
theorem dX7_nextOrder_1 : decode cX7_nextOrder 1 = .ok (.getfield 128, 3) := by decide +kernel
theorem dX7_nextOrder_4 : decode cX7_nextOrder 4 = .ok (.iconst 2, 1) := by decide +kernel
theorem dX7_nextOrder_5 : decode cX7_nextOrder 5 = .ok (.isub, 1) := by decide +kernel
theorem dX7_nextOrder_6 : decode cX7_nextOrder 6 = .ok (.istore_n 1, 1) := by decide +kernel
theorem dX7_nextOrder_7 : decode cX7_nextOrder 7 = .ok (.iload_n 1, 1) := by decide +kernel
theorem dX7_nextOrder_8 : decode cX7_nextOrder 8 = .ok (.ifCond .lt 26, 3) := by decide +kernel
theorem dX7_nextOrder_11 : decode cX7_nextOrder 11 = .ok (.aload_n 0, 1) := by decide +kernel
theorem dX7_nextOrder_12 : decode cX7_nextOrder 12 = .ok (.getfield 79, 3) := by decide +kernel
theorem dX7_nextOrder_15 : decode cX7_nextOrder 15 = .ok (.iload_n 1, 1) := by decide +kernel
theorem dX7_nextOrder_16 : decode cX7_nextOrder 16 = .ok (.iaload, 1) := by decide +kernel
theorem dX7_nextOrder_17 : decode cX7_nextOrder 17 = .ok (.aload_n 0, 1) := by decide +kernel
theorem dX7_nextOrder_18 : decode cX7_nextOrder 18 = .ok (.getfield 79, 3) := by decide +kernel
theorem dX7_nextOrder_21 : decode cX7_nextOrder 21 = .ok (.iload_n 1, 1) := by decide +kernel
theorem dX7_nextOrder_22 : decode cX7_nextOrder 22 = .ok (.iconst 1, 1) := by decide +kernel
theorem dX7_nextOrder_23 : decode cX7_nextOrder 23 = .ok (.iadd, 1) := by decide +kernel
theorem dX7_nextOrder_24 : decode cX7_nextOrder 24 = .ok (.iaload, 1) := by decide +kernel
theorem dX7_nextOrder_25 : decode cX7_nextOrder 25 = .ok (.if_icmp .le 9, 3) := by decide +kernel
theorem dX7_nextOrder_28 : decode cX7_nextOrder 28 = .ok (.iinc 1 (-1), 3) := by decide +kernel
theorem dX7_nextOrder_31 : decode cX7_nextOrder 31 = .ok (.goto (-24), 3) := by decide +kernel
theorem dX7_nextOrder_34 : decode cX7_nextOrder 34 = .ok (.iload_n 1, 1) := by decide +kernel
theorem dX7_nextOrder_35 : decode cX7_nextOrder 35 = .ok (.ifCond .ge 5, 3) := by decide +kernel
theorem dX7_nextOrder_38 : decode cX7_nextOrder 38 = .ok (.iconst 0, 1) := by decide +kernel
theorem dX7_nextOrder_39 : decode cX7_nextOrder 39 = .ok (.ireturn, 1) := by decide +kernel
theorem dX7_nextOrder_40 : decode cX7_nextOrder 40 = .ok (.aload_n 0, 1) := by decide +kernel
theorem dX7_nextOrder_41 : decode cX7_nextOrder 41 = .ok (.getfield 128, 3) := by decide +kernel
theorem dX7_nextOrder_44 : decode cX7_nextOrder 44 = .ok (.iconst 1, 1) := by decide +kernel
theorem dX7_nextOrder_45 : decode cX7_nextOrder 45 = .ok (.isub, 1) := by decide +kernel
theorem dX7_nextOrder_46 : decode cX7_nextOrder 46 = .ok (.istore_n 2, 1) := by decide +kernel
theorem dX7_nextOrder_47 : decode cX7_nextOrder 47 = .ok (.aload_n 0, 1) := by decide +kernel
theorem dX7_nextOrder_48 : decode cX7_nextOrder 48 = .ok (.getfield 79, 3) := by decide +kernel
theorem dX7_nextOrder_51 : decode cX7_nextOrder 51 = .ok (.iload_n 2, 1) := by decide +kernel
theorem dX7_nextOrder_52 : decode cX7_nextOrder 52 = .ok (.iaload, 1) := by decide +kernel
theorem dX7_nextOrder_53 : decode cX7_nextOrder 53 = .ok (.aload_n 0, 1) := by decide +kernel
theorem dX7_nextOrder_54 : decode cX7_nextOrder 54 = .ok (.getfield 79, 3) := by decide +kernel
theorem dX7_nextOrder_57 : decode cX7_nextOrder 57 = .ok (.iload_n 1, 1) := by decide +kernel
theorem dX7_nextOrder_58 : decode cX7_nextOrder 58 = .ok (.iaload, 1) := by decide +kernel
theorem dX7_nextOrder_59 : decode cX7_nextOrder 59 = .ok (.if_icmp .ge 9, 3) := by decide +kernel
theorem dX7_nextOrder_62 : decode cX7_nextOrder 62 = .ok (.iinc 2 (-1), 3) := by decide +kernel
theorem dX7_nextOrder_65 : decode cX7_nextOrder 65 = .ok (.goto (-18), 3) := by decide +kernel
theorem dX7_nextOrder_68 : decode cX7_nextOrder 68 = .ok (.aload_n 0, 1) := by decide +kernel
theorem dX7_nextOrder_69 : decode cX7_nextOrder 69 = .ok (.getfield 79, 3) := by decide +kernel
theorem dX7_nextOrder_72 : decode cX7_nextOrder 72 = .ok (.iload_n 1, 1) := by decide +kernel
theorem dX7_nextOrder_73 : decode cX7_nextOrder 73 = .ok (.iaload, 1) := by decide +kernel
theorem dX7_nextOrder_74 : decode cX7_nextOrder 74 = .ok (.istore_n 3, 1) := by decide +kernel
theorem dX7_nextOrder_75 : decode cX7_nextOrder 75 = .ok (.aload_n 0, 1) := by decide +kernel
theorem dX7_nextOrder_76 : decode cX7_nextOrder 76 = .ok (.getfield 79, 3) := by decide +kernel
theorem dX7_nextOrder_79 : decode cX7_nextOrder 79 = .ok (.iload_n 1, 1) := by decide +kernel
theorem dX7_nextOrder_80 : decode cX7_nextOrder 80 = .ok (.aload_n 0, 1) := by decide +kernel
theorem dX7_nextOrder_81 : decode cX7_nextOrder 81 = .ok (.getfield 79, 3) := by decide +kernel
theorem dX7_nextOrder_84 : decode cX7_nextOrder 84 = .ok (.iload_n 2, 1) := by decide +kernel
theorem dX7_nextOrder_85 : decode cX7_nextOrder 85 = .ok (.iaload, 1) := by decide +kernel
theorem dX7_nextOrder_86 : decode cX7_nextOrder 86 = .ok (.iastore, 1) := by decide +kernel
theorem dX7_nextOrder_87 : decode cX7_nextOrder 87 = .ok (.aload_n 0, 1) := by decide +kernel
theorem dX7_nextOrder_88 : decode cX7_nextOrder 88 = .ok (.getfield 79, 3) := by decide +kernel
theorem dX7_nextOrder_91 : decode cX7_nextOrder 91 = .ok (.iload_n 2, 1) := by decide +kernel
theorem dX7_nextOrder_92 : decode cX7_nextOrder 92 = .ok (.iload_n 3, 1) := by decide +kernel
theorem dX7_nextOrder_93 : decode cX7_nextOrder 93 = .ok (.iastore, 1) := by decide +kernel
theorem dX7_nextOrder_94 : decode cX7_nextOrder 94 = .ok (.iload_n 1, 1) := by decide +kernel
theorem dX7_nextOrder_95 : decode cX7_nextOrder 95 = .ok (.iconst 1, 1) := by decide +kernel
theorem dX7_nextOrder_96 : decode cX7_nextOrder 96 = .ok (.iadd, 1) := by decide +kernel
theorem dX7_nextOrder_97 : decode cX7_nextOrder 97 = .ok (.istore 4, 2) := by decide +kernel
theorem dX7_nextOrder_99 : decode cX7_nextOrder 99 = .ok (.aload_n 0, 1) := by decide +kernel
theorem dX7_nextOrder_100 : decode cX7_nextOrder 100 = .ok (.getfield 128, 3) := by decide +kernel
theorem dX7_nextOrder_103 : decode cX7_nextOrder 103 = .ok (.iconst 1, 1) := by decide +kernel
theorem dX7_nextOrder_104 : decode cX7_nextOrder 104 = .ok (.isub, 1) := by decide +kernel
theorem dX7_nextOrder_105 : decode cX7_nextOrder 105 = .ok (.istore 5, 2) := by decide +kernel
theorem dX7_nextOrder_107 : decode cX7_nextOrder 107 = .ok (.iload 4, 2) := by decide +kernel
theorem dX7_nextOrder_109 : decode cX7_nextOrder 109 = .ok (.iload 5, 2) := by decide +kernel
theorem dX7_nextOrder_111 : decode cX7_nextOrder 111 = .ok (.if_icmp .ge 44, 3) := by decide +kernel
theorem dX7_nextOrder_114 : decode cX7_nextOrder 114 = .ok (.aload_n 0, 1) := by decide +kernel
theorem dX7_nextOrder_115 : decode cX7_nextOrder 115 = .ok (.getfield 79, 3) := by decide +kernel
theorem dX7_nextOrder_118 : decode cX7_nextOrder 118 = .ok (.iload 4, 2) := by decide +kernel
theorem dX7_nextOrder_120 : decode cX7_nextOrder 120 = .ok (.iaload, 1) := by decide +kernel
theorem dX7_nextOrder_121 : decode cX7_nextOrder 121 = .ok (.istore 6, 2) := by decide +kernel
theorem dX7_nextOrder_123 : decode cX7_nextOrder 123 = .ok (.aload_n 0, 1) := by decide +kernel
theorem dX7_nextOrder_124 : decode cX7_nextOrder 124 = .ok (.getfield 79, 3) := by decide +kernel
theorem dX7_nextOrder_127 : decode cX7_nextOrder 127 = .ok (.iload 4, 2) := by decide +kernel
end
section
theorem dX7_nextOrder_129 : decode cX7_nextOrder 129 = .ok (.aload_n 0, 1) := by decide +kernel
theorem dX7_nextOrder_130 : decode cX7_nextOrder 130 = .ok (.getfield 79, 3) := by decide +kernel
theorem dX7_nextOrder_133 : decode cX7_nextOrder 133 = .ok (.iload 5, 2) := by decide +kernel
theorem dX7_nextOrder_135 : decode cX7_nextOrder 135 = .ok (.iaload, 1) := by decide +kernel
theorem dX7_nextOrder_136 : decode cX7_nextOrder 136 = .ok (.iastore, 1) := by decide +kernel
theorem dX7_nextOrder_137 : decode cX7_nextOrder 137 = .ok (.aload_n 0, 1) := by decide +kernel
theorem dX7_nextOrder_138 : decode cX7_nextOrder 138 = .ok (.getfield 79, 3) := by decide +kernel
theorem dX7_nextOrder_141 : decode cX7_nextOrder 141 = .ok (.iload 5, 2) := by decide +kernel
theorem dX7_nextOrder_143 : decode cX7_nextOrder 143 = .ok (.iload 6, 2) := by decide +kernel
theorem dX7_nextOrder_145 : decode cX7_nextOrder 145 = .ok (.iastore, 1) := by decide +kernel
theorem dX7_nextOrder_146 : decode cX7_nextOrder 146 = .ok (.iinc 4 1, 3) := by decide +kernel
theorem dX7_nextOrder_149 : decode cX7_nextOrder 149 = .ok (.iinc 5 (-1), 3) := by decide +kernel
theorem dX7_nextOrder_152 : decode cX7_nextOrder 152 = .ok (.goto (-45), 3) := by decide +kernel
theorem dX7_nextOrder_155 : decode cX7_nextOrder 155 = .ok (.iconst 1, 1) := by decide +kernel
theorem dX7_nextOrder_156 : decode cX7_nextOrder 156 = .ok (.ireturn, 1) := by decide +kernel
set_option maxRecDepth 20000 in
theorem ggX7_reckon_X7_writes : GoodIn wsX7_reckon wsX7_writes := goodIn_r _ [10, 11, 12, 13, 9, 14, 15, 16, 17, 18, 19, 20, 21, 22, 23, 24, 25, 26, 27, 28, 29, 30, 31, 32, 33, 34, 35, 36, 37, 38, 39, 40, 41, 42, 43, 44, 45, 46, 47, 48, 49] (by decide +kernel) (by decide +kernel)
set_option maxRecDepth 20000 in
theorem gX7_reckon_X7_writes : GoodIn wsX7_reckon (wsV RX7 157 RX7 yX7_writes wsX7_writes) := goodIn_app (goodIn_of _ (by decide +kernel)) ggX7_reckon_X7_writes
theorem dX7_reckon_0 : decode cX7_reckon 0 = .ok (.lconst 0, 1) := by decide +kernel
theorem dX7_reckon_1 : decode cX7_reckon 1 = .ok (.lstore_n 1, 1) := by decide +kernel
theorem dX7_reckon_2 : decode cX7_reckon 2 = .ok (.iconst 0, 1) := by decide +kernel
theorem dX7_reckon_3 : decode cX7_reckon 3 = .ok (.istore_n 3, 1) := by decide +kernel
theorem dX7_reckon_4 : decode cX7_reckon 4 = .ok (.iload_n 3, 1) := by decide +kernel
theorem dX7_reckon_5 : decode cX7_reckon 5 = .ok (.bipush 16, 2) := by decide +kernel
theorem dX7_reckon_7 : decode cX7_reckon 7 = .ok (.if_icmp .ge 23, 3) := by decide +kernel
theorem dX7_reckon_10 : decode cX7_reckon 10 = .ok (.lload_n 1, 1) := by decide +kernel
theorem dX7_reckon_11 : decode cX7_reckon 11 = .ok (.aload_n 0, 1) := by decide +kernel
theorem dX7_reckon_12 : decode cX7_reckon 12 = .ok (.getfield 27, 3) := by decide +kernel
theorem dX7_reckon_15 : decode cX7_reckon 15 = .ok (.iload_n 3, 1) := by decide +kernel
theorem dX7_reckon_16 : decode cX7_reckon 16 = .ok (.iaload, 1) := by decide +kernel
theorem dX7_reckon_17 : decode cX7_reckon 17 = .ok (.i2l, 1) := by decide +kernel
theorem dX7_reckon_18 : decode cX7_reckon 18 = .ok (.iconst 2, 1) := by decide +kernel
theorem dX7_reckon_19 : decode cX7_reckon 19 = .ok (.iload_n 3, 1) := by decide +kernel
theorem dX7_reckon_20 : decode cX7_reckon 20 = .ok (.imul, 1) := by decide +kernel
theorem dX7_reckon_21 : decode cX7_reckon 21 = .ok (.lshl, 1) := by decide +kernel
theorem dX7_reckon_22 : decode cX7_reckon 22 = .ok (.lor, 1) := by decide +kernel
theorem dX7_reckon_23 : decode cX7_reckon 23 = .ok (.lstore_n 1, 1) := by decide +kernel
theorem dX7_reckon_24 : decode cX7_reckon 24 = .ok (.iinc 3 1, 3) := by decide +kernel
theorem dX7_reckon_27 : decode cX7_reckon 27 = .ok (.goto (-23), 3) := by decide +kernel
theorem dX7_reckon_30 : decode cX7_reckon 30 = .ok (.iconst 0, 1) := by decide +kernel
theorem dX7_reckon_31 : decode cX7_reckon 31 = .ok (.istore_n 3, 1) := by decide +kernel
theorem dX7_reckon_32 : decode cX7_reckon 32 = .ok (.iload_n 3, 1) := by decide +kernel
theorem dX7_reckon_33 : decode cX7_reckon 33 = .ok (.iconst 3, 1) := by decide +kernel
theorem dX7_reckon_34 : decode cX7_reckon 34 = .ok (.if_icmp .ge 108, 3) := by decide +kernel
theorem dX7_reckon_37 : decode cX7_reckon 37 = .ok (.iconst (-1), 1) := by decide +kernel
theorem dX7_reckon_38 : decode cX7_reckon 38 = .ok (.istore 4, 2) := by decide +kernel
theorem dX7_reckon_40 : decode cX7_reckon 40 = .ok (.iconst 0, 1) := by decide +kernel
theorem dX7_reckon_41 : decode cX7_reckon 41 = .ok (.istore 5, 2) := by decide +kernel
theorem dX7_reckon_43 : decode cX7_reckon 43 = .ok (.iload 5, 2) := by decide +kernel
theorem dX7_reckon_45 : decode cX7_reckon 45 = .ok (.aload_n 0, 1) := by decide +kernel
theorem dX7_reckon_46 : decode cX7_reckon 46 = .ok (.getfield 128, 3) := by decide +kernel
theorem dX7_reckon_49 : decode cX7_reckon 49 = .ok (.if_icmp .ge 60, 3) := by decide +kernel
theorem dX7_reckon_52 : decode cX7_reckon 52 = .ok (.aload_n 0, 1) := by decide +kernel
theorem dX7_reckon_53 : decode cX7_reckon 53 = .ok (.iload 5, 2) := by decide +kernel
theorem dX7_reckon_55 : decode cX7_reckon 55 = .ok (.invokevirtual 157, 3) := by decide +kernel
theorem dX7_reckon_58 : decode cX7_reckon 58 = .ok (.ifCond .eq 41, 3) := by decide +kernel
theorem dX7_reckon_61 : decode cX7_reckon 61 = .ok (.aload_n 0, 1) := by decide +kernel
theorem dX7_reckon_62 : decode cX7_reckon 62 = .ok (.getfield 39, 3) := by decide +kernel
theorem dX7_reckon_65 : decode cX7_reckon 65 = .ok (.iload 5, 2) := by decide +kernel
theorem dX7_reckon_67 : decode cX7_reckon 67 = .ok (.iaload, 1) := by decide +kernel
theorem dX7_reckon_68 : decode cX7_reckon 68 = .ok (.iload_n 3, 1) := by decide +kernel
theorem dX7_reckon_69 : decode cX7_reckon 69 = .ok (.if_icmp .ne 30, 3) := by decide +kernel
theorem dX7_reckon_72 : decode cX7_reckon 72 = .ok (.iload 4, 2) := by decide +kernel
theorem dX7_reckon_74 : decode cX7_reckon 74 = .ok (.ifCond .lt 20, 3) := by decide +kernel
theorem dX7_reckon_77 : decode cX7_reckon 77 = .ok (.aload_n 0, 1) := by decide +kernel
theorem dX7_reckon_78 : decode cX7_reckon 78 = .ok (.getfield 82, 3) := by decide +kernel
theorem dX7_reckon_81 : decode cX7_reckon 81 = .ok (.iload 5, 2) := by decide +kernel
theorem dX7_reckon_83 : decode cX7_reckon 83 = .ok (.iaload, 1) := by decide +kernel
theorem dX7_reckon_84 : decode cX7_reckon 84 = .ok (.aload_n 0, 1) := by decide +kernel
theorem dX7_reckon_85 : decode cX7_reckon 85 = .ok (.getfield 82, 3) := by decide +kernel
theorem dX7_reckon_88 : decode cX7_reckon 88 = .ok (.iload 4, 2) := by decide +kernel
theorem dX7_reckon_90 : decode cX7_reckon 90 = .ok (.iaload, 1) := by decide +kernel
theorem dX7_reckon_91 : decode cX7_reckon 91 = .ok (.if_icmp .le 8, 3) := by decide +kernel
theorem dX7_reckon_94 : decode cX7_reckon 94 = .ok (.iload 5, 2) := by decide +kernel
theorem dX7_reckon_96 : decode cX7_reckon 96 = .ok (.goto 5, 3) := by decide +kernel
theorem dX7_reckon_99 : decode cX7_reckon 99 = .ok (.iload 4, 2) := by decide +kernel
theorem dX7_reckon_101 : decode cX7_reckon 101 = .ok (.istore 4, 2) := by decide +kernel
theorem dX7_reckon_103 : decode cX7_reckon 103 = .ok (.iinc 5 1, 3) := by decide +kernel
theorem dX7_reckon_106 : decode cX7_reckon 106 = .ok (.goto (-63), 3) := by decide +kernel
theorem dX7_reckon_109 : decode cX7_reckon 109 = .ok (.lload_n 1, 1) := by decide +kernel
theorem dX7_reckon_110 : decode cX7_reckon 110 = .ok (.iload 4, 2) := by decide +kernel
theorem dX7_reckon_112 : decode cX7_reckon 112 = .ok (.ifCond .ge 7, 3) := by decide +kernel
theorem dX7_reckon_115 : decode cX7_reckon 115 = .ok (.iconst 0, 1) := by decide +kernel
theorem dX7_reckon_116 : decode cX7_reckon 116 = .ok (.goto 10, 3) := by decide +kernel
theorem dX7_reckon_119 : decode cX7_reckon 119 = .ok (.aload_n 0, 1) := by decide +kernel
theorem dX7_reckon_120 : decode cX7_reckon 120 = .ok (.getfield 45, 3) := by decide +kernel
theorem dX7_reckon_123 : decode cX7_reckon 123 = .ok (.iload 4, 2) := by decide +kernel
theorem dX7_reckon_125 : decode cX7_reckon 125 = .ok (.iaload, 1) := by decide +kernel
theorem dX7_reckon_126 : decode cX7_reckon 126 = .ok (.i2l, 1) := by decide +kernel
theorem dX7_reckon_127 : decode cX7_reckon 127 = .ok (.bipush 32, 2) := by decide +kernel
theorem dX7_reckon_129 : decode cX7_reckon 129 = .ok (.iconst 2, 1) := by decide +kernel
theorem dX7_reckon_130 : decode cX7_reckon 130 = .ok (.iload_n 3, 1) := by decide +kernel
theorem dX7_reckon_131 : decode cX7_reckon 131 = .ok (.imul, 1) := by decide +kernel
theorem dX7_reckon_132 : decode cX7_reckon 132 = .ok (.iadd, 1) := by decide +kernel
theorem dX7_reckon_133 : decode cX7_reckon 133 = .ok (.lshl, 1) := by decide +kernel
theorem dX7_reckon_134 : decode cX7_reckon 134 = .ok (.lor, 1) := by decide +kernel
theorem dX7_reckon_135 : decode cX7_reckon 135 = .ok (.lstore_n 1, 1) := by decide +kernel
theorem dX7_reckon_136 : decode cX7_reckon 136 = .ok (.iinc 3 1, 3) := by decide +kernel
theorem dX7_reckon_139 : decode cX7_reckon 139 = .ok (.goto (-107), 3) := by decide +kernel
theorem dX7_reckon_142 : decode cX7_reckon 142 = .ok (.lload_n 1, 1) := by decide +kernel
theorem dX7_reckon_143 : decode cX7_reckon 143 = .ok (.lreturn, 1) := by decide +kernel
theorem dX7_placeOf_0 : decode cX7_placeOf 0 = .ok (.iconst 0, 1) := by decide +kernel
theorem dX7_placeOf_1 : decode cX7_placeOf 1 = .ok (.istore_n 3, 1) := by decide +kernel
theorem dX7_placeOf_2 : decode cX7_placeOf 2 = .ok (.aload_n 0, 1) := by decide +kernel
theorem dX7_placeOf_3 : decode cX7_placeOf 3 = .ok (.getfield 181, 3) := by decide +kernel
theorem dX7_placeOf_6 : decode cX7_placeOf 6 = .ok (.istore 4, 2) := by decide +kernel
theorem dX7_placeOf_8 : decode cX7_placeOf 8 = .ok (.iload_n 3, 1) := by decide +kernel
theorem dX7_placeOf_9 : decode cX7_placeOf 9 = .ok (.iload 4, 2) := by decide +kernel
theorem dX7_placeOf_11 : decode cX7_placeOf 11 = .ok (.if_icmp .ge 38, 3) := by decide +kernel
theorem dX7_placeOf_14 : decode cX7_placeOf 14 = .ok (.iload_n 3, 1) := by decide +kernel
theorem dX7_placeOf_15 : decode cX7_placeOf 15 = .ok (.iload 4, 2) := by decide +kernel
theorem dX7_placeOf_17 : decode cX7_placeOf 17 = .ok (.iadd, 1) := by decide +kernel
theorem dX7_placeOf_18 : decode cX7_placeOf 18 = .ok (.iconst 2, 1) := by decide +kernel
theorem dX7_placeOf_19 : decode cX7_placeOf 19 = .ok (.idiv, 1) := by decide +kernel
theorem dX7_placeOf_20 : decode cX7_placeOf 20 = .ok (.istore 5, 2) := by decide +kernel
theorem dX7_placeOf_22 : decode cX7_placeOf 22 = .ok (.aload_n 0, 1) := by decide +kernel
theorem dX7_placeOf_23 : decode cX7_placeOf 23 = .ok (.getfield 17, 3) := by decide +kernel
theorem dX7_placeOf_26 : decode cX7_placeOf 26 = .ok (.iload 5, 2) := by decide +kernel
theorem dX7_placeOf_28 : decode cX7_placeOf 28 = .ok (.laload, 1) := by decide +kernel
theorem dX7_placeOf_29 : decode cX7_placeOf 29 = .ok (.lload_n 1, 1) := by decide +kernel
theorem dX7_placeOf_30 : decode cX7_placeOf 30 = .ok (.lcmp, 1) := by decide +kernel
theorem dX7_placeOf_31 : decode cX7_placeOf 31 = .ok (.ifCond .ge 11, 3) := by decide +kernel
theorem dX7_placeOf_34 : decode cX7_placeOf 34 = .ok (.iload 5, 2) := by decide +kernel
theorem dX7_placeOf_36 : decode cX7_placeOf 36 = .ok (.iconst 1, 1) := by decide +kernel
theorem dX7_placeOf_37 : decode cX7_placeOf 37 = .ok (.iadd, 1) := by decide +kernel
theorem dX7_placeOf_38 : decode cX7_placeOf 38 = .ok (.istore_n 3, 1) := by decide +kernel
theorem dX7_placeOf_39 : decode cX7_placeOf 39 = .ok (.goto 7, 3) := by decide +kernel
theorem dX7_placeOf_42 : decode cX7_placeOf 42 = .ok (.iload 5, 2) := by decide +kernel
theorem dX7_placeOf_44 : decode cX7_placeOf 44 = .ok (.istore 4, 2) := by decide +kernel
theorem dX7_placeOf_46 : decode cX7_placeOf 46 = .ok (.goto (-38), 3) := by decide +kernel
theorem dX7_placeOf_49 : decode cX7_placeOf 49 = .ok (.iload_n 3, 1) := by decide +kernel
theorem dX7_placeOf_50 : decode cX7_placeOf 50 = .ok (.ireturn, 1) := by decide +kernel
set_option maxRecDepth 20000 in
theorem ggX7_keep_X7_placeOf : GoodIn wsX7_keep wsX7_placeOf := goodIn_r _ [7, 1, 2, 8, 9, 10, 11, 12, 13, 14, 15, 16, 17, 18, 19, 20, 21, 22, 23, 24, 25, 26, 27, 28, 29, 30, 31, 32, 33, 34, 35, 36, 37, 38, 39, 40, 41, 42] (by decide +kernel) (by decide +kernel)
set_option maxRecDepth 20000 in
theorem gX7_keep_X7_placeOf : GoodIn wsX7_keep (wsV RX7 184 RX7 yX7_placeOf wsX7_placeOf) := goodIn_app (goodIn_of _ (by decide +kernel)) ggX7_keep_X7_placeOf
theorem dX7_keep_0 : decode cX7_keep 0 = .ok (.aload_n 0, 1) := by decide +kernel
theorem dX7_keep_1 : decode cX7_keep 1 = .ok (.lload_n 1, 1) := by decide +kernel
theorem dX7_keep_2 : decode cX7_keep 2 = .ok (.invokevirtual 184, 3) := by decide +kernel
theorem dX7_keep_5 : decode cX7_keep 5 = .ok (.istore_n 3, 1) := by decide +kernel
theorem dX7_keep_6 : decode cX7_keep 6 = .ok (.iload_n 3, 1) := by decide +kernel
theorem dX7_keep_7 : decode cX7_keep 7 = .ok (.aload_n 0, 1) := by decide +kernel
theorem dX7_keep_8 : decode cX7_keep 8 = .ok (.getfield 181, 3) := by decide +kernel
theorem dX7_keep_11 : decode cX7_keep 11 = .ok (.if_icmp .ge 15, 3) := by decide +kernel
theorem dX7_keep_14 : decode cX7_keep 14 = .ok (.aload_n 0, 1) := by decide +kernel
theorem dX7_keep_15 : decode cX7_keep 15 = .ok (.getfield 17, 3) := by decide +kernel
theorem dX7_keep_18 : decode cX7_keep 18 = .ok (.iload_n 3, 1) := by decide +kernel
theorem dX7_keep_19 : decode cX7_keep 19 = .ok (.laload, 1) := by decide +kernel
theorem dX7_keep_20 : decode cX7_keep 20 = .ok (.lload_n 1, 1) := by decide +kernel
theorem dX7_keep_21 : decode cX7_keep 21 = .ok (.lcmp, 1) := by decide +kernel
theorem dX7_keep_22 : decode cX7_keep 22 = .ok (.ifCond .ne 4, 3) := by decide +kernel
theorem dX7_keep_25 : decode cX7_keep 25 = .ok (.return_, 1) := by decide +kernel
theorem dX7_keep_26 : decode cX7_keep 26 = .ok (.aload_n 0, 1) := by decide +kernel
theorem dX7_keep_27 : decode cX7_keep 27 = .ok (.getfield 181, 3) := by decide +kernel
theorem dX7_keep_30 : decode cX7_keep 30 = .ok (.istore 4, 2) := by decide +kernel
theorem dX7_keep_32 : decode cX7_keep 32 = .ok (.iload 4, 2) := by decide +kernel
theorem dX7_keep_34 : decode cX7_keep 34 = .ok (.iload_n 3, 1) := by decide +kernel
theorem dX7_keep_35 : decode cX7_keep 35 = .ok (.if_icmp .le 25, 3) := by decide +kernel
theorem dX7_keep_38 : decode cX7_keep 38 = .ok (.aload_n 0, 1) := by decide +kernel
theorem dX7_keep_39 : decode cX7_keep 39 = .ok (.getfield 17, 3) := by decide +kernel
theorem dX7_keep_42 : decode cX7_keep 42 = .ok (.iload 4, 2) := by decide +kernel
theorem dX7_keep_44 : decode cX7_keep 44 = .ok (.aload_n 0, 1) := by decide +kernel
theorem dX7_keep_45 : decode cX7_keep 45 = .ok (.getfield 17, 3) := by decide +kernel
theorem dX7_keep_48 : decode cX7_keep 48 = .ok (.iload 4, 2) := by decide +kernel
theorem dX7_keep_50 : decode cX7_keep 50 = .ok (.iconst 1, 1) := by decide +kernel
theorem dX7_keep_51 : decode cX7_keep 51 = .ok (.isub, 1) := by decide +kernel
theorem dX7_keep_52 : decode cX7_keep 52 = .ok (.laload, 1) := by decide +kernel
theorem dX7_keep_53 : decode cX7_keep 53 = .ok (.lastore, 1) := by decide +kernel
theorem dX7_keep_54 : decode cX7_keep 54 = .ok (.iinc 4 (-1), 3) := by decide +kernel
theorem dX7_keep_57 : decode cX7_keep 57 = .ok (.goto (-25), 3) := by decide +kernel
theorem dX7_keep_60 : decode cX7_keep 60 = .ok (.aload_n 0, 1) := by decide +kernel
theorem dX7_keep_61 : decode cX7_keep 61 = .ok (.getfield 17, 3) := by decide +kernel
theorem dX7_keep_64 : decode cX7_keep 64 = .ok (.iload_n 3, 1) := by decide +kernel
theorem dX7_keep_65 : decode cX7_keep 65 = .ok (.lload_n 1, 1) := by decide +kernel
theorem dX7_keep_66 : decode cX7_keep 66 = .ok (.lastore, 1) := by decide +kernel
theorem dX7_keep_67 : decode cX7_keep 67 = .ok (.aload_n 0, 1) := by decide +kernel
theorem dX7_keep_68 : decode cX7_keep 68 = .ok (.dup, 1) := by decide +kernel
theorem dX7_keep_69 : decode cX7_keep 69 = .ok (.getfield 181, 3) := by decide +kernel
theorem dX7_keep_72 : decode cX7_keep 72 = .ok (.iconst 1, 1) := by decide +kernel
theorem dX7_keep_73 : decode cX7_keep 73 = .ok (.iadd, 1) := by decide +kernel
theorem dX7_keep_74 : decode cX7_keep 74 = .ok (.putfield 181, 3) := by decide +kernel
theorem dX7_keep_77 : decode cX7_keep 77 = .ok (.return_, 1) := by decide +kernel
set_option maxRecDepth 20000 in
theorem ggX7_goThrough_X7_findMust : GoodIn wsX7_goThrough wsX7_findMust := goodIn_r _ [8, 1, 9, 10, 11, 12, 13, 7, 14, 15, 16, 17, 18, 19, 20, 21, 22, 23, 24, 25, 26, 27, 28, 29, 30, 31, 32, 33, 34, 35, 36, 37, 38, 39, 40, 41, 42, 43, 44, 45, 46, 47, 48, 91, 92, 93, 94, 95, 96, 97, 98, 99, 100, 101, 102, 103, 104, 105, 106, 107, 108, 109, 110, 111, 112, 113, 114, 115, 116, 117, 118, 119, 120, 121, 122, 123, 124, 125] (by decide +kernel) (by decide +kernel)
set_option maxRecDepth 20000 in
theorem gX7_goThrough_X7_findMust : GoodIn wsX7_goThrough (wsV RX7 188 RX7 yX7_findMust wsX7_findMust) := goodIn_app (goodIn_of _ (by decide +kernel)) ggX7_goThrough_X7_findMust
set_option maxRecDepth 20000 in
theorem ggX7_goThrough_X7_isOrder : GoodIn wsX7_goThrough wsX7_isOrder := goodIn_r _ [52, 1, 9, 3, 53, 54, 55, 10, 18, 23, 24, 25, 7, 26, 27, 28, 29, 56, 57, 58, 59, 16, 30, 31, 32, 33, 34, 35, 36, 60, 61, 62, 63, 20, 21, 64, 65, 66, 67, 46, 47, 48, 68, 69, 70, 71, 19, 91, 92, 93, 94, 95, 96, 97, 98, 99, 100, 101, 102, 103, 104, 105, 106, 107, 108, 109, 110, 111, 112, 113, 114, 115, 116, 117, 118, 119, 120, 121, 122, 123, 124, 125] (by decide +kernel) (by decide +kernel)
set_option maxRecDepth 20000 in
theorem gX7_goThrough_X7_isOrder : GoodIn wsX7_goThrough (wsV RX7 191 RX7 yX7_isOrder wsX7_isOrder) := goodIn_app (goodIn_of _ (by decide +kernel)) ggX7_goThrough_X7_isOrder
set_option maxRecDepth 20000 in
theorem ggX7_goThrough_X7_reckon : GoodIn wsX7_goThrough wsX7_reckon := goodIn_r _ [75, 76, 1, 16, 3, 54, 30, 31, 32, 7, 33, 18, 34, 35, 36, 91, 92, 93, 94, 95, 96, 97, 98, 99, 100, 101, 102, 103, 104, 105, 106, 107, 108, 109, 110, 111, 112, 113, 114, 115, 116, 117, 118, 119, 120, 121, 122, 123, 124, 125] (by decide +kernel) (by decide +kernel)
set_option maxRecDepth 20000 in
theorem gX7_goThrough_X7_reckon : GoodIn wsX7_goThrough (wsV RX7 195 RX7 yX7_reckon wsX7_reckon) := goodIn_app (goodIn_of _ (by decide +kernel)) ggX7_goThrough_X7_reckon
set_option maxRecDepth 20000 in
theorem ggX7_goThrough_X7_keep : GoodIn wsX7_goThrough wsX7_keep := goodIn_r _ [80, 81, 82, 83, 84, 85, 7, 86, 91, 92, 93, 94, 95, 96, 97, 98, 99, 100, 101, 102, 103, 104, 105, 106, 107, 108, 109, 110, 111, 112, 113, 114, 115, 116, 117, 118, 119, 120, 121, 122, 123, 124, 125] (by decide +kernel) (by decide +kernel)
set_option maxRecDepth 20000 in
theorem gX7_goThrough_X7_keep : GoodIn wsX7_goThrough (wsV RX7 199 RX7 yX7_keep wsX7_keep) := goodIn_app (goodIn_of _ (by decide +kernel)) ggX7_goThrough_X7_keep
set_option maxRecDepth 20000 in
theorem ggX7_goThrough_X7_nextOrder : GoodIn wsX7_goThrough wsX7_nextOrder := goodIn_r _ [90, 1, 2, 91, 92, 93, 94, 95, 96, 97, 98, 99, 100, 101, 102, 103, 104, 105, 106, 107, 108, 109, 110, 111, 112, 113, 114, 115, 116, 117, 118, 119, 120, 121, 122, 123, 124, 125] (by decide +kernel) (by decide +kernel)
set_option maxRecDepth 20000 in
theorem gX7_goThrough_X7_nextOrder : GoodIn wsX7_goThrough (wsV RX7 203 RX7 yX7_nextOrder wsX7_nextOrder) := goodIn_app (goodIn_of _ (by decide +kernel)) ggX7_goThrough_X7_nextOrder
theorem dX7_goThrough_0 : decode cX7_goThrough 0 = .ok (.aload_n 0, 1) := by decide +kernel
theorem dX7_goThrough_1 : decode cX7_goThrough 1 = .ok (.invokevirtual 188, 3) := by decide +kernel
theorem dX7_goThrough_4 : decode cX7_goThrough 4 = .ok (.iconst 0, 1) := by decide +kernel
theorem dX7_goThrough_5 : decode cX7_goThrough 5 = .ok (.istore_n 1, 1) := by decide +kernel
theorem dX7_goThrough_6 : decode cX7_goThrough 6 = .ok (.iload_n 1, 1) := by decide +kernel
theorem dX7_goThrough_7 : decode cX7_goThrough 7 = .ok (.aload_n 0, 1) := by decide +kernel
theorem dX7_goThrough_8 : decode cX7_goThrough 8 = .ok (.getfield 128, 3) := by decide +kernel
theorem dX7_goThrough_11 : decode cX7_goThrough 11 = .ok (.if_icmp .ge 16, 3) := by decide +kernel
theorem dX7_goThrough_14 : decode cX7_goThrough 14 = .ok (.aload_n 0, 1) := by decide +kernel
theorem dX7_goThrough_15 : decode cX7_goThrough 15 = .ok (.getfield 79, 3) := by decide +kernel
theorem dX7_goThrough_18 : decode cX7_goThrough 18 = .ok (.iload_n 1, 1) := by decide +kernel
theorem dX7_goThrough_19 : decode cX7_goThrough 19 = .ok (.iload_n 1, 1) := by decide +kernel
theorem dX7_goThrough_20 : decode cX7_goThrough 20 = .ok (.iastore, 1) := by decide +kernel
theorem dX7_goThrough_21 : decode cX7_goThrough 21 = .ok (.iinc 1 1, 3) := by decide +kernel
theorem dX7_goThrough_24 : decode cX7_goThrough 24 = .ok (.goto (-18), 3) := by decide +kernel
theorem dX7_goThrough_27 : decode cX7_goThrough 27 = .ok (.iconst 0, 1) := by decide +kernel
theorem dX7_goThrough_28 : decode cX7_goThrough 28 = .ok (.istore_n 1, 1) := by decide +kernel
theorem dX7_goThrough_29 : decode cX7_goThrough 29 = .ok (.iconst 1, 1) := by decide +kernel
theorem dX7_goThrough_30 : decode cX7_goThrough 30 = .ok (.istore_n 2, 1) := by decide +kernel
theorem dX7_goThrough_31 : decode cX7_goThrough 31 = .ok (.iload_n 2, 1) := by decide +kernel
theorem dX7_goThrough_32 : decode cX7_goThrough 32 = .ok (.ifCond .eq 56, 3) := by decide +kernel
theorem dX7_goThrough_35 : decode cX7_goThrough 35 = .ok (.iconst 0, 1) := by decide +kernel
theorem dX7_goThrough_36 : decode cX7_goThrough 36 = .ok (.istore_n 3, 1) := by decide +kernel
theorem dX7_goThrough_37 : decode cX7_goThrough 37 = .ok (.iload_n 3, 1) := by decide +kernel
theorem dX7_goThrough_38 : decode cX7_goThrough 38 = .ok (.aload_n 0, 1) := by decide +kernel
theorem dX7_goThrough_39 : decode cX7_goThrough 39 = .ok (.getfield 128, 3) := by decide +kernel
theorem dX7_goThrough_42 : decode cX7_goThrough 42 = .ok (.if_icmp .ge 21, 3) := by decide +kernel
theorem dX7_goThrough_45 : decode cX7_goThrough 45 = .ok (.aload_n 0, 1) := by decide +kernel
theorem dX7_goThrough_46 : decode cX7_goThrough 46 = .ok (.getfield 82, 3) := by decide +kernel
theorem dX7_goThrough_49 : decode cX7_goThrough 49 = .ok (.aload_n 0, 1) := by decide +kernel
theorem dX7_goThrough_50 : decode cX7_goThrough 50 = .ok (.getfield 79, 3) := by decide +kernel
theorem dX7_goThrough_53 : decode cX7_goThrough 53 = .ok (.iload_n 3, 1) := by decide +kernel
theorem dX7_goThrough_54 : decode cX7_goThrough 54 = .ok (.iaload, 1) := by decide +kernel
theorem dX7_goThrough_55 : decode cX7_goThrough 55 = .ok (.iload_n 3, 1) := by decide +kernel
theorem dX7_goThrough_56 : decode cX7_goThrough 56 = .ok (.iastore, 1) := by decide +kernel
theorem dX7_goThrough_57 : decode cX7_goThrough 57 = .ok (.iinc 3 1, 3) := by decide +kernel
theorem dX7_goThrough_60 : decode cX7_goThrough 60 = .ok (.goto (-23), 3) := by decide +kernel
theorem dX7_goThrough_63 : decode cX7_goThrough 63 = .ok (.aload_n 0, 1) := by decide +kernel
theorem dX7_goThrough_64 : decode cX7_goThrough 64 = .ok (.invokevirtual 191, 3) := by decide +kernel
theorem dX7_goThrough_67 : decode cX7_goThrough 67 = .ok (.ifCond .eq 13, 3) := by decide +kernel
theorem dX7_goThrough_70 : decode cX7_goThrough 70 = .ok (.iconst 1, 1) := by decide +kernel
theorem dX7_goThrough_71 : decode cX7_goThrough 71 = .ok (.istore_n 1, 1) := by decide +kernel
theorem dX7_goThrough_72 : decode cX7_goThrough 72 = .ok (.aload_n 0, 1) := by decide +kernel
theorem dX7_goThrough_73 : decode cX7_goThrough 73 = .ok (.aload_n 0, 1) := by decide +kernel
theorem dX7_goThrough_74 : decode cX7_goThrough 74 = .ok (.invokevirtual 195, 3) := by decide +kernel
theorem dX7_goThrough_77 : decode cX7_goThrough 77 = .ok (.invokevirtual 199, 3) := by decide +kernel
theorem dX7_goThrough_80 : decode cX7_goThrough 80 = .ok (.aload_n 0, 1) := by decide +kernel
theorem dX7_goThrough_81 : decode cX7_goThrough 81 = .ok (.invokevirtual 203, 3) := by decide +kernel
theorem dX7_goThrough_84 : decode cX7_goThrough 84 = .ok (.istore_n 2, 1) := by decide +kernel
theorem dX7_goThrough_85 : decode cX7_goThrough 85 = .ok (.goto (-54), 3) := by decide +kernel
theorem dX7_goThrough_88 : decode cX7_goThrough 88 = .ok (.iload_n 1, 1) := by decide +kernel
theorem dX7_goThrough_89 : decode cX7_goThrough 89 = .ok (.ireturn, 1) := by decide +kernel
set_option maxRecDepth 20000 in
theorem ggX7_find_X7_doWay : GoodIn wsX7_find wsX7_doWay := goodIn_r _ [9, 10, 11, 12, 13, 14, 15, 16, 17, 8, 18, 19, 20, 21, 22, 23, 24, 25, 26, 27, 28, 29, 30, 31, 32, 33, 34, 35, 36, 37, 38, 39, 40, 41, 42, 43, 44, 4, 45, 46, 47, 48, 49, 50, 51, 52, 126, 127, 128, 129, 130, 131, 132, 133, 134, 135, 136, 137, 138, 139, 140, 141, 142, 143, 144, 145, 146, 147, 148, 149, 150, 151, 152, 153, 154, 155, 156, 157, 158, 159, 160] (by decide +kernel) (by decide +kernel)
set_option maxRecDepth 20000 in
theorem gX7_find_X7_doWay : GoodIn wsX7_find (wsV RX7 209 RX7 yX7_doWay wsX7_doWay) := goodIn_app (goodIn_of _ (by decide +kernel)) ggX7_find_X7_doWay
set_option maxRecDepth 20000 in
theorem ggX7_find_X7_goThrough : GoodIn wsX7_find wsX7_goThrough := goodIn_r _ [56, 11, 57, 58, 59, 60, 61, 8, 62, 63, 33, 64, 65, 66, 67, 68, 31, 35, 34, 32, 36, 38, 37, 69, 70, 71, 72, 50, 51, 52, 73, 74, 75, 76, 47, 48, 49, 77, 78, 79, 80, 12, 23, 24, 25, 26, 81, 82, 83, 84, 85, 86, 87, 88, 40, 39, 89, 90, 91, 92, 93, 94, 95, 96, 97, 98, 99, 100, 101, 102, 103, 104, 105, 106, 107, 108, 13, 109, 110, 111, 112, 2, 113, 114, 115, 116, 117, 118, 119, 120, 121, 126, 127, 128, 129, 130, 131, 132, 133, 134, 135, 136, 137, 138, 139, 140, 141, 142, 143, 144, 145, 146, 147, 148, 149, 150, 151, 152, 153, 154, 155, 156, 157, 158, 159, 160] (by decide +kernel) (by decide +kernel)
set_option maxRecDepth 20000 in
theorem gX7_find_X7_goThrough : GoodIn wsX7_find (wsV RX7 212 RX7 yX7_goThrough wsX7_goThrough) := goodIn_app (goodIn_of _ (by decide +kernel)) ggX7_find_X7_goThrough
set_option maxRecDepth 20000 in
theorem ggX7_find_X7_nextWay : GoodIn wsX7_find wsX7_nextWay := goodIn_r _ [125, 4, 45, 46, 126, 127, 128, 129, 130, 131, 132, 133, 134, 135, 136, 137, 138, 139, 140, 141, 142, 143, 144, 145, 146, 147, 148, 149, 150, 151, 152, 153, 154, 155, 156, 157, 158, 159, 160] (by decide +kernel) (by decide +kernel)
set_option maxRecDepth 20000 in
theorem gX7_find_X7_nextWay : GoodIn wsX7_find (wsV RX7 215 RX7 yX7_nextWay wsX7_nextWay) := goodIn_app (goodIn_of _ (by decide +kernel)) ggX7_find_X7_nextWay
theorem dX7_find_0 : decode cX7_find 0 = .ok (.aload_n 0, 1) := by decide +kernel
theorem dX7_find_1 : decode cX7_find 1 = .ok (.getfield 92, 3) := by decide +kernel
theorem dX7_find_4 : decode cX7_find 4 = .ok (.ifCond .eq 8, 3) := by decide +kernel
theorem dX7_find_7 : decode cX7_find 7 = .ok (.aload_n 0, 1) := by decide +kernel
theorem dX7_find_8 : decode cX7_find 8 = .ok (.getfield 181, 3) := by decide +kernel
theorem dX7_find_11 : decode cX7_find 11 = .ok (.ireturn, 1) := by decide +kernel
theorem dX7_find_12 : decode cX7_find 12 = .ok (.aload_n 0, 1) := by decide +kernel
theorem dX7_find_13 : decode cX7_find 13 = .ok (.iconst 0, 1) := by decide +kernel
theorem dX7_find_14 : decode cX7_find 14 = .ok (.putfield 181, 3) := by decide +kernel
theorem dX7_find_17 : decode cX7_find 17 = .ok (.aload_n 0, 1) := by decide +kernel
theorem dX7_find_18 : decode cX7_find 18 = .ok (.iconst 0, 1) := by decide +kernel
theorem dX7_find_19 : decode cX7_find 19 = .ok (.putfield 206, 3) := by decide +kernel
theorem dX7_find_22 : decode cX7_find 22 = .ok (.aload_n 0, 1) := by decide +kernel
theorem dX7_find_23 : decode cX7_find 23 = .ok (.iconst 0, 1) := by decide +kernel
theorem dX7_find_24 : decode cX7_find 24 = .ok (.putfield 125, 3) := by decide +kernel
theorem dX7_find_27 : decode cX7_find 27 = .ok (.iconst 1, 1) := by decide +kernel
theorem dX7_find_28 : decode cX7_find 28 = .ok (.istore_n 1, 1) := by decide +kernel
theorem dX7_find_29 : decode cX7_find 29 = .ok (.iload_n 1, 1) := by decide +kernel
theorem dX7_find_30 : decode cX7_find 30 = .ok (.ifCond .eq 32, 3) := by decide +kernel
theorem dX7_find_33 : decode cX7_find 33 = .ok (.aload_n 0, 1) := by decide +kernel
theorem dX7_find_34 : decode cX7_find 34 = .ok (.invokevirtual 209, 3) := by decide +kernel
theorem dX7_find_37 : decode cX7_find 37 = .ok (.aload_n 0, 1) := by decide +kernel
theorem dX7_find_38 : decode cX7_find 38 = .ok (.invokevirtual 212, 3) := by decide +kernel
theorem dX7_find_41 : decode cX7_find 41 = .ok (.ifCond .eq 13, 3) := by decide +kernel
theorem dX7_find_44 : decode cX7_find 44 = .ok (.aload_n 0, 1) := by decide +kernel
theorem dX7_find_45 : decode cX7_find 45 = .ok (.dup, 1) := by decide +kernel
theorem dX7_find_46 : decode cX7_find 46 = .ok (.getfield 206, 3) := by decide +kernel
theorem dX7_find_49 : decode cX7_find 49 = .ok (.iconst 1, 1) := by decide +kernel
theorem dX7_find_50 : decode cX7_find 50 = .ok (.iadd, 1) := by decide +kernel
theorem dX7_find_51 : decode cX7_find 51 = .ok (.putfield 206, 3) := by decide +kernel
theorem dX7_find_54 : decode cX7_find 54 = .ok (.aload_n 0, 1) := by decide +kernel
theorem dX7_find_55 : decode cX7_find 55 = .ok (.invokevirtual 215, 3) := by decide +kernel
theorem dX7_find_58 : decode cX7_find 58 = .ok (.istore_n 1, 1) := by decide +kernel
theorem dX7_find_59 : decode cX7_find 59 = .ok (.goto (-30), 3) := by decide +kernel
theorem dX7_find_62 : decode cX7_find 62 = .ok (.aload_n 0, 1) := by decide +kernel
theorem dX7_find_63 : decode cX7_find 63 = .ok (.iconst 1, 1) := by decide +kernel
theorem dX7_find_64 : decode cX7_find 64 = .ok (.putfield 92, 3) := by decide +kernel
theorem dX7_find_67 : decode cX7_find 67 = .ok (.aload_n 0, 1) := by decide +kernel
theorem dX7_find_68 : decode cX7_find 68 = .ok (.getfield 181, 3) := by decide +kernel
theorem dX7_find_71 : decode cX7_find 71 = .ok (.ireturn, 1) := by decide +kernel
set_option maxRecDepth 20000 in
theorem ggX7_outcome_X7_in : GoodIn wsX7_outcome wsX7_in := goodIn_r _ [8] (by decide +kernel) (by decide +kernel)
set_option maxRecDepth 20000 in
theorem gX7_outcome_X7_in : GoodIn wsX7_outcome (va_wsS RX7 96 yX7_in wsX7_in) := goodIn_app (goodIn_of _ (by decide +kernel)) ggX7_outcome_X7_in
theorem dX7_outcome_0 : decode cX7_outcome 0 = .ok (.aload_n 0, 1) := by decide +kernel
theorem dX7_outcome_1 : decode cX7_outcome 1 = .ok (.getfield 92, 3) := by decide +kernel
theorem dX7_outcome_4 : decode cX7_outcome 4 = .ok (.ifCond .eq 26, 3) := by decide +kernel
theorem dX7_outcome_7 : decode cX7_outcome 7 = .ok (.iload_n 1, 1) := by decide +kernel
theorem dX7_outcome_8 : decode cX7_outcome 8 = .ok (.iconst 0, 1) := by decide +kernel
theorem dX7_outcome_9 : decode cX7_outcome 9 = .ok (.aload_n 0, 1) := by decide +kernel
theorem dX7_outcome_10 : decode cX7_outcome 10 = .ok (.getfield 181, 3) := by decide +kernel
theorem dX7_outcome_13 : decode cX7_outcome 13 = .ok (.iconst 1, 1) := by decide +kernel
theorem dX7_outcome_14 : decode cX7_outcome 14 = .ok (.isub, 1) := by decide +kernel
theorem dX7_outcome_15 : decode cX7_outcome 15 = .ok (.invokestatic 96, 3) := by decide +kernel
theorem dX7_outcome_18 : decode cX7_outcome 18 = .ok (.ifCond .eq 12, 3) := by decide +kernel
theorem dX7_outcome_21 : decode cX7_outcome 21 = .ok (.aload_n 0, 1) := by decide +kernel
theorem dX7_outcome_22 : decode cX7_outcome 22 = .ok (.getfield 17, 3) := by decide +kernel
theorem dX7_outcome_25 : decode cX7_outcome 25 = .ok (.iload_n 1, 1) := by decide +kernel
theorem dX7_outcome_26 : decode cX7_outcome 26 = .ok (.laload, 1) := by decide +kernel
theorem dX7_outcome_27 : decode cX7_outcome 27 = .ok (.goto 6, 3) := by decide +kernel
theorem dX7_outcome_30 : decode cX7_outcome 30 = .ok (.ldc2_w 218, 3) := by decide +kernel
theorem dX7_outcome_33 : decode cX7_outcome 33 = .ok (.lreturn, 1) := by decide +kernel
set_option maxRecDepth 20000 in
theorem ggX7_isAsking_X7_in : GoodIn wsX7_isAsking wsX7_in := goodIn_r _ [4] (by decide +kernel) (by decide +kernel)
set_option maxRecDepth 20000 in
theorem gX7_isAsking_X7_in : GoodIn wsX7_isAsking (va_wsS RX7 96 yX7_in wsX7_in) := goodIn_app (goodIn_of _ (by decide +kernel)) ggX7_isAsking_X7_in
theorem dX7_isAsking_0 : decode cX7_isAsking 0 = .ok (.iload_n 0, 1) := by decide +kernel
theorem dX7_isAsking_1 : decode cX7_isAsking 1 = .ok (.iconst 0, 1) := by decide +kernel
theorem dX7_isAsking_2 : decode cX7_isAsking 2 = .ok (.bipush 18, 2) := by decide +kernel
theorem dX7_isAsking_4 : decode cX7_isAsking 4 = .ok (.invokestatic 96, 3) := by decide +kernel
theorem dX7_isAsking_7 : decode cX7_isAsking 7 = .ok (.ifCond .eq 16, 3) := by decide +kernel
theorem dX7_isAsking_10 : decode cX7_isAsking 10 = .ok (.iload_n 1, 1) := by decide +kernel
theorem dX7_isAsking_11 : decode cX7_isAsking 11 = .ok (.iconst 0, 1) := by decide +kernel
theorem dX7_isAsking_12 : decode cX7_isAsking 12 = .ok (.iconst 3, 1) := by decide +kernel
theorem dX7_isAsking_13 : decode cX7_isAsking 13 = .ok (.invokestatic 96, 3) := by decide +kernel
theorem dX7_isAsking_16 : decode cX7_isAsking 16 = .ok (.ifCond .eq 7, 3) := by decide +kernel
theorem dX7_isAsking_19 : decode cX7_isAsking 19 = .ok (.iconst 1, 1) := by decide +kernel
theorem dX7_isAsking_20 : decode cX7_isAsking 20 = .ok (.goto 4, 3) := by decide +kernel
theorem dX7_isAsking_23 : decode cX7_isAsking 23 = .ok (.iconst 0, 1) := by decide +kernel
theorem dX7_isAsking_24 : decode cX7_isAsking 24 = .ok (.ireturn, 1) := by decide +kernel
theorem dX7_has_0 : decode cX7_has 0 = .ok (.lload_n 0, 1) := by decide +kernel
theorem dX7_has_1 : decode cX7_has 1 = .ok (.iconst 2, 1) := by decide +kernel
theorem dX7_has_2 : decode cX7_has 2 = .ok (.iload_n 2, 1) := by decide +kernel
theorem dX7_has_3 : decode cX7_has 3 = .ok (.imul, 1) := by decide +kernel
theorem dX7_has_4 : decode cX7_has 4 = .ok (.lshr, 1) := by decide +kernel
theorem dX7_has_5 : decode cX7_has 5 = .ok (.ldc2_w 220, 3) := by decide +kernel
theorem dX7_has_8 : decode cX7_has 8 = .ok (.land, 1) := by decide +kernel
theorem dX7_has_9 : decode cX7_has 9 = .ok (.iload_n 3, 1) := by decide +kernel
theorem dX7_has_10 : decode cX7_has 10 = .ok (.i2l, 1) := by decide +kernel
theorem dX7_has_11 : decode cX7_has 11 = .ok (.lcmp, 1) := by decide +kernel
theorem dX7_has_12 : decode cX7_has 12 = .ok (.ifCond .ne 7, 3) := by decide +kernel
theorem dX7_has_15 : decode cX7_has 15 = .ok (.iconst 1, 1) := by decide +kernel
theorem dX7_has_16 : decode cX7_has 16 = .ok (.goto 4, 3) := by decide +kernel
theorem dX7_has_19 : decode cX7_has 19 = .ok (.iconst 0, 1) := by decide +kernel
theorem dX7_has_20 : decode cX7_has 20 = .ok (.ireturn, 1) := by decide +kernel
set_option maxRecDepth 20000 in
theorem ggX7_with_X7_both : GoodIn wsX7_with wsX7_both := goodIn_r _ [5, 6, 7, 8, 9, 10, 4, 11, 12, 13, 14, 15, 16, 17, 18, 19, 20, 21, 22, 23, 24, 25, 26, 27, 28, 29, 30, 31, 32, 33, 34, 35, 36, 37, 38, 39, 40, 41, 42, 43, 44, 45, 46, 47, 48, 49, 50, 51, 52, 53] (by decide +kernel) (by decide +kernel)
set_option maxRecDepth 20000 in
theorem gX7_with_X7_both : GoodIn wsX7_with (wsV RX7 222 RX7 yX7_both wsX7_both) := goodIn_app (goodIn_of _ (by decide +kernel)) ggX7_with_X7_both
theorem dX7_with_0 : decode cX7_with 0 = .ok (.aload_n 0, 1) := by decide +kernel
theorem dX7_with_1 : decode cX7_with 1 = .ok (.iload_n 1, 1) := by decide +kernel
theorem dX7_with_2 : decode cX7_with 2 = .ok (.iload_n 2, 1) := by decide +kernel
theorem dX7_with_3 : decode cX7_with 3 = .ok (.iload_n 1, 1) := by decide +kernel
theorem dX7_with_4 : decode cX7_with 4 = .ok (.iload_n 2, 1) := by decide +kernel
theorem dX7_with_5 : decode cX7_with 5 = .ok (.invokevirtual 222, 3) := by decide +kernel
theorem dX7_with_8 : decode cX7_with 8 = .ok (.ireturn, 1) := by decide +kernel
set_option maxRecDepth 20000 in
theorem ggX7_both_X7_isAsking : GoodIn wsX7_both wsX7_isAsking := goodIn_r _ [7, 8, 9, 6, 10] (by decide +kernel) (by decide +kernel)
set_option maxRecDepth 20000 in
theorem gX7_both_X7_isAsking : GoodIn wsX7_both (va_wsS RX7 226 yX7_isAsking wsX7_isAsking) := goodIn_app (goodIn_of _ (by decide +kernel)) ggX7_both_X7_isAsking
set_option maxRecDepth 20000 in
theorem ggX7_both_X7_has : GoodIn wsX7_both wsX7_has := goodIn_r _ [13, 14] (by decide +kernel) (by decide +kernel)
set_option maxRecDepth 20000 in
theorem gX7_both_X7_has : GoodIn wsX7_both (va_wsS RX7 229 yX7_has wsX7_has) := goodIn_app (goodIn_of _ (by decide +kernel)) ggX7_both_X7_has
theorem dX7_both_0 : decode cX7_both 0 = .ok (.iload_n 1, 1) := by decide +kernel
theorem dX7_both_1 : decode cX7_both 1 = .ok (.iload_n 2, 1) := by decide +kernel
theorem dX7_both_2 : decode cX7_both 2 = .ok (.invokestatic 226, 3) := by decide +kernel
theorem dX7_both_5 : decode cX7_both 5 = .ok (.ifCond .eq 12, 3) := by decide +kernel
theorem dX7_both_8 : decode cX7_both 8 = .ok (.iload_n 3, 1) := by decide +kernel
theorem dX7_both_9 : decode cX7_both 9 = .ok (.iload 4, 2) := by decide +kernel
theorem dX7_both_11 : decode cX7_both 11 = .ok (.invokestatic 226, 3) := by decide +kernel
theorem dX7_both_14 : decode cX7_both 14 = .ok (.ifCond .ne 6, 3) := by decide +kernel
theorem dX7_both_17 : decode cX7_both 17 = .ok (.bipush (-2), 2) := by decide +kernel
theorem dX7_both_19 : decode cX7_both 19 = .ok (.ireturn, 1) := by decide +kernel
theorem dX7_both_20 : decode cX7_both 20 = .ok (.aload_n 0, 1) := by decide +kernel
theorem dX7_both_21 : decode cX7_both 21 = .ok (.getfield 92, 3) := by decide +kernel
theorem dX7_both_24 : decode cX7_both 24 = .ok (.ifCond .ne 5, 3) := by decide +kernel
theorem dX7_both_27 : decode cX7_both 27 = .ok (.iconst (-1), 1) := by decide +kernel
theorem dX7_both_28 : decode cX7_both 28 = .ok (.ireturn, 1) := by decide +kernel
theorem dX7_both_29 : decode cX7_both 29 = .ok (.iconst 0, 1) := by decide +kernel
theorem dX7_both_30 : decode cX7_both 30 = .ok (.istore 5, 2) := by decide +kernel
theorem dX7_both_32 : decode cX7_both 32 = .ok (.iconst 0, 1) := by decide +kernel
theorem dX7_both_33 : decode cX7_both 33 = .ok (.istore 6, 2) := by decide +kernel
theorem dX7_both_35 : decode cX7_both 35 = .ok (.iload 6, 2) := by decide +kernel
theorem dX7_both_37 : decode cX7_both 37 = .ok (.aload_n 0, 1) := by decide +kernel
theorem dX7_both_38 : decode cX7_both 38 = .ok (.getfield 181, 3) := by decide +kernel
theorem dX7_both_41 : decode cX7_both 41 = .ok (.if_icmp .ge 51, 3) := by decide +kernel
theorem dX7_both_44 : decode cX7_both 44 = .ok (.aload_n 0, 1) := by decide +kernel
theorem dX7_both_45 : decode cX7_both 45 = .ok (.getfield 17, 3) := by decide +kernel
theorem dX7_both_48 : decode cX7_both 48 = .ok (.iload 6, 2) := by decide +kernel
theorem dX7_both_50 : decode cX7_both 50 = .ok (.laload, 1) := by decide +kernel
theorem dX7_both_51 : decode cX7_both 51 = .ok (.iload_n 1, 1) := by decide +kernel
theorem dX7_both_52 : decode cX7_both 52 = .ok (.iload_n 2, 1) := by decide +kernel
theorem dX7_both_53 : decode cX7_both 53 = .ok (.invokestatic 229, 3) := by decide +kernel
theorem dX7_both_56 : decode cX7_both 56 = .ok (.ifCond .eq 26, 3) := by decide +kernel
theorem dX7_both_59 : decode cX7_both 59 = .ok (.aload_n 0, 1) := by decide +kernel
theorem dX7_both_60 : decode cX7_both 60 = .ok (.getfield 17, 3) := by decide +kernel
theorem dX7_both_63 : decode cX7_both 63 = .ok (.iload 6, 2) := by decide +kernel
theorem dX7_both_65 : decode cX7_both 65 = .ok (.laload, 1) := by decide +kernel
theorem dX7_both_66 : decode cX7_both 66 = .ok (.iload_n 3, 1) := by decide +kernel
theorem dX7_both_67 : decode cX7_both 67 = .ok (.iload 4, 2) := by decide +kernel
theorem dX7_both_69 : decode cX7_both 69 = .ok (.invokestatic 229, 3) := by decide +kernel
theorem dX7_both_72 : decode cX7_both 72 = .ok (.ifCond .eq 10, 3) := by decide +kernel
theorem dX7_both_75 : decode cX7_both 75 = .ok (.iload 5, 2) := by decide +kernel
theorem dX7_both_77 : decode cX7_both 77 = .ok (.iconst 1, 1) := by decide +kernel
theorem dX7_both_78 : decode cX7_both 78 = .ok (.iadd, 1) := by decide +kernel
theorem dX7_both_79 : decode cX7_both 79 = .ok (.goto 5, 3) := by decide +kernel
theorem dX7_both_82 : decode cX7_both 82 = .ok (.iload 5, 2) := by decide +kernel
theorem dX7_both_84 : decode cX7_both 84 = .ok (.istore 5, 2) := by decide +kernel
theorem dX7_both_86 : decode cX7_both 86 = .ok (.iinc 6 1, 3) := by decide +kernel
theorem dX7_both_89 : decode cX7_both 89 = .ok (.goto (-54), 3) := by decide +kernel
theorem dX7_both_92 : decode cX7_both 92 = .ok (.iload 5, 2) := by decide +kernel
theorem dX7_both_94 : decode cX7_both 94 = .ok (.ireturn, 1) := by decide +kernel
set_option maxRecDepth 20000 in
theorem ggX7_is_X7_placeOf : GoodIn wsX7_is wsX7_placeOf := goodIn_r _ [8, 2, 3, 9, 10, 11, 12, 13, 14, 15, 16, 17, 18, 19, 20, 21, 22, 23, 24, 25, 26, 27, 28, 29, 30, 31, 32, 33, 34, 35, 36, 37, 38, 39, 40, 41, 42, 43] (by decide +kernel) (by decide +kernel)
set_option maxRecDepth 20000 in
theorem gX7_is_X7_placeOf : GoodIn wsX7_is (wsV RX7 184 RX7 yX7_placeOf wsX7_placeOf) := goodIn_app (goodIn_of _ (by decide +kernel)) ggX7_is_X7_placeOf
theorem dX7_is_0 : decode cX7_is 0 = .ok (.aload_n 0, 1) := by decide +kernel
theorem dX7_is_1 : decode cX7_is 1 = .ok (.getfield 92, 3) := by decide +kernel
theorem dX7_is_4 : decode cX7_is 4 = .ok (.ifCond .ne 5, 3) := by decide +kernel
theorem dX7_is_7 : decode cX7_is 7 = .ok (.iconst (-1), 1) := by decide +kernel
theorem dX7_is_8 : decode cX7_is 8 = .ok (.ireturn, 1) := by decide +kernel
theorem dX7_is_9 : decode cX7_is 9 = .ok (.aload_n 0, 1) := by decide +kernel
theorem dX7_is_10 : decode cX7_is 10 = .ok (.lload_n 1, 1) := by decide +kernel
theorem dX7_is_11 : decode cX7_is 11 = .ok (.invokevirtual 184, 3) := by decide +kernel
theorem dX7_is_14 : decode cX7_is 14 = .ok (.istore_n 3, 1) := by decide +kernel
theorem dX7_is_15 : decode cX7_is 15 = .ok (.iload_n 3, 1) := by decide +kernel
theorem dX7_is_16 : decode cX7_is 16 = .ok (.aload_n 0, 1) := by decide +kernel
theorem dX7_is_17 : decode cX7_is 17 = .ok (.getfield 181, 3) := by decide +kernel
theorem dX7_is_20 : decode cX7_is 20 = .ok (.if_icmp .ge 18, 3) := by decide +kernel
theorem dX7_is_23 : decode cX7_is 23 = .ok (.aload_n 0, 1) := by decide +kernel
theorem dX7_is_24 : decode cX7_is 24 = .ok (.getfield 17, 3) := by decide +kernel
theorem dX7_is_27 : decode cX7_is 27 = .ok (.iload_n 3, 1) := by decide +kernel
theorem dX7_is_28 : decode cX7_is 28 = .ok (.laload, 1) := by decide +kernel
theorem dX7_is_29 : decode cX7_is 29 = .ok (.lload_n 1, 1) := by decide +kernel
theorem dX7_is_30 : decode cX7_is 30 = .ok (.lcmp, 1) := by decide +kernel
theorem dX7_is_31 : decode cX7_is 31 = .ok (.ifCond .ne 7, 3) := by decide +kernel
theorem dX7_is_34 : decode cX7_is 34 = .ok (.iconst 1, 1) := by decide +kernel
theorem dX7_is_35 : decode cX7_is 35 = .ok (.goto 4, 3) := by decide +kernel
theorem dX7_is_38 : decode cX7_is 38 = .ok (.iconst 0, 1) := by decide +kernel
theorem dX7_is_39 : decode cX7_is 39 = .ok (.ireturn, 1) := by decide +kernel
set_option maxRecDepth 20000 in
theorem ggX7_instruction_X7_in : GoodIn wsX7_instruction wsX7_in := goodIn_r _ [6] (by decide +kernel) (by decide +kernel)
set_option maxRecDepth 20000 in
theorem gX7_instruction_X7_in : GoodIn wsX7_instruction (va_wsS RX7 96 yX7_in wsX7_in) := goodIn_app (goodIn_of _ (by decide +kernel)) ggX7_instruction_X7_in
theorem dX7_instruction_0 : decode cX7_instruction 0 = .ok (.iload_n 1, 1) := by decide +kernel
theorem dX7_instruction_1 : decode cX7_instruction 1 = .ok (.iconst 0, 1) := by decide +kernel
theorem dX7_instruction_2 : decode cX7_instruction 2 = .ok (.iconst 3, 1) := by decide +kernel
theorem dX7_instruction_3 : decode cX7_instruction 3 = .ok (.invokestatic 96, 3) := by decide +kernel
theorem dX7_instruction_6 : decode cX7_instruction 6 = .ok (.ifCond .eq 19, 3) := by decide +kernel
theorem dX7_instruction_9 : decode cX7_instruction 9 = .ok (.iload_n 2, 1) := by decide +kernel
theorem dX7_instruction_10 : decode cX7_instruction 10 = .ok (.iconst 0, 1) := by decide +kernel
theorem dX7_instruction_11 : decode cX7_instruction 11 = .ok (.aload_n 0, 1) := by decide +kernel
theorem dX7_instruction_12 : decode cX7_instruction 12 = .ok (.getfield 13, 3) := by decide +kernel
theorem dX7_instruction_15 : decode cX7_instruction 15 = .ok (.iload_n 1, 1) := by decide +kernel
theorem dX7_instruction_16 : decode cX7_instruction 16 = .ok (.iaload, 1) := by decide +kernel
theorem dX7_instruction_17 : decode cX7_instruction 17 = .ok (.iconst 1, 1) := by decide +kernel
theorem dX7_instruction_18 : decode cX7_instruction 18 = .ok (.isub, 1) := by decide +kernel
theorem dX7_instruction_19 : decode cX7_instruction 19 = .ok (.invokestatic 96, 3) := by decide +kernel
theorem dX7_instruction_22 : decode cX7_instruction 22 = .ok (.ifCond .ne 5, 3) := by decide +kernel
theorem dX7_instruction_25 : decode cX7_instruction 25 = .ok (.iconst (-1), 1) := by decide +kernel
theorem dX7_instruction_26 : decode cX7_instruction 26 = .ok (.ireturn, 1) := by decide +kernel
theorem dX7_instruction_27 : decode cX7_instruction 27 = .ok (.iload_n 3, 1) := by decide +kernel
theorem dX7_instruction_28 : decode cX7_instruction 28 = .ok (.iconst 0, 1) := by decide +kernel
theorem dX7_instruction_29 : decode cX7_instruction 29 = .ok (.iconst 5, 1) := by decide +kernel
theorem dX7_instruction_30 : decode cX7_instruction 30 = .ok (.invokestatic 96, 3) := by decide +kernel
theorem dX7_instruction_33 : decode cX7_instruction 33 = .ok (.ifCond .eq 22, 3) := by decide +kernel
theorem dX7_instruction_36 : decode cX7_instruction 36 = .ok (.aload_n 0, 1) := by decide +kernel
theorem dX7_instruction_37 : decode cX7_instruction 37 = .ok (.getfield 7, 3) := by decide +kernel
theorem dX7_instruction_40 : decode cX7_instruction 40 = .ok (.bipush 36, 2) := by decide +kernel
theorem dX7_instruction_42 : decode cX7_instruction 42 = .ok (.iload_n 1, 1) := by decide +kernel
theorem dX7_instruction_43 : decode cX7_instruction 43 = .ok (.imul, 1) := by decide +kernel
theorem dX7_instruction_44 : decode cX7_instruction 44 = .ok (.bipush 6, 2) := by decide +kernel
theorem dX7_instruction_46 : decode cX7_instruction 46 = .ok (.iload_n 2, 1) := by decide +kernel
theorem dX7_instruction_47 : decode cX7_instruction 47 = .ok (.imul, 1) := by decide +kernel
theorem dX7_instruction_48 : decode cX7_instruction 48 = .ok (.iadd, 1) := by decide +kernel
theorem dX7_instruction_49 : decode cX7_instruction 49 = .ok (.iload_n 3, 1) := by decide +kernel
theorem dX7_instruction_50 : decode cX7_instruction 50 = .ok (.iadd, 1) := by decide +kernel
theorem dX7_instruction_51 : decode cX7_instruction 51 = .ok (.iaload, 1) := by decide +kernel
theorem dX7_instruction_52 : decode cX7_instruction 52 = .ok (.goto 5, 3) := by decide +kernel
theorem dX7_instruction_55 : decode cX7_instruction 55 = .ok (.bipush (-2), 2) := by decide +kernel
theorem dX7_instruction_57 : decode cX7_instruction 57 = .ok (.ireturn, 1) := by decide +kernel
set_option maxRecDepth 20000 in
theorem ggX7_count_X7_instructions : GoodIn wsX7_count wsX7_instructions := goodIn_r _ [9, 10, 11, 12, 13, 8, 14, 15, 16, 17, 18, 19, 20, 21, 22, 23, 24, 25, 26, 27, 28, 29, 30, 31, 32, 33, 34, 35, 36, 37, 38, 39, 40, 41, 42, 43, 44, 45, 46, 47, 48, 49] (by decide +kernel) (by decide +kernel)
set_option maxRecDepth 20000 in
theorem gX7_count_X7_instructions : GoodIn wsX7_count (wsV RX7 115 RX7 yX7_instructions wsX7_instructions) := goodIn_app (goodIn_of _ (by decide +kernel)) ggX7_count_X7_instructions
theorem dX7_count_0 : decode cX7_count 0 = .ok (.iload_n 1, 1) := by decide +kernel
theorem dX7_count_1 : decode cX7_count 1 = .ok (.tableswitch 82 0 5 #[39, 39, 39, 45, 61, 66], 39) := by decide +kernel
theorem dX7_count_40 : decode cX7_count 40 = .ok (.aload_n 0, 1) := by decide +kernel
theorem dX7_count_41 : decode cX7_count 41 = .ok (.iload_n 1, 1) := by decide +kernel
theorem dX7_count_42 : decode cX7_count 42 = .ok (.invokevirtual 115, 3) := by decide +kernel
theorem dX7_count_45 : decode cX7_count 45 = .ok (.ireturn, 1) := by decide +kernel
theorem dX7_count_46 : decode cX7_count 46 = .ok (.aload_n 0, 1) := by decide +kernel
theorem dX7_count_47 : decode cX7_count 47 = .ok (.getfield 92, 3) := by decide +kernel
theorem dX7_count_50 : decode cX7_count 50 = .ok (.ifCond .eq 10, 3) := by decide +kernel
theorem dX7_count_53 : decode cX7_count 53 = .ok (.aload_n 0, 1) := by decide +kernel
theorem dX7_count_54 : decode cX7_count 54 = .ok (.getfield 181, 3) := by decide +kernel
theorem dX7_count_57 : decode cX7_count 57 = .ok (.goto 4, 3) := by decide +kernel
theorem dX7_count_60 : decode cX7_count 60 = .ok (.iconst (-1), 1) := by decide +kernel
theorem dX7_count_61 : decode cX7_count 61 = .ok (.ireturn, 1) := by decide +kernel
theorem dX7_count_62 : decode cX7_count 62 = .ok (.aload_n 0, 1) := by decide +kernel
theorem dX7_count_63 : decode cX7_count 63 = .ok (.getfield 88, 3) := by decide +kernel
theorem dX7_count_66 : decode cX7_count 66 = .ok (.ireturn, 1) := by decide +kernel
theorem dX7_count_67 : decode cX7_count 67 = .ok (.aload_n 0, 1) := by decide +kernel
theorem dX7_count_68 : decode cX7_count 68 = .ok (.getfield 92, 3) := by decide +kernel
theorem dX7_count_71 : decode cX7_count 71 = .ok (.ifCond .eq 10, 3) := by decide +kernel
theorem dX7_count_74 : decode cX7_count 74 = .ok (.aload_n 0, 1) := by decide +kernel
theorem dX7_count_75 : decode cX7_count 75 = .ok (.getfield 206, 3) := by decide +kernel
theorem dX7_count_78 : decode cX7_count 78 = .ok (.goto 4, 3) := by decide +kernel
theorem dX7_count_81 : decode cX7_count 81 = .ok (.iconst (-1), 1) := by decide +kernel
theorem dX7_count_82 : decode cX7_count 82 = .ok (.ireturn, 1) := by decide +kernel
theorem dX7_count_83 : decode cX7_count 83 = .ok (.bipush (-2), 2) := by decide +kernel
theorem dX7_count_85 : decode cX7_count 85 = .ok (.ireturn, 1) := by decide +kernel
theorem dJ9_min_7cf53_0 : decode cJ9_min_7cf53 0 = .ok (.iload_n 0, 1) := by decide +kernel
theorem dJ9_min_7cf53_1 : decode cJ9_min_7cf53 1 = .ok (.iload_n 1, 1) := by decide +kernel
theorem dJ9_min_7cf53_2 : decode cJ9_min_7cf53 2 = .ok (.if_icmp .gt 7, 3) := by decide +kernel
theorem dJ9_min_7cf53_5 : decode cJ9_min_7cf53 5 = .ok (.iload_n 0, 1) := by decide +kernel
theorem dJ9_min_7cf53_6 : decode cJ9_min_7cf53 6 = .ok (.goto 4, 3) := by decide +kernel
theorem dJ9_min_7cf53_9 : decode cJ9_min_7cf53 9 = .ok (.iload_n 1, 1) := by decide +kernel
theorem dJ9_min_7cf53_10 : decode cJ9_min_7cf53 10 = .ok (.ireturn, 1) := by decide +kernel
set_option maxRecDepth 20000 in
theorem ggJ0_length_8abf5_J0_coder_7d493 : GoodIn wsJ0_length_8abf5 wsJ0_coder_7d493 := goodIn_r _ [6, 7, 8] (by decide +kernel) (by decide +kernel)
set_option maxRecDepth 20000 in
theorem gJ0_length_8abf5_J0_coder_7d493 : GoodIn wsJ0_length_8abf5 (wsV RJ0 335 RJ0 yJ0_coder_7d493 wsJ0_coder_7d493) := goodIn_app (goodIn_of _ (by decide +kernel)) ggJ0_length_8abf5_J0_coder_7d493
theorem dJ0_length_8abf5_0 : decode cJ0_length_8abf5 0 = .ok (.aload_n 0, 1) := by decide +kernel
theorem dJ0_length_8abf5_1 : decode cJ0_length_8abf5 1 = .ok (.getfield 9, 3) := by decide +kernel
theorem dJ0_length_8abf5_4 : decode cJ0_length_8abf5 4 = .ok (.arraylength, 1) := by decide +kernel
theorem dJ0_length_8abf5_5 : decode cJ0_length_8abf5 5 = .ok (.aload_n 0, 1) := by decide +kernel
theorem dJ0_length_8abf5_6 : decode cJ0_length_8abf5 6 = .ok (.invokevirtual 335, 3) := by decide +kernel
theorem dJ0_length_8abf5_9 : decode cJ0_length_8abf5 9 = .ok (.ishr, 1) := by decide +kernel
theorem dJ0_length_8abf5_10 : decode cJ0_length_8abf5 10 = .ok (.ireturn, 1) := by decide +kernel
set_option maxRecDepth 20000 in
theorem ggJ0_charAt_5068e_J0_isLatin1_aae02 : GoodIn wsJ0_charAt_5068e wsJ0_isLatin1_aae02 := goodIn_r _ [6, 7, 8] (by decide +kernel) (by decide +kernel)
set_option maxRecDepth 20000 in
theorem gJ0_charAt_5068e_J0_isLatin1_aae02 : GoodIn wsJ0_charAt_5068e (wsV RJ0 492 RJ0 yJ0_isLatin1_aae02 wsJ0_isLatin1_aae02) := goodIn_app (goodIn_of _ (by decide +kernel)) ggJ0_charAt_5068e_J0_isLatin1_aae02
set_option maxRecDepth 20000 in
theorem ggJ0_charAt_5068e_J1_charAt_3b067 : GoodIn wsJ0_charAt_5068e wsJ1_charAt_3b067 := goodIn_r _ [12, 13, 14, 5, 15, 16, 17, 18, 19, 20] (by decide +kernel) (by decide +kernel)
set_option maxRecDepth 20000 in
theorem gJ0_charAt_5068e_J1_charAt_3b067 : GoodIn wsJ0_charAt_5068e (va_wsS RJ0 495 yJ1_charAt_3b067 wsJ1_charAt_3b067) := goodIn_app (goodIn_of _ (by decide +kernel)) ggJ0_charAt_5068e_J1_charAt_3b067
set_option maxRecDepth 20000 in
theorem ggJ0_charAt_5068e_J2_charAt_3b067 : GoodIn wsJ0_charAt_5068e wsJ2_charAt_3b067 := goodIn_r _ [24, 25, 26, 23, 27, 28, 29, 30, 31, 14, 5, 15, 16, 17, 18, 19, 20, 32, 33, 34, 35, 36, 37] (by decide +kernel) (by decide +kernel)
set_option maxRecDepth 20000 in
theorem gJ0_charAt_5068e_J2_charAt_3b067 : GoodIn wsJ0_charAt_5068e (va_wsS RJ0 498 yJ2_charAt_3b067 wsJ2_charAt_3b067) := goodIn_app (goodIn_of _ (by decide +kernel)) ggJ0_charAt_5068e_J2_charAt_3b067
theorem dJ0_charAt_5068e_0 : decode cJ0_charAt_5068e 0 = .ok (.aload_n 0, 1) := by decide +kernel
theorem dJ0_charAt_5068e_1 : decode cJ0_charAt_5068e 1 = .ok (.invokevirtual 492, 3) := by decide +kernel
theorem dJ0_charAt_5068e_4 : decode cJ0_charAt_5068e 4 = .ok (.ifCond .eq 12, 3) := by decide +kernel
theorem dJ0_charAt_5068e_7 : decode cJ0_charAt_5068e 7 = .ok (.aload_n 0, 1) := by decide +kernel
theorem dJ0_charAt_5068e_8 : decode cJ0_charAt_5068e 8 = .ok (.getfield 9, 3) := by decide +kernel
theorem dJ0_charAt_5068e_11 : decode cJ0_charAt_5068e 11 = .ok (.iload_n 1, 1) := by decide +kernel
theorem dJ0_charAt_5068e_12 : decode cJ0_charAt_5068e 12 = .ok (.invokestatic 495, 3) := by decide +kernel
theorem dJ0_charAt_5068e_15 : decode cJ0_charAt_5068e 15 = .ok (.ireturn, 1) := by decide +kernel
theorem dJ0_charAt_5068e_16 : decode cJ0_charAt_5068e 16 = .ok (.aload_n 0, 1) := by decide +kernel
theorem dJ0_charAt_5068e_17 : decode cJ0_charAt_5068e 17 = .ok (.getfield 9, 3) := by decide +kernel
theorem dJ0_charAt_5068e_20 : decode cJ0_charAt_5068e 20 = .ok (.iload_n 1, 1) := by decide +kernel
theorem dJ0_charAt_5068e_21 : decode cJ0_charAt_5068e 21 = .ok (.invokestatic 498, 3) := by decide +kernel
theorem dJ0_charAt_5068e_24 : decode cJ0_charAt_5068e 24 = .ok (.ireturn, 1) := by decide +kernel
theorem dJ0_coder_7d493_0 : decode cJ0_coder_7d493 0 = .ok (.getstatic 38, 3) := by decide +kernel
theorem dJ0_coder_7d493_3 : decode cJ0_coder_7d493 3 = .ok (.ifCond .eq 10, 3) := by decide +kernel
theorem dJ0_coder_7d493_6 : decode cJ0_coder_7d493 6 = .ok (.aload_n 0, 1) := by decide +kernel
theorem dJ0_coder_7d493_7 : decode cJ0_coder_7d493 7 = .ok (.getfield 15, 3) := by decide +kernel
theorem dJ0_coder_7d493_10 : decode cJ0_coder_7d493 10 = .ok (.goto 4, 3) := by decide +kernel
theorem dJ0_coder_7d493_13 : decode cJ0_coder_7d493 13 = .ok (.iconst 1, 1) := by decide +kernel
theorem dJ0_coder_7d493_14 : decode cJ0_coder_7d493 14 = .ok (.ireturn, 1) := by decide +kernel
theorem dJ0_isLatin1_aae02_0 : decode cJ0_isLatin1_aae02 0 = .ok (.getstatic 38, 3) := by decide +kernel
theorem dJ0_isLatin1_aae02_3 : decode cJ0_isLatin1_aae02 3 = .ok (.ifCond .eq 14, 3) := by decide +kernel
theorem dJ0_isLatin1_aae02_6 : decode cJ0_isLatin1_aae02 6 = .ok (.aload_n 0, 1) := by decide +kernel
theorem dJ0_isLatin1_aae02_7 : decode cJ0_isLatin1_aae02 7 = .ok (.getfield 15, 3) := by decide +kernel
theorem dJ0_isLatin1_aae02_10 : decode cJ0_isLatin1_aae02 10 = .ok (.ifCond .ne 7, 3) := by decide +kernel
theorem dJ0_isLatin1_aae02_13 : decode cJ0_isLatin1_aae02 13 = .ok (.iconst 1, 1) := by decide +kernel
theorem dJ0_isLatin1_aae02_14 : decode cJ0_isLatin1_aae02 14 = .ok (.goto 4, 3) := by decide +kernel
theorem dJ0_isLatin1_aae02_17 : decode cJ0_isLatin1_aae02 17 = .ok (.iconst 0, 1) := by decide +kernel
theorem dJ0_isLatin1_aae02_18 : decode cJ0_isLatin1_aae02 18 = .ok (.ireturn, 1) := by decide +kernel
set_option maxRecDepth 20000 in
theorem ggJ0_checkIndex_df160_J3_checkIndex_8e157 : GoodIn wsJ0_checkIndex_df160 wsJ3_checkIndex_8e157 := goodIn_r _ [5] (by decide +kernel) (by decide +kernel)
set_option maxRecDepth 20000 in
theorem gJ0_checkIndex_df160_J3_checkIndex_8e157 : GoodIn wsJ0_checkIndex_df160 (va_wsS RJ0 1059 yJ3_checkIndex_8e157 wsJ3_checkIndex_8e157) := goodIn_app (goodIn_of _ (by decide +kernel)) ggJ0_checkIndex_df160_J3_checkIndex_8e157
theorem dJ0_checkIndex_df160_0 : decode cJ0_checkIndex_df160 0 = .ok (.iload_n 0, 1) := by decide +kernel
theorem dJ0_checkIndex_df160_1 : decode cJ0_checkIndex_df160 1 = .ok (.iload_n 1, 1) := by decide +kernel
theorem dJ0_checkIndex_df160_2 : decode cJ0_checkIndex_df160 2 = .ok (.getstatic 1053, 3) := by decide +kernel
theorem dJ0_checkIndex_df160_5 : decode cJ0_checkIndex_df160 5 = .ok (.invokestatic 1059, 3) := by decide +kernel
theorem dJ0_checkIndex_df160_8 : decode cJ0_checkIndex_df160 8 = .ok (.pop, 1) := by decide +kernel
theorem dJ0_checkIndex_df160_9 : decode cJ0_checkIndex_df160 9 = .ok (.return_, 1) := by decide +kernel
set_option maxRecDepth 20000 in
theorem ggJ1_charAt_3b067_J0_checkIndex_df160 : GoodIn wsJ1_charAt_3b067 wsJ0_checkIndex_df160 := goodIn_r _ [4, 5, 6, 7, 8, 9] (by decide +kernel) (by decide +kernel)
set_option maxRecDepth 20000 in
theorem gJ1_charAt_3b067_J0_checkIndex_df160 : GoodIn wsJ1_charAt_3b067 (va_wsS RJ1 9 yJ0_checkIndex_df160 wsJ0_checkIndex_df160) := goodIn_app (goodIn_of _ (by decide +kernel)) ggJ1_charAt_3b067_J0_checkIndex_df160
theorem dJ1_charAt_3b067_0 : decode cJ1_charAt_3b067 0 = .ok (.iload_n 1, 1) := by decide +kernel
theorem dJ1_charAt_3b067_1 : decode cJ1_charAt_3b067 1 = .ok (.aload_n 0, 1) := by decide +kernel
theorem dJ1_charAt_3b067_2 : decode cJ1_charAt_3b067 2 = .ok (.arraylength, 1) := by decide +kernel
theorem dJ1_charAt_3b067_3 : decode cJ1_charAt_3b067 3 = .ok (.invokestatic 9, 3) := by decide +kernel
theorem dJ1_charAt_3b067_6 : decode cJ1_charAt_3b067 6 = .ok (.aload_n 0, 1) := by decide +kernel
theorem dJ1_charAt_3b067_7 : decode cJ1_charAt_3b067 7 = .ok (.iload_n 1, 1) := by decide +kernel
theorem dJ1_charAt_3b067_8 : decode cJ1_charAt_3b067 8 = .ok (.baload, 1) := by decide +kernel
theorem dJ1_charAt_3b067_9 : decode cJ1_charAt_3b067 9 = .ok (.sipush 255, 3) := by decide +kernel
theorem dJ1_charAt_3b067_12 : decode cJ1_charAt_3b067 12 = .ok (.iand, 1) := by decide +kernel
theorem dJ1_charAt_3b067_13 : decode cJ1_charAt_3b067 13 = .ok (.i2c, 1) := by decide +kernel
theorem dJ1_charAt_3b067_14 : decode cJ1_charAt_3b067 14 = .ok (.ireturn, 1) := by decide +kernel
set_option maxRecDepth 20000 in
theorem ggJ2_getChar_3b067_J2_length_9d52b : GoodIn wsJ2_getChar_3b067 wsJ2_length_9d52b := goodIn_r _ [7] (by decide +kernel) (by decide +kernel)
set_option maxRecDepth 20000 in
theorem gJ2_getChar_3b067_J2_length_9d52b : GoodIn wsJ2_getChar_3b067 (va_wsS RJ2 48 yJ2_length_9d52b wsJ2_length_9d52b) := goodIn_app (goodIn_of _ (by decide +kernel)) ggJ2_getChar_3b067_J2_length_9d52b
theorem dJ2_getChar_3b067_0 : decode cJ2_getChar_3b067 0 = .ok (.getstatic 44, 3) := by decide +kernel
theorem dJ2_getChar_3b067_3 : decode cJ2_getChar_3b067 3 = .ok (.ifCond .ne 25, 3) := by decide +kernel
theorem dJ2_getChar_3b067_6 : decode cJ2_getChar_3b067 6 = .ok (.iload_n 1, 1) := by decide +kernel
theorem dJ2_getChar_3b067_7 : decode cJ2_getChar_3b067 7 = .ok (.ifCond .lt 11, 3) := by decide +kernel
theorem dJ2_getChar_3b067_10 : decode cJ2_getChar_3b067 10 = .ok (.iload_n 1, 1) := by decide +kernel
theorem dJ2_getChar_3b067_11 : decode cJ2_getChar_3b067 11 = .ok (.aload_n 0, 1) := by decide +kernel
theorem dJ2_getChar_3b067_12 : decode cJ2_getChar_3b067 12 = .ok (.invokestatic 48, 3) := by decide +kernel
theorem dJ2_getChar_3b067_15 : decode cJ2_getChar_3b067 15 = .ok (.if_icmp .lt 13, 3) := by decide +kernel
theorem dJ2_getChar_3b067_18 : decode cJ2_getChar_3b067 18 = .ok (.new 52, 3) := by decide +kernel
theorem dJ2_getChar_3b067_21 : decode cJ2_getChar_3b067 21 = .ok (.dup, 1) := by decide +kernel
theorem dJ2_getChar_3b067_22 : decode cJ2_getChar_3b067 22 = .ok (.ldc 54, 2) := by decide +kernel
theorem dJ2_getChar_3b067_24 : decode cJ2_getChar_3b067 24 = .ok (.invokespecial 56, 3) := by decide +kernel
theorem dJ2_getChar_3b067_27 : decode cJ2_getChar_3b067 27 = .ok (.athrow, 1) := by decide +kernel
theorem dJ2_getChar_3b067_28 : decode cJ2_getChar_3b067 28 = .ok (.iload_n 1, 1) := by decide +kernel
theorem dJ2_getChar_3b067_29 : decode cJ2_getChar_3b067 29 = .ok (.iconst 1, 1) := by decide +kernel
theorem dJ2_getChar_3b067_30 : decode cJ2_getChar_3b067 30 = .ok (.ishl, 1) := by decide +kernel
theorem dJ2_getChar_3b067_31 : decode cJ2_getChar_3b067 31 = .ok (.istore_n 1, 1) := by decide +kernel
theorem dJ2_getChar_3b067_32 : decode cJ2_getChar_3b067 32 = .ok (.aload_n 0, 1) := by decide +kernel
theorem dJ2_getChar_3b067_33 : decode cJ2_getChar_3b067 33 = .ok (.iload_n 1, 1) := by decide +kernel
theorem dJ2_getChar_3b067_34 : decode cJ2_getChar_3b067 34 = .ok (.iinc 1 1, 3) := by decide +kernel
theorem dJ2_getChar_3b067_37 : decode cJ2_getChar_3b067 37 = .ok (.baload, 1) := by decide +kernel
theorem dJ2_getChar_3b067_38 : decode cJ2_getChar_3b067 38 = .ok (.sipush 255, 3) := by decide +kernel
theorem dJ2_getChar_3b067_41 : decode cJ2_getChar_3b067 41 = .ok (.iand, 1) := by decide +kernel
theorem dJ2_getChar_3b067_42 : decode cJ2_getChar_3b067 42 = .ok (.getstatic 59, 3) := by decide +kernel
theorem dJ2_getChar_3b067_45 : decode cJ2_getChar_3b067 45 = .ok (.ishl, 1) := by decide +kernel
theorem dJ2_getChar_3b067_46 : decode cJ2_getChar_3b067 46 = .ok (.aload_n 0, 1) := by decide +kernel
theorem dJ2_getChar_3b067_47 : decode cJ2_getChar_3b067 47 = .ok (.iload_n 1, 1) := by decide +kernel
theorem dJ2_getChar_3b067_48 : decode cJ2_getChar_3b067 48 = .ok (.baload, 1) := by decide +kernel
theorem dJ2_getChar_3b067_49 : decode cJ2_getChar_3b067 49 = .ok (.sipush 255, 3) := by decide +kernel
theorem dJ2_getChar_3b067_52 : decode cJ2_getChar_3b067 52 = .ok (.iand, 1) := by decide +kernel
theorem dJ2_getChar_3b067_53 : decode cJ2_getChar_3b067 53 = .ok (.getstatic 63, 3) := by decide +kernel
theorem dJ2_getChar_3b067_56 : decode cJ2_getChar_3b067 56 = .ok (.ishl, 1) := by decide +kernel
theorem dJ2_getChar_3b067_57 : decode cJ2_getChar_3b067 57 = .ok (.ior, 1) := by decide +kernel
theorem dJ2_getChar_3b067_58 : decode cJ2_getChar_3b067 58 = .ok (.i2c, 1) := by decide +kernel
theorem dJ2_getChar_3b067_59 : decode cJ2_getChar_3b067 59 = .ok (.ireturn, 1) := by decide +kernel
theorem dJ2_length_9d52b_0 : decode cJ2_length_9d52b 0 = .ok (.aload_n 0, 1) := by decide +kernel
theorem dJ2_length_9d52b_1 : decode cJ2_length_9d52b 1 = .ok (.arraylength, 1) := by decide +kernel
theorem dJ2_length_9d52b_2 : decode cJ2_length_9d52b 2 = .ok (.iconst 1, 1) := by decide +kernel
theorem dJ2_length_9d52b_3 : decode cJ2_length_9d52b 3 = .ok (.ishr, 1) := by decide +kernel
theorem dJ2_length_9d52b_4 : decode cJ2_length_9d52b 4 = .ok (.ireturn, 1) := by decide +kernel
set_option maxRecDepth 20000 in
theorem ggJ2_charAt_3b067_J2_checkIndex_2214a : GoodIn wsJ2_charAt_3b067 wsJ2_checkIndex_2214a := goodIn_r _ [4, 5, 6, 3, 7, 8, 9, 10, 11, 12, 13, 14, 15, 16] (by decide +kernel) (by decide +kernel)
set_option maxRecDepth 20000 in
theorem gJ2_charAt_3b067_J2_checkIndex_2214a : GoodIn wsJ2_charAt_3b067 (va_wsS RJ2 67 yJ2_checkIndex_2214a wsJ2_checkIndex_2214a) := goodIn_app (goodIn_of _ (by decide +kernel)) ggJ2_charAt_3b067_J2_checkIndex_2214a
set_option maxRecDepth 20000 in
theorem ggJ2_charAt_3b067_J2_getChar_3b067 : GoodIn wsJ2_charAt_3b067 wsJ2_getChar_3b067 := goodIn_r _ [19, 20, 21, 22, 5, 6, 3, 7] (by decide +kernel) (by decide +kernel)
set_option maxRecDepth 20000 in
theorem gJ2_charAt_3b067_J2_getChar_3b067 : GoodIn wsJ2_charAt_3b067 (va_wsS RJ2 71 yJ2_getChar_3b067 wsJ2_getChar_3b067) := goodIn_app (goodIn_of _ (by decide +kernel)) ggJ2_charAt_3b067_J2_getChar_3b067
theorem dJ2_charAt_3b067_0 : decode cJ2_charAt_3b067 0 = .ok (.iload_n 1, 1) := by decide +kernel
theorem dJ2_charAt_3b067_1 : decode cJ2_charAt_3b067 1 = .ok (.aload_n 0, 1) := by decide +kernel
theorem dJ2_charAt_3b067_2 : decode cJ2_charAt_3b067 2 = .ok (.invokestatic 67, 3) := by decide +kernel
theorem dJ2_charAt_3b067_5 : decode cJ2_charAt_3b067 5 = .ok (.aload_n 0, 1) := by decide +kernel
theorem dJ2_charAt_3b067_6 : decode cJ2_charAt_3b067 6 = .ok (.iload_n 1, 1) := by decide +kernel
theorem dJ2_charAt_3b067_7 : decode cJ2_charAt_3b067 7 = .ok (.invokestatic 71, 3) := by decide +kernel
theorem dJ2_charAt_3b067_10 : decode cJ2_charAt_3b067 10 = .ok (.ireturn, 1) := by decide +kernel
set_option maxRecDepth 20000 in
theorem ggJ2_checkIndex_2214a_J2_length_9d52b : GoodIn wsJ2_checkIndex_2214a wsJ2_length_9d52b := goodIn_r _ [4] (by decide +kernel) (by decide +kernel)
set_option maxRecDepth 20000 in
theorem gJ2_checkIndex_2214a_J2_length_9d52b : GoodIn wsJ2_checkIndex_2214a (va_wsS RJ2 48 yJ2_length_9d52b wsJ2_length_9d52b) := goodIn_app (goodIn_of _ (by decide +kernel)) ggJ2_checkIndex_2214a_J2_length_9d52b
set_option maxRecDepth 20000 in
theorem ggJ2_checkIndex_2214a_J0_checkIndex_df160 : GoodIn wsJ2_checkIndex_2214a wsJ0_checkIndex_df160 := goodIn_r _ [8, 9, 10, 11, 12, 13] (by decide +kernel) (by decide +kernel)
set_option maxRecDepth 20000 in
theorem gJ2_checkIndex_2214a_J0_checkIndex_df160 : GoodIn wsJ2_checkIndex_2214a (va_wsS RJ2 414 yJ0_checkIndex_df160 wsJ0_checkIndex_df160) := goodIn_app (goodIn_of _ (by decide +kernel)) ggJ2_checkIndex_2214a_J0_checkIndex_df160
theorem dJ2_checkIndex_2214a_0 : decode cJ2_checkIndex_2214a 0 = .ok (.iload_n 0, 1) := by decide +kernel
theorem dJ2_checkIndex_2214a_1 : decode cJ2_checkIndex_2214a 1 = .ok (.aload_n 1, 1) := by decide +kernel
theorem dJ2_checkIndex_2214a_2 : decode cJ2_checkIndex_2214a 2 = .ok (.invokestatic 48, 3) := by decide +kernel
theorem dJ2_checkIndex_2214a_5 : decode cJ2_checkIndex_2214a 5 = .ok (.invokestatic 414, 3) := by decide +kernel
theorem dJ2_checkIndex_2214a_8 : decode cJ2_checkIndex_2214a 8 = .ok (.return_, 1) := by decide +kernel
theorem dJ7_fill_53178_0 : decode cJ7_fill_53178 0 = .ok (.iconst 0, 1) := by decide +kernel
theorem dJ7_fill_53178_1 : decode cJ7_fill_53178 1 = .ok (.istore_n 2, 1) := by decide +kernel
theorem dJ7_fill_53178_2 : decode cJ7_fill_53178 2 = .ok (.aload_n 0, 1) := by decide +kernel
theorem dJ7_fill_53178_3 : decode cJ7_fill_53178 3 = .ok (.arraylength, 1) := by decide +kernel
theorem dJ7_fill_53178_4 : decode cJ7_fill_53178 4 = .ok (.istore_n 3, 1) := by decide +kernel
theorem dJ7_fill_53178_5 : decode cJ7_fill_53178 5 = .ok (.iload_n 2, 1) := by decide +kernel
theorem dJ7_fill_53178_6 : decode cJ7_fill_53178 6 = .ok (.iload_n 3, 1) := by decide +kernel
theorem dJ7_fill_53178_7 : decode cJ7_fill_53178 7 = .ok (.if_icmp .ge 13, 3) := by decide +kernel
theorem dJ7_fill_53178_10 : decode cJ7_fill_53178 10 = .ok (.aload_n 0, 1) := by decide +kernel
theorem dJ7_fill_53178_11 : decode cJ7_fill_53178 11 = .ok (.iload_n 2, 1) := by decide +kernel
theorem dJ7_fill_53178_12 : decode cJ7_fill_53178 12 = .ok (.iload_n 1, 1) := by decide +kernel
theorem dJ7_fill_53178_13 : decode cJ7_fill_53178 13 = .ok (.iastore, 1) := by decide +kernel
theorem dJ7_fill_53178_14 : decode cJ7_fill_53178 14 = .ok (.iinc 2 1, 3) := by decide +kernel
theorem dJ7_fill_53178_17 : decode cJ7_fill_53178 17 = .ok (.goto (-12), 3) := by decide +kernel
theorem dJ7_fill_53178_20 : decode cJ7_fill_53178 20 = .ok (.return_, 1) := by decide +kernel
theorem dJ7_copyOf_c38d5_0 : decode cJ7_copyOf_c38d5 0 = .ok (.iload_n 1, 1) := by decide +kernel
theorem dJ7_copyOf_c38d5_1 : decode cJ7_copyOf_c38d5 1 = .ok (.aload_n 0, 1) := by decide +kernel
theorem dJ7_copyOf_c38d5_2 : decode cJ7_copyOf_c38d5 2 = .ok (.arraylength, 1) := by decide +kernel
theorem dJ7_copyOf_c38d5_3 : decode cJ7_copyOf_c38d5 3 = .ok (.if_icmp .ne 11, 3) := by decide +kernel
theorem dJ7_copyOf_c38d5_6 : decode cJ7_copyOf_c38d5 6 = .ok (.aload_n 0, 1) := by decide +kernel
theorem dJ7_copyOf_c38d5_7 : decode cJ7_copyOf_c38d5 7 = .ok (.invokevirtual 319, 3) := by decide +kernel
theorem dJ7_copyOf_c38d5_10 : decode cJ7_copyOf_c38d5 10 = .ok (.checkcast 320, 3) := by decide +kernel
theorem dJ7_copyOf_c38d5_13 : decode cJ7_copyOf_c38d5 13 = .ok (.areturn, 1) := by decide +kernel
theorem dJ7_copyOf_c38d5_14 : decode cJ7_copyOf_c38d5 14 = .ok (.iload_n 1, 1) := by decide +kernel
theorem dJ7_copyOf_c38d5_15 : decode cJ7_copyOf_c38d5 15 = .ok (.newarray .long, 2) := by decide +kernel
theorem dJ7_copyOf_c38d5_17 : decode cJ7_copyOf_c38d5 17 = .ok (.astore_n 2, 1) := by decide +kernel
theorem dJ7_copyOf_c38d5_18 : decode cJ7_copyOf_c38d5 18 = .ok (.aload_n 0, 1) := by decide +kernel
theorem dJ7_copyOf_c38d5_19 : decode cJ7_copyOf_c38d5 19 = .ok (.iconst 0, 1) := by decide +kernel
theorem dJ7_copyOf_c38d5_20 : decode cJ7_copyOf_c38d5 20 = .ok (.aload_n 2, 1) := by decide +kernel
theorem dJ7_copyOf_c38d5_21 : decode cJ7_copyOf_c38d5 21 = .ok (.iconst 0, 1) := by decide +kernel
theorem dJ7_copyOf_c38d5_22 : decode cJ7_copyOf_c38d5 22 = .ok (.aload_n 0, 1) := by decide +kernel
theorem dJ7_copyOf_c38d5_23 : decode cJ7_copyOf_c38d5 23 = .ok (.arraylength, 1) := by decide +kernel
theorem dJ7_copyOf_c38d5_24 : decode cJ7_copyOf_c38d5 24 = .ok (.iload_n 1, 1) := by decide +kernel
theorem dJ7_copyOf_c38d5_25 : decode cJ7_copyOf_c38d5 25 = .ok (.invokestatic 304, 3) := by decide +kernel
theorem dJ7_copyOf_c38d5_28 : decode cJ7_copyOf_c38d5 28 = .ok (.invokestatic 150, 3) := by decide +kernel
theorem dJ7_copyOf_c38d5_31 : decode cJ7_copyOf_c38d5 31 = .ok (.aload_n 2, 1) := by decide +kernel
theorem dJ7_copyOf_c38d5_32 : decode cJ7_copyOf_c38d5 32 = .ok (.areturn, 1) := by decide +kernel
theorem dJ3_checkIndex_8e157_0 : decode cJ3_checkIndex_8e157 0 = .ok (.iload_n 0, 1) := by decide +kernel
theorem dJ3_checkIndex_8e157_1 : decode cJ3_checkIndex_8e157 1 = .ok (.ifCond .lt 8, 3) := by decide +kernel
theorem dJ3_checkIndex_8e157_4 : decode cJ3_checkIndex_8e157 4 = .ok (.iload_n 0, 1) := by decide +kernel
theorem dJ3_checkIndex_8e157_5 : decode cJ3_checkIndex_8e157 5 = .ok (.iload_n 1, 1) := by decide +kernel
theorem dJ3_checkIndex_8e157_6 : decode cJ3_checkIndex_8e157 6 = .ok (.if_icmp .lt 10, 3) := by decide +kernel
theorem dJ3_checkIndex_8e157_9 : decode cJ3_checkIndex_8e157 9 = .ok (.aload_n 2, 1) := by decide +kernel
theorem dJ3_checkIndex_8e157_10 : decode cJ3_checkIndex_8e157 10 = .ok (.iload_n 0, 1) := by decide +kernel
theorem dJ3_checkIndex_8e157_11 : decode cJ3_checkIndex_8e157 11 = .ok (.iload_n 1, 1) := by decide +kernel
theorem dJ3_checkIndex_8e157_12 : decode cJ3_checkIndex_8e157 12 = .ok (.invokestatic 95, 3) := by decide +kernel
theorem dJ3_checkIndex_8e157_15 : decode cJ3_checkIndex_8e157 15 = .ok (.athrow, 1) := by decide +kernel
theorem dJ3_checkIndex_8e157_16 : decode cJ3_checkIndex_8e157 16 = .ok (.iload_n 0, 1) := by decide +kernel
theorem dJ3_checkIndex_8e157_17 : decode cJ3_checkIndex_8e157 17 = .ok (.ireturn, 1) := by decide +kernel
end
section
/-! the words of nest mates: they hold of a state as long as its tables are alike -/
def xNw : List Cond := [Cond.fieldLinkNest "LitmusRunner$Ordering" 101 "LitmusRunner$Access" "writes" "Z" "LitmusRunner", Cond.fieldLinkNest "LitmusRunner$Ordering" 104 "LitmusRunner$Access" "ownWrite" "I" "LitmusRunner", Cond.fieldLinkNest "LitmusRunner$Ordering" 107 "LitmusRunner$Access" "put" "I" "LitmusRunner", Cond.fieldLinkNest "LitmusRunner$Ordering" 110 "LitmusRunner$Access" "got" "I" "LitmusRunner", Cond.fieldLinkNest "LitmusRunner$Ordering" 119 "LitmusRunner$Access" "kind" "I" "LitmusRunner", Cond.fieldLinkNest "LitmusRunner$Ordering" 122 "LitmusRunner$Access" "byPlace" "I" "LitmusRunner", Cond.fieldLinkNest "LitmusRunner$Ordering" 125 "LitmusRunner$Access" "byValue" "I" "LitmusRunner", Cond.fieldLinkNest "LitmusRunner$Ordering" 128 "LitmusRunner$Access" "twins" "I" "LitmusRunner", Cond.fieldLinkNest "LitmusRunner$Ordering" 131 "LitmusRunner$Access" "reserve" "I" "LitmusRunner", Cond.fieldLinkNest "LitmusRunner$Ordering" 134 "LitmusRunner$Access" "hart" "I" "LitmusRunner", Cond.fieldLinkNest "LitmusRunner$Ordering" 74 "LitmusRunner$Access" "after" "I" "LitmusRunner", Cond.fieldLinkNest "LitmusRunner$Ordering" 80 "LitmusRunner$Access" "reads" "Z" "LitmusRunner", Cond.fieldLinkNest "LitmusRunner$Ordering" 98 "LitmusRunner$Access" "location" "I" "LitmusRunner", Cond.fieldLinkNest "LitmusRunner$Way" 141 "LitmusRunner$Access" "hart" "I" "LitmusRunner", Cond.fieldLinkNest "LitmusRunner$Way" 142 "LitmusRunner$Access" "kind" "I" "LitmusRunner", Cond.fieldLinkNest "LitmusRunner$Way" 145 "LitmusRunner$Access" "marks" "I" "LitmusRunner", Cond.fieldLinkNest "LitmusRunner$Way" 154 "LitmusRunner$Access" "byPlace" "I" "LitmusRunner", Cond.fieldLinkNest "LitmusRunner$Way" 157 "LitmusRunner$Access" "byValue" "I" "LitmusRunner", Cond.fieldLinkNest "LitmusRunner$Way" 160 "LitmusRunner$Access" "reserve" "I" "LitmusRunner", Cond.fieldLinkNest "LitmusRunner$Way" 169 "LitmusRunner$Access" "after" "I" "LitmusRunner", Cond.fieldLinkNest "LitmusRunner$Way" 172 "LitmusRunner$Access" "twins" "I" "LitmusRunner", Cond.fieldLinkNest "LitmusRunner$Way" 175 "LitmusRunner$Access" "ownWrite" "I" "LitmusRunner", Cond.fieldLinkNest "LitmusRunner$Way" 39 "LitmusRunner$Access" "put" "I" "LitmusRunner", Cond.fieldLinkNest "LitmusRunner$Way" 55 "LitmusRunner$Access" "reads" "Z" "LitmusRunner", Cond.fieldLinkNest "LitmusRunner$Way" 59 "LitmusRunner$Access" "got" "I" "LitmusRunner", Cond.fieldLinkNest "LitmusRunner$Way" 66 "LitmusRunner$Access" "writes" "Z" "LitmusRunner", Cond.fieldLinkNest "LitmusRunner$Way" 69 "LitmusRunner$Access" "location" "I" "LitmusRunner", Cond.methodLinkNest "LitmusRunner$Programs" 44 ⟨"LitmusRunner", "isAccess", "(I)Z"⟩ "LitmusRunner", Cond.methodLinkNest "LitmusRunner$Programs" 48 ⟨"LitmusRunner", "isReader", "(I)Z"⟩ "LitmusRunner", Cond.methodLinkNest "LitmusRunner$Way" 148 ⟨"LitmusRunner", "isReader", "(I)Z"⟩ "LitmusRunner", Cond.methodLinkNest "LitmusRunner$Way" 151 ⟨"LitmusRunner", "isWriter", "(I)Z"⟩ "LitmusRunner", Cond.methodLinkNest "LitmusRunner$Way" 25 ⟨"LitmusRunner$Access", "<init>", "()V"⟩ "LitmusRunner"]
def xN (U : State) : Prop := ∀ w ∈ xNw, va_Nw w U
def xNk : Cond → Bool
  | .fieldLinkNest _ _ _ _ _ _ => true
  | .methodLinkNest _ _ _ _ => true
  | _ => false
theorem xNw_k : ∀ w ∈ xNw, xNk w = true := by decide +kernel
theorem xN.warm {s U : State} (hW : s.WarmedH U.vm) (h : xN s) : xN U := by
  intro w hw
  have h1 := h w hw
  have h2 := xNw_k w hw
  cases w with
  | fieldLinkNest a i b n d h => exact va_Nw.warmF hW h1
  | methodLinkNest a i x h => exact va_Nw.warmM hW h1
  | _ => cases h2
theorem xN.same {u U : State} (hv : U.vm = u.vm) (h : xN u) : xN U := by
  intro w hw
  have h1 := h w hw
  have h2 := xNw_k w hw
  cases w with
  | fieldLinkNest a i b n d h => exact va_Nw.same rfl hv.symm h1
  | methodLinkNest a i x h => exact va_Nw.same rfl hv.symm h1
  | _ => cases h2
end
section
/-! the state of the class and of the reference as numbers; their worlds; the kit's rows over these worlds (written by wip/gen/base.py) -/
abbrev St : Type := (Nat → Nat → Int32) × (Nat → Nat → Int32) × (Nat → Nat → Int64)
def wr (S : St) (v i : Nat) (x : Int32) : St := (va_up S.1 v (upd (S.1 v) i x), S.2)
def wrR (S : St) (r i : Nat) (x : Int32) : St := (S.1, va_up S.2.1 r (upd (S.2.1 r) i x), S.2.2)
def wrL (S : St) (v i : Nat) (x : Int64) : St := (S.1, S.2.1, va_up S.2.2 v (vp_updL (S.2.2 v) i x))
def zb (x : Int32) : Prop := x = 0 ∨ x = 1
theorem zb_n {x : Int32} (h : zb x) : narrow .boolean (.int x) = .int x := by rcases h with rfl | rfl <;> rfl
theorem zb_f {x : Int32} (h : zb x) : fits .boolean (.int x) = true := by rcases h with rfl | rfl <;> rfl
theorem zb_0 : zb 0 := Or.inl rfl
theorem zb_1 : zb 1 := Or.inr rfl
def itr {F : Type} (bot : F) (B : F → F) : Nat → F
  | 0 => bot
  | N + 1 => B (itr bot B N)
theorem lt_in {i : Int32} {n : Nat} (h : vp_in i n) : i.toNatClampNeg < n := Nat.not_le.mp fun q => h (Or.inr q)
def xF (ct : Nat → ClassId) (ad : Nat → Nat) (n ro : Nat) (S : St) : va_W :=
  [(ad 0, .inr (6, [.ref (ad 1), .ref (ad 5), .ref (ad 8), .ref (ad 12), .ref (ad 16), .int (S.1 0 0), .int (S.1 1 0), .int (S.1 2 0)])),
   (ad 1, .inr (4, [.ref (ad 2), .ref (ad 3), .ref (ad 4), .int (S.1 3 0), .int (S.1 4 0)])),
   (ad 2, .inl (ct 3, 24, .inr (.inr (.inr (.inr (fun r => some (ad (30 + r)))))))),
   (ad 3, .inl (ct 0, 4, .inl (S.1 20))),
   (ad 4, .inl (ct 0, 6, .inl (S.1 21))),
   (ad 5, .inr (1, [.ref (ad 6), .ref (ad 7), .int (S.1 5 0), .int (S.1 6 0)])),
   (ad 6, .inl (ct 0, 6, .inl (S.1 22))),
   (ad 7, .inl (ct 0, 6, .inl (S.1 23))),
   (ad 8, .inr (5, [.ref (ad 1), .ref (ad 5), .ref (ad 9), .ref (ad 10), .ref (ad 11), .int (S.1 7 0), .int (S.1 8 0), .int (S.1 9 0), .int (S.1 10 0), .int (S.1 11 0), .int (S.1 12 0), .int (S.1 13 0), .int (S.1 14 0), .int (S.1 15 0)])),
   (ad 9, .inl (ct 2, 6, .inr (.inr (.inr (.inr (fun i => some (ad (20 + i)))))))),
   (ad 10, .inl (ct 0, 16, .inl (S.1 24))),
   (ad 11, .inl (ct 0, 16, .inl (S.1 25))),
   (ad 12, .inr (2, [.ref (ad 8), .ref (ad 16), .ref (ad 13), .ref (ad 14), .ref (ad 15), .long (S.2.2 0 0), .int (S.1 16 0)])),
   (ad 13, .inl (ct 0, 6, .inl (S.1 26))),
   (ad 14, .inl (ct 0, 6, .inl (S.1 27))),
   (ad 15, .inl (ct 0, 3, .inl (S.1 28))),
   (ad 16, .inr (3, [.ref ro, .int (S.1 17 0)])),
   (ro, .inl (ct 1, n, .inr (.inl (S.2.2 1))))]
def xaf (S : St) (i : Nat) : List Value := [.int (S.1 30 i), .int (S.1 31 i), .int (S.1 32 i), .int (S.1 33 i), .int (S.1 34 i), .int (S.1 35 i), .int (S.1 36 i), .int (S.1 37 i), .int (S.1 38 i), .int (S.1 39 i), .int (S.1 40 i), .int (S.1 41 i), .int (S.1 42 i), .int (S.1 43 i)]
def xPA (ad : Nat → Nat) (S : St) : va_W := (List.range 6).map (fun i => (ad (20 + i), .inr (0, xaf S i)))
def xPR (ct : Nat → ClassId) (ad : Nat → Nat) (S : St) : va_W := (List.range 24).map (fun r => (ad (30 + r), .inl (ct 0, 6, .inl (S.2.1 r))))
def wX (ct : Nat → ClassId) (ad : Nat → Nat) (n ro : Nat) (S : St) : va_W := xF ct ad n ro S ++ (xPA ad S ++ xPR ct ad S)
abbrev xT (ct : Nat → ClassId) : List (ClassId × FieldType) := [(ct 0, .int), (ct 1, .long), (ct 2, .object "LitmusRunner$Access"), (ct 3, .array .int)]
def wM (ct : Nat → ClassId) (ad : Nat → Nat) (S : St) : va_W :=
  [(ad 0, .inr (7, [.int (S.1 0 0), .ref (ad 1), .ref (ad 2), .int (S.1 3 0), .ref (ad 3), .int (S.1 5 0), .int (S.1 6 0), .ref (ad 4), .ref (ad 5), .int (S.1 9 0), .int (S.1 10 0), .ref (ad 6), .ref (ad 7), .int (S.1 13 0), .ref (ad 8), .ref (ad 9), .ref (ad 10), .ref (ad 11), .ref (ad 12), .ref (ad 13), .ref (ad 14), .ref (ad 15), .ref (ad 16), .ref (ad 17), .int (S.1 24 0), .ref (ad 18), .ref (ad 19), .ref (ad 20), .ref (ad 21), .ref (ad 22), .ref (ad 23), .ref (ad 24), .ref (ad 25), .int (S.1 33 0), .int (S.1 34 0)])),
   (ad 1, .inl (ct 0, 144, .inl (S.1 1))),
   (ad 2, .inl (ct 0, 4, .inl (S.1 2))),
   (ad 3, .inl (ct 1, 40000, .inr (.inl (S.2.2 0)))),
   (ad 4, .inl (ct 0, 64, .inl (S.1 7))),
   (ad 5, .inl (ct 0, 64, .inl (S.1 8))),
   (ad 6, .inl (ct 0, 16, .inl (S.1 11))),
   (ad 7, .inl (ct 0, 16, .inl (S.1 12))),
   (ad 8, .inl (ct 0, 6, .inl (S.1 14))),
   (ad 9, .inl (ct 0, 6, .inl (S.1 15))),
   (ad 10, .inl (ct 0, 6, .inl (S.1 16))),
   (ad 11, .inl (ct 0, 6, .inl (S.1 17))),
   (ad 12, .inl (ct 0, 6, .inl (S.1 18))),
   (ad 13, .inl (ct 0, 6, .inl (S.1 19))),
   (ad 14, .inl (ct 0, 6, .inl (S.1 20))),
   (ad 15, .inl (ct 0, 6, .inl (S.1 21))),
   (ad 16, .inl (ct 0, 6, .inl (S.1 22))),
   (ad 17, .inl (ct 0, 6, .inl (S.1 23))),
   (ad 18, .inl (ct 0, 24, .inl (S.1 25))),
   (ad 19, .inl (ct 0, 24, .inl (S.1 26))),
   (ad 20, .inl (ct 0, 24, .inl (S.1 27))),
   (ad 21, .inl (ct 0, 24, .inl (S.1 28))),
   (ad 22, .inl (ct 4, 36, .inl (S.1 29))),
   (ad 23, .inl (ct 0, 6, .inl (S.1 30))),
   (ad 24, .inl (ct 0, 6, .inl (S.1 31))),
   (ad 25, .inl (ct 0, 6, .inl (S.1 32)))]
abbrev mT (ct : Nat → ClassId) : List (ClassId × FieldType) := [(ct 0, .int), (ct 1, .long), (ct 4, .boolean)]
section WXS
variable {p : Program} {l : Launch} {e : Env} {R : Room} {s : State} {m : MethodId} {args : Array Value} {below : List Frame} {meth : Method} {c : Code} {H : Heap} {locs : List Loc} {cells slots : Nat} {QQ : State → Prop} {cc : ByteArray} {nL : Nat} {own : String} {Ts : List Cond} {pc : Nat} {ls : Array Slot} {rest : List Value} {g : va_G} {ct : Nat → ClassId} {ad : Nat → Nat} {A : Nat → Prop} {H0 : Heap} {S : St} {n ro : Nat}
theorem wX_acc {i : Nat} (hi : i < 6) : (wX ct ad n ro S)[18 + i]? = some (ad (20 + i), .inr (0, xaf S i)) := by
  unfold wX
  rw [List.getElem?_append_right (by show 18 ≤ 18 + i; omega)]
  rw [show 18 + i - (xF ct ad n ro S).length = i from by show 18 + i - 18 = i; omega]
  rw [List.getElem?_append_left (by simp [xPA]; exact hi)]
  simp [xPA, hi]
theorem wX_row {r : Nat} (hr : r < 24) : (wX ct ad n ro S)[24 + r]? = some (ad (30 + r), .inl (ct 0, 6, .inl (S.2.1 r))) := by
  unfold wX
  rw [List.getElem?_append_right (by show 18 ≤ 24 + r; omega)]
  rw [show 24 + r - (xF ct ad n ro S).length = 6 + r from by show 24 + r - 18 = 6 + r; omega]
  rw [List.getElem?_append_right (by simp [xPA]), show 6 + r - (xPA ad S).length = r from by simp [xPA]]
  simp [xPR, hr]
theorem wX_accS {i v : Nat} (hi : i < 6) {x : Int32} (j : Nat) (hv : v = 30 + j) (hj : j < 14) : (wX ct ad n ro S).set (18 + i) (ad (20 + i), .inr (0, (xaf S i).set j (.int x))) = wX ct ad n ro (wr S v i x) := by
  subst hv
  unfold wX
  rw [List.set_append_right (h := by show 18 ≤ 18 + i; omega)]
  rw [show 18 + i - (xF ct ad n ro S).length = i from by show 18 + i - 18 = i; omega]
  rw [List.set_append_left (h := by simp [xPA]; exact hi)]
  have h1 : xF ct ad n ro (wr S (30 + j) i x) = xF ct ad n ro S := by
    unfold xF wr
    simp only [va_up]
    repeat rw [if_neg (by omega)]
  have h2 : (xPA ad S).set i (ad (20 + i), .inr (0, (xaf S i).set j (.int x))) = xPA ad (wr S (30 + j) i x) := by
    apply List.ext_getElem?
    intro k
    rw [List.getElem?_set]
    by_cases hk : k < 6
    · by_cases e : i = k
      · subst e
        rw [if_pos rfl, if_pos (by simp [xPA]; exact hi)]
        simp only [xPA, List.getElem?_map, List.getElem?_range hk, Option.map_some]
        congr 3
        rcases (show j = 0 ∨ j = 1 ∨ j = 2 ∨ j = 3 ∨ j = 4 ∨ j = 5 ∨ j = 6 ∨ j = 7 ∨ j = 8 ∨ j = 9 ∨ j = 10 ∨ j = 11 ∨ j = 12 ∨ j = 13 by omega) with rfl | rfl | rfl | rfl | rfl | rfl | rfl | rfl | rfl | rfl | rfl | rfl | rfl | rfl <;> simp [xaf, wr, va_up, upd]
      · rw [if_neg e]
        simp only [xPA, List.getElem?_map, List.getElem?_range hk, Option.map_some]
        congr 3
        have e2 : ¬ k = i := fun q => e q.symm
        rcases (show j = 0 ∨ j = 1 ∨ j = 2 ∨ j = 3 ∨ j = 4 ∨ j = 5 ∨ j = 6 ∨ j = 7 ∨ j = 8 ∨ j = 9 ∨ j = 10 ∨ j = 11 ∨ j = 12 ∨ j = 13 by omega) with rfl | rfl | rfl | rfl | rfl | rfl | rfl | rfl | rfl | rfl | rfl | rfl | rfl | rfl <;> simp [xaf, wr, va_up, upd, e2]
    · rw [if_neg (by omega)]
      simp [xPA, hk]
  rw [h1, h2]
  rfl
theorem wX_rowS {r k : Nat} (hr : r < 24) {x : Int32} : (wX ct ad n ro S).set (24 + r) (ad (30 + r), .inl (ct 0, 6, .inl (upd (S.2.1 r) k x))) = wX ct ad n ro (wrR S r k x) := by
  unfold wX
  rw [List.set_append_right (h := by show 18 ≤ 24 + r; omega)]
  rw [show 24 + r - (xF ct ad n ro S).length = 6 + r from by show 24 + r - 18 = 6 + r; omega]
  rw [List.set_append_right (h := by simp [xPA]), show 6 + r - (xPA ad S).length = r from by simp [xPA]]
  have h2 : (xPR ct ad S).set r (ad (30 + r), .inl (ct 0, 6, .inl (upd (S.2.1 r) k x))) = xPR ct ad (wrR S r k x) := by
    apply List.ext_getElem?
    intro q
    rw [List.getElem?_set]
    by_cases hk : q < 24
    · by_cases e : r = q
      · subst e
        rw [if_pos rfl, if_pos (by simp [xPR]; exact hr)]
        simp [xPR, hk, wrR, va_up]
      · rw [if_neg e]
        have e2 : ¬ q = r := fun z => e z.symm
        simp [xPR, hk, wrR, va_up, e2]
    · rw [if_neg (by omega)]
      simp [xPR, hk]
  rw [h2]
  rfl
end WXS
theorem g_ald2 {D : va_G} {cl : List vw_C} {tys : List (ClassId × FieldType)} {ws : va_W} {a : Nat} {p : Program} {l : Launch} {e : Env} {R : Room} {s : State} {m : MethodId} {args : Array Value} {below : List Frame} {meth : Method} {c : Code} {H : Heap} {locs : List Loc} {cells slots : Nat} {Q : State → Prop} {cc : ByteArray} {pc : Nat} {ls : Array Slot} {rest : List Value} (hexec : p.tables.exec = Jvm.exec) (hb : c.code = cc) (hK : va_K D cl tys s) (hP : va_P D cl ws H) (q0 t0 : Nat) {cA : ClassId} {ty : FieldType} {n : Nat} {f : Nat → Option Nat} (ha : ws[q0]? = some (a, .inl (cA, n, .inr (.inr (.inr (.inr f)))))) (ht : tys[t0]? = some (cA, .array ty)) {i : Int32} (hin : vp_in i n) (hdg : decode cc pc = .ok (.aaload, 1))
    (kk : W p l e R s m args below meth c H locs cells slots Q (F0 m (pc + 1) ls (va_rf (f i.toNatClampNeg) :: rest))) : W p l e R s m args below meth c H locs cells slots Q (F0 m pc ls (.int i :: .ref a :: rest)) := by
  have hlt : i.toNatClampNeg < n := Nat.not_le.mp fun q => hin (Or.inr q)
  exact W.aald (v := va_rf (f i.toNatClampNeg)) (ty := .array ty) hexec hb (hP q0 _ ha) ((hK.2 t0 _ ht).1 n (fun j => va_rf (f j))) rfl (fun q => by cases q) (by show ¬ (i < 0 ∨ (arrV _ _ _).slots.size ≤ _); rw [arrV_size]; exact hin) (by show (arrV _ _ _).slots[_]? = _; rw [arrV_read _ _ hlt]) rfl rfl hdg kk
section XW
variable {p : Program} {l : Launch} {e : Env} {R : Room} {s : State} {m : MethodId} {args : Array Value} {below : List Frame} {meth : Method} {c : Code} {H : Heap} {locs : List Loc} {cells slots : Nat} {QQ : State → Prop} {cc : ByteArray} {nL : Nat} {own : String} {Ts : List Cond} {pc : Nat} {ls : Array Slot} {rest : List Value} {g : va_G} {ct : Nat → ClassId} {ad : Nat → Nat} {A : Nat → Prop} {H0 : Heap} {S : St} {n ro : Nat}
theorem xg6_programs (C : CallFix p m c cc nL s args Ts own) (hin : ∀ w ∈ wsX60, w ∈ Ts) (hK : va_K g vwCl (xT ct) s) (hP : va_P g vwCl (wX ct ad n ro S) H) {index : Nat} (hlink : Cond.fieldLink own index "LitmusRunner" "programs" "LLitmusRunner$Programs;" ∈ Ts) (hdg : decode cc pc = .ok (.getfield index, 3)) (kk : W p l e R s m args below meth c H locs cells slots QQ (F0 m (pc + 3) ls (.ref (ad 1) :: rest))) : W p l e R s m args below meth c H locs cells slots QQ (F0 m pc ls (.ref (ad 0) :: rest)) :=
  va_get (D := g) (ci := 6) (v := .ref (ad 1)) (C := RX6) (T := TX6) (N := 8) C.1 C.2.1 C.2.2.2.2 hin C.2.2.2.1 hK hP 0 rfl rfl 0 (by decide) (C.2.2.2.2 _ hlink) (fun _ h9 => h9) rfl hdg kk
theorem xg6_choices (C : CallFix p m c cc nL s args Ts own) (hin : ∀ w ∈ wsX60, w ∈ Ts) (hK : va_K g vwCl (xT ct) s) (hP : va_P g vwCl (wX ct ad n ro S) H) {index : Nat} (hlink : Cond.fieldLink own index "LitmusRunner" "choices" "LLitmusRunner$Choices;" ∈ Ts) (hdg : decode cc pc = .ok (.getfield index, 3)) (kk : W p l e R s m args below meth c H locs cells slots QQ (F0 m (pc + 3) ls (.ref (ad 5) :: rest))) : W p l e R s m args below meth c H locs cells slots QQ (F0 m pc ls (.ref (ad 0) :: rest)) :=
  va_get (D := g) (ci := 6) (v := .ref (ad 5)) (C := RX6) (T := TX6) (N := 8) C.1 C.2.1 C.2.2.2.2 hin C.2.2.2.1 hK hP 0 rfl rfl 1 (by decide) (C.2.2.2.2 _ hlink) (fun _ h9 => h9) rfl hdg kk
theorem xg6_way (C : CallFix p m c cc nL s args Ts own) (hin : ∀ w ∈ wsX60, w ∈ Ts) (hK : va_K g vwCl (xT ct) s) (hP : va_P g vwCl (wX ct ad n ro S) H) {index : Nat} (hlink : Cond.fieldLink own index "LitmusRunner" "way" "LLitmusRunner$Way;" ∈ Ts) (hdg : decode cc pc = .ok (.getfield index, 3)) (kk : W p l e R s m args below meth c H locs cells slots QQ (F0 m (pc + 3) ls (.ref (ad 8) :: rest))) : W p l e R s m args below meth c H locs cells slots QQ (F0 m pc ls (.ref (ad 0) :: rest)) :=
  va_get (D := g) (ci := 6) (v := .ref (ad 8)) (C := RX6) (T := TX6) (N := 8) C.1 C.2.1 C.2.2.2.2 hin C.2.2.2.1 hK hP 0 rfl rfl 2 (by decide) (C.2.2.2.2 _ hlink) (fun _ h9 => h9) rfl hdg kk
theorem xg6_ordering (C : CallFix p m c cc nL s args Ts own) (hin : ∀ w ∈ wsX60, w ∈ Ts) (hK : va_K g vwCl (xT ct) s) (hP : va_P g vwCl (wX ct ad n ro S) H) {index : Nat} (hlink : Cond.fieldLink own index "LitmusRunner" "ordering" "LLitmusRunner$Ordering;" ∈ Ts) (hdg : decode cc pc = .ok (.getfield index, 3)) (kk : W p l e R s m args below meth c H locs cells slots QQ (F0 m (pc + 3) ls (.ref (ad 12) :: rest))) : W p l e R s m args below meth c H locs cells slots QQ (F0 m pc ls (.ref (ad 0) :: rest)) :=
  va_get (D := g) (ci := 6) (v := .ref (ad 12)) (C := RX6) (T := TX6) (N := 8) C.1 C.2.1 C.2.2.2.2 hin C.2.2.2.1 hK hP 0 rfl rfl 3 (by decide) (C.2.2.2.2 _ hlink) (fun _ h9 => h9) rfl hdg kk
theorem xg6_outcomes (C : CallFix p m c cc nL s args Ts own) (hin : ∀ w ∈ wsX60, w ∈ Ts) (hK : va_K g vwCl (xT ct) s) (hP : va_P g vwCl (wX ct ad n ro S) H) {index : Nat} (hlink : Cond.fieldLink own index "LitmusRunner" "outcomes" "LLitmusRunner$Outcomes;" ∈ Ts) (hdg : decode cc pc = .ok (.getfield index, 3)) (kk : W p l e R s m args below meth c H locs cells slots QQ (F0 m (pc + 3) ls (.ref (ad 16) :: rest))) : W p l e R s m args below meth c H locs cells slots QQ (F0 m pc ls (.ref (ad 0) :: rest)) :=
  va_get (D := g) (ci := 6) (v := .ref (ad 16)) (C := RX6) (T := TX6) (N := 8) C.1 C.2.1 C.2.2.2.2 hin C.2.2.2.1 hK hP 0 rfl rfl 4 (by decide) (C.2.2.2.2 _ hlink) (fun _ h9 => h9) rfl hdg kk
theorem xg6_model (C : CallFix p m c cc nL s args Ts own) (hin : ∀ w ∈ wsX60, w ∈ Ts) (hK : va_K g vwCl (xT ct) s) (hP : va_P g vwCl (wX ct ad n ro S) H) {index : Nat} (hlink : Cond.fieldLink own index "LitmusRunner" "model" "I" ∈ Ts) (hdg : decode cc pc = .ok (.getfield index, 3)) (kk : W p l e R s m args below meth c H locs cells slots QQ (F0 m (pc + 3) ls (.int (S.1 0 0) :: rest))) : W p l e R s m args below meth c H locs cells slots QQ (F0 m pc ls (.ref (ad 0) :: rest)) :=
  va_get (D := g) (ci := 6) (v := .int (S.1 0 0)) (C := RX6) (T := TX6) (N := 8) C.1 C.2.1 C.2.2.2.2 hin C.2.2.2.1 hK hP 0 rfl rfl 5 (by decide) (C.2.2.2.2 _ hlink) (fun _ h9 => h9) rfl hdg kk
theorem xp6_model (C : CallFix p m c cc nL s args Ts own) (hin : ∀ w ∈ wsX60, w ∈ Ts) (hK : va_K g vwCl (xT ct) s) (hP : va_P g vwCl (wX ct ad n ro S) H) (hD : va_D A (wX ct ad n ro S)) (hS : va_S A H0 H locs) {index : Nat} (hlink : Cond.fieldLink own index "LitmusRunner" "model" "I" ∈ Ts) {x : Int32} (hdg : decode cc pc = .ok (.putfield index, 3)) (kk : ∀ (H1 : Heap) (locs1 : List Loc), va_P g vwCl (wX ct ad n ro (wr S 0 0 x)) H1 → va_D A (wX ct ad n ro (wr S 0 0 x)) → va_S A H0 H1 locs1 → W p l e R s m args below meth c H1 locs1 cells slots QQ (F0 m (pc + 3) ls rest)) : W p l e R s m args below meth c H locs cells slots QQ (F0 m pc ls (.int x :: .ref (ad 0) :: rest)) := by
  refine va_put (D := g) (ci := 6) (v := .int x) (ty := .int) (C := RX6) (T := TX6) (N := 8) C.1 C.2.1 C.2.2.2.2 hin tyX6 tyX6_ok nmX6 C.2.2.2.1 hK hP hD hS 0 rfl rfl 5 (by decide) (C.2.2.2.2 _ hlink) (fun _ h9 => h9) rfl (by decide +kernel) rfl rfl (Nat.le_of_ble_eq_true rfl) hdg (fun H1 locs1 a b d => ?_)
  have e : (wX ct ad n ro S).set 0 (ad 0, .inr (6, ([.ref (ad 1), .ref (ad 5), .ref (ad 8), .ref (ad 12), .ref (ad 16), .int (S.1 0 0), .int (S.1 1 0), .int (S.1 2 0)] : List Value).set 5 (.int x))) = wX ct ad n ro (wr S 0 0 x) := rfl
  rw [e] at a b
  exact kk H1 locs1 a b d
theorem xg6_ways (C : CallFix p m c cc nL s args Ts own) (hin : ∀ w ∈ wsX60, w ∈ Ts) (hK : va_K g vwCl (xT ct) s) (hP : va_P g vwCl (wX ct ad n ro S) H) {index : Nat} (hlink : Cond.fieldLink own index "LitmusRunner" "ways" "I" ∈ Ts) (hdg : decode cc pc = .ok (.getfield index, 3)) (kk : W p l e R s m args below meth c H locs cells slots QQ (F0 m (pc + 3) ls (.int (S.1 1 0) :: rest))) : W p l e R s m args below meth c H locs cells slots QQ (F0 m pc ls (.ref (ad 0) :: rest)) :=
  va_get (D := g) (ci := 6) (v := .int (S.1 1 0)) (C := RX6) (T := TX6) (N := 8) C.1 C.2.1 C.2.2.2.2 hin C.2.2.2.1 hK hP 0 rfl rfl 6 (by decide) (C.2.2.2.2 _ hlink) (fun _ h9 => h9) rfl hdg kk
theorem xp6_ways (C : CallFix p m c cc nL s args Ts own) (hin : ∀ w ∈ wsX60, w ∈ Ts) (hK : va_K g vwCl (xT ct) s) (hP : va_P g vwCl (wX ct ad n ro S) H) (hD : va_D A (wX ct ad n ro S)) (hS : va_S A H0 H locs) {index : Nat} (hlink : Cond.fieldLink own index "LitmusRunner" "ways" "I" ∈ Ts) {x : Int32} (hdg : decode cc pc = .ok (.putfield index, 3)) (kk : ∀ (H1 : Heap) (locs1 : List Loc), va_P g vwCl (wX ct ad n ro (wr S 1 0 x)) H1 → va_D A (wX ct ad n ro (wr S 1 0 x)) → va_S A H0 H1 locs1 → W p l e R s m args below meth c H1 locs1 cells slots QQ (F0 m (pc + 3) ls rest)) : W p l e R s m args below meth c H locs cells slots QQ (F0 m pc ls (.int x :: .ref (ad 0) :: rest)) := by
  refine va_put (D := g) (ci := 6) (v := .int x) (ty := .int) (C := RX6) (T := TX6) (N := 8) C.1 C.2.1 C.2.2.2.2 hin tyX6 tyX6_ok nmX6 C.2.2.2.1 hK hP hD hS 0 rfl rfl 6 (by decide) (C.2.2.2.2 _ hlink) (fun _ h9 => h9) rfl (by decide +kernel) rfl rfl (Nat.le_of_ble_eq_true rfl) hdg (fun H1 locs1 a b d => ?_)
  have e : (wX ct ad n ro S).set 0 (ad 0, .inr (6, ([.ref (ad 1), .ref (ad 5), .ref (ad 8), .ref (ad 12), .ref (ad 16), .int (S.1 0 0), .int (S.1 1 0), .int (S.1 2 0)] : List Value).set 6 (.int x))) = wX ct ad n ro (wr S 1 0 x) := rfl
  rw [e] at a b
  exact kk H1 locs1 a b d
theorem xg6_found (C : CallFix p m c cc nL s args Ts own) (hin : ∀ w ∈ wsX60, w ∈ Ts) (hK : va_K g vwCl (xT ct) s) (hP : va_P g vwCl (wX ct ad n ro S) H) {index : Nat} (hlink : Cond.fieldLink own index "LitmusRunner" "found" "Z" ∈ Ts) (hdg : decode cc pc = .ok (.getfield index, 3)) (kk : W p l e R s m args below meth c H locs cells slots QQ (F0 m (pc + 3) ls (.int (S.1 2 0) :: rest))) : W p l e R s m args below meth c H locs cells slots QQ (F0 m pc ls (.ref (ad 0) :: rest)) :=
  va_get (D := g) (ci := 6) (v := .int (S.1 2 0)) (C := RX6) (T := TX6) (N := 8) C.1 C.2.1 C.2.2.2.2 hin C.2.2.2.1 hK hP 0 rfl rfl 7 (by decide) (C.2.2.2.2 _ hlink) (fun _ h9 => h9) rfl hdg kk
theorem xp6_found (C : CallFix p m c cc nL s args Ts own) (hin : ∀ w ∈ wsX60, w ∈ Ts) (hK : va_K g vwCl (xT ct) s) (hP : va_P g vwCl (wX ct ad n ro S) H) (hD : va_D A (wX ct ad n ro S)) (hS : va_S A H0 H locs) {index : Nat} (hlink : Cond.fieldLink own index "LitmusRunner" "found" "Z" ∈ Ts) {x : Int32} (hz : zb x) (hdg : decode cc pc = .ok (.putfield index, 3)) (kk : ∀ (H1 : Heap) (locs1 : List Loc), va_P g vwCl (wX ct ad n ro (wr S 2 0 x)) H1 → va_D A (wX ct ad n ro (wr S 2 0 x)) → va_S A H0 H1 locs1 → W p l e R s m args below meth c H1 locs1 cells slots QQ (F0 m (pc + 3) ls rest)) : W p l e R s m args below meth c H locs cells slots QQ (F0 m pc ls (.int x :: .ref (ad 0) :: rest)) := by
  refine va_put (D := g) (ci := 6) (v := .int x) (ty := .boolean) (C := RX6) (T := TX6) (N := 8) C.1 C.2.1 C.2.2.2.2 hin tyX6 tyX6_ok nmX6 C.2.2.2.1 hK hP hD hS 0 rfl rfl 7 (by decide) (C.2.2.2.2 _ hlink) (fun _ h9 => h9) rfl (by decide +kernel) (zb_n hz) (zb_f hz) (Nat.le_of_ble_eq_true rfl) hdg (fun H1 locs1 a b d => ?_)
  have e : (wX ct ad n ro S).set 0 (ad 0, .inr (6, ([.ref (ad 1), .ref (ad 5), .ref (ad 8), .ref (ad 12), .ref (ad 16), .int (S.1 0 0), .int (S.1 1 0), .int (S.1 2 0)] : List Value).set 7 (.int x))) = wX ct ad n ro (wr S 2 0 x) := rfl
  rw [e] at a b
  exact kk H1 locs1 a b d
theorem xg4_rows (C : CallFix p m c cc nL s args Ts own) (hin : ∀ w ∈ wsX40, w ∈ Ts) (hK : va_K g vwCl (xT ct) s) (hP : va_P g vwCl (wX ct ad n ro S) H) {index : Nat} (hlink : Cond.fieldLink own index "LitmusRunner$Programs" "rows" "[[I" ∈ Ts) (hdg : decode cc pc = .ok (.getfield index, 3)) (kk : W p l e R s m args below meth c H locs cells slots QQ (F0 m (pc + 3) ls (.ref (ad 2) :: rest))) : W p l e R s m args below meth c H locs cells slots QQ (F0 m pc ls (.ref (ad 1) :: rest)) :=
  va_get (D := g) (ci := 4) (v := .ref (ad 2)) (C := RX4) (T := TX4) (N := 5) C.1 C.2.1 C.2.2.2.2 hin C.2.2.2.1 hK hP 1 rfl rfl 0 (by decide) (C.2.2.2.2 _ hlink) (fun _ h9 => h9) rfl hdg kk
theorem xg4_lengths (C : CallFix p m c cc nL s args Ts own) (hin : ∀ w ∈ wsX40, w ∈ Ts) (hK : va_K g vwCl (xT ct) s) (hP : va_P g vwCl (wX ct ad n ro S) H) {index : Nat} (hlink : Cond.fieldLink own index "LitmusRunner$Programs" "lengths" "[I" ∈ Ts) (hdg : decode cc pc = .ok (.getfield index, 3)) (kk : W p l e R s m args below meth c H locs cells slots QQ (F0 m (pc + 3) ls (.ref (ad 3) :: rest))) : W p l e R s m args below meth c H locs cells slots QQ (F0 m pc ls (.ref (ad 1) :: rest)) :=
  va_get (D := g) (ci := 4) (v := .ref (ad 3)) (C := RX4) (T := TX4) (N := 5) C.1 C.2.1 C.2.2.2.2 hin C.2.2.2.1 hK hP 1 rfl rfl 1 (by decide) (C.2.2.2.2 _ hlink) (fun _ h9 => h9) rfl hdg kk
theorem xg4_draft (C : CallFix p m c cc nL s args Ts own) (hin : ∀ w ∈ wsX40, w ∈ Ts) (hK : va_K g vwCl (xT ct) s) (hP : va_P g vwCl (wX ct ad n ro S) H) {index : Nat} (hlink : Cond.fieldLink own index "LitmusRunner$Programs" "draft" "[I" ∈ Ts) (hdg : decode cc pc = .ok (.getfield index, 3)) (kk : W p l e R s m args below meth c H locs cells slots QQ (F0 m (pc + 3) ls (.ref (ad 4) :: rest))) : W p l e R s m args below meth c H locs cells slots QQ (F0 m pc ls (.ref (ad 1) :: rest)) :=
  va_get (D := g) (ci := 4) (v := .ref (ad 4)) (C := RX4) (T := TX4) (N := 5) C.1 C.2.1 C.2.2.2.2 hin C.2.2.2.1 hK hP 1 rfl rfl 2 (by decide) (C.2.2.2.2 _ hlink) (fun _ h9 => h9) rfl hdg kk
theorem xg4_accesses (C : CallFix p m c cc nL s args Ts own) (hin : ∀ w ∈ wsX40, w ∈ Ts) (hK : va_K g vwCl (xT ct) s) (hP : va_P g vwCl (wX ct ad n ro S) H) {index : Nat} (hlink : Cond.fieldLink own index "LitmusRunner$Programs" "accesses" "I" ∈ Ts) (hdg : decode cc pc = .ok (.getfield index, 3)) (kk : W p l e R s m args below meth c H locs cells slots QQ (F0 m (pc + 3) ls (.int (S.1 3 0) :: rest))) : W p l e R s m args below meth c H locs cells slots QQ (F0 m pc ls (.ref (ad 1) :: rest)) :=
  va_get (D := g) (ci := 4) (v := .int (S.1 3 0)) (C := RX4) (T := TX4) (N := 5) C.1 C.2.1 C.2.2.2.2 hin C.2.2.2.1 hK hP 1 rfl rfl 3 (by decide) (C.2.2.2.2 _ hlink) (fun _ h9 => h9) rfl hdg kk
theorem xp4_accesses (C : CallFix p m c cc nL s args Ts own) (hin : ∀ w ∈ wsX40, w ∈ Ts) (hK : va_K g vwCl (xT ct) s) (hP : va_P g vwCl (wX ct ad n ro S) H) (hD : va_D A (wX ct ad n ro S)) (hS : va_S A H0 H locs) {index : Nat} (hlink : Cond.fieldLink own index "LitmusRunner$Programs" "accesses" "I" ∈ Ts) {x : Int32} (hdg : decode cc pc = .ok (.putfield index, 3)) (kk : ∀ (H1 : Heap) (locs1 : List Loc), va_P g vwCl (wX ct ad n ro (wr S 3 0 x)) H1 → va_D A (wX ct ad n ro (wr S 3 0 x)) → va_S A H0 H1 locs1 → W p l e R s m args below meth c H1 locs1 cells slots QQ (F0 m (pc + 3) ls rest)) : W p l e R s m args below meth c H locs cells slots QQ (F0 m pc ls (.int x :: .ref (ad 1) :: rest)) := by
  refine va_put (D := g) (ci := 4) (v := .int x) (ty := .int) (C := RX4) (T := TX4) (N := 5) C.1 C.2.1 C.2.2.2.2 hin tyX4 tyX4_ok nmX4 C.2.2.2.1 hK hP hD hS 1 rfl rfl 3 (by decide) (C.2.2.2.2 _ hlink) (fun _ h9 => h9) rfl (by decide +kernel) rfl rfl (Nat.le_of_ble_eq_true rfl) hdg (fun H1 locs1 a b d => ?_)
  have e : (wX ct ad n ro S).set 1 (ad 1, .inr (4, ([.ref (ad 2), .ref (ad 3), .ref (ad 4), .int (S.1 3 0), .int (S.1 4 0)] : List Value).set 3 (.int x))) = wX ct ad n ro (wr S 3 0 x) := rfl
  rw [e] at a b
  exact kk H1 locs1 a b d
theorem xg4_readers (C : CallFix p m c cc nL s args Ts own) (hin : ∀ w ∈ wsX40, w ∈ Ts) (hK : va_K g vwCl (xT ct) s) (hP : va_P g vwCl (wX ct ad n ro S) H) {index : Nat} (hlink : Cond.fieldLink own index "LitmusRunner$Programs" "readers" "I" ∈ Ts) (hdg : decode cc pc = .ok (.getfield index, 3)) (kk : W p l e R s m args below meth c H locs cells slots QQ (F0 m (pc + 3) ls (.int (S.1 4 0) :: rest))) : W p l e R s m args below meth c H locs cells slots QQ (F0 m pc ls (.ref (ad 1) :: rest)) :=
  va_get (D := g) (ci := 4) (v := .int (S.1 4 0)) (C := RX4) (T := TX4) (N := 5) C.1 C.2.1 C.2.2.2.2 hin C.2.2.2.1 hK hP 1 rfl rfl 4 (by decide) (C.2.2.2.2 _ hlink) (fun _ h9 => h9) rfl hdg kk
theorem xp4_readers (C : CallFix p m c cc nL s args Ts own) (hin : ∀ w ∈ wsX40, w ∈ Ts) (hK : va_K g vwCl (xT ct) s) (hP : va_P g vwCl (wX ct ad n ro S) H) (hD : va_D A (wX ct ad n ro S)) (hS : va_S A H0 H locs) {index : Nat} (hlink : Cond.fieldLink own index "LitmusRunner$Programs" "readers" "I" ∈ Ts) {x : Int32} (hdg : decode cc pc = .ok (.putfield index, 3)) (kk : ∀ (H1 : Heap) (locs1 : List Loc), va_P g vwCl (wX ct ad n ro (wr S 4 0 x)) H1 → va_D A (wX ct ad n ro (wr S 4 0 x)) → va_S A H0 H1 locs1 → W p l e R s m args below meth c H1 locs1 cells slots QQ (F0 m (pc + 3) ls rest)) : W p l e R s m args below meth c H locs cells slots QQ (F0 m pc ls (.int x :: .ref (ad 1) :: rest)) := by
  refine va_put (D := g) (ci := 4) (v := .int x) (ty := .int) (C := RX4) (T := TX4) (N := 5) C.1 C.2.1 C.2.2.2.2 hin tyX4 tyX4_ok nmX4 C.2.2.2.1 hK hP hD hS 1 rfl rfl 4 (by decide) (C.2.2.2.2 _ hlink) (fun _ h9 => h9) rfl (by decide +kernel) rfl rfl (Nat.le_of_ble_eq_true rfl) hdg (fun H1 locs1 a b d => ?_)
  have e : (wX ct ad n ro S).set 1 (ad 1, .inr (4, ([.ref (ad 2), .ref (ad 3), .ref (ad 4), .int (S.1 3 0), .int (S.1 4 0)] : List Value).set 4 (.int x))) = wX ct ad n ro (wr S 4 0 x) := rfl
  rw [e] at a b
  exact kk H1 locs1 a b d
theorem xg1_chosen (C : CallFix p m c cc nL s args Ts own) (hin : ∀ w ∈ wsX10, w ∈ Ts) (hK : va_K g vwCl (xT ct) s) (hP : va_P g vwCl (wX ct ad n ro S) H) {index : Nat} (hlink : Cond.fieldLink own index "LitmusRunner$Choices" "chosen" "[I" ∈ Ts) (hdg : decode cc pc = .ok (.getfield index, 3)) (kk : W p l e R s m args below meth c H locs cells slots QQ (F0 m (pc + 3) ls (.ref (ad 6) :: rest))) : W p l e R s m args below meth c H locs cells slots QQ (F0 m pc ls (.ref (ad 5) :: rest)) :=
  va_get (D := g) (ci := 1) (v := .ref (ad 6)) (C := RX1) (T := TX1) (N := 4) C.1 C.2.1 C.2.2.2.2 hin C.2.2.2.1 hK hP 5 rfl rfl 0 (by decide) (C.2.2.2.2 _ hlink) (fun _ h9 => h9) rfl hdg kk
theorem xg1_limits (C : CallFix p m c cc nL s args Ts own) (hin : ∀ w ∈ wsX10, w ∈ Ts) (hK : va_K g vwCl (xT ct) s) (hP : va_P g vwCl (wX ct ad n ro S) H) {index : Nat} (hlink : Cond.fieldLink own index "LitmusRunner$Choices" "limits" "[I" ∈ Ts) (hdg : decode cc pc = .ok (.getfield index, 3)) (kk : W p l e R s m args below meth c H locs cells slots QQ (F0 m (pc + 3) ls (.ref (ad 7) :: rest))) : W p l e R s m args below meth c H locs cells slots QQ (F0 m pc ls (.ref (ad 5) :: rest)) :=
  va_get (D := g) (ci := 1) (v := .ref (ad 7)) (C := RX1) (T := TX1) (N := 4) C.1 C.2.1 C.2.2.2.2 hin C.2.2.2.1 hK hP 5 rfl rfl 1 (by decide) (C.2.2.2.2 _ hlink) (fun _ h9 => h9) rfl hdg kk
theorem xg1_made (C : CallFix p m c cc nL s args Ts own) (hin : ∀ w ∈ wsX10, w ∈ Ts) (hK : va_K g vwCl (xT ct) s) (hP : va_P g vwCl (wX ct ad n ro S) H) {index : Nat} (hlink : Cond.fieldLink own index "LitmusRunner$Choices" "made" "I" ∈ Ts) (hdg : decode cc pc = .ok (.getfield index, 3)) (kk : W p l e R s m args below meth c H locs cells slots QQ (F0 m (pc + 3) ls (.int (S.1 5 0) :: rest))) : W p l e R s m args below meth c H locs cells slots QQ (F0 m pc ls (.ref (ad 5) :: rest)) :=
  va_get (D := g) (ci := 1) (v := .int (S.1 5 0)) (C := RX1) (T := TX1) (N := 4) C.1 C.2.1 C.2.2.2.2 hin C.2.2.2.1 hK hP 5 rfl rfl 2 (by decide) (C.2.2.2.2 _ hlink) (fun _ h9 => h9) rfl hdg kk
theorem xp1_made (C : CallFix p m c cc nL s args Ts own) (hin : ∀ w ∈ wsX10, w ∈ Ts) (hK : va_K g vwCl (xT ct) s) (hP : va_P g vwCl (wX ct ad n ro S) H) (hD : va_D A (wX ct ad n ro S)) (hS : va_S A H0 H locs) {index : Nat} (hlink : Cond.fieldLink own index "LitmusRunner$Choices" "made" "I" ∈ Ts) {x : Int32} (hdg : decode cc pc = .ok (.putfield index, 3)) (kk : ∀ (H1 : Heap) (locs1 : List Loc), va_P g vwCl (wX ct ad n ro (wr S 5 0 x)) H1 → va_D A (wX ct ad n ro (wr S 5 0 x)) → va_S A H0 H1 locs1 → W p l e R s m args below meth c H1 locs1 cells slots QQ (F0 m (pc + 3) ls rest)) : W p l e R s m args below meth c H locs cells slots QQ (F0 m pc ls (.int x :: .ref (ad 5) :: rest)) := by
  refine va_put (D := g) (ci := 1) (v := .int x) (ty := .int) (C := RX1) (T := TX1) (N := 4) C.1 C.2.1 C.2.2.2.2 hin tyX1 tyX1_ok nmX1 C.2.2.2.1 hK hP hD hS 5 rfl rfl 2 (by decide) (C.2.2.2.2 _ hlink) (fun _ h9 => h9) rfl (by decide +kernel) rfl rfl (Nat.le_of_ble_eq_true rfl) hdg (fun H1 locs1 a b d => ?_)
  have e : (wX ct ad n ro S).set 5 (ad 5, .inr (1, ([.ref (ad 6), .ref (ad 7), .int (S.1 5 0), .int (S.1 6 0)] : List Value).set 2 (.int x))) = wX ct ad n ro (wr S 5 0 x) := rfl
  rw [e] at a b
  exact kk H1 locs1 a b d
theorem xg1_kept (C : CallFix p m c cc nL s args Ts own) (hin : ∀ w ∈ wsX10, w ∈ Ts) (hK : va_K g vwCl (xT ct) s) (hP : va_P g vwCl (wX ct ad n ro S) H) {index : Nat} (hlink : Cond.fieldLink own index "LitmusRunner$Choices" "kept" "I" ∈ Ts) (hdg : decode cc pc = .ok (.getfield index, 3)) (kk : W p l e R s m args below meth c H locs cells slots QQ (F0 m (pc + 3) ls (.int (S.1 6 0) :: rest))) : W p l e R s m args below meth c H locs cells slots QQ (F0 m pc ls (.ref (ad 5) :: rest)) :=
  va_get (D := g) (ci := 1) (v := .int (S.1 6 0)) (C := RX1) (T := TX1) (N := 4) C.1 C.2.1 C.2.2.2.2 hin C.2.2.2.1 hK hP 5 rfl rfl 3 (by decide) (C.2.2.2.2 _ hlink) (fun _ h9 => h9) rfl hdg kk
theorem xp1_kept (C : CallFix p m c cc nL s args Ts own) (hin : ∀ w ∈ wsX10, w ∈ Ts) (hK : va_K g vwCl (xT ct) s) (hP : va_P g vwCl (wX ct ad n ro S) H) (hD : va_D A (wX ct ad n ro S)) (hS : va_S A H0 H locs) {index : Nat} (hlink : Cond.fieldLink own index "LitmusRunner$Choices" "kept" "I" ∈ Ts) {x : Int32} (hdg : decode cc pc = .ok (.putfield index, 3)) (kk : ∀ (H1 : Heap) (locs1 : List Loc), va_P g vwCl (wX ct ad n ro (wr S 6 0 x)) H1 → va_D A (wX ct ad n ro (wr S 6 0 x)) → va_S A H0 H1 locs1 → W p l e R s m args below meth c H1 locs1 cells slots QQ (F0 m (pc + 3) ls rest)) : W p l e R s m args below meth c H locs cells slots QQ (F0 m pc ls (.int x :: .ref (ad 5) :: rest)) := by
  refine va_put (D := g) (ci := 1) (v := .int x) (ty := .int) (C := RX1) (T := TX1) (N := 4) C.1 C.2.1 C.2.2.2.2 hin tyX1 tyX1_ok nmX1 C.2.2.2.1 hK hP hD hS 5 rfl rfl 3 (by decide) (C.2.2.2.2 _ hlink) (fun _ h9 => h9) rfl (by decide +kernel) rfl rfl (Nat.le_of_ble_eq_true rfl) hdg (fun H1 locs1 a b d => ?_)
  have e : (wX ct ad n ro S).set 5 (ad 5, .inr (1, ([.ref (ad 6), .ref (ad 7), .int (S.1 5 0), .int (S.1 6 0)] : List Value).set 3 (.int x))) = wX ct ad n ro (wr S 6 0 x) := rfl
  rw [e] at a b
  exact kk H1 locs1 a b d
theorem xg5_programs (C : CallFix p m c cc nL s args Ts own) (hin : ∀ w ∈ wsX50, w ∈ Ts) (hK : va_K g vwCl (xT ct) s) (hP : va_P g vwCl (wX ct ad n ro S) H) {index : Nat} (hlink : Cond.fieldLink own index "LitmusRunner$Way" "programs" "LLitmusRunner$Programs;" ∈ Ts) (hdg : decode cc pc = .ok (.getfield index, 3)) (kk : W p l e R s m args below meth c H locs cells slots QQ (F0 m (pc + 3) ls (.ref (ad 1) :: rest))) : W p l e R s m args below meth c H locs cells slots QQ (F0 m pc ls (.ref (ad 8) :: rest)) :=
  va_get (D := g) (ci := 5) (v := .ref (ad 1)) (C := RX5) (T := TX5) (N := 14) C.1 C.2.1 C.2.2.2.2 hin C.2.2.2.1 hK hP 8 rfl rfl 0 (by decide) (C.2.2.2.2 _ hlink) (fun _ h9 => h9) rfl hdg kk
theorem xg5_choices (C : CallFix p m c cc nL s args Ts own) (hin : ∀ w ∈ wsX50, w ∈ Ts) (hK : va_K g vwCl (xT ct) s) (hP : va_P g vwCl (wX ct ad n ro S) H) {index : Nat} (hlink : Cond.fieldLink own index "LitmusRunner$Way" "choices" "LLitmusRunner$Choices;" ∈ Ts) (hdg : decode cc pc = .ok (.getfield index, 3)) (kk : W p l e R s m args below meth c H locs cells slots QQ (F0 m (pc + 3) ls (.ref (ad 5) :: rest))) : W p l e R s m args below meth c H locs cells slots QQ (F0 m pc ls (.ref (ad 8) :: rest)) :=
  va_get (D := g) (ci := 5) (v := .ref (ad 5)) (C := RX5) (T := TX5) (N := 14) C.1 C.2.1 C.2.2.2.2 hin C.2.2.2.1 hK hP 8 rfl rfl 1 (by decide) (C.2.2.2.2 _ hlink) (fun _ h9 => h9) rfl hdg kk
theorem xg5_accesses (C : CallFix p m c cc nL s args Ts own) (hin : ∀ w ∈ wsX50, w ∈ Ts) (hK : va_K g vwCl (xT ct) s) (hP : va_P g vwCl (wX ct ad n ro S) H) {index : Nat} (hlink : Cond.fieldLink own index "LitmusRunner$Way" "accesses" "[LLitmusRunner$Access;" ∈ Ts) (hdg : decode cc pc = .ok (.getfield index, 3)) (kk : W p l e R s m args below meth c H locs cells slots QQ (F0 m (pc + 3) ls (.ref (ad 9) :: rest))) : W p l e R s m args below meth c H locs cells slots QQ (F0 m pc ls (.ref (ad 8) :: rest)) :=
  va_get (D := g) (ci := 5) (v := .ref (ad 9)) (C := RX5) (T := TX5) (N := 14) C.1 C.2.1 C.2.2.2.2 hin C.2.2.2.1 hK hP 8 rfl rfl 2 (by decide) (C.2.2.2.2 _ hlink) (fun _ h9 => h9) rfl hdg kk
theorem xg5_values (C : CallFix p m c cc nL s args Ts own) (hin : ∀ w ∈ wsX50, w ∈ Ts) (hK : va_K g vwCl (xT ct) s) (hP : va_P g vwCl (wX ct ad n ro S) H) {index : Nat} (hlink : Cond.fieldLink own index "LitmusRunner$Way" "values" "[I" ∈ Ts) (hdg : decode cc pc = .ok (.getfield index, 3)) (kk : W p l e R s m args below meth c H locs cells slots QQ (F0 m (pc + 3) ls (.ref (ad 10) :: rest))) : W p l e R s m args below meth c H locs cells slots QQ (F0 m pc ls (.ref (ad 8) :: rest)) :=
  va_get (D := g) (ci := 5) (v := .ref (ad 10)) (C := RX5) (T := TX5) (N := 14) C.1 C.2.1 C.2.2.2.2 hin C.2.2.2.1 hK hP 8 rfl rfl 3 (by decide) (C.2.2.2.2 _ hlink) (fun _ h9 => h9) rfl hdg kk
theorem xg5_carried (C : CallFix p m c cc nL s args Ts own) (hin : ∀ w ∈ wsX50, w ∈ Ts) (hK : va_K g vwCl (xT ct) s) (hP : va_P g vwCl (wX ct ad n ro S) H) {index : Nat} (hlink : Cond.fieldLink own index "LitmusRunner$Way" "carried" "[I" ∈ Ts) (hdg : decode cc pc = .ok (.getfield index, 3)) (kk : W p l e R s m args below meth c H locs cells slots QQ (F0 m (pc + 3) ls (.ref (ad 11) :: rest))) : W p l e R s m args below meth c H locs cells slots QQ (F0 m pc ls (.ref (ad 8) :: rest)) :=
  va_get (D := g) (ci := 5) (v := .ref (ad 11)) (C := RX5) (T := TX5) (N := 14) C.1 C.2.1 C.2.2.2.2 hin C.2.2.2.1 hK hP 8 rfl rfl 4 (by decide) (C.2.2.2.2 _ hlink) (fun _ h9 => h9) rfl hdg kk
theorem xg5_size (C : CallFix p m c cc nL s args Ts own) (hin : ∀ w ∈ wsX50, w ∈ Ts) (hK : va_K g vwCl (xT ct) s) (hP : va_P g vwCl (wX ct ad n ro S) H) {index : Nat} (hlink : Cond.fieldLink own index "LitmusRunner$Way" "size" "I" ∈ Ts) (hdg : decode cc pc = .ok (.getfield index, 3)) (kk : W p l e R s m args below meth c H locs cells slots QQ (F0 m (pc + 3) ls (.int (S.1 7 0) :: rest))) : W p l e R s m args below meth c H locs cells slots QQ (F0 m pc ls (.ref (ad 8) :: rest)) :=
  va_get (D := g) (ci := 5) (v := .int (S.1 7 0)) (C := RX5) (T := TX5) (N := 14) C.1 C.2.1 C.2.2.2.2 hin C.2.2.2.1 hK hP 8 rfl rfl 5 (by decide) (C.2.2.2.2 _ hlink) (fun _ h9 => h9) rfl hdg kk
theorem xp5_size (C : CallFix p m c cc nL s args Ts own) (hin : ∀ w ∈ wsX50, w ∈ Ts) (hK : va_K g vwCl (xT ct) s) (hP : va_P g vwCl (wX ct ad n ro S) H) (hD : va_D A (wX ct ad n ro S)) (hS : va_S A H0 H locs) {index : Nat} (hlink : Cond.fieldLink own index "LitmusRunner$Way" "size" "I" ∈ Ts) {x : Int32} (hdg : decode cc pc = .ok (.putfield index, 3)) (kk : ∀ (H1 : Heap) (locs1 : List Loc), va_P g vwCl (wX ct ad n ro (wr S 7 0 x)) H1 → va_D A (wX ct ad n ro (wr S 7 0 x)) → va_S A H0 H1 locs1 → W p l e R s m args below meth c H1 locs1 cells slots QQ (F0 m (pc + 3) ls rest)) : W p l e R s m args below meth c H locs cells slots QQ (F0 m pc ls (.int x :: .ref (ad 8) :: rest)) := by
  refine va_put (D := g) (ci := 5) (v := .int x) (ty := .int) (C := RX5) (T := TX5) (N := 14) C.1 C.2.1 C.2.2.2.2 hin tyX5 tyX5_ok nmX5 C.2.2.2.1 hK hP hD hS 8 rfl rfl 5 (by decide) (C.2.2.2.2 _ hlink) (fun _ h9 => h9) rfl (by decide +kernel) rfl rfl (Nat.le_of_ble_eq_true rfl) hdg (fun H1 locs1 a b d => ?_)
  have e : (wX ct ad n ro S).set 8 (ad 8, .inr (5, ([.ref (ad 1), .ref (ad 5), .ref (ad 9), .ref (ad 10), .ref (ad 11), .int (S.1 7 0), .int (S.1 8 0), .int (S.1 9 0), .int (S.1 10 0), .int (S.1 11 0), .int (S.1 12 0), .int (S.1 13 0), .int (S.1 14 0), .int (S.1 15 0)] : List Value).set 5 (.int x))) = wX ct ad n ro (wr S 7 0 x) := rfl
  rw [e] at a b
  exact kk H1 locs1 a b d
theorem xg5_model (C : CallFix p m c cc nL s args Ts own) (hin : ∀ w ∈ wsX50, w ∈ Ts) (hK : va_K g vwCl (xT ct) s) (hP : va_P g vwCl (wX ct ad n ro S) H) {index : Nat} (hlink : Cond.fieldLink own index "LitmusRunner$Way" "model" "I" ∈ Ts) (hdg : decode cc pc = .ok (.getfield index, 3)) (kk : W p l e R s m args below meth c H locs cells slots QQ (F0 m (pc + 3) ls (.int (S.1 8 0) :: rest))) : W p l e R s m args below meth c H locs cells slots QQ (F0 m pc ls (.ref (ad 8) :: rest)) :=
  va_get (D := g) (ci := 5) (v := .int (S.1 8 0)) (C := RX5) (T := TX5) (N := 14) C.1 C.2.1 C.2.2.2.2 hin C.2.2.2.1 hK hP 8 rfl rfl 6 (by decide) (C.2.2.2.2 _ hlink) (fun _ h9 => h9) rfl hdg kk
theorem xp5_model (C : CallFix p m c cc nL s args Ts own) (hin : ∀ w ∈ wsX50, w ∈ Ts) (hK : va_K g vwCl (xT ct) s) (hP : va_P g vwCl (wX ct ad n ro S) H) (hD : va_D A (wX ct ad n ro S)) (hS : va_S A H0 H locs) {index : Nat} (hlink : Cond.fieldLink own index "LitmusRunner$Way" "model" "I" ∈ Ts) {x : Int32} (hdg : decode cc pc = .ok (.putfield index, 3)) (kk : ∀ (H1 : Heap) (locs1 : List Loc), va_P g vwCl (wX ct ad n ro (wr S 8 0 x)) H1 → va_D A (wX ct ad n ro (wr S 8 0 x)) → va_S A H0 H1 locs1 → W p l e R s m args below meth c H1 locs1 cells slots QQ (F0 m (pc + 3) ls rest)) : W p l e R s m args below meth c H locs cells slots QQ (F0 m pc ls (.int x :: .ref (ad 8) :: rest)) := by
  refine va_put (D := g) (ci := 5) (v := .int x) (ty := .int) (C := RX5) (T := TX5) (N := 14) C.1 C.2.1 C.2.2.2.2 hin tyX5 tyX5_ok nmX5 C.2.2.2.1 hK hP hD hS 8 rfl rfl 6 (by decide) (C.2.2.2.2 _ hlink) (fun _ h9 => h9) rfl (by decide +kernel) rfl rfl (Nat.le_of_ble_eq_true rfl) hdg (fun H1 locs1 a b d => ?_)
  have e : (wX ct ad n ro S).set 8 (ad 8, .inr (5, ([.ref (ad 1), .ref (ad 5), .ref (ad 9), .ref (ad 10), .ref (ad 11), .int (S.1 7 0), .int (S.1 8 0), .int (S.1 9 0), .int (S.1 10 0), .int (S.1 11 0), .int (S.1 12 0), .int (S.1 13 0), .int (S.1 14 0), .int (S.1 15 0)] : List Value).set 6 (.int x))) = wX ct ad n ro (wr S 8 0 x) := rfl
  rw [e] at a b
  exact kk H1 locs1 a b d
theorem xg5_hart (C : CallFix p m c cc nL s args Ts own) (hin : ∀ w ∈ wsX50, w ∈ Ts) (hK : va_K g vwCl (xT ct) s) (hP : va_P g vwCl (wX ct ad n ro S) H) {index : Nat} (hlink : Cond.fieldLink own index "LitmusRunner$Way" "hart" "I" ∈ Ts) (hdg : decode cc pc = .ok (.getfield index, 3)) (kk : W p l e R s m args below meth c H locs cells slots QQ (F0 m (pc + 3) ls (.int (S.1 9 0) :: rest))) : W p l e R s m args below meth c H locs cells slots QQ (F0 m pc ls (.ref (ad 8) :: rest)) :=
  va_get (D := g) (ci := 5) (v := .int (S.1 9 0)) (C := RX5) (T := TX5) (N := 14) C.1 C.2.1 C.2.2.2.2 hin C.2.2.2.1 hK hP 8 rfl rfl 7 (by decide) (C.2.2.2.2 _ hlink) (fun _ h9 => h9) rfl hdg kk
theorem xp5_hart (C : CallFix p m c cc nL s args Ts own) (hin : ∀ w ∈ wsX50, w ∈ Ts) (hK : va_K g vwCl (xT ct) s) (hP : va_P g vwCl (wX ct ad n ro S) H) (hD : va_D A (wX ct ad n ro S)) (hS : va_S A H0 H locs) {index : Nat} (hlink : Cond.fieldLink own index "LitmusRunner$Way" "hart" "I" ∈ Ts) {x : Int32} (hdg : decode cc pc = .ok (.putfield index, 3)) (kk : ∀ (H1 : Heap) (locs1 : List Loc), va_P g vwCl (wX ct ad n ro (wr S 9 0 x)) H1 → va_D A (wX ct ad n ro (wr S 9 0 x)) → va_S A H0 H1 locs1 → W p l e R s m args below meth c H1 locs1 cells slots QQ (F0 m (pc + 3) ls rest)) : W p l e R s m args below meth c H locs cells slots QQ (F0 m pc ls (.int x :: .ref (ad 8) :: rest)) := by
  refine va_put (D := g) (ci := 5) (v := .int x) (ty := .int) (C := RX5) (T := TX5) (N := 14) C.1 C.2.1 C.2.2.2.2 hin tyX5 tyX5_ok nmX5 C.2.2.2.1 hK hP hD hS 8 rfl rfl 7 (by decide) (C.2.2.2.2 _ hlink) (fun _ h9 => h9) rfl (by decide +kernel) rfl rfl (Nat.le_of_ble_eq_true rfl) hdg (fun H1 locs1 a b d => ?_)
  have e : (wX ct ad n ro S).set 8 (ad 8, .inr (5, ([.ref (ad 1), .ref (ad 5), .ref (ad 9), .ref (ad 10), .ref (ad 11), .int (S.1 7 0), .int (S.1 8 0), .int (S.1 9 0), .int (S.1 10 0), .int (S.1 11 0), .int (S.1 12 0), .int (S.1 13 0), .int (S.1 14 0), .int (S.1 15 0)] : List Value).set 7 (.int x))) = wX ct ad n ro (wr S 9 0 x) := rfl
  rw [e] at a b
  exact kk H1 locs1 a b d
theorem xg5_first (C : CallFix p m c cc nL s args Ts own) (hin : ∀ w ∈ wsX50, w ∈ Ts) (hK : va_K g vwCl (xT ct) s) (hP : va_P g vwCl (wX ct ad n ro S) H) {index : Nat} (hlink : Cond.fieldLink own index "LitmusRunner$Way" "first" "I" ∈ Ts) (hdg : decode cc pc = .ok (.getfield index, 3)) (kk : W p l e R s m args below meth c H locs cells slots QQ (F0 m (pc + 3) ls (.int (S.1 10 0) :: rest))) : W p l e R s m args below meth c H locs cells slots QQ (F0 m pc ls (.ref (ad 8) :: rest)) :=
  va_get (D := g) (ci := 5) (v := .int (S.1 10 0)) (C := RX5) (T := TX5) (N := 14) C.1 C.2.1 C.2.2.2.2 hin C.2.2.2.1 hK hP 8 rfl rfl 8 (by decide) (C.2.2.2.2 _ hlink) (fun _ h9 => h9) rfl hdg kk
theorem xp5_first (C : CallFix p m c cc nL s args Ts own) (hin : ∀ w ∈ wsX50, w ∈ Ts) (hK : va_K g vwCl (xT ct) s) (hP : va_P g vwCl (wX ct ad n ro S) H) (hD : va_D A (wX ct ad n ro S)) (hS : va_S A H0 H locs) {index : Nat} (hlink : Cond.fieldLink own index "LitmusRunner$Way" "first" "I" ∈ Ts) {x : Int32} (hdg : decode cc pc = .ok (.putfield index, 3)) (kk : ∀ (H1 : Heap) (locs1 : List Loc), va_P g vwCl (wX ct ad n ro (wr S 10 0 x)) H1 → va_D A (wX ct ad n ro (wr S 10 0 x)) → va_S A H0 H1 locs1 → W p l e R s m args below meth c H1 locs1 cells slots QQ (F0 m (pc + 3) ls rest)) : W p l e R s m args below meth c H locs cells slots QQ (F0 m pc ls (.int x :: .ref (ad 8) :: rest)) := by
  refine va_put (D := g) (ci := 5) (v := .int x) (ty := .int) (C := RX5) (T := TX5) (N := 14) C.1 C.2.1 C.2.2.2.2 hin tyX5 tyX5_ok nmX5 C.2.2.2.1 hK hP hD hS 8 rfl rfl 8 (by decide) (C.2.2.2.2 _ hlink) (fun _ h9 => h9) rfl (by decide +kernel) rfl rfl (Nat.le_of_ble_eq_true rfl) hdg (fun H1 locs1 a b d => ?_)
  have e : (wX ct ad n ro S).set 8 (ad 8, .inr (5, ([.ref (ad 1), .ref (ad 5), .ref (ad 9), .ref (ad 10), .ref (ad 11), .int (S.1 7 0), .int (S.1 8 0), .int (S.1 9 0), .int (S.1 10 0), .int (S.1 11 0), .int (S.1 12 0), .int (S.1 13 0), .int (S.1 14 0), .int (S.1 15 0)] : List Value).set 8 (.int x))) = wX ct ad n ro (wr S 10 0 x) := rfl
  rw [e] at a b
  exact kk H1 locs1 a b d
theorem xg5_reserve (C : CallFix p m c cc nL s args Ts own) (hin : ∀ w ∈ wsX50, w ∈ Ts) (hK : va_K g vwCl (xT ct) s) (hP : va_P g vwCl (wX ct ad n ro S) H) {index : Nat} (hlink : Cond.fieldLink own index "LitmusRunner$Way" "reserve" "I" ∈ Ts) (hdg : decode cc pc = .ok (.getfield index, 3)) (kk : W p l e R s m args below meth c H locs cells slots QQ (F0 m (pc + 3) ls (.int (S.1 11 0) :: rest))) : W p l e R s m args below meth c H locs cells slots QQ (F0 m pc ls (.ref (ad 8) :: rest)) :=
  va_get (D := g) (ci := 5) (v := .int (S.1 11 0)) (C := RX5) (T := TX5) (N := 14) C.1 C.2.1 C.2.2.2.2 hin C.2.2.2.1 hK hP 8 rfl rfl 9 (by decide) (C.2.2.2.2 _ hlink) (fun _ h9 => h9) rfl hdg kk
theorem xp5_reserve (C : CallFix p m c cc nL s args Ts own) (hin : ∀ w ∈ wsX50, w ∈ Ts) (hK : va_K g vwCl (xT ct) s) (hP : va_P g vwCl (wX ct ad n ro S) H) (hD : va_D A (wX ct ad n ro S)) (hS : va_S A H0 H locs) {index : Nat} (hlink : Cond.fieldLink own index "LitmusRunner$Way" "reserve" "I" ∈ Ts) {x : Int32} (hdg : decode cc pc = .ok (.putfield index, 3)) (kk : ∀ (H1 : Heap) (locs1 : List Loc), va_P g vwCl (wX ct ad n ro (wr S 11 0 x)) H1 → va_D A (wX ct ad n ro (wr S 11 0 x)) → va_S A H0 H1 locs1 → W p l e R s m args below meth c H1 locs1 cells slots QQ (F0 m (pc + 3) ls rest)) : W p l e R s m args below meth c H locs cells slots QQ (F0 m pc ls (.int x :: .ref (ad 8) :: rest)) := by
  refine va_put (D := g) (ci := 5) (v := .int x) (ty := .int) (C := RX5) (T := TX5) (N := 14) C.1 C.2.1 C.2.2.2.2 hin tyX5 tyX5_ok nmX5 C.2.2.2.1 hK hP hD hS 8 rfl rfl 9 (by decide) (C.2.2.2.2 _ hlink) (fun _ h9 => h9) rfl (by decide +kernel) rfl rfl (Nat.le_of_ble_eq_true rfl) hdg (fun H1 locs1 a b d => ?_)
  have e : (wX ct ad n ro S).set 8 (ad 8, .inr (5, ([.ref (ad 1), .ref (ad 5), .ref (ad 9), .ref (ad 10), .ref (ad 11), .int (S.1 7 0), .int (S.1 8 0), .int (S.1 9 0), .int (S.1 10 0), .int (S.1 11 0), .int (S.1 12 0), .int (S.1 13 0), .int (S.1 14 0), .int (S.1 15 0)] : List Value).set 9 (.int x))) = wX ct ad n ro (wr S 11 0 x) := rfl
  rw [e] at a b
  exact kk H1 locs1 a b d
theorem xg5_byWay (C : CallFix p m c cc nL s args Ts own) (hin : ∀ w ∈ wsX50, w ∈ Ts) (hK : va_K g vwCl (xT ct) s) (hP : va_P g vwCl (wX ct ad n ro S) H) {index : Nat} (hlink : Cond.fieldLink own index "LitmusRunner$Way" "byWay" "I" ∈ Ts) (hdg : decode cc pc = .ok (.getfield index, 3)) (kk : W p l e R s m args below meth c H locs cells slots QQ (F0 m (pc + 3) ls (.int (S.1 12 0) :: rest))) : W p l e R s m args below meth c H locs cells slots QQ (F0 m pc ls (.ref (ad 8) :: rest)) :=
  va_get (D := g) (ci := 5) (v := .int (S.1 12 0)) (C := RX5) (T := TX5) (N := 14) C.1 C.2.1 C.2.2.2.2 hin C.2.2.2.1 hK hP 8 rfl rfl 10 (by decide) (C.2.2.2.2 _ hlink) (fun _ h9 => h9) rfl hdg kk
theorem xp5_byWay (C : CallFix p m c cc nL s args Ts own) (hin : ∀ w ∈ wsX50, w ∈ Ts) (hK : va_K g vwCl (xT ct) s) (hP : va_P g vwCl (wX ct ad n ro S) H) (hD : va_D A (wX ct ad n ro S)) (hS : va_S A H0 H locs) {index : Nat} (hlink : Cond.fieldLink own index "LitmusRunner$Way" "byWay" "I" ∈ Ts) {x : Int32} (hdg : decode cc pc = .ok (.putfield index, 3)) (kk : ∀ (H1 : Heap) (locs1 : List Loc), va_P g vwCl (wX ct ad n ro (wr S 12 0 x)) H1 → va_D A (wX ct ad n ro (wr S 12 0 x)) → va_S A H0 H1 locs1 → W p l e R s m args below meth c H1 locs1 cells slots QQ (F0 m (pc + 3) ls rest)) : W p l e R s m args below meth c H locs cells slots QQ (F0 m pc ls (.int x :: .ref (ad 8) :: rest)) := by
  refine va_put (D := g) (ci := 5) (v := .int x) (ty := .int) (C := RX5) (T := TX5) (N := 14) C.1 C.2.1 C.2.2.2.2 hin tyX5 tyX5_ok nmX5 C.2.2.2.1 hK hP hD hS 8 rfl rfl 10 (by decide) (C.2.2.2.2 _ hlink) (fun _ h9 => h9) rfl (by decide +kernel) rfl rfl (Nat.le_of_ble_eq_true rfl) hdg (fun H1 locs1 a b d => ?_)
  have e : (wX ct ad n ro S).set 8 (ad 8, .inr (5, ([.ref (ad 1), .ref (ad 5), .ref (ad 9), .ref (ad 10), .ref (ad 11), .int (S.1 7 0), .int (S.1 8 0), .int (S.1 9 0), .int (S.1 10 0), .int (S.1 11 0), .int (S.1 12 0), .int (S.1 13 0), .int (S.1 14 0), .int (S.1 15 0)] : List Value).set 10 (.int x))) = wX ct ad n ro (wr S 12 0 x) := rfl
  rw [e] at a b
  exact kk H1 locs1 a b d
theorem xg5_neededForPlaces (C : CallFix p m c cc nL s args Ts own) (hin : ∀ w ∈ wsX50, w ∈ Ts) (hK : va_K g vwCl (xT ct) s) (hP : va_P g vwCl (wX ct ad n ro S) H) {index : Nat} (hlink : Cond.fieldLink own index "LitmusRunner$Way" "neededForPlaces" "I" ∈ Ts) (hdg : decode cc pc = .ok (.getfield index, 3)) (kk : W p l e R s m args below meth c H locs cells slots QQ (F0 m (pc + 3) ls (.int (S.1 13 0) :: rest))) : W p l e R s m args below meth c H locs cells slots QQ (F0 m pc ls (.ref (ad 8) :: rest)) :=
  va_get (D := g) (ci := 5) (v := .int (S.1 13 0)) (C := RX5) (T := TX5) (N := 14) C.1 C.2.1 C.2.2.2.2 hin C.2.2.2.1 hK hP 8 rfl rfl 11 (by decide) (C.2.2.2.2 _ hlink) (fun _ h9 => h9) rfl hdg kk
theorem xp5_neededForPlaces (C : CallFix p m c cc nL s args Ts own) (hin : ∀ w ∈ wsX50, w ∈ Ts) (hK : va_K g vwCl (xT ct) s) (hP : va_P g vwCl (wX ct ad n ro S) H) (hD : va_D A (wX ct ad n ro S)) (hS : va_S A H0 H locs) {index : Nat} (hlink : Cond.fieldLink own index "LitmusRunner$Way" "neededForPlaces" "I" ∈ Ts) {x : Int32} (hdg : decode cc pc = .ok (.putfield index, 3)) (kk : ∀ (H1 : Heap) (locs1 : List Loc), va_P g vwCl (wX ct ad n ro (wr S 13 0 x)) H1 → va_D A (wX ct ad n ro (wr S 13 0 x)) → va_S A H0 H1 locs1 → W p l e R s m args below meth c H1 locs1 cells slots QQ (F0 m (pc + 3) ls rest)) : W p l e R s m args below meth c H locs cells slots QQ (F0 m pc ls (.int x :: .ref (ad 8) :: rest)) := by
  refine va_put (D := g) (ci := 5) (v := .int x) (ty := .int) (C := RX5) (T := TX5) (N := 14) C.1 C.2.1 C.2.2.2.2 hin tyX5 tyX5_ok nmX5 C.2.2.2.1 hK hP hD hS 8 rfl rfl 11 (by decide) (C.2.2.2.2 _ hlink) (fun _ h9 => h9) rfl (by decide +kernel) rfl rfl (Nat.le_of_ble_eq_true rfl) hdg (fun H1 locs1 a b d => ?_)
  have e : (wX ct ad n ro S).set 8 (ad 8, .inr (5, ([.ref (ad 1), .ref (ad 5), .ref (ad 9), .ref (ad 10), .ref (ad 11), .int (S.1 7 0), .int (S.1 8 0), .int (S.1 9 0), .int (S.1 10 0), .int (S.1 11 0), .int (S.1 12 0), .int (S.1 13 0), .int (S.1 14 0), .int (S.1 15 0)] : List Value).set 11 (.int x))) = wX ct ad n ro (wr S 13 0 x) := rfl
  rw [e] at a b
  exact kk H1 locs1 a b d
theorem xg5_fencedBeforeReads (C : CallFix p m c cc nL s args Ts own) (hin : ∀ w ∈ wsX50, w ∈ Ts) (hK : va_K g vwCl (xT ct) s) (hP : va_P g vwCl (wX ct ad n ro S) H) {index : Nat} (hlink : Cond.fieldLink own index "LitmusRunner$Way" "fencedBeforeReads" "I" ∈ Ts) (hdg : decode cc pc = .ok (.getfield index, 3)) (kk : W p l e R s m args below meth c H locs cells slots QQ (F0 m (pc + 3) ls (.int (S.1 14 0) :: rest))) : W p l e R s m args below meth c H locs cells slots QQ (F0 m pc ls (.ref (ad 8) :: rest)) :=
  va_get (D := g) (ci := 5) (v := .int (S.1 14 0)) (C := RX5) (T := TX5) (N := 14) C.1 C.2.1 C.2.2.2.2 hin C.2.2.2.1 hK hP 8 rfl rfl 12 (by decide) (C.2.2.2.2 _ hlink) (fun _ h9 => h9) rfl hdg kk
theorem xp5_fencedBeforeReads (C : CallFix p m c cc nL s args Ts own) (hin : ∀ w ∈ wsX50, w ∈ Ts) (hK : va_K g vwCl (xT ct) s) (hP : va_P g vwCl (wX ct ad n ro S) H) (hD : va_D A (wX ct ad n ro S)) (hS : va_S A H0 H locs) {index : Nat} (hlink : Cond.fieldLink own index "LitmusRunner$Way" "fencedBeforeReads" "I" ∈ Ts) {x : Int32} (hdg : decode cc pc = .ok (.putfield index, 3)) (kk : ∀ (H1 : Heap) (locs1 : List Loc), va_P g vwCl (wX ct ad n ro (wr S 14 0 x)) H1 → va_D A (wX ct ad n ro (wr S 14 0 x)) → va_S A H0 H1 locs1 → W p l e R s m args below meth c H1 locs1 cells slots QQ (F0 m (pc + 3) ls rest)) : W p l e R s m args below meth c H locs cells slots QQ (F0 m pc ls (.int x :: .ref (ad 8) :: rest)) := by
  refine va_put (D := g) (ci := 5) (v := .int x) (ty := .int) (C := RX5) (T := TX5) (N := 14) C.1 C.2.1 C.2.2.2.2 hin tyX5 tyX5_ok nmX5 C.2.2.2.1 hK hP hD hS 8 rfl rfl 12 (by decide) (C.2.2.2.2 _ hlink) (fun _ h9 => h9) rfl (by decide +kernel) rfl rfl (Nat.le_of_ble_eq_true rfl) hdg (fun H1 locs1 a b d => ?_)
  have e : (wX ct ad n ro S).set 8 (ad 8, .inr (5, ([.ref (ad 1), .ref (ad 5), .ref (ad 9), .ref (ad 10), .ref (ad 11), .int (S.1 7 0), .int (S.1 8 0), .int (S.1 9 0), .int (S.1 10 0), .int (S.1 11 0), .int (S.1 12 0), .int (S.1 13 0), .int (S.1 14 0), .int (S.1 15 0)] : List Value).set 12 (.int x))) = wX ct ad n ro (wr S 14 0 x) := rfl
  rw [e] at a b
  exact kk H1 locs1 a b d
theorem xg5_fencedBeforeWrites (C : CallFix p m c cc nL s args Ts own) (hin : ∀ w ∈ wsX50, w ∈ Ts) (hK : va_K g vwCl (xT ct) s) (hP : va_P g vwCl (wX ct ad n ro S) H) {index : Nat} (hlink : Cond.fieldLink own index "LitmusRunner$Way" "fencedBeforeWrites" "I" ∈ Ts) (hdg : decode cc pc = .ok (.getfield index, 3)) (kk : W p l e R s m args below meth c H locs cells slots QQ (F0 m (pc + 3) ls (.int (S.1 15 0) :: rest))) : W p l e R s m args below meth c H locs cells slots QQ (F0 m pc ls (.ref (ad 8) :: rest)) :=
  va_get (D := g) (ci := 5) (v := .int (S.1 15 0)) (C := RX5) (T := TX5) (N := 14) C.1 C.2.1 C.2.2.2.2 hin C.2.2.2.1 hK hP 8 rfl rfl 13 (by decide) (C.2.2.2.2 _ hlink) (fun _ h9 => h9) rfl hdg kk
theorem xp5_fencedBeforeWrites (C : CallFix p m c cc nL s args Ts own) (hin : ∀ w ∈ wsX50, w ∈ Ts) (hK : va_K g vwCl (xT ct) s) (hP : va_P g vwCl (wX ct ad n ro S) H) (hD : va_D A (wX ct ad n ro S)) (hS : va_S A H0 H locs) {index : Nat} (hlink : Cond.fieldLink own index "LitmusRunner$Way" "fencedBeforeWrites" "I" ∈ Ts) {x : Int32} (hdg : decode cc pc = .ok (.putfield index, 3)) (kk : ∀ (H1 : Heap) (locs1 : List Loc), va_P g vwCl (wX ct ad n ro (wr S 15 0 x)) H1 → va_D A (wX ct ad n ro (wr S 15 0 x)) → va_S A H0 H1 locs1 → W p l e R s m args below meth c H1 locs1 cells slots QQ (F0 m (pc + 3) ls rest)) : W p l e R s m args below meth c H locs cells slots QQ (F0 m pc ls (.int x :: .ref (ad 8) :: rest)) := by
  refine va_put (D := g) (ci := 5) (v := .int x) (ty := .int) (C := RX5) (T := TX5) (N := 14) C.1 C.2.1 C.2.2.2.2 hin tyX5 tyX5_ok nmX5 C.2.2.2.1 hK hP hD hS 8 rfl rfl 13 (by decide) (C.2.2.2.2 _ hlink) (fun _ h9 => h9) rfl (by decide +kernel) rfl rfl (Nat.le_of_ble_eq_true rfl) hdg (fun H1 locs1 a b d => ?_)
  have e : (wX ct ad n ro S).set 8 (ad 8, .inr (5, ([.ref (ad 1), .ref (ad 5), .ref (ad 9), .ref (ad 10), .ref (ad 11), .int (S.1 7 0), .int (S.1 8 0), .int (S.1 9 0), .int (S.1 10 0), .int (S.1 11 0), .int (S.1 12 0), .int (S.1 13 0), .int (S.1 14 0), .int (S.1 15 0)] : List Value).set 13 (.int x))) = wX ct ad n ro (wr S 15 0 x) := rfl
  rw [e] at a b
  exact kk H1 locs1 a b d
theorem xg2_way (C : CallFix p m c cc nL s args Ts own) (hin : ∀ w ∈ wsX20, w ∈ Ts) (hK : va_K g vwCl (xT ct) s) (hP : va_P g vwCl (wX ct ad n ro S) H) {index : Nat} (hlink : Cond.fieldLink own index "LitmusRunner$Ordering" "way" "LLitmusRunner$Way;" ∈ Ts) (hdg : decode cc pc = .ok (.getfield index, 3)) (kk : W p l e R s m args below meth c H locs cells slots QQ (F0 m (pc + 3) ls (.ref (ad 8) :: rest))) : W p l e R s m args below meth c H locs cells slots QQ (F0 m pc ls (.ref (ad 12) :: rest)) :=
  va_get (D := g) (ci := 2) (v := .ref (ad 8)) (C := RX2) (T := TX2) (N := 7) C.1 C.2.1 C.2.2.2.2 hin C.2.2.2.1 hK hP 12 rfl rfl 0 (by decide) (C.2.2.2.2 _ hlink) (fun _ h9 => h9) rfl hdg kk
theorem xg2_outcomes (C : CallFix p m c cc nL s args Ts own) (hin : ∀ w ∈ wsX20, w ∈ Ts) (hK : va_K g vwCl (xT ct) s) (hP : va_P g vwCl (wX ct ad n ro S) H) {index : Nat} (hlink : Cond.fieldLink own index "LitmusRunner$Ordering" "outcomes" "LLitmusRunner$Outcomes;" ∈ Ts) (hdg : decode cc pc = .ok (.getfield index, 3)) (kk : W p l e R s m args below meth c H locs cells slots QQ (F0 m (pc + 3) ls (.ref (ad 16) :: rest))) : W p l e R s m args below meth c H locs cells slots QQ (F0 m pc ls (.ref (ad 12) :: rest)) :=
  va_get (D := g) (ci := 2) (v := .ref (ad 16)) (C := RX2) (T := TX2) (N := 7) C.1 C.2.1 C.2.2.2.2 hin C.2.2.2.1 hK hP 12 rfl rfl 1 (by decide) (C.2.2.2.2 _ hlink) (fun _ h9 => h9) rfl hdg kk
theorem xg2_spots (C : CallFix p m c cc nL s args Ts own) (hin : ∀ w ∈ wsX20, w ∈ Ts) (hK : va_K g vwCl (xT ct) s) (hP : va_P g vwCl (wX ct ad n ro S) H) {index : Nat} (hlink : Cond.fieldLink own index "LitmusRunner$Ordering" "spots" "[I" ∈ Ts) (hdg : decode cc pc = .ok (.getfield index, 3)) (kk : W p l e R s m args below meth c H locs cells slots QQ (F0 m (pc + 3) ls (.ref (ad 13) :: rest))) : W p l e R s m args below meth c H locs cells slots QQ (F0 m pc ls (.ref (ad 12) :: rest)) :=
  va_get (D := g) (ci := 2) (v := .ref (ad 13)) (C := RX2) (T := TX2) (N := 7) C.1 C.2.1 C.2.2.2.2 hin C.2.2.2.1 hK hP 12 rfl rfl 2 (by decide) (C.2.2.2.2 _ hlink) (fun _ h9 => h9) rfl hdg kk
theorem xg2_sources (C : CallFix p m c cc nL s args Ts own) (hin : ∀ w ∈ wsX20, w ∈ Ts) (hK : va_K g vwCl (xT ct) s) (hP : va_P g vwCl (wX ct ad n ro S) H) {index : Nat} (hlink : Cond.fieldLink own index "LitmusRunner$Ordering" "sources" "[I" ∈ Ts) (hdg : decode cc pc = .ok (.getfield index, 3)) (kk : W p l e R s m args below meth c H locs cells slots QQ (F0 m (pc + 3) ls (.ref (ad 14) :: rest))) : W p l e R s m args below meth c H locs cells slots QQ (F0 m pc ls (.ref (ad 12) :: rest)) :=
  va_get (D := g) (ci := 2) (v := .ref (ad 14)) (C := RX2) (T := TX2) (N := 7) C.1 C.2.1 C.2.2.2.2 hin C.2.2.2.1 hK hP 12 rfl rfl 3 (by decide) (C.2.2.2.2 _ hlink) (fun _ h9 => h9) rfl hdg kk
theorem xg2_latest (C : CallFix p m c cc nL s args Ts own) (hin : ∀ w ∈ wsX20, w ∈ Ts) (hK : va_K g vwCl (xT ct) s) (hP : va_P g vwCl (wX ct ad n ro S) H) {index : Nat} (hlink : Cond.fieldLink own index "LitmusRunner$Ordering" "latest" "[I" ∈ Ts) (hdg : decode cc pc = .ok (.getfield index, 3)) (kk : W p l e R s m args below meth c H locs cells slots QQ (F0 m (pc + 3) ls (.ref (ad 15) :: rest))) : W p l e R s m args below meth c H locs cells slots QQ (F0 m pc ls (.ref (ad 12) :: rest)) :=
  va_get (D := g) (ci := 2) (v := .ref (ad 15)) (C := RX2) (T := TX2) (N := 7) C.1 C.2.1 C.2.2.2.2 hin C.2.2.2.1 hK hP 12 rfl rfl 4 (by decide) (C.2.2.2.2 _ hlink) (fun _ h9 => h9) rfl hdg kk
theorem xg2_registersPart (C : CallFix p m c cc nL s args Ts own) (hin : ∀ w ∈ wsX20, w ∈ Ts) (hK : va_K g vwCl (xT ct) s) (hP : va_P g vwCl (wX ct ad n ro S) H) {index : Nat} (hlink : Cond.fieldLink own index "LitmusRunner$Ordering" "registersPart" "J" ∈ Ts) (hdg : decode cc pc = .ok (.getfield index, 3)) (kk : W p l e R s m args below meth c H locs cells slots QQ (F0 m (pc + 3) ls (.long (S.2.2 0 0) :: rest))) : W p l e R s m args below meth c H locs cells slots QQ (F0 m pc ls (.ref (ad 12) :: rest)) :=
  va_get (D := g) (ci := 2) (v := .long (S.2.2 0 0)) (C := RX2) (T := TX2) (N := 7) C.1 C.2.1 C.2.2.2.2 hin C.2.2.2.1 hK hP 12 rfl rfl 5 (by decide) (C.2.2.2.2 _ hlink) (fun _ h9 => h9) rfl hdg kk
theorem xp2_registersPart (C : CallFix p m c cc nL s args Ts own) (hin : ∀ w ∈ wsX20, w ∈ Ts) (hK : va_K g vwCl (xT ct) s) (hP : va_P g vwCl (wX ct ad n ro S) H) (hD : va_D A (wX ct ad n ro S)) (hS : va_S A H0 H locs) {index : Nat} (hlink : Cond.fieldLink own index "LitmusRunner$Ordering" "registersPart" "J" ∈ Ts) {x : Int64} (hdg : decode cc pc = .ok (.putfield index, 3)) (kk : ∀ (H1 : Heap) (locs1 : List Loc), va_P g vwCl (wX ct ad n ro (wrL S 0 0 x)) H1 → va_D A (wX ct ad n ro (wrL S 0 0 x)) → va_S A H0 H1 locs1 → W p l e R s m args below meth c H1 locs1 cells slots QQ (F0 m (pc + 3) ls rest)) : W p l e R s m args below meth c H locs cells slots QQ (F0 m pc ls (.long x :: .ref (ad 12) :: rest)) := by
  refine va_put (D := g) (ci := 2) (v := .long x) (ty := .long) (C := RX2) (T := TX2) (N := 7) C.1 C.2.1 C.2.2.2.2 hin tyX2 tyX2_ok nmX2 C.2.2.2.1 hK hP hD hS 12 rfl rfl 5 (by decide) (C.2.2.2.2 _ hlink) (fun _ h9 => h9) rfl (by decide +kernel) rfl rfl (Nat.le_of_ble_eq_true rfl) hdg (fun H1 locs1 a b d => ?_)
  have e : (wX ct ad n ro S).set 12 (ad 12, .inr (2, ([.ref (ad 8), .ref (ad 16), .ref (ad 13), .ref (ad 14), .ref (ad 15), .long (S.2.2 0 0), .int (S.1 16 0)] : List Value).set 5 (.long x))) = wX ct ad n ro (wrL S 0 0 x) := rfl
  rw [e] at a b
  exact kk H1 locs1 a b d
theorem xg2_any (C : CallFix p m c cc nL s args Ts own) (hin : ∀ w ∈ wsX20, w ∈ Ts) (hK : va_K g vwCl (xT ct) s) (hP : va_P g vwCl (wX ct ad n ro S) H) {index : Nat} (hlink : Cond.fieldLink own index "LitmusRunner$Ordering" "any" "Z" ∈ Ts) (hdg : decode cc pc = .ok (.getfield index, 3)) (kk : W p l e R s m args below meth c H locs cells slots QQ (F0 m (pc + 3) ls (.int (S.1 16 0) :: rest))) : W p l e R s m args below meth c H locs cells slots QQ (F0 m pc ls (.ref (ad 12) :: rest)) :=
  va_get (D := g) (ci := 2) (v := .int (S.1 16 0)) (C := RX2) (T := TX2) (N := 7) C.1 C.2.1 C.2.2.2.2 hin C.2.2.2.1 hK hP 12 rfl rfl 6 (by decide) (C.2.2.2.2 _ hlink) (fun _ h9 => h9) rfl hdg kk
theorem xp2_any (C : CallFix p m c cc nL s args Ts own) (hin : ∀ w ∈ wsX20, w ∈ Ts) (hK : va_K g vwCl (xT ct) s) (hP : va_P g vwCl (wX ct ad n ro S) H) (hD : va_D A (wX ct ad n ro S)) (hS : va_S A H0 H locs) {index : Nat} (hlink : Cond.fieldLink own index "LitmusRunner$Ordering" "any" "Z" ∈ Ts) {x : Int32} (hz : zb x) (hdg : decode cc pc = .ok (.putfield index, 3)) (kk : ∀ (H1 : Heap) (locs1 : List Loc), va_P g vwCl (wX ct ad n ro (wr S 16 0 x)) H1 → va_D A (wX ct ad n ro (wr S 16 0 x)) → va_S A H0 H1 locs1 → W p l e R s m args below meth c H1 locs1 cells slots QQ (F0 m (pc + 3) ls rest)) : W p l e R s m args below meth c H locs cells slots QQ (F0 m pc ls (.int x :: .ref (ad 12) :: rest)) := by
  refine va_put (D := g) (ci := 2) (v := .int x) (ty := .boolean) (C := RX2) (T := TX2) (N := 7) C.1 C.2.1 C.2.2.2.2 hin tyX2 tyX2_ok nmX2 C.2.2.2.1 hK hP hD hS 12 rfl rfl 6 (by decide) (C.2.2.2.2 _ hlink) (fun _ h9 => h9) rfl (by decide +kernel) (zb_n hz) (zb_f hz) (Nat.le_of_ble_eq_true rfl) hdg (fun H1 locs1 a b d => ?_)
  have e : (wX ct ad n ro S).set 12 (ad 12, .inr (2, ([.ref (ad 8), .ref (ad 16), .ref (ad 13), .ref (ad 14), .ref (ad 15), .long (S.2.2 0 0), .int (S.1 16 0)] : List Value).set 6 (.int x))) = wX ct ad n ro (wr S 16 0 x) := rfl
  rw [e] at a b
  exact kk H1 locs1 a b d
theorem xg3_rows (C : CallFix p m c cc nL s args Ts own) (hin : ∀ w ∈ wsX30, w ∈ Ts) (hK : va_K g vwCl (xT ct) s) (hP : va_P g vwCl (wX ct ad n ro S) H) {index : Nat} (hlink : Cond.fieldLink own index "LitmusRunner$Outcomes" "rows" "[J" ∈ Ts) (hdg : decode cc pc = .ok (.getfield index, 3)) (kk : W p l e R s m args below meth c H locs cells slots QQ (F0 m (pc + 3) ls (.ref ro :: rest))) : W p l e R s m args below meth c H locs cells slots QQ (F0 m pc ls (.ref (ad 16) :: rest)) :=
  va_get (D := g) (ci := 3) (v := .ref ro) (C := RX3) (T := TX3) (N := 2) C.1 C.2.1 C.2.2.2.2 hin C.2.2.2.1 hK hP 16 rfl rfl 0 (by decide) (C.2.2.2.2 _ hlink) (fun _ h9 => h9) rfl hdg kk
theorem xg3_size (C : CallFix p m c cc nL s args Ts own) (hin : ∀ w ∈ wsX30, w ∈ Ts) (hK : va_K g vwCl (xT ct) s) (hP : va_P g vwCl (wX ct ad n ro S) H) {index : Nat} (hlink : Cond.fieldLink own index "LitmusRunner$Outcomes" "size" "I" ∈ Ts) (hdg : decode cc pc = .ok (.getfield index, 3)) (kk : W p l e R s m args below meth c H locs cells slots QQ (F0 m (pc + 3) ls (.int (S.1 17 0) :: rest))) : W p l e R s m args below meth c H locs cells slots QQ (F0 m pc ls (.ref (ad 16) :: rest)) :=
  va_get (D := g) (ci := 3) (v := .int (S.1 17 0)) (C := RX3) (T := TX3) (N := 2) C.1 C.2.1 C.2.2.2.2 hin C.2.2.2.1 hK hP 16 rfl rfl 1 (by decide) (C.2.2.2.2 _ hlink) (fun _ h9 => h9) rfl hdg kk
theorem xp3_size (C : CallFix p m c cc nL s args Ts own) (hin : ∀ w ∈ wsX30, w ∈ Ts) (hK : va_K g vwCl (xT ct) s) (hP : va_P g vwCl (wX ct ad n ro S) H) (hD : va_D A (wX ct ad n ro S)) (hS : va_S A H0 H locs) {index : Nat} (hlink : Cond.fieldLink own index "LitmusRunner$Outcomes" "size" "I" ∈ Ts) {x : Int32} (hdg : decode cc pc = .ok (.putfield index, 3)) (kk : ∀ (H1 : Heap) (locs1 : List Loc), va_P g vwCl (wX ct ad n ro (wr S 17 0 x)) H1 → va_D A (wX ct ad n ro (wr S 17 0 x)) → va_S A H0 H1 locs1 → W p l e R s m args below meth c H1 locs1 cells slots QQ (F0 m (pc + 3) ls rest)) : W p l e R s m args below meth c H locs cells slots QQ (F0 m pc ls (.int x :: .ref (ad 16) :: rest)) := by
  refine va_put (D := g) (ci := 3) (v := .int x) (ty := .int) (C := RX3) (T := TX3) (N := 2) C.1 C.2.1 C.2.2.2.2 hin tyX3 tyX3_ok nmX3 C.2.2.2.1 hK hP hD hS 16 rfl rfl 1 (by decide) (C.2.2.2.2 _ hlink) (fun _ h9 => h9) rfl (by decide +kernel) rfl rfl (Nat.le_of_ble_eq_true rfl) hdg (fun H1 locs1 a b d => ?_)
  have e : (wX ct ad n ro S).set 16 (ad 16, .inr (3, ([.ref ro, .int (S.1 17 0)] : List Value).set 1 (.int x))) = wX ct ad n ro (wr S 17 0 x) := rfl
  rw [e] at a b
  exact kk H1 locs1 a b d
theorem xg0_hart {i : Nat} (hi : i < 6) (C : CallFix p m c cc nL s args Ts own) (hin : ∀ w ∈ wsX00, w ∈ Ts) (hK : va_K g vwCl (xT ct) s) (hP : va_P g vwCl (wX ct ad n ro S) H) {index : Nat} (hlink : va_Nw (Cond.fieldLinkNest own index "LitmusRunner$Access" "hart" "I" "LitmusRunner") s) (hdg : decode cc pc = .ok (.getfield index, 3)) (kk : W p l e R s m args below meth c H locs cells slots QQ (F0 m (pc + 3) ls (.int (S.1 30 i) :: rest))) : W p l e R s m args below meth c H locs cells slots QQ (F0 m pc ls (.ref (ad (20 + i)) :: rest)) :=
  va_getN (D := g) (ci := 0) (v := .int (S.1 30 i)) (C := RX0) (T := TX0) (N := 14) C.1 C.2.1 C.2.2.2.2 hin C.2.2.2.1 hK hP (18 + i) (wX_acc hi) rfl 0 (by decide) (va_Nw.use rfl hlink) (fun _ h9 => h9) rfl hdg kk
theorem xp0_hart {i : Nat} (hi : i < 6) (C : CallFix p m c cc nL s args Ts own) (hin : ∀ w ∈ wsX00, w ∈ Ts) (hK : va_K g vwCl (xT ct) s) (hP : va_P g vwCl (wX ct ad n ro S) H) (hD : va_D A (wX ct ad n ro S)) (hS : va_S A H0 H locs) {index : Nat} (hlink : va_Nw (Cond.fieldLinkNest own index "LitmusRunner$Access" "hart" "I" "LitmusRunner") s) {x : Int32} (hdg : decode cc pc = .ok (.putfield index, 3)) (kk : ∀ (H1 : Heap) (locs1 : List Loc), va_P g vwCl (wX ct ad n ro (wr S 30 i x)) H1 → va_D A (wX ct ad n ro (wr S 30 i x)) → va_S A H0 H1 locs1 → W p l e R s m args below meth c H1 locs1 cells slots QQ (F0 m (pc + 3) ls rest)) : W p l e R s m args below meth c H locs cells slots QQ (F0 m pc ls (.int x :: .ref (ad (20 + i)) :: rest)) := by
  refine va_putN (D := g) (ci := 0) (v := .int x) (ty := .int) (C := RX0) (T := TX0) (N := 14) C.1 C.2.1 C.2.2.2.2 hin tyX0 tyX0_ok nmX0 C.2.2.2.1 hK hP hD hS (18 + i) (wX_acc hi) rfl 0 (by decide) (va_Nw.use rfl hlink) (fun _ h9 => h9) rfl (by decide +kernel) rfl rfl (Nat.le_of_ble_eq_true rfl) hdg (fun H1 locs1 a b d => ?_)
  have e : (wX ct ad n ro S).set (18 + i) (ad (20 + i), .inr (0, (xaf S i).set 0 (.int x))) = wX ct ad n ro (wr S 30 i x) := wX_accS hi 0 rfl (by decide)
  rw [e] at a b
  exact kk H1 locs1 a b d
theorem xg0_kind {i : Nat} (hi : i < 6) (C : CallFix p m c cc nL s args Ts own) (hin : ∀ w ∈ wsX00, w ∈ Ts) (hK : va_K g vwCl (xT ct) s) (hP : va_P g vwCl (wX ct ad n ro S) H) {index : Nat} (hlink : va_Nw (Cond.fieldLinkNest own index "LitmusRunner$Access" "kind" "I" "LitmusRunner") s) (hdg : decode cc pc = .ok (.getfield index, 3)) (kk : W p l e R s m args below meth c H locs cells slots QQ (F0 m (pc + 3) ls (.int (S.1 31 i) :: rest))) : W p l e R s m args below meth c H locs cells slots QQ (F0 m pc ls (.ref (ad (20 + i)) :: rest)) :=
  va_getN (D := g) (ci := 0) (v := .int (S.1 31 i)) (C := RX0) (T := TX0) (N := 14) C.1 C.2.1 C.2.2.2.2 hin C.2.2.2.1 hK hP (18 + i) (wX_acc hi) rfl 1 (by decide) (va_Nw.use rfl hlink) (fun _ h9 => h9) rfl hdg kk
theorem xp0_kind {i : Nat} (hi : i < 6) (C : CallFix p m c cc nL s args Ts own) (hin : ∀ w ∈ wsX00, w ∈ Ts) (hK : va_K g vwCl (xT ct) s) (hP : va_P g vwCl (wX ct ad n ro S) H) (hD : va_D A (wX ct ad n ro S)) (hS : va_S A H0 H locs) {index : Nat} (hlink : va_Nw (Cond.fieldLinkNest own index "LitmusRunner$Access" "kind" "I" "LitmusRunner") s) {x : Int32} (hdg : decode cc pc = .ok (.putfield index, 3)) (kk : ∀ (H1 : Heap) (locs1 : List Loc), va_P g vwCl (wX ct ad n ro (wr S 31 i x)) H1 → va_D A (wX ct ad n ro (wr S 31 i x)) → va_S A H0 H1 locs1 → W p l e R s m args below meth c H1 locs1 cells slots QQ (F0 m (pc + 3) ls rest)) : W p l e R s m args below meth c H locs cells slots QQ (F0 m pc ls (.int x :: .ref (ad (20 + i)) :: rest)) := by
  refine va_putN (D := g) (ci := 0) (v := .int x) (ty := .int) (C := RX0) (T := TX0) (N := 14) C.1 C.2.1 C.2.2.2.2 hin tyX0 tyX0_ok nmX0 C.2.2.2.1 hK hP hD hS (18 + i) (wX_acc hi) rfl 1 (by decide) (va_Nw.use rfl hlink) (fun _ h9 => h9) rfl (by decide +kernel) rfl rfl (Nat.le_of_ble_eq_true rfl) hdg (fun H1 locs1 a b d => ?_)
  have e : (wX ct ad n ro S).set (18 + i) (ad (20 + i), .inr (0, (xaf S i).set 1 (.int x))) = wX ct ad n ro (wr S 31 i x) := wX_accS hi 1 rfl (by decide)
  rw [e] at a b
  exact kk H1 locs1 a b d
theorem xg0_location {i : Nat} (hi : i < 6) (C : CallFix p m c cc nL s args Ts own) (hin : ∀ w ∈ wsX00, w ∈ Ts) (hK : va_K g vwCl (xT ct) s) (hP : va_P g vwCl (wX ct ad n ro S) H) {index : Nat} (hlink : va_Nw (Cond.fieldLinkNest own index "LitmusRunner$Access" "location" "I" "LitmusRunner") s) (hdg : decode cc pc = .ok (.getfield index, 3)) (kk : W p l e R s m args below meth c H locs cells slots QQ (F0 m (pc + 3) ls (.int (S.1 32 i) :: rest))) : W p l e R s m args below meth c H locs cells slots QQ (F0 m pc ls (.ref (ad (20 + i)) :: rest)) :=
  va_getN (D := g) (ci := 0) (v := .int (S.1 32 i)) (C := RX0) (T := TX0) (N := 14) C.1 C.2.1 C.2.2.2.2 hin C.2.2.2.1 hK hP (18 + i) (wX_acc hi) rfl 2 (by decide) (va_Nw.use rfl hlink) (fun _ h9 => h9) rfl hdg kk
theorem xp0_location {i : Nat} (hi : i < 6) (C : CallFix p m c cc nL s args Ts own) (hin : ∀ w ∈ wsX00, w ∈ Ts) (hK : va_K g vwCl (xT ct) s) (hP : va_P g vwCl (wX ct ad n ro S) H) (hD : va_D A (wX ct ad n ro S)) (hS : va_S A H0 H locs) {index : Nat} (hlink : va_Nw (Cond.fieldLinkNest own index "LitmusRunner$Access" "location" "I" "LitmusRunner") s) {x : Int32} (hdg : decode cc pc = .ok (.putfield index, 3)) (kk : ∀ (H1 : Heap) (locs1 : List Loc), va_P g vwCl (wX ct ad n ro (wr S 32 i x)) H1 → va_D A (wX ct ad n ro (wr S 32 i x)) → va_S A H0 H1 locs1 → W p l e R s m args below meth c H1 locs1 cells slots QQ (F0 m (pc + 3) ls rest)) : W p l e R s m args below meth c H locs cells slots QQ (F0 m pc ls (.int x :: .ref (ad (20 + i)) :: rest)) := by
  refine va_putN (D := g) (ci := 0) (v := .int x) (ty := .int) (C := RX0) (T := TX0) (N := 14) C.1 C.2.1 C.2.2.2.2 hin tyX0 tyX0_ok nmX0 C.2.2.2.1 hK hP hD hS (18 + i) (wX_acc hi) rfl 2 (by decide) (va_Nw.use rfl hlink) (fun _ h9 => h9) rfl (by decide +kernel) rfl rfl (Nat.le_of_ble_eq_true rfl) hdg (fun H1 locs1 a b d => ?_)
  have e : (wX ct ad n ro S).set (18 + i) (ad (20 + i), .inr (0, (xaf S i).set 2 (.int x))) = wX ct ad n ro (wr S 32 i x) := wX_accS hi 2 rfl (by decide)
  rw [e] at a b
  exact kk H1 locs1 a b d
theorem xg0_marks {i : Nat} (hi : i < 6) (C : CallFix p m c cc nL s args Ts own) (hin : ∀ w ∈ wsX00, w ∈ Ts) (hK : va_K g vwCl (xT ct) s) (hP : va_P g vwCl (wX ct ad n ro S) H) {index : Nat} (hlink : va_Nw (Cond.fieldLinkNest own index "LitmusRunner$Access" "marks" "I" "LitmusRunner") s) (hdg : decode cc pc = .ok (.getfield index, 3)) (kk : W p l e R s m args below meth c H locs cells slots QQ (F0 m (pc + 3) ls (.int (S.1 33 i) :: rest))) : W p l e R s m args below meth c H locs cells slots QQ (F0 m pc ls (.ref (ad (20 + i)) :: rest)) :=
  va_getN (D := g) (ci := 0) (v := .int (S.1 33 i)) (C := RX0) (T := TX0) (N := 14) C.1 C.2.1 C.2.2.2.2 hin C.2.2.2.1 hK hP (18 + i) (wX_acc hi) rfl 3 (by decide) (va_Nw.use rfl hlink) (fun _ h9 => h9) rfl hdg kk
theorem xp0_marks {i : Nat} (hi : i < 6) (C : CallFix p m c cc nL s args Ts own) (hin : ∀ w ∈ wsX00, w ∈ Ts) (hK : va_K g vwCl (xT ct) s) (hP : va_P g vwCl (wX ct ad n ro S) H) (hD : va_D A (wX ct ad n ro S)) (hS : va_S A H0 H locs) {index : Nat} (hlink : va_Nw (Cond.fieldLinkNest own index "LitmusRunner$Access" "marks" "I" "LitmusRunner") s) {x : Int32} (hdg : decode cc pc = .ok (.putfield index, 3)) (kk : ∀ (H1 : Heap) (locs1 : List Loc), va_P g vwCl (wX ct ad n ro (wr S 33 i x)) H1 → va_D A (wX ct ad n ro (wr S 33 i x)) → va_S A H0 H1 locs1 → W p l e R s m args below meth c H1 locs1 cells slots QQ (F0 m (pc + 3) ls rest)) : W p l e R s m args below meth c H locs cells slots QQ (F0 m pc ls (.int x :: .ref (ad (20 + i)) :: rest)) := by
  refine va_putN (D := g) (ci := 0) (v := .int x) (ty := .int) (C := RX0) (T := TX0) (N := 14) C.1 C.2.1 C.2.2.2.2 hin tyX0 tyX0_ok nmX0 C.2.2.2.1 hK hP hD hS (18 + i) (wX_acc hi) rfl 3 (by decide) (va_Nw.use rfl hlink) (fun _ h9 => h9) rfl (by decide +kernel) rfl rfl (Nat.le_of_ble_eq_true rfl) hdg (fun H1 locs1 a b d => ?_)
  have e : (wX ct ad n ro S).set (18 + i) (ad (20 + i), .inr (0, (xaf S i).set 3 (.int x))) = wX ct ad n ro (wr S 33 i x) := wX_accS hi 3 rfl (by decide)
  rw [e] at a b
  exact kk H1 locs1 a b d
theorem xg0_reads {i : Nat} (hi : i < 6) (C : CallFix p m c cc nL s args Ts own) (hin : ∀ w ∈ wsX00, w ∈ Ts) (hK : va_K g vwCl (xT ct) s) (hP : va_P g vwCl (wX ct ad n ro S) H) {index : Nat} (hlink : va_Nw (Cond.fieldLinkNest own index "LitmusRunner$Access" "reads" "Z" "LitmusRunner") s) (hdg : decode cc pc = .ok (.getfield index, 3)) (kk : W p l e R s m args below meth c H locs cells slots QQ (F0 m (pc + 3) ls (.int (S.1 34 i) :: rest))) : W p l e R s m args below meth c H locs cells slots QQ (F0 m pc ls (.ref (ad (20 + i)) :: rest)) :=
  va_getN (D := g) (ci := 0) (v := .int (S.1 34 i)) (C := RX0) (T := TX0) (N := 14) C.1 C.2.1 C.2.2.2.2 hin C.2.2.2.1 hK hP (18 + i) (wX_acc hi) rfl 4 (by decide) (va_Nw.use rfl hlink) (fun _ h9 => h9) rfl hdg kk
theorem xp0_reads {i : Nat} (hi : i < 6) (C : CallFix p m c cc nL s args Ts own) (hin : ∀ w ∈ wsX00, w ∈ Ts) (hK : va_K g vwCl (xT ct) s) (hP : va_P g vwCl (wX ct ad n ro S) H) (hD : va_D A (wX ct ad n ro S)) (hS : va_S A H0 H locs) {index : Nat} (hlink : va_Nw (Cond.fieldLinkNest own index "LitmusRunner$Access" "reads" "Z" "LitmusRunner") s) {x : Int32} (hz : zb x) (hdg : decode cc pc = .ok (.putfield index, 3)) (kk : ∀ (H1 : Heap) (locs1 : List Loc), va_P g vwCl (wX ct ad n ro (wr S 34 i x)) H1 → va_D A (wX ct ad n ro (wr S 34 i x)) → va_S A H0 H1 locs1 → W p l e R s m args below meth c H1 locs1 cells slots QQ (F0 m (pc + 3) ls rest)) : W p l e R s m args below meth c H locs cells slots QQ (F0 m pc ls (.int x :: .ref (ad (20 + i)) :: rest)) := by
  refine va_putN (D := g) (ci := 0) (v := .int x) (ty := .boolean) (C := RX0) (T := TX0) (N := 14) C.1 C.2.1 C.2.2.2.2 hin tyX0 tyX0_ok nmX0 C.2.2.2.1 hK hP hD hS (18 + i) (wX_acc hi) rfl 4 (by decide) (va_Nw.use rfl hlink) (fun _ h9 => h9) rfl (by decide +kernel) (zb_n hz) (zb_f hz) (Nat.le_of_ble_eq_true rfl) hdg (fun H1 locs1 a b d => ?_)
  have e : (wX ct ad n ro S).set (18 + i) (ad (20 + i), .inr (0, (xaf S i).set 4 (.int x))) = wX ct ad n ro (wr S 34 i x) := wX_accS hi 4 rfl (by decide)
  rw [e] at a b
  exact kk H1 locs1 a b d
theorem xg0_writes {i : Nat} (hi : i < 6) (C : CallFix p m c cc nL s args Ts own) (hin : ∀ w ∈ wsX00, w ∈ Ts) (hK : va_K g vwCl (xT ct) s) (hP : va_P g vwCl (wX ct ad n ro S) H) {index : Nat} (hlink : va_Nw (Cond.fieldLinkNest own index "LitmusRunner$Access" "writes" "Z" "LitmusRunner") s) (hdg : decode cc pc = .ok (.getfield index, 3)) (kk : W p l e R s m args below meth c H locs cells slots QQ (F0 m (pc + 3) ls (.int (S.1 35 i) :: rest))) : W p l e R s m args below meth c H locs cells slots QQ (F0 m pc ls (.ref (ad (20 + i)) :: rest)) :=
  va_getN (D := g) (ci := 0) (v := .int (S.1 35 i)) (C := RX0) (T := TX0) (N := 14) C.1 C.2.1 C.2.2.2.2 hin C.2.2.2.1 hK hP (18 + i) (wX_acc hi) rfl 5 (by decide) (va_Nw.use rfl hlink) (fun _ h9 => h9) rfl hdg kk
theorem xp0_writes {i : Nat} (hi : i < 6) (C : CallFix p m c cc nL s args Ts own) (hin : ∀ w ∈ wsX00, w ∈ Ts) (hK : va_K g vwCl (xT ct) s) (hP : va_P g vwCl (wX ct ad n ro S) H) (hD : va_D A (wX ct ad n ro S)) (hS : va_S A H0 H locs) {index : Nat} (hlink : va_Nw (Cond.fieldLinkNest own index "LitmusRunner$Access" "writes" "Z" "LitmusRunner") s) {x : Int32} (hz : zb x) (hdg : decode cc pc = .ok (.putfield index, 3)) (kk : ∀ (H1 : Heap) (locs1 : List Loc), va_P g vwCl (wX ct ad n ro (wr S 35 i x)) H1 → va_D A (wX ct ad n ro (wr S 35 i x)) → va_S A H0 H1 locs1 → W p l e R s m args below meth c H1 locs1 cells slots QQ (F0 m (pc + 3) ls rest)) : W p l e R s m args below meth c H locs cells slots QQ (F0 m pc ls (.int x :: .ref (ad (20 + i)) :: rest)) := by
  refine va_putN (D := g) (ci := 0) (v := .int x) (ty := .boolean) (C := RX0) (T := TX0) (N := 14) C.1 C.2.1 C.2.2.2.2 hin tyX0 tyX0_ok nmX0 C.2.2.2.1 hK hP hD hS (18 + i) (wX_acc hi) rfl 5 (by decide) (va_Nw.use rfl hlink) (fun _ h9 => h9) rfl (by decide +kernel) (zb_n hz) (zb_f hz) (Nat.le_of_ble_eq_true rfl) hdg (fun H1 locs1 a b d => ?_)
  have e : (wX ct ad n ro S).set (18 + i) (ad (20 + i), .inr (0, (xaf S i).set 5 (.int x))) = wX ct ad n ro (wr S 35 i x) := wX_accS hi 5 rfl (by decide)
  rw [e] at a b
  exact kk H1 locs1 a b d
theorem xg0_got {i : Nat} (hi : i < 6) (C : CallFix p m c cc nL s args Ts own) (hin : ∀ w ∈ wsX00, w ∈ Ts) (hK : va_K g vwCl (xT ct) s) (hP : va_P g vwCl (wX ct ad n ro S) H) {index : Nat} (hlink : va_Nw (Cond.fieldLinkNest own index "LitmusRunner$Access" "got" "I" "LitmusRunner") s) (hdg : decode cc pc = .ok (.getfield index, 3)) (kk : W p l e R s m args below meth c H locs cells slots QQ (F0 m (pc + 3) ls (.int (S.1 36 i) :: rest))) : W p l e R s m args below meth c H locs cells slots QQ (F0 m pc ls (.ref (ad (20 + i)) :: rest)) :=
  va_getN (D := g) (ci := 0) (v := .int (S.1 36 i)) (C := RX0) (T := TX0) (N := 14) C.1 C.2.1 C.2.2.2.2 hin C.2.2.2.1 hK hP (18 + i) (wX_acc hi) rfl 6 (by decide) (va_Nw.use rfl hlink) (fun _ h9 => h9) rfl hdg kk
theorem xp0_got {i : Nat} (hi : i < 6) (C : CallFix p m c cc nL s args Ts own) (hin : ∀ w ∈ wsX00, w ∈ Ts) (hK : va_K g vwCl (xT ct) s) (hP : va_P g vwCl (wX ct ad n ro S) H) (hD : va_D A (wX ct ad n ro S)) (hS : va_S A H0 H locs) {index : Nat} (hlink : va_Nw (Cond.fieldLinkNest own index "LitmusRunner$Access" "got" "I" "LitmusRunner") s) {x : Int32} (hdg : decode cc pc = .ok (.putfield index, 3)) (kk : ∀ (H1 : Heap) (locs1 : List Loc), va_P g vwCl (wX ct ad n ro (wr S 36 i x)) H1 → va_D A (wX ct ad n ro (wr S 36 i x)) → va_S A H0 H1 locs1 → W p l e R s m args below meth c H1 locs1 cells slots QQ (F0 m (pc + 3) ls rest)) : W p l e R s m args below meth c H locs cells slots QQ (F0 m pc ls (.int x :: .ref (ad (20 + i)) :: rest)) := by
  refine va_putN (D := g) (ci := 0) (v := .int x) (ty := .int) (C := RX0) (T := TX0) (N := 14) C.1 C.2.1 C.2.2.2.2 hin tyX0 tyX0_ok nmX0 C.2.2.2.1 hK hP hD hS (18 + i) (wX_acc hi) rfl 6 (by decide) (va_Nw.use rfl hlink) (fun _ h9 => h9) rfl (by decide +kernel) rfl rfl (Nat.le_of_ble_eq_true rfl) hdg (fun H1 locs1 a b d => ?_)
  have e : (wX ct ad n ro S).set (18 + i) (ad (20 + i), .inr (0, (xaf S i).set 6 (.int x))) = wX ct ad n ro (wr S 36 i x) := wX_accS hi 6 rfl (by decide)
  rw [e] at a b
  exact kk H1 locs1 a b d
theorem xg0_put {i : Nat} (hi : i < 6) (C : CallFix p m c cc nL s args Ts own) (hin : ∀ w ∈ wsX00, w ∈ Ts) (hK : va_K g vwCl (xT ct) s) (hP : va_P g vwCl (wX ct ad n ro S) H) {index : Nat} (hlink : va_Nw (Cond.fieldLinkNest own index "LitmusRunner$Access" "put" "I" "LitmusRunner") s) (hdg : decode cc pc = .ok (.getfield index, 3)) (kk : W p l e R s m args below meth c H locs cells slots QQ (F0 m (pc + 3) ls (.int (S.1 37 i) :: rest))) : W p l e R s m args below meth c H locs cells slots QQ (F0 m pc ls (.ref (ad (20 + i)) :: rest)) :=
  va_getN (D := g) (ci := 0) (v := .int (S.1 37 i)) (C := RX0) (T := TX0) (N := 14) C.1 C.2.1 C.2.2.2.2 hin C.2.2.2.1 hK hP (18 + i) (wX_acc hi) rfl 7 (by decide) (va_Nw.use rfl hlink) (fun _ h9 => h9) rfl hdg kk
theorem xp0_put {i : Nat} (hi : i < 6) (C : CallFix p m c cc nL s args Ts own) (hin : ∀ w ∈ wsX00, w ∈ Ts) (hK : va_K g vwCl (xT ct) s) (hP : va_P g vwCl (wX ct ad n ro S) H) (hD : va_D A (wX ct ad n ro S)) (hS : va_S A H0 H locs) {index : Nat} (hlink : va_Nw (Cond.fieldLinkNest own index "LitmusRunner$Access" "put" "I" "LitmusRunner") s) {x : Int32} (hdg : decode cc pc = .ok (.putfield index, 3)) (kk : ∀ (H1 : Heap) (locs1 : List Loc), va_P g vwCl (wX ct ad n ro (wr S 37 i x)) H1 → va_D A (wX ct ad n ro (wr S 37 i x)) → va_S A H0 H1 locs1 → W p l e R s m args below meth c H1 locs1 cells slots QQ (F0 m (pc + 3) ls rest)) : W p l e R s m args below meth c H locs cells slots QQ (F0 m pc ls (.int x :: .ref (ad (20 + i)) :: rest)) := by
  refine va_putN (D := g) (ci := 0) (v := .int x) (ty := .int) (C := RX0) (T := TX0) (N := 14) C.1 C.2.1 C.2.2.2.2 hin tyX0 tyX0_ok nmX0 C.2.2.2.1 hK hP hD hS (18 + i) (wX_acc hi) rfl 7 (by decide) (va_Nw.use rfl hlink) (fun _ h9 => h9) rfl (by decide +kernel) rfl rfl (Nat.le_of_ble_eq_true rfl) hdg (fun H1 locs1 a b d => ?_)
  have e : (wX ct ad n ro S).set (18 + i) (ad (20 + i), .inr (0, (xaf S i).set 7 (.int x))) = wX ct ad n ro (wr S 37 i x) := wX_accS hi 7 rfl (by decide)
  rw [e] at a b
  exact kk H1 locs1 a b d
theorem xg0_byPlace {i : Nat} (hi : i < 6) (C : CallFix p m c cc nL s args Ts own) (hin : ∀ w ∈ wsX00, w ∈ Ts) (hK : va_K g vwCl (xT ct) s) (hP : va_P g vwCl (wX ct ad n ro S) H) {index : Nat} (hlink : va_Nw (Cond.fieldLinkNest own index "LitmusRunner$Access" "byPlace" "I" "LitmusRunner") s) (hdg : decode cc pc = .ok (.getfield index, 3)) (kk : W p l e R s m args below meth c H locs cells slots QQ (F0 m (pc + 3) ls (.int (S.1 38 i) :: rest))) : W p l e R s m args below meth c H locs cells slots QQ (F0 m pc ls (.ref (ad (20 + i)) :: rest)) :=
  va_getN (D := g) (ci := 0) (v := .int (S.1 38 i)) (C := RX0) (T := TX0) (N := 14) C.1 C.2.1 C.2.2.2.2 hin C.2.2.2.1 hK hP (18 + i) (wX_acc hi) rfl 8 (by decide) (va_Nw.use rfl hlink) (fun _ h9 => h9) rfl hdg kk
theorem xp0_byPlace {i : Nat} (hi : i < 6) (C : CallFix p m c cc nL s args Ts own) (hin : ∀ w ∈ wsX00, w ∈ Ts) (hK : va_K g vwCl (xT ct) s) (hP : va_P g vwCl (wX ct ad n ro S) H) (hD : va_D A (wX ct ad n ro S)) (hS : va_S A H0 H locs) {index : Nat} (hlink : va_Nw (Cond.fieldLinkNest own index "LitmusRunner$Access" "byPlace" "I" "LitmusRunner") s) {x : Int32} (hdg : decode cc pc = .ok (.putfield index, 3)) (kk : ∀ (H1 : Heap) (locs1 : List Loc), va_P g vwCl (wX ct ad n ro (wr S 38 i x)) H1 → va_D A (wX ct ad n ro (wr S 38 i x)) → va_S A H0 H1 locs1 → W p l e R s m args below meth c H1 locs1 cells slots QQ (F0 m (pc + 3) ls rest)) : W p l e R s m args below meth c H locs cells slots QQ (F0 m pc ls (.int x :: .ref (ad (20 + i)) :: rest)) := by
  refine va_putN (D := g) (ci := 0) (v := .int x) (ty := .int) (C := RX0) (T := TX0) (N := 14) C.1 C.2.1 C.2.2.2.2 hin tyX0 tyX0_ok nmX0 C.2.2.2.1 hK hP hD hS (18 + i) (wX_acc hi) rfl 8 (by decide) (va_Nw.use rfl hlink) (fun _ h9 => h9) rfl (by decide +kernel) rfl rfl (Nat.le_of_ble_eq_true rfl) hdg (fun H1 locs1 a b d => ?_)
  have e : (wX ct ad n ro S).set (18 + i) (ad (20 + i), .inr (0, (xaf S i).set 8 (.int x))) = wX ct ad n ro (wr S 38 i x) := wX_accS hi 8 rfl (by decide)
  rw [e] at a b
  exact kk H1 locs1 a b d
theorem xg0_byValue {i : Nat} (hi : i < 6) (C : CallFix p m c cc nL s args Ts own) (hin : ∀ w ∈ wsX00, w ∈ Ts) (hK : va_K g vwCl (xT ct) s) (hP : va_P g vwCl (wX ct ad n ro S) H) {index : Nat} (hlink : va_Nw (Cond.fieldLinkNest own index "LitmusRunner$Access" "byValue" "I" "LitmusRunner") s) (hdg : decode cc pc = .ok (.getfield index, 3)) (kk : W p l e R s m args below meth c H locs cells slots QQ (F0 m (pc + 3) ls (.int (S.1 39 i) :: rest))) : W p l e R s m args below meth c H locs cells slots QQ (F0 m pc ls (.ref (ad (20 + i)) :: rest)) :=
  va_getN (D := g) (ci := 0) (v := .int (S.1 39 i)) (C := RX0) (T := TX0) (N := 14) C.1 C.2.1 C.2.2.2.2 hin C.2.2.2.1 hK hP (18 + i) (wX_acc hi) rfl 9 (by decide) (va_Nw.use rfl hlink) (fun _ h9 => h9) rfl hdg kk
theorem xp0_byValue {i : Nat} (hi : i < 6) (C : CallFix p m c cc nL s args Ts own) (hin : ∀ w ∈ wsX00, w ∈ Ts) (hK : va_K g vwCl (xT ct) s) (hP : va_P g vwCl (wX ct ad n ro S) H) (hD : va_D A (wX ct ad n ro S)) (hS : va_S A H0 H locs) {index : Nat} (hlink : va_Nw (Cond.fieldLinkNest own index "LitmusRunner$Access" "byValue" "I" "LitmusRunner") s) {x : Int32} (hdg : decode cc pc = .ok (.putfield index, 3)) (kk : ∀ (H1 : Heap) (locs1 : List Loc), va_P g vwCl (wX ct ad n ro (wr S 39 i x)) H1 → va_D A (wX ct ad n ro (wr S 39 i x)) → va_S A H0 H1 locs1 → W p l e R s m args below meth c H1 locs1 cells slots QQ (F0 m (pc + 3) ls rest)) : W p l e R s m args below meth c H locs cells slots QQ (F0 m pc ls (.int x :: .ref (ad (20 + i)) :: rest)) := by
  refine va_putN (D := g) (ci := 0) (v := .int x) (ty := .int) (C := RX0) (T := TX0) (N := 14) C.1 C.2.1 C.2.2.2.2 hin tyX0 tyX0_ok nmX0 C.2.2.2.1 hK hP hD hS (18 + i) (wX_acc hi) rfl 9 (by decide) (va_Nw.use rfl hlink) (fun _ h9 => h9) rfl (by decide +kernel) rfl rfl (Nat.le_of_ble_eq_true rfl) hdg (fun H1 locs1 a b d => ?_)
  have e : (wX ct ad n ro S).set (18 + i) (ad (20 + i), .inr (0, (xaf S i).set 9 (.int x))) = wX ct ad n ro (wr S 39 i x) := wX_accS hi 9 rfl (by decide)
  rw [e] at a b
  exact kk H1 locs1 a b d
theorem xg0_reserve {i : Nat} (hi : i < 6) (C : CallFix p m c cc nL s args Ts own) (hin : ∀ w ∈ wsX00, w ∈ Ts) (hK : va_K g vwCl (xT ct) s) (hP : va_P g vwCl (wX ct ad n ro S) H) {index : Nat} (hlink : va_Nw (Cond.fieldLinkNest own index "LitmusRunner$Access" "reserve" "I" "LitmusRunner") s) (hdg : decode cc pc = .ok (.getfield index, 3)) (kk : W p l e R s m args below meth c H locs cells slots QQ (F0 m (pc + 3) ls (.int (S.1 40 i) :: rest))) : W p l e R s m args below meth c H locs cells slots QQ (F0 m pc ls (.ref (ad (20 + i)) :: rest)) :=
  va_getN (D := g) (ci := 0) (v := .int (S.1 40 i)) (C := RX0) (T := TX0) (N := 14) C.1 C.2.1 C.2.2.2.2 hin C.2.2.2.1 hK hP (18 + i) (wX_acc hi) rfl 10 (by decide) (va_Nw.use rfl hlink) (fun _ h9 => h9) rfl hdg kk
theorem xp0_reserve {i : Nat} (hi : i < 6) (C : CallFix p m c cc nL s args Ts own) (hin : ∀ w ∈ wsX00, w ∈ Ts) (hK : va_K g vwCl (xT ct) s) (hP : va_P g vwCl (wX ct ad n ro S) H) (hD : va_D A (wX ct ad n ro S)) (hS : va_S A H0 H locs) {index : Nat} (hlink : va_Nw (Cond.fieldLinkNest own index "LitmusRunner$Access" "reserve" "I" "LitmusRunner") s) {x : Int32} (hdg : decode cc pc = .ok (.putfield index, 3)) (kk : ∀ (H1 : Heap) (locs1 : List Loc), va_P g vwCl (wX ct ad n ro (wr S 40 i x)) H1 → va_D A (wX ct ad n ro (wr S 40 i x)) → va_S A H0 H1 locs1 → W p l e R s m args below meth c H1 locs1 cells slots QQ (F0 m (pc + 3) ls rest)) : W p l e R s m args below meth c H locs cells slots QQ (F0 m pc ls (.int x :: .ref (ad (20 + i)) :: rest)) := by
  refine va_putN (D := g) (ci := 0) (v := .int x) (ty := .int) (C := RX0) (T := TX0) (N := 14) C.1 C.2.1 C.2.2.2.2 hin tyX0 tyX0_ok nmX0 C.2.2.2.1 hK hP hD hS (18 + i) (wX_acc hi) rfl 10 (by decide) (va_Nw.use rfl hlink) (fun _ h9 => h9) rfl (by decide +kernel) rfl rfl (Nat.le_of_ble_eq_true rfl) hdg (fun H1 locs1 a b d => ?_)
  have e : (wX ct ad n ro S).set (18 + i) (ad (20 + i), .inr (0, (xaf S i).set 10 (.int x))) = wX ct ad n ro (wr S 40 i x) := wX_accS hi 10 rfl (by decide)
  rw [e] at a b
  exact kk H1 locs1 a b d
theorem xg0_ownWrite {i : Nat} (hi : i < 6) (C : CallFix p m c cc nL s args Ts own) (hin : ∀ w ∈ wsX00, w ∈ Ts) (hK : va_K g vwCl (xT ct) s) (hP : va_P g vwCl (wX ct ad n ro S) H) {index : Nat} (hlink : va_Nw (Cond.fieldLinkNest own index "LitmusRunner$Access" "ownWrite" "I" "LitmusRunner") s) (hdg : decode cc pc = .ok (.getfield index, 3)) (kk : W p l e R s m args below meth c H locs cells slots QQ (F0 m (pc + 3) ls (.int (S.1 41 i) :: rest))) : W p l e R s m args below meth c H locs cells slots QQ (F0 m pc ls (.ref (ad (20 + i)) :: rest)) :=
  va_getN (D := g) (ci := 0) (v := .int (S.1 41 i)) (C := RX0) (T := TX0) (N := 14) C.1 C.2.1 C.2.2.2.2 hin C.2.2.2.1 hK hP (18 + i) (wX_acc hi) rfl 11 (by decide) (va_Nw.use rfl hlink) (fun _ h9 => h9) rfl hdg kk
theorem xp0_ownWrite {i : Nat} (hi : i < 6) (C : CallFix p m c cc nL s args Ts own) (hin : ∀ w ∈ wsX00, w ∈ Ts) (hK : va_K g vwCl (xT ct) s) (hP : va_P g vwCl (wX ct ad n ro S) H) (hD : va_D A (wX ct ad n ro S)) (hS : va_S A H0 H locs) {index : Nat} (hlink : va_Nw (Cond.fieldLinkNest own index "LitmusRunner$Access" "ownWrite" "I" "LitmusRunner") s) {x : Int32} (hdg : decode cc pc = .ok (.putfield index, 3)) (kk : ∀ (H1 : Heap) (locs1 : List Loc), va_P g vwCl (wX ct ad n ro (wr S 41 i x)) H1 → va_D A (wX ct ad n ro (wr S 41 i x)) → va_S A H0 H1 locs1 → W p l e R s m args below meth c H1 locs1 cells slots QQ (F0 m (pc + 3) ls rest)) : W p l e R s m args below meth c H locs cells slots QQ (F0 m pc ls (.int x :: .ref (ad (20 + i)) :: rest)) := by
  refine va_putN (D := g) (ci := 0) (v := .int x) (ty := .int) (C := RX0) (T := TX0) (N := 14) C.1 C.2.1 C.2.2.2.2 hin tyX0 tyX0_ok nmX0 C.2.2.2.1 hK hP hD hS (18 + i) (wX_acc hi) rfl 11 (by decide) (va_Nw.use rfl hlink) (fun _ h9 => h9) rfl (by decide +kernel) rfl rfl (Nat.le_of_ble_eq_true rfl) hdg (fun H1 locs1 a b d => ?_)
  have e : (wX ct ad n ro S).set (18 + i) (ad (20 + i), .inr (0, (xaf S i).set 11 (.int x))) = wX ct ad n ro (wr S 41 i x) := wX_accS hi 11 rfl (by decide)
  rw [e] at a b
  exact kk H1 locs1 a b d
theorem xg0_twins {i : Nat} (hi : i < 6) (C : CallFix p m c cc nL s args Ts own) (hin : ∀ w ∈ wsX00, w ∈ Ts) (hK : va_K g vwCl (xT ct) s) (hP : va_P g vwCl (wX ct ad n ro S) H) {index : Nat} (hlink : va_Nw (Cond.fieldLinkNest own index "LitmusRunner$Access" "twins" "I" "LitmusRunner") s) (hdg : decode cc pc = .ok (.getfield index, 3)) (kk : W p l e R s m args below meth c H locs cells slots QQ (F0 m (pc + 3) ls (.int (S.1 42 i) :: rest))) : W p l e R s m args below meth c H locs cells slots QQ (F0 m pc ls (.ref (ad (20 + i)) :: rest)) :=
  va_getN (D := g) (ci := 0) (v := .int (S.1 42 i)) (C := RX0) (T := TX0) (N := 14) C.1 C.2.1 C.2.2.2.2 hin C.2.2.2.1 hK hP (18 + i) (wX_acc hi) rfl 12 (by decide) (va_Nw.use rfl hlink) (fun _ h9 => h9) rfl hdg kk
theorem xp0_twins {i : Nat} (hi : i < 6) (C : CallFix p m c cc nL s args Ts own) (hin : ∀ w ∈ wsX00, w ∈ Ts) (hK : va_K g vwCl (xT ct) s) (hP : va_P g vwCl (wX ct ad n ro S) H) (hD : va_D A (wX ct ad n ro S)) (hS : va_S A H0 H locs) {index : Nat} (hlink : va_Nw (Cond.fieldLinkNest own index "LitmusRunner$Access" "twins" "I" "LitmusRunner") s) {x : Int32} (hdg : decode cc pc = .ok (.putfield index, 3)) (kk : ∀ (H1 : Heap) (locs1 : List Loc), va_P g vwCl (wX ct ad n ro (wr S 42 i x)) H1 → va_D A (wX ct ad n ro (wr S 42 i x)) → va_S A H0 H1 locs1 → W p l e R s m args below meth c H1 locs1 cells slots QQ (F0 m (pc + 3) ls rest)) : W p l e R s m args below meth c H locs cells slots QQ (F0 m pc ls (.int x :: .ref (ad (20 + i)) :: rest)) := by
  refine va_putN (D := g) (ci := 0) (v := .int x) (ty := .int) (C := RX0) (T := TX0) (N := 14) C.1 C.2.1 C.2.2.2.2 hin tyX0 tyX0_ok nmX0 C.2.2.2.1 hK hP hD hS (18 + i) (wX_acc hi) rfl 12 (by decide) (va_Nw.use rfl hlink) (fun _ h9 => h9) rfl (by decide +kernel) rfl rfl (Nat.le_of_ble_eq_true rfl) hdg (fun H1 locs1 a b d => ?_)
  have e : (wX ct ad n ro S).set (18 + i) (ad (20 + i), .inr (0, (xaf S i).set 12 (.int x))) = wX ct ad n ro (wr S 42 i x) := wX_accS hi 12 rfl (by decide)
  rw [e] at a b
  exact kk H1 locs1 a b d
theorem xg0_after {i : Nat} (hi : i < 6) (C : CallFix p m c cc nL s args Ts own) (hin : ∀ w ∈ wsX00, w ∈ Ts) (hK : va_K g vwCl (xT ct) s) (hP : va_P g vwCl (wX ct ad n ro S) H) {index : Nat} (hlink : va_Nw (Cond.fieldLinkNest own index "LitmusRunner$Access" "after" "I" "LitmusRunner") s) (hdg : decode cc pc = .ok (.getfield index, 3)) (kk : W p l e R s m args below meth c H locs cells slots QQ (F0 m (pc + 3) ls (.int (S.1 43 i) :: rest))) : W p l e R s m args below meth c H locs cells slots QQ (F0 m pc ls (.ref (ad (20 + i)) :: rest)) :=
  va_getN (D := g) (ci := 0) (v := .int (S.1 43 i)) (C := RX0) (T := TX0) (N := 14) C.1 C.2.1 C.2.2.2.2 hin C.2.2.2.1 hK hP (18 + i) (wX_acc hi) rfl 13 (by decide) (va_Nw.use rfl hlink) (fun _ h9 => h9) rfl hdg kk
theorem xp0_after {i : Nat} (hi : i < 6) (C : CallFix p m c cc nL s args Ts own) (hin : ∀ w ∈ wsX00, w ∈ Ts) (hK : va_K g vwCl (xT ct) s) (hP : va_P g vwCl (wX ct ad n ro S) H) (hD : va_D A (wX ct ad n ro S)) (hS : va_S A H0 H locs) {index : Nat} (hlink : va_Nw (Cond.fieldLinkNest own index "LitmusRunner$Access" "after" "I" "LitmusRunner") s) {x : Int32} (hdg : decode cc pc = .ok (.putfield index, 3)) (kk : ∀ (H1 : Heap) (locs1 : List Loc), va_P g vwCl (wX ct ad n ro (wr S 43 i x)) H1 → va_D A (wX ct ad n ro (wr S 43 i x)) → va_S A H0 H1 locs1 → W p l e R s m args below meth c H1 locs1 cells slots QQ (F0 m (pc + 3) ls rest)) : W p l e R s m args below meth c H locs cells slots QQ (F0 m pc ls (.int x :: .ref (ad (20 + i)) :: rest)) := by
  refine va_putN (D := g) (ci := 0) (v := .int x) (ty := .int) (C := RX0) (T := TX0) (N := 14) C.1 C.2.1 C.2.2.2.2 hin tyX0 tyX0_ok nmX0 C.2.2.2.1 hK hP hD hS (18 + i) (wX_acc hi) rfl 13 (by decide) (va_Nw.use rfl hlink) (fun _ h9 => h9) rfl (by decide +kernel) rfl rfl (Nat.le_of_ble_eq_true rfl) hdg (fun H1 locs1 a b d => ?_)
  have e : (wX ct ad n ro S).set (18 + i) (ad (20 + i), .inr (0, (xaf S i).set 13 (.int x))) = wX ct ad n ro (wr S 43 i x) := wX_accS hi 13 rfl (by decide)
  rw [e] at a b
  exact kk H1 locs1 a b d
theorem xa_4_lengths (C : CallFix p m c cc nL s args Ts own) (hK : va_K g vwCl (xT ct) s) (hP : va_P g vwCl (wX ct ad n ro S) H) {i : Int32} (hi : vp_in i 4) {j : Nat} (hj : i.toNatClampNeg = j) (hdg : decode cc pc = .ok (.iaload, 1)) (kk : W p l e R s m args below meth c H locs cells slots QQ (F0 m (pc + 1) ls (.int (S.1 20 j) :: rest))) : W p l e R s m args below meth c H locs cells slots QQ (F0 m pc ls (.int i :: .ref (ad 3) :: rest)) := by
  subst hj
  exact va_iald C.1 C.2.1 hK hP 3 0 rfl rfl hi hdg kk
theorem xs_4_lengths (C : CallFix p m c cc nL s args Ts own) (hK : va_K g vwCl (xT ct) s) (hP : va_P g vwCl (wX ct ad n ro S) H) (hD : va_D A (wX ct ad n ro S)) (hS : va_S A H0 H locs) {i : Int32} (hi : vp_in i 4) {j : Nat} (hj : i.toNatClampNeg = j) {x : Int32} (hdg : decode cc pc = .ok (.iastore, 1)) (kk : ∀ (H1 : Heap) (locs1 : List Loc), va_P g vwCl (wX ct ad n ro (wr S 20 j x)) H1 → va_D A (wX ct ad n ro (wr S 20 j x)) → va_S A H0 H1 locs1 → W p l e R s m args below meth c H1 locs1 cells slots QQ (F0 m (pc + 1) ls rest)) : W p l e R s m args below meth c H locs cells slots QQ (F0 m pc ls (.int x :: .int i :: .ref (ad 3) :: rest)) := by
  subst hj
  refine va_iast C.1 C.2.1 hK hP hD hS 3 0 rfl rfl hi hdg (fun H1 locs1 a b d => ?_)
  have e : (wX ct ad n ro S).set 3 (ad 3, .inl (ct 0, 4, .inl (upd (S.1 20) i.toNatClampNeg x))) = wX ct ad n ro (wr S 20 i.toNatClampNeg x) := rfl
  rw [e] at a b
  exact kk H1 locs1 a b d
theorem xa_4_draft (C : CallFix p m c cc nL s args Ts own) (hK : va_K g vwCl (xT ct) s) (hP : va_P g vwCl (wX ct ad n ro S) H) {i : Int32} (hi : vp_in i 6) {j : Nat} (hj : i.toNatClampNeg = j) (hdg : decode cc pc = .ok (.iaload, 1)) (kk : W p l e R s m args below meth c H locs cells slots QQ (F0 m (pc + 1) ls (.int (S.1 21 j) :: rest))) : W p l e R s m args below meth c H locs cells slots QQ (F0 m pc ls (.int i :: .ref (ad 4) :: rest)) := by
  subst hj
  exact va_iald C.1 C.2.1 hK hP 4 0 rfl rfl hi hdg kk
theorem xs_4_draft (C : CallFix p m c cc nL s args Ts own) (hK : va_K g vwCl (xT ct) s) (hP : va_P g vwCl (wX ct ad n ro S) H) (hD : va_D A (wX ct ad n ro S)) (hS : va_S A H0 H locs) {i : Int32} (hi : vp_in i 6) {j : Nat} (hj : i.toNatClampNeg = j) {x : Int32} (hdg : decode cc pc = .ok (.iastore, 1)) (kk : ∀ (H1 : Heap) (locs1 : List Loc), va_P g vwCl (wX ct ad n ro (wr S 21 j x)) H1 → va_D A (wX ct ad n ro (wr S 21 j x)) → va_S A H0 H1 locs1 → W p l e R s m args below meth c H1 locs1 cells slots QQ (F0 m (pc + 1) ls rest)) : W p l e R s m args below meth c H locs cells slots QQ (F0 m pc ls (.int x :: .int i :: .ref (ad 4) :: rest)) := by
  subst hj
  refine va_iast C.1 C.2.1 hK hP hD hS 4 0 rfl rfl hi hdg (fun H1 locs1 a b d => ?_)
  have e : (wX ct ad n ro S).set 4 (ad 4, .inl (ct 0, 6, .inl (upd (S.1 21) i.toNatClampNeg x))) = wX ct ad n ro (wr S 21 i.toNatClampNeg x) := rfl
  rw [e] at a b
  exact kk H1 locs1 a b d
theorem xa_1_chosen (C : CallFix p m c cc nL s args Ts own) (hK : va_K g vwCl (xT ct) s) (hP : va_P g vwCl (wX ct ad n ro S) H) {i : Int32} (hi : vp_in i 6) {j : Nat} (hj : i.toNatClampNeg = j) (hdg : decode cc pc = .ok (.iaload, 1)) (kk : W p l e R s m args below meth c H locs cells slots QQ (F0 m (pc + 1) ls (.int (S.1 22 j) :: rest))) : W p l e R s m args below meth c H locs cells slots QQ (F0 m pc ls (.int i :: .ref (ad 6) :: rest)) := by
  subst hj
  exact va_iald C.1 C.2.1 hK hP 6 0 rfl rfl hi hdg kk
theorem xs_1_chosen (C : CallFix p m c cc nL s args Ts own) (hK : va_K g vwCl (xT ct) s) (hP : va_P g vwCl (wX ct ad n ro S) H) (hD : va_D A (wX ct ad n ro S)) (hS : va_S A H0 H locs) {i : Int32} (hi : vp_in i 6) {j : Nat} (hj : i.toNatClampNeg = j) {x : Int32} (hdg : decode cc pc = .ok (.iastore, 1)) (kk : ∀ (H1 : Heap) (locs1 : List Loc), va_P g vwCl (wX ct ad n ro (wr S 22 j x)) H1 → va_D A (wX ct ad n ro (wr S 22 j x)) → va_S A H0 H1 locs1 → W p l e R s m args below meth c H1 locs1 cells slots QQ (F0 m (pc + 1) ls rest)) : W p l e R s m args below meth c H locs cells slots QQ (F0 m pc ls (.int x :: .int i :: .ref (ad 6) :: rest)) := by
  subst hj
  refine va_iast C.1 C.2.1 hK hP hD hS 6 0 rfl rfl hi hdg (fun H1 locs1 a b d => ?_)
  have e : (wX ct ad n ro S).set 6 (ad 6, .inl (ct 0, 6, .inl (upd (S.1 22) i.toNatClampNeg x))) = wX ct ad n ro (wr S 22 i.toNatClampNeg x) := rfl
  rw [e] at a b
  exact kk H1 locs1 a b d
theorem xa_1_limits (C : CallFix p m c cc nL s args Ts own) (hK : va_K g vwCl (xT ct) s) (hP : va_P g vwCl (wX ct ad n ro S) H) {i : Int32} (hi : vp_in i 6) {j : Nat} (hj : i.toNatClampNeg = j) (hdg : decode cc pc = .ok (.iaload, 1)) (kk : W p l e R s m args below meth c H locs cells slots QQ (F0 m (pc + 1) ls (.int (S.1 23 j) :: rest))) : W p l e R s m args below meth c H locs cells slots QQ (F0 m pc ls (.int i :: .ref (ad 7) :: rest)) := by
  subst hj
  exact va_iald C.1 C.2.1 hK hP 7 0 rfl rfl hi hdg kk
theorem xs_1_limits (C : CallFix p m c cc nL s args Ts own) (hK : va_K g vwCl (xT ct) s) (hP : va_P g vwCl (wX ct ad n ro S) H) (hD : va_D A (wX ct ad n ro S)) (hS : va_S A H0 H locs) {i : Int32} (hi : vp_in i 6) {j : Nat} (hj : i.toNatClampNeg = j) {x : Int32} (hdg : decode cc pc = .ok (.iastore, 1)) (kk : ∀ (H1 : Heap) (locs1 : List Loc), va_P g vwCl (wX ct ad n ro (wr S 23 j x)) H1 → va_D A (wX ct ad n ro (wr S 23 j x)) → va_S A H0 H1 locs1 → W p l e R s m args below meth c H1 locs1 cells slots QQ (F0 m (pc + 1) ls rest)) : W p l e R s m args below meth c H locs cells slots QQ (F0 m pc ls (.int x :: .int i :: .ref (ad 7) :: rest)) := by
  subst hj
  refine va_iast C.1 C.2.1 hK hP hD hS 7 0 rfl rfl hi hdg (fun H1 locs1 a b d => ?_)
  have e : (wX ct ad n ro S).set 7 (ad 7, .inl (ct 0, 6, .inl (upd (S.1 23) i.toNatClampNeg x))) = wX ct ad n ro (wr S 23 i.toNatClampNeg x) := rfl
  rw [e] at a b
  exact kk H1 locs1 a b d
theorem xa_5_values (C : CallFix p m c cc nL s args Ts own) (hK : va_K g vwCl (xT ct) s) (hP : va_P g vwCl (wX ct ad n ro S) H) {i : Int32} (hi : vp_in i 16) {j : Nat} (hj : i.toNatClampNeg = j) (hdg : decode cc pc = .ok (.iaload, 1)) (kk : W p l e R s m args below meth c H locs cells slots QQ (F0 m (pc + 1) ls (.int (S.1 24 j) :: rest))) : W p l e R s m args below meth c H locs cells slots QQ (F0 m pc ls (.int i :: .ref (ad 10) :: rest)) := by
  subst hj
  exact va_iald C.1 C.2.1 hK hP 10 0 rfl rfl hi hdg kk
theorem xs_5_values (C : CallFix p m c cc nL s args Ts own) (hK : va_K g vwCl (xT ct) s) (hP : va_P g vwCl (wX ct ad n ro S) H) (hD : va_D A (wX ct ad n ro S)) (hS : va_S A H0 H locs) {i : Int32} (hi : vp_in i 16) {j : Nat} (hj : i.toNatClampNeg = j) {x : Int32} (hdg : decode cc pc = .ok (.iastore, 1)) (kk : ∀ (H1 : Heap) (locs1 : List Loc), va_P g vwCl (wX ct ad n ro (wr S 24 j x)) H1 → va_D A (wX ct ad n ro (wr S 24 j x)) → va_S A H0 H1 locs1 → W p l e R s m args below meth c H1 locs1 cells slots QQ (F0 m (pc + 1) ls rest)) : W p l e R s m args below meth c H locs cells slots QQ (F0 m pc ls (.int x :: .int i :: .ref (ad 10) :: rest)) := by
  subst hj
  refine va_iast C.1 C.2.1 hK hP hD hS 10 0 rfl rfl hi hdg (fun H1 locs1 a b d => ?_)
  have e : (wX ct ad n ro S).set 10 (ad 10, .inl (ct 0, 16, .inl (upd (S.1 24) i.toNatClampNeg x))) = wX ct ad n ro (wr S 24 i.toNatClampNeg x) := rfl
  rw [e] at a b
  exact kk H1 locs1 a b d
theorem xa_5_carried (C : CallFix p m c cc nL s args Ts own) (hK : va_K g vwCl (xT ct) s) (hP : va_P g vwCl (wX ct ad n ro S) H) {i : Int32} (hi : vp_in i 16) {j : Nat} (hj : i.toNatClampNeg = j) (hdg : decode cc pc = .ok (.iaload, 1)) (kk : W p l e R s m args below meth c H locs cells slots QQ (F0 m (pc + 1) ls (.int (S.1 25 j) :: rest))) : W p l e R s m args below meth c H locs cells slots QQ (F0 m pc ls (.int i :: .ref (ad 11) :: rest)) := by
  subst hj
  exact va_iald C.1 C.2.1 hK hP 11 0 rfl rfl hi hdg kk
theorem xs_5_carried (C : CallFix p m c cc nL s args Ts own) (hK : va_K g vwCl (xT ct) s) (hP : va_P g vwCl (wX ct ad n ro S) H) (hD : va_D A (wX ct ad n ro S)) (hS : va_S A H0 H locs) {i : Int32} (hi : vp_in i 16) {j : Nat} (hj : i.toNatClampNeg = j) {x : Int32} (hdg : decode cc pc = .ok (.iastore, 1)) (kk : ∀ (H1 : Heap) (locs1 : List Loc), va_P g vwCl (wX ct ad n ro (wr S 25 j x)) H1 → va_D A (wX ct ad n ro (wr S 25 j x)) → va_S A H0 H1 locs1 → W p l e R s m args below meth c H1 locs1 cells slots QQ (F0 m (pc + 1) ls rest)) : W p l e R s m args below meth c H locs cells slots QQ (F0 m pc ls (.int x :: .int i :: .ref (ad 11) :: rest)) := by
  subst hj
  refine va_iast C.1 C.2.1 hK hP hD hS 11 0 rfl rfl hi hdg (fun H1 locs1 a b d => ?_)
  have e : (wX ct ad n ro S).set 11 (ad 11, .inl (ct 0, 16, .inl (upd (S.1 25) i.toNatClampNeg x))) = wX ct ad n ro (wr S 25 i.toNatClampNeg x) := rfl
  rw [e] at a b
  exact kk H1 locs1 a b d
theorem xa_2_spots (C : CallFix p m c cc nL s args Ts own) (hK : va_K g vwCl (xT ct) s) (hP : va_P g vwCl (wX ct ad n ro S) H) {i : Int32} (hi : vp_in i 6) {j : Nat} (hj : i.toNatClampNeg = j) (hdg : decode cc pc = .ok (.iaload, 1)) (kk : W p l e R s m args below meth c H locs cells slots QQ (F0 m (pc + 1) ls (.int (S.1 26 j) :: rest))) : W p l e R s m args below meth c H locs cells slots QQ (F0 m pc ls (.int i :: .ref (ad 13) :: rest)) := by
  subst hj
  exact va_iald C.1 C.2.1 hK hP 13 0 rfl rfl hi hdg kk
theorem xs_2_spots (C : CallFix p m c cc nL s args Ts own) (hK : va_K g vwCl (xT ct) s) (hP : va_P g vwCl (wX ct ad n ro S) H) (hD : va_D A (wX ct ad n ro S)) (hS : va_S A H0 H locs) {i : Int32} (hi : vp_in i 6) {j : Nat} (hj : i.toNatClampNeg = j) {x : Int32} (hdg : decode cc pc = .ok (.iastore, 1)) (kk : ∀ (H1 : Heap) (locs1 : List Loc), va_P g vwCl (wX ct ad n ro (wr S 26 j x)) H1 → va_D A (wX ct ad n ro (wr S 26 j x)) → va_S A H0 H1 locs1 → W p l e R s m args below meth c H1 locs1 cells slots QQ (F0 m (pc + 1) ls rest)) : W p l e R s m args below meth c H locs cells slots QQ (F0 m pc ls (.int x :: .int i :: .ref (ad 13) :: rest)) := by
  subst hj
  refine va_iast C.1 C.2.1 hK hP hD hS 13 0 rfl rfl hi hdg (fun H1 locs1 a b d => ?_)
  have e : (wX ct ad n ro S).set 13 (ad 13, .inl (ct 0, 6, .inl (upd (S.1 26) i.toNatClampNeg x))) = wX ct ad n ro (wr S 26 i.toNatClampNeg x) := rfl
  rw [e] at a b
  exact kk H1 locs1 a b d
theorem xa_2_sources (C : CallFix p m c cc nL s args Ts own) (hK : va_K g vwCl (xT ct) s) (hP : va_P g vwCl (wX ct ad n ro S) H) {i : Int32} (hi : vp_in i 6) {j : Nat} (hj : i.toNatClampNeg = j) (hdg : decode cc pc = .ok (.iaload, 1)) (kk : W p l e R s m args below meth c H locs cells slots QQ (F0 m (pc + 1) ls (.int (S.1 27 j) :: rest))) : W p l e R s m args below meth c H locs cells slots QQ (F0 m pc ls (.int i :: .ref (ad 14) :: rest)) := by
  subst hj
  exact va_iald C.1 C.2.1 hK hP 14 0 rfl rfl hi hdg kk
theorem xs_2_sources (C : CallFix p m c cc nL s args Ts own) (hK : va_K g vwCl (xT ct) s) (hP : va_P g vwCl (wX ct ad n ro S) H) (hD : va_D A (wX ct ad n ro S)) (hS : va_S A H0 H locs) {i : Int32} (hi : vp_in i 6) {j : Nat} (hj : i.toNatClampNeg = j) {x : Int32} (hdg : decode cc pc = .ok (.iastore, 1)) (kk : ∀ (H1 : Heap) (locs1 : List Loc), va_P g vwCl (wX ct ad n ro (wr S 27 j x)) H1 → va_D A (wX ct ad n ro (wr S 27 j x)) → va_S A H0 H1 locs1 → W p l e R s m args below meth c H1 locs1 cells slots QQ (F0 m (pc + 1) ls rest)) : W p l e R s m args below meth c H locs cells slots QQ (F0 m pc ls (.int x :: .int i :: .ref (ad 14) :: rest)) := by
  subst hj
  refine va_iast C.1 C.2.1 hK hP hD hS 14 0 rfl rfl hi hdg (fun H1 locs1 a b d => ?_)
  have e : (wX ct ad n ro S).set 14 (ad 14, .inl (ct 0, 6, .inl (upd (S.1 27) i.toNatClampNeg x))) = wX ct ad n ro (wr S 27 i.toNatClampNeg x) := rfl
  rw [e] at a b
  exact kk H1 locs1 a b d
theorem xa_2_latest (C : CallFix p m c cc nL s args Ts own) (hK : va_K g vwCl (xT ct) s) (hP : va_P g vwCl (wX ct ad n ro S) H) {i : Int32} (hi : vp_in i 3) {j : Nat} (hj : i.toNatClampNeg = j) (hdg : decode cc pc = .ok (.iaload, 1)) (kk : W p l e R s m args below meth c H locs cells slots QQ (F0 m (pc + 1) ls (.int (S.1 28 j) :: rest))) : W p l e R s m args below meth c H locs cells slots QQ (F0 m pc ls (.int i :: .ref (ad 15) :: rest)) := by
  subst hj
  exact va_iald C.1 C.2.1 hK hP 15 0 rfl rfl hi hdg kk
theorem xs_2_latest (C : CallFix p m c cc nL s args Ts own) (hK : va_K g vwCl (xT ct) s) (hP : va_P g vwCl (wX ct ad n ro S) H) (hD : va_D A (wX ct ad n ro S)) (hS : va_S A H0 H locs) {i : Int32} (hi : vp_in i 3) {j : Nat} (hj : i.toNatClampNeg = j) {x : Int32} (hdg : decode cc pc = .ok (.iastore, 1)) (kk : ∀ (H1 : Heap) (locs1 : List Loc), va_P g vwCl (wX ct ad n ro (wr S 28 j x)) H1 → va_D A (wX ct ad n ro (wr S 28 j x)) → va_S A H0 H1 locs1 → W p l e R s m args below meth c H1 locs1 cells slots QQ (F0 m (pc + 1) ls rest)) : W p l e R s m args below meth c H locs cells slots QQ (F0 m pc ls (.int x :: .int i :: .ref (ad 15) :: rest)) := by
  subst hj
  refine va_iast C.1 C.2.1 hK hP hD hS 15 0 rfl rfl hi hdg (fun H1 locs1 a b d => ?_)
  have e : (wX ct ad n ro S).set 15 (ad 15, .inl (ct 0, 3, .inl (upd (S.1 28) i.toNatClampNeg x))) = wX ct ad n ro (wr S 28 i.toNatClampNeg x) := rfl
  rw [e] at a b
  exact kk H1 locs1 a b d
theorem xa_row {r : Nat} (hr : r < 24) (C : CallFix p m c cc nL s args Ts own) (hK : va_K g vwCl (xT ct) s) (hP : va_P g vwCl (wX ct ad n ro S) H) {i : Int32} (hi : vp_in i 6) {j : Nat} (hj : i.toNatClampNeg = j) (hdg : decode cc pc = .ok (.iaload, 1)) (kk : W p l e R s m args below meth c H locs cells slots QQ (F0 m (pc + 1) ls (.int (S.2.1 r j) :: rest))) : W p l e R s m args below meth c H locs cells slots QQ (F0 m pc ls (.int i :: .ref (ad (30 + r)) :: rest)) := by
  subst hj
  exact va_iald C.1 C.2.1 hK hP (24 + r) 0 (wX_row hr) rfl hi hdg kk
theorem xs_row {r : Nat} (hr : r < 24) (C : CallFix p m c cc nL s args Ts own) (hK : va_K g vwCl (xT ct) s) (hP : va_P g vwCl (wX ct ad n ro S) H) (hD : va_D A (wX ct ad n ro S)) (hS : va_S A H0 H locs) {i : Int32} (hi : vp_in i 6) {j : Nat} (hj : i.toNatClampNeg = j) {x : Int32} (hdg : decode cc pc = .ok (.iastore, 1)) (kk : ∀ (H1 : Heap) (locs1 : List Loc), va_P g vwCl (wX ct ad n ro (wrR S r j x)) H1 → va_D A (wX ct ad n ro (wrR S r j x)) → va_S A H0 H1 locs1 → W p l e R s m args below meth c H1 locs1 cells slots QQ (F0 m (pc + 1) ls rest)) : W p l e R s m args below meth c H locs cells slots QQ (F0 m pc ls (.int x :: .int i :: .ref (ad (30 + r)) :: rest)) := by
  subst hj
  refine va_iast C.1 C.2.1 hK hP hD hS (24 + r) 0 (wX_row hr) rfl hi hdg (fun H1 locs1 a b d => ?_)
  have e : (wX ct ad n ro S).set (24 + r) (ad (30 + r), .inl (ct 0, 6, .inl (upd (S.2.1 r) i.toNatClampNeg x))) = wX ct ad n ro (wrR S r i.toNatClampNeg x) := wX_rowS hr
  rw [e] at a b
  exact kk H1 locs1 a b d
theorem xa_out (C : CallFix p m c cc nL s args Ts own) (hK : va_K g vwCl (xT ct) s) (hP : va_P g vwCl (wX ct ad n ro S) H) {i : Int32} (hi : vp_in i n) {j : Nat} (hj : i.toNatClampNeg = j) (hdg : decode cc pc = .ok (.laload, 1)) (kk : W p l e R s m args below meth c H locs cells slots QQ (F0 m (pc + 1) ls (.long (S.2.2 1 j) :: rest))) : W p l e R s m args below meth c H locs cells slots QQ (F0 m pc ls (.int i :: .ref ro :: rest)) := by
  subst hj
  exact va_lald C.1 C.2.1 hK hP 17 1 rfl rfl hi hdg kk
theorem xs_out (C : CallFix p m c cc nL s args Ts own) (hK : va_K g vwCl (xT ct) s) (hP : va_P g vwCl (wX ct ad n ro S) H) (hD : va_D A (wX ct ad n ro S)) (hS : va_S A H0 H locs) {i : Int32} (hi : vp_in i n) {j : Nat} (hj : i.toNatClampNeg = j) {x : Int64} (hdg : decode cc pc = .ok (.lastore, 1)) (kk : ∀ (H1 : Heap) (locs1 : List Loc), va_P g vwCl (wX ct ad n ro (wrL S 1 j x)) H1 → va_D A (wX ct ad n ro (wrL S 1 j x)) → va_S A H0 H1 locs1 → W p l e R s m args below meth c H1 locs1 cells slots QQ (F0 m (pc + 1) ls rest)) : W p l e R s m args below meth c H locs cells slots QQ (F0 m pc ls (.long x :: .int i :: .ref ro :: rest)) := by
  subst hj
  exact va_last C.1 C.2.1 hK hP hD hS 17 1 rfl rfl hi hdg kk
theorem xl_out (C : CallFix p m c cc nL s args Ts own) (hK : va_K g vwCl (xT ct) s) (hP : va_P g vwCl (wX ct ad n ro S) H) (hdg : decode cc pc = .ok (.arraylength, 1)) (kk : W p l e R s m args below meth c H locs cells slots QQ (F0 m (pc + 1) ls (.int (nI n) :: rest))) : W p l e R s m args below meth c H locs cells slots QQ (F0 m pc ls (.ref ro :: rest)) :=
  va_alen C.1 C.2.1 hK hP 17 1 rfl rfl rfl hdg kk
theorem xl_3 (C : CallFix p m c cc nL s args Ts own) (hK : va_K g vwCl (xT ct) s) (hP : va_P g vwCl (wX ct ad n ro S) H) (hdg : decode cc pc = .ok (.arraylength, 1)) (kk : W p l e R s m args below meth c H locs cells slots QQ (F0 m (pc + 1) ls (.int 4 :: rest))) : W p l e R s m args below meth c H locs cells slots QQ (F0 m pc ls (.ref (ad 3) :: rest)) :=
  va_alen C.1 C.2.1 hK hP 3 0 rfl rfl rfl hdg kk
theorem xl_4 (C : CallFix p m c cc nL s args Ts own) (hK : va_K g vwCl (xT ct) s) (hP : va_P g vwCl (wX ct ad n ro S) H) (hdg : decode cc pc = .ok (.arraylength, 1)) (kk : W p l e R s m args below meth c H locs cells slots QQ (F0 m (pc + 1) ls (.int 6 :: rest))) : W p l e R s m args below meth c H locs cells slots QQ (F0 m pc ls (.ref (ad 4) :: rest)) :=
  va_alen C.1 C.2.1 hK hP 4 0 rfl rfl rfl hdg kk
theorem xl_6 (C : CallFix p m c cc nL s args Ts own) (hK : va_K g vwCl (xT ct) s) (hP : va_P g vwCl (wX ct ad n ro S) H) (hdg : decode cc pc = .ok (.arraylength, 1)) (kk : W p l e R s m args below meth c H locs cells slots QQ (F0 m (pc + 1) ls (.int 6 :: rest))) : W p l e R s m args below meth c H locs cells slots QQ (F0 m pc ls (.ref (ad 6) :: rest)) :=
  va_alen C.1 C.2.1 hK hP 6 0 rfl rfl rfl hdg kk
theorem xl_7 (C : CallFix p m c cc nL s args Ts own) (hK : va_K g vwCl (xT ct) s) (hP : va_P g vwCl (wX ct ad n ro S) H) (hdg : decode cc pc = .ok (.arraylength, 1)) (kk : W p l e R s m args below meth c H locs cells slots QQ (F0 m (pc + 1) ls (.int 6 :: rest))) : W p l e R s m args below meth c H locs cells slots QQ (F0 m pc ls (.ref (ad 7) :: rest)) :=
  va_alen C.1 C.2.1 hK hP 7 0 rfl rfl rfl hdg kk
theorem xl_10 (C : CallFix p m c cc nL s args Ts own) (hK : va_K g vwCl (xT ct) s) (hP : va_P g vwCl (wX ct ad n ro S) H) (hdg : decode cc pc = .ok (.arraylength, 1)) (kk : W p l e R s m args below meth c H locs cells slots QQ (F0 m (pc + 1) ls (.int 16 :: rest))) : W p l e R s m args below meth c H locs cells slots QQ (F0 m pc ls (.ref (ad 10) :: rest)) :=
  va_alen C.1 C.2.1 hK hP 10 0 rfl rfl rfl hdg kk
theorem xl_11 (C : CallFix p m c cc nL s args Ts own) (hK : va_K g vwCl (xT ct) s) (hP : va_P g vwCl (wX ct ad n ro S) H) (hdg : decode cc pc = .ok (.arraylength, 1)) (kk : W p l e R s m args below meth c H locs cells slots QQ (F0 m (pc + 1) ls (.int 16 :: rest))) : W p l e R s m args below meth c H locs cells slots QQ (F0 m pc ls (.ref (ad 11) :: rest)) :=
  va_alen C.1 C.2.1 hK hP 11 0 rfl rfl rfl hdg kk
theorem xl_13 (C : CallFix p m c cc nL s args Ts own) (hK : va_K g vwCl (xT ct) s) (hP : va_P g vwCl (wX ct ad n ro S) H) (hdg : decode cc pc = .ok (.arraylength, 1)) (kk : W p l e R s m args below meth c H locs cells slots QQ (F0 m (pc + 1) ls (.int 6 :: rest))) : W p l e R s m args below meth c H locs cells slots QQ (F0 m pc ls (.ref (ad 13) :: rest)) :=
  va_alen C.1 C.2.1 hK hP 13 0 rfl rfl rfl hdg kk
theorem xl_14 (C : CallFix p m c cc nL s args Ts own) (hK : va_K g vwCl (xT ct) s) (hP : va_P g vwCl (wX ct ad n ro S) H) (hdg : decode cc pc = .ok (.arraylength, 1)) (kk : W p l e R s m args below meth c H locs cells slots QQ (F0 m (pc + 1) ls (.int 6 :: rest))) : W p l e R s m args below meth c H locs cells slots QQ (F0 m pc ls (.ref (ad 14) :: rest)) :=
  va_alen C.1 C.2.1 hK hP 14 0 rfl rfl rfl hdg kk
theorem xl_15 (C : CallFix p m c cc nL s args Ts own) (hK : va_K g vwCl (xT ct) s) (hP : va_P g vwCl (wX ct ad n ro S) H) (hdg : decode cc pc = .ok (.arraylength, 1)) (kk : W p l e R s m args below meth c H locs cells slots QQ (F0 m (pc + 1) ls (.int 3 :: rest))) : W p l e R s m args below meth c H locs cells slots QQ (F0 m pc ls (.ref (ad 15) :: rest)) :=
  va_alen C.1 C.2.1 hK hP 15 0 rfl rfl rfl hdg kk
theorem xq_acc (C : CallFix p m c cc nL s args Ts own) (hK : va_K g vwCl (xT ct) s) (hP : va_P g vwCl (wX ct ad n ro S) H) {i : Int32} (hi : vp_in i 6) {j : Nat} (hj : j = i.toNatClampNeg) (hdg : decode cc pc = .ok (.aaload, 1)) (kk : W p l e R s m args below meth c H locs cells slots QQ (F0 m (pc + 1) ls (.ref (ad (20 + j)) :: rest))) : W p l e R s m args below meth c H locs cells slots QQ (F0 m pc ls (.int i :: .ref (ad 9) :: rest)) := by
  subst hj
  exact va_aldq C.1 C.2.1 hK hP 9 2 rfl rfl hi hdg kk
theorem xq_row (C : CallFix p m c cc nL s args Ts own) (hK : va_K g vwCl (xT ct) s) (hP : va_P g vwCl (wX ct ad n ro S) H) {i : Int32} (hi : vp_in i 24) {j : Nat} (hj : j = i.toNatClampNeg) (hdg : decode cc pc = .ok (.aaload, 1)) (kk : W p l e R s m args below meth c H locs cells slots QQ (F0 m (pc + 1) ls (.ref (ad (30 + j)) :: rest))) : W p l e R s m args below meth c H locs cells slots QQ (F0 m pc ls (.int i :: .ref (ad 2) :: rest)) := by
  subst hj
  exact g_ald2 C.1 C.2.1 hK hP 2 3 rfl rfl hi hdg kk
theorem mg_model (C : CallFix p m c cc nL s args Ts own) (hin : ∀ w ∈ wsX70, w ∈ Ts) (hK : va_K g vwCl (mT ct) s) (hP : va_P g vwCl (wM ct ad S) H) {index : Nat} (hlink : Cond.fieldLink own index "LitmusRunnerModel" "model" "I" ∈ Ts) (hdg : decode cc pc = .ok (.getfield index, 3)) (kk : W p l e R s m args below meth c H locs cells slots QQ (F0 m (pc + 3) ls (.int (S.1 0 0) :: rest))) : W p l e R s m args below meth c H locs cells slots QQ (F0 m pc ls (.ref (ad 0) :: rest)) :=
  va_get (D := g) (ci := 7) (v := .int (S.1 0 0)) (C := RX7) (T := TX7) (N := 35) C.1 C.2.1 C.2.2.2.2 hin C.2.2.2.1 hK hP 0 rfl rfl 0 (by decide) (C.2.2.2.2 _ hlink) (fun _ h9 => h9) rfl hdg kk
theorem mp_model (C : CallFix p m c cc nL s args Ts own) (hin : ∀ w ∈ wsX70, w ∈ Ts) (hK : va_K g vwCl (mT ct) s) (hP : va_P g vwCl (wM ct ad S) H) (hD : va_D A (wM ct ad S)) (hS : va_S A H0 H locs) {index : Nat} (hlink : Cond.fieldLink own index "LitmusRunnerModel" "model" "I" ∈ Ts) {x : Int32} (hdg : decode cc pc = .ok (.putfield index, 3)) (kk : ∀ (H1 : Heap) (locs1 : List Loc), va_P g vwCl (wM ct ad (wr S 0 0 x)) H1 → va_D A (wM ct ad (wr S 0 0 x)) → va_S A H0 H1 locs1 → W p l e R s m args below meth c H1 locs1 cells slots QQ (F0 m (pc + 3) ls rest)) : W p l e R s m args below meth c H locs cells slots QQ (F0 m pc ls (.int x :: .ref (ad 0) :: rest)) := by
  refine va_put (D := g) (ci := 7) (v := .int x) (ty := .int) (C := RX7) (T := TX7) (N := 35) C.1 C.2.1 C.2.2.2.2 hin tyX7 tyX7_ok nmX7 C.2.2.2.1 hK hP hD hS 0 rfl rfl 0 (by decide) (C.2.2.2.2 _ hlink) (fun _ h9 => h9) rfl (by decide +kernel) rfl rfl (Nat.le_of_ble_eq_true rfl) hdg (fun H1 locs1 a b d => ?_)
  have e : (wM ct ad S).set 0 (ad 0, .inr (7, ([.int (S.1 0 0), .ref (ad 1), .ref (ad 2), .int (S.1 3 0), .ref (ad 3), .int (S.1 5 0), .int (S.1 6 0), .ref (ad 4), .ref (ad 5), .int (S.1 9 0), .int (S.1 10 0), .ref (ad 6), .ref (ad 7), .int (S.1 13 0), .ref (ad 8), .ref (ad 9), .ref (ad 10), .ref (ad 11), .ref (ad 12), .ref (ad 13), .ref (ad 14), .ref (ad 15), .ref (ad 16), .ref (ad 17), .int (S.1 24 0), .ref (ad 18), .ref (ad 19), .ref (ad 20), .ref (ad 21), .ref (ad 22), .ref (ad 23), .ref (ad 24), .ref (ad 25), .int (S.1 33 0), .int (S.1 34 0)] : List Value).set 0 (.int x))) = wM ct ad (wr S 0 0 x) := rfl
  rw [e] at a b
  exact kk H1 locs1 a b d
theorem mg_programs (C : CallFix p m c cc nL s args Ts own) (hin : ∀ w ∈ wsX70, w ∈ Ts) (hK : va_K g vwCl (mT ct) s) (hP : va_P g vwCl (wM ct ad S) H) {index : Nat} (hlink : Cond.fieldLink own index "LitmusRunnerModel" "programs" "[I" ∈ Ts) (hdg : decode cc pc = .ok (.getfield index, 3)) (kk : W p l e R s m args below meth c H locs cells slots QQ (F0 m (pc + 3) ls (.ref (ad 1) :: rest))) : W p l e R s m args below meth c H locs cells slots QQ (F0 m pc ls (.ref (ad 0) :: rest)) :=
  va_get (D := g) (ci := 7) (v := .ref (ad 1)) (C := RX7) (T := TX7) (N := 35) C.1 C.2.1 C.2.2.2.2 hin C.2.2.2.1 hK hP 0 rfl rfl 1 (by decide) (C.2.2.2.2 _ hlink) (fun _ h9 => h9) rfl hdg kk
theorem mg_lengths (C : CallFix p m c cc nL s args Ts own) (hin : ∀ w ∈ wsX70, w ∈ Ts) (hK : va_K g vwCl (mT ct) s) (hP : va_P g vwCl (wM ct ad S) H) {index : Nat} (hlink : Cond.fieldLink own index "LitmusRunnerModel" "lengths" "[I" ∈ Ts) (hdg : decode cc pc = .ok (.getfield index, 3)) (kk : W p l e R s m args below meth c H locs cells slots QQ (F0 m (pc + 3) ls (.ref (ad 2) :: rest))) : W p l e R s m args below meth c H locs cells slots QQ (F0 m pc ls (.ref (ad 0) :: rest)) :=
  va_get (D := g) (ci := 7) (v := .ref (ad 2)) (C := RX7) (T := TX7) (N := 35) C.1 C.2.1 C.2.2.2.2 hin C.2.2.2.1 hK hP 0 rfl rfl 2 (by decide) (C.2.2.2.2 _ hlink) (fun _ h9 => h9) rfl hdg kk
theorem mg_isFound (C : CallFix p m c cc nL s args Ts own) (hin : ∀ w ∈ wsX70, w ∈ Ts) (hK : va_K g vwCl (mT ct) s) (hP : va_P g vwCl (wM ct ad S) H) {index : Nat} (hlink : Cond.fieldLink own index "LitmusRunnerModel" "isFound" "Z" ∈ Ts) (hdg : decode cc pc = .ok (.getfield index, 3)) (kk : W p l e R s m args below meth c H locs cells slots QQ (F0 m (pc + 3) ls (.int (S.1 3 0) :: rest))) : W p l e R s m args below meth c H locs cells slots QQ (F0 m pc ls (.ref (ad 0) :: rest)) :=
  va_get (D := g) (ci := 7) (v := .int (S.1 3 0)) (C := RX7) (T := TX7) (N := 35) C.1 C.2.1 C.2.2.2.2 hin C.2.2.2.1 hK hP 0 rfl rfl 3 (by decide) (C.2.2.2.2 _ hlink) (fun _ h9 => h9) rfl hdg kk
theorem mp_isFound (C : CallFix p m c cc nL s args Ts own) (hin : ∀ w ∈ wsX70, w ∈ Ts) (hK : va_K g vwCl (mT ct) s) (hP : va_P g vwCl (wM ct ad S) H) (hD : va_D A (wM ct ad S)) (hS : va_S A H0 H locs) {index : Nat} (hlink : Cond.fieldLink own index "LitmusRunnerModel" "isFound" "Z" ∈ Ts) {x : Int32} (hz : zb x) (hdg : decode cc pc = .ok (.putfield index, 3)) (kk : ∀ (H1 : Heap) (locs1 : List Loc), va_P g vwCl (wM ct ad (wr S 3 0 x)) H1 → va_D A (wM ct ad (wr S 3 0 x)) → va_S A H0 H1 locs1 → W p l e R s m args below meth c H1 locs1 cells slots QQ (F0 m (pc + 3) ls rest)) : W p l e R s m args below meth c H locs cells slots QQ (F0 m pc ls (.int x :: .ref (ad 0) :: rest)) := by
  refine va_put (D := g) (ci := 7) (v := .int x) (ty := .boolean) (C := RX7) (T := TX7) (N := 35) C.1 C.2.1 C.2.2.2.2 hin tyX7 tyX7_ok nmX7 C.2.2.2.1 hK hP hD hS 0 rfl rfl 3 (by decide) (C.2.2.2.2 _ hlink) (fun _ h9 => h9) rfl (by decide +kernel) (zb_n hz) (zb_f hz) (Nat.le_of_ble_eq_true rfl) hdg (fun H1 locs1 a b d => ?_)
  have e : (wM ct ad S).set 0 (ad 0, .inr (7, ([.int (S.1 0 0), .ref (ad 1), .ref (ad 2), .int (S.1 3 0), .ref (ad 3), .int (S.1 5 0), .int (S.1 6 0), .ref (ad 4), .ref (ad 5), .int (S.1 9 0), .int (S.1 10 0), .ref (ad 6), .ref (ad 7), .int (S.1 13 0), .ref (ad 8), .ref (ad 9), .ref (ad 10), .ref (ad 11), .ref (ad 12), .ref (ad 13), .ref (ad 14), .ref (ad 15), .ref (ad 16), .ref (ad 17), .int (S.1 24 0), .ref (ad 18), .ref (ad 19), .ref (ad 20), .ref (ad 21), .ref (ad 22), .ref (ad 23), .ref (ad 24), .ref (ad 25), .int (S.1 33 0), .int (S.1 34 0)] : List Value).set 3 (.int x))) = wM ct ad (wr S 3 0 x) := rfl
  rw [e] at a b
  exact kk H1 locs1 a b d
theorem mg_outcomes (C : CallFix p m c cc nL s args Ts own) (hin : ∀ w ∈ wsX70, w ∈ Ts) (hK : va_K g vwCl (mT ct) s) (hP : va_P g vwCl (wM ct ad S) H) {index : Nat} (hlink : Cond.fieldLink own index "LitmusRunnerModel" "outcomes" "[J" ∈ Ts) (hdg : decode cc pc = .ok (.getfield index, 3)) (kk : W p l e R s m args below meth c H locs cells slots QQ (F0 m (pc + 3) ls (.ref (ad 3) :: rest))) : W p l e R s m args below meth c H locs cells slots QQ (F0 m pc ls (.ref (ad 0) :: rest)) :=
  va_get (D := g) (ci := 7) (v := .ref (ad 3)) (C := RX7) (T := TX7) (N := 35) C.1 C.2.1 C.2.2.2.2 hin C.2.2.2.1 hK hP 0 rfl rfl 4 (by decide) (C.2.2.2.2 _ hlink) (fun _ h9 => h9) rfl hdg kk
theorem mg_many (C : CallFix p m c cc nL s args Ts own) (hin : ∀ w ∈ wsX70, w ∈ Ts) (hK : va_K g vwCl (mT ct) s) (hP : va_P g vwCl (wM ct ad S) H) {index : Nat} (hlink : Cond.fieldLink own index "LitmusRunnerModel" "many" "I" ∈ Ts) (hdg : decode cc pc = .ok (.getfield index, 3)) (kk : W p l e R s m args below meth c H locs cells slots QQ (F0 m (pc + 3) ls (.int (S.1 5 0) :: rest))) : W p l e R s m args below meth c H locs cells slots QQ (F0 m pc ls (.ref (ad 0) :: rest)) :=
  va_get (D := g) (ci := 7) (v := .int (S.1 5 0)) (C := RX7) (T := TX7) (N := 35) C.1 C.2.1 C.2.2.2.2 hin C.2.2.2.1 hK hP 0 rfl rfl 5 (by decide) (C.2.2.2.2 _ hlink) (fun _ h9 => h9) rfl hdg kk
theorem mp_many (C : CallFix p m c cc nL s args Ts own) (hin : ∀ w ∈ wsX70, w ∈ Ts) (hK : va_K g vwCl (mT ct) s) (hP : va_P g vwCl (wM ct ad S) H) (hD : va_D A (wM ct ad S)) (hS : va_S A H0 H locs) {index : Nat} (hlink : Cond.fieldLink own index "LitmusRunnerModel" "many" "I" ∈ Ts) {x : Int32} (hdg : decode cc pc = .ok (.putfield index, 3)) (kk : ∀ (H1 : Heap) (locs1 : List Loc), va_P g vwCl (wM ct ad (wr S 5 0 x)) H1 → va_D A (wM ct ad (wr S 5 0 x)) → va_S A H0 H1 locs1 → W p l e R s m args below meth c H1 locs1 cells slots QQ (F0 m (pc + 3) ls rest)) : W p l e R s m args below meth c H locs cells slots QQ (F0 m pc ls (.int x :: .ref (ad 0) :: rest)) := by
  refine va_put (D := g) (ci := 7) (v := .int x) (ty := .int) (C := RX7) (T := TX7) (N := 35) C.1 C.2.1 C.2.2.2.2 hin tyX7 tyX7_ok nmX7 C.2.2.2.1 hK hP hD hS 0 rfl rfl 5 (by decide) (C.2.2.2.2 _ hlink) (fun _ h9 => h9) rfl (by decide +kernel) rfl rfl (Nat.le_of_ble_eq_true rfl) hdg (fun H1 locs1 a b d => ?_)
  have e : (wM ct ad S).set 0 (ad 0, .inr (7, ([.int (S.1 0 0), .ref (ad 1), .ref (ad 2), .int (S.1 3 0), .ref (ad 3), .int (S.1 5 0), .int (S.1 6 0), .ref (ad 4), .ref (ad 5), .int (S.1 9 0), .int (S.1 10 0), .ref (ad 6), .ref (ad 7), .int (S.1 13 0), .ref (ad 8), .ref (ad 9), .ref (ad 10), .ref (ad 11), .ref (ad 12), .ref (ad 13), .ref (ad 14), .ref (ad 15), .ref (ad 16), .ref (ad 17), .int (S.1 24 0), .ref (ad 18), .ref (ad 19), .ref (ad 20), .ref (ad 21), .ref (ad 22), .ref (ad 23), .ref (ad 24), .ref (ad 25), .int (S.1 33 0), .int (S.1 34 0)] : List Value).set 5 (.int x))) = wM ct ad (wr S 5 0 x) := rfl
  rw [e] at a b
  exact kk H1 locs1 a b d
theorem mg_ways (C : CallFix p m c cc nL s args Ts own) (hin : ∀ w ∈ wsX70, w ∈ Ts) (hK : va_K g vwCl (mT ct) s) (hP : va_P g vwCl (wM ct ad S) H) {index : Nat} (hlink : Cond.fieldLink own index "LitmusRunnerModel" "ways" "I" ∈ Ts) (hdg : decode cc pc = .ok (.getfield index, 3)) (kk : W p l e R s m args below meth c H locs cells slots QQ (F0 m (pc + 3) ls (.int (S.1 6 0) :: rest))) : W p l e R s m args below meth c H locs cells slots QQ (F0 m pc ls (.ref (ad 0) :: rest)) :=
  va_get (D := g) (ci := 7) (v := .int (S.1 6 0)) (C := RX7) (T := TX7) (N := 35) C.1 C.2.1 C.2.2.2.2 hin C.2.2.2.1 hK hP 0 rfl rfl 6 (by decide) (C.2.2.2.2 _ hlink) (fun _ h9 => h9) rfl hdg kk
theorem mp_ways (C : CallFix p m c cc nL s args Ts own) (hin : ∀ w ∈ wsX70, w ∈ Ts) (hK : va_K g vwCl (mT ct) s) (hP : va_P g vwCl (wM ct ad S) H) (hD : va_D A (wM ct ad S)) (hS : va_S A H0 H locs) {index : Nat} (hlink : Cond.fieldLink own index "LitmusRunnerModel" "ways" "I" ∈ Ts) {x : Int32} (hdg : decode cc pc = .ok (.putfield index, 3)) (kk : ∀ (H1 : Heap) (locs1 : List Loc), va_P g vwCl (wM ct ad (wr S 6 0 x)) H1 → va_D A (wM ct ad (wr S 6 0 x)) → va_S A H0 H1 locs1 → W p l e R s m args below meth c H1 locs1 cells slots QQ (F0 m (pc + 3) ls rest)) : W p l e R s m args below meth c H locs cells slots QQ (F0 m pc ls (.int x :: .ref (ad 0) :: rest)) := by
  refine va_put (D := g) (ci := 7) (v := .int x) (ty := .int) (C := RX7) (T := TX7) (N := 35) C.1 C.2.1 C.2.2.2.2 hin tyX7 tyX7_ok nmX7 C.2.2.2.1 hK hP hD hS 0 rfl rfl 6 (by decide) (C.2.2.2.2 _ hlink) (fun _ h9 => h9) rfl (by decide +kernel) rfl rfl (Nat.le_of_ble_eq_true rfl) hdg (fun H1 locs1 a b d => ?_)
  have e : (wM ct ad S).set 0 (ad 0, .inr (7, ([.int (S.1 0 0), .ref (ad 1), .ref (ad 2), .int (S.1 3 0), .ref (ad 3), .int (S.1 5 0), .int (S.1 6 0), .ref (ad 4), .ref (ad 5), .int (S.1 9 0), .int (S.1 10 0), .ref (ad 6), .ref (ad 7), .int (S.1 13 0), .ref (ad 8), .ref (ad 9), .ref (ad 10), .ref (ad 11), .ref (ad 12), .ref (ad 13), .ref (ad 14), .ref (ad 15), .ref (ad 16), .ref (ad 17), .int (S.1 24 0), .ref (ad 18), .ref (ad 19), .ref (ad 20), .ref (ad 21), .ref (ad 22), .ref (ad 23), .ref (ad 24), .ref (ad 25), .int (S.1 33 0), .int (S.1 34 0)] : List Value).set 6 (.int x))) = wM ct ad (wr S 6 0 x) := rfl
  rw [e] at a b
  exact kk H1 locs1 a b d
theorem mg_choice (C : CallFix p m c cc nL s args Ts own) (hin : ∀ w ∈ wsX70, w ∈ Ts) (hK : va_K g vwCl (mT ct) s) (hP : va_P g vwCl (wM ct ad S) H) {index : Nat} (hlink : Cond.fieldLink own index "LitmusRunnerModel" "choice" "[I" ∈ Ts) (hdg : decode cc pc = .ok (.getfield index, 3)) (kk : W p l e R s m args below meth c H locs cells slots QQ (F0 m (pc + 3) ls (.ref (ad 4) :: rest))) : W p l e R s m args below meth c H locs cells slots QQ (F0 m pc ls (.ref (ad 0) :: rest)) :=
  va_get (D := g) (ci := 7) (v := .ref (ad 4)) (C := RX7) (T := TX7) (N := 35) C.1 C.2.1 C.2.2.2.2 hin C.2.2.2.1 hK hP 0 rfl rfl 7 (by decide) (C.2.2.2.2 _ hlink) (fun _ h9 => h9) rfl hdg kk
theorem mg_options (C : CallFix p m c cc nL s args Ts own) (hin : ∀ w ∈ wsX70, w ∈ Ts) (hK : va_K g vwCl (mT ct) s) (hP : va_P g vwCl (wM ct ad S) H) {index : Nat} (hlink : Cond.fieldLink own index "LitmusRunnerModel" "options" "[I" ∈ Ts) (hdg : decode cc pc = .ok (.getfield index, 3)) (kk : W p l e R s m args below meth c H locs cells slots QQ (F0 m (pc + 3) ls (.ref (ad 5) :: rest))) : W p l e R s m args below meth c H locs cells slots QQ (F0 m pc ls (.ref (ad 0) :: rest)) :=
  va_get (D := g) (ci := 7) (v := .ref (ad 5)) (C := RX7) (T := TX7) (N := 35) C.1 C.2.1 C.2.2.2.2 hin C.2.2.2.1 hK hP 0 rfl rfl 8 (by decide) (C.2.2.2.2 _ hlink) (fun _ h9 => h9) rfl hdg kk
theorem mg_choices (C : CallFix p m c cc nL s args Ts own) (hin : ∀ w ∈ wsX70, w ∈ Ts) (hK : va_K g vwCl (mT ct) s) (hP : va_P g vwCl (wM ct ad S) H) {index : Nat} (hlink : Cond.fieldLink own index "LitmusRunnerModel" "choices" "I" ∈ Ts) (hdg : decode cc pc = .ok (.getfield index, 3)) (kk : W p l e R s m args below meth c H locs cells slots QQ (F0 m (pc + 3) ls (.int (S.1 9 0) :: rest))) : W p l e R s m args below meth c H locs cells slots QQ (F0 m pc ls (.ref (ad 0) :: rest)) :=
  va_get (D := g) (ci := 7) (v := .int (S.1 9 0)) (C := RX7) (T := TX7) (N := 35) C.1 C.2.1 C.2.2.2.2 hin C.2.2.2.1 hK hP 0 rfl rfl 9 (by decide) (C.2.2.2.2 _ hlink) (fun _ h9 => h9) rfl hdg kk
theorem mp_choices (C : CallFix p m c cc nL s args Ts own) (hin : ∀ w ∈ wsX70, w ∈ Ts) (hK : va_K g vwCl (mT ct) s) (hP : va_P g vwCl (wM ct ad S) H) (hD : va_D A (wM ct ad S)) (hS : va_S A H0 H locs) {index : Nat} (hlink : Cond.fieldLink own index "LitmusRunnerModel" "choices" "I" ∈ Ts) {x : Int32} (hdg : decode cc pc = .ok (.putfield index, 3)) (kk : ∀ (H1 : Heap) (locs1 : List Loc), va_P g vwCl (wM ct ad (wr S 9 0 x)) H1 → va_D A (wM ct ad (wr S 9 0 x)) → va_S A H0 H1 locs1 → W p l e R s m args below meth c H1 locs1 cells slots QQ (F0 m (pc + 3) ls rest)) : W p l e R s m args below meth c H locs cells slots QQ (F0 m pc ls (.int x :: .ref (ad 0) :: rest)) := by
  refine va_put (D := g) (ci := 7) (v := .int x) (ty := .int) (C := RX7) (T := TX7) (N := 35) C.1 C.2.1 C.2.2.2.2 hin tyX7 tyX7_ok nmX7 C.2.2.2.1 hK hP hD hS 0 rfl rfl 9 (by decide) (C.2.2.2.2 _ hlink) (fun _ h9 => h9) rfl (by decide +kernel) rfl rfl (Nat.le_of_ble_eq_true rfl) hdg (fun H1 locs1 a b d => ?_)
  have e : (wM ct ad S).set 0 (ad 0, .inr (7, ([.int (S.1 0 0), .ref (ad 1), .ref (ad 2), .int (S.1 3 0), .ref (ad 3), .int (S.1 5 0), .int (S.1 6 0), .ref (ad 4), .ref (ad 5), .int (S.1 9 0), .int (S.1 10 0), .ref (ad 6), .ref (ad 7), .int (S.1 13 0), .ref (ad 8), .ref (ad 9), .ref (ad 10), .ref (ad 11), .ref (ad 12), .ref (ad 13), .ref (ad 14), .ref (ad 15), .ref (ad 16), .ref (ad 17), .int (S.1 24 0), .ref (ad 18), .ref (ad 19), .ref (ad 20), .ref (ad 21), .ref (ad 22), .ref (ad 23), .ref (ad 24), .ref (ad 25), .int (S.1 33 0), .int (S.1 34 0)] : List Value).set 9 (.int x))) = wM ct ad (wr S 9 0 x) := rfl
  rw [e] at a b
  exact kk H1 locs1 a b d
theorem mg_told (C : CallFix p m c cc nL s args Ts own) (hin : ∀ w ∈ wsX70, w ∈ Ts) (hK : va_K g vwCl (mT ct) s) (hP : va_P g vwCl (wM ct ad S) H) {index : Nat} (hlink : Cond.fieldLink own index "LitmusRunnerModel" "told" "I" ∈ Ts) (hdg : decode cc pc = .ok (.getfield index, 3)) (kk : W p l e R s m args below meth c H locs cells slots QQ (F0 m (pc + 3) ls (.int (S.1 10 0) :: rest))) : W p l e R s m args below meth c H locs cells slots QQ (F0 m pc ls (.ref (ad 0) :: rest)) :=
  va_get (D := g) (ci := 7) (v := .int (S.1 10 0)) (C := RX7) (T := TX7) (N := 35) C.1 C.2.1 C.2.2.2.2 hin C.2.2.2.1 hK hP 0 rfl rfl 10 (by decide) (C.2.2.2.2 _ hlink) (fun _ h9 => h9) rfl hdg kk
theorem mp_told (C : CallFix p m c cc nL s args Ts own) (hin : ∀ w ∈ wsX70, w ∈ Ts) (hK : va_K g vwCl (mT ct) s) (hP : va_P g vwCl (wM ct ad S) H) (hD : va_D A (wM ct ad S)) (hS : va_S A H0 H locs) {index : Nat} (hlink : Cond.fieldLink own index "LitmusRunnerModel" "told" "I" ∈ Ts) {x : Int32} (hdg : decode cc pc = .ok (.putfield index, 3)) (kk : ∀ (H1 : Heap) (locs1 : List Loc), va_P g vwCl (wM ct ad (wr S 10 0 x)) H1 → va_D A (wM ct ad (wr S 10 0 x)) → va_S A H0 H1 locs1 → W p l e R s m args below meth c H1 locs1 cells slots QQ (F0 m (pc + 3) ls rest)) : W p l e R s m args below meth c H locs cells slots QQ (F0 m pc ls (.int x :: .ref (ad 0) :: rest)) := by
  refine va_put (D := g) (ci := 7) (v := .int x) (ty := .int) (C := RX7) (T := TX7) (N := 35) C.1 C.2.1 C.2.2.2.2 hin tyX7 tyX7_ok nmX7 C.2.2.2.1 hK hP hD hS 0 rfl rfl 10 (by decide) (C.2.2.2.2 _ hlink) (fun _ h9 => h9) rfl (by decide +kernel) rfl rfl (Nat.le_of_ble_eq_true rfl) hdg (fun H1 locs1 a b d => ?_)
  have e : (wM ct ad S).set 0 (ad 0, .inr (7, ([.int (S.1 0 0), .ref (ad 1), .ref (ad 2), .int (S.1 3 0), .ref (ad 3), .int (S.1 5 0), .int (S.1 6 0), .ref (ad 4), .ref (ad 5), .int (S.1 9 0), .int (S.1 10 0), .ref (ad 6), .ref (ad 7), .int (S.1 13 0), .ref (ad 8), .ref (ad 9), .ref (ad 10), .ref (ad 11), .ref (ad 12), .ref (ad 13), .ref (ad 14), .ref (ad 15), .ref (ad 16), .ref (ad 17), .int (S.1 24 0), .ref (ad 18), .ref (ad 19), .ref (ad 20), .ref (ad 21), .ref (ad 22), .ref (ad 23), .ref (ad 24), .ref (ad 25), .int (S.1 33 0), .int (S.1 34 0)] : List Value).set 10 (.int x))) = wM ct ad (wr S 10 0 x) := rfl
  rw [e] at a b
  exact kk H1 locs1 a b d
theorem mg_values (C : CallFix p m c cc nL s args Ts own) (hin : ∀ w ∈ wsX70, w ∈ Ts) (hK : va_K g vwCl (mT ct) s) (hP : va_P g vwCl (wM ct ad S) H) {index : Nat} (hlink : Cond.fieldLink own index "LitmusRunnerModel" "values" "[I" ∈ Ts) (hdg : decode cc pc = .ok (.getfield index, 3)) (kk : W p l e R s m args below meth c H locs cells slots QQ (F0 m (pc + 3) ls (.ref (ad 6) :: rest))) : W p l e R s m args below meth c H locs cells slots QQ (F0 m pc ls (.ref (ad 0) :: rest)) :=
  va_get (D := g) (ci := 7) (v := .ref (ad 6)) (C := RX7) (T := TX7) (N := 35) C.1 C.2.1 C.2.2.2.2 hin C.2.2.2.1 hK hP 0 rfl rfl 11 (by decide) (C.2.2.2.2 _ hlink) (fun _ h9 => h9) rfl hdg kk
theorem mg_carry (C : CallFix p m c cc nL s args Ts own) (hin : ∀ w ∈ wsX70, w ∈ Ts) (hK : va_K g vwCl (mT ct) s) (hP : va_P g vwCl (wM ct ad S) H) {index : Nat} (hlink : Cond.fieldLink own index "LitmusRunnerModel" "carry" "[I" ∈ Ts) (hdg : decode cc pc = .ok (.getfield index, 3)) (kk : W p l e R s m args below meth c H locs cells slots QQ (F0 m (pc + 3) ls (.ref (ad 7) :: rest))) : W p l e R s m args below meth c H locs cells slots QQ (F0 m pc ls (.ref (ad 0) :: rest)) :=
  va_get (D := g) (ci := 7) (v := .ref (ad 7)) (C := RX7) (T := TX7) (N := 35) C.1 C.2.1 C.2.2.2.2 hin C.2.2.2.1 hK hP 0 rfl rfl 12 (by decide) (C.2.2.2.2 _ hlink) (fun _ h9 => h9) rfl hdg kk
theorem mg_accesses (C : CallFix p m c cc nL s args Ts own) (hin : ∀ w ∈ wsX70, w ∈ Ts) (hK : va_K g vwCl (mT ct) s) (hP : va_P g vwCl (wM ct ad S) H) {index : Nat} (hlink : Cond.fieldLink own index "LitmusRunnerModel" "accesses" "I" ∈ Ts) (hdg : decode cc pc = .ok (.getfield index, 3)) (kk : W p l e R s m args below meth c H locs cells slots QQ (F0 m (pc + 3) ls (.int (S.1 13 0) :: rest))) : W p l e R s m args below meth c H locs cells slots QQ (F0 m pc ls (.ref (ad 0) :: rest)) :=
  va_get (D := g) (ci := 7) (v := .int (S.1 13 0)) (C := RX7) (T := TX7) (N := 35) C.1 C.2.1 C.2.2.2.2 hin C.2.2.2.1 hK hP 0 rfl rfl 13 (by decide) (C.2.2.2.2 _ hlink) (fun _ h9 => h9) rfl hdg kk
theorem mp_accesses (C : CallFix p m c cc nL s args Ts own) (hin : ∀ w ∈ wsX70, w ∈ Ts) (hK : va_K g vwCl (mT ct) s) (hP : va_P g vwCl (wM ct ad S) H) (hD : va_D A (wM ct ad S)) (hS : va_S A H0 H locs) {index : Nat} (hlink : Cond.fieldLink own index "LitmusRunnerModel" "accesses" "I" ∈ Ts) {x : Int32} (hdg : decode cc pc = .ok (.putfield index, 3)) (kk : ∀ (H1 : Heap) (locs1 : List Loc), va_P g vwCl (wM ct ad (wr S 13 0 x)) H1 → va_D A (wM ct ad (wr S 13 0 x)) → va_S A H0 H1 locs1 → W p l e R s m args below meth c H1 locs1 cells slots QQ (F0 m (pc + 3) ls rest)) : W p l e R s m args below meth c H locs cells slots QQ (F0 m pc ls (.int x :: .ref (ad 0) :: rest)) := by
  refine va_put (D := g) (ci := 7) (v := .int x) (ty := .int) (C := RX7) (T := TX7) (N := 35) C.1 C.2.1 C.2.2.2.2 hin tyX7 tyX7_ok nmX7 C.2.2.2.1 hK hP hD hS 0 rfl rfl 13 (by decide) (C.2.2.2.2 _ hlink) (fun _ h9 => h9) rfl (by decide +kernel) rfl rfl (Nat.le_of_ble_eq_true rfl) hdg (fun H1 locs1 a b d => ?_)
  have e : (wM ct ad S).set 0 (ad 0, .inr (7, ([.int (S.1 0 0), .ref (ad 1), .ref (ad 2), .int (S.1 3 0), .ref (ad 3), .int (S.1 5 0), .int (S.1 6 0), .ref (ad 4), .ref (ad 5), .int (S.1 9 0), .int (S.1 10 0), .ref (ad 6), .ref (ad 7), .int (S.1 13 0), .ref (ad 8), .ref (ad 9), .ref (ad 10), .ref (ad 11), .ref (ad 12), .ref (ad 13), .ref (ad 14), .ref (ad 15), .ref (ad 16), .ref (ad 17), .int (S.1 24 0), .ref (ad 18), .ref (ad 19), .ref (ad 20), .ref (ad 21), .ref (ad 22), .ref (ad 23), .ref (ad 24), .ref (ad 25), .int (S.1 33 0), .int (S.1 34 0)] : List Value).set 13 (.int x))) = wM ct ad (wr S 13 0 x) := rfl
  rw [e] at a b
  exact kk H1 locs1 a b d
theorem mg_hartOf (C : CallFix p m c cc nL s args Ts own) (hin : ∀ w ∈ wsX70, w ∈ Ts) (hK : va_K g vwCl (mT ct) s) (hP : va_P g vwCl (wM ct ad S) H) {index : Nat} (hlink : Cond.fieldLink own index "LitmusRunnerModel" "hartOf" "[I" ∈ Ts) (hdg : decode cc pc = .ok (.getfield index, 3)) (kk : W p l e R s m args below meth c H locs cells slots QQ (F0 m (pc + 3) ls (.ref (ad 8) :: rest))) : W p l e R s m args below meth c H locs cells slots QQ (F0 m pc ls (.ref (ad 0) :: rest)) :=
  va_get (D := g) (ci := 7) (v := .ref (ad 8)) (C := RX7) (T := TX7) (N := 35) C.1 C.2.1 C.2.2.2.2 hin C.2.2.2.1 hK hP 0 rfl rfl 14 (by decide) (C.2.2.2.2 _ hlink) (fun _ h9 => h9) rfl hdg kk
theorem mg_kindOf (C : CallFix p m c cc nL s args Ts own) (hin : ∀ w ∈ wsX70, w ∈ Ts) (hK : va_K g vwCl (mT ct) s) (hP : va_P g vwCl (wM ct ad S) H) {index : Nat} (hlink : Cond.fieldLink own index "LitmusRunnerModel" "kindOf" "[I" ∈ Ts) (hdg : decode cc pc = .ok (.getfield index, 3)) (kk : W p l e R s m args below meth c H locs cells slots QQ (F0 m (pc + 3) ls (.ref (ad 9) :: rest))) : W p l e R s m args below meth c H locs cells slots QQ (F0 m pc ls (.ref (ad 0) :: rest)) :=
  va_get (D := g) (ci := 7) (v := .ref (ad 9)) (C := RX7) (T := TX7) (N := 35) C.1 C.2.1 C.2.2.2.2 hin C.2.2.2.1 hK hP 0 rfl rfl 15 (by decide) (C.2.2.2.2 _ hlink) (fun _ h9 => h9) rfl hdg kk
theorem mg_locationOf (C : CallFix p m c cc nL s args Ts own) (hin : ∀ w ∈ wsX70, w ∈ Ts) (hK : va_K g vwCl (mT ct) s) (hP : va_P g vwCl (wM ct ad S) H) {index : Nat} (hlink : Cond.fieldLink own index "LitmusRunnerModel" "locationOf" "[I" ∈ Ts) (hdg : decode cc pc = .ok (.getfield index, 3)) (kk : W p l e R s m args below meth c H locs cells slots QQ (F0 m (pc + 3) ls (.ref (ad 10) :: rest))) : W p l e R s m args below meth c H locs cells slots QQ (F0 m pc ls (.ref (ad 0) :: rest)) :=
  va_get (D := g) (ci := 7) (v := .ref (ad 10)) (C := RX7) (T := TX7) (N := 35) C.1 C.2.1 C.2.2.2.2 hin C.2.2.2.1 hK hP 0 rfl rfl 16 (by decide) (C.2.2.2.2 _ hlink) (fun _ h9 => h9) rfl hdg kk
theorem mg_read (C : CallFix p m c cc nL s args Ts own) (hin : ∀ w ∈ wsX70, w ∈ Ts) (hK : va_K g vwCl (mT ct) s) (hP : va_P g vwCl (wM ct ad S) H) {index : Nat} (hlink : Cond.fieldLink own index "LitmusRunnerModel" "read" "[I" ∈ Ts) (hdg : decode cc pc = .ok (.getfield index, 3)) (kk : W p l e R s m args below meth c H locs cells slots QQ (F0 m (pc + 3) ls (.ref (ad 11) :: rest))) : W p l e R s m args below meth c H locs cells slots QQ (F0 m pc ls (.ref (ad 0) :: rest)) :=
  va_get (D := g) (ci := 7) (v := .ref (ad 11)) (C := RX7) (T := TX7) (N := 35) C.1 C.2.1 C.2.2.2.2 hin C.2.2.2.1 hK hP 0 rfl rfl 17 (by decide) (C.2.2.2.2 _ hlink) (fun _ h9 => h9) rfl hdg kk
theorem mg_written (C : CallFix p m c cc nL s args Ts own) (hin : ∀ w ∈ wsX70, w ∈ Ts) (hK : va_K g vwCl (mT ct) s) (hP : va_P g vwCl (wM ct ad S) H) {index : Nat} (hlink : Cond.fieldLink own index "LitmusRunnerModel" "written" "[I" ∈ Ts) (hdg : decode cc pc = .ok (.getfield index, 3)) (kk : W p l e R s m args below meth c H locs cells slots QQ (F0 m (pc + 3) ls (.ref (ad 12) :: rest))) : W p l e R s m args below meth c H locs cells slots QQ (F0 m pc ls (.ref (ad 0) :: rest)) :=
  va_get (D := g) (ci := 7) (v := .ref (ad 12)) (C := RX7) (T := TX7) (N := 35) C.1 C.2.1 C.2.2.2.2 hin C.2.2.2.1 hK hP 0 rfl rfl 18 (by decide) (C.2.2.2.2 _ hlink) (fun _ h9 => h9) rfl hdg kk
theorem mg_marks (C : CallFix p m c cc nL s args Ts own) (hin : ∀ w ∈ wsX70, w ∈ Ts) (hK : va_K g vwCl (mT ct) s) (hP : va_P g vwCl (wM ct ad S) H) {index : Nat} (hlink : Cond.fieldLink own index "LitmusRunnerModel" "marks" "[I" ∈ Ts) (hdg : decode cc pc = .ok (.getfield index, 3)) (kk : W p l e R s m args below meth c H locs cells slots QQ (F0 m (pc + 3) ls (.ref (ad 13) :: rest))) : W p l e R s m args below meth c H locs cells slots QQ (F0 m pc ls (.ref (ad 0) :: rest)) :=
  va_get (D := g) (ci := 7) (v := .ref (ad 13)) (C := RX7) (T := TX7) (N := 35) C.1 C.2.1 C.2.2.2.2 hin C.2.2.2.1 hK hP 0 rfl rfl 19 (by decide) (C.2.2.2.2 _ hlink) (fun _ h9 => h9) rfl hdg kk
theorem mg_byPlace (C : CallFix p m c cc nL s args Ts own) (hin : ∀ w ∈ wsX70, w ∈ Ts) (hK : va_K g vwCl (mT ct) s) (hP : va_P g vwCl (wM ct ad S) H) {index : Nat} (hlink : Cond.fieldLink own index "LitmusRunnerModel" "byPlace" "[I" ∈ Ts) (hdg : decode cc pc = .ok (.getfield index, 3)) (kk : W p l e R s m args below meth c H locs cells slots QQ (F0 m (pc + 3) ls (.ref (ad 14) :: rest))) : W p l e R s m args below meth c H locs cells slots QQ (F0 m pc ls (.ref (ad 0) :: rest)) :=
  va_get (D := g) (ci := 7) (v := .ref (ad 14)) (C := RX7) (T := TX7) (N := 35) C.1 C.2.1 C.2.2.2.2 hin C.2.2.2.1 hK hP 0 rfl rfl 20 (by decide) (C.2.2.2.2 _ hlink) (fun _ h9 => h9) rfl hdg kk
theorem mg_byValue (C : CallFix p m c cc nL s args Ts own) (hin : ∀ w ∈ wsX70, w ∈ Ts) (hK : va_K g vwCl (mT ct) s) (hP : va_P g vwCl (wM ct ad S) H) {index : Nat} (hlink : Cond.fieldLink own index "LitmusRunnerModel" "byValue" "[I" ∈ Ts) (hdg : decode cc pc = .ok (.getfield index, 3)) (kk : W p l e R s m args below meth c H locs cells slots QQ (F0 m (pc + 3) ls (.ref (ad 15) :: rest))) : W p l e R s m args below meth c H locs cells slots QQ (F0 m pc ls (.ref (ad 0) :: rest)) :=
  va_get (D := g) (ci := 7) (v := .ref (ad 15)) (C := RX7) (T := TX7) (N := 35) C.1 C.2.1 C.2.2.2.2 hin C.2.2.2.1 hK hP 0 rfl rfl 21 (by decide) (C.2.2.2.2 _ hlink) (fun _ h9 => h9) rfl hdg kk
theorem mg_byWay (C : CallFix p m c cc nL s args Ts own) (hin : ∀ w ∈ wsX70, w ∈ Ts) (hK : va_K g vwCl (mT ct) s) (hP : va_P g vwCl (wM ct ad S) H) {index : Nat} (hlink : Cond.fieldLink own index "LitmusRunnerModel" "byWay" "[I" ∈ Ts) (hdg : decode cc pc = .ok (.getfield index, 3)) (kk : W p l e R s m args below meth c H locs cells slots QQ (F0 m (pc + 3) ls (.ref (ad 16) :: rest))) : W p l e R s m args below meth c H locs cells slots QQ (F0 m pc ls (.ref (ad 0) :: rest)) :=
  va_get (D := g) (ci := 7) (v := .ref (ad 16)) (C := RX7) (T := TX7) (N := 35) C.1 C.2.1 C.2.2.2.2 hin C.2.2.2.1 hK hP 0 rfl rfl 22 (by decide) (C.2.2.2.2 _ hlink) (fun _ h9 => h9) rfl hdg kk
theorem mg_reserve (C : CallFix p m c cc nL s args Ts own) (hin : ∀ w ∈ wsX70, w ∈ Ts) (hK : va_K g vwCl (mT ct) s) (hP : va_P g vwCl (wM ct ad S) H) {index : Nat} (hlink : Cond.fieldLink own index "LitmusRunnerModel" "reserve" "[I" ∈ Ts) (hdg : decode cc pc = .ok (.getfield index, 3)) (kk : W p l e R s m args below meth c H locs cells slots QQ (F0 m (pc + 3) ls (.ref (ad 17) :: rest))) : W p l e R s m args below meth c H locs cells slots QQ (F0 m pc ls (.ref (ad 0) :: rest)) :=
  va_get (D := g) (ci := 7) (v := .ref (ad 17)) (C := RX7) (T := TX7) (N := 35) C.1 C.2.1 C.2.2.2.2 hin C.2.2.2.1 hK hP 0 rfl rfl 23 (by decide) (C.2.2.2.2 _ hlink) (fun _ h9 => h9) rfl hdg kk
theorem mg_fences (C : CallFix p m c cc nL s args Ts own) (hin : ∀ w ∈ wsX70, w ∈ Ts) (hK : va_K g vwCl (mT ct) s) (hP : va_P g vwCl (wM ct ad S) H) {index : Nat} (hlink : Cond.fieldLink own index "LitmusRunnerModel" "fences" "I" ∈ Ts) (hdg : decode cc pc = .ok (.getfield index, 3)) (kk : W p l e R s m args below meth c H locs cells slots QQ (F0 m (pc + 3) ls (.int (S.1 24 0) :: rest))) : W p l e R s m args below meth c H locs cells slots QQ (F0 m pc ls (.ref (ad 0) :: rest)) :=
  va_get (D := g) (ci := 7) (v := .int (S.1 24 0)) (C := RX7) (T := TX7) (N := 35) C.1 C.2.1 C.2.2.2.2 hin C.2.2.2.1 hK hP 0 rfl rfl 24 (by decide) (C.2.2.2.2 _ hlink) (fun _ h9 => h9) rfl hdg kk
theorem mp_fences (C : CallFix p m c cc nL s args Ts own) (hin : ∀ w ∈ wsX70, w ∈ Ts) (hK : va_K g vwCl (mT ct) s) (hP : va_P g vwCl (wM ct ad S) H) (hD : va_D A (wM ct ad S)) (hS : va_S A H0 H locs) {index : Nat} (hlink : Cond.fieldLink own index "LitmusRunnerModel" "fences" "I" ∈ Ts) {x : Int32} (hdg : decode cc pc = .ok (.putfield index, 3)) (kk : ∀ (H1 : Heap) (locs1 : List Loc), va_P g vwCl (wM ct ad (wr S 24 0 x)) H1 → va_D A (wM ct ad (wr S 24 0 x)) → va_S A H0 H1 locs1 → W p l e R s m args below meth c H1 locs1 cells slots QQ (F0 m (pc + 3) ls rest)) : W p l e R s m args below meth c H locs cells slots QQ (F0 m pc ls (.int x :: .ref (ad 0) :: rest)) := by
  refine va_put (D := g) (ci := 7) (v := .int x) (ty := .int) (C := RX7) (T := TX7) (N := 35) C.1 C.2.1 C.2.2.2.2 hin tyX7 tyX7_ok nmX7 C.2.2.2.1 hK hP hD hS 0 rfl rfl 24 (by decide) (C.2.2.2.2 _ hlink) (fun _ h9 => h9) rfl (by decide +kernel) rfl rfl (Nat.le_of_ble_eq_true rfl) hdg (fun H1 locs1 a b d => ?_)
  have e : (wM ct ad S).set 0 (ad 0, .inr (7, ([.int (S.1 0 0), .ref (ad 1), .ref (ad 2), .int (S.1 3 0), .ref (ad 3), .int (S.1 5 0), .int (S.1 6 0), .ref (ad 4), .ref (ad 5), .int (S.1 9 0), .int (S.1 10 0), .ref (ad 6), .ref (ad 7), .int (S.1 13 0), .ref (ad 8), .ref (ad 9), .ref (ad 10), .ref (ad 11), .ref (ad 12), .ref (ad 13), .ref (ad 14), .ref (ad 15), .ref (ad 16), .ref (ad 17), .int (S.1 24 0), .ref (ad 18), .ref (ad 19), .ref (ad 20), .ref (ad 21), .ref (ad 22), .ref (ad 23), .ref (ad 24), .ref (ad 25), .int (S.1 33 0), .int (S.1 34 0)] : List Value).set 24 (.int x))) = wM ct ad (wr S 24 0 x) := rfl
  rw [e] at a b
  exact kk H1 locs1 a b d
theorem mg_fenceHart (C : CallFix p m c cc nL s args Ts own) (hin : ∀ w ∈ wsX70, w ∈ Ts) (hK : va_K g vwCl (mT ct) s) (hP : va_P g vwCl (wM ct ad S) H) {index : Nat} (hlink : Cond.fieldLink own index "LitmusRunnerModel" "fenceHart" "[I" ∈ Ts) (hdg : decode cc pc = .ok (.getfield index, 3)) (kk : W p l e R s m args below meth c H locs cells slots QQ (F0 m (pc + 3) ls (.ref (ad 18) :: rest))) : W p l e R s m args below meth c H locs cells slots QQ (F0 m pc ls (.ref (ad 0) :: rest)) :=
  va_get (D := g) (ci := 7) (v := .ref (ad 18)) (C := RX7) (T := TX7) (N := 35) C.1 C.2.1 C.2.2.2.2 hin C.2.2.2.1 hK hP 0 rfl rfl 25 (by decide) (C.2.2.2.2 _ hlink) (fun _ h9 => h9) rfl hdg kk
theorem mg_fenceAt (C : CallFix p m c cc nL s args Ts own) (hin : ∀ w ∈ wsX70, w ∈ Ts) (hK : va_K g vwCl (mT ct) s) (hP : va_P g vwCl (wM ct ad S) H) {index : Nat} (hlink : Cond.fieldLink own index "LitmusRunnerModel" "fenceAt" "[I" ∈ Ts) (hdg : decode cc pc = .ok (.getfield index, 3)) (kk : W p l e R s m args below meth c H locs cells slots QQ (F0 m (pc + 3) ls (.ref (ad 19) :: rest))) : W p l e R s m args below meth c H locs cells slots QQ (F0 m pc ls (.ref (ad 0) :: rest)) :=
  va_get (D := g) (ci := 7) (v := .ref (ad 19)) (C := RX7) (T := TX7) (N := 35) C.1 C.2.1 C.2.2.2.2 hin C.2.2.2.1 hK hP 0 rfl rfl 26 (by decide) (C.2.2.2.2 _ hlink) (fun _ h9 => h9) rfl hdg kk
theorem mg_fenceFirst (C : CallFix p m c cc nL s args Ts own) (hin : ∀ w ∈ wsX70, w ∈ Ts) (hK : va_K g vwCl (mT ct) s) (hP : va_P g vwCl (wM ct ad S) H) {index : Nat} (hlink : Cond.fieldLink own index "LitmusRunnerModel" "fenceFirst" "[I" ∈ Ts) (hdg : decode cc pc = .ok (.getfield index, 3)) (kk : W p l e R s m args below meth c H locs cells slots QQ (F0 m (pc + 3) ls (.ref (ad 20) :: rest))) : W p l e R s m args below meth c H locs cells slots QQ (F0 m pc ls (.ref (ad 0) :: rest)) :=
  va_get (D := g) (ci := 7) (v := .ref (ad 20)) (C := RX7) (T := TX7) (N := 35) C.1 C.2.1 C.2.2.2.2 hin C.2.2.2.1 hK hP 0 rfl rfl 27 (by decide) (C.2.2.2.2 _ hlink) (fun _ h9 => h9) rfl hdg kk
theorem mg_fenceSecond (C : CallFix p m c cc nL s args Ts own) (hin : ∀ w ∈ wsX70, w ∈ Ts) (hK : va_K g vwCl (mT ct) s) (hP : va_P g vwCl (wM ct ad S) H) {index : Nat} (hlink : Cond.fieldLink own index "LitmusRunnerModel" "fenceSecond" "[I" ∈ Ts) (hdg : decode cc pc = .ok (.getfield index, 3)) (kk : W p l e R s m args below meth c H locs cells slots QQ (F0 m (pc + 3) ls (.ref (ad 21) :: rest))) : W p l e R s m args below meth c H locs cells slots QQ (F0 m pc ls (.ref (ad 0) :: rest)) :=
  va_get (D := g) (ci := 7) (v := .ref (ad 21)) (C := RX7) (T := TX7) (N := 35) C.1 C.2.1 C.2.2.2.2 hin C.2.2.2.1 hK hP 0 rfl rfl 28 (by decide) (C.2.2.2.2 _ hlink) (fun _ h9 => h9) rfl hdg kk
theorem mg_must (C : CallFix p m c cc nL s args Ts own) (hin : ∀ w ∈ wsX70, w ∈ Ts) (hK : va_K g vwCl (mT ct) s) (hP : va_P g vwCl (wM ct ad S) H) {index : Nat} (hlink : Cond.fieldLink own index "LitmusRunnerModel" "must" "[Z" ∈ Ts) (hdg : decode cc pc = .ok (.getfield index, 3)) (kk : W p l e R s m args below meth c H locs cells slots QQ (F0 m (pc + 3) ls (.ref (ad 22) :: rest))) : W p l e R s m args below meth c H locs cells slots QQ (F0 m pc ls (.ref (ad 0) :: rest)) :=
  va_get (D := g) (ci := 7) (v := .ref (ad 22)) (C := RX7) (T := TX7) (N := 35) C.1 C.2.1 C.2.2.2.2 hin C.2.2.2.1 hK hP 0 rfl rfl 29 (by decide) (C.2.2.2.2 _ hlink) (fun _ h9 => h9) rfl hdg kk
theorem mg_order (C : CallFix p m c cc nL s args Ts own) (hin : ∀ w ∈ wsX70, w ∈ Ts) (hK : va_K g vwCl (mT ct) s) (hP : va_P g vwCl (wM ct ad S) H) {index : Nat} (hlink : Cond.fieldLink own index "LitmusRunnerModel" "order" "[I" ∈ Ts) (hdg : decode cc pc = .ok (.getfield index, 3)) (kk : W p l e R s m args below meth c H locs cells slots QQ (F0 m (pc + 3) ls (.ref (ad 23) :: rest))) : W p l e R s m args below meth c H locs cells slots QQ (F0 m pc ls (.ref (ad 0) :: rest)) :=
  va_get (D := g) (ci := 7) (v := .ref (ad 23)) (C := RX7) (T := TX7) (N := 35) C.1 C.2.1 C.2.2.2.2 hin C.2.2.2.1 hK hP 0 rfl rfl 30 (by decide) (C.2.2.2.2 _ hlink) (fun _ h9 => h9) rfl hdg kk
theorem mg_place (C : CallFix p m c cc nL s args Ts own) (hin : ∀ w ∈ wsX70, w ∈ Ts) (hK : va_K g vwCl (mT ct) s) (hP : va_P g vwCl (wM ct ad S) H) {index : Nat} (hlink : Cond.fieldLink own index "LitmusRunnerModel" "place" "[I" ∈ Ts) (hdg : decode cc pc = .ok (.getfield index, 3)) (kk : W p l e R s m args below meth c H locs cells slots QQ (F0 m (pc + 3) ls (.ref (ad 24) :: rest))) : W p l e R s m args below meth c H locs cells slots QQ (F0 m pc ls (.ref (ad 0) :: rest)) :=
  va_get (D := g) (ci := 7) (v := .ref (ad 24)) (C := RX7) (T := TX7) (N := 35) C.1 C.2.1 C.2.2.2.2 hin C.2.2.2.1 hK hP 0 rfl rfl 31 (by decide) (C.2.2.2.2 _ hlink) (fun _ h9 => h9) rfl hdg kk
theorem mg_source (C : CallFix p m c cc nL s args Ts own) (hin : ∀ w ∈ wsX70, w ∈ Ts) (hK : va_K g vwCl (mT ct) s) (hP : va_P g vwCl (wM ct ad S) H) {index : Nat} (hlink : Cond.fieldLink own index "LitmusRunnerModel" "source" "[I" ∈ Ts) (hdg : decode cc pc = .ok (.getfield index, 3)) (kk : W p l e R s m args below meth c H locs cells slots QQ (F0 m (pc + 3) ls (.ref (ad 25) :: rest))) : W p l e R s m args below meth c H locs cells slots QQ (F0 m pc ls (.ref (ad 0) :: rest)) :=
  va_get (D := g) (ci := 7) (v := .ref (ad 25)) (C := RX7) (T := TX7) (N := 35) C.1 C.2.1 C.2.2.2.2 hin C.2.2.2.1 hK hP 0 rfl rfl 32 (by decide) (C.2.2.2.2 _ hlink) (fun _ h9 => h9) rfl hdg kk
theorem mg_way (C : CallFix p m c cc nL s args Ts own) (hin : ∀ w ∈ wsX70, w ∈ Ts) (hK : va_K g vwCl (mT ct) s) (hP : va_P g vwCl (wM ct ad S) H) {index : Nat} (hlink : Cond.fieldLink own index "LitmusRunnerModel" "way" "I" ∈ Ts) (hdg : decode cc pc = .ok (.getfield index, 3)) (kk : W p l e R s m args below meth c H locs cells slots QQ (F0 m (pc + 3) ls (.int (S.1 33 0) :: rest))) : W p l e R s m args below meth c H locs cells slots QQ (F0 m pc ls (.ref (ad 0) :: rest)) :=
  va_get (D := g) (ci := 7) (v := .int (S.1 33 0)) (C := RX7) (T := TX7) (N := 35) C.1 C.2.1 C.2.2.2.2 hin C.2.2.2.1 hK hP 0 rfl rfl 33 (by decide) (C.2.2.2.2 _ hlink) (fun _ h9 => h9) rfl hdg kk
theorem mp_way (C : CallFix p m c cc nL s args Ts own) (hin : ∀ w ∈ wsX70, w ∈ Ts) (hK : va_K g vwCl (mT ct) s) (hP : va_P g vwCl (wM ct ad S) H) (hD : va_D A (wM ct ad S)) (hS : va_S A H0 H locs) {index : Nat} (hlink : Cond.fieldLink own index "LitmusRunnerModel" "way" "I" ∈ Ts) {x : Int32} (hdg : decode cc pc = .ok (.putfield index, 3)) (kk : ∀ (H1 : Heap) (locs1 : List Loc), va_P g vwCl (wM ct ad (wr S 33 0 x)) H1 → va_D A (wM ct ad (wr S 33 0 x)) → va_S A H0 H1 locs1 → W p l e R s m args below meth c H1 locs1 cells slots QQ (F0 m (pc + 3) ls rest)) : W p l e R s m args below meth c H locs cells slots QQ (F0 m pc ls (.int x :: .ref (ad 0) :: rest)) := by
  refine va_put (D := g) (ci := 7) (v := .int x) (ty := .int) (C := RX7) (T := TX7) (N := 35) C.1 C.2.1 C.2.2.2.2 hin tyX7 tyX7_ok nmX7 C.2.2.2.1 hK hP hD hS 0 rfl rfl 33 (by decide) (C.2.2.2.2 _ hlink) (fun _ h9 => h9) rfl (by decide +kernel) rfl rfl (Nat.le_of_ble_eq_true rfl) hdg (fun H1 locs1 a b d => ?_)
  have e : (wM ct ad S).set 0 (ad 0, .inr (7, ([.int (S.1 0 0), .ref (ad 1), .ref (ad 2), .int (S.1 3 0), .ref (ad 3), .int (S.1 5 0), .int (S.1 6 0), .ref (ad 4), .ref (ad 5), .int (S.1 9 0), .int (S.1 10 0), .ref (ad 6), .ref (ad 7), .int (S.1 13 0), .ref (ad 8), .ref (ad 9), .ref (ad 10), .ref (ad 11), .ref (ad 12), .ref (ad 13), .ref (ad 14), .ref (ad 15), .ref (ad 16), .ref (ad 17), .int (S.1 24 0), .ref (ad 18), .ref (ad 19), .ref (ad 20), .ref (ad 21), .ref (ad 22), .ref (ad 23), .ref (ad 24), .ref (ad 25), .int (S.1 33 0), .int (S.1 34 0)] : List Value).set 33 (.int x))) = wM ct ad (wr S 33 0 x) := rfl
  rw [e] at a b
  exact kk H1 locs1 a b d
theorem mg_reserved (C : CallFix p m c cc nL s args Ts own) (hin : ∀ w ∈ wsX70, w ∈ Ts) (hK : va_K g vwCl (mT ct) s) (hP : va_P g vwCl (wM ct ad S) H) {index : Nat} (hlink : Cond.fieldLink own index "LitmusRunnerModel" "reserved" "I" ∈ Ts) (hdg : decode cc pc = .ok (.getfield index, 3)) (kk : W p l e R s m args below meth c H locs cells slots QQ (F0 m (pc + 3) ls (.int (S.1 34 0) :: rest))) : W p l e R s m args below meth c H locs cells slots QQ (F0 m pc ls (.ref (ad 0) :: rest)) :=
  va_get (D := g) (ci := 7) (v := .int (S.1 34 0)) (C := RX7) (T := TX7) (N := 35) C.1 C.2.1 C.2.2.2.2 hin C.2.2.2.1 hK hP 0 rfl rfl 34 (by decide) (C.2.2.2.2 _ hlink) (fun _ h9 => h9) rfl hdg kk
theorem mp_reserved (C : CallFix p m c cc nL s args Ts own) (hin : ∀ w ∈ wsX70, w ∈ Ts) (hK : va_K g vwCl (mT ct) s) (hP : va_P g vwCl (wM ct ad S) H) (hD : va_D A (wM ct ad S)) (hS : va_S A H0 H locs) {index : Nat} (hlink : Cond.fieldLink own index "LitmusRunnerModel" "reserved" "I" ∈ Ts) {x : Int32} (hdg : decode cc pc = .ok (.putfield index, 3)) (kk : ∀ (H1 : Heap) (locs1 : List Loc), va_P g vwCl (wM ct ad (wr S 34 0 x)) H1 → va_D A (wM ct ad (wr S 34 0 x)) → va_S A H0 H1 locs1 → W p l e R s m args below meth c H1 locs1 cells slots QQ (F0 m (pc + 3) ls rest)) : W p l e R s m args below meth c H locs cells slots QQ (F0 m pc ls (.int x :: .ref (ad 0) :: rest)) := by
  refine va_put (D := g) (ci := 7) (v := .int x) (ty := .int) (C := RX7) (T := TX7) (N := 35) C.1 C.2.1 C.2.2.2.2 hin tyX7 tyX7_ok nmX7 C.2.2.2.1 hK hP hD hS 0 rfl rfl 34 (by decide) (C.2.2.2.2 _ hlink) (fun _ h9 => h9) rfl (by decide +kernel) rfl rfl (Nat.le_of_ble_eq_true rfl) hdg (fun H1 locs1 a b d => ?_)
  have e : (wM ct ad S).set 0 (ad 0, .inr (7, ([.int (S.1 0 0), .ref (ad 1), .ref (ad 2), .int (S.1 3 0), .ref (ad 3), .int (S.1 5 0), .int (S.1 6 0), .ref (ad 4), .ref (ad 5), .int (S.1 9 0), .int (S.1 10 0), .ref (ad 6), .ref (ad 7), .int (S.1 13 0), .ref (ad 8), .ref (ad 9), .ref (ad 10), .ref (ad 11), .ref (ad 12), .ref (ad 13), .ref (ad 14), .ref (ad 15), .ref (ad 16), .ref (ad 17), .int (S.1 24 0), .ref (ad 18), .ref (ad 19), .ref (ad 20), .ref (ad 21), .ref (ad 22), .ref (ad 23), .ref (ad 24), .ref (ad 25), .int (S.1 33 0), .int (S.1 34 0)] : List Value).set 34 (.int x))) = wM ct ad (wr S 34 0 x) := rfl
  rw [e] at a b
  exact kk H1 locs1 a b d
theorem ma_programs (C : CallFix p m c cc nL s args Ts own) (hK : va_K g vwCl (mT ct) s) (hP : va_P g vwCl (wM ct ad S) H) {i : Int32} (hi : vp_in i 144) {j : Nat} (hj : i.toNatClampNeg = j) (hdg : decode cc pc = .ok (.iaload, 1)) (kk : W p l e R s m args below meth c H locs cells slots QQ (F0 m (pc + 1) ls (.int (S.1 1 j) :: rest))) : W p l e R s m args below meth c H locs cells slots QQ (F0 m pc ls (.int i :: .ref (ad 1) :: rest)) := by
  subst hj
  exact va_iald C.1 C.2.1 hK hP 1 0 rfl rfl hi hdg kk
theorem ms_programs (C : CallFix p m c cc nL s args Ts own) (hK : va_K g vwCl (mT ct) s) (hP : va_P g vwCl (wM ct ad S) H) (hD : va_D A (wM ct ad S)) (hS : va_S A H0 H locs) {i : Int32} (hi : vp_in i 144) {j : Nat} (hj : i.toNatClampNeg = j) {x : Int32} (hdg : decode cc pc = .ok (.iastore, 1)) (kk : ∀ (H1 : Heap) (locs1 : List Loc), va_P g vwCl (wM ct ad (wr S 1 j x)) H1 → va_D A (wM ct ad (wr S 1 j x)) → va_S A H0 H1 locs1 → W p l e R s m args below meth c H1 locs1 cells slots QQ (F0 m (pc + 1) ls rest)) : W p l e R s m args below meth c H locs cells slots QQ (F0 m pc ls (.int x :: .int i :: .ref (ad 1) :: rest)) := by
  subst hj
  refine va_iast C.1 C.2.1 hK hP hD hS 1 0 rfl rfl hi hdg (fun H1 locs1 a b d => ?_)
  have e : (wM ct ad S).set 1 (ad 1, .inl (ct 0, 144, .inl (upd (S.1 1) i.toNatClampNeg x))) = wM ct ad (wr S 1 i.toNatClampNeg x) := rfl
  rw [e] at a b
  exact kk H1 locs1 a b d
theorem ma_lengths (C : CallFix p m c cc nL s args Ts own) (hK : va_K g vwCl (mT ct) s) (hP : va_P g vwCl (wM ct ad S) H) {i : Int32} (hi : vp_in i 4) {j : Nat} (hj : i.toNatClampNeg = j) (hdg : decode cc pc = .ok (.iaload, 1)) (kk : W p l e R s m args below meth c H locs cells slots QQ (F0 m (pc + 1) ls (.int (S.1 2 j) :: rest))) : W p l e R s m args below meth c H locs cells slots QQ (F0 m pc ls (.int i :: .ref (ad 2) :: rest)) := by
  subst hj
  exact va_iald C.1 C.2.1 hK hP 2 0 rfl rfl hi hdg kk
theorem ms_lengths (C : CallFix p m c cc nL s args Ts own) (hK : va_K g vwCl (mT ct) s) (hP : va_P g vwCl (wM ct ad S) H) (hD : va_D A (wM ct ad S)) (hS : va_S A H0 H locs) {i : Int32} (hi : vp_in i 4) {j : Nat} (hj : i.toNatClampNeg = j) {x : Int32} (hdg : decode cc pc = .ok (.iastore, 1)) (kk : ∀ (H1 : Heap) (locs1 : List Loc), va_P g vwCl (wM ct ad (wr S 2 j x)) H1 → va_D A (wM ct ad (wr S 2 j x)) → va_S A H0 H1 locs1 → W p l e R s m args below meth c H1 locs1 cells slots QQ (F0 m (pc + 1) ls rest)) : W p l e R s m args below meth c H locs cells slots QQ (F0 m pc ls (.int x :: .int i :: .ref (ad 2) :: rest)) := by
  subst hj
  refine va_iast C.1 C.2.1 hK hP hD hS 2 0 rfl rfl hi hdg (fun H1 locs1 a b d => ?_)
  have e : (wM ct ad S).set 2 (ad 2, .inl (ct 0, 4, .inl (upd (S.1 2) i.toNatClampNeg x))) = wM ct ad (wr S 2 i.toNatClampNeg x) := rfl
  rw [e] at a b
  exact kk H1 locs1 a b d
theorem ma_choice (C : CallFix p m c cc nL s args Ts own) (hK : va_K g vwCl (mT ct) s) (hP : va_P g vwCl (wM ct ad S) H) {i : Int32} (hi : vp_in i 64) {j : Nat} (hj : i.toNatClampNeg = j) (hdg : decode cc pc = .ok (.iaload, 1)) (kk : W p l e R s m args below meth c H locs cells slots QQ (F0 m (pc + 1) ls (.int (S.1 7 j) :: rest))) : W p l e R s m args below meth c H locs cells slots QQ (F0 m pc ls (.int i :: .ref (ad 4) :: rest)) := by
  subst hj
  exact va_iald C.1 C.2.1 hK hP 4 0 rfl rfl hi hdg kk
theorem ms_choice (C : CallFix p m c cc nL s args Ts own) (hK : va_K g vwCl (mT ct) s) (hP : va_P g vwCl (wM ct ad S) H) (hD : va_D A (wM ct ad S)) (hS : va_S A H0 H locs) {i : Int32} (hi : vp_in i 64) {j : Nat} (hj : i.toNatClampNeg = j) {x : Int32} (hdg : decode cc pc = .ok (.iastore, 1)) (kk : ∀ (H1 : Heap) (locs1 : List Loc), va_P g vwCl (wM ct ad (wr S 7 j x)) H1 → va_D A (wM ct ad (wr S 7 j x)) → va_S A H0 H1 locs1 → W p l e R s m args below meth c H1 locs1 cells slots QQ (F0 m (pc + 1) ls rest)) : W p l e R s m args below meth c H locs cells slots QQ (F0 m pc ls (.int x :: .int i :: .ref (ad 4) :: rest)) := by
  subst hj
  refine va_iast C.1 C.2.1 hK hP hD hS 4 0 rfl rfl hi hdg (fun H1 locs1 a b d => ?_)
  have e : (wM ct ad S).set 4 (ad 4, .inl (ct 0, 64, .inl (upd (S.1 7) i.toNatClampNeg x))) = wM ct ad (wr S 7 i.toNatClampNeg x) := rfl
  rw [e] at a b
  exact kk H1 locs1 a b d
theorem ma_options (C : CallFix p m c cc nL s args Ts own) (hK : va_K g vwCl (mT ct) s) (hP : va_P g vwCl (wM ct ad S) H) {i : Int32} (hi : vp_in i 64) {j : Nat} (hj : i.toNatClampNeg = j) (hdg : decode cc pc = .ok (.iaload, 1)) (kk : W p l e R s m args below meth c H locs cells slots QQ (F0 m (pc + 1) ls (.int (S.1 8 j) :: rest))) : W p l e R s m args below meth c H locs cells slots QQ (F0 m pc ls (.int i :: .ref (ad 5) :: rest)) := by
  subst hj
  exact va_iald C.1 C.2.1 hK hP 5 0 rfl rfl hi hdg kk
theorem ms_options (C : CallFix p m c cc nL s args Ts own) (hK : va_K g vwCl (mT ct) s) (hP : va_P g vwCl (wM ct ad S) H) (hD : va_D A (wM ct ad S)) (hS : va_S A H0 H locs) {i : Int32} (hi : vp_in i 64) {j : Nat} (hj : i.toNatClampNeg = j) {x : Int32} (hdg : decode cc pc = .ok (.iastore, 1)) (kk : ∀ (H1 : Heap) (locs1 : List Loc), va_P g vwCl (wM ct ad (wr S 8 j x)) H1 → va_D A (wM ct ad (wr S 8 j x)) → va_S A H0 H1 locs1 → W p l e R s m args below meth c H1 locs1 cells slots QQ (F0 m (pc + 1) ls rest)) : W p l e R s m args below meth c H locs cells slots QQ (F0 m pc ls (.int x :: .int i :: .ref (ad 5) :: rest)) := by
  subst hj
  refine va_iast C.1 C.2.1 hK hP hD hS 5 0 rfl rfl hi hdg (fun H1 locs1 a b d => ?_)
  have e : (wM ct ad S).set 5 (ad 5, .inl (ct 0, 64, .inl (upd (S.1 8) i.toNatClampNeg x))) = wM ct ad (wr S 8 i.toNatClampNeg x) := rfl
  rw [e] at a b
  exact kk H1 locs1 a b d
theorem ma_values (C : CallFix p m c cc nL s args Ts own) (hK : va_K g vwCl (mT ct) s) (hP : va_P g vwCl (wM ct ad S) H) {i : Int32} (hi : vp_in i 16) {j : Nat} (hj : i.toNatClampNeg = j) (hdg : decode cc pc = .ok (.iaload, 1)) (kk : W p l e R s m args below meth c H locs cells slots QQ (F0 m (pc + 1) ls (.int (S.1 11 j) :: rest))) : W p l e R s m args below meth c H locs cells slots QQ (F0 m pc ls (.int i :: .ref (ad 6) :: rest)) := by
  subst hj
  exact va_iald C.1 C.2.1 hK hP 6 0 rfl rfl hi hdg kk
theorem ms_values (C : CallFix p m c cc nL s args Ts own) (hK : va_K g vwCl (mT ct) s) (hP : va_P g vwCl (wM ct ad S) H) (hD : va_D A (wM ct ad S)) (hS : va_S A H0 H locs) {i : Int32} (hi : vp_in i 16) {j : Nat} (hj : i.toNatClampNeg = j) {x : Int32} (hdg : decode cc pc = .ok (.iastore, 1)) (kk : ∀ (H1 : Heap) (locs1 : List Loc), va_P g vwCl (wM ct ad (wr S 11 j x)) H1 → va_D A (wM ct ad (wr S 11 j x)) → va_S A H0 H1 locs1 → W p l e R s m args below meth c H1 locs1 cells slots QQ (F0 m (pc + 1) ls rest)) : W p l e R s m args below meth c H locs cells slots QQ (F0 m pc ls (.int x :: .int i :: .ref (ad 6) :: rest)) := by
  subst hj
  refine va_iast C.1 C.2.1 hK hP hD hS 6 0 rfl rfl hi hdg (fun H1 locs1 a b d => ?_)
  have e : (wM ct ad S).set 6 (ad 6, .inl (ct 0, 16, .inl (upd (S.1 11) i.toNatClampNeg x))) = wM ct ad (wr S 11 i.toNatClampNeg x) := rfl
  rw [e] at a b
  exact kk H1 locs1 a b d
theorem ma_carry (C : CallFix p m c cc nL s args Ts own) (hK : va_K g vwCl (mT ct) s) (hP : va_P g vwCl (wM ct ad S) H) {i : Int32} (hi : vp_in i 16) {j : Nat} (hj : i.toNatClampNeg = j) (hdg : decode cc pc = .ok (.iaload, 1)) (kk : W p l e R s m args below meth c H locs cells slots QQ (F0 m (pc + 1) ls (.int (S.1 12 j) :: rest))) : W p l e R s m args below meth c H locs cells slots QQ (F0 m pc ls (.int i :: .ref (ad 7) :: rest)) := by
  subst hj
  exact va_iald C.1 C.2.1 hK hP 7 0 rfl rfl hi hdg kk
theorem ms_carry (C : CallFix p m c cc nL s args Ts own) (hK : va_K g vwCl (mT ct) s) (hP : va_P g vwCl (wM ct ad S) H) (hD : va_D A (wM ct ad S)) (hS : va_S A H0 H locs) {i : Int32} (hi : vp_in i 16) {j : Nat} (hj : i.toNatClampNeg = j) {x : Int32} (hdg : decode cc pc = .ok (.iastore, 1)) (kk : ∀ (H1 : Heap) (locs1 : List Loc), va_P g vwCl (wM ct ad (wr S 12 j x)) H1 → va_D A (wM ct ad (wr S 12 j x)) → va_S A H0 H1 locs1 → W p l e R s m args below meth c H1 locs1 cells slots QQ (F0 m (pc + 1) ls rest)) : W p l e R s m args below meth c H locs cells slots QQ (F0 m pc ls (.int x :: .int i :: .ref (ad 7) :: rest)) := by
  subst hj
  refine va_iast C.1 C.2.1 hK hP hD hS 7 0 rfl rfl hi hdg (fun H1 locs1 a b d => ?_)
  have e : (wM ct ad S).set 7 (ad 7, .inl (ct 0, 16, .inl (upd (S.1 12) i.toNatClampNeg x))) = wM ct ad (wr S 12 i.toNatClampNeg x) := rfl
  rw [e] at a b
  exact kk H1 locs1 a b d
theorem ma_hartOf (C : CallFix p m c cc nL s args Ts own) (hK : va_K g vwCl (mT ct) s) (hP : va_P g vwCl (wM ct ad S) H) {i : Int32} (hi : vp_in i 6) {j : Nat} (hj : i.toNatClampNeg = j) (hdg : decode cc pc = .ok (.iaload, 1)) (kk : W p l e R s m args below meth c H locs cells slots QQ (F0 m (pc + 1) ls (.int (S.1 14 j) :: rest))) : W p l e R s m args below meth c H locs cells slots QQ (F0 m pc ls (.int i :: .ref (ad 8) :: rest)) := by
  subst hj
  exact va_iald C.1 C.2.1 hK hP 8 0 rfl rfl hi hdg kk
theorem ms_hartOf (C : CallFix p m c cc nL s args Ts own) (hK : va_K g vwCl (mT ct) s) (hP : va_P g vwCl (wM ct ad S) H) (hD : va_D A (wM ct ad S)) (hS : va_S A H0 H locs) {i : Int32} (hi : vp_in i 6) {j : Nat} (hj : i.toNatClampNeg = j) {x : Int32} (hdg : decode cc pc = .ok (.iastore, 1)) (kk : ∀ (H1 : Heap) (locs1 : List Loc), va_P g vwCl (wM ct ad (wr S 14 j x)) H1 → va_D A (wM ct ad (wr S 14 j x)) → va_S A H0 H1 locs1 → W p l e R s m args below meth c H1 locs1 cells slots QQ (F0 m (pc + 1) ls rest)) : W p l e R s m args below meth c H locs cells slots QQ (F0 m pc ls (.int x :: .int i :: .ref (ad 8) :: rest)) := by
  subst hj
  refine va_iast C.1 C.2.1 hK hP hD hS 8 0 rfl rfl hi hdg (fun H1 locs1 a b d => ?_)
  have e : (wM ct ad S).set 8 (ad 8, .inl (ct 0, 6, .inl (upd (S.1 14) i.toNatClampNeg x))) = wM ct ad (wr S 14 i.toNatClampNeg x) := rfl
  rw [e] at a b
  exact kk H1 locs1 a b d
theorem ma_kindOf (C : CallFix p m c cc nL s args Ts own) (hK : va_K g vwCl (mT ct) s) (hP : va_P g vwCl (wM ct ad S) H) {i : Int32} (hi : vp_in i 6) {j : Nat} (hj : i.toNatClampNeg = j) (hdg : decode cc pc = .ok (.iaload, 1)) (kk : W p l e R s m args below meth c H locs cells slots QQ (F0 m (pc + 1) ls (.int (S.1 15 j) :: rest))) : W p l e R s m args below meth c H locs cells slots QQ (F0 m pc ls (.int i :: .ref (ad 9) :: rest)) := by
  subst hj
  exact va_iald C.1 C.2.1 hK hP 9 0 rfl rfl hi hdg kk
theorem ms_kindOf (C : CallFix p m c cc nL s args Ts own) (hK : va_K g vwCl (mT ct) s) (hP : va_P g vwCl (wM ct ad S) H) (hD : va_D A (wM ct ad S)) (hS : va_S A H0 H locs) {i : Int32} (hi : vp_in i 6) {j : Nat} (hj : i.toNatClampNeg = j) {x : Int32} (hdg : decode cc pc = .ok (.iastore, 1)) (kk : ∀ (H1 : Heap) (locs1 : List Loc), va_P g vwCl (wM ct ad (wr S 15 j x)) H1 → va_D A (wM ct ad (wr S 15 j x)) → va_S A H0 H1 locs1 → W p l e R s m args below meth c H1 locs1 cells slots QQ (F0 m (pc + 1) ls rest)) : W p l e R s m args below meth c H locs cells slots QQ (F0 m pc ls (.int x :: .int i :: .ref (ad 9) :: rest)) := by
  subst hj
  refine va_iast C.1 C.2.1 hK hP hD hS 9 0 rfl rfl hi hdg (fun H1 locs1 a b d => ?_)
  have e : (wM ct ad S).set 9 (ad 9, .inl (ct 0, 6, .inl (upd (S.1 15) i.toNatClampNeg x))) = wM ct ad (wr S 15 i.toNatClampNeg x) := rfl
  rw [e] at a b
  exact kk H1 locs1 a b d
theorem ma_locationOf (C : CallFix p m c cc nL s args Ts own) (hK : va_K g vwCl (mT ct) s) (hP : va_P g vwCl (wM ct ad S) H) {i : Int32} (hi : vp_in i 6) {j : Nat} (hj : i.toNatClampNeg = j) (hdg : decode cc pc = .ok (.iaload, 1)) (kk : W p l e R s m args below meth c H locs cells slots QQ (F0 m (pc + 1) ls (.int (S.1 16 j) :: rest))) : W p l e R s m args below meth c H locs cells slots QQ (F0 m pc ls (.int i :: .ref (ad 10) :: rest)) := by
  subst hj
  exact va_iald C.1 C.2.1 hK hP 10 0 rfl rfl hi hdg kk
theorem ms_locationOf (C : CallFix p m c cc nL s args Ts own) (hK : va_K g vwCl (mT ct) s) (hP : va_P g vwCl (wM ct ad S) H) (hD : va_D A (wM ct ad S)) (hS : va_S A H0 H locs) {i : Int32} (hi : vp_in i 6) {j : Nat} (hj : i.toNatClampNeg = j) {x : Int32} (hdg : decode cc pc = .ok (.iastore, 1)) (kk : ∀ (H1 : Heap) (locs1 : List Loc), va_P g vwCl (wM ct ad (wr S 16 j x)) H1 → va_D A (wM ct ad (wr S 16 j x)) → va_S A H0 H1 locs1 → W p l e R s m args below meth c H1 locs1 cells slots QQ (F0 m (pc + 1) ls rest)) : W p l e R s m args below meth c H locs cells slots QQ (F0 m pc ls (.int x :: .int i :: .ref (ad 10) :: rest)) := by
  subst hj
  refine va_iast C.1 C.2.1 hK hP hD hS 10 0 rfl rfl hi hdg (fun H1 locs1 a b d => ?_)
  have e : (wM ct ad S).set 10 (ad 10, .inl (ct 0, 6, .inl (upd (S.1 16) i.toNatClampNeg x))) = wM ct ad (wr S 16 i.toNatClampNeg x) := rfl
  rw [e] at a b
  exact kk H1 locs1 a b d
theorem ma_read (C : CallFix p m c cc nL s args Ts own) (hK : va_K g vwCl (mT ct) s) (hP : va_P g vwCl (wM ct ad S) H) {i : Int32} (hi : vp_in i 6) {j : Nat} (hj : i.toNatClampNeg = j) (hdg : decode cc pc = .ok (.iaload, 1)) (kk : W p l e R s m args below meth c H locs cells slots QQ (F0 m (pc + 1) ls (.int (S.1 17 j) :: rest))) : W p l e R s m args below meth c H locs cells slots QQ (F0 m pc ls (.int i :: .ref (ad 11) :: rest)) := by
  subst hj
  exact va_iald C.1 C.2.1 hK hP 11 0 rfl rfl hi hdg kk
theorem ms_read (C : CallFix p m c cc nL s args Ts own) (hK : va_K g vwCl (mT ct) s) (hP : va_P g vwCl (wM ct ad S) H) (hD : va_D A (wM ct ad S)) (hS : va_S A H0 H locs) {i : Int32} (hi : vp_in i 6) {j : Nat} (hj : i.toNatClampNeg = j) {x : Int32} (hdg : decode cc pc = .ok (.iastore, 1)) (kk : ∀ (H1 : Heap) (locs1 : List Loc), va_P g vwCl (wM ct ad (wr S 17 j x)) H1 → va_D A (wM ct ad (wr S 17 j x)) → va_S A H0 H1 locs1 → W p l e R s m args below meth c H1 locs1 cells slots QQ (F0 m (pc + 1) ls rest)) : W p l e R s m args below meth c H locs cells slots QQ (F0 m pc ls (.int x :: .int i :: .ref (ad 11) :: rest)) := by
  subst hj
  refine va_iast C.1 C.2.1 hK hP hD hS 11 0 rfl rfl hi hdg (fun H1 locs1 a b d => ?_)
  have e : (wM ct ad S).set 11 (ad 11, .inl (ct 0, 6, .inl (upd (S.1 17) i.toNatClampNeg x))) = wM ct ad (wr S 17 i.toNatClampNeg x) := rfl
  rw [e] at a b
  exact kk H1 locs1 a b d
theorem ma_written (C : CallFix p m c cc nL s args Ts own) (hK : va_K g vwCl (mT ct) s) (hP : va_P g vwCl (wM ct ad S) H) {i : Int32} (hi : vp_in i 6) {j : Nat} (hj : i.toNatClampNeg = j) (hdg : decode cc pc = .ok (.iaload, 1)) (kk : W p l e R s m args below meth c H locs cells slots QQ (F0 m (pc + 1) ls (.int (S.1 18 j) :: rest))) : W p l e R s m args below meth c H locs cells slots QQ (F0 m pc ls (.int i :: .ref (ad 12) :: rest)) := by
  subst hj
  exact va_iald C.1 C.2.1 hK hP 12 0 rfl rfl hi hdg kk
theorem ms_written (C : CallFix p m c cc nL s args Ts own) (hK : va_K g vwCl (mT ct) s) (hP : va_P g vwCl (wM ct ad S) H) (hD : va_D A (wM ct ad S)) (hS : va_S A H0 H locs) {i : Int32} (hi : vp_in i 6) {j : Nat} (hj : i.toNatClampNeg = j) {x : Int32} (hdg : decode cc pc = .ok (.iastore, 1)) (kk : ∀ (H1 : Heap) (locs1 : List Loc), va_P g vwCl (wM ct ad (wr S 18 j x)) H1 → va_D A (wM ct ad (wr S 18 j x)) → va_S A H0 H1 locs1 → W p l e R s m args below meth c H1 locs1 cells slots QQ (F0 m (pc + 1) ls rest)) : W p l e R s m args below meth c H locs cells slots QQ (F0 m pc ls (.int x :: .int i :: .ref (ad 12) :: rest)) := by
  subst hj
  refine va_iast C.1 C.2.1 hK hP hD hS 12 0 rfl rfl hi hdg (fun H1 locs1 a b d => ?_)
  have e : (wM ct ad S).set 12 (ad 12, .inl (ct 0, 6, .inl (upd (S.1 18) i.toNatClampNeg x))) = wM ct ad (wr S 18 i.toNatClampNeg x) := rfl
  rw [e] at a b
  exact kk H1 locs1 a b d
theorem ma_marks (C : CallFix p m c cc nL s args Ts own) (hK : va_K g vwCl (mT ct) s) (hP : va_P g vwCl (wM ct ad S) H) {i : Int32} (hi : vp_in i 6) {j : Nat} (hj : i.toNatClampNeg = j) (hdg : decode cc pc = .ok (.iaload, 1)) (kk : W p l e R s m args below meth c H locs cells slots QQ (F0 m (pc + 1) ls (.int (S.1 19 j) :: rest))) : W p l e R s m args below meth c H locs cells slots QQ (F0 m pc ls (.int i :: .ref (ad 13) :: rest)) := by
  subst hj
  exact va_iald C.1 C.2.1 hK hP 13 0 rfl rfl hi hdg kk
theorem ms_marks (C : CallFix p m c cc nL s args Ts own) (hK : va_K g vwCl (mT ct) s) (hP : va_P g vwCl (wM ct ad S) H) (hD : va_D A (wM ct ad S)) (hS : va_S A H0 H locs) {i : Int32} (hi : vp_in i 6) {j : Nat} (hj : i.toNatClampNeg = j) {x : Int32} (hdg : decode cc pc = .ok (.iastore, 1)) (kk : ∀ (H1 : Heap) (locs1 : List Loc), va_P g vwCl (wM ct ad (wr S 19 j x)) H1 → va_D A (wM ct ad (wr S 19 j x)) → va_S A H0 H1 locs1 → W p l e R s m args below meth c H1 locs1 cells slots QQ (F0 m (pc + 1) ls rest)) : W p l e R s m args below meth c H locs cells slots QQ (F0 m pc ls (.int x :: .int i :: .ref (ad 13) :: rest)) := by
  subst hj
  refine va_iast C.1 C.2.1 hK hP hD hS 13 0 rfl rfl hi hdg (fun H1 locs1 a b d => ?_)
  have e : (wM ct ad S).set 13 (ad 13, .inl (ct 0, 6, .inl (upd (S.1 19) i.toNatClampNeg x))) = wM ct ad (wr S 19 i.toNatClampNeg x) := rfl
  rw [e] at a b
  exact kk H1 locs1 a b d
theorem ma_byPlace (C : CallFix p m c cc nL s args Ts own) (hK : va_K g vwCl (mT ct) s) (hP : va_P g vwCl (wM ct ad S) H) {i : Int32} (hi : vp_in i 6) {j : Nat} (hj : i.toNatClampNeg = j) (hdg : decode cc pc = .ok (.iaload, 1)) (kk : W p l e R s m args below meth c H locs cells slots QQ (F0 m (pc + 1) ls (.int (S.1 20 j) :: rest))) : W p l e R s m args below meth c H locs cells slots QQ (F0 m pc ls (.int i :: .ref (ad 14) :: rest)) := by
  subst hj
  exact va_iald C.1 C.2.1 hK hP 14 0 rfl rfl hi hdg kk
theorem ms_byPlace (C : CallFix p m c cc nL s args Ts own) (hK : va_K g vwCl (mT ct) s) (hP : va_P g vwCl (wM ct ad S) H) (hD : va_D A (wM ct ad S)) (hS : va_S A H0 H locs) {i : Int32} (hi : vp_in i 6) {j : Nat} (hj : i.toNatClampNeg = j) {x : Int32} (hdg : decode cc pc = .ok (.iastore, 1)) (kk : ∀ (H1 : Heap) (locs1 : List Loc), va_P g vwCl (wM ct ad (wr S 20 j x)) H1 → va_D A (wM ct ad (wr S 20 j x)) → va_S A H0 H1 locs1 → W p l e R s m args below meth c H1 locs1 cells slots QQ (F0 m (pc + 1) ls rest)) : W p l e R s m args below meth c H locs cells slots QQ (F0 m pc ls (.int x :: .int i :: .ref (ad 14) :: rest)) := by
  subst hj
  refine va_iast C.1 C.2.1 hK hP hD hS 14 0 rfl rfl hi hdg (fun H1 locs1 a b d => ?_)
  have e : (wM ct ad S).set 14 (ad 14, .inl (ct 0, 6, .inl (upd (S.1 20) i.toNatClampNeg x))) = wM ct ad (wr S 20 i.toNatClampNeg x) := rfl
  rw [e] at a b
  exact kk H1 locs1 a b d
theorem ma_byValue (C : CallFix p m c cc nL s args Ts own) (hK : va_K g vwCl (mT ct) s) (hP : va_P g vwCl (wM ct ad S) H) {i : Int32} (hi : vp_in i 6) {j : Nat} (hj : i.toNatClampNeg = j) (hdg : decode cc pc = .ok (.iaload, 1)) (kk : W p l e R s m args below meth c H locs cells slots QQ (F0 m (pc + 1) ls (.int (S.1 21 j) :: rest))) : W p l e R s m args below meth c H locs cells slots QQ (F0 m pc ls (.int i :: .ref (ad 15) :: rest)) := by
  subst hj
  exact va_iald C.1 C.2.1 hK hP 15 0 rfl rfl hi hdg kk
theorem ms_byValue (C : CallFix p m c cc nL s args Ts own) (hK : va_K g vwCl (mT ct) s) (hP : va_P g vwCl (wM ct ad S) H) (hD : va_D A (wM ct ad S)) (hS : va_S A H0 H locs) {i : Int32} (hi : vp_in i 6) {j : Nat} (hj : i.toNatClampNeg = j) {x : Int32} (hdg : decode cc pc = .ok (.iastore, 1)) (kk : ∀ (H1 : Heap) (locs1 : List Loc), va_P g vwCl (wM ct ad (wr S 21 j x)) H1 → va_D A (wM ct ad (wr S 21 j x)) → va_S A H0 H1 locs1 → W p l e R s m args below meth c H1 locs1 cells slots QQ (F0 m (pc + 1) ls rest)) : W p l e R s m args below meth c H locs cells slots QQ (F0 m pc ls (.int x :: .int i :: .ref (ad 15) :: rest)) := by
  subst hj
  refine va_iast C.1 C.2.1 hK hP hD hS 15 0 rfl rfl hi hdg (fun H1 locs1 a b d => ?_)
  have e : (wM ct ad S).set 15 (ad 15, .inl (ct 0, 6, .inl (upd (S.1 21) i.toNatClampNeg x))) = wM ct ad (wr S 21 i.toNatClampNeg x) := rfl
  rw [e] at a b
  exact kk H1 locs1 a b d
theorem ma_byWay (C : CallFix p m c cc nL s args Ts own) (hK : va_K g vwCl (mT ct) s) (hP : va_P g vwCl (wM ct ad S) H) {i : Int32} (hi : vp_in i 6) {j : Nat} (hj : i.toNatClampNeg = j) (hdg : decode cc pc = .ok (.iaload, 1)) (kk : W p l e R s m args below meth c H locs cells slots QQ (F0 m (pc + 1) ls (.int (S.1 22 j) :: rest))) : W p l e R s m args below meth c H locs cells slots QQ (F0 m pc ls (.int i :: .ref (ad 16) :: rest)) := by
  subst hj
  exact va_iald C.1 C.2.1 hK hP 16 0 rfl rfl hi hdg kk
theorem ms_byWay (C : CallFix p m c cc nL s args Ts own) (hK : va_K g vwCl (mT ct) s) (hP : va_P g vwCl (wM ct ad S) H) (hD : va_D A (wM ct ad S)) (hS : va_S A H0 H locs) {i : Int32} (hi : vp_in i 6) {j : Nat} (hj : i.toNatClampNeg = j) {x : Int32} (hdg : decode cc pc = .ok (.iastore, 1)) (kk : ∀ (H1 : Heap) (locs1 : List Loc), va_P g vwCl (wM ct ad (wr S 22 j x)) H1 → va_D A (wM ct ad (wr S 22 j x)) → va_S A H0 H1 locs1 → W p l e R s m args below meth c H1 locs1 cells slots QQ (F0 m (pc + 1) ls rest)) : W p l e R s m args below meth c H locs cells slots QQ (F0 m pc ls (.int x :: .int i :: .ref (ad 16) :: rest)) := by
  subst hj
  refine va_iast C.1 C.2.1 hK hP hD hS 16 0 rfl rfl hi hdg (fun H1 locs1 a b d => ?_)
  have e : (wM ct ad S).set 16 (ad 16, .inl (ct 0, 6, .inl (upd (S.1 22) i.toNatClampNeg x))) = wM ct ad (wr S 22 i.toNatClampNeg x) := rfl
  rw [e] at a b
  exact kk H1 locs1 a b d
theorem ma_reserve (C : CallFix p m c cc nL s args Ts own) (hK : va_K g vwCl (mT ct) s) (hP : va_P g vwCl (wM ct ad S) H) {i : Int32} (hi : vp_in i 6) {j : Nat} (hj : i.toNatClampNeg = j) (hdg : decode cc pc = .ok (.iaload, 1)) (kk : W p l e R s m args below meth c H locs cells slots QQ (F0 m (pc + 1) ls (.int (S.1 23 j) :: rest))) : W p l e R s m args below meth c H locs cells slots QQ (F0 m pc ls (.int i :: .ref (ad 17) :: rest)) := by
  subst hj
  exact va_iald C.1 C.2.1 hK hP 17 0 rfl rfl hi hdg kk
theorem ms_reserve (C : CallFix p m c cc nL s args Ts own) (hK : va_K g vwCl (mT ct) s) (hP : va_P g vwCl (wM ct ad S) H) (hD : va_D A (wM ct ad S)) (hS : va_S A H0 H locs) {i : Int32} (hi : vp_in i 6) {j : Nat} (hj : i.toNatClampNeg = j) {x : Int32} (hdg : decode cc pc = .ok (.iastore, 1)) (kk : ∀ (H1 : Heap) (locs1 : List Loc), va_P g vwCl (wM ct ad (wr S 23 j x)) H1 → va_D A (wM ct ad (wr S 23 j x)) → va_S A H0 H1 locs1 → W p l e R s m args below meth c H1 locs1 cells slots QQ (F0 m (pc + 1) ls rest)) : W p l e R s m args below meth c H locs cells slots QQ (F0 m pc ls (.int x :: .int i :: .ref (ad 17) :: rest)) := by
  subst hj
  refine va_iast C.1 C.2.1 hK hP hD hS 17 0 rfl rfl hi hdg (fun H1 locs1 a b d => ?_)
  have e : (wM ct ad S).set 17 (ad 17, .inl (ct 0, 6, .inl (upd (S.1 23) i.toNatClampNeg x))) = wM ct ad (wr S 23 i.toNatClampNeg x) := rfl
  rw [e] at a b
  exact kk H1 locs1 a b d
theorem ma_fenceHart (C : CallFix p m c cc nL s args Ts own) (hK : va_K g vwCl (mT ct) s) (hP : va_P g vwCl (wM ct ad S) H) {i : Int32} (hi : vp_in i 24) {j : Nat} (hj : i.toNatClampNeg = j) (hdg : decode cc pc = .ok (.iaload, 1)) (kk : W p l e R s m args below meth c H locs cells slots QQ (F0 m (pc + 1) ls (.int (S.1 25 j) :: rest))) : W p l e R s m args below meth c H locs cells slots QQ (F0 m pc ls (.int i :: .ref (ad 18) :: rest)) := by
  subst hj
  exact va_iald C.1 C.2.1 hK hP 18 0 rfl rfl hi hdg kk
theorem ms_fenceHart (C : CallFix p m c cc nL s args Ts own) (hK : va_K g vwCl (mT ct) s) (hP : va_P g vwCl (wM ct ad S) H) (hD : va_D A (wM ct ad S)) (hS : va_S A H0 H locs) {i : Int32} (hi : vp_in i 24) {j : Nat} (hj : i.toNatClampNeg = j) {x : Int32} (hdg : decode cc pc = .ok (.iastore, 1)) (kk : ∀ (H1 : Heap) (locs1 : List Loc), va_P g vwCl (wM ct ad (wr S 25 j x)) H1 → va_D A (wM ct ad (wr S 25 j x)) → va_S A H0 H1 locs1 → W p l e R s m args below meth c H1 locs1 cells slots QQ (F0 m (pc + 1) ls rest)) : W p l e R s m args below meth c H locs cells slots QQ (F0 m pc ls (.int x :: .int i :: .ref (ad 18) :: rest)) := by
  subst hj
  refine va_iast C.1 C.2.1 hK hP hD hS 18 0 rfl rfl hi hdg (fun H1 locs1 a b d => ?_)
  have e : (wM ct ad S).set 18 (ad 18, .inl (ct 0, 24, .inl (upd (S.1 25) i.toNatClampNeg x))) = wM ct ad (wr S 25 i.toNatClampNeg x) := rfl
  rw [e] at a b
  exact kk H1 locs1 a b d
theorem ma_fenceAt (C : CallFix p m c cc nL s args Ts own) (hK : va_K g vwCl (mT ct) s) (hP : va_P g vwCl (wM ct ad S) H) {i : Int32} (hi : vp_in i 24) {j : Nat} (hj : i.toNatClampNeg = j) (hdg : decode cc pc = .ok (.iaload, 1)) (kk : W p l e R s m args below meth c H locs cells slots QQ (F0 m (pc + 1) ls (.int (S.1 26 j) :: rest))) : W p l e R s m args below meth c H locs cells slots QQ (F0 m pc ls (.int i :: .ref (ad 19) :: rest)) := by
  subst hj
  exact va_iald C.1 C.2.1 hK hP 19 0 rfl rfl hi hdg kk
theorem ms_fenceAt (C : CallFix p m c cc nL s args Ts own) (hK : va_K g vwCl (mT ct) s) (hP : va_P g vwCl (wM ct ad S) H) (hD : va_D A (wM ct ad S)) (hS : va_S A H0 H locs) {i : Int32} (hi : vp_in i 24) {j : Nat} (hj : i.toNatClampNeg = j) {x : Int32} (hdg : decode cc pc = .ok (.iastore, 1)) (kk : ∀ (H1 : Heap) (locs1 : List Loc), va_P g vwCl (wM ct ad (wr S 26 j x)) H1 → va_D A (wM ct ad (wr S 26 j x)) → va_S A H0 H1 locs1 → W p l e R s m args below meth c H1 locs1 cells slots QQ (F0 m (pc + 1) ls rest)) : W p l e R s m args below meth c H locs cells slots QQ (F0 m pc ls (.int x :: .int i :: .ref (ad 19) :: rest)) := by
  subst hj
  refine va_iast C.1 C.2.1 hK hP hD hS 19 0 rfl rfl hi hdg (fun H1 locs1 a b d => ?_)
  have e : (wM ct ad S).set 19 (ad 19, .inl (ct 0, 24, .inl (upd (S.1 26) i.toNatClampNeg x))) = wM ct ad (wr S 26 i.toNatClampNeg x) := rfl
  rw [e] at a b
  exact kk H1 locs1 a b d
theorem ma_fenceFirst (C : CallFix p m c cc nL s args Ts own) (hK : va_K g vwCl (mT ct) s) (hP : va_P g vwCl (wM ct ad S) H) {i : Int32} (hi : vp_in i 24) {j : Nat} (hj : i.toNatClampNeg = j) (hdg : decode cc pc = .ok (.iaload, 1)) (kk : W p l e R s m args below meth c H locs cells slots QQ (F0 m (pc + 1) ls (.int (S.1 27 j) :: rest))) : W p l e R s m args below meth c H locs cells slots QQ (F0 m pc ls (.int i :: .ref (ad 20) :: rest)) := by
  subst hj
  exact va_iald C.1 C.2.1 hK hP 20 0 rfl rfl hi hdg kk
theorem ms_fenceFirst (C : CallFix p m c cc nL s args Ts own) (hK : va_K g vwCl (mT ct) s) (hP : va_P g vwCl (wM ct ad S) H) (hD : va_D A (wM ct ad S)) (hS : va_S A H0 H locs) {i : Int32} (hi : vp_in i 24) {j : Nat} (hj : i.toNatClampNeg = j) {x : Int32} (hdg : decode cc pc = .ok (.iastore, 1)) (kk : ∀ (H1 : Heap) (locs1 : List Loc), va_P g vwCl (wM ct ad (wr S 27 j x)) H1 → va_D A (wM ct ad (wr S 27 j x)) → va_S A H0 H1 locs1 → W p l e R s m args below meth c H1 locs1 cells slots QQ (F0 m (pc + 1) ls rest)) : W p l e R s m args below meth c H locs cells slots QQ (F0 m pc ls (.int x :: .int i :: .ref (ad 20) :: rest)) := by
  subst hj
  refine va_iast C.1 C.2.1 hK hP hD hS 20 0 rfl rfl hi hdg (fun H1 locs1 a b d => ?_)
  have e : (wM ct ad S).set 20 (ad 20, .inl (ct 0, 24, .inl (upd (S.1 27) i.toNatClampNeg x))) = wM ct ad (wr S 27 i.toNatClampNeg x) := rfl
  rw [e] at a b
  exact kk H1 locs1 a b d
theorem ma_fenceSecond (C : CallFix p m c cc nL s args Ts own) (hK : va_K g vwCl (mT ct) s) (hP : va_P g vwCl (wM ct ad S) H) {i : Int32} (hi : vp_in i 24) {j : Nat} (hj : i.toNatClampNeg = j) (hdg : decode cc pc = .ok (.iaload, 1)) (kk : W p l e R s m args below meth c H locs cells slots QQ (F0 m (pc + 1) ls (.int (S.1 28 j) :: rest))) : W p l e R s m args below meth c H locs cells slots QQ (F0 m pc ls (.int i :: .ref (ad 21) :: rest)) := by
  subst hj
  exact va_iald C.1 C.2.1 hK hP 21 0 rfl rfl hi hdg kk
theorem ms_fenceSecond (C : CallFix p m c cc nL s args Ts own) (hK : va_K g vwCl (mT ct) s) (hP : va_P g vwCl (wM ct ad S) H) (hD : va_D A (wM ct ad S)) (hS : va_S A H0 H locs) {i : Int32} (hi : vp_in i 24) {j : Nat} (hj : i.toNatClampNeg = j) {x : Int32} (hdg : decode cc pc = .ok (.iastore, 1)) (kk : ∀ (H1 : Heap) (locs1 : List Loc), va_P g vwCl (wM ct ad (wr S 28 j x)) H1 → va_D A (wM ct ad (wr S 28 j x)) → va_S A H0 H1 locs1 → W p l e R s m args below meth c H1 locs1 cells slots QQ (F0 m (pc + 1) ls rest)) : W p l e R s m args below meth c H locs cells slots QQ (F0 m pc ls (.int x :: .int i :: .ref (ad 21) :: rest)) := by
  subst hj
  refine va_iast C.1 C.2.1 hK hP hD hS 21 0 rfl rfl hi hdg (fun H1 locs1 a b d => ?_)
  have e : (wM ct ad S).set 21 (ad 21, .inl (ct 0, 24, .inl (upd (S.1 28) i.toNatClampNeg x))) = wM ct ad (wr S 28 i.toNatClampNeg x) := rfl
  rw [e] at a b
  exact kk H1 locs1 a b d
theorem ma_order (C : CallFix p m c cc nL s args Ts own) (hK : va_K g vwCl (mT ct) s) (hP : va_P g vwCl (wM ct ad S) H) {i : Int32} (hi : vp_in i 6) {j : Nat} (hj : i.toNatClampNeg = j) (hdg : decode cc pc = .ok (.iaload, 1)) (kk : W p l e R s m args below meth c H locs cells slots QQ (F0 m (pc + 1) ls (.int (S.1 30 j) :: rest))) : W p l e R s m args below meth c H locs cells slots QQ (F0 m pc ls (.int i :: .ref (ad 23) :: rest)) := by
  subst hj
  exact va_iald C.1 C.2.1 hK hP 23 0 rfl rfl hi hdg kk
theorem ms_order (C : CallFix p m c cc nL s args Ts own) (hK : va_K g vwCl (mT ct) s) (hP : va_P g vwCl (wM ct ad S) H) (hD : va_D A (wM ct ad S)) (hS : va_S A H0 H locs) {i : Int32} (hi : vp_in i 6) {j : Nat} (hj : i.toNatClampNeg = j) {x : Int32} (hdg : decode cc pc = .ok (.iastore, 1)) (kk : ∀ (H1 : Heap) (locs1 : List Loc), va_P g vwCl (wM ct ad (wr S 30 j x)) H1 → va_D A (wM ct ad (wr S 30 j x)) → va_S A H0 H1 locs1 → W p l e R s m args below meth c H1 locs1 cells slots QQ (F0 m (pc + 1) ls rest)) : W p l e R s m args below meth c H locs cells slots QQ (F0 m pc ls (.int x :: .int i :: .ref (ad 23) :: rest)) := by
  subst hj
  refine va_iast C.1 C.2.1 hK hP hD hS 23 0 rfl rfl hi hdg (fun H1 locs1 a b d => ?_)
  have e : (wM ct ad S).set 23 (ad 23, .inl (ct 0, 6, .inl (upd (S.1 30) i.toNatClampNeg x))) = wM ct ad (wr S 30 i.toNatClampNeg x) := rfl
  rw [e] at a b
  exact kk H1 locs1 a b d
theorem ma_place (C : CallFix p m c cc nL s args Ts own) (hK : va_K g vwCl (mT ct) s) (hP : va_P g vwCl (wM ct ad S) H) {i : Int32} (hi : vp_in i 6) {j : Nat} (hj : i.toNatClampNeg = j) (hdg : decode cc pc = .ok (.iaload, 1)) (kk : W p l e R s m args below meth c H locs cells slots QQ (F0 m (pc + 1) ls (.int (S.1 31 j) :: rest))) : W p l e R s m args below meth c H locs cells slots QQ (F0 m pc ls (.int i :: .ref (ad 24) :: rest)) := by
  subst hj
  exact va_iald C.1 C.2.1 hK hP 24 0 rfl rfl hi hdg kk
theorem ms_place (C : CallFix p m c cc nL s args Ts own) (hK : va_K g vwCl (mT ct) s) (hP : va_P g vwCl (wM ct ad S) H) (hD : va_D A (wM ct ad S)) (hS : va_S A H0 H locs) {i : Int32} (hi : vp_in i 6) {j : Nat} (hj : i.toNatClampNeg = j) {x : Int32} (hdg : decode cc pc = .ok (.iastore, 1)) (kk : ∀ (H1 : Heap) (locs1 : List Loc), va_P g vwCl (wM ct ad (wr S 31 j x)) H1 → va_D A (wM ct ad (wr S 31 j x)) → va_S A H0 H1 locs1 → W p l e R s m args below meth c H1 locs1 cells slots QQ (F0 m (pc + 1) ls rest)) : W p l e R s m args below meth c H locs cells slots QQ (F0 m pc ls (.int x :: .int i :: .ref (ad 24) :: rest)) := by
  subst hj
  refine va_iast C.1 C.2.1 hK hP hD hS 24 0 rfl rfl hi hdg (fun H1 locs1 a b d => ?_)
  have e : (wM ct ad S).set 24 (ad 24, .inl (ct 0, 6, .inl (upd (S.1 31) i.toNatClampNeg x))) = wM ct ad (wr S 31 i.toNatClampNeg x) := rfl
  rw [e] at a b
  exact kk H1 locs1 a b d
theorem ma_source (C : CallFix p m c cc nL s args Ts own) (hK : va_K g vwCl (mT ct) s) (hP : va_P g vwCl (wM ct ad S) H) {i : Int32} (hi : vp_in i 6) {j : Nat} (hj : i.toNatClampNeg = j) (hdg : decode cc pc = .ok (.iaload, 1)) (kk : W p l e R s m args below meth c H locs cells slots QQ (F0 m (pc + 1) ls (.int (S.1 32 j) :: rest))) : W p l e R s m args below meth c H locs cells slots QQ (F0 m pc ls (.int i :: .ref (ad 25) :: rest)) := by
  subst hj
  exact va_iald C.1 C.2.1 hK hP 25 0 rfl rfl hi hdg kk
theorem ms_source (C : CallFix p m c cc nL s args Ts own) (hK : va_K g vwCl (mT ct) s) (hP : va_P g vwCl (wM ct ad S) H) (hD : va_D A (wM ct ad S)) (hS : va_S A H0 H locs) {i : Int32} (hi : vp_in i 6) {j : Nat} (hj : i.toNatClampNeg = j) {x : Int32} (hdg : decode cc pc = .ok (.iastore, 1)) (kk : ∀ (H1 : Heap) (locs1 : List Loc), va_P g vwCl (wM ct ad (wr S 32 j x)) H1 → va_D A (wM ct ad (wr S 32 j x)) → va_S A H0 H1 locs1 → W p l e R s m args below meth c H1 locs1 cells slots QQ (F0 m (pc + 1) ls rest)) : W p l e R s m args below meth c H locs cells slots QQ (F0 m pc ls (.int x :: .int i :: .ref (ad 25) :: rest)) := by
  subst hj
  refine va_iast C.1 C.2.1 hK hP hD hS 25 0 rfl rfl hi hdg (fun H1 locs1 a b d => ?_)
  have e : (wM ct ad S).set 25 (ad 25, .inl (ct 0, 6, .inl (upd (S.1 32) i.toNatClampNeg x))) = wM ct ad (wr S 32 i.toNatClampNeg x) := rfl
  rw [e] at a b
  exact kk H1 locs1 a b d
theorem ma_must (C : CallFix p m c cc nL s args Ts own) (hK : va_K g vwCl (mT ct) s) (hP : va_P g vwCl (wM ct ad S) H) {i : Int32} (hi : vp_in i 36) {j : Nat} (hj : i.toNatClampNeg = j) (hdg : decode cc pc = .ok (.baload, 1)) (kk : W p l e R s m args below meth c H locs cells slots QQ (F0 m (pc + 1) ls (.int (S.1 29 j) :: rest))) : W p l e R s m args below meth c H locs cells slots QQ (F0 m pc ls (.int i :: .ref (ad 22) :: rest)) := by
  subst hj
  exact va_zald C.1 C.2.1 hK hP 22 2 rfl rfl hi hdg kk
theorem ms_must (C : CallFix p m c cc nL s args Ts own) (hK : va_K g vwCl (mT ct) s) (hP : va_P g vwCl (wM ct ad S) H) (hD : va_D A (wM ct ad S)) (hS : va_S A H0 H locs) {i : Int32} (hi : vp_in i 36) {j : Nat} (hj : i.toNatClampNeg = j) {x : Int32} (hz : zb x) (hdg : decode cc pc = .ok (.bastore, 1)) (kk : ∀ (H1 : Heap) (locs1 : List Loc), va_P g vwCl (wM ct ad (wr S 29 j x)) H1 → va_D A (wM ct ad (wr S 29 j x)) → va_S A H0 H1 locs1 → W p l e R s m args below meth c H1 locs1 cells slots QQ (F0 m (pc + 1) ls rest)) : W p l e R s m args below meth c H locs cells slots QQ (F0 m pc ls (.int x :: .int i :: .ref (ad 22) :: rest)) := by
  subst hj
  refine va_zast C.1 C.2.1 hK hP hD hS 22 2 rfl rfl hi hdg (fun H1 locs1 a b d => ?_)
  have hx : vp_nar .boolean x = x := by rcases hz with rfl | rfl <;> rfl
  rw [hx] at a b
  exact kk H1 locs1 a b d
theorem ma_outcomes (C : CallFix p m c cc nL s args Ts own) (hK : va_K g vwCl (mT ct) s) (hP : va_P g vwCl (wM ct ad S) H) {i : Int32} (hi : vp_in i 40000) {j : Nat} (hj : i.toNatClampNeg = j) (hdg : decode cc pc = .ok (.laload, 1)) (kk : W p l e R s m args below meth c H locs cells slots QQ (F0 m (pc + 1) ls (.long (S.2.2 0 j) :: rest))) : W p l e R s m args below meth c H locs cells slots QQ (F0 m pc ls (.int i :: .ref (ad 3) :: rest)) := by
  subst hj
  exact va_lald C.1 C.2.1 hK hP 3 1 rfl rfl hi hdg kk
theorem ms_outcomes (C : CallFix p m c cc nL s args Ts own) (hK : va_K g vwCl (mT ct) s) (hP : va_P g vwCl (wM ct ad S) H) (hD : va_D A (wM ct ad S)) (hS : va_S A H0 H locs) {i : Int32} (hi : vp_in i 40000) {j : Nat} (hj : i.toNatClampNeg = j) {x : Int64} (hdg : decode cc pc = .ok (.lastore, 1)) (kk : ∀ (H1 : Heap) (locs1 : List Loc), va_P g vwCl (wM ct ad (wrL S 0 j x)) H1 → va_D A (wM ct ad (wrL S 0 j x)) → va_S A H0 H1 locs1 → W p l e R s m args below meth c H1 locs1 cells slots QQ (F0 m (pc + 1) ls rest)) : W p l e R s m args below meth c H locs cells slots QQ (F0 m pc ls (.long x :: .int i :: .ref (ad 3) :: rest)) := by
  subst hj
  exact va_last C.1 C.2.1 hK hP hD hS 3 1 rfl rfl hi hdg kk
end XW
end
section
/-! contracts over a world of numbers: how a walk gives a contract, how a contract is used at a call -/
def w0 : St → va_W := fun _ => []
def gPc (g : va_G) (tys : List (ClassId × FieldType)) (ws : va_W) (sz : Nat) (av : List Value) : Array Value → State → Prop := va_Pc av (fun U => U.heap.size = sz ∧ va_P g vwCl ws U.heap ∧ va_K g vwCl tys U ∧ va_D (fun _ => True) ws ∧ xN U)
def gB (g : va_G) (tys : List (ClassId × FieldType)) (w : St → va_W) (A : Nat → Prop) : St → State → Prop := fun S t => va_P g vwCl (w S) t.heap ∧ va_K g vwCl tys t ∧ va_D A (w S)
theorem gPc_blind {g : va_G} {tys : List (ClassId × FieldType)} {ws : va_W} {sz : Nat} {av : List Value} : FrameBlind (gPc g tys ws sz av) := fun a U f mk q => by
  obtain ⟨q0, q1, qP, qK, qD, qN⟩ := q
  exact ⟨q0, q1, qP, va_K.moved (u := U) (U := U.calling f mk a) (Vm.Alike.refl U.vm) qK, qD, xN.same (u := U) (U := U.calling f mk a) rfl qN⟩
theorem gPc_at {g : va_G} {tys : List (ClassId × FieldType)} {ws : va_W} {av : List Value} {A : Nat → Prop} {s U : State} {H : Heap} (hU : U.heap = H) (hW : s.WarmedH U.vm) (hP : va_P g vwCl ws H) (hK : va_K g vwCl tys s) (hD : va_D A ws) (hN : xN s) : gPc g tys ws H.size av av.toArray U :=
  ⟨rfl, by rw [hU], by rw [hU]; exact hP, va_K.moved hW.alike hK, hD.weaken (fun _ _ _ _ => trivial), hN.warm hW⟩
theorem g_free {A : Nat → Prop} {ws : va_W} {H0 H : Heap} {locs : List Loc} (hD : va_D A ws) (hS : va_S A H0 H locs) (hA : ∀ q, H0.size ≤ q → A q) : ∀ q, va_A ws H.size q → A q := by
  intro q h
  rcases h with ⟨k, e, h⟩ | h
  · exact hD.2 k (q, e) h
  · exact hA q (Nat.le_trans hS.1 h)
section GM
variable {l : Launch} {y : MethodName} {ws ws' : List Cond} {rm : Room} {cc : ByteArray} {maxL : Nat} {own : String} {av : List Value} {lv : List (Nat × Value)} {g : va_G} {tys : List (ClassId × FieldType)} {w : St → va_W} {S : St} {sz : Nat}
theorem g_metI {Q : Int32 → St → Prop} (hy : plainName y.cls = true) (hw : ws = Cond.code y cc maxL (some .int) :: ws') (hown : y.cls = own) (hlen : (lg_sl av).length ≤ maxL) (hlv : lv_args 0 av = lv)
    (core : ∀ (p : Program) (e : Env) (s : State) (m : MethodId) (args : Array Value) (below : List Frame) (meth : Method) (c : Code) (QQ : State → Prop) (A : Nat → Prop), CallFix p m c cc maxL s args ws own → va_K g vwCl tys s → xN s → (∀ q, s.heap.size ≤ q → A q) → (∀ (pc : Nat) (r : Int32) (S : St) (H : Heap) (locs : List Loc) (ls : Array Slot), decode cc pc = .ok (.ireturn, 1) → Q r S → va_P g vwCl (w S) H → va_D A (w S) → va_S A s.heap H locs → W p l e rm s m args below meth c H locs 0 0 QQ (F0 m pc ls [.int r])) → ∀ (H : Heap) (locs : List Loc) (ls : Array Slot), va_P g vwCl (w S) H → va_D A (w S) → va_S A s.heap H locs → lv_has ls maxL lv → W p l e rm s m args below meth c H locs 0 0 QQ (F0 m 0 ls [])) :
    Met l y ws rm (gPc g tys (w S) sz av) (va_Qi Q (gB g tys w (va_A (w S) sz)) (va_A (w S) sz)) 0 0 (va_A (w S) sz) := by
  refine Met.ofW (cc := cc) (maxL := maxL) (ret := some .int) hy hw ?_
  intro p e s m args below meth c s₁ B hml hv
  obtain ⟨rfl, hsz, hP, hK, hD0, hN⟩ := hv
  have hts := atoms_spec (ws := ws) B.pre
  have hown' : s.vm.findClass own = some m.cls := by rw [← hown]; exact findClass_of_methodNamed B.named
  have hr := B.returns
  have hlocks := B.notSynchronized
  subst hsz
  have hl := lv_entry av (n := maxL) hlen
  rw [lg_entry_eq]
  generalize (lg_sl av ++ List.replicate (maxL - (lg_sl av).length) Slot.unset).toArray = ls at hl ⊢
  rw [hlv] at hl
  refine core p e s m _ below meth c _ (va_A (w S) s.heap.size) ⟨B.exec, B.bytes, hml, hown', hts⟩ hK hN (fun q h => Or.inr h) (fun pc r S' H locs ls hdg hq hP hD hS => ?_) s.heap [] ls hP hD0.self va_S.rf hl
  exact W.iret (v := r) B.exec B.bytes hr (fun t ht hW => ⟨⟨r, S', rfl, hq, by rw [ht]; exact hP, va_K.moved hW.alike hK, hD⟩, hS.F ht⟩) hS.2.2 hdg
theorem g_metZ {Q : Int32 → St → Prop} (hy : plainName y.cls = true) (hw : ws = Cond.code y cc maxL (some .boolean) :: ws') (hown : y.cls = own) (hlen : (lg_sl av).length ≤ maxL) (hlv : lv_args 0 av = lv)
    (core : ∀ (p : Program) (e : Env) (s : State) (m : MethodId) (args : Array Value) (below : List Frame) (meth : Method) (c : Code) (QQ : State → Prop) (A : Nat → Prop), CallFix p m c cc maxL s args ws own → va_K g vwCl tys s → xN s → (∀ q, s.heap.size ≤ q → A q) → (∀ (pc : Nat) (r : Int32) (S : St) (H : Heap) (locs : List Loc) (ls : Array Slot), decode cc pc = .ok (.ireturn, 1) → zb r → Q r S → va_P g vwCl (w S) H → va_D A (w S) → va_S A s.heap H locs → W p l e rm s m args below meth c H locs 0 0 QQ (F0 m pc ls [.int r])) → ∀ (H : Heap) (locs : List Loc) (ls : Array Slot), va_P g vwCl (w S) H → va_D A (w S) → va_S A s.heap H locs → lv_has ls maxL lv → W p l e rm s m args below meth c H locs 0 0 QQ (F0 m 0 ls [])) :
    Met l y ws rm (gPc g tys (w S) sz av) (va_Qi Q (gB g tys w (va_A (w S) sz)) (va_A (w S) sz)) 0 0 (va_A (w S) sz) := by
  refine Met.ofW (cc := cc) (maxL := maxL) (ret := some .boolean) hy hw ?_
  intro p e s m args below meth c s₁ B hml hv
  obtain ⟨rfl, hsz, hP, hK, hD0, hN⟩ := hv
  have hts := atoms_spec (ws := ws) B.pre
  have hown' : s.vm.findClass own = some m.cls := by rw [← hown]; exact findClass_of_methodNamed B.named
  have hr := B.returns
  have hlocks := B.notSynchronized
  subst hsz
  have hl := lv_entry av (n := maxL) hlen
  rw [lg_entry_eq]
  generalize (lg_sl av ++ List.replicate (maxL - (lg_sl av).length) Slot.unset).toArray = ls at hl ⊢
  rw [hlv] at hl
  refine core p e s m _ below meth c _ (va_A (w S) s.heap.size) ⟨B.exec, B.bytes, hml, hown', hts⟩ hK hN (fun q h => Or.inr h) (fun pc r S' H locs ls hdg hz hq hP hD hS => ?_) s.heap [] ls hP hD0.self va_S.rf hl
  exact W.zret (v := r) B.exec B.bytes hr (zb_n hz) (fun t ht hW => ⟨⟨r, S', rfl, hq, by rw [ht]; exact hP, va_K.moved hW.alike hK, hD⟩, hS.F ht⟩) hS.2.2 hdg
theorem g_metJ {Q : Int64 → St → Prop} (hy : plainName y.cls = true) (hw : ws = Cond.code y cc maxL (some .long) :: ws') (hown : y.cls = own) (hlen : (lg_sl av).length ≤ maxL) (hlv : lv_args 0 av = lv)
    (core : ∀ (p : Program) (e : Env) (s : State) (m : MethodId) (args : Array Value) (below : List Frame) (meth : Method) (c : Code) (QQ : State → Prop) (A : Nat → Prop), CallFix p m c cc maxL s args ws own → va_K g vwCl tys s → xN s → (∀ q, s.heap.size ≤ q → A q) → (∀ (pc : Nat) (r : Int64) (S : St) (H : Heap) (locs : List Loc) (ls : Array Slot), decode cc pc = .ok (.lreturn, 1) → Q r S → va_P g vwCl (w S) H → va_D A (w S) → va_S A s.heap H locs → W p l e rm s m args below meth c H locs 0 0 QQ (F0 m pc ls [.long r])) → ∀ (H : Heap) (locs : List Loc) (ls : Array Slot), va_P g vwCl (w S) H → va_D A (w S) → va_S A s.heap H locs → lv_has ls maxL lv → W p l e rm s m args below meth c H locs 0 0 QQ (F0 m 0 ls [])) :
    Met l y ws rm (gPc g tys (w S) sz av) (va_Ql Q (gB g tys w (va_A (w S) sz)) (va_A (w S) sz)) 0 0 (va_A (w S) sz) := by
  refine Met.ofW (cc := cc) (maxL := maxL) (ret := some .long) hy hw ?_
  intro p e s m args below meth c s₁ B hml hv
  obtain ⟨rfl, hsz, hP, hK, hD0, hN⟩ := hv
  have hts := atoms_spec (ws := ws) B.pre
  have hown' : s.vm.findClass own = some m.cls := by rw [← hown]; exact findClass_of_methodNamed B.named
  have hr := B.returns
  have hlocks := B.notSynchronized
  subst hsz
  have hl := lv_entry av (n := maxL) hlen
  rw [lg_entry_eq]
  generalize (lg_sl av ++ List.replicate (maxL - (lg_sl av).length) Slot.unset).toArray = ls at hl ⊢
  rw [hlv] at hl
  refine core p e s m _ below meth c _ (va_A (w S) s.heap.size) ⟨B.exec, B.bytes, hml, hown', hts⟩ hK hN (fun q h => Or.inr h) (fun pc r S' H locs ls hdg hq hP hD hS => ?_) s.heap [] ls hP hD0.self va_S.rf hl
  exact W.lret (v := r) B.exec B.bytes hr (fun t ht hW => ⟨⟨r, S', rfl, hq, by rw [ht]; exact hP, va_K.moved hW.alike hK, hD⟩, hS.F ht⟩) hS.2.2 hdg
theorem g_metV {Q : St → Prop} (hy : plainName y.cls = true) (hw : ws = Cond.code y cc maxL none :: ws') (hown : y.cls = own) (hlen : (lg_sl av).length ≤ maxL) (hlv : lv_args 0 av = lv)
    (core : ∀ (p : Program) (e : Env) (s : State) (m : MethodId) (args : Array Value) (below : List Frame) (meth : Method) (c : Code) (QQ : State → Prop) (A : Nat → Prop), CallFix p m c cc maxL s args ws own → va_K g vwCl tys s → xN s → (∀ q, s.heap.size ≤ q → A q) → (∀ (pc : Nat) (S : St) (H : Heap) (locs : List Loc) (ls : Array Slot), decode cc pc = .ok (.return_, 1) → Q S → va_P g vwCl (w S) H → va_D A (w S) → va_S A s.heap H locs → W p l e rm s m args below meth c H locs 0 0 QQ (F0 m pc ls [])) → ∀ (H : Heap) (locs : List Loc) (ls : Array Slot), va_P g vwCl (w S) H → va_D A (w S) → va_S A s.heap H locs → lv_has ls maxL lv → W p l e rm s m args below meth c H locs 0 0 QQ (F0 m 0 ls [])) :
    Met l y ws rm (gPc g tys (w S) sz av) (va_Qv Q (gB g tys w (va_A (w S) sz)) (va_A (w S) sz)) 0 0 (va_A (w S) sz) := by
  refine Met.ofW (cc := cc) (maxL := maxL) (ret := none) hy hw ?_
  intro p e s m args below meth c s₁ B hml hv
  obtain ⟨rfl, hsz, hP, hK, hD0, hN⟩ := hv
  have hts := atoms_spec (ws := ws) B.pre
  have hown' : s.vm.findClass own = some m.cls := by rw [← hown]; exact findClass_of_methodNamed B.named
  have hr := B.returns
  have hlocks := B.notSynchronized
  subst hsz
  have hl := lv_entry av (n := maxL) hlen
  rw [lg_entry_eq]
  generalize (lg_sl av ++ List.replicate (maxL - (lg_sl av).length) Slot.unset).toArray = ls at hl ⊢
  rw [hlv] at hl
  refine core p e s m _ below meth c _ (va_A (w S) s.heap.size) ⟨B.exec, B.bytes, hml, hown', hts⟩ hK hN (fun q h => Or.inr h) (fun pc S' H locs ls hdg hq hP hD hS => ?_) s.heap [] ls hP hD0.self va_S.rf hl
  exact W.vret B.exec B.bytes hr (fun t ht hW => ⟨⟨S', rfl, hq, by rw [ht]; exact hP, va_K.moved hW.alike hK, hD⟩, hS.F ht⟩) hS.2.2 hdg
theorem g_metR {Q : Nat → St → Prop} {rt : FieldType} {ad : Nat → Nat} (bs bd : Nat) (hrt : (∃ n, rt = .object n) ∨ ∃ t, rt = .array t) (hy : plainName y.cls = true) (hw : ws = Cond.code y cc maxL (some rt) :: ws') (hown : y.cls = own) (hlen : (lg_sl av).length ≤ maxL) (hlv : lv_args 0 av = lv)
    (core : ∀ (p : Program) (e : Env) (s : State) (m : MethodId) (args : Array Value) (below : List Frame) (meth : Method) (c : Code) (QQ : State → Prop) (A : Nat → Prop), CallFix p m c cc maxL s args ws own → va_K g vwCl tys s → xN s → (∀ q, s.heap.size ≤ q → A q) → (∀ (pc : Nat) (r : Nat) (S : St) (H : Heap) (locs : List Loc) (ls : Array Slot), decode cc pc = .ok (.areturn, 1) → r < bd → Q r S → va_P g vwCl (w S) H → va_D A (w S) → va_S A s.heap H locs → W p l e rm s m args below meth c H locs 0 0 QQ (F0 m pc ls [.ref (ad (bs + r))])) → ∀ (H : Heap) (locs : List Loc) (ls : Array Slot), va_P g vwCl (w S) H → va_D A (w S) → va_S A s.heap H locs → lv_has ls maxL lv → W p l e rm s m args below meth c H locs 0 0 QQ (F0 m 0 ls [])) :
    Met l y ws rm (gPc g tys (w S) sz av) (va_Qr (fun u : Nat × St => u.1 < bd ∧ Q u.1 u.2) (fun u a t => a = ad (bs + u.1) ∧ gB g tys w (va_A (w S) sz) u.2 t) (va_A (w S) sz)) 0 0 (va_A (w S) sz) := by
  refine Met.ofW (cc := cc) (maxL := maxL) (ret := some rt) hy hw ?_
  intro p e s m args below meth c s₁ B hml hv
  obtain ⟨rfl, hsz, hP, hK, hD0, hN⟩ := hv
  have hts := atoms_spec (ws := ws) B.pre
  have hown' : s.vm.findClass own = some m.cls := by rw [← hown]; exact findClass_of_methodNamed B.named
  have hr := B.returns
  have hlocks := B.notSynchronized
  subst hsz
  have hl := lv_entry av (n := maxL) hlen
  rw [lg_entry_eq]
  generalize (lg_sl av ++ List.replicate (maxL - (lg_sl av).length) Slot.unset).toArray = ls at hl ⊢
  rw [hlv] at hl
  refine core p e s m _ below meth c _ (va_A (w S) s.heap.size) ⟨B.exec, B.bytes, hml, hown', hts⟩ hK hN (fun q h => Or.inr h) (fun pc r S' H locs ls hdg hb hq hP hD hS => ?_) s.heap [] ls hP hD0.self va_S.rf hl
  exact W.aret (v := .ref (ad (bs + r))) B.exec B.bytes hr hrt (Or.inr ⟨_, rfl⟩) (fun t ht hW => ⟨⟨(r, S'), ad (bs + r), rfl, ⟨hb, hq⟩, rfl, by rw [ht]; exact hP, va_K.moved hW.alike hK, hD⟩, hS.F ht⟩) hS.2.2 hdg
end GM
section GC
variable {p : Program} {l : Launch} {e : Env} {R : Room} {s : State} {m : MethodId} {args : Array Value} {below : List Frame} {meth : Method} {c : Code} {H : Heap} {locs : List Loc} {cells slots : Nat} {QQ : State → Prop} {cc : ByteArray} {nL : Nat} {own : String} {Ts : List Cond} {pc : Nat} {ls : Array Slot} {st0 rest As : List Value} {g : va_G} {tys : List (ClassId × FieldType)} {w : St → va_W} {A : Nat → Prop} {S : St} {y : MethodName} {ws : List Cond} {rm : Room} {bytes : ByteArray} {maxL index nA b : Nat} {ret : Option FieldType} {Cc : String}
theorem g_callVi {Q : Int32 → St → Prop} (C : CallFix p m c cc nL s args Ts own) (hK : va_K g vwCl tys s) (hN : xN s) (hA : ∀ q, s.heap.size ≤ q → A q) (hP : va_P g vwCl (w S) H) (hD : va_D A (w S)) (hS : va_S A s.heap H locs) (hM : Met l y ws rm (gPc g tys (w S) H.size (.ref b :: As)) (va_Qi Q (gB g tys w (va_A (w S) H.size)) (va_A (w S) H.size)) 0 0 (va_A (w S) H.size)) (cw : CallW R s args own Cc index y bytes maxL ret ws rm 0 0 nA) (hrecv : ∃ cell : Cell, H[b]? = some cell ∧ cell.vm.isStatics = false ∧ s.vm.findClass Cc = some cell.cls) (hn : As.length = nA) (hsize : ls.size = nL) (hst : st0 = As.reverse ++ .ref b :: rest) (hW : (rest.map fun v => v.category).sum ≤ 8) (hdg : decode cc pc = .ok (.invokevirtual index, 3)) (hcs : cells ≤ R.cells ∧ slots ≤ R.slots)
    (kk : ∀ (r : Int32) (S' : St) (H1 : Heap) (locs1 : List Loc), Q r S' → va_P g vwCl (w S') H1 → va_D A (w S') → va_S A s.heap H1 locs1 → W p l e R s m args below meth c H1 locs1 cells slots QQ (F0 m (pc + 3) ls (.int r :: rest))) : W p l e R s m args below meth c H locs cells slots QQ (F0 m pc ls st0) := by
  subst hst
  have hFc := g_free hD hS hA
  refine va_calli (va_runV (As := As) (rest := rest) C hM cw ⟨gPc_blind, hrecv, fun U hU hW => gPc_at hU hW hP hK hD hN⟩ rfl hn hsize rfl (lv_room hW) hdg ⟨hcs.1, hcs.2⟩) hS (fun q _ h => hFc q h) hFc (fun r u t H1 locs ht hvm hw hB hz1 hk1 hS => ?_)
  obtain ⟨hP1, hK1, hD1⟩ := hB
  rw [ht] at hP1
  exact kk r u H1 locs hw hP1 (hD1.weaken (fun k q _ h => hFc q.1 h)) hS
theorem g_callVj {Q : Int64 → St → Prop} (C : CallFix p m c cc nL s args Ts own) (hK : va_K g vwCl tys s) (hN : xN s) (hA : ∀ q, s.heap.size ≤ q → A q) (hP : va_P g vwCl (w S) H) (hD : va_D A (w S)) (hS : va_S A s.heap H locs) (hM : Met l y ws rm (gPc g tys (w S) H.size (.ref b :: As)) (va_Ql Q (gB g tys w (va_A (w S) H.size)) (va_A (w S) H.size)) 0 0 (va_A (w S) H.size)) (cw : CallW R s args own Cc index y bytes maxL ret ws rm 0 0 nA) (hrecv : ∃ cell : Cell, H[b]? = some cell ∧ cell.vm.isStatics = false ∧ s.vm.findClass Cc = some cell.cls) (hn : As.length = nA) (hsize : ls.size = nL) (hst : st0 = As.reverse ++ .ref b :: rest) (hW : (rest.map fun v => v.category).sum ≤ 8) (hdg : decode cc pc = .ok (.invokevirtual index, 3)) (hcs : cells ≤ R.cells ∧ slots ≤ R.slots)
    (kk : ∀ (r : Int64) (S' : St) (H1 : Heap) (locs1 : List Loc), Q r S' → va_P g vwCl (w S') H1 → va_D A (w S') → va_S A s.heap H1 locs1 → W p l e R s m args below meth c H1 locs1 cells slots QQ (F0 m (pc + 3) ls (.long r :: rest))) : W p l e R s m args below meth c H locs cells slots QQ (F0 m pc ls st0) := by
  subst hst
  have hFc := g_free hD hS hA
  refine va_calll (va_runV (As := As) (rest := rest) C hM cw ⟨gPc_blind, hrecv, fun U hU hW => gPc_at hU hW hP hK hD hN⟩ rfl hn hsize rfl (lv_room hW) hdg ⟨hcs.1, hcs.2⟩) hS (fun q _ h => hFc q h) hFc (fun r u t H1 locs ht hvm hw hB hz1 hk1 hS => ?_)
  obtain ⟨hP1, hK1, hD1⟩ := hB
  rw [ht] at hP1
  exact kk r u H1 locs hw hP1 (hD1.weaken (fun k q _ h => hFc q.1 h)) hS
theorem g_callVv {Q : St → Prop} (C : CallFix p m c cc nL s args Ts own) (hK : va_K g vwCl tys s) (hN : xN s) (hA : ∀ q, s.heap.size ≤ q → A q) (hP : va_P g vwCl (w S) H) (hD : va_D A (w S)) (hS : va_S A s.heap H locs) (hM : Met l y ws rm (gPc g tys (w S) H.size (.ref b :: As)) (va_Qv Q (gB g tys w (va_A (w S) H.size)) (va_A (w S) H.size)) 0 0 (va_A (w S) H.size)) (cw : CallW R s args own Cc index y bytes maxL ret ws rm 0 0 nA) (hrecv : ∃ cell : Cell, H[b]? = some cell ∧ cell.vm.isStatics = false ∧ s.vm.findClass Cc = some cell.cls) (hn : As.length = nA) (hsize : ls.size = nL) (hst : st0 = As.reverse ++ .ref b :: rest) (hW : (rest.map fun v => v.category).sum ≤ 8) (hdg : decode cc pc = .ok (.invokevirtual index, 3)) (hcs : cells ≤ R.cells ∧ slots ≤ R.slots)
    (kk : ∀ (S' : St) (H1 : Heap) (locs1 : List Loc), Q S' → va_P g vwCl (w S') H1 → va_D A (w S') → va_S A s.heap H1 locs1 → W p l e R s m args below meth c H1 locs1 cells slots QQ (F0 m (pc + 3) ls rest)) : W p l e R s m args below meth c H locs cells slots QQ (F0 m pc ls st0) := by
  subst hst
  have hFc := g_free hD hS hA
  refine va_callv (va_runV (As := As) (rest := rest) C hM cw ⟨gPc_blind, hrecv, fun U hU hW => gPc_at hU hW hP hK hD hN⟩ rfl hn hsize rfl (lv_room hW) hdg ⟨hcs.1, hcs.2⟩) hS (fun q _ h => hFc q h) hFc (fun u t H1 locs ht hvm hw hB hz1 hk1 hS => ?_)
  obtain ⟨hP1, hK1, hD1⟩ := hB
  rw [ht] at hP1
  exact kk u H1 locs hw hP1 (hD1.weaken (fun k q _ h => hFc q.1 h)) hS
theorem g_callVr {Q : Nat → St → Prop} {ad : Nat → Nat} {bs bd : Nat} (C : CallFix p m c cc nL s args Ts own) (hK : va_K g vwCl tys s) (hN : xN s) (hA : ∀ q, s.heap.size ≤ q → A q) (hP : va_P g vwCl (w S) H) (hD : va_D A (w S)) (hS : va_S A s.heap H locs) (hM : Met l y ws rm (gPc g tys (w S) H.size (.ref b :: As)) (va_Qr (fun u : Nat × St => u.1 < bd ∧ Q u.1 u.2) (fun u a t => a = ad (bs + u.1) ∧ gB g tys w (va_A (w S) H.size) u.2 t) (va_A (w S) H.size)) 0 0 (va_A (w S) H.size)) (cw : CallW R s args own Cc index y bytes maxL ret ws rm 0 0 nA) (hrecv : ∃ cell : Cell, H[b]? = some cell ∧ cell.vm.isStatics = false ∧ s.vm.findClass Cc = some cell.cls) (hn : As.length = nA) (hsize : ls.size = nL) (hst : st0 = As.reverse ++ .ref b :: rest) (hW : (rest.map fun v => v.category).sum ≤ 8) (hdg : decode cc pc = .ok (.invokevirtual index, 3)) (hcs : cells ≤ R.cells ∧ slots ≤ R.slots)
    (kk : ∀ (r : Nat) (S' : St) (H1 : Heap) (locs1 : List Loc), r < bd → Q r S' → va_P g vwCl (w S') H1 → va_D A (w S') → va_S A s.heap H1 locs1 → W p l e R s m args below meth c H1 locs1 cells slots QQ (F0 m (pc + 3) ls (.ref (ad (bs + r)) :: rest))) : W p l e R s m args below meth c H locs cells slots QQ (F0 m pc ls st0) := by
  subst hst
  have hFc := g_free hD hS hA
  refine va_callr (va_runV (As := As) (rest := rest) C hM cw ⟨gPc_blind, hrecv, fun U hU hW => gPc_at hU hW hP hK hD hN⟩ rfl hn hsize rfl (lv_room hW) hdg ⟨hcs.1, hcs.2⟩) hS (fun q _ h => hFc q h) hFc (fun u ra t H1 locs ht hvm hw hB hz1 hk1 hS => ?_)
  obtain ⟨hra, hP1, hK1, hD1⟩ := hB
  rw [ht] at hP1
  subst hra
  exact kk u.1 u.2 H1 locs hw.1 hw.2 hP1 (hD1.weaken (fun k q _ h => hFc q.1 h)) hS
theorem g_kept {H1 : Heap} (hP : va_P g vwCl (w S) H) (hk : ∀ q : Nat, q < H.size → ¬ va_A (w0 S) H.size q → H1[q]? = H[q]?) : va_P g vwCl (w S) H1 := by
  refine hP.kept (fun k q hq => hk q.1 (hP k q hq).lt (fun h => ?_))
  rcases h with ⟨k2, e2, h⟩ | h
  · exact absurd h (by simp [w0])
  · exact Nat.not_le.mpr (hP k q hq).lt h
theorem w0_P {D : va_G} {cl : List vw_C} {H : Heap} : va_P D cl (w0 S) H := fun k q h => absurd h (by simp [w0])
theorem w0_D {B : Nat → Prop} : va_D B (w0 S) := ⟨fun i j p q h => absurd h (by simp [w0]), fun k q h => absurd h (by simp [w0])⟩
theorem g_callS {Q : Int32 → Prop} (C : CallFix p m c cc nL s args Ts own) (hK : va_K g vwCl tys s) (hN : xN s) (hA : ∀ q, s.heap.size ≤ q → A q) (hP : va_P g vwCl (w S) H) (hD : va_D A (w S)) (hS : va_S A s.heap H locs) (hM : Met l y ws rm (gPc g tys (w0 S) H.size As) (va_Qi (fun r _ => Q r) (gB g tys w0 (va_A (w0 S) H.size)) (va_A (w0 S) H.size)) 0 0 (va_A (w0 S) H.size)) (cw : CallB R s args own index y bytes maxL ret ws rm 0 0 nA ∧ (Cond.static y).before args s = true) (hn : As.length = nA) (hsize : ls.size = nL) (hst : st0 = As.reverse ++ rest) (hW : (rest.map fun v => v.category).sum ≤ 8) (hdg : decode cc pc = .ok (.invokestatic index, 3)) (hcs : cells ≤ R.cells ∧ slots ≤ R.slots)
    (kk : ∀ (r : Int32) (H1 : Heap) (locs1 : List Loc), Q r → va_P g vwCl (w S) H1 → va_D A (w S) → va_S A s.heap H1 locs1 → W p l e R s m args below meth c H1 locs1 cells slots QQ (F0 m (pc + 3) ls (.int r :: rest))) : W p l e R s m args below meth c H locs cells slots QQ (F0 m pc ls st0) := by
  subst hst
  have hFc : ∀ q, va_A (w0 S) H.size q → A q := g_free w0_D hS hA
  refine va_calli (va_runS (As := As) (rest := rest) C hM cw ⟨gPc_blind, fun U hU hW => gPc_at hU hW w0_P hK (w0_D (B := A)) hN⟩ rfl hn hsize rfl (lv_room hW) hdg ⟨hcs.1, hcs.2⟩) hS (fun q _ h => hFc q h) hFc (fun r u t H1 locs ht hvm hw hB hz1 hk1 hS => ?_)
  exact kk r H1 locs hw (g_kept hP hk1) hD hS
theorem g_callSN {Q : Int32 → Prop} {host : String} (C : CallFix p m c cc nL s args Ts own) (hK : va_K g vwCl tys s) (hN : xN s) (hA : ∀ q, s.heap.size ≤ q → A q) (hP : va_P g vwCl (w S) H) (hD : va_D A (w S)) (hS : va_S A s.heap H locs) (hM : Met l y ws rm (gPc g tys (w0 S) H.size As) (va_Qi (fun r _ => Q r) (gB g tys w0 (va_A (w0 S) H.size)) (va_A (w0 S) H.size)) 0 0 (va_A (w0 S) H.size)) (cw : va_CN R s args own index y host bytes maxL ret ws rm 0 0 nA ∧ (Cond.static y).before args s = true ∧ True) (hn : As.length = nA) (hsize : ls.size = nL) (hst : st0 = As.reverse ++ rest) (hW : (rest.map fun v => v.category).sum ≤ 8) (hdg : decode cc pc = .ok (.invokestatic index, 3)) (hcs : cells ≤ R.cells ∧ slots ≤ R.slots)
    (kk : ∀ (r : Int32) (H1 : Heap) (locs1 : List Loc), Q r → va_P g vwCl (w S) H1 → va_D A (w S) → va_S A s.heap H1 locs1 → W p l e R s m args below meth c H1 locs1 cells slots QQ (F0 m (pc + 3) ls (.int r :: rest))) : W p l e R s m args below meth c H locs cells slots QQ (F0 m pc ls st0) := by
  subst hst
  have hFc : ∀ q, va_A (w0 S) H.size q → A q := g_free w0_D hS hA
  refine va_calli (va_runSN (As := As) (rest := rest) C hM cw ⟨gPc_blind, fun U hU hW => gPc_at hU hW w0_P hK (w0_D (B := A)) hN⟩ rfl hn hsize rfl (lv_room hW) hdg ⟨hcs.1, hcs.2⟩) hS (fun q _ h => hFc q h) hFc (fun r u t H1 locs ht hvm hw hB hz1 hk1 hS => ?_)
  exact kk r H1 locs hw (g_kept hP hk1) hD hS
theorem g_callSv {Q : St → Prop} (C : CallFix p m c cc nL s args Ts own) (hK : va_K g vwCl tys s) (hN : xN s) (hA : ∀ q, s.heap.size ≤ q → A q) (hP : va_P g vwCl (w S) H) (hD : va_D A (w S)) (hS : va_S A s.heap H locs) (hM : Met l y ws rm (gPc g tys (w S) H.size As) (va_Qv Q (gB g tys w (va_A (w S) H.size)) (va_A (w S) H.size)) 0 0 (va_A (w S) H.size)) (cw : CallB R s args own index y bytes maxL ret ws rm 0 0 nA ∧ (Cond.static y).before args s = true) (hn : As.length = nA) (hsize : ls.size = nL) (hst : st0 = As.reverse ++ rest) (hW : (rest.map fun v => v.category).sum ≤ 8) (hdg : decode cc pc = .ok (.invokestatic index, 3)) (hcs : cells ≤ R.cells ∧ slots ≤ R.slots)
    (kk : ∀ (S' : St) (H1 : Heap) (locs1 : List Loc), Q S' → va_P g vwCl (w S') H1 → va_D A (w S') → va_S A s.heap H1 locs1 → W p l e R s m args below meth c H1 locs1 cells slots QQ (F0 m (pc + 3) ls rest)) : W p l e R s m args below meth c H locs cells slots QQ (F0 m pc ls st0) := by
  subst hst
  have hFc := g_free hD hS hA
  refine va_callv (va_runS (As := As) (rest := rest) C hM cw ⟨gPc_blind, fun U hU hW => gPc_at hU hW hP hK hD hN⟩ rfl hn hsize rfl (lv_room hW) hdg ⟨hcs.1, hcs.2⟩) hS (fun q _ h => hFc q h) hFc (fun u t H1 locs ht hvm hw hB hz1 hk1 hS => ?_)
  obtain ⟨hP1, hK1, hD1⟩ := hB
  rw [ht] at hP1
  exact kk u H1 locs hw hP1 (hD1.weaken (fun k q _ h => hFc q.1 h)) hS
end GC
/-! methods behind which the row of outcomes may have grown, from n0 to n2 places -/
def gBg (g : va_G) (ct : Nat → ClassId) (ad : Nat → Nat) (n : Nat) (A : Nat → Prop) : St → State → Prop := fun S t => ∃ ro : Nat, gB g (xT ct) (wX ct ad n ro) A S t
section GG
variable {l : Launch} {y : MethodName} {ws ws' : List Cond} {rm : Room} {cc : ByteArray} {maxL : Nat} {own : String} {av : List Value} {lv : List (Nat × Value)} {g : va_G} {ct : Nat → ClassId} {ad : Nat → Nat} {n0 n2 ro : Nat} {S : St} {sz : Nat}
theorem g_metVg {Q : St → Prop} (hn : n0 ≤ n2) (hrc : rm.cells = n2 - n0) (hrs : rm.slots = 2 * (n2 - n0)) (hy : plainName y.cls = true) (hw : ws = Cond.code y cc maxL (none) :: ws') (hown : y.cls = own) (hlen : (lg_sl av).length ≤ maxL) (hlv : lv_args 0 av = lv)
    (core : ∀ (p : Program) (e : Env) (s : State) (m : MethodId) (args : Array Value) (below : List Frame) (meth : Method) (c : Code) (QQ : State → Prop) (A : Nat → Prop), CallFix p m c cc maxL s args ws own → va_K g vwCl (xT ct) s → xN s → (∀ q, s.heap.size ≤ q → A q) → (∀ (pc : Nat) (S : St) (ro : Nat) (H : Heap) (locs : List Loc) (ls : Array Slot) (cells slots : Nat), decode cc pc = .ok (.return_, 1) → Q S → va_P g vwCl (wX ct ad n2 ro S) H → va_D A (wX ct ad n2 ro S) → va_S A s.heap H locs → cells + n0 = n2 ∧ slots + 2 * n0 = 2 * n2 ∧ n2 ≤ n2 → W p l e rm s m args below meth c H locs cells slots QQ (F0 m pc ls [])) → ∀ (H : Heap) (locs : List Loc) (ls : Array Slot), va_P g vwCl (wX ct ad n0 ro S) H → va_D A (wX ct ad n0 ro S) → va_S A s.heap H locs → lv_has ls maxL lv → W p l e rm s m args below meth c H locs 0 0 QQ (F0 m 0 ls [])) :
    Met l y ws rm (gPc g (xT ct) (wX ct ad n0 ro S) sz av) (va_Qv Q (gBg g ct ad n2 (va_A (wX ct ad n0 ro S) sz)) (va_A (wX ct ad n0 ro S) sz)) (n2 - n0) (2 * (n2 - n0)) (va_A (wX ct ad n0 ro S) sz) := by
  refine Met.ofW (cc := cc) (maxL := maxL) (ret := none) hy hw ?_
  intro p e s m args below meth c s₁ B hml hv
  obtain ⟨rfl, hsz, hP, hK, hD0, hN⟩ := hv
  have hts := atoms_spec (ws := ws) B.pre
  have hown' : s.vm.findClass own = some m.cls := by rw [← hown]; exact findClass_of_methodNamed B.named
  have hr := B.returns
  have hlocks := B.notSynchronized
  subst hsz
  have hl := lv_entry av (n := maxL) hlen
  rw [lg_entry_eq]
  generalize (lg_sl av ++ List.replicate (maxL - (lg_sl av).length) Slot.unset).toArray = ls at hl ⊢
  rw [hlv] at hl
  refine core p e s m _ below meth c _ (va_A (wX ct ad n0 ro S) s.heap.size) ⟨B.exec, B.bytes, hml, hown', hts⟩ hK hN (fun q h => Or.inr h) (fun pc S' ro' H locs ls cells slots hdg hq hP hD hS hc => ?_) s.heap [] ls hP hD0.self va_S.rf hl
  have ec : cells = n2 - n0 := by omega
  have es : slots = 2 * (n2 - n0) := by omega
  subst ec
  subst es
  exact W.vret B.exec B.bytes hr (fun t ht hW => ⟨⟨S', rfl, hq, ro', by rw [ht]; exact hP, va_K.moved hW.alike hK, hD⟩, hS.F ht⟩) hS.2.2 hdg
theorem g_metIg {Q : Int32 → St → Prop} (hn : n0 ≤ n2) (hrc : rm.cells = n2 - n0) (hrs : rm.slots = 2 * (n2 - n0)) (hy : plainName y.cls = true) (hw : ws = Cond.code y cc maxL (some .int) :: ws') (hown : y.cls = own) (hlen : (lg_sl av).length ≤ maxL) (hlv : lv_args 0 av = lv)
    (core : ∀ (p : Program) (e : Env) (s : State) (m : MethodId) (args : Array Value) (below : List Frame) (meth : Method) (c : Code) (QQ : State → Prop) (A : Nat → Prop), CallFix p m c cc maxL s args ws own → va_K g vwCl (xT ct) s → xN s → (∀ q, s.heap.size ≤ q → A q) → (∀ (pc : Nat) (r : Int32) (S : St) (ro : Nat) (H : Heap) (locs : List Loc) (ls : Array Slot) (cells slots : Nat), decode cc pc = .ok (.ireturn, 1) → Q r S → va_P g vwCl (wX ct ad n2 ro S) H → va_D A (wX ct ad n2 ro S) → va_S A s.heap H locs → cells + n0 = n2 ∧ slots + 2 * n0 = 2 * n2 ∧ n2 ≤ n2 → W p l e rm s m args below meth c H locs cells slots QQ (F0 m pc ls [.int r])) → ∀ (H : Heap) (locs : List Loc) (ls : Array Slot), va_P g vwCl (wX ct ad n0 ro S) H → va_D A (wX ct ad n0 ro S) → va_S A s.heap H locs → lv_has ls maxL lv → W p l e rm s m args below meth c H locs 0 0 QQ (F0 m 0 ls [])) :
    Met l y ws rm (gPc g (xT ct) (wX ct ad n0 ro S) sz av) (va_Qi Q (gBg g ct ad n2 (va_A (wX ct ad n0 ro S) sz)) (va_A (wX ct ad n0 ro S) sz)) (n2 - n0) (2 * (n2 - n0)) (va_A (wX ct ad n0 ro S) sz) := by
  refine Met.ofW (cc := cc) (maxL := maxL) (ret := some .int) hy hw ?_
  intro p e s m args below meth c s₁ B hml hv
  obtain ⟨rfl, hsz, hP, hK, hD0, hN⟩ := hv
  have hts := atoms_spec (ws := ws) B.pre
  have hown' : s.vm.findClass own = some m.cls := by rw [← hown]; exact findClass_of_methodNamed B.named
  have hr := B.returns
  have hlocks := B.notSynchronized
  subst hsz
  have hl := lv_entry av (n := maxL) hlen
  rw [lg_entry_eq]
  generalize (lg_sl av ++ List.replicate (maxL - (lg_sl av).length) Slot.unset).toArray = ls at hl ⊢
  rw [hlv] at hl
  refine core p e s m _ below meth c _ (va_A (wX ct ad n0 ro S) s.heap.size) ⟨B.exec, B.bytes, hml, hown', hts⟩ hK hN (fun q h => Or.inr h) (fun pc r S' ro' H locs ls cells slots hdg hq hP hD hS hc => ?_) s.heap [] ls hP hD0.self va_S.rf hl
  have ec : cells = n2 - n0 := by omega
  have es : slots = 2 * (n2 - n0) := by omega
  subst ec
  subst es
  exact W.iret (v := r) B.exec B.bytes hr (fun t ht hW => ⟨⟨r, S', rfl, hq, ro', by rw [ht]; exact hP, va_K.moved hW.alike hK, hD⟩, hS.F ht⟩) hS.2.2 hdg
theorem g_metZg {Q : Int32 → St → Prop} (hn : n0 ≤ n2) (hrc : rm.cells = n2 - n0) (hrs : rm.slots = 2 * (n2 - n0)) (hy : plainName y.cls = true) (hw : ws = Cond.code y cc maxL (some .boolean) :: ws') (hown : y.cls = own) (hlen : (lg_sl av).length ≤ maxL) (hlv : lv_args 0 av = lv)
    (core : ∀ (p : Program) (e : Env) (s : State) (m : MethodId) (args : Array Value) (below : List Frame) (meth : Method) (c : Code) (QQ : State → Prop) (A : Nat → Prop), CallFix p m c cc maxL s args ws own → va_K g vwCl (xT ct) s → xN s → (∀ q, s.heap.size ≤ q → A q) → (∀ (pc : Nat) (r : Int32) (S : St) (ro : Nat) (H : Heap) (locs : List Loc) (ls : Array Slot) (cells slots : Nat), decode cc pc = .ok (.ireturn, 1) → zb r → Q r S → va_P g vwCl (wX ct ad n2 ro S) H → va_D A (wX ct ad n2 ro S) → va_S A s.heap H locs → cells + n0 = n2 ∧ slots + 2 * n0 = 2 * n2 ∧ n2 ≤ n2 → W p l e rm s m args below meth c H locs cells slots QQ (F0 m pc ls [.int r])) → ∀ (H : Heap) (locs : List Loc) (ls : Array Slot), va_P g vwCl (wX ct ad n0 ro S) H → va_D A (wX ct ad n0 ro S) → va_S A s.heap H locs → lv_has ls maxL lv → W p l e rm s m args below meth c H locs 0 0 QQ (F0 m 0 ls [])) :
    Met l y ws rm (gPc g (xT ct) (wX ct ad n0 ro S) sz av) (va_Qi Q (gBg g ct ad n2 (va_A (wX ct ad n0 ro S) sz)) (va_A (wX ct ad n0 ro S) sz)) (n2 - n0) (2 * (n2 - n0)) (va_A (wX ct ad n0 ro S) sz) := by
  refine Met.ofW (cc := cc) (maxL := maxL) (ret := some .boolean) hy hw ?_
  intro p e s m args below meth c s₁ B hml hv
  obtain ⟨rfl, hsz, hP, hK, hD0, hN⟩ := hv
  have hts := atoms_spec (ws := ws) B.pre
  have hown' : s.vm.findClass own = some m.cls := by rw [← hown]; exact findClass_of_methodNamed B.named
  have hr := B.returns
  have hlocks := B.notSynchronized
  subst hsz
  have hl := lv_entry av (n := maxL) hlen
  rw [lg_entry_eq]
  generalize (lg_sl av ++ List.replicate (maxL - (lg_sl av).length) Slot.unset).toArray = ls at hl ⊢
  rw [hlv] at hl
  refine core p e s m _ below meth c _ (va_A (wX ct ad n0 ro S) s.heap.size) ⟨B.exec, B.bytes, hml, hown', hts⟩ hK hN (fun q h => Or.inr h) (fun pc r S' ro' H locs ls cells slots hdg hz hq hP hD hS hc => ?_) s.heap [] ls hP hD0.self va_S.rf hl
  have ec : cells = n2 - n0 := by omega
  have es : slots = 2 * (n2 - n0) := by omega
  subst ec
  subst es
  exact W.zret (v := r) B.exec B.bytes hr (zb_n hz) (fun t ht hW => ⟨⟨r, S', rfl, hq, ro', by rw [ht]; exact hP, va_K.moved hW.alike hK, hD⟩, hS.F ht⟩) hS.2.2 hdg
end GG
section GGC
variable {p : Program} {l : Launch} {e : Env} {R : Room} {s : State} {m : MethodId} {args : Array Value} {below : List Frame} {meth : Method} {c : Code} {H : Heap} {locs : List Loc} {cells slots : Nat} {QQ : State → Prop} {cc : ByteArray} {nL : Nat} {own : String} {Ts : List Cond} {pc : Nat} {ls : Array Slot} {st0 rest As : List Value} {g : va_G} {ct : Nat → ClassId} {ad : Nat → Nat} {n n1 ro : Nat} {A : Nat → Prop} {S : St} {y : MethodName} {ws : List Cond} {rm : Room} {bytes : ByteArray} {maxL index nA b : Nat} {ret : Option FieldType} {Cc : String}
theorem g_callVvg {Q : St → Prop} (C : CallFix p m c cc nL s args Ts own) (hK : va_K g vwCl (xT ct) s) (hN : xN s) (hA : ∀ q, s.heap.size ≤ q → A q) (hP : va_P g vwCl (wX ct ad n ro S) H) (hD : va_D A (wX ct ad n ro S)) (hS : va_S A s.heap H locs) (hM : Met l y ws rm (gPc g (xT ct) (wX ct ad n ro S) H.size (.ref b :: As)) (va_Qv Q (gBg g ct ad n1 (va_A (wX ct ad n ro S) H.size)) (va_A (wX ct ad n ro S) H.size)) (n1 - n) (2 * (n1 - n)) (va_A (wX ct ad n ro S) H.size)) (cw : CallW R s args own Cc index y bytes maxL ret ws rm (n1 - n) (2 * (n1 - n)) nA) (hrecv : ∃ cell : Cell, H[b]? = some cell ∧ cell.vm.isStatics = false ∧ s.vm.findClass Cc = some cell.cls) (hn : As.length = nA) (hsize : ls.size = nL) (hst : st0 = As.reverse ++ .ref b :: rest) (hW : (rest.map fun v => v.category).sum ≤ 8) (hdg : decode cc pc = .ok (.invokevirtual index, 3)) (hcs : cells + (n1 - n) ≤ R.cells ∧ slots + 2 * (n1 - n) ≤ R.slots)
    (kk : ∀ (S' : St) (ro : Nat) (H1 : Heap) (locs1 : List Loc) (cells1 slots1 : Nat), cells1 = cells + (n1 - n) → slots1 = slots + 2 * (n1 - n) → Q S' → va_P g vwCl (wX ct ad n1 ro S') H1 → va_D A (wX ct ad n1 ro S') → va_S A s.heap H1 locs1 → W p l e R s m args below meth c H1 locs1 cells1 slots1 QQ (F0 m (pc + 3) ls rest)) : W p l e R s m args below meth c H locs cells slots QQ (F0 m pc ls st0) := by
  subst hst
  have hFc := g_free hD hS hA
  refine va_callv (va_runV (As := As) (rest := rest) C hM cw ⟨gPc_blind, hrecv, fun U hU hW => gPc_at hU hW hP hK hD hN⟩ rfl hn hsize rfl (lv_room hW) hdg ⟨hcs.1, hcs.2⟩) hS (fun q _ h => hFc q h) hFc (fun u t H1 locs ht hvm hw hB hz1 hk1 hS => ?_)
  obtain ⟨ro', hP1, hK1, hD1⟩ := hB
  rw [ht] at hP1
  exact kk u ro' H1 locs _ _ rfl rfl hw hP1 (hD1.weaken (fun k q _ h => hFc q.1 h)) hS
theorem g_callVig {Q : Int32 → St → Prop} (C : CallFix p m c cc nL s args Ts own) (hK : va_K g vwCl (xT ct) s) (hN : xN s) (hA : ∀ q, s.heap.size ≤ q → A q) (hP : va_P g vwCl (wX ct ad n ro S) H) (hD : va_D A (wX ct ad n ro S)) (hS : va_S A s.heap H locs) (hM : Met l y ws rm (gPc g (xT ct) (wX ct ad n ro S) H.size (.ref b :: As)) (va_Qi Q (gBg g ct ad n1 (va_A (wX ct ad n ro S) H.size)) (va_A (wX ct ad n ro S) H.size)) (n1 - n) (2 * (n1 - n)) (va_A (wX ct ad n ro S) H.size)) (cw : CallW R s args own Cc index y bytes maxL ret ws rm (n1 - n) (2 * (n1 - n)) nA) (hrecv : ∃ cell : Cell, H[b]? = some cell ∧ cell.vm.isStatics = false ∧ s.vm.findClass Cc = some cell.cls) (hn : As.length = nA) (hsize : ls.size = nL) (hst : st0 = As.reverse ++ .ref b :: rest) (hW : (rest.map fun v => v.category).sum ≤ 8) (hdg : decode cc pc = .ok (.invokevirtual index, 3)) (hcs : cells + (n1 - n) ≤ R.cells ∧ slots + 2 * (n1 - n) ≤ R.slots)
    (kk : ∀ (r : Int32) (S' : St) (ro : Nat) (H1 : Heap) (locs1 : List Loc) (cells1 slots1 : Nat), cells1 = cells + (n1 - n) → slots1 = slots + 2 * (n1 - n) → Q r S' → va_P g vwCl (wX ct ad n1 ro S') H1 → va_D A (wX ct ad n1 ro S') → va_S A s.heap H1 locs1 → W p l e R s m args below meth c H1 locs1 cells1 slots1 QQ (F0 m (pc + 3) ls (.int r :: rest))) : W p l e R s m args below meth c H locs cells slots QQ (F0 m pc ls st0) := by
  subst hst
  have hFc := g_free hD hS hA
  refine va_calli (va_runV (As := As) (rest := rest) C hM cw ⟨gPc_blind, hrecv, fun U hU hW => gPc_at hU hW hP hK hD hN⟩ rfl hn hsize rfl (lv_room hW) hdg ⟨hcs.1, hcs.2⟩) hS (fun q _ h => hFc q h) hFc (fun r u t H1 locs ht hvm hw hB hz1 hk1 hS => ?_)
  obtain ⟨ro', hP1, hK1, hD1⟩ := hB
  rw [ht] at hP1
  exact kk r u ro' H1 locs _ _ rfl rfl hw hP1 (hD1.weaken (fun k q _ h => hFc q.1 h)) hS
end GGC
abbrev TE : Type := Int32 → Int32 → Nat → Nat → St → (St → Prop) → Prop
def HE (l : Launch) (g : va_G) (ct : Nat → ClassId) (ad : Nat → Nat) (d : Nat) (E : TE) : Prop := ∀ (sz n0 n2 ro : Nat) (S : St) (x1 x2 : Int32) (Q : St → Prop), n0 ≤ n2 → E x1 x2 n0 n2 S Q → Met l yX2_extend wsX2_extend ({ frames := 10 + 2 * d, cells := n2 - n0, slots := 2 * (n2 - n0), locals := 400 + 49 * d }) (gPc g (xT ct) (wX ct ad n0 ro S) sz [.ref (ad 12), .int x1, .int x2]) (va_Qv Q (gBg g ct ad n2 (va_A (wX ct ad n0 ro S) sz)) (va_A (wX ct ad n0 ro S) sz)) (n2 - n0) (2 * (n2 - n0)) (va_A (wX ct ad n0 ro S) sz)
end
section
def bX2_isIn_13 (Q : Int32 → Prop) (t0 : Int32) : Prop :=
  (zb t0 ∧ Q t0)
def pX2_isIn (x0 : Int32) (x1 : Int32) (Q : Int32 → Prop) : Prop :=
  ((((x0 >>> (x1 &&& 31)) &&& (1 : Int32)) = 0 → bX2_isIn_13 Q (0 : Int32)) ∧ (¬ (((x0 >>> (x1 &&& 31)) &&& (1 : Int32)) = 0) → bX2_isIn_13 Q (1 : Int32)))
set_option maxHeartbeats 40000000 in
set_option maxRecDepth 100000 in
theorem kX2_isIn {p : Program} {l : Launch} {e : Env} {R : Room} {s : State} {m : MethodId} {args : Array Value} {below : List Frame} {meth : Method} {c : Code} {QQ : State → Prop} {g : va_G} {tys : List (ClassId × FieldType)} {A : Nat → Prop} (C : CallFix p m c cX2_isIn 2 s args wsX2_isIn RX2) (hK : va_K g vwCl (tys) s) (hN : xN s) (hA : ∀ q, s.heap.size ≤ q → A q) (hRf : 0 ≤ R.frames) (hRl : 0 ≤ R.locals) (Q : Int32 → Prop) (hret : ∀ (pc : Nat) (r : Int32) (S : St) (H : Heap) (locs : List Loc) (ls : Array Slot), decode cX2_isIn pc = .ok (.ireturn, 1) → zb r → Q r → va_P g vwCl (w0 S) H → va_D A (w0 S) → va_S A s.heap H locs → W p l e R s m args below meth c H locs 0 0 QQ (F0 m pc ls [.int r])) (x0 : Int32) (x1 : Int32) (S : St) (h : pX2_isIn x0 x1 Q) (H : Heap) (locs : List Loc) (ls : Array Slot) (hP : va_P g vwCl (w0 S) H) (hD : va_D A (w0 S)) (hS : va_S A s.heap H locs) (hl : lv_has ls 2 [(0, .int x0), (1, .int x1)]) : W p l e R s m args below meth c H locs 0 0 QQ (F0 m 0 ls []) := by
  have B13 : ∀ (t0 : Int32) (S : St) (H : Heap) (locs : List Loc) (ls : Array Slot), bX2_isIn_13 Q t0 → va_P g vwCl (w0 S) H → va_D A (w0 S) → va_S A s.heap H locs → lv_has ls 2 [] → W p l e R s m args below meth c H locs 0 0 QQ (F0 m 13 ls [.int t0]) := by
    intro t0 S H locs ls h hP hD hS hl
    exact hret _ _ _ _ _ _ dX2_isIn_13 h.1 h.2 hP hD hS
  refine lv_iload_n C.1 C.2.1 dX2_isIn_0 rfl (lv_at hl 0 rfl) ?_
  refine lv_iload_n C.1 C.2.1 dX2_isIn_1 rfl (lv_at hl 1 rfl) ?_
  refine lv_ishr C.1 C.2.1 dX2_isIn_2 ?_
  refine lv_iconst (v := 1) C.1 C.2.1 dX2_isIn_3 (by decide) ?_
  refine lv_iand C.1 C.2.1 dX2_isIn_4 ?_
  refine lv_if_eq (tgt := 12) C.1 C.2.1 dX2_isIn_5 (by decide) (fun c1 => ?_) (fun c1 => ?_)
  · have h := h.1 c1
    refine lv_iconst (v := 0) C.1 C.2.1 dX2_isIn_12 (by decide) ?_
    exact B13 (0 : Int32) S H locs ls h hP hD hS (lv_sub hl [] rfl)
  · have h := h.2 c1
    refine lv_iconst (v := 1) C.1 C.2.1 dX2_isIn_8 (by decide) ?_
    refine lv_goto (tgt := 13) C.1 C.2.1 dX2_isIn_9 (by decide) ?_
    exact B13 (1 : Int32) S H locs ls h hP hD hS (lv_sub hl [] rfl)
theorem mX2_isIn (l : Launch) (g : va_G) (tys : List (ClassId × FieldType)) (S : St) (sz : Nat) (x0 : Int32) (x1 : Int32) (Q : Int32 → Prop) (h : pX2_isIn x0 x1 Q) : Met l yX2_isIn wsX2_isIn ({ frames := 0, cells := 0, slots := 0, locals := 0 }) (gPc g (tys) (w0 S) sz [.int x0, .int x1]) (va_Qi (fun r _ => Q r) (gB g (tys) (w0) (va_A (w0 S) sz)) (va_A (w0 S) sz)) 0 0 (va_A (w0 S) sz) :=
  g_metZ (w := w0) (Q := fun r _ => Q r) (cc := cX2_isIn) (maxL := 2) (by decide) rfl rfl (by decide) rfl (fun p e s m args below meth c QQ A C hK hN hA hret H locs ls hP hD hS hl => kX2_isIn C hK hN hA (Nat.le_refl _) (Nat.le_refl _) Q hret x0 x1 S h H locs ls hP hD hS hl)

def bX1_choose_42 (Q : Int32 → St → Prop) (S : St) : Prop :=
  (∀ y1 : Int32, y1 = (S.1 5 0) → (∀ S2 : St, S2 = wr S 5 0 (y1 + (1 : Int32)) → (vp_in y1 6 ∧ Q (S2.1 22 (Int32.toNatClampNeg y1)) S2)))
def pX1_choose (x1 : Int32) (S : St) (Q : Int32 → St → Prop) : Prop :=
  (((S.1 5 0) < (6 : Int32) → (((S.1 5 0) < (S.1 6 0) → bX1_choose_42 Q  S) ∧ (¬ ((S.1 5 0) < (S.1 6 0)) → (vp_in (S.1 5 0) 6 ∧ ∀ S4 : St, S4 = wr S 22 (Int32.toNatClampNeg (S.1 5 0)) (0 : Int32) → (vp_in (S4.1 5 0) 6 ∧ ∀ S6 : St, S6 = wr S4 23 (Int32.toNatClampNeg (S4.1 5 0)) x1 → bX1_choose_42 Q  S6))))) ∧ (¬ ((S.1 5 0) < (6 : Int32)) → Q (0 : Int32) S))
set_option maxHeartbeats 40000000 in
set_option maxRecDepth 100000 in
theorem kX1_choose {p : Program} {l : Launch} {e : Env} {R : Room} {s : State} {m : MethodId} {args : Array Value} {below : List Frame} {meth : Method} {c : Code} {QQ : State → Prop} {g : va_G} {ct : Nat → ClassId} {ad : Nat → Nat} {n ro : Nat} {A : Nat → Prop} (C : CallFix p m c cX1_choose 2 s args wsX1_choose RX1) (hK : va_K g vwCl (xT ct) s) (hN : xN s) (hA : ∀ q, s.heap.size ≤ q → A q) (hRf : 0 ≤ R.frames) (hRl : 0 ≤ R.locals) (Q : Int32 → St → Prop) (hret : ∀ (pc : Nat) (r : Int32) (S : St) (H : Heap) (locs : List Loc) (ls : Array Slot), decode cX1_choose pc = .ok (.ireturn, 1) → Q r S → va_P g vwCl (wX ct ad n ro S) H → va_D A (wX ct ad n ro S) → va_S A s.heap H locs → W p l e R s m args below meth c H locs 0 0 QQ (F0 m pc ls [.int r])) (x1 : Int32) (S : St) (h : pX1_choose x1 S Q) (H : Heap) (locs : List Loc) (ls : Array Slot) (hP : va_P g vwCl (wX ct ad n ro S) H) (hD : va_D A (wX ct ad n ro S)) (hS : va_S A s.heap H locs) (hl : lv_has ls 2 [(0, .ref (ad 5)), (1, .int x1)]) : W p l e R s m args below meth c H locs 0 0 QQ (F0 m 0 ls []) := by
  have hinX1 : ∀ w ∈ wsX10, w ∈ wsX1_choose := by decide +kernel
  have B42 : ∀ (S : St) (H : Heap) (locs : List Loc) (ls : Array Slot), bX1_choose_42 Q S → va_P g vwCl (wX ct ad n ro S) H → va_D A (wX ct ad n ro S) → va_S A s.heap H locs → lv_has ls 2 [(0, .ref (ad 5))] → W p l e R s m args below meth c H locs 0 0 QQ (F0 m 42 ls []) := by
    intro S H locs ls h hP hD hS hl
    refine lv_aload_n C.1 C.2.1 dX1_choose_42 rfl (lv_at hl 0 rfl) ?_
    refine xg1_chosen C hinX1 hK hP (by decide +kernel) dX1_choose_43 ?_
    refine lv_aload_n C.1 C.2.1 dX1_choose_46 rfl (lv_at hl 0 rfl) ?_
    refine lv_dup C.1 C.2.1 dX1_choose_47 rfl ?_
    refine xg1_made C hinX1 hK hP (by decide +kernel) dX1_choose_48 ?_
    refine lv_topi (fun y1 ey1 => ?_)
    have h := h y1 ey1
    refine lv_dup_x1 C.1 C.2.1 dX1_choose_51 rfl rfl ?_
    refine lv_iconst (v := 1) C.1 C.2.1 dX1_choose_52 (by decide) ?_
    refine lv_iadd C.1 C.2.1 dX1_choose_53 ?_
    obtain ⟨S2, eS2⟩ : ∃ z : St, z = wr S 5 0 (y1 + (1 : Int32)) := ⟨_, rfl⟩
    have h := h S2 eS2
    refine xp1_made C hinX1 hK hP hD hS (by decide +kernel) dX1_choose_54 (fun H locs hP hD hS => ?_)
    rw [← eS2] at hP hD
    obtain ⟨g3, h⟩ := h
    refine xa_1_chosen C hK hP g3  rfl dX1_choose_57 ?_
    exact hret _ _ _ _ _ _ dX1_choose_58 h hP hD hS
  refine lv_aload_n C.1 C.2.1 dX1_choose_0 rfl (lv_at hl 0 rfl) ?_
  refine xg1_made C hinX1 hK hP (by decide +kernel) dX1_choose_1 ?_
  refine lv_bipush (v := 6) C.1 C.2.1 dX1_choose_4 (by decide) ?_
  refine lv_icmp_lt (tgt := 11) C.1 C.2.1 dX1_choose_6 (by decide) (fun c9 => ?_) (fun c9 => ?_)
  · have h := h.1 c9
    refine lv_aload_n C.1 C.2.1 dX1_choose_11 rfl (lv_at hl 0 rfl) ?_
    refine xg1_made C hinX1 hK hP (by decide +kernel) dX1_choose_12 ?_
    refine lv_aload_n C.1 C.2.1 dX1_choose_15 rfl (lv_at hl 0 rfl) ?_
    refine xg1_kept C hinX1 hK hP (by decide +kernel) dX1_choose_16 ?_
    refine lv_icmp_lt (tgt := 42) C.1 C.2.1 dX1_choose_19 (by decide) (fun c8 => ?_) (fun c8 => ?_)
    · have h := h.1 c8
      exact B42  S H locs ls h hP hD hS (lv_sub hl [0] rfl)
    · have h := h.2 c8
      refine lv_aload_n C.1 C.2.1 dX1_choose_22 rfl (lv_at hl 0 rfl) ?_
      refine xg1_chosen C hinX1 hK hP (by decide +kernel) dX1_choose_23 ?_
      refine lv_aload_n C.1 C.2.1 dX1_choose_26 rfl (lv_at hl 0 rfl) ?_
      refine xg1_made C hinX1 hK hP (by decide +kernel) dX1_choose_27 ?_
      refine lv_iconst (v := 0) C.1 C.2.1 dX1_choose_30 (by decide) ?_
      obtain ⟨g5, h⟩ := h
      obtain ⟨S4, eS4⟩ : ∃ z : St, z = wr S 22 (Int32.toNatClampNeg (S.1 5 0)) (0 : Int32) := ⟨_, rfl⟩
      have h := h S4 eS4
      refine xs_1_chosen C hK hP hD hS  g5 rfl dX1_choose_31 (fun H locs hP hD hS => ?_)
      rw [← eS4] at hP hD
      refine lv_aload_n C.1 C.2.1 dX1_choose_32 rfl (lv_at hl 0 rfl) ?_
      refine xg1_limits C hinX1 hK hP (by decide +kernel) dX1_choose_33 ?_
      refine lv_aload_n C.1 C.2.1 dX1_choose_36 rfl (lv_at hl 0 rfl) ?_
      refine xg1_made C hinX1 hK hP (by decide +kernel) dX1_choose_37 ?_
      refine lv_iload_n C.1 C.2.1 dX1_choose_40 rfl (lv_at hl 1 rfl) ?_
      obtain ⟨g7, h⟩ := h
      obtain ⟨S6, eS6⟩ : ∃ z : St, z = wr S4 23 (Int32.toNatClampNeg (S4.1 5 0)) x1 := ⟨_, rfl⟩
      have h := h S6 eS6
      refine xs_1_limits C hK hP hD hS  g7 rfl dX1_choose_41 (fun H locs hP hD hS => ?_)
      rw [← eS6] at hP hD
      exact B42  S6 H locs ls h hP hD hS (lv_sub hl [0] rfl)
  · have h := h.2 c9
    refine lv_iconst (v := 0) C.1 C.2.1 dX1_choose_9 (by decide) ?_
    exact hret _ _ _ _ _ _ dX1_choose_10 h hP hD hS
theorem mX1_choose (l : Launch) (g : va_G) (ct : Nat → ClassId) (ad : Nat → Nat) (n ro sz : Nat) (S : St) (x1 : Int32) (Q : Int32 → St → Prop) (h : pX1_choose x1 S Q) : Met l yX1_choose wsX1_choose ({ frames := 0, cells := 0, slots := 0, locals := 0 }) (gPc g (xT ct) (wX ct ad n ro S) sz [.ref (ad 5), .int x1]) (va_Qi Q (gB g (xT ct) (wX ct ad n ro) (va_A (wX ct ad n ro S) sz)) (va_A (wX ct ad n ro S) sz)) 0 0 (va_A (wX ct ad n ro S) sz) :=
  g_metI (w := wX ct ad n ro) (cc := cX1_choose) (maxL := 2) (by decide) rfl rfl (by decide) rfl (fun p e s m args below meth c QQ A C hK hN hA hret H locs ls hP hD hS hl => kX1_choose C hK hN hA (Nat.le_refl _) (Nat.le_refl _) Q hret x1 S h H locs ls hP hD hS hl)

def bX1_advance_69 (Q : Int32 → St → Prop) (t0 : Int32) (S : St) : Prop :=
  (zb t0 ∧ Q t0 S)
def bX1_advance_48 (Q : Int32 → St → Prop) (x1 : Int32) (S : St) : Prop :=
  (∀ S1 : St, S1 = wr S 6 0 (x1 + (1 : Int32)) → (∀ S2 : St, S2 = wr S1 5 0 (0 : Int32) → ((x1 < 0 → bX1_advance_69 Q (0 : Int32) S2) ∧ (¬ (x1 < 0) → bX1_advance_69 Q (1 : Int32) S2))))
def bX1_advance_34 (Q : Int32 → St → Prop) (x1 : Int32) (S : St) : Prop :=
  ((x1 < 0 → bX1_advance_48 Q x1 S) ∧ (¬ (x1 < 0) → (vp_in x1 6 ∧ (vp_in x1 6 ∧ ∀ S5 : St, S5 = wr S 22 (Int32.toNatClampNeg x1) ((S.1 22 (Int32.toNatClampNeg x1)) + (1 : Int32)) → bX1_advance_48 Q x1 S5))))
def bX1_advance_7 (k7 : Int32 → St → Prop) (Q : Int32 → St → Prop) (x1 : Int32) (S : St) : Prop :=
  ((x1 < 0 → bX1_advance_34 Q x1 S) ∧ (¬ (x1 < 0) → (vp_in x1 6 ∧ (vp_in x1 6 ∧ ((((S.1 22 (Int32.toNatClampNeg x1)) + (1 : Int32)) < (S.1 23 (Int32.toNatClampNeg x1)) → bX1_advance_34 Q x1 S) ∧ (¬ (((S.1 22 (Int32.toNatClampNeg x1)) + (1 : Int32)) < (S.1 23 (Int32.toNatClampNeg x1))) → (∀ y10 : Int32, y10 = x1 + (-1 : Int32) → k7 y10 S)))))))
def pX1_advance (S : St) (Q : Int32 → St → Prop) : Prop :=
  (∀ y13 : Int32, y13 = ((S.1 5 0) - (1 : Int32)) → (∃ N : Nat, itr (F := Int32 → St → Prop) (fun _ _ => False) (fun k7 x1 S => bX1_advance_7 k7 Q x1 S) N y13 S))
set_option maxHeartbeats 40000000 in
set_option maxRecDepth 100000 in
theorem kX1_advance {p : Program} {l : Launch} {e : Env} {R : Room} {s : State} {m : MethodId} {args : Array Value} {below : List Frame} {meth : Method} {c : Code} {QQ : State → Prop} {g : va_G} {ct : Nat → ClassId} {ad : Nat → Nat} {n ro : Nat} {A : Nat → Prop} (C : CallFix p m c cX1_advance 2 s args wsX1_advance RX1) (hK : va_K g vwCl (xT ct) s) (hN : xN s) (hA : ∀ q, s.heap.size ≤ q → A q) (hRf : 0 ≤ R.frames) (hRl : 0 ≤ R.locals) (Q : Int32 → St → Prop) (hret : ∀ (pc : Nat) (r : Int32) (S : St) (H : Heap) (locs : List Loc) (ls : Array Slot), decode cX1_advance pc = .ok (.ireturn, 1) → zb r → Q r S → va_P g vwCl (wX ct ad n ro S) H → va_D A (wX ct ad n ro S) → va_S A s.heap H locs → W p l e R s m args below meth c H locs 0 0 QQ (F0 m pc ls [.int r])) (S : St) (h : pX1_advance S Q) (H : Heap) (locs : List Loc) (ls : Array Slot) (hP : va_P g vwCl (wX ct ad n ro S) H) (hD : va_D A (wX ct ad n ro S)) (hS : va_S A s.heap H locs) (hl : lv_has ls 2 [(0, .ref (ad 5))]) : W p l e R s m args below meth c H locs 0 0 QQ (F0 m 0 ls []) := by
  have hinX1 : ∀ w ∈ wsX10, w ∈ wsX1_advance := by decide +kernel
  have B69 : ∀ (t0 : Int32) (S : St) (H : Heap) (locs : List Loc) (ls : Array Slot), bX1_advance_69 Q t0 S → va_P g vwCl (wX ct ad n ro S) H → va_D A (wX ct ad n ro S) → va_S A s.heap H locs → lv_has ls 2 [(0, .ref (ad 5))] → W p l e R s m args below meth c H locs 0 0 QQ (F0 m 69 ls [.int t0]) := by
    intro t0 S H locs ls h hP hD hS hl
    exact hret _ _ _ _ _ _ dX1_advance_69 h.1 h.2 hP hD hS
  have B48 : ∀ (x1 : Int32) (S : St) (H : Heap) (locs : List Loc) (ls : Array Slot), bX1_advance_48 Q x1 S → va_P g vwCl (wX ct ad n ro S) H → va_D A (wX ct ad n ro S) → va_S A s.heap H locs → lv_has ls 2 [(0, .ref (ad 5)), (1, .int x1)] → W p l e R s m args below meth c H locs 0 0 QQ (F0 m 48 ls []) := by
    intro x1 S H locs ls h hP hD hS hl
    refine lv_aload_n C.1 C.2.1 dX1_advance_48 rfl (lv_at hl 0 rfl) ?_
    refine lv_iload_n C.1 C.2.1 dX1_advance_49 rfl (lv_at hl 1 rfl) ?_
    refine lv_iconst (v := 1) C.1 C.2.1 dX1_advance_50 (by decide) ?_
    refine lv_iadd C.1 C.2.1 dX1_advance_51 ?_
    obtain ⟨S1, eS1⟩ : ∃ z : St, z = wr S 6 0 (x1 + (1 : Int32)) := ⟨_, rfl⟩
    have h := h S1 eS1
    refine xp1_kept C hinX1 hK hP hD hS (by decide +kernel) dX1_advance_52 (fun H locs hP hD hS => ?_)
    rw [← eS1] at hP hD
    refine lv_aload_n C.1 C.2.1 dX1_advance_55 rfl (lv_at hl 0 rfl) ?_
    refine lv_iconst (v := 0) C.1 C.2.1 dX1_advance_56 (by decide) ?_
    obtain ⟨S2, eS2⟩ : ∃ z : St, z = wr S1 5 0 (0 : Int32) := ⟨_, rfl⟩
    have h := h S2 eS2
    refine xp1_made C hinX1 hK hP hD hS (by decide +kernel) dX1_advance_57 (fun H locs hP hD hS => ?_)
    rw [← eS2] at hP hD
    refine lv_iload_n C.1 C.2.1 dX1_advance_60 rfl (lv_at hl 1 rfl) ?_
    refine lv_if_lt (tgt := 68) C.1 C.2.1 dX1_advance_61 (by decide) (fun c3 => ?_) (fun c3 => ?_)
    · have h := h.1 c3
      refine lv_iconst (v := 0) C.1 C.2.1 dX1_advance_68 (by decide) ?_
      exact B69 (0 : Int32) S2 H locs ls h hP hD hS (lv_sub hl [0] rfl)
    · have h := h.2 c3
      refine lv_iconst (v := 1) C.1 C.2.1 dX1_advance_64 (by decide) ?_
      refine lv_goto (tgt := 69) C.1 C.2.1 dX1_advance_65 (by decide) ?_
      exact B69 (1 : Int32) S2 H locs ls h hP hD hS (lv_sub hl [0] rfl)
  have B34 : ∀ (x1 : Int32) (S : St) (H : Heap) (locs : List Loc) (ls : Array Slot), bX1_advance_34 Q x1 S → va_P g vwCl (wX ct ad n ro S) H → va_D A (wX ct ad n ro S) → va_S A s.heap H locs → lv_has ls 2 [(0, .ref (ad 5)), (1, .int x1)] → W p l e R s m args below meth c H locs 0 0 QQ (F0 m 34 ls []) := by
    intro x1 S H locs ls h hP hD hS hl
    refine lv_iload_n C.1 C.2.1 dX1_advance_34 rfl (lv_at hl 1 rfl) ?_
    refine lv_if_lt (tgt := 48) C.1 C.2.1 dX1_advance_35 (by decide) (fun c7 => ?_) (fun c7 => ?_)
    · have h := h.1 c7
      exact B48 x1 S H locs ls h hP hD hS (lv_sub hl [0, 1] rfl)
    · have h := h.2 c7
      refine lv_aload_n C.1 C.2.1 dX1_advance_38 rfl (lv_at hl 0 rfl) ?_
      refine xg1_chosen C hinX1 hK hP (by decide +kernel) dX1_advance_39 ?_
      refine lv_iload_n C.1 C.2.1 dX1_advance_42 rfl (lv_at hl 1 rfl) ?_
      refine lv_dup2_11 C.1 C.2.1 dX1_advance_43 rfl rfl ?_
      obtain ⟨g4, h⟩ := h
      refine xa_1_chosen C hK hP g4  rfl dX1_advance_44 ?_
      refine lv_iconst (v := 1) C.1 C.2.1 dX1_advance_45 (by decide) ?_
      refine lv_iadd C.1 C.2.1 dX1_advance_46 ?_
      obtain ⟨g6, h⟩ := h
      obtain ⟨S5, eS5⟩ : ∃ z : St, z = wr S 22 (Int32.toNatClampNeg x1) ((S.1 22 (Int32.toNatClampNeg x1)) + (1 : Int32)) := ⟨_, rfl⟩
      have h := h S5 eS5
      refine xs_1_chosen C hK hP hD hS  g6 rfl dX1_advance_47 (fun H locs hP hD hS => ?_)
      rw [← eS5] at hP hD
      exact B48 x1 S5 H locs ls h hP hD hS (lv_sub hl [0, 1] rfl)
  have B7 : ∀ (k7 : Int32 → St → Prop) (hk7 : ∀ (x1 : Int32) (S : St) (H : Heap) (locs : List Loc) (ls : Array Slot), k7 x1 S → va_P g vwCl (wX ct ad n ro S) H → va_D A (wX ct ad n ro S) → va_S A s.heap H locs → lv_has ls 2 [(0, .ref (ad 5)), (1, .int x1)] → W p l e R s m args below meth c H locs 0 0 QQ (F0 m 7 ls [])) (x1 : Int32) (S : St) (H : Heap) (locs : List Loc) (ls : Array Slot), bX1_advance_7 k7 Q x1 S → va_P g vwCl (wX ct ad n ro S) H → va_D A (wX ct ad n ro S) → va_S A s.heap H locs → lv_has ls 2 [(0, .ref (ad 5)), (1, .int x1)] → W p l e R s m args below meth c H locs 0 0 QQ (F0 m 7 ls []) := by
    intro k7 hk7 x1 S H locs ls h hP hD hS hl
    refine lv_iload_n C.1 C.2.1 dX1_advance_7 rfl (lv_at hl 1 rfl) ?_
    refine lv_if_lt (tgt := 34) C.1 C.2.1 dX1_advance_8 (by decide) (fun c12 => ?_) (fun c12 => ?_)
    · have h := h.1 c12
      exact B34 x1 S H locs ls h hP hD hS (lv_sub hl [0, 1] rfl)
    · have h := h.2 c12
      refine lv_aload_n C.1 C.2.1 dX1_advance_11 rfl (lv_at hl 0 rfl) ?_
      refine xg1_chosen C hinX1 hK hP (by decide +kernel) dX1_advance_12 ?_
      refine lv_iload_n C.1 C.2.1 dX1_advance_15 rfl (lv_at hl 1 rfl) ?_
      obtain ⟨g8, h⟩ := h
      refine xa_1_chosen C hK hP g8  rfl dX1_advance_16 ?_
      refine lv_iconst (v := 1) C.1 C.2.1 dX1_advance_17 (by decide) ?_
      refine lv_iadd C.1 C.2.1 dX1_advance_18 ?_
      refine lv_aload_n C.1 C.2.1 dX1_advance_19 rfl (lv_at hl 0 rfl) ?_
      refine xg1_limits C hinX1 hK hP (by decide +kernel) dX1_advance_20 ?_
      refine lv_iload_n C.1 C.2.1 dX1_advance_23 rfl (lv_at hl 1 rfl) ?_
      obtain ⟨g9, h⟩ := h
      refine xa_1_limits C hK hP g9  rfl dX1_advance_24 ?_
      refine lv_icmp_lt (tgt := 34) C.1 C.2.1 dX1_advance_25 (by decide) (fun c11 => ?_) (fun c11 => ?_)
      · have h := h.1 c11
        exact B34 x1 S H locs ls h hP hD hS (lv_sub hl [0, 1] rfl)
      · have h := h.2 c11
        obtain ⟨y10, ey10⟩ : ∃ z : Int32, z = x1 + (-1 : Int32) := ⟨_, rfl⟩
        have h := h y10 ey10
        refine lv_iinc (v := y10) (lv' := [(1, .int y10), (0, .ref (ad 5))]) C.1 C.2.1 dX1_advance_28 hl (k := 1) rfl (by rw [ey10]; rfl) (by decide) rfl (fun ls hl => ?_)
        refine lv_goto (tgt := 7) C.1 C.2.1 dX1_advance_31 (by decide) ?_
        exact hk7 y10 S H locs ls h hP hD hS (lv_sub hl [1, 0] rfl)
  have L7 : ∀ (N : Nat) (x1 : Int32) (S : St) (H : Heap) (locs : List Loc) (ls : Array Slot), itr (F := Int32 → St → Prop) (fun _ _ => False) (fun k7 x1 S => bX1_advance_7 k7 Q x1 S) N x1 S → va_P g vwCl (wX ct ad n ro S) H → va_D A (wX ct ad n ro S) → va_S A s.heap H locs → lv_has ls 2 [(0, .ref (ad 5)), (1, .int x1)] → W p l e R s m args below meth c H locs 0 0 QQ (F0 m 7 ls []) := by
    intro N
    induction N with
    | zero => intro x1 S H locs ls h hP hD hS hl; exact False.elim h
    | succ N ih => intro x1 S H locs ls h hP hD hS hl; exact B7  (itr (F := Int32 → St → Prop) (fun _ _ => False) (fun k7 x1 S => bX1_advance_7 k7 Q x1 S) N) ih x1 S H locs ls h hP hD hS hl
  refine lv_aload_n C.1 C.2.1 dX1_advance_0 rfl (lv_at hl 0 rfl) ?_
  refine xg1_made C hinX1 hK hP (by decide +kernel) dX1_advance_1 ?_
  refine lv_iconst (v := 1) C.1 C.2.1 dX1_advance_4 (by decide) ?_
  refine lv_isub C.1 C.2.1 dX1_advance_5 ?_
  refine lv_topi (fun y13 ey13 => ?_)
  have h := h y13 ey13
  refine lv_istore_n (lv' := [(1, .int y13), (0, .ref (ad 5))]) C.1 C.2.1 dX1_advance_6 rfl hl (by decide) rfl (fun ls hl => ?_)
  obtain ⟨N, h⟩ := h
  exact L7 N y13 S H locs ls h hP hD hS (lv_sub hl [1, 0] rfl)
theorem mX1_advance (l : Launch) (g : va_G) (ct : Nat → ClassId) (ad : Nat → Nat) (n ro sz : Nat) (S : St) (Q : Int32 → St → Prop) (h : pX1_advance S Q) : Met l yX1_advance wsX1_advance ({ frames := 0, cells := 0, slots := 0, locals := 0 }) (gPc g (xT ct) (wX ct ad n ro S) sz [.ref (ad 5)]) (va_Qi Q (gB g (xT ct) (wX ct ad n ro) (va_A (wX ct ad n ro S) sz)) (va_A (wX ct ad n ro S) sz)) 0 0 (va_A (wX ct ad n ro S) sz) :=
  g_metZ (w := wX ct ad n ro) (cc := cX1_advance) (maxL := 2) (by decide) rfl rfl (by decide) rfl (fun p e s m args below meth c QQ A C hK hN hA hret H locs ls hP hD hS hl => kX1_advance C hK hN hA (Nat.le_refl _) (Nat.le_refl _) Q hret  S h H locs ls hP hD hS hl)

def pX1_restart (S : St) (Q : St → Prop) : Prop :=
  (∀ S1 : St, S1 = wr S 5 0 (0 : Int32) → (∀ S2 : St, S2 = wr S1 6 0 (0 : Int32) → Q S2))
set_option maxHeartbeats 40000000 in
set_option maxRecDepth 100000 in
theorem kX1_restart {p : Program} {l : Launch} {e : Env} {R : Room} {s : State} {m : MethodId} {args : Array Value} {below : List Frame} {meth : Method} {c : Code} {QQ : State → Prop} {g : va_G} {ct : Nat → ClassId} {ad : Nat → Nat} {n ro : Nat} {A : Nat → Prop} (C : CallFix p m c cX1_restart 1 s args wsX1_restart RX1) (hK : va_K g vwCl (xT ct) s) (hN : xN s) (hA : ∀ q, s.heap.size ≤ q → A q) (hRf : 0 ≤ R.frames) (hRl : 0 ≤ R.locals) (Q : St → Prop) (hret : ∀ (pc : Nat) (S : St) (H : Heap) (locs : List Loc) (ls : Array Slot), decode cX1_restart pc = .ok (.return_, 1) → Q S → va_P g vwCl (wX ct ad n ro S) H → va_D A (wX ct ad n ro S) → va_S A s.heap H locs → W p l e R s m args below meth c H locs 0 0 QQ (F0 m pc ls [])) (S : St) (h : pX1_restart S Q) (H : Heap) (locs : List Loc) (ls : Array Slot) (hP : va_P g vwCl (wX ct ad n ro S) H) (hD : va_D A (wX ct ad n ro S)) (hS : va_S A s.heap H locs) (hl : lv_has ls 1 [(0, .ref (ad 5))]) : W p l e R s m args below meth c H locs 0 0 QQ (F0 m 0 ls []) := by
  have hinX1 : ∀ w ∈ wsX10, w ∈ wsX1_restart := by decide +kernel
  refine lv_aload_n C.1 C.2.1 dX1_restart_0 rfl (lv_at hl 0 rfl) ?_
  refine lv_iconst (v := 0) C.1 C.2.1 dX1_restart_1 (by decide) ?_
  obtain ⟨S1, eS1⟩ : ∃ z : St, z = wr S 5 0 (0 : Int32) := ⟨_, rfl⟩
  have h := h S1 eS1
  refine xp1_made C hinX1 hK hP hD hS (by decide +kernel) dX1_restart_2 (fun H locs hP hD hS => ?_)
  rw [← eS1] at hP hD
  refine lv_aload_n C.1 C.2.1 dX1_restart_5 rfl (lv_at hl 0 rfl) ?_
  refine lv_iconst (v := 0) C.1 C.2.1 dX1_restart_6 (by decide) ?_
  obtain ⟨S2, eS2⟩ : ∃ z : St, z = wr S1 6 0 (0 : Int32) := ⟨_, rfl⟩
  have h := h S2 eS2
  refine xp1_kept C hinX1 hK hP hD hS (by decide +kernel) dX1_restart_7 (fun H locs hP hD hS => ?_)
  rw [← eS2] at hP hD
  exact hret _ _ _ _ _ dX1_restart_10 h hP hD hS
theorem mX1_restart (l : Launch) (g : va_G) (ct : Nat → ClassId) (ad : Nat → Nat) (n ro sz : Nat) (S : St) (Q : St → Prop) (h : pX1_restart S Q) : Met l yX1_restart wsX1_restart ({ frames := 0, cells := 0, slots := 0, locals := 0 }) (gPc g (xT ct) (wX ct ad n ro S) sz [.ref (ad 5)]) (va_Qv Q (gB g (xT ct) (wX ct ad n ro) (va_A (wX ct ad n ro S) sz)) (va_A (wX ct ad n ro S) sz)) 0 0 (va_A (wX ct ad n ro S) sz) :=
  g_metV (w := wX ct ad n ro) (cc := cX1_restart) (maxL := 1) (by decide) rfl rfl (by decide) rfl (fun p e s m args below meth c QQ A C hK hN hA hret H locs ls hP hD hS hl => kX1_restart C hK hN hA (Nat.le_refl _) (Nat.le_refl _) Q hret  S h H locs ls hP hD hS hl)
end
