section
-- ===== PART A: goes FIRST, ahead of the names: the tables' words, and 'selects' of the private methods out of them =====
/-- a private method of a class that the tables say can be made, by its rows of tables_1 -/
def lw_okq (q : MethodName × Nat) : Prop := (q.1.cls ≠ "java/lang/invoke/MethodHandle" ∧ q.1.cls ≠ "java/lang/invoke/VarHandle") ∧ Cond.instantiable q.1.cls q.2 ∈ tables_1 ∧ Cond.privateMethod q.1 ∈ tables_1 ∧ Cond.instanceMethod q.1 ∈ tables_1
theorem lw_p0 : lw_okq (⟨"HenOracle$Text", "readClause", "(LHenOracle$Told;)Z"⟩, 5) := ⟨⟨by decide +kernel, by decide +kernel⟩, List.mem_of_getElem? (i := 23) (by decide +kernel), List.mem_of_getElem? (i := 244) (by decide +kernel), List.mem_of_getElem? (i := 245) (by decide +kernel)⟩
theorem lw_p1 : lw_okq (⟨"HenOracle$Text", "nextToken", "()V"⟩, 5) := ⟨⟨by decide +kernel, by decide +kernel⟩, List.mem_of_getElem? (i := 23) (by decide +kernel), List.mem_of_getElem? (i := 248) (by decide +kernel), List.mem_of_getElem? (i := 249) (by decide +kernel)⟩
theorem lw_p2 : lw_okq (⟨"HenOracle$Text", "reads", "(Ljava/lang/String;)Z"⟩, 5) := ⟨⟨by decide +kernel, by decide +kernel⟩, List.mem_of_getElem? (i := 23) (by decide +kernel), List.mem_of_getElem? (i := 259) (by decide +kernel), List.mem_of_getElem? (i := 260) (by decide +kernel)⟩
theorem lw_p3 : lw_okq (⟨"HenOracle$Text", "readPlace", "(LHenOracle$Told;)Z"⟩, 5) := ⟨⟨by decide +kernel, by decide +kernel⟩, List.mem_of_getElem? (i := 23) (by decide +kernel), List.mem_of_getElem? (i := 322) (by decide +kernel), List.mem_of_getElem? (i := 323) (by decide +kernel)⟩
theorem lw_p4 : lw_okq (⟨"HenOracle$Text", "nextNumber", "(I)I"⟩, 5) := ⟨⟨by decide +kernel, by decide +kernel⟩, List.mem_of_getElem? (i := 23) (by decide +kernel), List.mem_of_getElem? (i := 326) (by decide +kernel), List.mem_of_getElem? (i := 327) (by decide +kernel)⟩
theorem lw_p5 : lw_okq (⟨"HenOracle$Text", "readNews", "(LHenOracle$Told;)Z"⟩, 5) := ⟨⟨by decide +kernel, by decide +kernel⟩, List.mem_of_getElem? (i := 23) (by decide +kernel), List.mem_of_getElem? (i := 335) (by decide +kernel), List.mem_of_getElem? (i := 336) (by decide +kernel)⟩
theorem lw_p6 : lw_okq (⟨"HenOracle$Text", "kindRead", "()I"⟩, 5) := ⟨⟨by decide +kernel, by decide +kernel⟩, List.mem_of_getElem? (i := 23) (by decide +kernel), List.mem_of_getElem? (i := 339) (by decide +kernel), List.mem_of_getElem? (i := 340) (by decide +kernel)⟩
theorem lw_p7 : lw_okq (⟨"HenOracle$Text", "readHen", "(LHenOracle$Told;I)Z"⟩, 5) := ⟨⟨by decide +kernel, by decide +kernel⟩, List.mem_of_getElem? (i := 23) (by decide +kernel), List.mem_of_getElem? (i := 347) (by decide +kernel), List.mem_of_getElem? (i := 348) (by decide +kernel)⟩
theorem lw_p8 : lw_okq (⟨"HenOracle", "isPlace", "(I)Z"⟩, 11) := ⟨⟨by decide +kernel, by decide +kernel⟩, List.mem_of_getElem? (i := 15) (by decide +kernel), List.mem_of_getElem? (i := 369) (by decide +kernel), List.mem_of_getElem? (i := 370) (by decide +kernel)⟩
theorem lw_p9 : lw_okq (⟨"HenOracle", "isHen", "(I)Z"⟩, 11) := ⟨⟨by decide +kernel, by decide +kernel⟩, List.mem_of_getElem? (i := 15) (by decide +kernel), List.mem_of_getElem? (i := 377) (by decide +kernel), List.mem_of_getElem? (i := 378) (by decide +kernel)⟩
theorem lw_p10 : lw_okq (⟨"HenOracle", "remember", "()V"⟩, 11) := ⟨⟨by decide +kernel, by decide +kernel⟩, List.mem_of_getElem? (i := 15) (by decide +kernel), List.mem_of_getElem? (i := 400) (by decide +kernel), List.mem_of_getElem? (i := 401) (by decide +kernel)⟩
theorem lw_p11 : lw_okq (⟨"HenOracle", "dropOldest", "()V"⟩, 11) := ⟨⟨by decide +kernel, by decide +kernel⟩, List.mem_of_getElem? (i := 15) (by decide +kernel), List.mem_of_getElem? (i := 404) (by decide +kernel), List.mem_of_getElem? (i := 405) (by decide +kernel)⟩
theorem lw_p12 : lw_okq (⟨"HenOracle$Yard", "laysToday", "(I)Z"⟩, 14) := ⟨⟨by decide +kernel, by decide +kernel⟩, List.mem_of_getElem? (i := 97) (by decide +kernel), List.mem_of_getElem? (i := 416) (by decide +kernel), List.mem_of_getElem? (i := 417) (by decide +kernel)⟩
theorem lw_p13 : lw_okq (⟨"HenOracle$Yard", "favourite", "(LHenOracle$Told;I)I"⟩, 14) := ⟨⟨by decide +kernel, by decide +kernel⟩, List.mem_of_getElem? (i := 97) (by decide +kernel), List.mem_of_getElem? (i := 420) (by decide +kernel), List.mem_of_getElem? (i := 421) (by decide +kernel)⟩
theorem lw_p14 : lw_okq (⟨"HenOracle$Yard", "layEgg", "(III)V"⟩, 14) := ⟨⟨by decide +kernel, by decide +kernel⟩, List.mem_of_getElem? (i := 97) (by decide +kernel), List.mem_of_getElem? (i := 432) (by decide +kernel), List.mem_of_getElem? (i := 433) (by decide +kernel)⟩
theorem lw_p15 : lw_okq (⟨"HenOracle", "foretell", "(I)V"⟩, 11) := ⟨⟨by decide +kernel, by decide +kernel⟩, List.mem_of_getElem? (i := 15) (by decide +kernel), List.mem_of_getElem? (i := 476) (by decide +kernel), List.mem_of_getElem? (i := 477) (by decide +kernel)⟩
def lw_privs_1 : List (MethodName × Nat) := [(⟨"HenOracle$Text", "readClause", "(LHenOracle$Told;)Z"⟩, 5), (⟨"HenOracle$Text", "nextToken", "()V"⟩, 5), (⟨"HenOracle$Text", "reads", "(Ljava/lang/String;)Z"⟩, 5), (⟨"HenOracle$Text", "readPlace", "(LHenOracle$Told;)Z"⟩, 5), (⟨"HenOracle$Text", "nextNumber", "(I)I"⟩, 5), (⟨"HenOracle$Text", "readNews", "(LHenOracle$Told;)Z"⟩, 5), (⟨"HenOracle$Text", "kindRead", "()I"⟩, 5), (⟨"HenOracle$Text", "readHen", "(LHenOracle$Told;I)Z"⟩, 5), (⟨"HenOracle", "isPlace", "(I)Z"⟩, 11), (⟨"HenOracle", "isHen", "(I)Z"⟩, 11), (⟨"HenOracle", "remember", "()V"⟩, 11), (⟨"HenOracle", "dropOldest", "()V"⟩, 11), (⟨"HenOracle$Yard", "laysToday", "(I)Z"⟩, 14), (⟨"HenOracle$Yard", "favourite", "(LHenOracle$Told;I)I"⟩, 14), (⟨"HenOracle$Yard", "layEgg", "(III)V"⟩, 14), (⟨"HenOracle", "foretell", "(I)V"⟩, 11)]
theorem lw_r1 : ∀ q ∈ lw_privs_1, lw_okq q := List.forall_mem_cons.mpr ⟨lw_p0, List.forall_mem_cons.mpr ⟨lw_p1, List.forall_mem_cons.mpr ⟨lw_p2, List.forall_mem_cons.mpr ⟨lw_p3, List.forall_mem_cons.mpr ⟨lw_p4, List.forall_mem_cons.mpr ⟨lw_p5, List.forall_mem_cons.mpr ⟨lw_p6, List.forall_mem_cons.mpr ⟨lw_p7, List.forall_mem_cons.mpr ⟨lw_p8, List.forall_mem_cons.mpr ⟨lw_p9, List.forall_mem_cons.mpr ⟨lw_p10, List.forall_mem_cons.mpr ⟨lw_p11, List.forall_mem_cons.mpr ⟨lw_p12, List.forall_mem_cons.mpr ⟨lw_p13, List.forall_mem_cons.mpr ⟨lw_p14, List.forall_mem_cons.mpr ⟨lw_p15, fun _ h => absurd h List.not_mem_nil⟩⟩⟩⟩⟩⟩⟩⟩⟩⟩⟩⟩⟩⟩⟩⟩
theorem lw_p16 : lw_okq (⟨"HenOracle", "rightsForetold", "(I)I"⟩, 11) := ⟨⟨by decide +kernel, by decide +kernel⟩, List.mem_of_getElem? (i := 15) (by decide +kernel), List.mem_of_getElem? (i := 488) (by decide +kernel), List.mem_of_getElem? (i := 489) (by decide +kernel)⟩
theorem lw_p17 : lw_okq (⟨"HenOracle", "tallyHits", "(I)V"⟩, 11) := ⟨⟨by decide +kernel, by decide +kernel⟩, List.mem_of_getElem? (i := 15) (by decide +kernel), List.mem_of_getElem? (i := 500) (by decide +kernel), List.mem_of_getElem? (i := 501) (by decide +kernel)⟩
theorem lw_p18 : lw_okq (⟨"HenOracle", "tallyEggs", "(I)V"⟩, 11) := ⟨⟨by decide +kernel, by decide +kernel⟩, List.mem_of_getElem? (i := 15) (by decide +kernel), List.mem_of_getElem? (i := 506) (by decide +kernel), List.mem_of_getElem? (i := 507) (by decide +kernel)⟩
theorem lw_p19 : lw_okq (⟨"HenOracle", "gainOfMove", "(II)I"⟩, 11) := ⟨⟨by decide +kernel, by decide +kernel⟩, List.mem_of_getElem? (i := 15) (by decide +kernel), List.mem_of_getElem? (i := 513) (by decide +kernel), List.mem_of_getElem? (i := 514) (by decide +kernel)⟩
theorem lw_p20 : lw_okq (⟨"HenOracle", "wouldBeSeen", "(III)Z"⟩, 11) := ⟨⟨by decide +kernel, by decide +kernel⟩, List.mem_of_getElem? (i := 15) (by decide +kernel), List.mem_of_getElem? (i := 537) (by decide +kernel), List.mem_of_getElem? (i := 538) (by decide +kernel)⟩
theorem lw_p21 : lw_okq (⟨"HenOracle", "daysToFirstRight", "(II)I"⟩, 11) := ⟨⟨by decide +kernel, by decide +kernel⟩, List.mem_of_getElem? (i := 15) (by decide +kernel), List.mem_of_getElem? (i := 560) (by decide +kernel), List.mem_of_getElem? (i := 561) (by decide +kernel)⟩
theorem lw_p22 : lw_okq (⟨"HenOracleModel", "begins", "()V"⟩, 21) := ⟨⟨by decide +kernel, by decide +kernel⟩, List.mem_of_getElem? (i := 578) (by decide +kernel), List.mem_of_getElem? (i := 587) (by decide +kernel), List.mem_of_getElem? (i := 588) (by decide +kernel)⟩
theorem lw_p23 : lw_okq (⟨"HenOracleModel", "reads", "()I"⟩, 21) := ⟨⟨by decide +kernel, by decide +kernel⟩, List.mem_of_getElem? (i := 578) (by decide +kernel), List.mem_of_getElem? (i := 671) (by decide +kernel), List.mem_of_getElem? (i := 672) (by decide +kernel)⟩
theorem lw_p24 : lw_okq (⟨"HenOracleModel", "step", "()V"⟩, 21) := ⟨⟨by decide +kernel, by decide +kernel⟩, List.mem_of_getElem? (i := 578) (by decide +kernel), List.mem_of_getElem? (i := 678) (by decide +kernel), List.mem_of_getElem? (i := 679) (by decide +kernel)⟩
theorem lw_p25 : lw_okq (⟨"HenOracleModel", "here", "()I"⟩, 21) := ⟨⟨by decide +kernel, by decide +kernel⟩, List.mem_of_getElem? (i := 578) (by decide +kernel), List.mem_of_getElem? (i := 682) (by decide +kernel), List.mem_of_getElem? (i := 683) (by decide +kernel)⟩
theorem lw_p26 : lw_okq (⟨"HenOracleModel", "readsClause", "()Z"⟩, 21) := ⟨⟨by decide +kernel, by decide +kernel⟩, List.mem_of_getElem? (i := 578) (by decide +kernel), List.mem_of_getElem? (i := 692) (by decide +kernel), List.mem_of_getElem? (i := 693) (by decide +kernel)⟩
theorem lw_p27 : lw_okq (⟨"HenOracleModel", "anew", "()Z"⟩, 21) := ⟨⟨by decide +kernel, by decide +kernel⟩, List.mem_of_getElem? (i := 578) (by decide +kernel), List.mem_of_getElem? (i := 697) (by decide +kernel), List.mem_of_getElem? (i := 698) (by decide +kernel)⟩
theorem lw_p28 : lw_okq (⟨"HenOracleModel", "readsPlace", "()Z"⟩, 21) := ⟨⟨by decide +kernel, by decide +kernel⟩, List.mem_of_getElem? (i := 578) (by decide +kernel), List.mem_of_getElem? (i := 702) (by decide +kernel), List.mem_of_getElem? (i := 703) (by decide +kernel)⟩
theorem lw_p29 : lw_okq (⟨"HenOracleModel", "number", "(I)Z"⟩, 21) := ⟨⟨by decide +kernel, by decide +kernel⟩, List.mem_of_getElem? (i := 578) (by decide +kernel), List.mem_of_getElem? (i := 706) (by decide +kernel), List.mem_of_getElem? (i := 707) (by decide +kernel)⟩
theorem lw_p30 : lw_okq (⟨"HenOracleModel", "readsNews", "()Z"⟩, 21) := ⟨⟨by decide +kernel, by decide +kernel⟩, List.mem_of_getElem? (i := 578) (by decide +kernel), List.mem_of_getElem? (i := 711) (by decide +kernel), List.mem_of_getElem? (i := 712) (by decide +kernel)⟩
theorem lw_p31 : lw_okq (⟨"HenOracleModel", "calm", "()Z"⟩, 21) := ⟨⟨by decide +kernel, by decide +kernel⟩, List.mem_of_getElem? (i := 578) (by decide +kernel), List.mem_of_getElem? (i := 716) (by decide +kernel), List.mem_of_getElem? (i := 717) (by decide +kernel)⟩
def lw_privs_2 : List (MethodName × Nat) := [(⟨"HenOracle", "rightsForetold", "(I)I"⟩, 11), (⟨"HenOracle", "tallyHits", "(I)V"⟩, 11), (⟨"HenOracle", "tallyEggs", "(I)V"⟩, 11), (⟨"HenOracle", "gainOfMove", "(II)I"⟩, 11), (⟨"HenOracle", "wouldBeSeen", "(III)Z"⟩, 11), (⟨"HenOracle", "daysToFirstRight", "(II)I"⟩, 11), (⟨"HenOracleModel", "begins", "()V"⟩, 21), (⟨"HenOracleModel", "reads", "()I"⟩, 21), (⟨"HenOracleModel", "step", "()V"⟩, 21), (⟨"HenOracleModel", "here", "()I"⟩, 21), (⟨"HenOracleModel", "readsClause", "()Z"⟩, 21), (⟨"HenOracleModel", "anew", "()Z"⟩, 21), (⟨"HenOracleModel", "readsPlace", "()Z"⟩, 21), (⟨"HenOracleModel", "number", "(I)Z"⟩, 21), (⟨"HenOracleModel", "readsNews", "()Z"⟩, 21), (⟨"HenOracleModel", "calm", "()Z"⟩, 21)]
theorem lw_r2 : ∀ q ∈ lw_privs_2, lw_okq q := List.forall_mem_cons.mpr ⟨lw_p16, List.forall_mem_cons.mpr ⟨lw_p17, List.forall_mem_cons.mpr ⟨lw_p18, List.forall_mem_cons.mpr ⟨lw_p19, List.forall_mem_cons.mpr ⟨lw_p20, List.forall_mem_cons.mpr ⟨lw_p21, List.forall_mem_cons.mpr ⟨lw_p22, List.forall_mem_cons.mpr ⟨lw_p23, List.forall_mem_cons.mpr ⟨lw_p24, List.forall_mem_cons.mpr ⟨lw_p25, List.forall_mem_cons.mpr ⟨lw_p26, List.forall_mem_cons.mpr ⟨lw_p27, List.forall_mem_cons.mpr ⟨lw_p28, List.forall_mem_cons.mpr ⟨lw_p29, List.forall_mem_cons.mpr ⟨lw_p30, List.forall_mem_cons.mpr ⟨lw_p31, fun _ h => absurd h List.not_mem_nil⟩⟩⟩⟩⟩⟩⟩⟩⟩⟩⟩⟩⟩⟩⟩⟩
theorem lw_p32 : lw_okq (⟨"HenOracleModel", "readsHen", "(I)Z"⟩, 21) := ⟨⟨by decide +kernel, by decide +kernel⟩, List.mem_of_getElem? (i := 578) (by decide +kernel), List.mem_of_getElem? (i := 724) (by decide +kernel), List.mem_of_getElem? (i := 725) (by decide +kernel)⟩
theorem lw_p33 : lw_okq (⟨"HenOracleModel", "isPlace", "(I)Z"⟩, 21) := ⟨⟨by decide +kernel, by decide +kernel⟩, List.mem_of_getElem? (i := 578) (by decide +kernel), List.mem_of_getElem? (i := 736) (by decide +kernel), List.mem_of_getElem? (i := 737) (by decide +kernel)⟩
theorem lw_p34 : lw_okq (⟨"HenOracleModel", "isHen", "(I)Z"⟩, 21) := ⟨⟨by decide +kernel, by decide +kernel⟩, List.mem_of_getElem? (i := 578) (by decide +kernel), List.mem_of_getElem? (i := 744) (by decide +kernel), List.mem_of_getElem? (i := 745) (by decide +kernel)⟩
theorem lw_p35 : lw_okq (⟨"HenOracleModel", "asTold", "()V"⟩, 21) := ⟨⟨by decide +kernel, by decide +kernel⟩, List.mem_of_getElem? (i := 578) (by decide +kernel), List.mem_of_getElem? (i := 758) (by decide +kernel), List.mem_of_getElem? (i := 759) (by decide +kernel)⟩
theorem lw_p36 : lw_okq (⟨"HenOracleModel", "likes", "([III)I"⟩, 21) := ⟨⟨by decide +kernel, by decide +kernel⟩, List.mem_of_getElem? (i := 578) (by decide +kernel), List.mem_of_getElem? (i := 762) (by decide +kernel), List.mem_of_getElem? (i := 763) (by decide +kernel)⟩
theorem lw_p37 : lw_okq (⟨"HenOracleModel", "remember", "()V"⟩, 21) := ⟨⟨by decide +kernel, by decide +kernel⟩, List.mem_of_getElem? (i := 578) (by decide +kernel), List.mem_of_getElem? (i := 770) (by decide +kernel), List.mem_of_getElem? (i := 771) (by decide +kernel)⟩
theorem lw_p38 : lw_okq (⟨"HenOracleModel", "goes", "([I)I"⟩, 21) := ⟨⟨by decide +kernel, by decide +kernel⟩, List.mem_of_getElem? (i := 578) (by decide +kernel), List.mem_of_getElem? (i := 774) (by decide +kernel), List.mem_of_getElem? (i := 775) (by decide +kernel)⟩
theorem lw_p39 : lw_okq (⟨"HenOracleModel", "bestOf", "([II)I"⟩, 21) := ⟨⟨by decide +kernel, by decide +kernel⟩, List.mem_of_getElem? (i := 578) (by decide +kernel), List.mem_of_getElem? (i := 778) (by decide +kernel), List.mem_of_getElem? (i := 779) (by decide +kernel)⟩
theorem lw_p40 : lw_okq (⟨"HenOracleModel", "layAside", "()V"⟩, 21) := ⟨⟨by decide +kernel, by decide +kernel⟩, List.mem_of_getElem? (i := 578) (by decide +kernel), List.mem_of_getElem? (i := 827) (by decide +kernel), List.mem_of_getElem? (i := 828) (by decide +kernel)⟩
theorem lw_p41 : lw_okq (⟨"HenOracleModel", "go", "(I)V"⟩, 21) := ⟨⟨by decide +kernel, by decide +kernel⟩, List.mem_of_getElem? (i := 578) (by decide +kernel), List.mem_of_getElem? (i := 831) (by decide +kernel), List.mem_of_getElem? (i := 832) (by decide +kernel)⟩
theorem lw_p42 : lw_okq (⟨"HenOracleModel", "rightsOfAll", "([I)I"⟩, 21) := ⟨⟨by decide +kernel, by decide +kernel⟩, List.mem_of_getElem? (i := 578) (by decide +kernel), List.mem_of_getElem? (i := 848) (by decide +kernel), List.mem_of_getElem? (i := 849) (by decide +kernel)⟩
theorem lw_p43 : lw_okq (⟨"HenOracleModel", "comes", "(I)Z"⟩, 21) := ⟨⟨by decide +kernel, by decide +kernel⟩, List.mem_of_getElem? (i := 578) (by decide +kernel), List.mem_of_getElem? (i := 869) (by decide +kernel), List.mem_of_getElem? (i := 870) (by decide +kernel)⟩
def lw_privs_3 : List (MethodName × Nat) := [(⟨"HenOracleModel", "readsHen", "(I)Z"⟩, 21), (⟨"HenOracleModel", "isPlace", "(I)Z"⟩, 21), (⟨"HenOracleModel", "isHen", "(I)Z"⟩, 21), (⟨"HenOracleModel", "asTold", "()V"⟩, 21), (⟨"HenOracleModel", "likes", "([III)I"⟩, 21), (⟨"HenOracleModel", "remember", "()V"⟩, 21), (⟨"HenOracleModel", "goes", "([I)I"⟩, 21), (⟨"HenOracleModel", "bestOf", "([II)I"⟩, 21), (⟨"HenOracleModel", "layAside", "()V"⟩, 21), (⟨"HenOracleModel", "go", "(I)V"⟩, 21), (⟨"HenOracleModel", "rightsOfAll", "([I)I"⟩, 21), (⟨"HenOracleModel", "comes", "(I)Z"⟩, 21)]
theorem lw_r3 : ∀ q ∈ lw_privs_3, lw_okq q := List.forall_mem_cons.mpr ⟨lw_p32, List.forall_mem_cons.mpr ⟨lw_p33, List.forall_mem_cons.mpr ⟨lw_p34, List.forall_mem_cons.mpr ⟨lw_p35, List.forall_mem_cons.mpr ⟨lw_p36, List.forall_mem_cons.mpr ⟨lw_p37, List.forall_mem_cons.mpr ⟨lw_p38, List.forall_mem_cons.mpr ⟨lw_p39, List.forall_mem_cons.mpr ⟨lw_p40, List.forall_mem_cons.mpr ⟨lw_p41, List.forall_mem_cons.mpr ⟨lw_p42, List.forall_mem_cons.mpr ⟨lw_p43, fun _ h => absurd h List.not_mem_nil⟩⟩⟩⟩⟩⟩⟩⟩⟩⟩⟩⟩
def lw_privs : List (MethodName × Nat) := lw_privs_1 ++ (lw_privs_2 ++ (lw_privs_3))
def lw_tbl : List Cond := k2_sels lw_privs ++ tables_1
theorem lw_privs_ok : ∀ q ∈ lw_privs, lw_okq q := by
  show ∀ q ∈ lw_privs_1 ++ (lw_privs_2 ++ (lw_privs_3)), lw_okq q
  exact List.forall_mem_append.mpr ⟨lw_r1, List.forall_mem_append.mpr ⟨lw_r2, lw_r3⟩⟩
end
section
def RX0 : String := "HenOracle$Sightings"
def TX0 : u_T := fun k => match k with
  | 0 => ("HenOracle$Sightings", "ofHen", "[I", true)
  | 1 => ("HenOracle$Sightings", "onDay", "[I", true)
  | 2 => ("HenOracle$Sightings", "atPlace", "[I", true)
  | _ => ("HenOracle$Sightings", "size", "I", false)
def tyX0 : Nat → FieldType := fun k => match k with
  | 0 => .array .int
  | 1 => .array .int
  | 2 => .array .int
  | _ => .int
abbrev wsX00 : List Cond := u_ws RX0 TX0 4
theorem nmX0 : ∀ a, a < 4 → ∀ b, b < 4 → a ≠ b → (TX0 a).2.1 ≠ (TX0 b).2.1 := by decide +kernel
theorem tyX0_ok : ∀ k, k < 4 → parseFieldDescriptor (TX0 k).2.2.1 = some (tyX0 k) := by decide +kernel
abbrev cX0_init : ByteArray := prog_2_method_1_code
def yX0_init : MethodName := ⟨RX0, "<init>", "()V"⟩
abbrev cX0_add : ByteArray := prog_2_method_2_code
def yX0_add : MethodName := ⟨RX0, "add", "(III)V"⟩
abbrev cX0_lastDayOf : ByteArray := prog_2_method_3_code
def yX0_lastDayOf : MethodName := ⟨RX0, "lastDayOf", "(I)I"⟩
abbrev cX0_agree : ByteArray := prog_2_method_4_code
def yX0_agree : MethodName := ⟨RX0, "agree", "(III)Z"⟩
def RX1 : String := "HenOracle$Text"
def TX1 : u_T := fun k => match k with
  | 0 => ("HenOracle$Text", "letters", "[C", true)
  | 1 => ("HenOracle$Text", "length", "I", false)
  | 2 => ("HenOracle$Text", "clauses", "I", false)
  | 3 => ("HenOracle$Text", "start", "I", false)
  | _ => ("HenOracle$Text", "end", "I", false)
def tyX1 : Nat → FieldType := fun k => match k with
  | 0 => .array .char
  | 1 => .int
  | 2 => .int
  | 3 => .int
  | _ => .int
abbrev wsX10 : List Cond := u_ws RX1 TX1 5
theorem nmX1 : ∀ a, a < 5 → ∀ b, b < 5 → a ≠ b → (TX1 a).2.1 ≠ (TX1 b).2.1 := by decide +kernel
theorem tyX1_ok : ∀ k, k < 5 → parseFieldDescriptor (TX1 k).2.2.1 = some (tyX1 k) := by decide +kernel
abbrev cX1_init : ByteArray := prog_3_method_1_code
def yX1_init : MethodName := ⟨RX1, "<init>", "()V"⟩
abbrev cX1_append : ByteArray := prog_3_method_2_code
def yX1_append : MethodName := ⟨RX1, "append", "(C)V"⟩
abbrev cX1_readInto : ByteArray := prog_3_method_3_code
def yX1_readInto : MethodName := ⟨RX1, "readInto", "(LHenOracle$Told;)I"⟩
abbrev cX1_readClause : ByteArray := prog_3_method_4_code
def yX1_readClause : MethodName := ⟨RX1, "readClause", "(LHenOracle$Told;)Z"⟩
abbrev cX1_readPlace : ByteArray := prog_3_method_5_code
def yX1_readPlace : MethodName := ⟨RX1, "readPlace", "(LHenOracle$Told;)Z"⟩
abbrev cX1_readNews : ByteArray := prog_3_method_6_code
def yX1_readNews : MethodName := ⟨RX1, "readNews", "(LHenOracle$Told;)Z"⟩
abbrev cX1_readHen : ByteArray := prog_3_method_7_code
def yX1_readHen : MethodName := ⟨RX1, "readHen", "(LHenOracle$Told;I)Z"⟩
abbrev cX1_kindRead : ByteArray := prog_3_method_8_code
def yX1_kindRead : MethodName := ⟨RX1, "kindRead", "()I"⟩
abbrev cX1_reads : ByteArray := prog_3_method_9_code
def yX1_reads : MethodName := ⟨RX1, "reads", "(Ljava/lang/String;)Z"⟩
abbrev cX1_nextNumber : ByteArray := prog_3_method_10_code
def yX1_nextNumber : MethodName := ⟨RX1, "nextNumber", "(I)I"⟩
abbrev cX1_nextToken : ByteArray := prog_3_method_11_code
def yX1_nextToken : MethodName := ⟨RX1, "nextToken", "()V"⟩
abbrev cX1_isSmall : ByteArray := prog_3_method_12_code
def yX1_isSmall : MethodName := ⟨RX1, "isSmall", "(C)Z"⟩
abbrev cX1_isDigit : ByteArray := prog_3_method_13_code
def yX1_isDigit : MethodName := ⟨RX1, "isDigit", "(C)Z"⟩
def RX2 : String := "HenOracle$Told"
def TX2 : u_T := fun k => match k with
  | 0 => ("HenOracle$Told", "places", "I", false)
  | 1 => ("HenOracle$Told", "hens", "I", false)
  | 2 => ("HenOracle$Told", "meaning", "[I", true)
  | 3 => ("HenOracle$Told", "warm", "[I", true)
  | 4 => ("HenOracle$Told", "light", "[I", true)
  | 5 => ("HenOracle$Told", "kind", "[I", true)
  | 6 => ("HenOracle$Told", "habit", "[I", true)
  | _ => ("HenOracle$Told", "news", "[I", true)
def tyX2 : Nat → FieldType := fun k => match k with
  | 0 => .int
  | 1 => .int
  | 2 => .array .int
  | 3 => .array .int
  | 4 => .array .int
  | 5 => .array .int
  | 6 => .array .int
  | _ => .array .int
abbrev wsX20 : List Cond := u_ws RX2 TX2 8
theorem nmX2 : ∀ a, a < 8 → ∀ b, b < 8 → a ≠ b → (TX2 a).2.1 ≠ (TX2 b).2.1 := by decide +kernel
theorem tyX2_ok : ∀ k, k < 8 → parseFieldDescriptor (TX2 k).2.2.1 = some (tyX2 k) := by decide +kernel
abbrev cX2_init : ByteArray := prog_4_method_1_code
def yX2_init : MethodName := ⟨RX2, "<init>", "()V"⟩
abbrev cX2_clear : ByteArray := prog_4_method_2_code
def yX2_clear : MethodName := ⟨RX2, "clear", "()V"⟩
abbrev cX2_clearNews : ByteArray := prog_4_method_3_code
def yX2_clearNews : MethodName := ⟨RX2, "clearNews", "()V"⟩
abbrev cX2_addPlace : ByteArray := prog_4_method_4_code
def yX2_addPlace : MethodName := ⟨RX2, "addPlace", "(III)V"⟩
abbrev cX2_addHen : ByteArray := prog_4_method_5_code
def yX2_addHen : MethodName := ⟨RX2, "addHen", "(II)V"⟩
abbrev cX2_newsOf : ByteArray := prog_4_method_6_code
def yX2_newsOf : MethodName := ⟨RX2, "newsOf", "(I)I"⟩
abbrev cX2_copyFrom : ByteArray := prog_4_method_7_code
def yX2_copyFrom : MethodName := ⟨RX2, "copyFrom", "(LHenOracle$Told;)V"⟩
def RX3 : String := "HenOracle$Yard"
def TX3 : u_T := fun k => match k with
  | 0 => ("HenOracle$Yard", "meaning", "[I", true)
  | 1 => ("HenOracle$Yard", "warm", "[I", true)
  | 2 => ("HenOracle$Yard", "egg", "[I", true)
  | 3 => ("HenOracle$Yard", "worth", "[I", true)
  | 4 => ("HenOracle$Yard", "kind", "[I", true)
  | 5 => ("HenOracle$Yard", "habit", "[I", true)
  | 6 => ("HenOracle$Yard", "last", "[I", true)
  | 7 => ("HenOracle$Yard", "right", "[I", true)
  | 8 => ("HenOracle$Yard", "wrong", "[I", true)
  | 9 => ("HenOracle$Yard", "day", "I", false)
  | 10 => ("HenOracle$Yard", "thunders", "Z", false)
  | 11 => ("HenOracle$Yard", "eaten", "I", false)
  | 12 => ("HenOracle$Yard", "heeded", "I", false)
  | _ => ("HenOracle$Yard", "fortune", "I", false)
def tyX3 : Nat → FieldType := fun k => match k with
  | 0 => .array .int
  | 1 => .array .int
  | 2 => .array .int
  | 3 => .array .int
  | 4 => .array .int
  | 5 => .array .int
  | 6 => .array .int
  | 7 => .array .int
  | 8 => .array .int
  | 9 => .int
  | 10 => .boolean
  | 11 => .int
  | 12 => .int
  | _ => .int
abbrev wsX30 : List Cond := u_ws RX3 TX3 14
theorem nmX3 : ∀ a, a < 14 → ∀ b, b < 14 → a ≠ b → (TX3 a).2.1 ≠ (TX3 b).2.1 := by decide +kernel
theorem tyX3_ok : ∀ k, k < 14 → parseFieldDescriptor (TX3 k).2.2.1 = some (tyX3 k) := by decide +kernel
abbrev cX3_init : ByteArray := prog_5_method_1_code
def yX3_init : MethodName := ⟨RX3, "<init>", "()V"⟩
abbrev cX3_beginAs : ByteArray := prog_5_method_2_code
def yX3_beginAs : MethodName := ⟨RX3, "beginAs", "(LHenOracle$Told;)V"⟩
abbrev cX3_copyFrom : ByteArray := prog_5_method_3_code
def yX3_copyFrom : MethodName := ⟨RX3, "copyFrom", "(LHenOracle$Yard;)V"⟩
abbrev cX3_passDay : ByteArray := prog_5_method_4_code
def yX3_passDay : MethodName := ⟨RX3, "passDay", "(LHenOracle$Told;)V"⟩
abbrev cX3_laysToday : ByteArray := prog_5_method_5_code
def yX3_laysToday : MethodName := ⟨RX3, "laysToday", "(I)Z"⟩
abbrev cX3_favourite : ByteArray := prog_5_method_6_code
def yX3_favourite : MethodName := ⟨RX3, "favourite", "(LHenOracle$Told;I)I"⟩
abbrev cX3_layEgg : ByteArray := prog_5_method_7_code
def yX3_layEgg : MethodName := ⟨RX3, "layEgg", "(III)V"⟩
abbrev cX3_likes : ByteArray := prog_5_method_8_code
def yX3_likes : MethodName := ⟨RX3, "likes", "(LHenOracle$Told;II)I"⟩
abbrev cX3_placeOfEgg : ByteArray := prog_5_method_9_code
def yX3_placeOfEgg : MethodName := ⟨RX3, "placeOfEgg", "(I)I"⟩
abbrev cX3_eggBits : ByteArray := prog_5_method_10_code
def yX3_eggBits : MethodName := ⟨RX3, "eggBits", "()I"⟩
def RX4 : String := "HenOracle"
def TX4 : u_T := fun k => match k with
  | 0 => ("HenOracle", "text", "LHenOracle$Text;", true)
  | 1 => ("HenOracle", "told", "LHenOracle$Told;", true)
  | 2 => ("HenOracle", "draft", "LHenOracle$Told;", true)
  | 3 => ("HenOracle", "now", "LHenOracle$Yard;", true)
  | 4 => ("HenOracle", "foretold", "LHenOracle$Yard;", true)
  | 5 => ("HenOracle", "past", "[LHenOracle$Yard;", true)
  | 6 => ("HenOracle", "undoable", "I", false)
  | 7 => ("HenOracle", "kept", "[LHenOracle$Yard;", true)
  | 8 => ("HenOracle", "isKept", "[Z", true)
  | 9 => ("HenOracle", "sightings", "LHenOracle$Sightings;", true)
  | _ => ("HenOracle", "hits", "[I", true)
def tyX4 : Nat → FieldType := fun k => match k with
  | 0 => .object "HenOracle$Text"
  | 1 => .object "HenOracle$Told"
  | 2 => .object "HenOracle$Told"
  | 3 => .object "HenOracle$Yard"
  | 4 => .object "HenOracle$Yard"
  | 5 => .array (.object "HenOracle$Yard")
  | 6 => .int
  | 7 => .array (.object "HenOracle$Yard")
  | 8 => .array .boolean
  | 9 => .object "HenOracle$Sightings"
  | _ => .array .int
abbrev wsX40 : List Cond := u_ws RX4 TX4 11
theorem nmX4 : ∀ a, a < 11 → ∀ b, b < 11 → a ≠ b → (TX4 a).2.1 ≠ (TX4 b).2.1 := by decide +kernel
theorem tyX4_ok : ∀ k, k < 11 → parseFieldDescriptor (TX4 k).2.2.1 = some (tyX4 k) := by decide +kernel
abbrev cX4_init : ByteArray := prog_1_method_1_code
def yX4_init : MethodName := ⟨RX4, "<init>", "()V"⟩
abbrev cX4_write : ByteArray := prog_1_method_2_code
def yX4_write : MethodName := ⟨RX4, "write", "(I)I"⟩
abbrev cX4_erase : ByteArray := prog_1_method_3_code
def yX4_erase : MethodName := ⟨RX4, "erase", "()I"⟩
abbrev cX4_fault : ByteArray := prog_1_method_4_code
def yX4_fault : MethodName := ⟨RX4, "fault", "()I"⟩
abbrev cX4_yard : ByteArray := prog_1_method_5_code
def yX4_yard : MethodName := ⟨RX4, "yard", "()I"⟩
abbrev cX4_place : ByteArray := prog_1_method_6_code
def yX4_place : MethodName := ⟨RX4, "place", "(II)I"⟩
abbrev cX4_hen : ByteArray := prog_1_method_7_code
def yX4_hen : MethodName := ⟨RX4, "hen", "(II)I"⟩
abbrev cX4_news : ByteArray := prog_1_method_8_code
def yX4_news : MethodName := ⟨RX4, "news", "(I)I"⟩
abbrev cX4_as : ByteArray := prog_1_method_9_code
def yX4_as : MethodName := ⟨RX4, "as", "(II)I"⟩
abbrev cX4_day : ByteArray := prog_1_method_10_code
def yX4_day : MethodName := ⟨RX4, "day", "()I"⟩
abbrev cX4_thunder : ByteArray := prog_1_method_11_code
def yX4_thunder : MethodName := ⟨RX4, "thunder", "()I"⟩
abbrev cX4_straw : ByteArray := prog_1_method_12_code
def yX4_straw : MethodName := ⟨RX4, "straw", "(II)I"⟩
abbrev cX4_move : ByteArray := prog_1_method_13_code
def yX4_move : MethodName := ⟨RX4, "move", "(II)I"⟩
abbrev cX4_eat : ByteArray := prog_1_method_14_code
def yX4_eat : MethodName := ⟨RX4, "eat", "(I)I"⟩
abbrev cX4_heed : ByteArray := prog_1_method_15_code
def yX4_heed : MethodName := ⟨RX4, "heed", "(I)I"⟩
abbrev cX4_undo : ByteArray := prog_1_method_16_code
def yX4_undo : MethodName := ⟨RX4, "undo", "()I"⟩
abbrev cX4_keep : ByteArray := prog_1_method_17_code
def yX4_keep : MethodName := ⟨RX4, "keep", "(I)I"⟩
abbrev cX4_back : ByteArray := prog_1_method_18_code
def yX4_back : MethodName := ⟨RX4, "back", "(I)I"⟩
abbrev cX4_lays : ByteArray := prog_1_method_19_code
def yX4_lays : MethodName := ⟨RX4, "lays", "(II)I"⟩
abbrev cX4_rights : ByteArray := prog_1_method_20_code
def yX4_rights : MethodName := ⟨RX4, "rights", "(II)I"⟩
abbrev cX4_ask : ByteArray := prog_1_method_21_code
def yX4_ask : MethodName := ⟨RX4, "ask", "(II)I"⟩
abbrev cX4_trough : ByteArray := prog_1_method_22_code
def yX4_trough : MethodName := ⟨RX4, "trough", "(I)I"⟩
abbrev cX4_warmth : ByteArray := prog_1_method_23_code
def yX4_warmth : MethodName := ⟨RX4, "warmth", "(II)I"⟩
abbrev cX4_seen : ByteArray := prog_1_method_24_code
def yX4_seen : MethodName := ⟨RX4, "seen", "(III)I"⟩
abbrev cX4_forget : ByteArray := prog_1_method_25_code
def yX4_forget : MethodName := ⟨RX4, "forget", "()I"⟩
abbrev cX4_kinds : ByteArray := prog_1_method_26_code
def yX4_kinds : MethodName := ⟨RX4, "kinds", "(I)I"⟩
abbrev cX4_habits : ByteArray := prog_1_method_27_code
def yX4_habits : MethodName := ⟨RX4, "habits", "(I)I"⟩
abbrev cX4_foxes : ByteArray := prog_1_method_28_code
def yX4_foxes : MethodName := ⟨RX4, "foxes", "(IIII)I"⟩
abbrev cX4_count : ByteArray := prog_1_method_29_code
def yX4_count : MethodName := ⟨RX4, "count", "(I)I"⟩
abbrev cX4_isPlace : ByteArray := prog_1_method_30_code
def yX4_isPlace : MethodName := ⟨RX4, "isPlace", "(I)Z"⟩
abbrev cX4_isHen : ByteArray := prog_1_method_31_code
def yX4_isHen : MethodName := ⟨RX4, "isHen", "(I)Z"⟩
abbrev cX4_isUnder : ByteArray := prog_1_method_32_code
def yX4_isUnder : MethodName := ⟨RX4, "isUnder", "(II)Z"⟩
abbrev cX4_remember : ByteArray := prog_1_method_33_code
def yX4_remember : MethodName := ⟨RX4, "remember", "()V"⟩
abbrev cX4_dropOldest : ByteArray := prog_1_method_34_code
def yX4_dropOldest : MethodName := ⟨RX4, "dropOldest", "()V"⟩
abbrev cX4_foretell : ByteArray := prog_1_method_35_code
def yX4_foretell : MethodName := ⟨RX4, "foretell", "(I)V"⟩
abbrev cX4_rightsForetold : ByteArray := prog_1_method_36_code
def yX4_rightsForetold : MethodName := ⟨RX4, "rightsForetold", "(I)I"⟩
abbrev cX4_tallyHits : ByteArray := prog_1_method_37_code
def yX4_tallyHits : MethodName := ⟨RX4, "tallyHits", "(I)V"⟩
abbrev cX4_tallyEggs : ByteArray := prog_1_method_38_code
def yX4_tallyEggs : MethodName := ⟨RX4, "tallyEggs", "(I)V"⟩
abbrev cX4_gainOfMove : ByteArray := prog_1_method_39_code
def yX4_gainOfMove : MethodName := ⟨RX4, "gainOfMove", "(II)I"⟩
abbrev cX4_hitIndex : ByteArray := prog_1_method_40_code
def yX4_hitIndex : MethodName := ⟨RX4, "hitIndex", "(II)I"⟩
abbrev cX4_wouldBeSeen : ByteArray := prog_1_method_41_code
def yX4_wouldBeSeen : MethodName := ⟨RX4, "wouldBeSeen", "(III)Z"⟩
abbrev cX4_daysToFirstRight : ByteArray := prog_1_method_42_code
def yX4_daysToFirstRight : MethodName := ⟨RX4, "daysToFirstRight", "(II)I"⟩
abbrev cX4_power : ByteArray := prog_1_method_43_code
def yX4_power : MethodName := ⟨RX4, "power", "(II)I"⟩
abbrev cX4_commonDivisor : ByteArray := prog_1_method_44_code
def yX4_commonDivisor : MethodName := ⟨RX4, "commonDivisor", "(II)I"⟩
abbrev cX4_sum : ByteArray := prog_1_method_45_code
def yX4_sum : MethodName := ⟨RX4, "sum", "([I)I"⟩
def RX5 : String := "HenOracleModel"
def TX5 : u_T := fun k => match k with
  | 0 => ("HenOracleModel", "yard", "[I", true)
  | 1 => ("HenOracleModel", "read", "[I", true)
  | 2 => ("HenOracleModel", "now", "[I", true)
  | 3 => ("HenOracleModel", "past", "[I", true)
  | 4 => ("HenOracleModel", "undos", "I", false)
  | 5 => ("HenOracleModel", "keeps", "[I", true)
  | 6 => ("HenOracleModel", "kept", "[Z", true)
  | 7 => ("HenOracleModel", "text", "[I", true)
  | 8 => ("HenOracleModel", "size", "I", false)
  | 9 => ("HenOracleModel", "drops", "[I", true)
  | 10 => ("HenOracleModel", "dropMany", "I", false)
  | 11 => ("HenOracleModel", "at", "I", false)
  | 12 => ("HenOracleModel", "begin", "I", false)
  | 13 => ("HenOracleModel", "token", "I", false)
  | 14 => ("HenOracleModel", "word", "J", false)
  | 15 => ("HenOracleModel", "value", "I", false)
  | 16 => ("HenOracleModel", "clauses", "I", false)
  | 17 => ("HenOracleModel", "kinds", "[I", true)
  | 18 => ("HenOracleModel", "habits", "[I", true)
  | 19 => ("HenOracleModel", "laid", "[I", true)
  | _ => ("HenOracleModel", "aside", "[I", true)
def tyX5 : Nat → FieldType := fun k => match k with
  | 0 => .array .int
  | 1 => .array .int
  | 2 => .array .int
  | 3 => .array .int
  | 4 => .int
  | 5 => .array .int
  | 6 => .array .boolean
  | 7 => .array .int
  | 8 => .int
  | 9 => .array .int
  | 10 => .int
  | 11 => .int
  | 12 => .int
  | 13 => .int
  | 14 => .long
  | 15 => .int
  | 16 => .int
  | 17 => .array .int
  | 18 => .array .int
  | 19 => .array .int
  | _ => .array .int
abbrev wsX50 : List Cond := u_ws RX5 TX5 21
theorem nmX5 : ∀ a, a < 21 → ∀ b, b < 21 → a ≠ b → (TX5 a).2.1 ≠ (TX5 b).2.1 := by decide +kernel
theorem tyX5_ok : ∀ k, k < 21 → parseFieldDescriptor (TX5 k).2.2.1 = some (tyX5 k) := by decide +kernel
abbrev cX5_init : ByteArray := prog_7_method_1_code
def yX5_init : MethodName := ⟨RX5, "<init>", "()V"⟩
abbrev cX5_in : ByteArray := prog_7_method_3_code
def yX5_in : MethodName := ⟨RX5, "in", "(JJJ)Z"⟩
abbrev cX5_copies : ByteArray := prog_7_method_4_code
def yX5_copies : MethodName := ⟨RX5, "copies", "([II[III)V"⟩
abbrev cX5_blank : ByteArray := prog_7_method_5_code
def yX5_blank : MethodName := ⟨RX5, "blank", "([I)V"⟩
abbrev cX5_begins : ByteArray := prog_7_method_6_code
def yX5_begins : MethodName := ⟨RX5, "begins", "()V"⟩
abbrev cX5_write : ByteArray := prog_7_method_7_code
def yX5_write : MethodName := ⟨RX5, "write", "(I)I"⟩
abbrev cX5_erase : ByteArray := prog_7_method_8_code
def yX5_erase : MethodName := ⟨RX5, "erase", "()I"⟩
abbrev cX5_here : ByteArray := prog_7_method_9_code
def yX5_here : MethodName := ⟨RX5, "here", "()I"⟩
abbrev cX5_step : ByteArray := prog_7_method_10_code
def yX5_step : MethodName := ⟨RX5, "step", "()V"⟩
abbrev cX5_number : ByteArray := prog_7_method_11_code
def yX5_number : MethodName := ⟨RX5, "number", "(I)Z"⟩
abbrev cX5_readsPlace : ByteArray := prog_7_method_12_code
def yX5_readsPlace : MethodName := ⟨RX5, "readsPlace", "()Z"⟩
abbrev cX5_readsHen : ByteArray := prog_7_method_13_code
def yX5_readsHen : MethodName := ⟨RX5, "readsHen", "(I)Z"⟩
abbrev cX5_readsNews : ByteArray := prog_7_method_14_code
def yX5_readsNews : MethodName := ⟨RX5, "readsNews", "()Z"⟩
abbrev cX5_calm : ByteArray := prog_7_method_15_code
def yX5_calm : MethodName := ⟨RX5, "calm", "()Z"⟩
abbrev cX5_anew : ByteArray := prog_7_method_16_code
def yX5_anew : MethodName := ⟨RX5, "anew", "()Z"⟩
abbrev cX5_readsClause : ByteArray := prog_7_method_17_code
def yX5_readsClause : MethodName := ⟨RX5, "readsClause", "()Z"⟩
abbrev cX5_reads : ByteArray := prog_7_method_18_code
def yX5_reads : MethodName := ⟨RX5, "reads", "()I"⟩
abbrev cX5_fault : ByteArray := prog_7_method_19_code
def yX5_fault : MethodName := ⟨RX5, "fault", "()I"⟩
abbrev cX5_yard : ByteArray := prog_7_method_20_code
def yX5_yard : MethodName := ⟨RX5, "yard", "()I"⟩
abbrev cX5_isPlace : ByteArray := prog_7_method_21_code
def yX5_isPlace : MethodName := ⟨RX5, "isPlace", "(I)Z"⟩
abbrev cX5_isHen : ByteArray := prog_7_method_22_code
def yX5_isHen : MethodName := ⟨RX5, "isHen", "(I)Z"⟩
abbrev cX5_isTwo : ByteArray := prog_7_method_23_code
def yX5_isTwo : MethodName := ⟨RX5, "isTwo", "(I)Z"⟩
abbrev cX5_asTold : ByteArray := prog_7_method_24_code
def yX5_asTold : MethodName := ⟨RX5, "asTold", "()V"⟩
abbrev cX5_likes : ByteArray := prog_7_method_25_code
def yX5_likes : MethodName := ⟨RX5, "likes", "([III)I"⟩
abbrev cX5_bestOf : ByteArray := prog_7_method_26_code
def yX5_bestOf : MethodName := ⟨RX5, "bestOf", "([II)I"⟩
abbrev cX5_goes : ByteArray := prog_7_method_27_code
def yX5_goes : MethodName := ⟨RX5, "goes", "([I)I"⟩
abbrev cX5_place : ByteArray := prog_7_method_28_code
def yX5_place : MethodName := ⟨RX5, "place", "(II)I"⟩
abbrev cX5_hen : ByteArray := prog_7_method_29_code
def yX5_hen : MethodName := ⟨RX5, "hen", "(II)I"⟩
abbrev cX5_news : ByteArray := prog_7_method_30_code
def yX5_news : MethodName := ⟨RX5, "news", "(I)I"⟩
abbrev cX5_as : ByteArray := prog_7_method_31_code
def yX5_as : MethodName := ⟨RX5, "as", "(II)I"⟩
abbrev cX5_remember : ByteArray := prog_7_method_32_code
def yX5_remember : MethodName := ⟨RX5, "remember", "()V"⟩
abbrev cX5_day : ByteArray := prog_7_method_33_code
def yX5_day : MethodName := ⟨RX5, "day", "()I"⟩
abbrev cX5_thunder : ByteArray := prog_7_method_34_code
def yX5_thunder : MethodName := ⟨RX5, "thunder", "()I"⟩
abbrev cX5_straw : ByteArray := prog_7_method_35_code
def yX5_straw : MethodName := ⟨RX5, "straw", "(II)I"⟩
abbrev cX5_moves : ByteArray := prog_7_method_36_code
def yX5_moves : MethodName := ⟨RX5, "moves", "([III)V"⟩
abbrev cX5_move : ByteArray := prog_7_method_37_code
def yX5_move : MethodName := ⟨RX5, "move", "(II)I"⟩
abbrev cX5_eat : ByteArray := prog_7_method_38_code
def yX5_eat : MethodName := ⟨RX5, "eat", "(I)I"⟩
abbrev cX5_heed : ByteArray := prog_7_method_39_code
def yX5_heed : MethodName := ⟨RX5, "heed", "(I)I"⟩
abbrev cX5_undo : ByteArray := prog_7_method_40_code
def yX5_undo : MethodName := ⟨RX5, "undo", "()I"⟩
abbrev cX5_keep : ByteArray := prog_7_method_41_code
def yX5_keep : MethodName := ⟨RX5, "keep", "(I)I"⟩
abbrev cX5_back : ByteArray := prog_7_method_42_code
def yX5_back : MethodName := ⟨RX5, "back", "(I)I"⟩
abbrev cX5_layAside : ByteArray := prog_7_method_43_code
def yX5_layAside : MethodName := ⟨RX5, "layAside", "()V"⟩
abbrev cX5_go : ByteArray := prog_7_method_44_code
def yX5_go : MethodName := ⟨RX5, "go", "(I)V"⟩
abbrev cX5_lays : ByteArray := prog_7_method_45_code
def yX5_lays : MethodName := ⟨RX5, "lays", "(II)I"⟩
abbrev cX5_rights : ByteArray := prog_7_method_46_code
def yX5_rights : MethodName := ⟨RX5, "rights", "(II)I"⟩
abbrev cX5_ask : ByteArray := prog_7_method_47_code
def yX5_ask : MethodName := ⟨RX5, "ask", "(II)I"⟩
abbrev cX5_rightsOfAll : ByteArray := prog_7_method_48_code
def yX5_rightsOfAll : MethodName := ⟨RX5, "rightsOfAll", "([I)I"⟩
abbrev cX5_trough : ByteArray := prog_7_method_49_code
def yX5_trough : MethodName := ⟨RX5, "trough", "(I)I"⟩
abbrev cX5_warmth : ByteArray := prog_7_method_50_code
def yX5_warmth : MethodName := ⟨RX5, "warmth", "(II)I"⟩
abbrev cX5_seen : ByteArray := prog_7_method_51_code
def yX5_seen : MethodName := ⟨RX5, "seen", "(III)I"⟩
abbrev cX5_forget : ByteArray := prog_7_method_52_code
def yX5_forget : MethodName := ⟨RX5, "forget", "()I"⟩
abbrev cX5_comes : ByteArray := prog_7_method_53_code
def yX5_comes : MethodName := ⟨RX5, "comes", "(I)Z"⟩
abbrev cX5_kinds : ByteArray := prog_7_method_54_code
def yX5_kinds : MethodName := ⟨RX5, "kinds", "(I)I"⟩
abbrev cX5_habits : ByteArray := prog_7_method_55_code
def yX5_habits : MethodName := ⟨RX5, "habits", "(I)I"⟩
abbrev cX5_foxes : ByteArray := prog_7_method_56_code
def yX5_foxes : MethodName := ⟨RX5, "foxes", "(IIII)I"⟩
abbrev cX5_count : ByteArray := prog_7_method_57_code
def yX5_count : MethodName := ⟨RX5, "count", "(I)I"⟩
def RJ9 : String := "java/lang/Math"
abbrev cJ9_floorMod_7cf53 : ByteArray := prog_8_method_50_code
def yJ9_floorMod_7cf53 : MethodName := ⟨RJ9, "floorMod", "(II)I"⟩
abbrev cJ9_max_7cf53 : ByteArray := prog_8_method_65_code
def yJ9_max_7cf53 : MethodName := ⟨RJ9, "max", "(II)I"⟩
def RJ0 : String := "java/lang/String"
abbrev cJ0_length_8abf5 : ByteArray := prog_9_method_54_code
def yJ0_length_8abf5 : MethodName := ⟨RJ0, "length", "()I"⟩
abbrev cJ0_charAt_5068e : ByteArray := prog_9_method_56_code
def yJ0_charAt_5068e : MethodName := ⟨RJ0, "charAt", "(I)C"⟩
abbrev cJ0_coder_7d493 : ByteArray := prog_9_method_152_code
def yJ0_coder_7d493 : MethodName := ⟨RJ0, "coder", "()B"⟩
abbrev cJ0_isLatin1_aae02 : ByteArray := prog_9_method_154_code
def yJ0_isLatin1_aae02 : MethodName := ⟨RJ0, "isLatin1", "()Z"⟩
abbrev cJ0_checkIndex_df160 : ByteArray := prog_9_method_155_code
def yJ0_checkIndex_df160 : MethodName := ⟨RJ0, "checkIndex", "(II)V"⟩
def RJ1 : String := "java/lang/StringLatin1"
abbrev cJ1_charAt_3b067 : ByteArray := prog_10_method_2_code
def yJ1_charAt_3b067 : MethodName := ⟨RJ1, "charAt", "([BI)C"⟩
def RJ2 : String := "java/lang/StringUTF16"
abbrev cJ2_getChar_3b067 : ByteArray := prog_11_method_5_code
def yJ2_getChar_3b067 : MethodName := ⟨RJ2, "getChar", "([BI)C"⟩
abbrev cJ2_length_9d52b : ByteArray := prog_11_method_6_code
def yJ2_length_9d52b : MethodName := ⟨RJ2, "length", "([B)I"⟩
abbrev cJ2_charAt_3b067 : ByteArray := prog_11_method_83_code
def yJ2_charAt_3b067 : MethodName := ⟨RJ2, "charAt", "([BI)C"⟩
abbrev cJ2_checkIndex_2214a : ByteArray := prog_11_method_91_code
def yJ2_checkIndex_2214a : MethodName := ⟨RJ2, "checkIndex", "(I[B)V"⟩
def RJ10 : String := "java/lang/System"
def RJ7 : String := "java/util/Arrays"
abbrev cJ7_fill_53178 : ByteArray := prog_13_method_103_code
def yJ7_fill_53178 : MethodName := ⟨RJ7, "fill", "([II)V"⟩
def RJ3 : String := "jdk/internal/util/Preconditions"
abbrev cJ3_checkIndex_8e157 : ByteArray := prog_14_method_11_code
def yJ3_checkIndex_8e157 : MethodName := ⟨RJ3, "checkIndex", "(IILjava/util/function/BiFunction;)I"⟩
def RL : String := "HenOracleLaw"
abbrev cL_law : ByteArray := code
def yL_law : MethodName := ⟨RL, "law", "([I)Z"⟩
abbrev vwCl : List vw_C := [(RX0, TX0, 4), (RX1, TX1, 5), (RX2, TX2, 8), (RX3, TX3, 14), (RX4, TX4, 11), (RX5, TX5, 21)]
end
section
theorem dX0_init_0 : decode cX0_init 0 = .ok (.aload_n 0, 1) := by decide +kernel
theorem dX0_init_1 : decode cX0_init 1 = .ok (.invokespecial 3, 3) := by decide +kernel
theorem dX0_init_4 : decode cX0_init 4 = .ok (.aload_n 0, 1) := by decide +kernel
theorem dX0_init_5 : decode cX0_init 5 = .ok (.bipush 6, 2) := by decide +kernel
theorem dX0_init_7 : decode cX0_init 7 = .ok (.newarray .int, 2) := by decide +kernel
theorem dX0_init_9 : decode cX0_init 9 = .ok (.putfield 9, 3) := by decide +kernel
theorem dX0_init_12 : decode cX0_init 12 = .ok (.aload_n 0, 1) := by decide +kernel
theorem dX0_init_13 : decode cX0_init 13 = .ok (.bipush 6, 2) := by decide +kernel
theorem dX0_init_15 : decode cX0_init 15 = .ok (.newarray .int, 2) := by decide +kernel
theorem dX0_init_17 : decode cX0_init 17 = .ok (.putfield 15, 3) := by decide +kernel
theorem dX0_init_20 : decode cX0_init 20 = .ok (.aload_n 0, 1) := by decide +kernel
theorem dX0_init_21 : decode cX0_init 21 = .ok (.bipush 6, 2) := by decide +kernel
theorem dX0_init_23 : decode cX0_init 23 = .ok (.newarray .int, 2) := by decide +kernel
theorem dX0_init_25 : decode cX0_init 25 = .ok (.putfield 18, 3) := by decide +kernel
theorem dX0_init_28 : decode cX0_init 28 = .ok (.return_, 1) := by decide +kernel
theorem dX0_add_0 : decode cX0_add 0 = .ok (.aload_n 0, 1) := by decide +kernel
theorem dX0_add_1 : decode cX0_add 1 = .ok (.getfield 21, 3) := by decide +kernel
theorem dX0_add_4 : decode cX0_add 4 = .ok (.bipush 6, 2) := by decide +kernel
theorem dX0_add_6 : decode cX0_add 6 = .ok (.if_icmp .lt 4, 3) := by decide +kernel
theorem dX0_add_9 : decode cX0_add 9 = .ok (.return_, 1) := by decide +kernel
theorem dX0_add_10 : decode cX0_add 10 = .ok (.aload_n 0, 1) := by decide +kernel
theorem dX0_add_11 : decode cX0_add 11 = .ok (.getfield 9, 3) := by decide +kernel
theorem dX0_add_14 : decode cX0_add 14 = .ok (.aload_n 0, 1) := by decide +kernel
theorem dX0_add_15 : decode cX0_add 15 = .ok (.getfield 21, 3) := by decide +kernel
theorem dX0_add_18 : decode cX0_add 18 = .ok (.iload_n 1, 1) := by decide +kernel
theorem dX0_add_19 : decode cX0_add 19 = .ok (.iastore, 1) := by decide +kernel
theorem dX0_add_20 : decode cX0_add 20 = .ok (.aload_n 0, 1) := by decide +kernel
theorem dX0_add_21 : decode cX0_add 21 = .ok (.getfield 15, 3) := by decide +kernel
theorem dX0_add_24 : decode cX0_add 24 = .ok (.aload_n 0, 1) := by decide +kernel
theorem dX0_add_25 : decode cX0_add 25 = .ok (.getfield 21, 3) := by decide +kernel
theorem dX0_add_28 : decode cX0_add 28 = .ok (.iload_n 2, 1) := by decide +kernel
theorem dX0_add_29 : decode cX0_add 29 = .ok (.iastore, 1) := by decide +kernel
theorem dX0_add_30 : decode cX0_add 30 = .ok (.aload_n 0, 1) := by decide +kernel
theorem dX0_add_31 : decode cX0_add 31 = .ok (.getfield 18, 3) := by decide +kernel
theorem dX0_add_34 : decode cX0_add 34 = .ok (.aload_n 0, 1) := by decide +kernel
theorem dX0_add_35 : decode cX0_add 35 = .ok (.getfield 21, 3) := by decide +kernel
theorem dX0_add_38 : decode cX0_add 38 = .ok (.iload_n 3, 1) := by decide +kernel
theorem dX0_add_39 : decode cX0_add 39 = .ok (.iastore, 1) := by decide +kernel
theorem dX0_add_40 : decode cX0_add 40 = .ok (.aload_n 0, 1) := by decide +kernel
theorem dX0_add_41 : decode cX0_add 41 = .ok (.dup, 1) := by decide +kernel
theorem dX0_add_42 : decode cX0_add 42 = .ok (.getfield 21, 3) := by decide +kernel
theorem dX0_add_45 : decode cX0_add 45 = .ok (.iconst 1, 1) := by decide +kernel
theorem dX0_add_46 : decode cX0_add 46 = .ok (.iadd, 1) := by decide +kernel
theorem dX0_add_47 : decode cX0_add 47 = .ok (.putfield 21, 3) := by decide +kernel
theorem dX0_add_50 : decode cX0_add 50 = .ok (.return_, 1) := by decide +kernel
theorem dX0_lastDayOf_0 : decode cX0_lastDayOf 0 = .ok (.iconst 0, 1) := by decide +kernel
theorem dX0_lastDayOf_1 : decode cX0_lastDayOf 1 = .ok (.istore_n 2, 1) := by decide +kernel
theorem dX0_lastDayOf_2 : decode cX0_lastDayOf 2 = .ok (.iconst 0, 1) := by decide +kernel
theorem dX0_lastDayOf_3 : decode cX0_lastDayOf 3 = .ok (.istore_n 3, 1) := by decide +kernel
theorem dX0_lastDayOf_4 : decode cX0_lastDayOf 4 = .ok (.iload_n 3, 1) := by decide +kernel
theorem dX0_lastDayOf_5 : decode cX0_lastDayOf 5 = .ok (.aload_n 0, 1) := by decide +kernel
theorem dX0_lastDayOf_6 : decode cX0_lastDayOf 6 = .ok (.getfield 21, 3) := by decide +kernel
theorem dX0_lastDayOf_9 : decode cX0_lastDayOf 9 = .ok (.if_icmp .ge 30, 3) := by decide +kernel
theorem dX0_lastDayOf_12 : decode cX0_lastDayOf 12 = .ok (.aload_n 0, 1) := by decide +kernel
theorem dX0_lastDayOf_13 : decode cX0_lastDayOf 13 = .ok (.getfield 9, 3) := by decide +kernel
theorem dX0_lastDayOf_16 : decode cX0_lastDayOf 16 = .ok (.iload_n 3, 1) := by decide +kernel
theorem dX0_lastDayOf_17 : decode cX0_lastDayOf 17 = .ok (.iaload, 1) := by decide +kernel
theorem dX0_lastDayOf_18 : decode cX0_lastDayOf 18 = .ok (.iload_n 1, 1) := by decide +kernel
theorem dX0_lastDayOf_19 : decode cX0_lastDayOf 19 = .ok (.if_icmp .ne 14, 3) := by decide +kernel
theorem dX0_lastDayOf_22 : decode cX0_lastDayOf 22 = .ok (.iload_n 2, 1) := by decide +kernel
theorem dX0_lastDayOf_23 : decode cX0_lastDayOf 23 = .ok (.aload_n 0, 1) := by decide +kernel
theorem dX0_lastDayOf_24 : decode cX0_lastDayOf 24 = .ok (.getfield 15, 3) := by decide +kernel
theorem dX0_lastDayOf_27 : decode cX0_lastDayOf 27 = .ok (.iload_n 3, 1) := by decide +kernel
theorem dX0_lastDayOf_28 : decode cX0_lastDayOf 28 = .ok (.iaload, 1) := by decide +kernel
theorem dX0_lastDayOf_29 : decode cX0_lastDayOf 29 = .ok (.invokestatic 25, 3) := by decide +kernel
theorem dX0_lastDayOf_32 : decode cX0_lastDayOf 32 = .ok (.istore_n 2, 1) := by decide +kernel
theorem dX0_lastDayOf_33 : decode cX0_lastDayOf 33 = .ok (.iinc 3 1, 3) := by decide +kernel
theorem dX0_lastDayOf_36 : decode cX0_lastDayOf 36 = .ok (.goto (-32), 3) := by decide +kernel
theorem dX0_lastDayOf_39 : decode cX0_lastDayOf 39 = .ok (.iload_n 2, 1) := by decide +kernel
theorem dX0_lastDayOf_40 : decode cX0_lastDayOf 40 = .ok (.ireturn, 1) := by decide +kernel
theorem dX0_agree_0 : decode cX0_agree 0 = .ok (.iconst 0, 1) := by decide +kernel
theorem dX0_agree_1 : decode cX0_agree 1 = .ok (.istore 4, 2) := by decide +kernel
theorem dX0_agree_3 : decode cX0_agree 3 = .ok (.iload 4, 2) := by decide +kernel
theorem dX0_agree_5 : decode cX0_agree 5 = .ok (.aload_n 0, 1) := by decide +kernel
theorem dX0_agree_6 : decode cX0_agree 6 = .ok (.getfield 21, 3) := by decide +kernel
theorem dX0_agree_9 : decode cX0_agree 9 = .ok (.if_icmp .ge 44, 3) := by decide +kernel
theorem dX0_agree_12 : decode cX0_agree 12 = .ok (.aload_n 0, 1) := by decide +kernel
theorem dX0_agree_13 : decode cX0_agree 13 = .ok (.getfield 9, 3) := by decide +kernel
theorem dX0_agree_16 : decode cX0_agree 16 = .ok (.iload 4, 2) := by decide +kernel
theorem dX0_agree_18 : decode cX0_agree 18 = .ok (.iaload, 1) := by decide +kernel
theorem dX0_agree_19 : decode cX0_agree 19 = .ok (.iload_n 1, 1) := by decide +kernel
theorem dX0_agree_20 : decode cX0_agree 20 = .ok (.if_icmp .ne 27, 3) := by decide +kernel
theorem dX0_agree_23 : decode cX0_agree 23 = .ok (.aload_n 0, 1) := by decide +kernel
theorem dX0_agree_24 : decode cX0_agree 24 = .ok (.getfield 15, 3) := by decide +kernel
theorem dX0_agree_27 : decode cX0_agree 27 = .ok (.iload 4, 2) := by decide +kernel
theorem dX0_agree_29 : decode cX0_agree 29 = .ok (.iaload, 1) := by decide +kernel
theorem dX0_agree_30 : decode cX0_agree 30 = .ok (.iload_n 2, 1) := by decide +kernel
theorem dX0_agree_31 : decode cX0_agree 31 = .ok (.if_icmp .ne 16, 3) := by decide +kernel
theorem dX0_agree_34 : decode cX0_agree 34 = .ok (.aload_n 0, 1) := by decide +kernel
theorem dX0_agree_35 : decode cX0_agree 35 = .ok (.getfield 18, 3) := by decide +kernel
theorem dX0_agree_38 : decode cX0_agree 38 = .ok (.iload 4, 2) := by decide +kernel
theorem dX0_agree_40 : decode cX0_agree 40 = .ok (.iaload, 1) := by decide +kernel
theorem dX0_agree_41 : decode cX0_agree 41 = .ok (.iload_n 3, 1) := by decide +kernel
theorem dX0_agree_42 : decode cX0_agree 42 = .ok (.if_icmp .eq 5, 3) := by decide +kernel
theorem dX0_agree_45 : decode cX0_agree 45 = .ok (.iconst 0, 1) := by decide +kernel
theorem dX0_agree_46 : decode cX0_agree 46 = .ok (.ireturn, 1) := by decide +kernel
theorem dX0_agree_47 : decode cX0_agree 47 = .ok (.iinc 4 1, 3) := by decide +kernel
theorem dX0_agree_50 : decode cX0_agree 50 = .ok (.goto (-47), 3) := by decide +kernel
theorem dX0_agree_53 : decode cX0_agree 53 = .ok (.iconst 1, 1) := by decide +kernel
theorem dX0_agree_54 : decode cX0_agree 54 = .ok (.ireturn, 1) := by decide +kernel
theorem dX1_init_0 : decode cX1_init 0 = .ok (.aload_n 0, 1) := by decide +kernel
theorem dX1_init_1 : decode cX1_init 1 = .ok (.invokespecial 3, 3) := by decide +kernel
theorem dX1_init_4 : decode cX1_init 4 = .ok (.aload_n 0, 1) := by decide +kernel
theorem dX1_init_5 : decode cX1_init 5 = .ok (.sipush 160, 3) := by decide +kernel
theorem dX1_init_8 : decode cX1_init 8 = .ok (.newarray .char, 2) := by decide +kernel
theorem dX1_init_10 : decode cX1_init 10 = .ok (.putfield 9, 3) := by decide +kernel
theorem dX1_init_13 : decode cX1_init 13 = .ok (.return_, 1) := by decide +kernel
theorem dX1_append_0 : decode cX1_append 0 = .ok (.aload_n 0, 1) := by decide +kernel
theorem dX1_append_1 : decode cX1_append 1 = .ok (.getfield 15, 3) := by decide +kernel
theorem dX1_append_4 : decode cX1_append 4 = .ok (.sipush 160, 3) := by decide +kernel
theorem dX1_append_7 : decode cX1_append 7 = .ok (.if_icmp .lt 4, 3) := by decide +kernel
theorem dX1_append_10 : decode cX1_append 10 = .ok (.return_, 1) := by decide +kernel
theorem dX1_append_11 : decode cX1_append 11 = .ok (.aload_n 0, 1) := by decide +kernel
theorem dX1_append_12 : decode cX1_append 12 = .ok (.getfield 9, 3) := by decide +kernel
theorem dX1_append_15 : decode cX1_append 15 = .ok (.aload_n 0, 1) := by decide +kernel
theorem dX1_append_16 : decode cX1_append 16 = .ok (.getfield 15, 3) := by decide +kernel
theorem dX1_append_19 : decode cX1_append 19 = .ok (.iload_n 1, 1) := by decide +kernel
theorem dX1_append_20 : decode cX1_append 20 = .ok (.castore, 1) := by decide +kernel
theorem dX1_append_21 : decode cX1_append 21 = .ok (.aload_n 0, 1) := by decide +kernel
theorem dX1_append_22 : decode cX1_append 22 = .ok (.dup, 1) := by decide +kernel
theorem dX1_append_23 : decode cX1_append 23 = .ok (.getfield 15, 3) := by decide +kernel
theorem dX1_append_26 : decode cX1_append 26 = .ok (.iconst 1, 1) := by decide +kernel
theorem dX1_append_27 : decode cX1_append 27 = .ok (.iadd, 1) := by decide +kernel
theorem dX1_append_28 : decode cX1_append 28 = .ok (.putfield 15, 3) := by decide +kernel
theorem dX1_append_31 : decode cX1_append 31 = .ok (.return_, 1) := by decide +kernel
theorem dX1_readInto_0 : decode cX1_readInto 0 = .ok (.aload_n 0, 1) := by decide +kernel
theorem dX1_readInto_1 : decode cX1_readInto 1 = .ok (.iconst 0, 1) := by decide +kernel
theorem dX1_readInto_2 : decode cX1_readInto 2 = .ok (.putfield 19, 3) := by decide +kernel
theorem dX1_readInto_5 : decode cX1_readInto 5 = .ok (.aload_n 0, 1) := by decide +kernel
theorem dX1_readInto_6 : decode cX1_readInto 6 = .ok (.iconst 0, 1) := by decide +kernel
theorem dX1_readInto_7 : decode cX1_readInto 7 = .ok (.putfield 22, 3) := by decide +kernel
theorem dX1_readInto_10 : decode cX1_readInto 10 = .ok (.iconst 0, 1) := by decide +kernel
theorem dX1_readInto_11 : decode cX1_readInto 11 = .ok (.istore_n 2, 1) := by decide +kernel
theorem dX1_readInto_12 : decode cX1_readInto 12 = .ok (.iload_n 2, 1) := by decide +kernel
theorem dX1_readInto_13 : decode cX1_readInto 13 = .ok (.bipush 14, 2) := by decide +kernel
theorem dX1_readInto_15 : decode cX1_readInto 15 = .ok (.if_icmp .ge 68, 3) := by decide +kernel
theorem dX1_readInto_18 : decode cX1_readInto 18 = .ok (.aload_n 0, 1) := by decide +kernel
theorem dX1_readInto_19 : decode cX1_readInto 19 = .ok (.aload_n 1, 1) := by decide +kernel
theorem dX1_readInto_20 : decode cX1_readInto 20 = .ok (.invokevirtual 25, 3) := by decide +kernel
theorem dX1_readInto_23 : decode cX1_readInto 23 = .ok (.ifCond .ne 8, 3) := by decide +kernel
theorem dX1_readInto_26 : decode cX1_readInto 26 = .ok (.aload_n 0, 1) := by decide +kernel
theorem dX1_readInto_27 : decode cX1_readInto 27 = .ok (.getfield 29, 3) := by decide +kernel
theorem dX1_readInto_30 : decode cX1_readInto 30 = .ok (.ireturn, 1) := by decide +kernel
theorem dX1_readInto_31 : decode cX1_readInto 31 = .ok (.aload_n 0, 1) := by decide +kernel
theorem dX1_readInto_32 : decode cX1_readInto 32 = .ok (.dup, 1) := by decide +kernel
theorem dX1_readInto_33 : decode cX1_readInto 33 = .ok (.getfield 19, 3) := by decide +kernel
theorem dX1_readInto_36 : decode cX1_readInto 36 = .ok (.iconst 1, 1) := by decide +kernel
theorem dX1_readInto_37 : decode cX1_readInto 37 = .ok (.iadd, 1) := by decide +kernel
theorem dX1_readInto_38 : decode cX1_readInto 38 = .ok (.putfield 19, 3) := by decide +kernel
theorem dX1_readInto_41 : decode cX1_readInto 41 = .ok (.aload_n 0, 1) := by decide +kernel
theorem dX1_readInto_42 : decode cX1_readInto 42 = .ok (.invokevirtual 32, 3) := by decide +kernel
theorem dX1_readInto_45 : decode cX1_readInto 45 = .ok (.aload_n 0, 1) := by decide +kernel
theorem dX1_readInto_46 : decode cX1_readInto 46 = .ok (.getfield 29, 3) := by decide +kernel
theorem dX1_readInto_49 : decode cX1_readInto 49 = .ok (.aload_n 0, 1) := by decide +kernel
theorem dX1_readInto_50 : decode cX1_readInto 50 = .ok (.getfield 15, 3) := by decide +kernel
theorem dX1_readInto_53 : decode cX1_readInto 53 = .ok (.if_icmp .lt 5, 3) := by decide +kernel
theorem dX1_readInto_56 : decode cX1_readInto 56 = .ok (.iconst (-1), 1) := by decide +kernel
theorem dX1_readInto_57 : decode cX1_readInto 57 = .ok (.ireturn, 1) := by decide +kernel
theorem dX1_readInto_58 : decode cX1_readInto 58 = .ok (.aload_n 0, 1) := by decide +kernel
theorem dX1_readInto_59 : decode cX1_readInto 59 = .ok (.getfield 9, 3) := by decide +kernel
theorem dX1_readInto_62 : decode cX1_readInto 62 = .ok (.aload_n 0, 1) := by decide +kernel
theorem dX1_readInto_63 : decode cX1_readInto 63 = .ok (.getfield 29, 3) := by decide +kernel
theorem dX1_readInto_66 : decode cX1_readInto 66 = .ok (.caload, 1) := by decide +kernel
theorem dX1_readInto_67 : decode cX1_readInto 67 = .ok (.bipush 59, 2) := by decide +kernel
theorem dX1_readInto_69 : decode cX1_readInto 69 = .ok (.if_icmp .eq 8, 3) := by decide +kernel
theorem dX1_readInto_72 : decode cX1_readInto 72 = .ok (.aload_n 0, 1) := by decide +kernel
theorem dX1_readInto_73 : decode cX1_readInto 73 = .ok (.getfield 29, 3) := by decide +kernel
theorem dX1_readInto_76 : decode cX1_readInto 76 = .ok (.ireturn, 1) := by decide +kernel
theorem dX1_readInto_77 : decode cX1_readInto 77 = .ok (.iinc 2 1, 3) := by decide +kernel
theorem dX1_readInto_80 : decode cX1_readInto 80 = .ok (.goto (-68), 3) := by decide +kernel
theorem dX1_readInto_83 : decode cX1_readInto 83 = .ok (.aload_n 0, 1) := by decide +kernel
theorem dX1_readInto_84 : decode cX1_readInto 84 = .ok (.getfield 29, 3) := by decide +kernel
theorem dX1_readInto_87 : decode cX1_readInto 87 = .ok (.ireturn, 1) := by decide +kernel
theorem dX1_readClause_0 : decode cX1_readClause 0 = .ok (.aload_n 0, 1) := by decide +kernel
theorem dX1_readClause_1 : decode cX1_readClause 1 = .ok (.invokevirtual 32, 3) := by decide +kernel
theorem dX1_readClause_4 : decode cX1_readClause 4 = .ok (.aload_n 0, 1) := by decide +kernel
theorem dX1_readClause_5 : decode cX1_readClause 5 = .ok (.ldc 35, 2) := by decide +kernel
theorem dX1_readClause_7 : decode cX1_readClause 7 = .ok (.invokevirtual 37, 3) := by decide +kernel
theorem dX1_readClause_10 : decode cX1_readClause 10 = .ok (.ifCond .eq 9, 3) := by decide +kernel
theorem dX1_readClause_13 : decode cX1_readClause 13 = .ok (.aload_n 1, 1) := by decide +kernel
theorem dX1_readClause_14 : decode cX1_readClause 14 = .ok (.invokevirtual 41, 3) := by decide +kernel
theorem dX1_readClause_17 : decode cX1_readClause 17 = .ok (.iconst 1, 1) := by decide +kernel
theorem dX1_readClause_18 : decode cX1_readClause 18 = .ok (.ireturn, 1) := by decide +kernel
theorem dX1_readClause_19 : decode cX1_readClause 19 = .ok (.aload_n 0, 1) := by decide +kernel
theorem dX1_readClause_20 : decode cX1_readClause 20 = .ok (.ldc 46, 2) := by decide +kernel
theorem dX1_readClause_22 : decode cX1_readClause 22 = .ok (.invokevirtual 37, 3) := by decide +kernel
theorem dX1_readClause_25 : decode cX1_readClause 25 = .ok (.ifCond .eq 9, 3) := by decide +kernel
theorem dX1_readClause_28 : decode cX1_readClause 28 = .ok (.aload_n 1, 1) := by decide +kernel
theorem dX1_readClause_29 : decode cX1_readClause 29 = .ok (.invokevirtual 48, 3) := by decide +kernel
theorem dX1_readClause_32 : decode cX1_readClause 32 = .ok (.iconst 1, 1) := by decide +kernel
theorem dX1_readClause_33 : decode cX1_readClause 33 = .ok (.ireturn, 1) := by decide +kernel
theorem dX1_readClause_34 : decode cX1_readClause 34 = .ok (.aload_n 0, 1) := by decide +kernel
theorem dX1_readClause_35 : decode cX1_readClause 35 = .ok (.ldc 51, 2) := by decide +kernel
theorem dX1_readClause_37 : decode cX1_readClause 37 = .ok (.invokevirtual 37, 3) := by decide +kernel
theorem dX1_readClause_40 : decode cX1_readClause 40 = .ok (.ifCond .eq 26, 3) := by decide +kernel
theorem dX1_readClause_43 : decode cX1_readClause 43 = .ok (.aload_n 1, 1) := by decide +kernel
theorem dX1_readClause_44 : decode cX1_readClause 44 = .ok (.getfield 53, 3) := by decide +kernel
theorem dX1_readClause_47 : decode cX1_readClause 47 = .ok (.bipush 8, 2) := by decide +kernel
theorem dX1_readClause_49 : decode cX1_readClause 49 = .ok (.if_icmp .ge 15, 3) := by decide +kernel
theorem dX1_readClause_52 : decode cX1_readClause 52 = .ok (.aload_n 0, 1) := by decide +kernel
theorem dX1_readClause_53 : decode cX1_readClause 53 = .ok (.aload_n 1, 1) := by decide +kernel
theorem dX1_readClause_54 : decode cX1_readClause 54 = .ok (.invokevirtual 56, 3) := by decide +kernel
theorem dX1_readClause_57 : decode cX1_readClause 57 = .ok (.ifCond .eq 7, 3) := by decide +kernel
theorem dX1_readClause_60 : decode cX1_readClause 60 = .ok (.iconst 1, 1) := by decide +kernel
theorem dX1_readClause_61 : decode cX1_readClause 61 = .ok (.goto 4, 3) := by decide +kernel
theorem dX1_readClause_64 : decode cX1_readClause 64 = .ok (.iconst 0, 1) := by decide +kernel
theorem dX1_readClause_65 : decode cX1_readClause 65 = .ok (.ireturn, 1) := by decide +kernel
theorem dX1_readClause_66 : decode cX1_readClause 66 = .ok (.aload_n 0, 1) := by decide +kernel
theorem dX1_readClause_67 : decode cX1_readClause 67 = .ok (.ldc 59, 2) := by decide +kernel
theorem dX1_readClause_69 : decode cX1_readClause 69 = .ok (.invokevirtual 37, 3) := by decide +kernel
theorem dX1_readClause_72 : decode cX1_readClause 72 = .ok (.ifCond .eq 9, 3) := by decide +kernel
theorem dX1_readClause_75 : decode cX1_readClause 75 = .ok (.aload_n 0, 1) := by decide +kernel
theorem dX1_readClause_76 : decode cX1_readClause 76 = .ok (.aload_n 1, 1) := by decide +kernel
theorem dX1_readClause_77 : decode cX1_readClause 77 = .ok (.invokevirtual 61, 3) := by decide +kernel
theorem dX1_readClause_80 : decode cX1_readClause 80 = .ok (.ireturn, 1) := by decide +kernel
theorem dX1_readClause_81 : decode cX1_readClause 81 = .ok (.aload_n 0, 1) := by decide +kernel
theorem dX1_readClause_82 : decode cX1_readClause 82 = .ok (.invokevirtual 64, 3) := by decide +kernel
theorem dX1_readClause_85 : decode cX1_readClause 85 = .ok (.istore_n 2, 1) := by decide +kernel
theorem dX1_readClause_86 : decode cX1_readClause 86 = .ok (.iload_n 2, 1) := by decide +kernel
theorem dX1_readClause_87 : decode cX1_readClause 87 = .ok (.iconst (-1), 1) := by decide +kernel
theorem dX1_readClause_88 : decode cX1_readClause 88 = .ok (.if_icmp .eq 24, 3) := by decide +kernel
theorem dX1_readClause_91 : decode cX1_readClause 91 = .ok (.aload_n 1, 1) := by decide +kernel
theorem dX1_readClause_92 : decode cX1_readClause 92 = .ok (.getfield 68, 3) := by decide +kernel
theorem dX1_readClause_95 : decode cX1_readClause 95 = .ok (.iconst 5, 1) := by decide +kernel
theorem dX1_readClause_96 : decode cX1_readClause 96 = .ok (.if_icmp .ge 16, 3) := by decide +kernel
theorem dX1_readClause_99 : decode cX1_readClause 99 = .ok (.aload_n 0, 1) := by decide +kernel
theorem dX1_readClause_100 : decode cX1_readClause 100 = .ok (.aload_n 1, 1) := by decide +kernel
theorem dX1_readClause_101 : decode cX1_readClause 101 = .ok (.iload_n 2, 1) := by decide +kernel
theorem dX1_readClause_102 : decode cX1_readClause 102 = .ok (.invokevirtual 71, 3) := by decide +kernel
theorem dX1_readClause_105 : decode cX1_readClause 105 = .ok (.ifCond .eq 7, 3) := by decide +kernel
theorem dX1_readClause_108 : decode cX1_readClause 108 = .ok (.iconst 1, 1) := by decide +kernel
theorem dX1_readClause_109 : decode cX1_readClause 109 = .ok (.goto 4, 3) := by decide +kernel
theorem dX1_readClause_112 : decode cX1_readClause 112 = .ok (.iconst 0, 1) := by decide +kernel
theorem dX1_readClause_113 : decode cX1_readClause 113 = .ok (.ireturn, 1) := by decide +kernel
theorem dX1_readPlace_0 : decode cX1_readPlace 0 = .ok (.aload_n 0, 1) := by decide +kernel
theorem dX1_readPlace_1 : decode cX1_readPlace 1 = .ok (.bipush 7, 2) := by decide +kernel
theorem dX1_readPlace_3 : decode cX1_readPlace 3 = .ok (.invokevirtual 75, 3) := by decide +kernel
theorem dX1_readPlace_6 : decode cX1_readPlace 6 = .ok (.istore_n 2, 1) := by decide +kernel
theorem dX1_readPlace_7 : decode cX1_readPlace 7 = .ok (.iload_n 2, 1) := by decide +kernel
theorem dX1_readPlace_8 : decode cX1_readPlace 8 = .ok (.iconst (-1), 1) := by decide +kernel
theorem dX1_readPlace_9 : decode cX1_readPlace 9 = .ok (.if_icmp .ne 5, 3) := by decide +kernel
theorem dX1_readPlace_12 : decode cX1_readPlace 12 = .ok (.iconst 0, 1) := by decide +kernel
theorem dX1_readPlace_13 : decode cX1_readPlace 13 = .ok (.ireturn, 1) := by decide +kernel
theorem dX1_readPlace_14 : decode cX1_readPlace 14 = .ok (.aload_n 0, 1) := by decide +kernel
theorem dX1_readPlace_15 : decode cX1_readPlace 15 = .ok (.bipush 9, 2) := by decide +kernel
theorem dX1_readPlace_17 : decode cX1_readPlace 17 = .ok (.invokevirtual 75, 3) := by decide +kernel
theorem dX1_readPlace_20 : decode cX1_readPlace 20 = .ok (.istore_n 3, 1) := by decide +kernel
theorem dX1_readPlace_21 : decode cX1_readPlace 21 = .ok (.iload_n 3, 1) := by decide +kernel
theorem dX1_readPlace_22 : decode cX1_readPlace 22 = .ok (.iconst (-1), 1) := by decide +kernel
theorem dX1_readPlace_23 : decode cX1_readPlace 23 = .ok (.if_icmp .ne 5, 3) := by decide +kernel
theorem dX1_readPlace_26 : decode cX1_readPlace 26 = .ok (.iconst 0, 1) := by decide +kernel
theorem dX1_readPlace_27 : decode cX1_readPlace 27 = .ok (.ireturn, 1) := by decide +kernel
theorem dX1_readPlace_28 : decode cX1_readPlace 28 = .ok (.aload_n 0, 1) := by decide +kernel
theorem dX1_readPlace_29 : decode cX1_readPlace 29 = .ok (.bipush 9, 2) := by decide +kernel
theorem dX1_readPlace_31 : decode cX1_readPlace 31 = .ok (.invokevirtual 75, 3) := by decide +kernel
theorem dX1_readPlace_34 : decode cX1_readPlace 34 = .ok (.istore 4, 2) := by decide +kernel
theorem dX1_readPlace_36 : decode cX1_readPlace 36 = .ok (.iload 4, 2) := by decide +kernel
theorem dX1_readPlace_38 : decode cX1_readPlace 38 = .ok (.iconst (-1), 1) := by decide +kernel
theorem dX1_readPlace_39 : decode cX1_readPlace 39 = .ok (.if_icmp .ne 5, 3) := by decide +kernel
theorem dX1_readPlace_42 : decode cX1_readPlace 42 = .ok (.iconst 0, 1) := by decide +kernel
theorem dX1_readPlace_43 : decode cX1_readPlace 43 = .ok (.ireturn, 1) := by decide +kernel
theorem dX1_readPlace_44 : decode cX1_readPlace 44 = .ok (.aload_n 1, 1) := by decide +kernel
theorem dX1_readPlace_45 : decode cX1_readPlace 45 = .ok (.iload_n 2, 1) := by decide +kernel
theorem dX1_readPlace_46 : decode cX1_readPlace 46 = .ok (.iload_n 3, 1) := by decide +kernel
theorem dX1_readPlace_47 : decode cX1_readPlace 47 = .ok (.iload 4, 2) := by decide +kernel
theorem dX1_readPlace_49 : decode cX1_readPlace 49 = .ok (.invokevirtual 79, 3) := by decide +kernel
theorem dX1_readPlace_52 : decode cX1_readPlace 52 = .ok (.iconst 1, 1) := by decide +kernel
theorem dX1_readPlace_53 : decode cX1_readPlace 53 = .ok (.ireturn, 1) := by decide +kernel
theorem dX1_readNews_0 : decode cX1_readNews 0 = .ok (.aload_n 0, 1) := by decide +kernel
theorem dX1_readNews_1 : decode cX1_readNews 1 = .ok (.bipush 13, 2) := by decide +kernel
theorem dX1_readNews_3 : decode cX1_readNews 3 = .ok (.invokevirtual 75, 3) := by decide +kernel
theorem dX1_readNews_6 : decode cX1_readNews 6 = .ok (.istore_n 2, 1) := by decide +kernel
theorem dX1_readNews_7 : decode cX1_readNews 7 = .ok (.iload_n 2, 1) := by decide +kernel
theorem dX1_readNews_8 : decode cX1_readNews 8 = .ok (.iconst (-1), 1) := by decide +kernel
theorem dX1_readNews_9 : decode cX1_readNews 9 = .ok (.if_icmp .ne 5, 3) := by decide +kernel
theorem dX1_readNews_12 : decode cX1_readNews 12 = .ok (.iconst 0, 1) := by decide +kernel
theorem dX1_readNews_13 : decode cX1_readNews 13 = .ok (.ireturn, 1) := by decide +kernel
theorem dX1_readNews_14 : decode cX1_readNews 14 = .ok (.aload_n 0, 1) := by decide +kernel
theorem dX1_readNews_15 : decode cX1_readNews 15 = .ok (.bipush 7, 2) := by decide +kernel
theorem dX1_readNews_17 : decode cX1_readNews 17 = .ok (.invokevirtual 75, 3) := by decide +kernel
theorem dX1_readNews_20 : decode cX1_readNews 20 = .ok (.istore_n 3, 1) := by decide +kernel
theorem dX1_readNews_21 : decode cX1_readNews 21 = .ok (.iload_n 3, 1) := by decide +kernel
theorem dX1_readNews_22 : decode cX1_readNews 22 = .ok (.iconst (-1), 1) := by decide +kernel
theorem dX1_readNews_23 : decode cX1_readNews 23 = .ok (.if_icmp .ne 5, 3) := by decide +kernel
theorem dX1_readNews_26 : decode cX1_readNews 26 = .ok (.iconst 0, 1) := by decide +kernel
theorem dX1_readNews_27 : decode cX1_readNews 27 = .ok (.ireturn, 1) := by decide +kernel
theorem dX1_readNews_28 : decode cX1_readNews 28 = .ok (.aload_n 1, 1) := by decide +kernel
theorem dX1_readNews_29 : decode cX1_readNews 29 = .ok (.getfield 83, 3) := by decide +kernel
theorem dX1_readNews_32 : decode cX1_readNews 32 = .ok (.iload_n 2, 1) := by decide +kernel
theorem dX1_readNews_33 : decode cX1_readNews 33 = .ok (.iload_n 3, 1) := by decide +kernel
theorem dX1_readNews_34 : decode cX1_readNews 34 = .ok (.iastore, 1) := by decide +kernel
theorem dX1_readNews_35 : decode cX1_readNews 35 = .ok (.iconst 1, 1) := by decide +kernel
theorem dX1_readNews_36 : decode cX1_readNews 36 = .ok (.ireturn, 1) := by decide +kernel
theorem dX1_readHen_0 : decode cX1_readHen 0 = .ok (.aload_n 0, 1) := by decide +kernel
theorem dX1_readHen_1 : decode cX1_readHen 1 = .ok (.bipush 9, 2) := by decide +kernel
theorem dX1_readHen_3 : decode cX1_readHen 3 = .ok (.invokevirtual 75, 3) := by decide +kernel
theorem dX1_readHen_6 : decode cX1_readHen 6 = .ok (.istore_n 3, 1) := by decide +kernel
theorem dX1_readHen_7 : decode cX1_readHen 7 = .ok (.iload_n 3, 1) := by decide +kernel
theorem dX1_readHen_8 : decode cX1_readHen 8 = .ok (.iconst (-1), 1) := by decide +kernel
theorem dX1_readHen_9 : decode cX1_readHen 9 = .ok (.if_icmp .ne 5, 3) := by decide +kernel
theorem dX1_readHen_12 : decode cX1_readHen 12 = .ok (.iconst 0, 1) := by decide +kernel
theorem dX1_readHen_13 : decode cX1_readHen 13 = .ok (.ireturn, 1) := by decide +kernel
theorem dX1_readHen_14 : decode cX1_readHen 14 = .ok (.aload_n 1, 1) := by decide +kernel
theorem dX1_readHen_15 : decode cX1_readHen 15 = .ok (.iload_n 2, 1) := by decide +kernel
theorem dX1_readHen_16 : decode cX1_readHen 16 = .ok (.iload_n 3, 1) := by decide +kernel
theorem dX1_readHen_17 : decode cX1_readHen 17 = .ok (.invokevirtual 86, 3) := by decide +kernel
theorem dX1_readHen_20 : decode cX1_readHen 20 = .ok (.iconst 1, 1) := by decide +kernel
theorem dX1_readHen_21 : decode cX1_readHen 21 = .ok (.ireturn, 1) := by decide +kernel
theorem dX1_kindRead_0 : decode cX1_kindRead 0 = .ok (.aload_n 0, 1) := by decide +kernel
theorem dX1_kindRead_1 : decode cX1_kindRead 1 = .ok (.ldc 90, 2) := by decide +kernel
theorem dX1_kindRead_3 : decode cX1_kindRead 3 = .ok (.invokevirtual 37, 3) := by decide +kernel
theorem dX1_kindRead_6 : decode cX1_kindRead 6 = .ok (.ifCond .eq 5, 3) := by decide +kernel
theorem dX1_kindRead_9 : decode cX1_kindRead 9 = .ok (.iconst 0, 1) := by decide +kernel
theorem dX1_kindRead_10 : decode cX1_kindRead 10 = .ok (.ireturn, 1) := by decide +kernel
theorem dX1_kindRead_11 : decode cX1_kindRead 11 = .ok (.aload_n 0, 1) := by decide +kernel
theorem dX1_kindRead_12 : decode cX1_kindRead 12 = .ok (.ldc 92, 2) := by decide +kernel
theorem dX1_kindRead_14 : decode cX1_kindRead 14 = .ok (.invokevirtual 37, 3) := by decide +kernel
theorem dX1_kindRead_17 : decode cX1_kindRead 17 = .ok (.ifCond .eq 5, 3) := by decide +kernel
theorem dX1_kindRead_20 : decode cX1_kindRead 20 = .ok (.iconst 1, 1) := by decide +kernel
theorem dX1_kindRead_21 : decode cX1_kindRead 21 = .ok (.ireturn, 1) := by decide +kernel
theorem dX1_kindRead_22 : decode cX1_kindRead 22 = .ok (.aload_n 0, 1) := by decide +kernel
theorem dX1_kindRead_23 : decode cX1_kindRead 23 = .ok (.ldc 94, 2) := by decide +kernel
theorem dX1_kindRead_25 : decode cX1_kindRead 25 = .ok (.invokevirtual 37, 3) := by decide +kernel
theorem dX1_kindRead_28 : decode cX1_kindRead 28 = .ok (.ifCond .eq 5, 3) := by decide +kernel
theorem dX1_kindRead_31 : decode cX1_kindRead 31 = .ok (.iconst 2, 1) := by decide +kernel
theorem dX1_kindRead_32 : decode cX1_kindRead 32 = .ok (.ireturn, 1) := by decide +kernel
theorem dX1_kindRead_33 : decode cX1_kindRead 33 = .ok (.aload_n 0, 1) := by decide +kernel
theorem dX1_kindRead_34 : decode cX1_kindRead 34 = .ok (.ldc 96, 2) := by decide +kernel
theorem dX1_kindRead_36 : decode cX1_kindRead 36 = .ok (.invokevirtual 37, 3) := by decide +kernel
theorem dX1_kindRead_39 : decode cX1_kindRead 39 = .ok (.ifCond .eq 7, 3) := by decide +kernel
theorem dX1_kindRead_42 : decode cX1_kindRead 42 = .ok (.iconst 3, 1) := by decide +kernel
theorem dX1_kindRead_43 : decode cX1_kindRead 43 = .ok (.goto 4, 3) := by decide +kernel
theorem dX1_kindRead_46 : decode cX1_kindRead 46 = .ok (.iconst (-1), 1) := by decide +kernel
theorem dX1_kindRead_47 : decode cX1_kindRead 47 = .ok (.ireturn, 1) := by decide +kernel
theorem dX1_reads_0 : decode cX1_reads 0 = .ok (.aload_n 0, 1) := by decide +kernel
theorem dX1_reads_1 : decode cX1_reads 1 = .ok (.getfield 22, 3) := by decide +kernel
theorem dX1_reads_4 : decode cX1_reads 4 = .ok (.aload_n 0, 1) := by decide +kernel
theorem dX1_reads_5 : decode cX1_reads 5 = .ok (.getfield 29, 3) := by decide +kernel
theorem dX1_reads_8 : decode cX1_reads 8 = .ok (.isub, 1) := by decide +kernel
theorem dX1_reads_9 : decode cX1_reads 9 = .ok (.aload_n 1, 1) := by decide +kernel
theorem dX1_reads_10 : decode cX1_reads 10 = .ok (.invokevirtual 98, 3) := by decide +kernel
theorem dX1_reads_13 : decode cX1_reads 13 = .ok (.if_icmp .eq 5, 3) := by decide +kernel
theorem dX1_reads_16 : decode cX1_reads 16 = .ok (.iconst 0, 1) := by decide +kernel
theorem dX1_reads_17 : decode cX1_reads 17 = .ok (.ireturn, 1) := by decide +kernel
theorem dX1_reads_18 : decode cX1_reads 18 = .ok (.iconst 0, 1) := by decide +kernel
theorem dX1_reads_19 : decode cX1_reads 19 = .ok (.istore_n 2, 1) := by decide +kernel
theorem dX1_reads_20 : decode cX1_reads 20 = .ok (.iload_n 2, 1) := by decide +kernel
theorem dX1_reads_21 : decode cX1_reads 21 = .ok (.aload_n 1, 1) := by decide +kernel
theorem dX1_reads_22 : decode cX1_reads 22 = .ok (.invokevirtual 98, 3) := by decide +kernel
theorem dX1_reads_25 : decode cX1_reads 25 = .ok (.if_icmp .ge 30, 3) := by decide +kernel
theorem dX1_reads_28 : decode cX1_reads 28 = .ok (.aload_n 0, 1) := by decide +kernel
theorem dX1_reads_29 : decode cX1_reads 29 = .ok (.getfield 9, 3) := by decide +kernel
theorem dX1_reads_32 : decode cX1_reads 32 = .ok (.aload_n 0, 1) := by decide +kernel
theorem dX1_reads_33 : decode cX1_reads 33 = .ok (.getfield 29, 3) := by decide +kernel
theorem dX1_reads_36 : decode cX1_reads 36 = .ok (.iload_n 2, 1) := by decide +kernel
theorem dX1_reads_37 : decode cX1_reads 37 = .ok (.iadd, 1) := by decide +kernel
theorem dX1_reads_38 : decode cX1_reads 38 = .ok (.caload, 1) := by decide +kernel
theorem dX1_reads_39 : decode cX1_reads 39 = .ok (.aload_n 1, 1) := by decide +kernel
theorem dX1_reads_40 : decode cX1_reads 40 = .ok (.iload_n 2, 1) := by decide +kernel
theorem dX1_reads_41 : decode cX1_reads 41 = .ok (.invokevirtual 102, 3) := by decide +kernel
theorem dX1_reads_44 : decode cX1_reads 44 = .ok (.if_icmp .eq 5, 3) := by decide +kernel
theorem dX1_reads_47 : decode cX1_reads 47 = .ok (.iconst 0, 1) := by decide +kernel
theorem dX1_reads_48 : decode cX1_reads 48 = .ok (.ireturn, 1) := by decide +kernel
theorem dX1_reads_49 : decode cX1_reads 49 = .ok (.iinc 2 1, 3) := by decide +kernel
theorem dX1_reads_52 : decode cX1_reads 52 = .ok (.goto (-32), 3) := by decide +kernel
theorem dX1_reads_55 : decode cX1_reads 55 = .ok (.iconst 1, 1) := by decide +kernel
theorem dX1_reads_56 : decode cX1_reads 56 = .ok (.ireturn, 1) := by decide +kernel
theorem dX1_nextNumber_0 : decode cX1_nextNumber 0 = .ok (.aload_n 0, 1) := by decide +kernel
theorem dX1_nextNumber_1 : decode cX1_nextNumber 1 = .ok (.invokevirtual 32, 3) := by decide +kernel
theorem dX1_nextNumber_4 : decode cX1_nextNumber 4 = .ok (.aload_n 0, 1) := by decide +kernel
theorem dX1_nextNumber_5 : decode cX1_nextNumber 5 = .ok (.getfield 22, 3) := by decide +kernel
theorem dX1_nextNumber_8 : decode cX1_nextNumber 8 = .ok (.aload_n 0, 1) := by decide +kernel
theorem dX1_nextNumber_9 : decode cX1_nextNumber 9 = .ok (.getfield 29, 3) := by decide +kernel
theorem dX1_nextNumber_12 : decode cX1_nextNumber 12 = .ok (.isub, 1) := by decide +kernel
theorem dX1_nextNumber_13 : decode cX1_nextNumber 13 = .ok (.istore_n 2, 1) := by decide +kernel
theorem dX1_nextNumber_14 : decode cX1_nextNumber 14 = .ok (.iload_n 2, 1) := by decide +kernel
theorem dX1_nextNumber_15 : decode cX1_nextNumber 15 = .ok (.iconst 1, 1) := by decide +kernel
theorem dX1_nextNumber_16 : decode cX1_nextNumber 16 = .ok (.if_icmp .lt 23, 3) := by decide +kernel
theorem dX1_nextNumber_19 : decode cX1_nextNumber 19 = .ok (.iload_n 2, 1) := by decide +kernel
theorem dX1_nextNumber_20 : decode cX1_nextNumber 20 = .ok (.iconst 2, 1) := by decide +kernel
theorem dX1_nextNumber_21 : decode cX1_nextNumber 21 = .ok (.if_icmp .gt 18, 3) := by decide +kernel
theorem dX1_nextNumber_24 : decode cX1_nextNumber 24 = .ok (.aload_n 0, 1) := by decide +kernel
theorem dX1_nextNumber_25 : decode cX1_nextNumber 25 = .ok (.getfield 9, 3) := by decide +kernel
theorem dX1_nextNumber_28 : decode cX1_nextNumber 28 = .ok (.aload_n 0, 1) := by decide +kernel
theorem dX1_nextNumber_29 : decode cX1_nextNumber 29 = .ok (.getfield 29, 3) := by decide +kernel
theorem dX1_nextNumber_32 : decode cX1_nextNumber 32 = .ok (.caload, 1) := by decide +kernel
theorem dX1_nextNumber_33 : decode cX1_nextNumber 33 = .ok (.invokestatic 106, 3) := by decide +kernel
theorem dX1_nextNumber_36 : decode cX1_nextNumber 36 = .ok (.ifCond .ne 5, 3) := by decide +kernel
theorem dX1_nextNumber_39 : decode cX1_nextNumber 39 = .ok (.iconst (-1), 1) := by decide +kernel
theorem dX1_nextNumber_40 : decode cX1_nextNumber 40 = .ok (.ireturn, 1) := by decide +kernel
theorem dX1_nextNumber_41 : decode cX1_nextNumber 41 = .ok (.iconst 0, 1) := by decide +kernel
theorem dX1_nextNumber_42 : decode cX1_nextNumber 42 = .ok (.istore_n 3, 1) := by decide +kernel
theorem dX1_nextNumber_43 : decode cX1_nextNumber 43 = .ok (.aload_n 0, 1) := by decide +kernel
theorem dX1_nextNumber_44 : decode cX1_nextNumber 44 = .ok (.getfield 29, 3) := by decide +kernel
theorem dX1_nextNumber_47 : decode cX1_nextNumber 47 = .ok (.istore 4, 2) := by decide +kernel
theorem dX1_nextNumber_49 : decode cX1_nextNumber 49 = .ok (.iload 4, 2) := by decide +kernel
theorem dX1_nextNumber_51 : decode cX1_nextNumber 51 = .ok (.aload_n 0, 1) := by decide +kernel
theorem dX1_nextNumber_52 : decode cX1_nextNumber 52 = .ok (.getfield 22, 3) := by decide +kernel
theorem dX1_nextNumber_55 : decode cX1_nextNumber 55 = .ok (.if_icmp .ge 25, 3) := by decide +kernel
theorem dX1_nextNumber_58 : decode cX1_nextNumber 58 = .ok (.bipush 10, 2) := by decide +kernel
theorem dX1_nextNumber_60 : decode cX1_nextNumber 60 = .ok (.iload_n 3, 1) := by decide +kernel
theorem dX1_nextNumber_61 : decode cX1_nextNumber 61 = .ok (.imul, 1) := by decide +kernel
theorem dX1_nextNumber_62 : decode cX1_nextNumber 62 = .ok (.aload_n 0, 1) := by decide +kernel
theorem dX1_nextNumber_63 : decode cX1_nextNumber 63 = .ok (.getfield 9, 3) := by decide +kernel
theorem dX1_nextNumber_66 : decode cX1_nextNumber 66 = .ok (.iload 4, 2) := by decide +kernel
theorem dX1_nextNumber_68 : decode cX1_nextNumber 68 = .ok (.caload, 1) := by decide +kernel
theorem dX1_nextNumber_69 : decode cX1_nextNumber 69 = .ok (.bipush 48, 2) := by decide +kernel
theorem dX1_nextNumber_71 : decode cX1_nextNumber 71 = .ok (.isub, 1) := by decide +kernel
theorem dX1_nextNumber_72 : decode cX1_nextNumber 72 = .ok (.iadd, 1) := by decide +kernel
theorem dX1_nextNumber_73 : decode cX1_nextNumber 73 = .ok (.istore_n 3, 1) := by decide +kernel
theorem dX1_nextNumber_74 : decode cX1_nextNumber 74 = .ok (.iinc 4 1, 3) := by decide +kernel
theorem dX1_nextNumber_77 : decode cX1_nextNumber 77 = .ok (.goto (-28), 3) := by decide +kernel
theorem dX1_nextNumber_80 : decode cX1_nextNumber 80 = .ok (.iload_n 3, 1) := by decide +kernel
theorem dX1_nextNumber_81 : decode cX1_nextNumber 81 = .ok (.iload_n 1, 1) := by decide +kernel
theorem dX1_nextNumber_82 : decode cX1_nextNumber 82 = .ok (.if_icmp .gt 7, 3) := by decide +kernel
theorem dX1_nextNumber_85 : decode cX1_nextNumber 85 = .ok (.iload_n 3, 1) := by decide +kernel
theorem dX1_nextNumber_86 : decode cX1_nextNumber 86 = .ok (.goto 4, 3) := by decide +kernel
theorem dX1_nextNumber_89 : decode cX1_nextNumber 89 = .ok (.iconst (-1), 1) := by decide +kernel
theorem dX1_nextNumber_90 : decode cX1_nextNumber 90 = .ok (.ireturn, 1) := by decide +kernel
theorem dX1_nextToken_0 : decode cX1_nextToken 0 = .ok (.aload_n 0, 1) := by decide +kernel
theorem dX1_nextToken_1 : decode cX1_nextToken 1 = .ok (.aload_n 0, 1) := by decide +kernel
theorem dX1_nextToken_2 : decode cX1_nextToken 2 = .ok (.getfield 22, 3) := by decide +kernel
theorem dX1_nextToken_5 : decode cX1_nextToken 5 = .ok (.putfield 29, 3) := by decide +kernel
theorem dX1_nextToken_8 : decode cX1_nextToken 8 = .ok (.aload_n 0, 1) := by decide +kernel
theorem dX1_nextToken_9 : decode cX1_nextToken 9 = .ok (.getfield 29, 3) := by decide +kernel
theorem dX1_nextToken_12 : decode cX1_nextToken 12 = .ok (.aload_n 0, 1) := by decide +kernel
theorem dX1_nextToken_13 : decode cX1_nextToken 13 = .ok (.getfield 15, 3) := by decide +kernel
theorem dX1_nextToken_16 : decode cX1_nextToken 16 = .ok (.if_icmp .ge 30, 3) := by decide +kernel
theorem dX1_nextToken_19 : decode cX1_nextToken 19 = .ok (.aload_n 0, 1) := by decide +kernel
theorem dX1_nextToken_20 : decode cX1_nextToken 20 = .ok (.getfield 9, 3) := by decide +kernel
theorem dX1_nextToken_23 : decode cX1_nextToken 23 = .ok (.aload_n 0, 1) := by decide +kernel
theorem dX1_nextToken_24 : decode cX1_nextToken 24 = .ok (.getfield 29, 3) := by decide +kernel
theorem dX1_nextToken_27 : decode cX1_nextToken 27 = .ok (.caload, 1) := by decide +kernel
theorem dX1_nextToken_28 : decode cX1_nextToken 28 = .ok (.bipush 32, 2) := by decide +kernel
theorem dX1_nextToken_30 : decode cX1_nextToken 30 = .ok (.if_icmp .ne 16, 3) := by decide +kernel
theorem dX1_nextToken_33 : decode cX1_nextToken 33 = .ok (.aload_n 0, 1) := by decide +kernel
theorem dX1_nextToken_34 : decode cX1_nextToken 34 = .ok (.dup, 1) := by decide +kernel
theorem dX1_nextToken_35 : decode cX1_nextToken 35 = .ok (.getfield 29, 3) := by decide +kernel
theorem dX1_nextToken_38 : decode cX1_nextToken 38 = .ok (.iconst 1, 1) := by decide +kernel
theorem dX1_nextToken_39 : decode cX1_nextToken 39 = .ok (.iadd, 1) := by decide +kernel
theorem dX1_nextToken_40 : decode cX1_nextToken 40 = .ok (.putfield 29, 3) := by decide +kernel
theorem dX1_nextToken_43 : decode cX1_nextToken 43 = .ok (.goto (-35), 3) := by decide +kernel
theorem dX1_nextToken_46 : decode cX1_nextToken 46 = .ok (.aload_n 0, 1) := by decide +kernel
theorem dX1_nextToken_47 : decode cX1_nextToken 47 = .ok (.aload_n 0, 1) := by decide +kernel
theorem dX1_nextToken_48 : decode cX1_nextToken 48 = .ok (.getfield 29, 3) := by decide +kernel
theorem dX1_nextToken_51 : decode cX1_nextToken 51 = .ok (.putfield 22, 3) := by decide +kernel
theorem dX1_nextToken_54 : decode cX1_nextToken 54 = .ok (.aload_n 0, 1) := by decide +kernel
theorem dX1_nextToken_55 : decode cX1_nextToken 55 = .ok (.getfield 29, 3) := by decide +kernel
theorem dX1_nextToken_58 : decode cX1_nextToken 58 = .ok (.aload_n 0, 1) := by decide +kernel
theorem dX1_nextToken_59 : decode cX1_nextToken 59 = .ok (.getfield 15, 3) := by decide +kernel
theorem dX1_nextToken_62 : decode cX1_nextToken 62 = .ok (.if_icmp .lt 4, 3) := by decide +kernel
theorem dX1_nextToken_65 : decode cX1_nextToken 65 = .ok (.return_, 1) := by decide +kernel
theorem dX1_nextToken_66 : decode cX1_nextToken 66 = .ok (.aload_n 0, 1) := by decide +kernel
theorem dX1_nextToken_67 : decode cX1_nextToken 67 = .ok (.dup, 1) := by decide +kernel
theorem dX1_nextToken_68 : decode cX1_nextToken 68 = .ok (.getfield 22, 3) := by decide +kernel
theorem dX1_nextToken_71 : decode cX1_nextToken 71 = .ok (.iconst 1, 1) := by decide +kernel
theorem dX1_nextToken_72 : decode cX1_nextToken 72 = .ok (.iadd, 1) := by decide +kernel
theorem dX1_nextToken_73 : decode cX1_nextToken 73 = .ok (.putfield 22, 3) := by decide +kernel
theorem dX1_nextToken_76 : decode cX1_nextToken 76 = .ok (.aload_n 0, 1) := by decide +kernel
theorem dX1_nextToken_77 : decode cX1_nextToken 77 = .ok (.getfield 9, 3) := by decide +kernel
theorem dX1_nextToken_80 : decode cX1_nextToken 80 = .ok (.aload_n 0, 1) := by decide +kernel
theorem dX1_nextToken_81 : decode cX1_nextToken 81 = .ok (.getfield 29, 3) := by decide +kernel
theorem dX1_nextToken_84 : decode cX1_nextToken 84 = .ok (.caload, 1) := by decide +kernel
theorem dX1_nextToken_85 : decode cX1_nextToken 85 = .ok (.invokestatic 110, 3) := by decide +kernel
theorem dX1_nextToken_88 : decode cX1_nextToken 88 = .ok (.ifCond .eq 42, 3) := by decide +kernel
theorem dX1_nextToken_91 : decode cX1_nextToken 91 = .ok (.aload_n 0, 1) := by decide +kernel
theorem dX1_nextToken_92 : decode cX1_nextToken 92 = .ok (.getfield 22, 3) := by decide +kernel
theorem dX1_nextToken_95 : decode cX1_nextToken 95 = .ok (.aload_n 0, 1) := by decide +kernel
theorem dX1_nextToken_96 : decode cX1_nextToken 96 = .ok (.getfield 15, 3) := by decide +kernel
theorem dX1_nextToken_99 : decode cX1_nextToken 99 = .ok (.if_icmp .ge 85, 3) := by decide +kernel
theorem dX1_nextToken_102 : decode cX1_nextToken 102 = .ok (.aload_n 0, 1) := by decide +kernel
theorem dX1_nextToken_103 : decode cX1_nextToken 103 = .ok (.getfield 9, 3) := by decide +kernel
theorem dX1_nextToken_106 : decode cX1_nextToken 106 = .ok (.aload_n 0, 1) := by decide +kernel
theorem dX1_nextToken_107 : decode cX1_nextToken 107 = .ok (.getfield 22, 3) := by decide +kernel
theorem dX1_nextToken_110 : decode cX1_nextToken 110 = .ok (.caload, 1) := by decide +kernel
theorem dX1_nextToken_111 : decode cX1_nextToken 111 = .ok (.invokestatic 110, 3) := by decide +kernel
theorem dX1_nextToken_114 : decode cX1_nextToken 114 = .ok (.ifCond .eq 70, 3) := by decide +kernel
theorem dX1_nextToken_117 : decode cX1_nextToken 117 = .ok (.aload_n 0, 1) := by decide +kernel
theorem dX1_nextToken_118 : decode cX1_nextToken 118 = .ok (.dup, 1) := by decide +kernel
theorem dX1_nextToken_119 : decode cX1_nextToken 119 = .ok (.getfield 22, 3) := by decide +kernel
theorem dX1_nextToken_122 : decode cX1_nextToken 122 = .ok (.iconst 1, 1) := by decide +kernel
theorem dX1_nextToken_123 : decode cX1_nextToken 123 = .ok (.iadd, 1) := by decide +kernel
theorem dX1_nextToken_124 : decode cX1_nextToken 124 = .ok (.putfield 22, 3) := by decide +kernel
theorem dX1_nextToken_127 : decode cX1_nextToken 127 = .ok (.goto (-36), 3) := by decide +kernel
theorem dX1_nextToken_130 : decode cX1_nextToken 130 = .ok (.aload_n 0, 1) := by decide +kernel
theorem dX1_nextToken_131 : decode cX1_nextToken 131 = .ok (.getfield 9, 3) := by decide +kernel
theorem dX1_nextToken_134 : decode cX1_nextToken 134 = .ok (.aload_n 0, 1) := by decide +kernel
theorem dX1_nextToken_135 : decode cX1_nextToken 135 = .ok (.getfield 29, 3) := by decide +kernel
theorem dX1_nextToken_138 : decode cX1_nextToken 138 = .ok (.caload, 1) := by decide +kernel
theorem dX1_nextToken_139 : decode cX1_nextToken 139 = .ok (.invokestatic 106, 3) := by decide +kernel
theorem dX1_nextToken_142 : decode cX1_nextToken 142 = .ok (.ifCond .eq 42, 3) := by decide +kernel
theorem dX1_nextToken_145 : decode cX1_nextToken 145 = .ok (.aload_n 0, 1) := by decide +kernel
theorem dX1_nextToken_146 : decode cX1_nextToken 146 = .ok (.getfield 22, 3) := by decide +kernel
theorem dX1_nextToken_149 : decode cX1_nextToken 149 = .ok (.aload_n 0, 1) := by decide +kernel
theorem dX1_nextToken_150 : decode cX1_nextToken 150 = .ok (.getfield 15, 3) := by decide +kernel
theorem dX1_nextToken_153 : decode cX1_nextToken 153 = .ok (.if_icmp .ge 31, 3) := by decide +kernel
theorem dX1_nextToken_156 : decode cX1_nextToken 156 = .ok (.aload_n 0, 1) := by decide +kernel
theorem dX1_nextToken_157 : decode cX1_nextToken 157 = .ok (.getfield 9, 3) := by decide +kernel
theorem dX1_nextToken_160 : decode cX1_nextToken 160 = .ok (.aload_n 0, 1) := by decide +kernel
theorem dX1_nextToken_161 : decode cX1_nextToken 161 = .ok (.getfield 22, 3) := by decide +kernel
theorem dX1_nextToken_164 : decode cX1_nextToken 164 = .ok (.caload, 1) := by decide +kernel
theorem dX1_nextToken_165 : decode cX1_nextToken 165 = .ok (.invokestatic 106, 3) := by decide +kernel
theorem dX1_nextToken_168 : decode cX1_nextToken 168 = .ok (.ifCond .eq 16, 3) := by decide +kernel
theorem dX1_nextToken_171 : decode cX1_nextToken 171 = .ok (.aload_n 0, 1) := by decide +kernel
theorem dX1_nextToken_172 : decode cX1_nextToken 172 = .ok (.dup, 1) := by decide +kernel
theorem dX1_nextToken_173 : decode cX1_nextToken 173 = .ok (.getfield 22, 3) := by decide +kernel
theorem dX1_nextToken_176 : decode cX1_nextToken 176 = .ok (.iconst 1, 1) := by decide +kernel
theorem dX1_nextToken_177 : decode cX1_nextToken 177 = .ok (.iadd, 1) := by decide +kernel
theorem dX1_nextToken_178 : decode cX1_nextToken 178 = .ok (.putfield 22, 3) := by decide +kernel
theorem dX1_nextToken_181 : decode cX1_nextToken 181 = .ok (.goto (-36), 3) := by decide +kernel
theorem dX1_nextToken_184 : decode cX1_nextToken 184 = .ok (.return_, 1) := by decide +kernel
theorem dX1_isSmall_0 : decode cX1_isSmall 0 = .ok (.iload_n 0, 1) := by decide +kernel
theorem dX1_isSmall_1 : decode cX1_isSmall 1 = .ok (.bipush 97, 2) := by decide +kernel
theorem dX1_isSmall_3 : decode cX1_isSmall 3 = .ok (.if_icmp .lt 13, 3) := by decide +kernel
theorem dX1_isSmall_6 : decode cX1_isSmall 6 = .ok (.iload_n 0, 1) := by decide +kernel
theorem dX1_isSmall_7 : decode cX1_isSmall 7 = .ok (.bipush 122, 2) := by decide +kernel
theorem dX1_isSmall_9 : decode cX1_isSmall 9 = .ok (.if_icmp .gt 7, 3) := by decide +kernel
theorem dX1_isSmall_12 : decode cX1_isSmall 12 = .ok (.iconst 1, 1) := by decide +kernel
theorem dX1_isSmall_13 : decode cX1_isSmall 13 = .ok (.goto 4, 3) := by decide +kernel
theorem dX1_isSmall_16 : decode cX1_isSmall 16 = .ok (.iconst 0, 1) := by decide +kernel
theorem dX1_isSmall_17 : decode cX1_isSmall 17 = .ok (.ireturn, 1) := by decide +kernel
theorem dX1_isDigit_0 : decode cX1_isDigit 0 = .ok (.iload_n 0, 1) := by decide +kernel
theorem dX1_isDigit_1 : decode cX1_isDigit 1 = .ok (.bipush 48, 2) := by decide +kernel
theorem dX1_isDigit_3 : decode cX1_isDigit 3 = .ok (.if_icmp .lt 13, 3) := by decide +kernel
theorem dX1_isDigit_6 : decode cX1_isDigit 6 = .ok (.iload_n 0, 1) := by decide +kernel
theorem dX1_isDigit_7 : decode cX1_isDigit 7 = .ok (.bipush 57, 2) := by decide +kernel
theorem dX1_isDigit_9 : decode cX1_isDigit 9 = .ok (.if_icmp .gt 7, 3) := by decide +kernel
theorem dX1_isDigit_12 : decode cX1_isDigit 12 = .ok (.iconst 1, 1) := by decide +kernel
theorem dX1_isDigit_13 : decode cX1_isDigit 13 = .ok (.goto 4, 3) := by decide +kernel
theorem dX1_isDigit_16 : decode cX1_isDigit 16 = .ok (.iconst 0, 1) := by decide +kernel
theorem dX1_isDigit_17 : decode cX1_isDigit 17 = .ok (.ireturn, 1) := by decide +kernel
theorem dX2_init_0 : decode cX2_init 0 = .ok (.aload_n 0, 1) := by decide +kernel
theorem dX2_init_1 : decode cX2_init 1 = .ok (.invokespecial 3, 3) := by decide +kernel
theorem dX2_init_4 : decode cX2_init 4 = .ok (.aload_n 0, 1) := by decide +kernel
theorem dX2_init_5 : decode cX2_init 5 = .ok (.bipush 8, 2) := by decide +kernel
theorem dX2_init_7 : decode cX2_init 7 = .ok (.newarray .int, 2) := by decide +kernel
theorem dX2_init_9 : decode cX2_init 9 = .ok (.putfield 9, 3) := by decide +kernel
theorem dX2_init_12 : decode cX2_init 12 = .ok (.aload_n 0, 1) := by decide +kernel
theorem dX2_init_13 : decode cX2_init 13 = .ok (.bipush 8, 2) := by decide +kernel
theorem dX2_init_15 : decode cX2_init 15 = .ok (.newarray .int, 2) := by decide +kernel
theorem dX2_init_17 : decode cX2_init 17 = .ok (.putfield 15, 3) := by decide +kernel
theorem dX2_init_20 : decode cX2_init 20 = .ok (.aload_n 0, 1) := by decide +kernel
theorem dX2_init_21 : decode cX2_init 21 = .ok (.bipush 8, 2) := by decide +kernel
theorem dX2_init_23 : decode cX2_init 23 = .ok (.newarray .int, 2) := by decide +kernel
theorem dX2_init_25 : decode cX2_init 25 = .ok (.putfield 18, 3) := by decide +kernel
theorem dX2_init_28 : decode cX2_init 28 = .ok (.aload_n 0, 1) := by decide +kernel
theorem dX2_init_29 : decode cX2_init 29 = .ok (.iconst 5, 1) := by decide +kernel
theorem dX2_init_30 : decode cX2_init 30 = .ok (.newarray .int, 2) := by decide +kernel
theorem dX2_init_32 : decode cX2_init 32 = .ok (.putfield 21, 3) := by decide +kernel
theorem dX2_init_35 : decode cX2_init 35 = .ok (.aload_n 0, 1) := by decide +kernel
theorem dX2_init_36 : decode cX2_init 36 = .ok (.iconst 5, 1) := by decide +kernel
theorem dX2_init_37 : decode cX2_init 37 = .ok (.newarray .int, 2) := by decide +kernel
theorem dX2_init_39 : decode cX2_init 39 = .ok (.putfield 24, 3) := by decide +kernel
theorem dX2_init_42 : decode cX2_init 42 = .ok (.aload_n 0, 1) := by decide +kernel
theorem dX2_init_43 : decode cX2_init 43 = .ok (.bipush 14, 2) := by decide +kernel
theorem dX2_init_45 : decode cX2_init 45 = .ok (.newarray .int, 2) := by decide +kernel
theorem dX2_init_47 : decode cX2_init 47 = .ok (.putfield 27, 3) := by decide +kernel
theorem dX2_init_50 : decode cX2_init 50 = .ok (.aload_n 0, 1) := by decide +kernel
theorem dX2_init_51 : decode cX2_init 51 = .ok (.getfield 27, 3) := by decide +kernel
theorem dX2_init_54 : decode cX2_init 54 = .ok (.iconst (-1), 1) := by decide +kernel
theorem dX2_init_55 : decode cX2_init 55 = .ok (.invokestatic 30, 3) := by decide +kernel
theorem dX2_init_58 : decode cX2_init 58 = .ok (.return_, 1) := by decide +kernel
theorem dX2_clear_0 : decode cX2_clear 0 = .ok (.aload_n 0, 1) := by decide +kernel
theorem dX2_clear_1 : decode cX2_clear 1 = .ok (.iconst 0, 1) := by decide +kernel
theorem dX2_clear_2 : decode cX2_clear 2 = .ok (.putfield 36, 3) := by decide +kernel
theorem dX2_clear_5 : decode cX2_clear 5 = .ok (.aload_n 0, 1) := by decide +kernel
theorem dX2_clear_6 : decode cX2_clear 6 = .ok (.iconst 0, 1) := by decide +kernel
theorem dX2_clear_7 : decode cX2_clear 7 = .ok (.putfield 40, 3) := by decide +kernel
theorem dX2_clear_10 : decode cX2_clear 10 = .ok (.aload_n 0, 1) := by decide +kernel
theorem dX2_clear_11 : decode cX2_clear 11 = .ok (.invokevirtual 43, 3) := by decide +kernel
theorem dX2_clear_14 : decode cX2_clear 14 = .ok (.return_, 1) := by decide +kernel
theorem dX2_clearNews_0 : decode cX2_clearNews 0 = .ok (.aload_n 0, 1) := by decide +kernel
theorem dX2_clearNews_1 : decode cX2_clearNews 1 = .ok (.getfield 27, 3) := by decide +kernel
theorem dX2_clearNews_4 : decode cX2_clearNews 4 = .ok (.iconst (-1), 1) := by decide +kernel
theorem dX2_clearNews_5 : decode cX2_clearNews 5 = .ok (.invokestatic 30, 3) := by decide +kernel
theorem dX2_clearNews_8 : decode cX2_clearNews 8 = .ok (.return_, 1) := by decide +kernel
theorem dX2_addPlace_0 : decode cX2_addPlace 0 = .ok (.aload_n 0, 1) := by decide +kernel
theorem dX2_addPlace_1 : decode cX2_addPlace 1 = .ok (.getfield 36, 3) := by decide +kernel
theorem dX2_addPlace_4 : decode cX2_addPlace 4 = .ok (.bipush 8, 2) := by decide +kernel
theorem dX2_addPlace_6 : decode cX2_addPlace 6 = .ok (.if_icmp .lt 4, 3) := by decide +kernel
theorem dX2_addPlace_9 : decode cX2_addPlace 9 = .ok (.return_, 1) := by decide +kernel
theorem dX2_addPlace_10 : decode cX2_addPlace 10 = .ok (.aload_n 0, 1) := by decide +kernel
theorem dX2_addPlace_11 : decode cX2_addPlace 11 = .ok (.getfield 9, 3) := by decide +kernel
theorem dX2_addPlace_14 : decode cX2_addPlace 14 = .ok (.aload_n 0, 1) := by decide +kernel
theorem dX2_addPlace_15 : decode cX2_addPlace 15 = .ok (.getfield 36, 3) := by decide +kernel
theorem dX2_addPlace_18 : decode cX2_addPlace 18 = .ok (.iload_n 1, 1) := by decide +kernel
theorem dX2_addPlace_19 : decode cX2_addPlace 19 = .ok (.iastore, 1) := by decide +kernel
theorem dX2_addPlace_20 : decode cX2_addPlace 20 = .ok (.aload_n 0, 1) := by decide +kernel
theorem dX2_addPlace_21 : decode cX2_addPlace 21 = .ok (.getfield 15, 3) := by decide +kernel
theorem dX2_addPlace_24 : decode cX2_addPlace 24 = .ok (.aload_n 0, 1) := by decide +kernel
theorem dX2_addPlace_25 : decode cX2_addPlace 25 = .ok (.getfield 36, 3) := by decide +kernel
theorem dX2_addPlace_28 : decode cX2_addPlace 28 = .ok (.iload_n 2, 1) := by decide +kernel
theorem dX2_addPlace_29 : decode cX2_addPlace 29 = .ok (.iastore, 1) := by decide +kernel
theorem dX2_addPlace_30 : decode cX2_addPlace 30 = .ok (.aload_n 0, 1) := by decide +kernel
theorem dX2_addPlace_31 : decode cX2_addPlace 31 = .ok (.getfield 18, 3) := by decide +kernel
theorem dX2_addPlace_34 : decode cX2_addPlace 34 = .ok (.aload_n 0, 1) := by decide +kernel
theorem dX2_addPlace_35 : decode cX2_addPlace 35 = .ok (.getfield 36, 3) := by decide +kernel
theorem dX2_addPlace_38 : decode cX2_addPlace 38 = .ok (.iload_n 3, 1) := by decide +kernel
theorem dX2_addPlace_39 : decode cX2_addPlace 39 = .ok (.iastore, 1) := by decide +kernel
theorem dX2_addPlace_40 : decode cX2_addPlace 40 = .ok (.aload_n 0, 1) := by decide +kernel
theorem dX2_addPlace_41 : decode cX2_addPlace 41 = .ok (.dup, 1) := by decide +kernel
theorem dX2_addPlace_42 : decode cX2_addPlace 42 = .ok (.getfield 36, 3) := by decide +kernel
theorem dX2_addPlace_45 : decode cX2_addPlace 45 = .ok (.iconst 1, 1) := by decide +kernel
theorem dX2_addPlace_46 : decode cX2_addPlace 46 = .ok (.iadd, 1) := by decide +kernel
theorem dX2_addPlace_47 : decode cX2_addPlace 47 = .ok (.putfield 36, 3) := by decide +kernel
theorem dX2_addPlace_50 : decode cX2_addPlace 50 = .ok (.return_, 1) := by decide +kernel
theorem dX2_addHen_0 : decode cX2_addHen 0 = .ok (.aload_n 0, 1) := by decide +kernel
theorem dX2_addHen_1 : decode cX2_addHen 1 = .ok (.getfield 40, 3) := by decide +kernel
theorem dX2_addHen_4 : decode cX2_addHen 4 = .ok (.iconst 5, 1) := by decide +kernel
theorem dX2_addHen_5 : decode cX2_addHen 5 = .ok (.if_icmp .lt 4, 3) := by decide +kernel
theorem dX2_addHen_8 : decode cX2_addHen 8 = .ok (.return_, 1) := by decide +kernel
theorem dX2_addHen_9 : decode cX2_addHen 9 = .ok (.aload_n 0, 1) := by decide +kernel
theorem dX2_addHen_10 : decode cX2_addHen 10 = .ok (.getfield 21, 3) := by decide +kernel
theorem dX2_addHen_13 : decode cX2_addHen 13 = .ok (.aload_n 0, 1) := by decide +kernel
theorem dX2_addHen_14 : decode cX2_addHen 14 = .ok (.getfield 40, 3) := by decide +kernel
theorem dX2_addHen_17 : decode cX2_addHen 17 = .ok (.iload_n 1, 1) := by decide +kernel
theorem dX2_addHen_18 : decode cX2_addHen 18 = .ok (.iastore, 1) := by decide +kernel
theorem dX2_addHen_19 : decode cX2_addHen 19 = .ok (.aload_n 0, 1) := by decide +kernel
theorem dX2_addHen_20 : decode cX2_addHen 20 = .ok (.getfield 24, 3) := by decide +kernel
theorem dX2_addHen_23 : decode cX2_addHen 23 = .ok (.aload_n 0, 1) := by decide +kernel
theorem dX2_addHen_24 : decode cX2_addHen 24 = .ok (.getfield 40, 3) := by decide +kernel
theorem dX2_addHen_27 : decode cX2_addHen 27 = .ok (.iload_n 2, 1) := by decide +kernel
theorem dX2_addHen_28 : decode cX2_addHen 28 = .ok (.iastore, 1) := by decide +kernel
theorem dX2_addHen_29 : decode cX2_addHen 29 = .ok (.aload_n 0, 1) := by decide +kernel
theorem dX2_addHen_30 : decode cX2_addHen 30 = .ok (.dup, 1) := by decide +kernel
theorem dX2_addHen_31 : decode cX2_addHen 31 = .ok (.getfield 40, 3) := by decide +kernel
theorem dX2_addHen_34 : decode cX2_addHen 34 = .ok (.iconst 1, 1) := by decide +kernel
theorem dX2_addHen_35 : decode cX2_addHen 35 = .ok (.iadd, 1) := by decide +kernel
theorem dX2_addHen_36 : decode cX2_addHen 36 = .ok (.putfield 40, 3) := by decide +kernel
theorem dX2_addHen_39 : decode cX2_addHen 39 = .ok (.return_, 1) := by decide +kernel
theorem dX2_newsOf_0 : decode cX2_newsOf 0 = .ok (.aload_n 0, 1) := by decide +kernel
theorem dX2_newsOf_1 : decode cX2_newsOf 1 = .ok (.getfield 27, 3) := by decide +kernel
theorem dX2_newsOf_4 : decode cX2_newsOf 4 = .ok (.iload_n 1, 1) := by decide +kernel
theorem dX2_newsOf_5 : decode cX2_newsOf 5 = .ok (.bipush 14, 2) := by decide +kernel
theorem dX2_newsOf_7 : decode cX2_newsOf 7 = .ok (.invokestatic 46, 3) := by decide +kernel
theorem dX2_newsOf_10 : decode cX2_newsOf 10 = .ok (.iaload, 1) := by decide +kernel
theorem dX2_newsOf_11 : decode cX2_newsOf 11 = .ok (.ireturn, 1) := by decide +kernel
theorem dX2_copyFrom_0 : decode cX2_copyFrom 0 = .ok (.aload_n 0, 1) := by decide +kernel
theorem dX2_copyFrom_1 : decode cX2_copyFrom 1 = .ok (.aload_n 1, 1) := by decide +kernel
theorem dX2_copyFrom_2 : decode cX2_copyFrom 2 = .ok (.getfield 36, 3) := by decide +kernel
theorem dX2_copyFrom_5 : decode cX2_copyFrom 5 = .ok (.putfield 36, 3) := by decide +kernel
theorem dX2_copyFrom_8 : decode cX2_copyFrom 8 = .ok (.aload_n 0, 1) := by decide +kernel
theorem dX2_copyFrom_9 : decode cX2_copyFrom 9 = .ok (.aload_n 1, 1) := by decide +kernel
theorem dX2_copyFrom_10 : decode cX2_copyFrom 10 = .ok (.getfield 40, 3) := by decide +kernel
theorem dX2_copyFrom_13 : decode cX2_copyFrom 13 = .ok (.putfield 40, 3) := by decide +kernel
theorem dX2_copyFrom_16 : decode cX2_copyFrom 16 = .ok (.aload_n 1, 1) := by decide +kernel
theorem dX2_copyFrom_17 : decode cX2_copyFrom 17 = .ok (.getfield 9, 3) := by decide +kernel
theorem dX2_copyFrom_20 : decode cX2_copyFrom 20 = .ok (.iconst 0, 1) := by decide +kernel
theorem dX2_copyFrom_21 : decode cX2_copyFrom 21 = .ok (.aload_n 0, 1) := by decide +kernel
theorem dX2_copyFrom_22 : decode cX2_copyFrom 22 = .ok (.getfield 9, 3) := by decide +kernel
theorem dX2_copyFrom_25 : decode cX2_copyFrom 25 = .ok (.iconst 0, 1) := by decide +kernel
theorem dX2_copyFrom_26 : decode cX2_copyFrom 26 = .ok (.bipush 8, 2) := by decide +kernel
theorem dX2_copyFrom_28 : decode cX2_copyFrom 28 = .ok (.invokestatic 52, 3) := by decide +kernel
theorem dX2_copyFrom_31 : decode cX2_copyFrom 31 = .ok (.aload_n 1, 1) := by decide +kernel
theorem dX2_copyFrom_32 : decode cX2_copyFrom 32 = .ok (.getfield 15, 3) := by decide +kernel
theorem dX2_copyFrom_35 : decode cX2_copyFrom 35 = .ok (.iconst 0, 1) := by decide +kernel
theorem dX2_copyFrom_36 : decode cX2_copyFrom 36 = .ok (.aload_n 0, 1) := by decide +kernel
theorem dX2_copyFrom_37 : decode cX2_copyFrom 37 = .ok (.getfield 15, 3) := by decide +kernel
theorem dX2_copyFrom_40 : decode cX2_copyFrom 40 = .ok (.iconst 0, 1) := by decide +kernel
theorem dX2_copyFrom_41 : decode cX2_copyFrom 41 = .ok (.bipush 8, 2) := by decide +kernel
theorem dX2_copyFrom_43 : decode cX2_copyFrom 43 = .ok (.invokestatic 52, 3) := by decide +kernel
theorem dX2_copyFrom_46 : decode cX2_copyFrom 46 = .ok (.aload_n 1, 1) := by decide +kernel
theorem dX2_copyFrom_47 : decode cX2_copyFrom 47 = .ok (.getfield 18, 3) := by decide +kernel
theorem dX2_copyFrom_50 : decode cX2_copyFrom 50 = .ok (.iconst 0, 1) := by decide +kernel
theorem dX2_copyFrom_51 : decode cX2_copyFrom 51 = .ok (.aload_n 0, 1) := by decide +kernel
theorem dX2_copyFrom_52 : decode cX2_copyFrom 52 = .ok (.getfield 18, 3) := by decide +kernel
theorem dX2_copyFrom_55 : decode cX2_copyFrom 55 = .ok (.iconst 0, 1) := by decide +kernel
theorem dX2_copyFrom_56 : decode cX2_copyFrom 56 = .ok (.bipush 8, 2) := by decide +kernel
theorem dX2_copyFrom_58 : decode cX2_copyFrom 58 = .ok (.invokestatic 52, 3) := by decide +kernel
theorem dX2_copyFrom_61 : decode cX2_copyFrom 61 = .ok (.aload_n 1, 1) := by decide +kernel
theorem dX2_copyFrom_62 : decode cX2_copyFrom 62 = .ok (.getfield 21, 3) := by decide +kernel
theorem dX2_copyFrom_65 : decode cX2_copyFrom 65 = .ok (.iconst 0, 1) := by decide +kernel
theorem dX2_copyFrom_66 : decode cX2_copyFrom 66 = .ok (.aload_n 0, 1) := by decide +kernel
theorem dX2_copyFrom_67 : decode cX2_copyFrom 67 = .ok (.getfield 21, 3) := by decide +kernel
theorem dX2_copyFrom_70 : decode cX2_copyFrom 70 = .ok (.iconst 0, 1) := by decide +kernel
theorem dX2_copyFrom_71 : decode cX2_copyFrom 71 = .ok (.iconst 5, 1) := by decide +kernel
theorem dX2_copyFrom_72 : decode cX2_copyFrom 72 = .ok (.invokestatic 52, 3) := by decide +kernel
theorem dX2_copyFrom_75 : decode cX2_copyFrom 75 = .ok (.aload_n 1, 1) := by decide +kernel
theorem dX2_copyFrom_76 : decode cX2_copyFrom 76 = .ok (.getfield 24, 3) := by decide +kernel
theorem dX2_copyFrom_79 : decode cX2_copyFrom 79 = .ok (.iconst 0, 1) := by decide +kernel
theorem dX2_copyFrom_80 : decode cX2_copyFrom 80 = .ok (.aload_n 0, 1) := by decide +kernel
theorem dX2_copyFrom_81 : decode cX2_copyFrom 81 = .ok (.getfield 24, 3) := by decide +kernel
theorem dX2_copyFrom_84 : decode cX2_copyFrom 84 = .ok (.iconst 0, 1) := by decide +kernel
theorem dX2_copyFrom_85 : decode cX2_copyFrom 85 = .ok (.iconst 5, 1) := by decide +kernel
theorem dX2_copyFrom_86 : decode cX2_copyFrom 86 = .ok (.invokestatic 52, 3) := by decide +kernel
theorem dX2_copyFrom_89 : decode cX2_copyFrom 89 = .ok (.aload_n 1, 1) := by decide +kernel
theorem dX2_copyFrom_90 : decode cX2_copyFrom 90 = .ok (.getfield 27, 3) := by decide +kernel
theorem dX2_copyFrom_93 : decode cX2_copyFrom 93 = .ok (.iconst 0, 1) := by decide +kernel
theorem dX2_copyFrom_94 : decode cX2_copyFrom 94 = .ok (.aload_n 0, 1) := by decide +kernel
theorem dX2_copyFrom_95 : decode cX2_copyFrom 95 = .ok (.getfield 27, 3) := by decide +kernel
theorem dX2_copyFrom_98 : decode cX2_copyFrom 98 = .ok (.iconst 0, 1) := by decide +kernel
theorem dX2_copyFrom_99 : decode cX2_copyFrom 99 = .ok (.bipush 14, 2) := by decide +kernel
theorem dX2_copyFrom_101 : decode cX2_copyFrom 101 = .ok (.invokestatic 52, 3) := by decide +kernel
theorem dX2_copyFrom_104 : decode cX2_copyFrom 104 = .ok (.return_, 1) := by decide +kernel
theorem dX3_init_0 : decode cX3_init 0 = .ok (.aload_n 0, 1) := by decide +kernel
theorem dX3_init_1 : decode cX3_init 1 = .ok (.invokespecial 3, 3) := by decide +kernel
theorem dX3_init_4 : decode cX3_init 4 = .ok (.aload_n 0, 1) := by decide +kernel
theorem dX3_init_5 : decode cX3_init 5 = .ok (.bipush 8, 2) := by decide +kernel
theorem dX3_init_7 : decode cX3_init 7 = .ok (.newarray .int, 2) := by decide +kernel
theorem dX3_init_9 : decode cX3_init 9 = .ok (.putfield 9, 3) := by decide +kernel
theorem dX3_init_12 : decode cX3_init 12 = .ok (.aload_n 0, 1) := by decide +kernel
theorem dX3_init_13 : decode cX3_init 13 = .ok (.bipush 8, 2) := by decide +kernel
theorem dX3_init_15 : decode cX3_init 15 = .ok (.newarray .int, 2) := by decide +kernel
theorem dX3_init_17 : decode cX3_init 17 = .ok (.putfield 15, 3) := by decide +kernel
theorem dX3_init_20 : decode cX3_init 20 = .ok (.aload_n 0, 1) := by decide +kernel
theorem dX3_init_21 : decode cX3_init 21 = .ok (.bipush 8, 2) := by decide +kernel
theorem dX3_init_23 : decode cX3_init 23 = .ok (.newarray .int, 2) := by decide +kernel
theorem dX3_init_25 : decode cX3_init 25 = .ok (.putfield 18, 3) := by decide +kernel
theorem dX3_init_28 : decode cX3_init 28 = .ok (.aload_n 0, 1) := by decide +kernel
theorem dX3_init_29 : decode cX3_init 29 = .ok (.bipush 8, 2) := by decide +kernel
theorem dX3_init_31 : decode cX3_init 31 = .ok (.newarray .int, 2) := by decide +kernel
theorem dX3_init_33 : decode cX3_init 33 = .ok (.putfield 21, 3) := by decide +kernel
theorem dX3_init_36 : decode cX3_init 36 = .ok (.aload_n 0, 1) := by decide +kernel
theorem dX3_init_37 : decode cX3_init 37 = .ok (.iconst 5, 1) := by decide +kernel
theorem dX3_init_38 : decode cX3_init 38 = .ok (.newarray .int, 2) := by decide +kernel
theorem dX3_init_40 : decode cX3_init 40 = .ok (.putfield 24, 3) := by decide +kernel
theorem dX3_init_43 : decode cX3_init 43 = .ok (.aload_n 0, 1) := by decide +kernel
theorem dX3_init_44 : decode cX3_init 44 = .ok (.iconst 5, 1) := by decide +kernel
theorem dX3_init_45 : decode cX3_init 45 = .ok (.newarray .int, 2) := by decide +kernel
theorem dX3_init_47 : decode cX3_init 47 = .ok (.putfield 27, 3) := by decide +kernel
theorem dX3_init_50 : decode cX3_init 50 = .ok (.aload_n 0, 1) := by decide +kernel
theorem dX3_init_51 : decode cX3_init 51 = .ok (.iconst 5, 1) := by decide +kernel
theorem dX3_init_52 : decode cX3_init 52 = .ok (.newarray .int, 2) := by decide +kernel
theorem dX3_init_54 : decode cX3_init 54 = .ok (.putfield 30, 3) := by decide +kernel
theorem dX3_init_57 : decode cX3_init 57 = .ok (.aload_n 0, 1) := by decide +kernel
theorem dX3_init_58 : decode cX3_init 58 = .ok (.iconst 5, 1) := by decide +kernel
theorem dX3_init_59 : decode cX3_init 59 = .ok (.newarray .int, 2) := by decide +kernel
theorem dX3_init_61 : decode cX3_init 61 = .ok (.putfield 33, 3) := by decide +kernel
theorem dX3_init_64 : decode cX3_init 64 = .ok (.aload_n 0, 1) := by decide +kernel
theorem dX3_init_65 : decode cX3_init 65 = .ok (.iconst 5, 1) := by decide +kernel
theorem dX3_init_66 : decode cX3_init 66 = .ok (.newarray .int, 2) := by decide +kernel
theorem dX3_init_68 : decode cX3_init 68 = .ok (.putfield 36, 3) := by decide +kernel
theorem dX3_init_71 : decode cX3_init 71 = .ok (.aload_n 0, 1) := by decide +kernel
theorem dX3_init_72 : decode cX3_init 72 = .ok (.getfield 18, 3) := by decide +kernel
theorem dX3_init_75 : decode cX3_init 75 = .ok (.iconst (-1), 1) := by decide +kernel
theorem dX3_init_76 : decode cX3_init 76 = .ok (.invokestatic 39, 3) := by decide +kernel
theorem dX3_init_79 : decode cX3_init 79 = .ok (.aload_n 0, 1) := by decide +kernel
theorem dX3_init_80 : decode cX3_init 80 = .ok (.getfield 30, 3) := by decide +kernel
theorem dX3_init_83 : decode cX3_init 83 = .ok (.iconst (-1), 1) := by decide +kernel
theorem dX3_init_84 : decode cX3_init 84 = .ok (.invokestatic 39, 3) := by decide +kernel
theorem dX3_init_87 : decode cX3_init 87 = .ok (.return_, 1) := by decide +kernel
theorem dX3_beginAs_0 : decode cX3_beginAs 0 = .ok (.aload_n 1, 1) := by decide +kernel
theorem dX3_beginAs_1 : decode cX3_beginAs 1 = .ok (.getfield 45, 3) := by decide +kernel
theorem dX3_beginAs_4 : decode cX3_beginAs 4 = .ok (.iconst 0, 1) := by decide +kernel
theorem dX3_beginAs_5 : decode cX3_beginAs 5 = .ok (.aload_n 0, 1) := by decide +kernel
theorem dX3_beginAs_6 : decode cX3_beginAs 6 = .ok (.getfield 9, 3) := by decide +kernel
theorem dX3_beginAs_9 : decode cX3_beginAs 9 = .ok (.iconst 0, 1) := by decide +kernel
theorem dX3_beginAs_10 : decode cX3_beginAs 10 = .ok (.bipush 8, 2) := by decide +kernel
theorem dX3_beginAs_12 : decode cX3_beginAs 12 = .ok (.invokestatic 48, 3) := by decide +kernel
theorem dX3_beginAs_15 : decode cX3_beginAs 15 = .ok (.aload_n 1, 1) := by decide +kernel
theorem dX3_beginAs_16 : decode cX3_beginAs 16 = .ok (.getfield 54, 3) := by decide +kernel
theorem dX3_beginAs_19 : decode cX3_beginAs 19 = .ok (.iconst 0, 1) := by decide +kernel
theorem dX3_beginAs_20 : decode cX3_beginAs 20 = .ok (.aload_n 0, 1) := by decide +kernel
theorem dX3_beginAs_21 : decode cX3_beginAs 21 = .ok (.getfield 15, 3) := by decide +kernel
theorem dX3_beginAs_24 : decode cX3_beginAs 24 = .ok (.iconst 0, 1) := by decide +kernel
theorem dX3_beginAs_25 : decode cX3_beginAs 25 = .ok (.bipush 8, 2) := by decide +kernel
theorem dX3_beginAs_27 : decode cX3_beginAs 27 = .ok (.invokestatic 48, 3) := by decide +kernel
theorem dX3_beginAs_30 : decode cX3_beginAs 30 = .ok (.aload_n 1, 1) := by decide +kernel
theorem dX3_beginAs_31 : decode cX3_beginAs 31 = .ok (.getfield 55, 3) := by decide +kernel
theorem dX3_beginAs_34 : decode cX3_beginAs 34 = .ok (.iconst 0, 1) := by decide +kernel
theorem dX3_beginAs_35 : decode cX3_beginAs 35 = .ok (.aload_n 0, 1) := by decide +kernel
theorem dX3_beginAs_36 : decode cX3_beginAs 36 = .ok (.getfield 24, 3) := by decide +kernel
theorem dX3_beginAs_39 : decode cX3_beginAs 39 = .ok (.iconst 0, 1) := by decide +kernel
theorem dX3_beginAs_40 : decode cX3_beginAs 40 = .ok (.iconst 5, 1) := by decide +kernel
theorem dX3_beginAs_41 : decode cX3_beginAs 41 = .ok (.invokestatic 48, 3) := by decide +kernel
theorem dX3_beginAs_44 : decode cX3_beginAs 44 = .ok (.aload_n 1, 1) := by decide +kernel
theorem dX3_beginAs_45 : decode cX3_beginAs 45 = .ok (.getfield 56, 3) := by decide +kernel
theorem dX3_beginAs_48 : decode cX3_beginAs 48 = .ok (.iconst 0, 1) := by decide +kernel
theorem dX3_beginAs_49 : decode cX3_beginAs 49 = .ok (.aload_n 0, 1) := by decide +kernel
theorem dX3_beginAs_50 : decode cX3_beginAs 50 = .ok (.getfield 27, 3) := by decide +kernel
theorem dX3_beginAs_53 : decode cX3_beginAs 53 = .ok (.iconst 0, 1) := by decide +kernel
theorem dX3_beginAs_54 : decode cX3_beginAs 54 = .ok (.iconst 5, 1) := by decide +kernel
theorem dX3_beginAs_55 : decode cX3_beginAs 55 = .ok (.invokestatic 48, 3) := by decide +kernel
theorem dX3_beginAs_58 : decode cX3_beginAs 58 = .ok (.aload_n 0, 1) := by decide +kernel
theorem dX3_beginAs_59 : decode cX3_beginAs 59 = .ok (.getfield 18, 3) := by decide +kernel
theorem dX3_beginAs_62 : decode cX3_beginAs 62 = .ok (.iconst (-1), 1) := by decide +kernel
theorem dX3_beginAs_63 : decode cX3_beginAs 63 = .ok (.invokestatic 39, 3) := by decide +kernel
theorem dX3_beginAs_66 : decode cX3_beginAs 66 = .ok (.aload_n 0, 1) := by decide +kernel
theorem dX3_beginAs_67 : decode cX3_beginAs 67 = .ok (.getfield 30, 3) := by decide +kernel
theorem dX3_beginAs_70 : decode cX3_beginAs 70 = .ok (.iconst (-1), 1) := by decide +kernel
theorem dX3_beginAs_71 : decode cX3_beginAs 71 = .ok (.invokestatic 39, 3) := by decide +kernel
theorem dX3_beginAs_74 : decode cX3_beginAs 74 = .ok (.aload_n 0, 1) := by decide +kernel
theorem dX3_beginAs_75 : decode cX3_beginAs 75 = .ok (.getfield 33, 3) := by decide +kernel
theorem dX3_beginAs_78 : decode cX3_beginAs 78 = .ok (.iconst 0, 1) := by decide +kernel
theorem dX3_beginAs_79 : decode cX3_beginAs 79 = .ok (.invokestatic 39, 3) := by decide +kernel
theorem dX3_beginAs_82 : decode cX3_beginAs 82 = .ok (.aload_n 0, 1) := by decide +kernel
theorem dX3_beginAs_83 : decode cX3_beginAs 83 = .ok (.getfield 36, 3) := by decide +kernel
theorem dX3_beginAs_86 : decode cX3_beginAs 86 = .ok (.iconst 0, 1) := by decide +kernel
theorem dX3_beginAs_87 : decode cX3_beginAs 87 = .ok (.invokestatic 39, 3) := by decide +kernel
theorem dX3_beginAs_90 : decode cX3_beginAs 90 = .ok (.aload_n 0, 1) := by decide +kernel
theorem dX3_beginAs_91 : decode cX3_beginAs 91 = .ok (.iconst 0, 1) := by decide +kernel
theorem dX3_beginAs_92 : decode cX3_beginAs 92 = .ok (.putfield 57, 3) := by decide +kernel
theorem dX3_beginAs_95 : decode cX3_beginAs 95 = .ok (.aload_n 0, 1) := by decide +kernel
theorem dX3_beginAs_96 : decode cX3_beginAs 96 = .ok (.iconst 0, 1) := by decide +kernel
theorem dX3_beginAs_97 : decode cX3_beginAs 97 = .ok (.putfield 61, 3) := by decide +kernel
theorem dX3_beginAs_100 : decode cX3_beginAs 100 = .ok (.aload_n 0, 1) := by decide +kernel
theorem dX3_beginAs_101 : decode cX3_beginAs 101 = .ok (.iconst 0, 1) := by decide +kernel
theorem dX3_beginAs_102 : decode cX3_beginAs 102 = .ok (.putfield 65, 3) := by decide +kernel
theorem dX3_beginAs_105 : decode cX3_beginAs 105 = .ok (.aload_n 0, 1) := by decide +kernel
theorem dX3_beginAs_106 : decode cX3_beginAs 106 = .ok (.iconst 0, 1) := by decide +kernel
theorem dX3_beginAs_107 : decode cX3_beginAs 107 = .ok (.putfield 68, 3) := by decide +kernel
theorem dX3_beginAs_110 : decode cX3_beginAs 110 = .ok (.aload_n 0, 1) := by decide +kernel
theorem dX3_beginAs_111 : decode cX3_beginAs 111 = .ok (.iconst 0, 1) := by decide +kernel
theorem dX3_beginAs_112 : decode cX3_beginAs 112 = .ok (.putfield 71, 3) := by decide +kernel
theorem dX3_beginAs_115 : decode cX3_beginAs 115 = .ok (.return_, 1) := by decide +kernel
theorem dX3_copyFrom_0 : decode cX3_copyFrom 0 = .ok (.aload_n 1, 1) := by decide +kernel
theorem dX3_copyFrom_1 : decode cX3_copyFrom 1 = .ok (.getfield 9, 3) := by decide +kernel
theorem dX3_copyFrom_4 : decode cX3_copyFrom 4 = .ok (.iconst 0, 1) := by decide +kernel
theorem dX3_copyFrom_5 : decode cX3_copyFrom 5 = .ok (.aload_n 0, 1) := by decide +kernel
theorem dX3_copyFrom_6 : decode cX3_copyFrom 6 = .ok (.getfield 9, 3) := by decide +kernel
theorem dX3_copyFrom_9 : decode cX3_copyFrom 9 = .ok (.iconst 0, 1) := by decide +kernel
theorem dX3_copyFrom_10 : decode cX3_copyFrom 10 = .ok (.bipush 8, 2) := by decide +kernel
theorem dX3_copyFrom_12 : decode cX3_copyFrom 12 = .ok (.invokestatic 48, 3) := by decide +kernel
theorem dX3_copyFrom_15 : decode cX3_copyFrom 15 = .ok (.aload_n 1, 1) := by decide +kernel
theorem dX3_copyFrom_16 : decode cX3_copyFrom 16 = .ok (.getfield 15, 3) := by decide +kernel
theorem dX3_copyFrom_19 : decode cX3_copyFrom 19 = .ok (.iconst 0, 1) := by decide +kernel
theorem dX3_copyFrom_20 : decode cX3_copyFrom 20 = .ok (.aload_n 0, 1) := by decide +kernel
theorem dX3_copyFrom_21 : decode cX3_copyFrom 21 = .ok (.getfield 15, 3) := by decide +kernel
theorem dX3_copyFrom_24 : decode cX3_copyFrom 24 = .ok (.iconst 0, 1) := by decide +kernel
theorem dX3_copyFrom_25 : decode cX3_copyFrom 25 = .ok (.bipush 8, 2) := by decide +kernel
theorem dX3_copyFrom_27 : decode cX3_copyFrom 27 = .ok (.invokestatic 48, 3) := by decide +kernel
theorem dX3_copyFrom_30 : decode cX3_copyFrom 30 = .ok (.aload_n 1, 1) := by decide +kernel
theorem dX3_copyFrom_31 : decode cX3_copyFrom 31 = .ok (.getfield 18, 3) := by decide +kernel
theorem dX3_copyFrom_34 : decode cX3_copyFrom 34 = .ok (.iconst 0, 1) := by decide +kernel
theorem dX3_copyFrom_35 : decode cX3_copyFrom 35 = .ok (.aload_n 0, 1) := by decide +kernel
theorem dX3_copyFrom_36 : decode cX3_copyFrom 36 = .ok (.getfield 18, 3) := by decide +kernel
theorem dX3_copyFrom_39 : decode cX3_copyFrom 39 = .ok (.iconst 0, 1) := by decide +kernel
theorem dX3_copyFrom_40 : decode cX3_copyFrom 40 = .ok (.bipush 8, 2) := by decide +kernel
theorem dX3_copyFrom_42 : decode cX3_copyFrom 42 = .ok (.invokestatic 48, 3) := by decide +kernel
theorem dX3_copyFrom_45 : decode cX3_copyFrom 45 = .ok (.aload_n 1, 1) := by decide +kernel
theorem dX3_copyFrom_46 : decode cX3_copyFrom 46 = .ok (.getfield 21, 3) := by decide +kernel
theorem dX3_copyFrom_49 : decode cX3_copyFrom 49 = .ok (.iconst 0, 1) := by decide +kernel
theorem dX3_copyFrom_50 : decode cX3_copyFrom 50 = .ok (.aload_n 0, 1) := by decide +kernel
theorem dX3_copyFrom_51 : decode cX3_copyFrom 51 = .ok (.getfield 21, 3) := by decide +kernel
theorem dX3_copyFrom_54 : decode cX3_copyFrom 54 = .ok (.iconst 0, 1) := by decide +kernel
theorem dX3_copyFrom_55 : decode cX3_copyFrom 55 = .ok (.bipush 8, 2) := by decide +kernel
theorem dX3_copyFrom_57 : decode cX3_copyFrom 57 = .ok (.invokestatic 48, 3) := by decide +kernel
theorem dX3_copyFrom_60 : decode cX3_copyFrom 60 = .ok (.aload_n 1, 1) := by decide +kernel
theorem dX3_copyFrom_61 : decode cX3_copyFrom 61 = .ok (.getfield 24, 3) := by decide +kernel
theorem dX3_copyFrom_64 : decode cX3_copyFrom 64 = .ok (.iconst 0, 1) := by decide +kernel
theorem dX3_copyFrom_65 : decode cX3_copyFrom 65 = .ok (.aload_n 0, 1) := by decide +kernel
theorem dX3_copyFrom_66 : decode cX3_copyFrom 66 = .ok (.getfield 24, 3) := by decide +kernel
theorem dX3_copyFrom_69 : decode cX3_copyFrom 69 = .ok (.iconst 0, 1) := by decide +kernel
theorem dX3_copyFrom_70 : decode cX3_copyFrom 70 = .ok (.iconst 5, 1) := by decide +kernel
theorem dX3_copyFrom_71 : decode cX3_copyFrom 71 = .ok (.invokestatic 48, 3) := by decide +kernel
theorem dX3_copyFrom_74 : decode cX3_copyFrom 74 = .ok (.aload_n 1, 1) := by decide +kernel
theorem dX3_copyFrom_75 : decode cX3_copyFrom 75 = .ok (.getfield 27, 3) := by decide +kernel
theorem dX3_copyFrom_78 : decode cX3_copyFrom 78 = .ok (.iconst 0, 1) := by decide +kernel
theorem dX3_copyFrom_79 : decode cX3_copyFrom 79 = .ok (.aload_n 0, 1) := by decide +kernel
theorem dX3_copyFrom_80 : decode cX3_copyFrom 80 = .ok (.getfield 27, 3) := by decide +kernel
theorem dX3_copyFrom_83 : decode cX3_copyFrom 83 = .ok (.iconst 0, 1) := by decide +kernel
theorem dX3_copyFrom_84 : decode cX3_copyFrom 84 = .ok (.iconst 5, 1) := by decide +kernel
theorem dX3_copyFrom_85 : decode cX3_copyFrom 85 = .ok (.invokestatic 48, 3) := by decide +kernel
theorem dX3_copyFrom_88 : decode cX3_copyFrom 88 = .ok (.aload_n 1, 1) := by decide +kernel
theorem dX3_copyFrom_89 : decode cX3_copyFrom 89 = .ok (.getfield 30, 3) := by decide +kernel
theorem dX3_copyFrom_92 : decode cX3_copyFrom 92 = .ok (.iconst 0, 1) := by decide +kernel
theorem dX3_copyFrom_93 : decode cX3_copyFrom 93 = .ok (.aload_n 0, 1) := by decide +kernel
theorem dX3_copyFrom_94 : decode cX3_copyFrom 94 = .ok (.getfield 30, 3) := by decide +kernel
theorem dX3_copyFrom_97 : decode cX3_copyFrom 97 = .ok (.iconst 0, 1) := by decide +kernel
theorem dX3_copyFrom_98 : decode cX3_copyFrom 98 = .ok (.iconst 5, 1) := by decide +kernel
theorem dX3_copyFrom_99 : decode cX3_copyFrom 99 = .ok (.invokestatic 48, 3) := by decide +kernel
theorem dX3_copyFrom_102 : decode cX3_copyFrom 102 = .ok (.aload_n 1, 1) := by decide +kernel
theorem dX3_copyFrom_103 : decode cX3_copyFrom 103 = .ok (.getfield 33, 3) := by decide +kernel
theorem dX3_copyFrom_106 : decode cX3_copyFrom 106 = .ok (.iconst 0, 1) := by decide +kernel
theorem dX3_copyFrom_107 : decode cX3_copyFrom 107 = .ok (.aload_n 0, 1) := by decide +kernel
theorem dX3_copyFrom_108 : decode cX3_copyFrom 108 = .ok (.getfield 33, 3) := by decide +kernel
theorem dX3_copyFrom_111 : decode cX3_copyFrom 111 = .ok (.iconst 0, 1) := by decide +kernel
theorem dX3_copyFrom_112 : decode cX3_copyFrom 112 = .ok (.iconst 5, 1) := by decide +kernel
theorem dX3_copyFrom_113 : decode cX3_copyFrom 113 = .ok (.invokestatic 48, 3) := by decide +kernel
theorem dX3_copyFrom_116 : decode cX3_copyFrom 116 = .ok (.aload_n 1, 1) := by decide +kernel
theorem dX3_copyFrom_117 : decode cX3_copyFrom 117 = .ok (.getfield 36, 3) := by decide +kernel
theorem dX3_copyFrom_120 : decode cX3_copyFrom 120 = .ok (.iconst 0, 1) := by decide +kernel
theorem dX3_copyFrom_121 : decode cX3_copyFrom 121 = .ok (.aload_n 0, 1) := by decide +kernel
theorem dX3_copyFrom_122 : decode cX3_copyFrom 122 = .ok (.getfield 36, 3) := by decide +kernel
theorem dX3_copyFrom_125 : decode cX3_copyFrom 125 = .ok (.iconst 0, 1) := by decide +kernel
theorem dX3_copyFrom_126 : decode cX3_copyFrom 126 = .ok (.iconst 5, 1) := by decide +kernel
theorem dX3_copyFrom_127 : decode cX3_copyFrom 127 = .ok (.invokestatic 48, 3) := by decide +kernel
theorem dX3_copyFrom_130 : decode cX3_copyFrom 130 = .ok (.aload_n 0, 1) := by decide +kernel
theorem dX3_copyFrom_131 : decode cX3_copyFrom 131 = .ok (.aload_n 1, 1) := by decide +kernel
theorem dX3_copyFrom_132 : decode cX3_copyFrom 132 = .ok (.getfield 57, 3) := by decide +kernel
theorem dX3_copyFrom_135 : decode cX3_copyFrom 135 = .ok (.putfield 57, 3) := by decide +kernel
theorem dX3_copyFrom_138 : decode cX3_copyFrom 138 = .ok (.aload_n 0, 1) := by decide +kernel
theorem dX3_copyFrom_139 : decode cX3_copyFrom 139 = .ok (.aload_n 1, 1) := by decide +kernel
theorem dX3_copyFrom_140 : decode cX3_copyFrom 140 = .ok (.getfield 61, 3) := by decide +kernel
theorem dX3_copyFrom_143 : decode cX3_copyFrom 143 = .ok (.putfield 61, 3) := by decide +kernel
theorem dX3_copyFrom_146 : decode cX3_copyFrom 146 = .ok (.aload_n 0, 1) := by decide +kernel
theorem dX3_copyFrom_147 : decode cX3_copyFrom 147 = .ok (.aload_n 1, 1) := by decide +kernel
theorem dX3_copyFrom_148 : decode cX3_copyFrom 148 = .ok (.getfield 65, 3) := by decide +kernel
theorem dX3_copyFrom_151 : decode cX3_copyFrom 151 = .ok (.putfield 65, 3) := by decide +kernel
theorem dX3_copyFrom_154 : decode cX3_copyFrom 154 = .ok (.aload_n 0, 1) := by decide +kernel
theorem dX3_copyFrom_155 : decode cX3_copyFrom 155 = .ok (.aload_n 1, 1) := by decide +kernel
theorem dX3_copyFrom_156 : decode cX3_copyFrom 156 = .ok (.getfield 68, 3) := by decide +kernel
theorem dX3_copyFrom_159 : decode cX3_copyFrom 159 = .ok (.putfield 68, 3) := by decide +kernel
theorem dX3_copyFrom_162 : decode cX3_copyFrom 162 = .ok (.aload_n 0, 1) := by decide +kernel
theorem dX3_copyFrom_163 : decode cX3_copyFrom 163 = .ok (.aload_n 1, 1) := by decide +kernel
theorem dX3_copyFrom_164 : decode cX3_copyFrom 164 = .ok (.getfield 71, 3) := by decide +kernel
theorem dX3_copyFrom_167 : decode cX3_copyFrom 167 = .ok (.putfield 71, 3) := by decide +kernel
theorem dX3_copyFrom_170 : decode cX3_copyFrom 170 = .ok (.return_, 1) := by decide +kernel
theorem dX3_passDay_0 : decode cX3_passDay 0 = .ok (.aload_n 0, 1) := by decide +kernel
theorem dX3_passDay_1 : decode cX3_passDay 1 = .ok (.getfield 18, 3) := by decide +kernel
theorem dX3_passDay_4 : decode cX3_passDay 4 = .ok (.iconst (-1), 1) := by decide +kernel
theorem dX3_passDay_5 : decode cX3_passDay 5 = .ok (.invokestatic 39, 3) := by decide +kernel
theorem dX3_passDay_8 : decode cX3_passDay 8 = .ok (.iconst 0, 1) := by decide +kernel
theorem dX3_passDay_9 : decode cX3_passDay 9 = .ok (.istore_n 2, 1) := by decide +kernel
theorem dX3_passDay_10 : decode cX3_passDay 10 = .ok (.iload_n 2, 1) := by decide +kernel
theorem dX3_passDay_11 : decode cX3_passDay 11 = .ok (.aload_n 1, 1) := by decide +kernel
theorem dX3_passDay_12 : decode cX3_passDay 12 = .ok (.getfield 74, 3) := by decide +kernel
theorem dX3_passDay_15 : decode cX3_passDay 15 = .ok (.if_icmp .ge 47, 3) := by decide +kernel
theorem dX3_passDay_18 : decode cX3_passDay 18 = .ok (.aload_n 0, 1) := by decide +kernel
theorem dX3_passDay_19 : decode cX3_passDay 19 = .ok (.iload_n 2, 1) := by decide +kernel
theorem dX3_passDay_20 : decode cX3_passDay 20 = .ok (.invokevirtual 77, 3) := by decide +kernel
theorem dX3_passDay_23 : decode cX3_passDay 23 = .ok (.ifCond .eq 12, 3) := by decide +kernel
theorem dX3_passDay_26 : decode cX3_passDay 26 = .ok (.aload_n 0, 1) := by decide +kernel
theorem dX3_passDay_27 : decode cX3_passDay 27 = .ok (.aload_n 1, 1) := by decide +kernel
theorem dX3_passDay_28 : decode cX3_passDay 28 = .ok (.iload_n 2, 1) := by decide +kernel
theorem dX3_passDay_29 : decode cX3_passDay 29 = .ok (.invokevirtual 81, 3) := by decide +kernel
theorem dX3_passDay_32 : decode cX3_passDay 32 = .ok (.goto 4, 3) := by decide +kernel
theorem dX3_passDay_35 : decode cX3_passDay 35 = .ok (.iconst (-1), 1) := by decide +kernel
theorem dX3_passDay_36 : decode cX3_passDay 36 = .ok (.istore_n 3, 1) := by decide +kernel
theorem dX3_passDay_37 : decode cX3_passDay 37 = .ok (.iload_n 3, 1) := by decide +kernel
theorem dX3_passDay_38 : decode cX3_passDay 38 = .ok (.iconst (-1), 1) := by decide +kernel
theorem dX3_passDay_39 : decode cX3_passDay 39 = .ok (.if_icmp .eq 17, 3) := by decide +kernel
theorem dX3_passDay_42 : decode cX3_passDay 42 = .ok (.aload_n 0, 1) := by decide +kernel
theorem dX3_passDay_43 : decode cX3_passDay 43 = .ok (.iload_n 2, 1) := by decide +kernel
theorem dX3_passDay_44 : decode cX3_passDay 44 = .ok (.iload_n 3, 1) := by decide +kernel
theorem dX3_passDay_45 : decode cX3_passDay 45 = .ok (.aload_n 1, 1) := by decide +kernel
theorem dX3_passDay_46 : decode cX3_passDay 46 = .ok (.aload_n 0, 1) := by decide +kernel
theorem dX3_passDay_47 : decode cX3_passDay 47 = .ok (.getfield 57, 3) := by decide +kernel
theorem dX3_passDay_50 : decode cX3_passDay 50 = .ok (.invokevirtual 85, 3) := by decide +kernel
theorem dX3_passDay_53 : decode cX3_passDay 53 = .ok (.invokevirtual 89, 3) := by decide +kernel
theorem dX3_passDay_56 : decode cX3_passDay 56 = .ok (.iinc 2 1, 3) := by decide +kernel
theorem dX3_passDay_59 : decode cX3_passDay 59 = .ok (.goto (-49), 3) := by decide +kernel
theorem dX3_passDay_62 : decode cX3_passDay 62 = .ok (.aload_n 0, 1) := by decide +kernel
theorem dX3_passDay_63 : decode cX3_passDay 63 = .ok (.iconst 0, 1) := by decide +kernel
theorem dX3_passDay_64 : decode cX3_passDay 64 = .ok (.putfield 61, 3) := by decide +kernel
theorem dX3_passDay_67 : decode cX3_passDay 67 = .ok (.aload_n 0, 1) := by decide +kernel
theorem dX3_passDay_68 : decode cX3_passDay 68 = .ok (.dup, 1) := by decide +kernel
theorem dX3_passDay_69 : decode cX3_passDay 69 = .ok (.getfield 57, 3) := by decide +kernel
theorem dX3_passDay_72 : decode cX3_passDay 72 = .ok (.iconst 1, 1) := by decide +kernel
theorem dX3_passDay_73 : decode cX3_passDay 73 = .ok (.iadd, 1) := by decide +kernel
theorem dX3_passDay_74 : decode cX3_passDay 74 = .ok (.putfield 57, 3) := by decide +kernel
theorem dX3_passDay_77 : decode cX3_passDay 77 = .ok (.return_, 1) := by decide +kernel
theorem dX3_laysToday_0 : decode cX3_laysToday 0 = .ok (.aload_n 0, 1) := by decide +kernel
theorem dX3_laysToday_1 : decode cX3_laysToday 1 = .ok (.getfield 61, 3) := by decide +kernel
theorem dX3_laysToday_4 : decode cX3_laysToday 4 = .ok (.ifCond .ne 26, 3) := by decide +kernel
theorem dX3_laysToday_7 : decode cX3_laysToday 7 = .ok (.aload_n 0, 1) := by decide +kernel
theorem dX3_laysToday_8 : decode cX3_laysToday 8 = .ok (.getfield 24, 3) := by decide +kernel
theorem dX3_laysToday_11 : decode cX3_laysToday 11 = .ok (.iload_n 1, 1) := by decide +kernel
theorem dX3_laysToday_12 : decode cX3_laysToday 12 = .ok (.iaload, 1) := by decide +kernel
theorem dX3_laysToday_13 : decode cX3_laysToday 13 = .ok (.iconst 1, 1) := by decide +kernel
theorem dX3_laysToday_14 : decode cX3_laysToday 14 = .ok (.if_icmp .ne 12, 3) := by decide +kernel
theorem dX3_laysToday_17 : decode cX3_laysToday 17 = .ok (.aload_n 0, 1) := by decide +kernel
theorem dX3_laysToday_18 : decode cX3_laysToday 18 = .ok (.getfield 57, 3) := by decide +kernel
theorem dX3_laysToday_21 : decode cX3_laysToday 21 = .ok (.iconst 2, 1) := by decide +kernel
theorem dX3_laysToday_22 : decode cX3_laysToday 22 = .ok (.irem, 1) := by decide +kernel
theorem dX3_laysToday_23 : decode cX3_laysToday 23 = .ok (.ifCond .ne 7, 3) := by decide +kernel
theorem dX3_laysToday_26 : decode cX3_laysToday 26 = .ok (.iconst 1, 1) := by decide +kernel
theorem dX3_laysToday_27 : decode cX3_laysToday 27 = .ok (.goto 4, 3) := by decide +kernel
theorem dX3_laysToday_30 : decode cX3_laysToday 30 = .ok (.iconst 0, 1) := by decide +kernel
theorem dX3_laysToday_31 : decode cX3_laysToday 31 = .ok (.ireturn, 1) := by decide +kernel
theorem dX3_favourite_0 : decode cX3_favourite 0 = .ok (.iconst (-1), 1) := by decide +kernel
theorem dX3_favourite_1 : decode cX3_favourite 1 = .ok (.istore_n 3, 1) := by decide +kernel
theorem dX3_favourite_2 : decode cX3_favourite 2 = .ok (.iconst 0, 1) := by decide +kernel
theorem dX3_favourite_3 : decode cX3_favourite 3 = .ok (.istore 4, 2) := by decide +kernel
theorem dX3_favourite_5 : decode cX3_favourite 5 = .ok (.iconst 0, 1) := by decide +kernel
theorem dX3_favourite_6 : decode cX3_favourite 6 = .ok (.istore 5, 2) := by decide +kernel
theorem dX3_favourite_8 : decode cX3_favourite 8 = .ok (.iload 5, 2) := by decide +kernel
theorem dX3_favourite_10 : decode cX3_favourite 10 = .ok (.aload_n 1, 1) := by decide +kernel
theorem dX3_favourite_11 : decode cX3_favourite 11 = .ok (.getfield 93, 3) := by decide +kernel
theorem dX3_favourite_14 : decode cX3_favourite 14 = .ok (.if_icmp .ge 49, 3) := by decide +kernel
theorem dX3_favourite_17 : decode cX3_favourite 17 = .ok (.aload_n 0, 1) := by decide +kernel
theorem dX3_favourite_18 : decode cX3_favourite 18 = .ok (.getfield 18, 3) := by decide +kernel
theorem dX3_favourite_21 : decode cX3_favourite 21 = .ok (.iload 5, 2) := by decide +kernel
theorem dX3_favourite_23 : decode cX3_favourite 23 = .ok (.iaload, 1) := by decide +kernel
theorem dX3_favourite_24 : decode cX3_favourite 24 = .ok (.iconst (-1), 1) := by decide +kernel
theorem dX3_favourite_25 : decode cX3_favourite 25 = .ok (.if_icmp .ne 32, 3) := by decide +kernel
theorem dX3_favourite_28 : decode cX3_favourite 28 = .ok (.aload_n 0, 1) := by decide +kernel
theorem dX3_favourite_29 : decode cX3_favourite 29 = .ok (.aload_n 1, 1) := by decide +kernel
theorem dX3_favourite_30 : decode cX3_favourite 30 = .ok (.iload_n 2, 1) := by decide +kernel
theorem dX3_favourite_31 : decode cX3_favourite 31 = .ok (.iload 5, 2) := by decide +kernel
theorem dX3_favourite_33 : decode cX3_favourite 33 = .ok (.invokevirtual 96, 3) := by decide +kernel
theorem dX3_favourite_36 : decode cX3_favourite 36 = .ok (.istore 6, 2) := by decide +kernel
theorem dX3_favourite_38 : decode cX3_favourite 38 = .ok (.iload_n 3, 1) := by decide +kernel
theorem dX3_favourite_39 : decode cX3_favourite 39 = .ok (.iconst (-1), 1) := by decide +kernel
theorem dX3_favourite_40 : decode cX3_favourite 40 = .ok (.if_icmp .eq 10, 3) := by decide +kernel
theorem dX3_favourite_43 : decode cX3_favourite 43 = .ok (.iload 6, 2) := by decide +kernel
theorem dX3_favourite_45 : decode cX3_favourite 45 = .ok (.iload 4, 2) := by decide +kernel
theorem dX3_favourite_47 : decode cX3_favourite 47 = .ok (.if_icmp .le 10, 3) := by decide +kernel
theorem dX3_favourite_50 : decode cX3_favourite 50 = .ok (.iload 5, 2) := by decide +kernel
theorem dX3_favourite_52 : decode cX3_favourite 52 = .ok (.istore_n 3, 1) := by decide +kernel
theorem dX3_favourite_53 : decode cX3_favourite 53 = .ok (.iload 6, 2) := by decide +kernel
theorem dX3_favourite_55 : decode cX3_favourite 55 = .ok (.istore 4, 2) := by decide +kernel
theorem dX3_favourite_57 : decode cX3_favourite 57 = .ok (.iinc 5 1, 3) := by decide +kernel
theorem dX3_favourite_60 : decode cX3_favourite 60 = .ok (.goto (-52), 3) := by decide +kernel
theorem dX3_favourite_63 : decode cX3_favourite 63 = .ok (.iload_n 3, 1) := by decide +kernel
theorem dX3_favourite_64 : decode cX3_favourite 64 = .ok (.ireturn, 1) := by decide +kernel
theorem dX3_layEgg_0 : decode cX3_layEgg 0 = .ok (.iload_n 3, 1) := by decide +kernel
theorem dX3_layEgg_1 : decode cX3_layEgg 1 = .ok (.aload_n 0, 1) := by decide +kernel
theorem dX3_layEgg_2 : decode cX3_layEgg 2 = .ok (.getfield 9, 3) := by decide +kernel
theorem dX3_layEgg_5 : decode cX3_layEgg 5 = .ok (.iload_n 2, 1) := by decide +kernel
theorem dX3_layEgg_6 : decode cX3_layEgg 6 = .ok (.iaload, 1) := by decide +kernel
theorem dX3_layEgg_7 : decode cX3_layEgg 7 = .ok (.if_icmp .ne 7, 3) := by decide +kernel
theorem dX3_layEgg_10 : decode cX3_layEgg 10 = .ok (.iconst 1, 1) := by decide +kernel
theorem dX3_layEgg_11 : decode cX3_layEgg 11 = .ok (.goto 4, 3) := by decide +kernel
theorem dX3_layEgg_14 : decode cX3_layEgg 14 = .ok (.iconst 0, 1) := by decide +kernel
theorem dX3_layEgg_15 : decode cX3_layEgg 15 = .ok (.istore 4, 2) := by decide +kernel
theorem dX3_layEgg_17 : decode cX3_layEgg 17 = .ok (.aload_n 0, 1) := by decide +kernel
theorem dX3_layEgg_18 : decode cX3_layEgg 18 = .ok (.getfield 18, 3) := by decide +kernel
theorem dX3_layEgg_21 : decode cX3_layEgg 21 = .ok (.iload_n 2, 1) := by decide +kernel
theorem dX3_layEgg_22 : decode cX3_layEgg 22 = .ok (.iload_n 1, 1) := by decide +kernel
theorem dX3_layEgg_23 : decode cX3_layEgg 23 = .ok (.iastore, 1) := by decide +kernel
theorem dX3_layEgg_24 : decode cX3_layEgg 24 = .ok (.aload_n 0, 1) := by decide +kernel
theorem dX3_layEgg_25 : decode cX3_layEgg 25 = .ok (.getfield 30, 3) := by decide +kernel
theorem dX3_layEgg_28 : decode cX3_layEgg 28 = .ok (.iload_n 1, 1) := by decide +kernel
theorem dX3_layEgg_29 : decode cX3_layEgg 29 = .ok (.iload_n 2, 1) := by decide +kernel
theorem dX3_layEgg_30 : decode cX3_layEgg 30 = .ok (.iastore, 1) := by decide +kernel
theorem dX3_layEgg_31 : decode cX3_layEgg 31 = .ok (.aload_n 0, 1) := by decide +kernel
theorem dX3_layEgg_32 : decode cX3_layEgg 32 = .ok (.getfield 21, 3) := by decide +kernel
theorem dX3_layEgg_35 : decode cX3_layEgg 35 = .ok (.iload_n 2, 1) := by decide +kernel
theorem dX3_layEgg_36 : decode cX3_layEgg 36 = .ok (.iload 4, 2) := by decide +kernel
theorem dX3_layEgg_38 : decode cX3_layEgg 38 = .ok (.ifCond .eq 7, 3) := by decide +kernel
theorem dX3_layEgg_41 : decode cX3_layEgg 41 = .ok (.iconst 2, 1) := by decide +kernel
theorem dX3_layEgg_42 : decode cX3_layEgg 42 = .ok (.goto 4, 3) := by decide +kernel
theorem dX3_layEgg_45 : decode cX3_layEgg 45 = .ok (.iconst (-1), 1) := by decide +kernel
theorem dX3_layEgg_46 : decode cX3_layEgg 46 = .ok (.iastore, 1) := by decide +kernel
theorem dX3_layEgg_47 : decode cX3_layEgg 47 = .ok (.iload 4, 2) := by decide +kernel
theorem dX3_layEgg_49 : decode cX3_layEgg 49 = .ok (.ifCond .eq 16, 3) := by decide +kernel
theorem dX3_layEgg_52 : decode cX3_layEgg 52 = .ok (.aload_n 0, 1) := by decide +kernel
theorem dX3_layEgg_53 : decode cX3_layEgg 53 = .ok (.getfield 33, 3) := by decide +kernel
theorem dX3_layEgg_56 : decode cX3_layEgg 56 = .ok (.iload_n 1, 1) := by decide +kernel
theorem dX3_layEgg_57 : decode cX3_layEgg 57 = .ok (.dup2, 1) := by decide +kernel
theorem dX3_layEgg_58 : decode cX3_layEgg 58 = .ok (.iaload, 1) := by decide +kernel
theorem dX3_layEgg_59 : decode cX3_layEgg 59 = .ok (.iconst 1, 1) := by decide +kernel
theorem dX3_layEgg_60 : decode cX3_layEgg 60 = .ok (.iadd, 1) := by decide +kernel
theorem dX3_layEgg_61 : decode cX3_layEgg 61 = .ok (.iastore, 1) := by decide +kernel
theorem dX3_layEgg_62 : decode cX3_layEgg 62 = .ok (.goto 13, 3) := by decide +kernel
theorem dX3_layEgg_65 : decode cX3_layEgg 65 = .ok (.aload_n 0, 1) := by decide +kernel
theorem dX3_layEgg_66 : decode cX3_layEgg 66 = .ok (.getfield 36, 3) := by decide +kernel
theorem dX3_layEgg_69 : decode cX3_layEgg 69 = .ok (.iload_n 1, 1) := by decide +kernel
theorem dX3_layEgg_70 : decode cX3_layEgg 70 = .ok (.dup2, 1) := by decide +kernel
theorem dX3_layEgg_71 : decode cX3_layEgg 71 = .ok (.iaload, 1) := by decide +kernel
theorem dX3_layEgg_72 : decode cX3_layEgg 72 = .ok (.iconst 1, 1) := by decide +kernel
theorem dX3_layEgg_73 : decode cX3_layEgg 73 = .ok (.iadd, 1) := by decide +kernel
theorem dX3_layEgg_74 : decode cX3_layEgg 74 = .ok (.iastore, 1) := by decide +kernel
theorem dX3_layEgg_75 : decode cX3_layEgg 75 = .ok (.return_, 1) := by decide +kernel
theorem dX3_likes_0 : decode cX3_likes 0 = .ok (.iconst 2, 1) := by decide +kernel
theorem dX3_likes_1 : decode cX3_likes 1 = .ok (.aload_n 0, 1) := by decide +kernel
theorem dX3_likes_2 : decode cX3_likes 2 = .ok (.getfield 15, 3) := by decide +kernel
theorem dX3_likes_5 : decode cX3_likes 5 = .ok (.iload_n 3, 1) := by decide +kernel
theorem dX3_likes_6 : decode cX3_likes 6 = .ok (.iaload, 1) := by decide +kernel
theorem dX3_likes_7 : decode cX3_likes 7 = .ok (.imul, 1) := by decide +kernel
theorem dX3_likes_8 : decode cX3_likes 8 = .ok (.aload_n 1, 1) := by decide +kernel
theorem dX3_likes_9 : decode cX3_likes 9 = .ok (.getfield 100, 3) := by decide +kernel
theorem dX3_likes_12 : decode cX3_likes 12 = .ok (.iload_n 3, 1) := by decide +kernel
theorem dX3_likes_13 : decode cX3_likes 13 = .ok (.iaload, 1) := by decide +kernel
theorem dX3_likes_14 : decode cX3_likes 14 = .ok (.iadd, 1) := by decide +kernel
theorem dX3_likes_15 : decode cX3_likes 15 = .ok (.istore 4, 2) := by decide +kernel
theorem dX3_likes_17 : decode cX3_likes 17 = .ok (.aload_n 0, 1) := by decide +kernel
theorem dX3_likes_18 : decode cX3_likes 18 = .ok (.getfield 30, 3) := by decide +kernel
theorem dX3_likes_21 : decode cX3_likes 21 = .ok (.iload_n 2, 1) := by decide +kernel
theorem dX3_likes_22 : decode cX3_likes 22 = .ok (.iaload, 1) := by decide +kernel
theorem dX3_likes_23 : decode cX3_likes 23 = .ok (.iload_n 3, 1) := by decide +kernel
theorem dX3_likes_24 : decode cX3_likes 24 = .ok (.if_icmp .ne 7, 3) := by decide +kernel
theorem dX3_likes_27 : decode cX3_likes 27 = .ok (.iconst 1, 1) := by decide +kernel
theorem dX3_likes_28 : decode cX3_likes 28 = .ok (.goto 4, 3) := by decide +kernel
theorem dX3_likes_31 : decode cX3_likes 31 = .ok (.iconst 0, 1) := by decide +kernel
theorem dX3_likes_32 : decode cX3_likes 32 = .ok (.istore 5, 2) := by decide +kernel
theorem dX3_likes_34 : decode cX3_likes 34 = .ok (.aload_n 0, 1) := by decide +kernel
theorem dX3_likes_35 : decode cX3_likes 35 = .ok (.getfield 24, 3) := by decide +kernel
theorem dX3_likes_38 : decode cX3_likes 38 = .ok (.iload_n 2, 1) := by decide +kernel
theorem dX3_likes_39 : decode cX3_likes 39 = .ok (.iaload, 1) := by decide +kernel
theorem dX3_likes_40 : decode cX3_likes 40 = .ok (.tableswitch 93 0 2 #[28, 48, 71], 28) := by decide +kernel
theorem dX3_likes_68 : decode cX3_likes 68 = .ok (.iload 5, 2) := by decide +kernel
theorem dX3_likes_70 : decode cX3_likes 70 = .ok (.ifCond .eq 15, 3) := by decide +kernel
theorem dX3_likes_73 : decode cX3_likes 73 = .ok (.iload 4, 2) := by decide +kernel
theorem dX3_likes_75 : decode cX3_likes 75 = .ok (.aload_n 0, 1) := by decide +kernel
theorem dX3_likes_76 : decode cX3_likes 76 = .ok (.getfield 27, 3) := by decide +kernel
theorem dX3_likes_79 : decode cX3_likes 79 = .ok (.iload_n 2, 1) := by decide +kernel
theorem dX3_likes_80 : decode cX3_likes 80 = .ok (.iaload, 1) := by decide +kernel
theorem dX3_likes_81 : decode cX3_likes 81 = .ok (.isub, 1) := by decide +kernel
theorem dX3_likes_82 : decode cX3_likes 82 = .ok (.goto 5, 3) := by decide +kernel
theorem dX3_likes_85 : decode cX3_likes 85 = .ok (.iload 4, 2) := by decide +kernel
theorem dX3_likes_87 : decode cX3_likes 87 = .ok (.ireturn, 1) := by decide +kernel
theorem dX3_likes_88 : decode cX3_likes 88 = .ok (.iload 5, 2) := by decide +kernel
theorem dX3_likes_90 : decode cX3_likes 90 = .ok (.ifCond .eq 18, 3) := by decide +kernel
theorem dX3_likes_93 : decode cX3_likes 93 = .ok (.iload 4, 2) := by decide +kernel
theorem dX3_likes_95 : decode cX3_likes 95 = .ok (.aload_n 0, 1) := by decide +kernel
theorem dX3_likes_96 : decode cX3_likes 96 = .ok (.getfield 27, 3) := by decide +kernel
theorem dX3_likes_99 : decode cX3_likes 99 = .ok (.iload_n 2, 1) := by decide +kernel
theorem dX3_likes_100 : decode cX3_likes 100 = .ok (.iaload, 1) := by decide +kernel
theorem dX3_likes_101 : decode cX3_likes 101 = .ok (.isub, 1) := by decide +kernel
theorem dX3_likes_102 : decode cX3_likes 102 = .ok (.bipush 9, 2) := by decide +kernel
theorem dX3_likes_104 : decode cX3_likes 104 = .ok (.iadd, 1) := by decide +kernel
theorem dX3_likes_105 : decode cX3_likes 105 = .ok (.goto 5, 3) := by decide +kernel
theorem dX3_likes_108 : decode cX3_likes 108 = .ok (.iload 4, 2) := by decide +kernel
theorem dX3_likes_110 : decode cX3_likes 110 = .ok (.ireturn, 1) := by decide +kernel
theorem dX3_likes_111 : decode cX3_likes 111 = .ok (.aload_n 1, 1) := by decide +kernel
theorem dX3_likes_112 : decode cX3_likes 112 = .ok (.getfield 100, 3) := by decide +kernel
theorem dX3_likes_115 : decode cX3_likes 115 = .ok (.iload_n 3, 1) := by decide +kernel
theorem dX3_likes_116 : decode cX3_likes 116 = .ok (.iaload, 1) := by decide +kernel
theorem dX3_likes_117 : decode cX3_likes 117 = .ok (.aload_n 0, 1) := by decide +kernel
theorem dX3_likes_118 : decode cX3_likes 118 = .ok (.getfield 57, 3) := by decide +kernel
theorem dX3_likes_121 : decode cX3_likes 121 = .ok (.aload_n 0, 1) := by decide +kernel
theorem dX3_likes_122 : decode cX3_likes 122 = .ok (.getfield 27, 3) := by decide +kernel
theorem dX3_likes_125 : decode cX3_likes 125 = .ok (.iload_n 2, 1) := by decide +kernel
theorem dX3_likes_126 : decode cX3_likes 126 = .ok (.iaload, 1) := by decide +kernel
theorem dX3_likes_127 : decode cX3_likes 127 = .ok (.imul, 1) := by decide +kernel
theorem dX3_likes_128 : decode cX3_likes 128 = .ok (.iadd, 1) := by decide +kernel
theorem dX3_likes_129 : decode cX3_likes 129 = .ok (.bipush 10, 2) := by decide +kernel
theorem dX3_likes_131 : decode cX3_likes 131 = .ok (.irem, 1) := by decide +kernel
theorem dX3_likes_132 : decode cX3_likes 132 = .ok (.ireturn, 1) := by decide +kernel
theorem dX3_likes_133 : decode cX3_likes 133 = .ok (.aload_n 1, 1) := by decide +kernel
theorem dX3_likes_134 : decode cX3_likes 134 = .ok (.getfield 93, 3) := by decide +kernel
theorem dX3_likes_137 : decode cX3_likes 137 = .ok (.ifCond .le 22, 3) := by decide +kernel
theorem dX3_likes_140 : decode cX3_likes 140 = .ok (.iload_n 3, 1) := by decide +kernel
theorem dX3_likes_141 : decode cX3_likes 141 = .ok (.aload_n 0, 1) := by decide +kernel
theorem dX3_likes_142 : decode cX3_likes 142 = .ok (.getfield 27, 3) := by decide +kernel
theorem dX3_likes_145 : decode cX3_likes 145 = .ok (.iload_n 2, 1) := by decide +kernel
theorem dX3_likes_146 : decode cX3_likes 146 = .ok (.iaload, 1) := by decide +kernel
theorem dX3_likes_147 : decode cX3_likes 147 = .ok (.aload_n 1, 1) := by decide +kernel
theorem dX3_likes_148 : decode cX3_likes 148 = .ok (.getfield 93, 3) := by decide +kernel
theorem dX3_likes_151 : decode cX3_likes 151 = .ok (.irem, 1) := by decide +kernel
theorem dX3_likes_152 : decode cX3_likes 152 = .ok (.if_icmp .ne 7, 3) := by decide +kernel
theorem dX3_likes_155 : decode cX3_likes 155 = .ok (.iconst 1, 1) := by decide +kernel
theorem dX3_likes_156 : decode cX3_likes 156 = .ok (.goto 4, 3) := by decide +kernel
theorem dX3_likes_159 : decode cX3_likes 159 = .ok (.iconst 0, 1) := by decide +kernel
theorem dX3_likes_160 : decode cX3_likes 160 = .ok (.ireturn, 1) := by decide +kernel
theorem dX3_placeOfEgg_0 : decode cX3_placeOfEgg 0 = .ok (.iconst 0, 1) := by decide +kernel
theorem dX3_placeOfEgg_1 : decode cX3_placeOfEgg 1 = .ok (.istore_n 2, 1) := by decide +kernel
theorem dX3_placeOfEgg_2 : decode cX3_placeOfEgg 2 = .ok (.iload_n 2, 1) := by decide +kernel
theorem dX3_placeOfEgg_3 : decode cX3_placeOfEgg 3 = .ok (.bipush 8, 2) := by decide +kernel
theorem dX3_placeOfEgg_5 : decode cX3_placeOfEgg 5 = .ok (.if_icmp .ge 21, 3) := by decide +kernel
theorem dX3_placeOfEgg_8 : decode cX3_placeOfEgg 8 = .ok (.aload_n 0, 1) := by decide +kernel
theorem dX3_placeOfEgg_9 : decode cX3_placeOfEgg 9 = .ok (.getfield 18, 3) := by decide +kernel
theorem dX3_placeOfEgg_12 : decode cX3_placeOfEgg 12 = .ok (.iload_n 2, 1) := by decide +kernel
theorem dX3_placeOfEgg_13 : decode cX3_placeOfEgg 13 = .ok (.iaload, 1) := by decide +kernel
theorem dX3_placeOfEgg_14 : decode cX3_placeOfEgg 14 = .ok (.iload_n 1, 1) := by decide +kernel
theorem dX3_placeOfEgg_15 : decode cX3_placeOfEgg 15 = .ok (.if_icmp .ne 5, 3) := by decide +kernel
theorem dX3_placeOfEgg_18 : decode cX3_placeOfEgg 18 = .ok (.iload_n 2, 1) := by decide +kernel
theorem dX3_placeOfEgg_19 : decode cX3_placeOfEgg 19 = .ok (.ireturn, 1) := by decide +kernel
theorem dX3_placeOfEgg_20 : decode cX3_placeOfEgg 20 = .ok (.iinc 2 1, 3) := by decide +kernel
theorem dX3_placeOfEgg_23 : decode cX3_placeOfEgg 23 = .ok (.goto (-21), 3) := by decide +kernel
theorem dX3_placeOfEgg_26 : decode cX3_placeOfEgg 26 = .ok (.iconst (-1), 1) := by decide +kernel
theorem dX3_placeOfEgg_27 : decode cX3_placeOfEgg 27 = .ok (.ireturn, 1) := by decide +kernel
theorem dX3_eggBits_0 : decode cX3_eggBits 0 = .ok (.iconst 0, 1) := by decide +kernel
theorem dX3_eggBits_1 : decode cX3_eggBits 1 = .ok (.istore_n 1, 1) := by decide +kernel
theorem dX3_eggBits_2 : decode cX3_eggBits 2 = .ok (.iconst 0, 1) := by decide +kernel
theorem dX3_eggBits_3 : decode cX3_eggBits 3 = .ok (.istore_n 2, 1) := by decide +kernel
theorem dX3_eggBits_4 : decode cX3_eggBits 4 = .ok (.iload_n 2, 1) := by decide +kernel
theorem dX3_eggBits_5 : decode cX3_eggBits 5 = .ok (.bipush 8, 2) := by decide +kernel
theorem dX3_eggBits_7 : decode cX3_eggBits 7 = .ok (.if_icmp .ge 25, 3) := by decide +kernel
theorem dX3_eggBits_10 : decode cX3_eggBits 10 = .ok (.aload_n 0, 1) := by decide +kernel
theorem dX3_eggBits_11 : decode cX3_eggBits 11 = .ok (.getfield 18, 3) := by decide +kernel
theorem dX3_eggBits_14 : decode cX3_eggBits 14 = .ok (.iload_n 2, 1) := by decide +kernel
theorem dX3_eggBits_15 : decode cX3_eggBits 15 = .ok (.iaload, 1) := by decide +kernel
theorem dX3_eggBits_16 : decode cX3_eggBits 16 = .ok (.iconst (-1), 1) := by decide +kernel
theorem dX3_eggBits_17 : decode cX3_eggBits 17 = .ok (.if_icmp .eq 9, 3) := by decide +kernel
theorem dX3_eggBits_20 : decode cX3_eggBits 20 = .ok (.iload_n 1, 1) := by decide +kernel
theorem dX3_eggBits_21 : decode cX3_eggBits 21 = .ok (.iconst 1, 1) := by decide +kernel
theorem dX3_eggBits_22 : decode cX3_eggBits 22 = .ok (.iload_n 2, 1) := by decide +kernel
theorem dX3_eggBits_23 : decode cX3_eggBits 23 = .ok (.ishl, 1) := by decide +kernel
theorem dX3_eggBits_24 : decode cX3_eggBits 24 = .ok (.ior, 1) := by decide +kernel
theorem dX3_eggBits_25 : decode cX3_eggBits 25 = .ok (.istore_n 1, 1) := by decide +kernel
theorem dX3_eggBits_26 : decode cX3_eggBits 26 = .ok (.iinc 2 1, 3) := by decide +kernel
theorem dX3_eggBits_29 : decode cX3_eggBits 29 = .ok (.goto (-25), 3) := by decide +kernel
theorem dX3_eggBits_32 : decode cX3_eggBits 32 = .ok (.iload_n 1, 1) := by decide +kernel
theorem dX3_eggBits_33 : decode cX3_eggBits 33 = .ok (.ireturn, 1) := by decide +kernel
theorem dX4_init_0 : decode cX4_init 0 = .ok (.aload_n 0, 1) := by decide +kernel
theorem dX4_init_1 : decode cX4_init 1 = .ok (.invokespecial 1, 3) := by decide +kernel
theorem dX4_init_4 : decode cX4_init 4 = .ok (.aload_n 0, 1) := by decide +kernel
theorem dX4_init_5 : decode cX4_init 5 = .ok (.new 7, 3) := by decide +kernel
theorem dX4_init_8 : decode cX4_init 8 = .ok (.dup, 1) := by decide +kernel
theorem dX4_init_9 : decode cX4_init 9 = .ok (.invokespecial 9, 3) := by decide +kernel
theorem dX4_init_12 : decode cX4_init 12 = .ok (.putfield 10, 3) := by decide +kernel
theorem dX4_init_15 : decode cX4_init 15 = .ok (.aload_n 0, 1) := by decide +kernel
theorem dX4_init_16 : decode cX4_init 16 = .ok (.new 16, 3) := by decide +kernel
theorem dX4_init_19 : decode cX4_init 19 = .ok (.dup, 1) := by decide +kernel
theorem dX4_init_20 : decode cX4_init 20 = .ok (.invokespecial 18, 3) := by decide +kernel
theorem dX4_init_23 : decode cX4_init 23 = .ok (.putfield 19, 3) := by decide +kernel
theorem dX4_init_26 : decode cX4_init 26 = .ok (.aload_n 0, 1) := by decide +kernel
theorem dX4_init_27 : decode cX4_init 27 = .ok (.new 16, 3) := by decide +kernel
theorem dX4_init_30 : decode cX4_init 30 = .ok (.dup, 1) := by decide +kernel
theorem dX4_init_31 : decode cX4_init 31 = .ok (.invokespecial 18, 3) := by decide +kernel
theorem dX4_init_34 : decode cX4_init 34 = .ok (.putfield 23, 3) := by decide +kernel
theorem dX4_init_37 : decode cX4_init 37 = .ok (.aload_n 0, 1) := by decide +kernel
theorem dX4_init_38 : decode cX4_init 38 = .ok (.new 26, 3) := by decide +kernel
theorem dX4_init_41 : decode cX4_init 41 = .ok (.dup, 1) := by decide +kernel
theorem dX4_init_42 : decode cX4_init 42 = .ok (.invokespecial 28, 3) := by decide +kernel
theorem dX4_init_45 : decode cX4_init 45 = .ok (.putfield 29, 3) := by decide +kernel
theorem dX4_init_48 : decode cX4_init 48 = .ok (.aload_n 0, 1) := by decide +kernel
theorem dX4_init_49 : decode cX4_init 49 = .ok (.new 26, 3) := by decide +kernel
theorem dX4_init_52 : decode cX4_init 52 = .ok (.dup, 1) := by decide +kernel
theorem dX4_init_53 : decode cX4_init 53 = .ok (.invokespecial 28, 3) := by decide +kernel
theorem dX4_init_56 : decode cX4_init 56 = .ok (.putfield 33, 3) := by decide +kernel
theorem dX4_init_59 : decode cX4_init 59 = .ok (.aload_n 0, 1) := by decide +kernel
theorem dX4_init_60 : decode cX4_init 60 = .ok (.bipush 8, 2) := by decide +kernel
theorem dX4_init_62 : decode cX4_init 62 = .ok (.anewarray 26, 3) := by decide +kernel
theorem dX4_init_65 : decode cX4_init 65 = .ok (.putfield 36, 3) := by decide +kernel
theorem dX4_init_68 : decode cX4_init 68 = .ok (.aload_n 0, 1) := by decide +kernel
theorem dX4_init_69 : decode cX4_init 69 = .ok (.iconst 2, 1) := by decide +kernel
theorem dX4_init_70 : decode cX4_init 70 = .ok (.anewarray 26, 3) := by decide +kernel
theorem dX4_init_73 : decode cX4_init 73 = .ok (.putfield 40, 3) := by decide +kernel
theorem dX4_init_76 : decode cX4_init 76 = .ok (.aload_n 0, 1) := by decide +kernel
theorem dX4_init_77 : decode cX4_init 77 = .ok (.iconst 2, 1) := by decide +kernel
theorem dX4_init_78 : decode cX4_init 78 = .ok (.newarray .boolean, 2) := by decide +kernel
theorem dX4_init_80 : decode cX4_init 80 = .ok (.putfield 43, 3) := by decide +kernel
theorem dX4_init_83 : decode cX4_init 83 = .ok (.aload_n 0, 1) := by decide +kernel
theorem dX4_init_84 : decode cX4_init 84 = .ok (.new 47, 3) := by decide +kernel
theorem dX4_init_87 : decode cX4_init 87 = .ok (.dup, 1) := by decide +kernel
theorem dX4_init_88 : decode cX4_init 88 = .ok (.invokespecial 49, 3) := by decide +kernel
theorem dX4_init_91 : decode cX4_init 91 = .ok (.putfield 50, 3) := by decide +kernel
theorem dX4_init_94 : decode cX4_init 94 = .ok (.aload_n 0, 1) := by decide +kernel
theorem dX4_init_95 : decode cX4_init 95 = .ok (.bipush 64, 2) := by decide +kernel
theorem dX4_init_97 : decode cX4_init 97 = .ok (.newarray .int, 2) := by decide +kernel
theorem dX4_init_99 : decode cX4_init 99 = .ok (.putfield 54, 3) := by decide +kernel
theorem dX4_init_102 : decode cX4_init 102 = .ok (.iconst 0, 1) := by decide +kernel
theorem dX4_init_103 : decode cX4_init 103 = .ok (.istore_n 1, 1) := by decide +kernel
theorem dX4_init_104 : decode cX4_init 104 = .ok (.iload_n 1, 1) := by decide +kernel
theorem dX4_init_105 : decode cX4_init 105 = .ok (.bipush 8, 2) := by decide +kernel
theorem dX4_init_107 : decode cX4_init 107 = .ok (.if_icmp .ge 22, 3) := by decide +kernel
theorem dX4_init_110 : decode cX4_init 110 = .ok (.aload_n 0, 1) := by decide +kernel
theorem dX4_init_111 : decode cX4_init 111 = .ok (.getfield 36, 3) := by decide +kernel
theorem dX4_init_114 : decode cX4_init 114 = .ok (.iload_n 1, 1) := by decide +kernel
theorem dX4_init_115 : decode cX4_init 115 = .ok (.new 26, 3) := by decide +kernel
theorem dX4_init_118 : decode cX4_init 118 = .ok (.dup, 1) := by decide +kernel
theorem dX4_init_119 : decode cX4_init 119 = .ok (.invokespecial 28, 3) := by decide +kernel
theorem dX4_init_122 : decode cX4_init 122 = .ok (.aastore, 1) := by decide +kernel
theorem dX4_init_123 : decode cX4_init 123 = .ok (.iinc 1 1, 3) := by decide +kernel
theorem dX4_init_126 : decode cX4_init 126 = .ok (.goto (-22), 3) := by decide +kernel
theorem dX4_init_129 : decode cX4_init 129 = .ok (.iconst 0, 1) := by decide +kernel
theorem dX4_init_130 : decode cX4_init 130 = .ok (.istore_n 1, 1) := by decide +kernel
theorem dX4_init_131 : decode cX4_init 131 = .ok (.iload_n 1, 1) := by decide +kernel
theorem dX4_init_132 : decode cX4_init 132 = .ok (.iconst 2, 1) := by decide +kernel
theorem dX4_init_133 : decode cX4_init 133 = .ok (.if_icmp .ge 22, 3) := by decide +kernel
theorem dX4_init_136 : decode cX4_init 136 = .ok (.aload_n 0, 1) := by decide +kernel
theorem dX4_init_137 : decode cX4_init 137 = .ok (.getfield 40, 3) := by decide +kernel
theorem dX4_init_140 : decode cX4_init 140 = .ok (.iload_n 1, 1) := by decide +kernel
theorem dX4_init_141 : decode cX4_init 141 = .ok (.new 26, 3) := by decide +kernel
theorem dX4_init_144 : decode cX4_init 144 = .ok (.dup, 1) := by decide +kernel
theorem dX4_init_145 : decode cX4_init 145 = .ok (.invokespecial 28, 3) := by decide +kernel
theorem dX4_init_148 : decode cX4_init 148 = .ok (.aastore, 1) := by decide +kernel
theorem dX4_init_149 : decode cX4_init 149 = .ok (.iinc 1 1, 3) := by decide +kernel
theorem dX4_init_152 : decode cX4_init 152 = .ok (.goto (-21), 3) := by decide +kernel
theorem dX4_init_155 : decode cX4_init 155 = .ok (.return_, 1) := by decide +kernel
theorem dX4_write_0 : decode cX4_write 0 = .ok (.iload_n 1, 1) := by decide +kernel
theorem dX4_write_1 : decode cX4_write 1 = .ok (.ifCond .lt 10, 3) := by decide +kernel
theorem dX4_write_4 : decode cX4_write 4 = .ok (.iload_n 1, 1) := by decide +kernel
theorem dX4_write_5 : decode cX4_write 5 = .ok (.sipush 255, 3) := by decide +kernel
theorem dX4_write_8 : decode cX4_write 8 = .ok (.if_icmp .le 6, 3) := by decide +kernel
theorem dX4_write_11 : decode cX4_write 11 = .ok (.bipush (-3), 2) := by decide +kernel
theorem dX4_write_13 : decode cX4_write 13 = .ok (.ireturn, 1) := by decide +kernel
theorem dX4_write_14 : decode cX4_write 14 = .ok (.aload_n 0, 1) := by decide +kernel
theorem dX4_write_15 : decode cX4_write 15 = .ok (.getfield 10, 3) := by decide +kernel
theorem dX4_write_18 : decode cX4_write 18 = .ok (.getfield 58, 3) := by decide +kernel
theorem dX4_write_21 : decode cX4_write 21 = .ok (.sipush 160, 3) := by decide +kernel
theorem dX4_write_24 : decode cX4_write 24 = .ok (.if_icmp .lt 6, 3) := by decide +kernel
theorem dX4_write_27 : decode cX4_write 27 = .ok (.bipush (-5), 2) := by decide +kernel
theorem dX4_write_29 : decode cX4_write 29 = .ok (.ireturn, 1) := by decide +kernel
theorem dX4_write_30 : decode cX4_write 30 = .ok (.aload_n 0, 1) := by decide +kernel
theorem dX4_write_31 : decode cX4_write 31 = .ok (.getfield 10, 3) := by decide +kernel
theorem dX4_write_34 : decode cX4_write 34 = .ok (.iload_n 1, 1) := by decide +kernel
theorem dX4_write_35 : decode cX4_write 35 = .ok (.i2c, 1) := by decide +kernel
theorem dX4_write_36 : decode cX4_write 36 = .ok (.invokevirtual 62, 3) := by decide +kernel
theorem dX4_write_39 : decode cX4_write 39 = .ok (.aload_n 0, 1) := by decide +kernel
theorem dX4_write_40 : decode cX4_write 40 = .ok (.getfield 10, 3) := by decide +kernel
theorem dX4_write_43 : decode cX4_write 43 = .ok (.getfield 58, 3) := by decide +kernel
theorem dX4_write_46 : decode cX4_write 46 = .ok (.ireturn, 1) := by decide +kernel
theorem dX4_erase_0 : decode cX4_erase 0 = .ok (.aload_n 0, 1) := by decide +kernel
theorem dX4_erase_1 : decode cX4_erase 1 = .ok (.getfield 10, 3) := by decide +kernel
theorem dX4_erase_4 : decode cX4_erase 4 = .ok (.getfield 58, 3) := by decide +kernel
theorem dX4_erase_7 : decode cX4_erase 7 = .ok (.istore_n 1, 1) := by decide +kernel
theorem dX4_erase_8 : decode cX4_erase 8 = .ok (.aload_n 0, 1) := by decide +kernel
theorem dX4_erase_9 : decode cX4_erase 9 = .ok (.getfield 10, 3) := by decide +kernel
theorem dX4_erase_12 : decode cX4_erase 12 = .ok (.iconst 0, 1) := by decide +kernel
theorem dX4_erase_13 : decode cX4_erase 13 = .ok (.putfield 58, 3) := by decide +kernel
theorem dX4_erase_16 : decode cX4_erase 16 = .ok (.iload_n 1, 1) := by decide +kernel
theorem dX4_erase_17 : decode cX4_erase 17 = .ok (.ireturn, 1) := by decide +kernel
theorem dX4_fault_0 : decode cX4_fault 0 = .ok (.aload_n 0, 1) := by decide +kernel
theorem dX4_fault_1 : decode cX4_fault 1 = .ok (.getfield 23, 3) := by decide +kernel
theorem dX4_fault_4 : decode cX4_fault 4 = .ok (.aload_n 0, 1) := by decide +kernel
theorem dX4_fault_5 : decode cX4_fault 5 = .ok (.getfield 19, 3) := by decide +kernel
theorem dX4_fault_8 : decode cX4_fault 8 = .ok (.invokevirtual 66, 3) := by decide +kernel
theorem dX4_fault_11 : decode cX4_fault 11 = .ok (.aload_n 0, 1) := by decide +kernel
theorem dX4_fault_12 : decode cX4_fault 12 = .ok (.getfield 10, 3) := by decide +kernel
theorem dX4_fault_15 : decode cX4_fault 15 = .ok (.aload_n 0, 1) := by decide +kernel
theorem dX4_fault_16 : decode cX4_fault 16 = .ok (.getfield 23, 3) := by decide +kernel
theorem dX4_fault_19 : decode cX4_fault 19 = .ok (.invokevirtual 70, 3) := by decide +kernel
theorem dX4_fault_22 : decode cX4_fault 22 = .ok (.ireturn, 1) := by decide +kernel
theorem dX4_yard_0 : decode cX4_yard 0 = .ok (.aload_n 0, 1) := by decide +kernel
theorem dX4_yard_1 : decode cX4_yard 1 = .ok (.getfield 23, 3) := by decide +kernel
theorem dX4_yard_4 : decode cX4_yard 4 = .ok (.aload_n 0, 1) := by decide +kernel
theorem dX4_yard_5 : decode cX4_yard 5 = .ok (.getfield 19, 3) := by decide +kernel
theorem dX4_yard_8 : decode cX4_yard 8 = .ok (.invokevirtual 66, 3) := by decide +kernel
theorem dX4_yard_11 : decode cX4_yard 11 = .ok (.aload_n 0, 1) := by decide +kernel
theorem dX4_yard_12 : decode cX4_yard 12 = .ok (.getfield 10, 3) := by decide +kernel
theorem dX4_yard_15 : decode cX4_yard 15 = .ok (.aload_n 0, 1) := by decide +kernel
theorem dX4_yard_16 : decode cX4_yard 16 = .ok (.getfield 23, 3) := by decide +kernel
theorem dX4_yard_19 : decode cX4_yard 19 = .ok (.invokevirtual 70, 3) := by decide +kernel
theorem dX4_yard_22 : decode cX4_yard 22 = .ok (.iconst (-1), 1) := by decide +kernel
theorem dX4_yard_23 : decode cX4_yard 23 = .ok (.if_icmp .eq 6, 3) := by decide +kernel
theorem dX4_yard_26 : decode cX4_yard 26 = .ok (.bipush (-4), 2) := by decide +kernel
theorem dX4_yard_28 : decode cX4_yard 28 = .ok (.ireturn, 1) := by decide +kernel
theorem dX4_yard_29 : decode cX4_yard 29 = .ok (.aload_n 0, 1) := by decide +kernel
theorem dX4_yard_30 : decode cX4_yard 30 = .ok (.getfield 19, 3) := by decide +kernel
theorem dX4_yard_33 : decode cX4_yard 33 = .ok (.aload_n 0, 1) := by decide +kernel
theorem dX4_yard_34 : decode cX4_yard 34 = .ok (.getfield 23, 3) := by decide +kernel
theorem dX4_yard_37 : decode cX4_yard 37 = .ok (.invokevirtual 66, 3) := by decide +kernel
theorem dX4_yard_40 : decode cX4_yard 40 = .ok (.aload_n 0, 1) := by decide +kernel
theorem dX4_yard_41 : decode cX4_yard 41 = .ok (.getfield 10, 3) := by decide +kernel
theorem dX4_yard_44 : decode cX4_yard 44 = .ok (.iconst 0, 1) := by decide +kernel
theorem dX4_yard_45 : decode cX4_yard 45 = .ok (.putfield 58, 3) := by decide +kernel
theorem dX4_yard_48 : decode cX4_yard 48 = .ok (.aload_n 0, 1) := by decide +kernel
theorem dX4_yard_49 : decode cX4_yard 49 = .ok (.getfield 29, 3) := by decide +kernel
theorem dX4_yard_52 : decode cX4_yard 52 = .ok (.aload_n 0, 1) := by decide +kernel
theorem dX4_yard_53 : decode cX4_yard 53 = .ok (.getfield 19, 3) := by decide +kernel
theorem dX4_yard_56 : decode cX4_yard 56 = .ok (.invokevirtual 74, 3) := by decide +kernel
theorem dX4_yard_59 : decode cX4_yard 59 = .ok (.aload_n 0, 1) := by decide +kernel
theorem dX4_yard_60 : decode cX4_yard 60 = .ok (.getfield 50, 3) := by decide +kernel
theorem dX4_yard_63 : decode cX4_yard 63 = .ok (.iconst 0, 1) := by decide +kernel
theorem dX4_yard_64 : decode cX4_yard 64 = .ok (.putfield 77, 3) := by decide +kernel
theorem dX4_yard_67 : decode cX4_yard 67 = .ok (.aload_n 0, 1) := by decide +kernel
theorem dX4_yard_68 : decode cX4_yard 68 = .ok (.iconst 0, 1) := by decide +kernel
theorem dX4_yard_69 : decode cX4_yard 69 = .ok (.putfield 80, 3) := by decide +kernel
theorem dX4_yard_72 : decode cX4_yard 72 = .ok (.iconst 0, 1) := by decide +kernel
theorem dX4_yard_73 : decode cX4_yard 73 = .ok (.istore_n 1, 1) := by decide +kernel
theorem dX4_yard_74 : decode cX4_yard 74 = .ok (.iload_n 1, 1) := by decide +kernel
theorem dX4_yard_75 : decode cX4_yard 75 = .ok (.iconst 2, 1) := by decide +kernel
theorem dX4_yard_76 : decode cX4_yard 76 = .ok (.if_icmp .ge 16, 3) := by decide +kernel
theorem dX4_yard_79 : decode cX4_yard 79 = .ok (.aload_n 0, 1) := by decide +kernel
theorem dX4_yard_80 : decode cX4_yard 80 = .ok (.getfield 43, 3) := by decide +kernel
theorem dX4_yard_83 : decode cX4_yard 83 = .ok (.iload_n 1, 1) := by decide +kernel
theorem dX4_yard_84 : decode cX4_yard 84 = .ok (.iconst 0, 1) := by decide +kernel
theorem dX4_yard_85 : decode cX4_yard 85 = .ok (.bastore, 1) := by decide +kernel
theorem dX4_yard_86 : decode cX4_yard 86 = .ok (.iinc 1 1, 3) := by decide +kernel
theorem dX4_yard_89 : decode cX4_yard 89 = .ok (.goto (-15), 3) := by decide +kernel
theorem dX4_yard_92 : decode cX4_yard 92 = .ok (.aload_n 0, 1) := by decide +kernel
theorem dX4_yard_93 : decode cX4_yard 93 = .ok (.getfield 10, 3) := by decide +kernel
theorem dX4_yard_96 : decode cX4_yard 96 = .ok (.getfield 83, 3) := by decide +kernel
theorem dX4_yard_99 : decode cX4_yard 99 = .ok (.ireturn, 1) := by decide +kernel
theorem dX4_place_0 : decode cX4_place 0 = .ok (.aload_n 0, 1) := by decide +kernel
theorem dX4_place_1 : decode cX4_place 1 = .ok (.iload_n 1, 1) := by decide +kernel
theorem dX4_place_2 : decode cX4_place 2 = .ok (.invokevirtual 86, 3) := by decide +kernel
theorem dX4_place_5 : decode cX4_place 5 = .ok (.ifCond .ne 6, 3) := by decide +kernel
theorem dX4_place_8 : decode cX4_place 8 = .ok (.bipush (-2), 2) := by decide +kernel
theorem dX4_place_10 : decode cX4_place 10 = .ok (.ireturn, 1) := by decide +kernel
theorem dX4_place_11 : decode cX4_place 11 = .ok (.iload_n 2, 1) := by decide +kernel
theorem dX4_place_12 : decode cX4_place 12 = .ok (.tableswitch 72 0 3 #[32, 42, 52, 62], 32) := by decide +kernel
theorem dX4_place_44 : decode cX4_place 44 = .ok (.aload_n 0, 1) := by decide +kernel
theorem dX4_place_45 : decode cX4_place 45 = .ok (.getfield 29, 3) := by decide +kernel
theorem dX4_place_48 : decode cX4_place 48 = .ok (.getfield 90, 3) := by decide +kernel
theorem dX4_place_51 : decode cX4_place 51 = .ok (.iload_n 1, 1) := by decide +kernel
theorem dX4_place_52 : decode cX4_place 52 = .ok (.iaload, 1) := by decide +kernel
theorem dX4_place_53 : decode cX4_place 53 = .ok (.ireturn, 1) := by decide +kernel
theorem dX4_place_54 : decode cX4_place 54 = .ok (.aload_n 0, 1) := by decide +kernel
theorem dX4_place_55 : decode cX4_place 55 = .ok (.getfield 29, 3) := by decide +kernel
theorem dX4_place_58 : decode cX4_place 58 = .ok (.getfield 93, 3) := by decide +kernel
theorem dX4_place_61 : decode cX4_place 61 = .ok (.iload_n 1, 1) := by decide +kernel
theorem dX4_place_62 : decode cX4_place 62 = .ok (.iaload, 1) := by decide +kernel
theorem dX4_place_63 : decode cX4_place 63 = .ok (.ireturn, 1) := by decide +kernel
theorem dX4_place_64 : decode cX4_place 64 = .ok (.aload_n 0, 1) := by decide +kernel
theorem dX4_place_65 : decode cX4_place 65 = .ok (.getfield 19, 3) := by decide +kernel
theorem dX4_place_68 : decode cX4_place 68 = .ok (.getfield 96, 3) := by decide +kernel
theorem dX4_place_71 : decode cX4_place 71 = .ok (.iload_n 1, 1) := by decide +kernel
theorem dX4_place_72 : decode cX4_place 72 = .ok (.iaload, 1) := by decide +kernel
theorem dX4_place_73 : decode cX4_place 73 = .ok (.ireturn, 1) := by decide +kernel
theorem dX4_place_74 : decode cX4_place 74 = .ok (.aload_n 0, 1) := by decide +kernel
theorem dX4_place_75 : decode cX4_place 75 = .ok (.getfield 29, 3) := by decide +kernel
theorem dX4_place_78 : decode cX4_place 78 = .ok (.getfield 99, 3) := by decide +kernel
theorem dX4_place_81 : decode cX4_place 81 = .ok (.iload_n 1, 1) := by decide +kernel
theorem dX4_place_82 : decode cX4_place 82 = .ok (.iaload, 1) := by decide +kernel
theorem dX4_place_83 : decode cX4_place 83 = .ok (.ireturn, 1) := by decide +kernel
theorem dX4_place_84 : decode cX4_place 84 = .ok (.bipush (-3), 2) := by decide +kernel
theorem dX4_place_86 : decode cX4_place 86 = .ok (.ireturn, 1) := by decide +kernel
theorem dX4_hen_0 : decode cX4_hen 0 = .ok (.aload_n 0, 1) := by decide +kernel
theorem dX4_hen_1 : decode cX4_hen 1 = .ok (.iload_n 1, 1) := by decide +kernel
theorem dX4_hen_2 : decode cX4_hen 2 = .ok (.invokevirtual 102, 3) := by decide +kernel
theorem dX4_hen_5 : decode cX4_hen 5 = .ok (.ifCond .ne 6, 3) := by decide +kernel
theorem dX4_hen_8 : decode cX4_hen 8 = .ok (.bipush (-2), 2) := by decide +kernel
theorem dX4_hen_10 : decode cX4_hen 10 = .ok (.ireturn, 1) := by decide +kernel
theorem dX4_hen_11 : decode cX4_hen 11 = .ok (.iload_n 2, 1) := by decide +kernel
theorem dX4_hen_12 : decode cX4_hen 12 = .ok (.tableswitch 86 0 4 #[36, 46, 56, 66, 76], 36) := by decide +kernel
theorem dX4_hen_48 : decode cX4_hen 48 = .ok (.aload_n 0, 1) := by decide +kernel
theorem dX4_hen_49 : decode cX4_hen 49 = .ok (.getfield 29, 3) := by decide +kernel
theorem dX4_hen_52 : decode cX4_hen 52 = .ok (.getfield 105, 3) := by decide +kernel
theorem dX4_hen_55 : decode cX4_hen 55 = .ok (.iload_n 1, 1) := by decide +kernel
theorem dX4_hen_56 : decode cX4_hen 56 = .ok (.iaload, 1) := by decide +kernel
theorem dX4_hen_57 : decode cX4_hen 57 = .ok (.ireturn, 1) := by decide +kernel
theorem dX4_hen_58 : decode cX4_hen 58 = .ok (.aload_n 0, 1) := by decide +kernel
theorem dX4_hen_59 : decode cX4_hen 59 = .ok (.getfield 29, 3) := by decide +kernel
theorem dX4_hen_62 : decode cX4_hen 62 = .ok (.getfield 108, 3) := by decide +kernel
theorem dX4_hen_65 : decode cX4_hen 65 = .ok (.iload_n 1, 1) := by decide +kernel
theorem dX4_hen_66 : decode cX4_hen 66 = .ok (.iaload, 1) := by decide +kernel
theorem dX4_hen_67 : decode cX4_hen 67 = .ok (.ireturn, 1) := by decide +kernel
theorem dX4_hen_68 : decode cX4_hen 68 = .ok (.aload_n 0, 1) := by decide +kernel
theorem dX4_hen_69 : decode cX4_hen 69 = .ok (.getfield 29, 3) := by decide +kernel
theorem dX4_hen_72 : decode cX4_hen 72 = .ok (.getfield 111, 3) := by decide +kernel
theorem dX4_hen_75 : decode cX4_hen 75 = .ok (.iload_n 1, 1) := by decide +kernel
theorem dX4_hen_76 : decode cX4_hen 76 = .ok (.iaload, 1) := by decide +kernel
theorem dX4_hen_77 : decode cX4_hen 77 = .ok (.ireturn, 1) := by decide +kernel
theorem dX4_hen_78 : decode cX4_hen 78 = .ok (.aload_n 0, 1) := by decide +kernel
theorem dX4_hen_79 : decode cX4_hen 79 = .ok (.getfield 29, 3) := by decide +kernel
theorem dX4_hen_82 : decode cX4_hen 82 = .ok (.getfield 114, 3) := by decide +kernel
theorem dX4_hen_85 : decode cX4_hen 85 = .ok (.iload_n 1, 1) := by decide +kernel
theorem dX4_hen_86 : decode cX4_hen 86 = .ok (.iaload, 1) := by decide +kernel
theorem dX4_hen_87 : decode cX4_hen 87 = .ok (.ireturn, 1) := by decide +kernel
theorem dX4_hen_88 : decode cX4_hen 88 = .ok (.aload_n 0, 1) := by decide +kernel
theorem dX4_hen_89 : decode cX4_hen 89 = .ok (.getfield 29, 3) := by decide +kernel
theorem dX4_hen_92 : decode cX4_hen 92 = .ok (.getfield 117, 3) := by decide +kernel
theorem dX4_hen_95 : decode cX4_hen 95 = .ok (.iload_n 1, 1) := by decide +kernel
theorem dX4_hen_96 : decode cX4_hen 96 = .ok (.iaload, 1) := by decide +kernel
theorem dX4_hen_97 : decode cX4_hen 97 = .ok (.ireturn, 1) := by decide +kernel
theorem dX4_hen_98 : decode cX4_hen 98 = .ok (.bipush (-3), 2) := by decide +kernel
theorem dX4_hen_100 : decode cX4_hen 100 = .ok (.ireturn, 1) := by decide +kernel
theorem dX4_news_0 : decode cX4_news 0 = .ok (.iload_n 1, 1) := by decide +kernel
theorem dX4_news_1 : decode cX4_news 1 = .ok (.ifCond .lt 9, 3) := by decide +kernel
theorem dX4_news_4 : decode cX4_news 4 = .ok (.iload_n 1, 1) := by decide +kernel
theorem dX4_news_5 : decode cX4_news 5 = .ok (.bipush 14, 2) := by decide +kernel
theorem dX4_news_7 : decode cX4_news 7 = .ok (.if_icmp .lt 6, 3) := by decide +kernel
theorem dX4_news_10 : decode cX4_news 10 = .ok (.bipush (-3), 2) := by decide +kernel
theorem dX4_news_12 : decode cX4_news 12 = .ok (.ireturn, 1) := by decide +kernel
theorem dX4_news_13 : decode cX4_news 13 = .ok (.aload_n 0, 1) := by decide +kernel
theorem dX4_news_14 : decode cX4_news 14 = .ok (.getfield 19, 3) := by decide +kernel
theorem dX4_news_17 : decode cX4_news 17 = .ok (.getfield 120, 3) := by decide +kernel
theorem dX4_news_20 : decode cX4_news 20 = .ok (.iload_n 1, 1) := by decide +kernel
theorem dX4_news_21 : decode cX4_news 21 = .ok (.iaload, 1) := by decide +kernel
theorem dX4_news_22 : decode cX4_news 22 = .ok (.ireturn, 1) := by decide +kernel
theorem dX4_as_0 : decode cX4_as 0 = .ok (.aload_n 0, 1) := by decide +kernel
theorem dX4_as_1 : decode cX4_as 1 = .ok (.iload_n 1, 1) := by decide +kernel
theorem dX4_as_2 : decode cX4_as 2 = .ok (.invokevirtual 102, 3) := by decide +kernel
theorem dX4_as_5 : decode cX4_as 5 = .ok (.ifCond .ne 6, 3) := by decide +kernel
theorem dX4_as_8 : decode cX4_as 8 = .ok (.bipush (-2), 2) := by decide +kernel
theorem dX4_as_10 : decode cX4_as 10 = .ok (.ireturn, 1) := by decide +kernel
theorem dX4_as_11 : decode cX4_as 11 = .ok (.iload_n 2, 1) := by decide +kernel
theorem dX4_as_12 : decode cX4_as 12 = .ok (.ifCond .lt 8, 3) := by decide +kernel
theorem dX4_as_15 : decode cX4_as 15 = .ok (.iload_n 2, 1) := by decide +kernel
theorem dX4_as_16 : decode cX4_as 16 = .ok (.iconst 4, 1) := by decide +kernel
theorem dX4_as_17 : decode cX4_as 17 = .ok (.if_icmp .le 6, 3) := by decide +kernel
theorem dX4_as_20 : decode cX4_as 20 = .ok (.bipush (-3), 2) := by decide +kernel
theorem dX4_as_22 : decode cX4_as 22 = .ok (.ireturn, 1) := by decide +kernel
theorem dX4_as_23 : decode cX4_as 23 = .ok (.aload_n 0, 1) := by decide +kernel
theorem dX4_as_24 : decode cX4_as 24 = .ok (.getfield 29, 3) := by decide +kernel
theorem dX4_as_27 : decode cX4_as 27 = .ok (.getfield 105, 3) := by decide +kernel
theorem dX4_as_30 : decode cX4_as 30 = .ok (.iload_n 1, 1) := by decide +kernel
theorem dX4_as_31 : decode cX4_as 31 = .ok (.iaload, 1) := by decide +kernel
theorem dX4_as_32 : decode cX4_as 32 = .ok (.iload_n 2, 1) := by decide +kernel
theorem dX4_as_33 : decode cX4_as 33 = .ok (.invokestatic 123, 3) := by decide +kernel
theorem dX4_as_36 : decode cX4_as 36 = .ok (.ifCond .eq 13, 3) := by decide +kernel
theorem dX4_as_39 : decode cX4_as 39 = .ok (.aload_n 0, 1) := by decide +kernel
theorem dX4_as_40 : decode cX4_as 40 = .ok (.getfield 19, 3) := by decide +kernel
theorem dX4_as_43 : decode cX4_as 43 = .ok (.getfield 127, 3) := by decide +kernel
theorem dX4_as_46 : decode cX4_as 46 = .ok (.ifCond .ne 6, 3) := by decide +kernel
theorem dX4_as_49 : decode cX4_as 49 = .ok (.bipush (-4), 2) := by decide +kernel
theorem dX4_as_51 : decode cX4_as 51 = .ok (.ireturn, 1) := by decide +kernel
theorem dX4_as_52 : decode cX4_as 52 = .ok (.aload_n 0, 1) := by decide +kernel
theorem dX4_as_53 : decode cX4_as 53 = .ok (.getfield 29, 3) := by decide +kernel
theorem dX4_as_56 : decode cX4_as 56 = .ok (.aload_n 0, 1) := by decide +kernel
theorem dX4_as_57 : decode cX4_as 57 = .ok (.getfield 19, 3) := by decide +kernel
theorem dX4_as_60 : decode cX4_as 60 = .ok (.iload_n 1, 1) := by decide +kernel
theorem dX4_as_61 : decode cX4_as 61 = .ok (.iconst 0, 1) := by decide +kernel
theorem dX4_as_62 : decode cX4_as 62 = .ok (.invokevirtual 130, 3) := by decide +kernel
theorem dX4_as_65 : decode cX4_as 65 = .ok (.sipush 9999, 3) := by decide +kernel
theorem dX4_as_68 : decode cX4_as 68 = .ok (.iadd, 1) := by decide +kernel
theorem dX4_as_69 : decode cX4_as 69 = .ok (.ireturn, 1) := by decide +kernel
theorem dX4_day_0 : decode cX4_day 0 = .ok (.aload_n 0, 1) := by decide +kernel
theorem dX4_day_1 : decode cX4_day 1 = .ok (.getfield 29, 3) := by decide +kernel
theorem dX4_day_4 : decode cX4_day 4 = .ok (.getfield 134, 3) := by decide +kernel
theorem dX4_day_7 : decode cX4_day 7 = .ok (.sipush 999, 3) := by decide +kernel
theorem dX4_day_10 : decode cX4_day 10 = .ok (.if_icmp .lt 6, 3) := by decide +kernel
theorem dX4_day_13 : decode cX4_day 13 = .ok (.bipush (-5), 2) := by decide +kernel
theorem dX4_day_15 : decode cX4_day 15 = .ok (.ireturn, 1) := by decide +kernel
theorem dX4_day_16 : decode cX4_day 16 = .ok (.aload_n 0, 1) := by decide +kernel
theorem dX4_day_17 : decode cX4_day 17 = .ok (.invokevirtual 137, 3) := by decide +kernel
theorem dX4_day_20 : decode cX4_day 20 = .ok (.aload_n 0, 1) := by decide +kernel
theorem dX4_day_21 : decode cX4_day 21 = .ok (.getfield 29, 3) := by decide +kernel
theorem dX4_day_24 : decode cX4_day 24 = .ok (.aload_n 0, 1) := by decide +kernel
theorem dX4_day_25 : decode cX4_day 25 = .ok (.getfield 19, 3) := by decide +kernel
theorem dX4_day_28 : decode cX4_day 28 = .ok (.invokevirtual 140, 3) := by decide +kernel
theorem dX4_day_31 : decode cX4_day 31 = .ok (.aload_n 0, 1) := by decide +kernel
theorem dX4_day_32 : decode cX4_day 32 = .ok (.getfield 29, 3) := by decide +kernel
theorem dX4_day_35 : decode cX4_day 35 = .ok (.invokevirtual 143, 3) := by decide +kernel
theorem dX4_day_38 : decode cX4_day 38 = .ok (.ireturn, 1) := by decide +kernel
theorem dX4_thunder_0 : decode cX4_thunder 0 = .ok (.aload_n 0, 1) := by decide +kernel
theorem dX4_thunder_1 : decode cX4_thunder 1 = .ok (.invokevirtual 137, 3) := by decide +kernel
theorem dX4_thunder_4 : decode cX4_thunder 4 = .ok (.aload_n 0, 1) := by decide +kernel
theorem dX4_thunder_5 : decode cX4_thunder 5 = .ok (.getfield 29, 3) := by decide +kernel
theorem dX4_thunder_8 : decode cX4_thunder 8 = .ok (.getfield 147, 3) := by decide +kernel
theorem dX4_thunder_11 : decode cX4_thunder 11 = .ok (.ifCond .eq 7, 3) := by decide +kernel
theorem dX4_thunder_14 : decode cX4_thunder 14 = .ok (.iconst 1, 1) := by decide +kernel
theorem dX4_thunder_15 : decode cX4_thunder 15 = .ok (.goto 4, 3) := by decide +kernel
theorem dX4_thunder_18 : decode cX4_thunder 18 = .ok (.iconst 0, 1) := by decide +kernel
theorem dX4_thunder_19 : decode cX4_thunder 19 = .ok (.istore_n 1, 1) := by decide +kernel
theorem dX4_thunder_20 : decode cX4_thunder 20 = .ok (.aload_n 0, 1) := by decide +kernel
theorem dX4_thunder_21 : decode cX4_thunder 21 = .ok (.getfield 29, 3) := by decide +kernel
theorem dX4_thunder_24 : decode cX4_thunder 24 = .ok (.iconst 1, 1) := by decide +kernel
theorem dX4_thunder_25 : decode cX4_thunder 25 = .ok (.putfield 147, 3) := by decide +kernel
theorem dX4_thunder_28 : decode cX4_thunder 28 = .ok (.iload_n 1, 1) := by decide +kernel
theorem dX4_thunder_29 : decode cX4_thunder 29 = .ok (.ireturn, 1) := by decide +kernel
theorem dX4_straw_0 : decode cX4_straw 0 = .ok (.aload_n 0, 1) := by decide +kernel
theorem dX4_straw_1 : decode cX4_straw 1 = .ok (.iload_n 1, 1) := by decide +kernel
theorem dX4_straw_2 : decode cX4_straw 2 = .ok (.invokevirtual 86, 3) := by decide +kernel
theorem dX4_straw_5 : decode cX4_straw 5 = .ok (.ifCond .ne 6, 3) := by decide +kernel
theorem dX4_straw_8 : decode cX4_straw 8 = .ok (.bipush (-2), 2) := by decide +kernel
theorem dX4_straw_10 : decode cX4_straw 10 = .ok (.ireturn, 1) := by decide +kernel
theorem dX4_straw_11 : decode cX4_straw 11 = .ok (.iload_n 2, 1) := by decide +kernel
theorem dX4_straw_12 : decode cX4_straw 12 = .ok (.ifCond .lt 9, 3) := by decide +kernel
theorem dX4_straw_15 : decode cX4_straw 15 = .ok (.iload_n 2, 1) := by decide +kernel
theorem dX4_straw_16 : decode cX4_straw 16 = .ok (.bipush 9, 2) := by decide +kernel
theorem dX4_straw_18 : decode cX4_straw 18 = .ok (.if_icmp .le 6, 3) := by decide +kernel
theorem dX4_straw_21 : decode cX4_straw 21 = .ok (.bipush (-3), 2) := by decide +kernel
theorem dX4_straw_23 : decode cX4_straw 23 = .ok (.ireturn, 1) := by decide +kernel
theorem dX4_straw_24 : decode cX4_straw 24 = .ok (.aload_n 0, 1) := by decide +kernel
theorem dX4_straw_25 : decode cX4_straw 25 = .ok (.invokevirtual 137, 3) := by decide +kernel
theorem dX4_straw_28 : decode cX4_straw 28 = .ok (.aload_n 0, 1) := by decide +kernel
theorem dX4_straw_29 : decode cX4_straw 29 = .ok (.getfield 29, 3) := by decide +kernel
theorem dX4_straw_32 : decode cX4_straw 32 = .ok (.getfield 93, 3) := by decide +kernel
theorem dX4_straw_35 : decode cX4_straw 35 = .ok (.iload_n 1, 1) := by decide +kernel
theorem dX4_straw_36 : decode cX4_straw 36 = .ok (.iaload, 1) := by decide +kernel
theorem dX4_straw_37 : decode cX4_straw 37 = .ok (.istore_n 3, 1) := by decide +kernel
theorem dX4_straw_38 : decode cX4_straw 38 = .ok (.aload_n 0, 1) := by decide +kernel
theorem dX4_straw_39 : decode cX4_straw 39 = .ok (.getfield 29, 3) := by decide +kernel
theorem dX4_straw_42 : decode cX4_straw 42 = .ok (.getfield 93, 3) := by decide +kernel
theorem dX4_straw_45 : decode cX4_straw 45 = .ok (.iload_n 1, 1) := by decide +kernel
theorem dX4_straw_46 : decode cX4_straw 46 = .ok (.iload_n 2, 1) := by decide +kernel
theorem dX4_straw_47 : decode cX4_straw 47 = .ok (.iastore, 1) := by decide +kernel
theorem dX4_straw_48 : decode cX4_straw 48 = .ok (.iload_n 3, 1) := by decide +kernel
theorem dX4_straw_49 : decode cX4_straw 49 = .ok (.ireturn, 1) := by decide +kernel
theorem dX4_move_0 : decode cX4_move 0 = .ok (.aload_n 0, 1) := by decide +kernel
theorem dX4_move_1 : decode cX4_move 1 = .ok (.iload_n 1, 1) := by decide +kernel
theorem dX4_move_2 : decode cX4_move 2 = .ok (.invokevirtual 86, 3) := by decide +kernel
theorem dX4_move_5 : decode cX4_move 5 = .ok (.ifCond .eq 16, 3) := by decide +kernel
theorem dX4_move_8 : decode cX4_move 8 = .ok (.aload_n 0, 1) := by decide +kernel
theorem dX4_move_9 : decode cX4_move 9 = .ok (.iload_n 2, 1) := by decide +kernel
theorem dX4_move_10 : decode cX4_move 10 = .ok (.invokevirtual 86, 3) := by decide +kernel
theorem dX4_move_13 : decode cX4_move 13 = .ok (.ifCond .eq 8, 3) := by decide +kernel
theorem dX4_move_16 : decode cX4_move 16 = .ok (.iload_n 1, 1) := by decide +kernel
theorem dX4_move_17 : decode cX4_move 17 = .ok (.iload_n 2, 1) := by decide +kernel
theorem dX4_move_18 : decode cX4_move 18 = .ok (.if_icmp .ne 6, 3) := by decide +kernel
theorem dX4_move_21 : decode cX4_move 21 = .ok (.bipush (-2), 2) := by decide +kernel
theorem dX4_move_23 : decode cX4_move 23 = .ok (.ireturn, 1) := by decide +kernel
theorem dX4_move_24 : decode cX4_move 24 = .ok (.aload_n 0, 1) := by decide +kernel
theorem dX4_move_25 : decode cX4_move 25 = .ok (.invokevirtual 137, 3) := by decide +kernel
theorem dX4_move_28 : decode cX4_move 28 = .ok (.aload_n 0, 1) := by decide +kernel
theorem dX4_move_29 : decode cX4_move 29 = .ok (.getfield 29, 3) := by decide +kernel
theorem dX4_move_32 : decode cX4_move 32 = .ok (.getfield 90, 3) := by decide +kernel
theorem dX4_move_35 : decode cX4_move 35 = .ok (.iload_n 1, 1) := by decide +kernel
theorem dX4_move_36 : decode cX4_move 36 = .ok (.iaload, 1) := by decide +kernel
theorem dX4_move_37 : decode cX4_move 37 = .ok (.istore_n 3, 1) := by decide +kernel
theorem dX4_move_38 : decode cX4_move 38 = .ok (.aload_n 0, 1) := by decide +kernel
theorem dX4_move_39 : decode cX4_move 39 = .ok (.getfield 29, 3) := by decide +kernel
theorem dX4_move_42 : decode cX4_move 42 = .ok (.getfield 90, 3) := by decide +kernel
theorem dX4_move_45 : decode cX4_move 45 = .ok (.iload_n 1, 1) := by decide +kernel
theorem dX4_move_46 : decode cX4_move 46 = .ok (.aload_n 0, 1) := by decide +kernel
theorem dX4_move_47 : decode cX4_move 47 = .ok (.getfield 29, 3) := by decide +kernel
theorem dX4_move_50 : decode cX4_move 50 = .ok (.getfield 90, 3) := by decide +kernel
theorem dX4_move_53 : decode cX4_move 53 = .ok (.iload_n 2, 1) := by decide +kernel
theorem dX4_move_54 : decode cX4_move 54 = .ok (.iaload, 1) := by decide +kernel
theorem dX4_move_55 : decode cX4_move 55 = .ok (.iastore, 1) := by decide +kernel
theorem dX4_move_56 : decode cX4_move 56 = .ok (.aload_n 0, 1) := by decide +kernel
theorem dX4_move_57 : decode cX4_move 57 = .ok (.getfield 29, 3) := by decide +kernel
theorem dX4_move_60 : decode cX4_move 60 = .ok (.getfield 90, 3) := by decide +kernel
theorem dX4_move_63 : decode cX4_move 63 = .ok (.iload_n 2, 1) := by decide +kernel
theorem dX4_move_64 : decode cX4_move 64 = .ok (.iload_n 3, 1) := by decide +kernel
theorem dX4_move_65 : decode cX4_move 65 = .ok (.iastore, 1) := by decide +kernel
theorem dX4_move_66 : decode cX4_move 66 = .ok (.aload_n 0, 1) := by decide +kernel
theorem dX4_move_67 : decode cX4_move 67 = .ok (.getfield 29, 3) := by decide +kernel
theorem dX4_move_70 : decode cX4_move 70 = .ok (.getfield 90, 3) := by decide +kernel
theorem dX4_move_73 : decode cX4_move 73 = .ok (.iload_n 1, 1) := by decide +kernel
theorem dX4_move_74 : decode cX4_move 74 = .ok (.iaload, 1) := by decide +kernel
theorem dX4_move_75 : decode cX4_move 75 = .ok (.ireturn, 1) := by decide +kernel
theorem dX4_eat_0 : decode cX4_eat 0 = .ok (.aload_n 0, 1) := by decide +kernel
theorem dX4_eat_1 : decode cX4_eat 1 = .ok (.iload_n 1, 1) := by decide +kernel
theorem dX4_eat_2 : decode cX4_eat 2 = .ok (.invokevirtual 86, 3) := by decide +kernel
theorem dX4_eat_5 : decode cX4_eat 5 = .ok (.ifCond .ne 6, 3) := by decide +kernel
theorem dX4_eat_8 : decode cX4_eat 8 = .ok (.bipush (-2), 2) := by decide +kernel
theorem dX4_eat_10 : decode cX4_eat 10 = .ok (.ireturn, 1) := by decide +kernel
theorem dX4_eat_11 : decode cX4_eat 11 = .ok (.aload_n 0, 1) := by decide +kernel
theorem dX4_eat_12 : decode cX4_eat 12 = .ok (.getfield 29, 3) := by decide +kernel
theorem dX4_eat_15 : decode cX4_eat 15 = .ok (.getfield 99, 3) := by decide +kernel
theorem dX4_eat_18 : decode cX4_eat 18 = .ok (.iload_n 1, 1) := by decide +kernel
theorem dX4_eat_19 : decode cX4_eat 19 = .ok (.iaload, 1) := by decide +kernel
theorem dX4_eat_20 : decode cX4_eat 20 = .ok (.iconst (-1), 1) := by decide +kernel
theorem dX4_eat_21 : decode cX4_eat 21 = .ok (.if_icmp .ne 6, 3) := by decide +kernel
theorem dX4_eat_24 : decode cX4_eat 24 = .ok (.bipush (-4), 2) := by decide +kernel
theorem dX4_eat_26 : decode cX4_eat 26 = .ok (.ireturn, 1) := by decide +kernel
theorem dX4_eat_27 : decode cX4_eat 27 = .ok (.aload_n 0, 1) := by decide +kernel
theorem dX4_eat_28 : decode cX4_eat 28 = .ok (.invokevirtual 137, 3) := by decide +kernel
theorem dX4_eat_31 : decode cX4_eat 31 = .ok (.aload_n 0, 1) := by decide +kernel
theorem dX4_eat_32 : decode cX4_eat 32 = .ok (.getfield 29, 3) := by decide +kernel
theorem dX4_eat_35 : decode cX4_eat 35 = .ok (.getfield 99, 3) := by decide +kernel
theorem dX4_eat_38 : decode cX4_eat 38 = .ok (.iload_n 1, 1) := by decide +kernel
theorem dX4_eat_39 : decode cX4_eat 39 = .ok (.iconst (-1), 1) := by decide +kernel
theorem dX4_eat_40 : decode cX4_eat 40 = .ok (.iastore, 1) := by decide +kernel
theorem dX4_eat_41 : decode cX4_eat 41 = .ok (.aload_n 0, 1) := by decide +kernel
theorem dX4_eat_42 : decode cX4_eat 42 = .ok (.getfield 29, 3) := by decide +kernel
theorem dX4_eat_45 : decode cX4_eat 45 = .ok (.dup, 1) := by decide +kernel
theorem dX4_eat_46 : decode cX4_eat 46 = .ok (.getfield 151, 3) := by decide +kernel
theorem dX4_eat_49 : decode cX4_eat 49 = .ok (.iconst 1, 1) := by decide +kernel
theorem dX4_eat_50 : decode cX4_eat 50 = .ok (.iadd, 1) := by decide +kernel
theorem dX4_eat_51 : decode cX4_eat 51 = .ok (.putfield 151, 3) := by decide +kernel
theorem dX4_eat_54 : decode cX4_eat 54 = .ok (.aload_n 0, 1) := by decide +kernel
theorem dX4_eat_55 : decode cX4_eat 55 = .ok (.getfield 29, 3) := by decide +kernel
theorem dX4_eat_58 : decode cX4_eat 58 = .ok (.getfield 151, 3) := by decide +kernel
theorem dX4_eat_61 : decode cX4_eat 61 = .ok (.ireturn, 1) := by decide +kernel
theorem dX4_heed_0 : decode cX4_heed 0 = .ok (.aload_n 0, 1) := by decide +kernel
theorem dX4_heed_1 : decode cX4_heed 1 = .ok (.iload_n 1, 1) := by decide +kernel
theorem dX4_heed_2 : decode cX4_heed 2 = .ok (.invokevirtual 86, 3) := by decide +kernel
theorem dX4_heed_5 : decode cX4_heed 5 = .ok (.ifCond .ne 6, 3) := by decide +kernel
theorem dX4_heed_8 : decode cX4_heed 8 = .ok (.bipush (-2), 2) := by decide +kernel
theorem dX4_heed_10 : decode cX4_heed 10 = .ok (.ireturn, 1) := by decide +kernel
theorem dX4_heed_11 : decode cX4_heed 11 = .ok (.aload_n 0, 1) := by decide +kernel
theorem dX4_heed_12 : decode cX4_heed 12 = .ok (.getfield 29, 3) := by decide +kernel
theorem dX4_heed_15 : decode cX4_heed 15 = .ok (.getfield 99, 3) := by decide +kernel
theorem dX4_heed_18 : decode cX4_heed 18 = .ok (.iload_n 1, 1) := by decide +kernel
theorem dX4_heed_19 : decode cX4_heed 19 = .ok (.iaload, 1) := by decide +kernel
theorem dX4_heed_20 : decode cX4_heed 20 = .ok (.iconst (-1), 1) := by decide +kernel
theorem dX4_heed_21 : decode cX4_heed 21 = .ok (.if_icmp .ne 6, 3) := by decide +kernel
theorem dX4_heed_24 : decode cX4_heed 24 = .ok (.bipush (-4), 2) := by decide +kernel
theorem dX4_heed_26 : decode cX4_heed 26 = .ok (.ireturn, 1) := by decide +kernel
theorem dX4_heed_27 : decode cX4_heed 27 = .ok (.aload_n 0, 1) := by decide +kernel
theorem dX4_heed_28 : decode cX4_heed 28 = .ok (.invokevirtual 137, 3) := by decide +kernel
theorem dX4_heed_31 : decode cX4_heed 31 = .ok (.aload_n 0, 1) := by decide +kernel
theorem dX4_heed_32 : decode cX4_heed 32 = .ok (.getfield 29, 3) := by decide +kernel
theorem dX4_heed_35 : decode cX4_heed 35 = .ok (.getfield 99, 3) := by decide +kernel
theorem dX4_heed_38 : decode cX4_heed 38 = .ok (.iload_n 1, 1) := by decide +kernel
theorem dX4_heed_39 : decode cX4_heed 39 = .ok (.iconst (-1), 1) := by decide +kernel
theorem dX4_heed_40 : decode cX4_heed 40 = .ok (.iastore, 1) := by decide +kernel
theorem dX4_heed_41 : decode cX4_heed 41 = .ok (.aload_n 0, 1) := by decide +kernel
theorem dX4_heed_42 : decode cX4_heed 42 = .ok (.getfield 29, 3) := by decide +kernel
theorem dX4_heed_45 : decode cX4_heed 45 = .ok (.dup, 1) := by decide +kernel
theorem dX4_heed_46 : decode cX4_heed 46 = .ok (.getfield 154, 3) := by decide +kernel
theorem dX4_heed_49 : decode cX4_heed 49 = .ok (.iconst 1, 1) := by decide +kernel
theorem dX4_heed_50 : decode cX4_heed 50 = .ok (.iadd, 1) := by decide +kernel
theorem dX4_heed_51 : decode cX4_heed 51 = .ok (.putfield 154, 3) := by decide +kernel
theorem dX4_heed_54 : decode cX4_heed 54 = .ok (.aload_n 0, 1) := by decide +kernel
theorem dX4_heed_55 : decode cX4_heed 55 = .ok (.getfield 29, 3) := by decide +kernel
theorem dX4_heed_58 : decode cX4_heed 58 = .ok (.dup, 1) := by decide +kernel
theorem dX4_heed_59 : decode cX4_heed 59 = .ok (.getfield 157, 3) := by decide +kernel
theorem dX4_heed_62 : decode cX4_heed 62 = .ok (.aload_n 0, 1) := by decide +kernel
theorem dX4_heed_63 : decode cX4_heed 63 = .ok (.getfield 29, 3) := by decide +kernel
theorem dX4_heed_66 : decode cX4_heed 66 = .ok (.getfield 160, 3) := by decide +kernel
theorem dX4_heed_69 : decode cX4_heed 69 = .ok (.iload_n 1, 1) := by decide +kernel
theorem dX4_heed_70 : decode cX4_heed 70 = .ok (.iaload, 1) := by decide +kernel
theorem dX4_heed_71 : decode cX4_heed 71 = .ok (.iadd, 1) := by decide +kernel
theorem dX4_heed_72 : decode cX4_heed 72 = .ok (.putfield 157, 3) := by decide +kernel
theorem dX4_heed_75 : decode cX4_heed 75 = .ok (.aload_n 0, 1) := by decide +kernel
theorem dX4_heed_76 : decode cX4_heed 76 = .ok (.getfield 29, 3) := by decide +kernel
theorem dX4_heed_79 : decode cX4_heed 79 = .ok (.getfield 157, 3) := by decide +kernel
theorem dX4_heed_82 : decode cX4_heed 82 = .ok (.sipush 9999, 3) := by decide +kernel
theorem dX4_heed_85 : decode cX4_heed 85 = .ok (.iadd, 1) := by decide +kernel
theorem dX4_heed_86 : decode cX4_heed 86 = .ok (.ireturn, 1) := by decide +kernel
theorem dX4_undo_0 : decode cX4_undo 0 = .ok (.aload_n 0, 1) := by decide +kernel
theorem dX4_undo_1 : decode cX4_undo 1 = .ok (.getfield 80, 3) := by decide +kernel
theorem dX4_undo_4 : decode cX4_undo 4 = .ok (.ifCond .le 12, 3) := by decide +kernel
theorem dX4_undo_7 : decode cX4_undo 7 = .ok (.aload_n 0, 1) := by decide +kernel
theorem dX4_undo_8 : decode cX4_undo 8 = .ok (.getfield 80, 3) := by decide +kernel
theorem dX4_undo_11 : decode cX4_undo 11 = .ok (.bipush 8, 2) := by decide +kernel
theorem dX4_undo_13 : decode cX4_undo 13 = .ok (.if_icmp .le 6, 3) := by decide +kernel
theorem dX4_undo_16 : decode cX4_undo 16 = .ok (.bipush (-4), 2) := by decide +kernel
theorem dX4_undo_18 : decode cX4_undo 18 = .ok (.ireturn, 1) := by decide +kernel
theorem dX4_undo_19 : decode cX4_undo 19 = .ok (.aload_n 0, 1) := by decide +kernel
theorem dX4_undo_20 : decode cX4_undo 20 = .ok (.dup, 1) := by decide +kernel
theorem dX4_undo_21 : decode cX4_undo 21 = .ok (.getfield 80, 3) := by decide +kernel
theorem dX4_undo_24 : decode cX4_undo 24 = .ok (.iconst 1, 1) := by decide +kernel
theorem dX4_undo_25 : decode cX4_undo 25 = .ok (.isub, 1) := by decide +kernel
theorem dX4_undo_26 : decode cX4_undo 26 = .ok (.putfield 80, 3) := by decide +kernel
theorem dX4_undo_29 : decode cX4_undo 29 = .ok (.aload_n 0, 1) := by decide +kernel
theorem dX4_undo_30 : decode cX4_undo 30 = .ok (.getfield 29, 3) := by decide +kernel
theorem dX4_undo_33 : decode cX4_undo 33 = .ok (.aload_n 0, 1) := by decide +kernel
theorem dX4_undo_34 : decode cX4_undo 34 = .ok (.getfield 36, 3) := by decide +kernel
theorem dX4_undo_37 : decode cX4_undo 37 = .ok (.aload_n 0, 1) := by decide +kernel
theorem dX4_undo_38 : decode cX4_undo 38 = .ok (.getfield 80, 3) := by decide +kernel
theorem dX4_undo_41 : decode cX4_undo 41 = .ok (.aaload, 1) := by decide +kernel
theorem dX4_undo_42 : decode cX4_undo 42 = .ok (.invokevirtual 163, 3) := by decide +kernel
theorem dX4_undo_45 : decode cX4_undo 45 = .ok (.aload_n 0, 1) := by decide +kernel
theorem dX4_undo_46 : decode cX4_undo 46 = .ok (.getfield 80, 3) := by decide +kernel
theorem dX4_undo_49 : decode cX4_undo 49 = .ok (.ireturn, 1) := by decide +kernel
theorem dX4_keep_0 : decode cX4_keep 0 = .ok (.iload_n 1, 1) := by decide +kernel
theorem dX4_keep_1 : decode cX4_keep 1 = .ok (.ifCond .lt 8, 3) := by decide +kernel
theorem dX4_keep_4 : decode cX4_keep 4 = .ok (.iload_n 1, 1) := by decide +kernel
theorem dX4_keep_5 : decode cX4_keep 5 = .ok (.iconst 2, 1) := by decide +kernel
theorem dX4_keep_6 : decode cX4_keep 6 = .ok (.if_icmp .lt 6, 3) := by decide +kernel
theorem dX4_keep_9 : decode cX4_keep 9 = .ok (.bipush (-2), 2) := by decide +kernel
theorem dX4_keep_11 : decode cX4_keep 11 = .ok (.ireturn, 1) := by decide +kernel
theorem dX4_keep_12 : decode cX4_keep 12 = .ok (.aload_n 0, 1) := by decide +kernel
theorem dX4_keep_13 : decode cX4_keep 13 = .ok (.getfield 40, 3) := by decide +kernel
theorem dX4_keep_16 : decode cX4_keep 16 = .ok (.iload_n 1, 1) := by decide +kernel
theorem dX4_keep_17 : decode cX4_keep 17 = .ok (.aaload, 1) := by decide +kernel
theorem dX4_keep_18 : decode cX4_keep 18 = .ok (.aload_n 0, 1) := by decide +kernel
theorem dX4_keep_19 : decode cX4_keep 19 = .ok (.getfield 29, 3) := by decide +kernel
theorem dX4_keep_22 : decode cX4_keep 22 = .ok (.invokevirtual 163, 3) := by decide +kernel
theorem dX4_keep_25 : decode cX4_keep 25 = .ok (.aload_n 0, 1) := by decide +kernel
theorem dX4_keep_26 : decode cX4_keep 26 = .ok (.getfield 43, 3) := by decide +kernel
theorem dX4_keep_29 : decode cX4_keep 29 = .ok (.iload_n 1, 1) := by decide +kernel
theorem dX4_keep_30 : decode cX4_keep 30 = .ok (.iconst 1, 1) := by decide +kernel
theorem dX4_keep_31 : decode cX4_keep 31 = .ok (.bastore, 1) := by decide +kernel
theorem dX4_keep_32 : decode cX4_keep 32 = .ok (.aload_n 0, 1) := by decide +kernel
theorem dX4_keep_33 : decode cX4_keep 33 = .ok (.getfield 29, 3) := by decide +kernel
theorem dX4_keep_36 : decode cX4_keep 36 = .ok (.getfield 134, 3) := by decide +kernel
theorem dX4_keep_39 : decode cX4_keep 39 = .ok (.ireturn, 1) := by decide +kernel
theorem dX4_back_0 : decode cX4_back 0 = .ok (.iload_n 1, 1) := by decide +kernel
theorem dX4_back_1 : decode cX4_back 1 = .ok (.ifCond .lt 8, 3) := by decide +kernel
theorem dX4_back_4 : decode cX4_back 4 = .ok (.iload_n 1, 1) := by decide +kernel
theorem dX4_back_5 : decode cX4_back 5 = .ok (.iconst 2, 1) := by decide +kernel
theorem dX4_back_6 : decode cX4_back 6 = .ok (.if_icmp .lt 6, 3) := by decide +kernel
theorem dX4_back_9 : decode cX4_back 9 = .ok (.bipush (-2), 2) := by decide +kernel
theorem dX4_back_11 : decode cX4_back 11 = .ok (.ireturn, 1) := by decide +kernel
theorem dX4_back_12 : decode cX4_back 12 = .ok (.aload_n 0, 1) := by decide +kernel
theorem dX4_back_13 : decode cX4_back 13 = .ok (.getfield 43, 3) := by decide +kernel
theorem dX4_back_16 : decode cX4_back 16 = .ok (.iload_n 1, 1) := by decide +kernel
theorem dX4_back_17 : decode cX4_back 17 = .ok (.baload, 1) := by decide +kernel
theorem dX4_back_18 : decode cX4_back 18 = .ok (.ifCond .ne 6, 3) := by decide +kernel
theorem dX4_back_21 : decode cX4_back 21 = .ok (.bipush (-4), 2) := by decide +kernel
theorem dX4_back_23 : decode cX4_back 23 = .ok (.ireturn, 1) := by decide +kernel
theorem dX4_back_24 : decode cX4_back 24 = .ok (.aload_n 0, 1) := by decide +kernel
theorem dX4_back_25 : decode cX4_back 25 = .ok (.getfield 29, 3) := by decide +kernel
theorem dX4_back_28 : decode cX4_back 28 = .ok (.aload_n 0, 1) := by decide +kernel
theorem dX4_back_29 : decode cX4_back 29 = .ok (.getfield 40, 3) := by decide +kernel
theorem dX4_back_32 : decode cX4_back 32 = .ok (.iload_n 1, 1) := by decide +kernel
theorem dX4_back_33 : decode cX4_back 33 = .ok (.aaload, 1) := by decide +kernel
theorem dX4_back_34 : decode cX4_back 34 = .ok (.invokevirtual 163, 3) := by decide +kernel
theorem dX4_back_37 : decode cX4_back 37 = .ok (.aload_n 0, 1) := by decide +kernel
theorem dX4_back_38 : decode cX4_back 38 = .ok (.iconst 0, 1) := by decide +kernel
theorem dX4_back_39 : decode cX4_back 39 = .ok (.putfield 80, 3) := by decide +kernel
theorem dX4_back_42 : decode cX4_back 42 = .ok (.aload_n 0, 1) := by decide +kernel
theorem dX4_back_43 : decode cX4_back 43 = .ok (.getfield 29, 3) := by decide +kernel
theorem dX4_back_46 : decode cX4_back 46 = .ok (.getfield 134, 3) := by decide +kernel
theorem dX4_back_49 : decode cX4_back 49 = .ok (.ireturn, 1) := by decide +kernel
theorem dX4_lays_0 : decode cX4_lays 0 = .ok (.aload_n 0, 1) := by decide +kernel
theorem dX4_lays_1 : decode cX4_lays 1 = .ok (.iload_n 1, 1) := by decide +kernel
theorem dX4_lays_2 : decode cX4_lays 2 = .ok (.invokevirtual 102, 3) := by decide +kernel
theorem dX4_lays_5 : decode cX4_lays 5 = .ok (.ifCond .ne 6, 3) := by decide +kernel
theorem dX4_lays_8 : decode cX4_lays 8 = .ok (.bipush (-2), 2) := by decide +kernel
theorem dX4_lays_10 : decode cX4_lays 10 = .ok (.ireturn, 1) := by decide +kernel
theorem dX4_lays_11 : decode cX4_lays 11 = .ok (.iload_n 2, 1) := by decide +kernel
theorem dX4_lays_12 : decode cX4_lays 12 = .ok (.iconst 1, 1) := by decide +kernel
theorem dX4_lays_13 : decode cX4_lays 13 = .ok (.if_icmp .lt 9, 3) := by decide +kernel
theorem dX4_lays_16 : decode cX4_lays 16 = .ok (.iload_n 2, 1) := by decide +kernel
theorem dX4_lays_17 : decode cX4_lays 17 = .ok (.bipush 30, 2) := by decide +kernel
theorem dX4_lays_19 : decode cX4_lays 19 = .ok (.if_icmp .le 6, 3) := by decide +kernel
theorem dX4_lays_22 : decode cX4_lays 22 = .ok (.bipush (-3), 2) := by decide +kernel
theorem dX4_lays_24 : decode cX4_lays 24 = .ok (.ireturn, 1) := by decide +kernel
theorem dX4_lays_25 : decode cX4_lays 25 = .ok (.aload_n 0, 1) := by decide +kernel
theorem dX4_lays_26 : decode cX4_lays 26 = .ok (.iload_n 2, 1) := by decide +kernel
theorem dX4_lays_27 : decode cX4_lays 27 = .ok (.invokevirtual 166, 3) := by decide +kernel
theorem dX4_lays_30 : decode cX4_lays 30 = .ok (.aload_n 0, 1) := by decide +kernel
theorem dX4_lays_31 : decode cX4_lays 31 = .ok (.getfield 33, 3) := by decide +kernel
theorem dX4_lays_34 : decode cX4_lays 34 = .ok (.iload_n 1, 1) := by decide +kernel
theorem dX4_lays_35 : decode cX4_lays 35 = .ok (.invokevirtual 170, 3) := by decide +kernel
theorem dX4_lays_38 : decode cX4_lays 38 = .ok (.ireturn, 1) := by decide +kernel
theorem dX4_rights_0 : decode cX4_rights 0 = .ok (.aload_n 0, 1) := by decide +kernel
theorem dX4_rights_1 : decode cX4_rights 1 = .ok (.iload_n 1, 1) := by decide +kernel
theorem dX4_rights_2 : decode cX4_rights 2 = .ok (.invokevirtual 102, 3) := by decide +kernel
theorem dX4_rights_5 : decode cX4_rights 5 = .ok (.ifCond .ne 6, 3) := by decide +kernel
theorem dX4_rights_8 : decode cX4_rights 8 = .ok (.bipush (-2), 2) := by decide +kernel
theorem dX4_rights_10 : decode cX4_rights 10 = .ok (.ireturn, 1) := by decide +kernel
theorem dX4_rights_11 : decode cX4_rights 11 = .ok (.iload_n 2, 1) := by decide +kernel
theorem dX4_rights_12 : decode cX4_rights 12 = .ok (.ifCond .lt 9, 3) := by decide +kernel
theorem dX4_rights_15 : decode cX4_rights 15 = .ok (.iload_n 2, 1) := by decide +kernel
theorem dX4_rights_16 : decode cX4_rights 16 = .ok (.bipush 30, 2) := by decide +kernel
theorem dX4_rights_18 : decode cX4_rights 18 = .ok (.if_icmp .le 6, 3) := by decide +kernel
theorem dX4_rights_21 : decode cX4_rights 21 = .ok (.bipush (-3), 2) := by decide +kernel
theorem dX4_rights_23 : decode cX4_rights 23 = .ok (.ireturn, 1) := by decide +kernel
theorem dX4_rights_24 : decode cX4_rights 24 = .ok (.aload_n 0, 1) := by decide +kernel
theorem dX4_rights_25 : decode cX4_rights 25 = .ok (.iload_n 2, 1) := by decide +kernel
theorem dX4_rights_26 : decode cX4_rights 26 = .ok (.invokevirtual 166, 3) := by decide +kernel
theorem dX4_rights_29 : decode cX4_rights 29 = .ok (.aload_n 0, 1) := by decide +kernel
theorem dX4_rights_30 : decode cX4_rights 30 = .ok (.iload_n 1, 1) := by decide +kernel
theorem dX4_rights_31 : decode cX4_rights 31 = .ok (.invokevirtual 174, 3) := by decide +kernel
theorem dX4_rights_34 : decode cX4_rights 34 = .ok (.ireturn, 1) := by decide +kernel
theorem dX4_ask_0 : decode cX4_ask 0 = .ok (.iload_n 1, 1) := by decide +kernel
theorem dX4_ask_1 : decode cX4_ask 1 = .ok (.ifCond .lt 18, 3) := by decide +kernel
theorem dX4_ask_4 : decode cX4_ask 4 = .ok (.iload_n 1, 1) := by decide +kernel
theorem dX4_ask_5 : decode cX4_ask 5 = .ok (.bipush 30, 2) := by decide +kernel
theorem dX4_ask_7 : decode cX4_ask 7 = .ok (.if_icmp .gt 12, 3) := by decide +kernel
theorem dX4_ask_10 : decode cX4_ask 10 = .ok (.iload_n 2, 1) := by decide +kernel
theorem dX4_ask_11 : decode cX4_ask 11 = .ok (.ifCond .lt 8, 3) := by decide +kernel
theorem dX4_ask_14 : decode cX4_ask 14 = .ok (.iload_n 2, 1) := by decide +kernel
theorem dX4_ask_15 : decode cX4_ask 15 = .ok (.iconst 1, 1) := by decide +kernel
theorem dX4_ask_16 : decode cX4_ask 16 = .ok (.if_icmp .le 6, 3) := by decide +kernel
theorem dX4_ask_19 : decode cX4_ask 19 = .ok (.bipush (-3), 2) := by decide +kernel
theorem dX4_ask_21 : decode cX4_ask 21 = .ok (.ireturn, 1) := by decide +kernel
theorem dX4_ask_22 : decode cX4_ask 22 = .ok (.aload_n 0, 1) := by decide +kernel
theorem dX4_ask_23 : decode cX4_ask 23 = .ok (.iload_n 1, 1) := by decide +kernel
theorem dX4_ask_24 : decode cX4_ask 24 = .ok (.invokevirtual 166, 3) := by decide +kernel
theorem dX4_ask_27 : decode cX4_ask 27 = .ok (.iconst (-1), 1) := by decide +kernel
theorem dX4_ask_28 : decode cX4_ask 28 = .ok (.istore_n 3, 1) := by decide +kernel
theorem dX4_ask_29 : decode cX4_ask 29 = .ok (.iconst (-1), 1) := by decide +kernel
theorem dX4_ask_30 : decode cX4_ask 30 = .ok (.istore 4, 2) := by decide +kernel
theorem dX4_ask_32 : decode cX4_ask 32 = .ok (.iconst 0, 1) := by decide +kernel
theorem dX4_ask_33 : decode cX4_ask 33 = .ok (.istore 5, 2) := by decide +kernel
theorem dX4_ask_35 : decode cX4_ask 35 = .ok (.iload 5, 2) := by decide +kernel
theorem dX4_ask_37 : decode cX4_ask 37 = .ok (.aload_n 0, 1) := by decide +kernel
theorem dX4_ask_38 : decode cX4_ask 38 = .ok (.getfield 19, 3) := by decide +kernel
theorem dX4_ask_41 : decode cX4_ask 41 = .ok (.getfield 177, 3) := by decide +kernel
theorem dX4_ask_44 : decode cX4_ask 44 = .ok (.if_icmp .ge 31, 3) := by decide +kernel
theorem dX4_ask_47 : decode cX4_ask 47 = .ok (.aload_n 0, 1) := by decide +kernel
theorem dX4_ask_48 : decode cX4_ask 48 = .ok (.iload 5, 2) := by decide +kernel
theorem dX4_ask_50 : decode cX4_ask 50 = .ok (.invokevirtual 174, 3) := by decide +kernel
theorem dX4_ask_53 : decode cX4_ask 53 = .ok (.iload 4, 2) := by decide +kernel
theorem dX4_ask_55 : decode cX4_ask 55 = .ok (.if_icmp .le 14, 3) := by decide +kernel
theorem dX4_ask_58 : decode cX4_ask 58 = .ok (.aload_n 0, 1) := by decide +kernel
theorem dX4_ask_59 : decode cX4_ask 59 = .ok (.iload 5, 2) := by decide +kernel
theorem dX4_ask_61 : decode cX4_ask 61 = .ok (.invokevirtual 174, 3) := by decide +kernel
theorem dX4_ask_64 : decode cX4_ask 64 = .ok (.istore 4, 2) := by decide +kernel
theorem dX4_ask_66 : decode cX4_ask 66 = .ok (.iload 5, 2) := by decide +kernel
theorem dX4_ask_68 : decode cX4_ask 68 = .ok (.istore_n 3, 1) := by decide +kernel
theorem dX4_ask_69 : decode cX4_ask 69 = .ok (.iinc 5 1, 3) := by decide +kernel
theorem dX4_ask_72 : decode cX4_ask 72 = .ok (.goto (-37), 3) := by decide +kernel
theorem dX4_ask_75 : decode cX4_ask 75 = .ok (.iload_n 2, 1) := by decide +kernel
theorem dX4_ask_76 : decode cX4_ask 76 = .ok (.ifCond .ne 7, 3) := by decide +kernel
theorem dX4_ask_79 : decode cX4_ask 79 = .ok (.iload_n 3, 1) := by decide +kernel
theorem dX4_ask_80 : decode cX4_ask 80 = .ok (.goto 5, 3) := by decide +kernel
theorem dX4_ask_83 : decode cX4_ask 83 = .ok (.iload 4, 2) := by decide +kernel
theorem dX4_ask_85 : decode cX4_ask 85 = .ok (.ireturn, 1) := by decide +kernel
theorem dX4_trough_0 : decode cX4_trough 0 = .ok (.iload_n 1, 1) := by decide +kernel
theorem dX4_trough_1 : decode cX4_trough 1 = .ok (.iconst 1, 1) := by decide +kernel
theorem dX4_trough_2 : decode cX4_trough 2 = .ok (.if_icmp .lt 9, 3) := by decide +kernel
theorem dX4_trough_5 : decode cX4_trough 5 = .ok (.iload_n 1, 1) := by decide +kernel
theorem dX4_trough_6 : decode cX4_trough 6 = .ok (.bipush 20, 2) := by decide +kernel
theorem dX4_trough_8 : decode cX4_trough 8 = .ok (.if_icmp .le 6, 3) := by decide +kernel
theorem dX4_trough_11 : decode cX4_trough 11 = .ok (.bipush (-3), 2) := by decide +kernel
theorem dX4_trough_13 : decode cX4_trough 13 = .ok (.ireturn, 1) := by decide +kernel
theorem dX4_trough_14 : decode cX4_trough 14 = .ok (.aload_n 0, 1) := by decide +kernel
theorem dX4_trough_15 : decode cX4_trough 15 = .ok (.iload_n 1, 1) := by decide +kernel
theorem dX4_trough_16 : decode cX4_trough 16 = .ok (.invokevirtual 180, 3) := by decide +kernel
theorem dX4_trough_19 : decode cX4_trough 19 = .ok (.iconst (-1), 1) := by decide +kernel
theorem dX4_trough_20 : decode cX4_trough 20 = .ok (.istore_n 2, 1) := by decide +kernel
theorem dX4_trough_21 : decode cX4_trough 21 = .ok (.iconst 0, 1) := by decide +kernel
theorem dX4_trough_22 : decode cX4_trough 22 = .ok (.istore_n 3, 1) := by decide +kernel
theorem dX4_trough_23 : decode cX4_trough 23 = .ok (.iconst 0, 1) := by decide +kernel
theorem dX4_trough_24 : decode cX4_trough 24 = .ok (.istore 4, 2) := by decide +kernel
theorem dX4_trough_26 : decode cX4_trough 26 = .ok (.iload 4, 2) := by decide +kernel
theorem dX4_trough_28 : decode cX4_trough 28 = .ok (.aload_n 0, 1) := by decide +kernel
theorem dX4_trough_29 : decode cX4_trough 29 = .ok (.getfield 19, 3) := by decide +kernel
theorem dX4_trough_32 : decode cX4_trough 32 = .ok (.getfield 127, 3) := by decide +kernel
theorem dX4_trough_35 : decode cX4_trough 35 = .ok (.if_icmp .ge 61, 3) := by decide +kernel
theorem dX4_trough_38 : decode cX4_trough 38 = .ok (.iload 4, 2) := by decide +kernel
theorem dX4_trough_40 : decode cX4_trough 40 = .ok (.iconst 1, 1) := by decide +kernel
theorem dX4_trough_41 : decode cX4_trough 41 = .ok (.iadd, 1) := by decide +kernel
theorem dX4_trough_42 : decode cX4_trough 42 = .ok (.istore 5, 2) := by decide +kernel
theorem dX4_trough_44 : decode cX4_trough 44 = .ok (.iload 5, 2) := by decide +kernel
theorem dX4_trough_46 : decode cX4_trough 46 = .ok (.aload_n 0, 1) := by decide +kernel
theorem dX4_trough_47 : decode cX4_trough 47 = .ok (.getfield 19, 3) := by decide +kernel
theorem dX4_trough_50 : decode cX4_trough 50 = .ok (.getfield 127, 3) := by decide +kernel
theorem dX4_trough_53 : decode cX4_trough 53 = .ok (.if_icmp .ge 37, 3) := by decide +kernel
theorem dX4_trough_56 : decode cX4_trough 56 = .ok (.aload_n 0, 1) := by decide +kernel
theorem dX4_trough_57 : decode cX4_trough 57 = .ok (.iload 4, 2) := by decide +kernel
theorem dX4_trough_59 : decode cX4_trough 59 = .ok (.iload 5, 2) := by decide +kernel
theorem dX4_trough_61 : decode cX4_trough 61 = .ok (.invokevirtual 183, 3) := by decide +kernel
theorem dX4_trough_64 : decode cX4_trough 64 = .ok (.istore 6, 2) := by decide +kernel
theorem dX4_trough_66 : decode cX4_trough 66 = .ok (.iload 6, 2) := by decide +kernel
theorem dX4_trough_68 : decode cX4_trough 68 = .ok (.iload_n 3, 1) := by decide +kernel
theorem dX4_trough_69 : decode cX4_trough 69 = .ok (.if_icmp .le 15, 3) := by decide +kernel
theorem dX4_trough_72 : decode cX4_trough 72 = .ok (.iload 6, 2) := by decide +kernel
theorem dX4_trough_74 : decode cX4_trough 74 = .ok (.istore_n 3, 1) := by decide +kernel
theorem dX4_trough_75 : decode cX4_trough 75 = .ok (.bipush 10, 2) := by decide +kernel
theorem dX4_trough_77 : decode cX4_trough 77 = .ok (.iload 4, 2) := by decide +kernel
theorem dX4_trough_79 : decode cX4_trough 79 = .ok (.imul, 1) := by decide +kernel
theorem dX4_trough_80 : decode cX4_trough 80 = .ok (.iload 5, 2) := by decide +kernel
theorem dX4_trough_82 : decode cX4_trough 82 = .ok (.iadd, 1) := by decide +kernel
theorem dX4_trough_83 : decode cX4_trough 83 = .ok (.istore_n 2, 1) := by decide +kernel
theorem dX4_trough_84 : decode cX4_trough 84 = .ok (.iinc 5 1, 3) := by decide +kernel
theorem dX4_trough_87 : decode cX4_trough 87 = .ok (.goto (-43), 3) := by decide +kernel
theorem dX4_trough_90 : decode cX4_trough 90 = .ok (.iinc 4 1, 3) := by decide +kernel
theorem dX4_trough_93 : decode cX4_trough 93 = .ok (.goto (-67), 3) := by decide +kernel
theorem dX4_trough_96 : decode cX4_trough 96 = .ok (.iload_n 2, 1) := by decide +kernel
theorem dX4_trough_97 : decode cX4_trough 97 = .ok (.ireturn, 1) := by decide +kernel
theorem dX4_warmth_0 : decode cX4_warmth 0 = .ok (.aload_n 0, 1) := by decide +kernel
theorem dX4_warmth_1 : decode cX4_warmth 1 = .ok (.iload_n 1, 1) := by decide +kernel
theorem dX4_warmth_2 : decode cX4_warmth 2 = .ok (.invokevirtual 102, 3) := by decide +kernel
theorem dX4_warmth_5 : decode cX4_warmth 5 = .ok (.ifCond .eq 11, 3) := by decide +kernel
theorem dX4_warmth_8 : decode cX4_warmth 8 = .ok (.aload_n 0, 1) := by decide +kernel
theorem dX4_warmth_9 : decode cX4_warmth 9 = .ok (.iload_n 2, 1) := by decide +kernel
theorem dX4_warmth_10 : decode cX4_warmth 10 = .ok (.invokevirtual 86, 3) := by decide +kernel
theorem dX4_warmth_13 : decode cX4_warmth 13 = .ok (.ifCond .ne 6, 3) := by decide +kernel
theorem dX4_warmth_16 : decode cX4_warmth 16 = .ok (.bipush (-2), 2) := by decide +kernel
theorem dX4_warmth_18 : decode cX4_warmth 18 = .ok (.ireturn, 1) := by decide +kernel
theorem dX4_warmth_19 : decode cX4_warmth 19 = .ok (.iconst 0, 1) := by decide +kernel
theorem dX4_warmth_20 : decode cX4_warmth 20 = .ok (.istore_n 3, 1) := by decide +kernel
theorem dX4_warmth_21 : decode cX4_warmth 21 = .ok (.iload_n 3, 1) := by decide +kernel
theorem dX4_warmth_22 : decode cX4_warmth 22 = .ok (.bipush 9, 2) := by decide +kernel
theorem dX4_warmth_24 : decode cX4_warmth 24 = .ok (.if_icmp .gt 56, 3) := by decide +kernel
theorem dX4_warmth_27 : decode cX4_warmth 27 = .ok (.aload_n 0, 1) := by decide +kernel
theorem dX4_warmth_28 : decode cX4_warmth 28 = .ok (.getfield 33, 3) := by decide +kernel
theorem dX4_warmth_31 : decode cX4_warmth 31 = .ok (.aload_n 0, 1) := by decide +kernel
theorem dX4_warmth_32 : decode cX4_warmth 32 = .ok (.getfield 29, 3) := by decide +kernel
theorem dX4_warmth_35 : decode cX4_warmth 35 = .ok (.invokevirtual 163, 3) := by decide +kernel
theorem dX4_warmth_38 : decode cX4_warmth 38 = .ok (.aload_n 0, 1) := by decide +kernel
theorem dX4_warmth_39 : decode cX4_warmth 39 = .ok (.getfield 33, 3) := by decide +kernel
theorem dX4_warmth_42 : decode cX4_warmth 42 = .ok (.getfield 93, 3) := by decide +kernel
theorem dX4_warmth_45 : decode cX4_warmth 45 = .ok (.iload_n 2, 1) := by decide +kernel
theorem dX4_warmth_46 : decode cX4_warmth 46 = .ok (.iload_n 3, 1) := by decide +kernel
theorem dX4_warmth_47 : decode cX4_warmth 47 = .ok (.iastore, 1) := by decide +kernel
theorem dX4_warmth_48 : decode cX4_warmth 48 = .ok (.aload_n 0, 1) := by decide +kernel
theorem dX4_warmth_49 : decode cX4_warmth 49 = .ok (.getfield 33, 3) := by decide +kernel
theorem dX4_warmth_52 : decode cX4_warmth 52 = .ok (.aload_n 0, 1) := by decide +kernel
theorem dX4_warmth_53 : decode cX4_warmth 53 = .ok (.getfield 19, 3) := by decide +kernel
theorem dX4_warmth_56 : decode cX4_warmth 56 = .ok (.invokevirtual 140, 3) := by decide +kernel
theorem dX4_warmth_59 : decode cX4_warmth 59 = .ok (.aload_n 0, 1) := by decide +kernel
theorem dX4_warmth_60 : decode cX4_warmth 60 = .ok (.getfield 33, 3) := by decide +kernel
theorem dX4_warmth_63 : decode cX4_warmth 63 = .ok (.getfield 99, 3) := by decide +kernel
theorem dX4_warmth_66 : decode cX4_warmth 66 = .ok (.iload_n 2, 1) := by decide +kernel
theorem dX4_warmth_67 : decode cX4_warmth 67 = .ok (.iaload, 1) := by decide +kernel
theorem dX4_warmth_68 : decode cX4_warmth 68 = .ok (.iload_n 1, 1) := by decide +kernel
theorem dX4_warmth_69 : decode cX4_warmth 69 = .ok (.if_icmp .ne 5, 3) := by decide +kernel
theorem dX4_warmth_72 : decode cX4_warmth 72 = .ok (.iload_n 3, 1) := by decide +kernel
theorem dX4_warmth_73 : decode cX4_warmth 73 = .ok (.ireturn, 1) := by decide +kernel
theorem dX4_warmth_74 : decode cX4_warmth 74 = .ok (.iinc 3 1, 3) := by decide +kernel
theorem dX4_warmth_77 : decode cX4_warmth 77 = .ok (.goto (-56), 3) := by decide +kernel
theorem dX4_warmth_80 : decode cX4_warmth 80 = .ok (.iconst (-1), 1) := by decide +kernel
theorem dX4_warmth_81 : decode cX4_warmth 81 = .ok (.ireturn, 1) := by decide +kernel
theorem dX4_seen_0 : decode cX4_seen 0 = .ok (.aload_n 0, 1) := by decide +kernel
theorem dX4_seen_1 : decode cX4_seen 1 = .ok (.iload_n 1, 1) := by decide +kernel
theorem dX4_seen_2 : decode cX4_seen 2 = .ok (.invokevirtual 102, 3) := by decide +kernel
theorem dX4_seen_5 : decode cX4_seen 5 = .ok (.ifCond .eq 16, 3) := by decide +kernel
theorem dX4_seen_8 : decode cX4_seen 8 = .ok (.iload_n 3, 1) := by decide +kernel
theorem dX4_seen_9 : decode cX4_seen 9 = .ok (.iconst (-1), 1) := by decide +kernel
theorem dX4_seen_10 : decode cX4_seen 10 = .ok (.if_icmp .eq 14, 3) := by decide +kernel
theorem dX4_seen_13 : decode cX4_seen 13 = .ok (.aload_n 0, 1) := by decide +kernel
theorem dX4_seen_14 : decode cX4_seen 14 = .ok (.iload_n 3, 1) := by decide +kernel
theorem dX4_seen_15 : decode cX4_seen 15 = .ok (.invokevirtual 86, 3) := by decide +kernel
theorem dX4_seen_18 : decode cX4_seen 18 = .ok (.ifCond .ne 6, 3) := by decide +kernel
theorem dX4_seen_21 : decode cX4_seen 21 = .ok (.bipush (-2), 2) := by decide +kernel
theorem dX4_seen_23 : decode cX4_seen 23 = .ok (.ireturn, 1) := by decide +kernel
theorem dX4_seen_24 : decode cX4_seen 24 = .ok (.iload_n 2, 1) := by decide +kernel
theorem dX4_seen_25 : decode cX4_seen 25 = .ok (.iconst 1, 1) := by decide +kernel
theorem dX4_seen_26 : decode cX4_seen 26 = .ok (.if_icmp .lt 9, 3) := by decide +kernel
theorem dX4_seen_29 : decode cX4_seen 29 = .ok (.iload_n 2, 1) := by decide +kernel
theorem dX4_seen_30 : decode cX4_seen 30 = .ok (.bipush 14, 2) := by decide +kernel
theorem dX4_seen_32 : decode cX4_seen 32 = .ok (.if_icmp .le 6, 3) := by decide +kernel
theorem dX4_seen_35 : decode cX4_seen 35 = .ok (.bipush (-3), 2) := by decide +kernel
theorem dX4_seen_37 : decode cX4_seen 37 = .ok (.ireturn, 1) := by decide +kernel
theorem dX4_seen_38 : decode cX4_seen 38 = .ok (.aload_n 0, 1) := by decide +kernel
theorem dX4_seen_39 : decode cX4_seen 39 = .ok (.getfield 50, 3) := by decide +kernel
theorem dX4_seen_42 : decode cX4_seen 42 = .ok (.getfield 77, 3) := by decide +kernel
theorem dX4_seen_45 : decode cX4_seen 45 = .ok (.bipush 6, 2) := by decide +kernel
theorem dX4_seen_47 : decode cX4_seen 47 = .ok (.if_icmp .lt 6, 3) := by decide +kernel
theorem dX4_seen_50 : decode cX4_seen 50 = .ok (.bipush (-5), 2) := by decide +kernel
theorem dX4_seen_52 : decode cX4_seen 52 = .ok (.ireturn, 1) := by decide +kernel
theorem dX4_seen_53 : decode cX4_seen 53 = .ok (.aload_n 0, 1) := by decide +kernel
theorem dX4_seen_54 : decode cX4_seen 54 = .ok (.getfield 50, 3) := by decide +kernel
theorem dX4_seen_57 : decode cX4_seen 57 = .ok (.iload_n 1, 1) := by decide +kernel
theorem dX4_seen_58 : decode cX4_seen 58 = .ok (.iload_n 2, 1) := by decide +kernel
theorem dX4_seen_59 : decode cX4_seen 59 = .ok (.iload_n 3, 1) := by decide +kernel
theorem dX4_seen_60 : decode cX4_seen 60 = .ok (.invokevirtual 187, 3) := by decide +kernel
theorem dX4_seen_63 : decode cX4_seen 63 = .ok (.aload_n 0, 1) := by decide +kernel
theorem dX4_seen_64 : decode cX4_seen 64 = .ok (.getfield 50, 3) := by decide +kernel
theorem dX4_seen_67 : decode cX4_seen 67 = .ok (.getfield 77, 3) := by decide +kernel
theorem dX4_seen_70 : decode cX4_seen 70 = .ok (.ireturn, 1) := by decide +kernel
theorem dX4_forget_0 : decode cX4_forget 0 = .ok (.aload_n 0, 1) := by decide +kernel
theorem dX4_forget_1 : decode cX4_forget 1 = .ok (.getfield 50, 3) := by decide +kernel
theorem dX4_forget_4 : decode cX4_forget 4 = .ok (.getfield 77, 3) := by decide +kernel
theorem dX4_forget_7 : decode cX4_forget 7 = .ok (.istore_n 1, 1) := by decide +kernel
theorem dX4_forget_8 : decode cX4_forget 8 = .ok (.aload_n 0, 1) := by decide +kernel
theorem dX4_forget_9 : decode cX4_forget 9 = .ok (.getfield 50, 3) := by decide +kernel
theorem dX4_forget_12 : decode cX4_forget 12 = .ok (.iconst 0, 1) := by decide +kernel
theorem dX4_forget_13 : decode cX4_forget 13 = .ok (.putfield 77, 3) := by decide +kernel
theorem dX4_forget_16 : decode cX4_forget 16 = .ok (.iload_n 1, 1) := by decide +kernel
theorem dX4_forget_17 : decode cX4_forget 17 = .ok (.ireturn, 1) := by decide +kernel
theorem dX4_kinds_0 : decode cX4_kinds 0 = .ok (.aload_n 0, 1) := by decide +kernel
theorem dX4_kinds_1 : decode cX4_kinds 1 = .ok (.iload_n 1, 1) := by decide +kernel
theorem dX4_kinds_2 : decode cX4_kinds 2 = .ok (.invokevirtual 102, 3) := by decide +kernel
theorem dX4_kinds_5 : decode cX4_kinds 5 = .ok (.ifCond .ne 6, 3) := by decide +kernel
theorem dX4_kinds_8 : decode cX4_kinds 8 = .ok (.bipush (-2), 2) := by decide +kernel
theorem dX4_kinds_10 : decode cX4_kinds 10 = .ok (.ireturn, 1) := by decide +kernel
theorem dX4_kinds_11 : decode cX4_kinds 11 = .ok (.iconst 0, 1) := by decide +kernel
theorem dX4_kinds_12 : decode cX4_kinds 12 = .ok (.istore_n 2, 1) := by decide +kernel
theorem dX4_kinds_13 : decode cX4_kinds 13 = .ok (.iconst 0, 1) := by decide +kernel
theorem dX4_kinds_14 : decode cX4_kinds 14 = .ok (.istore_n 3, 1) := by decide +kernel
theorem dX4_kinds_15 : decode cX4_kinds 15 = .ok (.iload_n 3, 1) := by decide +kernel
theorem dX4_kinds_16 : decode cX4_kinds 16 = .ok (.iconst 3, 1) := by decide +kernel
theorem dX4_kinds_17 : decode cX4_kinds 17 = .ok (.if_icmp .gt 33, 3) := by decide +kernel
theorem dX4_kinds_20 : decode cX4_kinds 20 = .ok (.aload_n 0, 1) := by decide +kernel
theorem dX4_kinds_21 : decode cX4_kinds 21 = .ok (.iload_n 1, 1) := by decide +kernel
theorem dX4_kinds_22 : decode cX4_kinds 22 = .ok (.iload_n 3, 1) := by decide +kernel
theorem dX4_kinds_23 : decode cX4_kinds 23 = .ok (.aload_n 0, 1) := by decide +kernel
theorem dX4_kinds_24 : decode cX4_kinds 24 = .ok (.getfield 29, 3) := by decide +kernel
theorem dX4_kinds_27 : decode cX4_kinds 27 = .ok (.getfield 108, 3) := by decide +kernel
theorem dX4_kinds_30 : decode cX4_kinds 30 = .ok (.iload_n 1, 1) := by decide +kernel
theorem dX4_kinds_31 : decode cX4_kinds 31 = .ok (.iaload, 1) := by decide +kernel
theorem dX4_kinds_32 : decode cX4_kinds 32 = .ok (.invokevirtual 191, 3) := by decide +kernel
theorem dX4_kinds_35 : decode cX4_kinds 35 = .ok (.ifCond .eq 9, 3) := by decide +kernel
theorem dX4_kinds_38 : decode cX4_kinds 38 = .ok (.iload_n 2, 1) := by decide +kernel
theorem dX4_kinds_39 : decode cX4_kinds 39 = .ok (.iconst 1, 1) := by decide +kernel
theorem dX4_kinds_40 : decode cX4_kinds 40 = .ok (.iload_n 3, 1) := by decide +kernel
theorem dX4_kinds_41 : decode cX4_kinds 41 = .ok (.ishl, 1) := by decide +kernel
theorem dX4_kinds_42 : decode cX4_kinds 42 = .ok (.ior, 1) := by decide +kernel
theorem dX4_kinds_43 : decode cX4_kinds 43 = .ok (.istore_n 2, 1) := by decide +kernel
theorem dX4_kinds_44 : decode cX4_kinds 44 = .ok (.iinc 3 1, 3) := by decide +kernel
theorem dX4_kinds_47 : decode cX4_kinds 47 = .ok (.goto (-32), 3) := by decide +kernel
theorem dX4_kinds_50 : decode cX4_kinds 50 = .ok (.iload_n 2, 1) := by decide +kernel
theorem dX4_kinds_51 : decode cX4_kinds 51 = .ok (.ireturn, 1) := by decide +kernel
theorem dX4_habits_0 : decode cX4_habits 0 = .ok (.aload_n 0, 1) := by decide +kernel
theorem dX4_habits_1 : decode cX4_habits 1 = .ok (.iload_n 1, 1) := by decide +kernel
theorem dX4_habits_2 : decode cX4_habits 2 = .ok (.invokevirtual 102, 3) := by decide +kernel
theorem dX4_habits_5 : decode cX4_habits 5 = .ok (.ifCond .ne 6, 3) := by decide +kernel
theorem dX4_habits_8 : decode cX4_habits 8 = .ok (.bipush (-2), 2) := by decide +kernel
theorem dX4_habits_10 : decode cX4_habits 10 = .ok (.ireturn, 1) := by decide +kernel
theorem dX4_habits_11 : decode cX4_habits 11 = .ok (.iconst 0, 1) := by decide +kernel
theorem dX4_habits_12 : decode cX4_habits 12 = .ok (.istore_n 2, 1) := by decide +kernel
theorem dX4_habits_13 : decode cX4_habits 13 = .ok (.iconst 0, 1) := by decide +kernel
theorem dX4_habits_14 : decode cX4_habits 14 = .ok (.istore_n 3, 1) := by decide +kernel
theorem dX4_habits_15 : decode cX4_habits 15 = .ok (.iload_n 3, 1) := by decide +kernel
theorem dX4_habits_16 : decode cX4_habits 16 = .ok (.bipush 9, 2) := by decide +kernel
theorem dX4_habits_18 : decode cX4_habits 18 = .ok (.if_icmp .gt 33, 3) := by decide +kernel
theorem dX4_habits_21 : decode cX4_habits 21 = .ok (.aload_n 0, 1) := by decide +kernel
theorem dX4_habits_22 : decode cX4_habits 22 = .ok (.iload_n 1, 1) := by decide +kernel
theorem dX4_habits_23 : decode cX4_habits 23 = .ok (.aload_n 0, 1) := by decide +kernel
theorem dX4_habits_24 : decode cX4_habits 24 = .ok (.getfield 29, 3) := by decide +kernel
theorem dX4_habits_27 : decode cX4_habits 27 = .ok (.getfield 105, 3) := by decide +kernel
theorem dX4_habits_30 : decode cX4_habits 30 = .ok (.iload_n 1, 1) := by decide +kernel
theorem dX4_habits_31 : decode cX4_habits 31 = .ok (.iaload, 1) := by decide +kernel
theorem dX4_habits_32 : decode cX4_habits 32 = .ok (.iload_n 3, 1) := by decide +kernel
theorem dX4_habits_33 : decode cX4_habits 33 = .ok (.invokevirtual 191, 3) := by decide +kernel
theorem dX4_habits_36 : decode cX4_habits 36 = .ok (.ifCond .eq 9, 3) := by decide +kernel
theorem dX4_habits_39 : decode cX4_habits 39 = .ok (.iload_n 2, 1) := by decide +kernel
theorem dX4_habits_40 : decode cX4_habits 40 = .ok (.iconst 1, 1) := by decide +kernel
theorem dX4_habits_41 : decode cX4_habits 41 = .ok (.iload_n 3, 1) := by decide +kernel
theorem dX4_habits_42 : decode cX4_habits 42 = .ok (.ishl, 1) := by decide +kernel
theorem dX4_habits_43 : decode cX4_habits 43 = .ok (.ior, 1) := by decide +kernel
theorem dX4_habits_44 : decode cX4_habits 44 = .ok (.istore_n 2, 1) := by decide +kernel
theorem dX4_habits_45 : decode cX4_habits 45 = .ok (.iinc 3 1, 3) := by decide +kernel
theorem dX4_habits_48 : decode cX4_habits 48 = .ok (.goto (-33), 3) := by decide +kernel
theorem dX4_habits_51 : decode cX4_habits 51 = .ok (.iload_n 2, 1) := by decide +kernel
theorem dX4_habits_52 : decode cX4_habits 52 = .ok (.ireturn, 1) := by decide +kernel
theorem dX4_foxes_0 : decode cX4_foxes 0 = .ok (.aload_n 0, 1) := by decide +kernel
theorem dX4_foxes_1 : decode cX4_foxes 1 = .ok (.iload_n 1, 1) := by decide +kernel
theorem dX4_foxes_2 : decode cX4_foxes 2 = .ok (.invokevirtual 102, 3) := by decide +kernel
theorem dX4_foxes_5 : decode cX4_foxes 5 = .ok (.ifCond .ne 6, 3) := by decide +kernel
theorem dX4_foxes_8 : decode cX4_foxes 8 = .ok (.bipush (-2), 2) := by decide +kernel
theorem dX4_foxes_10 : decode cX4_foxes 10 = .ok (.ireturn, 1) := by decide +kernel
theorem dX4_foxes_11 : decode cX4_foxes 11 = .ok (.iload_n 2, 1) := by decide +kernel
theorem dX4_foxes_12 : decode cX4_foxes 12 = .ok (.ifCond .lt 30, 3) := by decide +kernel
theorem dX4_foxes_15 : decode cX4_foxes 15 = .ok (.iload_n 2, 1) := by decide +kernel
theorem dX4_foxes_16 : decode cX4_foxes 16 = .ok (.bipush 6, 2) := by decide +kernel
theorem dX4_foxes_18 : decode cX4_foxes 18 = .ok (.if_icmp .gt 24, 3) := by decide +kernel
theorem dX4_foxes_21 : decode cX4_foxes 21 = .ok (.iload_n 3, 1) := by decide +kernel
theorem dX4_foxes_22 : decode cX4_foxes 22 = .ok (.ifCond .lt 20, 3) := by decide +kernel
theorem dX4_foxes_25 : decode cX4_foxes 25 = .ok (.iload_n 3, 1) := by decide +kernel
theorem dX4_foxes_26 : decode cX4_foxes 26 = .ok (.bipush 10, 2) := by decide +kernel
theorem dX4_foxes_28 : decode cX4_foxes 28 = .ok (.if_icmp .gt 14, 3) := by decide +kernel
theorem dX4_foxes_31 : decode cX4_foxes 31 = .ok (.iload 4, 2) := by decide +kernel
theorem dX4_foxes_33 : decode cX4_foxes 33 = .ok (.ifCond .lt 9, 3) := by decide +kernel
theorem dX4_foxes_36 : decode cX4_foxes 36 = .ok (.iload 4, 2) := by decide +kernel
theorem dX4_foxes_38 : decode cX4_foxes 38 = .ok (.iconst 1, 1) := by decide +kernel
theorem dX4_foxes_39 : decode cX4_foxes 39 = .ok (.if_icmp .le 6, 3) := by decide +kernel
theorem dX4_foxes_42 : decode cX4_foxes 42 = .ok (.bipush (-3), 2) := by decide +kernel
theorem dX4_foxes_44 : decode cX4_foxes 44 = .ok (.ireturn, 1) := by decide +kernel
theorem dX4_foxes_45 : decode cX4_foxes 45 = .ok (.aload_n 0, 1) := by decide +kernel
theorem dX4_foxes_46 : decode cX4_foxes 46 = .ok (.iload_n 1, 1) := by decide +kernel
theorem dX4_foxes_47 : decode cX4_foxes 47 = .ok (.iload_n 2, 1) := by decide +kernel
theorem dX4_foxes_48 : decode cX4_foxes 48 = .ok (.invokevirtual 195, 3) := by decide +kernel
theorem dX4_foxes_51 : decode cX4_foxes 51 = .ok (.istore 5, 2) := by decide +kernel
theorem dX4_foxes_53 : decode cX4_foxes 53 = .ok (.iload 5, 2) := by decide +kernel
theorem dX4_foxes_55 : decode cX4_foxes 55 = .ok (.iconst (-1), 1) := by decide +kernel
theorem dX4_foxes_56 : decode cX4_foxes 56 = .ok (.if_icmp .ne 7, 3) := by decide +kernel
theorem dX4_foxes_59 : decode cX4_foxes 59 = .ok (.iconst 0, 1) := by decide +kernel
theorem dX4_foxes_60 : decode cX4_foxes 60 = .ok (.goto 12, 3) := by decide +kernel
theorem dX4_foxes_63 : decode cX4_foxes 63 = .ok (.bipush 10, 2) := by decide +kernel
theorem dX4_foxes_65 : decode cX4_foxes 65 = .ok (.iload_n 3, 1) := by decide +kernel
theorem dX4_foxes_66 : decode cX4_foxes 66 = .ok (.isub, 1) := by decide +kernel
theorem dX4_foxes_67 : decode cX4_foxes 67 = .ok (.iload 5, 2) := by decide +kernel
theorem dX4_foxes_69 : decode cX4_foxes 69 = .ok (.invokestatic 198, 3) := by decide +kernel
theorem dX4_foxes_72 : decode cX4_foxes 72 = .ok (.istore 6, 2) := by decide +kernel
theorem dX4_foxes_74 : decode cX4_foxes 74 = .ok (.iload 5, 2) := by decide +kernel
theorem dX4_foxes_76 : decode cX4_foxes 76 = .ok (.iconst (-1), 1) := by decide +kernel
theorem dX4_foxes_77 : decode cX4_foxes 77 = .ok (.if_icmp .ne 7, 3) := by decide +kernel
theorem dX4_foxes_80 : decode cX4_foxes 80 = .ok (.iconst 1, 1) := by decide +kernel
theorem dX4_foxes_81 : decode cX4_foxes 81 = .ok (.goto 10, 3) := by decide +kernel
theorem dX4_foxes_84 : decode cX4_foxes 84 = .ok (.bipush 10, 2) := by decide +kernel
theorem dX4_foxes_86 : decode cX4_foxes 86 = .ok (.iload 5, 2) := by decide +kernel
theorem dX4_foxes_88 : decode cX4_foxes 88 = .ok (.invokestatic 198, 3) := by decide +kernel
theorem dX4_foxes_91 : decode cX4_foxes 91 = .ok (.istore 7, 2) := by decide +kernel
theorem dX4_foxes_93 : decode cX4_foxes 93 = .ok (.iconst 1, 1) := by decide +kernel
theorem dX4_foxes_94 : decode cX4_foxes 94 = .ok (.iload 6, 2) := by decide +kernel
theorem dX4_foxes_96 : decode cX4_foxes 96 = .ok (.iload 7, 2) := by decide +kernel
theorem dX4_foxes_98 : decode cX4_foxes 98 = .ok (.invokestatic 201, 3) := by decide +kernel
theorem dX4_foxes_101 : decode cX4_foxes 101 = .ok (.invokestatic 204, 3) := by decide +kernel
theorem dX4_foxes_104 : decode cX4_foxes 104 = .ok (.istore 8, 2) := by decide +kernel
theorem dX4_foxes_106 : decode cX4_foxes 106 = .ok (.iload 4, 2) := by decide +kernel
theorem dX4_foxes_108 : decode cX4_foxes 108 = .ok (.ifCond .ne 11, 3) := by decide +kernel
theorem dX4_foxes_111 : decode cX4_foxes 111 = .ok (.iload 6, 2) := by decide +kernel
theorem dX4_foxes_113 : decode cX4_foxes 113 = .ok (.iload 8, 2) := by decide +kernel
theorem dX4_foxes_115 : decode cX4_foxes 115 = .ok (.idiv, 1) := by decide +kernel
theorem dX4_foxes_116 : decode cX4_foxes 116 = .ok (.goto 8, 3) := by decide +kernel
theorem dX4_foxes_119 : decode cX4_foxes 119 = .ok (.iload 7, 2) := by decide +kernel
theorem dX4_foxes_121 : decode cX4_foxes 121 = .ok (.iload 8, 2) := by decide +kernel
theorem dX4_foxes_123 : decode cX4_foxes 123 = .ok (.idiv, 1) := by decide +kernel
theorem dX4_foxes_124 : decode cX4_foxes 124 = .ok (.ireturn, 1) := by decide +kernel
theorem dX4_count_0 : decode cX4_count 0 = .ok (.iload_n 1, 1) := by decide +kernel
theorem dX4_count_1 : decode cX4_count 1 = .ok (.tableswitch 186 0 12 #[67, 75, 83, 91, 99, 107, 115, 127, 138, 149, 165, 173, 178], 67) := by decide +kernel
theorem dX4_count_68 : decode cX4_count 68 = .ok (.aload_n 0, 1) := by decide +kernel
theorem dX4_count_69 : decode cX4_count 69 = .ok (.getfield 19, 3) := by decide +kernel
theorem dX4_count_72 : decode cX4_count 72 = .ok (.getfield 127, 3) := by decide +kernel
theorem dX4_count_75 : decode cX4_count 75 = .ok (.ireturn, 1) := by decide +kernel
theorem dX4_count_76 : decode cX4_count 76 = .ok (.aload_n 0, 1) := by decide +kernel
theorem dX4_count_77 : decode cX4_count 77 = .ok (.getfield 19, 3) := by decide +kernel
theorem dX4_count_80 : decode cX4_count 80 = .ok (.getfield 177, 3) := by decide +kernel
theorem dX4_count_83 : decode cX4_count 83 = .ok (.ireturn, 1) := by decide +kernel
theorem dX4_count_84 : decode cX4_count 84 = .ok (.aload_n 0, 1) := by decide +kernel
theorem dX4_count_85 : decode cX4_count 85 = .ok (.getfield 29, 3) := by decide +kernel
theorem dX4_count_88 : decode cX4_count 88 = .ok (.getfield 134, 3) := by decide +kernel
theorem dX4_count_91 : decode cX4_count 91 = .ok (.ireturn, 1) := by decide +kernel
theorem dX4_count_92 : decode cX4_count 92 = .ok (.aload_n 0, 1) := by decide +kernel
theorem dX4_count_93 : decode cX4_count 93 = .ok (.getfield 29, 3) := by decide +kernel
theorem dX4_count_96 : decode cX4_count 96 = .ok (.invokevirtual 143, 3) := by decide +kernel
theorem dX4_count_99 : decode cX4_count 99 = .ok (.ireturn, 1) := by decide +kernel
theorem dX4_count_100 : decode cX4_count 100 = .ok (.aload_n 0, 1) := by decide +kernel
theorem dX4_count_101 : decode cX4_count 101 = .ok (.getfield 29, 3) := by decide +kernel
theorem dX4_count_104 : decode cX4_count 104 = .ok (.getfield 151, 3) := by decide +kernel
theorem dX4_count_107 : decode cX4_count 107 = .ok (.ireturn, 1) := by decide +kernel
theorem dX4_count_108 : decode cX4_count 108 = .ok (.aload_n 0, 1) := by decide +kernel
theorem dX4_count_109 : decode cX4_count 109 = .ok (.getfield 29, 3) := by decide +kernel
theorem dX4_count_112 : decode cX4_count 112 = .ok (.getfield 154, 3) := by decide +kernel
theorem dX4_count_115 : decode cX4_count 115 = .ok (.ireturn, 1) := by decide +kernel
theorem dX4_count_116 : decode cX4_count 116 = .ok (.aload_n 0, 1) := by decide +kernel
theorem dX4_count_117 : decode cX4_count 117 = .ok (.getfield 29, 3) := by decide +kernel
theorem dX4_count_120 : decode cX4_count 120 = .ok (.getfield 157, 3) := by decide +kernel
theorem dX4_count_123 : decode cX4_count 123 = .ok (.sipush 9999, 3) := by decide +kernel
theorem dX4_count_126 : decode cX4_count 126 = .ok (.iadd, 1) := by decide +kernel
theorem dX4_count_127 : decode cX4_count 127 = .ok (.ireturn, 1) := by decide +kernel
theorem dX4_count_128 : decode cX4_count 128 = .ok (.aload_n 0, 1) := by decide +kernel
theorem dX4_count_129 : decode cX4_count 129 = .ok (.getfield 29, 3) := by decide +kernel
theorem dX4_count_132 : decode cX4_count 132 = .ok (.getfield 114, 3) := by decide +kernel
theorem dX4_count_135 : decode cX4_count 135 = .ok (.invokestatic 209, 3) := by decide +kernel
theorem dX4_count_138 : decode cX4_count 138 = .ok (.ireturn, 1) := by decide +kernel
theorem dX4_count_139 : decode cX4_count 139 = .ok (.aload_n 0, 1) := by decide +kernel
theorem dX4_count_140 : decode cX4_count 140 = .ok (.getfield 29, 3) := by decide +kernel
theorem dX4_count_143 : decode cX4_count 143 = .ok (.getfield 117, 3) := by decide +kernel
theorem dX4_count_146 : decode cX4_count 146 = .ok (.invokestatic 209, 3) := by decide +kernel
theorem dX4_count_149 : decode cX4_count 149 = .ok (.ireturn, 1) := by decide +kernel
theorem dX4_count_150 : decode cX4_count 150 = .ok (.aload_n 0, 1) := by decide +kernel
theorem dX4_count_151 : decode cX4_count 151 = .ok (.getfield 29, 3) := by decide +kernel
theorem dX4_count_154 : decode cX4_count 154 = .ok (.getfield 147, 3) := by decide +kernel
theorem dX4_count_157 : decode cX4_count 157 = .ok (.ifCond .eq 7, 3) := by decide +kernel
theorem dX4_count_160 : decode cX4_count 160 = .ok (.iconst 1, 1) := by decide +kernel
theorem dX4_count_161 : decode cX4_count 161 = .ok (.goto 4, 3) := by decide +kernel
theorem dX4_count_164 : decode cX4_count 164 = .ok (.iconst 0, 1) := by decide +kernel
theorem dX4_count_165 : decode cX4_count 165 = .ok (.ireturn, 1) := by decide +kernel
theorem dX4_count_166 : decode cX4_count 166 = .ok (.aload_n 0, 1) := by decide +kernel
theorem dX4_count_167 : decode cX4_count 167 = .ok (.getfield 50, 3) := by decide +kernel
theorem dX4_count_170 : decode cX4_count 170 = .ok (.getfield 77, 3) := by decide +kernel
theorem dX4_count_173 : decode cX4_count 173 = .ok (.ireturn, 1) := by decide +kernel
theorem dX4_count_174 : decode cX4_count 174 = .ok (.aload_n 0, 1) := by decide +kernel
theorem dX4_count_175 : decode cX4_count 175 = .ok (.getfield 80, 3) := by decide +kernel
theorem dX4_count_178 : decode cX4_count 178 = .ok (.ireturn, 1) := by decide +kernel
theorem dX4_count_179 : decode cX4_count 179 = .ok (.aload_n 0, 1) := by decide +kernel
theorem dX4_count_180 : decode cX4_count 180 = .ok (.getfield 10, 3) := by decide +kernel
theorem dX4_count_183 : decode cX4_count 183 = .ok (.getfield 58, 3) := by decide +kernel
theorem dX4_count_186 : decode cX4_count 186 = .ok (.ireturn, 1) := by decide +kernel
theorem dX4_count_187 : decode cX4_count 187 = .ok (.bipush (-3), 2) := by decide +kernel
theorem dX4_count_189 : decode cX4_count 189 = .ok (.ireturn, 1) := by decide +kernel
theorem dX4_isPlace_0 : decode cX4_isPlace 0 = .ok (.iload_n 1, 1) := by decide +kernel
theorem dX4_isPlace_1 : decode cX4_isPlace 1 = .ok (.ifCond .lt 18, 3) := by decide +kernel
theorem dX4_isPlace_4 : decode cX4_isPlace 4 = .ok (.iload_n 1, 1) := by decide +kernel
theorem dX4_isPlace_5 : decode cX4_isPlace 5 = .ok (.aload_n 0, 1) := by decide +kernel
theorem dX4_isPlace_6 : decode cX4_isPlace 6 = .ok (.getfield 19, 3) := by decide +kernel
theorem dX4_isPlace_9 : decode cX4_isPlace 9 = .ok (.getfield 127, 3) := by decide +kernel
theorem dX4_isPlace_12 : decode cX4_isPlace 12 = .ok (.if_icmp .ge 7, 3) := by decide +kernel
theorem dX4_isPlace_15 : decode cX4_isPlace 15 = .ok (.iconst 1, 1) := by decide +kernel
theorem dX4_isPlace_16 : decode cX4_isPlace 16 = .ok (.goto 4, 3) := by decide +kernel
theorem dX4_isPlace_19 : decode cX4_isPlace 19 = .ok (.iconst 0, 1) := by decide +kernel
theorem dX4_isPlace_20 : decode cX4_isPlace 20 = .ok (.ireturn, 1) := by decide +kernel
theorem dX4_isHen_0 : decode cX4_isHen 0 = .ok (.iload_n 1, 1) := by decide +kernel
theorem dX4_isHen_1 : decode cX4_isHen 1 = .ok (.ifCond .lt 18, 3) := by decide +kernel
theorem dX4_isHen_4 : decode cX4_isHen 4 = .ok (.iload_n 1, 1) := by decide +kernel
theorem dX4_isHen_5 : decode cX4_isHen 5 = .ok (.aload_n 0, 1) := by decide +kernel
theorem dX4_isHen_6 : decode cX4_isHen 6 = .ok (.getfield 19, 3) := by decide +kernel
theorem dX4_isHen_9 : decode cX4_isHen 9 = .ok (.getfield 177, 3) := by decide +kernel
theorem dX4_isHen_12 : decode cX4_isHen 12 = .ok (.if_icmp .ge 7, 3) := by decide +kernel
theorem dX4_isHen_15 : decode cX4_isHen 15 = .ok (.iconst 1, 1) := by decide +kernel
theorem dX4_isHen_16 : decode cX4_isHen 16 = .ok (.goto 4, 3) := by decide +kernel
theorem dX4_isHen_19 : decode cX4_isHen 19 = .ok (.iconst 0, 1) := by decide +kernel
theorem dX4_isHen_20 : decode cX4_isHen 20 = .ok (.ireturn, 1) := by decide +kernel
theorem dX4_isUnder_0 : decode cX4_isUnder 0 = .ok (.iload_n 1, 1) := by decide +kernel
theorem dX4_isUnder_1 : decode cX4_isUnder 1 = .ok (.ifCond .ne 5, 3) := by decide +kernel
theorem dX4_isUnder_4 : decode cX4_isUnder 4 = .ok (.iconst 1, 1) := by decide +kernel
theorem dX4_isUnder_5 : decode cX4_isUnder 5 = .ok (.ireturn, 1) := by decide +kernel
theorem dX4_isUnder_6 : decode cX4_isUnder 6 = .ok (.iload_n 1, 1) := by decide +kernel
theorem dX4_isUnder_7 : decode cX4_isUnder 7 = .ok (.iconst 1, 1) := by decide +kernel
theorem dX4_isUnder_8 : decode cX4_isUnder 8 = .ok (.if_icmp .ne 14, 3) := by decide +kernel
theorem dX4_isUnder_11 : decode cX4_isUnder 11 = .ok (.iload_n 0, 1) := by decide +kernel
theorem dX4_isUnder_12 : decode cX4_isUnder 12 = .ok (.iconst 3, 1) := by decide +kernel
theorem dX4_isUnder_13 : decode cX4_isUnder 13 = .ok (.if_icmp .eq 7, 3) := by decide +kernel
theorem dX4_isUnder_16 : decode cX4_isUnder 16 = .ok (.iconst 1, 1) := by decide +kernel
theorem dX4_isUnder_17 : decode cX4_isUnder 17 = .ok (.goto 4, 3) := by decide +kernel
theorem dX4_isUnder_20 : decode cX4_isUnder 20 = .ok (.iconst 0, 1) := by decide +kernel
theorem dX4_isUnder_21 : decode cX4_isUnder 21 = .ok (.ireturn, 1) := by decide +kernel
theorem dX4_isUnder_22 : decode cX4_isUnder 22 = .ok (.iload_n 1, 1) := by decide +kernel
theorem dX4_isUnder_23 : decode cX4_isUnder 23 = .ok (.iload_n 0, 1) := by decide +kernel
theorem dX4_isUnder_24 : decode cX4_isUnder 24 = .ok (.iconst 1, 1) := by decide +kernel
theorem dX4_isUnder_25 : decode cX4_isUnder 25 = .ok (.iadd, 1) := by decide +kernel
theorem dX4_isUnder_26 : decode cX4_isUnder 26 = .ok (.if_icmp .ne 7, 3) := by decide +kernel
theorem dX4_isUnder_29 : decode cX4_isUnder 29 = .ok (.iconst 1, 1) := by decide +kernel
theorem dX4_isUnder_30 : decode cX4_isUnder 30 = .ok (.goto 4, 3) := by decide +kernel
theorem dX4_isUnder_33 : decode cX4_isUnder 33 = .ok (.iconst 0, 1) := by decide +kernel
theorem dX4_isUnder_34 : decode cX4_isUnder 34 = .ok (.ireturn, 1) := by decide +kernel
theorem dX4_remember_0 : decode cX4_remember 0 = .ok (.aload_n 0, 1) := by decide +kernel
theorem dX4_remember_1 : decode cX4_remember 1 = .ok (.getfield 80, 3) := by decide +kernel
theorem dX4_remember_4 : decode cX4_remember 4 = .ok (.bipush 8, 2) := by decide +kernel
theorem dX4_remember_6 : decode cX4_remember 6 = .ok (.if_icmp .lt 7, 3) := by decide +kernel
theorem dX4_remember_9 : decode cX4_remember 9 = .ok (.aload_n 0, 1) := by decide +kernel
theorem dX4_remember_10 : decode cX4_remember 10 = .ok (.invokevirtual 213, 3) := by decide +kernel
theorem dX4_remember_13 : decode cX4_remember 13 = .ok (.aload_n 0, 1) := by decide +kernel
theorem dX4_remember_14 : decode cX4_remember 14 = .ok (.getfield 36, 3) := by decide +kernel
theorem dX4_remember_17 : decode cX4_remember 17 = .ok (.aload_n 0, 1) := by decide +kernel
theorem dX4_remember_18 : decode cX4_remember 18 = .ok (.getfield 80, 3) := by decide +kernel
theorem dX4_remember_21 : decode cX4_remember 21 = .ok (.aaload, 1) := by decide +kernel
theorem dX4_remember_22 : decode cX4_remember 22 = .ok (.aload_n 0, 1) := by decide +kernel
theorem dX4_remember_23 : decode cX4_remember 23 = .ok (.getfield 29, 3) := by decide +kernel
theorem dX4_remember_26 : decode cX4_remember 26 = .ok (.invokevirtual 163, 3) := by decide +kernel
theorem dX4_remember_29 : decode cX4_remember 29 = .ok (.aload_n 0, 1) := by decide +kernel
theorem dX4_remember_30 : decode cX4_remember 30 = .ok (.dup, 1) := by decide +kernel
theorem dX4_remember_31 : decode cX4_remember 31 = .ok (.getfield 80, 3) := by decide +kernel
theorem dX4_remember_34 : decode cX4_remember 34 = .ok (.iconst 1, 1) := by decide +kernel
theorem dX4_remember_35 : decode cX4_remember 35 = .ok (.iadd, 1) := by decide +kernel
theorem dX4_remember_36 : decode cX4_remember 36 = .ok (.putfield 80, 3) := by decide +kernel
theorem dX4_remember_39 : decode cX4_remember 39 = .ok (.return_, 1) := by decide +kernel
theorem dX4_dropOldest_0 : decode cX4_dropOldest 0 = .ok (.aload_n 0, 1) := by decide +kernel
theorem dX4_dropOldest_1 : decode cX4_dropOldest 1 = .ok (.getfield 36, 3) := by decide +kernel
theorem dX4_dropOldest_4 : decode cX4_dropOldest 4 = .ok (.iconst 0, 1) := by decide +kernel
theorem dX4_dropOldest_5 : decode cX4_dropOldest 5 = .ok (.aaload, 1) := by decide +kernel
theorem dX4_dropOldest_6 : decode cX4_dropOldest 6 = .ok (.astore_n 1, 1) := by decide +kernel
theorem dX4_dropOldest_7 : decode cX4_dropOldest 7 = .ok (.iconst 1, 1) := by decide +kernel
theorem dX4_dropOldest_8 : decode cX4_dropOldest 8 = .ok (.istore_n 2, 1) := by decide +kernel
theorem dX4_dropOldest_9 : decode cX4_dropOldest 9 = .ok (.iload_n 2, 1) := by decide +kernel
theorem dX4_dropOldest_10 : decode cX4_dropOldest 10 = .ok (.bipush 8, 2) := by decide +kernel
theorem dX4_dropOldest_12 : decode cX4_dropOldest 12 = .ok (.if_icmp .ge 23, 3) := by decide +kernel
theorem dX4_dropOldest_15 : decode cX4_dropOldest 15 = .ok (.aload_n 0, 1) := by decide +kernel
theorem dX4_dropOldest_16 : decode cX4_dropOldest 16 = .ok (.getfield 36, 3) := by decide +kernel
theorem dX4_dropOldest_19 : decode cX4_dropOldest 19 = .ok (.iload_n 2, 1) := by decide +kernel
theorem dX4_dropOldest_20 : decode cX4_dropOldest 20 = .ok (.iconst 1, 1) := by decide +kernel
theorem dX4_dropOldest_21 : decode cX4_dropOldest 21 = .ok (.isub, 1) := by decide +kernel
theorem dX4_dropOldest_22 : decode cX4_dropOldest 22 = .ok (.aload_n 0, 1) := by decide +kernel
theorem dX4_dropOldest_23 : decode cX4_dropOldest 23 = .ok (.getfield 36, 3) := by decide +kernel
theorem dX4_dropOldest_26 : decode cX4_dropOldest 26 = .ok (.iload_n 2, 1) := by decide +kernel
theorem dX4_dropOldest_27 : decode cX4_dropOldest 27 = .ok (.aaload, 1) := by decide +kernel
theorem dX4_dropOldest_28 : decode cX4_dropOldest 28 = .ok (.aastore, 1) := by decide +kernel
theorem dX4_dropOldest_29 : decode cX4_dropOldest 29 = .ok (.iinc 2 1, 3) := by decide +kernel
theorem dX4_dropOldest_32 : decode cX4_dropOldest 32 = .ok (.goto (-23), 3) := by decide +kernel
theorem dX4_dropOldest_35 : decode cX4_dropOldest 35 = .ok (.aload_n 0, 1) := by decide +kernel
theorem dX4_dropOldest_36 : decode cX4_dropOldest 36 = .ok (.getfield 36, 3) := by decide +kernel
theorem dX4_dropOldest_39 : decode cX4_dropOldest 39 = .ok (.bipush 7, 2) := by decide +kernel
theorem dX4_dropOldest_41 : decode cX4_dropOldest 41 = .ok (.aload_n 1, 1) := by decide +kernel
theorem dX4_dropOldest_42 : decode cX4_dropOldest 42 = .ok (.aastore, 1) := by decide +kernel
theorem dX4_dropOldest_43 : decode cX4_dropOldest 43 = .ok (.aload_n 0, 1) := by decide +kernel
theorem dX4_dropOldest_44 : decode cX4_dropOldest 44 = .ok (.bipush 7, 2) := by decide +kernel
theorem dX4_dropOldest_46 : decode cX4_dropOldest 46 = .ok (.putfield 80, 3) := by decide +kernel
theorem dX4_dropOldest_49 : decode cX4_dropOldest 49 = .ok (.return_, 1) := by decide +kernel
theorem dX4_foretell_0 : decode cX4_foretell 0 = .ok (.aload_n 0, 1) := by decide +kernel
theorem dX4_foretell_1 : decode cX4_foretell 1 = .ok (.getfield 33, 3) := by decide +kernel
theorem dX4_foretell_4 : decode cX4_foretell 4 = .ok (.aload_n 0, 1) := by decide +kernel
theorem dX4_foretell_5 : decode cX4_foretell 5 = .ok (.getfield 29, 3) := by decide +kernel
theorem dX4_foretell_8 : decode cX4_foretell 8 = .ok (.invokevirtual 163, 3) := by decide +kernel
theorem dX4_foretell_11 : decode cX4_foretell 11 = .ok (.iconst 0, 1) := by decide +kernel
theorem dX4_foretell_12 : decode cX4_foretell 12 = .ok (.istore_n 2, 1) := by decide +kernel
theorem dX4_foretell_13 : decode cX4_foretell 13 = .ok (.iload_n 2, 1) := by decide +kernel
theorem dX4_foretell_14 : decode cX4_foretell 14 = .ok (.iload_n 1, 1) := by decide +kernel
theorem dX4_foretell_15 : decode cX4_foretell 15 = .ok (.if_icmp .ge 20, 3) := by decide +kernel
theorem dX4_foretell_18 : decode cX4_foretell 18 = .ok (.aload_n 0, 1) := by decide +kernel
theorem dX4_foretell_19 : decode cX4_foretell 19 = .ok (.getfield 33, 3) := by decide +kernel
theorem dX4_foretell_22 : decode cX4_foretell 22 = .ok (.aload_n 0, 1) := by decide +kernel
theorem dX4_foretell_23 : decode cX4_foretell 23 = .ok (.getfield 19, 3) := by decide +kernel
theorem dX4_foretell_26 : decode cX4_foretell 26 = .ok (.invokevirtual 140, 3) := by decide +kernel
theorem dX4_foretell_29 : decode cX4_foretell 29 = .ok (.iinc 2 1, 3) := by decide +kernel
theorem dX4_foretell_32 : decode cX4_foretell 32 = .ok (.goto (-19), 3) := by decide +kernel
theorem dX4_foretell_35 : decode cX4_foretell 35 = .ok (.return_, 1) := by decide +kernel
theorem dX4_rightsForetold_0 : decode cX4_rightsForetold 0 = .ok (.aload_n 0, 1) := by decide +kernel
theorem dX4_rightsForetold_1 : decode cX4_rightsForetold 1 = .ok (.getfield 33, 3) := by decide +kernel
theorem dX4_rightsForetold_4 : decode cX4_rightsForetold 4 = .ok (.getfield 114, 3) := by decide +kernel
theorem dX4_rightsForetold_7 : decode cX4_rightsForetold 7 = .ok (.iload_n 1, 1) := by decide +kernel
theorem dX4_rightsForetold_8 : decode cX4_rightsForetold 8 = .ok (.iaload, 1) := by decide +kernel
theorem dX4_rightsForetold_9 : decode cX4_rightsForetold 9 = .ok (.aload_n 0, 1) := by decide +kernel
theorem dX4_rightsForetold_10 : decode cX4_rightsForetold 10 = .ok (.getfield 29, 3) := by decide +kernel
theorem dX4_rightsForetold_13 : decode cX4_rightsForetold 13 = .ok (.getfield 114, 3) := by decide +kernel
theorem dX4_rightsForetold_16 : decode cX4_rightsForetold 16 = .ok (.iload_n 1, 1) := by decide +kernel
theorem dX4_rightsForetold_17 : decode cX4_rightsForetold 17 = .ok (.iaload, 1) := by decide +kernel
theorem dX4_rightsForetold_18 : decode cX4_rightsForetold 18 = .ok (.isub, 1) := by decide +kernel
theorem dX4_rightsForetold_19 : decode cX4_rightsForetold 19 = .ok (.ireturn, 1) := by decide +kernel
theorem dX4_tallyHits_0 : decode cX4_tallyHits 0 = .ok (.aload_n 0, 1) := by decide +kernel
theorem dX4_tallyHits_1 : decode cX4_tallyHits 1 = .ok (.getfield 54, 3) := by decide +kernel
theorem dX4_tallyHits_4 : decode cX4_tallyHits 4 = .ok (.iconst 0, 1) := by decide +kernel
theorem dX4_tallyHits_5 : decode cX4_tallyHits 5 = .ok (.invokestatic 216, 3) := by decide +kernel
theorem dX4_tallyHits_8 : decode cX4_tallyHits 8 = .ok (.aload_n 0, 1) := by decide +kernel
theorem dX4_tallyHits_9 : decode cX4_tallyHits 9 = .ok (.getfield 33, 3) := by decide +kernel
theorem dX4_tallyHits_12 : decode cX4_tallyHits 12 = .ok (.aload_n 0, 1) := by decide +kernel
theorem dX4_tallyHits_13 : decode cX4_tallyHits 13 = .ok (.getfield 29, 3) := by decide +kernel
theorem dX4_tallyHits_16 : decode cX4_tallyHits 16 = .ok (.invokevirtual 163, 3) := by decide +kernel
theorem dX4_tallyHits_19 : decode cX4_tallyHits 19 = .ok (.iconst 0, 1) := by decide +kernel
theorem dX4_tallyHits_20 : decode cX4_tallyHits 20 = .ok (.istore_n 2, 1) := by decide +kernel
theorem dX4_tallyHits_21 : decode cX4_tallyHits 21 = .ok (.iload_n 2, 1) := by decide +kernel
theorem dX4_tallyHits_22 : decode cX4_tallyHits 22 = .ok (.iload_n 1, 1) := by decide +kernel
theorem dX4_tallyHits_23 : decode cX4_tallyHits 23 = .ok (.if_icmp .ge 45, 3) := by decide +kernel
theorem dX4_tallyHits_26 : decode cX4_tallyHits 26 = .ok (.aload_n 0, 1) := by decide +kernel
theorem dX4_tallyHits_27 : decode cX4_tallyHits 27 = .ok (.getfield 19, 3) := by decide +kernel
theorem dX4_tallyHits_30 : decode cX4_tallyHits 30 = .ok (.aload_n 0, 1) := by decide +kernel
theorem dX4_tallyHits_31 : decode cX4_tallyHits 31 = .ok (.getfield 33, 3) := by decide +kernel
theorem dX4_tallyHits_34 : decode cX4_tallyHits 34 = .ok (.getfield 134, 3) := by decide +kernel
theorem dX4_tallyHits_37 : decode cX4_tallyHits 37 = .ok (.invokevirtual 222, 3) := by decide +kernel
theorem dX4_tallyHits_40 : decode cX4_tallyHits 40 = .ok (.istore_n 3, 1) := by decide +kernel
theorem dX4_tallyHits_41 : decode cX4_tallyHits 41 = .ok (.aload_n 0, 1) := by decide +kernel
theorem dX4_tallyHits_42 : decode cX4_tallyHits 42 = .ok (.getfield 33, 3) := by decide +kernel
theorem dX4_tallyHits_45 : decode cX4_tallyHits 45 = .ok (.aload_n 0, 1) := by decide +kernel
theorem dX4_tallyHits_46 : decode cX4_tallyHits 46 = .ok (.getfield 19, 3) := by decide +kernel
theorem dX4_tallyHits_49 : decode cX4_tallyHits 49 = .ok (.invokevirtual 140, 3) := by decide +kernel
theorem dX4_tallyHits_52 : decode cX4_tallyHits 52 = .ok (.iload_n 3, 1) := by decide +kernel
theorem dX4_tallyHits_53 : decode cX4_tallyHits 53 = .ok (.iconst (-1), 1) := by decide +kernel
theorem dX4_tallyHits_54 : decode cX4_tallyHits 54 = .ok (.if_icmp .eq 8, 3) := by decide +kernel
theorem dX4_tallyHits_57 : decode cX4_tallyHits 57 = .ok (.aload_n 0, 1) := by decide +kernel
theorem dX4_tallyHits_58 : decode cX4_tallyHits 58 = .ok (.iload_n 3, 1) := by decide +kernel
theorem dX4_tallyHits_59 : decode cX4_tallyHits 59 = .ok (.invokevirtual 225, 3) := by decide +kernel
theorem dX4_tallyHits_62 : decode cX4_tallyHits 62 = .ok (.iinc 2 1, 3) := by decide +kernel
theorem dX4_tallyHits_65 : decode cX4_tallyHits 65 = .ok (.goto (-44), 3) := by decide +kernel
theorem dX4_tallyHits_68 : decode cX4_tallyHits 68 = .ok (.return_, 1) := by decide +kernel
theorem dX4_tallyEggs_0 : decode cX4_tallyEggs 0 = .ok (.iconst 0, 1) := by decide +kernel
theorem dX4_tallyEggs_1 : decode cX4_tallyEggs 1 = .ok (.istore_n 2, 1) := by decide +kernel
theorem dX4_tallyEggs_2 : decode cX4_tallyEggs 2 = .ok (.iload_n 2, 1) := by decide +kernel
theorem dX4_tallyEggs_3 : decode cX4_tallyEggs 3 = .ok (.aload_n 0, 1) := by decide +kernel
theorem dX4_tallyEggs_4 : decode cX4_tallyEggs 4 = .ok (.getfield 19, 3) := by decide +kernel
theorem dX4_tallyEggs_7 : decode cX4_tallyEggs 7 = .ok (.getfield 127, 3) := by decide +kernel
theorem dX4_tallyEggs_10 : decode cX4_tallyEggs 10 = .ok (.if_icmp .ge 36, 3) := by decide +kernel
theorem dX4_tallyEggs_13 : decode cX4_tallyEggs 13 = .ok (.aload_n 0, 1) := by decide +kernel
theorem dX4_tallyEggs_14 : decode cX4_tallyEggs 14 = .ok (.getfield 33, 3) := by decide +kernel
theorem dX4_tallyEggs_17 : decode cX4_tallyEggs 17 = .ok (.getfield 99, 3) := by decide +kernel
theorem dX4_tallyEggs_20 : decode cX4_tallyEggs 20 = .ok (.iload_n 2, 1) := by decide +kernel
theorem dX4_tallyEggs_21 : decode cX4_tallyEggs 21 = .ok (.iaload, 1) := by decide +kernel
theorem dX4_tallyEggs_22 : decode cX4_tallyEggs 22 = .ok (.iconst (-1), 1) := by decide +kernel
theorem dX4_tallyEggs_23 : decode cX4_tallyEggs 23 = .ok (.if_icmp .eq 17, 3) := by decide +kernel
theorem dX4_tallyEggs_26 : decode cX4_tallyEggs 26 = .ok (.aload_n 0, 1) := by decide +kernel
theorem dX4_tallyEggs_27 : decode cX4_tallyEggs 27 = .ok (.getfield 54, 3) := by decide +kernel
theorem dX4_tallyEggs_30 : decode cX4_tallyEggs 30 = .ok (.iload_n 2, 1) := by decide +kernel
theorem dX4_tallyEggs_31 : decode cX4_tallyEggs 31 = .ok (.iload_n 1, 1) := by decide +kernel
theorem dX4_tallyEggs_32 : decode cX4_tallyEggs 32 = .ok (.invokestatic 228, 3) := by decide +kernel
theorem dX4_tallyEggs_35 : decode cX4_tallyEggs 35 = .ok (.dup2, 1) := by decide +kernel
theorem dX4_tallyEggs_36 : decode cX4_tallyEggs 36 = .ok (.iaload, 1) := by decide +kernel
theorem dX4_tallyEggs_37 : decode cX4_tallyEggs 37 = .ok (.iconst 1, 1) := by decide +kernel
theorem dX4_tallyEggs_38 : decode cX4_tallyEggs 38 = .ok (.iadd, 1) := by decide +kernel
theorem dX4_tallyEggs_39 : decode cX4_tallyEggs 39 = .ok (.iastore, 1) := by decide +kernel
theorem dX4_tallyEggs_40 : decode cX4_tallyEggs 40 = .ok (.iinc 2 1, 3) := by decide +kernel
theorem dX4_tallyEggs_43 : decode cX4_tallyEggs 43 = .ok (.goto (-41), 3) := by decide +kernel
theorem dX4_tallyEggs_46 : decode cX4_tallyEggs 46 = .ok (.return_, 1) := by decide +kernel
theorem dX4_gainOfMove_0 : decode cX4_gainOfMove 0 = .ok (.aload_n 0, 1) := by decide +kernel
theorem dX4_gainOfMove_1 : decode cX4_gainOfMove 1 = .ok (.getfield 29, 3) := by decide +kernel
theorem dX4_gainOfMove_4 : decode cX4_gainOfMove 4 = .ok (.getfield 90, 3) := by decide +kernel
theorem dX4_gainOfMove_7 : decode cX4_gainOfMove 7 = .ok (.iload_n 1, 1) := by decide +kernel
theorem dX4_gainOfMove_8 : decode cX4_gainOfMove 8 = .ok (.iaload, 1) := by decide +kernel
theorem dX4_gainOfMove_9 : decode cX4_gainOfMove 9 = .ok (.istore_n 3, 1) := by decide +kernel
theorem dX4_gainOfMove_10 : decode cX4_gainOfMove 10 = .ok (.aload_n 0, 1) := by decide +kernel
theorem dX4_gainOfMove_11 : decode cX4_gainOfMove 11 = .ok (.getfield 29, 3) := by decide +kernel
theorem dX4_gainOfMove_14 : decode cX4_gainOfMove 14 = .ok (.getfield 90, 3) := by decide +kernel
theorem dX4_gainOfMove_17 : decode cX4_gainOfMove 17 = .ok (.iload_n 2, 1) := by decide +kernel
theorem dX4_gainOfMove_18 : decode cX4_gainOfMove 18 = .ok (.iaload, 1) := by decide +kernel
theorem dX4_gainOfMove_19 : decode cX4_gainOfMove 19 = .ok (.istore 4, 2) := by decide +kernel
theorem dX4_gainOfMove_21 : decode cX4_gainOfMove 21 = .ok (.aload_n 0, 1) := by decide +kernel
theorem dX4_gainOfMove_22 : decode cX4_gainOfMove 22 = .ok (.getfield 54, 3) := by decide +kernel
theorem dX4_gainOfMove_25 : decode cX4_gainOfMove 25 = .ok (.iload_n 1, 1) := by decide +kernel
theorem dX4_gainOfMove_26 : decode cX4_gainOfMove 26 = .ok (.iload 4, 2) := by decide +kernel
theorem dX4_gainOfMove_28 : decode cX4_gainOfMove 28 = .ok (.invokestatic 228, 3) := by decide +kernel
theorem dX4_gainOfMove_31 : decode cX4_gainOfMove 31 = .ok (.iaload, 1) := by decide +kernel
theorem dX4_gainOfMove_32 : decode cX4_gainOfMove 32 = .ok (.aload_n 0, 1) := by decide +kernel
theorem dX4_gainOfMove_33 : decode cX4_gainOfMove 33 = .ok (.getfield 54, 3) := by decide +kernel
theorem dX4_gainOfMove_36 : decode cX4_gainOfMove 36 = .ok (.iload_n 2, 1) := by decide +kernel
theorem dX4_gainOfMove_37 : decode cX4_gainOfMove 37 = .ok (.iload_n 3, 1) := by decide +kernel
theorem dX4_gainOfMove_38 : decode cX4_gainOfMove 38 = .ok (.invokestatic 228, 3) := by decide +kernel
theorem dX4_gainOfMove_41 : decode cX4_gainOfMove 41 = .ok (.iaload, 1) := by decide +kernel
theorem dX4_gainOfMove_42 : decode cX4_gainOfMove 42 = .ok (.iadd, 1) := by decide +kernel
theorem dX4_gainOfMove_43 : decode cX4_gainOfMove 43 = .ok (.aload_n 0, 1) := by decide +kernel
theorem dX4_gainOfMove_44 : decode cX4_gainOfMove 44 = .ok (.getfield 54, 3) := by decide +kernel
theorem dX4_gainOfMove_47 : decode cX4_gainOfMove 47 = .ok (.iload_n 1, 1) := by decide +kernel
theorem dX4_gainOfMove_48 : decode cX4_gainOfMove 48 = .ok (.iload_n 3, 1) := by decide +kernel
theorem dX4_gainOfMove_49 : decode cX4_gainOfMove 49 = .ok (.invokestatic 228, 3) := by decide +kernel
theorem dX4_gainOfMove_52 : decode cX4_gainOfMove 52 = .ok (.iaload, 1) := by decide +kernel
theorem dX4_gainOfMove_53 : decode cX4_gainOfMove 53 = .ok (.isub, 1) := by decide +kernel
theorem dX4_gainOfMove_54 : decode cX4_gainOfMove 54 = .ok (.aload_n 0, 1) := by decide +kernel
theorem dX4_gainOfMove_55 : decode cX4_gainOfMove 55 = .ok (.getfield 54, 3) := by decide +kernel
theorem dX4_gainOfMove_58 : decode cX4_gainOfMove 58 = .ok (.iload_n 2, 1) := by decide +kernel
theorem dX4_gainOfMove_59 : decode cX4_gainOfMove 59 = .ok (.iload 4, 2) := by decide +kernel
theorem dX4_gainOfMove_61 : decode cX4_gainOfMove 61 = .ok (.invokestatic 228, 3) := by decide +kernel
theorem dX4_gainOfMove_64 : decode cX4_gainOfMove 64 = .ok (.iaload, 1) := by decide +kernel
theorem dX4_gainOfMove_65 : decode cX4_gainOfMove 65 = .ok (.isub, 1) := by decide +kernel
theorem dX4_gainOfMove_66 : decode cX4_gainOfMove 66 = .ok (.ireturn, 1) := by decide +kernel
theorem dX4_hitIndex_0 : decode cX4_hitIndex 0 = .ok (.iload_n 0, 1) := by decide +kernel
theorem dX4_hitIndex_1 : decode cX4_hitIndex 1 = .ok (.bipush 8, 2) := by decide +kernel
theorem dX4_hitIndex_3 : decode cX4_hitIndex 3 = .ok (.imul, 1) := by decide +kernel
theorem dX4_hitIndex_4 : decode cX4_hitIndex 4 = .ok (.iload_n 1, 1) := by decide +kernel
theorem dX4_hitIndex_5 : decode cX4_hitIndex 5 = .ok (.iadd, 1) := by decide +kernel
theorem dX4_hitIndex_6 : decode cX4_hitIndex 6 = .ok (.ireturn, 1) := by decide +kernel
theorem dX4_wouldBeSeen_0 : decode cX4_wouldBeSeen 0 = .ok (.aload_n 0, 1) := by decide +kernel
theorem dX4_wouldBeSeen_1 : decode cX4_wouldBeSeen 1 = .ok (.getfield 50, 3) := by decide +kernel
theorem dX4_wouldBeSeen_4 : decode cX4_wouldBeSeen 4 = .ok (.iload_n 1, 1) := by decide +kernel
theorem dX4_wouldBeSeen_5 : decode cX4_wouldBeSeen 5 = .ok (.invokevirtual 231, 3) := by decide +kernel
theorem dX4_wouldBeSeen_8 : decode cX4_wouldBeSeen 8 = .ok (.istore 4, 2) := by decide +kernel
theorem dX4_wouldBeSeen_10 : decode cX4_wouldBeSeen 10 = .ok (.aload_n 0, 1) := by decide +kernel
theorem dX4_wouldBeSeen_11 : decode cX4_wouldBeSeen 11 = .ok (.getfield 33, 3) := by decide +kernel
theorem dX4_wouldBeSeen_14 : decode cX4_wouldBeSeen 14 = .ok (.aload_n 0, 1) := by decide +kernel
theorem dX4_wouldBeSeen_15 : decode cX4_wouldBeSeen 15 = .ok (.getfield 29, 3) := by decide +kernel
theorem dX4_wouldBeSeen_18 : decode cX4_wouldBeSeen 18 = .ok (.invokevirtual 163, 3) := by decide +kernel
theorem dX4_wouldBeSeen_21 : decode cX4_wouldBeSeen 21 = .ok (.aload_n 0, 1) := by decide +kernel
theorem dX4_wouldBeSeen_22 : decode cX4_wouldBeSeen 22 = .ok (.getfield 33, 3) := by decide +kernel
theorem dX4_wouldBeSeen_25 : decode cX4_wouldBeSeen 25 = .ok (.getfield 105, 3) := by decide +kernel
theorem dX4_wouldBeSeen_28 : decode cX4_wouldBeSeen 28 = .ok (.iload_n 1, 1) := by decide +kernel
theorem dX4_wouldBeSeen_29 : decode cX4_wouldBeSeen 29 = .ok (.iload_n 2, 1) := by decide +kernel
theorem dX4_wouldBeSeen_30 : decode cX4_wouldBeSeen 30 = .ok (.iastore, 1) := by decide +kernel
theorem dX4_wouldBeSeen_31 : decode cX4_wouldBeSeen 31 = .ok (.aload_n 0, 1) := by decide +kernel
theorem dX4_wouldBeSeen_32 : decode cX4_wouldBeSeen 32 = .ok (.getfield 33, 3) := by decide +kernel
theorem dX4_wouldBeSeen_35 : decode cX4_wouldBeSeen 35 = .ok (.getfield 108, 3) := by decide +kernel
theorem dX4_wouldBeSeen_38 : decode cX4_wouldBeSeen 38 = .ok (.iload_n 1, 1) := by decide +kernel
theorem dX4_wouldBeSeen_39 : decode cX4_wouldBeSeen 39 = .ok (.iload_n 3, 1) := by decide +kernel
theorem dX4_wouldBeSeen_40 : decode cX4_wouldBeSeen 40 = .ok (.iastore, 1) := by decide +kernel
theorem dX4_wouldBeSeen_41 : decode cX4_wouldBeSeen 41 = .ok (.iconst 1, 1) := by decide +kernel
theorem dX4_wouldBeSeen_42 : decode cX4_wouldBeSeen 42 = .ok (.istore 5, 2) := by decide +kernel
theorem dX4_wouldBeSeen_44 : decode cX4_wouldBeSeen 44 = .ok (.iload 5, 2) := by decide +kernel
theorem dX4_wouldBeSeen_46 : decode cX4_wouldBeSeen 46 = .ok (.iload 4, 2) := by decide +kernel
theorem dX4_wouldBeSeen_48 : decode cX4_wouldBeSeen 48 = .ok (.if_icmp .gt 43, 3) := by decide +kernel
theorem dX4_wouldBeSeen_51 : decode cX4_wouldBeSeen 51 = .ok (.aload_n 0, 1) := by decide +kernel
theorem dX4_wouldBeSeen_52 : decode cX4_wouldBeSeen 52 = .ok (.getfield 33, 3) := by decide +kernel
theorem dX4_wouldBeSeen_55 : decode cX4_wouldBeSeen 55 = .ok (.aload_n 0, 1) := by decide +kernel
theorem dX4_wouldBeSeen_56 : decode cX4_wouldBeSeen 56 = .ok (.getfield 19, 3) := by decide +kernel
theorem dX4_wouldBeSeen_59 : decode cX4_wouldBeSeen 59 = .ok (.invokevirtual 140, 3) := by decide +kernel
theorem dX4_wouldBeSeen_62 : decode cX4_wouldBeSeen 62 = .ok (.aload_n 0, 1) := by decide +kernel
theorem dX4_wouldBeSeen_63 : decode cX4_wouldBeSeen 63 = .ok (.getfield 50, 3) := by decide +kernel
theorem dX4_wouldBeSeen_66 : decode cX4_wouldBeSeen 66 = .ok (.iload_n 1, 1) := by decide +kernel
theorem dX4_wouldBeSeen_67 : decode cX4_wouldBeSeen 67 = .ok (.iload 5, 2) := by decide +kernel
theorem dX4_wouldBeSeen_69 : decode cX4_wouldBeSeen 69 = .ok (.aload_n 0, 1) := by decide +kernel
theorem dX4_wouldBeSeen_70 : decode cX4_wouldBeSeen 70 = .ok (.getfield 33, 3) := by decide +kernel
theorem dX4_wouldBeSeen_73 : decode cX4_wouldBeSeen 73 = .ok (.iload_n 1, 1) := by decide +kernel
theorem dX4_wouldBeSeen_74 : decode cX4_wouldBeSeen 74 = .ok (.invokevirtual 170, 3) := by decide +kernel
theorem dX4_wouldBeSeen_77 : decode cX4_wouldBeSeen 77 = .ok (.invokevirtual 234, 3) := by decide +kernel
theorem dX4_wouldBeSeen_80 : decode cX4_wouldBeSeen 80 = .ok (.ifCond .ne 5, 3) := by decide +kernel
theorem dX4_wouldBeSeen_83 : decode cX4_wouldBeSeen 83 = .ok (.iconst 0, 1) := by decide +kernel
theorem dX4_wouldBeSeen_84 : decode cX4_wouldBeSeen 84 = .ok (.ireturn, 1) := by decide +kernel
theorem dX4_wouldBeSeen_85 : decode cX4_wouldBeSeen 85 = .ok (.iinc 5 1, 3) := by decide +kernel
theorem dX4_wouldBeSeen_88 : decode cX4_wouldBeSeen 88 = .ok (.goto (-44), 3) := by decide +kernel
theorem dX4_wouldBeSeen_91 : decode cX4_wouldBeSeen 91 = .ok (.iconst 1, 1) := by decide +kernel
theorem dX4_wouldBeSeen_92 : decode cX4_wouldBeSeen 92 = .ok (.ireturn, 1) := by decide +kernel
theorem dX4_daysToFirstRight_0 : decode cX4_daysToFirstRight 0 = .ok (.aload_n 0, 1) := by decide +kernel
theorem dX4_daysToFirstRight_1 : decode cX4_daysToFirstRight 1 = .ok (.getfield 33, 3) := by decide +kernel
theorem dX4_daysToFirstRight_4 : decode cX4_daysToFirstRight 4 = .ok (.aload_n 0, 1) := by decide +kernel
theorem dX4_daysToFirstRight_5 : decode cX4_daysToFirstRight 5 = .ok (.getfield 29, 3) := by decide +kernel
theorem dX4_daysToFirstRight_8 : decode cX4_daysToFirstRight 8 = .ok (.invokevirtual 163, 3) := by decide +kernel
theorem dX4_daysToFirstRight_11 : decode cX4_daysToFirstRight 11 = .ok (.iconst 1, 1) := by decide +kernel
theorem dX4_daysToFirstRight_12 : decode cX4_daysToFirstRight 12 = .ok (.istore_n 3, 1) := by decide +kernel
theorem dX4_daysToFirstRight_13 : decode cX4_daysToFirstRight 13 = .ok (.iload_n 3, 1) := by decide +kernel
theorem dX4_daysToFirstRight_14 : decode cX4_daysToFirstRight 14 = .ok (.iload_n 2, 1) := by decide +kernel
theorem dX4_daysToFirstRight_15 : decode cX4_daysToFirstRight 15 = .ok (.if_icmp .gt 30, 3) := by decide +kernel
theorem dX4_daysToFirstRight_18 : decode cX4_daysToFirstRight 18 = .ok (.aload_n 0, 1) := by decide +kernel
theorem dX4_daysToFirstRight_19 : decode cX4_daysToFirstRight 19 = .ok (.getfield 33, 3) := by decide +kernel
theorem dX4_daysToFirstRight_22 : decode cX4_daysToFirstRight 22 = .ok (.aload_n 0, 1) := by decide +kernel
theorem dX4_daysToFirstRight_23 : decode cX4_daysToFirstRight 23 = .ok (.getfield 19, 3) := by decide +kernel
theorem dX4_daysToFirstRight_26 : decode cX4_daysToFirstRight 26 = .ok (.invokevirtual 140, 3) := by decide +kernel
theorem dX4_daysToFirstRight_29 : decode cX4_daysToFirstRight 29 = .ok (.aload_n 0, 1) := by decide +kernel
theorem dX4_daysToFirstRight_30 : decode cX4_daysToFirstRight 30 = .ok (.iload_n 1, 1) := by decide +kernel
theorem dX4_daysToFirstRight_31 : decode cX4_daysToFirstRight 31 = .ok (.invokevirtual 174, 3) := by decide +kernel
theorem dX4_daysToFirstRight_34 : decode cX4_daysToFirstRight 34 = .ok (.ifCond .le 5, 3) := by decide +kernel
theorem dX4_daysToFirstRight_37 : decode cX4_daysToFirstRight 37 = .ok (.iload_n 3, 1) := by decide +kernel
theorem dX4_daysToFirstRight_38 : decode cX4_daysToFirstRight 38 = .ok (.ireturn, 1) := by decide +kernel
theorem dX4_daysToFirstRight_39 : decode cX4_daysToFirstRight 39 = .ok (.iinc 3 1, 3) := by decide +kernel
theorem dX4_daysToFirstRight_42 : decode cX4_daysToFirstRight 42 = .ok (.goto (-29), 3) := by decide +kernel
theorem dX4_daysToFirstRight_45 : decode cX4_daysToFirstRight 45 = .ok (.iconst (-1), 1) := by decide +kernel
theorem dX4_daysToFirstRight_46 : decode cX4_daysToFirstRight 46 = .ok (.ireturn, 1) := by decide +kernel
theorem dX4_power_0 : decode cX4_power 0 = .ok (.iconst 1, 1) := by decide +kernel
theorem dX4_power_1 : decode cX4_power 1 = .ok (.istore_n 2, 1) := by decide +kernel
theorem dX4_power_2 : decode cX4_power 2 = .ok (.iconst 0, 1) := by decide +kernel
theorem dX4_power_3 : decode cX4_power 3 = .ok (.istore_n 3, 1) := by decide +kernel
theorem dX4_power_4 : decode cX4_power 4 = .ok (.iload_n 3, 1) := by decide +kernel
theorem dX4_power_5 : decode cX4_power 5 = .ok (.iload_n 1, 1) := by decide +kernel
theorem dX4_power_6 : decode cX4_power 6 = .ok (.if_icmp .ge 13, 3) := by decide +kernel
theorem dX4_power_9 : decode cX4_power 9 = .ok (.iload_n 2, 1) := by decide +kernel
theorem dX4_power_10 : decode cX4_power 10 = .ok (.iload_n 0, 1) := by decide +kernel
theorem dX4_power_11 : decode cX4_power 11 = .ok (.imul, 1) := by decide +kernel
theorem dX4_power_12 : decode cX4_power 12 = .ok (.istore_n 2, 1) := by decide +kernel
theorem dX4_power_13 : decode cX4_power 13 = .ok (.iinc 3 1, 3) := by decide +kernel
theorem dX4_power_16 : decode cX4_power 16 = .ok (.goto (-12), 3) := by decide +kernel
theorem dX4_power_19 : decode cX4_power 19 = .ok (.iload_n 2, 1) := by decide +kernel
theorem dX4_power_20 : decode cX4_power 20 = .ok (.ireturn, 1) := by decide +kernel
theorem dX4_commonDivisor_0 : decode cX4_commonDivisor 0 = .ok (.iload_n 1, 1) := by decide +kernel
theorem dX4_commonDivisor_1 : decode cX4_commonDivisor 1 = .ok (.istore_n 2, 1) := by decide +kernel
theorem dX4_commonDivisor_2 : decode cX4_commonDivisor 2 = .ok (.iload_n 0, 1) := by decide +kernel
theorem dX4_commonDivisor_3 : decode cX4_commonDivisor 3 = .ok (.istore_n 3, 1) := by decide +kernel
theorem dX4_commonDivisor_4 : decode cX4_commonDivisor 4 = .ok (.iconst 0, 1) := by decide +kernel
theorem dX4_commonDivisor_5 : decode cX4_commonDivisor 5 = .ok (.istore 4, 2) := by decide +kernel
theorem dX4_commonDivisor_7 : decode cX4_commonDivisor 7 = .ok (.iload 4, 2) := by decide +kernel
theorem dX4_commonDivisor_9 : decode cX4_commonDivisor 9 = .ok (.bipush 64, 2) := by decide +kernel
theorem dX4_commonDivisor_11 : decode cX4_commonDivisor 11 = .ok (.if_icmp .ge 23, 3) := by decide +kernel
theorem dX4_commonDivisor_14 : decode cX4_commonDivisor 14 = .ok (.iload_n 3, 1) := by decide +kernel
theorem dX4_commonDivisor_15 : decode cX4_commonDivisor 15 = .ok (.ifCond .le 19, 3) := by decide +kernel
theorem dX4_commonDivisor_18 : decode cX4_commonDivisor 18 = .ok (.iload_n 2, 1) := by decide +kernel
theorem dX4_commonDivisor_19 : decode cX4_commonDivisor 19 = .ok (.iload_n 3, 1) := by decide +kernel
theorem dX4_commonDivisor_20 : decode cX4_commonDivisor 20 = .ok (.irem, 1) := by decide +kernel
theorem dX4_commonDivisor_21 : decode cX4_commonDivisor 21 = .ok (.istore 5, 2) := by decide +kernel
theorem dX4_commonDivisor_23 : decode cX4_commonDivisor 23 = .ok (.iload_n 3, 1) := by decide +kernel
theorem dX4_commonDivisor_24 : decode cX4_commonDivisor 24 = .ok (.istore_n 2, 1) := by decide +kernel
theorem dX4_commonDivisor_25 : decode cX4_commonDivisor 25 = .ok (.iload 5, 2) := by decide +kernel
theorem dX4_commonDivisor_27 : decode cX4_commonDivisor 27 = .ok (.istore_n 3, 1) := by decide +kernel
theorem dX4_commonDivisor_28 : decode cX4_commonDivisor 28 = .ok (.iinc 4 1, 3) := by decide +kernel
theorem dX4_commonDivisor_31 : decode cX4_commonDivisor 31 = .ok (.goto (-24), 3) := by decide +kernel
theorem dX4_commonDivisor_34 : decode cX4_commonDivisor 34 = .ok (.iload_n 2, 1) := by decide +kernel
theorem dX4_commonDivisor_35 : decode cX4_commonDivisor 35 = .ok (.ireturn, 1) := by decide +kernel
theorem dX4_sum_0 : decode cX4_sum 0 = .ok (.iconst 0, 1) := by decide +kernel
theorem dX4_sum_1 : decode cX4_sum 1 = .ok (.istore_n 1, 1) := by decide +kernel
theorem dX4_sum_2 : decode cX4_sum 2 = .ok (.iconst 0, 1) := by decide +kernel
theorem dX4_sum_3 : decode cX4_sum 3 = .ok (.istore_n 2, 1) := by decide +kernel
theorem dX4_sum_4 : decode cX4_sum 4 = .ok (.iload_n 2, 1) := by decide +kernel
theorem dX4_sum_5 : decode cX4_sum 5 = .ok (.aload_n 0, 1) := by decide +kernel
theorem dX4_sum_6 : decode cX4_sum 6 = .ok (.arraylength, 1) := by decide +kernel
theorem dX4_sum_7 : decode cX4_sum 7 = .ok (.if_icmp .ge 15, 3) := by decide +kernel
theorem dX4_sum_10 : decode cX4_sum 10 = .ok (.iload_n 1, 1) := by decide +kernel
theorem dX4_sum_11 : decode cX4_sum 11 = .ok (.aload_n 0, 1) := by decide +kernel
theorem dX4_sum_12 : decode cX4_sum 12 = .ok (.iload_n 2, 1) := by decide +kernel
theorem dX4_sum_13 : decode cX4_sum 13 = .ok (.iaload, 1) := by decide +kernel
theorem dX4_sum_14 : decode cX4_sum 14 = .ok (.iadd, 1) := by decide +kernel
theorem dX4_sum_15 : decode cX4_sum 15 = .ok (.istore_n 1, 1) := by decide +kernel
theorem dX4_sum_16 : decode cX4_sum 16 = .ok (.iinc 2 1, 3) := by decide +kernel
theorem dX4_sum_19 : decode cX4_sum 19 = .ok (.goto (-15), 3) := by decide +kernel
theorem dX4_sum_22 : decode cX4_sum 22 = .ok (.iload_n 1, 1) := by decide +kernel
theorem dX4_sum_23 : decode cX4_sum 23 = .ok (.ireturn, 1) := by decide +kernel
theorem dJ9_floorMod_7cf53_0 : decode cJ9_floorMod_7cf53 0 = .ok (.iload_n 0, 1) := by decide +kernel
theorem dJ9_floorMod_7cf53_1 : decode cJ9_floorMod_7cf53 1 = .ok (.iload_n 1, 1) := by decide +kernel
theorem dJ9_floorMod_7cf53_2 : decode cJ9_floorMod_7cf53 2 = .ok (.irem, 1) := by decide +kernel
theorem dJ9_floorMod_7cf53_3 : decode cJ9_floorMod_7cf53 3 = .ok (.istore_n 2, 1) := by decide +kernel
theorem dJ9_floorMod_7cf53_4 : decode cJ9_floorMod_7cf53 4 = .ok (.iload_n 0, 1) := by decide +kernel
theorem dJ9_floorMod_7cf53_5 : decode cJ9_floorMod_7cf53 5 = .ok (.iload_n 1, 1) := by decide +kernel
theorem dJ9_floorMod_7cf53_6 : decode cJ9_floorMod_7cf53 6 = .ok (.ixor, 1) := by decide +kernel
theorem dJ9_floorMod_7cf53_7 : decode cJ9_floorMod_7cf53 7 = .ok (.ifCond .ge 11, 3) := by decide +kernel
theorem dJ9_floorMod_7cf53_10 : decode cJ9_floorMod_7cf53 10 = .ok (.iload_n 2, 1) := by decide +kernel
theorem dJ9_floorMod_7cf53_11 : decode cJ9_floorMod_7cf53 11 = .ok (.ifCond .eq 7, 3) := by decide +kernel
theorem dJ9_floorMod_7cf53_14 : decode cJ9_floorMod_7cf53 14 = .ok (.iload_n 2, 1) := by decide +kernel
theorem dJ9_floorMod_7cf53_15 : decode cJ9_floorMod_7cf53 15 = .ok (.iload_n 1, 1) := by decide +kernel
theorem dJ9_floorMod_7cf53_16 : decode cJ9_floorMod_7cf53 16 = .ok (.iadd, 1) := by decide +kernel
theorem dJ9_floorMod_7cf53_17 : decode cJ9_floorMod_7cf53 17 = .ok (.ireturn, 1) := by decide +kernel
theorem dJ9_floorMod_7cf53_18 : decode cJ9_floorMod_7cf53 18 = .ok (.iload_n 2, 1) := by decide +kernel
theorem dJ9_floorMod_7cf53_19 : decode cJ9_floorMod_7cf53 19 = .ok (.ireturn, 1) := by decide +kernel
theorem dJ9_max_7cf53_0 : decode cJ9_max_7cf53 0 = .ok (.iload_n 0, 1) := by decide +kernel
theorem dJ9_max_7cf53_1 : decode cJ9_max_7cf53 1 = .ok (.iload_n 1, 1) := by decide +kernel
theorem dJ9_max_7cf53_2 : decode cJ9_max_7cf53 2 = .ok (.if_icmp .lt 7, 3) := by decide +kernel
theorem dJ9_max_7cf53_5 : decode cJ9_max_7cf53 5 = .ok (.iload_n 0, 1) := by decide +kernel
theorem dJ9_max_7cf53_6 : decode cJ9_max_7cf53 6 = .ok (.goto 4, 3) := by decide +kernel
theorem dJ9_max_7cf53_9 : decode cJ9_max_7cf53 9 = .ok (.iload_n 1, 1) := by decide +kernel
theorem dJ9_max_7cf53_10 : decode cJ9_max_7cf53 10 = .ok (.ireturn, 1) := by decide +kernel
theorem dJ0_length_8abf5_0 : decode cJ0_length_8abf5 0 = .ok (.aload_n 0, 1) := by decide +kernel
theorem dJ0_length_8abf5_1 : decode cJ0_length_8abf5 1 = .ok (.getfield 9, 3) := by decide +kernel
theorem dJ0_length_8abf5_4 : decode cJ0_length_8abf5 4 = .ok (.arraylength, 1) := by decide +kernel
theorem dJ0_length_8abf5_5 : decode cJ0_length_8abf5 5 = .ok (.aload_n 0, 1) := by decide +kernel
theorem dJ0_length_8abf5_6 : decode cJ0_length_8abf5 6 = .ok (.invokevirtual 335, 3) := by decide +kernel
theorem dJ0_length_8abf5_9 : decode cJ0_length_8abf5 9 = .ok (.ishr, 1) := by decide +kernel
theorem dJ0_length_8abf5_10 : decode cJ0_length_8abf5 10 = .ok (.ireturn, 1) := by decide +kernel
theorem dJ0_charAt_5068e_0 : decode cJ0_charAt_5068e 0 = .ok (.aload_n 0, 1) := by decide +kernel
theorem dJ0_charAt_5068e_1 : decode cJ0_charAt_5068e 1 = .ok (.invokevirtual 492, 3) := by decide +kernel
theorem dJ0_charAt_5068e_4 : decode cJ0_charAt_5068e 4 = .ok (.ifCond .eq 12, 3) := by decide +kernel
theorem dJ0_charAt_5068e_7 : decode cJ0_charAt_5068e 7 = .ok (.aload_n 0, 1) := by decide +kernel
theorem dJ0_charAt_5068e_8 : decode cJ0_charAt_5068e 8 = .ok (.getfield 9, 3) := by decide +kernel
theorem dJ0_charAt_5068e_11 : decode cJ0_charAt_5068e 11 = .ok (.iload_n 1, 1) := by decide +kernel
theorem dJ0_charAt_5068e_12 : decode cJ0_charAt_5068e 12 = .ok (.invokestatic 495, 3) := by decide +kernel
theorem dJ0_charAt_5068e_15 : decode cJ0_charAt_5068e 15 = .ok (.ireturn, 1) := by decide +kernel
theorem dJ0_charAt_5068e_16 : decode cJ0_charAt_5068e 16 = .ok (.aload_n 0, 1) := by decide +kernel
theorem dJ0_charAt_5068e_17 : decode cJ0_charAt_5068e 17 = .ok (.getfield 9, 3) := by decide +kernel
theorem dJ0_charAt_5068e_20 : decode cJ0_charAt_5068e 20 = .ok (.iload_n 1, 1) := by decide +kernel
theorem dJ0_charAt_5068e_21 : decode cJ0_charAt_5068e 21 = .ok (.invokestatic 498, 3) := by decide +kernel
theorem dJ0_charAt_5068e_24 : decode cJ0_charAt_5068e 24 = .ok (.ireturn, 1) := by decide +kernel
theorem dJ0_coder_7d493_0 : decode cJ0_coder_7d493 0 = .ok (.getstatic 38, 3) := by decide +kernel
theorem dJ0_coder_7d493_3 : decode cJ0_coder_7d493 3 = .ok (.ifCond .eq 10, 3) := by decide +kernel
theorem dJ0_coder_7d493_6 : decode cJ0_coder_7d493 6 = .ok (.aload_n 0, 1) := by decide +kernel
theorem dJ0_coder_7d493_7 : decode cJ0_coder_7d493 7 = .ok (.getfield 15, 3) := by decide +kernel
theorem dJ0_coder_7d493_10 : decode cJ0_coder_7d493 10 = .ok (.goto 4, 3) := by decide +kernel
theorem dJ0_coder_7d493_13 : decode cJ0_coder_7d493 13 = .ok (.iconst 1, 1) := by decide +kernel
theorem dJ0_coder_7d493_14 : decode cJ0_coder_7d493 14 = .ok (.ireturn, 1) := by decide +kernel
theorem dJ0_isLatin1_aae02_0 : decode cJ0_isLatin1_aae02 0 = .ok (.getstatic 38, 3) := by decide +kernel
theorem dJ0_isLatin1_aae02_3 : decode cJ0_isLatin1_aae02 3 = .ok (.ifCond .eq 14, 3) := by decide +kernel
theorem dJ0_isLatin1_aae02_6 : decode cJ0_isLatin1_aae02 6 = .ok (.aload_n 0, 1) := by decide +kernel
theorem dJ0_isLatin1_aae02_7 : decode cJ0_isLatin1_aae02 7 = .ok (.getfield 15, 3) := by decide +kernel
theorem dJ0_isLatin1_aae02_10 : decode cJ0_isLatin1_aae02 10 = .ok (.ifCond .ne 7, 3) := by decide +kernel
theorem dJ0_isLatin1_aae02_13 : decode cJ0_isLatin1_aae02 13 = .ok (.iconst 1, 1) := by decide +kernel
theorem dJ0_isLatin1_aae02_14 : decode cJ0_isLatin1_aae02 14 = .ok (.goto 4, 3) := by decide +kernel
theorem dJ0_isLatin1_aae02_17 : decode cJ0_isLatin1_aae02 17 = .ok (.iconst 0, 1) := by decide +kernel
theorem dJ0_isLatin1_aae02_18 : decode cJ0_isLatin1_aae02 18 = .ok (.ireturn, 1) := by decide +kernel
theorem dJ0_checkIndex_df160_0 : decode cJ0_checkIndex_df160 0 = .ok (.iload_n 0, 1) := by decide +kernel
theorem dJ0_checkIndex_df160_1 : decode cJ0_checkIndex_df160 1 = .ok (.iload_n 1, 1) := by decide +kernel
theorem dJ0_checkIndex_df160_2 : decode cJ0_checkIndex_df160 2 = .ok (.getstatic 1053, 3) := by decide +kernel
theorem dJ0_checkIndex_df160_5 : decode cJ0_checkIndex_df160 5 = .ok (.invokestatic 1059, 3) := by decide +kernel
theorem dJ0_checkIndex_df160_8 : decode cJ0_checkIndex_df160 8 = .ok (.pop, 1) := by decide +kernel
theorem dJ0_checkIndex_df160_9 : decode cJ0_checkIndex_df160 9 = .ok (.return_, 1) := by decide +kernel
theorem dJ1_charAt_3b067_0 : decode cJ1_charAt_3b067 0 = .ok (.iload_n 1, 1) := by decide +kernel
theorem dJ1_charAt_3b067_1 : decode cJ1_charAt_3b067 1 = .ok (.aload_n 0, 1) := by decide +kernel
theorem dJ1_charAt_3b067_2 : decode cJ1_charAt_3b067 2 = .ok (.arraylength, 1) := by decide +kernel
theorem dJ1_charAt_3b067_3 : decode cJ1_charAt_3b067 3 = .ok (.invokestatic 9, 3) := by decide +kernel
theorem dJ1_charAt_3b067_6 : decode cJ1_charAt_3b067 6 = .ok (.aload_n 0, 1) := by decide +kernel
theorem dJ1_charAt_3b067_7 : decode cJ1_charAt_3b067 7 = .ok (.iload_n 1, 1) := by decide +kernel
theorem dJ1_charAt_3b067_8 : decode cJ1_charAt_3b067 8 = .ok (.baload, 1) := by decide +kernel
theorem dJ1_charAt_3b067_9 : decode cJ1_charAt_3b067 9 = .ok (.sipush 255, 3) := by decide +kernel
theorem dJ1_charAt_3b067_12 : decode cJ1_charAt_3b067 12 = .ok (.iand, 1) := by decide +kernel
theorem dJ1_charAt_3b067_13 : decode cJ1_charAt_3b067 13 = .ok (.i2c, 1) := by decide +kernel
theorem dJ1_charAt_3b067_14 : decode cJ1_charAt_3b067 14 = .ok (.ireturn, 1) := by decide +kernel
theorem dJ2_getChar_3b067_0 : decode cJ2_getChar_3b067 0 = .ok (.getstatic 44, 3) := by decide +kernel
theorem dJ2_getChar_3b067_3 : decode cJ2_getChar_3b067 3 = .ok (.ifCond .ne 25, 3) := by decide +kernel
theorem dJ2_getChar_3b067_6 : decode cJ2_getChar_3b067 6 = .ok (.iload_n 1, 1) := by decide +kernel
theorem dJ2_getChar_3b067_7 : decode cJ2_getChar_3b067 7 = .ok (.ifCond .lt 11, 3) := by decide +kernel
theorem dJ2_getChar_3b067_10 : decode cJ2_getChar_3b067 10 = .ok (.iload_n 1, 1) := by decide +kernel
theorem dJ2_getChar_3b067_11 : decode cJ2_getChar_3b067 11 = .ok (.aload_n 0, 1) := by decide +kernel
theorem dJ2_getChar_3b067_12 : decode cJ2_getChar_3b067 12 = .ok (.invokestatic 48, 3) := by decide +kernel
theorem dJ2_getChar_3b067_15 : decode cJ2_getChar_3b067 15 = .ok (.if_icmp .lt 13, 3) := by decide +kernel
theorem dJ2_getChar_3b067_18 : decode cJ2_getChar_3b067 18 = .ok (.new 52, 3) := by decide +kernel
theorem dJ2_getChar_3b067_21 : decode cJ2_getChar_3b067 21 = .ok (.dup, 1) := by decide +kernel
theorem dJ2_getChar_3b067_22 : decode cJ2_getChar_3b067 22 = .ok (.ldc 54, 2) := by decide +kernel
theorem dJ2_getChar_3b067_24 : decode cJ2_getChar_3b067 24 = .ok (.invokespecial 56, 3) := by decide +kernel
theorem dJ2_getChar_3b067_27 : decode cJ2_getChar_3b067 27 = .ok (.athrow, 1) := by decide +kernel
theorem dJ2_getChar_3b067_28 : decode cJ2_getChar_3b067 28 = .ok (.iload_n 1, 1) := by decide +kernel
theorem dJ2_getChar_3b067_29 : decode cJ2_getChar_3b067 29 = .ok (.iconst 1, 1) := by decide +kernel
theorem dJ2_getChar_3b067_30 : decode cJ2_getChar_3b067 30 = .ok (.ishl, 1) := by decide +kernel
theorem dJ2_getChar_3b067_31 : decode cJ2_getChar_3b067 31 = .ok (.istore_n 1, 1) := by decide +kernel
theorem dJ2_getChar_3b067_32 : decode cJ2_getChar_3b067 32 = .ok (.aload_n 0, 1) := by decide +kernel
theorem dJ2_getChar_3b067_33 : decode cJ2_getChar_3b067 33 = .ok (.iload_n 1, 1) := by decide +kernel
theorem dJ2_getChar_3b067_34 : decode cJ2_getChar_3b067 34 = .ok (.iinc 1 1, 3) := by decide +kernel
theorem dJ2_getChar_3b067_37 : decode cJ2_getChar_3b067 37 = .ok (.baload, 1) := by decide +kernel
theorem dJ2_getChar_3b067_38 : decode cJ2_getChar_3b067 38 = .ok (.sipush 255, 3) := by decide +kernel
theorem dJ2_getChar_3b067_41 : decode cJ2_getChar_3b067 41 = .ok (.iand, 1) := by decide +kernel
theorem dJ2_getChar_3b067_42 : decode cJ2_getChar_3b067 42 = .ok (.getstatic 59, 3) := by decide +kernel
theorem dJ2_getChar_3b067_45 : decode cJ2_getChar_3b067 45 = .ok (.ishl, 1) := by decide +kernel
theorem dJ2_getChar_3b067_46 : decode cJ2_getChar_3b067 46 = .ok (.aload_n 0, 1) := by decide +kernel
theorem dJ2_getChar_3b067_47 : decode cJ2_getChar_3b067 47 = .ok (.iload_n 1, 1) := by decide +kernel
theorem dJ2_getChar_3b067_48 : decode cJ2_getChar_3b067 48 = .ok (.baload, 1) := by decide +kernel
theorem dJ2_getChar_3b067_49 : decode cJ2_getChar_3b067 49 = .ok (.sipush 255, 3) := by decide +kernel
theorem dJ2_getChar_3b067_52 : decode cJ2_getChar_3b067 52 = .ok (.iand, 1) := by decide +kernel
theorem dJ2_getChar_3b067_53 : decode cJ2_getChar_3b067 53 = .ok (.getstatic 63, 3) := by decide +kernel
theorem dJ2_getChar_3b067_56 : decode cJ2_getChar_3b067 56 = .ok (.ishl, 1) := by decide +kernel
theorem dJ2_getChar_3b067_57 : decode cJ2_getChar_3b067 57 = .ok (.ior, 1) := by decide +kernel
theorem dJ2_getChar_3b067_58 : decode cJ2_getChar_3b067 58 = .ok (.i2c, 1) := by decide +kernel
theorem dJ2_getChar_3b067_59 : decode cJ2_getChar_3b067 59 = .ok (.ireturn, 1) := by decide +kernel
theorem dJ2_length_9d52b_0 : decode cJ2_length_9d52b 0 = .ok (.aload_n 0, 1) := by decide +kernel
theorem dJ2_length_9d52b_1 : decode cJ2_length_9d52b 1 = .ok (.arraylength, 1) := by decide +kernel
theorem dJ2_length_9d52b_2 : decode cJ2_length_9d52b 2 = .ok (.iconst 1, 1) := by decide +kernel
theorem dJ2_length_9d52b_3 : decode cJ2_length_9d52b 3 = .ok (.ishr, 1) := by decide +kernel
theorem dJ2_length_9d52b_4 : decode cJ2_length_9d52b 4 = .ok (.ireturn, 1) := by decide +kernel
theorem dJ2_charAt_3b067_0 : decode cJ2_charAt_3b067 0 = .ok (.iload_n 1, 1) := by decide +kernel
theorem dJ2_charAt_3b067_1 : decode cJ2_charAt_3b067 1 = .ok (.aload_n 0, 1) := by decide +kernel
theorem dJ2_charAt_3b067_2 : decode cJ2_charAt_3b067 2 = .ok (.invokestatic 67, 3) := by decide +kernel
theorem dJ2_charAt_3b067_5 : decode cJ2_charAt_3b067 5 = .ok (.aload_n 0, 1) := by decide +kernel
theorem dJ2_charAt_3b067_6 : decode cJ2_charAt_3b067 6 = .ok (.iload_n 1, 1) := by decide +kernel
theorem dJ2_charAt_3b067_7 : decode cJ2_charAt_3b067 7 = .ok (.invokestatic 71, 3) := by decide +kernel
theorem dJ2_charAt_3b067_10 : decode cJ2_charAt_3b067 10 = .ok (.ireturn, 1) := by decide +kernel
theorem dJ2_checkIndex_2214a_0 : decode cJ2_checkIndex_2214a 0 = .ok (.iload_n 0, 1) := by decide +kernel
theorem dJ2_checkIndex_2214a_1 : decode cJ2_checkIndex_2214a 1 = .ok (.aload_n 1, 1) := by decide +kernel
theorem dJ2_checkIndex_2214a_2 : decode cJ2_checkIndex_2214a 2 = .ok (.invokestatic 48, 3) := by decide +kernel
theorem dJ2_checkIndex_2214a_5 : decode cJ2_checkIndex_2214a 5 = .ok (.invokestatic 414, 3) := by decide +kernel
theorem dJ2_checkIndex_2214a_8 : decode cJ2_checkIndex_2214a 8 = .ok (.return_, 1) := by decide +kernel
theorem dJ7_fill_53178_0 : decode cJ7_fill_53178 0 = .ok (.iconst 0, 1) := by decide +kernel
theorem dJ7_fill_53178_1 : decode cJ7_fill_53178 1 = .ok (.istore_n 2, 1) := by decide +kernel
theorem dJ7_fill_53178_2 : decode cJ7_fill_53178 2 = .ok (.aload_n 0, 1) := by decide +kernel
theorem dJ7_fill_53178_3 : decode cJ7_fill_53178 3 = .ok (.arraylength, 1) := by decide +kernel
theorem dJ7_fill_53178_4 : decode cJ7_fill_53178 4 = .ok (.istore_n 3, 1) := by decide +kernel
theorem dJ7_fill_53178_5 : decode cJ7_fill_53178 5 = .ok (.iload_n 2, 1) := by decide +kernel
theorem dJ7_fill_53178_6 : decode cJ7_fill_53178 6 = .ok (.iload_n 3, 1) := by decide +kernel
theorem dJ7_fill_53178_7 : decode cJ7_fill_53178 7 = .ok (.if_icmp .ge 13, 3) := by decide +kernel
theorem dJ7_fill_53178_10 : decode cJ7_fill_53178 10 = .ok (.aload_n 0, 1) := by decide +kernel
theorem dJ7_fill_53178_11 : decode cJ7_fill_53178 11 = .ok (.iload_n 2, 1) := by decide +kernel
theorem dJ7_fill_53178_12 : decode cJ7_fill_53178 12 = .ok (.iload_n 1, 1) := by decide +kernel
theorem dJ7_fill_53178_13 : decode cJ7_fill_53178 13 = .ok (.iastore, 1) := by decide +kernel
theorem dJ7_fill_53178_14 : decode cJ7_fill_53178 14 = .ok (.iinc 2 1, 3) := by decide +kernel
theorem dJ7_fill_53178_17 : decode cJ7_fill_53178 17 = .ok (.goto (-12), 3) := by decide +kernel
theorem dJ7_fill_53178_20 : decode cJ7_fill_53178 20 = .ok (.return_, 1) := by decide +kernel
theorem dJ3_checkIndex_8e157_0 : decode cJ3_checkIndex_8e157 0 = .ok (.iload_n 0, 1) := by decide +kernel
theorem dJ3_checkIndex_8e157_1 : decode cJ3_checkIndex_8e157 1 = .ok (.ifCond .lt 8, 3) := by decide +kernel
theorem dJ3_checkIndex_8e157_4 : decode cJ3_checkIndex_8e157 4 = .ok (.iload_n 0, 1) := by decide +kernel
theorem dJ3_checkIndex_8e157_5 : decode cJ3_checkIndex_8e157 5 = .ok (.iload_n 1, 1) := by decide +kernel
theorem dJ3_checkIndex_8e157_6 : decode cJ3_checkIndex_8e157 6 = .ok (.if_icmp .lt 10, 3) := by decide +kernel
theorem dJ3_checkIndex_8e157_9 : decode cJ3_checkIndex_8e157 9 = .ok (.aload_n 2, 1) := by decide +kernel
theorem dJ3_checkIndex_8e157_10 : decode cJ3_checkIndex_8e157 10 = .ok (.iload_n 0, 1) := by decide +kernel
theorem dJ3_checkIndex_8e157_11 : decode cJ3_checkIndex_8e157 11 = .ok (.iload_n 1, 1) := by decide +kernel
theorem dJ3_checkIndex_8e157_12 : decode cJ3_checkIndex_8e157 12 = .ok (.invokestatic 95, 3) := by decide +kernel
theorem dJ3_checkIndex_8e157_15 : decode cJ3_checkIndex_8e157 15 = .ok (.athrow, 1) := by decide +kernel
theorem dJ3_checkIndex_8e157_16 : decode cJ3_checkIndex_8e157 16 = .ok (.iload_n 0, 1) := by decide +kernel
theorem dJ3_checkIndex_8e157_17 : decode cJ3_checkIndex_8e157 17 = .ok (.ireturn, 1) := by decide +kernel
end
section
theorem dX5_init_0 : decode cX5_init 0 = .ok (.aload_n 0, 1) := by decide +kernel
theorem dX5_init_1 : decode cX5_init 1 = .ok (.invokespecial 1, 3) := by decide +kernel
theorem dX5_init_4 : decode cX5_init 4 = .ok (.aload_n 0, 1) := by decide +kernel
theorem dX5_init_5 : decode cX5_init 5 = .ok (.bipush 50, 2) := by decide +kernel
theorem dX5_init_7 : decode cX5_init 7 = .ok (.newarray .int, 2) := by decide +kernel
theorem dX5_init_9 : decode cX5_init 9 = .ok (.putfield 7, 3) := by decide +kernel
theorem dX5_init_12 : decode cX5_init 12 = .ok (.aload_n 0, 1) := by decide +kernel
theorem dX5_init_13 : decode cX5_init 13 = .ok (.bipush 50, 2) := by decide +kernel
theorem dX5_init_15 : decode cX5_init 15 = .ok (.newarray .int, 2) := by decide +kernel
theorem dX5_init_17 : decode cX5_init 17 = .ok (.putfield 13, 3) := by decide +kernel
theorem dX5_init_20 : decode cX5_init 20 = .ok (.aload_n 0, 1) := by decide +kernel
theorem dX5_init_21 : decode cX5_init 21 = .ok (.bipush 52, 2) := by decide +kernel
theorem dX5_init_23 : decode cX5_init 23 = .ok (.newarray .int, 2) := by decide +kernel
theorem dX5_init_25 : decode cX5_init 25 = .ok (.putfield 16, 3) := by decide +kernel
theorem dX5_init_28 : decode cX5_init 28 = .ok (.aload_n 0, 1) := by decide +kernel
theorem dX5_init_29 : decode cX5_init 29 = .ok (.sipush 416, 3) := by decide +kernel
theorem dX5_init_32 : decode cX5_init 32 = .ok (.newarray .int, 2) := by decide +kernel
theorem dX5_init_34 : decode cX5_init 34 = .ok (.putfield 19, 3) := by decide +kernel
theorem dX5_init_37 : decode cX5_init 37 = .ok (.aload_n 0, 1) := by decide +kernel
theorem dX5_init_38 : decode cX5_init 38 = .ok (.bipush 104, 2) := by decide +kernel
theorem dX5_init_40 : decode cX5_init 40 = .ok (.newarray .int, 2) := by decide +kernel
theorem dX5_init_42 : decode cX5_init 42 = .ok (.putfield 22, 3) := by decide +kernel
theorem dX5_init_45 : decode cX5_init 45 = .ok (.aload_n 0, 1) := by decide +kernel
theorem dX5_init_46 : decode cX5_init 46 = .ok (.iconst 2, 1) := by decide +kernel
theorem dX5_init_47 : decode cX5_init 47 = .ok (.newarray .boolean, 2) := by decide +kernel
theorem dX5_init_49 : decode cX5_init 49 = .ok (.putfield 25, 3) := by decide +kernel
theorem dX5_init_52 : decode cX5_init 52 = .ok (.aload_n 0, 1) := by decide +kernel
theorem dX5_init_53 : decode cX5_init 53 = .ok (.sipush 160, 3) := by decide +kernel
theorem dX5_init_56 : decode cX5_init 56 = .ok (.newarray .int, 2) := by decide +kernel
theorem dX5_init_58 : decode cX5_init 58 = .ok (.putfield 29, 3) := by decide +kernel
theorem dX5_init_61 : decode cX5_init 61 = .ok (.aload_n 0, 1) := by decide +kernel
theorem dX5_init_62 : decode cX5_init 62 = .ok (.bipush 18, 2) := by decide +kernel
theorem dX5_init_64 : decode cX5_init 64 = .ok (.newarray .int, 2) := by decide +kernel
theorem dX5_init_66 : decode cX5_init 66 = .ok (.putfield 32, 3) := by decide +kernel
theorem dX5_init_69 : decode cX5_init 69 = .ok (.aload_n 0, 1) := by decide +kernel
theorem dX5_init_70 : decode cX5_init 70 = .ok (.iconst 5, 1) := by decide +kernel
theorem dX5_init_71 : decode cX5_init 71 = .ok (.newarray .int, 2) := by decide +kernel
theorem dX5_init_73 : decode cX5_init 73 = .ok (.putfield 35, 3) := by decide +kernel
theorem dX5_init_76 : decode cX5_init 76 = .ok (.aload_n 0, 1) := by decide +kernel
theorem dX5_init_77 : decode cX5_init 77 = .ok (.iconst 5, 1) := by decide +kernel
theorem dX5_init_78 : decode cX5_init 78 = .ok (.newarray .int, 2) := by decide +kernel
theorem dX5_init_80 : decode cX5_init 80 = .ok (.putfield 38, 3) := by decide +kernel
theorem dX5_init_83 : decode cX5_init 83 = .ok (.aload_n 0, 1) := by decide +kernel
theorem dX5_init_84 : decode cX5_init 84 = .ok (.iconst 5, 1) := by decide +kernel
theorem dX5_init_85 : decode cX5_init 85 = .ok (.newarray .int, 2) := by decide +kernel
theorem dX5_init_87 : decode cX5_init 87 = .ok (.putfield 41, 3) := by decide +kernel
theorem dX5_init_90 : decode cX5_init 90 = .ok (.aload_n 0, 1) := by decide +kernel
theorem dX5_init_91 : decode cX5_init 91 = .ok (.bipush 52, 2) := by decide +kernel
theorem dX5_init_93 : decode cX5_init 93 = .ok (.newarray .int, 2) := by decide +kernel
theorem dX5_init_95 : decode cX5_init 95 = .ok (.putfield 44, 3) := by decide +kernel
theorem dX5_init_98 : decode cX5_init 98 = .ok (.aload_n 0, 1) := by decide +kernel
theorem dX5_init_99 : decode cX5_init 99 = .ok (.getfield 7, 3) := by decide +kernel
theorem dX5_init_102 : decode cX5_init 102 = .ok (.invokestatic 47, 3) := by decide +kernel
theorem dX5_init_105 : decode cX5_init 105 = .ok (.aload_n 0, 1) := by decide +kernel
theorem dX5_init_106 : decode cX5_init 106 = .ok (.invokevirtual 51, 3) := by decide +kernel
theorem dX5_init_109 : decode cX5_init 109 = .ok (.return_, 1) := by decide +kernel
theorem dX5_in_0 : decode cX5_in 0 = .ok (.lload_n 0, 1) := by decide +kernel
theorem dX5_in_1 : decode cX5_in 1 = .ok (.lload_n 2, 1) := by decide +kernel
theorem dX5_in_2 : decode cX5_in 2 = .ok (.lcmp, 1) := by decide +kernel
theorem dX5_in_3 : decode cX5_in 3 = .ok (.ifCond .lt 14, 3) := by decide +kernel
theorem dX5_in_6 : decode cX5_in 6 = .ok (.lload_n 0, 1) := by decide +kernel
theorem dX5_in_7 : decode cX5_in 7 = .ok (.lload 4, 2) := by decide +kernel
theorem dX5_in_9 : decode cX5_in 9 = .ok (.lcmp, 1) := by decide +kernel
theorem dX5_in_10 : decode cX5_in 10 = .ok (.ifCond .gt 7, 3) := by decide +kernel
theorem dX5_in_13 : decode cX5_in 13 = .ok (.iconst 1, 1) := by decide +kernel
theorem dX5_in_14 : decode cX5_in 14 = .ok (.goto 4, 3) := by decide +kernel
theorem dX5_in_17 : decode cX5_in 17 = .ok (.iconst 0, 1) := by decide +kernel
theorem dX5_in_18 : decode cX5_in 18 = .ok (.ireturn, 1) := by decide +kernel
theorem dX5_copies_0 : decode cX5_copies 0 = .ok (.iconst 0, 1) := by decide +kernel
theorem dX5_copies_1 : decode cX5_copies 1 = .ok (.istore 5, 2) := by decide +kernel
theorem dX5_copies_3 : decode cX5_copies 3 = .ok (.iload 5, 2) := by decide +kernel
theorem dX5_copies_5 : decode cX5_copies 5 = .ok (.iload 4, 2) := by decide +kernel
theorem dX5_copies_7 : decode cX5_copies 7 = .ok (.if_icmp .ge 21, 3) := by decide +kernel
theorem dX5_copies_10 : decode cX5_copies 10 = .ok (.aload_n 2, 1) := by decide +kernel
theorem dX5_copies_11 : decode cX5_copies 11 = .ok (.iload_n 3, 1) := by decide +kernel
theorem dX5_copies_12 : decode cX5_copies 12 = .ok (.iload 5, 2) := by decide +kernel
theorem dX5_copies_14 : decode cX5_copies 14 = .ok (.iadd, 1) := by decide +kernel
theorem dX5_copies_15 : decode cX5_copies 15 = .ok (.aload_n 0, 1) := by decide +kernel
theorem dX5_copies_16 : decode cX5_copies 16 = .ok (.iload_n 1, 1) := by decide +kernel
theorem dX5_copies_17 : decode cX5_copies 17 = .ok (.iload 5, 2) := by decide +kernel
theorem dX5_copies_19 : decode cX5_copies 19 = .ok (.iadd, 1) := by decide +kernel
theorem dX5_copies_20 : decode cX5_copies 20 = .ok (.iaload, 1) := by decide +kernel
theorem dX5_copies_21 : decode cX5_copies 21 = .ok (.iastore, 1) := by decide +kernel
theorem dX5_copies_22 : decode cX5_copies 22 = .ok (.iinc 5 1, 3) := by decide +kernel
theorem dX5_copies_25 : decode cX5_copies 25 = .ok (.goto (-22), 3) := by decide +kernel
theorem dX5_copies_28 : decode cX5_copies 28 = .ok (.return_, 1) := by decide +kernel
theorem dX5_blank_0 : decode cX5_blank 0 = .ok (.iconst 0, 1) := by decide +kernel
theorem dX5_blank_1 : decode cX5_blank 1 = .ok (.istore_n 1, 1) := by decide +kernel
theorem dX5_blank_2 : decode cX5_blank 2 = .ok (.iload_n 1, 1) := by decide +kernel
theorem dX5_blank_3 : decode cX5_blank 3 = .ok (.bipush 50, 2) := by decide +kernel
theorem dX5_blank_5 : decode cX5_blank 5 = .ok (.if_icmp .ge 23, 3) := by decide +kernel
theorem dX5_blank_8 : decode cX5_blank 8 = .ok (.aload_n 0, 1) := by decide +kernel
theorem dX5_blank_9 : decode cX5_blank 9 = .ok (.iload_n 1, 1) := by decide +kernel
theorem dX5_blank_10 : decode cX5_blank 10 = .ok (.iload_n 1, 1) := by decide +kernel
theorem dX5_blank_11 : decode cX5_blank 11 = .ok (.bipush 36, 2) := by decide +kernel
theorem dX5_blank_13 : decode cX5_blank 13 = .ok (.if_icmp .ge 7, 3) := by decide +kernel
theorem dX5_blank_16 : decode cX5_blank 16 = .ok (.iconst 0, 1) := by decide +kernel
theorem dX5_blank_17 : decode cX5_blank 17 = .ok (.goto 4, 3) := by decide +kernel
theorem dX5_blank_20 : decode cX5_blank 20 = .ok (.iconst (-1), 1) := by decide +kernel
theorem dX5_blank_21 : decode cX5_blank 21 = .ok (.iastore, 1) := by decide +kernel
theorem dX5_blank_22 : decode cX5_blank 22 = .ok (.iinc 1 1, 3) := by decide +kernel
theorem dX5_blank_25 : decode cX5_blank 25 = .ok (.goto (-23), 3) := by decide +kernel
theorem dX5_blank_28 : decode cX5_blank 28 = .ok (.return_, 1) := by decide +kernel
theorem dX5_begins_0 : decode cX5_begins 0 = .ok (.iconst 0, 1) := by decide +kernel
theorem dX5_begins_1 : decode cX5_begins 1 = .ok (.istore_n 1, 1) := by decide +kernel
theorem dX5_begins_2 : decode cX5_begins 2 = .ok (.iload_n 1, 1) := by decide +kernel
theorem dX5_begins_3 : decode cX5_begins 3 = .ok (.bipush 52, 2) := by decide +kernel
theorem dX5_begins_5 : decode cX5_begins 5 = .ok (.if_icmp .ge 16, 3) := by decide +kernel
theorem dX5_begins_8 : decode cX5_begins 8 = .ok (.aload_n 0, 1) := by decide +kernel
theorem dX5_begins_9 : decode cX5_begins 9 = .ok (.getfield 16, 3) := by decide +kernel
theorem dX5_begins_12 : decode cX5_begins 12 = .ok (.iload_n 1, 1) := by decide +kernel
theorem dX5_begins_13 : decode cX5_begins 13 = .ok (.iconst 0, 1) := by decide +kernel
theorem dX5_begins_14 : decode cX5_begins 14 = .ok (.iastore, 1) := by decide +kernel
theorem dX5_begins_15 : decode cX5_begins 15 = .ok (.iinc 1 1, 3) := by decide +kernel
theorem dX5_begins_18 : decode cX5_begins 18 = .ok (.goto (-16), 3) := by decide +kernel
theorem dX5_begins_21 : decode cX5_begins 21 = .ok (.iconst 0, 1) := by decide +kernel
theorem dX5_begins_22 : decode cX5_begins 22 = .ok (.istore_n 1, 1) := by decide +kernel
theorem dX5_begins_23 : decode cX5_begins 23 = .ok (.iload_n 1, 1) := by decide +kernel
theorem dX5_begins_24 : decode cX5_begins 24 = .ok (.bipush 8, 2) := by decide +kernel
theorem dX5_begins_26 : decode cX5_begins 26 = .ok (.if_icmp .ge 53, 3) := by decide +kernel
theorem dX5_begins_29 : decode cX5_begins 29 = .ok (.aload_n 0, 1) := by decide +kernel
theorem dX5_begins_30 : decode cX5_begins 30 = .ok (.getfield 16, 3) := by decide +kernel
theorem dX5_begins_33 : decode cX5_begins 33 = .ok (.iconst 2, 1) := by decide +kernel
theorem dX5_begins_34 : decode cX5_begins 34 = .ok (.iload_n 1, 1) := by decide +kernel
theorem dX5_begins_35 : decode cX5_begins 35 = .ok (.iadd, 1) := by decide +kernel
theorem dX5_begins_36 : decode cX5_begins 36 = .ok (.aload_n 0, 1) := by decide +kernel
theorem dX5_begins_37 : decode cX5_begins 37 = .ok (.getfield 7, 3) := by decide +kernel
theorem dX5_begins_40 : decode cX5_begins 40 = .ok (.iconst 1, 1) := by decide +kernel
theorem dX5_begins_41 : decode cX5_begins 41 = .ok (.iload_n 1, 1) := by decide +kernel
theorem dX5_begins_42 : decode cX5_begins 42 = .ok (.iadd, 1) := by decide +kernel
theorem dX5_begins_43 : decode cX5_begins 43 = .ok (.iaload, 1) := by decide +kernel
theorem dX5_begins_44 : decode cX5_begins 44 = .ok (.iastore, 1) := by decide +kernel
theorem dX5_begins_45 : decode cX5_begins 45 = .ok (.aload_n 0, 1) := by decide +kernel
theorem dX5_begins_46 : decode cX5_begins 46 = .ok (.getfield 16, 3) := by decide +kernel
theorem dX5_begins_49 : decode cX5_begins 49 = .ok (.bipush 10, 2) := by decide +kernel
theorem dX5_begins_51 : decode cX5_begins 51 = .ok (.iload_n 1, 1) := by decide +kernel
theorem dX5_begins_52 : decode cX5_begins 52 = .ok (.iadd, 1) := by decide +kernel
theorem dX5_begins_53 : decode cX5_begins 53 = .ok (.aload_n 0, 1) := by decide +kernel
theorem dX5_begins_54 : decode cX5_begins 54 = .ok (.getfield 7, 3) := by decide +kernel
theorem dX5_begins_57 : decode cX5_begins 57 = .ok (.bipush 9, 2) := by decide +kernel
theorem dX5_begins_59 : decode cX5_begins 59 = .ok (.iload_n 1, 1) := by decide +kernel
theorem dX5_begins_60 : decode cX5_begins 60 = .ok (.iadd, 1) := by decide +kernel
theorem dX5_begins_61 : decode cX5_begins 61 = .ok (.iaload, 1) := by decide +kernel
theorem dX5_begins_62 : decode cX5_begins 62 = .ok (.iastore, 1) := by decide +kernel
theorem dX5_begins_63 : decode cX5_begins 63 = .ok (.aload_n 0, 1) := by decide +kernel
theorem dX5_begins_64 : decode cX5_begins 64 = .ok (.getfield 16, 3) := by decide +kernel
theorem dX5_begins_67 : decode cX5_begins 67 = .ok (.bipush 18, 2) := by decide +kernel
theorem dX5_begins_69 : decode cX5_begins 69 = .ok (.iload_n 1, 1) := by decide +kernel
theorem dX5_begins_70 : decode cX5_begins 70 = .ok (.iadd, 1) := by decide +kernel
theorem dX5_begins_71 : decode cX5_begins 71 = .ok (.iconst (-1), 1) := by decide +kernel
theorem dX5_begins_72 : decode cX5_begins 72 = .ok (.iastore, 1) := by decide +kernel
theorem dX5_begins_73 : decode cX5_begins 73 = .ok (.iinc 1 1, 3) := by decide +kernel
theorem dX5_begins_76 : decode cX5_begins 76 = .ok (.goto (-53), 3) := by decide +kernel
theorem dX5_begins_79 : decode cX5_begins 79 = .ok (.iconst 0, 1) := by decide +kernel
theorem dX5_begins_80 : decode cX5_begins 80 = .ok (.istore_n 1, 1) := by decide +kernel
theorem dX5_begins_81 : decode cX5_begins 81 = .ok (.iload_n 1, 1) := by decide +kernel
theorem dX5_begins_82 : decode cX5_begins 82 = .ok (.iconst 5, 1) := by decide +kernel
theorem dX5_begins_83 : decode cX5_begins 83 = .ok (.if_icmp .ge 19, 3) := by decide +kernel
theorem dX5_begins_86 : decode cX5_begins 86 = .ok (.aload_n 0, 1) := by decide +kernel
theorem dX5_begins_87 : decode cX5_begins 87 = .ok (.getfield 16, 3) := by decide +kernel
theorem dX5_begins_90 : decode cX5_begins 90 = .ok (.bipush 34, 2) := by decide +kernel
theorem dX5_begins_92 : decode cX5_begins 92 = .ok (.iload_n 1, 1) := by decide +kernel
theorem dX5_begins_93 : decode cX5_begins 93 = .ok (.iadd, 1) := by decide +kernel
theorem dX5_begins_94 : decode cX5_begins 94 = .ok (.iconst (-1), 1) := by decide +kernel
theorem dX5_begins_95 : decode cX5_begins 95 = .ok (.iastore, 1) := by decide +kernel
theorem dX5_begins_96 : decode cX5_begins 96 = .ok (.iinc 1 1, 3) := by decide +kernel
theorem dX5_begins_99 : decode cX5_begins 99 = .ok (.goto (-18), 3) := by decide +kernel
theorem dX5_begins_102 : decode cX5_begins 102 = .ok (.aload_n 0, 1) := by decide +kernel
theorem dX5_begins_103 : decode cX5_begins 103 = .ok (.iconst 0, 1) := by decide +kernel
theorem dX5_begins_104 : decode cX5_begins 104 = .ok (.putfield 54, 3) := by decide +kernel
theorem dX5_begins_107 : decode cX5_begins 107 = .ok (.aload_n 0, 1) := by decide +kernel
theorem dX5_begins_108 : decode cX5_begins 108 = .ok (.getfield 25, 3) := by decide +kernel
theorem dX5_begins_111 : decode cX5_begins 111 = .ok (.iconst 0, 1) := by decide +kernel
theorem dX5_begins_112 : decode cX5_begins 112 = .ok (.iconst 0, 1) := by decide +kernel
theorem dX5_begins_113 : decode cX5_begins 113 = .ok (.bastore, 1) := by decide +kernel
theorem dX5_begins_114 : decode cX5_begins 114 = .ok (.aload_n 0, 1) := by decide +kernel
theorem dX5_begins_115 : decode cX5_begins 115 = .ok (.getfield 25, 3) := by decide +kernel
theorem dX5_begins_118 : decode cX5_begins 118 = .ok (.iconst 1, 1) := by decide +kernel
theorem dX5_begins_119 : decode cX5_begins 119 = .ok (.iconst 0, 1) := by decide +kernel
theorem dX5_begins_120 : decode cX5_begins 120 = .ok (.bastore, 1) := by decide +kernel
theorem dX5_begins_121 : decode cX5_begins 121 = .ok (.aload_n 0, 1) := by decide +kernel
theorem dX5_begins_122 : decode cX5_begins 122 = .ok (.iconst 0, 1) := by decide +kernel
theorem dX5_begins_123 : decode cX5_begins 123 = .ok (.putfield 58, 3) := by decide +kernel
theorem dX5_begins_126 : decode cX5_begins 126 = .ok (.return_, 1) := by decide +kernel
theorem dX5_write_0 : decode cX5_write 0 = .ok (.iload_n 1, 1) := by decide +kernel
theorem dX5_write_1 : decode cX5_write 1 = .ok (.i2l, 1) := by decide +kernel
theorem dX5_write_2 : decode cX5_write 2 = .ok (.lconst 0, 1) := by decide +kernel
theorem dX5_write_3 : decode cX5_write 3 = .ok (.ldc2_w 61, 3) := by decide +kernel
theorem dX5_write_6 : decode cX5_write 6 = .ok (.invokestatic 63, 3) := by decide +kernel
theorem dX5_write_9 : decode cX5_write 9 = .ok (.ifCond .ne 6, 3) := by decide +kernel
theorem dX5_write_12 : decode cX5_write 12 = .ok (.bipush (-3), 2) := by decide +kernel
theorem dX5_write_14 : decode cX5_write 14 = .ok (.ireturn, 1) := by decide +kernel
theorem dX5_write_15 : decode cX5_write 15 = .ok (.aload_n 0, 1) := by decide +kernel
theorem dX5_write_16 : decode cX5_write 16 = .ok (.getfield 67, 3) := by decide +kernel
theorem dX5_write_19 : decode cX5_write 19 = .ok (.sipush 160, 3) := by decide +kernel
theorem dX5_write_22 : decode cX5_write 22 = .ok (.if_icmp .ne 6, 3) := by decide +kernel
theorem dX5_write_25 : decode cX5_write 25 = .ok (.bipush (-5), 2) := by decide +kernel
theorem dX5_write_27 : decode cX5_write 27 = .ok (.ireturn, 1) := by decide +kernel
theorem dX5_write_28 : decode cX5_write 28 = .ok (.aload_n 0, 1) := by decide +kernel
theorem dX5_write_29 : decode cX5_write 29 = .ok (.getfield 29, 3) := by decide +kernel
theorem dX5_write_32 : decode cX5_write 32 = .ok (.aload_n 0, 1) := by decide +kernel
theorem dX5_write_33 : decode cX5_write 33 = .ok (.getfield 67, 3) := by decide +kernel
theorem dX5_write_36 : decode cX5_write 36 = .ok (.iload_n 1, 1) := by decide +kernel
theorem dX5_write_37 : decode cX5_write 37 = .ok (.iastore, 1) := by decide +kernel
theorem dX5_write_38 : decode cX5_write 38 = .ok (.aload_n 0, 1) := by decide +kernel
theorem dX5_write_39 : decode cX5_write 39 = .ok (.dup, 1) := by decide +kernel
theorem dX5_write_40 : decode cX5_write 40 = .ok (.getfield 67, 3) := by decide +kernel
theorem dX5_write_43 : decode cX5_write 43 = .ok (.iconst 1, 1) := by decide +kernel
theorem dX5_write_44 : decode cX5_write 44 = .ok (.iadd, 1) := by decide +kernel
theorem dX5_write_45 : decode cX5_write 45 = .ok (.putfield 67, 3) := by decide +kernel
theorem dX5_write_48 : decode cX5_write 48 = .ok (.aload_n 0, 1) := by decide +kernel
theorem dX5_write_49 : decode cX5_write 49 = .ok (.getfield 67, 3) := by decide +kernel
theorem dX5_write_52 : decode cX5_write 52 = .ok (.ireturn, 1) := by decide +kernel
theorem dX5_erase_0 : decode cX5_erase 0 = .ok (.aload_n 0, 1) := by decide +kernel
theorem dX5_erase_1 : decode cX5_erase 1 = .ok (.getfield 67, 3) := by decide +kernel
theorem dX5_erase_4 : decode cX5_erase 4 = .ok (.istore_n 1, 1) := by decide +kernel
theorem dX5_erase_5 : decode cX5_erase 5 = .ok (.aload_n 0, 1) := by decide +kernel
theorem dX5_erase_6 : decode cX5_erase 6 = .ok (.iconst 0, 1) := by decide +kernel
theorem dX5_erase_7 : decode cX5_erase 7 = .ok (.putfield 67, 3) := by decide +kernel
theorem dX5_erase_10 : decode cX5_erase 10 = .ok (.iload_n 1, 1) := by decide +kernel
theorem dX5_erase_11 : decode cX5_erase 11 = .ok (.ireturn, 1) := by decide +kernel
theorem dX5_here_0 : decode cX5_here 0 = .ok (.aload_n 0, 1) := by decide +kernel
theorem dX5_here_1 : decode cX5_here 1 = .ok (.getfield 70, 3) := by decide +kernel
theorem dX5_here_4 : decode cX5_here 4 = .ok (.aload_n 0, 1) := by decide +kernel
theorem dX5_here_5 : decode cX5_here 5 = .ok (.getfield 67, 3) := by decide +kernel
theorem dX5_here_8 : decode cX5_here 8 = .ok (.if_icmp .ge 15, 3) := by decide +kernel
theorem dX5_here_11 : decode cX5_here 11 = .ok (.aload_n 0, 1) := by decide +kernel
theorem dX5_here_12 : decode cX5_here 12 = .ok (.getfield 29, 3) := by decide +kernel
theorem dX5_here_15 : decode cX5_here 15 = .ok (.aload_n 0, 1) := by decide +kernel
theorem dX5_here_16 : decode cX5_here 16 = .ok (.getfield 70, 3) := by decide +kernel
theorem dX5_here_19 : decode cX5_here 19 = .ok (.iaload, 1) := by decide +kernel
theorem dX5_here_20 : decode cX5_here 20 = .ok (.goto 4, 3) := by decide +kernel
theorem dX5_here_23 : decode cX5_here 23 = .ok (.iconst (-1), 1) := by decide +kernel
theorem dX5_here_24 : decode cX5_here 24 = .ok (.ireturn, 1) := by decide +kernel
theorem dX5_step_0 : decode cX5_step 0 = .ok (.aload_n 0, 1) := by decide +kernel
theorem dX5_step_1 : decode cX5_step 1 = .ok (.invokevirtual 73, 3) := by decide +kernel
theorem dX5_step_4 : decode cX5_step 4 = .ok (.bipush 32, 2) := by decide +kernel
theorem dX5_step_6 : decode cX5_step 6 = .ok (.if_icmp .ne 16, 3) := by decide +kernel
theorem dX5_step_9 : decode cX5_step 9 = .ok (.aload_n 0, 1) := by decide +kernel
theorem dX5_step_10 : decode cX5_step 10 = .ok (.dup, 1) := by decide +kernel
theorem dX5_step_11 : decode cX5_step 11 = .ok (.getfield 70, 3) := by decide +kernel
theorem dX5_step_14 : decode cX5_step 14 = .ok (.iconst 1, 1) := by decide +kernel
theorem dX5_step_15 : decode cX5_step 15 = .ok (.iadd, 1) := by decide +kernel
theorem dX5_step_16 : decode cX5_step 16 = .ok (.putfield 70, 3) := by decide +kernel
theorem dX5_step_19 : decode cX5_step 19 = .ok (.goto (-19), 3) := by decide +kernel
theorem dX5_step_22 : decode cX5_step 22 = .ok (.aload_n 0, 1) := by decide +kernel
theorem dX5_step_23 : decode cX5_step 23 = .ok (.aload_n 0, 1) := by decide +kernel
theorem dX5_step_24 : decode cX5_step 24 = .ok (.getfield 70, 3) := by decide +kernel
theorem dX5_step_27 : decode cX5_step 27 = .ok (.putfield 77, 3) := by decide +kernel
theorem dX5_step_30 : decode cX5_step 30 = .ok (.aload_n 0, 1) := by decide +kernel
theorem dX5_step_31 : decode cX5_step 31 = .ok (.lconst 0, 1) := by decide +kernel
theorem dX5_step_32 : decode cX5_step 32 = .ok (.putfield 80, 3) := by decide +kernel
theorem dX5_step_35 : decode cX5_step 35 = .ok (.aload_n 0, 1) := by decide +kernel
theorem dX5_step_36 : decode cX5_step 36 = .ok (.iconst 0, 1) := by decide +kernel
theorem dX5_step_37 : decode cX5_step 37 = .ok (.putfield 84, 3) := by decide +kernel
theorem dX5_step_40 : decode cX5_step 40 = .ok (.aload_n 0, 1) := by decide +kernel
theorem dX5_step_41 : decode cX5_step 41 = .ok (.invokevirtual 73, 3) := by decide +kernel
theorem dX5_step_44 : decode cX5_step 44 = .ok (.istore_n 1, 1) := by decide +kernel
theorem dX5_step_45 : decode cX5_step 45 = .ok (.aload_n 0, 1) := by decide +kernel
theorem dX5_step_46 : decode cX5_step 46 = .ok (.iload_n 1, 1) := by decide +kernel
theorem dX5_step_47 : decode cX5_step 47 = .ok (.ifCond .ge 7, 3) := by decide +kernel
theorem dX5_step_50 : decode cX5_step 50 = .ok (.iconst 0, 1) := by decide +kernel
theorem dX5_step_51 : decode cX5_step 51 = .ok (.goto 50, 3) := by decide +kernel
theorem dX5_step_54 : decode cX5_step 54 = .ok (.iload_n 1, 1) := by decide +kernel
theorem dX5_step_55 : decode cX5_step 55 = .ok (.i2l, 1) := by decide +kernel
theorem dX5_step_56 : decode cX5_step 56 = .ok (.ldc2_w 87, 3) := by decide +kernel
theorem dX5_step_59 : decode cX5_step 59 = .ok (.ldc2_w 89, 3) := by decide +kernel
theorem dX5_step_62 : decode cX5_step 62 = .ok (.invokestatic 63, 3) := by decide +kernel
theorem dX5_step_65 : decode cX5_step 65 = .ok (.ifCond .eq 7, 3) := by decide +kernel
theorem dX5_step_68 : decode cX5_step 68 = .ok (.iconst 1, 1) := by decide +kernel
theorem dX5_step_69 : decode cX5_step 69 = .ok (.goto 32, 3) := by decide +kernel
theorem dX5_step_72 : decode cX5_step 72 = .ok (.iload_n 1, 1) := by decide +kernel
theorem dX5_step_73 : decode cX5_step 73 = .ok (.i2l, 1) := by decide +kernel
theorem dX5_step_74 : decode cX5_step 74 = .ok (.ldc2_w 91, 3) := by decide +kernel
theorem dX5_step_77 : decode cX5_step 77 = .ok (.ldc2_w 93, 3) := by decide +kernel
theorem dX5_step_80 : decode cX5_step 80 = .ok (.invokestatic 63, 3) := by decide +kernel
theorem dX5_step_83 : decode cX5_step 83 = .ok (.ifCond .eq 7, 3) := by decide +kernel
theorem dX5_step_86 : decode cX5_step 86 = .ok (.iconst 2, 1) := by decide +kernel
theorem dX5_step_87 : decode cX5_step 87 = .ok (.goto 14, 3) := by decide +kernel
theorem dX5_step_90 : decode cX5_step 90 = .ok (.iload_n 1, 1) := by decide +kernel
theorem dX5_step_91 : decode cX5_step 91 = .ok (.bipush 59, 2) := by decide +kernel
theorem dX5_step_93 : decode cX5_step 93 = .ok (.if_icmp .ne 7, 3) := by decide +kernel
theorem dX5_step_96 : decode cX5_step 96 = .ok (.iconst 3, 1) := by decide +kernel
theorem dX5_step_97 : decode cX5_step 97 = .ok (.goto 4, 3) := by decide +kernel
theorem dX5_step_100 : decode cX5_step 100 = .ok (.iconst 4, 1) := by decide +kernel
theorem dX5_step_101 : decode cX5_step 101 = .ok (.putfield 95, 3) := by decide +kernel
theorem dX5_step_104 : decode cX5_step 104 = .ok (.aload_n 0, 1) := by decide +kernel
theorem dX5_step_105 : decode cX5_step 105 = .ok (.getfield 95, 3) := by decide +kernel
theorem dX5_step_108 : decode cX5_step 108 = .ok (.iconst 2, 1) := by decide +kernel
theorem dX5_step_109 : decode cX5_step 109 = .ok (.if_icmp .le 13, 3) := by decide +kernel
theorem dX5_step_112 : decode cX5_step 112 = .ok (.aload_n 0, 1) := by decide +kernel
theorem dX5_step_113 : decode cX5_step 113 = .ok (.dup, 1) := by decide +kernel
theorem dX5_step_114 : decode cX5_step 114 = .ok (.getfield 70, 3) := by decide +kernel
theorem dX5_step_117 : decode cX5_step 117 = .ok (.iconst 1, 1) := by decide +kernel
theorem dX5_step_118 : decode cX5_step 118 = .ok (.iadd, 1) := by decide +kernel
theorem dX5_step_119 : decode cX5_step 119 = .ok (.putfield 70, 3) := by decide +kernel
theorem dX5_step_122 : decode cX5_step 122 = .ok (.aload_n 0, 1) := by decide +kernel
theorem dX5_step_123 : decode cX5_step 123 = .ok (.getfield 95, 3) := by decide +kernel
theorem dX5_step_126 : decode cX5_step 126 = .ok (.iconst 1, 1) := by decide +kernel
theorem dX5_step_127 : decode cX5_step 127 = .ok (.if_icmp .ne 71, 3) := by decide +kernel
theorem dX5_step_130 : decode cX5_step 130 = .ok (.aload_n 0, 1) := by decide +kernel
theorem dX5_step_131 : decode cX5_step 131 = .ok (.invokevirtual 73, 3) := by decide +kernel
theorem dX5_step_134 : decode cX5_step 134 = .ok (.i2l, 1) := by decide +kernel
theorem dX5_step_135 : decode cX5_step 135 = .ok (.ldc2_w 87, 3) := by decide +kernel
theorem dX5_step_138 : decode cX5_step 138 = .ok (.ldc2_w 89, 3) := by decide +kernel
theorem dX5_step_141 : decode cX5_step 141 = .ok (.invokestatic 63, 3) := by decide +kernel
theorem dX5_step_144 : decode cX5_step 144 = .ok (.ifCond .eq 54, 3) := by decide +kernel
theorem dX5_step_147 : decode cX5_step 147 = .ok (.aload_n 0, 1) := by decide +kernel
theorem dX5_step_148 : decode cX5_step 148 = .ok (.aload_n 0, 1) := by decide +kernel
theorem dX5_step_149 : decode cX5_step 149 = .ok (.getfield 70, 3) := by decide +kernel
theorem dX5_step_152 : decode cX5_step 152 = .ok (.aload_n 0, 1) := by decide +kernel
theorem dX5_step_153 : decode cX5_step 153 = .ok (.getfield 77, 3) := by decide +kernel
theorem dX5_step_156 : decode cX5_step 156 = .ok (.isub, 1) := by decide +kernel
theorem dX5_step_157 : decode cX5_step 157 = .ok (.bipush 7, 2) := by decide +kernel
theorem dX5_step_159 : decode cX5_step 159 = .ok (.if_icmp .ge 20, 3) := by decide +kernel
theorem dX5_step_162 : decode cX5_step 162 = .ok (.aload_n 0, 1) := by decide +kernel
theorem dX5_step_163 : decode cX5_step 163 = .ok (.getfield 80, 3) := by decide +kernel
theorem dX5_step_166 : decode cX5_step 166 = .ok (.ldc2_w 98, 3) := by decide +kernel
theorem dX5_step_169 : decode cX5_step 169 = .ok (.lmul, 1) := by decide +kernel
theorem dX5_step_170 : decode cX5_step 170 = .ok (.aload_n 0, 1) := by decide +kernel
theorem dX5_step_171 : decode cX5_step 171 = .ok (.invokevirtual 73, 3) := by decide +kernel
theorem dX5_step_174 : decode cX5_step 174 = .ok (.i2l, 1) := by decide +kernel
theorem dX5_step_175 : decode cX5_step 175 = .ok (.ladd, 1) := by decide +kernel
theorem dX5_step_176 : decode cX5_step 176 = .ok (.goto 6, 3) := by decide +kernel
theorem dX5_step_179 : decode cX5_step 179 = .ok (.ldc2_w 100, 3) := by decide +kernel
theorem dX5_step_182 : decode cX5_step 182 = .ok (.putfield 80, 3) := by decide +kernel
theorem dX5_step_185 : decode cX5_step 185 = .ok (.aload_n 0, 1) := by decide +kernel
theorem dX5_step_186 : decode cX5_step 186 = .ok (.dup, 1) := by decide +kernel
theorem dX5_step_187 : decode cX5_step 187 = .ok (.getfield 70, 3) := by decide +kernel
theorem dX5_step_190 : decode cX5_step 190 = .ok (.iconst 1, 1) := by decide +kernel
theorem dX5_step_191 : decode cX5_step 191 = .ok (.iadd, 1) := by decide +kernel
theorem dX5_step_192 : decode cX5_step 192 = .ok (.putfield 70, 3) := by decide +kernel
theorem dX5_step_195 : decode cX5_step 195 = .ok (.goto (-73), 3) := by decide +kernel
theorem dX5_step_198 : decode cX5_step 198 = .ok (.aload_n 0, 1) := by decide +kernel
theorem dX5_step_199 : decode cX5_step 199 = .ok (.getfield 95, 3) := by decide +kernel
theorem dX5_step_202 : decode cX5_step 202 = .ok (.iconst 2, 1) := by decide +kernel
theorem dX5_step_203 : decode cX5_step 203 = .ok (.if_icmp .ne 72, 3) := by decide +kernel
theorem dX5_step_206 : decode cX5_step 206 = .ok (.aload_n 0, 1) := by decide +kernel
theorem dX5_step_207 : decode cX5_step 207 = .ok (.invokevirtual 73, 3) := by decide +kernel
theorem dX5_step_210 : decode cX5_step 210 = .ok (.i2l, 1) := by decide +kernel
theorem dX5_step_211 : decode cX5_step 211 = .ok (.ldc2_w 91, 3) := by decide +kernel
theorem dX5_step_214 : decode cX5_step 214 = .ok (.ldc2_w 93, 3) := by decide +kernel
theorem dX5_step_217 : decode cX5_step 217 = .ok (.invokestatic 63, 3) := by decide +kernel
theorem dX5_step_220 : decode cX5_step 220 = .ok (.ifCond .eq 55, 3) := by decide +kernel
theorem dX5_step_223 : decode cX5_step 223 = .ok (.aload_n 0, 1) := by decide +kernel
theorem dX5_step_224 : decode cX5_step 224 = .ok (.aload_n 0, 1) := by decide +kernel
theorem dX5_step_225 : decode cX5_step 225 = .ok (.getfield 70, 3) := by decide +kernel
theorem dX5_step_228 : decode cX5_step 228 = .ok (.aload_n 0, 1) := by decide +kernel
theorem dX5_step_229 : decode cX5_step 229 = .ok (.getfield 77, 3) := by decide +kernel
theorem dX5_step_232 : decode cX5_step 232 = .ok (.isub, 1) := by decide +kernel
theorem dX5_step_233 : decode cX5_step 233 = .ok (.iconst 2, 1) := by decide +kernel
theorem dX5_step_234 : decode cX5_step 234 = .ok (.if_icmp .ge 21, 3) := by decide +kernel
theorem dX5_step_237 : decode cX5_step 237 = .ok (.bipush 10, 2) := by decide +kernel
theorem dX5_step_239 : decode cX5_step 239 = .ok (.aload_n 0, 1) := by decide +kernel
theorem dX5_step_240 : decode cX5_step 240 = .ok (.getfield 84, 3) := by decide +kernel
theorem dX5_step_243 : decode cX5_step 243 = .ok (.imul, 1) := by decide +kernel
theorem dX5_step_244 : decode cX5_step 244 = .ok (.aload_n 0, 1) := by decide +kernel
theorem dX5_step_245 : decode cX5_step 245 = .ok (.invokevirtual 73, 3) := by decide +kernel
theorem dX5_step_248 : decode cX5_step 248 = .ok (.iadd, 1) := by decide +kernel
theorem dX5_step_249 : decode cX5_step 249 = .ok (.bipush 48, 2) := by decide +kernel
theorem dX5_step_251 : decode cX5_step 251 = .ok (.isub, 1) := by decide +kernel
theorem dX5_step_252 : decode cX5_step 252 = .ok (.goto 7, 3) := by decide +kernel
theorem dX5_step_255 : decode cX5_step 255 = .ok (.aload_n 0, 1) := by decide +kernel
theorem dX5_step_256 : decode cX5_step 256 = .ok (.getfield 84, 3) := by decide +kernel
theorem dX5_step_259 : decode cX5_step 259 = .ok (.putfield 84, 3) := by decide +kernel
theorem dX5_step_262 : decode cX5_step 262 = .ok (.aload_n 0, 1) := by decide +kernel
theorem dX5_step_263 : decode cX5_step 263 = .ok (.dup, 1) := by decide +kernel
theorem dX5_step_264 : decode cX5_step 264 = .ok (.getfield 70, 3) := by decide +kernel
theorem dX5_step_267 : decode cX5_step 267 = .ok (.iconst 1, 1) := by decide +kernel
theorem dX5_step_268 : decode cX5_step 268 = .ok (.iadd, 1) := by decide +kernel
theorem dX5_step_269 : decode cX5_step 269 = .ok (.putfield 70, 3) := by decide +kernel
theorem dX5_step_272 : decode cX5_step 272 = .ok (.goto (-74), 3) := by decide +kernel
theorem dX5_step_275 : decode cX5_step 275 = .ok (.aload_n 0, 1) := by decide +kernel
theorem dX5_step_276 : decode cX5_step 276 = .ok (.aload_n 0, 1) := by decide +kernel
theorem dX5_step_277 : decode cX5_step 277 = .ok (.getfield 95, 3) := by decide +kernel
theorem dX5_step_280 : decode cX5_step 280 = .ok (.iconst 2, 1) := by decide +kernel
theorem dX5_step_281 : decode cX5_step 281 = .ok (.if_icmp .ne 20, 3) := by decide +kernel
theorem dX5_step_284 : decode cX5_step 284 = .ok (.aload_n 0, 1) := by decide +kernel
theorem dX5_step_285 : decode cX5_step 285 = .ok (.getfield 70, 3) := by decide +kernel
theorem dX5_step_288 : decode cX5_step 288 = .ok (.aload_n 0, 1) := by decide +kernel
theorem dX5_step_289 : decode cX5_step 289 = .ok (.getfield 77, 3) := by decide +kernel
theorem dX5_step_292 : decode cX5_step 292 = .ok (.isub, 1) := by decide +kernel
theorem dX5_step_293 : decode cX5_step 293 = .ok (.iconst 2, 1) := by decide +kernel
theorem dX5_step_294 : decode cX5_step 294 = .ok (.if_icmp .le 7, 3) := by decide +kernel
theorem dX5_step_297 : decode cX5_step 297 = .ok (.iconst 4, 1) := by decide +kernel
theorem dX5_step_298 : decode cX5_step 298 = .ok (.goto 7, 3) := by decide +kernel
theorem dX5_step_301 : decode cX5_step 301 = .ok (.aload_n 0, 1) := by decide +kernel
theorem dX5_step_302 : decode cX5_step 302 = .ok (.getfield 95, 3) := by decide +kernel
theorem dX5_step_305 : decode cX5_step 305 = .ok (.putfield 95, 3) := by decide +kernel
theorem dX5_step_308 : decode cX5_step 308 = .ok (.return_, 1) := by decide +kernel
theorem dX5_number_0 : decode cX5_number 0 = .ok (.aload_n 0, 1) := by decide +kernel
theorem dX5_number_1 : decode cX5_number 1 = .ok (.invokevirtual 102, 3) := by decide +kernel
theorem dX5_number_4 : decode cX5_number 4 = .ok (.aload_n 0, 1) := by decide +kernel
theorem dX5_number_5 : decode cX5_number 5 = .ok (.getfield 95, 3) := by decide +kernel
theorem dX5_number_8 : decode cX5_number 8 = .ok (.iconst 2, 1) := by decide +kernel
theorem dX5_number_9 : decode cX5_number 9 = .ok (.if_icmp .ne 15, 3) := by decide +kernel
theorem dX5_number_12 : decode cX5_number 12 = .ok (.aload_n 0, 1) := by decide +kernel
theorem dX5_number_13 : decode cX5_number 13 = .ok (.getfield 84, 3) := by decide +kernel
theorem dX5_number_16 : decode cX5_number 16 = .ok (.iload_n 1, 1) := by decide +kernel
theorem dX5_number_17 : decode cX5_number 17 = .ok (.if_icmp .gt 7, 3) := by decide +kernel
theorem dX5_number_20 : decode cX5_number 20 = .ok (.iconst 1, 1) := by decide +kernel
theorem dX5_number_21 : decode cX5_number 21 = .ok (.goto 4, 3) := by decide +kernel
theorem dX5_number_24 : decode cX5_number 24 = .ok (.iconst 0, 1) := by decide +kernel
theorem dX5_number_25 : decode cX5_number 25 = .ok (.ireturn, 1) := by decide +kernel
theorem dX5_readsPlace_0 : decode cX5_readsPlace 0 = .ok (.aload_n 0, 1) := by decide +kernel
theorem dX5_readsPlace_1 : decode cX5_readsPlace 1 = .ok (.getfield 13, 3) := by decide +kernel
theorem dX5_readsPlace_4 : decode cX5_readsPlace 4 = .ok (.iconst 0, 1) := by decide +kernel
theorem dX5_readsPlace_5 : decode cX5_readsPlace 5 = .ok (.iaload, 1) := by decide +kernel
theorem dX5_readsPlace_6 : decode cX5_readsPlace 6 = .ok (.istore_n 1, 1) := by decide +kernel
theorem dX5_readsPlace_7 : decode cX5_readsPlace 7 = .ok (.iload_n 1, 1) := by decide +kernel
theorem dX5_readsPlace_8 : decode cX5_readsPlace 8 = .ok (.bipush 8, 2) := by decide +kernel
theorem dX5_readsPlace_10 : decode cX5_readsPlace 10 = .ok (.if_icmp .eq 12, 3) := by decide +kernel
theorem dX5_readsPlace_13 : decode cX5_readsPlace 13 = .ok (.aload_n 0, 1) := by decide +kernel
theorem dX5_readsPlace_14 : decode cX5_readsPlace 14 = .ok (.bipush 7, 2) := by decide +kernel
theorem dX5_readsPlace_16 : decode cX5_readsPlace 16 = .ok (.invokevirtual 105, 3) := by decide +kernel
theorem dX5_readsPlace_19 : decode cX5_readsPlace 19 = .ok (.ifCond .ne 5, 3) := by decide +kernel
theorem dX5_readsPlace_22 : decode cX5_readsPlace 22 = .ok (.iconst 0, 1) := by decide +kernel
theorem dX5_readsPlace_23 : decode cX5_readsPlace 23 = .ok (.ireturn, 1) := by decide +kernel
theorem dX5_readsPlace_24 : decode cX5_readsPlace 24 = .ok (.aload_n 0, 1) := by decide +kernel
theorem dX5_readsPlace_25 : decode cX5_readsPlace 25 = .ok (.getfield 13, 3) := by decide +kernel
theorem dX5_readsPlace_28 : decode cX5_readsPlace 28 = .ok (.iconst 1, 1) := by decide +kernel
theorem dX5_readsPlace_29 : decode cX5_readsPlace 29 = .ok (.iload_n 1, 1) := by decide +kernel
theorem dX5_readsPlace_30 : decode cX5_readsPlace 30 = .ok (.iadd, 1) := by decide +kernel
theorem dX5_readsPlace_31 : decode cX5_readsPlace 31 = .ok (.aload_n 0, 1) := by decide +kernel
theorem dX5_readsPlace_32 : decode cX5_readsPlace 32 = .ok (.getfield 84, 3) := by decide +kernel
theorem dX5_readsPlace_35 : decode cX5_readsPlace 35 = .ok (.iastore, 1) := by decide +kernel
theorem dX5_readsPlace_36 : decode cX5_readsPlace 36 = .ok (.aload_n 0, 1) := by decide +kernel
theorem dX5_readsPlace_37 : decode cX5_readsPlace 37 = .ok (.bipush 9, 2) := by decide +kernel
theorem dX5_readsPlace_39 : decode cX5_readsPlace 39 = .ok (.invokevirtual 105, 3) := by decide +kernel
theorem dX5_readsPlace_42 : decode cX5_readsPlace 42 = .ok (.ifCond .ne 5, 3) := by decide +kernel
theorem dX5_readsPlace_45 : decode cX5_readsPlace 45 = .ok (.iconst 0, 1) := by decide +kernel
theorem dX5_readsPlace_46 : decode cX5_readsPlace 46 = .ok (.ireturn, 1) := by decide +kernel
theorem dX5_readsPlace_47 : decode cX5_readsPlace 47 = .ok (.aload_n 0, 1) := by decide +kernel
theorem dX5_readsPlace_48 : decode cX5_readsPlace 48 = .ok (.getfield 13, 3) := by decide +kernel
theorem dX5_readsPlace_51 : decode cX5_readsPlace 51 = .ok (.bipush 9, 2) := by decide +kernel
theorem dX5_readsPlace_53 : decode cX5_readsPlace 53 = .ok (.iload_n 1, 1) := by decide +kernel
theorem dX5_readsPlace_54 : decode cX5_readsPlace 54 = .ok (.iadd, 1) := by decide +kernel
theorem dX5_readsPlace_55 : decode cX5_readsPlace 55 = .ok (.aload_n 0, 1) := by decide +kernel
theorem dX5_readsPlace_56 : decode cX5_readsPlace 56 = .ok (.getfield 84, 3) := by decide +kernel
theorem dX5_readsPlace_59 : decode cX5_readsPlace 59 = .ok (.iastore, 1) := by decide +kernel
theorem dX5_readsPlace_60 : decode cX5_readsPlace 60 = .ok (.aload_n 0, 1) := by decide +kernel
theorem dX5_readsPlace_61 : decode cX5_readsPlace 61 = .ok (.bipush 9, 2) := by decide +kernel
theorem dX5_readsPlace_63 : decode cX5_readsPlace 63 = .ok (.invokevirtual 105, 3) := by decide +kernel
theorem dX5_readsPlace_66 : decode cX5_readsPlace 66 = .ok (.ifCond .ne 5, 3) := by decide +kernel
theorem dX5_readsPlace_69 : decode cX5_readsPlace 69 = .ok (.iconst 0, 1) := by decide +kernel
theorem dX5_readsPlace_70 : decode cX5_readsPlace 70 = .ok (.ireturn, 1) := by decide +kernel
theorem dX5_readsPlace_71 : decode cX5_readsPlace 71 = .ok (.aload_n 0, 1) := by decide +kernel
theorem dX5_readsPlace_72 : decode cX5_readsPlace 72 = .ok (.getfield 13, 3) := by decide +kernel
theorem dX5_readsPlace_75 : decode cX5_readsPlace 75 = .ok (.bipush 17, 2) := by decide +kernel
theorem dX5_readsPlace_77 : decode cX5_readsPlace 77 = .ok (.iload_n 1, 1) := by decide +kernel
theorem dX5_readsPlace_78 : decode cX5_readsPlace 78 = .ok (.iadd, 1) := by decide +kernel
theorem dX5_readsPlace_79 : decode cX5_readsPlace 79 = .ok (.aload_n 0, 1) := by decide +kernel
theorem dX5_readsPlace_80 : decode cX5_readsPlace 80 = .ok (.getfield 84, 3) := by decide +kernel
theorem dX5_readsPlace_83 : decode cX5_readsPlace 83 = .ok (.iastore, 1) := by decide +kernel
theorem dX5_readsPlace_84 : decode cX5_readsPlace 84 = .ok (.aload_n 0, 1) := by decide +kernel
theorem dX5_readsPlace_85 : decode cX5_readsPlace 85 = .ok (.getfield 13, 3) := by decide +kernel
theorem dX5_readsPlace_88 : decode cX5_readsPlace 88 = .ok (.iconst 0, 1) := by decide +kernel
theorem dX5_readsPlace_89 : decode cX5_readsPlace 89 = .ok (.dup2, 1) := by decide +kernel
theorem dX5_readsPlace_90 : decode cX5_readsPlace 90 = .ok (.iaload, 1) := by decide +kernel
theorem dX5_readsPlace_91 : decode cX5_readsPlace 91 = .ok (.iconst 1, 1) := by decide +kernel
theorem dX5_readsPlace_92 : decode cX5_readsPlace 92 = .ok (.iadd, 1) := by decide +kernel
theorem dX5_readsPlace_93 : decode cX5_readsPlace 93 = .ok (.iastore, 1) := by decide +kernel
theorem dX5_readsPlace_94 : decode cX5_readsPlace 94 = .ok (.iconst 1, 1) := by decide +kernel
theorem dX5_readsPlace_95 : decode cX5_readsPlace 95 = .ok (.ireturn, 1) := by decide +kernel
theorem dX5_readsHen_0 : decode cX5_readsHen 0 = .ok (.aload_n 0, 1) := by decide +kernel
theorem dX5_readsHen_1 : decode cX5_readsHen 1 = .ok (.getfield 13, 3) := by decide +kernel
theorem dX5_readsHen_4 : decode cX5_readsHen 4 = .ok (.bipush 25, 2) := by decide +kernel
theorem dX5_readsHen_6 : decode cX5_readsHen 6 = .ok (.iaload, 1) := by decide +kernel
theorem dX5_readsHen_7 : decode cX5_readsHen 7 = .ok (.istore_n 2, 1) := by decide +kernel
theorem dX5_readsHen_8 : decode cX5_readsHen 8 = .ok (.iload_n 2, 1) := by decide +kernel
theorem dX5_readsHen_9 : decode cX5_readsHen 9 = .ok (.iconst 5, 1) := by decide +kernel
theorem dX5_readsHen_10 : decode cX5_readsHen 10 = .ok (.if_icmp .eq 12, 3) := by decide +kernel
theorem dX5_readsHen_13 : decode cX5_readsHen 13 = .ok (.aload_n 0, 1) := by decide +kernel
theorem dX5_readsHen_14 : decode cX5_readsHen 14 = .ok (.bipush 9, 2) := by decide +kernel
theorem dX5_readsHen_16 : decode cX5_readsHen 16 = .ok (.invokevirtual 105, 3) := by decide +kernel
theorem dX5_readsHen_19 : decode cX5_readsHen 19 = .ok (.ifCond .ne 5, 3) := by decide +kernel
theorem dX5_readsHen_22 : decode cX5_readsHen 22 = .ok (.iconst 0, 1) := by decide +kernel
theorem dX5_readsHen_23 : decode cX5_readsHen 23 = .ok (.ireturn, 1) := by decide +kernel
theorem dX5_readsHen_24 : decode cX5_readsHen 24 = .ok (.aload_n 0, 1) := by decide +kernel
theorem dX5_readsHen_25 : decode cX5_readsHen 25 = .ok (.getfield 13, 3) := by decide +kernel
theorem dX5_readsHen_28 : decode cX5_readsHen 28 = .ok (.bipush 26, 2) := by decide +kernel
theorem dX5_readsHen_30 : decode cX5_readsHen 30 = .ok (.iload_n 2, 1) := by decide +kernel
theorem dX5_readsHen_31 : decode cX5_readsHen 31 = .ok (.iadd, 1) := by decide +kernel
theorem dX5_readsHen_32 : decode cX5_readsHen 32 = .ok (.iload_n 1, 1) := by decide +kernel
theorem dX5_readsHen_33 : decode cX5_readsHen 33 = .ok (.iastore, 1) := by decide +kernel
theorem dX5_readsHen_34 : decode cX5_readsHen 34 = .ok (.aload_n 0, 1) := by decide +kernel
theorem dX5_readsHen_35 : decode cX5_readsHen 35 = .ok (.getfield 13, 3) := by decide +kernel
theorem dX5_readsHen_38 : decode cX5_readsHen 38 = .ok (.bipush 31, 2) := by decide +kernel
theorem dX5_readsHen_40 : decode cX5_readsHen 40 = .ok (.iload_n 2, 1) := by decide +kernel
theorem dX5_readsHen_41 : decode cX5_readsHen 41 = .ok (.iadd, 1) := by decide +kernel
theorem dX5_readsHen_42 : decode cX5_readsHen 42 = .ok (.aload_n 0, 1) := by decide +kernel
theorem dX5_readsHen_43 : decode cX5_readsHen 43 = .ok (.getfield 84, 3) := by decide +kernel
theorem dX5_readsHen_46 : decode cX5_readsHen 46 = .ok (.iastore, 1) := by decide +kernel
theorem dX5_readsHen_47 : decode cX5_readsHen 47 = .ok (.aload_n 0, 1) := by decide +kernel
theorem dX5_readsHen_48 : decode cX5_readsHen 48 = .ok (.getfield 13, 3) := by decide +kernel
theorem dX5_readsHen_51 : decode cX5_readsHen 51 = .ok (.bipush 25, 2) := by decide +kernel
theorem dX5_readsHen_53 : decode cX5_readsHen 53 = .ok (.dup2, 1) := by decide +kernel
theorem dX5_readsHen_54 : decode cX5_readsHen 54 = .ok (.iaload, 1) := by decide +kernel
theorem dX5_readsHen_55 : decode cX5_readsHen 55 = .ok (.iconst 1, 1) := by decide +kernel
theorem dX5_readsHen_56 : decode cX5_readsHen 56 = .ok (.iadd, 1) := by decide +kernel
theorem dX5_readsHen_57 : decode cX5_readsHen 57 = .ok (.iastore, 1) := by decide +kernel
theorem dX5_readsHen_58 : decode cX5_readsHen 58 = .ok (.iconst 1, 1) := by decide +kernel
theorem dX5_readsHen_59 : decode cX5_readsHen 59 = .ok (.ireturn, 1) := by decide +kernel
theorem dX5_readsNews_0 : decode cX5_readsNews 0 = .ok (.aload_n 0, 1) := by decide +kernel
theorem dX5_readsNews_1 : decode cX5_readsNews 1 = .ok (.bipush 13, 2) := by decide +kernel
theorem dX5_readsNews_3 : decode cX5_readsNews 3 = .ok (.invokevirtual 105, 3) := by decide +kernel
theorem dX5_readsNews_6 : decode cX5_readsNews 6 = .ok (.ifCond .ne 5, 3) := by decide +kernel
theorem dX5_readsNews_9 : decode cX5_readsNews 9 = .ok (.iconst 0, 1) := by decide +kernel
theorem dX5_readsNews_10 : decode cX5_readsNews 10 = .ok (.ireturn, 1) := by decide +kernel
theorem dX5_readsNews_11 : decode cX5_readsNews 11 = .ok (.aload_n 0, 1) := by decide +kernel
theorem dX5_readsNews_12 : decode cX5_readsNews 12 = .ok (.getfield 84, 3) := by decide +kernel
theorem dX5_readsNews_15 : decode cX5_readsNews 15 = .ok (.istore_n 1, 1) := by decide +kernel
theorem dX5_readsNews_16 : decode cX5_readsNews 16 = .ok (.aload_n 0, 1) := by decide +kernel
theorem dX5_readsNews_17 : decode cX5_readsNews 17 = .ok (.bipush 7, 2) := by decide +kernel
theorem dX5_readsNews_19 : decode cX5_readsNews 19 = .ok (.invokevirtual 105, 3) := by decide +kernel
theorem dX5_readsNews_22 : decode cX5_readsNews 22 = .ok (.ifCond .ne 5, 3) := by decide +kernel
theorem dX5_readsNews_25 : decode cX5_readsNews 25 = .ok (.iconst 0, 1) := by decide +kernel
theorem dX5_readsNews_26 : decode cX5_readsNews 26 = .ok (.ireturn, 1) := by decide +kernel
theorem dX5_readsNews_27 : decode cX5_readsNews 27 = .ok (.aload_n 0, 1) := by decide +kernel
theorem dX5_readsNews_28 : decode cX5_readsNews 28 = .ok (.getfield 13, 3) := by decide +kernel
theorem dX5_readsNews_31 : decode cX5_readsNews 31 = .ok (.bipush 36, 2) := by decide +kernel
theorem dX5_readsNews_33 : decode cX5_readsNews 33 = .ok (.iload_n 1, 1) := by decide +kernel
theorem dX5_readsNews_34 : decode cX5_readsNews 34 = .ok (.iadd, 1) := by decide +kernel
theorem dX5_readsNews_35 : decode cX5_readsNews 35 = .ok (.aload_n 0, 1) := by decide +kernel
theorem dX5_readsNews_36 : decode cX5_readsNews 36 = .ok (.getfield 84, 3) := by decide +kernel
theorem dX5_readsNews_39 : decode cX5_readsNews 39 = .ok (.iastore, 1) := by decide +kernel
theorem dX5_readsNews_40 : decode cX5_readsNews 40 = .ok (.iconst 1, 1) := by decide +kernel
theorem dX5_readsNews_41 : decode cX5_readsNews 41 = .ok (.ireturn, 1) := by decide +kernel
theorem dX5_calm_0 : decode cX5_calm 0 = .ok (.iconst 0, 1) := by decide +kernel
theorem dX5_calm_1 : decode cX5_calm 1 = .ok (.istore_n 1, 1) := by decide +kernel
theorem dX5_calm_2 : decode cX5_calm 2 = .ok (.iload_n 1, 1) := by decide +kernel
theorem dX5_calm_3 : decode cX5_calm 3 = .ok (.bipush 14, 2) := by decide +kernel
theorem dX5_calm_5 : decode cX5_calm 5 = .ok (.if_icmp .ge 19, 3) := by decide +kernel
theorem dX5_calm_8 : decode cX5_calm 8 = .ok (.aload_n 0, 1) := by decide +kernel
theorem dX5_calm_9 : decode cX5_calm 9 = .ok (.getfield 13, 3) := by decide +kernel
theorem dX5_calm_12 : decode cX5_calm 12 = .ok (.bipush 36, 2) := by decide +kernel
theorem dX5_calm_14 : decode cX5_calm 14 = .ok (.iload_n 1, 1) := by decide +kernel
theorem dX5_calm_15 : decode cX5_calm 15 = .ok (.iadd, 1) := by decide +kernel
theorem dX5_calm_16 : decode cX5_calm 16 = .ok (.iconst (-1), 1) := by decide +kernel
theorem dX5_calm_17 : decode cX5_calm 17 = .ok (.iastore, 1) := by decide +kernel
theorem dX5_calm_18 : decode cX5_calm 18 = .ok (.iinc 1 1, 3) := by decide +kernel
theorem dX5_calm_21 : decode cX5_calm 21 = .ok (.goto (-19), 3) := by decide +kernel
theorem dX5_calm_24 : decode cX5_calm 24 = .ok (.iconst 1, 1) := by decide +kernel
theorem dX5_calm_25 : decode cX5_calm 25 = .ok (.ireturn, 1) := by decide +kernel
theorem dX5_anew_0 : decode cX5_anew 0 = .ok (.aload_n 0, 1) := by decide +kernel
theorem dX5_anew_1 : decode cX5_anew 1 = .ok (.getfield 13, 3) := by decide +kernel
theorem dX5_anew_4 : decode cX5_anew 4 = .ok (.invokestatic 47, 3) := by decide +kernel
theorem dX5_anew_7 : decode cX5_anew 7 = .ok (.iconst 1, 1) := by decide +kernel
theorem dX5_anew_8 : decode cX5_anew 8 = .ok (.ireturn, 1) := by decide +kernel
theorem dX5_readsClause_0 : decode cX5_readsClause 0 = .ok (.aload_n 0, 1) := by decide +kernel
theorem dX5_readsClause_1 : decode cX5_readsClause 1 = .ok (.getfield 95, 3) := by decide +kernel
theorem dX5_readsClause_4 : decode cX5_readsClause 4 = .ok (.iconst 1, 1) := by decide +kernel
theorem dX5_readsClause_5 : decode cX5_readsClause 5 = .ok (.if_icmp .eq 5, 3) := by decide +kernel
theorem dX5_readsClause_8 : decode cX5_readsClause 8 = .ok (.iconst 0, 1) := by decide +kernel
theorem dX5_readsClause_9 : decode cX5_readsClause 9 = .ok (.ireturn, 1) := by decide +kernel
theorem dX5_readsClause_10 : decode cX5_readsClause 10 = .ok (.aload_n 0, 1) := by decide +kernel
theorem dX5_readsClause_11 : decode cX5_readsClause 11 = .ok (.getfield 80, 3) := by decide +kernel
theorem dX5_readsClause_14 : decode cX5_readsClause 14 = .ok (.lstore_n 1, 1) := by decide +kernel
theorem dX5_readsClause_15 : decode cX5_readsClause 15 = .ok (.lload_n 1, 1) := by decide +kernel
theorem dX5_readsClause_16 : decode cX5_readsClause 16 = .ok (.ldc2_w 109, 3) := by decide +kernel
theorem dX5_readsClause_19 : decode cX5_readsClause 19 = .ok (.lcmp, 1) := by decide +kernel
theorem dX5_readsClause_20 : decode cX5_readsClause 20 = .ok (.ifCond .ne 8, 3) := by decide +kernel
theorem dX5_readsClause_23 : decode cX5_readsClause 23 = .ok (.aload_n 0, 1) := by decide +kernel
theorem dX5_readsClause_24 : decode cX5_readsClause 24 = .ok (.invokevirtual 111, 3) := by decide +kernel
theorem dX5_readsClause_27 : decode cX5_readsClause 27 = .ok (.ireturn, 1) := by decide +kernel
theorem dX5_readsClause_28 : decode cX5_readsClause 28 = .ok (.lload_n 1, 1) := by decide +kernel
theorem dX5_readsClause_29 : decode cX5_readsClause 29 = .ok (.ldc2_w 115, 3) := by decide +kernel
theorem dX5_readsClause_32 : decode cX5_readsClause 32 = .ok (.lcmp, 1) := by decide +kernel
theorem dX5_readsClause_33 : decode cX5_readsClause 33 = .ok (.ifCond .ne 8, 3) := by decide +kernel
theorem dX5_readsClause_36 : decode cX5_readsClause 36 = .ok (.aload_n 0, 1) := by decide +kernel
theorem dX5_readsClause_37 : decode cX5_readsClause 37 = .ok (.invokevirtual 117, 3) := by decide +kernel
theorem dX5_readsClause_40 : decode cX5_readsClause 40 = .ok (.ireturn, 1) := by decide +kernel
theorem dX5_readsClause_41 : decode cX5_readsClause 41 = .ok (.lload_n 1, 1) := by decide +kernel
theorem dX5_readsClause_42 : decode cX5_readsClause 42 = .ok (.ldc2_w 120, 3) := by decide +kernel
theorem dX5_readsClause_45 : decode cX5_readsClause 45 = .ok (.lcmp, 1) := by decide +kernel
theorem dX5_readsClause_46 : decode cX5_readsClause 46 = .ok (.ifCond .ne 8, 3) := by decide +kernel
theorem dX5_readsClause_49 : decode cX5_readsClause 49 = .ok (.aload_n 0, 1) := by decide +kernel
theorem dX5_readsClause_50 : decode cX5_readsClause 50 = .ok (.invokevirtual 122, 3) := by decide +kernel
theorem dX5_readsClause_53 : decode cX5_readsClause 53 = .ok (.ireturn, 1) := by decide +kernel
theorem dX5_readsClause_54 : decode cX5_readsClause 54 = .ok (.lload_n 1, 1) := by decide +kernel
theorem dX5_readsClause_55 : decode cX5_readsClause 55 = .ok (.ldc2_w 125, 3) := by decide +kernel
theorem dX5_readsClause_58 : decode cX5_readsClause 58 = .ok (.lcmp, 1) := by decide +kernel
theorem dX5_readsClause_59 : decode cX5_readsClause 59 = .ok (.ifCond .ne 8, 3) := by decide +kernel
theorem dX5_readsClause_62 : decode cX5_readsClause 62 = .ok (.aload_n 0, 1) := by decide +kernel
theorem dX5_readsClause_63 : decode cX5_readsClause 63 = .ok (.invokevirtual 127, 3) := by decide +kernel
theorem dX5_readsClause_66 : decode cX5_readsClause 66 = .ok (.ireturn, 1) := by decide +kernel
theorem dX5_readsClause_67 : decode cX5_readsClause 67 = .ok (.lload_n 1, 1) := by decide +kernel
theorem dX5_readsClause_68 : decode cX5_readsClause 68 = .ok (.ldc2_w 130, 3) := by decide +kernel
theorem dX5_readsClause_71 : decode cX5_readsClause 71 = .ok (.lcmp, 1) := by decide +kernel
theorem dX5_readsClause_72 : decode cX5_readsClause 72 = .ok (.ifCond .ne 7, 3) := by decide +kernel
theorem dX5_readsClause_75 : decode cX5_readsClause 75 = .ok (.iconst 0, 1) := by decide +kernel
theorem dX5_readsClause_76 : decode cX5_readsClause 76 = .ok (.goto 40, 3) := by decide +kernel
theorem dX5_readsClause_79 : decode cX5_readsClause 79 = .ok (.lload_n 1, 1) := by decide +kernel
theorem dX5_readsClause_80 : decode cX5_readsClause 80 = .ok (.ldc2_w 132, 3) := by decide +kernel
theorem dX5_readsClause_83 : decode cX5_readsClause 83 = .ok (.lcmp, 1) := by decide +kernel
theorem dX5_readsClause_84 : decode cX5_readsClause 84 = .ok (.ifCond .ne 7, 3) := by decide +kernel
theorem dX5_readsClause_87 : decode cX5_readsClause 87 = .ok (.iconst 1, 1) := by decide +kernel
theorem dX5_readsClause_88 : decode cX5_readsClause 88 = .ok (.goto 28, 3) := by decide +kernel
theorem dX5_readsClause_91 : decode cX5_readsClause 91 = .ok (.lload_n 1, 1) := by decide +kernel
theorem dX5_readsClause_92 : decode cX5_readsClause 92 = .ok (.ldc2_w 134, 3) := by decide +kernel
theorem dX5_readsClause_95 : decode cX5_readsClause 95 = .ok (.lcmp, 1) := by decide +kernel
theorem dX5_readsClause_96 : decode cX5_readsClause 96 = .ok (.ifCond .ne 7, 3) := by decide +kernel
theorem dX5_readsClause_99 : decode cX5_readsClause 99 = .ok (.iconst 2, 1) := by decide +kernel
theorem dX5_readsClause_100 : decode cX5_readsClause 100 = .ok (.goto 16, 3) := by decide +kernel
theorem dX5_readsClause_103 : decode cX5_readsClause 103 = .ok (.lload_n 1, 1) := by decide +kernel
theorem dX5_readsClause_104 : decode cX5_readsClause 104 = .ok (.ldc2_w 136, 3) := by decide +kernel
theorem dX5_readsClause_107 : decode cX5_readsClause 107 = .ok (.lcmp, 1) := by decide +kernel
theorem dX5_readsClause_108 : decode cX5_readsClause 108 = .ok (.ifCond .ne 7, 3) := by decide +kernel
theorem dX5_readsClause_111 : decode cX5_readsClause 111 = .ok (.iconst 3, 1) := by decide +kernel
theorem dX5_readsClause_112 : decode cX5_readsClause 112 = .ok (.goto 4, 3) := by decide +kernel
theorem dX5_readsClause_115 : decode cX5_readsClause 115 = .ok (.iconst (-1), 1) := by decide +kernel
theorem dX5_readsClause_116 : decode cX5_readsClause 116 = .ok (.istore_n 3, 1) := by decide +kernel
theorem dX5_readsClause_117 : decode cX5_readsClause 117 = .ok (.iload_n 3, 1) := by decide +kernel
theorem dX5_readsClause_118 : decode cX5_readsClause 118 = .ok (.ifCond .lt 15, 3) := by decide +kernel
theorem dX5_readsClause_121 : decode cX5_readsClause 121 = .ok (.aload_n 0, 1) := by decide +kernel
theorem dX5_readsClause_122 : decode cX5_readsClause 122 = .ok (.iload_n 3, 1) := by decide +kernel
theorem dX5_readsClause_123 : decode cX5_readsClause 123 = .ok (.invokevirtual 138, 3) := by decide +kernel
theorem dX5_readsClause_126 : decode cX5_readsClause 126 = .ok (.ifCond .eq 7, 3) := by decide +kernel
theorem dX5_readsClause_129 : decode cX5_readsClause 129 = .ok (.iconst 1, 1) := by decide +kernel
theorem dX5_readsClause_130 : decode cX5_readsClause 130 = .ok (.goto 4, 3) := by decide +kernel
theorem dX5_readsClause_133 : decode cX5_readsClause 133 = .ok (.iconst 0, 1) := by decide +kernel
theorem dX5_readsClause_134 : decode cX5_readsClause 134 = .ok (.ireturn, 1) := by decide +kernel
theorem dX5_reads_0 : decode cX5_reads 0 = .ok (.aload_n 0, 1) := by decide +kernel
theorem dX5_reads_1 : decode cX5_reads 1 = .ok (.getfield 7, 3) := by decide +kernel
theorem dX5_reads_4 : decode cX5_reads 4 = .ok (.iconst 0, 1) := by decide +kernel
theorem dX5_reads_5 : decode cX5_reads 5 = .ok (.aload_n 0, 1) := by decide +kernel
theorem dX5_reads_6 : decode cX5_reads 6 = .ok (.getfield 13, 3) := by decide +kernel
theorem dX5_reads_9 : decode cX5_reads 9 = .ok (.iconst 0, 1) := by decide +kernel
theorem dX5_reads_10 : decode cX5_reads 10 = .ok (.bipush 50, 2) := by decide +kernel
theorem dX5_reads_12 : decode cX5_reads 12 = .ok (.invokestatic 141, 3) := by decide +kernel
theorem dX5_reads_15 : decode cX5_reads 15 = .ok (.aload_n 0, 1) := by decide +kernel
theorem dX5_reads_16 : decode cX5_reads 16 = .ok (.iconst 0, 1) := by decide +kernel
theorem dX5_reads_17 : decode cX5_reads 17 = .ok (.putfield 70, 3) := by decide +kernel
theorem dX5_reads_20 : decode cX5_reads 20 = .ok (.aload_n 0, 1) := by decide +kernel
theorem dX5_reads_21 : decode cX5_reads 21 = .ok (.iconst 0, 1) := by decide +kernel
theorem dX5_reads_22 : decode cX5_reads 22 = .ok (.putfield 145, 3) := by decide +kernel
theorem dX5_reads_25 : decode cX5_reads 25 = .ok (.iconst 1, 1) := by decide +kernel
theorem dX5_reads_26 : decode cX5_reads 26 = .ok (.istore_n 1, 1) := by decide +kernel
theorem dX5_reads_27 : decode cX5_reads 27 = .ok (.iload_n 1, 1) := by decide +kernel
theorem dX5_reads_28 : decode cX5_reads 28 = .ok (.ifCond .eq 59, 3) := by decide +kernel
theorem dX5_reads_31 : decode cX5_reads 31 = .ok (.aload_n 0, 1) := by decide +kernel
theorem dX5_reads_32 : decode cX5_reads 32 = .ok (.invokevirtual 102, 3) := by decide +kernel
theorem dX5_reads_35 : decode cX5_reads 35 = .ok (.aload_n 0, 1) := by decide +kernel
theorem dX5_reads_36 : decode cX5_reads 36 = .ok (.invokevirtual 148, 3) := by decide +kernel
theorem dX5_reads_39 : decode cX5_reads 39 = .ok (.ifCond .ne 8, 3) := by decide +kernel
theorem dX5_reads_42 : decode cX5_reads 42 = .ok (.aload_n 0, 1) := by decide +kernel
theorem dX5_reads_43 : decode cX5_reads 43 = .ok (.getfield 77, 3) := by decide +kernel
theorem dX5_reads_46 : decode cX5_reads 46 = .ok (.ireturn, 1) := by decide +kernel
theorem dX5_reads_47 : decode cX5_reads 47 = .ok (.aload_n 0, 1) := by decide +kernel
theorem dX5_reads_48 : decode cX5_reads 48 = .ok (.dup, 1) := by decide +kernel
theorem dX5_reads_49 : decode cX5_reads 49 = .ok (.getfield 145, 3) := by decide +kernel
theorem dX5_reads_52 : decode cX5_reads 52 = .ok (.iconst 1, 1) := by decide +kernel
theorem dX5_reads_53 : decode cX5_reads 53 = .ok (.iadd, 1) := by decide +kernel
theorem dX5_reads_54 : decode cX5_reads 54 = .ok (.putfield 145, 3) := by decide +kernel
theorem dX5_reads_57 : decode cX5_reads 57 = .ok (.aload_n 0, 1) := by decide +kernel
theorem dX5_reads_58 : decode cX5_reads 58 = .ok (.invokevirtual 102, 3) := by decide +kernel
theorem dX5_reads_61 : decode cX5_reads 61 = .ok (.aload_n 0, 1) := by decide +kernel
theorem dX5_reads_62 : decode cX5_reads 62 = .ok (.getfield 95, 3) := by decide +kernel
theorem dX5_reads_65 : decode cX5_reads 65 = .ok (.iconst 3, 1) := by decide +kernel
theorem dX5_reads_66 : decode cX5_reads 66 = .ok (.if_icmp .ne 16, 3) := by decide +kernel
theorem dX5_reads_69 : decode cX5_reads 69 = .ok (.aload_n 0, 1) := by decide +kernel
theorem dX5_reads_70 : decode cX5_reads 70 = .ok (.getfield 145, 3) := by decide +kernel
theorem dX5_reads_73 : decode cX5_reads 73 = .ok (.bipush 14, 2) := by decide +kernel
theorem dX5_reads_75 : decode cX5_reads 75 = .ok (.if_icmp .ge 7, 3) := by decide +kernel
theorem dX5_reads_78 : decode cX5_reads 78 = .ok (.iconst 1, 1) := by decide +kernel
theorem dX5_reads_79 : decode cX5_reads 79 = .ok (.goto 4, 3) := by decide +kernel
theorem dX5_reads_82 : decode cX5_reads 82 = .ok (.iconst 0, 1) := by decide +kernel
theorem dX5_reads_83 : decode cX5_reads 83 = .ok (.istore_n 1, 1) := by decide +kernel
theorem dX5_reads_84 : decode cX5_reads 84 = .ok (.goto (-57), 3) := by decide +kernel
theorem dX5_reads_87 : decode cX5_reads 87 = .ok (.aload_n 0, 1) := by decide +kernel
theorem dX5_reads_88 : decode cX5_reads 88 = .ok (.getfield 95, 3) := by decide +kernel
theorem dX5_reads_91 : decode cX5_reads 91 = .ok (.ifCond .ne 7, 3) := by decide +kernel
theorem dX5_reads_94 : decode cX5_reads 94 = .ok (.iconst (-1), 1) := by decide +kernel
theorem dX5_reads_95 : decode cX5_reads 95 = .ok (.goto 7, 3) := by decide +kernel
theorem dX5_reads_98 : decode cX5_reads 98 = .ok (.aload_n 0, 1) := by decide +kernel
theorem dX5_reads_99 : decode cX5_reads 99 = .ok (.getfield 77, 3) := by decide +kernel
theorem dX5_reads_102 : decode cX5_reads 102 = .ok (.ireturn, 1) := by decide +kernel
theorem dX5_fault_0 : decode cX5_fault 0 = .ok (.aload_n 0, 1) := by decide +kernel
theorem dX5_fault_1 : decode cX5_fault 1 = .ok (.invokevirtual 151, 3) := by decide +kernel
theorem dX5_fault_4 : decode cX5_fault 4 = .ok (.ireturn, 1) := by decide +kernel
theorem dX5_yard_0 : decode cX5_yard 0 = .ok (.aload_n 0, 1) := by decide +kernel
theorem dX5_yard_1 : decode cX5_yard 1 = .ok (.invokevirtual 151, 3) := by decide +kernel
theorem dX5_yard_4 : decode cX5_yard 4 = .ok (.iconst (-1), 1) := by decide +kernel
theorem dX5_yard_5 : decode cX5_yard 5 = .ok (.if_icmp .eq 6, 3) := by decide +kernel
theorem dX5_yard_8 : decode cX5_yard 8 = .ok (.bipush (-4), 2) := by decide +kernel
theorem dX5_yard_10 : decode cX5_yard 10 = .ok (.ireturn, 1) := by decide +kernel
theorem dX5_yard_11 : decode cX5_yard 11 = .ok (.aload_n 0, 1) := by decide +kernel
theorem dX5_yard_12 : decode cX5_yard 12 = .ok (.getfield 13, 3) := by decide +kernel
theorem dX5_yard_15 : decode cX5_yard 15 = .ok (.iconst 0, 1) := by decide +kernel
theorem dX5_yard_16 : decode cX5_yard 16 = .ok (.aload_n 0, 1) := by decide +kernel
theorem dX5_yard_17 : decode cX5_yard 17 = .ok (.getfield 7, 3) := by decide +kernel
theorem dX5_yard_20 : decode cX5_yard 20 = .ok (.iconst 0, 1) := by decide +kernel
theorem dX5_yard_21 : decode cX5_yard 21 = .ok (.bipush 50, 2) := by decide +kernel
theorem dX5_yard_23 : decode cX5_yard 23 = .ok (.invokestatic 141, 3) := by decide +kernel
theorem dX5_yard_26 : decode cX5_yard 26 = .ok (.aload_n 0, 1) := by decide +kernel
theorem dX5_yard_27 : decode cX5_yard 27 = .ok (.iconst 0, 1) := by decide +kernel
theorem dX5_yard_28 : decode cX5_yard 28 = .ok (.putfield 67, 3) := by decide +kernel
theorem dX5_yard_31 : decode cX5_yard 31 = .ok (.aload_n 0, 1) := by decide +kernel
theorem dX5_yard_32 : decode cX5_yard 32 = .ok (.invokevirtual 51, 3) := by decide +kernel
theorem dX5_yard_35 : decode cX5_yard 35 = .ok (.aload_n 0, 1) := by decide +kernel
theorem dX5_yard_36 : decode cX5_yard 36 = .ok (.getfield 145, 3) := by decide +kernel
theorem dX5_yard_39 : decode cX5_yard 39 = .ok (.ireturn, 1) := by decide +kernel
theorem dX5_isPlace_0 : decode cX5_isPlace 0 = .ok (.iload_n 1, 1) := by decide +kernel
theorem dX5_isPlace_1 : decode cX5_isPlace 1 = .ok (.i2l, 1) := by decide +kernel
theorem dX5_isPlace_2 : decode cX5_isPlace 2 = .ok (.lconst 0, 1) := by decide +kernel
theorem dX5_isPlace_3 : decode cX5_isPlace 3 = .ok (.aload_n 0, 1) := by decide +kernel
theorem dX5_isPlace_4 : decode cX5_isPlace 4 = .ok (.getfield 7, 3) := by decide +kernel
theorem dX5_isPlace_7 : decode cX5_isPlace 7 = .ok (.iconst 0, 1) := by decide +kernel
theorem dX5_isPlace_8 : decode cX5_isPlace 8 = .ok (.iaload, 1) := by decide +kernel
theorem dX5_isPlace_9 : decode cX5_isPlace 9 = .ok (.iconst 1, 1) := by decide +kernel
theorem dX5_isPlace_10 : decode cX5_isPlace 10 = .ok (.isub, 1) := by decide +kernel
theorem dX5_isPlace_11 : decode cX5_isPlace 11 = .ok (.i2l, 1) := by decide +kernel
theorem dX5_isPlace_12 : decode cX5_isPlace 12 = .ok (.invokestatic 63, 3) := by decide +kernel
theorem dX5_isPlace_15 : decode cX5_isPlace 15 = .ok (.ireturn, 1) := by decide +kernel
theorem dX5_isHen_0 : decode cX5_isHen 0 = .ok (.iload_n 1, 1) := by decide +kernel
theorem dX5_isHen_1 : decode cX5_isHen 1 = .ok (.i2l, 1) := by decide +kernel
theorem dX5_isHen_2 : decode cX5_isHen 2 = .ok (.lconst 0, 1) := by decide +kernel
theorem dX5_isHen_3 : decode cX5_isHen 3 = .ok (.aload_n 0, 1) := by decide +kernel
theorem dX5_isHen_4 : decode cX5_isHen 4 = .ok (.getfield 7, 3) := by decide +kernel
theorem dX5_isHen_7 : decode cX5_isHen 7 = .ok (.bipush 25, 2) := by decide +kernel
theorem dX5_isHen_9 : decode cX5_isHen 9 = .ok (.iaload, 1) := by decide +kernel
theorem dX5_isHen_10 : decode cX5_isHen 10 = .ok (.iconst 1, 1) := by decide +kernel
theorem dX5_isHen_11 : decode cX5_isHen 11 = .ok (.isub, 1) := by decide +kernel
theorem dX5_isHen_12 : decode cX5_isHen 12 = .ok (.i2l, 1) := by decide +kernel
theorem dX5_isHen_13 : decode cX5_isHen 13 = .ok (.invokestatic 63, 3) := by decide +kernel
theorem dX5_isHen_16 : decode cX5_isHen 16 = .ok (.ireturn, 1) := by decide +kernel
theorem dX5_isTwo_0 : decode cX5_isTwo 0 = .ok (.iload_n 0, 1) := by decide +kernel
theorem dX5_isTwo_1 : decode cX5_isTwo 1 = .ok (.i2l, 1) := by decide +kernel
theorem dX5_isTwo_2 : decode cX5_isTwo 2 = .ok (.lconst 0, 1) := by decide +kernel
theorem dX5_isTwo_3 : decode cX5_isTwo 3 = .ok (.lconst 1, 1) := by decide +kernel
theorem dX5_isTwo_4 : decode cX5_isTwo 4 = .ok (.invokestatic 63, 3) := by decide +kernel
theorem dX5_isTwo_7 : decode cX5_isTwo 7 = .ok (.ireturn, 1) := by decide +kernel
theorem dX5_asTold_0 : decode cX5_asTold 0 = .ok (.aload_n 0, 1) := by decide +kernel
theorem dX5_asTold_1 : decode cX5_asTold 1 = .ok (.getfield 7, 3) := by decide +kernel
theorem dX5_asTold_4 : decode cX5_asTold 4 = .ok (.bipush 26, 2) := by decide +kernel
theorem dX5_asTold_6 : decode cX5_asTold 6 = .ok (.aload_n 0, 1) := by decide +kernel
theorem dX5_asTold_7 : decode cX5_asTold 7 = .ok (.getfield 35, 3) := by decide +kernel
theorem dX5_asTold_10 : decode cX5_asTold 10 = .ok (.iconst 0, 1) := by decide +kernel
theorem dX5_asTold_11 : decode cX5_asTold 11 = .ok (.iconst 5, 1) := by decide +kernel
theorem dX5_asTold_12 : decode cX5_asTold 12 = .ok (.invokestatic 141, 3) := by decide +kernel
theorem dX5_asTold_15 : decode cX5_asTold 15 = .ok (.aload_n 0, 1) := by decide +kernel
theorem dX5_asTold_16 : decode cX5_asTold 16 = .ok (.getfield 7, 3) := by decide +kernel
theorem dX5_asTold_19 : decode cX5_asTold 19 = .ok (.bipush 31, 2) := by decide +kernel
theorem dX5_asTold_21 : decode cX5_asTold 21 = .ok (.aload_n 0, 1) := by decide +kernel
theorem dX5_asTold_22 : decode cX5_asTold 22 = .ok (.getfield 38, 3) := by decide +kernel
theorem dX5_asTold_25 : decode cX5_asTold 25 = .ok (.iconst 0, 1) := by decide +kernel
theorem dX5_asTold_26 : decode cX5_asTold 26 = .ok (.iconst 5, 1) := by decide +kernel
theorem dX5_asTold_27 : decode cX5_asTold 27 = .ok (.invokestatic 141, 3) := by decide +kernel
theorem dX5_asTold_30 : decode cX5_asTold 30 = .ok (.return_, 1) := by decide +kernel
theorem dX5_likes_0 : decode cX5_likes 0 = .ok (.iconst 2, 1) := by decide +kernel
theorem dX5_likes_1 : decode cX5_likes 1 = .ok (.aload_n 1, 1) := by decide +kernel
theorem dX5_likes_2 : decode cX5_likes 2 = .ok (.bipush 10, 2) := by decide +kernel
theorem dX5_likes_4 : decode cX5_likes 4 = .ok (.iload_n 3, 1) := by decide +kernel
theorem dX5_likes_5 : decode cX5_likes 5 = .ok (.iadd, 1) := by decide +kernel
theorem dX5_likes_6 : decode cX5_likes 6 = .ok (.iaload, 1) := by decide +kernel
theorem dX5_likes_7 : decode cX5_likes 7 = .ok (.imul, 1) := by decide +kernel
theorem dX5_likes_8 : decode cX5_likes 8 = .ok (.aload_n 0, 1) := by decide +kernel
theorem dX5_likes_9 : decode cX5_likes 9 = .ok (.getfield 7, 3) := by decide +kernel
theorem dX5_likes_12 : decode cX5_likes 12 = .ok (.bipush 17, 2) := by decide +kernel
theorem dX5_likes_14 : decode cX5_likes 14 = .ok (.iload_n 3, 1) := by decide +kernel
theorem dX5_likes_15 : decode cX5_likes 15 = .ok (.iadd, 1) := by decide +kernel
theorem dX5_likes_16 : decode cX5_likes 16 = .ok (.iaload, 1) := by decide +kernel
theorem dX5_likes_17 : decode cX5_likes 17 = .ok (.iadd, 1) := by decide +kernel
theorem dX5_likes_18 : decode cX5_likes 18 = .ok (.aload_n 1, 1) := by decide +kernel
theorem dX5_likes_19 : decode cX5_likes 19 = .ok (.bipush 34, 2) := by decide +kernel
theorem dX5_likes_21 : decode cX5_likes 21 = .ok (.iload_n 2, 1) := by decide +kernel
theorem dX5_likes_22 : decode cX5_likes 22 = .ok (.iadd, 1) := by decide +kernel
theorem dX5_likes_23 : decode cX5_likes 23 = .ok (.iaload, 1) := by decide +kernel
theorem dX5_likes_24 : decode cX5_likes 24 = .ok (.iload_n 3, 1) := by decide +kernel
theorem dX5_likes_25 : decode cX5_likes 25 = .ok (.if_icmp .ne 12, 3) := by decide +kernel
theorem dX5_likes_28 : decode cX5_likes 28 = .ok (.aload_n 0, 1) := by decide +kernel
theorem dX5_likes_29 : decode cX5_likes 29 = .ok (.getfield 38, 3) := by decide +kernel
theorem dX5_likes_32 : decode cX5_likes 32 = .ok (.iload_n 2, 1) := by decide +kernel
theorem dX5_likes_33 : decode cX5_likes 33 = .ok (.iaload, 1) := by decide +kernel
theorem dX5_likes_34 : decode cX5_likes 34 = .ok (.goto 4, 3) := by decide +kernel
theorem dX5_likes_37 : decode cX5_likes 37 = .ok (.iconst 0, 1) := by decide +kernel
theorem dX5_likes_38 : decode cX5_likes 38 = .ok (.isub, 1) := by decide +kernel
theorem dX5_likes_39 : decode cX5_likes 39 = .ok (.istore 4, 2) := by decide +kernel
theorem dX5_likes_41 : decode cX5_likes 41 = .ok (.aload_n 0, 1) := by decide +kernel
theorem dX5_likes_42 : decode cX5_likes 42 = .ok (.getfield 35, 3) := by decide +kernel
theorem dX5_likes_45 : decode cX5_likes 45 = .ok (.iload_n 2, 1) := by decide +kernel
theorem dX5_likes_46 : decode cX5_likes 46 = .ok (.iaload, 1) := by decide +kernel
theorem dX5_likes_47 : decode cX5_likes 47 = .ok (.tableswitch 73 0 2 #[25, 28, 49], 25) := by decide +kernel
theorem dX5_likes_72 : decode cX5_likes 72 = .ok (.iload 4, 2) := by decide +kernel
theorem dX5_likes_74 : decode cX5_likes 74 = .ok (.ireturn, 1) := by decide +kernel
theorem dX5_likes_75 : decode cX5_likes 75 = .ok (.aload_n 1, 1) := by decide +kernel
theorem dX5_likes_76 : decode cX5_likes 76 = .ok (.bipush 34, 2) := by decide +kernel
theorem dX5_likes_78 : decode cX5_likes 78 = .ok (.iload_n 2, 1) := by decide +kernel
theorem dX5_likes_79 : decode cX5_likes 79 = .ok (.iadd, 1) := by decide +kernel
theorem dX5_likes_80 : decode cX5_likes 80 = .ok (.iaload, 1) := by decide +kernel
theorem dX5_likes_81 : decode cX5_likes 81 = .ok (.iload_n 3, 1) := by decide +kernel
theorem dX5_likes_82 : decode cX5_likes 82 = .ok (.if_icmp .ne 11, 3) := by decide +kernel
theorem dX5_likes_85 : decode cX5_likes 85 = .ok (.iload 4, 2) := by decide +kernel
theorem dX5_likes_87 : decode cX5_likes 87 = .ok (.bipush 9, 2) := by decide +kernel
theorem dX5_likes_89 : decode cX5_likes 89 = .ok (.iadd, 1) := by decide +kernel
theorem dX5_likes_90 : decode cX5_likes 90 = .ok (.goto 5, 3) := by decide +kernel
theorem dX5_likes_93 : decode cX5_likes 93 = .ok (.iload 4, 2) := by decide +kernel
theorem dX5_likes_95 : decode cX5_likes 95 = .ok (.ireturn, 1) := by decide +kernel
theorem dX5_likes_96 : decode cX5_likes 96 = .ok (.aload_n 0, 1) := by decide +kernel
theorem dX5_likes_97 : decode cX5_likes 97 = .ok (.getfield 7, 3) := by decide +kernel
theorem dX5_likes_100 : decode cX5_likes 100 = .ok (.bipush 17, 2) := by decide +kernel
theorem dX5_likes_102 : decode cX5_likes 102 = .ok (.iload_n 3, 1) := by decide +kernel
theorem dX5_likes_103 : decode cX5_likes 103 = .ok (.iadd, 1) := by decide +kernel
theorem dX5_likes_104 : decode cX5_likes 104 = .ok (.iaload, 1) := by decide +kernel
theorem dX5_likes_105 : decode cX5_likes 105 = .ok (.aload_n 1, 1) := by decide +kernel
theorem dX5_likes_106 : decode cX5_likes 106 = .ok (.iconst 0, 1) := by decide +kernel
theorem dX5_likes_107 : decode cX5_likes 107 = .ok (.iaload, 1) := by decide +kernel
theorem dX5_likes_108 : decode cX5_likes 108 = .ok (.aload_n 0, 1) := by decide +kernel
theorem dX5_likes_109 : decode cX5_likes 109 = .ok (.getfield 38, 3) := by decide +kernel
theorem dX5_likes_112 : decode cX5_likes 112 = .ok (.iload_n 2, 1) := by decide +kernel
theorem dX5_likes_113 : decode cX5_likes 113 = .ok (.iaload, 1) := by decide +kernel
theorem dX5_likes_114 : decode cX5_likes 114 = .ok (.imul, 1) := by decide +kernel
theorem dX5_likes_115 : decode cX5_likes 115 = .ok (.iadd, 1) := by decide +kernel
theorem dX5_likes_116 : decode cX5_likes 116 = .ok (.bipush 10, 2) := by decide +kernel
theorem dX5_likes_118 : decode cX5_likes 118 = .ok (.irem, 1) := by decide +kernel
theorem dX5_likes_119 : decode cX5_likes 119 = .ok (.ireturn, 1) := by decide +kernel
theorem dX5_likes_120 : decode cX5_likes 120 = .ok (.aload_n 0, 1) := by decide +kernel
theorem dX5_likes_121 : decode cX5_likes 121 = .ok (.getfield 38, 3) := by decide +kernel
theorem dX5_likes_124 : decode cX5_likes 124 = .ok (.iload_n 2, 1) := by decide +kernel
theorem dX5_likes_125 : decode cX5_likes 125 = .ok (.iaload, 1) := by decide +kernel
theorem dX5_likes_126 : decode cX5_likes 126 = .ok (.aload_n 0, 1) := by decide +kernel
theorem dX5_likes_127 : decode cX5_likes 127 = .ok (.getfield 7, 3) := by decide +kernel
theorem dX5_likes_130 : decode cX5_likes 130 = .ok (.iconst 0, 1) := by decide +kernel
theorem dX5_likes_131 : decode cX5_likes 131 = .ok (.iaload, 1) := by decide +kernel
theorem dX5_likes_132 : decode cX5_likes 132 = .ok (.irem, 1) := by decide +kernel
theorem dX5_likes_133 : decode cX5_likes 133 = .ok (.iload_n 3, 1) := by decide +kernel
theorem dX5_likes_134 : decode cX5_likes 134 = .ok (.if_icmp .ne 7, 3) := by decide +kernel
theorem dX5_likes_137 : decode cX5_likes 137 = .ok (.iconst 1, 1) := by decide +kernel
theorem dX5_likes_138 : decode cX5_likes 138 = .ok (.goto 4, 3) := by decide +kernel
theorem dX5_likes_141 : decode cX5_likes 141 = .ok (.iconst 0, 1) := by decide +kernel
theorem dX5_likes_142 : decode cX5_likes 142 = .ok (.ireturn, 1) := by decide +kernel
theorem dX5_bestOf_0 : decode cX5_bestOf 0 = .ok (.iconst (-1), 1) := by decide +kernel
theorem dX5_bestOf_1 : decode cX5_bestOf 1 = .ok (.istore_n 3, 1) := by decide +kernel
theorem dX5_bestOf_2 : decode cX5_bestOf 2 = .ok (.ldc 154, 2) := by decide +kernel
theorem dX5_bestOf_4 : decode cX5_bestOf 4 = .ok (.istore 4, 2) := by decide +kernel
theorem dX5_bestOf_6 : decode cX5_bestOf 6 = .ok (.iconst 0, 1) := by decide +kernel
theorem dX5_bestOf_7 : decode cX5_bestOf 7 = .ok (.istore 5, 2) := by decide +kernel
theorem dX5_bestOf_9 : decode cX5_bestOf 9 = .ok (.iload 5, 2) := by decide +kernel
theorem dX5_bestOf_11 : decode cX5_bestOf 11 = .ok (.aload_n 0, 1) := by decide +kernel
theorem dX5_bestOf_12 : decode cX5_bestOf 12 = .ok (.getfield 7, 3) := by decide +kernel
theorem dX5_bestOf_15 : decode cX5_bestOf 15 = .ok (.iconst 0, 1) := by decide +kernel
theorem dX5_bestOf_16 : decode cX5_bestOf 16 = .ok (.iaload, 1) := by decide +kernel
theorem dX5_bestOf_17 : decode cX5_bestOf 17 = .ok (.if_icmp .ge 46, 3) := by decide +kernel
theorem dX5_bestOf_20 : decode cX5_bestOf 20 = .ok (.aload_n 1, 1) := by decide +kernel
theorem dX5_bestOf_21 : decode cX5_bestOf 21 = .ok (.bipush 18, 2) := by decide +kernel
theorem dX5_bestOf_23 : decode cX5_bestOf 23 = .ok (.iload 5, 2) := by decide +kernel
theorem dX5_bestOf_25 : decode cX5_bestOf 25 = .ok (.iadd, 1) := by decide +kernel
theorem dX5_bestOf_26 : decode cX5_bestOf 26 = .ok (.iaload, 1) := by decide +kernel
theorem dX5_bestOf_27 : decode cX5_bestOf 27 = .ok (.iconst (-1), 1) := by decide +kernel
theorem dX5_bestOf_28 : decode cX5_bestOf 28 = .ok (.if_icmp .ne 29, 3) := by decide +kernel
theorem dX5_bestOf_31 : decode cX5_bestOf 31 = .ok (.aload_n 0, 1) := by decide +kernel
theorem dX5_bestOf_32 : decode cX5_bestOf 32 = .ok (.aload_n 1, 1) := by decide +kernel
theorem dX5_bestOf_33 : decode cX5_bestOf 33 = .ok (.iload_n 2, 1) := by decide +kernel
theorem dX5_bestOf_34 : decode cX5_bestOf 34 = .ok (.iload 5, 2) := by decide +kernel
theorem dX5_bestOf_36 : decode cX5_bestOf 36 = .ok (.invokevirtual 155, 3) := by decide +kernel
theorem dX5_bestOf_39 : decode cX5_bestOf 39 = .ok (.iload 4, 2) := by decide +kernel
theorem dX5_bestOf_41 : decode cX5_bestOf 41 = .ok (.if_icmp .le 16, 3) := by decide +kernel
theorem dX5_bestOf_44 : decode cX5_bestOf 44 = .ok (.aload_n 0, 1) := by decide +kernel
theorem dX5_bestOf_45 : decode cX5_bestOf 45 = .ok (.aload_n 1, 1) := by decide +kernel
theorem dX5_bestOf_46 : decode cX5_bestOf 46 = .ok (.iload_n 2, 1) := by decide +kernel
theorem dX5_bestOf_47 : decode cX5_bestOf 47 = .ok (.iload 5, 2) := by decide +kernel
theorem dX5_bestOf_49 : decode cX5_bestOf 49 = .ok (.invokevirtual 155, 3) := by decide +kernel
theorem dX5_bestOf_52 : decode cX5_bestOf 52 = .ok (.istore 4, 2) := by decide +kernel
theorem dX5_bestOf_54 : decode cX5_bestOf 54 = .ok (.iload 5, 2) := by decide +kernel
theorem dX5_bestOf_56 : decode cX5_bestOf 56 = .ok (.istore_n 3, 1) := by decide +kernel
theorem dX5_bestOf_57 : decode cX5_bestOf 57 = .ok (.iinc 5 1, 3) := by decide +kernel
theorem dX5_bestOf_60 : decode cX5_bestOf 60 = .ok (.goto (-51), 3) := by decide +kernel
theorem dX5_bestOf_63 : decode cX5_bestOf 63 = .ok (.iload_n 3, 1) := by decide +kernel
theorem dX5_bestOf_64 : decode cX5_bestOf 64 = .ok (.ireturn, 1) := by decide +kernel
theorem dX5_goes_0 : decode cX5_goes 0 = .ok (.iconst 0, 1) := by decide +kernel
theorem dX5_goes_1 : decode cX5_goes 1 = .ok (.istore_n 2, 1) := by decide +kernel
theorem dX5_goes_2 : decode cX5_goes 2 = .ok (.iload_n 2, 1) := by decide +kernel
theorem dX5_goes_3 : decode cX5_goes 3 = .ok (.bipush 8, 2) := by decide +kernel
theorem dX5_goes_5 : decode cX5_goes 5 = .ok (.if_icmp .ge 23, 3) := by decide +kernel
theorem dX5_goes_8 : decode cX5_goes 8 = .ok (.aload_n 1, 1) := by decide +kernel
theorem dX5_goes_9 : decode cX5_goes 9 = .ok (.bipush 18, 2) := by decide +kernel
theorem dX5_goes_11 : decode cX5_goes 11 = .ok (.iload_n 2, 1) := by decide +kernel
theorem dX5_goes_12 : decode cX5_goes 12 = .ok (.iadd, 1) := by decide +kernel
theorem dX5_goes_13 : decode cX5_goes 13 = .ok (.iconst (-1), 1) := by decide +kernel
theorem dX5_goes_14 : decode cX5_goes 14 = .ok (.iastore, 1) := by decide +kernel
theorem dX5_goes_15 : decode cX5_goes 15 = .ok (.aload_n 1, 1) := by decide +kernel
theorem dX5_goes_16 : decode cX5_goes 16 = .ok (.bipush 26, 2) := by decide +kernel
theorem dX5_goes_18 : decode cX5_goes 18 = .ok (.iload_n 2, 1) := by decide +kernel
theorem dX5_goes_19 : decode cX5_goes 19 = .ok (.iadd, 1) := by decide +kernel
theorem dX5_goes_20 : decode cX5_goes 20 = .ok (.iconst 0, 1) := by decide +kernel
theorem dX5_goes_21 : decode cX5_goes 21 = .ok (.iastore, 1) := by decide +kernel
theorem dX5_goes_22 : decode cX5_goes 22 = .ok (.iinc 2 1, 3) := by decide +kernel
theorem dX5_goes_25 : decode cX5_goes 25 = .ok (.goto (-23), 3) := by decide +kernel
theorem dX5_goes_28 : decode cX5_goes 28 = .ok (.iconst 0, 1) := by decide +kernel
theorem dX5_goes_29 : decode cX5_goes 29 = .ok (.istore_n 2, 1) := by decide +kernel
theorem dX5_goes_30 : decode cX5_goes 30 = .ok (.aload_n 1, 1) := by decide +kernel
theorem dX5_goes_31 : decode cX5_goes 31 = .ok (.iconst 1, 1) := by decide +kernel
theorem dX5_goes_32 : decode cX5_goes 32 = .ok (.iaload, 1) := by decide +kernel
theorem dX5_goes_33 : decode cX5_goes 33 = .ok (.iconst 1, 1) := by decide +kernel
theorem dX5_goes_34 : decode cX5_goes 34 = .ok (.if_icmp .ne 7, 3) := by decide +kernel
theorem dX5_goes_37 : decode cX5_goes 37 = .ok (.iconst 1, 1) := by decide +kernel
theorem dX5_goes_38 : decode cX5_goes 38 = .ok (.goto 4, 3) := by decide +kernel
theorem dX5_goes_41 : decode cX5_goes 41 = .ok (.iconst 0, 1) := by decide +kernel
theorem dX5_goes_42 : decode cX5_goes 42 = .ok (.istore_n 3, 1) := by decide +kernel
theorem dX5_goes_43 : decode cX5_goes 43 = .ok (.iconst 0, 1) := by decide +kernel
theorem dX5_goes_44 : decode cX5_goes 44 = .ok (.istore 4, 2) := by decide +kernel
theorem dX5_goes_46 : decode cX5_goes 46 = .ok (.iload 4, 2) := by decide +kernel
theorem dX5_goes_48 : decode cX5_goes 48 = .ok (.iconst 5, 1) := by decide +kernel
theorem dX5_goes_49 : decode cX5_goes 49 = .ok (.if_icmp .ge 196, 3) := by decide +kernel
theorem dX5_goes_52 : decode cX5_goes 52 = .ok (.iload 4, 2) := by decide +kernel
theorem dX5_goes_54 : decode cX5_goes 54 = .ok (.aload_n 0, 1) := by decide +kernel
theorem dX5_goes_55 : decode cX5_goes 55 = .ok (.getfield 7, 3) := by decide +kernel
theorem dX5_goes_58 : decode cX5_goes 58 = .ok (.bipush 25, 2) := by decide +kernel
theorem dX5_goes_60 : decode cX5_goes 60 = .ok (.iaload, 1) := by decide +kernel
theorem dX5_goes_61 : decode cX5_goes 61 = .ok (.if_icmp .ge 30, 3) := by decide +kernel
theorem dX5_goes_64 : decode cX5_goes 64 = .ok (.iload_n 3, 1) := by decide +kernel
theorem dX5_goes_65 : decode cX5_goes 65 = .ok (.ifCond .ne 26, 3) := by decide +kernel
theorem dX5_goes_68 : decode cX5_goes 68 = .ok (.aload_n 0, 1) := by decide +kernel
theorem dX5_goes_69 : decode cX5_goes 69 = .ok (.getfield 35, 3) := by decide +kernel
theorem dX5_goes_72 : decode cX5_goes 72 = .ok (.iload 4, 2) := by decide +kernel
theorem dX5_goes_74 : decode cX5_goes 74 = .ok (.iaload, 1) := by decide +kernel
theorem dX5_goes_75 : decode cX5_goes 75 = .ok (.iconst 1, 1) := by decide +kernel
theorem dX5_goes_76 : decode cX5_goes 76 = .ok (.if_icmp .ne 11, 3) := by decide +kernel
theorem dX5_goes_79 : decode cX5_goes 79 = .ok (.aload_n 1, 1) := by decide +kernel
theorem dX5_goes_80 : decode cX5_goes 80 = .ok (.iconst 0, 1) := by decide +kernel
theorem dX5_goes_81 : decode cX5_goes 81 = .ok (.iaload, 1) := by decide +kernel
theorem dX5_goes_82 : decode cX5_goes 82 = .ok (.iconst 2, 1) := by decide +kernel
theorem dX5_goes_83 : decode cX5_goes 83 = .ok (.irem, 1) := by decide +kernel
theorem dX5_goes_84 : decode cX5_goes 84 = .ok (.ifCond .ne 7, 3) := by decide +kernel
theorem dX5_goes_87 : decode cX5_goes 87 = .ok (.iconst 1, 1) := by decide +kernel
theorem dX5_goes_88 : decode cX5_goes 88 = .ok (.goto 4, 3) := by decide +kernel
theorem dX5_goes_91 : decode cX5_goes 91 = .ok (.iconst 0, 1) := by decide +kernel
theorem dX5_goes_92 : decode cX5_goes 92 = .ok (.istore 5, 2) := by decide +kernel
theorem dX5_goes_94 : decode cX5_goes 94 = .ok (.iload 5, 2) := by decide +kernel
theorem dX5_goes_96 : decode cX5_goes 96 = .ok (.ifCond .eq 13, 3) := by decide +kernel
theorem dX5_goes_99 : decode cX5_goes 99 = .ok (.aload_n 0, 1) := by decide +kernel
theorem dX5_goes_100 : decode cX5_goes 100 = .ok (.aload_n 1, 1) := by decide +kernel
theorem dX5_goes_101 : decode cX5_goes 101 = .ok (.iload 4, 2) := by decide +kernel
theorem dX5_goes_103 : decode cX5_goes 103 = .ok (.invokevirtual 159, 3) := by decide +kernel
theorem dX5_goes_106 : decode cX5_goes 106 = .ok (.goto 4, 3) := by decide +kernel
theorem dX5_goes_109 : decode cX5_goes 109 = .ok (.iconst (-1), 1) := by decide +kernel
theorem dX5_goes_110 : decode cX5_goes 110 = .ok (.istore 6, 2) := by decide +kernel
theorem dX5_goes_112 : decode cX5_goes 112 = .ok (.aload_n 0, 1) := by decide +kernel
theorem dX5_goes_113 : decode cX5_goes 113 = .ok (.getfield 41, 3) := by decide +kernel
theorem dX5_goes_116 : decode cX5_goes 116 = .ok (.iload 4, 2) := by decide +kernel
theorem dX5_goes_118 : decode cX5_goes 118 = .ok (.iload 6, 2) := by decide +kernel
theorem dX5_goes_120 : decode cX5_goes 120 = .ok (.iastore, 1) := by decide +kernel
theorem dX5_goes_121 : decode cX5_goes 121 = .ok (.iload 6, 2) := by decide +kernel
theorem dX5_goes_123 : decode cX5_goes 123 = .ok (.iconst (-1), 1) := by decide +kernel
theorem dX5_goes_124 : decode cX5_goes 124 = .ok (.if_icmp .eq 115, 3) := by decide +kernel
theorem dX5_goes_127 : decode cX5_goes 127 = .ok (.aload_n 0, 1) := by decide +kernel
theorem dX5_goes_128 : decode cX5_goes 128 = .ok (.getfield 7, 3) := by decide +kernel
theorem dX5_goes_131 : decode cX5_goes 131 = .ok (.bipush 36, 2) := by decide +kernel
theorem dX5_goes_133 : decode cX5_goes 133 = .ok (.aload_n 1, 1) := by decide +kernel
theorem dX5_goes_134 : decode cX5_goes 134 = .ok (.iconst 0, 1) := by decide +kernel
theorem dX5_goes_135 : decode cX5_goes 135 = .ok (.iaload, 1) := by decide +kernel
theorem dX5_goes_136 : decode cX5_goes 136 = .ok (.bipush 14, 2) := by decide +kernel
theorem dX5_goes_138 : decode cX5_goes 138 = .ok (.irem, 1) := by decide +kernel
theorem dX5_goes_139 : decode cX5_goes 139 = .ok (.iadd, 1) := by decide +kernel
theorem dX5_goes_140 : decode cX5_goes 140 = .ok (.iaload, 1) := by decide +kernel
theorem dX5_goes_141 : decode cX5_goes 141 = .ok (.aload_n 1, 1) := by decide +kernel
theorem dX5_goes_142 : decode cX5_goes 142 = .ok (.iconst 2, 1) := by decide +kernel
theorem dX5_goes_143 : decode cX5_goes 143 = .ok (.iload 6, 2) := by decide +kernel
theorem dX5_goes_145 : decode cX5_goes 145 = .ok (.iadd, 1) := by decide +kernel
theorem dX5_goes_146 : decode cX5_goes 146 = .ok (.iaload, 1) := by decide +kernel
theorem dX5_goes_147 : decode cX5_goes 147 = .ok (.if_icmp .ne 7, 3) := by decide +kernel
theorem dX5_goes_150 : decode cX5_goes 150 = .ok (.iconst 1, 1) := by decide +kernel
theorem dX5_goes_151 : decode cX5_goes 151 = .ok (.goto 4, 3) := by decide +kernel
theorem dX5_goes_154 : decode cX5_goes 154 = .ok (.iconst 0, 1) := by decide +kernel
theorem dX5_goes_155 : decode cX5_goes 155 = .ok (.istore 7, 2) := by decide +kernel
theorem dX5_goes_157 : decode cX5_goes 157 = .ok (.aload_n 1, 1) := by decide +kernel
theorem dX5_goes_158 : decode cX5_goes 158 = .ok (.bipush 18, 2) := by decide +kernel
theorem dX5_goes_160 : decode cX5_goes 160 = .ok (.iload 6, 2) := by decide +kernel
theorem dX5_goes_162 : decode cX5_goes 162 = .ok (.iadd, 1) := by decide +kernel
theorem dX5_goes_163 : decode cX5_goes 163 = .ok (.iload 4, 2) := by decide +kernel
theorem dX5_goes_165 : decode cX5_goes 165 = .ok (.iastore, 1) := by decide +kernel
theorem dX5_goes_166 : decode cX5_goes 166 = .ok (.aload_n 1, 1) := by decide +kernel
theorem dX5_goes_167 : decode cX5_goes 167 = .ok (.bipush 26, 2) := by decide +kernel
theorem dX5_goes_169 : decode cX5_goes 169 = .ok (.iload 6, 2) := by decide +kernel
theorem dX5_goes_171 : decode cX5_goes 171 = .ok (.iadd, 1) := by decide +kernel
theorem dX5_goes_172 : decode cX5_goes 172 = .ok (.iload 7, 2) := by decide +kernel
theorem dX5_goes_174 : decode cX5_goes 174 = .ok (.ifCond .eq 7, 3) := by decide +kernel
theorem dX5_goes_177 : decode cX5_goes 177 = .ok (.iconst 1, 1) := by decide +kernel
theorem dX5_goes_178 : decode cX5_goes 178 = .ok (.goto 4, 3) := by decide +kernel
theorem dX5_goes_181 : decode cX5_goes 181 = .ok (.iconst 0, 1) := by decide +kernel
theorem dX5_goes_182 : decode cX5_goes 182 = .ok (.iastore, 1) := by decide +kernel
theorem dX5_goes_183 : decode cX5_goes 183 = .ok (.aload_n 1, 1) := by decide +kernel
theorem dX5_goes_184 : decode cX5_goes 184 = .ok (.bipush 34, 2) := by decide +kernel
theorem dX5_goes_186 : decode cX5_goes 186 = .ok (.iload 4, 2) := by decide +kernel
theorem dX5_goes_188 : decode cX5_goes 188 = .ok (.iadd, 1) := by decide +kernel
theorem dX5_goes_189 : decode cX5_goes 189 = .ok (.iload 6, 2) := by decide +kernel
theorem dX5_goes_191 : decode cX5_goes 191 = .ok (.iastore, 1) := by decide +kernel
theorem dX5_goes_192 : decode cX5_goes 192 = .ok (.aload_n 1, 1) := by decide +kernel
theorem dX5_goes_193 : decode cX5_goes 193 = .ok (.bipush 39, 2) := by decide +kernel
theorem dX5_goes_195 : decode cX5_goes 195 = .ok (.iload 4, 2) := by decide +kernel
theorem dX5_goes_197 : decode cX5_goes 197 = .ok (.iadd, 1) := by decide +kernel
theorem dX5_goes_198 : decode cX5_goes 198 = .ok (.dup2, 1) := by decide +kernel
theorem dX5_goes_199 : decode cX5_goes 199 = .ok (.iaload, 1) := by decide +kernel
theorem dX5_goes_200 : decode cX5_goes 200 = .ok (.iload 7, 2) := by decide +kernel
theorem dX5_goes_202 : decode cX5_goes 202 = .ok (.ifCond .eq 7, 3) := by decide +kernel
theorem dX5_goes_205 : decode cX5_goes 205 = .ok (.iconst 1, 1) := by decide +kernel
theorem dX5_goes_206 : decode cX5_goes 206 = .ok (.goto 4, 3) := by decide +kernel
theorem dX5_goes_209 : decode cX5_goes 209 = .ok (.iconst 0, 1) := by decide +kernel
theorem dX5_goes_210 : decode cX5_goes 210 = .ok (.iadd, 1) := by decide +kernel
theorem dX5_goes_211 : decode cX5_goes 211 = .ok (.iastore, 1) := by decide +kernel
theorem dX5_goes_212 : decode cX5_goes 212 = .ok (.aload_n 1, 1) := by decide +kernel
theorem dX5_goes_213 : decode cX5_goes 213 = .ok (.bipush 44, 2) := by decide +kernel
theorem dX5_goes_215 : decode cX5_goes 215 = .ok (.iload 4, 2) := by decide +kernel
theorem dX5_goes_217 : decode cX5_goes 217 = .ok (.iadd, 1) := by decide +kernel
theorem dX5_goes_218 : decode cX5_goes 218 = .ok (.dup2, 1) := by decide +kernel
theorem dX5_goes_219 : decode cX5_goes 219 = .ok (.iaload, 1) := by decide +kernel
theorem dX5_goes_220 : decode cX5_goes 220 = .ok (.iload 7, 2) := by decide +kernel
theorem dX5_goes_222 : decode cX5_goes 222 = .ok (.ifCond .eq 7, 3) := by decide +kernel
theorem dX5_goes_225 : decode cX5_goes 225 = .ok (.iconst 0, 1) := by decide +kernel
theorem dX5_goes_226 : decode cX5_goes 226 = .ok (.goto 4, 3) := by decide +kernel
theorem dX5_goes_229 : decode cX5_goes 229 = .ok (.iconst 1, 1) := by decide +kernel
theorem dX5_goes_230 : decode cX5_goes 230 = .ok (.iadd, 1) := by decide +kernel
theorem dX5_goes_231 : decode cX5_goes 231 = .ok (.iastore, 1) := by decide +kernel
theorem dX5_goes_232 : decode cX5_goes 232 = .ok (.iload_n 2, 1) := by decide +kernel
theorem dX5_goes_233 : decode cX5_goes 233 = .ok (.iconst 1, 1) := by decide +kernel
theorem dX5_goes_234 : decode cX5_goes 234 = .ok (.iload 6, 2) := by decide +kernel
theorem dX5_goes_236 : decode cX5_goes 236 = .ok (.ishl, 1) := by decide +kernel
theorem dX5_goes_237 : decode cX5_goes 237 = .ok (.ior, 1) := by decide +kernel
theorem dX5_goes_238 : decode cX5_goes 238 = .ok (.istore_n 2, 1) := by decide +kernel
theorem dX5_goes_239 : decode cX5_goes 239 = .ok (.iinc 4 1, 3) := by decide +kernel
theorem dX5_goes_242 : decode cX5_goes 242 = .ok (.goto (-196), 3) := by decide +kernel
theorem dX5_goes_245 : decode cX5_goes 245 = .ok (.aload_n 1, 1) := by decide +kernel
theorem dX5_goes_246 : decode cX5_goes 246 = .ok (.iconst 1, 1) := by decide +kernel
theorem dX5_goes_247 : decode cX5_goes 247 = .ok (.iconst 0, 1) := by decide +kernel
theorem dX5_goes_248 : decode cX5_goes 248 = .ok (.iastore, 1) := by decide +kernel
theorem dX5_goes_249 : decode cX5_goes 249 = .ok (.aload_n 1, 1) := by decide +kernel
theorem dX5_goes_250 : decode cX5_goes 250 = .ok (.iconst 0, 1) := by decide +kernel
theorem dX5_goes_251 : decode cX5_goes 251 = .ok (.dup2, 1) := by decide +kernel
theorem dX5_goes_252 : decode cX5_goes 252 = .ok (.iaload, 1) := by decide +kernel
theorem dX5_goes_253 : decode cX5_goes 253 = .ok (.iconst 1, 1) := by decide +kernel
theorem dX5_goes_254 : decode cX5_goes 254 = .ok (.iadd, 1) := by decide +kernel
theorem dX5_goes_255 : decode cX5_goes 255 = .ok (.iastore, 1) := by decide +kernel
theorem dX5_goes_256 : decode cX5_goes 256 = .ok (.iload_n 2, 1) := by decide +kernel
theorem dX5_goes_257 : decode cX5_goes 257 = .ok (.ireturn, 1) := by decide +kernel
theorem dX5_place_0 : decode cX5_place 0 = .ok (.aload_n 0, 1) := by decide +kernel
theorem dX5_place_1 : decode cX5_place 1 = .ok (.iload_n 1, 1) := by decide +kernel
theorem dX5_place_2 : decode cX5_place 2 = .ok (.invokevirtual 163, 3) := by decide +kernel
theorem dX5_place_5 : decode cX5_place 5 = .ok (.ifCond .ne 6, 3) := by decide +kernel
theorem dX5_place_8 : decode cX5_place 8 = .ok (.bipush (-2), 2) := by decide +kernel
theorem dX5_place_10 : decode cX5_place 10 = .ok (.ireturn, 1) := by decide +kernel
theorem dX5_place_11 : decode cX5_place 11 = .ok (.iload_n 2, 1) := by decide +kernel
theorem dX5_place_12 : decode cX5_place 12 = .ok (.tableswitch 71 0 3 #[32, 41, 51, 61], 32) := by decide +kernel
theorem dX5_place_44 : decode cX5_place 44 = .ok (.aload_n 0, 1) := by decide +kernel
theorem dX5_place_45 : decode cX5_place 45 = .ok (.getfield 16, 3) := by decide +kernel
theorem dX5_place_48 : decode cX5_place 48 = .ok (.iconst 2, 1) := by decide +kernel
theorem dX5_place_49 : decode cX5_place 49 = .ok (.iload_n 1, 1) := by decide +kernel
theorem dX5_place_50 : decode cX5_place 50 = .ok (.iadd, 1) := by decide +kernel
theorem dX5_place_51 : decode cX5_place 51 = .ok (.iaload, 1) := by decide +kernel
theorem dX5_place_52 : decode cX5_place 52 = .ok (.ireturn, 1) := by decide +kernel
theorem dX5_place_53 : decode cX5_place 53 = .ok (.aload_n 0, 1) := by decide +kernel
theorem dX5_place_54 : decode cX5_place 54 = .ok (.getfield 16, 3) := by decide +kernel
theorem dX5_place_57 : decode cX5_place 57 = .ok (.bipush 10, 2) := by decide +kernel
theorem dX5_place_59 : decode cX5_place 59 = .ok (.iload_n 1, 1) := by decide +kernel
theorem dX5_place_60 : decode cX5_place 60 = .ok (.iadd, 1) := by decide +kernel
theorem dX5_place_61 : decode cX5_place 61 = .ok (.iaload, 1) := by decide +kernel
theorem dX5_place_62 : decode cX5_place 62 = .ok (.ireturn, 1) := by decide +kernel
theorem dX5_place_63 : decode cX5_place 63 = .ok (.aload_n 0, 1) := by decide +kernel
theorem dX5_place_64 : decode cX5_place 64 = .ok (.getfield 7, 3) := by decide +kernel
theorem dX5_place_67 : decode cX5_place 67 = .ok (.bipush 17, 2) := by decide +kernel
theorem dX5_place_69 : decode cX5_place 69 = .ok (.iload_n 1, 1) := by decide +kernel
theorem dX5_place_70 : decode cX5_place 70 = .ok (.iadd, 1) := by decide +kernel
theorem dX5_place_71 : decode cX5_place 71 = .ok (.iaload, 1) := by decide +kernel
theorem dX5_place_72 : decode cX5_place 72 = .ok (.ireturn, 1) := by decide +kernel
theorem dX5_place_73 : decode cX5_place 73 = .ok (.aload_n 0, 1) := by decide +kernel
theorem dX5_place_74 : decode cX5_place 74 = .ok (.getfield 16, 3) := by decide +kernel
theorem dX5_place_77 : decode cX5_place 77 = .ok (.bipush 18, 2) := by decide +kernel
theorem dX5_place_79 : decode cX5_place 79 = .ok (.iload_n 1, 1) := by decide +kernel
theorem dX5_place_80 : decode cX5_place 80 = .ok (.iadd, 1) := by decide +kernel
theorem dX5_place_81 : decode cX5_place 81 = .ok (.iaload, 1) := by decide +kernel
theorem dX5_place_82 : decode cX5_place 82 = .ok (.ireturn, 1) := by decide +kernel
theorem dX5_place_83 : decode cX5_place 83 = .ok (.bipush (-3), 2) := by decide +kernel
theorem dX5_place_85 : decode cX5_place 85 = .ok (.ireturn, 1) := by decide +kernel
theorem dX5_hen_0 : decode cX5_hen 0 = .ok (.aload_n 0, 1) := by decide +kernel
theorem dX5_hen_1 : decode cX5_hen 1 = .ok (.iload_n 1, 1) := by decide +kernel
theorem dX5_hen_2 : decode cX5_hen 2 = .ok (.invokevirtual 166, 3) := by decide +kernel
theorem dX5_hen_5 : decode cX5_hen 5 = .ok (.ifCond .ne 6, 3) := by decide +kernel
theorem dX5_hen_8 : decode cX5_hen 8 = .ok (.bipush (-2), 2) := by decide +kernel
theorem dX5_hen_10 : decode cX5_hen 10 = .ok (.ireturn, 1) := by decide +kernel
theorem dX5_hen_11 : decode cX5_hen 11 = .ok (.iload_n 2, 1) := by decide +kernel
theorem dX5_hen_12 : decode cX5_hen 12 = .ok (.tableswitch 86 0 4 #[36, 46, 56, 66, 76], 36) := by decide +kernel
theorem dX5_hen_48 : decode cX5_hen 48 = .ok (.aload_n 0, 1) := by decide +kernel
theorem dX5_hen_49 : decode cX5_hen 49 = .ok (.getfield 7, 3) := by decide +kernel
theorem dX5_hen_52 : decode cX5_hen 52 = .ok (.bipush 26, 2) := by decide +kernel
theorem dX5_hen_54 : decode cX5_hen 54 = .ok (.iload_n 1, 1) := by decide +kernel
theorem dX5_hen_55 : decode cX5_hen 55 = .ok (.iadd, 1) := by decide +kernel
theorem dX5_hen_56 : decode cX5_hen 56 = .ok (.iaload, 1) := by decide +kernel
theorem dX5_hen_57 : decode cX5_hen 57 = .ok (.ireturn, 1) := by decide +kernel
theorem dX5_hen_58 : decode cX5_hen 58 = .ok (.aload_n 0, 1) := by decide +kernel
theorem dX5_hen_59 : decode cX5_hen 59 = .ok (.getfield 7, 3) := by decide +kernel
theorem dX5_hen_62 : decode cX5_hen 62 = .ok (.bipush 31, 2) := by decide +kernel
theorem dX5_hen_64 : decode cX5_hen 64 = .ok (.iload_n 1, 1) := by decide +kernel
theorem dX5_hen_65 : decode cX5_hen 65 = .ok (.iadd, 1) := by decide +kernel
theorem dX5_hen_66 : decode cX5_hen 66 = .ok (.iaload, 1) := by decide +kernel
theorem dX5_hen_67 : decode cX5_hen 67 = .ok (.ireturn, 1) := by decide +kernel
theorem dX5_hen_68 : decode cX5_hen 68 = .ok (.aload_n 0, 1) := by decide +kernel
theorem dX5_hen_69 : decode cX5_hen 69 = .ok (.getfield 16, 3) := by decide +kernel
theorem dX5_hen_72 : decode cX5_hen 72 = .ok (.bipush 34, 2) := by decide +kernel
theorem dX5_hen_74 : decode cX5_hen 74 = .ok (.iload_n 1, 1) := by decide +kernel
theorem dX5_hen_75 : decode cX5_hen 75 = .ok (.iadd, 1) := by decide +kernel
theorem dX5_hen_76 : decode cX5_hen 76 = .ok (.iaload, 1) := by decide +kernel
theorem dX5_hen_77 : decode cX5_hen 77 = .ok (.ireturn, 1) := by decide +kernel
theorem dX5_hen_78 : decode cX5_hen 78 = .ok (.aload_n 0, 1) := by decide +kernel
theorem dX5_hen_79 : decode cX5_hen 79 = .ok (.getfield 16, 3) := by decide +kernel
theorem dX5_hen_82 : decode cX5_hen 82 = .ok (.bipush 39, 2) := by decide +kernel
theorem dX5_hen_84 : decode cX5_hen 84 = .ok (.iload_n 1, 1) := by decide +kernel
theorem dX5_hen_85 : decode cX5_hen 85 = .ok (.iadd, 1) := by decide +kernel
theorem dX5_hen_86 : decode cX5_hen 86 = .ok (.iaload, 1) := by decide +kernel
theorem dX5_hen_87 : decode cX5_hen 87 = .ok (.ireturn, 1) := by decide +kernel
theorem dX5_hen_88 : decode cX5_hen 88 = .ok (.aload_n 0, 1) := by decide +kernel
theorem dX5_hen_89 : decode cX5_hen 89 = .ok (.getfield 16, 3) := by decide +kernel
theorem dX5_hen_92 : decode cX5_hen 92 = .ok (.bipush 44, 2) := by decide +kernel
theorem dX5_hen_94 : decode cX5_hen 94 = .ok (.iload_n 1, 1) := by decide +kernel
theorem dX5_hen_95 : decode cX5_hen 95 = .ok (.iadd, 1) := by decide +kernel
theorem dX5_hen_96 : decode cX5_hen 96 = .ok (.iaload, 1) := by decide +kernel
theorem dX5_hen_97 : decode cX5_hen 97 = .ok (.ireturn, 1) := by decide +kernel
theorem dX5_hen_98 : decode cX5_hen 98 = .ok (.bipush (-3), 2) := by decide +kernel
theorem dX5_hen_100 : decode cX5_hen 100 = .ok (.ireturn, 1) := by decide +kernel
theorem dX5_news_0 : decode cX5_news 0 = .ok (.iload_n 1, 1) := by decide +kernel
theorem dX5_news_1 : decode cX5_news 1 = .ok (.i2l, 1) := by decide +kernel
theorem dX5_news_2 : decode cX5_news 2 = .ok (.lconst 0, 1) := by decide +kernel
theorem dX5_news_3 : decode cX5_news 3 = .ok (.ldc2_w 169, 3) := by decide +kernel
theorem dX5_news_6 : decode cX5_news 6 = .ok (.invokestatic 63, 3) := by decide +kernel
theorem dX5_news_9 : decode cX5_news 9 = .ok (.ifCond .eq 15, 3) := by decide +kernel
theorem dX5_news_12 : decode cX5_news 12 = .ok (.aload_n 0, 1) := by decide +kernel
theorem dX5_news_13 : decode cX5_news 13 = .ok (.getfield 7, 3) := by decide +kernel
theorem dX5_news_16 : decode cX5_news 16 = .ok (.bipush 36, 2) := by decide +kernel
theorem dX5_news_18 : decode cX5_news 18 = .ok (.iload_n 1, 1) := by decide +kernel
theorem dX5_news_19 : decode cX5_news 19 = .ok (.iadd, 1) := by decide +kernel
theorem dX5_news_20 : decode cX5_news 20 = .ok (.iaload, 1) := by decide +kernel
theorem dX5_news_21 : decode cX5_news 21 = .ok (.goto 5, 3) := by decide +kernel
theorem dX5_news_24 : decode cX5_news 24 = .ok (.bipush (-3), 2) := by decide +kernel
theorem dX5_news_26 : decode cX5_news 26 = .ok (.ireturn, 1) := by decide +kernel
theorem dX5_as_0 : decode cX5_as 0 = .ok (.aload_n 0, 1) := by decide +kernel
theorem dX5_as_1 : decode cX5_as 1 = .ok (.iload_n 1, 1) := by decide +kernel
theorem dX5_as_2 : decode cX5_as 2 = .ok (.invokevirtual 166, 3) := by decide +kernel
theorem dX5_as_5 : decode cX5_as 5 = .ok (.ifCond .ne 6, 3) := by decide +kernel
theorem dX5_as_8 : decode cX5_as 8 = .ok (.bipush (-2), 2) := by decide +kernel
theorem dX5_as_10 : decode cX5_as 10 = .ok (.ireturn, 1) := by decide +kernel
theorem dX5_as_11 : decode cX5_as 11 = .ok (.iload_n 2, 1) := by decide +kernel
theorem dX5_as_12 : decode cX5_as 12 = .ok (.i2l, 1) := by decide +kernel
theorem dX5_as_13 : decode cX5_as 13 = .ok (.lconst 0, 1) := by decide +kernel
theorem dX5_as_14 : decode cX5_as 14 = .ok (.ldc2_w 171, 3) := by decide +kernel
theorem dX5_as_17 : decode cX5_as 17 = .ok (.invokestatic 63, 3) := by decide +kernel
theorem dX5_as_20 : decode cX5_as 20 = .ok (.ifCond .ne 6, 3) := by decide +kernel
theorem dX5_as_23 : decode cX5_as 23 = .ok (.bipush (-3), 2) := by decide +kernel
theorem dX5_as_25 : decode cX5_as 25 = .ok (.ireturn, 1) := by decide +kernel
theorem dX5_as_26 : decode cX5_as 26 = .ok (.aload_n 0, 1) := by decide +kernel
theorem dX5_as_27 : decode cX5_as 27 = .ok (.getfield 7, 3) := by decide +kernel
theorem dX5_as_30 : decode cX5_as 30 = .ok (.bipush 26, 2) := by decide +kernel
theorem dX5_as_32 : decode cX5_as 32 = .ok (.iload_n 1, 1) := by decide +kernel
theorem dX5_as_33 : decode cX5_as 33 = .ok (.iadd, 1) := by decide +kernel
theorem dX5_as_34 : decode cX5_as 34 = .ok (.iaload, 1) := by decide +kernel
theorem dX5_as_35 : decode cX5_as 35 = .ok (.istore_n 3, 1) := by decide +kernel
theorem dX5_as_36 : decode cX5_as 36 = .ok (.iload_n 2, 1) := by decide +kernel
theorem dX5_as_37 : decode cX5_as 37 = .ok (.ifCond .eq 20, 3) := by decide +kernel
theorem dX5_as_40 : decode cX5_as 40 = .ok (.iload_n 2, 1) := by decide +kernel
theorem dX5_as_41 : decode cX5_as 41 = .ok (.iload_n 3, 1) := by decide +kernel
theorem dX5_as_42 : decode cX5_as 42 = .ok (.iconst 1, 1) := by decide +kernel
theorem dX5_as_43 : decode cX5_as 43 = .ok (.iadd, 1) := by decide +kernel
theorem dX5_as_44 : decode cX5_as 44 = .ok (.if_icmp .eq 13, 3) := by decide +kernel
theorem dX5_as_47 : decode cX5_as 47 = .ok (.iload_n 2, 1) := by decide +kernel
theorem dX5_as_48 : decode cX5_as 48 = .ok (.iconst 1, 1) := by decide +kernel
theorem dX5_as_49 : decode cX5_as 49 = .ok (.if_icmp .ne 12, 3) := by decide +kernel
theorem dX5_as_52 : decode cX5_as 52 = .ok (.iload_n 3, 1) := by decide +kernel
theorem dX5_as_53 : decode cX5_as 53 = .ok (.iconst 3, 1) := by decide +kernel
theorem dX5_as_54 : decode cX5_as 54 = .ok (.if_icmp .ge 7, 3) := by decide +kernel
theorem dX5_as_57 : decode cX5_as 57 = .ok (.iconst 1, 1) := by decide +kernel
theorem dX5_as_58 : decode cX5_as 58 = .ok (.goto 4, 3) := by decide +kernel
theorem dX5_as_61 : decode cX5_as 61 = .ok (.iconst 0, 1) := by decide +kernel
theorem dX5_as_62 : decode cX5_as 62 = .ok (.istore 4, 2) := by decide +kernel
theorem dX5_as_64 : decode cX5_as 64 = .ok (.iload 4, 2) := by decide +kernel
theorem dX5_as_66 : decode cX5_as 66 = .ok (.ifCond .eq 12, 3) := by decide +kernel
theorem dX5_as_69 : decode cX5_as 69 = .ok (.aload_n 0, 1) := by decide +kernel
theorem dX5_as_70 : decode cX5_as 70 = .ok (.getfield 7, 3) := by decide +kernel
theorem dX5_as_73 : decode cX5_as 73 = .ok (.iconst 0, 1) := by decide +kernel
theorem dX5_as_74 : decode cX5_as 74 = .ok (.iaload, 1) := by decide +kernel
theorem dX5_as_75 : decode cX5_as 75 = .ok (.ifCond .ne 6, 3) := by decide +kernel
theorem dX5_as_78 : decode cX5_as 78 = .ok (.bipush (-4), 2) := by decide +kernel
theorem dX5_as_80 : decode cX5_as 80 = .ok (.ireturn, 1) := by decide +kernel
theorem dX5_as_81 : decode cX5_as 81 = .ok (.aload_n 0, 1) := by decide +kernel
theorem dX5_as_82 : decode cX5_as 82 = .ok (.invokevirtual 173, 3) := by decide +kernel
theorem dX5_as_85 : decode cX5_as 85 = .ok (.aload_n 0, 1) := by decide +kernel
theorem dX5_as_86 : decode cX5_as 86 = .ok (.aload_n 0, 1) := by decide +kernel
theorem dX5_as_87 : decode cX5_as 87 = .ok (.getfield 16, 3) := by decide +kernel
theorem dX5_as_90 : decode cX5_as 90 = .ok (.iload_n 1, 1) := by decide +kernel
theorem dX5_as_91 : decode cX5_as 91 = .ok (.iconst 0, 1) := by decide +kernel
theorem dX5_as_92 : decode cX5_as 92 = .ok (.invokevirtual 155, 3) := by decide +kernel
theorem dX5_as_95 : decode cX5_as 95 = .ok (.sipush 9999, 3) := by decide +kernel
theorem dX5_as_98 : decode cX5_as 98 = .ok (.iadd, 1) := by decide +kernel
theorem dX5_as_99 : decode cX5_as 99 = .ok (.ireturn, 1) := by decide +kernel
theorem dX5_remember_0 : decode cX5_remember 0 = .ok (.aload_n 0, 1) := by decide +kernel
theorem dX5_remember_1 : decode cX5_remember 1 = .ok (.getfield 54, 3) := by decide +kernel
theorem dX5_remember_4 : decode cX5_remember 4 = .ok (.bipush 8, 2) := by decide +kernel
theorem dX5_remember_6 : decode cX5_remember 6 = .ok (.if_icmp .ne 43, 3) := by decide +kernel
theorem dX5_remember_9 : decode cX5_remember 9 = .ok (.iconst 0, 1) := by decide +kernel
theorem dX5_remember_10 : decode cX5_remember 10 = .ok (.istore_n 1, 1) := by decide +kernel
theorem dX5_remember_11 : decode cX5_remember 11 = .ok (.iload_n 1, 1) := by decide +kernel
theorem dX5_remember_12 : decode cX5_remember 12 = .ok (.sipush 364, 3) := by decide +kernel
theorem dX5_remember_15 : decode cX5_remember 15 = .ok (.if_icmp .ge 24, 3) := by decide +kernel
theorem dX5_remember_18 : decode cX5_remember 18 = .ok (.aload_n 0, 1) := by decide +kernel
theorem dX5_remember_19 : decode cX5_remember 19 = .ok (.getfield 19, 3) := by decide +kernel
theorem dX5_remember_22 : decode cX5_remember 22 = .ok (.iload_n 1, 1) := by decide +kernel
theorem dX5_remember_23 : decode cX5_remember 23 = .ok (.aload_n 0, 1) := by decide +kernel
theorem dX5_remember_24 : decode cX5_remember 24 = .ok (.getfield 19, 3) := by decide +kernel
theorem dX5_remember_27 : decode cX5_remember 27 = .ok (.iload_n 1, 1) := by decide +kernel
theorem dX5_remember_28 : decode cX5_remember 28 = .ok (.bipush 52, 2) := by decide +kernel
theorem dX5_remember_30 : decode cX5_remember 30 = .ok (.iadd, 1) := by decide +kernel
theorem dX5_remember_31 : decode cX5_remember 31 = .ok (.iaload, 1) := by decide +kernel
theorem dX5_remember_32 : decode cX5_remember 32 = .ok (.iastore, 1) := by decide +kernel
theorem dX5_remember_33 : decode cX5_remember 33 = .ok (.iinc 1 1, 3) := by decide +kernel
theorem dX5_remember_36 : decode cX5_remember 36 = .ok (.goto (-25), 3) := by decide +kernel
theorem dX5_remember_39 : decode cX5_remember 39 = .ok (.aload_n 0, 1) := by decide +kernel
theorem dX5_remember_40 : decode cX5_remember 40 = .ok (.dup, 1) := by decide +kernel
theorem dX5_remember_41 : decode cX5_remember 41 = .ok (.getfield 54, 3) := by decide +kernel
theorem dX5_remember_44 : decode cX5_remember 44 = .ok (.iconst 1, 1) := by decide +kernel
theorem dX5_remember_45 : decode cX5_remember 45 = .ok (.isub, 1) := by decide +kernel
theorem dX5_remember_46 : decode cX5_remember 46 = .ok (.putfield 54, 3) := by decide +kernel
theorem dX5_remember_49 : decode cX5_remember 49 = .ok (.aload_n 0, 1) := by decide +kernel
theorem dX5_remember_50 : decode cX5_remember 50 = .ok (.getfield 16, 3) := by decide +kernel
theorem dX5_remember_53 : decode cX5_remember 53 = .ok (.iconst 0, 1) := by decide +kernel
theorem dX5_remember_54 : decode cX5_remember 54 = .ok (.aload_n 0, 1) := by decide +kernel
theorem dX5_remember_55 : decode cX5_remember 55 = .ok (.getfield 19, 3) := by decide +kernel
theorem dX5_remember_58 : decode cX5_remember 58 = .ok (.bipush 52, 2) := by decide +kernel
theorem dX5_remember_60 : decode cX5_remember 60 = .ok (.aload_n 0, 1) := by decide +kernel
theorem dX5_remember_61 : decode cX5_remember 61 = .ok (.getfield 54, 3) := by decide +kernel
theorem dX5_remember_64 : decode cX5_remember 64 = .ok (.imul, 1) := by decide +kernel
theorem dX5_remember_65 : decode cX5_remember 65 = .ok (.bipush 52, 2) := by decide +kernel
theorem dX5_remember_67 : decode cX5_remember 67 = .ok (.invokestatic 141, 3) := by decide +kernel
theorem dX5_remember_70 : decode cX5_remember 70 = .ok (.aload_n 0, 1) := by decide +kernel
theorem dX5_remember_71 : decode cX5_remember 71 = .ok (.dup, 1) := by decide +kernel
theorem dX5_remember_72 : decode cX5_remember 72 = .ok (.getfield 54, 3) := by decide +kernel
theorem dX5_remember_75 : decode cX5_remember 75 = .ok (.iconst 1, 1) := by decide +kernel
theorem dX5_remember_76 : decode cX5_remember 76 = .ok (.iadd, 1) := by decide +kernel
theorem dX5_remember_77 : decode cX5_remember 77 = .ok (.putfield 54, 3) := by decide +kernel
theorem dX5_remember_80 : decode cX5_remember 80 = .ok (.return_, 1) := by decide +kernel
theorem dX5_day_0 : decode cX5_day 0 = .ok (.aload_n 0, 1) := by decide +kernel
theorem dX5_day_1 : decode cX5_day 1 = .ok (.getfield 16, 3) := by decide +kernel
theorem dX5_day_4 : decode cX5_day 4 = .ok (.iconst 0, 1) := by decide +kernel
theorem dX5_day_5 : decode cX5_day 5 = .ok (.iaload, 1) := by decide +kernel
theorem dX5_day_6 : decode cX5_day 6 = .ok (.sipush 999, 3) := by decide +kernel
theorem dX5_day_9 : decode cX5_day 9 = .ok (.if_icmp .ne 6, 3) := by decide +kernel
theorem dX5_day_12 : decode cX5_day 12 = .ok (.bipush (-5), 2) := by decide +kernel
theorem dX5_day_14 : decode cX5_day 14 = .ok (.ireturn, 1) := by decide +kernel
theorem dX5_day_15 : decode cX5_day 15 = .ok (.aload_n 0, 1) := by decide +kernel
theorem dX5_day_16 : decode cX5_day 16 = .ok (.invokevirtual 176, 3) := by decide +kernel
theorem dX5_day_19 : decode cX5_day 19 = .ok (.aload_n 0, 1) := by decide +kernel
theorem dX5_day_20 : decode cX5_day 20 = .ok (.invokevirtual 173, 3) := by decide +kernel
theorem dX5_day_23 : decode cX5_day 23 = .ok (.aload_n 0, 1) := by decide +kernel
theorem dX5_day_24 : decode cX5_day 24 = .ok (.aload_n 0, 1) := by decide +kernel
theorem dX5_day_25 : decode cX5_day 25 = .ok (.getfield 16, 3) := by decide +kernel
theorem dX5_day_28 : decode cX5_day 28 = .ok (.invokevirtual 179, 3) := by decide +kernel
theorem dX5_day_31 : decode cX5_day 31 = .ok (.ireturn, 1) := by decide +kernel
theorem dX5_thunder_0 : decode cX5_thunder 0 = .ok (.aload_n 0, 1) := by decide +kernel
theorem dX5_thunder_1 : decode cX5_thunder 1 = .ok (.invokevirtual 176, 3) := by decide +kernel
theorem dX5_thunder_4 : decode cX5_thunder 4 = .ok (.aload_n 0, 1) := by decide +kernel
theorem dX5_thunder_5 : decode cX5_thunder 5 = .ok (.getfield 16, 3) := by decide +kernel
theorem dX5_thunder_8 : decode cX5_thunder 8 = .ok (.iconst 1, 1) := by decide +kernel
theorem dX5_thunder_9 : decode cX5_thunder 9 = .ok (.iaload, 1) := by decide +kernel
theorem dX5_thunder_10 : decode cX5_thunder 10 = .ok (.istore_n 1, 1) := by decide +kernel
theorem dX5_thunder_11 : decode cX5_thunder 11 = .ok (.aload_n 0, 1) := by decide +kernel
theorem dX5_thunder_12 : decode cX5_thunder 12 = .ok (.getfield 16, 3) := by decide +kernel
theorem dX5_thunder_15 : decode cX5_thunder 15 = .ok (.iconst 1, 1) := by decide +kernel
theorem dX5_thunder_16 : decode cX5_thunder 16 = .ok (.iconst 1, 1) := by decide +kernel
theorem dX5_thunder_17 : decode cX5_thunder 17 = .ok (.iastore, 1) := by decide +kernel
theorem dX5_thunder_18 : decode cX5_thunder 18 = .ok (.iload_n 1, 1) := by decide +kernel
theorem dX5_thunder_19 : decode cX5_thunder 19 = .ok (.ireturn, 1) := by decide +kernel
theorem dX5_straw_0 : decode cX5_straw 0 = .ok (.aload_n 0, 1) := by decide +kernel
theorem dX5_straw_1 : decode cX5_straw 1 = .ok (.iload_n 1, 1) := by decide +kernel
theorem dX5_straw_2 : decode cX5_straw 2 = .ok (.invokevirtual 163, 3) := by decide +kernel
theorem dX5_straw_5 : decode cX5_straw 5 = .ok (.ifCond .ne 6, 3) := by decide +kernel
theorem dX5_straw_8 : decode cX5_straw 8 = .ok (.bipush (-2), 2) := by decide +kernel
theorem dX5_straw_10 : decode cX5_straw 10 = .ok (.ireturn, 1) := by decide +kernel
theorem dX5_straw_11 : decode cX5_straw 11 = .ok (.iload_n 2, 1) := by decide +kernel
theorem dX5_straw_12 : decode cX5_straw 12 = .ok (.i2l, 1) := by decide +kernel
theorem dX5_straw_13 : decode cX5_straw 13 = .ok (.lconst 0, 1) := by decide +kernel
theorem dX5_straw_14 : decode cX5_straw 14 = .ok (.ldc2_w 183, 3) := by decide +kernel
theorem dX5_straw_17 : decode cX5_straw 17 = .ok (.invokestatic 63, 3) := by decide +kernel
theorem dX5_straw_20 : decode cX5_straw 20 = .ok (.ifCond .ne 6, 3) := by decide +kernel
theorem dX5_straw_23 : decode cX5_straw 23 = .ok (.bipush (-3), 2) := by decide +kernel
theorem dX5_straw_25 : decode cX5_straw 25 = .ok (.ireturn, 1) := by decide +kernel
theorem dX5_straw_26 : decode cX5_straw 26 = .ok (.aload_n 0, 1) := by decide +kernel
theorem dX5_straw_27 : decode cX5_straw 27 = .ok (.invokevirtual 176, 3) := by decide +kernel
theorem dX5_straw_30 : decode cX5_straw 30 = .ok (.aload_n 0, 1) := by decide +kernel
theorem dX5_straw_31 : decode cX5_straw 31 = .ok (.getfield 16, 3) := by decide +kernel
theorem dX5_straw_34 : decode cX5_straw 34 = .ok (.bipush 10, 2) := by decide +kernel
theorem dX5_straw_36 : decode cX5_straw 36 = .ok (.iload_n 1, 1) := by decide +kernel
theorem dX5_straw_37 : decode cX5_straw 37 = .ok (.iadd, 1) := by decide +kernel
theorem dX5_straw_38 : decode cX5_straw 38 = .ok (.iaload, 1) := by decide +kernel
theorem dX5_straw_39 : decode cX5_straw 39 = .ok (.istore_n 3, 1) := by decide +kernel
theorem dX5_straw_40 : decode cX5_straw 40 = .ok (.aload_n 0, 1) := by decide +kernel
theorem dX5_straw_41 : decode cX5_straw 41 = .ok (.getfield 16, 3) := by decide +kernel
theorem dX5_straw_44 : decode cX5_straw 44 = .ok (.bipush 10, 2) := by decide +kernel
theorem dX5_straw_46 : decode cX5_straw 46 = .ok (.iload_n 1, 1) := by decide +kernel
theorem dX5_straw_47 : decode cX5_straw 47 = .ok (.iadd, 1) := by decide +kernel
theorem dX5_straw_48 : decode cX5_straw 48 = .ok (.iload_n 2, 1) := by decide +kernel
theorem dX5_straw_49 : decode cX5_straw 49 = .ok (.iastore, 1) := by decide +kernel
theorem dX5_straw_50 : decode cX5_straw 50 = .ok (.iload_n 3, 1) := by decide +kernel
theorem dX5_straw_51 : decode cX5_straw 51 = .ok (.ireturn, 1) := by decide +kernel
theorem dX5_moves_0 : decode cX5_moves 0 = .ok (.aload_n 0, 1) := by decide +kernel
theorem dX5_moves_1 : decode cX5_moves 1 = .ok (.iconst 2, 1) := by decide +kernel
theorem dX5_moves_2 : decode cX5_moves 2 = .ok (.iload_n 1, 1) := by decide +kernel
theorem dX5_moves_3 : decode cX5_moves 3 = .ok (.iadd, 1) := by decide +kernel
theorem dX5_moves_4 : decode cX5_moves 4 = .ok (.iaload, 1) := by decide +kernel
theorem dX5_moves_5 : decode cX5_moves 5 = .ok (.istore_n 3, 1) := by decide +kernel
theorem dX5_moves_6 : decode cX5_moves 6 = .ok (.aload_n 0, 1) := by decide +kernel
theorem dX5_moves_7 : decode cX5_moves 7 = .ok (.iconst 2, 1) := by decide +kernel
theorem dX5_moves_8 : decode cX5_moves 8 = .ok (.iload_n 1, 1) := by decide +kernel
theorem dX5_moves_9 : decode cX5_moves 9 = .ok (.iadd, 1) := by decide +kernel
theorem dX5_moves_10 : decode cX5_moves 10 = .ok (.aload_n 0, 1) := by decide +kernel
theorem dX5_moves_11 : decode cX5_moves 11 = .ok (.iconst 2, 1) := by decide +kernel
theorem dX5_moves_12 : decode cX5_moves 12 = .ok (.iload_n 2, 1) := by decide +kernel
theorem dX5_moves_13 : decode cX5_moves 13 = .ok (.iadd, 1) := by decide +kernel
theorem dX5_moves_14 : decode cX5_moves 14 = .ok (.iaload, 1) := by decide +kernel
theorem dX5_moves_15 : decode cX5_moves 15 = .ok (.iastore, 1) := by decide +kernel
theorem dX5_moves_16 : decode cX5_moves 16 = .ok (.aload_n 0, 1) := by decide +kernel
theorem dX5_moves_17 : decode cX5_moves 17 = .ok (.iconst 2, 1) := by decide +kernel
theorem dX5_moves_18 : decode cX5_moves 18 = .ok (.iload_n 2, 1) := by decide +kernel
theorem dX5_moves_19 : decode cX5_moves 19 = .ok (.iadd, 1) := by decide +kernel
theorem dX5_moves_20 : decode cX5_moves 20 = .ok (.iload_n 3, 1) := by decide +kernel
theorem dX5_moves_21 : decode cX5_moves 21 = .ok (.iastore, 1) := by decide +kernel
theorem dX5_moves_22 : decode cX5_moves 22 = .ok (.return_, 1) := by decide +kernel
theorem dX5_move_0 : decode cX5_move 0 = .ok (.aload_n 0, 1) := by decide +kernel
theorem dX5_move_1 : decode cX5_move 1 = .ok (.iload_n 1, 1) := by decide +kernel
theorem dX5_move_2 : decode cX5_move 2 = .ok (.invokevirtual 163, 3) := by decide +kernel
theorem dX5_move_5 : decode cX5_move 5 = .ok (.ifCond .eq 16, 3) := by decide +kernel
theorem dX5_move_8 : decode cX5_move 8 = .ok (.aload_n 0, 1) := by decide +kernel
theorem dX5_move_9 : decode cX5_move 9 = .ok (.iload_n 2, 1) := by decide +kernel
theorem dX5_move_10 : decode cX5_move 10 = .ok (.invokevirtual 163, 3) := by decide +kernel
theorem dX5_move_13 : decode cX5_move 13 = .ok (.ifCond .eq 8, 3) := by decide +kernel
theorem dX5_move_16 : decode cX5_move 16 = .ok (.iload_n 1, 1) := by decide +kernel
theorem dX5_move_17 : decode cX5_move 17 = .ok (.iload_n 2, 1) := by decide +kernel
theorem dX5_move_18 : decode cX5_move 18 = .ok (.if_icmp .ne 6, 3) := by decide +kernel
theorem dX5_move_21 : decode cX5_move 21 = .ok (.bipush (-2), 2) := by decide +kernel
theorem dX5_move_23 : decode cX5_move 23 = .ok (.ireturn, 1) := by decide +kernel
theorem dX5_move_24 : decode cX5_move 24 = .ok (.aload_n 0, 1) := by decide +kernel
theorem dX5_move_25 : decode cX5_move 25 = .ok (.invokevirtual 176, 3) := by decide +kernel
theorem dX5_move_28 : decode cX5_move 28 = .ok (.aload_n 0, 1) := by decide +kernel
theorem dX5_move_29 : decode cX5_move 29 = .ok (.getfield 16, 3) := by decide +kernel
theorem dX5_move_32 : decode cX5_move 32 = .ok (.iload_n 1, 1) := by decide +kernel
theorem dX5_move_33 : decode cX5_move 33 = .ok (.iload_n 2, 1) := by decide +kernel
theorem dX5_move_34 : decode cX5_move 34 = .ok (.invokestatic 185, 3) := by decide +kernel
theorem dX5_move_37 : decode cX5_move 37 = .ok (.aload_n 0, 1) := by decide +kernel
theorem dX5_move_38 : decode cX5_move 38 = .ok (.getfield 16, 3) := by decide +kernel
theorem dX5_move_41 : decode cX5_move 41 = .ok (.iconst 2, 1) := by decide +kernel
theorem dX5_move_42 : decode cX5_move 42 = .ok (.iload_n 1, 1) := by decide +kernel
theorem dX5_move_43 : decode cX5_move 43 = .ok (.iadd, 1) := by decide +kernel
theorem dX5_move_44 : decode cX5_move 44 = .ok (.iaload, 1) := by decide +kernel
theorem dX5_move_45 : decode cX5_move 45 = .ok (.ireturn, 1) := by decide +kernel
theorem dX5_eat_0 : decode cX5_eat 0 = .ok (.aload_n 0, 1) := by decide +kernel
theorem dX5_eat_1 : decode cX5_eat 1 = .ok (.iload_n 1, 1) := by decide +kernel
theorem dX5_eat_2 : decode cX5_eat 2 = .ok (.invokevirtual 163, 3) := by decide +kernel
theorem dX5_eat_5 : decode cX5_eat 5 = .ok (.ifCond .ne 6, 3) := by decide +kernel
theorem dX5_eat_8 : decode cX5_eat 8 = .ok (.bipush (-2), 2) := by decide +kernel
theorem dX5_eat_10 : decode cX5_eat 10 = .ok (.ireturn, 1) := by decide +kernel
theorem dX5_eat_11 : decode cX5_eat 11 = .ok (.aload_n 0, 1) := by decide +kernel
theorem dX5_eat_12 : decode cX5_eat 12 = .ok (.getfield 16, 3) := by decide +kernel
theorem dX5_eat_15 : decode cX5_eat 15 = .ok (.bipush 18, 2) := by decide +kernel
theorem dX5_eat_17 : decode cX5_eat 17 = .ok (.iload_n 1, 1) := by decide +kernel
theorem dX5_eat_18 : decode cX5_eat 18 = .ok (.iadd, 1) := by decide +kernel
theorem dX5_eat_19 : decode cX5_eat 19 = .ok (.iaload, 1) := by decide +kernel
theorem dX5_eat_20 : decode cX5_eat 20 = .ok (.iconst (-1), 1) := by decide +kernel
theorem dX5_eat_21 : decode cX5_eat 21 = .ok (.if_icmp .ne 6, 3) := by decide +kernel
theorem dX5_eat_24 : decode cX5_eat 24 = .ok (.bipush (-4), 2) := by decide +kernel
theorem dX5_eat_26 : decode cX5_eat 26 = .ok (.ireturn, 1) := by decide +kernel
theorem dX5_eat_27 : decode cX5_eat 27 = .ok (.aload_n 0, 1) := by decide +kernel
theorem dX5_eat_28 : decode cX5_eat 28 = .ok (.invokevirtual 176, 3) := by decide +kernel
theorem dX5_eat_31 : decode cX5_eat 31 = .ok (.aload_n 0, 1) := by decide +kernel
theorem dX5_eat_32 : decode cX5_eat 32 = .ok (.getfield 16, 3) := by decide +kernel
theorem dX5_eat_35 : decode cX5_eat 35 = .ok (.bipush 18, 2) := by decide +kernel
theorem dX5_eat_37 : decode cX5_eat 37 = .ok (.iload_n 1, 1) := by decide +kernel
theorem dX5_eat_38 : decode cX5_eat 38 = .ok (.iadd, 1) := by decide +kernel
theorem dX5_eat_39 : decode cX5_eat 39 = .ok (.iconst (-1), 1) := by decide +kernel
theorem dX5_eat_40 : decode cX5_eat 40 = .ok (.iastore, 1) := by decide +kernel
theorem dX5_eat_41 : decode cX5_eat 41 = .ok (.aload_n 0, 1) := by decide +kernel
theorem dX5_eat_42 : decode cX5_eat 42 = .ok (.getfield 16, 3) := by decide +kernel
theorem dX5_eat_45 : decode cX5_eat 45 = .ok (.bipush 49, 2) := by decide +kernel
theorem dX5_eat_47 : decode cX5_eat 47 = .ok (.dup2, 1) := by decide +kernel
theorem dX5_eat_48 : decode cX5_eat 48 = .ok (.iaload, 1) := by decide +kernel
theorem dX5_eat_49 : decode cX5_eat 49 = .ok (.iconst 1, 1) := by decide +kernel
theorem dX5_eat_50 : decode cX5_eat 50 = .ok (.iadd, 1) := by decide +kernel
theorem dX5_eat_51 : decode cX5_eat 51 = .ok (.iastore, 1) := by decide +kernel
theorem dX5_eat_52 : decode cX5_eat 52 = .ok (.aload_n 0, 1) := by decide +kernel
theorem dX5_eat_53 : decode cX5_eat 53 = .ok (.getfield 16, 3) := by decide +kernel
theorem dX5_eat_56 : decode cX5_eat 56 = .ok (.bipush 49, 2) := by decide +kernel
theorem dX5_eat_58 : decode cX5_eat 58 = .ok (.iaload, 1) := by decide +kernel
theorem dX5_eat_59 : decode cX5_eat 59 = .ok (.ireturn, 1) := by decide +kernel
theorem dX5_heed_0 : decode cX5_heed 0 = .ok (.aload_n 0, 1) := by decide +kernel
theorem dX5_heed_1 : decode cX5_heed 1 = .ok (.iload_n 1, 1) := by decide +kernel
theorem dX5_heed_2 : decode cX5_heed 2 = .ok (.invokevirtual 163, 3) := by decide +kernel
theorem dX5_heed_5 : decode cX5_heed 5 = .ok (.ifCond .ne 6, 3) := by decide +kernel
theorem dX5_heed_8 : decode cX5_heed 8 = .ok (.bipush (-2), 2) := by decide +kernel
theorem dX5_heed_10 : decode cX5_heed 10 = .ok (.ireturn, 1) := by decide +kernel
theorem dX5_heed_11 : decode cX5_heed 11 = .ok (.aload_n 0, 1) := by decide +kernel
theorem dX5_heed_12 : decode cX5_heed 12 = .ok (.getfield 16, 3) := by decide +kernel
theorem dX5_heed_15 : decode cX5_heed 15 = .ok (.bipush 18, 2) := by decide +kernel
theorem dX5_heed_17 : decode cX5_heed 17 = .ok (.iload_n 1, 1) := by decide +kernel
theorem dX5_heed_18 : decode cX5_heed 18 = .ok (.iadd, 1) := by decide +kernel
theorem dX5_heed_19 : decode cX5_heed 19 = .ok (.iaload, 1) := by decide +kernel
theorem dX5_heed_20 : decode cX5_heed 20 = .ok (.iconst (-1), 1) := by decide +kernel
theorem dX5_heed_21 : decode cX5_heed 21 = .ok (.if_icmp .ne 6, 3) := by decide +kernel
theorem dX5_heed_24 : decode cX5_heed 24 = .ok (.bipush (-4), 2) := by decide +kernel
theorem dX5_heed_26 : decode cX5_heed 26 = .ok (.ireturn, 1) := by decide +kernel
theorem dX5_heed_27 : decode cX5_heed 27 = .ok (.aload_n 0, 1) := by decide +kernel
theorem dX5_heed_28 : decode cX5_heed 28 = .ok (.invokevirtual 176, 3) := by decide +kernel
theorem dX5_heed_31 : decode cX5_heed 31 = .ok (.aload_n 0, 1) := by decide +kernel
theorem dX5_heed_32 : decode cX5_heed 32 = .ok (.getfield 16, 3) := by decide +kernel
theorem dX5_heed_35 : decode cX5_heed 35 = .ok (.bipush 18, 2) := by decide +kernel
theorem dX5_heed_37 : decode cX5_heed 37 = .ok (.iload_n 1, 1) := by decide +kernel
theorem dX5_heed_38 : decode cX5_heed 38 = .ok (.iadd, 1) := by decide +kernel
theorem dX5_heed_39 : decode cX5_heed 39 = .ok (.iconst (-1), 1) := by decide +kernel
theorem dX5_heed_40 : decode cX5_heed 40 = .ok (.iastore, 1) := by decide +kernel
theorem dX5_heed_41 : decode cX5_heed 41 = .ok (.aload_n 0, 1) := by decide +kernel
theorem dX5_heed_42 : decode cX5_heed 42 = .ok (.getfield 16, 3) := by decide +kernel
theorem dX5_heed_45 : decode cX5_heed 45 = .ok (.bipush 50, 2) := by decide +kernel
theorem dX5_heed_47 : decode cX5_heed 47 = .ok (.dup2, 1) := by decide +kernel
theorem dX5_heed_48 : decode cX5_heed 48 = .ok (.iaload, 1) := by decide +kernel
theorem dX5_heed_49 : decode cX5_heed 49 = .ok (.iconst 1, 1) := by decide +kernel
theorem dX5_heed_50 : decode cX5_heed 50 = .ok (.iadd, 1) := by decide +kernel
theorem dX5_heed_51 : decode cX5_heed 51 = .ok (.iastore, 1) := by decide +kernel
theorem dX5_heed_52 : decode cX5_heed 52 = .ok (.aload_n 0, 1) := by decide +kernel
theorem dX5_heed_53 : decode cX5_heed 53 = .ok (.getfield 16, 3) := by decide +kernel
theorem dX5_heed_56 : decode cX5_heed 56 = .ok (.bipush 51, 2) := by decide +kernel
theorem dX5_heed_58 : decode cX5_heed 58 = .ok (.dup2, 1) := by decide +kernel
theorem dX5_heed_59 : decode cX5_heed 59 = .ok (.iaload, 1) := by decide +kernel
theorem dX5_heed_60 : decode cX5_heed 60 = .ok (.aload_n 0, 1) := by decide +kernel
theorem dX5_heed_61 : decode cX5_heed 61 = .ok (.getfield 16, 3) := by decide +kernel
theorem dX5_heed_64 : decode cX5_heed 64 = .ok (.bipush 26, 2) := by decide +kernel
theorem dX5_heed_66 : decode cX5_heed 66 = .ok (.iload_n 1, 1) := by decide +kernel
theorem dX5_heed_67 : decode cX5_heed 67 = .ok (.iadd, 1) := by decide +kernel
theorem dX5_heed_68 : decode cX5_heed 68 = .ok (.iaload, 1) := by decide +kernel
theorem dX5_heed_69 : decode cX5_heed 69 = .ok (.iconst 1, 1) := by decide +kernel
theorem dX5_heed_70 : decode cX5_heed 70 = .ok (.if_icmp .ne 7, 3) := by decide +kernel
theorem dX5_heed_73 : decode cX5_heed 73 = .ok (.iconst 2, 1) := by decide +kernel
theorem dX5_heed_74 : decode cX5_heed 74 = .ok (.goto 4, 3) := by decide +kernel
theorem dX5_heed_77 : decode cX5_heed 77 = .ok (.iconst (-1), 1) := by decide +kernel
theorem dX5_heed_78 : decode cX5_heed 78 = .ok (.iadd, 1) := by decide +kernel
theorem dX5_heed_79 : decode cX5_heed 79 = .ok (.iastore, 1) := by decide +kernel
theorem dX5_heed_80 : decode cX5_heed 80 = .ok (.aload_n 0, 1) := by decide +kernel
theorem dX5_heed_81 : decode cX5_heed 81 = .ok (.getfield 16, 3) := by decide +kernel
theorem dX5_heed_84 : decode cX5_heed 84 = .ok (.bipush 51, 2) := by decide +kernel
theorem dX5_heed_86 : decode cX5_heed 86 = .ok (.iaload, 1) := by decide +kernel
theorem dX5_heed_87 : decode cX5_heed 87 = .ok (.sipush 9999, 3) := by decide +kernel
theorem dX5_heed_90 : decode cX5_heed 90 = .ok (.iadd, 1) := by decide +kernel
theorem dX5_heed_91 : decode cX5_heed 91 = .ok (.ireturn, 1) := by decide +kernel
theorem dX5_undo_0 : decode cX5_undo 0 = .ok (.aload_n 0, 1) := by decide +kernel
theorem dX5_undo_1 : decode cX5_undo 1 = .ok (.getfield 54, 3) := by decide +kernel
theorem dX5_undo_4 : decode cX5_undo 4 = .ok (.ifCond .ne 6, 3) := by decide +kernel
theorem dX5_undo_7 : decode cX5_undo 7 = .ok (.bipush (-4), 2) := by decide +kernel
theorem dX5_undo_9 : decode cX5_undo 9 = .ok (.ireturn, 1) := by decide +kernel
theorem dX5_undo_10 : decode cX5_undo 10 = .ok (.aload_n 0, 1) := by decide +kernel
theorem dX5_undo_11 : decode cX5_undo 11 = .ok (.dup, 1) := by decide +kernel
theorem dX5_undo_12 : decode cX5_undo 12 = .ok (.getfield 54, 3) := by decide +kernel
theorem dX5_undo_15 : decode cX5_undo 15 = .ok (.iconst 1, 1) := by decide +kernel
theorem dX5_undo_16 : decode cX5_undo 16 = .ok (.isub, 1) := by decide +kernel
theorem dX5_undo_17 : decode cX5_undo 17 = .ok (.putfield 54, 3) := by decide +kernel
theorem dX5_undo_20 : decode cX5_undo 20 = .ok (.aload_n 0, 1) := by decide +kernel
theorem dX5_undo_21 : decode cX5_undo 21 = .ok (.getfield 19, 3) := by decide +kernel
theorem dX5_undo_24 : decode cX5_undo 24 = .ok (.bipush 52, 2) := by decide +kernel
theorem dX5_undo_26 : decode cX5_undo 26 = .ok (.aload_n 0, 1) := by decide +kernel
theorem dX5_undo_27 : decode cX5_undo 27 = .ok (.getfield 54, 3) := by decide +kernel
theorem dX5_undo_30 : decode cX5_undo 30 = .ok (.imul, 1) := by decide +kernel
theorem dX5_undo_31 : decode cX5_undo 31 = .ok (.aload_n 0, 1) := by decide +kernel
theorem dX5_undo_32 : decode cX5_undo 32 = .ok (.getfield 16, 3) := by decide +kernel
theorem dX5_undo_35 : decode cX5_undo 35 = .ok (.iconst 0, 1) := by decide +kernel
theorem dX5_undo_36 : decode cX5_undo 36 = .ok (.bipush 52, 2) := by decide +kernel
theorem dX5_undo_38 : decode cX5_undo 38 = .ok (.invokestatic 141, 3) := by decide +kernel
theorem dX5_undo_41 : decode cX5_undo 41 = .ok (.aload_n 0, 1) := by decide +kernel
theorem dX5_undo_42 : decode cX5_undo 42 = .ok (.getfield 54, 3) := by decide +kernel
theorem dX5_undo_45 : decode cX5_undo 45 = .ok (.ireturn, 1) := by decide +kernel
theorem dX5_keep_0 : decode cX5_keep 0 = .ok (.iload_n 1, 1) := by decide +kernel
theorem dX5_keep_1 : decode cX5_keep 1 = .ok (.invokestatic 189, 3) := by decide +kernel
theorem dX5_keep_4 : decode cX5_keep 4 = .ok (.ifCond .ne 6, 3) := by decide +kernel
theorem dX5_keep_7 : decode cX5_keep 7 = .ok (.bipush (-2), 2) := by decide +kernel
theorem dX5_keep_9 : decode cX5_keep 9 = .ok (.ireturn, 1) := by decide +kernel
theorem dX5_keep_10 : decode cX5_keep 10 = .ok (.aload_n 0, 1) := by decide +kernel
theorem dX5_keep_11 : decode cX5_keep 11 = .ok (.getfield 16, 3) := by decide +kernel
theorem dX5_keep_14 : decode cX5_keep 14 = .ok (.iconst 0, 1) := by decide +kernel
theorem dX5_keep_15 : decode cX5_keep 15 = .ok (.aload_n 0, 1) := by decide +kernel
theorem dX5_keep_16 : decode cX5_keep 16 = .ok (.getfield 22, 3) := by decide +kernel
theorem dX5_keep_19 : decode cX5_keep 19 = .ok (.bipush 52, 2) := by decide +kernel
theorem dX5_keep_21 : decode cX5_keep 21 = .ok (.iload_n 1, 1) := by decide +kernel
theorem dX5_keep_22 : decode cX5_keep 22 = .ok (.imul, 1) := by decide +kernel
theorem dX5_keep_23 : decode cX5_keep 23 = .ok (.bipush 52, 2) := by decide +kernel
theorem dX5_keep_25 : decode cX5_keep 25 = .ok (.invokestatic 141, 3) := by decide +kernel
theorem dX5_keep_28 : decode cX5_keep 28 = .ok (.aload_n 0, 1) := by decide +kernel
theorem dX5_keep_29 : decode cX5_keep 29 = .ok (.getfield 25, 3) := by decide +kernel
theorem dX5_keep_32 : decode cX5_keep 32 = .ok (.iload_n 1, 1) := by decide +kernel
theorem dX5_keep_33 : decode cX5_keep 33 = .ok (.iconst 1, 1) := by decide +kernel
theorem dX5_keep_34 : decode cX5_keep 34 = .ok (.bastore, 1) := by decide +kernel
theorem dX5_keep_35 : decode cX5_keep 35 = .ok (.aload_n 0, 1) := by decide +kernel
theorem dX5_keep_36 : decode cX5_keep 36 = .ok (.getfield 16, 3) := by decide +kernel
theorem dX5_keep_39 : decode cX5_keep 39 = .ok (.iconst 0, 1) := by decide +kernel
theorem dX5_keep_40 : decode cX5_keep 40 = .ok (.iaload, 1) := by decide +kernel
theorem dX5_keep_41 : decode cX5_keep 41 = .ok (.ireturn, 1) := by decide +kernel
theorem dX5_back_0 : decode cX5_back 0 = .ok (.iload_n 1, 1) := by decide +kernel
theorem dX5_back_1 : decode cX5_back 1 = .ok (.invokestatic 189, 3) := by decide +kernel
theorem dX5_back_4 : decode cX5_back 4 = .ok (.ifCond .ne 6, 3) := by decide +kernel
theorem dX5_back_7 : decode cX5_back 7 = .ok (.bipush (-2), 2) := by decide +kernel
theorem dX5_back_9 : decode cX5_back 9 = .ok (.ireturn, 1) := by decide +kernel
theorem dX5_back_10 : decode cX5_back 10 = .ok (.aload_n 0, 1) := by decide +kernel
theorem dX5_back_11 : decode cX5_back 11 = .ok (.getfield 25, 3) := by decide +kernel
theorem dX5_back_14 : decode cX5_back 14 = .ok (.iload_n 1, 1) := by decide +kernel
theorem dX5_back_15 : decode cX5_back 15 = .ok (.baload, 1) := by decide +kernel
theorem dX5_back_16 : decode cX5_back 16 = .ok (.ifCond .ne 6, 3) := by decide +kernel
theorem dX5_back_19 : decode cX5_back 19 = .ok (.bipush (-4), 2) := by decide +kernel
theorem dX5_back_21 : decode cX5_back 21 = .ok (.ireturn, 1) := by decide +kernel
theorem dX5_back_22 : decode cX5_back 22 = .ok (.aload_n 0, 1) := by decide +kernel
theorem dX5_back_23 : decode cX5_back 23 = .ok (.getfield 22, 3) := by decide +kernel
theorem dX5_back_26 : decode cX5_back 26 = .ok (.bipush 52, 2) := by decide +kernel
theorem dX5_back_28 : decode cX5_back 28 = .ok (.iload_n 1, 1) := by decide +kernel
theorem dX5_back_29 : decode cX5_back 29 = .ok (.imul, 1) := by decide +kernel
theorem dX5_back_30 : decode cX5_back 30 = .ok (.aload_n 0, 1) := by decide +kernel
theorem dX5_back_31 : decode cX5_back 31 = .ok (.getfield 16, 3) := by decide +kernel
theorem dX5_back_34 : decode cX5_back 34 = .ok (.iconst 0, 1) := by decide +kernel
theorem dX5_back_35 : decode cX5_back 35 = .ok (.bipush 52, 2) := by decide +kernel
theorem dX5_back_37 : decode cX5_back 37 = .ok (.invokestatic 141, 3) := by decide +kernel
theorem dX5_back_40 : decode cX5_back 40 = .ok (.aload_n 0, 1) := by decide +kernel
theorem dX5_back_41 : decode cX5_back 41 = .ok (.iconst 0, 1) := by decide +kernel
theorem dX5_back_42 : decode cX5_back 42 = .ok (.putfield 54, 3) := by decide +kernel
theorem dX5_back_45 : decode cX5_back 45 = .ok (.aload_n 0, 1) := by decide +kernel
theorem dX5_back_46 : decode cX5_back 46 = .ok (.getfield 16, 3) := by decide +kernel
theorem dX5_back_49 : decode cX5_back 49 = .ok (.iconst 0, 1) := by decide +kernel
theorem dX5_back_50 : decode cX5_back 50 = .ok (.iaload, 1) := by decide +kernel
theorem dX5_back_51 : decode cX5_back 51 = .ok (.ireturn, 1) := by decide +kernel
theorem dX5_layAside_0 : decode cX5_layAside 0 = .ok (.aload_n 0, 1) := by decide +kernel
theorem dX5_layAside_1 : decode cX5_layAside 1 = .ok (.getfield 16, 3) := by decide +kernel
theorem dX5_layAside_4 : decode cX5_layAside 4 = .ok (.iconst 0, 1) := by decide +kernel
theorem dX5_layAside_5 : decode cX5_layAside 5 = .ok (.aload_n 0, 1) := by decide +kernel
theorem dX5_layAside_6 : decode cX5_layAside 6 = .ok (.getfield 44, 3) := by decide +kernel
theorem dX5_layAside_9 : decode cX5_layAside 9 = .ok (.iconst 0, 1) := by decide +kernel
theorem dX5_layAside_10 : decode cX5_layAside 10 = .ok (.bipush 52, 2) := by decide +kernel
theorem dX5_layAside_12 : decode cX5_layAside 12 = .ok (.invokestatic 141, 3) := by decide +kernel
theorem dX5_layAside_15 : decode cX5_layAside 15 = .ok (.return_, 1) := by decide +kernel
theorem dX5_go_0 : decode cX5_go 0 = .ok (.iconst 0, 1) := by decide +kernel
theorem dX5_go_1 : decode cX5_go 1 = .ok (.istore_n 2, 1) := by decide +kernel
theorem dX5_go_2 : decode cX5_go 2 = .ok (.iload_n 2, 1) := by decide +kernel
theorem dX5_go_3 : decode cX5_go 3 = .ok (.iload_n 1, 1) := by decide +kernel
theorem dX5_go_4 : decode cX5_go 4 = .ok (.if_icmp .ge 18, 3) := by decide +kernel
theorem dX5_go_7 : decode cX5_go 7 = .ok (.aload_n 0, 1) := by decide +kernel
theorem dX5_go_8 : decode cX5_go 8 = .ok (.aload_n 0, 1) := by decide +kernel
theorem dX5_go_9 : decode cX5_go 9 = .ok (.getfield 44, 3) := by decide +kernel
theorem dX5_go_12 : decode cX5_go 12 = .ok (.invokevirtual 179, 3) := by decide +kernel
theorem dX5_go_15 : decode cX5_go 15 = .ok (.istore_n 3, 1) := by decide +kernel
theorem dX5_go_16 : decode cX5_go 16 = .ok (.iinc 2 1, 3) := by decide +kernel
theorem dX5_go_19 : decode cX5_go 19 = .ok (.goto (-17), 3) := by decide +kernel
theorem dX5_go_22 : decode cX5_go 22 = .ok (.return_, 1) := by decide +kernel
theorem dX5_lays_0 : decode cX5_lays 0 = .ok (.aload_n 0, 1) := by decide +kernel
theorem dX5_lays_1 : decode cX5_lays 1 = .ok (.iload_n 1, 1) := by decide +kernel
theorem dX5_lays_2 : decode cX5_lays 2 = .ok (.invokevirtual 166, 3) := by decide +kernel
theorem dX5_lays_5 : decode cX5_lays 5 = .ok (.ifCond .ne 6, 3) := by decide +kernel
theorem dX5_lays_8 : decode cX5_lays 8 = .ok (.bipush (-2), 2) := by decide +kernel
theorem dX5_lays_10 : decode cX5_lays 10 = .ok (.ireturn, 1) := by decide +kernel
theorem dX5_lays_11 : decode cX5_lays 11 = .ok (.iload_n 2, 1) := by decide +kernel
theorem dX5_lays_12 : decode cX5_lays 12 = .ok (.i2l, 1) := by decide +kernel
theorem dX5_lays_13 : decode cX5_lays 13 = .ok (.lconst 1, 1) := by decide +kernel
theorem dX5_lays_14 : decode cX5_lays 14 = .ok (.ldc2_w 192, 3) := by decide +kernel
theorem dX5_lays_17 : decode cX5_lays 17 = .ok (.invokestatic 63, 3) := by decide +kernel
theorem dX5_lays_20 : decode cX5_lays 20 = .ok (.ifCond .ne 6, 3) := by decide +kernel
theorem dX5_lays_23 : decode cX5_lays 23 = .ok (.bipush (-3), 2) := by decide +kernel
theorem dX5_lays_25 : decode cX5_lays 25 = .ok (.ireturn, 1) := by decide +kernel
theorem dX5_lays_26 : decode cX5_lays 26 = .ok (.aload_n 0, 1) := by decide +kernel
theorem dX5_lays_27 : decode cX5_lays 27 = .ok (.invokevirtual 173, 3) := by decide +kernel
theorem dX5_lays_30 : decode cX5_lays 30 = .ok (.aload_n 0, 1) := by decide +kernel
theorem dX5_lays_31 : decode cX5_lays 31 = .ok (.invokevirtual 194, 3) := by decide +kernel
theorem dX5_lays_34 : decode cX5_lays 34 = .ok (.aload_n 0, 1) := by decide +kernel
theorem dX5_lays_35 : decode cX5_lays 35 = .ok (.iload_n 2, 1) := by decide +kernel
theorem dX5_lays_36 : decode cX5_lays 36 = .ok (.invokevirtual 197, 3) := by decide +kernel
theorem dX5_lays_39 : decode cX5_lays 39 = .ok (.aload_n 0, 1) := by decide +kernel
theorem dX5_lays_40 : decode cX5_lays 40 = .ok (.getfield 41, 3) := by decide +kernel
theorem dX5_lays_43 : decode cX5_lays 43 = .ok (.iload_n 1, 1) := by decide +kernel
theorem dX5_lays_44 : decode cX5_lays 44 = .ok (.iaload, 1) := by decide +kernel
theorem dX5_lays_45 : decode cX5_lays 45 = .ok (.ireturn, 1) := by decide +kernel
theorem dX5_rights_0 : decode cX5_rights 0 = .ok (.aload_n 0, 1) := by decide +kernel
theorem dX5_rights_1 : decode cX5_rights 1 = .ok (.iload_n 1, 1) := by decide +kernel
theorem dX5_rights_2 : decode cX5_rights 2 = .ok (.invokevirtual 166, 3) := by decide +kernel
theorem dX5_rights_5 : decode cX5_rights 5 = .ok (.ifCond .ne 6, 3) := by decide +kernel
theorem dX5_rights_8 : decode cX5_rights 8 = .ok (.bipush (-2), 2) := by decide +kernel
theorem dX5_rights_10 : decode cX5_rights 10 = .ok (.ireturn, 1) := by decide +kernel
theorem dX5_rights_11 : decode cX5_rights 11 = .ok (.iload_n 2, 1) := by decide +kernel
theorem dX5_rights_12 : decode cX5_rights 12 = .ok (.i2l, 1) := by decide +kernel
theorem dX5_rights_13 : decode cX5_rights 13 = .ok (.lconst 0, 1) := by decide +kernel
theorem dX5_rights_14 : decode cX5_rights 14 = .ok (.ldc2_w 192, 3) := by decide +kernel
theorem dX5_rights_17 : decode cX5_rights 17 = .ok (.invokestatic 63, 3) := by decide +kernel
theorem dX5_rights_20 : decode cX5_rights 20 = .ok (.ifCond .ne 6, 3) := by decide +kernel
theorem dX5_rights_23 : decode cX5_rights 23 = .ok (.bipush (-3), 2) := by decide +kernel
theorem dX5_rights_25 : decode cX5_rights 25 = .ok (.ireturn, 1) := by decide +kernel
theorem dX5_rights_26 : decode cX5_rights 26 = .ok (.aload_n 0, 1) := by decide +kernel
theorem dX5_rights_27 : decode cX5_rights 27 = .ok (.invokevirtual 173, 3) := by decide +kernel
theorem dX5_rights_30 : decode cX5_rights 30 = .ok (.aload_n 0, 1) := by decide +kernel
theorem dX5_rights_31 : decode cX5_rights 31 = .ok (.invokevirtual 194, 3) := by decide +kernel
theorem dX5_rights_34 : decode cX5_rights 34 = .ok (.aload_n 0, 1) := by decide +kernel
theorem dX5_rights_35 : decode cX5_rights 35 = .ok (.iload_n 2, 1) := by decide +kernel
theorem dX5_rights_36 : decode cX5_rights 36 = .ok (.invokevirtual 197, 3) := by decide +kernel
theorem dX5_rights_39 : decode cX5_rights 39 = .ok (.aload_n 0, 1) := by decide +kernel
theorem dX5_rights_40 : decode cX5_rights 40 = .ok (.getfield 44, 3) := by decide +kernel
theorem dX5_rights_43 : decode cX5_rights 43 = .ok (.bipush 39, 2) := by decide +kernel
theorem dX5_rights_45 : decode cX5_rights 45 = .ok (.iload_n 1, 1) := by decide +kernel
theorem dX5_rights_46 : decode cX5_rights 46 = .ok (.iadd, 1) := by decide +kernel
theorem dX5_rights_47 : decode cX5_rights 47 = .ok (.iaload, 1) := by decide +kernel
theorem dX5_rights_48 : decode cX5_rights 48 = .ok (.aload_n 0, 1) := by decide +kernel
theorem dX5_rights_49 : decode cX5_rights 49 = .ok (.getfield 16, 3) := by decide +kernel
theorem dX5_rights_52 : decode cX5_rights 52 = .ok (.bipush 39, 2) := by decide +kernel
theorem dX5_rights_54 : decode cX5_rights 54 = .ok (.iload_n 1, 1) := by decide +kernel
theorem dX5_rights_55 : decode cX5_rights 55 = .ok (.iadd, 1) := by decide +kernel
theorem dX5_rights_56 : decode cX5_rights 56 = .ok (.iaload, 1) := by decide +kernel
theorem dX5_rights_57 : decode cX5_rights 57 = .ok (.isub, 1) := by decide +kernel
theorem dX5_rights_58 : decode cX5_rights 58 = .ok (.ireturn, 1) := by decide +kernel
theorem dX5_ask_0 : decode cX5_ask 0 = .ok (.iload_n 1, 1) := by decide +kernel
theorem dX5_ask_1 : decode cX5_ask 1 = .ok (.i2l, 1) := by decide +kernel
theorem dX5_ask_2 : decode cX5_ask 2 = .ok (.lconst 0, 1) := by decide +kernel
theorem dX5_ask_3 : decode cX5_ask 3 = .ok (.ldc2_w 192, 3) := by decide +kernel
theorem dX5_ask_6 : decode cX5_ask 6 = .ok (.invokestatic 63, 3) := by decide +kernel
theorem dX5_ask_9 : decode cX5_ask 9 = .ok (.ifCond .eq 10, 3) := by decide +kernel
theorem dX5_ask_12 : decode cX5_ask 12 = .ok (.iload_n 2, 1) := by decide +kernel
theorem dX5_ask_13 : decode cX5_ask 13 = .ok (.invokestatic 189, 3) := by decide +kernel
theorem dX5_ask_16 : decode cX5_ask 16 = .ok (.ifCond .ne 6, 3) := by decide +kernel
theorem dX5_ask_19 : decode cX5_ask 19 = .ok (.bipush (-3), 2) := by decide +kernel
theorem dX5_ask_21 : decode cX5_ask 21 = .ok (.ireturn, 1) := by decide +kernel
theorem dX5_ask_22 : decode cX5_ask 22 = .ok (.aload_n 0, 1) := by decide +kernel
theorem dX5_ask_23 : decode cX5_ask 23 = .ok (.invokevirtual 173, 3) := by decide +kernel
theorem dX5_ask_26 : decode cX5_ask 26 = .ok (.aload_n 0, 1) := by decide +kernel
theorem dX5_ask_27 : decode cX5_ask 27 = .ok (.invokevirtual 194, 3) := by decide +kernel
theorem dX5_ask_30 : decode cX5_ask 30 = .ok (.aload_n 0, 1) := by decide +kernel
theorem dX5_ask_31 : decode cX5_ask 31 = .ok (.iload_n 1, 1) := by decide +kernel
theorem dX5_ask_32 : decode cX5_ask 32 = .ok (.invokevirtual 197, 3) := by decide +kernel
theorem dX5_ask_35 : decode cX5_ask 35 = .ok (.iconst (-1), 1) := by decide +kernel
theorem dX5_ask_36 : decode cX5_ask 36 = .ok (.istore_n 3, 1) := by decide +kernel
theorem dX5_ask_37 : decode cX5_ask 37 = .ok (.iconst (-1), 1) := by decide +kernel
theorem dX5_ask_38 : decode cX5_ask 38 = .ok (.istore 4, 2) := by decide +kernel
theorem dX5_ask_40 : decode cX5_ask 40 = .ok (.iconst 0, 1) := by decide +kernel
theorem dX5_ask_41 : decode cX5_ask 41 = .ok (.istore 5, 2) := by decide +kernel
theorem dX5_ask_43 : decode cX5_ask 43 = .ok (.iload 5, 2) := by decide +kernel
theorem dX5_ask_45 : decode cX5_ask 45 = .ok (.aload_n 0, 1) := by decide +kernel
theorem dX5_ask_46 : decode cX5_ask 46 = .ok (.getfield 7, 3) := by decide +kernel
theorem dX5_ask_49 : decode cX5_ask 49 = .ok (.bipush 25, 2) := by decide +kernel
theorem dX5_ask_51 : decode cX5_ask 51 = .ok (.iaload, 1) := by decide +kernel
theorem dX5_ask_52 : decode cX5_ask 52 = .ok (.if_icmp .ge 62, 3) := by decide +kernel
theorem dX5_ask_55 : decode cX5_ask 55 = .ok (.aload_n 0, 1) := by decide +kernel
theorem dX5_ask_56 : decode cX5_ask 56 = .ok (.getfield 44, 3) := by decide +kernel
theorem dX5_ask_59 : decode cX5_ask 59 = .ok (.bipush 39, 2) := by decide +kernel
theorem dX5_ask_61 : decode cX5_ask 61 = .ok (.iload 5, 2) := by decide +kernel
theorem dX5_ask_63 : decode cX5_ask 63 = .ok (.iadd, 1) := by decide +kernel
theorem dX5_ask_64 : decode cX5_ask 64 = .ok (.iaload, 1) := by decide +kernel
theorem dX5_ask_65 : decode cX5_ask 65 = .ok (.aload_n 0, 1) := by decide +kernel
theorem dX5_ask_66 : decode cX5_ask 66 = .ok (.getfield 16, 3) := by decide +kernel
theorem dX5_ask_69 : decode cX5_ask 69 = .ok (.bipush 39, 2) := by decide +kernel
theorem dX5_ask_71 : decode cX5_ask 71 = .ok (.iload 5, 2) := by decide +kernel
theorem dX5_ask_73 : decode cX5_ask 73 = .ok (.iadd, 1) := by decide +kernel
theorem dX5_ask_74 : decode cX5_ask 74 = .ok (.iaload, 1) := by decide +kernel
theorem dX5_ask_75 : decode cX5_ask 75 = .ok (.isub, 1) := by decide +kernel
theorem dX5_ask_76 : decode cX5_ask 76 = .ok (.istore 6, 2) := by decide +kernel
theorem dX5_ask_78 : decode cX5_ask 78 = .ok (.iload 6, 2) := by decide +kernel
theorem dX5_ask_80 : decode cX5_ask 80 = .ok (.iload 4, 2) := by decide +kernel
theorem dX5_ask_82 : decode cX5_ask 82 = .ok (.if_icmp .le 8, 3) := by decide +kernel
theorem dX5_ask_85 : decode cX5_ask 85 = .ok (.iload 5, 2) := by decide +kernel
theorem dX5_ask_87 : decode cX5_ask 87 = .ok (.goto 4, 3) := by decide +kernel
theorem dX5_ask_90 : decode cX5_ask 90 = .ok (.iload_n 3, 1) := by decide +kernel
theorem dX5_ask_91 : decode cX5_ask 91 = .ok (.istore_n 3, 1) := by decide +kernel
theorem dX5_ask_92 : decode cX5_ask 92 = .ok (.iload 6, 2) := by decide +kernel
theorem dX5_ask_94 : decode cX5_ask 94 = .ok (.iload 4, 2) := by decide +kernel
theorem dX5_ask_96 : decode cX5_ask 96 = .ok (.if_icmp .le 8, 3) := by decide +kernel
theorem dX5_ask_99 : decode cX5_ask 99 = .ok (.iload 6, 2) := by decide +kernel
theorem dX5_ask_101 : decode cX5_ask 101 = .ok (.goto 5, 3) := by decide +kernel
theorem dX5_ask_104 : decode cX5_ask 104 = .ok (.iload 4, 2) := by decide +kernel
theorem dX5_ask_106 : decode cX5_ask 106 = .ok (.istore 4, 2) := by decide +kernel
theorem dX5_ask_108 : decode cX5_ask 108 = .ok (.iinc 5 1, 3) := by decide +kernel
theorem dX5_ask_111 : decode cX5_ask 111 = .ok (.goto (-68), 3) := by decide +kernel
theorem dX5_ask_114 : decode cX5_ask 114 = .ok (.iload_n 2, 1) := by decide +kernel
theorem dX5_ask_115 : decode cX5_ask 115 = .ok (.ifCond .ne 7, 3) := by decide +kernel
theorem dX5_ask_118 : decode cX5_ask 118 = .ok (.iload_n 3, 1) := by decide +kernel
theorem dX5_ask_119 : decode cX5_ask 119 = .ok (.goto 5, 3) := by decide +kernel
theorem dX5_ask_122 : decode cX5_ask 122 = .ok (.iload 4, 2) := by decide +kernel
theorem dX5_ask_124 : decode cX5_ask 124 = .ok (.ireturn, 1) := by decide +kernel
theorem dX5_rightsOfAll_0 : decode cX5_rightsOfAll 0 = .ok (.iconst 0, 1) := by decide +kernel
theorem dX5_rightsOfAll_1 : decode cX5_rightsOfAll 1 = .ok (.istore_n 2, 1) := by decide +kernel
theorem dX5_rightsOfAll_2 : decode cX5_rightsOfAll 2 = .ok (.iconst 0, 1) := by decide +kernel
theorem dX5_rightsOfAll_3 : decode cX5_rightsOfAll 3 = .ok (.istore_n 3, 1) := by decide +kernel
theorem dX5_rightsOfAll_4 : decode cX5_rightsOfAll 4 = .ok (.iload_n 3, 1) := by decide +kernel
theorem dX5_rightsOfAll_5 : decode cX5_rightsOfAll 5 = .ok (.iconst 5, 1) := by decide +kernel
theorem dX5_rightsOfAll_6 : decode cX5_rightsOfAll 6 = .ok (.if_icmp .ge 18, 3) := by decide +kernel
theorem dX5_rightsOfAll_9 : decode cX5_rightsOfAll 9 = .ok (.iload_n 2, 1) := by decide +kernel
theorem dX5_rightsOfAll_10 : decode cX5_rightsOfAll 10 = .ok (.aload_n 1, 1) := by decide +kernel
theorem dX5_rightsOfAll_11 : decode cX5_rightsOfAll 11 = .ok (.bipush 39, 2) := by decide +kernel
theorem dX5_rightsOfAll_13 : decode cX5_rightsOfAll 13 = .ok (.iload_n 3, 1) := by decide +kernel
theorem dX5_rightsOfAll_14 : decode cX5_rightsOfAll 14 = .ok (.iadd, 1) := by decide +kernel
theorem dX5_rightsOfAll_15 : decode cX5_rightsOfAll 15 = .ok (.iaload, 1) := by decide +kernel
theorem dX5_rightsOfAll_16 : decode cX5_rightsOfAll 16 = .ok (.iadd, 1) := by decide +kernel
theorem dX5_rightsOfAll_17 : decode cX5_rightsOfAll 17 = .ok (.istore_n 2, 1) := by decide +kernel
theorem dX5_rightsOfAll_18 : decode cX5_rightsOfAll 18 = .ok (.iinc 3 1, 3) := by decide +kernel
theorem dX5_rightsOfAll_21 : decode cX5_rightsOfAll 21 = .ok (.goto (-17), 3) := by decide +kernel
theorem dX5_rightsOfAll_24 : decode cX5_rightsOfAll 24 = .ok (.iload_n 2, 1) := by decide +kernel
theorem dX5_rightsOfAll_25 : decode cX5_rightsOfAll 25 = .ok (.ireturn, 1) := by decide +kernel
theorem dX5_trough_0 : decode cX5_trough 0 = .ok (.iload_n 1, 1) := by decide +kernel
theorem dX5_trough_1 : decode cX5_trough 1 = .ok (.i2l, 1) := by decide +kernel
theorem dX5_trough_2 : decode cX5_trough 2 = .ok (.lconst 1, 1) := by decide +kernel
theorem dX5_trough_3 : decode cX5_trough 3 = .ok (.ldc2_w 201, 3) := by decide +kernel
theorem dX5_trough_6 : decode cX5_trough 6 = .ok (.invokestatic 63, 3) := by decide +kernel
theorem dX5_trough_9 : decode cX5_trough 9 = .ok (.ifCond .ne 6, 3) := by decide +kernel
theorem dX5_trough_12 : decode cX5_trough 12 = .ok (.bipush (-3), 2) := by decide +kernel
theorem dX5_trough_14 : decode cX5_trough 14 = .ok (.ireturn, 1) := by decide +kernel
theorem dX5_trough_15 : decode cX5_trough 15 = .ok (.aload_n 0, 1) := by decide +kernel
theorem dX5_trough_16 : decode cX5_trough 16 = .ok (.invokevirtual 173, 3) := by decide +kernel
theorem dX5_trough_19 : decode cX5_trough 19 = .ok (.aload_n 0, 1) := by decide +kernel
theorem dX5_trough_20 : decode cX5_trough 20 = .ok (.invokevirtual 194, 3) := by decide +kernel
theorem dX5_trough_23 : decode cX5_trough 23 = .ok (.aload_n 0, 1) := by decide +kernel
theorem dX5_trough_24 : decode cX5_trough 24 = .ok (.iload_n 1, 1) := by decide +kernel
theorem dX5_trough_25 : decode cX5_trough 25 = .ok (.invokevirtual 197, 3) := by decide +kernel
theorem dX5_trough_28 : decode cX5_trough 28 = .ok (.aload_n 0, 1) := by decide +kernel
theorem dX5_trough_29 : decode cX5_trough 29 = .ok (.aload_n 0, 1) := by decide +kernel
theorem dX5_trough_30 : decode cX5_trough 30 = .ok (.getfield 44, 3) := by decide +kernel
theorem dX5_trough_33 : decode cX5_trough 33 = .ok (.invokevirtual 203, 3) := by decide +kernel
theorem dX5_trough_36 : decode cX5_trough 36 = .ok (.istore_n 2, 1) := by decide +kernel
theorem dX5_trough_37 : decode cX5_trough 37 = .ok (.iconst (-1), 1) := by decide +kernel
theorem dX5_trough_38 : decode cX5_trough 38 = .ok (.istore_n 3, 1) := by decide +kernel
theorem dX5_trough_39 : decode cX5_trough 39 = .ok (.iconst 0, 1) := by decide +kernel
theorem dX5_trough_40 : decode cX5_trough 40 = .ok (.istore 4, 2) := by decide +kernel
theorem dX5_trough_42 : decode cX5_trough 42 = .ok (.iload 4, 2) := by decide +kernel
theorem dX5_trough_44 : decode cX5_trough 44 = .ok (.aload_n 0, 1) := by decide +kernel
theorem dX5_trough_45 : decode cX5_trough 45 = .ok (.getfield 7, 3) := by decide +kernel
theorem dX5_trough_48 : decode cX5_trough 48 = .ok (.iconst 0, 1) := by decide +kernel
theorem dX5_trough_49 : decode cX5_trough 49 = .ok (.iaload, 1) := by decide +kernel
theorem dX5_trough_50 : decode cX5_trough 50 = .ok (.if_icmp .ge 94, 3) := by decide +kernel
theorem dX5_trough_53 : decode cX5_trough 53 = .ok (.iload 4, 2) := by decide +kernel
theorem dX5_trough_55 : decode cX5_trough 55 = .ok (.iconst 1, 1) := by decide +kernel
theorem dX5_trough_56 : decode cX5_trough 56 = .ok (.iadd, 1) := by decide +kernel
theorem dX5_trough_57 : decode cX5_trough 57 = .ok (.istore 5, 2) := by decide +kernel
theorem dX5_trough_59 : decode cX5_trough 59 = .ok (.iload 5, 2) := by decide +kernel
theorem dX5_trough_61 : decode cX5_trough 61 = .ok (.aload_n 0, 1) := by decide +kernel
theorem dX5_trough_62 : decode cX5_trough 62 = .ok (.getfield 7, 3) := by decide +kernel
theorem dX5_trough_65 : decode cX5_trough 65 = .ok (.iconst 0, 1) := by decide +kernel
theorem dX5_trough_66 : decode cX5_trough 66 = .ok (.iaload, 1) := by decide +kernel
theorem dX5_trough_67 : decode cX5_trough 67 = .ok (.if_icmp .ge 71, 3) := by decide +kernel
theorem dX5_trough_70 : decode cX5_trough 70 = .ok (.aload_n 0, 1) := by decide +kernel
theorem dX5_trough_71 : decode cX5_trough 71 = .ok (.invokevirtual 194, 3) := by decide +kernel
theorem dX5_trough_74 : decode cX5_trough 74 = .ok (.aload_n 0, 1) := by decide +kernel
theorem dX5_trough_75 : decode cX5_trough 75 = .ok (.getfield 44, 3) := by decide +kernel
theorem dX5_trough_78 : decode cX5_trough 78 = .ok (.iload 4, 2) := by decide +kernel
theorem dX5_trough_80 : decode cX5_trough 80 = .ok (.iload 5, 2) := by decide +kernel
theorem dX5_trough_82 : decode cX5_trough 82 = .ok (.invokestatic 185, 3) := by decide +kernel
theorem dX5_trough_85 : decode cX5_trough 85 = .ok (.aload_n 0, 1) := by decide +kernel
theorem dX5_trough_86 : decode cX5_trough 86 = .ok (.iload_n 1, 1) := by decide +kernel
theorem dX5_trough_87 : decode cX5_trough 87 = .ok (.invokevirtual 197, 3) := by decide +kernel
theorem dX5_trough_90 : decode cX5_trough 90 = .ok (.aload_n 0, 1) := by decide +kernel
theorem dX5_trough_91 : decode cX5_trough 91 = .ok (.aload_n 0, 1) := by decide +kernel
theorem dX5_trough_92 : decode cX5_trough 92 = .ok (.getfield 44, 3) := by decide +kernel
theorem dX5_trough_95 : decode cX5_trough 95 = .ok (.invokevirtual 203, 3) := by decide +kernel
theorem dX5_trough_98 : decode cX5_trough 98 = .ok (.istore 6, 2) := by decide +kernel
theorem dX5_trough_100 : decode cX5_trough 100 = .ok (.iload 6, 2) := by decide +kernel
theorem dX5_trough_102 : decode cX5_trough 102 = .ok (.iload_n 2, 1) := by decide +kernel
theorem dX5_trough_103 : decode cX5_trough 103 = .ok (.if_icmp .le 14, 3) := by decide +kernel
theorem dX5_trough_106 : decode cX5_trough 106 = .ok (.bipush 10, 2) := by decide +kernel
theorem dX5_trough_108 : decode cX5_trough 108 = .ok (.iload 4, 2) := by decide +kernel
theorem dX5_trough_110 : decode cX5_trough 110 = .ok (.imul, 1) := by decide +kernel
theorem dX5_trough_111 : decode cX5_trough 111 = .ok (.iload 5, 2) := by decide +kernel
theorem dX5_trough_113 : decode cX5_trough 113 = .ok (.iadd, 1) := by decide +kernel
theorem dX5_trough_114 : decode cX5_trough 114 = .ok (.goto 4, 3) := by decide +kernel
theorem dX5_trough_117 : decode cX5_trough 117 = .ok (.iload_n 3, 1) := by decide +kernel
theorem dX5_trough_118 : decode cX5_trough 118 = .ok (.istore_n 3, 1) := by decide +kernel
theorem dX5_trough_119 : decode cX5_trough 119 = .ok (.iload 6, 2) := by decide +kernel
theorem dX5_trough_121 : decode cX5_trough 121 = .ok (.iload_n 2, 1) := by decide +kernel
theorem dX5_trough_122 : decode cX5_trough 122 = .ok (.if_icmp .le 8, 3) := by decide +kernel
theorem dX5_trough_125 : decode cX5_trough 125 = .ok (.iload 6, 2) := by decide +kernel
theorem dX5_trough_127 : decode cX5_trough 127 = .ok (.goto 4, 3) := by decide +kernel
theorem dX5_trough_130 : decode cX5_trough 130 = .ok (.iload_n 2, 1) := by decide +kernel
theorem dX5_trough_131 : decode cX5_trough 131 = .ok (.istore_n 2, 1) := by decide +kernel
theorem dX5_trough_132 : decode cX5_trough 132 = .ok (.iinc 5 1, 3) := by decide +kernel
theorem dX5_trough_135 : decode cX5_trough 135 = .ok (.goto (-76), 3) := by decide +kernel
theorem dX5_trough_138 : decode cX5_trough 138 = .ok (.iinc 4 1, 3) := by decide +kernel
theorem dX5_trough_141 : decode cX5_trough 141 = .ok (.goto (-99), 3) := by decide +kernel
theorem dX5_trough_144 : decode cX5_trough 144 = .ok (.iload_n 3, 1) := by decide +kernel
theorem dX5_trough_145 : decode cX5_trough 145 = .ok (.ireturn, 1) := by decide +kernel
theorem dX5_warmth_0 : decode cX5_warmth 0 = .ok (.aload_n 0, 1) := by decide +kernel
theorem dX5_warmth_1 : decode cX5_warmth 1 = .ok (.iload_n 1, 1) := by decide +kernel
theorem dX5_warmth_2 : decode cX5_warmth 2 = .ok (.invokevirtual 166, 3) := by decide +kernel
theorem dX5_warmth_5 : decode cX5_warmth 5 = .ok (.ifCond .eq 11, 3) := by decide +kernel
theorem dX5_warmth_8 : decode cX5_warmth 8 = .ok (.aload_n 0, 1) := by decide +kernel
theorem dX5_warmth_9 : decode cX5_warmth 9 = .ok (.iload_n 2, 1) := by decide +kernel
theorem dX5_warmth_10 : decode cX5_warmth 10 = .ok (.invokevirtual 163, 3) := by decide +kernel
theorem dX5_warmth_13 : decode cX5_warmth 13 = .ok (.ifCond .ne 6, 3) := by decide +kernel
theorem dX5_warmth_16 : decode cX5_warmth 16 = .ok (.bipush (-2), 2) := by decide +kernel
theorem dX5_warmth_18 : decode cX5_warmth 18 = .ok (.ireturn, 1) := by decide +kernel
theorem dX5_warmth_19 : decode cX5_warmth 19 = .ok (.aload_n 0, 1) := by decide +kernel
theorem dX5_warmth_20 : decode cX5_warmth 20 = .ok (.invokevirtual 173, 3) := by decide +kernel
theorem dX5_warmth_23 : decode cX5_warmth 23 = .ok (.iconst 0, 1) := by decide +kernel
theorem dX5_warmth_24 : decode cX5_warmth 24 = .ok (.istore_n 3, 1) := by decide +kernel
theorem dX5_warmth_25 : decode cX5_warmth 25 = .ok (.iload_n 3, 1) := by decide +kernel
theorem dX5_warmth_26 : decode cX5_warmth 26 = .ok (.bipush 10, 2) := by decide +kernel
theorem dX5_warmth_28 : decode cX5_warmth 28 = .ok (.if_icmp .ge 40, 3) := by decide +kernel
theorem dX5_warmth_31 : decode cX5_warmth 31 = .ok (.aload_n 0, 1) := by decide +kernel
theorem dX5_warmth_32 : decode cX5_warmth 32 = .ok (.invokevirtual 194, 3) := by decide +kernel
theorem dX5_warmth_35 : decode cX5_warmth 35 = .ok (.aload_n 0, 1) := by decide +kernel
theorem dX5_warmth_36 : decode cX5_warmth 36 = .ok (.getfield 44, 3) := by decide +kernel
theorem dX5_warmth_39 : decode cX5_warmth 39 = .ok (.bipush 10, 2) := by decide +kernel
theorem dX5_warmth_41 : decode cX5_warmth 41 = .ok (.iload_n 2, 1) := by decide +kernel
theorem dX5_warmth_42 : decode cX5_warmth 42 = .ok (.iadd, 1) := by decide +kernel
theorem dX5_warmth_43 : decode cX5_warmth 43 = .ok (.iload_n 3, 1) := by decide +kernel
theorem dX5_warmth_44 : decode cX5_warmth 44 = .ok (.iastore, 1) := by decide +kernel
theorem dX5_warmth_45 : decode cX5_warmth 45 = .ok (.aload_n 0, 1) := by decide +kernel
theorem dX5_warmth_46 : decode cX5_warmth 46 = .ok (.iconst 1, 1) := by decide +kernel
theorem dX5_warmth_47 : decode cX5_warmth 47 = .ok (.invokevirtual 197, 3) := by decide +kernel
theorem dX5_warmth_50 : decode cX5_warmth 50 = .ok (.aload_n 0, 1) := by decide +kernel
theorem dX5_warmth_51 : decode cX5_warmth 51 = .ok (.getfield 41, 3) := by decide +kernel
theorem dX5_warmth_54 : decode cX5_warmth 54 = .ok (.iload_n 1, 1) := by decide +kernel
theorem dX5_warmth_55 : decode cX5_warmth 55 = .ok (.iaload, 1) := by decide +kernel
theorem dX5_warmth_56 : decode cX5_warmth 56 = .ok (.iload_n 2, 1) := by decide +kernel
theorem dX5_warmth_57 : decode cX5_warmth 57 = .ok (.if_icmp .ne 5, 3) := by decide +kernel
theorem dX5_warmth_60 : decode cX5_warmth 60 = .ok (.iload_n 3, 1) := by decide +kernel
theorem dX5_warmth_61 : decode cX5_warmth 61 = .ok (.ireturn, 1) := by decide +kernel
theorem dX5_warmth_62 : decode cX5_warmth 62 = .ok (.iinc 3 1, 3) := by decide +kernel
theorem dX5_warmth_65 : decode cX5_warmth 65 = .ok (.goto (-40), 3) := by decide +kernel
theorem dX5_warmth_68 : decode cX5_warmth 68 = .ok (.iconst (-1), 1) := by decide +kernel
theorem dX5_warmth_69 : decode cX5_warmth 69 = .ok (.ireturn, 1) := by decide +kernel
theorem dX5_seen_0 : decode cX5_seen 0 = .ok (.aload_n 0, 1) := by decide +kernel
theorem dX5_seen_1 : decode cX5_seen 1 = .ok (.iload_n 1, 1) := by decide +kernel
theorem dX5_seen_2 : decode cX5_seen 2 = .ok (.invokevirtual 166, 3) := by decide +kernel
theorem dX5_seen_5 : decode cX5_seen 5 = .ok (.ifCond .eq 16, 3) := by decide +kernel
theorem dX5_seen_8 : decode cX5_seen 8 = .ok (.iload_n 3, 1) := by decide +kernel
theorem dX5_seen_9 : decode cX5_seen 9 = .ok (.iconst (-1), 1) := by decide +kernel
theorem dX5_seen_10 : decode cX5_seen 10 = .ok (.if_icmp .eq 14, 3) := by decide +kernel
theorem dX5_seen_13 : decode cX5_seen 13 = .ok (.aload_n 0, 1) := by decide +kernel
theorem dX5_seen_14 : decode cX5_seen 14 = .ok (.iload_n 3, 1) := by decide +kernel
theorem dX5_seen_15 : decode cX5_seen 15 = .ok (.invokevirtual 163, 3) := by decide +kernel
theorem dX5_seen_18 : decode cX5_seen 18 = .ok (.ifCond .ne 6, 3) := by decide +kernel
theorem dX5_seen_21 : decode cX5_seen 21 = .ok (.bipush (-2), 2) := by decide +kernel
theorem dX5_seen_23 : decode cX5_seen 23 = .ok (.ireturn, 1) := by decide +kernel
theorem dX5_seen_24 : decode cX5_seen 24 = .ok (.iload_n 2, 1) := by decide +kernel
theorem dX5_seen_25 : decode cX5_seen 25 = .ok (.i2l, 1) := by decide +kernel
theorem dX5_seen_26 : decode cX5_seen 26 = .ok (.lconst 1, 1) := by decide +kernel
theorem dX5_seen_27 : decode cX5_seen 27 = .ok (.ldc2_w 206, 3) := by decide +kernel
theorem dX5_seen_30 : decode cX5_seen 30 = .ok (.invokestatic 63, 3) := by decide +kernel
theorem dX5_seen_33 : decode cX5_seen 33 = .ok (.ifCond .ne 6, 3) := by decide +kernel
theorem dX5_seen_36 : decode cX5_seen 36 = .ok (.bipush (-3), 2) := by decide +kernel
theorem dX5_seen_38 : decode cX5_seen 38 = .ok (.ireturn, 1) := by decide +kernel
theorem dX5_seen_39 : decode cX5_seen 39 = .ok (.aload_n 0, 1) := by decide +kernel
theorem dX5_seen_40 : decode cX5_seen 40 = .ok (.getfield 58, 3) := by decide +kernel
theorem dX5_seen_43 : decode cX5_seen 43 = .ok (.bipush 6, 2) := by decide +kernel
theorem dX5_seen_45 : decode cX5_seen 45 = .ok (.if_icmp .ne 6, 3) := by decide +kernel
theorem dX5_seen_48 : decode cX5_seen 48 = .ok (.bipush (-5), 2) := by decide +kernel
theorem dX5_seen_50 : decode cX5_seen 50 = .ok (.ireturn, 1) := by decide +kernel
theorem dX5_seen_51 : decode cX5_seen 51 = .ok (.aload_n 0, 1) := by decide +kernel
theorem dX5_seen_52 : decode cX5_seen 52 = .ok (.getfield 32, 3) := by decide +kernel
theorem dX5_seen_55 : decode cX5_seen 55 = .ok (.iconst 3, 1) := by decide +kernel
theorem dX5_seen_56 : decode cX5_seen 56 = .ok (.aload_n 0, 1) := by decide +kernel
theorem dX5_seen_57 : decode cX5_seen 57 = .ok (.getfield 58, 3) := by decide +kernel
theorem dX5_seen_60 : decode cX5_seen 60 = .ok (.imul, 1) := by decide +kernel
theorem dX5_seen_61 : decode cX5_seen 61 = .ok (.iload_n 1, 1) := by decide +kernel
theorem dX5_seen_62 : decode cX5_seen 62 = .ok (.iastore, 1) := by decide +kernel
theorem dX5_seen_63 : decode cX5_seen 63 = .ok (.aload_n 0, 1) := by decide +kernel
theorem dX5_seen_64 : decode cX5_seen 64 = .ok (.getfield 32, 3) := by decide +kernel
theorem dX5_seen_67 : decode cX5_seen 67 = .ok (.iconst 3, 1) := by decide +kernel
theorem dX5_seen_68 : decode cX5_seen 68 = .ok (.aload_n 0, 1) := by decide +kernel
theorem dX5_seen_69 : decode cX5_seen 69 = .ok (.getfield 58, 3) := by decide +kernel
theorem dX5_seen_72 : decode cX5_seen 72 = .ok (.imul, 1) := by decide +kernel
theorem dX5_seen_73 : decode cX5_seen 73 = .ok (.iconst 1, 1) := by decide +kernel
theorem dX5_seen_74 : decode cX5_seen 74 = .ok (.iadd, 1) := by decide +kernel
theorem dX5_seen_75 : decode cX5_seen 75 = .ok (.iload_n 2, 1) := by decide +kernel
theorem dX5_seen_76 : decode cX5_seen 76 = .ok (.iastore, 1) := by decide +kernel
theorem dX5_seen_77 : decode cX5_seen 77 = .ok (.aload_n 0, 1) := by decide +kernel
theorem dX5_seen_78 : decode cX5_seen 78 = .ok (.getfield 32, 3) := by decide +kernel
theorem dX5_seen_81 : decode cX5_seen 81 = .ok (.iconst 3, 1) := by decide +kernel
theorem dX5_seen_82 : decode cX5_seen 82 = .ok (.aload_n 0, 1) := by decide +kernel
theorem dX5_seen_83 : decode cX5_seen 83 = .ok (.getfield 58, 3) := by decide +kernel
theorem dX5_seen_86 : decode cX5_seen 86 = .ok (.imul, 1) := by decide +kernel
theorem dX5_seen_87 : decode cX5_seen 87 = .ok (.iconst 2, 1) := by decide +kernel
theorem dX5_seen_88 : decode cX5_seen 88 = .ok (.iadd, 1) := by decide +kernel
theorem dX5_seen_89 : decode cX5_seen 89 = .ok (.iload_n 3, 1) := by decide +kernel
theorem dX5_seen_90 : decode cX5_seen 90 = .ok (.iastore, 1) := by decide +kernel
theorem dX5_seen_91 : decode cX5_seen 91 = .ok (.aload_n 0, 1) := by decide +kernel
theorem dX5_seen_92 : decode cX5_seen 92 = .ok (.dup, 1) := by decide +kernel
theorem dX5_seen_93 : decode cX5_seen 93 = .ok (.getfield 58, 3) := by decide +kernel
theorem dX5_seen_96 : decode cX5_seen 96 = .ok (.iconst 1, 1) := by decide +kernel
theorem dX5_seen_97 : decode cX5_seen 97 = .ok (.iadd, 1) := by decide +kernel
theorem dX5_seen_98 : decode cX5_seen 98 = .ok (.putfield 58, 3) := by decide +kernel
theorem dX5_seen_101 : decode cX5_seen 101 = .ok (.aload_n 0, 1) := by decide +kernel
theorem dX5_seen_102 : decode cX5_seen 102 = .ok (.getfield 58, 3) := by decide +kernel
theorem dX5_seen_105 : decode cX5_seen 105 = .ok (.ireturn, 1) := by decide +kernel
theorem dX5_forget_0 : decode cX5_forget 0 = .ok (.aload_n 0, 1) := by decide +kernel
theorem dX5_forget_1 : decode cX5_forget 1 = .ok (.getfield 58, 3) := by decide +kernel
theorem dX5_forget_4 : decode cX5_forget 4 = .ok (.istore_n 1, 1) := by decide +kernel
theorem dX5_forget_5 : decode cX5_forget 5 = .ok (.aload_n 0, 1) := by decide +kernel
theorem dX5_forget_6 : decode cX5_forget 6 = .ok (.iconst 0, 1) := by decide +kernel
theorem dX5_forget_7 : decode cX5_forget 7 = .ok (.putfield 58, 3) := by decide +kernel
theorem dX5_forget_10 : decode cX5_forget 10 = .ok (.iload_n 1, 1) := by decide +kernel
theorem dX5_forget_11 : decode cX5_forget 11 = .ok (.ireturn, 1) := by decide +kernel
theorem dX5_comes_0 : decode cX5_comes 0 = .ok (.aload_n 0, 1) := by decide +kernel
theorem dX5_comes_1 : decode cX5_comes 1 = .ok (.invokevirtual 194, 3) := by decide +kernel
theorem dX5_comes_4 : decode cX5_comes 4 = .ok (.iconst 1, 1) := by decide +kernel
theorem dX5_comes_5 : decode cX5_comes 5 = .ok (.istore_n 2, 1) := by decide +kernel
theorem dX5_comes_6 : decode cX5_comes 6 = .ok (.iconst 1, 1) := by decide +kernel
theorem dX5_comes_7 : decode cX5_comes 7 = .ok (.istore_n 3, 1) := by decide +kernel
theorem dX5_comes_8 : decode cX5_comes 8 = .ok (.iload_n 3, 1) := by decide +kernel
theorem dX5_comes_9 : decode cX5_comes 9 = .ok (.bipush 15, 2) := by decide +kernel
theorem dX5_comes_11 : decode cX5_comes 11 = .ok (.if_icmp .ge 102, 3) := by decide +kernel
theorem dX5_comes_14 : decode cX5_comes 14 = .ok (.aload_n 0, 1) := by decide +kernel
theorem dX5_comes_15 : decode cX5_comes 15 = .ok (.iconst 1, 1) := by decide +kernel
theorem dX5_comes_16 : decode cX5_comes 16 = .ok (.invokevirtual 197, 3) := by decide +kernel
theorem dX5_comes_19 : decode cX5_comes 19 = .ok (.iconst 0, 1) := by decide +kernel
theorem dX5_comes_20 : decode cX5_comes 20 = .ok (.istore 4, 2) := by decide +kernel
theorem dX5_comes_22 : decode cX5_comes 22 = .ok (.iload 4, 2) := by decide +kernel
theorem dX5_comes_24 : decode cX5_comes 24 = .ok (.aload_n 0, 1) := by decide +kernel
theorem dX5_comes_25 : decode cX5_comes 25 = .ok (.getfield 58, 3) := by decide +kernel
theorem dX5_comes_28 : decode cX5_comes 28 = .ok (.if_icmp .ge 79, 3) := by decide +kernel
theorem dX5_comes_31 : decode cX5_comes 31 = .ok (.aload_n 0, 1) := by decide +kernel
theorem dX5_comes_32 : decode cX5_comes 32 = .ok (.getfield 32, 3) := by decide +kernel
theorem dX5_comes_35 : decode cX5_comes 35 = .ok (.iconst 3, 1) := by decide +kernel
theorem dX5_comes_36 : decode cX5_comes 36 = .ok (.iload 4, 2) := by decide +kernel
theorem dX5_comes_38 : decode cX5_comes 38 = .ok (.imul, 1) := by decide +kernel
theorem dX5_comes_39 : decode cX5_comes 39 = .ok (.iaload, 1) := by decide +kernel
theorem dX5_comes_40 : decode cX5_comes 40 = .ok (.iload_n 1, 1) := by decide +kernel
theorem dX5_comes_41 : decode cX5_comes 41 = .ok (.if_icmp .ne 22, 3) := by decide +kernel
theorem dX5_comes_44 : decode cX5_comes 44 = .ok (.aload_n 0, 1) := by decide +kernel
theorem dX5_comes_45 : decode cX5_comes 45 = .ok (.getfield 32, 3) := by decide +kernel
theorem dX5_comes_48 : decode cX5_comes 48 = .ok (.iconst 3, 1) := by decide +kernel
theorem dX5_comes_49 : decode cX5_comes 49 = .ok (.iload 4, 2) := by decide +kernel
theorem dX5_comes_51 : decode cX5_comes 51 = .ok (.imul, 1) := by decide +kernel
theorem dX5_comes_52 : decode cX5_comes 52 = .ok (.iconst 1, 1) := by decide +kernel
theorem dX5_comes_53 : decode cX5_comes 53 = .ok (.iadd, 1) := by decide +kernel
theorem dX5_comes_54 : decode cX5_comes 54 = .ok (.iaload, 1) := by decide +kernel
theorem dX5_comes_55 : decode cX5_comes 55 = .ok (.iload_n 3, 1) := by decide +kernel
theorem dX5_comes_56 : decode cX5_comes 56 = .ok (.if_icmp .ne 7, 3) := by decide +kernel
theorem dX5_comes_59 : decode cX5_comes 59 = .ok (.iconst 1, 1) := by decide +kernel
theorem dX5_comes_60 : decode cX5_comes 60 = .ok (.goto 4, 3) := by decide +kernel
theorem dX5_comes_63 : decode cX5_comes 63 = .ok (.iconst 0, 1) := by decide +kernel
theorem dX5_comes_64 : decode cX5_comes 64 = .ok (.istore 5, 2) := by decide +kernel
theorem dX5_comes_66 : decode cX5_comes 66 = .ok (.iload_n 2, 1) := by decide +kernel
theorem dX5_comes_67 : decode cX5_comes 67 = .ok (.ifCond .eq 32, 3) := by decide +kernel
theorem dX5_comes_70 : decode cX5_comes 70 = .ok (.iload 5, 2) := by decide +kernel
theorem dX5_comes_72 : decode cX5_comes 72 = .ok (.ifCond .eq 23, 3) := by decide +kernel
theorem dX5_comes_75 : decode cX5_comes 75 = .ok (.aload_n 0, 1) := by decide +kernel
theorem dX5_comes_76 : decode cX5_comes 76 = .ok (.getfield 41, 3) := by decide +kernel
theorem dX5_comes_79 : decode cX5_comes 79 = .ok (.iload_n 1, 1) := by decide +kernel
theorem dX5_comes_80 : decode cX5_comes 80 = .ok (.iaload, 1) := by decide +kernel
theorem dX5_comes_81 : decode cX5_comes 81 = .ok (.aload_n 0, 1) := by decide +kernel
theorem dX5_comes_82 : decode cX5_comes 82 = .ok (.getfield 32, 3) := by decide +kernel
theorem dX5_comes_85 : decode cX5_comes 85 = .ok (.iconst 3, 1) := by decide +kernel
theorem dX5_comes_86 : decode cX5_comes 86 = .ok (.iload 4, 2) := by decide +kernel
theorem dX5_comes_88 : decode cX5_comes 88 = .ok (.imul, 1) := by decide +kernel
theorem dX5_comes_89 : decode cX5_comes 89 = .ok (.iconst 2, 1) := by decide +kernel
theorem dX5_comes_90 : decode cX5_comes 90 = .ok (.iadd, 1) := by decide +kernel
theorem dX5_comes_91 : decode cX5_comes 91 = .ok (.iaload, 1) := by decide +kernel
theorem dX5_comes_92 : decode cX5_comes 92 = .ok (.if_icmp .ne 7, 3) := by decide +kernel
theorem dX5_comes_95 : decode cX5_comes 95 = .ok (.iconst 1, 1) := by decide +kernel
theorem dX5_comes_96 : decode cX5_comes 96 = .ok (.goto 4, 3) := by decide +kernel
theorem dX5_comes_99 : decode cX5_comes 99 = .ok (.iconst 0, 1) := by decide +kernel
theorem dX5_comes_100 : decode cX5_comes 100 = .ok (.istore_n 2, 1) := by decide +kernel
theorem dX5_comes_101 : decode cX5_comes 101 = .ok (.iinc 4 1, 3) := by decide +kernel
theorem dX5_comes_104 : decode cX5_comes 104 = .ok (.goto (-82), 3) := by decide +kernel
theorem dX5_comes_107 : decode cX5_comes 107 = .ok (.iinc 3 1, 3) := by decide +kernel
theorem dX5_comes_110 : decode cX5_comes 110 = .ok (.goto (-102), 3) := by decide +kernel
theorem dX5_comes_113 : decode cX5_comes 113 = .ok (.iload_n 2, 1) := by decide +kernel
theorem dX5_comes_114 : decode cX5_comes 114 = .ok (.ireturn, 1) := by decide +kernel
theorem dX5_kinds_0 : decode cX5_kinds 0 = .ok (.aload_n 0, 1) := by decide +kernel
theorem dX5_kinds_1 : decode cX5_kinds 1 = .ok (.iload_n 1, 1) := by decide +kernel
theorem dX5_kinds_2 : decode cX5_kinds 2 = .ok (.invokevirtual 166, 3) := by decide +kernel
theorem dX5_kinds_5 : decode cX5_kinds 5 = .ok (.ifCond .ne 6, 3) := by decide +kernel
theorem dX5_kinds_8 : decode cX5_kinds 8 = .ok (.bipush (-2), 2) := by decide +kernel
theorem dX5_kinds_10 : decode cX5_kinds 10 = .ok (.ireturn, 1) := by decide +kernel
theorem dX5_kinds_11 : decode cX5_kinds 11 = .ok (.aload_n 0, 1) := by decide +kernel
theorem dX5_kinds_12 : decode cX5_kinds 12 = .ok (.invokevirtual 173, 3) := by decide +kernel
theorem dX5_kinds_15 : decode cX5_kinds 15 = .ok (.iconst 0, 1) := by decide +kernel
theorem dX5_kinds_16 : decode cX5_kinds 16 = .ok (.istore_n 2, 1) := by decide +kernel
theorem dX5_kinds_17 : decode cX5_kinds 17 = .ok (.iconst 0, 1) := by decide +kernel
theorem dX5_kinds_18 : decode cX5_kinds 18 = .ok (.istore_n 3, 1) := by decide +kernel
theorem dX5_kinds_19 : decode cX5_kinds 19 = .ok (.iload_n 3, 1) := by decide +kernel
theorem dX5_kinds_20 : decode cX5_kinds 20 = .ok (.iconst 4, 1) := by decide +kernel
theorem dX5_kinds_21 : decode cX5_kinds 21 = .ok (.if_icmp .ge 34, 3) := by decide +kernel
theorem dX5_kinds_24 : decode cX5_kinds 24 = .ok (.aload_n 0, 1) := by decide +kernel
theorem dX5_kinds_25 : decode cX5_kinds 25 = .ok (.getfield 35, 3) := by decide +kernel
theorem dX5_kinds_28 : decode cX5_kinds 28 = .ok (.iload_n 1, 1) := by decide +kernel
theorem dX5_kinds_29 : decode cX5_kinds 29 = .ok (.iload_n 3, 1) := by decide +kernel
theorem dX5_kinds_30 : decode cX5_kinds 30 = .ok (.iastore, 1) := by decide +kernel
theorem dX5_kinds_31 : decode cX5_kinds 31 = .ok (.iload_n 2, 1) := by decide +kernel
theorem dX5_kinds_32 : decode cX5_kinds 32 = .ok (.aload_n 0, 1) := by decide +kernel
theorem dX5_kinds_33 : decode cX5_kinds 33 = .ok (.iload_n 1, 1) := by decide +kernel
theorem dX5_kinds_34 : decode cX5_kinds 34 = .ok (.invokevirtual 208, 3) := by decide +kernel
theorem dX5_kinds_37 : decode cX5_kinds 37 = .ok (.ifCond .eq 9, 3) := by decide +kernel
theorem dX5_kinds_40 : decode cX5_kinds 40 = .ok (.iconst 1, 1) := by decide +kernel
theorem dX5_kinds_41 : decode cX5_kinds 41 = .ok (.iload_n 3, 1) := by decide +kernel
theorem dX5_kinds_42 : decode cX5_kinds 42 = .ok (.ishl, 1) := by decide +kernel
theorem dX5_kinds_43 : decode cX5_kinds 43 = .ok (.goto 4, 3) := by decide +kernel
theorem dX5_kinds_46 : decode cX5_kinds 46 = .ok (.iconst 0, 1) := by decide +kernel
theorem dX5_kinds_47 : decode cX5_kinds 47 = .ok (.ior, 1) := by decide +kernel
theorem dX5_kinds_48 : decode cX5_kinds 48 = .ok (.istore_n 2, 1) := by decide +kernel
theorem dX5_kinds_49 : decode cX5_kinds 49 = .ok (.iinc 3 1, 3) := by decide +kernel
theorem dX5_kinds_52 : decode cX5_kinds 52 = .ok (.goto (-33), 3) := by decide +kernel
theorem dX5_kinds_55 : decode cX5_kinds 55 = .ok (.iload_n 2, 1) := by decide +kernel
theorem dX5_kinds_56 : decode cX5_kinds 56 = .ok (.ireturn, 1) := by decide +kernel
theorem dX5_habits_0 : decode cX5_habits 0 = .ok (.aload_n 0, 1) := by decide +kernel
theorem dX5_habits_1 : decode cX5_habits 1 = .ok (.iload_n 1, 1) := by decide +kernel
theorem dX5_habits_2 : decode cX5_habits 2 = .ok (.invokevirtual 166, 3) := by decide +kernel
theorem dX5_habits_5 : decode cX5_habits 5 = .ok (.ifCond .ne 6, 3) := by decide +kernel
theorem dX5_habits_8 : decode cX5_habits 8 = .ok (.bipush (-2), 2) := by decide +kernel
theorem dX5_habits_10 : decode cX5_habits 10 = .ok (.ireturn, 1) := by decide +kernel
theorem dX5_habits_11 : decode cX5_habits 11 = .ok (.aload_n 0, 1) := by decide +kernel
theorem dX5_habits_12 : decode cX5_habits 12 = .ok (.invokevirtual 173, 3) := by decide +kernel
theorem dX5_habits_15 : decode cX5_habits 15 = .ok (.iconst 0, 1) := by decide +kernel
theorem dX5_habits_16 : decode cX5_habits 16 = .ok (.istore_n 2, 1) := by decide +kernel
theorem dX5_habits_17 : decode cX5_habits 17 = .ok (.iconst 0, 1) := by decide +kernel
theorem dX5_habits_18 : decode cX5_habits 18 = .ok (.istore_n 3, 1) := by decide +kernel
theorem dX5_habits_19 : decode cX5_habits 19 = .ok (.iload_n 3, 1) := by decide +kernel
theorem dX5_habits_20 : decode cX5_habits 20 = .ok (.bipush 10, 2) := by decide +kernel
theorem dX5_habits_22 : decode cX5_habits 22 = .ok (.if_icmp .ge 34, 3) := by decide +kernel
theorem dX5_habits_25 : decode cX5_habits 25 = .ok (.aload_n 0, 1) := by decide +kernel
theorem dX5_habits_26 : decode cX5_habits 26 = .ok (.getfield 38, 3) := by decide +kernel
theorem dX5_habits_29 : decode cX5_habits 29 = .ok (.iload_n 1, 1) := by decide +kernel
theorem dX5_habits_30 : decode cX5_habits 30 = .ok (.iload_n 3, 1) := by decide +kernel
theorem dX5_habits_31 : decode cX5_habits 31 = .ok (.iastore, 1) := by decide +kernel
theorem dX5_habits_32 : decode cX5_habits 32 = .ok (.iload_n 2, 1) := by decide +kernel
theorem dX5_habits_33 : decode cX5_habits 33 = .ok (.aload_n 0, 1) := by decide +kernel
theorem dX5_habits_34 : decode cX5_habits 34 = .ok (.iload_n 1, 1) := by decide +kernel
theorem dX5_habits_35 : decode cX5_habits 35 = .ok (.invokevirtual 208, 3) := by decide +kernel
theorem dX5_habits_38 : decode cX5_habits 38 = .ok (.ifCond .eq 9, 3) := by decide +kernel
theorem dX5_habits_41 : decode cX5_habits 41 = .ok (.iconst 1, 1) := by decide +kernel
theorem dX5_habits_42 : decode cX5_habits 42 = .ok (.iload_n 3, 1) := by decide +kernel
theorem dX5_habits_43 : decode cX5_habits 43 = .ok (.ishl, 1) := by decide +kernel
theorem dX5_habits_44 : decode cX5_habits 44 = .ok (.goto 4, 3) := by decide +kernel
theorem dX5_habits_47 : decode cX5_habits 47 = .ok (.iconst 0, 1) := by decide +kernel
theorem dX5_habits_48 : decode cX5_habits 48 = .ok (.ior, 1) := by decide +kernel
theorem dX5_habits_49 : decode cX5_habits 49 = .ok (.istore_n 2, 1) := by decide +kernel
theorem dX5_habits_50 : decode cX5_habits 50 = .ok (.iinc 3 1, 3) := by decide +kernel
theorem dX5_habits_53 : decode cX5_habits 53 = .ok (.goto (-34), 3) := by decide +kernel
theorem dX5_habits_56 : decode cX5_habits 56 = .ok (.iload_n 2, 1) := by decide +kernel
theorem dX5_habits_57 : decode cX5_habits 57 = .ok (.ireturn, 1) := by decide +kernel
theorem dX5_foxes_0 : decode cX5_foxes 0 = .ok (.aload_n 0, 1) := by decide +kernel
theorem dX5_foxes_1 : decode cX5_foxes 1 = .ok (.iload_n 1, 1) := by decide +kernel
theorem dX5_foxes_2 : decode cX5_foxes 2 = .ok (.invokevirtual 166, 3) := by decide +kernel
theorem dX5_foxes_5 : decode cX5_foxes 5 = .ok (.ifCond .ne 6, 3) := by decide +kernel
theorem dX5_foxes_8 : decode cX5_foxes 8 = .ok (.bipush (-2), 2) := by decide +kernel
theorem dX5_foxes_10 : decode cX5_foxes 10 = .ok (.ireturn, 1) := by decide +kernel
theorem dX5_foxes_11 : decode cX5_foxes 11 = .ok (.iload_n 2, 1) := by decide +kernel
theorem dX5_foxes_12 : decode cX5_foxes 12 = .ok (.i2l, 1) := by decide +kernel
theorem dX5_foxes_13 : decode cX5_foxes 13 = .ok (.lconst 0, 1) := by decide +kernel
theorem dX5_foxes_14 : decode cX5_foxes 14 = .ok (.ldc2_w 211, 3) := by decide +kernel
theorem dX5_foxes_17 : decode cX5_foxes 17 = .ok (.invokestatic 63, 3) := by decide +kernel
theorem dX5_foxes_20 : decode cX5_foxes 20 = .ok (.ifCond .eq 23, 3) := by decide +kernel
theorem dX5_foxes_23 : decode cX5_foxes 23 = .ok (.iload_n 3, 1) := by decide +kernel
theorem dX5_foxes_24 : decode cX5_foxes 24 = .ok (.i2l, 1) := by decide +kernel
theorem dX5_foxes_25 : decode cX5_foxes 25 = .ok (.lconst 0, 1) := by decide +kernel
theorem dX5_foxes_26 : decode cX5_foxes 26 = .ok (.ldc2_w 213, 3) := by decide +kernel
theorem dX5_foxes_29 : decode cX5_foxes 29 = .ok (.invokestatic 63, 3) := by decide +kernel
theorem dX5_foxes_32 : decode cX5_foxes 32 = .ok (.ifCond .eq 11, 3) := by decide +kernel
theorem dX5_foxes_35 : decode cX5_foxes 35 = .ok (.iload 4, 2) := by decide +kernel
theorem dX5_foxes_37 : decode cX5_foxes 37 = .ok (.invokestatic 189, 3) := by decide +kernel
theorem dX5_foxes_40 : decode cX5_foxes 40 = .ok (.ifCond .ne 6, 3) := by decide +kernel
theorem dX5_foxes_43 : decode cX5_foxes 43 = .ok (.bipush (-3), 2) := by decide +kernel
theorem dX5_foxes_45 : decode cX5_foxes 45 = .ok (.ireturn, 1) := by decide +kernel
theorem dX5_foxes_46 : decode cX5_foxes 46 = .ok (.aload_n 0, 1) := by decide +kernel
theorem dX5_foxes_47 : decode cX5_foxes 47 = .ok (.invokevirtual 173, 3) := by decide +kernel
theorem dX5_foxes_50 : decode cX5_foxes 50 = .ok (.aload_n 0, 1) := by decide +kernel
theorem dX5_foxes_51 : decode cX5_foxes 51 = .ok (.invokevirtual 194, 3) := by decide +kernel
theorem dX5_foxes_54 : decode cX5_foxes 54 = .ok (.lconst 1, 1) := by decide +kernel
theorem dX5_foxes_55 : decode cX5_foxes 55 = .ok (.lstore 5, 2) := by decide +kernel
theorem dX5_foxes_57 : decode cX5_foxes 57 = .ok (.lconst 1, 1) := by decide +kernel
theorem dX5_foxes_58 : decode cX5_foxes 58 = .ok (.lstore 7, 2) := by decide +kernel
theorem dX5_foxes_60 : decode cX5_foxes 60 = .ok (.iconst 0, 1) := by decide +kernel
theorem dX5_foxes_61 : decode cX5_foxes 61 = .ok (.istore 9, 2) := by decide +kernel
theorem dX5_foxes_63 : decode cX5_foxes 63 = .ok (.iconst 0, 1) := by decide +kernel
theorem dX5_foxes_64 : decode cX5_foxes 64 = .ok (.istore 10, 2) := by decide +kernel
theorem dX5_foxes_66 : decode cX5_foxes 66 = .ok (.iload 10, 2) := by decide +kernel
theorem dX5_foxes_68 : decode cX5_foxes 68 = .ok (.iload_n 2, 1) := by decide +kernel
theorem dX5_foxes_69 : decode cX5_foxes 69 = .ok (.if_icmp .ge 65, 3) := by decide +kernel
theorem dX5_foxes_72 : decode cX5_foxes 72 = .ok (.iload 9, 2) := by decide +kernel
theorem dX5_foxes_74 : decode cX5_foxes 74 = .ok (.ifCond .ne 60, 3) := by decide +kernel
theorem dX5_foxes_77 : decode cX5_foxes 77 = .ok (.aload_n 0, 1) := by decide +kernel
theorem dX5_foxes_78 : decode cX5_foxes 78 = .ok (.iconst 1, 1) := by decide +kernel
theorem dX5_foxes_79 : decode cX5_foxes 79 = .ok (.invokevirtual 197, 3) := by decide +kernel
theorem dX5_foxes_82 : decode cX5_foxes 82 = .ok (.lload 5, 2) := by decide +kernel
theorem dX5_foxes_84 : decode cX5_foxes 84 = .ok (.bipush 10, 2) := by decide +kernel
theorem dX5_foxes_86 : decode cX5_foxes 86 = .ok (.iload_n 3, 1) := by decide +kernel
theorem dX5_foxes_87 : decode cX5_foxes 87 = .ok (.isub, 1) := by decide +kernel
theorem dX5_foxes_88 : decode cX5_foxes 88 = .ok (.i2l, 1) := by decide +kernel
theorem dX5_foxes_89 : decode cX5_foxes 89 = .ok (.lmul, 1) := by decide +kernel
theorem dX5_foxes_90 : decode cX5_foxes 90 = .ok (.lstore 5, 2) := by decide +kernel
theorem dX5_foxes_92 : decode cX5_foxes 92 = .ok (.lload 7, 2) := by decide +kernel
theorem dX5_foxes_94 : decode cX5_foxes 94 = .ok (.ldc2_w 213, 3) := by decide +kernel
theorem dX5_foxes_97 : decode cX5_foxes 97 = .ok (.lmul, 1) := by decide +kernel
theorem dX5_foxes_98 : decode cX5_foxes 98 = .ok (.lstore 7, 2) := by decide +kernel
theorem dX5_foxes_100 : decode cX5_foxes 100 = .ok (.aload_n 0, 1) := by decide +kernel
theorem dX5_foxes_101 : decode cX5_foxes 101 = .ok (.getfield 44, 3) := by decide +kernel
theorem dX5_foxes_104 : decode cX5_foxes 104 = .ok (.bipush 39, 2) := by decide +kernel
theorem dX5_foxes_106 : decode cX5_foxes 106 = .ok (.iload_n 1, 1) := by decide +kernel
theorem dX5_foxes_107 : decode cX5_foxes 107 = .ok (.iadd, 1) := by decide +kernel
theorem dX5_foxes_108 : decode cX5_foxes 108 = .ok (.iaload, 1) := by decide +kernel
theorem dX5_foxes_109 : decode cX5_foxes 109 = .ok (.aload_n 0, 1) := by decide +kernel
theorem dX5_foxes_110 : decode cX5_foxes 110 = .ok (.getfield 16, 3) := by decide +kernel
theorem dX5_foxes_113 : decode cX5_foxes 113 = .ok (.bipush 39, 2) := by decide +kernel
theorem dX5_foxes_115 : decode cX5_foxes 115 = .ok (.iload_n 1, 1) := by decide +kernel
theorem dX5_foxes_116 : decode cX5_foxes 116 = .ok (.iadd, 1) := by decide +kernel
theorem dX5_foxes_117 : decode cX5_foxes 117 = .ok (.iaload, 1) := by decide +kernel
theorem dX5_foxes_118 : decode cX5_foxes 118 = .ok (.if_icmp .le 7, 3) := by decide +kernel
theorem dX5_foxes_121 : decode cX5_foxes 121 = .ok (.iconst 1, 1) := by decide +kernel
theorem dX5_foxes_122 : decode cX5_foxes 122 = .ok (.goto 4, 3) := by decide +kernel
theorem dX5_foxes_125 : decode cX5_foxes 125 = .ok (.iconst 0, 1) := by decide +kernel
theorem dX5_foxes_126 : decode cX5_foxes 126 = .ok (.istore 9, 2) := by decide +kernel
theorem dX5_foxes_128 : decode cX5_foxes 128 = .ok (.iinc 10 1, 3) := by decide +kernel
theorem dX5_foxes_131 : decode cX5_foxes 131 = .ok (.goto (-65), 3) := by decide +kernel
theorem dX5_foxes_134 : decode cX5_foxes 134 = .ok (.iload 9, 2) := by decide +kernel
theorem dX5_foxes_136 : decode cX5_foxes 136 = .ok (.ifCond .eq 8, 3) := by decide +kernel
theorem dX5_foxes_139 : decode cX5_foxes 139 = .ok (.lload 5, 2) := by decide +kernel
theorem dX5_foxes_141 : decode cX5_foxes 141 = .ok (.goto 4, 3) := by decide +kernel
theorem dX5_foxes_144 : decode cX5_foxes 144 = .ok (.lconst 0, 1) := by decide +kernel
theorem dX5_foxes_145 : decode cX5_foxes 145 = .ok (.lstore 5, 2) := by decide +kernel
theorem dX5_foxes_147 : decode cX5_foxes 147 = .ok (.lload 5, 2) := by decide +kernel
theorem dX5_foxes_149 : decode cX5_foxes 149 = .ok (.lstore 10, 2) := by decide +kernel
theorem dX5_foxes_151 : decode cX5_foxes 151 = .ok (.lload 7, 2) := by decide +kernel
theorem dX5_foxes_153 : decode cX5_foxes 153 = .ok (.lstore 12, 2) := by decide +kernel
theorem dX5_foxes_155 : decode cX5_foxes 155 = .ok (.lload 12, 2) := by decide +kernel
theorem dX5_foxes_157 : decode cX5_foxes 157 = .ok (.lconst 0, 1) := by decide +kernel
theorem dX5_foxes_158 : decode cX5_foxes 158 = .ok (.lcmp, 1) := by decide +kernel
theorem dX5_foxes_159 : decode cX5_foxes 159 = .ok (.ifCond .eq 21, 3) := by decide +kernel
theorem dX5_foxes_162 : decode cX5_foxes 162 = .ok (.lload 10, 2) := by decide +kernel
theorem dX5_foxes_164 : decode cX5_foxes 164 = .ok (.lload 12, 2) := by decide +kernel
theorem dX5_foxes_166 : decode cX5_foxes 166 = .ok (.lrem, 1) := by decide +kernel
theorem dX5_foxes_167 : decode cX5_foxes 167 = .ok (.lstore 14, 2) := by decide +kernel
theorem dX5_foxes_169 : decode cX5_foxes 169 = .ok (.lload 12, 2) := by decide +kernel
theorem dX5_foxes_171 : decode cX5_foxes 171 = .ok (.lstore 10, 2) := by decide +kernel
theorem dX5_foxes_173 : decode cX5_foxes 173 = .ok (.lload 14, 2) := by decide +kernel
theorem dX5_foxes_175 : decode cX5_foxes 175 = .ok (.lstore 12, 2) := by decide +kernel
theorem dX5_foxes_177 : decode cX5_foxes 177 = .ok (.goto (-22), 3) := by decide +kernel
theorem dX5_foxes_180 : decode cX5_foxes 180 = .ok (.iload 4, 2) := by decide +kernel
theorem dX5_foxes_182 : decode cX5_foxes 182 = .ok (.ifCond .ne 11, 3) := by decide +kernel
theorem dX5_foxes_185 : decode cX5_foxes 185 = .ok (.lload 5, 2) := by decide +kernel
theorem dX5_foxes_187 : decode cX5_foxes 187 = .ok (.lload 10, 2) := by decide +kernel
theorem dX5_foxes_189 : decode cX5_foxes 189 = .ok (.ldiv, 1) := by decide +kernel
theorem dX5_foxes_190 : decode cX5_foxes 190 = .ok (.goto 8, 3) := by decide +kernel
theorem dX5_foxes_193 : decode cX5_foxes 193 = .ok (.lload 7, 2) := by decide +kernel
theorem dX5_foxes_195 : decode cX5_foxes 195 = .ok (.lload 10, 2) := by decide +kernel
theorem dX5_foxes_197 : decode cX5_foxes 197 = .ok (.ldiv, 1) := by decide +kernel
theorem dX5_foxes_198 : decode cX5_foxes 198 = .ok (.l2i, 1) := by decide +kernel
theorem dX5_foxes_199 : decode cX5_foxes 199 = .ok (.ireturn, 1) := by decide +kernel
theorem dX5_count_0 : decode cX5_count 0 = .ok (.iconst 0, 1) := by decide +kernel
theorem dX5_count_1 : decode cX5_count 1 = .ok (.istore_n 2, 1) := by decide +kernel
theorem dX5_count_2 : decode cX5_count 2 = .ok (.iconst 0, 1) := by decide +kernel
theorem dX5_count_3 : decode cX5_count 3 = .ok (.istore_n 3, 1) := by decide +kernel
theorem dX5_count_4 : decode cX5_count 4 = .ok (.iconst 0, 1) := by decide +kernel
theorem dX5_count_5 : decode cX5_count 5 = .ok (.istore 4, 2) := by decide +kernel
theorem dX5_count_7 : decode cX5_count 7 = .ok (.iconst 0, 1) := by decide +kernel
theorem dX5_count_8 : decode cX5_count 8 = .ok (.istore 5, 2) := by decide +kernel
theorem dX5_count_10 : decode cX5_count 10 = .ok (.iload 5, 2) := by decide +kernel
theorem dX5_count_12 : decode cX5_count 12 = .ok (.bipush 8, 2) := by decide +kernel
theorem dX5_count_14 : decode cX5_count 14 = .ok (.if_icmp .ge 34, 3) := by decide +kernel
theorem dX5_count_17 : decode cX5_count 17 = .ok (.iload_n 2, 1) := by decide +kernel
theorem dX5_count_18 : decode cX5_count 18 = .ok (.aload_n 0, 1) := by decide +kernel
theorem dX5_count_19 : decode cX5_count 19 = .ok (.getfield 16, 3) := by decide +kernel
theorem dX5_count_22 : decode cX5_count 22 = .ok (.bipush 18, 2) := by decide +kernel
theorem dX5_count_24 : decode cX5_count 24 = .ok (.iload 5, 2) := by decide +kernel
theorem dX5_count_26 : decode cX5_count 26 = .ok (.iadd, 1) := by decide +kernel
theorem dX5_count_27 : decode cX5_count 27 = .ok (.iaload, 1) := by decide +kernel
theorem dX5_count_28 : decode cX5_count 28 = .ok (.iconst (-1), 1) := by decide +kernel
theorem dX5_count_29 : decode cX5_count 29 = .ok (.if_icmp .ne 7, 3) := by decide +kernel
theorem dX5_count_32 : decode cX5_count 32 = .ok (.iconst 0, 1) := by decide +kernel
theorem dX5_count_33 : decode cX5_count 33 = .ok (.goto 7, 3) := by decide +kernel
theorem dX5_count_36 : decode cX5_count 36 = .ok (.iconst 1, 1) := by decide +kernel
theorem dX5_count_37 : decode cX5_count 37 = .ok (.iload 5, 2) := by decide +kernel
theorem dX5_count_39 : decode cX5_count 39 = .ok (.ishl, 1) := by decide +kernel
theorem dX5_count_40 : decode cX5_count 40 = .ok (.ior, 1) := by decide +kernel
theorem dX5_count_41 : decode cX5_count 41 = .ok (.istore_n 2, 1) := by decide +kernel
theorem dX5_count_42 : decode cX5_count 42 = .ok (.iinc 5 1, 3) := by decide +kernel
theorem dX5_count_45 : decode cX5_count 45 = .ok (.goto (-35), 3) := by decide +kernel
theorem dX5_count_48 : decode cX5_count 48 = .ok (.iconst 0, 1) := by decide +kernel
theorem dX5_count_49 : decode cX5_count 49 = .ok (.istore 5, 2) := by decide +kernel
theorem dX5_count_51 : decode cX5_count 51 = .ok (.iload 5, 2) := by decide +kernel
theorem dX5_count_53 : decode cX5_count 53 = .ok (.iconst 5, 1) := by decide +kernel
theorem dX5_count_54 : decode cX5_count 54 = .ok (.if_icmp .ge 37, 3) := by decide +kernel
theorem dX5_count_57 : decode cX5_count 57 = .ok (.iload_n 3, 1) := by decide +kernel
theorem dX5_count_58 : decode cX5_count 58 = .ok (.aload_n 0, 1) := by decide +kernel
theorem dX5_count_59 : decode cX5_count 59 = .ok (.getfield 16, 3) := by decide +kernel
theorem dX5_count_62 : decode cX5_count 62 = .ok (.bipush 39, 2) := by decide +kernel
theorem dX5_count_64 : decode cX5_count 64 = .ok (.iload 5, 2) := by decide +kernel
theorem dX5_count_66 : decode cX5_count 66 = .ok (.iadd, 1) := by decide +kernel
theorem dX5_count_67 : decode cX5_count 67 = .ok (.iaload, 1) := by decide +kernel
theorem dX5_count_68 : decode cX5_count 68 = .ok (.iadd, 1) := by decide +kernel
theorem dX5_count_69 : decode cX5_count 69 = .ok (.istore_n 3, 1) := by decide +kernel
theorem dX5_count_70 : decode cX5_count 70 = .ok (.iload 4, 2) := by decide +kernel
theorem dX5_count_72 : decode cX5_count 72 = .ok (.aload_n 0, 1) := by decide +kernel
theorem dX5_count_73 : decode cX5_count 73 = .ok (.getfield 16, 3) := by decide +kernel
theorem dX5_count_76 : decode cX5_count 76 = .ok (.bipush 44, 2) := by decide +kernel
theorem dX5_count_78 : decode cX5_count 78 = .ok (.iload 5, 2) := by decide +kernel
theorem dX5_count_80 : decode cX5_count 80 = .ok (.iadd, 1) := by decide +kernel
theorem dX5_count_81 : decode cX5_count 81 = .ok (.iaload, 1) := by decide +kernel
theorem dX5_count_82 : decode cX5_count 82 = .ok (.iadd, 1) := by decide +kernel
theorem dX5_count_83 : decode cX5_count 83 = .ok (.istore 4, 2) := by decide +kernel
theorem dX5_count_85 : decode cX5_count 85 = .ok (.iinc 5 1, 3) := by decide +kernel
theorem dX5_count_88 : decode cX5_count 88 = .ok (.goto (-37), 3) := by decide +kernel
theorem dX5_count_91 : decode cX5_count 91 = .ok (.iload_n 1, 1) := by decide +kernel
theorem dX5_count_92 : decode cX5_count 92 = .ok (.tableswitch 143 0 12 #[68, 75, 83, 90, 92, 92, 104, 116, 118, 121, 128, 133, 138], 68) := by decide +kernel
theorem dX5_count_160 : decode cX5_count 160 = .ok (.aload_n 0, 1) := by decide +kernel
theorem dX5_count_161 : decode cX5_count 161 = .ok (.getfield 7, 3) := by decide +kernel
theorem dX5_count_164 : decode cX5_count 164 = .ok (.iconst 0, 1) := by decide +kernel
theorem dX5_count_165 : decode cX5_count 165 = .ok (.iaload, 1) := by decide +kernel
theorem dX5_count_166 : decode cX5_count 166 = .ok (.ireturn, 1) := by decide +kernel
theorem dX5_count_167 : decode cX5_count 167 = .ok (.aload_n 0, 1) := by decide +kernel
theorem dX5_count_168 : decode cX5_count 168 = .ok (.getfield 7, 3) := by decide +kernel
theorem dX5_count_171 : decode cX5_count 171 = .ok (.bipush 25, 2) := by decide +kernel
theorem dX5_count_173 : decode cX5_count 173 = .ok (.iaload, 1) := by decide +kernel
theorem dX5_count_174 : decode cX5_count 174 = .ok (.ireturn, 1) := by decide +kernel
theorem dX5_count_175 : decode cX5_count 175 = .ok (.aload_n 0, 1) := by decide +kernel
theorem dX5_count_176 : decode cX5_count 176 = .ok (.getfield 16, 3) := by decide +kernel
theorem dX5_count_179 : decode cX5_count 179 = .ok (.iconst 0, 1) := by decide +kernel
theorem dX5_count_180 : decode cX5_count 180 = .ok (.iaload, 1) := by decide +kernel
theorem dX5_count_181 : decode cX5_count 181 = .ok (.ireturn, 1) := by decide +kernel
theorem dX5_count_182 : decode cX5_count 182 = .ok (.iload_n 2, 1) := by decide +kernel
theorem dX5_count_183 : decode cX5_count 183 = .ok (.ireturn, 1) := by decide +kernel
theorem dX5_count_184 : decode cX5_count 184 = .ok (.aload_n 0, 1) := by decide +kernel
theorem dX5_count_185 : decode cX5_count 185 = .ok (.getfield 16, 3) := by decide +kernel
theorem dX5_count_188 : decode cX5_count 188 = .ok (.bipush 49, 2) := by decide +kernel
theorem dX5_count_190 : decode cX5_count 190 = .ok (.iload_n 1, 1) := by decide +kernel
theorem dX5_count_191 : decode cX5_count 191 = .ok (.iadd, 1) := by decide +kernel
theorem dX5_count_192 : decode cX5_count 192 = .ok (.iconst 4, 1) := by decide +kernel
theorem dX5_count_193 : decode cX5_count 193 = .ok (.isub, 1) := by decide +kernel
theorem dX5_count_194 : decode cX5_count 194 = .ok (.iaload, 1) := by decide +kernel
theorem dX5_count_195 : decode cX5_count 195 = .ok (.ireturn, 1) := by decide +kernel
theorem dX5_count_196 : decode cX5_count 196 = .ok (.aload_n 0, 1) := by decide +kernel
theorem dX5_count_197 : decode cX5_count 197 = .ok (.getfield 16, 3) := by decide +kernel
theorem dX5_count_200 : decode cX5_count 200 = .ok (.bipush 51, 2) := by decide +kernel
theorem dX5_count_202 : decode cX5_count 202 = .ok (.iaload, 1) := by decide +kernel
theorem dX5_count_203 : decode cX5_count 203 = .ok (.sipush 9999, 3) := by decide +kernel
theorem dX5_count_206 : decode cX5_count 206 = .ok (.iadd, 1) := by decide +kernel
theorem dX5_count_207 : decode cX5_count 207 = .ok (.ireturn, 1) := by decide +kernel
theorem dX5_count_208 : decode cX5_count 208 = .ok (.iload_n 3, 1) := by decide +kernel
theorem dX5_count_209 : decode cX5_count 209 = .ok (.ireturn, 1) := by decide +kernel
theorem dX5_count_210 : decode cX5_count 210 = .ok (.iload 4, 2) := by decide +kernel
theorem dX5_count_212 : decode cX5_count 212 = .ok (.ireturn, 1) := by decide +kernel
theorem dX5_count_213 : decode cX5_count 213 = .ok (.aload_n 0, 1) := by decide +kernel
theorem dX5_count_214 : decode cX5_count 214 = .ok (.getfield 16, 3) := by decide +kernel
theorem dX5_count_217 : decode cX5_count 217 = .ok (.iconst 1, 1) := by decide +kernel
theorem dX5_count_218 : decode cX5_count 218 = .ok (.iaload, 1) := by decide +kernel
theorem dX5_count_219 : decode cX5_count 219 = .ok (.ireturn, 1) := by decide +kernel
theorem dX5_count_220 : decode cX5_count 220 = .ok (.aload_n 0, 1) := by decide +kernel
theorem dX5_count_221 : decode cX5_count 221 = .ok (.getfield 58, 3) := by decide +kernel
theorem dX5_count_224 : decode cX5_count 224 = .ok (.ireturn, 1) := by decide +kernel
theorem dX5_count_225 : decode cX5_count 225 = .ok (.aload_n 0, 1) := by decide +kernel
theorem dX5_count_226 : decode cX5_count 226 = .ok (.getfield 54, 3) := by decide +kernel
theorem dX5_count_229 : decode cX5_count 229 = .ok (.ireturn, 1) := by decide +kernel
theorem dX5_count_230 : decode cX5_count 230 = .ok (.aload_n 0, 1) := by decide +kernel
theorem dX5_count_231 : decode cX5_count 231 = .ok (.getfield 67, 3) := by decide +kernel
theorem dX5_count_234 : decode cX5_count 234 = .ok (.ireturn, 1) := by decide +kernel
theorem dX5_count_235 : decode cX5_count 235 = .ok (.bipush (-3), 2) := by decide +kernel
theorem dX5_count_237 : decode cX5_count 237 = .ok (.ireturn, 1) := by decide +kernel
end
section
theorem dL_law_0 : decode cL_law 0 = .ok (.new 7, 3) := by decide +kernel
theorem dL_law_3 : decode cL_law 3 = .ok (.dup, 1) := by decide +kernel
theorem dL_law_4 : decode cL_law 4 = .ok (.invokespecial 9, 3) := by decide +kernel
theorem dL_law_7 : decode cL_law 7 = .ok (.astore_n 1, 1) := by decide +kernel
theorem dL_law_8 : decode cL_law 8 = .ok (.new 10, 3) := by decide +kernel
theorem dL_law_11 : decode cL_law 11 = .ok (.dup, 1) := by decide +kernel
theorem dL_law_12 : decode cL_law 12 = .ok (.invokespecial 12, 3) := by decide +kernel
theorem dL_law_15 : decode cL_law 15 = .ok (.astore_n 2, 1) := by decide +kernel
theorem dL_law_16 : decode cL_law 16 = .ok (.iconst 0, 1) := by decide +kernel
theorem dL_law_17 : decode cL_law 17 = .ok (.istore_n 3, 1) := by decide +kernel
theorem dL_law_18 : decode cL_law 18 = .ok (.iload_n 3, 1) := by decide +kernel
theorem dL_law_19 : decode cL_law 19 = .ok (.aload_n 0, 1) := by decide +kernel
theorem dL_law_20 : decode cL_law 20 = .ok (.arraylength, 1) := by decide +kernel
theorem dL_law_21 : decode cL_law 21 = .ok (.iconst 5, 1) := by decide +kernel
theorem dL_law_22 : decode cL_law 22 = .ok (.isub, 1) := by decide +kernel
theorem dL_law_23 : decode cL_law 23 = .ok (.if_icmp .gt 857, 3) := by decide +kernel
theorem dL_law_26 : decode cL_law 26 = .ok (.aload_n 0, 1) := by decide +kernel
theorem dL_law_27 : decode cL_law 27 = .ok (.iload_n 3, 1) := by decide +kernel
theorem dL_law_28 : decode cL_law 28 = .ok (.iaload, 1) := by decide +kernel
theorem dL_law_29 : decode cL_law 29 = .ok (.bipush 31, 2) := by decide +kernel
theorem dL_law_31 : decode cL_law 31 = .ok (.iand, 1) := by decide +kernel
theorem dL_law_32 : decode cL_law 32 = .ok (.tableswitch 842 0 27 #[128, 151, 164, 177, 190, 223, 256, 279, 312, 325, 338, 371, 404, 427, 450, 463, 486, 509, 542, 575, 608, 631, 664, 707, 720, 743, 766, 819], 128) := by decide +kernel
theorem dL_law_160 : decode cL_law 160 = .ok (.aload_n 1, 1) := by decide +kernel
theorem dL_law_161 : decode cL_law 161 = .ok (.aload_n 0, 1) := by decide +kernel
theorem dL_law_162 : decode cL_law 162 = .ok (.iload_n 3, 1) := by decide +kernel
theorem dL_law_163 : decode cL_law 163 = .ok (.iconst 1, 1) := by decide +kernel
theorem dL_law_164 : decode cL_law 164 = .ok (.iadd, 1) := by decide +kernel
theorem dL_law_165 : decode cL_law 165 = .ok (.iaload, 1) := by decide +kernel
theorem dL_law_166 : decode cL_law 166 = .ok (.invokevirtual 13, 3) := by decide +kernel
theorem dL_law_169 : decode cL_law 169 = .ok (.aload_n 2, 1) := by decide +kernel
theorem dL_law_170 : decode cL_law 170 = .ok (.aload_n 0, 1) := by decide +kernel
theorem dL_law_171 : decode cL_law 171 = .ok (.iload_n 3, 1) := by decide +kernel
theorem dL_law_172 : decode cL_law 172 = .ok (.iconst 1, 1) := by decide +kernel
theorem dL_law_173 : decode cL_law 173 = .ok (.iadd, 1) := by decide +kernel
theorem dL_law_174 : decode cL_law 174 = .ok (.iaload, 1) := by decide +kernel
theorem dL_law_175 : decode cL_law 175 = .ok (.invokevirtual 17, 3) := by decide +kernel
theorem dL_law_178 : decode cL_law 178 = .ok (.if_icmp .eq 696, 3) := by decide +kernel
theorem dL_law_181 : decode cL_law 181 = .ok (.iconst 0, 1) := by decide +kernel
theorem dL_law_182 : decode cL_law 182 = .ok (.ireturn, 1) := by decide +kernel
theorem dL_law_183 : decode cL_law 183 = .ok (.aload_n 1, 1) := by decide +kernel
theorem dL_law_184 : decode cL_law 184 = .ok (.invokevirtual 18, 3) := by decide +kernel
theorem dL_law_187 : decode cL_law 187 = .ok (.aload_n 2, 1) := by decide +kernel
theorem dL_law_188 : decode cL_law 188 = .ok (.invokevirtual 22, 3) := by decide +kernel
theorem dL_law_191 : decode cL_law 191 = .ok (.if_icmp .eq 683, 3) := by decide +kernel
theorem dL_law_194 : decode cL_law 194 = .ok (.iconst 0, 1) := by decide +kernel
theorem dL_law_195 : decode cL_law 195 = .ok (.ireturn, 1) := by decide +kernel
theorem dL_law_196 : decode cL_law 196 = .ok (.aload_n 1, 1) := by decide +kernel
theorem dL_law_197 : decode cL_law 197 = .ok (.invokevirtual 23, 3) := by decide +kernel
theorem dL_law_200 : decode cL_law 200 = .ok (.aload_n 2, 1) := by decide +kernel
theorem dL_law_201 : decode cL_law 201 = .ok (.invokevirtual 26, 3) := by decide +kernel
theorem dL_law_204 : decode cL_law 204 = .ok (.if_icmp .eq 670, 3) := by decide +kernel
theorem dL_law_207 : decode cL_law 207 = .ok (.iconst 0, 1) := by decide +kernel
theorem dL_law_208 : decode cL_law 208 = .ok (.ireturn, 1) := by decide +kernel
theorem dL_law_209 : decode cL_law 209 = .ok (.aload_n 1, 1) := by decide +kernel
theorem dL_law_210 : decode cL_law 210 = .ok (.invokevirtual 27, 3) := by decide +kernel
theorem dL_law_213 : decode cL_law 213 = .ok (.aload_n 2, 1) := by decide +kernel
theorem dL_law_214 : decode cL_law 214 = .ok (.invokevirtual 30, 3) := by decide +kernel
theorem dL_law_217 : decode cL_law 217 = .ok (.if_icmp .eq 657, 3) := by decide +kernel
theorem dL_law_220 : decode cL_law 220 = .ok (.iconst 0, 1) := by decide +kernel
theorem dL_law_221 : decode cL_law 221 = .ok (.ireturn, 1) := by decide +kernel
theorem dL_law_222 : decode cL_law 222 = .ok (.aload_n 1, 1) := by decide +kernel
theorem dL_law_223 : decode cL_law 223 = .ok (.aload_n 0, 1) := by decide +kernel
theorem dL_law_224 : decode cL_law 224 = .ok (.iload_n 3, 1) := by decide +kernel
theorem dL_law_225 : decode cL_law 225 = .ok (.iconst 1, 1) := by decide +kernel
theorem dL_law_226 : decode cL_law 226 = .ok (.iadd, 1) := by decide +kernel
theorem dL_law_227 : decode cL_law 227 = .ok (.iaload, 1) := by decide +kernel
theorem dL_law_228 : decode cL_law 228 = .ok (.aload_n 0, 1) := by decide +kernel
theorem dL_law_229 : decode cL_law 229 = .ok (.iload_n 3, 1) := by decide +kernel
theorem dL_law_230 : decode cL_law 230 = .ok (.iconst 2, 1) := by decide +kernel
theorem dL_law_231 : decode cL_law 231 = .ok (.iadd, 1) := by decide +kernel
theorem dL_law_232 : decode cL_law 232 = .ok (.iaload, 1) := by decide +kernel
theorem dL_law_233 : decode cL_law 233 = .ok (.invokevirtual 31, 3) := by decide +kernel
theorem dL_law_236 : decode cL_law 236 = .ok (.aload_n 2, 1) := by decide +kernel
theorem dL_law_237 : decode cL_law 237 = .ok (.aload_n 0, 1) := by decide +kernel
theorem dL_law_238 : decode cL_law 238 = .ok (.iload_n 3, 1) := by decide +kernel
theorem dL_law_239 : decode cL_law 239 = .ok (.iconst 1, 1) := by decide +kernel
theorem dL_law_240 : decode cL_law 240 = .ok (.iadd, 1) := by decide +kernel
theorem dL_law_241 : decode cL_law 241 = .ok (.iaload, 1) := by decide +kernel
theorem dL_law_242 : decode cL_law 242 = .ok (.aload_n 0, 1) := by decide +kernel
theorem dL_law_243 : decode cL_law 243 = .ok (.iload_n 3, 1) := by decide +kernel
theorem dL_law_244 : decode cL_law 244 = .ok (.iconst 2, 1) := by decide +kernel
theorem dL_law_245 : decode cL_law 245 = .ok (.iadd, 1) := by decide +kernel
theorem dL_law_246 : decode cL_law 246 = .ok (.iaload, 1) := by decide +kernel
theorem dL_law_247 : decode cL_law 247 = .ok (.invokevirtual 35, 3) := by decide +kernel
theorem dL_law_250 : decode cL_law 250 = .ok (.if_icmp .eq 624, 3) := by decide +kernel
theorem dL_law_253 : decode cL_law 253 = .ok (.iconst 0, 1) := by decide +kernel
theorem dL_law_254 : decode cL_law 254 = .ok (.ireturn, 1) := by decide +kernel
theorem dL_law_255 : decode cL_law 255 = .ok (.aload_n 1, 1) := by decide +kernel
theorem dL_law_256 : decode cL_law 256 = .ok (.aload_n 0, 1) := by decide +kernel
theorem dL_law_257 : decode cL_law 257 = .ok (.iload_n 3, 1) := by decide +kernel
theorem dL_law_258 : decode cL_law 258 = .ok (.iconst 1, 1) := by decide +kernel
theorem dL_law_259 : decode cL_law 259 = .ok (.iadd, 1) := by decide +kernel
theorem dL_law_260 : decode cL_law 260 = .ok (.iaload, 1) := by decide +kernel
theorem dL_law_261 : decode cL_law 261 = .ok (.aload_n 0, 1) := by decide +kernel
theorem dL_law_262 : decode cL_law 262 = .ok (.iload_n 3, 1) := by decide +kernel
theorem dL_law_263 : decode cL_law 263 = .ok (.iconst 2, 1) := by decide +kernel
theorem dL_law_264 : decode cL_law 264 = .ok (.iadd, 1) := by decide +kernel
theorem dL_law_265 : decode cL_law 265 = .ok (.iaload, 1) := by decide +kernel
theorem dL_law_266 : decode cL_law 266 = .ok (.invokevirtual 36, 3) := by decide +kernel
theorem dL_law_269 : decode cL_law 269 = .ok (.aload_n 2, 1) := by decide +kernel
theorem dL_law_270 : decode cL_law 270 = .ok (.aload_n 0, 1) := by decide +kernel
theorem dL_law_271 : decode cL_law 271 = .ok (.iload_n 3, 1) := by decide +kernel
theorem dL_law_272 : decode cL_law 272 = .ok (.iconst 1, 1) := by decide +kernel
theorem dL_law_273 : decode cL_law 273 = .ok (.iadd, 1) := by decide +kernel
theorem dL_law_274 : decode cL_law 274 = .ok (.iaload, 1) := by decide +kernel
theorem dL_law_275 : decode cL_law 275 = .ok (.aload_n 0, 1) := by decide +kernel
theorem dL_law_276 : decode cL_law 276 = .ok (.iload_n 3, 1) := by decide +kernel
theorem dL_law_277 : decode cL_law 277 = .ok (.iconst 2, 1) := by decide +kernel
theorem dL_law_278 : decode cL_law 278 = .ok (.iadd, 1) := by decide +kernel
theorem dL_law_279 : decode cL_law 279 = .ok (.iaload, 1) := by decide +kernel
theorem dL_law_280 : decode cL_law 280 = .ok (.invokevirtual 39, 3) := by decide +kernel
theorem dL_law_283 : decode cL_law 283 = .ok (.if_icmp .eq 591, 3) := by decide +kernel
theorem dL_law_286 : decode cL_law 286 = .ok (.iconst 0, 1) := by decide +kernel
theorem dL_law_287 : decode cL_law 287 = .ok (.ireturn, 1) := by decide +kernel
theorem dL_law_288 : decode cL_law 288 = .ok (.aload_n 1, 1) := by decide +kernel
theorem dL_law_289 : decode cL_law 289 = .ok (.aload_n 0, 1) := by decide +kernel
theorem dL_law_290 : decode cL_law 290 = .ok (.iload_n 3, 1) := by decide +kernel
theorem dL_law_291 : decode cL_law 291 = .ok (.iconst 1, 1) := by decide +kernel
theorem dL_law_292 : decode cL_law 292 = .ok (.iadd, 1) := by decide +kernel
theorem dL_law_293 : decode cL_law 293 = .ok (.iaload, 1) := by decide +kernel
theorem dL_law_294 : decode cL_law 294 = .ok (.invokevirtual 40, 3) := by decide +kernel
theorem dL_law_297 : decode cL_law 297 = .ok (.aload_n 2, 1) := by decide +kernel
theorem dL_law_298 : decode cL_law 298 = .ok (.aload_n 0, 1) := by decide +kernel
theorem dL_law_299 : decode cL_law 299 = .ok (.iload_n 3, 1) := by decide +kernel
theorem dL_law_300 : decode cL_law 300 = .ok (.iconst 1, 1) := by decide +kernel
theorem dL_law_301 : decode cL_law 301 = .ok (.iadd, 1) := by decide +kernel
theorem dL_law_302 : decode cL_law 302 = .ok (.iaload, 1) := by decide +kernel
theorem dL_law_303 : decode cL_law 303 = .ok (.invokevirtual 43, 3) := by decide +kernel
theorem dL_law_306 : decode cL_law 306 = .ok (.if_icmp .eq 568, 3) := by decide +kernel
theorem dL_law_309 : decode cL_law 309 = .ok (.iconst 0, 1) := by decide +kernel
theorem dL_law_310 : decode cL_law 310 = .ok (.ireturn, 1) := by decide +kernel
theorem dL_law_311 : decode cL_law 311 = .ok (.aload_n 1, 1) := by decide +kernel
theorem dL_law_312 : decode cL_law 312 = .ok (.aload_n 0, 1) := by decide +kernel
theorem dL_law_313 : decode cL_law 313 = .ok (.iload_n 3, 1) := by decide +kernel
theorem dL_law_314 : decode cL_law 314 = .ok (.iconst 1, 1) := by decide +kernel
theorem dL_law_315 : decode cL_law 315 = .ok (.iadd, 1) := by decide +kernel
theorem dL_law_316 : decode cL_law 316 = .ok (.iaload, 1) := by decide +kernel
theorem dL_law_317 : decode cL_law 317 = .ok (.aload_n 0, 1) := by decide +kernel
theorem dL_law_318 : decode cL_law 318 = .ok (.iload_n 3, 1) := by decide +kernel
theorem dL_law_319 : decode cL_law 319 = .ok (.iconst 2, 1) := by decide +kernel
theorem dL_law_320 : decode cL_law 320 = .ok (.iadd, 1) := by decide +kernel
theorem dL_law_321 : decode cL_law 321 = .ok (.iaload, 1) := by decide +kernel
theorem dL_law_322 : decode cL_law 322 = .ok (.invokevirtual 44, 3) := by decide +kernel
theorem dL_law_325 : decode cL_law 325 = .ok (.aload_n 2, 1) := by decide +kernel
theorem dL_law_326 : decode cL_law 326 = .ok (.aload_n 0, 1) := by decide +kernel
theorem dL_law_327 : decode cL_law 327 = .ok (.iload_n 3, 1) := by decide +kernel
theorem dL_law_328 : decode cL_law 328 = .ok (.iconst 1, 1) := by decide +kernel
theorem dL_law_329 : decode cL_law 329 = .ok (.iadd, 1) := by decide +kernel
theorem dL_law_330 : decode cL_law 330 = .ok (.iaload, 1) := by decide +kernel
theorem dL_law_331 : decode cL_law 331 = .ok (.aload_n 0, 1) := by decide +kernel
theorem dL_law_332 : decode cL_law 332 = .ok (.iload_n 3, 1) := by decide +kernel
theorem dL_law_333 : decode cL_law 333 = .ok (.iconst 2, 1) := by decide +kernel
theorem dL_law_334 : decode cL_law 334 = .ok (.iadd, 1) := by decide +kernel
theorem dL_law_335 : decode cL_law 335 = .ok (.iaload, 1) := by decide +kernel
theorem dL_law_336 : decode cL_law 336 = .ok (.invokevirtual 47, 3) := by decide +kernel
theorem dL_law_339 : decode cL_law 339 = .ok (.if_icmp .eq 535, 3) := by decide +kernel
theorem dL_law_342 : decode cL_law 342 = .ok (.iconst 0, 1) := by decide +kernel
theorem dL_law_343 : decode cL_law 343 = .ok (.ireturn, 1) := by decide +kernel
theorem dL_law_344 : decode cL_law 344 = .ok (.aload_n 1, 1) := by decide +kernel
theorem dL_law_345 : decode cL_law 345 = .ok (.invokevirtual 48, 3) := by decide +kernel
theorem dL_law_348 : decode cL_law 348 = .ok (.aload_n 2, 1) := by decide +kernel
theorem dL_law_349 : decode cL_law 349 = .ok (.invokevirtual 51, 3) := by decide +kernel
theorem dL_law_352 : decode cL_law 352 = .ok (.if_icmp .eq 522, 3) := by decide +kernel
theorem dL_law_355 : decode cL_law 355 = .ok (.iconst 0, 1) := by decide +kernel
theorem dL_law_356 : decode cL_law 356 = .ok (.ireturn, 1) := by decide +kernel
theorem dL_law_357 : decode cL_law 357 = .ok (.aload_n 1, 1) := by decide +kernel
theorem dL_law_358 : decode cL_law 358 = .ok (.invokevirtual 52, 3) := by decide +kernel
theorem dL_law_361 : decode cL_law 361 = .ok (.aload_n 2, 1) := by decide +kernel
theorem dL_law_362 : decode cL_law 362 = .ok (.invokevirtual 55, 3) := by decide +kernel
theorem dL_law_365 : decode cL_law 365 = .ok (.if_icmp .eq 509, 3) := by decide +kernel
theorem dL_law_368 : decode cL_law 368 = .ok (.iconst 0, 1) := by decide +kernel
theorem dL_law_369 : decode cL_law 369 = .ok (.ireturn, 1) := by decide +kernel
theorem dL_law_370 : decode cL_law 370 = .ok (.aload_n 1, 1) := by decide +kernel
theorem dL_law_371 : decode cL_law 371 = .ok (.aload_n 0, 1) := by decide +kernel
theorem dL_law_372 : decode cL_law 372 = .ok (.iload_n 3, 1) := by decide +kernel
theorem dL_law_373 : decode cL_law 373 = .ok (.iconst 1, 1) := by decide +kernel
theorem dL_law_374 : decode cL_law 374 = .ok (.iadd, 1) := by decide +kernel
theorem dL_law_375 : decode cL_law 375 = .ok (.iaload, 1) := by decide +kernel
theorem dL_law_376 : decode cL_law 376 = .ok (.aload_n 0, 1) := by decide +kernel
theorem dL_law_377 : decode cL_law 377 = .ok (.iload_n 3, 1) := by decide +kernel
theorem dL_law_378 : decode cL_law 378 = .ok (.iconst 2, 1) := by decide +kernel
theorem dL_law_379 : decode cL_law 379 = .ok (.iadd, 1) := by decide +kernel
theorem dL_law_380 : decode cL_law 380 = .ok (.iaload, 1) := by decide +kernel
theorem dL_law_381 : decode cL_law 381 = .ok (.invokevirtual 56, 3) := by decide +kernel
theorem dL_law_384 : decode cL_law 384 = .ok (.aload_n 2, 1) := by decide +kernel
theorem dL_law_385 : decode cL_law 385 = .ok (.aload_n 0, 1) := by decide +kernel
theorem dL_law_386 : decode cL_law 386 = .ok (.iload_n 3, 1) := by decide +kernel
theorem dL_law_387 : decode cL_law 387 = .ok (.iconst 1, 1) := by decide +kernel
theorem dL_law_388 : decode cL_law 388 = .ok (.iadd, 1) := by decide +kernel
theorem dL_law_389 : decode cL_law 389 = .ok (.iaload, 1) := by decide +kernel
theorem dL_law_390 : decode cL_law 390 = .ok (.aload_n 0, 1) := by decide +kernel
theorem dL_law_391 : decode cL_law 391 = .ok (.iload_n 3, 1) := by decide +kernel
theorem dL_law_392 : decode cL_law 392 = .ok (.iconst 2, 1) := by decide +kernel
theorem dL_law_393 : decode cL_law 393 = .ok (.iadd, 1) := by decide +kernel
theorem dL_law_394 : decode cL_law 394 = .ok (.iaload, 1) := by decide +kernel
theorem dL_law_395 : decode cL_law 395 = .ok (.invokevirtual 59, 3) := by decide +kernel
theorem dL_law_398 : decode cL_law 398 = .ok (.if_icmp .eq 476, 3) := by decide +kernel
theorem dL_law_401 : decode cL_law 401 = .ok (.iconst 0, 1) := by decide +kernel
theorem dL_law_402 : decode cL_law 402 = .ok (.ireturn, 1) := by decide +kernel
theorem dL_law_403 : decode cL_law 403 = .ok (.aload_n 1, 1) := by decide +kernel
theorem dL_law_404 : decode cL_law 404 = .ok (.aload_n 0, 1) := by decide +kernel
theorem dL_law_405 : decode cL_law 405 = .ok (.iload_n 3, 1) := by decide +kernel
theorem dL_law_406 : decode cL_law 406 = .ok (.iconst 1, 1) := by decide +kernel
theorem dL_law_407 : decode cL_law 407 = .ok (.iadd, 1) := by decide +kernel
theorem dL_law_408 : decode cL_law 408 = .ok (.iaload, 1) := by decide +kernel
theorem dL_law_409 : decode cL_law 409 = .ok (.aload_n 0, 1) := by decide +kernel
theorem dL_law_410 : decode cL_law 410 = .ok (.iload_n 3, 1) := by decide +kernel
theorem dL_law_411 : decode cL_law 411 = .ok (.iconst 2, 1) := by decide +kernel
theorem dL_law_412 : decode cL_law 412 = .ok (.iadd, 1) := by decide +kernel
theorem dL_law_413 : decode cL_law 413 = .ok (.iaload, 1) := by decide +kernel
theorem dL_law_414 : decode cL_law 414 = .ok (.invokevirtual 60, 3) := by decide +kernel
theorem dL_law_417 : decode cL_law 417 = .ok (.aload_n 2, 1) := by decide +kernel
theorem dL_law_418 : decode cL_law 418 = .ok (.aload_n 0, 1) := by decide +kernel
theorem dL_law_419 : decode cL_law 419 = .ok (.iload_n 3, 1) := by decide +kernel
theorem dL_law_420 : decode cL_law 420 = .ok (.iconst 1, 1) := by decide +kernel
theorem dL_law_421 : decode cL_law 421 = .ok (.iadd, 1) := by decide +kernel
theorem dL_law_422 : decode cL_law 422 = .ok (.iaload, 1) := by decide +kernel
theorem dL_law_423 : decode cL_law 423 = .ok (.aload_n 0, 1) := by decide +kernel
theorem dL_law_424 : decode cL_law 424 = .ok (.iload_n 3, 1) := by decide +kernel
theorem dL_law_425 : decode cL_law 425 = .ok (.iconst 2, 1) := by decide +kernel
theorem dL_law_426 : decode cL_law 426 = .ok (.iadd, 1) := by decide +kernel
theorem dL_law_427 : decode cL_law 427 = .ok (.iaload, 1) := by decide +kernel
theorem dL_law_428 : decode cL_law 428 = .ok (.invokevirtual 63, 3) := by decide +kernel
theorem dL_law_431 : decode cL_law 431 = .ok (.if_icmp .eq 443, 3) := by decide +kernel
theorem dL_law_434 : decode cL_law 434 = .ok (.iconst 0, 1) := by decide +kernel
theorem dL_law_435 : decode cL_law 435 = .ok (.ireturn, 1) := by decide +kernel
theorem dL_law_436 : decode cL_law 436 = .ok (.aload_n 1, 1) := by decide +kernel
theorem dL_law_437 : decode cL_law 437 = .ok (.aload_n 0, 1) := by decide +kernel
theorem dL_law_438 : decode cL_law 438 = .ok (.iload_n 3, 1) := by decide +kernel
theorem dL_law_439 : decode cL_law 439 = .ok (.iconst 1, 1) := by decide +kernel
theorem dL_law_440 : decode cL_law 440 = .ok (.iadd, 1) := by decide +kernel
theorem dL_law_441 : decode cL_law 441 = .ok (.iaload, 1) := by decide +kernel
theorem dL_law_442 : decode cL_law 442 = .ok (.invokevirtual 64, 3) := by decide +kernel
theorem dL_law_445 : decode cL_law 445 = .ok (.aload_n 2, 1) := by decide +kernel
theorem dL_law_446 : decode cL_law 446 = .ok (.aload_n 0, 1) := by decide +kernel
theorem dL_law_447 : decode cL_law 447 = .ok (.iload_n 3, 1) := by decide +kernel
theorem dL_law_448 : decode cL_law 448 = .ok (.iconst 1, 1) := by decide +kernel
theorem dL_law_449 : decode cL_law 449 = .ok (.iadd, 1) := by decide +kernel
theorem dL_law_450 : decode cL_law 450 = .ok (.iaload, 1) := by decide +kernel
theorem dL_law_451 : decode cL_law 451 = .ok (.invokevirtual 67, 3) := by decide +kernel
theorem dL_law_454 : decode cL_law 454 = .ok (.if_icmp .eq 420, 3) := by decide +kernel
theorem dL_law_457 : decode cL_law 457 = .ok (.iconst 0, 1) := by decide +kernel
theorem dL_law_458 : decode cL_law 458 = .ok (.ireturn, 1) := by decide +kernel
theorem dL_law_459 : decode cL_law 459 = .ok (.aload_n 1, 1) := by decide +kernel
theorem dL_law_460 : decode cL_law 460 = .ok (.aload_n 0, 1) := by decide +kernel
theorem dL_law_461 : decode cL_law 461 = .ok (.iload_n 3, 1) := by decide +kernel
theorem dL_law_462 : decode cL_law 462 = .ok (.iconst 1, 1) := by decide +kernel
theorem dL_law_463 : decode cL_law 463 = .ok (.iadd, 1) := by decide +kernel
theorem dL_law_464 : decode cL_law 464 = .ok (.iaload, 1) := by decide +kernel
theorem dL_law_465 : decode cL_law 465 = .ok (.invokevirtual 68, 3) := by decide +kernel
theorem dL_law_468 : decode cL_law 468 = .ok (.aload_n 2, 1) := by decide +kernel
theorem dL_law_469 : decode cL_law 469 = .ok (.aload_n 0, 1) := by decide +kernel
theorem dL_law_470 : decode cL_law 470 = .ok (.iload_n 3, 1) := by decide +kernel
theorem dL_law_471 : decode cL_law 471 = .ok (.iconst 1, 1) := by decide +kernel
theorem dL_law_472 : decode cL_law 472 = .ok (.iadd, 1) := by decide +kernel
theorem dL_law_473 : decode cL_law 473 = .ok (.iaload, 1) := by decide +kernel
theorem dL_law_474 : decode cL_law 474 = .ok (.invokevirtual 71, 3) := by decide +kernel
theorem dL_law_477 : decode cL_law 477 = .ok (.if_icmp .eq 397, 3) := by decide +kernel
theorem dL_law_480 : decode cL_law 480 = .ok (.iconst 0, 1) := by decide +kernel
theorem dL_law_481 : decode cL_law 481 = .ok (.ireturn, 1) := by decide +kernel
theorem dL_law_482 : decode cL_law 482 = .ok (.aload_n 1, 1) := by decide +kernel
theorem dL_law_483 : decode cL_law 483 = .ok (.invokevirtual 72, 3) := by decide +kernel
theorem dL_law_486 : decode cL_law 486 = .ok (.aload_n 2, 1) := by decide +kernel
theorem dL_law_487 : decode cL_law 487 = .ok (.invokevirtual 75, 3) := by decide +kernel
theorem dL_law_490 : decode cL_law 490 = .ok (.if_icmp .eq 384, 3) := by decide +kernel
theorem dL_law_493 : decode cL_law 493 = .ok (.iconst 0, 1) := by decide +kernel
theorem dL_law_494 : decode cL_law 494 = .ok (.ireturn, 1) := by decide +kernel
theorem dL_law_495 : decode cL_law 495 = .ok (.aload_n 1, 1) := by decide +kernel
theorem dL_law_496 : decode cL_law 496 = .ok (.aload_n 0, 1) := by decide +kernel
theorem dL_law_497 : decode cL_law 497 = .ok (.iload_n 3, 1) := by decide +kernel
theorem dL_law_498 : decode cL_law 498 = .ok (.iconst 1, 1) := by decide +kernel
theorem dL_law_499 : decode cL_law 499 = .ok (.iadd, 1) := by decide +kernel
theorem dL_law_500 : decode cL_law 500 = .ok (.iaload, 1) := by decide +kernel
theorem dL_law_501 : decode cL_law 501 = .ok (.invokevirtual 76, 3) := by decide +kernel
theorem dL_law_504 : decode cL_law 504 = .ok (.aload_n 2, 1) := by decide +kernel
theorem dL_law_505 : decode cL_law 505 = .ok (.aload_n 0, 1) := by decide +kernel
theorem dL_law_506 : decode cL_law 506 = .ok (.iload_n 3, 1) := by decide +kernel
theorem dL_law_507 : decode cL_law 507 = .ok (.iconst 1, 1) := by decide +kernel
theorem dL_law_508 : decode cL_law 508 = .ok (.iadd, 1) := by decide +kernel
theorem dL_law_509 : decode cL_law 509 = .ok (.iaload, 1) := by decide +kernel
theorem dL_law_510 : decode cL_law 510 = .ok (.invokevirtual 79, 3) := by decide +kernel
theorem dL_law_513 : decode cL_law 513 = .ok (.if_icmp .eq 361, 3) := by decide +kernel
theorem dL_law_516 : decode cL_law 516 = .ok (.iconst 0, 1) := by decide +kernel
theorem dL_law_517 : decode cL_law 517 = .ok (.ireturn, 1) := by decide +kernel
theorem dL_law_518 : decode cL_law 518 = .ok (.aload_n 1, 1) := by decide +kernel
theorem dL_law_519 : decode cL_law 519 = .ok (.aload_n 0, 1) := by decide +kernel
theorem dL_law_520 : decode cL_law 520 = .ok (.iload_n 3, 1) := by decide +kernel
theorem dL_law_521 : decode cL_law 521 = .ok (.iconst 1, 1) := by decide +kernel
theorem dL_law_522 : decode cL_law 522 = .ok (.iadd, 1) := by decide +kernel
theorem dL_law_523 : decode cL_law 523 = .ok (.iaload, 1) := by decide +kernel
theorem dL_law_524 : decode cL_law 524 = .ok (.invokevirtual 80, 3) := by decide +kernel
theorem dL_law_527 : decode cL_law 527 = .ok (.aload_n 2, 1) := by decide +kernel
theorem dL_law_528 : decode cL_law 528 = .ok (.aload_n 0, 1) := by decide +kernel
theorem dL_law_529 : decode cL_law 529 = .ok (.iload_n 3, 1) := by decide +kernel
theorem dL_law_530 : decode cL_law 530 = .ok (.iconst 1, 1) := by decide +kernel
theorem dL_law_531 : decode cL_law 531 = .ok (.iadd, 1) := by decide +kernel
theorem dL_law_532 : decode cL_law 532 = .ok (.iaload, 1) := by decide +kernel
theorem dL_law_533 : decode cL_law 533 = .ok (.invokevirtual 83, 3) := by decide +kernel
theorem dL_law_536 : decode cL_law 536 = .ok (.if_icmp .eq 338, 3) := by decide +kernel
theorem dL_law_539 : decode cL_law 539 = .ok (.iconst 0, 1) := by decide +kernel
theorem dL_law_540 : decode cL_law 540 = .ok (.ireturn, 1) := by decide +kernel
theorem dL_law_541 : decode cL_law 541 = .ok (.aload_n 1, 1) := by decide +kernel
theorem dL_law_542 : decode cL_law 542 = .ok (.aload_n 0, 1) := by decide +kernel
theorem dL_law_543 : decode cL_law 543 = .ok (.iload_n 3, 1) := by decide +kernel
theorem dL_law_544 : decode cL_law 544 = .ok (.iconst 1, 1) := by decide +kernel
theorem dL_law_545 : decode cL_law 545 = .ok (.iadd, 1) := by decide +kernel
theorem dL_law_546 : decode cL_law 546 = .ok (.iaload, 1) := by decide +kernel
theorem dL_law_547 : decode cL_law 547 = .ok (.aload_n 0, 1) := by decide +kernel
theorem dL_law_548 : decode cL_law 548 = .ok (.iload_n 3, 1) := by decide +kernel
theorem dL_law_549 : decode cL_law 549 = .ok (.iconst 2, 1) := by decide +kernel
theorem dL_law_550 : decode cL_law 550 = .ok (.iadd, 1) := by decide +kernel
theorem dL_law_551 : decode cL_law 551 = .ok (.iaload, 1) := by decide +kernel
theorem dL_law_552 : decode cL_law 552 = .ok (.invokevirtual 84, 3) := by decide +kernel
theorem dL_law_555 : decode cL_law 555 = .ok (.aload_n 2, 1) := by decide +kernel
theorem dL_law_556 : decode cL_law 556 = .ok (.aload_n 0, 1) := by decide +kernel
theorem dL_law_557 : decode cL_law 557 = .ok (.iload_n 3, 1) := by decide +kernel
theorem dL_law_558 : decode cL_law 558 = .ok (.iconst 1, 1) := by decide +kernel
theorem dL_law_559 : decode cL_law 559 = .ok (.iadd, 1) := by decide +kernel
theorem dL_law_560 : decode cL_law 560 = .ok (.iaload, 1) := by decide +kernel
theorem dL_law_561 : decode cL_law 561 = .ok (.aload_n 0, 1) := by decide +kernel
theorem dL_law_562 : decode cL_law 562 = .ok (.iload_n 3, 1) := by decide +kernel
theorem dL_law_563 : decode cL_law 563 = .ok (.iconst 2, 1) := by decide +kernel
theorem dL_law_564 : decode cL_law 564 = .ok (.iadd, 1) := by decide +kernel
theorem dL_law_565 : decode cL_law 565 = .ok (.iaload, 1) := by decide +kernel
theorem dL_law_566 : decode cL_law 566 = .ok (.invokevirtual 87, 3) := by decide +kernel
theorem dL_law_569 : decode cL_law 569 = .ok (.if_icmp .eq 305, 3) := by decide +kernel
theorem dL_law_572 : decode cL_law 572 = .ok (.iconst 0, 1) := by decide +kernel
theorem dL_law_573 : decode cL_law 573 = .ok (.ireturn, 1) := by decide +kernel
theorem dL_law_574 : decode cL_law 574 = .ok (.aload_n 1, 1) := by decide +kernel
theorem dL_law_575 : decode cL_law 575 = .ok (.aload_n 0, 1) := by decide +kernel
theorem dL_law_576 : decode cL_law 576 = .ok (.iload_n 3, 1) := by decide +kernel
theorem dL_law_577 : decode cL_law 577 = .ok (.iconst 1, 1) := by decide +kernel
theorem dL_law_578 : decode cL_law 578 = .ok (.iadd, 1) := by decide +kernel
theorem dL_law_579 : decode cL_law 579 = .ok (.iaload, 1) := by decide +kernel
theorem dL_law_580 : decode cL_law 580 = .ok (.aload_n 0, 1) := by decide +kernel
theorem dL_law_581 : decode cL_law 581 = .ok (.iload_n 3, 1) := by decide +kernel
theorem dL_law_582 : decode cL_law 582 = .ok (.iconst 2, 1) := by decide +kernel
theorem dL_law_583 : decode cL_law 583 = .ok (.iadd, 1) := by decide +kernel
theorem dL_law_584 : decode cL_law 584 = .ok (.iaload, 1) := by decide +kernel
theorem dL_law_585 : decode cL_law 585 = .ok (.invokevirtual 88, 3) := by decide +kernel
theorem dL_law_588 : decode cL_law 588 = .ok (.aload_n 2, 1) := by decide +kernel
theorem dL_law_589 : decode cL_law 589 = .ok (.aload_n 0, 1) := by decide +kernel
theorem dL_law_590 : decode cL_law 590 = .ok (.iload_n 3, 1) := by decide +kernel
theorem dL_law_591 : decode cL_law 591 = .ok (.iconst 1, 1) := by decide +kernel
theorem dL_law_592 : decode cL_law 592 = .ok (.iadd, 1) := by decide +kernel
theorem dL_law_593 : decode cL_law 593 = .ok (.iaload, 1) := by decide +kernel
theorem dL_law_594 : decode cL_law 594 = .ok (.aload_n 0, 1) := by decide +kernel
theorem dL_law_595 : decode cL_law 595 = .ok (.iload_n 3, 1) := by decide +kernel
theorem dL_law_596 : decode cL_law 596 = .ok (.iconst 2, 1) := by decide +kernel
theorem dL_law_597 : decode cL_law 597 = .ok (.iadd, 1) := by decide +kernel
theorem dL_law_598 : decode cL_law 598 = .ok (.iaload, 1) := by decide +kernel
theorem dL_law_599 : decode cL_law 599 = .ok (.invokevirtual 91, 3) := by decide +kernel
theorem dL_law_602 : decode cL_law 602 = .ok (.if_icmp .eq 272, 3) := by decide +kernel
theorem dL_law_605 : decode cL_law 605 = .ok (.iconst 0, 1) := by decide +kernel
theorem dL_law_606 : decode cL_law 606 = .ok (.ireturn, 1) := by decide +kernel
theorem dL_law_607 : decode cL_law 607 = .ok (.aload_n 1, 1) := by decide +kernel
theorem dL_law_608 : decode cL_law 608 = .ok (.aload_n 0, 1) := by decide +kernel
theorem dL_law_609 : decode cL_law 609 = .ok (.iload_n 3, 1) := by decide +kernel
theorem dL_law_610 : decode cL_law 610 = .ok (.iconst 1, 1) := by decide +kernel
theorem dL_law_611 : decode cL_law 611 = .ok (.iadd, 1) := by decide +kernel
theorem dL_law_612 : decode cL_law 612 = .ok (.iaload, 1) := by decide +kernel
theorem dL_law_613 : decode cL_law 613 = .ok (.aload_n 0, 1) := by decide +kernel
theorem dL_law_614 : decode cL_law 614 = .ok (.iload_n 3, 1) := by decide +kernel
theorem dL_law_615 : decode cL_law 615 = .ok (.iconst 2, 1) := by decide +kernel
theorem dL_law_616 : decode cL_law 616 = .ok (.iadd, 1) := by decide +kernel
theorem dL_law_617 : decode cL_law 617 = .ok (.iaload, 1) := by decide +kernel
theorem dL_law_618 : decode cL_law 618 = .ok (.invokevirtual 92, 3) := by decide +kernel
theorem dL_law_621 : decode cL_law 621 = .ok (.aload_n 2, 1) := by decide +kernel
theorem dL_law_622 : decode cL_law 622 = .ok (.aload_n 0, 1) := by decide +kernel
theorem dL_law_623 : decode cL_law 623 = .ok (.iload_n 3, 1) := by decide +kernel
theorem dL_law_624 : decode cL_law 624 = .ok (.iconst 1, 1) := by decide +kernel
theorem dL_law_625 : decode cL_law 625 = .ok (.iadd, 1) := by decide +kernel
theorem dL_law_626 : decode cL_law 626 = .ok (.iaload, 1) := by decide +kernel
theorem dL_law_627 : decode cL_law 627 = .ok (.aload_n 0, 1) := by decide +kernel
theorem dL_law_628 : decode cL_law 628 = .ok (.iload_n 3, 1) := by decide +kernel
theorem dL_law_629 : decode cL_law 629 = .ok (.iconst 2, 1) := by decide +kernel
theorem dL_law_630 : decode cL_law 630 = .ok (.iadd, 1) := by decide +kernel
theorem dL_law_631 : decode cL_law 631 = .ok (.iaload, 1) := by decide +kernel
theorem dL_law_632 : decode cL_law 632 = .ok (.invokevirtual 95, 3) := by decide +kernel
theorem dL_law_635 : decode cL_law 635 = .ok (.if_icmp .eq 239, 3) := by decide +kernel
theorem dL_law_638 : decode cL_law 638 = .ok (.iconst 0, 1) := by decide +kernel
theorem dL_law_639 : decode cL_law 639 = .ok (.ireturn, 1) := by decide +kernel
theorem dL_law_640 : decode cL_law 640 = .ok (.aload_n 1, 1) := by decide +kernel
theorem dL_law_641 : decode cL_law 641 = .ok (.aload_n 0, 1) := by decide +kernel
theorem dL_law_642 : decode cL_law 642 = .ok (.iload_n 3, 1) := by decide +kernel
theorem dL_law_643 : decode cL_law 643 = .ok (.iconst 1, 1) := by decide +kernel
theorem dL_law_644 : decode cL_law 644 = .ok (.iadd, 1) := by decide +kernel
theorem dL_law_645 : decode cL_law 645 = .ok (.iaload, 1) := by decide +kernel
theorem dL_law_646 : decode cL_law 646 = .ok (.invokevirtual 96, 3) := by decide +kernel
theorem dL_law_649 : decode cL_law 649 = .ok (.aload_n 2, 1) := by decide +kernel
theorem dL_law_650 : decode cL_law 650 = .ok (.aload_n 0, 1) := by decide +kernel
theorem dL_law_651 : decode cL_law 651 = .ok (.iload_n 3, 1) := by decide +kernel
theorem dL_law_652 : decode cL_law 652 = .ok (.iconst 1, 1) := by decide +kernel
theorem dL_law_653 : decode cL_law 653 = .ok (.iadd, 1) := by decide +kernel
theorem dL_law_654 : decode cL_law 654 = .ok (.iaload, 1) := by decide +kernel
theorem dL_law_655 : decode cL_law 655 = .ok (.invokevirtual 99, 3) := by decide +kernel
theorem dL_law_658 : decode cL_law 658 = .ok (.if_icmp .eq 216, 3) := by decide +kernel
theorem dL_law_661 : decode cL_law 661 = .ok (.iconst 0, 1) := by decide +kernel
theorem dL_law_662 : decode cL_law 662 = .ok (.ireturn, 1) := by decide +kernel
theorem dL_law_663 : decode cL_law 663 = .ok (.aload_n 1, 1) := by decide +kernel
theorem dL_law_664 : decode cL_law 664 = .ok (.aload_n 0, 1) := by decide +kernel
theorem dL_law_665 : decode cL_law 665 = .ok (.iload_n 3, 1) := by decide +kernel
theorem dL_law_666 : decode cL_law 666 = .ok (.iconst 1, 1) := by decide +kernel
theorem dL_law_667 : decode cL_law 667 = .ok (.iadd, 1) := by decide +kernel
theorem dL_law_668 : decode cL_law 668 = .ok (.iaload, 1) := by decide +kernel
theorem dL_law_669 : decode cL_law 669 = .ok (.aload_n 0, 1) := by decide +kernel
theorem dL_law_670 : decode cL_law 670 = .ok (.iload_n 3, 1) := by decide +kernel
theorem dL_law_671 : decode cL_law 671 = .ok (.iconst 2, 1) := by decide +kernel
theorem dL_law_672 : decode cL_law 672 = .ok (.iadd, 1) := by decide +kernel
theorem dL_law_673 : decode cL_law 673 = .ok (.iaload, 1) := by decide +kernel
theorem dL_law_674 : decode cL_law 674 = .ok (.invokevirtual 100, 3) := by decide +kernel
theorem dL_law_677 : decode cL_law 677 = .ok (.aload_n 2, 1) := by decide +kernel
theorem dL_law_678 : decode cL_law 678 = .ok (.aload_n 0, 1) := by decide +kernel
theorem dL_law_679 : decode cL_law 679 = .ok (.iload_n 3, 1) := by decide +kernel
theorem dL_law_680 : decode cL_law 680 = .ok (.iconst 1, 1) := by decide +kernel
theorem dL_law_681 : decode cL_law 681 = .ok (.iadd, 1) := by decide +kernel
theorem dL_law_682 : decode cL_law 682 = .ok (.iaload, 1) := by decide +kernel
theorem dL_law_683 : decode cL_law 683 = .ok (.aload_n 0, 1) := by decide +kernel
theorem dL_law_684 : decode cL_law 684 = .ok (.iload_n 3, 1) := by decide +kernel
theorem dL_law_685 : decode cL_law 685 = .ok (.iconst 2, 1) := by decide +kernel
theorem dL_law_686 : decode cL_law 686 = .ok (.iadd, 1) := by decide +kernel
theorem dL_law_687 : decode cL_law 687 = .ok (.iaload, 1) := by decide +kernel
theorem dL_law_688 : decode cL_law 688 = .ok (.invokevirtual 103, 3) := by decide +kernel
theorem dL_law_691 : decode cL_law 691 = .ok (.if_icmp .eq 183, 3) := by decide +kernel
theorem dL_law_694 : decode cL_law 694 = .ok (.iconst 0, 1) := by decide +kernel
theorem dL_law_695 : decode cL_law 695 = .ok (.ireturn, 1) := by decide +kernel
theorem dL_law_696 : decode cL_law 696 = .ok (.aload_n 1, 1) := by decide +kernel
theorem dL_law_697 : decode cL_law 697 = .ok (.aload_n 0, 1) := by decide +kernel
theorem dL_law_698 : decode cL_law 698 = .ok (.iload_n 3, 1) := by decide +kernel
theorem dL_law_699 : decode cL_law 699 = .ok (.iconst 1, 1) := by decide +kernel
theorem dL_law_700 : decode cL_law 700 = .ok (.iadd, 1) := by decide +kernel
theorem dL_law_701 : decode cL_law 701 = .ok (.iaload, 1) := by decide +kernel
theorem dL_law_702 : decode cL_law 702 = .ok (.aload_n 0, 1) := by decide +kernel
theorem dL_law_703 : decode cL_law 703 = .ok (.iload_n 3, 1) := by decide +kernel
theorem dL_law_704 : decode cL_law 704 = .ok (.iconst 2, 1) := by decide +kernel
theorem dL_law_705 : decode cL_law 705 = .ok (.iadd, 1) := by decide +kernel
theorem dL_law_706 : decode cL_law 706 = .ok (.iaload, 1) := by decide +kernel
theorem dL_law_707 : decode cL_law 707 = .ok (.aload_n 0, 1) := by decide +kernel
theorem dL_law_708 : decode cL_law 708 = .ok (.iload_n 3, 1) := by decide +kernel
theorem dL_law_709 : decode cL_law 709 = .ok (.iconst 3, 1) := by decide +kernel
theorem dL_law_710 : decode cL_law 710 = .ok (.iadd, 1) := by decide +kernel
theorem dL_law_711 : decode cL_law 711 = .ok (.iaload, 1) := by decide +kernel
theorem dL_law_712 : decode cL_law 712 = .ok (.invokevirtual 104, 3) := by decide +kernel
theorem dL_law_715 : decode cL_law 715 = .ok (.aload_n 2, 1) := by decide +kernel
theorem dL_law_716 : decode cL_law 716 = .ok (.aload_n 0, 1) := by decide +kernel
theorem dL_law_717 : decode cL_law 717 = .ok (.iload_n 3, 1) := by decide +kernel
theorem dL_law_718 : decode cL_law 718 = .ok (.iconst 1, 1) := by decide +kernel
theorem dL_law_719 : decode cL_law 719 = .ok (.iadd, 1) := by decide +kernel
theorem dL_law_720 : decode cL_law 720 = .ok (.iaload, 1) := by decide +kernel
theorem dL_law_721 : decode cL_law 721 = .ok (.aload_n 0, 1) := by decide +kernel
theorem dL_law_722 : decode cL_law 722 = .ok (.iload_n 3, 1) := by decide +kernel
theorem dL_law_723 : decode cL_law 723 = .ok (.iconst 2, 1) := by decide +kernel
theorem dL_law_724 : decode cL_law 724 = .ok (.iadd, 1) := by decide +kernel
theorem dL_law_725 : decode cL_law 725 = .ok (.iaload, 1) := by decide +kernel
theorem dL_law_726 : decode cL_law 726 = .ok (.aload_n 0, 1) := by decide +kernel
theorem dL_law_727 : decode cL_law 727 = .ok (.iload_n 3, 1) := by decide +kernel
theorem dL_law_728 : decode cL_law 728 = .ok (.iconst 3, 1) := by decide +kernel
theorem dL_law_729 : decode cL_law 729 = .ok (.iadd, 1) := by decide +kernel
theorem dL_law_730 : decode cL_law 730 = .ok (.iaload, 1) := by decide +kernel
theorem dL_law_731 : decode cL_law 731 = .ok (.invokevirtual 108, 3) := by decide +kernel
theorem dL_law_734 : decode cL_law 734 = .ok (.if_icmp .eq 140, 3) := by decide +kernel
theorem dL_law_737 : decode cL_law 737 = .ok (.iconst 0, 1) := by decide +kernel
theorem dL_law_738 : decode cL_law 738 = .ok (.ireturn, 1) := by decide +kernel
theorem dL_law_739 : decode cL_law 739 = .ok (.aload_n 1, 1) := by decide +kernel
theorem dL_law_740 : decode cL_law 740 = .ok (.invokevirtual 109, 3) := by decide +kernel
theorem dL_law_743 : decode cL_law 743 = .ok (.aload_n 2, 1) := by decide +kernel
theorem dL_law_744 : decode cL_law 744 = .ok (.invokevirtual 112, 3) := by decide +kernel
theorem dL_law_747 : decode cL_law 747 = .ok (.if_icmp .eq 127, 3) := by decide +kernel
theorem dL_law_750 : decode cL_law 750 = .ok (.iconst 0, 1) := by decide +kernel
theorem dL_law_751 : decode cL_law 751 = .ok (.ireturn, 1) := by decide +kernel
theorem dL_law_752 : decode cL_law 752 = .ok (.aload_n 1, 1) := by decide +kernel
theorem dL_law_753 : decode cL_law 753 = .ok (.aload_n 0, 1) := by decide +kernel
theorem dL_law_754 : decode cL_law 754 = .ok (.iload_n 3, 1) := by decide +kernel
theorem dL_law_755 : decode cL_law 755 = .ok (.iconst 1, 1) := by decide +kernel
theorem dL_law_756 : decode cL_law 756 = .ok (.iadd, 1) := by decide +kernel
theorem dL_law_757 : decode cL_law 757 = .ok (.iaload, 1) := by decide +kernel
theorem dL_law_758 : decode cL_law 758 = .ok (.invokevirtual 113, 3) := by decide +kernel
theorem dL_law_761 : decode cL_law 761 = .ok (.aload_n 2, 1) := by decide +kernel
theorem dL_law_762 : decode cL_law 762 = .ok (.aload_n 0, 1) := by decide +kernel
theorem dL_law_763 : decode cL_law 763 = .ok (.iload_n 3, 1) := by decide +kernel
theorem dL_law_764 : decode cL_law 764 = .ok (.iconst 1, 1) := by decide +kernel
theorem dL_law_765 : decode cL_law 765 = .ok (.iadd, 1) := by decide +kernel
theorem dL_law_766 : decode cL_law 766 = .ok (.iaload, 1) := by decide +kernel
theorem dL_law_767 : decode cL_law 767 = .ok (.invokevirtual 116, 3) := by decide +kernel
theorem dL_law_770 : decode cL_law 770 = .ok (.if_icmp .eq 104, 3) := by decide +kernel
theorem dL_law_773 : decode cL_law 773 = .ok (.iconst 0, 1) := by decide +kernel
theorem dL_law_774 : decode cL_law 774 = .ok (.ireturn, 1) := by decide +kernel
theorem dL_law_775 : decode cL_law 775 = .ok (.aload_n 1, 1) := by decide +kernel
theorem dL_law_776 : decode cL_law 776 = .ok (.aload_n 0, 1) := by decide +kernel
theorem dL_law_777 : decode cL_law 777 = .ok (.iload_n 3, 1) := by decide +kernel
theorem dL_law_778 : decode cL_law 778 = .ok (.iconst 1, 1) := by decide +kernel
theorem dL_law_779 : decode cL_law 779 = .ok (.iadd, 1) := by decide +kernel
theorem dL_law_780 : decode cL_law 780 = .ok (.iaload, 1) := by decide +kernel
theorem dL_law_781 : decode cL_law 781 = .ok (.invokevirtual 117, 3) := by decide +kernel
theorem dL_law_784 : decode cL_law 784 = .ok (.aload_n 2, 1) := by decide +kernel
theorem dL_law_785 : decode cL_law 785 = .ok (.aload_n 0, 1) := by decide +kernel
theorem dL_law_786 : decode cL_law 786 = .ok (.iload_n 3, 1) := by decide +kernel
theorem dL_law_787 : decode cL_law 787 = .ok (.iconst 1, 1) := by decide +kernel
theorem dL_law_788 : decode cL_law 788 = .ok (.iadd, 1) := by decide +kernel
theorem dL_law_789 : decode cL_law 789 = .ok (.iaload, 1) := by decide +kernel
theorem dL_law_790 : decode cL_law 790 = .ok (.invokevirtual 120, 3) := by decide +kernel
theorem dL_law_793 : decode cL_law 793 = .ok (.if_icmp .eq 81, 3) := by decide +kernel
theorem dL_law_796 : decode cL_law 796 = .ok (.iconst 0, 1) := by decide +kernel
theorem dL_law_797 : decode cL_law 797 = .ok (.ireturn, 1) := by decide +kernel
theorem dL_law_798 : decode cL_law 798 = .ok (.aload_n 1, 1) := by decide +kernel
theorem dL_law_799 : decode cL_law 799 = .ok (.aload_n 0, 1) := by decide +kernel
theorem dL_law_800 : decode cL_law 800 = .ok (.iload_n 3, 1) := by decide +kernel
theorem dL_law_801 : decode cL_law 801 = .ok (.iconst 1, 1) := by decide +kernel
theorem dL_law_802 : decode cL_law 802 = .ok (.iadd, 1) := by decide +kernel
theorem dL_law_803 : decode cL_law 803 = .ok (.iaload, 1) := by decide +kernel
theorem dL_law_804 : decode cL_law 804 = .ok (.aload_n 0, 1) := by decide +kernel
theorem dL_law_805 : decode cL_law 805 = .ok (.iload_n 3, 1) := by decide +kernel
theorem dL_law_806 : decode cL_law 806 = .ok (.iconst 2, 1) := by decide +kernel
theorem dL_law_807 : decode cL_law 807 = .ok (.iadd, 1) := by decide +kernel
theorem dL_law_808 : decode cL_law 808 = .ok (.iaload, 1) := by decide +kernel
theorem dL_law_809 : decode cL_law 809 = .ok (.aload_n 0, 1) := by decide +kernel
theorem dL_law_810 : decode cL_law 810 = .ok (.iload_n 3, 1) := by decide +kernel
theorem dL_law_811 : decode cL_law 811 = .ok (.iconst 3, 1) := by decide +kernel
theorem dL_law_812 : decode cL_law 812 = .ok (.iadd, 1) := by decide +kernel
theorem dL_law_813 : decode cL_law 813 = .ok (.iaload, 1) := by decide +kernel
theorem dL_law_814 : decode cL_law 814 = .ok (.aload_n 0, 1) := by decide +kernel
theorem dL_law_815 : decode cL_law 815 = .ok (.iload_n 3, 1) := by decide +kernel
theorem dL_law_816 : decode cL_law 816 = .ok (.iconst 4, 1) := by decide +kernel
theorem dL_law_817 : decode cL_law 817 = .ok (.iadd, 1) := by decide +kernel
theorem dL_law_818 : decode cL_law 818 = .ok (.iaload, 1) := by decide +kernel
theorem dL_law_819 : decode cL_law 819 = .ok (.invokevirtual 121, 3) := by decide +kernel
theorem dL_law_822 : decode cL_law 822 = .ok (.aload_n 2, 1) := by decide +kernel
theorem dL_law_823 : decode cL_law 823 = .ok (.aload_n 0, 1) := by decide +kernel
theorem dL_law_824 : decode cL_law 824 = .ok (.iload_n 3, 1) := by decide +kernel
theorem dL_law_825 : decode cL_law 825 = .ok (.iconst 1, 1) := by decide +kernel
theorem dL_law_826 : decode cL_law 826 = .ok (.iadd, 1) := by decide +kernel
theorem dL_law_827 : decode cL_law 827 = .ok (.iaload, 1) := by decide +kernel
theorem dL_law_828 : decode cL_law 828 = .ok (.aload_n 0, 1) := by decide +kernel
theorem dL_law_829 : decode cL_law 829 = .ok (.iload_n 3, 1) := by decide +kernel
theorem dL_law_830 : decode cL_law 830 = .ok (.iconst 2, 1) := by decide +kernel
theorem dL_law_831 : decode cL_law 831 = .ok (.iadd, 1) := by decide +kernel
theorem dL_law_832 : decode cL_law 832 = .ok (.iaload, 1) := by decide +kernel
theorem dL_law_833 : decode cL_law 833 = .ok (.aload_n 0, 1) := by decide +kernel
theorem dL_law_834 : decode cL_law 834 = .ok (.iload_n 3, 1) := by decide +kernel
theorem dL_law_835 : decode cL_law 835 = .ok (.iconst 3, 1) := by decide +kernel
theorem dL_law_836 : decode cL_law 836 = .ok (.iadd, 1) := by decide +kernel
theorem dL_law_837 : decode cL_law 837 = .ok (.iaload, 1) := by decide +kernel
theorem dL_law_838 : decode cL_law 838 = .ok (.aload_n 0, 1) := by decide +kernel
theorem dL_law_839 : decode cL_law 839 = .ok (.iload_n 3, 1) := by decide +kernel
theorem dL_law_840 : decode cL_law 840 = .ok (.iconst 4, 1) := by decide +kernel
theorem dL_law_841 : decode cL_law 841 = .ok (.iadd, 1) := by decide +kernel
theorem dL_law_842 : decode cL_law 842 = .ok (.iaload, 1) := by decide +kernel
theorem dL_law_843 : decode cL_law 843 = .ok (.invokevirtual 125, 3) := by decide +kernel
theorem dL_law_846 : decode cL_law 846 = .ok (.if_icmp .eq 28, 3) := by decide +kernel
theorem dL_law_849 : decode cL_law 849 = .ok (.iconst 0, 1) := by decide +kernel
theorem dL_law_850 : decode cL_law 850 = .ok (.ireturn, 1) := by decide +kernel
theorem dL_law_851 : decode cL_law 851 = .ok (.aload_n 1, 1) := by decide +kernel
theorem dL_law_852 : decode cL_law 852 = .ok (.aload_n 0, 1) := by decide +kernel
theorem dL_law_853 : decode cL_law 853 = .ok (.iload_n 3, 1) := by decide +kernel
theorem dL_law_854 : decode cL_law 854 = .ok (.iconst 1, 1) := by decide +kernel
theorem dL_law_855 : decode cL_law 855 = .ok (.iadd, 1) := by decide +kernel
theorem dL_law_856 : decode cL_law 856 = .ok (.iaload, 1) := by decide +kernel
theorem dL_law_857 : decode cL_law 857 = .ok (.invokevirtual 126, 3) := by decide +kernel
theorem dL_law_860 : decode cL_law 860 = .ok (.aload_n 2, 1) := by decide +kernel
theorem dL_law_861 : decode cL_law 861 = .ok (.aload_n 0, 1) := by decide +kernel
theorem dL_law_862 : decode cL_law 862 = .ok (.iload_n 3, 1) := by decide +kernel
theorem dL_law_863 : decode cL_law 863 = .ok (.iconst 1, 1) := by decide +kernel
theorem dL_law_864 : decode cL_law 864 = .ok (.iadd, 1) := by decide +kernel
theorem dL_law_865 : decode cL_law 865 = .ok (.iaload, 1) := by decide +kernel
theorem dL_law_866 : decode cL_law 866 = .ok (.invokevirtual 129, 3) := by decide +kernel
theorem dL_law_869 : decode cL_law 869 = .ok (.if_icmp .eq 5, 3) := by decide +kernel
theorem dL_law_872 : decode cL_law 872 = .ok (.iconst 0, 1) := by decide +kernel
theorem dL_law_873 : decode cL_law 873 = .ok (.ireturn, 1) := by decide +kernel
theorem dL_law_874 : decode cL_law 874 = .ok (.iinc 3 5, 3) := by decide +kernel
theorem dL_law_877 : decode cL_law 877 = .ok (.goto (-859), 3) := by decide +kernel
theorem dL_law_880 : decode cL_law 880 = .ok (.iconst 1, 1) := by decide +kernel
theorem dL_law_881 : decode cL_law 881 = .ok (.ireturn, 1) := by decide +kernel
end
section
/-! MY OWN LOGIC OVER W: one world for all methods: objects by numbers 0, 1 .. (number k lies at gS + k), ints, references and longs of each in functions -/
def lw_g : List Cond := lw_tbl.filter goodWord
theorem lw_g_in {w : Cond} (h : w ∈ lw_g) : w ∈ lw_tbl := (List.mem_filter.mp h).1
theorem lw_g_good : GoodIn lw_g lw_g := fun w h => ⟨h, good_of_word (List.mem_filter.mp h).2⟩
theorem lw_g_of {w : Cond} (h : w ∈ lw_tbl) (hg : goodWord w = true) : w ∈ lw_g := List.mem_filter.mpr ⟨h, hg⟩
abbrev WG : Type := Launch × va_G × (ClassId × ClassId × ClassId × ClassId) × (Nat × Nat × (Nat → Int32)) × Nat × (Nat → Nat) × (Nat → Nat)
def gl (G : WG) : Launch := G.1
def gD (G : WG) : va_G := G.2.1
def gI (G : WG) : ClassId := G.2.2.1.1
def gC (G : WG) : ClassId := G.2.2.1.2.1
def gZ (G : WG) : ClassId := G.2.2.1.2.2.1
def gY (G : WG) : ClassId := G.2.2.1.2.2.2
def gB (G : WG) : Nat := G.2.2.2.1.1
def gLn (G : WG) : Nat := G.2.2.2.1.2.1
def gXs (G : WG) : Nat → Int32 := G.2.2.2.1.2.2
def gS (G : WG) : Nat := G.2.2.2.2.1
def gK (G : WG) : Nat → Nat := G.2.2.2.2.2.1
def gV (G : WG) : Nat → Nat := G.2.2.2.2.2.2
def gA (G : WG) : Nat → Prop := fun q => gS G ≤ q
def gT (G : WG) : List (ClassId × FieldType) := [(gI G, .int), (gC G, .char), (gZ G, .boolean), (gY G, .object RX3)]
def ad (G : WG) (k : Nat) : Nat := gS G + k
/-- the heap: how many objects; tag and length of each; references, ints, longs -/
abbrev AH : Type := Nat × (Nat → Nat × Nat) × (Nat → Nat → Option Nat) × (Nat → Nat → Int32) × (Nat → Nat → Int64)
def hN (h : AH) : Nat := h.1
def hS (h : AH) : Nat → Nat × Nat := h.2.1
def hR (h : AH) : Nat → Nat → Option Nat := h.2.2.1
def hI (h : AH) : Nat → Nat → Int32 := h.2.2.2.1
def hL (h : AH) : Nat → Nat → Int64 := h.2.2.2.2
/-- object o is of tag t, with n slots -/
def Is (h : AH) (o t n : Nat) : Prop := o < hN h ∧ hS h o = (t, n)
def sA (h : AH) (o : Nat) (g : Nat → Int32) : AH := (hN h, hS h, hR h, va_up (hI h) o g, hL h)
abbrev sI (h : AH) (o j : Nat) (v : Int32) : AH := sA h o (upd (hI h o) j v)
def sR (h : AH) (o j : Nat) (v : Option Nat) : AH := (hN h, hS h, va_up (hR h) o (va_up (hR h o) j v), hI h, hL h)
def sL (h : AH) (o j : Nat) (v : Int64) : AH := (hN h, hS h, hR h, hI h, va_up (hL h) o (va_up (hL h o) j v))
def sN (h : AH) (t n : Nat) : AH := (hN h + 1, va_up (hS h) (hN h) (t, n), va_up (hR h) (hN h) (fun _ => none), va_up (hI h) (hN h) (fun _ => 0), va_up (hL h) (hN h) (fun _ => 0))
def tyO (ci : Nat) : Nat → FieldType := if ci = 0 then tyX0 else if ci = 1 then tyX1 else if ci = 2 then tyX2 else if ci = 3 then tyX3 else if ci = 4 then tyX4 else tyX5
def nfO (ci : Nat) : Nat := if ci = 0 then 4 else if ci = 1 then 5 else if ci = 2 then 8 else if ci = 3 then 14 else if ci = 4 then 11 else if ci = 5 then 21 else 0
/-- 0: an int or a boolean, 1: a reference, 2: a long -/
def ftc (ci j : Nat) : Nat := match tyO ci j with
  | .int => 0
  | .boolean => 0
  | .long => 2
  | .object _ => 1
  | .array _ => 1
  | _ => 3
def rdF (G : WG) (h : AH) (o ci j : Nat) : Value := if ftc ci j = 0 then .int (hI h o j) else if ftc ci j = 2 then .long (hL h o j) else va_rf ((hR h o j).map (ad G))
def rdE (G : WG) (h : AH) (o : Nat) : va_E :=
  if (hS h o).1 = 10 then .inl (gI G, (hS h o).2, .inl (hI h o))
  else if (hS h o).1 = 11 then .inl (gC G, (hS h o).2, .inl (hI h o))
  else if (hS h o).1 = 12 then .inl (gZ G, (hS h o).2, .inl (hI h o))
  else if (hS h o).1 = 13 then .inl (gY G, (hS h o).2, .inr (.inr (.inr (.inr (fun i => (hR h o i).map (ad G))))))
  else .inr ((hS h o).1, (List.range (nfO (hS h o).1)).map (rdF G h o (hS h o).1))
def rdW (G : WG) (h : AH) : va_W := (List.range (hN h)).map (fun k => (ad G k, rdE G h k))
def Rep (G : WG) (h : AH) (H : Heap) : Prop := va_P (gD G) vwCl (rdW G h) H
theorem rdW_get {G : WG} {h : AH} {k : Nat} (hk : k < hN h) : (rdW G h)[k]? = some (ad G k, rdE G h k) := by
  unfold rdW
  rw [List.getElem?_map, List.getElem?_range hk]
  rfl
theorem rdW_inv {G : WG} {h : AH} {k : Nat} {q : Nat × va_E} (hq : (rdW G h)[k]? = some q) : k < hN h ∧ q = (ad G k, rdE G h k) := by
  have hlt : k < hN h := by
    have := (List.getElem?_eq_some_iff.mp hq).1
    unfold rdW at this
    simpa using this
  rw [rdW_get hlt] at hq
  exact ⟨hlt, (Option.some.inj hq).symm⟩
theorem rdW_D (G : WG) (h : AH) : va_D (gA G) (rdW G h) := by
  refine ⟨fun i j p q hi hj e => ?_, fun k q hk => ?_⟩
  · obtain ⟨-, rfl⟩ := rdW_inv hi
    obtain ⟨-, rfl⟩ := rdW_inv hj
    have e : gS G + i = gS G + j := e
    omega
  · obtain ⟨-, rfl⟩ := rdW_inv hk
    exact Nat.le_add_right _ _
theorem rdW_set {G : WG} {h h' : AH} {k : Nat} {e : va_E} (hk : k < hN h) (hn : hN h' = hN h) (he : rdE G h' k = e) (ho : ∀ j, j ≠ k → rdE G h' j = rdE G h j) : (rdW G h).set k (ad G k, e) = rdW G h' := by
  apply List.ext_getElem?
  intro j
  by_cases hjk : j = k
  · subst hjk
    rw [List.getElem?_set_self (by unfold rdW; simpa using hk), rdW_get (by rw [hn]; exact hk), he]
  · rw [List.getElem?_set_ne (fun q => hjk q.symm)]
    by_cases hj : j < hN h
    · rw [rdW_get hj, rdW_get (by rw [hn]; exact hj), ho j hjk]
    · have l1 : (rdW G h).length = hN h := by unfold rdW; simp
      have l2 : (rdW G h').length = hN h := by unfold rdW; simp [hn]
      rw [List.getElem?_eq_none (by omega), List.getElem?_eq_none (by omega)]
theorem rdW_push {G : WG} {h h' : AH} {e : va_E} (hn : hN h' = hN h + 1) (he : rdE G h' (hN h) = e) (ho : ∀ j, j < hN h → rdE G h' j = rdE G h j) : rdW G h ++ [(ad G (hN h), e)] = rdW G h' := by
  unfold rdW
  rw [hn, List.range_succ, List.map_append]
  refine congr (congrArg _ ?_) ?_
  · apply List.map_congr_left
    intro a ha
    rw [ho a (List.mem_range.mp ha)]
  · simp [he]
theorem upn {α : Type} {f : Nat → α} {k j : Nat} {v : α} (h : j ≠ k) : va_up f k v j = f j := if_neg h
theorem ups {α : Type} {f : Nat → α} {k : Nat} {v : α} : va_up f k v k = v := if_pos rfl
theorem rdE_sA {G : WG} {h : AH} {o : Nat} {g : Nat → Int32} {j : Nat} (hj : j ≠ o) : rdE G (sA h o g) j = rdE G h j := by
  have e : hI (sA h o g) j = hI h j := upn hj
  unfold rdE
  rw [e]
  have e2 : ∀ ci, rdF G (sA h o g) j ci = rdF G h j ci := by
    intro ci
    funext i
    unfold rdF
    rw [e]
    rfl
  rw [e2]
  rfl
theorem rdE_sR {G : WG} {h : AH} {o i : Nat} {g : Option Nat} {j : Nat} (hj : j ≠ o) : rdE G (sR h o i g) j = rdE G h j := by
  have e : hR (sR h o i g) j = hR h j := upn hj
  unfold rdE
  rw [e]
  have e2 : ∀ ci, rdF G (sR h o i g) j ci = rdF G h j ci := by
    intro ci
    funext i
    unfold rdF
    rw [e]
    rfl
  rw [e2]
  rfl
theorem rdE_sL {G : WG} {h : AH} {o i : Nat} {g : Int64} {j : Nat} (hj : j ≠ o) : rdE G (sL h o i g) j = rdE G h j := by
  have e : hL (sL h o i g) j = hL h j := upn hj
  unfold rdE
  have e2 : ∀ ci, rdF G (sL h o i g) j ci = rdF G h j ci := by
    intro ci
    funext i
    unfold rdF
    rw [e]
    rfl
  rw [e2]
  rfl
theorem rdE_sN {G : WG} {h : AH} {t n : Nat} {j : Nat} (hj : j < hN h) : rdE G (sN h t n) j = rdE G h j := by
  have hne : j ≠ hN h := by omega
  have e1 : hI (sN h t n) j = hI h j := upn hne
  have e2 : hR (sN h t n) j = hR h j := upn hne
  have e3 : hL (sN h t n) j = hL h j := upn hne
  have e4 : hS (sN h t n) j = hS h j := upn hne
  unfold rdE
  have e5 : ∀ ci, rdF G (sN h t n) j ci = rdF G h j ci := by
    intro ci
    funext i
    unfold rdF
    rw [e1, e2, e3]
  rw [e1, e2, e4, e5]
end
section
/-! the world that every method of the claim stands in, and the judgement Rn: method M, at pc, with locals lv, stack st, heap h, comes to its end with post -/
def stK : List Nat := [35, 46, 51, 59, 90, 92, 94, 96]
def stT : List String := ["yard", "calm", "place", "news", "layer", "broody", "pullet", "china"]
def stL : List Nat := [4, 4, 5, 4, 5, 6, 6, 5]
def stB : List (List Int32) := [[121, 97, 114, 100], [99, 97, 108, 109], [112, 108, 97, 99, 101], [110, 101, 119, 115], [108, 97, 121, 101, 114], [98, 114, 111, 111, 100, 121], [112, 117, 108, 108, 101, 116], [99, 104, 105, 110, 97]]
def Wd (G : WG) (U : State) : Prop :=
  gS G ≤ U.heap.size ∧ va_K (gD G) vwCl (gT G) U ∧ gB G < gS G ∧ va_X (gB G) (gLn G) (gXs G) U U.heap ∧ vk_S 8 stL stB (gK G) (gV G) (gA G) U U.heap ∧ (∀ i : Nat, i < 8 → vk_R RX1 (stK.getD i 0) (stT.getD i "") (gK G i) U) ∧ (va_Z "java/lang/String" "COMPACT_STRINGS" "Z" (.int 1) (gA G) U U.heap ∧ va_Zq "jdk/internal/util/Preconditions" "SIOOBE_FORMATTER" "Ljava/util/function/BiFunction;" (gA G) U U.heap) ∧ va_AO RX3 U ∧ va_Nw (.methodLinkNest RX4 9 yX1_init RX4) U ∧ va_Nw (.methodLinkNest RX4 49 yX0_init RX4) U
theorem Wd.to {G : WG} {s U : State} {locs : List Loc} (h : Wd G s) (hW : s.WarmedH U.vm) (hS : va_S (gA G) s.heap U.heap locs) : Wd G U := by
  obtain ⟨h1, h2, h3, h4, h5, h6, h7, h8, h9, h10⟩ := h
  have hb : ¬ gA G (gB G) := Nat.not_le.mpr h3
  refine ⟨Nat.le_trans h1 hS.1, va_K.moved hW.alike h2, h3, (h4.moved hW.alike).kept (hS.2.1 _ (by omega) hb), (h5.moved hW.alike).kept hS.2.1, fun i hi => (h6 i hi).warm hW, ⟨(h7.1.moved hW.alike).kept hS.2.1, (h7.2.moved hW.alike).kept hS.2.1⟩, h8.moved hW.alike, va_Nw.warmM hW h9, va_Nw.warmM hW h10⟩
theorem Wd.blind {G : WG} {U : State} (g : JFrame) (mk : MethodId) (a : Array Value) (h : Wd G U) : Wd G (U.calling g mk a) := by
  obtain ⟨h1, h2, h3, h4, h5, h6, h7, h8, h9, h10⟩ := h
  exact ⟨h1, va_K.moved (u := U) (U := U.calling g mk a) (Vm.Alike.refl U.vm) h2, h3, h4.moved (u := U) (U := U.calling g mk a) (Vm.Alike.refl U.vm), h5.moved (u := U) (U := U.calling g mk a) (Vm.Alike.refl U.vm), fun i hi => (h6 i hi).same rfl, ⟨h7.1.moved (u := U) (U := U.calling g mk a) (Vm.Alike.refl U.vm), h7.2.moved (u := U) (U := U.calling g mk a) (Vm.Alike.refl U.vm)⟩, h8.moved (u := U) (U := U.calling g mk a) (Vm.Alike.refl U.vm), va_Nw.same rfl rfl h9, va_Nw.same rfl rfl h10⟩
/-- a method: name, code, locals, what it returns, its room -/
abbrev MD : Type := MethodName × ByteArray × Nat × Option FieldType × Room
abbrev mY (M : MD) : MethodName := M.1
abbrev mC (M : MD) : ByteArray := M.2.1
abbrev mL (M : MD) : Nat := M.2.2.1
abbrev mT (M : MD) : Option FieldType := M.2.2.2.1
abbrev mR (M : MD) : Room := M.2.2.2.2
abbrev mW (M : MD) : List Cond := Cond.code (mY M) (mC M) (mL M) (mT M) :: lw_g
def Cx (G : WG) (M : MD) (p : Program) (s : State) (m : MethodId) (args : Array Value) (meth : Method) (c : Code) : Prop :=
  p.tables.exec = Jvm.exec ∧ c.code = mC M ∧ meth.sig.returnType = mT M ∧ meth.locks = false ∧ c.maxLocals = mL M ∧ s.vm.findClass (mY M).cls = some m.cls ∧ (∀ w ∈ lw_g, w.before args s = true) ∧ Wd G s ∧ meth.name = (mY M).name
abbrev PO : Type := Option Int32 → AH → Prop
def xq (M : MD) (cu : Nat × Nat) : Prop := cu = ((mR M).cells, (mR M).slots) ∨ ((mY M).cls = RL ∧ cu.1 ≤ (mR M).cells ∧ cu.2 ≤ (mR M).slots)
def Rh (G : WG) (M : MD) (post : PO) (p : Program) (e : Env) (s : State) (m : MethodId) (args : Array Value) (below : List Frame) (meth : Method) (c : Code) (Q : State → Prop) : Prop :=
  (∀ (x : Int32) (ty : FieldType) (h : AH) (H : Heap) (locs : List Loc) (cu : Nat × Nat) (pc : Nat) (ls : Array Slot), mT M = some ty → narrow ty (.int x) = .int x → decode (mC M) pc = .ok (.ireturn, 1) → post (some x) h → Rep G h H → va_S (gA G) s.heap H locs → s.heap.size + cu.1 = gS G + hN h → xq M cu → W p (gl G) e (mR M) s m args below meth c H locs cu.1 cu.2 Q (F0 m pc ls [.int x])) ∧
  ∀ (h : AH) (H : Heap) (locs : List Loc) (cu : Nat × Nat) (pc : Nat) (ls : Array Slot), mT M = none → decode (mC M) pc = .ok (.return_, 1) → post none h → Rep G h H → va_S (gA G) s.heap H locs → s.heap.size + cu.1 = gS G + hN h → xq M cu → W p (gl G) e (mR M) s m args below meth c H locs cu.1 cu.2 Q (F0 m pc ls [])
def Rn (G : WG) (M : MD) (cu : Nat × Nat) (pc : Nat) (lv : List (Nat × Value)) (st : List Value) (h : AH) (post : PO) : Prop :=
  ∀ (p : Program) (e : Env) (s : State) (m : MethodId) (args : Array Value) (below : List Frame) (meth : Method) (c : Code) (H : Heap) (locs : List Loc) (Q : State → Prop) (ls : Array Slot), Cx G M p s m args meth c → Rh G M post p e s m args below meth c Q → Rep G h H → va_S (gA G) s.heap H locs → s.heap.size + cu.1 = gS G + hN h → lv_has ls (mL M) lv → W p (gl G) e (mR M) s m args below meth c H locs cu.1 cu.2 Q (F0 m pc ls st)
theorem Rep.size {G : WG} {M : MD} {h : AH} {p : Program} {e : Env} {s : State} {m : MethodId} {args : Array Value} {below : List Frame} {meth : Method} {c : Code} {H : Heap} {locs : List Loc} {a b : Nat} {T : State} (hR : Rep G h H) (hw : Wd G s) (hS : va_S (gA G) s.heap H locs) (hz : s.heap.size + a = gS G + hN h) (hT : T.heap = H) (X : Stand p (gl G) e (mR M) s m args below meth c T locs a b) : H.size = gS G + hN h := by
  have h1 : (T.setVm s.vm).heap.size ≤ s.heap.size + a := X.same.2.2.1
  have h2 : T.heap.size ≤ s.heap.size + a := h1
  rw [hT] at h2
  have h3 := hS.1
  have h4 := hw.1
  by_cases hn : hN h = 0
  · omega
  · have hk : hN h - 1 < hN h := by omega
    have h5 := (hR _ _ (rdW_get (G := G) hk)).lt
    have h6 : gS G + (hN h - 1) < H.size := h5
    omega
/-- a method's contract out of its walk -/
theorem met_i {G : WG} {M : MD} {ty : FieldType} {av : List Value} {h : AH} {post : PO} (hy : plainFor (mY M) = true ∧ (mY M).cls ≠ RL) (ht : mT M = some ty) (hlen : (lg_sl av).length ≤ mL M) (k : Rn G M (0, 0) 0 (lv_args 0 av) [] h post) :
    Met (gl G) (mY M) (mW M) (mR M) (va_Pc av (fun U => U.heap.size = gS G + hN h ∧ Rep G h U.heap ∧ Wd G U)) (va_Qi (fun r h' => post (some r) h' ∧ hN h' = hN h + (mR M).cells) (fun h' t => Rep G h' t.heap) (gA G)) (mR M).cells (mR M).slots (gA G) := by
  refine va_MetF (cc := mC M) (maxL := mL M) (ret := mT M) hy.1 rfl ?_
  intro p e s m args below meth c s₁ B hml hv
  obtain ⟨rfl, hz, hR, hWd⟩ := hv
  have hts : ∀ w ∈ lw_g, w.before av.toArray s = true := fun w hw => atoms_spec (ws := mW M) B.pre w (List.mem_cons_of_mem _ hw)
  have hl := lv_entry av (n := mL M) hlen
  rw [lg_entry_eq]
  have hlk := B.notSynchronized
  refine k p e s m _ below meth c s.heap [] _ _ ⟨B.exec, B.bytes, B.returns, hlk, hml, findClass_of_methodNamed B.named, hts, hWd, (name_of_methodNamed B.named B.method).1⟩ ⟨?_, ?_⟩ hR va_S.rf hz hl
  · intro x ty2 h2 H locs cu pc ls e1 e2 e3 e4 e5 e6 e7 e8
    rcases e8 with e8 | e8
    · subst e8
      exact W.zret B.exec B.bytes (B.returns.trans e1) e2 (fun t ht2 _ => ⟨⟨x, h2, rfl, ⟨e4, by have e7 : s.heap.size + (mR M).cells = gS G + hN h2 := e7; omega⟩, by show Rep G h2 t.heap; rw [ht2]; exact e5⟩, e6.F ht2⟩) e6.2.2 e3 hlk
    · exact absurd e8.1 hy.2
  · intro h2 H locs cu pc ls e1 e3 e4 e5 e6 e7 e8
    rw [ht] at e1
    cases e1
theorem met_v {G : WG} {M : MD} {av : List Value} {h : AH} {post : PO} (hy : plainFor (mY M) = true ∧ (mY M).cls ≠ RL) (ht : mT M = none) (hlen : (lg_sl av).length ≤ mL M) (k : Rn G M (0, 0) 0 (lv_args 0 av) [] h post) :
    Met (gl G) (mY M) (mW M) (mR M) (va_Pc av (fun U => U.heap.size = gS G + hN h ∧ Rep G h U.heap ∧ Wd G U)) (va_Qv (fun h' => post none h' ∧ hN h' = hN h + (mR M).cells) (fun h' t => Rep G h' t.heap) (gA G)) (mR M).cells (mR M).slots (gA G) := by
  refine va_MetF (cc := mC M) (maxL := mL M) (ret := mT M) hy.1 rfl ?_
  intro p e s m args below meth c s₁ B hml hv
  obtain ⟨rfl, hz, hR, hWd⟩ := hv
  have hts : ∀ w ∈ lw_g, w.before av.toArray s = true := fun w hw => atoms_spec (ws := mW M) B.pre w (List.mem_cons_of_mem _ hw)
  have hl := lv_entry av (n := mL M) hlen
  rw [lg_entry_eq]
  have hlk := B.notSynchronized
  refine k p e s m _ below meth c s.heap [] _ _ ⟨B.exec, B.bytes, B.returns, hlk, hml, findClass_of_methodNamed B.named, hts, hWd, (name_of_methodNamed B.named B.method).1⟩ ⟨?_, ?_⟩ hR va_S.rf hz hl
  · intro x ty2 h2 H locs cu pc ls e1 e2 e3 e4 e5 e6 e7 e8
    rw [ht] at e1
    cases e1
  · intro h2 H locs cu pc ls e1 e3 e4 e5 e6 e7 e8
    rcases e8 with e8 | e8
    · subst e8
      exact W.vret B.exec B.bytes (B.returns.trans e1) (fun t ht2 _ => ⟨⟨h2, rfl, ⟨e4, by have e7 : s.heap.size + (mR M).cells = gS G + hN h2 := e7; omega⟩, by show Rep G h2 t.heap; rw [ht2]; exact e5⟩, e6.F ht2⟩) e6.2.2 e3 hlk
    · exact absurd e8.1 hy.2
/-- locals: read, store (sorted) -/
def lvG : List (Nat × Value) → Nat → Option Value
  | [], _ => none
  | (j, w) :: t, i => if j = i then some w else lvG t i
def lvF1 (i : Nat) : Nat × Value → Bool := fun q => !(q.1 == i) && !(q.1 + 1 == i && q.2.category == 2)
def lvF2 (i : Nat) : Nat × Value → Bool := fun q => !(q.1 == i) && (!(q.1 == i + 1) && !(q.1 + 1 == i && q.2.category == 2))
def lvP : List (Nat × Value) → Nat → Value → List (Nat × Value)
  | [], i, v => [(i, v)]
  | (j, w) :: t, i, v => if i < j then (i, v) :: (j, w) :: t else (j, w) :: lvP t i v
theorem lvG_mem : ∀ {l : List (Nat × Value)} {i : Nat} {v : Value}, lvG l i = some v → (i, v) ∈ l
  | [], _, _, h => by simp [lvG] at h
  | (j, w) :: t, i, v, h => by
    unfold lvG at h
    by_cases e : j = i
    · rw [if_pos e] at h
      cases h
      subst e
      exact List.mem_cons_self
    · rw [if_neg e] at h
      exact List.mem_cons_of_mem _ (lvG_mem h)
theorem lvP_mem : ∀ {l : List (Nat × Value)} {i : Nat} {v : Value} {q : Nat × Value}, q ∈ lvP l i v → q ∈ (i, v) :: l
  | [], _, _, _, h => h
  | (j, w) :: t, i, v, q, h => by
    unfold lvP at h
    by_cases e : i < j
    · rw [if_pos e] at h
      exact h
    · rw [if_neg e] at h
      rcases List.mem_cons.mp h with h | h
      · subst h
        exact List.mem_cons_of_mem _ List.mem_cons_self
      · rcases List.mem_cons.mp (lvP_mem h) with h | h
        · subst h
          exact List.mem_cons_self
        · exact List.mem_cons_of_mem _ (List.mem_cons_of_mem _ h)
theorem lv_get {ls : Array Slot} {n : Nat} {l : List (Nat × Value)} {i : Nat} {v : Value} (h : lv_has ls n l) (hg : lvG l i = some v) : ls[i]? = some (.val v) := h.2.2 (i, v) (lvG_mem hg)
theorem lv_put {ls : Array Slot} {n : Nat} {l : List (Nat × Value)} {i : Nat} {v : Value} (h : lv_has ls n ((i, v) :: l)) : lv_has ls n (lvP l i v) := ⟨h.1, h.2.1, fun q hq => h.2.2 q (lvP_mem hq)⟩
section RN
variable {G : WG} {M : MD} {cu : Nat × Nat} {pc : Nat} {lv lv' : List (Nat × Value)} {st : List Value} {h : AH} {post : PO}
theorem rn_iret {x : Int32} (ty : FieldType) (hd : decode (mC M) pc = .ok (.ireturn, 1)) (ht : mT M = some ty) (hn : narrow ty (.int x) = .int x) (hx : xq M cu) (k : post (some x) h) : Rn G M cu pc lv [.int x] h post := by
  intro p e s m args below meth c H locs Q ls C Y hR hS hz hl
  exact Y.1 x ty h H locs cu pc ls ht hn hd k hR hS hz hx
theorem rn_vret (hd : decode (mC M) pc = .ok (.return_, 1)) (ht : mT M = none) (hx : xq M cu) (k : post none h) : Rn G M cu pc lv [] h post := by
  intro p e s m args below meth c H locs Q ls C Y hR hS hz hl
  exact Y.2 h H locs cu pc ls ht hd k hR hS hz hx
theorem rn_mono {post' : PO} (hp : ∀ r h', post' r h' → post r h') (k : Rn G M cu pc lv st h post') : Rn G M cu pc lv st h post := by
  intro p e s m args below meth c H locs Q ls C Y hR hS hz hl
  exact k p e s m args below meth c H locs Q ls C ⟨fun x ty h2 H locs cu pc ls a1 a2 a3 a4 => Y.1 x ty h2 H locs cu pc ls a1 a2 a3 (hp _ _ a4), fun h2 H locs cu pc ls a1 a3 a4 => Y.2 h2 H locs cu pc ls a1 a3 (hp _ _ a4)⟩ hR hS hz hl
theorem rn_lv (hl : ∀ q ∈ lv', q ∈ lv) (k : Rn G M cu pc lv' st h post) : Rn G M cu pc lv st h post := by
  intro p e s m args below meth c H locs Q ls C Y hR hS hz hlv
  exact k p e s m args below meth c H locs Q ls C Y hR hS hz ⟨hlv.1, hlv.2.1, fun q hq => hlv.2.2 q (hl q hq)⟩

theorem rn_iconst (q : Nat) {n : Int} {v : Int32} (hd : decode (mC M) pc = .ok (.iconst n, 1)) (hq : pc + 1 = q) (hv : Int32.ofInt n = v) (k : Rn G M cu q lv (.int v :: st) h post) : Rn G M cu pc lv st h post := by
  subst hq
  intro p e s m args below meth c H locs Q ls C Y hR hS hz hl
  exact lv_iconst C.1 C.2.1 hd hv (k p e s m args below meth c H locs Q ls C Y hR hS hz hl)
theorem rn_bipush (q : Nat) {n : Int} {v : Int32} (hd : decode (mC M) pc = .ok (.bipush n, 2)) (hq : pc + 2 = q) (hv : (Int8.ofInt n).toInt32 = v) (k : Rn G M cu q lv (.int v :: st) h post) : Rn G M cu pc lv st h post := by
  subst hq
  intro p e s m args below meth c H locs Q ls C Y hR hS hz hl
  exact lv_bipush C.1 C.2.1 hd hv (k p e s m args below meth c H locs Q ls C Y hR hS hz hl)
theorem rn_sipush (q : Nat) {n : Int} {v : Int32} (hd : decode (mC M) pc = .ok (.sipush n, 3)) (hq : pc + 3 = q) (hv : (Int16.ofInt n).toInt32 = v) (k : Rn G M cu q lv (.int v :: st) h post) : Rn G M cu pc lv st h post := by
  subst hq
  intro p e s m args below meth c H locs Q ls C Y hR hS hz hl
  exact lv_sipush C.1 C.2.1 hd hv (k p e s m args below meth c H locs Q ls C Y hR hS hz hl)
theorem rn_lconst (q : Nat) {n : Fin 2} {v : Int64} (hd : decode (mC M) pc = .ok (.lconst n, 1)) (hq : pc + 1 = q) (hv : Int64.ofNat (n : Nat) = v) (k : Rn G M cu q lv (.long v :: st) h post) : Rn G M cu pc lv st h post := by
  subst hq
  intro p e s m args below meth c H locs Q ls C Y hR hS hz hl
  exact lv_lconst C.1 C.2.1 hd hv (k p e s m args below meth c H locs Q ls C Y hR hS hz hl)
theorem rn_iload_n (q : Nat) {j : Fin 4} {x : Int32} (hd : decode (mC M) pc = .ok (.iload_n j, 1)) (hq : pc + 1 = q) (hg : lvG lv j = some (.int x)) (k : Rn G M cu q lv (.int x :: st) h post) : Rn G M cu pc lv st h post := by
  subst hq
  intro p e s m args below meth c H locs Q ls C Y hR hS hz hl
  exact lv_iload_n C.1 C.2.1 hd rfl (lv_get hl hg) (k p e s m args below meth c H locs Q ls C Y hR hS hz hl)
theorem rn_iload (q : Nat) {j : Nat} {x : Int32} (hd : decode (mC M) pc = .ok (.iload j, 2)) (hq : pc + 2 = q) (hg : lvG lv j = some (.int x)) (k : Rn G M cu q lv (.int x :: st) h post) : Rn G M cu pc lv st h post := by
  subst hq
  intro p e s m args below meth c H locs Q ls C Y hR hS hz hl
  exact lv_iload C.1 C.2.1 hd (lv_get hl hg) (k p e s m args below meth c H locs Q ls C Y hR hS hz hl)
theorem rn_lload_n (q : Nat) {j : Fin 4} {x : Int64} (hd : decode (mC M) pc = .ok (.lload_n j, 1)) (hq : pc + 1 = q) (hg : lvG lv j = some (.long x)) (k : Rn G M cu q lv (.long x :: st) h post) : Rn G M cu pc lv st h post := by
  subst hq
  intro p e s m args below meth c H locs Q ls C Y hR hS hz hl
  exact lv_lload_n C.1 C.2.1 hd rfl (lv_get hl hg) (k p e s m args below meth c H locs Q ls C Y hR hS hz hl)
theorem rn_lload (q : Nat) {j : Nat} {x : Int64} (hd : decode (mC M) pc = .ok (.lload j, 2)) (hq : pc + 2 = q) (hg : lvG lv j = some (.long x)) (k : Rn G M cu q lv (.long x :: st) h post) : Rn G M cu pc lv st h post := by
  subst hq
  intro p e s m args below meth c H locs Q ls C Y hR hS hz hl
  exact lv_lload C.1 C.2.1 hd (lv_get hl hg) (k p e s m args below meth c H locs Q ls C Y hR hS hz hl)
theorem rn_aload_n (q : Nat) {j : Fin 4} {x : Nat} (hd : decode (mC M) pc = .ok (.aload_n j, 1)) (hq : pc + 1 = q) (hg : lvG lv j = some (.ref x)) (k : Rn G M cu q lv (.ref x :: st) h post) : Rn G M cu pc lv st h post := by
  subst hq
  intro p e s m args below meth c H locs Q ls C Y hR hS hz hl
  exact lv_aload_n C.1 C.2.1 hd rfl (lv_get hl hg) (k p e s m args below meth c H locs Q ls C Y hR hS hz hl)
theorem rn_aload (q : Nat) {j : Nat} {x : Nat} (hd : decode (mC M) pc = .ok (.aload j, 2)) (hq : pc + 2 = q) (hg : lvG lv j = some (.ref x)) (k : Rn G M cu q lv (.ref x :: st) h post) : Rn G M cu pc lv st h post := by
  subst hq
  intro p e s m args below meth c H locs Q ls C Y hR hS hz hl
  exact lv_aload C.1 C.2.1 hd (lv_get hl hg) (k p e s m args below meth c H locs Q ls C Y hR hS hz hl)
theorem rn_istore_n (q : Nat) {j : Fin 4} {x : Int32} (hd : decode (mC M) pc = .ok (.istore_n j, 1)) (hq : pc + 1 = q) (hn : (j : Nat) < mL M) (hv : lvP (lv.filter (lvF1 j)) j (.int x) = lv') (k : Rn G M cu q lv' st h post) : Rn G M cu pc lv (.int x :: st) h post := by
  subst hq
  subst hv
  intro p e s m args below meth c H locs Q ls C Y hR hS hz hl
  exact lv_istore_n C.1 C.2.1 hd rfl hl hn rfl (fun ls hl => k p e s m args below meth c H locs Q ls C Y hR hS hz (lv_put hl))
theorem rn_istore (q : Nat) {j : Nat} {x : Int32} (hd : decode (mC M) pc = .ok (.istore j, 2)) (hq : pc + 2 = q) (hn : j < mL M) (hv : lvP (lv.filter (lvF1 j)) j (.int x) = lv') (k : Rn G M cu q lv' st h post) : Rn G M cu pc lv (.int x :: st) h post := by
  subst hq
  subst hv
  intro p e s m args below meth c H locs Q ls C Y hR hS hz hl
  exact lv_istore C.1 C.2.1 hd hl hn rfl (fun ls hl => k p e s m args below meth c H locs Q ls C Y hR hS hz (lv_put hl))
theorem rn_astore_n (q : Nat) {j : Fin 4} {x : Nat} (hd : decode (mC M) pc = .ok (.astore_n j, 1)) (hq : pc + 1 = q) (hn : (j : Nat) < mL M) (hv : lvP (lv.filter (lvF1 j)) j (.ref x) = lv') (k : Rn G M cu q lv' st h post) : Rn G M cu pc lv (.ref x :: st) h post := by
  subst hq
  subst hv
  intro p e s m args below meth c H locs Q ls C Y hR hS hz hl
  exact lv_astore_n C.1 C.2.1 hd rfl hl hn rfl (fun ls hl => k p e s m args below meth c H locs Q ls C Y hR hS hz (lv_put hl))
theorem rn_astore (q : Nat) {j : Nat} {x : Nat} (hd : decode (mC M) pc = .ok (.astore j, 2)) (hq : pc + 2 = q) (hn : j < mL M) (hv : lvP (lv.filter (lvF1 j)) j (.ref x) = lv') (k : Rn G M cu q lv' st h post) : Rn G M cu pc lv (.ref x :: st) h post := by
  subst hq
  subst hv
  intro p e s m args below meth c H locs Q ls C Y hR hS hz hl
  exact lv_astore C.1 C.2.1 hd hl hn rfl (fun ls hl => k p e s m args below meth c H locs Q ls C Y hR hS hz (lv_put hl))
theorem rn_lstore_n (q : Nat) {j : Fin 4} {x : Int64} (hd : decode (mC M) pc = .ok (.lstore_n j, 1)) (hq : pc + 1 = q) (hn : (j : Nat) + 1 < mL M) (hv : lvP (lv.filter (lvF2 j)) j (.long x) = lv') (k : Rn G M cu q lv' st h post) : Rn G M cu pc lv (.long x :: st) h post := by
  subst hq
  subst hv
  intro p e s m args below meth c H locs Q ls C Y hR hS hz hl
  exact lv_lstore_n C.1 C.2.1 hd rfl hl hn rfl (fun ls hl => k p e s m args below meth c H locs Q ls C Y hR hS hz (lv_put hl))
theorem rn_lstore (q : Nat) {j : Nat} {x : Int64} (hd : decode (mC M) pc = .ok (.lstore j, 2)) (hq : pc + 2 = q) (hn : j + 1 < mL M) (hv : lvP (lv.filter (lvF2 j)) j (.long x) = lv') (k : Rn G M cu q lv' st h post) : Rn G M cu pc lv (.long x :: st) h post := by
  subst hq
  subst hv
  intro p e s m args below meth c H locs Q ls C Y hR hS hz hl
  exact lv_lstore C.1 C.2.1 hd hl hn rfl (fun ls hl => k p e s m args below meth c H locs Q ls C Y hR hS hz (lv_put hl))
theorem rn_iinc (q : Nat) {j : Nat} {n : Int} {x v : Int32} (hd : decode (mC M) pc = .ok (.iinc j n, 3)) (hq : pc + 3 = q) (hn : j < mL M) (hg : lvG lv j = some (.int x)) (hx : x + Int32.ofInt n = v) (hv : lvP (lv.filter (lvF1 j)) j (.int v) = lv') (k : Rn G M cu q lv' st h post) : Rn G M cu pc lv st h post := by
  subst hq
  subst hv
  intro p e s m args below meth c H locs Q ls C Y hR hS hz hl
  obtain ⟨i, hi⟩ := List.getElem?_of_mem (lvG_mem hg)
  exact lv_iinc C.1 C.2.1 hd hl hi hx hn rfl (fun ls hl => k p e s m args below meth c H locs Q ls C Y hR hS hz (lv_put hl))
theorem rn_iadd (q : Nat) {x y : Int32} (hd : decode (mC M) pc = .ok (.iadd, 1)) (hq : pc + 1 = q) (k : Rn G M cu q lv (.int (x + y) :: st) h post) : Rn G M cu pc lv (.int y :: .int x :: st) h post := by
  subst hq
  intro p e s m args below meth c H locs Q ls C Y hR hS hz hl
  exact lv_iadd C.1 C.2.1 hd (k p e s m args below meth c H locs Q ls C Y hR hS hz hl)
theorem rn_isub (q : Nat) {x y : Int32} (hd : decode (mC M) pc = .ok (.isub, 1)) (hq : pc + 1 = q) (k : Rn G M cu q lv (.int (x - y) :: st) h post) : Rn G M cu pc lv (.int y :: .int x :: st) h post := by
  subst hq
  intro p e s m args below meth c H locs Q ls C Y hR hS hz hl
  exact lv_isub C.1 C.2.1 hd (k p e s m args below meth c H locs Q ls C Y hR hS hz hl)
theorem rn_imul (q : Nat) {x y : Int32} (hd : decode (mC M) pc = .ok (.imul, 1)) (hq : pc + 1 = q) (k : Rn G M cu q lv (.int (x * y) :: st) h post) : Rn G M cu pc lv (.int y :: .int x :: st) h post := by
  subst hq
  intro p e s m args below meth c H locs Q ls C Y hR hS hz hl
  exact lv_imul C.1 C.2.1 hd (k p e s m args below meth c H locs Q ls C Y hR hS hz hl)
theorem rn_iand (q : Nat) {x y : Int32} (hd : decode (mC M) pc = .ok (.iand, 1)) (hq : pc + 1 = q) (k : Rn G M cu q lv (.int (x &&& y) :: st) h post) : Rn G M cu pc lv (.int y :: .int x :: st) h post := by
  subst hq
  intro p e s m args below meth c H locs Q ls C Y hR hS hz hl
  exact lv_iand C.1 C.2.1 hd (k p e s m args below meth c H locs Q ls C Y hR hS hz hl)
theorem rn_ior (q : Nat) {x y : Int32} (hd : decode (mC M) pc = .ok (.ior, 1)) (hq : pc + 1 = q) (k : Rn G M cu q lv (.int (x ||| y) :: st) h post) : Rn G M cu pc lv (.int y :: .int x :: st) h post := by
  subst hq
  intro p e s m args below meth c H locs Q ls C Y hR hS hz hl
  exact lv_ior C.1 C.2.1 hd (k p e s m args below meth c H locs Q ls C Y hR hS hz hl)
theorem rn_ixor (q : Nat) {x y : Int32} (hd : decode (mC M) pc = .ok (.ixor, 1)) (hq : pc + 1 = q) (k : Rn G M cu q lv (.int (x ^^^ y) :: st) h post) : Rn G M cu pc lv (.int y :: .int x :: st) h post := by
  subst hq
  intro p e s m args below meth c H locs Q ls C Y hR hS hz hl
  exact lv_ixor C.1 C.2.1 hd (k p e s m args below meth c H locs Q ls C Y hR hS hz hl)
theorem rn_ishl (q : Nat) {x y : Int32} (hd : decode (mC M) pc = .ok (.ishl, 1)) (hq : pc + 1 = q) (k : Rn G M cu q lv (.int (x <<< (y &&& 31)) :: st) h post) : Rn G M cu pc lv (.int y :: .int x :: st) h post := by
  subst hq
  intro p e s m args below meth c H locs Q ls C Y hR hS hz hl
  exact lv_ishl C.1 C.2.1 hd (k p e s m args below meth c H locs Q ls C Y hR hS hz hl)
theorem rn_ishr (q : Nat) {x y : Int32} (hd : decode (mC M) pc = .ok (.ishr, 1)) (hq : pc + 1 = q) (k : Rn G M cu q lv (.int (x >>> (y &&& 31)) :: st) h post) : Rn G M cu pc lv (.int y :: .int x :: st) h post := by
  subst hq
  intro p e s m args below meth c H locs Q ls C Y hR hS hz hl
  exact lv_ishr C.1 C.2.1 hd (k p e s m args below meth c H locs Q ls C Y hR hS hz hl)
theorem rn_idiv (q : Nat) {x y : Int32} (hd : decode (mC M) pc = .ok (.idiv, 1)) (hq : pc + 1 = q) (hne : ¬ y = 0) (k : Rn G M cu q lv (.int (x / y) :: st) h post) : Rn G M cu pc lv (.int y :: .int x :: st) h post := by
  subst hq
  intro p e s m args below meth c H locs Q ls C Y hR hS hz hl
  exact lv_idiv C.1 C.2.1 hd hne (k p e s m args below meth c H locs Q ls C Y hR hS hz hl)
theorem rn_irem (q : Nat) {x y : Int32} (hd : decode (mC M) pc = .ok (.irem, 1)) (hq : pc + 1 = q) (hne : ¬ y = 0) (k : Rn G M cu q lv (.int (x - x / y * y) :: st) h post) : Rn G M cu pc lv (.int y :: .int x :: st) h post := by
  subst hq
  intro p e s m args below meth c H locs Q ls C Y hR hS hz hl
  exact lv_irem C.1 C.2.1 hd hne (k p e s m args below meth c H locs Q ls C Y hR hS hz hl)
theorem rn_ladd (q : Nat) {x y : Int64} (hd : decode (mC M) pc = .ok (.ladd, 1)) (hq : pc + 1 = q) (k : Rn G M cu q lv (.long (x + y) :: st) h post) : Rn G M cu pc lv (.long y :: .long x :: st) h post := by
  subst hq
  intro p e s m args below meth c H locs Q ls C Y hR hS hz hl
  exact lv_ladd C.1 C.2.1 hd (k p e s m args below meth c H locs Q ls C Y hR hS hz hl)
theorem rn_lmul (q : Nat) {x y : Int64} (hd : decode (mC M) pc = .ok (.lmul, 1)) (hq : pc + 1 = q) (k : Rn G M cu q lv (.long (x * y) :: st) h post) : Rn G M cu pc lv (.long y :: .long x :: st) h post := by
  subst hq
  intro p e s m args below meth c H locs Q ls C Y hR hS hz hl
  exact lv_lmul C.1 C.2.1 hd (k p e s m args below meth c H locs Q ls C Y hR hS hz hl)
theorem rn_ldiv (q : Nat) {x y : Int64} (hd : decode (mC M) pc = .ok (.ldiv, 1)) (hq : pc + 1 = q) (hne : ¬ y = 0) (k : Rn G M cu q lv (.long (x / y) :: st) h post) : Rn G M cu pc lv (.long y :: .long x :: st) h post := by
  subst hq
  intro p e s m args below meth c H locs Q ls C Y hR hS hz hl
  exact lv_ldiv C.1 C.2.1 hd hne (k p e s m args below meth c H locs Q ls C Y hR hS hz hl)
theorem rn_lrem (q : Nat) {x y : Int64} (hd : decode (mC M) pc = .ok (.lrem, 1)) (hq : pc + 1 = q) (hne : ¬ y = 0) (k : Rn G M cu q lv (.long (x - x / y * y) :: st) h post) : Rn G M cu pc lv (.long y :: .long x :: st) h post := by
  subst hq
  intro p e s m args below meth c H locs Q ls C Y hR hS hz hl
  exact lv_lrem C.1 C.2.1 hd hne (k p e s m args below meth c H locs Q ls C Y hR hS hz hl)
theorem rn_i2l (q : Nat) {x : Int32} (hd : decode (mC M) pc = .ok (.i2l, 1)) (hq : pc + 1 = q) (k : Rn G M cu q lv (.long x.toInt64 :: st) h post) : Rn G M cu pc lv (.int x :: st) h post := by
  subst hq
  intro p e s m args below meth c H locs Q ls C Y hR hS hz hl
  exact lv_i2l C.1 C.2.1 hd rfl (k p e s m args below meth c H locs Q ls C Y hR hS hz hl)
theorem rn_l2i (q : Nat) {x : Int64} (hd : decode (mC M) pc = .ok (.l2i, 1)) (hq : pc + 1 = q) (k : Rn G M cu q lv (.int x.toInt32 :: st) h post) : Rn G M cu pc lv (.long x :: st) h post := by
  subst hq
  intro p e s m args below meth c H locs Q ls C Y hR hS hz hl
  exact lv_l2i C.1 C.2.1 hd rfl (k p e s m args below meth c H locs Q ls C Y hR hS hz hl)
theorem rn_i2c (q : Nat) {x : Int32} (hd : decode (mC M) pc = .ok (.i2c, 1)) (hq : pc + 1 = q) (k : Rn G M cu q lv (.int (x.toUInt32 % 65536).toInt32 :: st) h post) : Rn G M cu pc lv (.int x :: st) h post := by
  subst hq
  intro p e s m args below meth c H locs Q ls C Y hR hS hz hl
  exact lv_i2c C.1 C.2.1 hd rfl (k p e s m args below meth c H locs Q ls C Y hR hS hz hl)
theorem rn_pop (q : Nat) {a : Value} (hd : decode (mC M) pc = .ok (.pop, 1)) (hq : pc + 1 = q) (ha : a.category = 1) (k : Rn G M cu q lv st h post) : Rn G M cu pc lv (a :: st) h post := by
  subst hq
  intro p e s m args below meth c H locs Q ls C Y hR hS hz hl
  exact lv_pop C.1 C.2.1 hd ha (k p e s m args below meth c H locs Q ls C Y hR hS hz hl)
theorem rn_dup (q : Nat) {a : Value} (hd : decode (mC M) pc = .ok (.dup, 1)) (hq : pc + 1 = q) (ha : a.category = 1) (k : Rn G M cu q lv (a :: a :: st) h post) : Rn G M cu pc lv (a :: st) h post := by
  subst hq
  intro p e s m args below meth c H locs Q ls C Y hR hS hz hl
  exact lv_dup C.1 C.2.1 hd ha (k p e s m args below meth c H locs Q ls C Y hR hS hz hl)
theorem rn_dup2 (q : Nat) {a b : Value} (hd : decode (mC M) pc = .ok (.dup2, 1)) (hq : pc + 1 = q) (ha : a.category = 1) (hb : b.category = 1) (k : Rn G M cu q lv (a :: b :: a :: b :: st) h post) : Rn G M cu pc lv (a :: b :: st) h post := by
  subst hq
  intro p e s m args below meth c H locs Q ls C Y hR hS hz hl
  exact lv_dup2_11 C.1 C.2.1 hd ha hb (k p e s m args below meth c H locs Q ls C Y hR hS hz hl)
theorem rn_if_eq (t q : Nat) {x : Int32} {off : Int} (hd : decode (mC M) pc = .ok (.ifCond .eq off, 3)) (ht : (pc : Int) + off = (t : Int)) (hq : pc + 3 = q) (kt : x = 0 → Rn G M cu t lv st h post) (kf : ¬ x = 0 → Rn G M cu q lv st h post) : Rn G M cu pc lv (.int x :: st) h post := by
  subst hq
  intro p e s m args below meth c H locs Q ls C Y hR hS hz hl
  exact lv_if_eq C.1 C.2.1 hd ht (fun z => kt z p e s m args below meth c H locs Q ls C Y hR hS hz hl) (fun z => kf z p e s m args below meth c H locs Q ls C Y hR hS hz hl)
theorem rn_icmp_eq (t q : Nat) {x y : Int32} {off : Int} (hd : decode (mC M) pc = .ok (.if_icmp .eq off, 3)) (ht : (pc : Int) + off = (t : Int)) (hq : pc + 3 = q) (kt : x = y → Rn G M cu t lv st h post) (kf : ¬ x = y → Rn G M cu q lv st h post) : Rn G M cu pc lv (.int y :: .int x :: st) h post := by
  subst hq
  intro p e s m args below meth c H locs Q ls C Y hR hS hz hl
  exact lv_icmp_eq C.1 C.2.1 hd ht (fun z => kt z p e s m args below meth c H locs Q ls C Y hR hS hz hl) (fun z => kf z p e s m args below meth c H locs Q ls C Y hR hS hz hl)
theorem rn_if_ne (t q : Nat) {x : Int32} {off : Int} (hd : decode (mC M) pc = .ok (.ifCond .ne off, 3)) (ht : (pc : Int) + off = (t : Int)) (hq : pc + 3 = q) (kt : ¬ x = 0 → Rn G M cu t lv st h post) (kf : x = 0 → Rn G M cu q lv st h post) : Rn G M cu pc lv (.int x :: st) h post := by
  subst hq
  intro p e s m args below meth c H locs Q ls C Y hR hS hz hl
  exact lv_if_ne C.1 C.2.1 hd ht (fun z => kt z p e s m args below meth c H locs Q ls C Y hR hS hz hl) (fun z => kf z p e s m args below meth c H locs Q ls C Y hR hS hz hl)
theorem rn_icmp_ne (t q : Nat) {x y : Int32} {off : Int} (hd : decode (mC M) pc = .ok (.if_icmp .ne off, 3)) (ht : (pc : Int) + off = (t : Int)) (hq : pc + 3 = q) (kt : ¬ x = y → Rn G M cu t lv st h post) (kf : x = y → Rn G M cu q lv st h post) : Rn G M cu pc lv (.int y :: .int x :: st) h post := by
  subst hq
  intro p e s m args below meth c H locs Q ls C Y hR hS hz hl
  exact lv_icmp_ne C.1 C.2.1 hd ht (fun z => kt z p e s m args below meth c H locs Q ls C Y hR hS hz hl) (fun z => kf z p e s m args below meth c H locs Q ls C Y hR hS hz hl)
theorem rn_if_lt (t q : Nat) {x : Int32} {off : Int} (hd : decode (mC M) pc = .ok (.ifCond .lt off, 3)) (ht : (pc : Int) + off = (t : Int)) (hq : pc + 3 = q) (kt : x < 0 → Rn G M cu t lv st h post) (kf : ¬ x < 0 → Rn G M cu q lv st h post) : Rn G M cu pc lv (.int x :: st) h post := by
  subst hq
  intro p e s m args below meth c H locs Q ls C Y hR hS hz hl
  exact lv_if_lt C.1 C.2.1 hd ht (fun z => kt z p e s m args below meth c H locs Q ls C Y hR hS hz hl) (fun z => kf z p e s m args below meth c H locs Q ls C Y hR hS hz hl)
theorem rn_icmp_lt (t q : Nat) {x y : Int32} {off : Int} (hd : decode (mC M) pc = .ok (.if_icmp .lt off, 3)) (ht : (pc : Int) + off = (t : Int)) (hq : pc + 3 = q) (kt : x < y → Rn G M cu t lv st h post) (kf : ¬ x < y → Rn G M cu q lv st h post) : Rn G M cu pc lv (.int y :: .int x :: st) h post := by
  subst hq
  intro p e s m args below meth c H locs Q ls C Y hR hS hz hl
  exact lv_icmp_lt C.1 C.2.1 hd ht (fun z => kt z p e s m args below meth c H locs Q ls C Y hR hS hz hl) (fun z => kf z p e s m args below meth c H locs Q ls C Y hR hS hz hl)
theorem rn_if_ge (t q : Nat) {x : Int32} {off : Int} (hd : decode (mC M) pc = .ok (.ifCond .ge off, 3)) (ht : (pc : Int) + off = (t : Int)) (hq : pc + 3 = q) (kt : 0 ≤ x → Rn G M cu t lv st h post) (kf : ¬ 0 ≤ x → Rn G M cu q lv st h post) : Rn G M cu pc lv (.int x :: st) h post := by
  subst hq
  intro p e s m args below meth c H locs Q ls C Y hR hS hz hl
  exact lv_if_ge C.1 C.2.1 hd ht (fun z => kt z p e s m args below meth c H locs Q ls C Y hR hS hz hl) (fun z => kf z p e s m args below meth c H locs Q ls C Y hR hS hz hl)
theorem rn_icmp_ge (t q : Nat) {x y : Int32} {off : Int} (hd : decode (mC M) pc = .ok (.if_icmp .ge off, 3)) (ht : (pc : Int) + off = (t : Int)) (hq : pc + 3 = q) (kt : y ≤ x → Rn G M cu t lv st h post) (kf : ¬ y ≤ x → Rn G M cu q lv st h post) : Rn G M cu pc lv (.int y :: .int x :: st) h post := by
  subst hq
  intro p e s m args below meth c H locs Q ls C Y hR hS hz hl
  exact lv_icmp_ge C.1 C.2.1 hd ht (fun z => kt z p e s m args below meth c H locs Q ls C Y hR hS hz hl) (fun z => kf z p e s m args below meth c H locs Q ls C Y hR hS hz hl)
theorem rn_if_gt (t q : Nat) {x : Int32} {off : Int} (hd : decode (mC M) pc = .ok (.ifCond .gt off, 3)) (ht : (pc : Int) + off = (t : Int)) (hq : pc + 3 = q) (kt : 0 < x → Rn G M cu t lv st h post) (kf : ¬ 0 < x → Rn G M cu q lv st h post) : Rn G M cu pc lv (.int x :: st) h post := by
  subst hq
  intro p e s m args below meth c H locs Q ls C Y hR hS hz hl
  exact lv_if_gt C.1 C.2.1 hd ht (fun z => kt z p e s m args below meth c H locs Q ls C Y hR hS hz hl) (fun z => kf z p e s m args below meth c H locs Q ls C Y hR hS hz hl)
theorem rn_icmp_gt (t q : Nat) {x y : Int32} {off : Int} (hd : decode (mC M) pc = .ok (.if_icmp .gt off, 3)) (ht : (pc : Int) + off = (t : Int)) (hq : pc + 3 = q) (kt : y < x → Rn G M cu t lv st h post) (kf : ¬ y < x → Rn G M cu q lv st h post) : Rn G M cu pc lv (.int y :: .int x :: st) h post := by
  subst hq
  intro p e s m args below meth c H locs Q ls C Y hR hS hz hl
  exact lv_icmp_gt C.1 C.2.1 hd ht (fun z => kt z p e s m args below meth c H locs Q ls C Y hR hS hz hl) (fun z => kf z p e s m args below meth c H locs Q ls C Y hR hS hz hl)
theorem rn_if_le (t q : Nat) {x : Int32} {off : Int} (hd : decode (mC M) pc = .ok (.ifCond .le off, 3)) (ht : (pc : Int) + off = (t : Int)) (hq : pc + 3 = q) (kt : x ≤ 0 → Rn G M cu t lv st h post) (kf : ¬ x ≤ 0 → Rn G M cu q lv st h post) : Rn G M cu pc lv (.int x :: st) h post := by
  subst hq
  intro p e s m args below meth c H locs Q ls C Y hR hS hz hl
  exact lv_if_le C.1 C.2.1 hd ht (fun z => kt z p e s m args below meth c H locs Q ls C Y hR hS hz hl) (fun z => kf z p e s m args below meth c H locs Q ls C Y hR hS hz hl)
theorem rn_icmp_le (t q : Nat) {x y : Int32} {off : Int} (hd : decode (mC M) pc = .ok (.if_icmp .le off, 3)) (ht : (pc : Int) + off = (t : Int)) (hq : pc + 3 = q) (kt : x ≤ y → Rn G M cu t lv st h post) (kf : ¬ x ≤ y → Rn G M cu q lv st h post) : Rn G M cu pc lv (.int y :: .int x :: st) h post := by
  subst hq
  intro p e s m args below meth c H locs Q ls C Y hR hS hz hl
  exact lv_icmp_le C.1 C.2.1 hd ht (fun z => kt z p e s m args below meth c H locs Q ls C Y hR hS hz hl) (fun z => kf z p e s m args below meth c H locs Q ls C Y hR hS hz hl)
theorem rn_goto (t : Nat) {off : Int} (hd : decode (mC M) pc = .ok (.goto off, 3)) (ht : (pc : Int) + off = (t : Int)) (k : Rn G M cu t lv st h post) : Rn G M cu pc lv st h post := by
  intro p e s m args below meth c H locs Q ls C Y hR hS hz hl
  exact lv_goto C.1 C.2.1 hd ht (k p e s m args below meth c H locs Q ls C Y hR hS hz hl)
theorem rn_tabOut (t : Nat) {dflt lo hi : Int} {offs : Array Int} {len : Nat} {x : Int32} (hd : decode (mC M) pc = .ok (.tableswitch dflt lo hi offs, len)) (hx : x.toInt < lo ∨ hi < x.toInt) (ht : (pc : Int) + dflt = (t : Int)) (k : Rn G M cu t lv st h post) : Rn G M cu pc lv (.int x :: st) h post := by
  intro p e s m args below meth c H locs Q ls C Y hR hS hz hl
  exact lv_tableOut C.1 C.2.1 hd hx ht (k p e s m args below meth c H locs Q ls C Y hR hS hz hl)
theorem rn_tabIn (t : Nat) {dflt lo hi : Int} {offs : Array Int} {len : Nat} {x : Int32} {off : Int} (hd : decode (mC M) pc = .ok (.tableswitch dflt lo hi offs, len)) (h1 : ¬ x.toInt < lo) (h2 : ¬ hi < x.toInt) (ho : offs[(x.toInt - lo).toNat]? = some off) (ht : (pc : Int) + off = (t : Int)) (k : Rn G M cu t lv st h post) : Rn G M cu pc lv (.int x :: st) h post := by
  intro p e s m args below meth c H locs Q ls C Y hR hS hz hl
  exact lv_tableIn C.1 C.2.1 hd h1 h2 ho ht (k p e s m args below meth c H locs Q ls C Y hR hS hz hl)
theorem rn_ldc (q : Nat) {idx : Nat} {v : Int32} (hd : decode (mC M) pc = .ok (.ldc idx, 2)) (hq : pc + 2 = q) (hw : Cond.constant (mY M).cls idx v ∈ lw_g) (k : Rn G M cu q lv (.int v :: st) h post) : Rn G M cu pc lv st h post := by
  subst hq
  intro p e s m args below meth c H locs Q ls C Y hR hS hz hl
  exact lv_ldc C.1 C.2.1 C.2.2.2.2.2.1 (C.2.2.2.2.2.2.1 _ hw) hd (k p e s m args below meth c H locs Q ls C Y hR hS hz hl)
theorem rn_ldc2 (q : Nat) {idx : Nat} {v : Int64} (hd : decode (mC M) pc = .ok (.ldc2_w idx, 3)) (hq : pc + 3 = q) (hw : Cond.constantLong (mY M).cls idx v ∈ lw_g) (k : Rn G M cu q lv (.long v :: st) h post) : Rn G M cu pc lv st h post := by
  subst hq
  intro p e s m args below meth c H locs Q ls C Y hR hS hz hl
  exact lv_ldc2 C.1 C.2.1 C.2.2.2.2.2.1 (C.2.2.2.2.2.2.1 _ hw) hd (k p e s m args below meth c H locs Q ls C Y hR hS hz hl)
theorem rn_lcmp (q : Nat) {x y : Int64} (hd : decode (mC M) pc = .ok (.lcmp, 1)) (hq : pc + 1 = q) (k : Rn G M cu q lv (.int (lg_cmp x y) :: st) h post) : Rn G M cu pc lv (.long y :: .long x :: st) h post := by
  subst hq
  intro p e s m args below meth c H locs Q ls C Y hR hS hz hl
  exact W.lcmp C.1 C.2.1 hd (k p e s m args below meth c H locs Q ls C Y hR hS hz hl)
/-- the string constants: their address, their length, their bytes -/
theorem rn_ldcS (q i : Nat) (hd : decode (mC M) pc = .ok (.ldc (stK.getD i 0), 2)) (hq : pc + 2 = q) (hi : i < 8) (ho : (mY M).cls = RX1) (k : Rn G M cu q lv (.ref (gK G i) :: st) h post) : Rn G M cu pc lv st h post := by
  subst hq
  intro p e s m args below meth c H locs Q ls C Y hR hS hz hl
  exact va_ldcS C.1 C.2.1 (by rw [← ho]; exact C.2.2.2.2.2.1) (C.2.2.2.2.2.2.2.1.2.2.2.2.2.1 i hi) hd (k p e s m args below meth c H locs Q ls C Y hR hS hz hl)
theorem rn_sCoder (q i : Nat) {idx : Nat} (hd : decode (mC M) pc = .ok (.getfield idx, 3)) (hq : pc + 3 = q) (hi : i < 8) (hw : Cond.fieldLink (mY M).cls idx "java/lang/String" "coder" "B" ∈ lw_g) (k : Rn G M cu q lv (.int 0 :: st) h post) : Rn G M cu pc lv (.ref (gK G i) :: st) h post := by
  subst hq
  intro p e s m args below meth c H locs Q ls C Y hR hS hz hl
  exact vk_getf C.1 C.2.1 (C.2.2.2.2.2.2.2.1.2.2.2.2.1.1 i hi).2.1 hS C.2.2.2.2.2.1 (C.2.2.2.2.2.2.1 _ hw) (fun _ z => z) hd (k p e s m args below meth c H locs Q ls C Y hR hS hz hl)
theorem rn_sValue (q i : Nat) {idx : Nat} (hd : decode (mC M) pc = .ok (.getfield idx, 3)) (hq : pc + 3 = q) (hi : i < 8) (hw : Cond.fieldLink (mY M).cls idx "java/lang/String" "value" "[B" ∈ lw_g) (k : Rn G M cu q lv (.ref (gV G i) :: st) h post) : Rn G M cu pc lv (.ref (gK G i) :: st) h post := by
  subst hq
  intro p e s m args below meth c H locs Q ls C Y hR hS hz hl
  exact vk_getf C.1 C.2.1 (C.2.2.2.2.2.2.2.1.2.2.2.2.1.1 i hi).2.2.1 hS C.2.2.2.2.2.1 (C.2.2.2.2.2.2.1 _ hw) (fun _ z => z) hd (k p e s m args below meth c H locs Q ls C Y hR hS hz hl)
theorem rn_sLen (q i : Nat) (hd : decode (mC M) pc = .ok (.arraylength, 1)) (hq : pc + 1 = q) (hi : i < 8) (k : Rn G M cu q lv (.int (nI (stL.getD i 0)) :: st) h post) : Rn G M cu pc lv (.ref (gV G i) :: st) h post := by
  subst hq
  intro p e s m args below meth c H locs Q ls C Y hR hS hz hl
  exact va_tlen C.1 C.2.1 (C.2.2.2.2.2.2.2.1.2.2.2.2.1.1 i hi).2.2.2 hS rfl hd (k p e s m args below meth c H locs Q ls C Y hR hS hz hl)
theorem rn_sByte (q i : Nat) {x : Int32} (hd : decode (mC M) pc = .ok (.baload, 1)) (hq : pc + 1 = q) (hi : i < 8) (hx : vp_in x (stL.getD i 0)) (k : Rn G M cu q lv (.int ((stB.getD i []).getD x.toNatClampNeg 0) :: st) h post) : Rn G M cu pc lv (.int x :: .ref (gV G i) :: st) h post := by
  subst hq
  intro p e s m args below meth c H locs Q ls C Y hR hS hz hl
  exact va_tb C.1 C.2.1 (C.2.2.2.2.2.2.2.1.2.2.2.2.1.1 i hi).2.2.2 hS hx rfl hd (k p e s m args below meth c H locs Q ls C Y hR hS hz hl)
theorem rn_compact (q : Nat) {idx : Nat} (hd : decode (mC M) pc = .ok (.getstatic idx, 3)) (hq : pc + 3 = q) (hw : Cond.fieldLink (mY M).cls idx "java/lang/String" "COMPACT_STRINGS" "Z" ∈ lw_g) (k : Rn G M cu q lv (.int 1 :: st) h post) : Rn G M cu pc lv st h post := by
  subst hq
  intro p e s m args below meth c H locs Q ls C Y hR hS hz hl
  exact va_gets C.1 C.2.1 C.2.2.2.2.2.2.2.1.2.2.2.2.2.2.1.1 hS C.2.2.2.2.2.1 (C.2.2.2.2.2.2.1 _ hw) (fun _ z => z) hd (k p e s m args below meth c H locs Q ls C Y hR hS hz hl)
theorem rn_former (q : Nat) {idx : Nat} (hd : decode (mC M) pc = .ok (.getstatic idx, 3)) (hq : pc + 3 = q) (hw : Cond.fieldLink (mY M).cls idx "jdk/internal/util/Preconditions" "SIOOBE_FORMATTER" "Ljava/util/function/BiFunction;" ∈ lw_g) (k : ∀ v : Value, v.category = 1 → Rn G M cu q lv (v :: st) h post) : Rn G M cu pc lv st h post := by
  subst hq
  intro p e s m args below meth c H locs Q ls C Y hR hS hz hl
  rcases C.2.2.2.2.2.2.2.1.2.2.2.2.2.2.1.2 with z | ⟨t, z⟩
  · exact va_gets C.1 C.2.1 z hS C.2.2.2.2.2.1 (C.2.2.2.2.2.2.1 _ hw) (fun _ z => z) hd (k .null rfl p e s m args below meth c H locs Q ls C Y hR hS hz hl)
  · exact va_gets C.1 C.2.1 z hS C.2.2.2.2.2.1 (C.2.2.2.2.2.2.1 _ hw) (fun _ z => z) hd (k (.ref t) rfl p e s m args below meth c H locs Q ls C Y hR hS hz hl)
/-- the script -/
theorem rn_scr (q : Nat) {x : Int32} (hd : decode (mC M) pc = .ok (.iaload, 1)) (hq : pc + 1 = q) (hx : vp_in x (gLn G)) (k : Rn G M cu q lv (.int (gXs G x.toNatClampNeg) :: st) h post) : Rn G M cu pc lv (.int x :: .ref (gB G) :: st) h post := by
  subst hq
  intro p e s m args below meth c H locs Q ls C Y hR hS hz hl
  have hw := C.2.2.2.2.2.2.2.1
  exact va_sld C.1 C.2.1 hw.2.2.2.1 (by have := hw.1; have := hw.2.2.1; omega) (Nat.not_le.mpr hw.2.2.1) hS hx hd (k p e s m args below meth c H locs Q ls C Y hR hS hz hl)
theorem rn_scrLen (q : Nat) (hd : decode (mC M) pc = .ok (.arraylength, 1)) (hq : pc + 1 = q) (k : Rn G M cu q lv (.int (nI (gLn G)) :: st) h post) : Rn G M cu pc lv (.ref (gB G) :: st) h post := by
  subst hq
  intro p e s m args below meth c H locs Q ls C Y hR hS hz hl
  have hw := C.2.2.2.2.2.2.2.1
  exact va_slen C.1 C.2.1 hw.2.2.2.1 (by have := hw.1; have := hw.2.2.1; omega) (Nat.not_le.mpr hw.2.2.1) hS hd (k p e s m args below meth c H locs Q ls C Y hR hS hz hl)
/-- the class of number ci, as the tables have it; its field k by the pool's place idx of the class own -/
def FL (own : String) (idx ci k : Nat) : Prop := ∃ r : vw_C, vwCl[ci]? = some r ∧ k < r.2.2 ∧ Cond.fieldLink own idx (r.2.1 k).1 (r.2.1 k).2.1 (r.2.1 k).2.2.1 ∈ lw_g
theorem cl_ok : ∀ (ci : Nat) (r : vw_C), vwCl[ci]? = some r → ci < 6 ∧ r.2.2 = nfO ci ∧ (∀ w ∈ u_ws r.1 r.2.1 r.2.2, w ∈ lw_g) ∧ (∀ k, k < r.2.2 → parseFieldDescriptor (r.2.1 k).2.2.1 = some (tyO ci k)) ∧ (∀ a, a < r.2.2 → ∀ b, b < r.2.2 → a ≠ b → (r.2.1 a).2.1 ≠ (r.2.1 b).2.1) := by
  intro ci r hr
  match ci, hr with
  | 0, hr => cases hr; exact ⟨by decide, rfl, by decide +kernel, tyX0_ok, nmX0⟩
  | 1, hr => cases hr; exact ⟨by decide, rfl, by decide +kernel, tyX1_ok, nmX1⟩
  | 2, hr => cases hr; exact ⟨by decide, rfl, by decide +kernel, tyX2_ok, nmX2⟩
  | 3, hr => cases hr; exact ⟨by decide, rfl, by decide +kernel, tyX3_ok, nmX3⟩
  | 4, hr => cases hr; exact ⟨by decide, rfl, by decide +kernel, tyX4_ok, nmX4⟩
  | 5, hr => cases hr; exact ⟨by decide, rfl, by decide +kernel, tyX5_ok, nmX5⟩
  | ci + 6, hr => simp [vwCl] at hr
theorem rdE_obj {G : WG} {h : AH} {o ci n : Nat} (hi : Is h o ci n) (hci : ci < 6) : rdE G h o = .inr (ci, (List.range (nfO ci)).map (rdF G h o ci)) := by
  unfold rdE
  rw [hi.2]
  have h1 : ¬ ci = 10 := by omega
  have h2 : ¬ ci = 11 := by omega
  have h3 : ¬ ci = 12 := by omega
  have h4 : ¬ ci = 13 := by omega
  simp only [h1, h2, h3, h4, if_false]
theorem rd_get {G : WG} {h : AH} {o ci k : Nat} (hk : k < nfO ci) : ((List.range (nfO ci)).map (rdF G h o ci))[k]? = some (rdF G h o ci k) := by
  rw [List.getElem?_map, List.getElem?_range hk]
  rfl
theorem rn_getf (q : Nat) {idx ci n k o : Nat} {v : Value} (hd : decode (mC M) pc = .ok (.getfield idx, 3)) (hq : pc + 3 = q) (hf : FL (mY M).cls idx ci k) (hi : Is h o ci n) (hv : rdF G h o ci k = v) (kk : Rn G M cu q lv (v :: st) h post) : Rn G M cu pc lv (.ref (ad G o) :: st) h post := by
  subst hq
  subst hv
  intro p e s m args below meth c H locs Q ls C Y hR hS hz hl
  obtain ⟨r, hr, hk, hw⟩ := hf
  obtain ⟨c1, c2, c3, c4, c5⟩ := cl_ok ci r hr
  have he := rdW_get (G := G) hi.1
  rw [rdE_obj hi c1] at he
  exact va_get (C := r.1) (T := r.2.1) (N := r.2.2) (Ts := lw_g) C.1 C.2.1 C.2.2.2.2.2.2.1 c3 C.2.2.2.2.2.1 C.2.2.2.2.2.2.2.1.2.1 hR o he hr k hk (C.2.2.2.2.2.2.1 _ hw) (fun _ z => z) (rd_get (by rw [← c2]; exact hk)) hd (kk p e s m args below meth c H locs Q ls C Y hR hS hz hl)
theorem rn_getI (q : Nat) {idx ci n k o : Nat} (hd : decode (mC M) pc = .ok (.getfield idx, 3)) (hq : pc + 3 = q) (hf : FL (mY M).cls idx ci k) (ht : ftc ci k = 0) (hi : Is h o ci n) (kk : Rn G M cu q lv (.int (hI h o k) :: st) h post) : Rn G M cu pc lv (.ref (ad G o) :: st) h post :=
  rn_getf q hd hq hf hi (by unfold rdF; rw [if_pos ht]) kk
theorem rn_getL (q : Nat) {idx ci n k o : Nat} (hd : decode (mC M) pc = .ok (.getfield idx, 3)) (hq : pc + 3 = q) (hf : FL (mY M).cls idx ci k) (ht : ftc ci k = 2) (hi : Is h o ci n) (kk : Rn G M cu q lv (.long (hL h o k) :: st) h post) : Rn G M cu pc lv (.ref (ad G o) :: st) h post :=
  rn_getf q hd hq hf hi (by unfold rdF; rw [ht]; rfl) kk
theorem rn_getR (q : Nat) {idx ci n k o : Nat} (o' : Nat) (hd : decode (mC M) pc = .ok (.getfield idx, 3)) (hq : pc + 3 = q) (hf : FL (mY M).cls idx ci k) (ht : ftc ci k = 1) (hi : Is h o ci n) (hr : hR h o k = some o') (kk : Rn G M cu q lv (.ref (ad G o') :: st) h post) : Rn G M cu pc lv (.ref (ad G o) :: st) h post :=
  rn_getf q hd hq hf hi (by unfold rdF; rw [ht, hr]; rfl) kk
/-- a put: the object's row, field by field -/
theorem rd_set {G : WG} {h h' : AH} {o ci k : Nat} {v : Value} (hk : k < nfO ci) (hs : rdF G h' o ci k = v) (hn : ∀ j, j ≠ k → rdF G h' o ci j = rdF G h o ci j) : ((List.range (nfO ci)).map (rdF G h o ci)).set k v = (List.range (nfO ci)).map (rdF G h' o ci) := by
  apply List.ext_getElem?
  intro j
  by_cases hj : j < nfO ci
  · by_cases hjk : j = k
    · subst hjk
      rw [List.getElem?_set_self (by simpa using hk), rd_get hj, hs]
    · rw [List.getElem?_set_ne (fun z => hjk z.symm), rd_get hj, rd_get hj, hn j hjk]
  · rw [List.getElem?_eq_none (by simp; omega), List.getElem?_eq_none (by simp; omega)]
theorem rn_putf (q : Nat) {idx ci n k o : Nat} {v : Value} {h' : AH} (hd : decode (mC M) pc = .ok (.putfield idx, 3)) (hq : pc + 3 = q) (hf : FL (mY M).cls idx ci k) (hfin : ((vwCl.getD ci ("", fun _ => ("", "", "", false), 0)).2.1 k).2.2.2 = false ∨ ((mY M).name = "<init>" ∧ ((vwCl.getD ci ("", fun _ => ("", "", "", false), 0)).2.1 k).2.2.2 = true ∧ ((vwCl.getD ci ("", fun _ => ("", "", "", false), 0)).2.1 k).1 = (mY M).cls)) (hi : Is h o ci n) (hn : narrow (tyO ci k) v = v) (hfit : fits (tyO ci k) v = true)
    (e1 : hN h' = hN h) (e2 : hS h' = hS h) (e3 : rdF G h' o ci k = v) (e4 : ∀ j, j ≠ k → rdF G h' o ci j = rdF G h o ci j) (e5 : ∀ j, j ≠ o → rdE G h' j = rdE G h j) (kk : Rn G M cu q lv st h' post) : Rn G M cu pc lv (v :: .ref (ad G o) :: st) h post := by
  subst hq
  intro p e s m args below meth c H locs Q ls C Y hR hS hz hl
  obtain ⟨r, hr, hk, hw⟩ := hf
  obtain ⟨c1, c2, c3, c4, c5⟩ := cl_ok ci r hr
  have hgd : vwCl.getD ci ("", fun _ => ("", "", "", false), 0) = r := by rw [List.getD_eq_getElem?_getD, hr]; rfl
  rw [hgd] at hfin
  have he := rdW_get (G := G) hi.1
  rw [rdE_obj hi c1] at he
  have hk2 : k < nfO ci := by rw [← c2]; exact hk
  have hset : (rdW G h).set o (ad G o, .inr (ci, ((List.range (nfO ci)).map (rdF G h o ci)).set k v)) = rdW G h' := by
    refine rdW_set hi.1 e1 ?_ e5
    rw [rdE_obj (n := n) ⟨by rw [e1]; exact hi.1, by rw [e2]; exact hi.2⟩ c1, rd_set hk2 e3 e4]
  have go : ∀ (H1 : Heap) (locs1 : List Loc), va_P (gD G) vwCl ((rdW G h).set o (ad G o, .inr (ci, ((List.range (nfO ci)).map (rdF G h o ci)).set k v))) H1 → va_D (gA G) ((rdW G h).set o (ad G o, .inr (ci, ((List.range (nfO ci)).map (rdF G h o ci)).set k v))) → va_S (gA G) s.heap H1 locs1 → W p (gl G) e (mR M) s m args below meth c H1 locs1 cu.1 cu.2 Q (F0 m (pc + 3) ls st) := by
    intro H1 locs1 hP1 _ hS1
    rw [hset] at hP1
    exact kk p e s m args below meth c H1 locs1 Q ls C Y hP1 hS1 (by rw [e1]; exact hz) hl
  rcases hfin with hfin | ⟨hin, hfin, hdecl⟩
  · exact va_put (C := r.1) (T := r.2.1) (N := r.2.2) (Ts := lw_g) C.1 C.2.1 C.2.2.2.2.2.2.1 c3 (tyO ci) c4 c5 C.2.2.2.2.2.1 C.2.2.2.2.2.2.2.1.2.1 hR (rdW_D G h) hS o he hr k hk (C.2.2.2.2.2.2.1 _ hw) (fun _ z => z) hfin (c4 k hk) hn hfit (by simpa using hk2) hd go
  · exact va_putF (C := r.1) (T := r.2.1) (N := r.2.2) (Ts := lw_g) C.1 C.2.1 C.2.2.2.2.2.2.1 c3 (tyO ci) c4 c5 C.2.2.2.2.2.1 C.2.2.2.2.2.2.2.1.2.1 hR (rdW_D G h) hS o he hr k hk (C.2.2.2.2.2.2.1 _ hw) (fun _ z => z) hfin (C.2.2.2.2.2.2.2.2.trans hin) hdecl (c4 k hk) hn hfit (by simpa using hk2) hd go

end RN
end
section
section RN2
variable {G : WG} {M : MD} {cu : Nat × Nat} {pc : Nat} {lv lv' : List (Nat × Value)} {st : List Value} {h : AH} {post : PO}
/-- field k of class ci is no final one, or this is its constructor -/
def PF (M : MD) (ci k : Nat) : Prop := ((vwCl.getD ci ("", fun _ => ("", "", "", false), 0)).2.1 k).2.2.2 = false ∨ ((mY M).name = "<init>" ∧ ((vwCl.getD ci ("", fun _ => ("", "", "", false), 0)).2.1 k).2.2.2 = true ∧ ((vwCl.getD ci ("", fun _ => ("", "", "", false), 0)).2.1 k).1 = (mY M).cls)
theorem ftc_ref {ci k : Nat} (h : ftc ci k = 1) (v : Option Nat) : narrow (tyO ci k) (va_rf v) = va_rf v ∧ fits (tyO ci k) (va_rf v) = true := by
  unfold ftc at h
  cases ht : tyO ci k <;> rw [ht] at h <;> first | (exact absurd h (by decide)) | (cases v <;> exact ⟨rfl, rfl⟩)
theorem rn_putI (q : Nat) {idx ci n k o : Nat} {x : Int32} (hd : decode (mC M) pc = .ok (.putfield idx, 3)) (hq : pc + 3 = q) (hf : FL (mY M).cls idx ci k) (hfin : PF M ci k) (ht : ftc ci k = 0) (hi : Is h o ci n) (hn : narrow (tyO ci k) (.int x) = .int x) (hfit : fits (tyO ci k) (.int x) = true) (kk : Rn G M cu q lv st (sI h o k x) post) : Rn G M cu pc lv (.int x :: .ref (ad G o) :: st) h post := by
  have e : hI (sI h o k x) o = upd (hI h o) k x := ups
  refine rn_putf (h' := sI h o k x) q hd hq hf hfin hi hn hfit rfl rfl ?_ ?_ (fun j hj => rdE_sA hj) kk
  · unfold rdF
    rw [if_pos ht, e]
    simp [upd]
  · intro j hj
    unfold rdF
    rw [e]
    simp only [upd, if_neg hj]
    rfl
theorem rn_putL (q : Nat) {idx ci n k o : Nat} {x : Int64} (hd : decode (mC M) pc = .ok (.putfield idx, 3)) (hq : pc + 3 = q) (hf : FL (mY M).cls idx ci k) (hfin : PF M ci k) (ht : ftc ci k = 2) (hi : Is h o ci n) (hn : narrow (tyO ci k) (.long x) = .long x) (hfit : fits (tyO ci k) (.long x) = true) (kk : Rn G M cu q lv st (sL h o k x) post) : Rn G M cu pc lv (.long x :: .ref (ad G o) :: st) h post := by
  have e : hL (sL h o k x) o = va_up (hL h o) k x := ups
  refine rn_putf (h' := sL h o k x) q hd hq hf hfin hi hn hfit rfl rfl ?_ ?_ (fun j hj => rdE_sL hj) kk
  · unfold rdF
    rw [ht, e]
    simp [va_up]
  · intro j hj
    unfold rdF
    rw [e]
    simp only [va_up, if_neg hj]
    rfl
theorem rn_putR (q : Nat) {idx ci n k o : Nat} {v : Nat} (hd : decode (mC M) pc = .ok (.putfield idx, 3)) (hq : pc + 3 = q) (hf : FL (mY M).cls idx ci k) (hfin : PF M ci k) (ht : ftc ci k = 1) (hi : Is h o ci n) (kk : Rn G M cu q lv st (sR h o k (some v)) post) : Rn G M cu pc lv (.ref (ad G v) :: .ref (ad G o) :: st) h post := by
  have e : hR (sR h o k (some v)) o = va_up (hR h o) k (some v) := ups
  refine rn_putf (h' := sR h o k (some v)) q hd hq hf hfin hi (ftc_ref ht (some (ad G v))).1 (ftc_ref ht (some (ad G v))).2 rfl rfl ?_ ?_ (fun j hj => rdE_sR hj) kk
  · unfold rdF
    rw [ht, e]
    simp [va_up, va_rf]
  · intro j hj
    unfold rdF
    rw [e]
    simp only [va_up, if_neg hj]
    rfl
theorem rdE_I {o n : Nat} (hi : Is h o 10 n) : rdE G h o = .inl (gI G, n, .inl (hI h o)) := by
  unfold rdE; rw [hi.2]; rfl
theorem rdE_C {o n : Nat} (hi : Is h o 11 n) : rdE G h o = .inl (gC G, n, .inl (hI h o)) := by
  unfold rdE; rw [hi.2]; rfl
theorem rdE_Z {o n : Nat} (hi : Is h o 12 n) : rdE G h o = .inl (gZ G, n, .inl (hI h o)) := by
  unfold rdE; rw [hi.2]; rfl
theorem rdE_Y {o n : Nat} (hi : Is h o 13 n) : rdE G h o = .inl (gY G, n, .inr (.inr (.inr (.inr (fun i => (hR h o i).map (ad G)))))) := by
  unfold rdE; rw [hi.2]; rfl

theorem rn_iald (q : Nat) {o n : Nat} {x : Int32} (hd : decode (mC M) pc = .ok (.iaload, 1)) (hq : pc + 1 = q) (hi : Is h o 10 n) (hx : vp_in x n) (kk : Rn G M cu q lv (.int (hI h o x.toNatClampNeg) :: st) h post) : Rn G M cu pc lv (.int x :: .ref (ad G o) :: st) h post := by
  subst hq
  intro p e s m args below meth c H locs Q ls C Y rR rS hz hl
  have he := rdW_get (G := G) hi.1
  rw [rdE_I hi] at he
  exact va_iald C.1 C.2.1 C.2.2.2.2.2.2.2.1.2.1 rR o 0 he rfl hx hd (kk p e s m args below meth c H locs Q ls C Y rR rS hz hl)
theorem rn_cald (q : Nat) {o n : Nat} {x : Int32} (hd : decode (mC M) pc = .ok (.caload, 1)) (hq : pc + 1 = q) (hi : Is h o 11 n) (hx : vp_in x n) (kk : Rn G M cu q lv (.int (hI h o x.toNatClampNeg) :: st) h post) : Rn G M cu pc lv (.int x :: .ref (ad G o) :: st) h post := by
  subst hq
  intro p e s m args below meth c H locs Q ls C Y rR rS hz hl
  have he := rdW_get (G := G) hi.1
  rw [rdE_C hi] at he
  exact va_cald C.1 C.2.1 C.2.2.2.2.2.2.2.1.2.1 rR o 1 he rfl hx hd (kk p e s m args below meth c H locs Q ls C Y rR rS hz hl)
theorem rn_zald (q : Nat) {o n : Nat} {x : Int32} (hd : decode (mC M) pc = .ok (.baload, 1)) (hq : pc + 1 = q) (hi : Is h o 12 n) (hx : vp_in x n) (kk : Rn G M cu q lv (.int (hI h o x.toNatClampNeg) :: st) h post) : Rn G M cu pc lv (.int x :: .ref (ad G o) :: st) h post := by
  subst hq
  intro p e s m args below meth c H locs Q ls C Y rR rS hz hl
  have he := rdW_get (G := G) hi.1
  rw [rdE_Z hi] at he
  exact va_zald C.1 C.2.1 C.2.2.2.2.2.2.2.1.2.1 rR o 2 he rfl hx hd (kk p e s m args below meth c H locs Q ls C Y rR rS hz hl)
theorem rn_iast (q : Nat) {o n : Nat} {i x : Int32} (hd : decode (mC M) pc = .ok (.iastore, 1)) (hq : pc + 1 = q) (hi : Is h o 10 n) (hx : vp_in i n) (kk : Rn G M cu q lv st (sI h o i.toNatClampNeg x) post) : Rn G M cu pc lv (.int x :: .int i :: .ref (ad G o) :: st) h post := by
  subst hq
  intro p e s m args below meth c H locs Q ls C Y rR rS hz hl
  have he := rdW_get (G := G) hi.1
  rw [rdE_I hi] at he
  have ee : hI (sI h o i.toNatClampNeg x) o = upd (hI h o) i.toNatClampNeg x := ups
  refine va_iast C.1 C.2.1 C.2.2.2.2.2.2.2.1.2.1 rR (rdW_D G h) rS o 0 he rfl hx hd (fun H1 locs1 hP1 _ hS1 => ?_)
  rw [rdW_set (h' := sI h o i.toNatClampNeg x) hi.1 rfl (by rw [rdE_I (h := sI h o i.toNatClampNeg x) hi, ee]) (fun j hj => rdE_sA hj)] at hP1
  exact kk p e s m args below meth c H1 locs1 Q ls C Y hP1 hS1 hz hl
theorem rn_cast (q : Nat) {o n : Nat} {i x : Int32} (hd : decode (mC M) pc = .ok (.castore, 1)) (hq : pc + 1 = q) (hi : Is h o 11 n) (hx : vp_in i n) (kk : Rn G M cu q lv st (sI h o i.toNatClampNeg (vp_nar .char x)) post) : Rn G M cu pc lv (.int x :: .int i :: .ref (ad G o) :: st) h post := by
  subst hq
  intro p e s m args below meth c H locs Q ls C Y rR rS hz hl
  have he := rdW_get (G := G) hi.1
  rw [rdE_C hi] at he
  have ee : hI (sI h o i.toNatClampNeg (vp_nar .char x)) o = upd (hI h o) i.toNatClampNeg (vp_nar .char x) := ups
  refine va_cast C.1 C.2.1 C.2.2.2.2.2.2.2.1.2.1 rR (rdW_D G h) rS o 1 he rfl hx hd (fun H1 locs1 hP1 _ hS1 => ?_)
  rw [rdW_set (h' := sI h o i.toNatClampNeg (vp_nar .char x)) hi.1 rfl (by rw [rdE_C (h := sI h o i.toNatClampNeg (vp_nar .char x)) hi, ee]) (fun j hj => rdE_sA hj)] at hP1
  exact kk p e s m args below meth c H1 locs1 Q ls C Y hP1 hS1 hz hl
theorem rn_zast (q : Nat) {o n : Nat} {i x : Int32} (hd : decode (mC M) pc = .ok (.bastore, 1)) (hq : pc + 1 = q) (hi : Is h o 12 n) (hx : vp_in i n) (kk : Rn G M cu q lv st (sI h o i.toNatClampNeg (vp_nar .boolean x)) post) : Rn G M cu pc lv (.int x :: .int i :: .ref (ad G o) :: st) h post := by
  subst hq
  intro p e s m args below meth c H locs Q ls C Y rR rS hz hl
  have he := rdW_get (G := G) hi.1
  rw [rdE_Z hi] at he
  have ee : hI (sI h o i.toNatClampNeg (vp_nar .boolean x)) o = upd (hI h o) i.toNatClampNeg (vp_nar .boolean x) := ups
  refine va_zast C.1 C.2.1 C.2.2.2.2.2.2.2.1.2.1 rR (rdW_D G h) rS o 2 he rfl hx hd (fun H1 locs1 hP1 _ hS1 => ?_)
  rw [rdW_set (h' := sI h o i.toNatClampNeg (vp_nar .boolean x)) hi.1 rfl (by rw [rdE_Z (h := sI h o i.toNatClampNeg (vp_nar .boolean x)) hi, ee]) (fun j hj => rdE_sA hj)] at hP1
  exact kk p e s m args below meth c H1 locs1 Q ls C Y hP1 hS1 hz hl
theorem rn_alen (q : Nat) {o n : Nat} (hd : decode (mC M) pc = .ok (.arraylength, 1)) (hq : pc + 1 = q) (hi : Is h o 10 n) (kk : Rn G M cu q lv (.int (nI n) :: st) h post) : Rn G M cu pc lv (.ref (ad G o) :: st) h post := by
  subst hq
  intro p e s m args below meth c H locs Q ls C Y rR rS hz hl
  have he := rdW_get (G := G) hi.1
  rw [rdE_I hi] at he
  exact va_alen C.1 C.2.1 C.2.2.2.2.2.2.2.1.2.1 rR o 0 he rfl rfl hd (kk p e s m args below meth c H locs Q ls C Y rR rS hz hl)
theorem rn_aald (q : Nat) {o n : Nat} (v : Nat) {x : Int32} (hd : decode (mC M) pc = .ok (.aaload, 1)) (hq : pc + 1 = q) (hi : Is h o 13 n) (hx : vp_in x n) (hv : hR h o x.toNatClampNeg = some v) (kk : Rn G M cu q lv (.ref (ad G v) :: st) h post) : Rn G M cu pc lv (.int x :: .ref (ad G o) :: st) h post := by
  subst hq
  intro p e s m args below meth c H locs Q ls C Y rR rS hz hl
  have he := rdW_get (G := G) hi.1
  rw [rdE_Y hi] at he
  refine va_aldq C.1 C.2.1 C.2.2.2.2.2.2.2.1.2.1 rR o 3 he rfl hx hd ?_
  rw [hv]
  exact (kk p e s m args below meth c H locs Q ls C Y rR rS hz hl)
theorem rn_aast (q : Nat) {o n v nv : Nat} {i : Int32} (hd : decode (mC M) pc = .ok (.aastore, 1)) (hq : pc + 1 = q) (hi : Is h o 13 n) (hx : vp_in i n) (hv : Is h v 3 nv) (kk : Rn G M cu q lv st (sR h o i.toNatClampNeg (some v)) post) : Rn G M cu pc lv (.ref (ad G v) :: .int i :: .ref (ad G o) :: st) h post := by
  subst hq
  intro p e s m args below meth c H locs Q ls C Y rR rS hz hl
  have he := rdW_get (G := G) hi.1
  rw [rdE_Y hi] at he
  have hev := rdW_get (G := G) hv.1
  rw [rdE_obj hv (by decide)] at hev
  have ee : hR (sR h o i.toNatClampNeg (some v)) o = va_up (hR h o) i.toNatClampNeg (some v) := ups
  refine va_astq (r := (RX3, TX3, 14)) C.1 C.2.1 C.2.2.2.2.2.2.2.1.2.1 rR (rdW_D G h) rS o 3 v 3 he rfl hev rfl hx hd (fun H1 locs1 hP1 _ hS1 => ?_)
  rw [rdW_set (h' := sR h o i.toNatClampNeg (some v)) hi.1 rfl ?_ (fun j hj => rdE_sR hj)] at hP1
  · exact kk p e s m args below meth c H1 locs1 Q ls C Y hP1 hS1 hz hl
  · rw [rdE_Y (h := sR h o i.toNatClampNeg (some v)) hi, ee]
    have e3 : (fun j => (va_up (hR h o) i.toNatClampNeg (some v) j).map (ad G)) = va_up (fun j => (hR h o j).map (ad G)) i.toNatClampNeg (some (ad G v)) := by
      funext j
      unfold va_up
      by_cases hj : j = i.toNatClampNeg
      · rw [if_pos hj, if_pos hj]; rfl
      · rw [if_neg hj, if_neg hj]
    rw [e3]
/-- System.arraycopy of int rows -/
theorem rn_copy (q : Nat) {idx o1 o2 n1 n2 : Nat} {sp dp n : Int32} (hd : decode (mC M) pc = .ok (.invokestatic idx, 3)) (hq : pc + 3 = q) (hw : Cond.methodLink (mY M).cls idx arraycopyName ∈ lw_g) (hrm : 1 ≤ (mR M).frames ∧ (st.map fun v => v.category).sum + (nativeFrameWords "java/lang/System" "arraycopy" 5 + 11) ≤ (mR M).locals) (hi1 : Is h o1 10 n1) (hi2 : Is h o2 10 n2) (h1 : ¬ sp < 0) (h2 : ¬ dp < 0) (h3 : ¬ n < 0) (h4 : sp.toNatClampNeg + n.toNatClampNeg ≤ n1) (h5 : dp.toNatClampNeg + n.toNatClampNeg ≤ n2) (kk : Rn G M cu q lv st (sA h o2 (va_cpy (hI h o1) (hI h o2) sp.toNatClampNeg dp.toNatClampNeg n.toNatClampNeg)) post) : Rn G M cu pc lv (.int n :: .int dp :: .ref (ad G o2) :: .int sp :: .ref (ad G o1) :: st) h post := by
  subst hq
  intro p e s m args below meth c H locs Q ls C Y rR rS hz hl
  have he1 := rdW_get (G := G) hi1.1
  rw [rdE_I hi1] at he1
  have he2 := rdW_get (G := G) hi2.1
  rw [rdE_I hi2] at he2
  have ee : hI (sA h o2 (va_cpy (hI h o1) (hI h o2) sp.toNatClampNeg dp.toNatClampNeg n.toNatClampNeg)) o2 = (va_cpy (hI h o1) (hI h o2) sp.toNatClampNeg dp.toNatClampNeg n.toNatClampNeg) := ups
  refine va_copyi C.1 C.2.1 (C.2.2.2.2.1.trans hl.1.symm) C.2.2.2.2.2.1 (C.2.2.2.2.2.2.1 _ hw) (C.2.2.2.2.2.2.1 (.native arraycopyName) (by decide +kernel)) (C.2.2.2.2.2.2.1 (.static arraycopyName) (by decide +kernel)) (C.2.2.2.2.2.2.1 (.initialized "java/lang/System") (by decide +kernel)) C.2.2.2.2.2.2.2.1.2.1 rR (rdW_D G h) rS o1 o2 0 0 he1 he2 rfl rfl rfl h1 h2 h3 h4 h5 (fun i _ => rfl) hrm.1 hrm.2 hd (fun H1 locs1 hP1 _ hS1 => ?_)
  rw [rdW_set (h' := sA h o2 (va_cpy (hI h o1) (hI h o2) sp.toNatClampNeg dp.toNatClampNeg n.toNatClampNeg)) hi2.1 rfl (by rw [rdE_I (h := sA h o2 (va_cpy (hI h o1) (hI h o2) sp.toNatClampNeg dp.toNatClampNeg n.toNatClampNeg)) hi2, ee]) (fun j hj => rdE_sA hj)] at hP1
  exact kk p e s m args below meth c H1 locs1 Q ls C Y hP1 hS1 hz hl
/-- new objects, new rows -/
theorem rn_newa (q tag : Nat) {n : Int32} {N : Nat} {at0 : ArrayType} (hd : decode (mC M) pc = .ok (.newarray at0, 2)) (hq : pc + 2 = q) (htag : (tag = 10 ∧ newarray.typeOf at0 = .int) ∨ (tag = 11 ∧ newarray.typeOf at0 = .char) ∨ (tag = 12 ∧ newarray.typeOf at0 = .boolean)) (hn : ¬ n < 0) (hNn : n.toNatClampNeg = N) (hb : N ≤ 1000) (hc : cu.1 + 1 ≤ (mR M).cells) (hs : cu.2 + N ≤ (mR M).slots) (kk : Rn G M (cu.1 + 1, cu.2 + N) q lv (.ref (ad G (hN h)) :: st) (sN h tag N) post) : Rn G M cu pc lv (.int n :: st) h post := by
  subst hq
  intro p e s m args below meth c H locs Q ls C Y rR rS hz hl
  intro T hT X
  have hsz := rR.size C.2.2.2.2.2.2.2.1 rS hz hT X
  have hK := C.2.2.2.2.2.2.2.1.2.1
  have harr : (Cond.arrayClass (newarray.typeOf at0)).before args s = true := by
    rcases htag with ⟨-, h0⟩ | ⟨-, h0⟩ | ⟨-, h0⟩ <;> rw [h0] <;> exact C.2.2.2.2.2.2.1 _ (by decide +kernel)
  have hbytes : N * componentBytes (newarray.typeOf at0) ≤ 536870912 := by
    rcases htag with ⟨-, h0⟩ | ⟨-, h0⟩ | ⟨-, h0⟩ <;> rw [h0] <;> simp [componentBytes] <;> omega
  refine va_newaK C.1 C.2.1 harr (g := F0 m pc ls (.int n :: st)) rfl hd rfl hn hNn hbytes hc hs hsz (fun H1 cA e1 z1 o1 hAr hNm => ?_) T hT X
  have hP1 : va_P (gD G) vwCl (rdW G (sN h tag N)) H1 := by
    intro k q0 hk
    obtain ⟨hlt, rfl⟩ := rdW_inv hk
    have hlt : k < hN h + 1 := hlt
    by_cases hk2 : k < hN h
    · rw [rdE_sN hk2]
      exact (rR k _ (rdW_get hk2)).kept (o1 _ (by show gS G + k < _; omega))
    · have hk3 : k = hN h := by omega
      subst hk3
      show va_at _ _ (ad G (hN h), rdE G (sN h tag N) (hN h)) H1
      have ei : hI (sN h tag N) (hN h) = fun _ => 0 := ups
      have es : Is (sN h tag N) (hN h) tag N := ⟨Nat.lt_succ_self _, ups⟩
      rcases htag with ⟨rfl, h0⟩ | ⟨rfl, h0⟩ | ⟨rfl, h0⟩
      · have hcA : cA = gI G := by
          have := (hK.2 0 (gI G, .int) rfl).2
          rw [h0] at hNm
          exact Option.some.inj (hNm.symm.trans this)
        rw [rdE_I es, ei]
        rw [h0, hcA] at e1
        exact e1
      · have hcA : cA = gC G := by
          have := (hK.2 1 (gC G, .char) rfl).2
          rw [h0] at hNm
          exact Option.some.inj (hNm.symm.trans this)
        rw [rdE_C es, ei]
        rw [h0, hcA] at e1
        exact e1
      · have hcA : cA = gZ G := by
          have := (hK.2 2 (gZ G, .boolean) rfl).2
          rw [h0] at hNm
          exact Option.some.inj (hNm.symm.trans this)
        rw [rdE_Z es, ei]
        rw [h0, hcA] at e1
        exact e1
  exact kk p e s m args below meth c H1 locs Q ls C Y hP1 ⟨Nat.le_trans rS.1 (by omega), fun x x1 x2 => (o1 x (by have := rS.1; omega)).trans (rS.2.1 x x1 x2), rS.2.2⟩ (by show s.heap.size + (cu.1 + 1) = gS G + (hN h + 1); omega) hl
theorem rn_newq (q : Nat) {n : Int32} {N idx : Nat} (hd : decode (mC M) pc = .ok (.anewarray idx, 3)) (hq : pc + 3 = q) (hw : Cond.classLink (mY M).cls idx RX3 ∈ lw_g) (hn : ¬ n < 0) (hNn : n.toNatClampNeg = N) (hb : N ≤ 1000) (hc : cu.1 + 1 ≤ (mR M).cells) (hs : cu.2 + N ≤ (mR M).slots) (kk : Rn G M (cu.1 + 1, cu.2 + N) q lv (.ref (ad G (hN h)) :: st) (sN h 13 N) post) : Rn G M cu pc lv (.int n :: st) h post := by
  subst hq
  intro p e s m args below meth c H locs Q ls C Y rR rS hz hl
  intro T hT X
  have hsz := rR.size C.2.2.2.2.2.2.2.1 rS hz hT X
  have hK := C.2.2.2.2.2.2.2.1.2.1
  subst hNn
  refine W.anew C.1 C.2.1 C.2.2.2.2.2.1 (C.2.2.2.2.2.2.1 _ hw) (va_AO.use C.2.2.2.2.2.2.2.1.2.2.2.2.2.2.2.1) (g := F0 m pc ls (.int n :: st)) rfl hd rfl hn (by omega) hc hs (fun cA kA comp f1 f2 f3 f4 => ?_) T hT X
  generalize hH1 : H.push ({ cls := cA, slots := Array.replicate n.toNatClampNeg .null, vm := .none } : Cell) = H1
  have z1 : H1.size = H.size + 1 := by rw [← hH1, Array.size_push]
  have e1 : H1[H.size]? = some (arrV cA n.toNatClampNeg (fun _ => .null)) := by rw [← hH1, Array.getElem?_push_size, ← arrV_new]
  have o1 : ∀ q : Nat, q < H.size → H1[q]? = H[q]? := fun q hq => by rw [← hH1, Array.getElem?_push, if_neg (Nat.ne_of_lt hq)]
  rw [hsz] at e1 z1 o1
  have hP1 : va_P (gD G) vwCl (rdW G (sN h 13 n.toNatClampNeg)) H1 := by
    intro k q0 hk
    obtain ⟨hlt, rfl⟩ := rdW_inv hk
    have hlt : k < hN h + 1 := hlt
    by_cases hk2 : k < hN h
    · rw [rdE_sN hk2]
      exact (rR k _ (rdW_get hk2)).kept (o1 _ (by show gS G + k < _; omega))
    · have hk3 : k = hN h := by omega
      subst hk3
      show va_at _ _ (ad G (hN h), rdE G (sN h 13 n.toNatClampNeg) (hN h)) H1
      have ei : hR (sN h 13 n.toNatClampNeg) (hN h) = fun _ => none := ups
      have es : Is (sN h 13 n.toNatClampNeg) (hN h) 13 n.toNatClampNeg := ⟨Nat.lt_succ_self _, ups⟩
      have hcA : cA = gY G := by
        obtain ⟨kA2, comp2, -, -, -, g4⟩ := (hK.2 3 (gY G, .object RX3) rfl).2
        exact Option.some.inj (f1.symm.trans g4)
      rw [rdE_Y es, ei, ← hcA]
      exact e1
  rw [hsz]
  exact kk p e s m args below meth c H1 locs Q ls C Y hP1 ⟨Nat.le_trans rS.1 (by omega), fun x x1 x2 => (o1 x (by have := rS.1; omega)).trans (rS.2.1 x x1 x2), rS.2.2⟩ (by show s.heap.size + (cu.1 + 1) = gS G + (hN h + 1); omega) hl
def dfl (ci : Nat) : List Value := (List.range (nfO ci)).map (fun j => if ftc ci j = 0 then .int 0 else if ftc ci j = 2 then .long 0 else .null)
theorem dfl_ok : ∀ ci, ci < 6 → ∀ j, j < nfO ci → defaultValue (tyO ci j) = vp_V (dfl ci) j := by
  intro ci hci j hj
  have : ((List.range 6).all fun ci => (List.range (nfO ci)).all fun j => decide (defaultValue (tyO ci j) = vp_V (dfl ci) j)) = true := by decide +kernel
  rw [List.all_eq_true] at this
  have h1 := this ci (List.mem_range.mpr hci)
  rw [List.all_eq_true] at h1
  exact of_decide_eq_true (h1 j (List.mem_range.mpr hj))
theorem rn_new (q ci : Nat) {idx : Nat} (hd : decode (mC M) pc = .ok (.new idx, 3)) (hq : pc + 3 = q) (hw : ∃ r : vw_C, vwCl[ci]? = some r ∧ Cond.classLink (mY M).cls idx r.1 ∈ lw_g ∧ Cond.instantiable r.1 r.2.2 ∈ lw_g ∧ Cond.initialized r.1 ∈ lw_g) (hc : cu.1 + 1 ≤ (mR M).cells) (hs : cu.2 + nfO ci ≤ (mR M).slots) (kk : Rn G M (cu.1 + 1, cu.2 + nfO ci) q lv (.ref (ad G (hN h)) :: st) (sN h ci (nfO ci)) post) : Rn G M cu pc lv st h post := by
  subst hq
  intro p e s m args below meth c H locs Q ls C Y rR rS hz hl
  intro T hT X
  have hsz := rR.size C.2.2.2.2.2.2.2.1 rS hz hT X
  have hK := C.2.2.2.2.2.2.2.1.2.1
  obtain ⟨r, hr, w1, w2, w3⟩ := hw
  obtain ⟨c1, c2, c3, c4, c5⟩ := cl_ok ci r hr
  have hKn := hK.1 ci _ hr
  rw [← c2] at hs
  refine W.newcK C.1 C.2.1 C.2.2.2.2.2.1 (C.2.2.2.2.2.2.1 _ w1) (C.2.2.2.2.2.2.1 _ w2) (C.2.2.2.2.2.2.1 _ w3) (g := F0 m pc ls st) rfl hd hc hs hKn.2.1 hsz (fun H1 kC hkC e1 z1 o1 => ?_) T hT X
  have hP1 : va_P (gD G) vwCl (rdW G (sN h ci (nfO ci))) H1 := by
    intro k q0 hk
    obtain ⟨hlt, rfl⟩ := rdW_inv hk
    have hlt : k < hN h + 1 := hlt
    by_cases hk2 : k < hN h
    · rw [rdE_sN hk2]
      exact (rR k _ (rdW_get hk2)).kept (o1 _ (by show gS G + k < _; omega))
    · have hk3 : k = hN h := by omega
      subst hk3
      show va_at _ _ (ad G (hN h), rdE G (sN h ci (nfO ci)) (hN h)) H1
      have es : Is (sN h ci (nfO ci)) (hN h) ci (nfO ci) := ⟨Nat.lt_succ_self _, ups⟩
      rw [rdE_obj es c1]
      have e0 : (List.range (nfO ci)).map (rdF G (sN h ci (nfO ci)) (hN h) ci) = dfl ci := by
        unfold dfl
        apply List.map_congr_left
        intro j _
        unfold rdF
        have ei : hI (sN h ci (nfO ci)) (hN h) = fun _ => 0 := ups
        have er : hR (sN h ci (nfO ci)) (hN h) = fun _ => none := ups
        have el : hL (sN h ci (nfO ci)) (hN h) = fun _ => 0 := ups
        rw [ei, er, el]
        rfl
      rw [e0]
      exact ⟨_, hr, (u_born (tyO ci) C.2.2.2.2.2.2.1 c3 hKn hkC e1 c4).to (fun j hj => dfl_ok ci c1 j (by rw [← c2]; exact hj))⟩
  rw [← c2] at kk hP1
  exact kk p e s m args below meth c H1 locs Q ls C Y hP1 ⟨Nat.le_trans rS.1 (by omega), fun x x1 x2 => (o1 x (by have := rS.1; omega)).trans (rS.2.1 x x1 x2), rS.2.2⟩ (by show s.heap.size + (cu.1 + 1) = gS G + (hN h + 1); omega) hl
theorem rn_objInit (q : Nat) {idx a : Nat} (hd : decode (mC M) pc = .ok (.invokespecial idx, 3)) (hq : pc + 3 = q) (hw : Cond.methodLink (mY M).cls idx Lib.objectInit ∈ lw_g) (hrm : 1 ≤ (mR M).frames ∧ (st.map fun v => v.category).sum + 12 ≤ (mR M).locals) (kk : Rn G M cu q lv st h post) : Rn G M cu pc lv (.ref a :: st) h post := by
  subst hq
  intro p e s m args below meth c H locs Q ls C Y rR rS hz hl
  exact W.objInit C.1 C.2.1 C.2.2.2.2.2.1 (C.2.2.2.2.2.2.1 _ hw) (C.2.2.2.2.2.2.1 (.instanceMethod Lib.objectInit) (by decide +kernel)) (C.2.2.2.2.2.2.1 (.code Lib.objectInit ⟨#[0xb1]⟩ 1 none) (by decide +kernel)) (g := F0 m pc ls (.ref a :: st)) rfl (hl.1.trans C.2.2.2.2.1.symm) rfl hd hrm.1 (by have := hrm.2; simpa [JFrame.monitorRoom] using this) (kk p e s m args below meth c H locs Q ls C Y rR rS hz hl)
end RN2
end
section
section RN3
variable {G : WG} {M M' : MD} {cu : Nat × Nat} {pc : Nat} {lv lv' : List (Nat × Value)} {st : List Value} {h : AH} {post : PO}
/-- what a caller goes on with -/
def Ki (G : WG) (M : MD) (cu : Nat × Nat) (q : Nat) (lv : List (Nat × Value)) (st : List Value) (post : PO) : PO := fun r h' => match r with
  | some x => Rn G M cu q lv (.int x :: st) h' post
  | none => Rn G M cu q lv st h' post
def CB0 (M' : MD) (n : Nat) : Prop := Cond.initialized (mY M').cls ∈ lw_g ∧ Cond.code (mY M') (mC M') (mL M') (mT M') ∈ lw_g ∧ ((mY M').cls ≠ "java/lang/invoke/MethodHandle" ∧ (mY M').cls ≠ "java/lang/invoke/VarHandle" ∧ (parseMethodDescriptor (mY M').desc).map (fun d => d.parameters.length) = some n) ∧ plainFor (mY M') = true ∧ (mY M').cls ≠ RL
def CV0 (M' : MD) (n : Nat) : Prop := CB0 M' n ∧ Cond.instanceMethod (mY M') ∈ lw_g ∧ Cond.selects (mY M').cls (mY M') (mY M') ∈ lw_g
def CS0 (M' : MD) (n : Nat) : Prop := CB0 M' n ∧ Cond.static (mY M') ∈ lw_g
def CI0 (M' : MD) (n : Nat) : Prop := CB0 M' n ∧ Cond.instanceMethod (mY M') ∈ lw_g ∧ (mY M').name = "<init>"
def ML (own : String) (idx : Nat) (M' : MD) : Prop := Cond.methodLink own idx (mY M') ∈ lw_g
def rmOK (M M' : MD) : Prop := (mR M').frames + 1 ≤ (mR M).frames ∧ 8 + (mL M' + 11) + (mR M').locals ≤ (mR M).locals
def cuOK (M M' : MD) (cu cu' : Nat × Nat) : Prop := (cu.1 + (mR M').cells, cu.2 + (mR M').slots) = cu' ∧ cu'.1 ≤ (mR M).cells ∧ cu'.2 ≤ (mR M).slots
theorem mW_good (h : Cond.code (mY M') (mC M') (mL M') (mT M') ∈ lw_g) : GoodIn lw_g (mW M') := by
  intro w hw
  rcases List.mem_cons.mp hw with rfl | hw
  · exact lw_g_good _ h
  · exact lw_g_good _ hw
theorem pc_blind {av : List Value} : FrameBlind (va_Pc av (fun U => U.heap.size = gS G + hN h ∧ Rep G h U.heap ∧ Wd G U)) := by
  intro a U g mk hp
  exact ⟨hp.1, hp.2.1, hp.2.2.1, hp.2.2.2.blind g mk a⟩

theorem rn_cVi (q : Nat) (cu' : Nat × Nat) {idx n : Nat} {o ci nn : Nat} {As : List Value} {ty : FieldType} (hd : decode (mC M) pc = .ok (.invokevirtual idx, 3)) (hq : pc + 3 = q) (hl0 : ML (mY M).cls idx M') (hw : CV0 M' n) (hrm : rmOK M M') (ht : mT M' = some ty) (hi : Is h o ci nn) (hci : (vwCl[ci]?).map (fun r => r.1) = some (mY M').cls) (hn : As.length = n) (hst : (st.map fun v => v.category).sum ≤ 8) (hlen : (lg_sl (.ref (ad G o) :: As)).length ≤ mL M') (hcu : cuOK M M' cu cu') (k : Rn G M' (0, 0) 0 (lv_args 0 (.ref (ad G o) :: As)) [] h (Ki G M cu' q lv st post)) : Rn G M cu pc lv (As.reverse ++ .ref (ad G o) :: st) h post := by
  subst hq
  intro p e s m args below meth c H locs Q ls C Y rR rS hz hl T hT X
  have hsz := rR.size C.2.2.2.2.2.2.2.1 rS hz hT X

  have hMt := met_i (G := G) (M := M') (h := h) ⟨hw.1.2.2.2.1, hw.1.2.2.2.2⟩ ht hlen k
  have hrc : ∃ cellB : Cell, H[ad G o]? = some cellB ∧ cellB.vm.isStatics = false ∧ s.vm.findClass (mY M').cls = some cellB.cls := by
    cases hr : vwCl[ci]? with
    | none => rw [hr] at hci; cases hci
    | some r =>
      rw [hr] at hci
      have hrn : r.1 = (mY M').cls := Option.some.inj hci
      have he := rdW_get (G := G) hi.1
      rw [rdE_obj hi (cl_ok ci r hr).1] at he
      rw [← hrn]
      exact va_recv C.2.2.2.2.2.2.2.1.2.1 rR hr he
  obtain ⟨rfl, hb1, hb2⟩ := hcu
  refine va_calli (va_runV (As := As) (rest := st) (b := ad G o) (C := (mY M').cls) ⟨C.1, C.2.1, C.2.2.2.2.1, C.2.2.2.2.2.1, C.2.2.2.2.2.2.1⟩ hMt ⟨callB_of n C.2.2.2.2.2.2.1 (mW_good hw.1.2.1) rfl rfl rfl (C.2.2.2.2.2.2.1 _ hw.1.1) (C.2.2.2.2.2.2.1 _ hl0) hw.1.2.2.1 hrm, C.2.2.2.2.2.2.1 _ hw.2.1, C.2.2.2.2.2.2.1 _ hw.2.2⟩ ⟨pc_blind, hrc, fun U hU hW => ⟨rfl, by rw [hU]; exact hsz, by rw [hU]; exact rR, C.2.2.2.2.2.2.2.1.to (locs := locs) hW (by rw [hU]; exact rS)⟩⟩ rfl hn hl.1 rfl (lv_room hst) hd ⟨hb1, hb2⟩) rS (fun _ _ z => z) (fun _ z => z) (fun x h' t H1 locs1 ht1 hvm hp hB hz1 hk1 hS1 => ?_) T hT X
  have hB : Rep G h' t.heap := hB
  rw [ht1] at hB
  exact hp.1 p e s m args below meth c H1 locs1 Q ls C Y hB hS1 (by have := hp.2; show s.heap.size + (cu.1 + (mR M').cells) = gS G + hN h'; omega) hl
theorem rn_cVv (q : Nat) (cu' : Nat × Nat) {idx n : Nat} {o ci nn : Nat} {As : List Value}  (hd : decode (mC M) pc = .ok (.invokevirtual idx, 3)) (hq : pc + 3 = q) (hl0 : ML (mY M).cls idx M') (hw : CV0 M' n) (hrm : rmOK M M') (ht : mT M' = none) (hi : Is h o ci nn) (hci : (vwCl[ci]?).map (fun r => r.1) = some (mY M').cls) (hn : As.length = n) (hst : (st.map fun v => v.category).sum ≤ 8) (hlen : (lg_sl (.ref (ad G o) :: As)).length ≤ mL M') (hcu : cuOK M M' cu cu') (k : Rn G M' (0, 0) 0 (lv_args 0 (.ref (ad G o) :: As)) [] h (Ki G M cu' q lv st post)) : Rn G M cu pc lv (As.reverse ++ .ref (ad G o) :: st) h post := by
  subst hq
  intro p e s m args below meth c H locs Q ls C Y rR rS hz hl T hT X
  have hsz := rR.size C.2.2.2.2.2.2.2.1 rS hz hT X

  have hMt := met_v (G := G) (M := M') (h := h) ⟨hw.1.2.2.2.1, hw.1.2.2.2.2⟩ ht hlen k
  have hrc : ∃ cellB : Cell, H[ad G o]? = some cellB ∧ cellB.vm.isStatics = false ∧ s.vm.findClass (mY M').cls = some cellB.cls := by
    cases hr : vwCl[ci]? with
    | none => rw [hr] at hci; cases hci
    | some r =>
      rw [hr] at hci
      have hrn : r.1 = (mY M').cls := Option.some.inj hci
      have he := rdW_get (G := G) hi.1
      rw [rdE_obj hi (cl_ok ci r hr).1] at he
      rw [← hrn]
      exact va_recv C.2.2.2.2.2.2.2.1.2.1 rR hr he
  obtain ⟨rfl, hb1, hb2⟩ := hcu
  refine va_callv (va_runV (As := As) (rest := st) (b := ad G o) (C := (mY M').cls) ⟨C.1, C.2.1, C.2.2.2.2.1, C.2.2.2.2.2.1, C.2.2.2.2.2.2.1⟩ hMt ⟨callB_of n C.2.2.2.2.2.2.1 (mW_good hw.1.2.1) rfl rfl rfl (C.2.2.2.2.2.2.1 _ hw.1.1) (C.2.2.2.2.2.2.1 _ hl0) hw.1.2.2.1 hrm, C.2.2.2.2.2.2.1 _ hw.2.1, C.2.2.2.2.2.2.1 _ hw.2.2⟩ ⟨pc_blind, hrc, fun U hU hW => ⟨rfl, by rw [hU]; exact hsz, by rw [hU]; exact rR, C.2.2.2.2.2.2.2.1.to (locs := locs) hW (by rw [hU]; exact rS)⟩⟩ rfl hn hl.1 rfl (lv_room hst) hd ⟨hb1, hb2⟩) rS (fun _ _ z => z) (fun _ z => z) (fun h' t H1 locs1 ht1 hvm hp hB hz1 hk1 hS1 => ?_) T hT X
  have hB : Rep G h' t.heap := hB
  rw [ht1] at hB
  exact hp.1 p e s m args below meth c H1 locs1 Q ls C Y hB hS1 (by have := hp.2; show s.heap.size + (cu.1 + (mR M').cells) = gS G + hN h'; omega) hl
theorem rn_cTi (q : Nat) (cu' : Nat × Nat) {idx n : Nat} {i : Nat} {As : List Value} {ty : FieldType} (hd : decode (mC M) pc = .ok (.invokevirtual idx, 3)) (hq : pc + 3 = q) (hl0 : ML (mY M).cls idx M') (hw : CV0 M' n) (hrm : rmOK M M') (ht : mT M' = some ty) (hi : i < 8) (hci : (mY M').cls = "java/lang/String") (hn : As.length = n) (hst : (st.map fun v => v.category).sum ≤ 8) (hlen : (lg_sl (.ref (gK G i) :: As)).length ≤ mL M') (hcu : cuOK M M' cu cu') (k : Rn G M' (0, 0) 0 (lv_args 0 (.ref (gK G i) :: As)) [] h (Ki G M cu' q lv st post)) : Rn G M cu pc lv (As.reverse ++ .ref (gK G i) :: st) h post := by
  subst hq
  intro p e s m args below meth c H locs Q ls C Y rR rS hz hl T hT X
  have hsz := rR.size C.2.2.2.2.2.2.2.1 rS hz hT X

  have hMt := met_i (G := G) (M := M') (h := h) ⟨hw.1.2.2.2.1, hw.1.2.2.2.2⟩ ht hlen k
  have hrc : ∃ cellB : Cell, H[gK G i]? = some cellB ∧ cellB.vm.isStatics = false ∧ s.vm.findClass (mY M').cls = some cellB.cls := by
    rw [hci]
    exact vk_recv C.2.2.2.2.2.2.2.1.2.2.2.2.1 hi rS
  obtain ⟨rfl, hb1, hb2⟩ := hcu
  refine va_calli (va_runV (As := As) (rest := st) (b := gK G i) (C := (mY M').cls) ⟨C.1, C.2.1, C.2.2.2.2.1, C.2.2.2.2.2.1, C.2.2.2.2.2.2.1⟩ hMt ⟨callB_of n C.2.2.2.2.2.2.1 (mW_good hw.1.2.1) rfl rfl rfl (C.2.2.2.2.2.2.1 _ hw.1.1) (C.2.2.2.2.2.2.1 _ hl0) hw.1.2.2.1 hrm, C.2.2.2.2.2.2.1 _ hw.2.1, C.2.2.2.2.2.2.1 _ hw.2.2⟩ ⟨pc_blind, hrc, fun U hU hW => ⟨rfl, by rw [hU]; exact hsz, by rw [hU]; exact rR, C.2.2.2.2.2.2.2.1.to (locs := locs) hW (by rw [hU]; exact rS)⟩⟩ rfl hn hl.1 rfl (lv_room hst) hd ⟨hb1, hb2⟩) rS (fun _ _ z => z) (fun _ z => z) (fun x h' t H1 locs1 ht1 hvm hp hB hz1 hk1 hS1 => ?_) T hT X
  have hB : Rep G h' t.heap := hB
  rw [ht1] at hB
  exact hp.1 p e s m args below meth c H1 locs1 Q ls C Y hB hS1 (by have := hp.2; show s.heap.size + (cu.1 + (mR M').cells) = gS G + hN h'; omega) hl
theorem rn_cSi (q : Nat) (cu' : Nat × Nat) {idx n : Nat}  {As : List Value} {ty : FieldType} (hd : decode (mC M) pc = .ok (.invokestatic idx, 3)) (hq : pc + 3 = q) (hl0 : ML (mY M).cls idx M') (hw : CS0 M' n) (hrm : rmOK M M') (ht : mT M' = some ty) (hn : As.length = n) (hst : (st.map fun v => v.category).sum ≤ 8) (hlen : (lg_sl As).length ≤ mL M') (hcu : cuOK M M' cu cu') (k : Rn G M' (0, 0) 0 (lv_args 0 As) [] h (Ki G M cu' q lv st post)) : Rn G M cu pc lv (As.reverse ++ st) h post := by
  subst hq
  intro p e s m args below meth c H locs Q ls C Y rR rS hz hl T hT X
  have hsz := rR.size C.2.2.2.2.2.2.2.1 rS hz hT X

  have hMt := met_i (G := G) (M := M') (h := h) ⟨hw.1.2.2.2.1, hw.1.2.2.2.2⟩ ht hlen k
  obtain ⟨rfl, hb1, hb2⟩ := hcu
  refine va_calli (va_runS (As := As) (rest := st) ⟨C.1, C.2.1, C.2.2.2.2.1, C.2.2.2.2.2.1, C.2.2.2.2.2.2.1⟩ hMt ⟨callB_of n C.2.2.2.2.2.2.1 (mW_good hw.1.2.1) rfl rfl rfl (C.2.2.2.2.2.2.1 _ hw.1.1) (C.2.2.2.2.2.2.1 _ hl0) hw.1.2.2.1 hrm, C.2.2.2.2.2.2.1 _ hw.2⟩ ⟨pc_blind, fun U hU hW => ⟨rfl, by rw [hU]; exact hsz, by rw [hU]; exact rR, C.2.2.2.2.2.2.2.1.to (locs := locs) hW (by rw [hU]; exact rS)⟩⟩ rfl hn hl.1 rfl (lv_room hst) hd ⟨hb1, hb2⟩) rS (fun _ _ z => z) (fun _ z => z) (fun x h' t H1 locs1 ht1 hvm hp hB hz1 hk1 hS1 => ?_) T hT X
  have hB : Rep G h' t.heap := hB
  rw [ht1] at hB
  exact hp.1 p e s m args below meth c H1 locs1 Q ls C Y hB hS1 (by have := hp.2; show s.heap.size + (cu.1 + (mR M').cells) = gS G + hN h'; omega) hl
theorem rn_cSv (q : Nat) (cu' : Nat × Nat) {idx n : Nat}  {As : List Value}  (hd : decode (mC M) pc = .ok (.invokestatic idx, 3)) (hq : pc + 3 = q) (hl0 : ML (mY M).cls idx M') (hw : CS0 M' n) (hrm : rmOK M M') (ht : mT M' = none) (hn : As.length = n) (hst : (st.map fun v => v.category).sum ≤ 8) (hlen : (lg_sl As).length ≤ mL M') (hcu : cuOK M M' cu cu') (k : Rn G M' (0, 0) 0 (lv_args 0 As) [] h (Ki G M cu' q lv st post)) : Rn G M cu pc lv (As.reverse ++ st) h post := by
  subst hq
  intro p e s m args below meth c H locs Q ls C Y rR rS hz hl T hT X
  have hsz := rR.size C.2.2.2.2.2.2.2.1 rS hz hT X

  have hMt := met_v (G := G) (M := M') (h := h) ⟨hw.1.2.2.2.1, hw.1.2.2.2.2⟩ ht hlen k
  obtain ⟨rfl, hb1, hb2⟩ := hcu
  refine va_callv (va_runS (As := As) (rest := st) ⟨C.1, C.2.1, C.2.2.2.2.1, C.2.2.2.2.2.1, C.2.2.2.2.2.2.1⟩ hMt ⟨callB_of n C.2.2.2.2.2.2.1 (mW_good hw.1.2.1) rfl rfl rfl (C.2.2.2.2.2.2.1 _ hw.1.1) (C.2.2.2.2.2.2.1 _ hl0) hw.1.2.2.1 hrm, C.2.2.2.2.2.2.1 _ hw.2⟩ ⟨pc_blind, fun U hU hW => ⟨rfl, by rw [hU]; exact hsz, by rw [hU]; exact rR, C.2.2.2.2.2.2.2.1.to (locs := locs) hW (by rw [hU]; exact rS)⟩⟩ rfl hn hl.1 rfl (lv_room hst) hd ⟨hb1, hb2⟩) rS (fun _ _ z => z) (fun _ z => z) (fun h' t H1 locs1 ht1 hvm hp hB hz1 hk1 hS1 => ?_) T hT X
  have hB : Rep G h' t.heap := hB
  rw [ht1] at hB
  exact hp.1 p e s m args below meth c H1 locs1 Q ls C Y hB hS1 (by have := hp.2; show s.heap.size + (cu.1 + (mR M').cells) = gS G + hN h'; omega) hl
theorem rn_cIv (q : Nat) (cu' : Nat × Nat) {idx n : Nat} {o : Nat} {As : List Value}  (hd : decode (mC M) pc = .ok (.invokespecial idx, 3)) (hq : pc + 3 = q) (hl0 : ML (mY M).cls idx M') (hw : CI0 M' n) (hrm : rmOK M M') (ht : mT M' = none) (hn : As.length = n) (hst : (st.map fun v => v.category).sum ≤ 8) (hlen : (lg_sl (.ref (ad G o) :: As)).length ≤ mL M') (hcu : cuOK M M' cu cu') (k : Rn G M' (0, 0) 0 (lv_args 0 (.ref (ad G o) :: As)) [] h (Ki G M cu' q lv st post)) : Rn G M cu pc lv (As.reverse ++ .ref (ad G o) :: st) h post := by
  subst hq
  intro p e s m args below meth c H locs Q ls C Y rR rS hz hl T hT X
  have hsz := rR.size C.2.2.2.2.2.2.2.1 rS hz hT X

  have hMt := met_v (G := G) (M := M') (h := h) ⟨hw.1.2.2.2.1, hw.1.2.2.2.2⟩ ht hlen k
  have hmw : mW M' = Cond.code (mY M') (mC M') (mL M') none :: lw_g := by show Cond.code (mY M') (mC M') (mL M') (mT M') :: lw_g = _; rw [ht]
  obtain ⟨rfl, hb1, hb2⟩ := hcu
  refine va_callv (va_runI (As := As) (rest := st) (bytes := mC M') (maxL := mL M') ⟨C.1, C.2.1, C.2.2.2.2.1, C.2.2.2.2.2.1, C.2.2.2.2.2.2.1⟩ hMt ⟨callB_of n C.2.2.2.2.2.2.1 (mW_good hw.1.2.1) hmw rfl rfl (C.2.2.2.2.2.2.1 _ hw.1.1) (C.2.2.2.2.2.2.1 _ hl0) hw.1.2.2.1 hrm, hw.2.2, C.2.2.2.2.2.2.1 _ hw.2.1⟩ ⟨pc_blind, fun U hU hW => ⟨rfl, by rw [hU]; exact hsz, by rw [hU]; exact rR, C.2.2.2.2.2.2.2.1.to (locs := locs) hW (by rw [hU]; exact rS)⟩⟩ rfl hn hl.1 rfl (lv_room hst) hd ⟨hb1, hb2⟩) rS (fun _ _ z => z) (fun _ z => z) (fun h' t H1 locs1 ht1 hvm hp hB hz1 hk1 hS1 => ?_) T hT X
  have hB : Rep G h' t.heap := hB
  rw [ht1] at hB
  exact hp.1 p e s m args below meth c H1 locs1 Q ls C Y hB hS1 (by have := hp.2; show s.heap.size + (cu.1 + (mR M').cells) = gS G + hN h'; omega) hl
theorem rn_cNv (q : Nat) (cu' : Nat × Nat) {idx n : Nat} {o : Nat} {As : List Value}  (hd : decode (mC M) pc = .ok (.invokespecial idx, 3)) (hq : pc + 3 = q) (hl0 : va_Nw (.methodLinkNest (mY M).cls idx (mY M') RX4) = va_Nw (.methodLinkNest RX4 9 yX1_init RX4) ∨ va_Nw (.methodLinkNest (mY M).cls idx (mY M') RX4) = va_Nw (.methodLinkNest RX4 49 yX0_init RX4)) (hw : CI0 M' n) (hrm : rmOK M M') (ht : mT M' = none) (hn : As.length = n) (hst : (st.map fun v => v.category).sum ≤ 8) (hlen : (lg_sl (.ref (ad G o) :: As)).length ≤ mL M') (hcu : cuOK M M' cu cu') (k : Rn G M' (0, 0) 0 (lv_args 0 (.ref (ad G o) :: As)) [] h (Ki G M cu' q lv st post)) : Rn G M cu pc lv (As.reverse ++ .ref (ad G o) :: st) h post := by
  subst hq
  intro p e s m args below meth c H locs Q ls C Y rR rS hz hl T hT X
  have hsz := rR.size C.2.2.2.2.2.2.2.1 rS hz hT X

  have hMt := met_v (G := G) (M := M') (h := h) ⟨hw.1.2.2.2.1, hw.1.2.2.2.2⟩ ht hlen k
  have hmw : mW M' = Cond.code (mY M') (mC M') (mL M') none :: lw_g := by show Cond.code (mY M') (mC M') (mL M') (mT M') :: lw_g = _; rw [ht]
  have hnw : va_Nw (.methodLinkNest (mY M).cls idx (mY M') RX4) s := by
    rcases hl0 with z | z
    · rw [z]; exact C.2.2.2.2.2.2.2.1.2.2.2.2.2.2.2.2.1
    · rw [z]; exact C.2.2.2.2.2.2.2.1.2.2.2.2.2.2.2.2.2
  obtain ⟨rfl, hb1, hb2⟩ := hcu
  refine va_callv (va_runIN (As := As) (rest := st) (bytes := mC M') (maxL := mL M') (host := RX4) ⟨C.1, C.2.1, C.2.2.2.2.1, C.2.2.2.2.2.1, C.2.2.2.2.2.2.1⟩ hMt ⟨va_cnB n C.2.2.2.2.2.2.1 (mW_good hw.1.2.1) hmw rfl rfl hnw (C.2.2.2.2.2.2.1 _ hw.1.1) hw.1.2.2.1 hrm, hw.2.2, C.2.2.2.2.2.2.1 _ hw.2.1⟩ ⟨pc_blind, fun U hU hW => ⟨rfl, by rw [hU]; exact hsz, by rw [hU]; exact rR, C.2.2.2.2.2.2.2.1.to (locs := locs) hW (by rw [hU]; exact rS)⟩⟩ rfl hn hl.1 rfl (lv_room hst) hd ⟨hb1, hb2⟩) rS (fun _ _ z => z) (fun _ z => z) (fun h' t H1 locs1 ht1 hvm hp hB hz1 hk1 hS1 => ?_) T hT X
  have hB : Rep G h' t.heap := hB
  rw [ht1] at hB
  exact hp.1 p e s m args below meth c H1 locs1 Q ls C Y hB hS1 (by have := hp.2; show s.heap.size + (cu.1 + (mR M').cells) = gS G + hN h'; omega) hl
end RN3
end
section
abbrev M_X1_init : MD := (yX1_init, cX1_init, 1, none, { frames := 1, cells := 1, slots := 160, locals := 20 })
abbrev M_J7_fill_53178 : MD := (yJ7_fill_53178, cJ7_fill_53178, 4, none, { frames := 0, cells := 0, slots := 0, locals := 0 })
abbrev M_X2_init : MD := (yX2_init, cX2_init, 1, none, { frames := 1, cells := 6, slots := 48, locals := 23 })
abbrev M_X3_init : MD := (yX3_init, cX3_init, 1, none, { frames := 1, cells := 9, slots := 57, locals := 23 })
abbrev M_X0_init : MD := (yX0_init, cX0_init, 1, none, { frames := 1, cells := 3, slots := 18, locals := 20 })
abbrev M_X4_init : MD := (yX4_init, cX4_init, 2, none, { frames := 2, cells := 144, slots := 1227, locals := 43 })
abbrev M_X5_blank : MD := (yX5_blank, cX5_blank, 2, none, { frames := 0, cells := 0, slots := 0, locals := 0 })
abbrev M_X5_begins : MD := (yX5_begins, cX5_begins, 2, none, { frames := 0, cells := 0, slots := 0, locals := 0 })
abbrev M_X5_init : MD := (yX5_init, cX5_init, 1, none, { frames := 1, cells := 12, slots := 919, locals := 21 })
abbrev M_X1_append : MD := (yX1_append, cX1_append, 2, none, { frames := 0, cells := 0, slots := 0, locals := 0 })
abbrev M_X4_write : MD := (yX4_write, cX4_write, 2, (some .int), { frames := 1, cells := 0, slots := 0, locals := 21 })
abbrev M_X5_in : MD := (yX5_in, cX5_in, 6, (some .boolean), { frames := 0, cells := 0, slots := 0, locals := 0 })
abbrev M_X5_write : MD := (yX5_write, cX5_write, 2, (some .int), { frames := 1, cells := 0, slots := 0, locals := 25 })
abbrev M_X4_erase : MD := (yX4_erase, cX4_erase, 2, (some .int), { frames := 0, cells := 0, slots := 0, locals := 0 })
abbrev M_X5_erase : MD := (yX5_erase, cX5_erase, 2, (some .int), { frames := 0, cells := 0, slots := 0, locals := 0 })
abbrev M_X2_copyFrom : MD := (yX2_copyFrom, cX2_copyFrom, 2, none, { frames := 1, cells := 0, slots := 0, locals := 26 })
abbrev M_X1_isSmall : MD := (yX1_isSmall, cX1_isSmall, 1, (some .boolean), { frames := 0, cells := 0, slots := 0, locals := 0 })
abbrev M_X1_isDigit : MD := (yX1_isDigit, cX1_isDigit, 1, (some .boolean), { frames := 0, cells := 0, slots := 0, locals := 0 })
abbrev M_X1_nextToken : MD := (yX1_nextToken, cX1_nextToken, 1, none, { frames := 1, cells := 0, slots := 0, locals := 20 })
abbrev M_J0_coder_7d493 : MD := (yJ0_coder_7d493, cJ0_coder_7d493, 1, (some .byte), { frames := 0, cells := 0, slots := 0, locals := 0 })
abbrev M_J0_length_8abf5 : MD := (yJ0_length_8abf5, cJ0_length_8abf5, 1, (some .int), { frames := 1, cells := 0, slots := 0, locals := 20 })
abbrev M_J0_isLatin1_aae02 : MD := (yJ0_isLatin1_aae02, cJ0_isLatin1_aae02, 1, (some .boolean), { frames := 0, cells := 0, slots := 0, locals := 0 })
abbrev M_J3_checkIndex_8e157 : MD := (yJ3_checkIndex_8e157, cJ3_checkIndex_8e157, 3, (some .int), { frames := 0, cells := 0, slots := 0, locals := 0 })
abbrev M_J0_checkIndex_df160 : MD := (yJ0_checkIndex_df160, cJ0_checkIndex_df160, 2, none, { frames := 1, cells := 0, slots := 0, locals := 22 })
abbrev M_J1_charAt_3b067 : MD := (yJ1_charAt_3b067, cJ1_charAt_3b067, 2, (some .char), { frames := 2, cells := 0, slots := 0, locals := 43 })
abbrev M_J0_charAt_5068e : MD := (yJ0_charAt_5068e, cJ0_charAt_5068e, 2, (some .char), { frames := 3, cells := 0, slots := 0, locals := 64 })
abbrev M_X1_reads : MD := (yX1_reads, cX1_reads, 3, (some .boolean), { frames := 4, cells := 0, slots := 0, locals := 85 })
abbrev M_X2_clearNews : MD := (yX2_clearNews, cX2_clearNews, 1, none, { frames := 1, cells := 0, slots := 0, locals := 23 })
abbrev M_X2_clear : MD := (yX2_clear, cX2_clear, 1, none, { frames := 2, cells := 0, slots := 0, locals := 43 })
abbrev M_X1_nextNumber : MD := (yX1_nextNumber, cX1_nextNumber, 5, (some .int), { frames := 2, cells := 0, slots := 0, locals := 40 })
abbrev M_X2_addPlace : MD := (yX2_addPlace, cX2_addPlace, 4, none, { frames := 0, cells := 0, slots := 0, locals := 0 })
abbrev M_X1_readPlace : MD := (yX1_readPlace, cX1_readPlace, 5, (some .boolean), { frames := 3, cells := 0, slots := 0, locals := 64 })
abbrev M_X1_readNews : MD := (yX1_readNews, cX1_readNews, 4, (some .boolean), { frames := 3, cells := 0, slots := 0, locals := 64 })
abbrev M_X1_kindRead : MD := (yX1_kindRead, cX1_kindRead, 1, (some .int), { frames := 5, cells := 0, slots := 0, locals := 107 })
abbrev M_X2_addHen : MD := (yX2_addHen, cX2_addHen, 3, none, { frames := 0, cells := 0, slots := 0, locals := 0 })
abbrev M_X1_readHen : MD := (yX1_readHen, cX1_readHen, 4, (some .boolean), { frames := 3, cells := 0, slots := 0, locals := 64 })
abbrev M_X1_readClause : MD := (yX1_readClause, cX1_readClause, 3, (some .boolean), { frames := 6, cells := 0, slots := 0, locals := 127 })
abbrev M_X1_readInto : MD := (yX1_readInto, cX1_readInto, 3, (some .int), { frames := 7, cells := 0, slots := 0, locals := 149 })
abbrev M_X4_fault : MD := (yX4_fault, cX4_fault, 1, (some .int), { frames := 8, cells := 0, slots := 0, locals := 171 })
abbrev M_X5_copies : MD := (yX5_copies, cX5_copies, 6, none, { frames := 0, cells := 0, slots := 0, locals := 0 })
abbrev M_X5_here : MD := (yX5_here, cX5_here, 1, (some .int), { frames := 0, cells := 0, slots := 0, locals := 0 })
abbrev M_X5_step : MD := (yX5_step, cX5_step, 2, none, { frames := 1, cells := 0, slots := 0, locals := 25 })
abbrev M_X5_anew : MD := (yX5_anew, cX5_anew, 1, (some .boolean), { frames := 1, cells := 0, slots := 0, locals := 21 })
abbrev M_X5_number : MD := (yX5_number, cX5_number, 2, (some .boolean), { frames := 2, cells := 0, slots := 0, locals := 46 })
abbrev M_X5_readsPlace : MD := (yX5_readsPlace, cX5_readsPlace, 2, (some .boolean), { frames := 3, cells := 0, slots := 0, locals := 67 })
abbrev M_X5_readsNews : MD := (yX5_readsNews, cX5_readsNews, 2, (some .boolean), { frames := 3, cells := 0, slots := 0, locals := 67 })
abbrev M_X5_calm : MD := (yX5_calm, cX5_calm, 2, (some .boolean), { frames := 0, cells := 0, slots := 0, locals := 0 })
abbrev M_X5_readsHen : MD := (yX5_readsHen, cX5_readsHen, 3, (some .boolean), { frames := 3, cells := 0, slots := 0, locals := 67 })
abbrev M_X5_readsClause : MD := (yX5_readsClause, cX5_readsClause, 4, (some .boolean), { frames := 4, cells := 0, slots := 0, locals := 89 })
abbrev M_X5_reads : MD := (yX5_reads, cX5_reads, 2, (some .int), { frames := 5, cells := 0, slots := 0, locals := 112 })
abbrev M_X5_fault : MD := (yX5_fault, cX5_fault, 1, (some .int), { frames := 6, cells := 0, slots := 0, locals := 133 })
abbrev M_X3_beginAs : MD := (yX3_beginAs, cX3_beginAs, 2, none, { frames := 1, cells := 0, slots := 0, locals := 26 })
abbrev M_X4_yard : MD := (yX4_yard, cX4_yard, 2, (some .int), { frames := 8, cells := 0, slots := 0, locals := 171 })
abbrev M_X5_yard : MD := (yX5_yard, cX5_yard, 1, (some .int), { frames := 6, cells := 0, slots := 0, locals := 133 })
abbrev M_X4_isPlace : MD := (yX4_isPlace, cX4_isPlace, 2, (some .boolean), { frames := 0, cells := 0, slots := 0, locals := 0 })
abbrev M_X4_place : MD := (yX4_place, cX4_place, 3, (some .int), { frames := 1, cells := 0, slots := 0, locals := 21 })
abbrev M_X5_isPlace : MD := (yX5_isPlace, cX5_isPlace, 2, (some .boolean), { frames := 1, cells := 0, slots := 0, locals := 25 })
abbrev M_X5_place : MD := (yX5_place, cX5_place, 3, (some .int), { frames := 2, cells := 0, slots := 0, locals := 46 })
abbrev M_X4_isHen : MD := (yX4_isHen, cX4_isHen, 2, (some .boolean), { frames := 0, cells := 0, slots := 0, locals := 0 })
abbrev M_X4_hen : MD := (yX4_hen, cX4_hen, 3, (some .int), { frames := 1, cells := 0, slots := 0, locals := 21 })
abbrev M_X5_isHen : MD := (yX5_isHen, cX5_isHen, 2, (some .boolean), { frames := 1, cells := 0, slots := 0, locals := 25 })
abbrev M_X5_hen : MD := (yX5_hen, cX5_hen, 3, (some .int), { frames := 2, cells := 0, slots := 0, locals := 46 })
abbrev M_X4_news : MD := (yX4_news, cX4_news, 2, (some .int), { frames := 0, cells := 0, slots := 0, locals := 0 })
abbrev M_X5_news : MD := (yX5_news, cX5_news, 2, (some .int), { frames := 1, cells := 0, slots := 0, locals := 25 })
abbrev M_X4_isUnder : MD := (yX4_isUnder, cX4_isUnder, 2, (some .boolean), { frames := 0, cells := 0, slots := 0, locals := 0 })
abbrev M_X3_likes : MD := (yX3_likes, cX3_likes, 6, (some .int), { frames := 0, cells := 0, slots := 0, locals := 0 })
abbrev M_X4_as : MD := (yX4_as, cX4_as, 3, (some .int), { frames := 1, cells := 0, slots := 0, locals := 25 })
abbrev M_X5_asTold : MD := (yX5_asTold, cX5_asTold, 1, none, { frames := 1, cells := 0, slots := 0, locals := 25 })
abbrev M_X5_likes : MD := (yX5_likes, cX5_likes, 5, (some .int), { frames := 0, cells := 0, slots := 0, locals := 0 })
abbrev M_X5_as : MD := (yX5_as, cX5_as, 5, (some .int), { frames := 2, cells := 0, slots := 0, locals := 46 })
abbrev M_X4_dropOldest : MD := (yX4_dropOldest, cX4_dropOldest, 3, none, { frames := 0, cells := 0, slots := 0, locals := 0 })
abbrev M_X3_copyFrom : MD := (yX3_copyFrom, cX3_copyFrom, 2, none, { frames := 1, cells := 0, slots := 0, locals := 26 })
abbrev M_X4_remember : MD := (yX4_remember, cX4_remember, 1, none, { frames := 2, cells := 0, slots := 0, locals := 47 })
abbrev M_X3_laysToday : MD := (yX3_laysToday, cX3_laysToday, 2, (some .boolean), { frames := 0, cells := 0, slots := 0, locals := 0 })
abbrev M_X3_favourite : MD := (yX3_favourite, cX3_favourite, 7, (some .int), { frames := 1, cells := 0, slots := 0, locals := 25 })
abbrev M_J9_floorMod_7cf53 : MD := (yJ9_floorMod_7cf53, cJ9_floorMod_7cf53, 3, (some .int), { frames := 0, cells := 0, slots := 0, locals := 0 })
abbrev M_X2_newsOf : MD := (yX2_newsOf, cX2_newsOf, 2, (some .int), { frames := 1, cells := 0, slots := 0, locals := 22 })
abbrev M_X3_layEgg : MD := (yX3_layEgg, cX3_layEgg, 5, none, { frames := 0, cells := 0, slots := 0, locals := 0 })
abbrev M_X3_passDay : MD := (yX3_passDay, cX3_passDay, 4, none, { frames := 2, cells := 0, slots := 0, locals := 51 })
abbrev M_X3_eggBits : MD := (yX3_eggBits, cX3_eggBits, 3, (some .int), { frames := 0, cells := 0, slots := 0, locals := 0 })
abbrev M_X4_day : MD := (yX4_day, cX4_day, 1, (some .int), { frames := 3, cells := 0, slots := 0, locals := 74 })
abbrev M_X5_remember : MD := (yX5_remember, cX5_remember, 2, none, { frames := 1, cells := 0, slots := 0, locals := 25 })
abbrev M_X5_bestOf : MD := (yX5_bestOf, cX5_bestOf, 6, (some .int), { frames := 1, cells := 0, slots := 0, locals := 24 })
abbrev M_X5_goes : MD := (yX5_goes, cX5_goes, 8, (some .int), { frames := 2, cells := 0, slots := 0, locals := 49 })
abbrev M_X5_day : MD := (yX5_day, cX5_day, 1, (some .int), { frames := 3, cells := 0, slots := 0, locals := 76 })
abbrev M_X4_thunder : MD := (yX4_thunder, cX4_thunder, 2, (some .int), { frames := 3, cells := 0, slots := 0, locals := 67 })
abbrev M_X5_thunder : MD := (yX5_thunder, cX5_thunder, 2, (some .int), { frames := 2, cells := 0, slots := 0, locals := 46 })
abbrev M_X4_straw : MD := (yX4_straw, cX4_straw, 4, (some .int), { frames := 3, cells := 0, slots := 0, locals := 67 })
abbrev M_X5_straw : MD := (yX5_straw, cX5_straw, 4, (some .int), { frames := 2, cells := 0, slots := 0, locals := 46 })
abbrev M_X4_move : MD := (yX4_move, cX4_move, 4, (some .int), { frames := 3, cells := 0, slots := 0, locals := 67 })
abbrev M_X5_moves : MD := (yX5_moves, cX5_moves, 4, none, { frames := 0, cells := 0, slots := 0, locals := 0 })
abbrev M_X5_move : MD := (yX5_move, cX5_move, 3, (some .int), { frames := 2, cells := 0, slots := 0, locals := 46 })
abbrev M_X4_eat : MD := (yX4_eat, cX4_eat, 2, (some .int), { frames := 3, cells := 0, slots := 0, locals := 67 })
abbrev M_X5_eat : MD := (yX5_eat, cX5_eat, 2, (some .int), { frames := 2, cells := 0, slots := 0, locals := 46 })
abbrev M_X4_heed : MD := (yX4_heed, cX4_heed, 2, (some .int), { frames := 3, cells := 0, slots := 0, locals := 67 })
abbrev M_X5_heed : MD := (yX5_heed, cX5_heed, 2, (some .int), { frames := 2, cells := 0, slots := 0, locals := 46 })
abbrev M_X4_undo : MD := (yX4_undo, cX4_undo, 1, (some .int), { frames := 2, cells := 0, slots := 0, locals := 47 })
abbrev M_X5_undo : MD := (yX5_undo, cX5_undo, 1, (some .int), { frames := 1, cells := 0, slots := 0, locals := 25 })
abbrev M_X4_keep : MD := (yX4_keep, cX4_keep, 2, (some .int), { frames := 2, cells := 0, slots := 0, locals := 47 })
abbrev M_X5_isTwo : MD := (yX5_isTwo, cX5_isTwo, 1, (some .boolean), { frames := 1, cells := 0, slots := 0, locals := 25 })
abbrev M_X5_keep : MD := (yX5_keep, cX5_keep, 2, (some .int), { frames := 2, cells := 0, slots := 0, locals := 45 })
abbrev M_X4_back : MD := (yX4_back, cX4_back, 2, (some .int), { frames := 2, cells := 0, slots := 0, locals := 47 })
abbrev M_X5_back : MD := (yX5_back, cX5_back, 2, (some .int), { frames := 2, cells := 0, slots := 0, locals := 45 })
abbrev M_X4_foretell : MD := (yX4_foretell, cX4_foretell, 3, none, { frames := 3, cells := 0, slots := 0, locals := 74 })
abbrev M_X3_placeOfEgg : MD := (yX3_placeOfEgg, cX3_placeOfEgg, 3, (some .int), { frames := 0, cells := 0, slots := 0, locals := 0 })
abbrev M_X4_lays : MD := (yX4_lays, cX4_lays, 3, (some .int), { frames := 4, cells := 0, slots := 0, locals := 96 })
abbrev M_X5_layAside : MD := (yX5_layAside, cX5_layAside, 1, none, { frames := 1, cells := 0, slots := 0, locals := 25 })
abbrev M_X5_go : MD := (yX5_go, cX5_go, 4, none, { frames := 3, cells := 0, slots := 0, locals := 76 })
abbrev M_X5_lays : MD := (yX5_lays, cX5_lays, 3, (some .int), { frames := 4, cells := 0, slots := 0, locals := 99 })
abbrev M_X4_rightsForetold : MD := (yX4_rightsForetold, cX4_rightsForetold, 2, (some .int), { frames := 0, cells := 0, slots := 0, locals := 0 })
abbrev M_X4_rights : MD := (yX4_rights, cX4_rights, 3, (some .int), { frames := 4, cells := 0, slots := 0, locals := 96 })
abbrev M_X5_rights : MD := (yX5_rights, cX5_rights, 3, (some .int), { frames := 4, cells := 0, slots := 0, locals := 99 })
abbrev M_X4_ask : MD := (yX4_ask, cX4_ask, 6, (some .int), { frames := 4, cells := 0, slots := 0, locals := 96 })
abbrev M_X5_ask : MD := (yX5_ask, cX5_ask, 7, (some .int), { frames := 4, cells := 0, slots := 0, locals := 99 })
abbrev M_X4_hitIndex : MD := (yX4_hitIndex, cX4_hitIndex, 2, (some .int), { frames := 0, cells := 0, slots := 0, locals := 0 })
abbrev M_X4_tallyEggs : MD := (yX4_tallyEggs, cX4_tallyEggs, 3, none, { frames := 1, cells := 0, slots := 0, locals := 21 })
abbrev M_X4_tallyHits : MD := (yX4_tallyHits, cX4_tallyHits, 4, none, { frames := 3, cells := 0, slots := 0, locals := 74 })
abbrev M_X4_gainOfMove : MD := (yX4_gainOfMove, cX4_gainOfMove, 5, (some .int), { frames := 1, cells := 0, slots := 0, locals := 21 })
abbrev M_X4_trough : MD := (yX4_trough, cX4_trough, 7, (some .int), { frames := 4, cells := 0, slots := 0, locals := 97 })
abbrev M_X5_rightsOfAll : MD := (yX5_rightsOfAll, cX5_rightsOfAll, 4, (some .int), { frames := 0, cells := 0, slots := 0, locals := 0 })
abbrev M_X5_trough : MD := (yX5_trough, cX5_trough, 7, (some .int), { frames := 4, cells := 0, slots := 0, locals := 99 })
abbrev M_X4_warmth : MD := (yX4_warmth, cX4_warmth, 4, (some .int), { frames := 3, cells := 0, slots := 0, locals := 74 })
abbrev M_X5_warmth : MD := (yX5_warmth, cX5_warmth, 4, (some .int), { frames := 4, cells := 0, slots := 0, locals := 99 })
abbrev M_X0_add : MD := (yX0_add, cX0_add, 4, none, { frames := 0, cells := 0, slots := 0, locals := 0 })
abbrev M_X4_seen : MD := (yX4_seen, cX4_seen, 4, (some .int), { frames := 1, cells := 0, slots := 0, locals := 23 })
abbrev M_X5_seen : MD := (yX5_seen, cX5_seen, 4, (some .int), { frames := 2, cells := 0, slots := 0, locals := 46 })
abbrev M_X4_forget : MD := (yX4_forget, cX4_forget, 2, (some .int), { frames := 0, cells := 0, slots := 0, locals := 0 })
abbrev M_X5_forget : MD := (yX5_forget, cX5_forget, 2, (some .int), { frames := 0, cells := 0, slots := 0, locals := 0 })
abbrev M_J9_max_7cf53 : MD := (yJ9_max_7cf53, cJ9_max_7cf53, 2, (some .int), { frames := 0, cells := 0, slots := 0, locals := 0 })
abbrev M_X0_lastDayOf : MD := (yX0_lastDayOf, cX0_lastDayOf, 4, (some .int), { frames := 1, cells := 0, slots := 0, locals := 21 })
abbrev M_X0_agree : MD := (yX0_agree, cX0_agree, 5, (some .boolean), { frames := 0, cells := 0, slots := 0, locals := 0 })
abbrev M_X4_wouldBeSeen : MD := (yX4_wouldBeSeen, cX4_wouldBeSeen, 6, (some .boolean), { frames := 3, cells := 0, slots := 0, locals := 74 })
abbrev M_X4_kinds : MD := (yX4_kinds, cX4_kinds, 4, (some .int), { frames := 4, cells := 0, slots := 0, locals := 99 })
abbrev M_X5_comes : MD := (yX5_comes, cX5_comes, 6, (some .boolean), { frames := 4, cells := 0, slots := 0, locals := 99 })
abbrev M_X5_kinds : MD := (yX5_kinds, cX5_kinds, 4, (some .int), { frames := 5, cells := 0, slots := 0, locals := 124 })
abbrev M_X4_habits : MD := (yX4_habits, cX4_habits, 4, (some .int), { frames := 4, cells := 0, slots := 0, locals := 99 })
abbrev M_X5_habits : MD := (yX5_habits, cX5_habits, 4, (some .int), { frames := 5, cells := 0, slots := 0, locals := 124 })
abbrev M_X4_daysToFirstRight : MD := (yX4_daysToFirstRight, cX4_daysToFirstRight, 4, (some .int), { frames := 3, cells := 0, slots := 0, locals := 74 })
abbrev M_X4_power : MD := (yX4_power, cX4_power, 4, (some .int), { frames := 0, cells := 0, slots := 0, locals := 0 })
abbrev M_X4_commonDivisor : MD := (yX4_commonDivisor, cX4_commonDivisor, 6, (some .int), { frames := 0, cells := 0, slots := 0, locals := 0 })
abbrev M_X4_foxes : MD := (yX4_foxes, cX4_foxes, 9, (some .int), { frames := 4, cells := 0, slots := 0, locals := 97 })
abbrev M_X5_foxes : MD := (yX5_foxes, cX5_foxes, 16, (some .int), { frames := 4, cells := 0, slots := 0, locals := 99 })
abbrev M_X4_sum : MD := (yX4_sum, cX4_sum, 3, (some .int), { frames := 0, cells := 0, slots := 0, locals := 0 })
abbrev M_X4_count : MD := (yX4_count, cX4_count, 2, (some .int), { frames := 1, cells := 0, slots := 0, locals := 22 })
abbrev M_X5_count : MD := (yX5_count, cX5_count, 6, (some .int), { frames := 0, cells := 0, slots := 0, locals := 0 })
abbrev M_L_law : MD := (yL_law, cL_law, 4, ret, room_1)
theorem v_X1_init : CI0 M_X1_init 0 := ⟨⟨lw_g_of (by decide +kernel) (by decide +kernel), lw_g_of (by decide +kernel) (by decide +kernel), ⟨by decide +kernel, by decide +kernel, by decide +kernel⟩, by decide +kernel, by decide +kernel⟩, lw_g_of (by decide +kernel) (by decide +kernel), rfl⟩
theorem v_J7_fill_53178 : CS0 M_J7_fill_53178 2 := ⟨⟨lw_g_of (by decide +kernel) (by decide +kernel), lw_g_of (by decide +kernel) (by decide +kernel), ⟨by decide +kernel, by decide +kernel, by decide +kernel⟩, by decide +kernel, by decide +kernel⟩, lw_g_of (by decide +kernel) (by decide +kernel)⟩
theorem v_X2_init : CI0 M_X2_init 0 := ⟨⟨lw_g_of (by decide +kernel) (by decide +kernel), lw_g_of (by decide +kernel) (by decide +kernel), ⟨by decide +kernel, by decide +kernel, by decide +kernel⟩, by decide +kernel, by decide +kernel⟩, lw_g_of (by decide +kernel) (by decide +kernel), rfl⟩
theorem v_X3_init : CI0 M_X3_init 0 := ⟨⟨lw_g_of (by decide +kernel) (by decide +kernel), lw_g_of (by decide +kernel) (by decide +kernel), ⟨by decide +kernel, by decide +kernel, by decide +kernel⟩, by decide +kernel, by decide +kernel⟩, lw_g_of (by decide +kernel) (by decide +kernel), rfl⟩
theorem v_X0_init : CI0 M_X0_init 0 := ⟨⟨lw_g_of (by decide +kernel) (by decide +kernel), lw_g_of (by decide +kernel) (by decide +kernel), ⟨by decide +kernel, by decide +kernel, by decide +kernel⟩, by decide +kernel, by decide +kernel⟩, lw_g_of (by decide +kernel) (by decide +kernel), rfl⟩
theorem v_X4_init : CI0 M_X4_init 0 := ⟨⟨lw_g_of (by decide +kernel) (by decide +kernel), lw_g_of (by decide +kernel) (by decide +kernel), ⟨by decide +kernel, by decide +kernel, by decide +kernel⟩, by decide +kernel, by decide +kernel⟩, lw_g_of (by decide +kernel) (by decide +kernel), rfl⟩
theorem v_X5_blank : CS0 M_X5_blank 1 := ⟨⟨lw_g_of (by decide +kernel) (by decide +kernel), lw_g_of (by decide +kernel) (by decide +kernel), ⟨by decide +kernel, by decide +kernel, by decide +kernel⟩, by decide +kernel, by decide +kernel⟩, lw_g_of (by decide +kernel) (by decide +kernel)⟩
theorem v_X5_begins : CV0 M_X5_begins 0 := ⟨⟨lw_g_of (by decide +kernel) (by decide +kernel), lw_g_of (by decide +kernel) (by decide +kernel), ⟨by decide +kernel, by decide +kernel, by decide +kernel⟩, by decide +kernel, by decide +kernel⟩, lw_g_of (by decide +kernel) (by decide +kernel), lw_g_of (by decide +kernel) (by decide +kernel)⟩
theorem v_X5_init : CI0 M_X5_init 0 := ⟨⟨lw_g_of (by decide +kernel) (by decide +kernel), lw_g_of (by decide +kernel) (by decide +kernel), ⟨by decide +kernel, by decide +kernel, by decide +kernel⟩, by decide +kernel, by decide +kernel⟩, lw_g_of (by decide +kernel) (by decide +kernel), rfl⟩
theorem v_X1_append : CV0 M_X1_append 1 := ⟨⟨lw_g_of (by decide +kernel) (by decide +kernel), lw_g_of (by decide +kernel) (by decide +kernel), ⟨by decide +kernel, by decide +kernel, by decide +kernel⟩, by decide +kernel, by decide +kernel⟩, lw_g_of (by decide +kernel) (by decide +kernel), lw_g_of (by decide +kernel) (by decide +kernel)⟩
theorem v_X4_write : CV0 M_X4_write 1 := ⟨⟨lw_g_of (by decide +kernel) (by decide +kernel), lw_g_of (by decide +kernel) (by decide +kernel), ⟨by decide +kernel, by decide +kernel, by decide +kernel⟩, by decide +kernel, by decide +kernel⟩, lw_g_of (by decide +kernel) (by decide +kernel), lw_g_of (by decide +kernel) (by decide +kernel)⟩
theorem v_X5_in : CS0 M_X5_in 3 := ⟨⟨lw_g_of (by decide +kernel) (by decide +kernel), lw_g_of (by decide +kernel) (by decide +kernel), ⟨by decide +kernel, by decide +kernel, by decide +kernel⟩, by decide +kernel, by decide +kernel⟩, lw_g_of (by decide +kernel) (by decide +kernel)⟩
theorem v_X5_write : CV0 M_X5_write 1 := ⟨⟨lw_g_of (by decide +kernel) (by decide +kernel), lw_g_of (by decide +kernel) (by decide +kernel), ⟨by decide +kernel, by decide +kernel, by decide +kernel⟩, by decide +kernel, by decide +kernel⟩, lw_g_of (by decide +kernel) (by decide +kernel), lw_g_of (by decide +kernel) (by decide +kernel)⟩
theorem v_X4_erase : CV0 M_X4_erase 0 := ⟨⟨lw_g_of (by decide +kernel) (by decide +kernel), lw_g_of (by decide +kernel) (by decide +kernel), ⟨by decide +kernel, by decide +kernel, by decide +kernel⟩, by decide +kernel, by decide +kernel⟩, lw_g_of (by decide +kernel) (by decide +kernel), lw_g_of (by decide +kernel) (by decide +kernel)⟩
theorem v_X5_erase : CV0 M_X5_erase 0 := ⟨⟨lw_g_of (by decide +kernel) (by decide +kernel), lw_g_of (by decide +kernel) (by decide +kernel), ⟨by decide +kernel, by decide +kernel, by decide +kernel⟩, by decide +kernel, by decide +kernel⟩, lw_g_of (by decide +kernel) (by decide +kernel), lw_g_of (by decide +kernel) (by decide +kernel)⟩
theorem v_X2_copyFrom : CV0 M_X2_copyFrom 1 := ⟨⟨lw_g_of (by decide +kernel) (by decide +kernel), lw_g_of (by decide +kernel) (by decide +kernel), ⟨by decide +kernel, by decide +kernel, by decide +kernel⟩, by decide +kernel, by decide +kernel⟩, lw_g_of (by decide +kernel) (by decide +kernel), lw_g_of (by decide +kernel) (by decide +kernel)⟩
theorem v_X1_isSmall : CS0 M_X1_isSmall 1 := ⟨⟨lw_g_of (by decide +kernel) (by decide +kernel), lw_g_of (by decide +kernel) (by decide +kernel), ⟨by decide +kernel, by decide +kernel, by decide +kernel⟩, by decide +kernel, by decide +kernel⟩, lw_g_of (by decide +kernel) (by decide +kernel)⟩
theorem v_X1_isDigit : CS0 M_X1_isDigit 1 := ⟨⟨lw_g_of (by decide +kernel) (by decide +kernel), lw_g_of (by decide +kernel) (by decide +kernel), ⟨by decide +kernel, by decide +kernel, by decide +kernel⟩, by decide +kernel, by decide +kernel⟩, lw_g_of (by decide +kernel) (by decide +kernel)⟩
theorem v_X1_nextToken : CV0 M_X1_nextToken 0 := ⟨⟨lw_g_of (by decide +kernel) (by decide +kernel), lw_g_of (by decide +kernel) (by decide +kernel), ⟨by decide +kernel, by decide +kernel, by decide +kernel⟩, by decide +kernel, by decide +kernel⟩, lw_g_of (by decide +kernel) (by decide +kernel), lw_g_of (by decide +kernel) (by decide +kernel)⟩
theorem v_J0_coder_7d493 : CV0 M_J0_coder_7d493 0 := ⟨⟨lw_g_of (by decide +kernel) (by decide +kernel), lw_g_of (by decide +kernel) (by decide +kernel), ⟨by decide +kernel, by decide +kernel, by decide +kernel⟩, by decide +kernel, by decide +kernel⟩, lw_g_of (by decide +kernel) (by decide +kernel), lw_g_of (by decide +kernel) (by decide +kernel)⟩
theorem v_J0_length_8abf5 : CV0 M_J0_length_8abf5 0 := ⟨⟨lw_g_of (by decide +kernel) (by decide +kernel), lw_g_of (by decide +kernel) (by decide +kernel), ⟨by decide +kernel, by decide +kernel, by decide +kernel⟩, by decide +kernel, by decide +kernel⟩, lw_g_of (by decide +kernel) (by decide +kernel), lw_g_of (by decide +kernel) (by decide +kernel)⟩
theorem v_J0_isLatin1_aae02 : CV0 M_J0_isLatin1_aae02 0 := ⟨⟨lw_g_of (by decide +kernel) (by decide +kernel), lw_g_of (by decide +kernel) (by decide +kernel), ⟨by decide +kernel, by decide +kernel, by decide +kernel⟩, by decide +kernel, by decide +kernel⟩, lw_g_of (by decide +kernel) (by decide +kernel), lw_g_of (by decide +kernel) (by decide +kernel)⟩
theorem v_J3_checkIndex_8e157 : CS0 M_J3_checkIndex_8e157 3 := ⟨⟨lw_g_of (by decide +kernel) (by decide +kernel), lw_g_of (by decide +kernel) (by decide +kernel), ⟨by decide +kernel, by decide +kernel, by decide +kernel⟩, by decide +kernel, by decide +kernel⟩, lw_g_of (by decide +kernel) (by decide +kernel)⟩
theorem v_J0_checkIndex_df160 : CS0 M_J0_checkIndex_df160 2 := ⟨⟨lw_g_of (by decide +kernel) (by decide +kernel), lw_g_of (by decide +kernel) (by decide +kernel), ⟨by decide +kernel, by decide +kernel, by decide +kernel⟩, by decide +kernel, by decide +kernel⟩, lw_g_of (by decide +kernel) (by decide +kernel)⟩
theorem v_J1_charAt_3b067 : CS0 M_J1_charAt_3b067 2 := ⟨⟨lw_g_of (by decide +kernel) (by decide +kernel), lw_g_of (by decide +kernel) (by decide +kernel), ⟨by decide +kernel, by decide +kernel, by decide +kernel⟩, by decide +kernel, by decide +kernel⟩, lw_g_of (by decide +kernel) (by decide +kernel)⟩
theorem v_J0_charAt_5068e : CV0 M_J0_charAt_5068e 1 := ⟨⟨lw_g_of (by decide +kernel) (by decide +kernel), lw_g_of (by decide +kernel) (by decide +kernel), ⟨by decide +kernel, by decide +kernel, by decide +kernel⟩, by decide +kernel, by decide +kernel⟩, lw_g_of (by decide +kernel) (by decide +kernel), lw_g_of (by decide +kernel) (by decide +kernel)⟩
theorem v_X1_reads : CV0 M_X1_reads 1 := ⟨⟨lw_g_of (by decide +kernel) (by decide +kernel), lw_g_of (by decide +kernel) (by decide +kernel), ⟨by decide +kernel, by decide +kernel, by decide +kernel⟩, by decide +kernel, by decide +kernel⟩, lw_g_of (by decide +kernel) (by decide +kernel), lw_g_of (by decide +kernel) (by decide +kernel)⟩
theorem v_X2_clearNews : CV0 M_X2_clearNews 0 := ⟨⟨lw_g_of (by decide +kernel) (by decide +kernel), lw_g_of (by decide +kernel) (by decide +kernel), ⟨by decide +kernel, by decide +kernel, by decide +kernel⟩, by decide +kernel, by decide +kernel⟩, lw_g_of (by decide +kernel) (by decide +kernel), lw_g_of (by decide +kernel) (by decide +kernel)⟩
theorem v_X2_clear : CV0 M_X2_clear 0 := ⟨⟨lw_g_of (by decide +kernel) (by decide +kernel), lw_g_of (by decide +kernel) (by decide +kernel), ⟨by decide +kernel, by decide +kernel, by decide +kernel⟩, by decide +kernel, by decide +kernel⟩, lw_g_of (by decide +kernel) (by decide +kernel), lw_g_of (by decide +kernel) (by decide +kernel)⟩
theorem v_X1_nextNumber : CV0 M_X1_nextNumber 1 := ⟨⟨lw_g_of (by decide +kernel) (by decide +kernel), lw_g_of (by decide +kernel) (by decide +kernel), ⟨by decide +kernel, by decide +kernel, by decide +kernel⟩, by decide +kernel, by decide +kernel⟩, lw_g_of (by decide +kernel) (by decide +kernel), lw_g_of (by decide +kernel) (by decide +kernel)⟩
theorem v_X2_addPlace : CV0 M_X2_addPlace 3 := ⟨⟨lw_g_of (by decide +kernel) (by decide +kernel), lw_g_of (by decide +kernel) (by decide +kernel), ⟨by decide +kernel, by decide +kernel, by decide +kernel⟩, by decide +kernel, by decide +kernel⟩, lw_g_of (by decide +kernel) (by decide +kernel), lw_g_of (by decide +kernel) (by decide +kernel)⟩
theorem v_X1_readPlace : CV0 M_X1_readPlace 1 := ⟨⟨lw_g_of (by decide +kernel) (by decide +kernel), lw_g_of (by decide +kernel) (by decide +kernel), ⟨by decide +kernel, by decide +kernel, by decide +kernel⟩, by decide +kernel, by decide +kernel⟩, lw_g_of (by decide +kernel) (by decide +kernel), lw_g_of (by decide +kernel) (by decide +kernel)⟩
theorem v_X1_readNews : CV0 M_X1_readNews 1 := ⟨⟨lw_g_of (by decide +kernel) (by decide +kernel), lw_g_of (by decide +kernel) (by decide +kernel), ⟨by decide +kernel, by decide +kernel, by decide +kernel⟩, by decide +kernel, by decide +kernel⟩, lw_g_of (by decide +kernel) (by decide +kernel), lw_g_of (by decide +kernel) (by decide +kernel)⟩
theorem v_X1_kindRead : CV0 M_X1_kindRead 0 := ⟨⟨lw_g_of (by decide +kernel) (by decide +kernel), lw_g_of (by decide +kernel) (by decide +kernel), ⟨by decide +kernel, by decide +kernel, by decide +kernel⟩, by decide +kernel, by decide +kernel⟩, lw_g_of (by decide +kernel) (by decide +kernel), lw_g_of (by decide +kernel) (by decide +kernel)⟩
theorem v_X2_addHen : CV0 M_X2_addHen 2 := ⟨⟨lw_g_of (by decide +kernel) (by decide +kernel), lw_g_of (by decide +kernel) (by decide +kernel), ⟨by decide +kernel, by decide +kernel, by decide +kernel⟩, by decide +kernel, by decide +kernel⟩, lw_g_of (by decide +kernel) (by decide +kernel), lw_g_of (by decide +kernel) (by decide +kernel)⟩
theorem v_X1_readHen : CV0 M_X1_readHen 2 := ⟨⟨lw_g_of (by decide +kernel) (by decide +kernel), lw_g_of (by decide +kernel) (by decide +kernel), ⟨by decide +kernel, by decide +kernel, by decide +kernel⟩, by decide +kernel, by decide +kernel⟩, lw_g_of (by decide +kernel) (by decide +kernel), lw_g_of (by decide +kernel) (by decide +kernel)⟩
theorem v_X1_readClause : CV0 M_X1_readClause 1 := ⟨⟨lw_g_of (by decide +kernel) (by decide +kernel), lw_g_of (by decide +kernel) (by decide +kernel), ⟨by decide +kernel, by decide +kernel, by decide +kernel⟩, by decide +kernel, by decide +kernel⟩, lw_g_of (by decide +kernel) (by decide +kernel), lw_g_of (by decide +kernel) (by decide +kernel)⟩
theorem v_X1_readInto : CV0 M_X1_readInto 1 := ⟨⟨lw_g_of (by decide +kernel) (by decide +kernel), lw_g_of (by decide +kernel) (by decide +kernel), ⟨by decide +kernel, by decide +kernel, by decide +kernel⟩, by decide +kernel, by decide +kernel⟩, lw_g_of (by decide +kernel) (by decide +kernel), lw_g_of (by decide +kernel) (by decide +kernel)⟩
theorem v_X4_fault : CV0 M_X4_fault 0 := ⟨⟨lw_g_of (by decide +kernel) (by decide +kernel), lw_g_of (by decide +kernel) (by decide +kernel), ⟨by decide +kernel, by decide +kernel, by decide +kernel⟩, by decide +kernel, by decide +kernel⟩, lw_g_of (by decide +kernel) (by decide +kernel), lw_g_of (by decide +kernel) (by decide +kernel)⟩
theorem v_X5_copies : CS0 M_X5_copies 5 := ⟨⟨lw_g_of (by decide +kernel) (by decide +kernel), lw_g_of (by decide +kernel) (by decide +kernel), ⟨by decide +kernel, by decide +kernel, by decide +kernel⟩, by decide +kernel, by decide +kernel⟩, lw_g_of (by decide +kernel) (by decide +kernel)⟩
theorem v_X5_here : CV0 M_X5_here 0 := ⟨⟨lw_g_of (by decide +kernel) (by decide +kernel), lw_g_of (by decide +kernel) (by decide +kernel), ⟨by decide +kernel, by decide +kernel, by decide +kernel⟩, by decide +kernel, by decide +kernel⟩, lw_g_of (by decide +kernel) (by decide +kernel), lw_g_of (by decide +kernel) (by decide +kernel)⟩
theorem v_X5_step : CV0 M_X5_step 0 := ⟨⟨lw_g_of (by decide +kernel) (by decide +kernel), lw_g_of (by decide +kernel) (by decide +kernel), ⟨by decide +kernel, by decide +kernel, by decide +kernel⟩, by decide +kernel, by decide +kernel⟩, lw_g_of (by decide +kernel) (by decide +kernel), lw_g_of (by decide +kernel) (by decide +kernel)⟩
theorem v_X5_anew : CV0 M_X5_anew 0 := ⟨⟨lw_g_of (by decide +kernel) (by decide +kernel), lw_g_of (by decide +kernel) (by decide +kernel), ⟨by decide +kernel, by decide +kernel, by decide +kernel⟩, by decide +kernel, by decide +kernel⟩, lw_g_of (by decide +kernel) (by decide +kernel), lw_g_of (by decide +kernel) (by decide +kernel)⟩
theorem v_X5_number : CV0 M_X5_number 1 := ⟨⟨lw_g_of (by decide +kernel) (by decide +kernel), lw_g_of (by decide +kernel) (by decide +kernel), ⟨by decide +kernel, by decide +kernel, by decide +kernel⟩, by decide +kernel, by decide +kernel⟩, lw_g_of (by decide +kernel) (by decide +kernel), lw_g_of (by decide +kernel) (by decide +kernel)⟩
theorem v_X5_readsPlace : CV0 M_X5_readsPlace 0 := ⟨⟨lw_g_of (by decide +kernel) (by decide +kernel), lw_g_of (by decide +kernel) (by decide +kernel), ⟨by decide +kernel, by decide +kernel, by decide +kernel⟩, by decide +kernel, by decide +kernel⟩, lw_g_of (by decide +kernel) (by decide +kernel), lw_g_of (by decide +kernel) (by decide +kernel)⟩
theorem v_X5_readsNews : CV0 M_X5_readsNews 0 := ⟨⟨lw_g_of (by decide +kernel) (by decide +kernel), lw_g_of (by decide +kernel) (by decide +kernel), ⟨by decide +kernel, by decide +kernel, by decide +kernel⟩, by decide +kernel, by decide +kernel⟩, lw_g_of (by decide +kernel) (by decide +kernel), lw_g_of (by decide +kernel) (by decide +kernel)⟩
theorem v_X5_calm : CV0 M_X5_calm 0 := ⟨⟨lw_g_of (by decide +kernel) (by decide +kernel), lw_g_of (by decide +kernel) (by decide +kernel), ⟨by decide +kernel, by decide +kernel, by decide +kernel⟩, by decide +kernel, by decide +kernel⟩, lw_g_of (by decide +kernel) (by decide +kernel), lw_g_of (by decide +kernel) (by decide +kernel)⟩
theorem v_X5_readsHen : CV0 M_X5_readsHen 1 := ⟨⟨lw_g_of (by decide +kernel) (by decide +kernel), lw_g_of (by decide +kernel) (by decide +kernel), ⟨by decide +kernel, by decide +kernel, by decide +kernel⟩, by decide +kernel, by decide +kernel⟩, lw_g_of (by decide +kernel) (by decide +kernel), lw_g_of (by decide +kernel) (by decide +kernel)⟩
theorem v_X5_readsClause : CV0 M_X5_readsClause 0 := ⟨⟨lw_g_of (by decide +kernel) (by decide +kernel), lw_g_of (by decide +kernel) (by decide +kernel), ⟨by decide +kernel, by decide +kernel, by decide +kernel⟩, by decide +kernel, by decide +kernel⟩, lw_g_of (by decide +kernel) (by decide +kernel), lw_g_of (by decide +kernel) (by decide +kernel)⟩
theorem v_X5_reads : CV0 M_X5_reads 0 := ⟨⟨lw_g_of (by decide +kernel) (by decide +kernel), lw_g_of (by decide +kernel) (by decide +kernel), ⟨by decide +kernel, by decide +kernel, by decide +kernel⟩, by decide +kernel, by decide +kernel⟩, lw_g_of (by decide +kernel) (by decide +kernel), lw_g_of (by decide +kernel) (by decide +kernel)⟩
theorem v_X5_fault : CV0 M_X5_fault 0 := ⟨⟨lw_g_of (by decide +kernel) (by decide +kernel), lw_g_of (by decide +kernel) (by decide +kernel), ⟨by decide +kernel, by decide +kernel, by decide +kernel⟩, by decide +kernel, by decide +kernel⟩, lw_g_of (by decide +kernel) (by decide +kernel), lw_g_of (by decide +kernel) (by decide +kernel)⟩
theorem v_X3_beginAs : CV0 M_X3_beginAs 1 := ⟨⟨lw_g_of (by decide +kernel) (by decide +kernel), lw_g_of (by decide +kernel) (by decide +kernel), ⟨by decide +kernel, by decide +kernel, by decide +kernel⟩, by decide +kernel, by decide +kernel⟩, lw_g_of (by decide +kernel) (by decide +kernel), lw_g_of (by decide +kernel) (by decide +kernel)⟩
theorem v_X4_yard : CV0 M_X4_yard 0 := ⟨⟨lw_g_of (by decide +kernel) (by decide +kernel), lw_g_of (by decide +kernel) (by decide +kernel), ⟨by decide +kernel, by decide +kernel, by decide +kernel⟩, by decide +kernel, by decide +kernel⟩, lw_g_of (by decide +kernel) (by decide +kernel), lw_g_of (by decide +kernel) (by decide +kernel)⟩
theorem v_X5_yard : CV0 M_X5_yard 0 := ⟨⟨lw_g_of (by decide +kernel) (by decide +kernel), lw_g_of (by decide +kernel) (by decide +kernel), ⟨by decide +kernel, by decide +kernel, by decide +kernel⟩, by decide +kernel, by decide +kernel⟩, lw_g_of (by decide +kernel) (by decide +kernel), lw_g_of (by decide +kernel) (by decide +kernel)⟩
theorem v_X4_isPlace : CV0 M_X4_isPlace 1 := ⟨⟨lw_g_of (by decide +kernel) (by decide +kernel), lw_g_of (by decide +kernel) (by decide +kernel), ⟨by decide +kernel, by decide +kernel, by decide +kernel⟩, by decide +kernel, by decide +kernel⟩, lw_g_of (by decide +kernel) (by decide +kernel), lw_g_of (by decide +kernel) (by decide +kernel)⟩
theorem v_X4_place : CV0 M_X4_place 2 := ⟨⟨lw_g_of (by decide +kernel) (by decide +kernel), lw_g_of (by decide +kernel) (by decide +kernel), ⟨by decide +kernel, by decide +kernel, by decide +kernel⟩, by decide +kernel, by decide +kernel⟩, lw_g_of (by decide +kernel) (by decide +kernel), lw_g_of (by decide +kernel) (by decide +kernel)⟩
theorem v_X5_isPlace : CV0 M_X5_isPlace 1 := ⟨⟨lw_g_of (by decide +kernel) (by decide +kernel), lw_g_of (by decide +kernel) (by decide +kernel), ⟨by decide +kernel, by decide +kernel, by decide +kernel⟩, by decide +kernel, by decide +kernel⟩, lw_g_of (by decide +kernel) (by decide +kernel), lw_g_of (by decide +kernel) (by decide +kernel)⟩
theorem v_X5_place : CV0 M_X5_place 2 := ⟨⟨lw_g_of (by decide +kernel) (by decide +kernel), lw_g_of (by decide +kernel) (by decide +kernel), ⟨by decide +kernel, by decide +kernel, by decide +kernel⟩, by decide +kernel, by decide +kernel⟩, lw_g_of (by decide +kernel) (by decide +kernel), lw_g_of (by decide +kernel) (by decide +kernel)⟩
theorem v_X4_isHen : CV0 M_X4_isHen 1 := ⟨⟨lw_g_of (by decide +kernel) (by decide +kernel), lw_g_of (by decide +kernel) (by decide +kernel), ⟨by decide +kernel, by decide +kernel, by decide +kernel⟩, by decide +kernel, by decide +kernel⟩, lw_g_of (by decide +kernel) (by decide +kernel), lw_g_of (by decide +kernel) (by decide +kernel)⟩
theorem v_X4_hen : CV0 M_X4_hen 2 := ⟨⟨lw_g_of (by decide +kernel) (by decide +kernel), lw_g_of (by decide +kernel) (by decide +kernel), ⟨by decide +kernel, by decide +kernel, by decide +kernel⟩, by decide +kernel, by decide +kernel⟩, lw_g_of (by decide +kernel) (by decide +kernel), lw_g_of (by decide +kernel) (by decide +kernel)⟩
theorem v_X5_isHen : CV0 M_X5_isHen 1 := ⟨⟨lw_g_of (by decide +kernel) (by decide +kernel), lw_g_of (by decide +kernel) (by decide +kernel), ⟨by decide +kernel, by decide +kernel, by decide +kernel⟩, by decide +kernel, by decide +kernel⟩, lw_g_of (by decide +kernel) (by decide +kernel), lw_g_of (by decide +kernel) (by decide +kernel)⟩
theorem v_X5_hen : CV0 M_X5_hen 2 := ⟨⟨lw_g_of (by decide +kernel) (by decide +kernel), lw_g_of (by decide +kernel) (by decide +kernel), ⟨by decide +kernel, by decide +kernel, by decide +kernel⟩, by decide +kernel, by decide +kernel⟩, lw_g_of (by decide +kernel) (by decide +kernel), lw_g_of (by decide +kernel) (by decide +kernel)⟩
theorem v_X4_news : CV0 M_X4_news 1 := ⟨⟨lw_g_of (by decide +kernel) (by decide +kernel), lw_g_of (by decide +kernel) (by decide +kernel), ⟨by decide +kernel, by decide +kernel, by decide +kernel⟩, by decide +kernel, by decide +kernel⟩, lw_g_of (by decide +kernel) (by decide +kernel), lw_g_of (by decide +kernel) (by decide +kernel)⟩
theorem v_X5_news : CV0 M_X5_news 1 := ⟨⟨lw_g_of (by decide +kernel) (by decide +kernel), lw_g_of (by decide +kernel) (by decide +kernel), ⟨by decide +kernel, by decide +kernel, by decide +kernel⟩, by decide +kernel, by decide +kernel⟩, lw_g_of (by decide +kernel) (by decide +kernel), lw_g_of (by decide +kernel) (by decide +kernel)⟩
theorem v_X4_isUnder : CS0 M_X4_isUnder 2 := ⟨⟨lw_g_of (by decide +kernel) (by decide +kernel), lw_g_of (by decide +kernel) (by decide +kernel), ⟨by decide +kernel, by decide +kernel, by decide +kernel⟩, by decide +kernel, by decide +kernel⟩, lw_g_of (by decide +kernel) (by decide +kernel)⟩
theorem v_X3_likes : CV0 M_X3_likes 3 := ⟨⟨lw_g_of (by decide +kernel) (by decide +kernel), lw_g_of (by decide +kernel) (by decide +kernel), ⟨by decide +kernel, by decide +kernel, by decide +kernel⟩, by decide +kernel, by decide +kernel⟩, lw_g_of (by decide +kernel) (by decide +kernel), lw_g_of (by decide +kernel) (by decide +kernel)⟩
theorem v_X4_as : CV0 M_X4_as 2 := ⟨⟨lw_g_of (by decide +kernel) (by decide +kernel), lw_g_of (by decide +kernel) (by decide +kernel), ⟨by decide +kernel, by decide +kernel, by decide +kernel⟩, by decide +kernel, by decide +kernel⟩, lw_g_of (by decide +kernel) (by decide +kernel), lw_g_of (by decide +kernel) (by decide +kernel)⟩
theorem v_X5_asTold : CV0 M_X5_asTold 0 := ⟨⟨lw_g_of (by decide +kernel) (by decide +kernel), lw_g_of (by decide +kernel) (by decide +kernel), ⟨by decide +kernel, by decide +kernel, by decide +kernel⟩, by decide +kernel, by decide +kernel⟩, lw_g_of (by decide +kernel) (by decide +kernel), lw_g_of (by decide +kernel) (by decide +kernel)⟩
theorem v_X5_likes : CV0 M_X5_likes 3 := ⟨⟨lw_g_of (by decide +kernel) (by decide +kernel), lw_g_of (by decide +kernel) (by decide +kernel), ⟨by decide +kernel, by decide +kernel, by decide +kernel⟩, by decide +kernel, by decide +kernel⟩, lw_g_of (by decide +kernel) (by decide +kernel), lw_g_of (by decide +kernel) (by decide +kernel)⟩
theorem v_X5_as : CV0 M_X5_as 2 := ⟨⟨lw_g_of (by decide +kernel) (by decide +kernel), lw_g_of (by decide +kernel) (by decide +kernel), ⟨by decide +kernel, by decide +kernel, by decide +kernel⟩, by decide +kernel, by decide +kernel⟩, lw_g_of (by decide +kernel) (by decide +kernel), lw_g_of (by decide +kernel) (by decide +kernel)⟩
theorem v_X4_dropOldest : CV0 M_X4_dropOldest 0 := ⟨⟨lw_g_of (by decide +kernel) (by decide +kernel), lw_g_of (by decide +kernel) (by decide +kernel), ⟨by decide +kernel, by decide +kernel, by decide +kernel⟩, by decide +kernel, by decide +kernel⟩, lw_g_of (by decide +kernel) (by decide +kernel), lw_g_of (by decide +kernel) (by decide +kernel)⟩
theorem v_X3_copyFrom : CV0 M_X3_copyFrom 1 := ⟨⟨lw_g_of (by decide +kernel) (by decide +kernel), lw_g_of (by decide +kernel) (by decide +kernel), ⟨by decide +kernel, by decide +kernel, by decide +kernel⟩, by decide +kernel, by decide +kernel⟩, lw_g_of (by decide +kernel) (by decide +kernel), lw_g_of (by decide +kernel) (by decide +kernel)⟩
theorem v_X4_remember : CV0 M_X4_remember 0 := ⟨⟨lw_g_of (by decide +kernel) (by decide +kernel), lw_g_of (by decide +kernel) (by decide +kernel), ⟨by decide +kernel, by decide +kernel, by decide +kernel⟩, by decide +kernel, by decide +kernel⟩, lw_g_of (by decide +kernel) (by decide +kernel), lw_g_of (by decide +kernel) (by decide +kernel)⟩
theorem v_X3_laysToday : CV0 M_X3_laysToday 1 := ⟨⟨lw_g_of (by decide +kernel) (by decide +kernel), lw_g_of (by decide +kernel) (by decide +kernel), ⟨by decide +kernel, by decide +kernel, by decide +kernel⟩, by decide +kernel, by decide +kernel⟩, lw_g_of (by decide +kernel) (by decide +kernel), lw_g_of (by decide +kernel) (by decide +kernel)⟩
theorem v_X3_favourite : CV0 M_X3_favourite 2 := ⟨⟨lw_g_of (by decide +kernel) (by decide +kernel), lw_g_of (by decide +kernel) (by decide +kernel), ⟨by decide +kernel, by decide +kernel, by decide +kernel⟩, by decide +kernel, by decide +kernel⟩, lw_g_of (by decide +kernel) (by decide +kernel), lw_g_of (by decide +kernel) (by decide +kernel)⟩
theorem v_J9_floorMod_7cf53 : CS0 M_J9_floorMod_7cf53 2 := ⟨⟨lw_g_of (by decide +kernel) (by decide +kernel), lw_g_of (by decide +kernel) (by decide +kernel), ⟨by decide +kernel, by decide +kernel, by decide +kernel⟩, by decide +kernel, by decide +kernel⟩, lw_g_of (by decide +kernel) (by decide +kernel)⟩
theorem v_X2_newsOf : CV0 M_X2_newsOf 1 := ⟨⟨lw_g_of (by decide +kernel) (by decide +kernel), lw_g_of (by decide +kernel) (by decide +kernel), ⟨by decide +kernel, by decide +kernel, by decide +kernel⟩, by decide +kernel, by decide +kernel⟩, lw_g_of (by decide +kernel) (by decide +kernel), lw_g_of (by decide +kernel) (by decide +kernel)⟩
theorem v_X3_layEgg : CV0 M_X3_layEgg 3 := ⟨⟨lw_g_of (by decide +kernel) (by decide +kernel), lw_g_of (by decide +kernel) (by decide +kernel), ⟨by decide +kernel, by decide +kernel, by decide +kernel⟩, by decide +kernel, by decide +kernel⟩, lw_g_of (by decide +kernel) (by decide +kernel), lw_g_of (by decide +kernel) (by decide +kernel)⟩
theorem v_X3_passDay : CV0 M_X3_passDay 1 := ⟨⟨lw_g_of (by decide +kernel) (by decide +kernel), lw_g_of (by decide +kernel) (by decide +kernel), ⟨by decide +kernel, by decide +kernel, by decide +kernel⟩, by decide +kernel, by decide +kernel⟩, lw_g_of (by decide +kernel) (by decide +kernel), lw_g_of (by decide +kernel) (by decide +kernel)⟩
theorem v_X3_eggBits : CV0 M_X3_eggBits 0 := ⟨⟨lw_g_of (by decide +kernel) (by decide +kernel), lw_g_of (by decide +kernel) (by decide +kernel), ⟨by decide +kernel, by decide +kernel, by decide +kernel⟩, by decide +kernel, by decide +kernel⟩, lw_g_of (by decide +kernel) (by decide +kernel), lw_g_of (by decide +kernel) (by decide +kernel)⟩
theorem v_X4_day : CV0 M_X4_day 0 := ⟨⟨lw_g_of (by decide +kernel) (by decide +kernel), lw_g_of (by decide +kernel) (by decide +kernel), ⟨by decide +kernel, by decide +kernel, by decide +kernel⟩, by decide +kernel, by decide +kernel⟩, lw_g_of (by decide +kernel) (by decide +kernel), lw_g_of (by decide +kernel) (by decide +kernel)⟩
theorem v_X5_remember : CV0 M_X5_remember 0 := ⟨⟨lw_g_of (by decide +kernel) (by decide +kernel), lw_g_of (by decide +kernel) (by decide +kernel), ⟨by decide +kernel, by decide +kernel, by decide +kernel⟩, by decide +kernel, by decide +kernel⟩, lw_g_of (by decide +kernel) (by decide +kernel), lw_g_of (by decide +kernel) (by decide +kernel)⟩
theorem v_X5_bestOf : CV0 M_X5_bestOf 2 := ⟨⟨lw_g_of (by decide +kernel) (by decide +kernel), lw_g_of (by decide +kernel) (by decide +kernel), ⟨by decide +kernel, by decide +kernel, by decide +kernel⟩, by decide +kernel, by decide +kernel⟩, lw_g_of (by decide +kernel) (by decide +kernel), lw_g_of (by decide +kernel) (by decide +kernel)⟩
theorem v_X5_goes : CV0 M_X5_goes 1 := ⟨⟨lw_g_of (by decide +kernel) (by decide +kernel), lw_g_of (by decide +kernel) (by decide +kernel), ⟨by decide +kernel, by decide +kernel, by decide +kernel⟩, by decide +kernel, by decide +kernel⟩, lw_g_of (by decide +kernel) (by decide +kernel), lw_g_of (by decide +kernel) (by decide +kernel)⟩
theorem v_X5_day : CV0 M_X5_day 0 := ⟨⟨lw_g_of (by decide +kernel) (by decide +kernel), lw_g_of (by decide +kernel) (by decide +kernel), ⟨by decide +kernel, by decide +kernel, by decide +kernel⟩, by decide +kernel, by decide +kernel⟩, lw_g_of (by decide +kernel) (by decide +kernel), lw_g_of (by decide +kernel) (by decide +kernel)⟩
theorem v_X4_thunder : CV0 M_X4_thunder 0 := ⟨⟨lw_g_of (by decide +kernel) (by decide +kernel), lw_g_of (by decide +kernel) (by decide +kernel), ⟨by decide +kernel, by decide +kernel, by decide +kernel⟩, by decide +kernel, by decide +kernel⟩, lw_g_of (by decide +kernel) (by decide +kernel), lw_g_of (by decide +kernel) (by decide +kernel)⟩
theorem v_X5_thunder : CV0 M_X5_thunder 0 := ⟨⟨lw_g_of (by decide +kernel) (by decide +kernel), lw_g_of (by decide +kernel) (by decide +kernel), ⟨by decide +kernel, by decide +kernel, by decide +kernel⟩, by decide +kernel, by decide +kernel⟩, lw_g_of (by decide +kernel) (by decide +kernel), lw_g_of (by decide +kernel) (by decide +kernel)⟩
theorem v_X4_straw : CV0 M_X4_straw 2 := ⟨⟨lw_g_of (by decide +kernel) (by decide +kernel), lw_g_of (by decide +kernel) (by decide +kernel), ⟨by decide +kernel, by decide +kernel, by decide +kernel⟩, by decide +kernel, by decide +kernel⟩, lw_g_of (by decide +kernel) (by decide +kernel), lw_g_of (by decide +kernel) (by decide +kernel)⟩
theorem v_X5_straw : CV0 M_X5_straw 2 := ⟨⟨lw_g_of (by decide +kernel) (by decide +kernel), lw_g_of (by decide +kernel) (by decide +kernel), ⟨by decide +kernel, by decide +kernel, by decide +kernel⟩, by decide +kernel, by decide +kernel⟩, lw_g_of (by decide +kernel) (by decide +kernel), lw_g_of (by decide +kernel) (by decide +kernel)⟩
theorem v_X4_move : CV0 M_X4_move 2 := ⟨⟨lw_g_of (by decide +kernel) (by decide +kernel), lw_g_of (by decide +kernel) (by decide +kernel), ⟨by decide +kernel, by decide +kernel, by decide +kernel⟩, by decide +kernel, by decide +kernel⟩, lw_g_of (by decide +kernel) (by decide +kernel), lw_g_of (by decide +kernel) (by decide +kernel)⟩
theorem v_X5_moves : CS0 M_X5_moves 3 := ⟨⟨lw_g_of (by decide +kernel) (by decide +kernel), lw_g_of (by decide +kernel) (by decide +kernel), ⟨by decide +kernel, by decide +kernel, by decide +kernel⟩, by decide +kernel, by decide +kernel⟩, lw_g_of (by decide +kernel) (by decide +kernel)⟩
theorem v_X5_move : CV0 M_X5_move 2 := ⟨⟨lw_g_of (by decide +kernel) (by decide +kernel), lw_g_of (by decide +kernel) (by decide +kernel), ⟨by decide +kernel, by decide +kernel, by decide +kernel⟩, by decide +kernel, by decide +kernel⟩, lw_g_of (by decide +kernel) (by decide +kernel), lw_g_of (by decide +kernel) (by decide +kernel)⟩
theorem v_X4_eat : CV0 M_X4_eat 1 := ⟨⟨lw_g_of (by decide +kernel) (by decide +kernel), lw_g_of (by decide +kernel) (by decide +kernel), ⟨by decide +kernel, by decide +kernel, by decide +kernel⟩, by decide +kernel, by decide +kernel⟩, lw_g_of (by decide +kernel) (by decide +kernel), lw_g_of (by decide +kernel) (by decide +kernel)⟩
theorem v_X5_eat : CV0 M_X5_eat 1 := ⟨⟨lw_g_of (by decide +kernel) (by decide +kernel), lw_g_of (by decide +kernel) (by decide +kernel), ⟨by decide +kernel, by decide +kernel, by decide +kernel⟩, by decide +kernel, by decide +kernel⟩, lw_g_of (by decide +kernel) (by decide +kernel), lw_g_of (by decide +kernel) (by decide +kernel)⟩
theorem v_X4_heed : CV0 M_X4_heed 1 := ⟨⟨lw_g_of (by decide +kernel) (by decide +kernel), lw_g_of (by decide +kernel) (by decide +kernel), ⟨by decide +kernel, by decide +kernel, by decide +kernel⟩, by decide +kernel, by decide +kernel⟩, lw_g_of (by decide +kernel) (by decide +kernel), lw_g_of (by decide +kernel) (by decide +kernel)⟩
theorem v_X5_heed : CV0 M_X5_heed 1 := ⟨⟨lw_g_of (by decide +kernel) (by decide +kernel), lw_g_of (by decide +kernel) (by decide +kernel), ⟨by decide +kernel, by decide +kernel, by decide +kernel⟩, by decide +kernel, by decide +kernel⟩, lw_g_of (by decide +kernel) (by decide +kernel), lw_g_of (by decide +kernel) (by decide +kernel)⟩
theorem v_X4_undo : CV0 M_X4_undo 0 := ⟨⟨lw_g_of (by decide +kernel) (by decide +kernel), lw_g_of (by decide +kernel) (by decide +kernel), ⟨by decide +kernel, by decide +kernel, by decide +kernel⟩, by decide +kernel, by decide +kernel⟩, lw_g_of (by decide +kernel) (by decide +kernel), lw_g_of (by decide +kernel) (by decide +kernel)⟩
theorem v_X5_undo : CV0 M_X5_undo 0 := ⟨⟨lw_g_of (by decide +kernel) (by decide +kernel), lw_g_of (by decide +kernel) (by decide +kernel), ⟨by decide +kernel, by decide +kernel, by decide +kernel⟩, by decide +kernel, by decide +kernel⟩, lw_g_of (by decide +kernel) (by decide +kernel), lw_g_of (by decide +kernel) (by decide +kernel)⟩
theorem v_X4_keep : CV0 M_X4_keep 1 := ⟨⟨lw_g_of (by decide +kernel) (by decide +kernel), lw_g_of (by decide +kernel) (by decide +kernel), ⟨by decide +kernel, by decide +kernel, by decide +kernel⟩, by decide +kernel, by decide +kernel⟩, lw_g_of (by decide +kernel) (by decide +kernel), lw_g_of (by decide +kernel) (by decide +kernel)⟩
theorem v_X5_isTwo : CS0 M_X5_isTwo 1 := ⟨⟨lw_g_of (by decide +kernel) (by decide +kernel), lw_g_of (by decide +kernel) (by decide +kernel), ⟨by decide +kernel, by decide +kernel, by decide +kernel⟩, by decide +kernel, by decide +kernel⟩, lw_g_of (by decide +kernel) (by decide +kernel)⟩
theorem v_X5_keep : CV0 M_X5_keep 1 := ⟨⟨lw_g_of (by decide +kernel) (by decide +kernel), lw_g_of (by decide +kernel) (by decide +kernel), ⟨by decide +kernel, by decide +kernel, by decide +kernel⟩, by decide +kernel, by decide +kernel⟩, lw_g_of (by decide +kernel) (by decide +kernel), lw_g_of (by decide +kernel) (by decide +kernel)⟩
theorem v_X4_back : CV0 M_X4_back 1 := ⟨⟨lw_g_of (by decide +kernel) (by decide +kernel), lw_g_of (by decide +kernel) (by decide +kernel), ⟨by decide +kernel, by decide +kernel, by decide +kernel⟩, by decide +kernel, by decide +kernel⟩, lw_g_of (by decide +kernel) (by decide +kernel), lw_g_of (by decide +kernel) (by decide +kernel)⟩
theorem v_X5_back : CV0 M_X5_back 1 := ⟨⟨lw_g_of (by decide +kernel) (by decide +kernel), lw_g_of (by decide +kernel) (by decide +kernel), ⟨by decide +kernel, by decide +kernel, by decide +kernel⟩, by decide +kernel, by decide +kernel⟩, lw_g_of (by decide +kernel) (by decide +kernel), lw_g_of (by decide +kernel) (by decide +kernel)⟩
theorem v_X4_foretell : CV0 M_X4_foretell 1 := ⟨⟨lw_g_of (by decide +kernel) (by decide +kernel), lw_g_of (by decide +kernel) (by decide +kernel), ⟨by decide +kernel, by decide +kernel, by decide +kernel⟩, by decide +kernel, by decide +kernel⟩, lw_g_of (by decide +kernel) (by decide +kernel), lw_g_of (by decide +kernel) (by decide +kernel)⟩
theorem v_X3_placeOfEgg : CV0 M_X3_placeOfEgg 1 := ⟨⟨lw_g_of (by decide +kernel) (by decide +kernel), lw_g_of (by decide +kernel) (by decide +kernel), ⟨by decide +kernel, by decide +kernel, by decide +kernel⟩, by decide +kernel, by decide +kernel⟩, lw_g_of (by decide +kernel) (by decide +kernel), lw_g_of (by decide +kernel) (by decide +kernel)⟩
theorem v_X4_lays : CV0 M_X4_lays 2 := ⟨⟨lw_g_of (by decide +kernel) (by decide +kernel), lw_g_of (by decide +kernel) (by decide +kernel), ⟨by decide +kernel, by decide +kernel, by decide +kernel⟩, by decide +kernel, by decide +kernel⟩, lw_g_of (by decide +kernel) (by decide +kernel), lw_g_of (by decide +kernel) (by decide +kernel)⟩
theorem v_X5_layAside : CV0 M_X5_layAside 0 := ⟨⟨lw_g_of (by decide +kernel) (by decide +kernel), lw_g_of (by decide +kernel) (by decide +kernel), ⟨by decide +kernel, by decide +kernel, by decide +kernel⟩, by decide +kernel, by decide +kernel⟩, lw_g_of (by decide +kernel) (by decide +kernel), lw_g_of (by decide +kernel) (by decide +kernel)⟩
theorem v_X5_go : CV0 M_X5_go 1 := ⟨⟨lw_g_of (by decide +kernel) (by decide +kernel), lw_g_of (by decide +kernel) (by decide +kernel), ⟨by decide +kernel, by decide +kernel, by decide +kernel⟩, by decide +kernel, by decide +kernel⟩, lw_g_of (by decide +kernel) (by decide +kernel), lw_g_of (by decide +kernel) (by decide +kernel)⟩
theorem v_X5_lays : CV0 M_X5_lays 2 := ⟨⟨lw_g_of (by decide +kernel) (by decide +kernel), lw_g_of (by decide +kernel) (by decide +kernel), ⟨by decide +kernel, by decide +kernel, by decide +kernel⟩, by decide +kernel, by decide +kernel⟩, lw_g_of (by decide +kernel) (by decide +kernel), lw_g_of (by decide +kernel) (by decide +kernel)⟩
theorem v_X4_rightsForetold : CV0 M_X4_rightsForetold 1 := ⟨⟨lw_g_of (by decide +kernel) (by decide +kernel), lw_g_of (by decide +kernel) (by decide +kernel), ⟨by decide +kernel, by decide +kernel, by decide +kernel⟩, by decide +kernel, by decide +kernel⟩, lw_g_of (by decide +kernel) (by decide +kernel), lw_g_of (by decide +kernel) (by decide +kernel)⟩
theorem v_X4_rights : CV0 M_X4_rights 2 := ⟨⟨lw_g_of (by decide +kernel) (by decide +kernel), lw_g_of (by decide +kernel) (by decide +kernel), ⟨by decide +kernel, by decide +kernel, by decide +kernel⟩, by decide +kernel, by decide +kernel⟩, lw_g_of (by decide +kernel) (by decide +kernel), lw_g_of (by decide +kernel) (by decide +kernel)⟩
theorem v_X5_rights : CV0 M_X5_rights 2 := ⟨⟨lw_g_of (by decide +kernel) (by decide +kernel), lw_g_of (by decide +kernel) (by decide +kernel), ⟨by decide +kernel, by decide +kernel, by decide +kernel⟩, by decide +kernel, by decide +kernel⟩, lw_g_of (by decide +kernel) (by decide +kernel), lw_g_of (by decide +kernel) (by decide +kernel)⟩
theorem v_X4_ask : CV0 M_X4_ask 2 := ⟨⟨lw_g_of (by decide +kernel) (by decide +kernel), lw_g_of (by decide +kernel) (by decide +kernel), ⟨by decide +kernel, by decide +kernel, by decide +kernel⟩, by decide +kernel, by decide +kernel⟩, lw_g_of (by decide +kernel) (by decide +kernel), lw_g_of (by decide +kernel) (by decide +kernel)⟩
theorem v_X5_ask : CV0 M_X5_ask 2 := ⟨⟨lw_g_of (by decide +kernel) (by decide +kernel), lw_g_of (by decide +kernel) (by decide +kernel), ⟨by decide +kernel, by decide +kernel, by decide +kernel⟩, by decide +kernel, by decide +kernel⟩, lw_g_of (by decide +kernel) (by decide +kernel), lw_g_of (by decide +kernel) (by decide +kernel)⟩
theorem v_X4_hitIndex : CS0 M_X4_hitIndex 2 := ⟨⟨lw_g_of (by decide +kernel) (by decide +kernel), lw_g_of (by decide +kernel) (by decide +kernel), ⟨by decide +kernel, by decide +kernel, by decide +kernel⟩, by decide +kernel, by decide +kernel⟩, lw_g_of (by decide +kernel) (by decide +kernel)⟩
theorem v_X4_tallyEggs : CV0 M_X4_tallyEggs 1 := ⟨⟨lw_g_of (by decide +kernel) (by decide +kernel), lw_g_of (by decide +kernel) (by decide +kernel), ⟨by decide +kernel, by decide +kernel, by decide +kernel⟩, by decide +kernel, by decide +kernel⟩, lw_g_of (by decide +kernel) (by decide +kernel), lw_g_of (by decide +kernel) (by decide +kernel)⟩
theorem v_X4_tallyHits : CV0 M_X4_tallyHits 1 := ⟨⟨lw_g_of (by decide +kernel) (by decide +kernel), lw_g_of (by decide +kernel) (by decide +kernel), ⟨by decide +kernel, by decide +kernel, by decide +kernel⟩, by decide +kernel, by decide +kernel⟩, lw_g_of (by decide +kernel) (by decide +kernel), lw_g_of (by decide +kernel) (by decide +kernel)⟩
theorem v_X4_gainOfMove : CV0 M_X4_gainOfMove 2 := ⟨⟨lw_g_of (by decide +kernel) (by decide +kernel), lw_g_of (by decide +kernel) (by decide +kernel), ⟨by decide +kernel, by decide +kernel, by decide +kernel⟩, by decide +kernel, by decide +kernel⟩, lw_g_of (by decide +kernel) (by decide +kernel), lw_g_of (by decide +kernel) (by decide +kernel)⟩
theorem v_X4_trough : CV0 M_X4_trough 1 := ⟨⟨lw_g_of (by decide +kernel) (by decide +kernel), lw_g_of (by decide +kernel) (by decide +kernel), ⟨by decide +kernel, by decide +kernel, by decide +kernel⟩, by decide +kernel, by decide +kernel⟩, lw_g_of (by decide +kernel) (by decide +kernel), lw_g_of (by decide +kernel) (by decide +kernel)⟩
theorem v_X5_rightsOfAll : CV0 M_X5_rightsOfAll 1 := ⟨⟨lw_g_of (by decide +kernel) (by decide +kernel), lw_g_of (by decide +kernel) (by decide +kernel), ⟨by decide +kernel, by decide +kernel, by decide +kernel⟩, by decide +kernel, by decide +kernel⟩, lw_g_of (by decide +kernel) (by decide +kernel), lw_g_of (by decide +kernel) (by decide +kernel)⟩
theorem v_X5_trough : CV0 M_X5_trough 1 := ⟨⟨lw_g_of (by decide +kernel) (by decide +kernel), lw_g_of (by decide +kernel) (by decide +kernel), ⟨by decide +kernel, by decide +kernel, by decide +kernel⟩, by decide +kernel, by decide +kernel⟩, lw_g_of (by decide +kernel) (by decide +kernel), lw_g_of (by decide +kernel) (by decide +kernel)⟩
theorem v_X4_warmth : CV0 M_X4_warmth 2 := ⟨⟨lw_g_of (by decide +kernel) (by decide +kernel), lw_g_of (by decide +kernel) (by decide +kernel), ⟨by decide +kernel, by decide +kernel, by decide +kernel⟩, by decide +kernel, by decide +kernel⟩, lw_g_of (by decide +kernel) (by decide +kernel), lw_g_of (by decide +kernel) (by decide +kernel)⟩
theorem v_X5_warmth : CV0 M_X5_warmth 2 := ⟨⟨lw_g_of (by decide +kernel) (by decide +kernel), lw_g_of (by decide +kernel) (by decide +kernel), ⟨by decide +kernel, by decide +kernel, by decide +kernel⟩, by decide +kernel, by decide +kernel⟩, lw_g_of (by decide +kernel) (by decide +kernel), lw_g_of (by decide +kernel) (by decide +kernel)⟩
theorem v_X0_add : CV0 M_X0_add 3 := ⟨⟨lw_g_of (by decide +kernel) (by decide +kernel), lw_g_of (by decide +kernel) (by decide +kernel), ⟨by decide +kernel, by decide +kernel, by decide +kernel⟩, by decide +kernel, by decide +kernel⟩, lw_g_of (by decide +kernel) (by decide +kernel), lw_g_of (by decide +kernel) (by decide +kernel)⟩
theorem v_X4_seen : CV0 M_X4_seen 3 := ⟨⟨lw_g_of (by decide +kernel) (by decide +kernel), lw_g_of (by decide +kernel) (by decide +kernel), ⟨by decide +kernel, by decide +kernel, by decide +kernel⟩, by decide +kernel, by decide +kernel⟩, lw_g_of (by decide +kernel) (by decide +kernel), lw_g_of (by decide +kernel) (by decide +kernel)⟩
theorem v_X5_seen : CV0 M_X5_seen 3 := ⟨⟨lw_g_of (by decide +kernel) (by decide +kernel), lw_g_of (by decide +kernel) (by decide +kernel), ⟨by decide +kernel, by decide +kernel, by decide +kernel⟩, by decide +kernel, by decide +kernel⟩, lw_g_of (by decide +kernel) (by decide +kernel), lw_g_of (by decide +kernel) (by decide +kernel)⟩
theorem v_X4_forget : CV0 M_X4_forget 0 := ⟨⟨lw_g_of (by decide +kernel) (by decide +kernel), lw_g_of (by decide +kernel) (by decide +kernel), ⟨by decide +kernel, by decide +kernel, by decide +kernel⟩, by decide +kernel, by decide +kernel⟩, lw_g_of (by decide +kernel) (by decide +kernel), lw_g_of (by decide +kernel) (by decide +kernel)⟩
theorem v_X5_forget : CV0 M_X5_forget 0 := ⟨⟨lw_g_of (by decide +kernel) (by decide +kernel), lw_g_of (by decide +kernel) (by decide +kernel), ⟨by decide +kernel, by decide +kernel, by decide +kernel⟩, by decide +kernel, by decide +kernel⟩, lw_g_of (by decide +kernel) (by decide +kernel), lw_g_of (by decide +kernel) (by decide +kernel)⟩
theorem v_J9_max_7cf53 : CS0 M_J9_max_7cf53 2 := ⟨⟨lw_g_of (by decide +kernel) (by decide +kernel), lw_g_of (by decide +kernel) (by decide +kernel), ⟨by decide +kernel, by decide +kernel, by decide +kernel⟩, by decide +kernel, by decide +kernel⟩, lw_g_of (by decide +kernel) (by decide +kernel)⟩
theorem v_X0_lastDayOf : CV0 M_X0_lastDayOf 1 := ⟨⟨lw_g_of (by decide +kernel) (by decide +kernel), lw_g_of (by decide +kernel) (by decide +kernel), ⟨by decide +kernel, by decide +kernel, by decide +kernel⟩, by decide +kernel, by decide +kernel⟩, lw_g_of (by decide +kernel) (by decide +kernel), lw_g_of (by decide +kernel) (by decide +kernel)⟩
theorem v_X0_agree : CV0 M_X0_agree 3 := ⟨⟨lw_g_of (by decide +kernel) (by decide +kernel), lw_g_of (by decide +kernel) (by decide +kernel), ⟨by decide +kernel, by decide +kernel, by decide +kernel⟩, by decide +kernel, by decide +kernel⟩, lw_g_of (by decide +kernel) (by decide +kernel), lw_g_of (by decide +kernel) (by decide +kernel)⟩
theorem v_X4_wouldBeSeen : CV0 M_X4_wouldBeSeen 3 := ⟨⟨lw_g_of (by decide +kernel) (by decide +kernel), lw_g_of (by decide +kernel) (by decide +kernel), ⟨by decide +kernel, by decide +kernel, by decide +kernel⟩, by decide +kernel, by decide +kernel⟩, lw_g_of (by decide +kernel) (by decide +kernel), lw_g_of (by decide +kernel) (by decide +kernel)⟩
theorem v_X4_kinds : CV0 M_X4_kinds 1 := ⟨⟨lw_g_of (by decide +kernel) (by decide +kernel), lw_g_of (by decide +kernel) (by decide +kernel), ⟨by decide +kernel, by decide +kernel, by decide +kernel⟩, by decide +kernel, by decide +kernel⟩, lw_g_of (by decide +kernel) (by decide +kernel), lw_g_of (by decide +kernel) (by decide +kernel)⟩
theorem v_X5_comes : CV0 M_X5_comes 1 := ⟨⟨lw_g_of (by decide +kernel) (by decide +kernel), lw_g_of (by decide +kernel) (by decide +kernel), ⟨by decide +kernel, by decide +kernel, by decide +kernel⟩, by decide +kernel, by decide +kernel⟩, lw_g_of (by decide +kernel) (by decide +kernel), lw_g_of (by decide +kernel) (by decide +kernel)⟩
theorem v_X5_kinds : CV0 M_X5_kinds 1 := ⟨⟨lw_g_of (by decide +kernel) (by decide +kernel), lw_g_of (by decide +kernel) (by decide +kernel), ⟨by decide +kernel, by decide +kernel, by decide +kernel⟩, by decide +kernel, by decide +kernel⟩, lw_g_of (by decide +kernel) (by decide +kernel), lw_g_of (by decide +kernel) (by decide +kernel)⟩
theorem v_X4_habits : CV0 M_X4_habits 1 := ⟨⟨lw_g_of (by decide +kernel) (by decide +kernel), lw_g_of (by decide +kernel) (by decide +kernel), ⟨by decide +kernel, by decide +kernel, by decide +kernel⟩, by decide +kernel, by decide +kernel⟩, lw_g_of (by decide +kernel) (by decide +kernel), lw_g_of (by decide +kernel) (by decide +kernel)⟩
theorem v_X5_habits : CV0 M_X5_habits 1 := ⟨⟨lw_g_of (by decide +kernel) (by decide +kernel), lw_g_of (by decide +kernel) (by decide +kernel), ⟨by decide +kernel, by decide +kernel, by decide +kernel⟩, by decide +kernel, by decide +kernel⟩, lw_g_of (by decide +kernel) (by decide +kernel), lw_g_of (by decide +kernel) (by decide +kernel)⟩
theorem v_X4_daysToFirstRight : CV0 M_X4_daysToFirstRight 2 := ⟨⟨lw_g_of (by decide +kernel) (by decide +kernel), lw_g_of (by decide +kernel) (by decide +kernel), ⟨by decide +kernel, by decide +kernel, by decide +kernel⟩, by decide +kernel, by decide +kernel⟩, lw_g_of (by decide +kernel) (by decide +kernel), lw_g_of (by decide +kernel) (by decide +kernel)⟩
theorem v_X4_power : CS0 M_X4_power 2 := ⟨⟨lw_g_of (by decide +kernel) (by decide +kernel), lw_g_of (by decide +kernel) (by decide +kernel), ⟨by decide +kernel, by decide +kernel, by decide +kernel⟩, by decide +kernel, by decide +kernel⟩, lw_g_of (by decide +kernel) (by decide +kernel)⟩
theorem v_X4_commonDivisor : CS0 M_X4_commonDivisor 2 := ⟨⟨lw_g_of (by decide +kernel) (by decide +kernel), lw_g_of (by decide +kernel) (by decide +kernel), ⟨by decide +kernel, by decide +kernel, by decide +kernel⟩, by decide +kernel, by decide +kernel⟩, lw_g_of (by decide +kernel) (by decide +kernel)⟩
theorem v_X4_foxes : CV0 M_X4_foxes 4 := ⟨⟨lw_g_of (by decide +kernel) (by decide +kernel), lw_g_of (by decide +kernel) (by decide +kernel), ⟨by decide +kernel, by decide +kernel, by decide +kernel⟩, by decide +kernel, by decide +kernel⟩, lw_g_of (by decide +kernel) (by decide +kernel), lw_g_of (by decide +kernel) (by decide +kernel)⟩
theorem v_X5_foxes : CV0 M_X5_foxes 4 := ⟨⟨lw_g_of (by decide +kernel) (by decide +kernel), lw_g_of (by decide +kernel) (by decide +kernel), ⟨by decide +kernel, by decide +kernel, by decide +kernel⟩, by decide +kernel, by decide +kernel⟩, lw_g_of (by decide +kernel) (by decide +kernel), lw_g_of (by decide +kernel) (by decide +kernel)⟩
theorem v_X4_sum : CS0 M_X4_sum 1 := ⟨⟨lw_g_of (by decide +kernel) (by decide +kernel), lw_g_of (by decide +kernel) (by decide +kernel), ⟨by decide +kernel, by decide +kernel, by decide +kernel⟩, by decide +kernel, by decide +kernel⟩, lw_g_of (by decide +kernel) (by decide +kernel)⟩
theorem v_X4_count : CV0 M_X4_count 1 := ⟨⟨lw_g_of (by decide +kernel) (by decide +kernel), lw_g_of (by decide +kernel) (by decide +kernel), ⟨by decide +kernel, by decide +kernel, by decide +kernel⟩, by decide +kernel, by decide +kernel⟩, lw_g_of (by decide +kernel) (by decide +kernel), lw_g_of (by decide +kernel) (by decide +kernel)⟩
theorem v_X5_count : CV0 M_X5_count 1 := ⟨⟨lw_g_of (by decide +kernel) (by decide +kernel), lw_g_of (by decide +kernel) (by decide +kernel), ⟨by decide +kernel, by decide +kernel, by decide +kernel⟩, by decide +kernel, by decide +kernel⟩, lw_g_of (by decide +kernel) (by decide +kernel), lw_g_of (by decide +kernel) (by decide +kernel)⟩
theorem l_X1_3 : Cond.methodLink RX1 3 Lib.objectInit ∈ lw_g := lw_g_of (by decide +kernel) (by decide +kernel)
theorem f_X1_9 : FL RX1 9 1 0 := ⟨_, rfl, by decide, lw_g_of (by decide +kernel) (by decide +kernel)⟩
theorem l_X2_3 : Cond.methodLink RX2 3 Lib.objectInit ∈ lw_g := lw_g_of (by decide +kernel) (by decide +kernel)
theorem f_X2_9 : FL RX2 9 2 2 := ⟨_, rfl, by decide, lw_g_of (by decide +kernel) (by decide +kernel)⟩
theorem f_X2_15 : FL RX2 15 2 3 := ⟨_, rfl, by decide, lw_g_of (by decide +kernel) (by decide +kernel)⟩
theorem f_X2_18 : FL RX2 18 2 4 := ⟨_, rfl, by decide, lw_g_of (by decide +kernel) (by decide +kernel)⟩
theorem f_X2_21 : FL RX2 21 2 5 := ⟨_, rfl, by decide, lw_g_of (by decide +kernel) (by decide +kernel)⟩
theorem f_X2_24 : FL RX2 24 2 6 := ⟨_, rfl, by decide, lw_g_of (by decide +kernel) (by decide +kernel)⟩
theorem f_X2_27 : FL RX2 27 2 7 := ⟨_, rfl, by decide, lw_g_of (by decide +kernel) (by decide +kernel)⟩
theorem l_X2_30 : ML RX2 30 M_J7_fill_53178 := lw_g_of (by decide +kernel) (by decide +kernel)
theorem l_X3_3 : Cond.methodLink RX3 3 Lib.objectInit ∈ lw_g := lw_g_of (by decide +kernel) (by decide +kernel)
theorem f_X3_9 : FL RX3 9 3 0 := ⟨_, rfl, by decide, lw_g_of (by decide +kernel) (by decide +kernel)⟩
theorem f_X3_15 : FL RX3 15 3 1 := ⟨_, rfl, by decide, lw_g_of (by decide +kernel) (by decide +kernel)⟩
theorem f_X3_18 : FL RX3 18 3 2 := ⟨_, rfl, by decide, lw_g_of (by decide +kernel) (by decide +kernel)⟩
theorem f_X3_21 : FL RX3 21 3 3 := ⟨_, rfl, by decide, lw_g_of (by decide +kernel) (by decide +kernel)⟩
theorem f_X3_24 : FL RX3 24 3 4 := ⟨_, rfl, by decide, lw_g_of (by decide +kernel) (by decide +kernel)⟩
theorem f_X3_27 : FL RX3 27 3 5 := ⟨_, rfl, by decide, lw_g_of (by decide +kernel) (by decide +kernel)⟩
theorem f_X3_30 : FL RX3 30 3 6 := ⟨_, rfl, by decide, lw_g_of (by decide +kernel) (by decide +kernel)⟩
theorem f_X3_33 : FL RX3 33 3 7 := ⟨_, rfl, by decide, lw_g_of (by decide +kernel) (by decide +kernel)⟩
theorem f_X3_36 : FL RX3 36 3 8 := ⟨_, rfl, by decide, lw_g_of (by decide +kernel) (by decide +kernel)⟩
theorem l_X3_39 : ML RX3 39 M_J7_fill_53178 := lw_g_of (by decide +kernel) (by decide +kernel)
theorem l_X0_3 : Cond.methodLink RX0 3 Lib.objectInit ∈ lw_g := lw_g_of (by decide +kernel) (by decide +kernel)
theorem f_X0_9 : FL RX0 9 0 0 := ⟨_, rfl, by decide, lw_g_of (by decide +kernel) (by decide +kernel)⟩
theorem f_X0_15 : FL RX0 15 0 1 := ⟨_, rfl, by decide, lw_g_of (by decide +kernel) (by decide +kernel)⟩
theorem f_X0_18 : FL RX0 18 0 2 := ⟨_, rfl, by decide, lw_g_of (by decide +kernel) (by decide +kernel)⟩
theorem l_X4_1 : Cond.methodLink RX4 1 Lib.objectInit ∈ lw_g := lw_g_of (by decide +kernel) (by decide +kernel)
theorem n_X4_7 : Cond.classLink RX4 7 RX1 ∈ lw_g := lw_g_of (by decide +kernel) (by decide +kernel)
theorem f_X4_10 : FL RX4 10 4 0 := ⟨_, rfl, by decide, lw_g_of (by decide +kernel) (by decide +kernel)⟩
theorem n_X4_16 : Cond.classLink RX4 16 RX2 ∈ lw_g := lw_g_of (by decide +kernel) (by decide +kernel)
theorem l_X4_18 : ML RX4 18 M_X2_init := lw_g_of (by decide +kernel) (by decide +kernel)
theorem f_X4_19 : FL RX4 19 4 1 := ⟨_, rfl, by decide, lw_g_of (by decide +kernel) (by decide +kernel)⟩
theorem f_X4_23 : FL RX4 23 4 2 := ⟨_, rfl, by decide, lw_g_of (by decide +kernel) (by decide +kernel)⟩
theorem n_X4_26 : Cond.classLink RX4 26 RX3 ∈ lw_g := lw_g_of (by decide +kernel) (by decide +kernel)
theorem l_X4_28 : ML RX4 28 M_X3_init := lw_g_of (by decide +kernel) (by decide +kernel)
theorem f_X4_29 : FL RX4 29 4 3 := ⟨_, rfl, by decide, lw_g_of (by decide +kernel) (by decide +kernel)⟩
theorem f_X4_33 : FL RX4 33 4 4 := ⟨_, rfl, by decide, lw_g_of (by decide +kernel) (by decide +kernel)⟩
theorem f_X4_36 : FL RX4 36 4 5 := ⟨_, rfl, by decide, lw_g_of (by decide +kernel) (by decide +kernel)⟩
theorem f_X4_40 : FL RX4 40 4 7 := ⟨_, rfl, by decide, lw_g_of (by decide +kernel) (by decide +kernel)⟩
theorem f_X4_43 : FL RX4 43 4 8 := ⟨_, rfl, by decide, lw_g_of (by decide +kernel) (by decide +kernel)⟩
theorem n_X4_47 : Cond.classLink RX4 47 RX0 ∈ lw_g := lw_g_of (by decide +kernel) (by decide +kernel)
theorem f_X4_50 : FL RX4 50 4 9 := ⟨_, rfl, by decide, lw_g_of (by decide +kernel) (by decide +kernel)⟩
theorem f_X4_54 : FL RX4 54 4 10 := ⟨_, rfl, by decide, lw_g_of (by decide +kernel) (by decide +kernel)⟩
theorem f_X5_16 : FL RX5 16 5 2 := ⟨_, rfl, by decide, lw_g_of (by decide +kernel) (by decide +kernel)⟩
theorem f_X5_7 : FL RX5 7 5 0 := ⟨_, rfl, by decide, lw_g_of (by decide +kernel) (by decide +kernel)⟩
theorem f_X5_54 : FL RX5 54 5 4 := ⟨_, rfl, by decide, lw_g_of (by decide +kernel) (by decide +kernel)⟩
theorem f_X5_25 : FL RX5 25 5 6 := ⟨_, rfl, by decide, lw_g_of (by decide +kernel) (by decide +kernel)⟩
theorem f_X5_58 : FL RX5 58 5 10 := ⟨_, rfl, by decide, lw_g_of (by decide +kernel) (by decide +kernel)⟩
theorem l_X5_1 : Cond.methodLink RX5 1 Lib.objectInit ∈ lw_g := lw_g_of (by decide +kernel) (by decide +kernel)
theorem f_X5_13 : FL RX5 13 5 1 := ⟨_, rfl, by decide, lw_g_of (by decide +kernel) (by decide +kernel)⟩
theorem f_X5_19 : FL RX5 19 5 3 := ⟨_, rfl, by decide, lw_g_of (by decide +kernel) (by decide +kernel)⟩
theorem f_X5_22 : FL RX5 22 5 5 := ⟨_, rfl, by decide, lw_g_of (by decide +kernel) (by decide +kernel)⟩
theorem f_X5_29 : FL RX5 29 5 7 := ⟨_, rfl, by decide, lw_g_of (by decide +kernel) (by decide +kernel)⟩
theorem f_X5_32 : FL RX5 32 5 9 := ⟨_, rfl, by decide, lw_g_of (by decide +kernel) (by decide +kernel)⟩
theorem f_X5_35 : FL RX5 35 5 17 := ⟨_, rfl, by decide, lw_g_of (by decide +kernel) (by decide +kernel)⟩
theorem f_X5_38 : FL RX5 38 5 18 := ⟨_, rfl, by decide, lw_g_of (by decide +kernel) (by decide +kernel)⟩
theorem f_X5_41 : FL RX5 41 5 19 := ⟨_, rfl, by decide, lw_g_of (by decide +kernel) (by decide +kernel)⟩
theorem f_X5_44 : FL RX5 44 5 20 := ⟨_, rfl, by decide, lw_g_of (by decide +kernel) (by decide +kernel)⟩
theorem l_X5_47 : ML RX5 47 M_X5_blank := lw_g_of (by decide +kernel) (by decide +kernel)
theorem l_X5_51 : ML RX5 51 M_X5_begins := lw_g_of (by decide +kernel) (by decide +kernel)
theorem f_X1_15 : FL RX1 15 1 1 := ⟨_, rfl, by decide, lw_g_of (by decide +kernel) (by decide +kernel)⟩
theorem f_X4_58 : FL RX4 58 1 1 := ⟨_, rfl, by decide, lw_g_of (by decide +kernel) (by decide +kernel)⟩
theorem l_X4_62 : ML RX4 62 M_X1_append := lw_g_of (by decide +kernel) (by decide +kernel)
theorem k_X5_61 : Cond.constantLong RX5 61 (255) ∈ lw_g := lw_g_of (by decide +kernel) (by decide +kernel)
theorem l_X5_63 : ML RX5 63 M_X5_in := lw_g_of (by decide +kernel) (by decide +kernel)
theorem f_X5_67 : FL RX5 67 5 8 := ⟨_, rfl, by decide, lw_g_of (by decide +kernel) (by decide +kernel)⟩
theorem f_X2_36 : FL RX2 36 2 0 := ⟨_, rfl, by decide, lw_g_of (by decide +kernel) (by decide +kernel)⟩
theorem f_X2_40 : FL RX2 40 2 1 := ⟨_, rfl, by decide, lw_g_of (by decide +kernel) (by decide +kernel)⟩
theorem l_X2_52 : Cond.methodLink RX2 52 arraycopyName ∈ lw_g := lw_g_of (by decide +kernel) (by decide +kernel)
theorem f_X1_22 : FL RX1 22 1 4 := ⟨_, rfl, by decide, lw_g_of (by decide +kernel) (by decide +kernel)⟩
theorem f_X1_29 : FL RX1 29 1 3 := ⟨_, rfl, by decide, lw_g_of (by decide +kernel) (by decide +kernel)⟩
theorem l_X1_110 : ML RX1 110 M_X1_isSmall := lw_g_of (by decide +kernel) (by decide +kernel)
theorem l_X1_106 : ML RX1 106 M_X1_isDigit := lw_g_of (by decide +kernel) (by decide +kernel)
theorem f_J0_38 : Cond.fieldLink RJ0 38 "java/lang/String" "COMPACT_STRINGS" "Z" ∈ lw_g := lw_g_of (by decide +kernel) (by decide +kernel)
theorem f_J0_15 : Cond.fieldLink RJ0 15 "java/lang/String" "coder" "B" ∈ lw_g := lw_g_of (by decide +kernel) (by decide +kernel)
theorem f_J0_9 : Cond.fieldLink RJ0 9 "java/lang/String" "value" "[B" ∈ lw_g := lw_g_of (by decide +kernel) (by decide +kernel)
theorem l_J0_335 : ML RJ0 335 M_J0_coder_7d493 := lw_g_of (by decide +kernel) (by decide +kernel)
theorem f_J0_1053 : Cond.fieldLink RJ0 1053 "jdk/internal/util/Preconditions" "SIOOBE_FORMATTER" "Ljava/util/function/BiFunction;" ∈ lw_g := lw_g_of (by decide +kernel) (by decide +kernel)
theorem l_J0_1059 : ML RJ0 1059 M_J3_checkIndex_8e157 := lw_g_of (by decide +kernel) (by decide +kernel)
theorem l_J1_9 : ML RJ1 9 M_J0_checkIndex_df160 := lw_g_of (by decide +kernel) (by decide +kernel)
theorem l_J0_492 : ML RJ0 492 M_J0_isLatin1_aae02 := lw_g_of (by decide +kernel) (by decide +kernel)
theorem l_J0_495 : ML RJ0 495 M_J1_charAt_3b067 := lw_g_of (by decide +kernel) (by decide +kernel)
theorem l_X1_98 : ML RX1 98 M_J0_length_8abf5 := lw_g_of (by decide +kernel) (by decide +kernel)
theorem l_X1_102 : ML RX1 102 M_J0_charAt_5068e := lw_g_of (by decide +kernel) (by decide +kernel)
theorem l_X2_43 : ML RX2 43 M_X2_clearNews := lw_g_of (by decide +kernel) (by decide +kernel)
theorem l_X1_32 : ML RX1 32 M_X1_nextToken := lw_g_of (by decide +kernel) (by decide +kernel)
theorem l_X1_75 : ML RX1 75 M_X1_nextNumber := lw_g_of (by decide +kernel) (by decide +kernel)
theorem l_X1_79 : ML RX1 79 M_X2_addPlace := lw_g_of (by decide +kernel) (by decide +kernel)
theorem f_X1_83 : FL RX1 83 2 7 := ⟨_, rfl, by decide, lw_g_of (by decide +kernel) (by decide +kernel)⟩
theorem l_X1_37 : ML RX1 37 M_X1_reads := lw_g_of (by decide +kernel) (by decide +kernel)
theorem l_X1_86 : ML RX1 86 M_X2_addHen := lw_g_of (by decide +kernel) (by decide +kernel)
theorem l_X1_41 : ML RX1 41 M_X2_clear := lw_g_of (by decide +kernel) (by decide +kernel)
theorem l_X1_48 : ML RX1 48 M_X2_clearNews := lw_g_of (by decide +kernel) (by decide +kernel)
theorem f_X1_53 : FL RX1 53 2 0 := ⟨_, rfl, by decide, lw_g_of (by decide +kernel) (by decide +kernel)⟩
theorem l_X1_56 : ML RX1 56 M_X1_readPlace := lw_g_of (by decide +kernel) (by decide +kernel)
theorem l_X1_61 : ML RX1 61 M_X1_readNews := lw_g_of (by decide +kernel) (by decide +kernel)
theorem l_X1_64 : ML RX1 64 M_X1_kindRead := lw_g_of (by decide +kernel) (by decide +kernel)
theorem f_X1_68 : FL RX1 68 2 1 := ⟨_, rfl, by decide, lw_g_of (by decide +kernel) (by decide +kernel)⟩
theorem l_X1_71 : ML RX1 71 M_X1_readHen := lw_g_of (by decide +kernel) (by decide +kernel)
theorem f_X1_19 : FL RX1 19 1 2 := ⟨_, rfl, by decide, lw_g_of (by decide +kernel) (by decide +kernel)⟩
theorem l_X1_25 : ML RX1 25 M_X1_readClause := lw_g_of (by decide +kernel) (by decide +kernel)
theorem l_X4_66 : ML RX4 66 M_X2_copyFrom := lw_g_of (by decide +kernel) (by decide +kernel)
theorem l_X4_70 : ML RX4 70 M_X1_readInto := lw_g_of (by decide +kernel) (by decide +kernel)
theorem f_X5_70 : FL RX5 70 5 11 := ⟨_, rfl, by decide, lw_g_of (by decide +kernel) (by decide +kernel)⟩
theorem l_X5_73 : ML RX5 73 M_X5_here := lw_g_of (by decide +kernel) (by decide +kernel)
theorem f_X5_77 : FL RX5 77 5 12 := ⟨_, rfl, by decide, lw_g_of (by decide +kernel) (by decide +kernel)⟩
theorem f_X5_80 : FL RX5 80 5 14 := ⟨_, rfl, by decide, lw_g_of (by decide +kernel) (by decide +kernel)⟩
theorem f_X5_84 : FL RX5 84 5 15 := ⟨_, rfl, by decide, lw_g_of (by decide +kernel) (by decide +kernel)⟩
theorem k_X5_87 : Cond.constantLong RX5 87 (97) ∈ lw_g := lw_g_of (by decide +kernel) (by decide +kernel)
theorem k_X5_89 : Cond.constantLong RX5 89 (122) ∈ lw_g := lw_g_of (by decide +kernel) (by decide +kernel)
theorem k_X5_91 : Cond.constantLong RX5 91 (48) ∈ lw_g := lw_g_of (by decide +kernel) (by decide +kernel)
theorem k_X5_93 : Cond.constantLong RX5 93 (57) ∈ lw_g := lw_g_of (by decide +kernel) (by decide +kernel)
theorem f_X5_95 : FL RX5 95 5 13 := ⟨_, rfl, by decide, lw_g_of (by decide +kernel) (by decide +kernel)⟩
theorem k_X5_98 : Cond.constantLong RX5 98 (256) ∈ lw_g := lw_g_of (by decide +kernel) (by decide +kernel)
theorem k_X5_100 : Cond.constantLong RX5 100 (-1) ∈ lw_g := lw_g_of (by decide +kernel) (by decide +kernel)
theorem l_X5_102 : ML RX5 102 M_X5_step := lw_g_of (by decide +kernel) (by decide +kernel)
theorem l_X5_105 : ML RX5 105 M_X5_number := lw_g_of (by decide +kernel) (by decide +kernel)
theorem k_X5_109 : Cond.constantLong RX5 109 (2036429412) ∈ lw_g := lw_g_of (by decide +kernel) (by decide +kernel)
theorem l_X5_111 : ML RX5 111 M_X5_anew := lw_g_of (by decide +kernel) (by decide +kernel)
theorem k_X5_115 : Cond.constantLong RX5 115 (482854658917) ∈ lw_g := lw_g_of (by decide +kernel) (by decide +kernel)
theorem l_X5_117 : ML RX5 117 M_X5_readsPlace := lw_g_of (by decide +kernel) (by decide +kernel)
theorem k_X5_120 : Cond.constantLong RX5 120 (1852143475) ∈ lw_g := lw_g_of (by decide +kernel) (by decide +kernel)
theorem l_X5_122 : ML RX5 122 M_X5_readsNews := lw_g_of (by decide +kernel) (by decide +kernel)
theorem k_X5_125 : Cond.constantLong RX5 125 (1667329133) ∈ lw_g := lw_g_of (by decide +kernel) (by decide +kernel)
theorem l_X5_127 : ML RX5 127 M_X5_calm := lw_g_of (by decide +kernel) (by decide +kernel)
theorem k_X5_130 : Cond.constantLong RX5 130 (465491813746) ∈ lw_g := lw_g_of (by decide +kernel) (by decide +kernel)
theorem k_X5_132 : Cond.constantLong RX5 132 (108243635364985) ∈ lw_g := lw_g_of (by decide +kernel) (by decide +kernel)
theorem k_X5_134 : Cond.constantLong RX5 134 (123649632527732) ∈ lw_g := lw_g_of (by decide +kernel) (by decide +kernel)
theorem k_X5_136 : Cond.constantLong RX5 136 (426953502305) ∈ lw_g := lw_g_of (by decide +kernel) (by decide +kernel)
theorem l_X5_138 : ML RX5 138 M_X5_readsHen := lw_g_of (by decide +kernel) (by decide +kernel)
theorem l_X5_141 : ML RX5 141 M_X5_copies := lw_g_of (by decide +kernel) (by decide +kernel)
theorem f_X5_145 : FL RX5 145 5 16 := ⟨_, rfl, by decide, lw_g_of (by decide +kernel) (by decide +kernel)⟩
theorem l_X5_148 : ML RX5 148 M_X5_readsClause := lw_g_of (by decide +kernel) (by decide +kernel)
theorem l_X5_151 : ML RX5 151 M_X5_reads := lw_g_of (by decide +kernel) (by decide +kernel)
theorem f_X3_45 : FL RX3 45 2 2 := ⟨_, rfl, by decide, lw_g_of (by decide +kernel) (by decide +kernel)⟩
theorem l_X3_48 : Cond.methodLink RX3 48 arraycopyName ∈ lw_g := lw_g_of (by decide +kernel) (by decide +kernel)
theorem f_X3_54 : FL RX3 54 2 3 := ⟨_, rfl, by decide, lw_g_of (by decide +kernel) (by decide +kernel)⟩
theorem f_X3_55 : FL RX3 55 2 5 := ⟨_, rfl, by decide, lw_g_of (by decide +kernel) (by decide +kernel)⟩
theorem f_X3_56 : FL RX3 56 2 6 := ⟨_, rfl, by decide, lw_g_of (by decide +kernel) (by decide +kernel)⟩
theorem f_X3_57 : FL RX3 57 3 9 := ⟨_, rfl, by decide, lw_g_of (by decide +kernel) (by decide +kernel)⟩
theorem f_X3_61 : FL RX3 61 3 10 := ⟨_, rfl, by decide, lw_g_of (by decide +kernel) (by decide +kernel)⟩
theorem f_X3_65 : FL RX3 65 3 11 := ⟨_, rfl, by decide, lw_g_of (by decide +kernel) (by decide +kernel)⟩
theorem f_X3_68 : FL RX3 68 3 12 := ⟨_, rfl, by decide, lw_g_of (by decide +kernel) (by decide +kernel)⟩
theorem f_X3_71 : FL RX3 71 3 13 := ⟨_, rfl, by decide, lw_g_of (by decide +kernel) (by decide +kernel)⟩
theorem l_X4_74 : ML RX4 74 M_X3_beginAs := lw_g_of (by decide +kernel) (by decide +kernel)
theorem f_X4_77 : FL RX4 77 0 3 := ⟨_, rfl, by decide, lw_g_of (by decide +kernel) (by decide +kernel)⟩
theorem f_X4_80 : FL RX4 80 4 6 := ⟨_, rfl, by decide, lw_g_of (by decide +kernel) (by decide +kernel)⟩
theorem f_X4_83 : FL RX4 83 1 2 := ⟨_, rfl, by decide, lw_g_of (by decide +kernel) (by decide +kernel)⟩
theorem f_X4_127 : FL RX4 127 2 0 := ⟨_, rfl, by decide, lw_g_of (by decide +kernel) (by decide +kernel)⟩
theorem l_X4_86 : ML RX4 86 M_X4_isPlace := lw_g_of (by decide +kernel) (by decide +kernel)
theorem f_X4_90 : FL RX4 90 3 0 := ⟨_, rfl, by decide, lw_g_of (by decide +kernel) (by decide +kernel)⟩
theorem f_X4_93 : FL RX4 93 3 1 := ⟨_, rfl, by decide, lw_g_of (by decide +kernel) (by decide +kernel)⟩
theorem f_X4_96 : FL RX4 96 2 4 := ⟨_, rfl, by decide, lw_g_of (by decide +kernel) (by decide +kernel)⟩
theorem f_X4_99 : FL RX4 99 3 2 := ⟨_, rfl, by decide, lw_g_of (by decide +kernel) (by decide +kernel)⟩
theorem l_X5_163 : ML RX5 163 M_X5_isPlace := lw_g_of (by decide +kernel) (by decide +kernel)
theorem f_X4_177 : FL RX4 177 2 1 := ⟨_, rfl, by decide, lw_g_of (by decide +kernel) (by decide +kernel)⟩
theorem l_X4_102 : ML RX4 102 M_X4_isHen := lw_g_of (by decide +kernel) (by decide +kernel)
theorem f_X4_105 : FL RX4 105 3 4 := ⟨_, rfl, by decide, lw_g_of (by decide +kernel) (by decide +kernel)⟩
theorem f_X4_108 : FL RX4 108 3 5 := ⟨_, rfl, by decide, lw_g_of (by decide +kernel) (by decide +kernel)⟩
theorem f_X4_111 : FL RX4 111 3 6 := ⟨_, rfl, by decide, lw_g_of (by decide +kernel) (by decide +kernel)⟩
theorem f_X4_114 : FL RX4 114 3 7 := ⟨_, rfl, by decide, lw_g_of (by decide +kernel) (by decide +kernel)⟩
theorem f_X4_117 : FL RX4 117 3 8 := ⟨_, rfl, by decide, lw_g_of (by decide +kernel) (by decide +kernel)⟩
theorem l_X5_166 : ML RX5 166 M_X5_isHen := lw_g_of (by decide +kernel) (by decide +kernel)
theorem f_X4_120 : FL RX4 120 2 7 := ⟨_, rfl, by decide, lw_g_of (by decide +kernel) (by decide +kernel)⟩
theorem k_X5_169 : Cond.constantLong RX5 169 (13) ∈ lw_g := lw_g_of (by decide +kernel) (by decide +kernel)
theorem f_X3_100 : FL RX3 100 2 4 := ⟨_, rfl, by decide, lw_g_of (by decide +kernel) (by decide +kernel)⟩
theorem f_X3_93 : FL RX3 93 2 0 := ⟨_, rfl, by decide, lw_g_of (by decide +kernel) (by decide +kernel)⟩
theorem l_X4_123 : ML RX4 123 M_X4_isUnder := lw_g_of (by decide +kernel) (by decide +kernel)
theorem l_X4_130 : ML RX4 130 M_X3_likes := lw_g_of (by decide +kernel) (by decide +kernel)
theorem k_X5_171 : Cond.constantLong RX5 171 (4) ∈ lw_g := lw_g_of (by decide +kernel) (by decide +kernel)
theorem l_X5_173 : ML RX5 173 M_X5_asTold := lw_g_of (by decide +kernel) (by decide +kernel)
theorem l_X5_155 : ML RX5 155 M_X5_likes := lw_g_of (by decide +kernel) (by decide +kernel)
theorem l_X4_213 : ML RX4 213 M_X4_dropOldest := lw_g_of (by decide +kernel) (by decide +kernel)
theorem l_X4_163 : ML RX4 163 M_X3_copyFrom := lw_g_of (by decide +kernel) (by decide +kernel)
theorem l_X3_96 : ML RX3 96 M_X3_likes := lw_g_of (by decide +kernel) (by decide +kernel)
theorem l_X2_46 : ML RX2 46 M_J9_floorMod_7cf53 := lw_g_of (by decide +kernel) (by decide +kernel)
theorem f_X3_74 : FL RX3 74 2 1 := ⟨_, rfl, by decide, lw_g_of (by decide +kernel) (by decide +kernel)⟩
theorem l_X3_77 : ML RX3 77 M_X3_laysToday := lw_g_of (by decide +kernel) (by decide +kernel)
theorem l_X3_81 : ML RX3 81 M_X3_favourite := lw_g_of (by decide +kernel) (by decide +kernel)
theorem l_X3_85 : ML RX3 85 M_X2_newsOf := lw_g_of (by decide +kernel) (by decide +kernel)
theorem l_X3_89 : ML RX3 89 M_X3_layEgg := lw_g_of (by decide +kernel) (by decide +kernel)
theorem f_X4_134 : FL RX4 134 3 9 := ⟨_, rfl, by decide, lw_g_of (by decide +kernel) (by decide +kernel)⟩
theorem l_X4_137 : ML RX4 137 M_X4_remember := lw_g_of (by decide +kernel) (by decide +kernel)
theorem l_X4_140 : ML RX4 140 M_X3_passDay := lw_g_of (by decide +kernel) (by decide +kernel)
theorem l_X4_143 : ML RX4 143 M_X3_eggBits := lw_g_of (by decide +kernel) (by decide +kernel)
theorem k_X5_154 : Cond.constant RX5 154 (-1000000) ∈ lw_g := lw_g_of (by decide +kernel) (by decide +kernel)
theorem l_X5_159 : ML RX5 159 M_X5_bestOf := lw_g_of (by decide +kernel) (by decide +kernel)
theorem l_X5_176 : ML RX5 176 M_X5_remember := lw_g_of (by decide +kernel) (by decide +kernel)
theorem l_X5_179 : ML RX5 179 M_X5_goes := lw_g_of (by decide +kernel) (by decide +kernel)
theorem f_X4_147 : FL RX4 147 3 10 := ⟨_, rfl, by decide, lw_g_of (by decide +kernel) (by decide +kernel)⟩
theorem k_X5_183 : Cond.constantLong RX5 183 (9) ∈ lw_g := lw_g_of (by decide +kernel) (by decide +kernel)
theorem l_X5_185 : ML RX5 185 M_X5_moves := lw_g_of (by decide +kernel) (by decide +kernel)
theorem f_X4_151 : FL RX4 151 3 11 := ⟨_, rfl, by decide, lw_g_of (by decide +kernel) (by decide +kernel)⟩
theorem f_X4_154 : FL RX4 154 3 12 := ⟨_, rfl, by decide, lw_g_of (by decide +kernel) (by decide +kernel)⟩
theorem f_X4_157 : FL RX4 157 3 13 := ⟨_, rfl, by decide, lw_g_of (by decide +kernel) (by decide +kernel)⟩
theorem f_X4_160 : FL RX4 160 3 3 := ⟨_, rfl, by decide, lw_g_of (by decide +kernel) (by decide +kernel)⟩
theorem l_X5_189 : ML RX5 189 M_X5_isTwo := lw_g_of (by decide +kernel) (by decide +kernel)
theorem l_X4_166 : ML RX4 166 M_X4_foretell := lw_g_of (by decide +kernel) (by decide +kernel)
theorem l_X4_170 : ML RX4 170 M_X3_placeOfEgg := lw_g_of (by decide +kernel) (by decide +kernel)
theorem k_X5_192 : Cond.constantLong RX5 192 (30) ∈ lw_g := lw_g_of (by decide +kernel) (by decide +kernel)
theorem l_X5_194 : ML RX5 194 M_X5_layAside := lw_g_of (by decide +kernel) (by decide +kernel)
theorem l_X5_197 : ML RX5 197 M_X5_go := lw_g_of (by decide +kernel) (by decide +kernel)
theorem l_X4_174 : ML RX4 174 M_X4_rightsForetold := lw_g_of (by decide +kernel) (by decide +kernel)
theorem l_X4_228 : ML RX4 228 M_X4_hitIndex := lw_g_of (by decide +kernel) (by decide +kernel)
theorem l_X4_216 : ML RX4 216 M_J7_fill_53178 := lw_g_of (by decide +kernel) (by decide +kernel)
theorem l_X4_222 : ML RX4 222 M_X2_newsOf := lw_g_of (by decide +kernel) (by decide +kernel)
theorem l_X4_225 : ML RX4 225 M_X4_tallyEggs := lw_g_of (by decide +kernel) (by decide +kernel)
theorem l_X4_180 : ML RX4 180 M_X4_tallyHits := lw_g_of (by decide +kernel) (by decide +kernel)
theorem l_X4_183 : ML RX4 183 M_X4_gainOfMove := lw_g_of (by decide +kernel) (by decide +kernel)
theorem k_X5_201 : Cond.constantLong RX5 201 (20) ∈ lw_g := lw_g_of (by decide +kernel) (by decide +kernel)
theorem l_X5_203 : ML RX5 203 M_X5_rightsOfAll := lw_g_of (by decide +kernel) (by decide +kernel)
theorem f_X0_21 : FL RX0 21 0 3 := ⟨_, rfl, by decide, lw_g_of (by decide +kernel) (by decide +kernel)⟩
theorem l_X4_187 : ML RX4 187 M_X0_add := lw_g_of (by decide +kernel) (by decide +kernel)
theorem k_X5_206 : Cond.constantLong RX5 206 (14) ∈ lw_g := lw_g_of (by decide +kernel) (by decide +kernel)
theorem l_X0_25 : ML RX0 25 M_J9_max_7cf53 := lw_g_of (by decide +kernel) (by decide +kernel)
theorem l_X4_231 : ML RX4 231 M_X0_lastDayOf := lw_g_of (by decide +kernel) (by decide +kernel)
theorem l_X4_234 : ML RX4 234 M_X0_agree := lw_g_of (by decide +kernel) (by decide +kernel)
theorem l_X4_191 : ML RX4 191 M_X4_wouldBeSeen := lw_g_of (by decide +kernel) (by decide +kernel)
theorem l_X5_208 : ML RX5 208 M_X5_comes := lw_g_of (by decide +kernel) (by decide +kernel)
theorem l_X4_195 : ML RX4 195 M_X4_daysToFirstRight := lw_g_of (by decide +kernel) (by decide +kernel)
theorem l_X4_198 : ML RX4 198 M_X4_power := lw_g_of (by decide +kernel) (by decide +kernel)
theorem l_X4_201 : ML RX4 201 M_X4_commonDivisor := lw_g_of (by decide +kernel) (by decide +kernel)
theorem l_X4_204 : ML RX4 204 M_J9_max_7cf53 := lw_g_of (by decide +kernel) (by decide +kernel)
theorem k_X5_211 : Cond.constantLong RX5 211 (6) ∈ lw_g := lw_g_of (by decide +kernel) (by decide +kernel)
theorem k_X5_213 : Cond.constantLong RX5 213 (10) ∈ lw_g := lw_g_of (by decide +kernel) (by decide +kernel)
theorem l_X4_209 : ML RX4 209 M_X4_sum := lw_g_of (by decide +kernel) (by decide +kernel)
theorem n_L_7 : Cond.classLink RL 7 RX4 ∈ lw_g := lw_g_of (by decide +kernel) (by decide +kernel)
theorem l_L_9 : ML RL 9 M_X4_init := lw_g_of (by decide +kernel) (by decide +kernel)
theorem n_L_10 : Cond.classLink RL 10 RX5 ∈ lw_g := lw_g_of (by decide +kernel) (by decide +kernel)
theorem l_L_12 : ML RL 12 M_X5_init := lw_g_of (by decide +kernel) (by decide +kernel)
theorem l_L_13 : ML RL 13 M_X4_write := lw_g_of (by decide +kernel) (by decide +kernel)
theorem l_L_17 : ML RL 17 M_X5_write := lw_g_of (by decide +kernel) (by decide +kernel)
theorem l_L_18 : ML RL 18 M_X4_erase := lw_g_of (by decide +kernel) (by decide +kernel)
theorem l_L_22 : ML RL 22 M_X5_erase := lw_g_of (by decide +kernel) (by decide +kernel)
theorem l_L_23 : ML RL 23 M_X4_fault := lw_g_of (by decide +kernel) (by decide +kernel)
theorem l_L_26 : ML RL 26 M_X5_fault := lw_g_of (by decide +kernel) (by decide +kernel)
theorem l_L_27 : ML RL 27 M_X4_yard := lw_g_of (by decide +kernel) (by decide +kernel)
theorem l_L_30 : ML RL 30 M_X5_yard := lw_g_of (by decide +kernel) (by decide +kernel)
theorem l_L_31 : ML RL 31 M_X4_place := lw_g_of (by decide +kernel) (by decide +kernel)
theorem l_L_35 : ML RL 35 M_X5_place := lw_g_of (by decide +kernel) (by decide +kernel)
theorem l_L_36 : ML RL 36 M_X4_hen := lw_g_of (by decide +kernel) (by decide +kernel)
theorem l_L_39 : ML RL 39 M_X5_hen := lw_g_of (by decide +kernel) (by decide +kernel)
theorem l_L_40 : ML RL 40 M_X4_news := lw_g_of (by decide +kernel) (by decide +kernel)
theorem l_L_43 : ML RL 43 M_X5_news := lw_g_of (by decide +kernel) (by decide +kernel)
theorem l_L_44 : ML RL 44 M_X4_as := lw_g_of (by decide +kernel) (by decide +kernel)
theorem l_L_47 : ML RL 47 M_X5_as := lw_g_of (by decide +kernel) (by decide +kernel)
theorem l_L_48 : ML RL 48 M_X4_day := lw_g_of (by decide +kernel) (by decide +kernel)
theorem l_L_51 : ML RL 51 M_X5_day := lw_g_of (by decide +kernel) (by decide +kernel)
theorem l_L_52 : ML RL 52 M_X4_thunder := lw_g_of (by decide +kernel) (by decide +kernel)
theorem l_L_55 : ML RL 55 M_X5_thunder := lw_g_of (by decide +kernel) (by decide +kernel)
theorem l_L_56 : ML RL 56 M_X4_straw := lw_g_of (by decide +kernel) (by decide +kernel)
theorem l_L_59 : ML RL 59 M_X5_straw := lw_g_of (by decide +kernel) (by decide +kernel)
theorem l_L_60 : ML RL 60 M_X4_move := lw_g_of (by decide +kernel) (by decide +kernel)
theorem l_L_63 : ML RL 63 M_X5_move := lw_g_of (by decide +kernel) (by decide +kernel)
theorem l_L_64 : ML RL 64 M_X4_eat := lw_g_of (by decide +kernel) (by decide +kernel)
theorem l_L_67 : ML RL 67 M_X5_eat := lw_g_of (by decide +kernel) (by decide +kernel)
theorem l_L_68 : ML RL 68 M_X4_heed := lw_g_of (by decide +kernel) (by decide +kernel)
theorem l_L_71 : ML RL 71 M_X5_heed := lw_g_of (by decide +kernel) (by decide +kernel)
theorem l_L_72 : ML RL 72 M_X4_undo := lw_g_of (by decide +kernel) (by decide +kernel)
theorem l_L_75 : ML RL 75 M_X5_undo := lw_g_of (by decide +kernel) (by decide +kernel)
theorem l_L_76 : ML RL 76 M_X4_keep := lw_g_of (by decide +kernel) (by decide +kernel)
theorem l_L_79 : ML RL 79 M_X5_keep := lw_g_of (by decide +kernel) (by decide +kernel)
theorem l_L_80 : ML RL 80 M_X4_back := lw_g_of (by decide +kernel) (by decide +kernel)
theorem l_L_83 : ML RL 83 M_X5_back := lw_g_of (by decide +kernel) (by decide +kernel)
theorem l_L_84 : ML RL 84 M_X4_lays := lw_g_of (by decide +kernel) (by decide +kernel)
theorem l_L_87 : ML RL 87 M_X5_lays := lw_g_of (by decide +kernel) (by decide +kernel)
theorem l_L_88 : ML RL 88 M_X4_rights := lw_g_of (by decide +kernel) (by decide +kernel)
theorem l_L_91 : ML RL 91 M_X5_rights := lw_g_of (by decide +kernel) (by decide +kernel)
theorem l_L_92 : ML RL 92 M_X4_ask := lw_g_of (by decide +kernel) (by decide +kernel)
theorem l_L_95 : ML RL 95 M_X5_ask := lw_g_of (by decide +kernel) (by decide +kernel)
theorem l_L_96 : ML RL 96 M_X4_trough := lw_g_of (by decide +kernel) (by decide +kernel)
theorem l_L_99 : ML RL 99 M_X5_trough := lw_g_of (by decide +kernel) (by decide +kernel)
theorem l_L_100 : ML RL 100 M_X4_warmth := lw_g_of (by decide +kernel) (by decide +kernel)
theorem l_L_103 : ML RL 103 M_X5_warmth := lw_g_of (by decide +kernel) (by decide +kernel)
theorem l_L_104 : ML RL 104 M_X4_seen := lw_g_of (by decide +kernel) (by decide +kernel)
theorem l_L_108 : ML RL 108 M_X5_seen := lw_g_of (by decide +kernel) (by decide +kernel)
theorem l_L_109 : ML RL 109 M_X4_forget := lw_g_of (by decide +kernel) (by decide +kernel)
theorem l_L_112 : ML RL 112 M_X5_forget := lw_g_of (by decide +kernel) (by decide +kernel)
theorem l_L_113 : ML RL 113 M_X4_kinds := lw_g_of (by decide +kernel) (by decide +kernel)
theorem l_L_116 : ML RL 116 M_X5_kinds := lw_g_of (by decide +kernel) (by decide +kernel)
theorem l_L_117 : ML RL 117 M_X4_habits := lw_g_of (by decide +kernel) (by decide +kernel)
theorem l_L_120 : ML RL 120 M_X5_habits := lw_g_of (by decide +kernel) (by decide +kernel)
theorem l_L_121 : ML RL 121 M_X4_foxes := lw_g_of (by decide +kernel) (by decide +kernel)
theorem l_L_125 : ML RL 125 M_X5_foxes := lw_g_of (by decide +kernel) (by decide +kernel)
theorem l_L_126 : ML RL 126 M_X4_count := lw_g_of (by decide +kernel) (by decide +kernel)
theorem l_L_129 : ML RL 129 M_X5_count := lw_g_of (by decide +kernel) (by decide +kernel)
theorem i_X0 : Cond.instantiable RX0 4 ∈ lw_g ∧ Cond.initialized RX0 ∈ lw_g := ⟨lw_g_of (by decide +kernel) (by decide +kernel), lw_g_of (by decide +kernel) (by decide +kernel)⟩
theorem i_X1 : Cond.instantiable RX1 5 ∈ lw_g ∧ Cond.initialized RX1 ∈ lw_g := ⟨lw_g_of (by decide +kernel) (by decide +kernel), lw_g_of (by decide +kernel) (by decide +kernel)⟩
theorem i_X2 : Cond.instantiable RX2 8 ∈ lw_g ∧ Cond.initialized RX2 ∈ lw_g := ⟨lw_g_of (by decide +kernel) (by decide +kernel), lw_g_of (by decide +kernel) (by decide +kernel)⟩
theorem i_X3 : Cond.instantiable RX3 14 ∈ lw_g ∧ Cond.initialized RX3 ∈ lw_g := ⟨lw_g_of (by decide +kernel) (by decide +kernel), lw_g_of (by decide +kernel) (by decide +kernel)⟩
theorem i_X4 : Cond.instantiable RX4 11 ∈ lw_g ∧ Cond.initialized RX4 ∈ lw_g := ⟨lw_g_of (by decide +kernel) (by decide +kernel), lw_g_of (by decide +kernel) (by decide +kernel)⟩
theorem i_X5 : Cond.instantiable RX5 21 ∈ lw_g ∧ Cond.initialized RX5 ∈ lw_g := ⟨lw_g_of (by decide +kernel) (by decide +kernel), lw_g_of (by decide +kernel) (by decide +kernel)⟩
end
section
/-! the decompiled methods' operations: none where the machine would throw -/
def FU : Nat := 1000
def OkA {α : Type} (x : Option α) (p : α → Prop) : Prop := ∃ a, x = some a ∧ p a
theorem ok_some {α : Type} {a : α} {p : α → Prop} (h : OkA (some a) p) : p a := by
  obtain ⟨b, e, hp⟩ := h
  cases e
  exact hp
theorem ok_none {α : Type} {p : α → Prop} : ¬ OkA (none : Option α) p := by
  rintro ⟨b, e, -⟩
  cases e
theorem ok_bind {α β : Type} {x : Option α} {f : α → Option β} {p : β → Prop} (h : OkA (Option.bind x f) p) : ∃ a, x = some a ∧ OkA (f a) p := by
  cases x with
  | none => exact absurd h ok_none
  | some a => exact ⟨a, rfl, h⟩
theorem ok_assoc {α β : Type} {x : Option α} {f : α → Option β} {p : β → Prop} {X : α → Prop} (h : OkA (Option.bind x f) p) (k : ∀ a, OkA (f a) p → X a) : OkA x X := by
  obtain ⟨a, e, h⟩ := ok_bind h
  exact ⟨a, e, k a h⟩
theorem ro_reg {α β : Type} {x : Option α} {f : α → Option β} {p : β → Prop} {X : α → Prop} {g : Prop} (h : OkA (Option.bind x f) p) (k : ∀ a, OkA (f a) p → X a) (k2 : OkA x X → g) : g := k2 (ok_assoc h k)
theorem ro_arm {β : Type} {c : Prop} [Decidable c] {a b : Option β} {p : β → Prop} {g : Prop} (h : OkA (if c then a else b) p) (kt : c → OkA a p → g) (kf : ¬ c → OkA b p → g) : g := by
  by_cases hc : c
  · rw [if_pos hc] at h
    exact kt hc h
  · rw [if_neg hc] at h
    exact kf hc h
def ckO (h : AH) (o ci : Nat) : Option Unit := if o < hN h ∧ hS h o = (ci, nfO ci) then some () else none
def gtI (h : AH) (o ci k : Nat) : Option Int32 := if o < hN h ∧ hS h o = (ci, nfO ci) then some (hI h o k) else none
def gtL (h : AH) (o ci k : Nat) : Option Int64 := if o < hN h ∧ hS h o = (ci, nfO ci) then some (hL h o k) else none
def gtR (h : AH) (o ci k : Nat) : Option Nat := if o < hN h ∧ hS h o = (ci, nfO ci) then hR h o k else none
def ptI (h : AH) (o ci k : Nat) (v : Int32) : Option AH := if o < hN h ∧ hS h o = (ci, nfO ci) then some (sI h o k v) else none
def ptZ (h : AH) (o ci k : Nat) (v : Int32) : Option AH := if (o < hN h ∧ hS h o = (ci, nfO ci)) ∧ (v = 0 ∨ v = 1) then some (sI h o k v) else none
def ptL (h : AH) (o ci k : Nat) (v : Int64) : Option AH := if o < hN h ∧ hS h o = (ci, nfO ci) then some (sL h o k v) else none
def ptR (h : AH) (o ci k : Nat) (v : Nat) : Option AH := if o < hN h ∧ hS h o = (ci, nfO ci) then some (sR h o k (some v)) else none
def inB (x : Int32) (n : Nat) : Bool := !(decide (x < 0)) && decide (x.toNatClampNeg < n)
theorem inB_in {x : Int32} {n : Nat} (h : inB x n = true) : vp_in x n := by
  unfold inB at h
  simp only [Bool.and_eq_true, Bool.not_eq_true', decide_eq_false_iff_not, decide_eq_true_eq] at h
  intro z
  rcases z with z | z
  · exact h.1 z
  · omega
def ldA (h : AH) (o t : Nat) (x : Int32) : Option Int32 := if (o < hN h ∧ (hS h o).1 = t) ∧ inB x (hS h o).2 = true then some (hI h o x.toNatClampNeg) else none
def stA (h : AH) (o t : Nat) (x v : Int32) : Option AH := if (o < hN h ∧ (hS h o).1 = t) ∧ inB x (hS h o).2 = true then some (sI h o x.toNatClampNeg v) else none
def ldR (h : AH) (o : Nat) (x : Int32) : Option Nat := if (o < hN h ∧ (hS h o).1 = 13) ∧ inB x (hS h o).2 = true then hR h o x.toNatClampNeg else none
def stR (h : AH) (o : Nat) (x : Int32) (v : Nat) : Option AH := if ((o < hN h ∧ (hS h o).1 = 13) ∧ inB x (hS h o).2 = true) ∧ (v < hN h ∧ hS h v = (3, 14)) then some (sR h o x.toNatClampNeg (some v)) else none
def lnA (h : AH) (o : Nat) : Option Int32 := if o < hN h ∧ (hS h o).1 = 10 then some (nI (hS h o).2) else none
def cpA (h : AH) (o1 : Nat) (sp : Int32) (o2 : Nat) (dp n : Int32) : Option AH := if ((o1 < hN h ∧ (hS h o1).1 = 10) ∧ (o2 < hN h ∧ (hS h o2).1 = 10)) ∧ ((¬ sp < 0 ∧ ¬ dp < 0 ∧ ¬ n < 0) ∧ (sp.toNatClampNeg + n.toNatClampNeg ≤ (hS h o1).2 ∧ dp.toNatClampNeg + n.toNatClampNeg ≤ (hS h o2).2)) then some (sA h o2 (va_cpy (hI h o1) (hI h o2) sp.toNatClampNeg dp.toNatClampNeg n.toNatClampNeg)) else none
def dvI (x y : Int32) : Option Int32 := if y = 0 then none else some (x / y)
def rmI (x y : Int32) : Option Int32 := if y = 0 then none else some (x - x / y * y)
def dvL (x y : Int64) : Option Int64 := if y = 0 then none else some (x / y)
def rmL (x y : Int64) : Option Int64 := if y = 0 then none else some (x - x / y * y)
def scr (ln : Nat) (xs : Nat → Int32) (x : Int32) : Option Int32 := if inB x ln = true then some (xs x.toNatClampNeg) else none
def sAt (i : Nat) (x : Int32) : Option Int32 := if inB x (stL.getD i 0) = true then some ((stB.getD i []).getD x.toNatClampNeg 0) else none
def bz (x : Int32) : Option Int32 := if x = 0 ∨ x = 1 then some x else none
def chI (x : Int32) : Int32 := (x.toUInt32 % 65536).toInt32
theorem Is.of {h : AH} {o t : Nat} (hc : o < hN h ∧ (hS h o).1 = t) : Is h o t (hS h o).2 := ⟨hc.1, by rw [← hc.2]⟩
theorem ok_ck2 {β : Type} {h : AH} {o ci : Nat} {f : Unit → Option β} {p : β → Prop} (hf : OkA (Option.bind (ckO h o ci) f) p) : Is h o ci (nfO ci) ∧ OkA (f ()) p := by
  obtain ⟨a, e, hf⟩ := ok_bind hf
  unfold ckO at e
  split at e
  next hc => exact ⟨hc, hf⟩
  next => cases e
theorem ok_ck {β : Type} {h : AH} {o ci : Nat} {f : Unit → Option β} {p : β → Prop} (hf : OkA (Option.bind (ckO h o ci) f) p) : Is h o ci (nfO ci) := (ok_ck2 hf).1
section RO
variable {G : WG} {M M' : MD} {cu : Nat × Nat} {pc : Nat} {lv lv' : List (Nat × Value)} {st : List Value} {h : AH} {post : PO} {β : Type} {P : β → Prop}
theorem rn_take (ps : List Nat) (hv : ps.filterMap (fun i => lv[i]?) = lv') (k : Rn G M cu pc lv' st h post) : Rn G M cu pc lv st h post := by
  refine rn_lv (fun q hq => ?_) k
  rw [← hv] at hq
  obtain ⟨i, -, hi⟩ := List.mem_filterMap.mp hq
  exact List.mem_of_getElem? hi
theorem ro_zret {x : Int32} {f : Int32 → Option β} (hd : decode (mC M) pc = .ok (.ireturn, 1)) (ht : mT M = some .boolean) (hx : xq M cu) (hf : OkA (Option.bind (bz x) f) P) (k : ∀ v, OkA (f v) P → post (some v) h) : Rn G M cu pc lv [.int x] h post := by
  obtain ⟨v, e, hf⟩ := ok_bind hf
  unfold bz at e
  split at e
  next hc =>
    cases e
    refine rn_iret .boolean hd ht ?_ hx (k _ hf)
    rcases hc with hc | hc <;> subst hc <;> rfl
  next => cases e
theorem ro_gtI (q : Nat) {idx ci k o : Nat} {f : Int32 → Option β} (hd : decode (mC M) pc = .ok (.getfield idx, 3)) (hq : pc + 3 = q) (hfl : FL (mY M).cls idx ci k) (ht : ftc ci k = 0) (hf : OkA (Option.bind (gtI h o ci k) f) P) (kk : ∀ v : Int32, OkA (f v) P → Rn G M cu q lv (.int v :: st) h post) : Rn G M cu pc lv (.ref (ad G o) :: st) h post := by
  obtain ⟨v, e, hf⟩ := ok_bind hf
  unfold gtI at e
  split at e
  next hc => cases e; exact rn_getI q hd hq hfl ht hc (kk _ hf)
  next => cases e
theorem ro_gtL (q : Nat) {idx ci k o : Nat} {f : Int64 → Option β} (hd : decode (mC M) pc = .ok (.getfield idx, 3)) (hq : pc + 3 = q) (hfl : FL (mY M).cls idx ci k) (ht : ftc ci k = 2) (hf : OkA (Option.bind (gtL h o ci k) f) P) (kk : ∀ v : Int64, OkA (f v) P → Rn G M cu q lv (.long v :: st) h post) : Rn G M cu pc lv (.ref (ad G o) :: st) h post := by
  obtain ⟨v, e, hf⟩ := ok_bind hf
  unfold gtL at e
  split at e
  next hc => cases e; exact rn_getL q hd hq hfl ht hc (kk _ hf)
  next => cases e
theorem ro_gtR (q : Nat) {idx ci k o : Nat} {f : Nat → Option β} (hd : decode (mC M) pc = .ok (.getfield idx, 3)) (hq : pc + 3 = q) (hfl : FL (mY M).cls idx ci k) (ht : ftc ci k = 1) (hf : OkA (Option.bind (gtR h o ci k) f) P) (kk : ∀ v : Nat, OkA (f v) P → Rn G M cu q lv (.ref (ad G v) :: st) h post) : Rn G M cu pc lv (.ref (ad G o) :: st) h post := by
  obtain ⟨v, e, hf⟩ := ok_bind hf
  unfold gtR at e
  split at e
  next hc => exact rn_getR q v hd hq hfl ht hc e (kk _ hf)
  next => cases e
theorem ro_ptI (q : Nat) {idx ci k o : Nat} {x : Int32} {f : AH → Option β} (hd : decode (mC M) pc = .ok (.putfield idx, 3)) (hq : pc + 3 = q) (hfl : FL (mY M).cls idx ci k) (hfin : PF M ci k) (ht : ftc ci k = 0) (hn : narrow (tyO ci k) (.int x) = .int x) (hfit : fits (tyO ci k) (.int x) = true) (hf : OkA (Option.bind (ptI h o ci k x) f) P) (kk : ∀ h1 : AH, OkA (f h1) P → Rn G M cu q lv st h1 post) : Rn G M cu pc lv (.int x :: .ref (ad G o) :: st) h post := by
  obtain ⟨h1, e, hf⟩ := ok_bind hf
  unfold ptI at e
  split at e
  next hc => cases e; exact rn_putI q hd hq hfl hfin ht hc hn hfit (kk _ hf)
  next => cases e
theorem ro_ptL (q : Nat) {idx ci k o : Nat} {x : Int64} {f : AH → Option β} (hd : decode (mC M) pc = .ok (.putfield idx, 3)) (hq : pc + 3 = q) (hfl : FL (mY M).cls idx ci k) (hfin : PF M ci k) (ht : ftc ci k = 2) (hn : narrow (tyO ci k) (.long x) = .long x) (hfit : fits (tyO ci k) (.long x) = true) (hf : OkA (Option.bind (ptL h o ci k x) f) P) (kk : ∀ h1 : AH, OkA (f h1) P → Rn G M cu q lv st h1 post) : Rn G M cu pc lv (.long x :: .ref (ad G o) :: st) h post := by
  obtain ⟨h1, e, hf⟩ := ok_bind hf
  unfold ptL at e
  split at e
  next hc => cases e; exact rn_putL q hd hq hfl hfin ht hc hn hfit (kk _ hf)
  next => cases e
theorem ro_ptR (q : Nat) {idx ci k o v : Nat} {f : AH → Option β} (hd : decode (mC M) pc = .ok (.putfield idx, 3)) (hq : pc + 3 = q) (hfl : FL (mY M).cls idx ci k) (hfin : PF M ci k) (ht : ftc ci k = 1) (hf : OkA (Option.bind (ptR h o ci k v) f) P) (kk : ∀ h1 : AH, OkA (f h1) P → Rn G M cu q lv st h1 post) : Rn G M cu pc lv (.ref (ad G v) :: .ref (ad G o) :: st) h post := by
  obtain ⟨h1, e, hf⟩ := ok_bind hf
  unfold ptR at e
  split at e
  next hc => cases e; exact rn_putR q hd hq hfl hfin ht hc (kk _ hf)
  next => cases e
theorem ro_ptZ (q : Nat) {idx ci k o : Nat} {x : Int32} {f : AH → Option β} (hd : decode (mC M) pc = .ok (.putfield idx, 3)) (hq : pc + 3 = q) (hfl : FL (mY M).cls idx ci k) (hfin : PF M ci k) (ht : ftc ci k = 0) (hty : tyO ci k = .boolean) (hf : OkA (Option.bind (ptZ h o ci k x) f) P) (kk : ∀ h1 : AH, OkA (f h1) P → Rn G M cu q lv st h1 post) : Rn G M cu pc lv (.int x :: .ref (ad G o) :: st) h post := by
  obtain ⟨h1, e, hf⟩ := ok_bind hf
  unfold ptZ at e
  split at e
  next hc => cases e; exact rn_putI q hd hq hfl hfin ht hc.1 (by rw [hty]; rcases hc.2 with z | z <;> subst z <;> rfl) (by rw [hty]; rcases hc.2 with z | z <;> subst z <;> rfl) (kk _ hf)
  next => cases e
theorem ro_iaload (q : Nat) {o : Nat} {x : Int32} {f : Int32 → Option β} (hd : decode (mC M) pc = .ok (.iaload, 1)) (hq : pc + 1 = q) (hf : OkA (Option.bind (ldA h o 10 x) f) P) (kk : ∀ v : Int32, OkA (f v) P → Rn G M cu q lv (.int v :: st) h post) : Rn G M cu pc lv (.int x :: .ref (ad G o) :: st) h post := by
  obtain ⟨v, e, hf⟩ := ok_bind hf
  unfold ldA at e
  split at e
  next hc => cases e; exact rn_iald q hd hq (Is.of hc.1) (inB_in hc.2) (kk _ hf)
  next => cases e
theorem ro_caload (q : Nat) {o : Nat} {x : Int32} {f : Int32 → Option β} (hd : decode (mC M) pc = .ok (.caload, 1)) (hq : pc + 1 = q) (hf : OkA (Option.bind (ldA h o 11 x) f) P) (kk : ∀ v : Int32, OkA (f v) P → Rn G M cu q lv (.int v :: st) h post) : Rn G M cu pc lv (.int x :: .ref (ad G o) :: st) h post := by
  obtain ⟨v, e, hf⟩ := ok_bind hf
  unfold ldA at e
  split at e
  next hc => cases e; exact rn_cald q hd hq (Is.of hc.1) (inB_in hc.2) (kk _ hf)
  next => cases e
theorem ro_baload (q : Nat) {o : Nat} {x : Int32} {f : Int32 → Option β} (hd : decode (mC M) pc = .ok (.baload, 1)) (hq : pc + 1 = q) (hf : OkA (Option.bind (ldA h o 12 x) f) P) (kk : ∀ v : Int32, OkA (f v) P → Rn G M cu q lv (.int v :: st) h post) : Rn G M cu pc lv (.int x :: .ref (ad G o) :: st) h post := by
  obtain ⟨v, e, hf⟩ := ok_bind hf
  unfold ldA at e
  split at e
  next hc => cases e; exact rn_zald q hd hq (Is.of hc.1) (inB_in hc.2) (kk _ hf)
  next => cases e
theorem ro_iastore (q : Nat) {o : Nat} {i x : Int32} {f : AH → Option β} (hd : decode (mC M) pc = .ok (.iastore, 1)) (hq : pc + 1 = q) (hf : OkA (Option.bind (stA h o 10 i x) f) P) (kk : ∀ h1 : AH, OkA (f h1) P → Rn G M cu q lv st h1 post) : Rn G M cu pc lv (.int x :: .int i :: .ref (ad G o) :: st) h post := by
  obtain ⟨h1, e, hf⟩ := ok_bind hf
  unfold stA at e
  split at e
  next hc => cases e; exact rn_iast q hd hq (Is.of hc.1) (inB_in hc.2) (kk _ hf)
  next => cases e
theorem ro_castore (q : Nat) {o : Nat} {i x : Int32} {f : AH → Option β} (hd : decode (mC M) pc = .ok (.castore, 1)) (hq : pc + 1 = q) (hf : OkA (Option.bind (stA h o 11 i (vp_nar .char x)) f) P) (kk : ∀ h1 : AH, OkA (f h1) P → Rn G M cu q lv st h1 post) : Rn G M cu pc lv (.int x :: .int i :: .ref (ad G o) :: st) h post := by
  obtain ⟨h1, e, hf⟩ := ok_bind hf
  unfold stA at e
  split at e
  next hc => cases e; exact rn_cast q hd hq (Is.of hc.1) (inB_in hc.2) (kk _ hf)
  next => cases e
theorem ro_bastore (q : Nat) {o : Nat} {i x : Int32} {f : AH → Option β} (hd : decode (mC M) pc = .ok (.bastore, 1)) (hq : pc + 1 = q) (hf : OkA (Option.bind (stA h o 12 i (vp_nar .boolean x)) f) P) (kk : ∀ h1 : AH, OkA (f h1) P → Rn G M cu q lv st h1 post) : Rn G M cu pc lv (.int x :: .int i :: .ref (ad G o) :: st) h post := by
  obtain ⟨h1, e, hf⟩ := ok_bind hf
  unfold stA at e
  split at e
  next hc => cases e; exact rn_zast q hd hq (Is.of hc.1) (inB_in hc.2) (kk _ hf)
  next => cases e
theorem ro_aaload (q : Nat) {o : Nat} {x : Int32} {f : Nat → Option β} (hd : decode (mC M) pc = .ok (.aaload, 1)) (hq : pc + 1 = q) (hf : OkA (Option.bind (ldR h o x) f) P) (kk : ∀ v : Nat, OkA (f v) P → Rn G M cu q lv (.ref (ad G v) :: st) h post) : Rn G M cu pc lv (.int x :: .ref (ad G o) :: st) h post := by
  obtain ⟨v, e, hf⟩ := ok_bind hf
  unfold ldR at e
  split at e
  next hc => exact rn_aald q v hd hq (Is.of hc.1) (inB_in hc.2) e (kk _ hf)
  next => cases e
theorem ro_aastore (q : Nat) {o v : Nat} {i : Int32} {f : AH → Option β} (hd : decode (mC M) pc = .ok (.aastore, 1)) (hq : pc + 1 = q) (hf : OkA (Option.bind (stR h o i v) f) P) (kk : ∀ h1 : AH, OkA (f h1) P → Rn G M cu q lv st h1 post) : Rn G M cu pc lv (.ref (ad G v) :: .int i :: .ref (ad G o) :: st) h post := by
  obtain ⟨h1, e, hf⟩ := ok_bind hf
  unfold stR at e
  split at e
  next hc => cases e; exact rn_aast q hd hq (Is.of hc.1.1) (inB_in hc.1.2) (nv := 14) hc.2 (kk _ hf)
  next => cases e
theorem ro_arraylength (q : Nat) {o : Nat} {f : Int32 → Option β} (hd : decode (mC M) pc = .ok (.arraylength, 1)) (hq : pc + 1 = q) (hf : OkA (Option.bind (lnA h o) f) P) (kk : ∀ v : Int32, OkA (f v) P → Rn G M cu q lv (.int v :: st) h post) : Rn G M cu pc lv (.ref (ad G o) :: st) h post := by
  obtain ⟨v, e, hf⟩ := ok_bind hf
  unfold lnA at e
  split at e
  next hc => cases e; exact rn_alen q hd hq (Is.of hc) (kk _ hf)
  next => cases e
theorem ro_copy (q : Nat) {idx o1 o2 : Nat} {sp dp n : Int32} {f : AH → Option β} (hd : decode (mC M) pc = .ok (.invokestatic idx, 3)) (hq : pc + 3 = q) (hw : Cond.methodLink (mY M).cls idx arraycopyName ∈ lw_g) (hrm : 1 ≤ (mR M).frames ∧ (st.map fun v => v.category).sum + (nativeFrameWords "java/lang/System" "arraycopy" 5 + 11) ≤ (mR M).locals) (hf : OkA (Option.bind (cpA h o1 sp o2 dp n) f) P) (kk : ∀ h1 : AH, OkA (f h1) P → Rn G M cu q lv st h1 post) : Rn G M cu pc lv (.int n :: .int dp :: .ref (ad G o2) :: .int sp :: .ref (ad G o1) :: st) h post := by
  obtain ⟨h1, e, hf⟩ := ok_bind hf
  unfold cpA at e
  split at e
  next hc => cases e; exact rn_copy q hd hq hw hrm (Is.of hc.1.1) (Is.of hc.1.2) hc.2.1.1 hc.2.1.2.1 hc.2.1.2.2 hc.2.2.1 hc.2.2.2 (kk _ hf)
  next => cases e
theorem ro_idiv (q : Nat) {x y : Int32} {f : Int32 → Option β} (hd : decode (mC M) pc = .ok (.idiv, 1)) (hq : pc + 1 = q) (hf : OkA (Option.bind (dvI x y) f) P) (kk : ∀ v : Int32, OkA (f v) P → Rn G M cu q lv (.int v :: st) h post) : Rn G M cu pc lv (.int y :: .int x :: st) h post := by
  obtain ⟨v, e, hf⟩ := ok_bind hf
  unfold dvI at e
  split at e
  next => cases e
  next hc => cases e; exact rn_idiv q hd hq hc (kk _ hf)
theorem ro_irem (q : Nat) {x y : Int32} {f : Int32 → Option β} (hd : decode (mC M) pc = .ok (.irem, 1)) (hq : pc + 1 = q) (hf : OkA (Option.bind (rmI x y) f) P) (kk : ∀ v : Int32, OkA (f v) P → Rn G M cu q lv (.int v :: st) h post) : Rn G M cu pc lv (.int y :: .int x :: st) h post := by
  obtain ⟨v, e, hf⟩ := ok_bind hf
  unfold rmI at e
  split at e
  next => cases e
  next hc => cases e; exact rn_irem q hd hq hc (kk _ hf)
theorem ro_ldiv (q : Nat) {x y : Int64} {f : Int64 → Option β} (hd : decode (mC M) pc = .ok (.ldiv, 1)) (hq : pc + 1 = q) (hf : OkA (Option.bind (dvL x y) f) P) (kk : ∀ v : Int64, OkA (f v) P → Rn G M cu q lv (.long v :: st) h post) : Rn G M cu pc lv (.long y :: .long x :: st) h post := by
  obtain ⟨v, e, hf⟩ := ok_bind hf
  unfold dvL at e
  split at e
  next => cases e
  next hc => cases e; exact rn_ldiv q hd hq hc (kk _ hf)
theorem ro_lrem (q : Nat) {x y : Int64} {f : Int64 → Option β} (hd : decode (mC M) pc = .ok (.lrem, 1)) (hq : pc + 1 = q) (hf : OkA (Option.bind (rmL x y) f) P) (kk : ∀ v : Int64, OkA (f v) P → Rn G M cu q lv (.long v :: st) h post) : Rn G M cu pc lv (.long y :: .long x :: st) h post := by
  obtain ⟨v, e, hf⟩ := ok_bind hf
  unfold rmL at e
  split at e
  next => cases e
  next hc => cases e; exact rn_lrem q hd hq hc (kk _ hf)
theorem ro_scr (q : Nat) {x : Int32} {f : Int32 → Option β} (hd : decode (mC M) pc = .ok (.iaload, 1)) (hq : pc + 1 = q) (hf : OkA (Option.bind (scr (gLn G) (gXs G) x) f) P) (kk : ∀ v : Int32, OkA (f v) P → Rn G M cu q lv (.int v :: st) h post) : Rn G M cu pc lv (.int x :: .ref (gB G) :: st) h post := by
  obtain ⟨v, e, hf⟩ := ok_bind hf
  unfold scr at e
  split at e
  next hc => cases e; exact rn_scr q hd hq (inB_in hc) (kk _ hf)
  next => cases e
theorem ro_newa (q tag : Nat) {n : Int32} {N : Nat} {at0 : ArrayType} {f : AH → Option β} (hd : decode (mC M) pc = .ok (.newarray at0, 2)) (hq : pc + 2 = q) (htag : (tag = 10 ∧ newarray.typeOf at0 = .int) ∨ (tag = 11 ∧ newarray.typeOf at0 = .char) ∨ (tag = 12 ∧ newarray.typeOf at0 = .boolean)) (hn : ¬ n < 0) (hNn : n.toNatClampNeg = N) (hb : N ≤ 1000) (hc : cu.1 + 1 ≤ (mR M).cells) (hs : cu.2 + N ≤ (mR M).slots) (hf : OkA (Option.bind (some (sN h tag N)) f) P) (kk : ∀ h1, OkA (f h1) P → Rn G M (cu.1 + 1, cu.2 + N) q lv (.ref (ad G (hN h)) :: st) h1 post) : Rn G M cu pc lv (.int n :: st) h post := by
  obtain ⟨h1, e, hf⟩ := ok_bind hf
  cases e
  exact rn_newa q tag hd hq htag hn hNn hb hc hs (kk _ hf)
theorem ro_newq (q : Nat) {n : Int32} {N idx : Nat} {f : AH → Option β} (hd : decode (mC M) pc = .ok (.anewarray idx, 3)) (hq : pc + 3 = q) (hw : Cond.classLink (mY M).cls idx RX3 ∈ lw_g) (hn : ¬ n < 0) (hNn : n.toNatClampNeg = N) (hb : N ≤ 1000) (hc : cu.1 + 1 ≤ (mR M).cells) (hs : cu.2 + N ≤ (mR M).slots) (hf : OkA (Option.bind (some (sN h 13 N)) f) P) (kk : ∀ h1, OkA (f h1) P → Rn G M (cu.1 + 1, cu.2 + N) q lv (.ref (ad G (hN h)) :: st) h1 post) : Rn G M cu pc lv (.int n :: st) h post := by
  obtain ⟨h1, e, hf⟩ := ok_bind hf
  cases e
  exact rn_newq q hd hq hw hn hNn hb hc hs (kk _ hf)
theorem ro_new (q ci : Nat) {idx N : Nat} {f : AH → Option β} (hd : decode (mC M) pc = .ok (.new idx, 3)) (hq : pc + 3 = q) (hw : ∃ r : vw_C, vwCl[ci]? = some r ∧ Cond.classLink (mY M).cls idx r.1 ∈ lw_g ∧ Cond.instantiable r.1 r.2.2 ∈ lw_g ∧ Cond.initialized r.1 ∈ lw_g) (hN0 : nfO ci = N) (hc : cu.1 + 1 ≤ (mR M).cells) (hs : cu.2 + N ≤ (mR M).slots) (hf : OkA (Option.bind (some (sN h ci N)) f) P) (kk : ∀ h1, OkA (f h1) P → Rn G M (cu.1 + 1, cu.2 + N) q lv (.ref (ad G (hN h)) :: st) h1 post) : Rn G M cu pc lv st h post := by
  subst hN0
  obtain ⟨h1, e, hf⟩ := ok_bind hf
  cases e
  exact rn_new q ci hd hq hw hc hs (kk _ hf)
theorem ro_icmp_eq (t q : Nat) {x y : Int32} {off : Int} {a b : Option β} (hd : decode (mC M) pc = .ok (.if_icmp .eq off, 3)) (ht : (pc : Int) + off = (t : Int)) (hq : pc + 3 = q) (hf : OkA (if x = y then a else b) P) (kt : OkA a P → Rn G M cu t lv st h post) (kf : OkA b P → Rn G M cu q lv st h post) : Rn G M cu pc lv (.int y :: .int x :: st) h post := by
  by_cases hc : x = y
  · rw [if_pos hc] at hf
    exact rn_icmp_eq t q hd ht hq (fun _ => kt hf) (fun z => (z hc).elim)
  · rw [if_neg hc] at hf
    exact rn_icmp_eq t q hd ht hq (fun z => absurd z hc) (fun _ => kf hf)
theorem ro_if_eq (t q : Nat) {x : Int32} {off : Int} {a b : Option β} (hd : decode (mC M) pc = .ok (.ifCond .eq off, 3)) (ht : (pc : Int) + off = (t : Int)) (hq : pc + 3 = q) (hf : OkA (if x = 0 then a else b) P) (kt : OkA a P → Rn G M cu t lv st h post) (kf : OkA b P → Rn G M cu q lv st h post) : Rn G M cu pc lv (.int x :: st) h post := by
  by_cases hc : x = 0
  · rw [if_pos hc] at hf
    exact rn_if_eq t q hd ht hq (fun _ => kt hf) (fun z => absurd hc z)
  · rw [if_neg hc] at hf
    exact rn_if_eq t q hd ht hq (fun z => absurd z hc) (fun _ => kf hf)
theorem ro_icmp_ne (t q : Nat) {x y : Int32} {off : Int} {a b : Option β} (hd : decode (mC M) pc = .ok (.if_icmp .ne off, 3)) (ht : (pc : Int) + off = (t : Int)) (hq : pc + 3 = q) (hf : OkA (if ¬ x = y then a else b) P) (kt : OkA a P → Rn G M cu t lv st h post) (kf : OkA b P → Rn G M cu q lv st h post) : Rn G M cu pc lv (.int y :: .int x :: st) h post := by
  by_cases hc : ¬ x = y
  · rw [if_pos hc] at hf
    exact rn_icmp_ne t q hd ht hq (fun _ => kt hf) (fun z => (hc z).elim)
  · rw [if_neg hc] at hf
    exact rn_icmp_ne t q hd ht hq (fun z => absurd z hc) (fun _ => kf hf)
theorem ro_if_ne (t q : Nat) {x : Int32} {off : Int} {a b : Option β} (hd : decode (mC M) pc = .ok (.ifCond .ne off, 3)) (ht : (pc : Int) + off = (t : Int)) (hq : pc + 3 = q) (hf : OkA (if ¬ x = 0 then a else b) P) (kt : OkA a P → Rn G M cu t lv st h post) (kf : OkA b P → Rn G M cu q lv st h post) : Rn G M cu pc lv (.int x :: st) h post := by
  by_cases hc : ¬ x = 0
  · rw [if_pos hc] at hf
    exact rn_if_ne t q hd ht hq (fun _ => kt hf) (fun z => absurd z hc)
  · rw [if_neg hc] at hf
    exact rn_if_ne t q hd ht hq (fun z => absurd z hc) (fun _ => kf hf)
theorem ro_icmp_lt (t q : Nat) {x y : Int32} {off : Int} {a b : Option β} (hd : decode (mC M) pc = .ok (.if_icmp .lt off, 3)) (ht : (pc : Int) + off = (t : Int)) (hq : pc + 3 = q) (hf : OkA (if x < y then a else b) P) (kt : OkA a P → Rn G M cu t lv st h post) (kf : OkA b P → Rn G M cu q lv st h post) : Rn G M cu pc lv (.int y :: .int x :: st) h post := by
  by_cases hc : x < y
  · rw [if_pos hc] at hf
    exact rn_icmp_lt t q hd ht hq (fun _ => kt hf) (fun z => (z hc).elim)
  · rw [if_neg hc] at hf
    exact rn_icmp_lt t q hd ht hq (fun z => absurd z hc) (fun _ => kf hf)
theorem ro_if_lt (t q : Nat) {x : Int32} {off : Int} {a b : Option β} (hd : decode (mC M) pc = .ok (.ifCond .lt off, 3)) (ht : (pc : Int) + off = (t : Int)) (hq : pc + 3 = q) (hf : OkA (if x < 0 then a else b) P) (kt : OkA a P → Rn G M cu t lv st h post) (kf : OkA b P → Rn G M cu q lv st h post) : Rn G M cu pc lv (.int x :: st) h post := by
  by_cases hc : x < 0
  · rw [if_pos hc] at hf
    exact rn_if_lt t q hd ht hq (fun _ => kt hf) (fun z => absurd hc z)
  · rw [if_neg hc] at hf
    exact rn_if_lt t q hd ht hq (fun z => absurd z hc) (fun _ => kf hf)
theorem ro_icmp_ge (t q : Nat) {x y : Int32} {off : Int} {a b : Option β} (hd : decode (mC M) pc = .ok (.if_icmp .ge off, 3)) (ht : (pc : Int) + off = (t : Int)) (hq : pc + 3 = q) (hf : OkA (if y ≤ x then a else b) P) (kt : OkA a P → Rn G M cu t lv st h post) (kf : OkA b P → Rn G M cu q lv st h post) : Rn G M cu pc lv (.int y :: .int x :: st) h post := by
  by_cases hc : y ≤ x
  · rw [if_pos hc] at hf
    exact rn_icmp_ge t q hd ht hq (fun _ => kt hf) (fun z => (z hc).elim)
  · rw [if_neg hc] at hf
    exact rn_icmp_ge t q hd ht hq (fun z => absurd z hc) (fun _ => kf hf)
theorem ro_if_ge (t q : Nat) {x : Int32} {off : Int} {a b : Option β} (hd : decode (mC M) pc = .ok (.ifCond .ge off, 3)) (ht : (pc : Int) + off = (t : Int)) (hq : pc + 3 = q) (hf : OkA (if 0 ≤ x then a else b) P) (kt : OkA a P → Rn G M cu t lv st h post) (kf : OkA b P → Rn G M cu q lv st h post) : Rn G M cu pc lv (.int x :: st) h post := by
  by_cases hc : 0 ≤ x
  · rw [if_pos hc] at hf
    exact rn_if_ge t q hd ht hq (fun _ => kt hf) (fun z => absurd hc z)
  · rw [if_neg hc] at hf
    exact rn_if_ge t q hd ht hq (fun z => absurd z hc) (fun _ => kf hf)
theorem ro_icmp_gt (t q : Nat) {x y : Int32} {off : Int} {a b : Option β} (hd : decode (mC M) pc = .ok (.if_icmp .gt off, 3)) (ht : (pc : Int) + off = (t : Int)) (hq : pc + 3 = q) (hf : OkA (if y < x then a else b) P) (kt : OkA a P → Rn G M cu t lv st h post) (kf : OkA b P → Rn G M cu q lv st h post) : Rn G M cu pc lv (.int y :: .int x :: st) h post := by
  by_cases hc : y < x
  · rw [if_pos hc] at hf
    exact rn_icmp_gt t q hd ht hq (fun _ => kt hf) (fun z => (z hc).elim)
  · rw [if_neg hc] at hf
    exact rn_icmp_gt t q hd ht hq (fun z => absurd z hc) (fun _ => kf hf)
theorem ro_if_gt (t q : Nat) {x : Int32} {off : Int} {a b : Option β} (hd : decode (mC M) pc = .ok (.ifCond .gt off, 3)) (ht : (pc : Int) + off = (t : Int)) (hq : pc + 3 = q) (hf : OkA (if 0 < x then a else b) P) (kt : OkA a P → Rn G M cu t lv st h post) (kf : OkA b P → Rn G M cu q lv st h post) : Rn G M cu pc lv (.int x :: st) h post := by
  by_cases hc : 0 < x
  · rw [if_pos hc] at hf
    exact rn_if_gt t q hd ht hq (fun _ => kt hf) (fun z => absurd hc z)
  · rw [if_neg hc] at hf
    exact rn_if_gt t q hd ht hq (fun z => absurd z hc) (fun _ => kf hf)
theorem ro_icmp_le (t q : Nat) {x y : Int32} {off : Int} {a b : Option β} (hd : decode (mC M) pc = .ok (.if_icmp .le off, 3)) (ht : (pc : Int) + off = (t : Int)) (hq : pc + 3 = q) (hf : OkA (if x ≤ y then a else b) P) (kt : OkA a P → Rn G M cu t lv st h post) (kf : OkA b P → Rn G M cu q lv st h post) : Rn G M cu pc lv (.int y :: .int x :: st) h post := by
  by_cases hc : x ≤ y
  · rw [if_pos hc] at hf
    exact rn_icmp_le t q hd ht hq (fun _ => kt hf) (fun z => (z hc).elim)
  · rw [if_neg hc] at hf
    exact rn_icmp_le t q hd ht hq (fun z => absurd z hc) (fun _ => kf hf)
theorem ro_if_le (t q : Nat) {x : Int32} {off : Int} {a b : Option β} (hd : decode (mC M) pc = .ok (.ifCond .le off, 3)) (ht : (pc : Int) + off = (t : Int)) (hq : pc + 3 = q) (hf : OkA (if x ≤ 0 then a else b) P) (kt : OkA a P → Rn G M cu t lv st h post) (kf : OkA b P → Rn G M cu q lv st h post) : Rn G M cu pc lv (.int x :: st) h post := by
  by_cases hc : x ≤ 0
  · rw [if_pos hc] at hf
    exact rn_if_le t q hd ht hq (fun _ => kt hf) (fun z => absurd hc z)
  · rw [if_neg hc] at hf
    exact rn_if_le t q hd ht hq (fun z => absurd z hc) (fun _ => kf hf)
theorem ro_cVv {o ci : Nat} {As : List Value} {Fc : Option (AH)} {f : AH → Option β} (q : Nat) (cu' : Nat × Nat) {idx n : Nat} (hd : decode (mC M) pc = .ok (.invokevirtual idx, 3)) (hq : pc + 3 = q) (hl0 : ML (mY M).cls idx M') (hw : CV0 M' n) (hrm : rmOK M M') (ht : mT M' = none) (hn : As.length = n) (hst : (st.map fun v => v.category).sum ≤ 8) (hlen : (lg_sl (.ref (ad G o) :: As)).length ≤ mL M') (hcu : cuOK M M' cu cu') (hf : OkA (Option.bind Fc f) P) (hck : ∀ X, OkA Fc X → Is h o ci (nfO ci)) (hci : (vwCl[ci]?).map (fun r => r.1) = some (mY M').cls) (T : ∀ X : PO, OkA Fc (fun r => X none r) → Rn G M' (0, 0) 0 (lv_args 0 (.ref (ad G o) :: As)) [] h X) (kk : ∀ r, OkA (f r) P → Rn G M cu' q lv st r post) : Rn G M cu pc lv (As.reverse ++ .ref (ad G o) :: st) h post := by
  have hf1 : OkA Fc (fun r => Rn G M cu' q lv st r post) := ok_assoc hf kk
  exact rn_cVv q cu' hd hq hl0 hw hrm ht (hck _ hf1) hci hn hst hlen hcu (T _ hf1)
theorem ro_cVp {o ci : Nat} {As : List Value} {Fc : Option (Int32)} {f : Int32 → Option β} (q : Nat) (cu' : Nat × Nat) {idx n : Nat} (hd : decode (mC M) pc = .ok (.invokevirtual idx, 3)) (hq : pc + 3 = q) (hl0 : ML (mY M).cls idx M') (hw : CV0 M' n) (hrm : rmOK M M') {ty : FieldType} (ht : mT M' = some ty) (hn : As.length = n) (hst : (st.map fun v => v.category).sum ≤ 8) (hlen : (lg_sl (.ref (ad G o) :: As)).length ≤ mL M') (hcu : cuOK M M' cu cu') (hf : OkA (Option.bind Fc f) P) (hck : ∀ X, OkA Fc X → Is h o ci (nfO ci)) (hci : (vwCl[ci]?).map (fun r => r.1) = some (mY M').cls) (T : ∀ X : PO, OkA Fc (fun r => X (some r) h) → Rn G M' (0, 0) 0 (lv_args 0 (.ref (ad G o) :: As)) [] h X) (kk : ∀ r, OkA (f r) P → Rn G M cu' q lv (.int r :: st) h post) : Rn G M cu pc lv (As.reverse ++ .ref (ad G o) :: st) h post := by
  have hf1 : OkA Fc (fun r => Rn G M cu' q lv (.int r :: st) h post) := ok_assoc hf kk
  exact rn_cVi q cu' hd hq hl0 hw hrm ht (hck _ hf1) hci hn hst hlen hcu (T _ hf1)
theorem ro_cVi {o ci : Nat} {As : List Value} {Fc : Option (Int32 × AH)} {f : Int32 × AH → Option β} (q : Nat) (cu' : Nat × Nat) {idx n : Nat} (hd : decode (mC M) pc = .ok (.invokevirtual idx, 3)) (hq : pc + 3 = q) (hl0 : ML (mY M).cls idx M') (hw : CV0 M' n) (hrm : rmOK M M') {ty : FieldType} (ht : mT M' = some ty) (hn : As.length = n) (hst : (st.map fun v => v.category).sum ≤ 8) (hlen : (lg_sl (.ref (ad G o) :: As)).length ≤ mL M') (hcu : cuOK M M' cu cu') (hf : OkA (Option.bind Fc f) P) (hck : ∀ X, OkA Fc X → Is h o ci (nfO ci)) (hci : (vwCl[ci]?).map (fun r => r.1) = some (mY M').cls) (T : ∀ X : PO, OkA Fc (fun r => X (some r.1) r.2) → Rn G M' (0, 0) 0 (lv_args 0 (.ref (ad G o) :: As)) [] h X) (kk : ∀ r, OkA (f r) P → Rn G M cu' q lv (.int r.1 :: st) r.2 post) : Rn G M cu pc lv (As.reverse ++ .ref (ad G o) :: st) h post := by
  have hf1 : OkA Fc (fun r => Rn G M cu' q lv (.int r.1 :: st) r.2 post) := ok_assoc hf kk
  exact rn_cVi q cu' hd hq hl0 hw hrm ht (hck _ hf1) hci hn hst hlen hcu (T _ hf1)
theorem ro_cSv  {As : List Value} {Fc : Option (AH)} {f : AH → Option β} (q : Nat) (cu' : Nat × Nat) {idx n : Nat} (hd : decode (mC M) pc = .ok (.invokestatic idx, 3)) (hq : pc + 3 = q) (hl0 : ML (mY M).cls idx M') (hw : CS0 M' n) (hrm : rmOK M M') (ht : mT M' = none) (hn : As.length = n) (hst : (st.map fun v => v.category).sum ≤ 8) (hlen : (lg_sl As).length ≤ mL M') (hcu : cuOK M M' cu cu') (hf : OkA (Option.bind Fc f) P) (T : ∀ X : PO, OkA Fc (fun r => X none r) → Rn G M' (0, 0) 0 (lv_args 0 As) [] h X) (kk : ∀ r, OkA (f r) P → Rn G M cu' q lv st r post) : Rn G M cu pc lv (As.reverse ++ st) h post := by
  have hf1 : OkA Fc (fun r => Rn G M cu' q lv st r post) := ok_assoc hf kk
  exact rn_cSv q cu' hd hq hl0 hw hrm ht hn hst hlen hcu (T _ hf1)
theorem ro_cSp  {As : List Value} {Fc : Option (Int32)} {f : Int32 → Option β} (q : Nat) (cu' : Nat × Nat) {idx n : Nat} (hd : decode (mC M) pc = .ok (.invokestatic idx, 3)) (hq : pc + 3 = q) (hl0 : ML (mY M).cls idx M') (hw : CS0 M' n) (hrm : rmOK M M') {ty : FieldType} (ht : mT M' = some ty) (hn : As.length = n) (hst : (st.map fun v => v.category).sum ≤ 8) (hlen : (lg_sl As).length ≤ mL M') (hcu : cuOK M M' cu cu') (hf : OkA (Option.bind Fc f) P) (T : ∀ X : PO, OkA Fc (fun r => X (some r) h) → Rn G M' (0, 0) 0 (lv_args 0 As) [] h X) (kk : ∀ r, OkA (f r) P → Rn G M cu' q lv (.int r :: st) h post) : Rn G M cu pc lv (As.reverse ++ st) h post := by
  have hf1 : OkA Fc (fun r => Rn G M cu' q lv (.int r :: st) h post) := ok_assoc hf kk
  exact rn_cSi q cu' hd hq hl0 hw hrm ht hn hst hlen hcu (T _ hf1)
theorem ro_cSi  {As : List Value} {Fc : Option (Int32 × AH)} {f : Int32 × AH → Option β} (q : Nat) (cu' : Nat × Nat) {idx n : Nat} (hd : decode (mC M) pc = .ok (.invokestatic idx, 3)) (hq : pc + 3 = q) (hl0 : ML (mY M).cls idx M') (hw : CS0 M' n) (hrm : rmOK M M') {ty : FieldType} (ht : mT M' = some ty) (hn : As.length = n) (hst : (st.map fun v => v.category).sum ≤ 8) (hlen : (lg_sl As).length ≤ mL M') (hcu : cuOK M M' cu cu') (hf : OkA (Option.bind Fc f) P) (T : ∀ X : PO, OkA Fc (fun r => X (some r.1) r.2) → Rn G M' (0, 0) 0 (lv_args 0 As) [] h X) (kk : ∀ r, OkA (f r) P → Rn G M cu' q lv (.int r.1 :: st) r.2 post) : Rn G M cu pc lv (As.reverse ++ st) h post := by
  have hf1 : OkA Fc (fun r => Rn G M cu' q lv (.int r.1 :: st) r.2 post) := ok_assoc hf kk
  exact rn_cSi q cu' hd hq hl0 hw hrm ht hn hst hlen hcu (T _ hf1)
theorem ro_cIv {o : Nat} {As : List Value} {Fc : Option (AH)} {f : AH → Option β} (q : Nat) (cu' : Nat × Nat) {idx n : Nat} (hd : decode (mC M) pc = .ok (.invokespecial idx, 3)) (hq : pc + 3 = q) (hl0 : ML (mY M).cls idx M') (hw : CI0 M' n) (hrm : rmOK M M') (ht : mT M' = none) (hn : As.length = n) (hst : (st.map fun v => v.category).sum ≤ 8) (hlen : (lg_sl (.ref (ad G o) :: As)).length ≤ mL M') (hcu : cuOK M M' cu cu') (hf : OkA (Option.bind Fc f) P) (T : ∀ X : PO, OkA Fc (fun r => X none r) → Rn G M' (0, 0) 0 (lv_args 0 (.ref (ad G o) :: As)) [] h X) (kk : ∀ r, OkA (f r) P → Rn G M cu' q lv st r post) : Rn G M cu pc lv (As.reverse ++ .ref (ad G o) :: st) h post := by
  have hf1 : OkA Fc (fun r => Rn G M cu' q lv st r post) := ok_assoc hf kk
  exact rn_cIv q cu' hd hq hl0 hw hrm ht hn hst hlen hcu (T _ hf1)
theorem ro_cNv {o : Nat} {As : List Value} {Fc : Option (AH)} {f : AH → Option β} (q : Nat) (cu' : Nat × Nat) {idx n : Nat} (hd : decode (mC M) pc = .ok (.invokespecial idx, 3)) (hq : pc + 3 = q) (hl0 : va_Nw (.methodLinkNest (mY M).cls idx (mY M') RX4) = va_Nw (.methodLinkNest RX4 9 yX1_init RX4) ∨ va_Nw (.methodLinkNest (mY M).cls idx (mY M') RX4) = va_Nw (.methodLinkNest RX4 49 yX0_init RX4)) (hw : CI0 M' n) (hrm : rmOK M M') (ht : mT M' = none) (hn : As.length = n) (hst : (st.map fun v => v.category).sum ≤ 8) (hlen : (lg_sl (.ref (ad G o) :: As)).length ≤ mL M') (hcu : cuOK M M' cu cu') (hf : OkA (Option.bind Fc f) P) (T : ∀ X : PO, OkA Fc (fun r => X none r) → Rn G M' (0, 0) 0 (lv_args 0 (.ref (ad G o) :: As)) [] h X) (kk : ∀ r, OkA (f r) P → Rn G M cu' q lv st r post) : Rn G M cu pc lv (As.reverse ++ .ref (ad G o) :: st) h post := by
  have hf1 : OkA Fc (fun r => Rn G M cu' q lv st r post) := ok_assoc hf kk
  exact rn_cNv q cu' hd hq hl0 hw hrm ht hn hst hlen hcu (T _ hf1)
end RO
theorem tb_out3 {x : Int32} (z0 : ¬ x = 0) (z1 : ¬ x = 1) (z2 : ¬ x = 2) : x.toInt < 0 ∨ 2 < x.toInt := by
  have e0 : ¬ x.toInt = 0 := fun e => z0 (Int32.toInt_inj.mp (e.trans (by decide)))
  have e1 : ¬ x.toInt = 1 := fun e => z1 (Int32.toInt_inj.mp (e.trans (by decide)))
  have e2 : ¬ x.toInt = 2 := fun e => z2 (Int32.toInt_inj.mp (e.trans (by decide)))
  omega
theorem tb_out4 {x : Int32} (z0 : ¬ x = 0) (z1 : ¬ x = 1) (z2 : ¬ x = 2) (z3 : ¬ x = 3) : x.toInt < 0 ∨ 3 < x.toInt := by
  have e0 : ¬ x.toInt = 0 := fun e => z0 (Int32.toInt_inj.mp (e.trans (by decide)))
  have e1 : ¬ x.toInt = 1 := fun e => z1 (Int32.toInt_inj.mp (e.trans (by decide)))
  have e2 : ¬ x.toInt = 2 := fun e => z2 (Int32.toInt_inj.mp (e.trans (by decide)))
  have e3 : ¬ x.toInt = 3 := fun e => z3 (Int32.toInt_inj.mp (e.trans (by decide)))
  omega
theorem tb_out5 {x : Int32} (z0 : ¬ x = 0) (z1 : ¬ x = 1) (z2 : ¬ x = 2) (z3 : ¬ x = 3) (z4 : ¬ x = 4) : x.toInt < 0 ∨ 4 < x.toInt := by
  have e0 : ¬ x.toInt = 0 := fun e => z0 (Int32.toInt_inj.mp (e.trans (by decide)))
  have e1 : ¬ x.toInt = 1 := fun e => z1 (Int32.toInt_inj.mp (e.trans (by decide)))
  have e2 : ¬ x.toInt = 2 := fun e => z2 (Int32.toInt_inj.mp (e.trans (by decide)))
  have e3 : ¬ x.toInt = 3 := fun e => z3 (Int32.toInt_inj.mp (e.trans (by decide)))
  have e4 : ¬ x.toInt = 4 := fun e => z4 (Int32.toInt_inj.mp (e.trans (by decide)))
  omega
theorem tb_out13 {x : Int32} (z0 : ¬ x = 0) (z1 : ¬ x = 1) (z2 : ¬ x = 2) (z3 : ¬ x = 3) (z4 : ¬ x = 4) (z5 : ¬ x = 5) (z6 : ¬ x = 6) (z7 : ¬ x = 7) (z8 : ¬ x = 8) (z9 : ¬ x = 9) (z10 : ¬ x = 10) (z11 : ¬ x = 11) (z12 : ¬ x = 12) : x.toInt < 0 ∨ 12 < x.toInt := by
  have e0 : ¬ x.toInt = 0 := fun e => z0 (Int32.toInt_inj.mp (e.trans (by decide)))
  have e1 : ¬ x.toInt = 1 := fun e => z1 (Int32.toInt_inj.mp (e.trans (by decide)))
  have e2 : ¬ x.toInt = 2 := fun e => z2 (Int32.toInt_inj.mp (e.trans (by decide)))
  have e3 : ¬ x.toInt = 3 := fun e => z3 (Int32.toInt_inj.mp (e.trans (by decide)))
  have e4 : ¬ x.toInt = 4 := fun e => z4 (Int32.toInt_inj.mp (e.trans (by decide)))
  have e5 : ¬ x.toInt = 5 := fun e => z5 (Int32.toInt_inj.mp (e.trans (by decide)))
  have e6 : ¬ x.toInt = 6 := fun e => z6 (Int32.toInt_inj.mp (e.trans (by decide)))
  have e7 : ¬ x.toInt = 7 := fun e => z7 (Int32.toInt_inj.mp (e.trans (by decide)))
  have e8 : ¬ x.toInt = 8 := fun e => z8 (Int32.toInt_inj.mp (e.trans (by decide)))
  have e9 : ¬ x.toInt = 9 := fun e => z9 (Int32.toInt_inj.mp (e.trans (by decide)))
  have e10 : ¬ x.toInt = 10 := fun e => z10 (Int32.toInt_inj.mp (e.trans (by decide)))
  have e11 : ¬ x.toInt = 11 := fun e => z11 (Int32.toInt_inj.mp (e.trans (by decide)))
  have e12 : ¬ x.toInt = 12 := fun e => z12 (Int32.toInt_inj.mp (e.trans (by decide)))
  omega
theorem tb_out28 {x : Int32} (z0 : ¬ x = 0) (z1 : ¬ x = 1) (z2 : ¬ x = 2) (z3 : ¬ x = 3) (z4 : ¬ x = 4) (z5 : ¬ x = 5) (z6 : ¬ x = 6) (z7 : ¬ x = 7) (z8 : ¬ x = 8) (z9 : ¬ x = 9) (z10 : ¬ x = 10) (z11 : ¬ x = 11) (z12 : ¬ x = 12) (z13 : ¬ x = 13) (z14 : ¬ x = 14) (z15 : ¬ x = 15) (z16 : ¬ x = 16) (z17 : ¬ x = 17) (z18 : ¬ x = 18) (z19 : ¬ x = 19) (z20 : ¬ x = 20) (z21 : ¬ x = 21) (z22 : ¬ x = 22) (z23 : ¬ x = 23) (z24 : ¬ x = 24) (z25 : ¬ x = 25) (z26 : ¬ x = 26) (z27 : ¬ x = 27) : x.toInt < 0 ∨ 27 < x.toInt := by
  have e0 : ¬ x.toInt = 0 := fun e => z0 (Int32.toInt_inj.mp (e.trans (by decide)))
  have e1 : ¬ x.toInt = 1 := fun e => z1 (Int32.toInt_inj.mp (e.trans (by decide)))
  have e2 : ¬ x.toInt = 2 := fun e => z2 (Int32.toInt_inj.mp (e.trans (by decide)))
  have e3 : ¬ x.toInt = 3 := fun e => z3 (Int32.toInt_inj.mp (e.trans (by decide)))
  have e4 : ¬ x.toInt = 4 := fun e => z4 (Int32.toInt_inj.mp (e.trans (by decide)))
  have e5 : ¬ x.toInt = 5 := fun e => z5 (Int32.toInt_inj.mp (e.trans (by decide)))
  have e6 : ¬ x.toInt = 6 := fun e => z6 (Int32.toInt_inj.mp (e.trans (by decide)))
  have e7 : ¬ x.toInt = 7 := fun e => z7 (Int32.toInt_inj.mp (e.trans (by decide)))
  have e8 : ¬ x.toInt = 8 := fun e => z8 (Int32.toInt_inj.mp (e.trans (by decide)))
  have e9 : ¬ x.toInt = 9 := fun e => z9 (Int32.toInt_inj.mp (e.trans (by decide)))
  have e10 : ¬ x.toInt = 10 := fun e => z10 (Int32.toInt_inj.mp (e.trans (by decide)))
  have e11 : ¬ x.toInt = 11 := fun e => z11 (Int32.toInt_inj.mp (e.trans (by decide)))
  have e12 : ¬ x.toInt = 12 := fun e => z12 (Int32.toInt_inj.mp (e.trans (by decide)))
  have e13 : ¬ x.toInt = 13 := fun e => z13 (Int32.toInt_inj.mp (e.trans (by decide)))
  have e14 : ¬ x.toInt = 14 := fun e => z14 (Int32.toInt_inj.mp (e.trans (by decide)))
  have e15 : ¬ x.toInt = 15 := fun e => z15 (Int32.toInt_inj.mp (e.trans (by decide)))
  have e16 : ¬ x.toInt = 16 := fun e => z16 (Int32.toInt_inj.mp (e.trans (by decide)))
  have e17 : ¬ x.toInt = 17 := fun e => z17 (Int32.toInt_inj.mp (e.trans (by decide)))
  have e18 : ¬ x.toInt = 18 := fun e => z18 (Int32.toInt_inj.mp (e.trans (by decide)))
  have e19 : ¬ x.toInt = 19 := fun e => z19 (Int32.toInt_inj.mp (e.trans (by decide)))
  have e20 : ¬ x.toInt = 20 := fun e => z20 (Int32.toInt_inj.mp (e.trans (by decide)))
  have e21 : ¬ x.toInt = 21 := fun e => z21 (Int32.toInt_inj.mp (e.trans (by decide)))
  have e22 : ¬ x.toInt = 22 := fun e => z22 (Int32.toInt_inj.mp (e.trans (by decide)))
  have e23 : ¬ x.toInt = 23 := fun e => z23 (Int32.toInt_inj.mp (e.trans (by decide)))
  have e24 : ¬ x.toInt = 24 := fun e => z24 (Int32.toInt_inj.mp (e.trans (by decide)))
  have e25 : ¬ x.toInt = 25 := fun e => z25 (Int32.toInt_inj.mp (e.trans (by decide)))
  have e26 : ¬ x.toInt = 26 := fun e => z26 (Int32.toInt_inj.mp (e.trans (by decide)))
  have e27 : ¬ x.toInt = 27 := fun e => z27 (Int32.toInt_inj.mp (e.trans (by decide)))
  omega
theorem ic_m1 : Int32.ofInt (-1) = (-1) := by decide
theorem ic_0 : Int32.ofInt (0) = 0 := by decide
theorem ic_1 : Int32.ofInt (1) = 1 := by decide
theorem ic_2 : Int32.ofInt (2) = 2 := by decide
theorem ic_3 : Int32.ofInt (3) = 3 := by decide
theorem ic_4 : Int32.ofInt (4) = 4 := by decide
theorem ic_5 : Int32.ofInt (5) = 5 := by decide
theorem bp_m5 : (Int8.ofInt (-5)).toInt32 = (-5) := by decide
theorem bp_m4 : (Int8.ofInt (-4)).toInt32 = (-4) := by decide
theorem bp_m3 : (Int8.ofInt (-3)).toInt32 = (-3) := by decide
theorem bp_m2 : (Int8.ofInt (-2)).toInt32 = (-2) := by decide
theorem bp_6 : (Int8.ofInt (6)).toInt32 = 6 := by decide
theorem bp_7 : (Int8.ofInt (7)).toInt32 = 7 := by decide
theorem bp_8 : (Int8.ofInt (8)).toInt32 = 8 := by decide
theorem bp_9 : (Int8.ofInt (9)).toInt32 = 9 := by decide
theorem bp_10 : (Int8.ofInt (10)).toInt32 = 10 := by decide
theorem bp_13 : (Int8.ofInt (13)).toInt32 = 13 := by decide
theorem bp_14 : (Int8.ofInt (14)).toInt32 = 14 := by decide
theorem bp_15 : (Int8.ofInt (15)).toInt32 = 15 := by decide
theorem bp_17 : (Int8.ofInt (17)).toInt32 = 17 := by decide
theorem bp_18 : (Int8.ofInt (18)).toInt32 = 18 := by decide
theorem bp_20 : (Int8.ofInt (20)).toInt32 = 20 := by decide
theorem bp_25 : (Int8.ofInt (25)).toInt32 = 25 := by decide
theorem bp_26 : (Int8.ofInt (26)).toInt32 = 26 := by decide
theorem bp_30 : (Int8.ofInt (30)).toInt32 = 30 := by decide
theorem bp_31 : (Int8.ofInt (31)).toInt32 = 31 := by decide
theorem bp_32 : (Int8.ofInt (32)).toInt32 = 32 := by decide
theorem bp_34 : (Int8.ofInt (34)).toInt32 = 34 := by decide
theorem bp_36 : (Int8.ofInt (36)).toInt32 = 36 := by decide
theorem bp_39 : (Int8.ofInt (39)).toInt32 = 39 := by decide
theorem bp_44 : (Int8.ofInt (44)).toInt32 = 44 := by decide
theorem bp_48 : (Int8.ofInt (48)).toInt32 = 48 := by decide
theorem bp_49 : (Int8.ofInt (49)).toInt32 = 49 := by decide
theorem bp_50 : (Int8.ofInt (50)).toInt32 = 50 := by decide
theorem bp_51 : (Int8.ofInt (51)).toInt32 = 51 := by decide
theorem bp_52 : (Int8.ofInt (52)).toInt32 = 52 := by decide
theorem bp_57 : (Int8.ofInt (57)).toInt32 = 57 := by decide
theorem bp_59 : (Int8.ofInt (59)).toInt32 = 59 := by decide
theorem bp_64 : (Int8.ofInt (64)).toInt32 = 64 := by decide
theorem bp_97 : (Int8.ofInt (97)).toInt32 = 97 := by decide
theorem bp_104 : (Int8.ofInt (104)).toInt32 = 104 := by decide
theorem bp_122 : (Int8.ofInt (122)).toInt32 = 122 := by decide
theorem sp_160 : (Int16.ofInt (160)).toInt32 = 160 := by decide
theorem sp_255 : (Int16.ofInt (255)).toInt32 = 255 := by decide
theorem sp_364 : (Int16.ofInt (364)).toInt32 = 364 := by decide
theorem sp_416 : (Int16.ofInt (416)).toInt32 = 416 := by decide
theorem sp_999 : (Int16.ofInt (999)).toInt32 = 999 := by decide
theorem sp_9999 : (Int16.ofInt (9999)).toInt32 = 9999 := by decide
theorem inc_1 (x : Int32) : x + Int32.ofInt 1 = x + 1 := by rw [ic_1]
theorem inc_5 (x : Int32) : x + Int32.ofInt 5 = x + 5 := by rw [ic_5]
theorem lc_0 : Int64.ofNat ((0 : Fin 2) : Nat) = 0 := by decide
theorem lc_1 : Int64.ofNat ((1 : Fin 2) : Nat) = 1 := by decide
theorem ft_0_0 : ftc 0 0 = 1 := by decide
theorem ft_0_1 : ftc 0 1 = 1 := by decide
theorem ft_0_2 : ftc 0 2 = 1 := by decide
theorem ft_0_3 : ftc 0 3 = 0 := by decide
theorem pn_0_3 {M : MD} : PF M 0 3 := Or.inl rfl
theorem ft_1_0 : ftc 1 0 = 1 := by decide
theorem ft_1_1 : ftc 1 1 = 0 := by decide
theorem pn_1_1 {M : MD} : PF M 1 1 := Or.inl rfl
theorem ft_1_2 : ftc 1 2 = 0 := by decide
theorem pn_1_2 {M : MD} : PF M 1 2 := Or.inl rfl
theorem ft_1_3 : ftc 1 3 = 0 := by decide
theorem pn_1_3 {M : MD} : PF M 1 3 := Or.inl rfl
theorem ft_1_4 : ftc 1 4 = 0 := by decide
theorem pn_1_4 {M : MD} : PF M 1 4 := Or.inl rfl
theorem ft_2_0 : ftc 2 0 = 0 := by decide
theorem pn_2_0 {M : MD} : PF M 2 0 := Or.inl rfl
theorem ft_2_1 : ftc 2 1 = 0 := by decide
theorem pn_2_1 {M : MD} : PF M 2 1 := Or.inl rfl
theorem ft_2_2 : ftc 2 2 = 1 := by decide
theorem ft_2_3 : ftc 2 3 = 1 := by decide
theorem ft_2_4 : ftc 2 4 = 1 := by decide
theorem ft_2_5 : ftc 2 5 = 1 := by decide
theorem ft_2_6 : ftc 2 6 = 1 := by decide
theorem ft_2_7 : ftc 2 7 = 1 := by decide
theorem ft_3_0 : ftc 3 0 = 1 := by decide
theorem ft_3_1 : ftc 3 1 = 1 := by decide
theorem ft_3_2 : ftc 3 2 = 1 := by decide
theorem ft_3_3 : ftc 3 3 = 1 := by decide
theorem ft_3_4 : ftc 3 4 = 1 := by decide
theorem ft_3_5 : ftc 3 5 = 1 := by decide
theorem ft_3_6 : ftc 3 6 = 1 := by decide
theorem ft_3_7 : ftc 3 7 = 1 := by decide
theorem ft_3_8 : ftc 3 8 = 1 := by decide
theorem ft_3_9 : ftc 3 9 = 0 := by decide
theorem pn_3_9 {M : MD} : PF M 3 9 := Or.inl rfl
theorem ft_3_10 : ftc 3 10 = 0 := by decide
theorem pn_3_10 {M : MD} : PF M 3 10 := Or.inl rfl
theorem tz_3_10 : tyO 3 10 = .boolean := by decide
theorem ft_3_11 : ftc 3 11 = 0 := by decide
theorem pn_3_11 {M : MD} : PF M 3 11 := Or.inl rfl
theorem ft_3_12 : ftc 3 12 = 0 := by decide
theorem pn_3_12 {M : MD} : PF M 3 12 := Or.inl rfl
theorem ft_3_13 : ftc 3 13 = 0 := by decide
theorem pn_3_13 {M : MD} : PF M 3 13 := Or.inl rfl
theorem ft_4_0 : ftc 4 0 = 1 := by decide
theorem ft_4_1 : ftc 4 1 = 1 := by decide
theorem ft_4_2 : ftc 4 2 = 1 := by decide
theorem ft_4_3 : ftc 4 3 = 1 := by decide
theorem ft_4_4 : ftc 4 4 = 1 := by decide
theorem ft_4_5 : ftc 4 5 = 1 := by decide
theorem ft_4_6 : ftc 4 6 = 0 := by decide
theorem pn_4_6 {M : MD} : PF M 4 6 := Or.inl rfl
theorem ft_4_7 : ftc 4 7 = 1 := by decide
theorem ft_4_8 : ftc 4 8 = 1 := by decide
theorem ft_4_9 : ftc 4 9 = 1 := by decide
theorem ft_4_10 : ftc 4 10 = 1 := by decide
theorem ft_5_0 : ftc 5 0 = 1 := by decide
theorem ft_5_1 : ftc 5 1 = 1 := by decide
theorem ft_5_2 : ftc 5 2 = 1 := by decide
theorem ft_5_3 : ftc 5 3 = 1 := by decide
theorem ft_5_4 : ftc 5 4 = 0 := by decide
theorem pn_5_4 {M : MD} : PF M 5 4 := Or.inl rfl
theorem ft_5_5 : ftc 5 5 = 1 := by decide
theorem ft_5_6 : ftc 5 6 = 1 := by decide
theorem ft_5_7 : ftc 5 7 = 1 := by decide
theorem ft_5_8 : ftc 5 8 = 0 := by decide
theorem pn_5_8 {M : MD} : PF M 5 8 := Or.inl rfl
theorem ft_5_9 : ftc 5 9 = 1 := by decide
theorem ft_5_10 : ftc 5 10 = 0 := by decide
theorem pn_5_10 {M : MD} : PF M 5 10 := Or.inl rfl
theorem ft_5_11 : ftc 5 11 = 0 := by decide
theorem pn_5_11 {M : MD} : PF M 5 11 := Or.inl rfl
theorem ft_5_12 : ftc 5 12 = 0 := by decide
theorem pn_5_12 {M : MD} : PF M 5 12 := Or.inl rfl
theorem ft_5_13 : ftc 5 13 = 0 := by decide
theorem pn_5_13 {M : MD} : PF M 5 13 := Or.inl rfl
theorem ft_5_14 : ftc 5 14 = 2 := by decide
theorem pn_5_14 {M : MD} : PF M 5 14 := Or.inl rfl
theorem ft_5_15 : ftc 5 15 = 0 := by decide
theorem pn_5_15 {M : MD} : PF M 5 15 := Or.inl rfl
theorem ft_5_16 : ftc 5 16 = 0 := by decide
theorem pn_5_16 {M : MD} : PF M 5 16 := Or.inl rfl
theorem ft_5_17 : ftc 5 17 = 1 := by decide
theorem ft_5_18 : ftc 5 18 = 1 := by decide
theorem ft_5_19 : ftc 5 19 = 1 := by decide
theorem ft_5_20 : ftc 5 20 = 1 := by decide
end
section
section STR
variable {G : WG} {M : MD} {pc : Nat} {lv : List (Nat × Value)} {st : List Value} {h : AH} {post : PO} {i : Nat}
theorem T_J0_coder (hi : i < 8) (k : post (some 0) h) : Rn G M_J0_coder_7d493 (0, 0) 0 [(0, .ref (gK G i))] [] h post := by
  refine rn_compact 3 dJ0_coder_7d493_0 rfl f_J0_38 ?_
  refine rn_if_eq 13 6 dJ0_coder_7d493_3 rfl rfl (fun z => absurd z (by decide)) (fun _ => ?_)
  refine rn_aload_n 7 dJ0_coder_7d493_6 rfl rfl ?_
  refine rn_sCoder 10 i dJ0_coder_7d493_7 rfl hi f_J0_15 ?_
  refine rn_goto 14 dJ0_coder_7d493_10 rfl ?_
  exact rn_iret .byte dJ0_coder_7d493_14 rfl rfl (Or.inl rfl) k
theorem T_J0_isLatin1 (hi : i < 8) (k : post (some 1) h) : Rn G M_J0_isLatin1_aae02 (0, 0) 0 [(0, .ref (gK G i))] [] h post := by
  refine rn_compact 3 dJ0_isLatin1_aae02_0 rfl f_J0_38 ?_
  refine rn_if_eq 17 6 dJ0_isLatin1_aae02_3 rfl rfl (fun z => absurd z (by decide)) (fun _ => ?_)
  refine rn_aload_n 7 dJ0_isLatin1_aae02_6 rfl rfl ?_
  refine rn_sCoder 10 i dJ0_isLatin1_aae02_7 rfl hi f_J0_15 ?_
  refine rn_if_ne 17 13 dJ0_isLatin1_aae02_10 rfl rfl (fun z => absurd rfl z) (fun _ => ?_)
  refine rn_iconst 14 dJ0_isLatin1_aae02_13 rfl ic_1 ?_
  refine rn_goto 18 dJ0_isLatin1_aae02_14 rfl ?_
  exact rn_iret .boolean dJ0_isLatin1_aae02_18 rfl rfl (Or.inl rfl) k
theorem sl_shr : ∀ i, i < 8 → (nI (stL.getD i 0)) >>> ((0 : Int32) &&& 31) = nI (stL.getD i 0) := by decide
theorem T_J0_length (hi : i < 8) (k : post (some (nI (stL.getD i 0))) h) : Rn G M_J0_length_8abf5 (0, 0) 0 [(0, .ref (gK G i))] [] h post := by
  refine rn_aload_n 1 dJ0_length_8abf5_0 rfl rfl ?_
  refine rn_sValue 4 i dJ0_length_8abf5_1 rfl hi f_J0_9 ?_
  refine rn_sLen 5 i dJ0_length_8abf5_4 rfl hi ?_
  refine rn_aload_n 6 dJ0_length_8abf5_5 rfl rfl ?_
  refine rn_cTi 9 (0, 0) (M' := M_J0_coder_7d493) (As := []) (st := [.int (nI (stL.getD i 0))]) dJ0_length_8abf5_6 rfl l_J0_335 v_J0_coder_7d493 ⟨Nat.le_of_ble_eq_true rfl, Nat.le_of_ble_eq_true rfl⟩ rfl hi rfl rfl (Nat.le_of_ble_eq_true rfl) (Nat.le_of_ble_eq_true rfl) ⟨rfl, Nat.le_of_ble_eq_true rfl, Nat.le_of_ble_eq_true rfl⟩ (T_J0_coder hi ?_)
  show Rn G M_J0_length_8abf5 (0, 0) 9 _ _ _ _
  refine rn_ishr 10 dJ0_length_8abf5_9 rfl ?_
  refine rn_iret .int dJ0_length_8abf5_10 rfl rfl (Or.inl rfl) ?_
  rw [sl_shr i hi]
  exact k
theorem rn_slen (q : Nat) {idx : Nat} (hd : decode (mC M) pc = .ok (.invokevirtual idx, 3)) (hq : pc + 3 = q) (hl0 : ML (mY M).cls idx M_J0_length_8abf5) (hrm : rmOK M M_J0_length_8abf5) (hi : i < 8) (hst : (st.map fun v => v.category).sum ≤ 8) (kk : Rn G M (0, 0) q lv (.int (nI (stL.getD i 0)) :: st) h post) : Rn G M (0, 0) pc lv (.ref (gK G i) :: st) h post :=
  rn_cTi q (0, 0) (M' := M_J0_length_8abf5) (As := []) (st := st) hd hq hl0 v_J0_length_8abf5 hrm rfl hi rfl rfl hst (Nat.le_of_ble_eq_true rfl) ⟨rfl, Nat.zero_le _, Nat.zero_le _⟩ (T_J0_length hi kk)
theorem T_J3_checkIndex {x n : Int32} {v : Value} (h1 : ¬ x < 0) (h2 : x < n) (k : post (some x) h) : Rn G M_J3_checkIndex_8e157 (0, 0) 0 [(0, .int x), (1, .int n), (2, v)] [] h post := by
  refine rn_iload_n 1 dJ3_checkIndex_8e157_0 rfl rfl ?_
  refine rn_if_lt 9 4 dJ3_checkIndex_8e157_1 rfl rfl (fun z => absurd z h1) (fun _ => ?_)
  refine rn_iload_n 5 dJ3_checkIndex_8e157_4 rfl rfl ?_
  refine rn_iload_n 6 dJ3_checkIndex_8e157_5 rfl rfl ?_
  refine rn_icmp_lt 16 9 dJ3_checkIndex_8e157_6 rfl rfl (fun _ => ?_) (fun z => absurd h2 z)
  refine rn_iload_n 17 dJ3_checkIndex_8e157_16 rfl rfl ?_
  exact rn_iret .int dJ3_checkIndex_8e157_17 rfl rfl (Or.inl rfl) k
theorem lv_args3 {x n : Int32} {v : Value} : lv_args 0 [.int x, .int n, v] = [(0, .int x), (1, .int n), (2, v)] := rfl
theorem sl_len3 {x n : Int32} {v : Value} (hv : v.category = 1) : (lg_sl [.int x, .int n, v]).length ≤ 3 := by
  have h1 : ¬ v.category = 2 := by rw [hv]; decide
  have e : lg_sl [.int x, .int n, v] = [.val (.int x), .val (.int n), .val v] := by
    unfold lg_sl
    simp only [List.flatMap_cons, List.flatMap_nil, if_neg h1]
    rfl
  rw [e]
  exact Nat.le_refl 3
theorem T_J0_checkIndex {x n : Int32} (h1 : ¬ x < 0) (h2 : x < n) (k : post none h) : Rn G M_J0_checkIndex_df160 (0, 0) 0 [(0, .int x), (1, .int n)] [] h post := by
  refine rn_iload_n 1 dJ0_checkIndex_df160_0 rfl rfl ?_
  refine rn_iload_n 2 dJ0_checkIndex_df160_1 rfl rfl ?_
  refine rn_former 5 dJ0_checkIndex_df160_2 rfl f_J0_1053 (fun v hv => ?_)
  refine rn_cSi 8 (0, 0) (M' := M_J3_checkIndex_8e157) (As := [.int x, .int n, v]) (st := []) dJ0_checkIndex_df160_5 rfl l_J0_1059 v_J3_checkIndex_8e157 ⟨Nat.le_of_ble_eq_true rfl, Nat.le_of_ble_eq_true rfl⟩ rfl rfl (Nat.le_of_ble_eq_true rfl) (sl_len3 hv) ⟨rfl, Nat.le_of_ble_eq_true rfl, Nat.le_of_ble_eq_true rfl⟩ ?_
  rw [lv_args3]
  refine T_J3_checkIndex h1 h2 ?_
  show Rn G M_J0_checkIndex_df160 (0, 0) 8 _ _ _ _
  refine rn_pop 9 dJ0_checkIndex_df160_8 rfl rfl ?_
  exact rn_vret dJ0_checkIndex_df160_9 rfl (Or.inl rfl) k
def chB (b : Int32) : Int32 := ((b &&& 255).toUInt32 % 65536).toInt32
theorem ch_nar0 : ∀ i, i < 8 → ∀ j, j < stL.getD i 0 → vp_nar .char (chB ((stB.getD i []).getD j 0)) = chB ((stB.getD i []).getD j 0) := by decide
theorem ch_nar (i : Nat) (hi : i < 8) (x : Int32) (_h1 : ¬ x < 0) (hx : vp_in x (stL.getD i 0)) : narrow .char (.int (chB ((stB.getD i []).getD x.toNatClampNeg 0))) = .int (chB ((stB.getD i []).getD x.toNatClampNeg 0)) := by
  have h3 : x.toNatClampNeg < stL.getD i 0 := Nat.lt_of_not_le (fun z => hx (Or.inr z))
  have e := ch_nar0 i hi _ h3
  exact congrArg Value.int e
theorem T_J1_charAt {x : Int32} (hi : i < 8) (h1 : ¬ x < 0) (h2 : x < nI (stL.getD i 0)) (hx : vp_in x (stL.getD i 0)) (k : post (some (chB ((stB.getD i []).getD x.toNatClampNeg 0))) h) : Rn G M_J1_charAt_3b067 (0, 0) 0 [(0, .ref (gV G i)), (1, .int x)] [] h post := by
  refine rn_iload_n 1 dJ1_charAt_3b067_0 rfl rfl ?_
  refine rn_aload_n 2 dJ1_charAt_3b067_1 rfl rfl ?_
  refine rn_sLen 3 i dJ1_charAt_3b067_2 rfl hi ?_
  refine rn_cSv 6 (0, 0) (M' := M_J0_checkIndex_df160) (As := [.int x, .int (nI (stL.getD i 0))]) (st := []) dJ1_charAt_3b067_3 rfl l_J1_9 v_J0_checkIndex_df160 ⟨Nat.le_of_ble_eq_true rfl, Nat.le_of_ble_eq_true rfl⟩ rfl rfl (Nat.le_of_ble_eq_true rfl) (Nat.le_of_ble_eq_true rfl) ⟨rfl, Nat.le_of_ble_eq_true rfl, Nat.le_of_ble_eq_true rfl⟩ (T_J0_checkIndex h1 h2 ?_)
  show Rn G M_J1_charAt_3b067 (0, 0) 6 _ _ _ _
  refine rn_aload_n 7 dJ1_charAt_3b067_6 rfl rfl ?_
  refine rn_iload_n 8 dJ1_charAt_3b067_7 rfl rfl ?_
  refine rn_sByte 9 i dJ1_charAt_3b067_8 rfl hi hx ?_
  refine rn_sipush 12 dJ1_charAt_3b067_9 rfl sp_255 ?_
  refine rn_iand 13 dJ1_charAt_3b067_12 rfl ?_
  refine rn_i2c 14 dJ1_charAt_3b067_13 rfl ?_
  exact rn_iret .char dJ1_charAt_3b067_14 rfl (ch_nar i hi _ h1 hx) (Or.inl rfl) k
theorem T_J0_charAt {x : Int32} (hi : i < 8) (h1 : ¬ x < 0) (h2 : x < nI (stL.getD i 0)) (hx : vp_in x (stL.getD i 0)) (k : post (some (chB ((stB.getD i []).getD x.toNatClampNeg 0))) h) : Rn G M_J0_charAt_5068e (0, 0) 0 [(0, .ref (gK G i)), (1, .int x)] [] h post := by
  refine rn_aload_n 1 dJ0_charAt_5068e_0 rfl rfl ?_
  refine rn_cTi 4 (0, 0) (M' := M_J0_isLatin1_aae02) (As := []) (st := []) dJ0_charAt_5068e_1 rfl l_J0_492 v_J0_isLatin1_aae02 ⟨Nat.le_of_ble_eq_true rfl, Nat.le_of_ble_eq_true rfl⟩ rfl hi rfl rfl (Nat.le_of_ble_eq_true rfl) (Nat.le_of_ble_eq_true rfl) ⟨rfl, Nat.le_of_ble_eq_true rfl, Nat.le_of_ble_eq_true rfl⟩ (T_J0_isLatin1 hi ?_)
  show Rn G M_J0_charAt_5068e (0, 0) 4 _ _ _ _
  refine rn_if_eq 16 7 dJ0_charAt_5068e_4 rfl rfl (fun z => absurd z (by decide)) (fun _ => ?_)
  refine rn_aload_n 8 dJ0_charAt_5068e_7 rfl rfl ?_
  refine rn_sValue 11 i dJ0_charAt_5068e_8 rfl hi f_J0_9 ?_
  refine rn_iload_n 12 dJ0_charAt_5068e_11 rfl rfl ?_
  refine rn_cSi 15 (0, 0) (M' := M_J1_charAt_3b067) (As := [.ref (gV G i), .int x]) (st := []) dJ0_charAt_5068e_12 rfl l_J0_495 v_J1_charAt_3b067 ⟨Nat.le_of_ble_eq_true rfl, Nat.le_of_ble_eq_true rfl⟩ rfl rfl (Nat.le_of_ble_eq_true rfl) (Nat.le_of_ble_eq_true rfl) ⟨rfl, Nat.le_of_ble_eq_true rfl, Nat.le_of_ble_eq_true rfl⟩ (T_J1_charAt hi h1 h2 hx ?_)
  show Rn G M_J0_charAt_5068e (0, 0) 15 _ _ _ _
  exact rn_iret .char dJ0_charAt_5068e_15 rfl (ch_nar i hi _ h1 hx) (Or.inl rfl) k
theorem chB_id : ∀ i, i < 8 → ∀ j, j < stL.getD i 0 → chB ((stB.getD i []).getD j 0) = (stB.getD i []).getD j 0 := by decide
theorem st_lt : ∀ i, i < 8 → stL.getD i 0 < 10 := by decide
theorem nI_small : ∀ n, n < 10 → (nI n).toInt = (n : Int) := by decide
theorem ro_sAt {β : Type} {P : β → Prop} {f : Int32 → Option β} (q : Nat) {idx : Nat} {x : Int32} (hd : decode (mC M) pc = .ok (.invokevirtual idx, 3)) (hq : pc + 3 = q) (hl0 : ML (mY M).cls idx M_J0_charAt_5068e) (hrm : rmOK M M_J0_charAt_5068e) (hi : i < 8) (hst : (st.map fun v => v.category).sum ≤ 8) (hf : OkA (Option.bind (sAt i x) f) P) (kk : ∀ v, OkA (f v) P → Rn G M (0, 0) q lv (.int v :: st) h post) : Rn G M (0, 0) pc lv (.int x :: .ref (gK G i) :: st) h post := by
  obtain ⟨v, e, hf⟩ := ok_bind hf
  unfold sAt at e
  split at e
  next hc =>
    cases e
    have hv := inB_in hc
    have h1 : ¬ x < 0 := fun z => hv (Or.inl z)
    have h3 : x.toNatClampNeg < stL.getD i 0 := Nat.lt_of_not_le (fun z => hv (Or.inr z))
    have h2 : x < nI (stL.getD i 0) := by
      rw [Int32.lt_iff_toInt_lt, nI_small _ (st_lt i hi)]
      have h4 : x.toNatClampNeg = x.toInt.toNat := rfl
      omega
    refine rn_cTi q (0, 0) (M' := M_J0_charAt_5068e) (As := [.int x]) (st := st) hd hq hl0 v_J0_charAt_5068e hrm rfl hi rfl rfl hst (Nat.le_of_ble_eq_true rfl) ⟨rfl, Nat.zero_le _, Nat.zero_le _⟩ (T_J0_charAt hi h1 h2 hv ?_)
    rw [chB_id i hi _ h3]
    exact kk _ hf
  next => cases e
end STR
end
section
/-! every method as a function over the heap, by program out of its bytecode (dec.py) -/
noncomputable def F_X1_init (h : AH) (o : Nat) : Option (AH) :=
  Option.bind (some (sN h 11 160)) fun h1 =>
  Option.bind (ptR h1 o 1 0 (hN h)) fun h2 =>
  some h2
noncomputable def L_J7_fill_53178_5 {β : Type} (o0 : Nat) (x1 : Int32) (x3 : Int32) (k : AH → Int32 → Option (β)) : Nat → AH → Int32 → Option (β)
  | 0, _, _ => none
  | n + 1, h, x2 =>
    if x3 ≤ x2 then
      k h x2
    else
      Option.bind (stA h o0 10 x2 x1) fun h1 =>
      L_J7_fill_53178_5 o0 x1 x3 k n h1 (x2 + 1)
noncomputable def F_J7_fill_53178 (h : AH) (o0 : Nat) (x1 : Int32) : Option (AH) :=
  Option.bind (lnA h o0) fun v1 =>
  L_J7_fill_53178_5 o0 x1 v1 (fun h2 y3 =>
    some h2
  ) FU h 0
noncomputable def F_X2_init (h : AH) (o : Nat) : Option (AH) :=
  Option.bind (some (sN h 10 8)) fun h1 =>
  Option.bind (ptR h1 o 2 2 (hN h)) fun h2 =>
  Option.bind (some (sN h2 10 8)) fun h3 =>
  Option.bind (ptR h3 o 2 3 (hN h2)) fun h4 =>
  Option.bind (some (sN h4 10 8)) fun h5 =>
  Option.bind (ptR h5 o 2 4 (hN h4)) fun h6 =>
  Option.bind (some (sN h6 10 5)) fun h7 =>
  Option.bind (ptR h7 o 2 5 (hN h6)) fun h8 =>
  Option.bind (some (sN h8 10 5)) fun h9 =>
  Option.bind (ptR h9 o 2 6 (hN h8)) fun h10 =>
  Option.bind (some (sN h10 10 14)) fun h11 =>
  Option.bind (ptR h11 o 2 7 (hN h10)) fun h12 =>
  Option.bind (gtR h12 o 2 7) fun r13 =>
  Option.bind (F_J7_fill_53178 h12 r13 (-1)) fun h14 =>
  some h14
noncomputable def F_X3_init (h : AH) (o : Nat) : Option (AH) :=
  Option.bind (some (sN h 10 8)) fun h1 =>
  Option.bind (ptR h1 o 3 0 (hN h)) fun h2 =>
  Option.bind (some (sN h2 10 8)) fun h3 =>
  Option.bind (ptR h3 o 3 1 (hN h2)) fun h4 =>
  Option.bind (some (sN h4 10 8)) fun h5 =>
  Option.bind (ptR h5 o 3 2 (hN h4)) fun h6 =>
  Option.bind (some (sN h6 10 8)) fun h7 =>
  Option.bind (ptR h7 o 3 3 (hN h6)) fun h8 =>
  Option.bind (some (sN h8 10 5)) fun h9 =>
  Option.bind (ptR h9 o 3 4 (hN h8)) fun h10 =>
  Option.bind (some (sN h10 10 5)) fun h11 =>
  Option.bind (ptR h11 o 3 5 (hN h10)) fun h12 =>
  Option.bind (some (sN h12 10 5)) fun h13 =>
  Option.bind (ptR h13 o 3 6 (hN h12)) fun h14 =>
  Option.bind (some (sN h14 10 5)) fun h15 =>
  Option.bind (ptR h15 o 3 7 (hN h14)) fun h16 =>
  Option.bind (some (sN h16 10 5)) fun h17 =>
  Option.bind (ptR h17 o 3 8 (hN h16)) fun h18 =>
  Option.bind (gtR h18 o 3 2) fun r19 =>
  Option.bind (F_J7_fill_53178 h18 r19 (-1)) fun h20 =>
  Option.bind (gtR h20 o 3 6) fun r21 =>
  Option.bind (F_J7_fill_53178 h20 r21 (-1)) fun h22 =>
  some h22
noncomputable def F_X0_init (h : AH) (o : Nat) : Option (AH) :=
  Option.bind (some (sN h 10 6)) fun h1 =>
  Option.bind (ptR h1 o 0 0 (hN h)) fun h2 =>
  Option.bind (some (sN h2 10 6)) fun h3 =>
  Option.bind (ptR h3 o 0 1 (hN h2)) fun h4 =>
  Option.bind (some (sN h4 10 6)) fun h5 =>
  Option.bind (ptR h5 o 0 2 (hN h4)) fun h6 =>
  some h6
noncomputable def F_X4_init (h : AH) (o : Nat) : Option (AH) :=
  Option.bind (some (sN h 1 5)) fun h1 =>
  Option.bind (F_X1_init h1 (hN h)) fun h2 =>
  Option.bind (ptR h2 o 4 0 (hN h)) fun h3 =>
  Option.bind (some (sN h3 2 8)) fun h4 =>
  Option.bind (F_X2_init h4 (hN h3)) fun h5 =>
  Option.bind (ptR h5 o 4 1 (hN h3)) fun h6 =>
  Option.bind (some (sN h6 2 8)) fun h7 =>
  Option.bind (F_X2_init h7 (hN h6)) fun h8 =>
  Option.bind (ptR h8 o 4 2 (hN h6)) fun h9 =>
  Option.bind (some (sN h9 3 14)) fun h10 =>
  Option.bind (F_X3_init h10 (hN h9)) fun h11 =>
  Option.bind (ptR h11 o 4 3 (hN h9)) fun h12 =>
  Option.bind (some (sN h12 3 14)) fun h13 =>
  Option.bind (F_X3_init h13 (hN h12)) fun h14 =>
  Option.bind (ptR h14 o 4 4 (hN h12)) fun h15 =>
  Option.bind (some (sN h15 13 8)) fun h16 =>
  Option.bind (ptR h16 o 4 5 (hN h15)) fun h17 =>
  Option.bind (some (sN h17 13 2)) fun h18 =>
  Option.bind (ptR h18 o 4 7 (hN h17)) fun h19 =>
  Option.bind (some (sN h19 12 2)) fun h20 =>
  Option.bind (ptR h20 o 4 8 (hN h19)) fun h21 =>
  Option.bind (some (sN h21 0 4)) fun h22 =>
  Option.bind (F_X0_init h22 (hN h21)) fun h23 =>
  Option.bind (ptR h23 o 4 9 (hN h21)) fun h24 =>
  Option.bind (some (sN h24 10 64)) fun h25 =>
  Option.bind (ptR h25 o 4 10 (hN h24)) fun h26 =>
  Option.bind (gtR h26 o 4 5) fun r27 =>
  Option.bind (some (sN h26 3 14)) fun h28 =>
  Option.bind (F_X3_init h28 (hN h26)) fun h29 =>
  Option.bind (stR h29 r27 0 (hN h26)) fun h30 =>
  Option.bind (gtR h30 o 4 5) fun r31 =>
  Option.bind (some (sN h30 3 14)) fun h32 =>
  Option.bind (F_X3_init h32 (hN h30)) fun h33 =>
  Option.bind (stR h33 r31 (0 + 1) (hN h30)) fun h34 =>
  Option.bind (gtR h34 o 4 5) fun r35 =>
  Option.bind (some (sN h34 3 14)) fun h36 =>
  Option.bind (F_X3_init h36 (hN h34)) fun h37 =>
  Option.bind (stR h37 r35 ((0 + 1) + 1) (hN h34)) fun h38 =>
  Option.bind (gtR h38 o 4 5) fun r39 =>
  Option.bind (some (sN h38 3 14)) fun h40 =>
  Option.bind (F_X3_init h40 (hN h38)) fun h41 =>
  Option.bind (stR h41 r39 (((0 + 1) + 1) + 1) (hN h38)) fun h42 =>
  Option.bind (gtR h42 o 4 5) fun r43 =>
  Option.bind (some (sN h42 3 14)) fun h44 =>
  Option.bind (F_X3_init h44 (hN h42)) fun h45 =>
  Option.bind (stR h45 r43 ((((0 + 1) + 1) + 1) + 1) (hN h42)) fun h46 =>
  Option.bind (gtR h46 o 4 5) fun r47 =>
  Option.bind (some (sN h46 3 14)) fun h48 =>
  Option.bind (F_X3_init h48 (hN h46)) fun h49 =>
  Option.bind (stR h49 r47 (((((0 + 1) + 1) + 1) + 1) + 1) (hN h46)) fun h50 =>
  Option.bind (gtR h50 o 4 5) fun r51 =>
  Option.bind (some (sN h50 3 14)) fun h52 =>
  Option.bind (F_X3_init h52 (hN h50)) fun h53 =>
  Option.bind (stR h53 r51 ((((((0 + 1) + 1) + 1) + 1) + 1) + 1) (hN h50)) fun h54 =>
  Option.bind (gtR h54 o 4 5) fun r55 =>
  Option.bind (some (sN h54 3 14)) fun h56 =>
  Option.bind (F_X3_init h56 (hN h54)) fun h57 =>
  Option.bind (stR h57 r55 (((((((0 + 1) + 1) + 1) + 1) + 1) + 1) + 1) (hN h54)) fun h58 =>
  Option.bind (gtR h58 o 4 7) fun r59 =>
  Option.bind (some (sN h58 3 14)) fun h60 =>
  Option.bind (F_X3_init h60 (hN h58)) fun h61 =>
  Option.bind (stR h61 r59 0 (hN h58)) fun h62 =>
  Option.bind (gtR h62 o 4 7) fun r63 =>
  Option.bind (some (sN h62 3 14)) fun h64 =>
  Option.bind (F_X3_init h64 (hN h62)) fun h65 =>
  Option.bind (stR h65 r63 (0 + 1) (hN h62)) fun h66 =>
  some h66
noncomputable def L_X5_blank_2 {β : Type} (o0 : Nat) (k : AH → Int32 → Option (β)) : Nat → AH → Int32 → Option (β)
  | 0, _, _ => none
  | n + 1, h, x1 =>
    if 50 ≤ x1 then
      k h x1
    else
      Option.bind (α := Int32) (
        if 36 ≤ x1 then
          some (-1)
        else
          some 0
      ) fun q1 =>
      Option.bind (stA h o0 10 x1 q1) fun h2 =>
      L_X5_blank_2 o0 k n h2 (x1 + 1)
noncomputable def F_X5_blank (h : AH) (o0 : Nat) : Option (AH) :=
  L_X5_blank_2 o0 (fun h3 y4 =>
    some h3
  ) FU h 0
noncomputable def L_X5_begins_2 {β : Type} (o0 : Nat) (k : AH → Int32 → Option (β)) : Nat → AH → Int32 → Option (β)
  | 0, _, _ => none
  | n + 1, h, x1 =>
    if 52 ≤ x1 then
      k h x1
    else
      Option.bind (gtR h o0 5 2) fun r1 =>
      Option.bind (stA h r1 10 x1 0) fun h2 =>
      L_X5_begins_2 o0 k n h2 (x1 + 1)
noncomputable def L_X5_begins_23 {β : Type} (o0 : Nat) (k : AH → Int32 → Option (β)) : Nat → AH → Int32 → Option (β)
  | 0, _, _ => none
  | n + 1, h, x1 =>
    if 8 ≤ x1 then
      k h x1
    else
      Option.bind (gtR h o0 5 2) fun r1 =>
      Option.bind (gtR h o0 5 0) fun r2 =>
      Option.bind (ldA h r2 10 (1 + x1)) fun v3 =>
      Option.bind (stA h r1 10 (2 + x1) v3) fun h4 =>
      Option.bind (gtR h4 o0 5 2) fun r5 =>
      Option.bind (gtR h4 o0 5 0) fun r6 =>
      Option.bind (ldA h4 r6 10 (9 + x1)) fun v7 =>
      Option.bind (stA h4 r5 10 (10 + x1) v7) fun h8 =>
      Option.bind (gtR h8 o0 5 2) fun r9 =>
      Option.bind (stA h8 r9 10 (18 + x1) (-1)) fun h10 =>
      L_X5_begins_23 o0 k n h10 (x1 + 1)
noncomputable def L_X5_begins_81 {β : Type} (o0 : Nat) (k : AH → Int32 → Option (β)) : Nat → AH → Int32 → Option (β)
  | 0, _, _ => none
  | n + 1, h, x1 =>
    if 5 ≤ x1 then
      k h x1
    else
      Option.bind (gtR h o0 5 2) fun r1 =>
      Option.bind (stA h r1 10 (34 + x1) (-1)) fun h2 =>
      L_X5_begins_81 o0 k n h2 (x1 + 1)
noncomputable def F_X5_begins (h : AH) (o : Nat) : Option (AH) :=
  Option.bind (ckO h o 5) fun _ =>
  L_X5_begins_2 o (fun h3 y4 =>
    L_X5_begins_23 o (fun h11 y12 =>
      L_X5_begins_81 o (fun h13 y14 =>
        Option.bind (ptI h13 o 5 4 0) fun h15 =>
        Option.bind (gtR h15 o 5 6) fun r16 =>
        Option.bind (stA h15 r16 12 0 (vp_nar .boolean 0)) fun h17 =>
        Option.bind (gtR h17 o 5 6) fun r18 =>
        Option.bind (stA h17 r18 12 1 (vp_nar .boolean 0)) fun h19 =>
        Option.bind (ptI h19 o 5 10 0) fun h20 =>
        some h20
      ) FU h11 0
    ) FU h3 0
  ) FU h 0
noncomputable def F_X5_init (h : AH) (o : Nat) : Option (AH) :=
  Option.bind (some (sN h 10 50)) fun h1 =>
  Option.bind (ptR h1 o 5 0 (hN h)) fun h2 =>
  Option.bind (some (sN h2 10 50)) fun h3 =>
  Option.bind (ptR h3 o 5 1 (hN h2)) fun h4 =>
  Option.bind (some (sN h4 10 52)) fun h5 =>
  Option.bind (ptR h5 o 5 2 (hN h4)) fun h6 =>
  Option.bind (some (sN h6 10 416)) fun h7 =>
  Option.bind (ptR h7 o 5 3 (hN h6)) fun h8 =>
  Option.bind (some (sN h8 10 104)) fun h9 =>
  Option.bind (ptR h9 o 5 5 (hN h8)) fun h10 =>
  Option.bind (some (sN h10 12 2)) fun h11 =>
  Option.bind (ptR h11 o 5 6 (hN h10)) fun h12 =>
  Option.bind (some (sN h12 10 160)) fun h13 =>
  Option.bind (ptR h13 o 5 7 (hN h12)) fun h14 =>
  Option.bind (some (sN h14 10 18)) fun h15 =>
  Option.bind (ptR h15 o 5 9 (hN h14)) fun h16 =>
  Option.bind (some (sN h16 10 5)) fun h17 =>
  Option.bind (ptR h17 o 5 17 (hN h16)) fun h18 =>
  Option.bind (some (sN h18 10 5)) fun h19 =>
  Option.bind (ptR h19 o 5 18 (hN h18)) fun h20 =>
  Option.bind (some (sN h20 10 5)) fun h21 =>
  Option.bind (ptR h21 o 5 19 (hN h20)) fun h22 =>
  Option.bind (some (sN h22 10 52)) fun h23 =>
  Option.bind (ptR h23 o 5 20 (hN h22)) fun h24 =>
  Option.bind (gtR h24 o 5 0) fun r25 =>
  Option.bind (F_X5_blank h24 r25) fun h26 =>
  Option.bind (F_X5_begins h26 o) fun h27 =>
  some h27
noncomputable def F_X1_append (h : AH) (o : Nat) (x1 : Int32) : Option (AH) :=
  Option.bind (ckO h o 1) fun _ =>
  Option.bind (gtI h o 1 1) fun v1 =>
  if v1 < 160 then
    Option.bind (gtR h o 1 0) fun r2 =>
    Option.bind (gtI h o 1 1) fun v3 =>
    Option.bind (stA h r2 11 v3 (vp_nar .char x1)) fun h4 =>
    Option.bind (gtI h4 o 1 1) fun v5 =>
    Option.bind (ptI h4 o 1 1 (v5 + 1)) fun h6 =>
    some h6
  else
    some h
noncomputable def F_X4_write (h : AH) (o : Nat) (x1 : Int32) : Option (Int32 × AH) :=
  Option.bind (ckO h o 4) fun _ =>
  if x1 < 0 then
    some ((-3), h)
  else
    if x1 ≤ 255 then
      Option.bind (gtR h o 4 0) fun r1 =>
      Option.bind (gtI h r1 1 1) fun v2 =>
      if v2 < 160 then
        Option.bind (gtR h o 4 0) fun r3 =>
        Option.bind (F_X1_append h r3 (chI x1)) fun h4 =>
        Option.bind (gtR h4 o 4 0) fun r5 =>
        Option.bind (gtI h4 r5 1 1) fun v6 =>
        some (v6, h4)
      else
        some ((-5), h)
    else
      some ((-3), h)
noncomputable def F_X5_in (h : AH) (x0 : Int64) (x2 : Int64) (x4 : Int64) : Option (Int32) :=
  if (lg_cmp x0 x2) < 0 then
    some 0
  else
    if 0 < (lg_cmp x0 x4) then
      some 0
    else
      some 1
noncomputable def F_X5_write (h : AH) (o : Nat) (x1 : Int32) : Option (Int32 × AH) :=
  Option.bind (ckO h o 5) fun _ =>
  Option.bind (F_X5_in h x1.toInt64 0 255) fun v1 =>
  if ¬ v1 = 0 then
    Option.bind (gtI h o 5 8) fun v2 =>
    if ¬ v2 = 160 then
      Option.bind (gtR h o 5 7) fun r3 =>
      Option.bind (gtI h o 5 8) fun v4 =>
      Option.bind (stA h r3 10 v4 x1) fun h5 =>
      Option.bind (gtI h5 o 5 8) fun v6 =>
      Option.bind (ptI h5 o 5 8 (v6 + 1)) fun h7 =>
      Option.bind (gtI h7 o 5 8) fun v8 =>
      some (v8, h7)
    else
      some ((-5), h)
  else
    some ((-3), h)
noncomputable def F_X4_erase (h : AH) (o : Nat) : Option (Int32 × AH) :=
  Option.bind (ckO h o 4) fun _ =>
  Option.bind (gtR h o 4 0) fun r1 =>
  Option.bind (gtI h r1 1 1) fun v2 =>
  Option.bind (gtR h o 4 0) fun r3 =>
  Option.bind (ptI h r3 1 1 0) fun h4 =>
  some (v2, h4)
noncomputable def F_X5_erase (h : AH) (o : Nat) : Option (Int32 × AH) :=
  Option.bind (ckO h o 5) fun _ =>
  Option.bind (gtI h o 5 8) fun v1 =>
  Option.bind (ptI h o 5 8 0) fun h2 =>
  some (v1, h2)
noncomputable def F_X2_copyFrom (h : AH) (o : Nat) (o1 : Nat) : Option (AH) :=
  Option.bind (ckO h o 2) fun _ =>
  Option.bind (gtI h o1 2 0) fun v1 =>
  Option.bind (ptI h o 2 0 v1) fun h2 =>
  Option.bind (gtI h2 o1 2 1) fun v3 =>
  Option.bind (ptI h2 o 2 1 v3) fun h4 =>
  Option.bind (gtR h4 o1 2 2) fun r5 =>
  Option.bind (gtR h4 o 2 2) fun r6 =>
  Option.bind (cpA h4 r5 0 r6 0 8) fun h7 =>
  Option.bind (gtR h7 o1 2 3) fun r8 =>
  Option.bind (gtR h7 o 2 3) fun r9 =>
  Option.bind (cpA h7 r8 0 r9 0 8) fun h10 =>
  Option.bind (gtR h10 o1 2 4) fun r11 =>
  Option.bind (gtR h10 o 2 4) fun r12 =>
  Option.bind (cpA h10 r11 0 r12 0 8) fun h13 =>
  Option.bind (gtR h13 o1 2 5) fun r14 =>
  Option.bind (gtR h13 o 2 5) fun r15 =>
  Option.bind (cpA h13 r14 0 r15 0 5) fun h16 =>
  Option.bind (gtR h16 o1 2 6) fun r17 =>
  Option.bind (gtR h16 o 2 6) fun r18 =>
  Option.bind (cpA h16 r17 0 r18 0 5) fun h19 =>
  Option.bind (gtR h19 o1 2 7) fun r20 =>
  Option.bind (gtR h19 o 2 7) fun r21 =>
  Option.bind (cpA h19 r20 0 r21 0 14) fun h22 =>
  some h22
noncomputable def F_X1_isSmall (h : AH) (x0 : Int32) : Option (Int32) :=
  if x0 < 97 then
    some 0
  else
    if 122 < x0 then
      some 0
    else
      some 1
noncomputable def F_X1_isDigit (h : AH) (x0 : Int32) : Option (Int32) :=
  if x0 < 48 then
    some 0
  else
    if 57 < x0 then
      some 0
    else
      some 1
noncomputable def L_X1_nextToken_8 {β : Type} (o0 : Nat) (k : AH → Option (β)) : Nat → AH → Option (β)
  | 0, _ => none
  | n + 1, h =>
    Option.bind (gtI h o0 1 3) fun v1 =>
    Option.bind (gtI h o0 1 1) fun v2 =>
    if v2 ≤ v1 then
      k h
    else
      Option.bind (gtR h o0 1 0) fun r3 =>
      Option.bind (gtI h o0 1 3) fun v4 =>
      Option.bind (ldA h r3 11 v4) fun v5 =>
      if ¬ v5 = 32 then
        k h
      else
        Option.bind (gtI h o0 1 3) fun v6 =>
        Option.bind (ptI h o0 1 3 (v6 + 1)) fun h7 =>
        L_X1_nextToken_8 o0 k n h7
noncomputable def L_X1_nextToken_145 {β : Type} (o0 : Nat) (k : AH → Option (β)) : Nat → AH → Option (β)
  | 0, _ => none
  | n + 1, h =>
    Option.bind (gtI h o0 1 4) fun v1 =>
    Option.bind (gtI h o0 1 1) fun v2 =>
    if v2 ≤ v1 then
      k h
    else
      Option.bind (gtR h o0 1 0) fun r3 =>
      Option.bind (gtI h o0 1 4) fun v4 =>
      Option.bind (ldA h r3 11 v4) fun v5 =>
      Option.bind (F_X1_isDigit h v5) fun v6 =>
      if v6 = 0 then
        k h
      else
        Option.bind (gtI h o0 1 4) fun v7 =>
        Option.bind (ptI h o0 1 4 (v7 + 1)) fun h8 =>
        L_X1_nextToken_145 o0 k n h8
noncomputable def L_X1_nextToken_91 {β : Type} (o0 : Nat) (k : AH → Option (β)) : Nat → AH → Option (β)
  | 0, _ => none
  | n + 1, h =>
    Option.bind (gtI h o0 1 4) fun v1 =>
    Option.bind (gtI h o0 1 1) fun v2 =>
    if v2 ≤ v1 then
      k h
    else
      Option.bind (gtR h o0 1 0) fun r3 =>
      Option.bind (gtI h o0 1 4) fun v4 =>
      Option.bind (ldA h r3 11 v4) fun v5 =>
      Option.bind (F_X1_isSmall h v5) fun v6 =>
      if v6 = 0 then
        k h
      else
        Option.bind (gtI h o0 1 4) fun v7 =>
        Option.bind (ptI h o0 1 4 (v7 + 1)) fun h8 =>
        L_X1_nextToken_91 o0 k n h8
noncomputable def F_X1_nextToken (h : AH) (o : Nat) : Option (AH) :=
  Option.bind (ckO h o 1) fun _ =>
  Option.bind (gtI h o 1 4) fun v1 =>
  Option.bind (ptI h o 1 3 v1) fun h2 =>
  L_X1_nextToken_8 o (fun h8 =>
    Option.bind (gtI h8 o 1 3) fun v9 =>
    Option.bind (ptI h8 o 1 4 v9) fun h10 =>
    Option.bind (gtI h10 o 1 3) fun v11 =>
    Option.bind (gtI h10 o 1 1) fun v12 =>
    if v11 < v12 then
      Option.bind (gtI h10 o 1 4) fun v13 =>
      Option.bind (ptI h10 o 1 4 (v13 + 1)) fun h14 =>
      Option.bind (gtR h14 o 1 0) fun r15 =>
      Option.bind (gtI h14 o 1 3) fun v16 =>
      Option.bind (ldA h14 r15 11 v16) fun v17 =>
      Option.bind (F_X1_isSmall h14 v17) fun v18 =>
      if v18 = 0 then
        Option.bind (gtR h14 o 1 0) fun r19 =>
        Option.bind (gtI h14 o 1 3) fun v20 =>
        Option.bind (ldA h14 r19 11 v20) fun v21 =>
        Option.bind (F_X1_isDigit h14 v21) fun v22 =>
        if v22 = 0 then
          some h14
        else
          L_X1_nextToken_145 o (fun h23 =>
            some h23
          ) FU h14
      else
        L_X1_nextToken_91 o (fun h24 =>
          some h24
        ) FU h14
    else
      some h10
  ) FU h2
noncomputable def L_X1_reads_20 (h : AH) (o0 : Nat) (x1 : Nat) (k : Int32 → Option (Int32)) : Nat → Int32 → Option (Int32)
  | 0, _ => none
  | n + 1, x2 =>
    if (nI (stL.getD x1 0)) ≤ x2 then
      k x2
    else
      Option.bind (gtR h o0 1 0) fun r1 =>
      Option.bind (gtI h o0 1 3) fun v2 =>
      Option.bind (ldA h r1 11 (v2 + x2)) fun v3 =>
      Option.bind (sAt x1 x2) fun v4 =>
      if v3 = v4 then
        L_X1_reads_20 h o0 x1 k n (x2 + 1)
      else
        some 0
noncomputable def F_X1_reads (h : AH) (o : Nat) (x1 : Nat) : Option (Int32) :=
  Option.bind (ckO h o 1) fun _ =>
  Option.bind (gtI h o 1 4) fun v1 =>
  Option.bind (gtI h o 1 3) fun v2 =>
  if (v1 - v2) = (nI (stL.getD x1 0)) then
    L_X1_reads_20 h o x1 (fun y5 =>
      some 1
    ) FU 0
  else
    some 0
noncomputable def F_X2_clearNews (h : AH) (o : Nat) : Option (AH) :=
  Option.bind (ckO h o 2) fun _ =>
  Option.bind (gtR h o 2 7) fun r1 =>
  Option.bind (F_J7_fill_53178 h r1 (-1)) fun h2 =>
  some h2
noncomputable def F_X2_clear (h : AH) (o : Nat) : Option (AH) :=
  Option.bind (ckO h o 2) fun _ =>
  Option.bind (ptI h o 2 0 0) fun h1 =>
  Option.bind (ptI h1 o 2 1 0) fun h2 =>
  Option.bind (F_X2_clearNews h2 o) fun h3 =>
  some h3
noncomputable def L_X1_nextNumber_49 {β : Type} (h : AH) (o0 : Nat) (x1 : Int32) (x2 : Int32) (k : Int32 → Int32 → Option (β)) : Nat → Int32 → Int32 → Option (β)
  | 0, _, _ => none
  | n + 1, x3, x4 =>
    Option.bind (gtI h o0 1 4) fun v1 =>
    if v1 ≤ x4 then
      k x3 x4
    else
      Option.bind (gtR h o0 1 0) fun r2 =>
      Option.bind (ldA h r2 11 x4) fun v3 =>
      L_X1_nextNumber_49 h o0 x1 x2 k n ((10 * x3) + (v3 - 48)) (x4 + 1)
noncomputable def F_X1_nextNumber (h : AH) (o : Nat) (x1 : Int32) : Option (Int32 × AH) :=
  Option.bind (ckO h o 1) fun _ =>
  Option.bind (F_X1_nextToken h o) fun h1 =>
  Option.bind (gtI h1 o 1 4) fun v2 =>
  Option.bind (gtI h1 o 1 3) fun v3 =>
  if (v2 - v3) < 1 then
    some ((-1), h1)
  else
    if 2 < (v2 - v3) then
      some ((-1), h1)
    else
      Option.bind (gtR h1 o 1 0) fun r4 =>
      Option.bind (gtI h1 o 1 3) fun v5 =>
      Option.bind (ldA h1 r4 11 v5) fun v6 =>
      Option.bind (F_X1_isDigit h1 v6) fun v7 =>
      if ¬ v7 = 0 then
        Option.bind (gtI h1 o 1 3) fun v8 =>
        L_X1_nextNumber_49 h1 o x1 (v2 - v3) (fun y9 y10 =>
          if x1 < y9 then
            some ((-1), h1)
          else
            some (y9, h1)
        ) FU 0 v8
      else
        some ((-1), h1)
noncomputable def F_X2_addPlace (h : AH) (o : Nat) (x1 : Int32) (x2 : Int32) (x3 : Int32) : Option (AH) :=
  Option.bind (ckO h o 2) fun _ =>
  Option.bind (gtI h o 2 0) fun v1 =>
  if v1 < 8 then
    Option.bind (gtR h o 2 2) fun r2 =>
    Option.bind (gtI h o 2 0) fun v3 =>
    Option.bind (stA h r2 10 v3 x1) fun h4 =>
    Option.bind (gtR h4 o 2 3) fun r5 =>
    Option.bind (gtI h4 o 2 0) fun v6 =>
    Option.bind (stA h4 r5 10 v6 x2) fun h7 =>
    Option.bind (gtR h7 o 2 4) fun r8 =>
    Option.bind (gtI h7 o 2 0) fun v9 =>
    Option.bind (stA h7 r8 10 v9 x3) fun h10 =>
    Option.bind (gtI h10 o 2 0) fun v11 =>
    Option.bind (ptI h10 o 2 0 (v11 + 1)) fun h12 =>
    some h12
  else
    some h
noncomputable def F_X1_readPlace (h : AH) (o : Nat) (o1 : Nat) : Option (Int32 × AH) :=
  Option.bind (ckO h o 1) fun _ =>
  Option.bind (F_X1_nextNumber h o 7) fun q1 =>
  if ¬ q1.1 = (-1) then
    Option.bind (F_X1_nextNumber q1.2 o 9) fun q2 =>
    if ¬ q2.1 = (-1) then
      Option.bind (F_X1_nextNumber q2.2 o 9) fun q3 =>
      if ¬ q3.1 = (-1) then
        Option.bind (F_X2_addPlace q3.2 o1 q1.1 q2.1 q3.1) fun h4 =>
        some (1, h4)
      else
        some (0, q3.2)
    else
      some (0, q2.2)
  else
    some (0, q1.2)
noncomputable def F_X1_readNews (h : AH) (o : Nat) (o1 : Nat) : Option (Int32 × AH) :=
  Option.bind (ckO h o 1) fun _ =>
  Option.bind (F_X1_nextNumber h o 13) fun q1 =>
  if ¬ q1.1 = (-1) then
    Option.bind (F_X1_nextNumber q1.2 o 7) fun q2 =>
    if ¬ q2.1 = (-1) then
      Option.bind (gtR q2.2 o1 2 7) fun r3 =>
      Option.bind (stA q2.2 r3 10 q1.1 q2.1) fun h4 =>
      some (1, h4)
    else
      some (0, q2.2)
  else
    some (0, q1.2)
noncomputable def F_X1_kindRead (h : AH) (o : Nat) : Option (Int32) :=
  Option.bind (ckO h o 1) fun _ =>
  Option.bind (F_X1_reads h o 4) fun v1 =>
  if v1 = 0 then
    Option.bind (F_X1_reads h o 5) fun v2 =>
    if v2 = 0 then
      Option.bind (F_X1_reads h o 6) fun v3 =>
      if v3 = 0 then
        Option.bind (F_X1_reads h o 7) fun v4 =>
        if v4 = 0 then
          some (-1)
        else
          some 3
      else
        some 2
    else
      some 1
  else
    some 0
noncomputable def F_X2_addHen (h : AH) (o : Nat) (x1 : Int32) (x2 : Int32) : Option (AH) :=
  Option.bind (ckO h o 2) fun _ =>
  Option.bind (gtI h o 2 1) fun v1 =>
  if v1 < 5 then
    Option.bind (gtR h o 2 5) fun r2 =>
    Option.bind (gtI h o 2 1) fun v3 =>
    Option.bind (stA h r2 10 v3 x1) fun h4 =>
    Option.bind (gtR h4 o 2 6) fun r5 =>
    Option.bind (gtI h4 o 2 1) fun v6 =>
    Option.bind (stA h4 r5 10 v6 x2) fun h7 =>
    Option.bind (gtI h7 o 2 1) fun v8 =>
    Option.bind (ptI h7 o 2 1 (v8 + 1)) fun h9 =>
    some h9
  else
    some h
noncomputable def F_X1_readHen (h : AH) (o : Nat) (o1 : Nat) (x2 : Int32) : Option (Int32 × AH) :=
  Option.bind (ckO h o 1) fun _ =>
  Option.bind (F_X1_nextNumber h o 9) fun q1 =>
  if ¬ q1.1 = (-1) then
    Option.bind (F_X2_addHen q1.2 o1 x2 q1.1) fun h2 =>
    some (1, h2)
  else
    some (0, q1.2)
noncomputable def F_X1_readClause (h : AH) (o : Nat) (o1 : Nat) : Option (Int32 × AH) :=
  Option.bind (ckO h o 1) fun _ =>
  Option.bind (F_X1_nextToken h o) fun h1 =>
  Option.bind (F_X1_reads h1 o 0) fun v2 =>
  if v2 = 0 then
    Option.bind (F_X1_reads h1 o 1) fun v3 =>
    if v3 = 0 then
      Option.bind (F_X1_reads h1 o 2) fun v4 =>
      if v4 = 0 then
        Option.bind (F_X1_reads h1 o 3) fun v5 =>
        if v5 = 0 then
          Option.bind (F_X1_kindRead h1 o) fun v6 =>
          if v6 = (-1) then
            some (0, h1)
          else
            Option.bind (gtI h1 o1 2 1) fun v7 =>
            if 5 ≤ v7 then
              some (0, h1)
            else
              Option.bind (F_X1_readHen h1 o o1 v6) fun q8 =>
              if q8.1 = 0 then
                some (0, q8.2)
              else
                some (1, q8.2)
        else
          Option.bind (F_X1_readNews h1 o o1) fun q9 =>
          Option.bind (bz q9.1) fun v10 => some (v10, q9.2)
      else
        Option.bind (gtI h1 o1 2 0) fun v11 =>
        if 8 ≤ v11 then
          some (0, h1)
        else
          Option.bind (F_X1_readPlace h1 o o1) fun q12 =>
          if q12.1 = 0 then
            some (0, q12.2)
          else
            some (1, q12.2)
    else
      Option.bind (F_X2_clearNews h1 o1) fun h13 =>
      some (1, h13)
  else
    Option.bind (F_X2_clear h1 o1) fun h14 =>
    some (1, h14)
noncomputable def L_X1_readInto_12 (o0 : Nat) (o1 : Nat) (k : AH → Int32 → Option (Int32 × AH)) : Nat → AH → Int32 → Option (Int32 × AH)
  | 0, _, _ => none
  | n + 1, h, x2 =>
    if 14 ≤ x2 then
      k h x2
    else
      Option.bind (F_X1_readClause h o0 o1) fun q1 =>
      if ¬ q1.1 = 0 then
        Option.bind (gtI q1.2 o0 1 2) fun v2 =>
        Option.bind (ptI q1.2 o0 1 2 (v2 + 1)) fun h3 =>
        Option.bind (F_X1_nextToken h3 o0) fun h4 =>
        Option.bind (gtI h4 o0 1 3) fun v5 =>
        Option.bind (gtI h4 o0 1 1) fun v6 =>
        if v5 < v6 then
          Option.bind (gtR h4 o0 1 0) fun r7 =>
          Option.bind (gtI h4 o0 1 3) fun v8 =>
          Option.bind (ldA h4 r7 11 v8) fun v9 =>
          if v9 = 59 then
            L_X1_readInto_12 o0 o1 k n h4 (x2 + 1)
          else
            Option.bind (gtI h4 o0 1 3) fun v10 =>
            some (v10, h4)
        else
          some ((-1), h4)
      else
        Option.bind (gtI q1.2 o0 1 3) fun v11 =>
        some (v11, q1.2)
noncomputable def F_X1_readInto (h : AH) (o : Nat) (o1 : Nat) : Option (Int32 × AH) :=
  Option.bind (ckO h o 1) fun _ =>
  Option.bind (ptI h o 1 2 0) fun h1 =>
  Option.bind (ptI h1 o 1 4 0) fun h2 =>
  L_X1_readInto_12 o o1 (fun h12 y13 =>
    Option.bind (gtI h12 o 1 3) fun v14 =>
    some (v14, h12)
  ) FU h2 0
noncomputable def F_X4_fault (h : AH) (o : Nat) : Option (Int32 × AH) :=
  Option.bind (ckO h o 4) fun _ =>
  Option.bind (gtR h o 4 2) fun r1 =>
  Option.bind (gtR h o 4 1) fun r2 =>
  Option.bind (F_X2_copyFrom h r1 r2) fun h3 =>
  Option.bind (gtR h3 o 4 0) fun r4 =>
  Option.bind (gtR h3 o 4 2) fun r5 =>
  Option.bind (F_X1_readInto h3 r4 r5) fun q6 =>
  some (q6.1, q6.2)
noncomputable def L_X5_copies_3 {β : Type} (o0 : Nat) (x1 : Int32) (o2 : Nat) (x3 : Int32) (x4 : Int32) (k : AH → Int32 → Option (β)) : Nat → AH → Int32 → Option (β)
  | 0, _, _ => none
  | n + 1, h, x5 =>
    if x4 ≤ x5 then
      k h x5
    else
      Option.bind (ldA h o0 10 (x1 + x5)) fun v1 =>
      Option.bind (stA h o2 10 (x3 + x5) v1) fun h2 =>
      L_X5_copies_3 o0 x1 o2 x3 x4 k n h2 (x5 + 1)
noncomputable def F_X5_copies (h : AH) (o0 : Nat) (x1 : Int32) (o2 : Nat) (x3 : Int32) (x4 : Int32) : Option (AH) :=
  L_X5_copies_3 o0 x1 o2 x3 x4 (fun h3 y4 =>
    some h3
  ) FU h 0
noncomputable def F_X5_here (h : AH) (o : Nat) : Option (Int32) :=
  Option.bind (ckO h o 5) fun _ =>
  Option.bind (gtI h o 5 11) fun v1 =>
  Option.bind (gtI h o 5 8) fun v2 =>
  if v2 ≤ v1 then
    some (-1)
  else
    Option.bind (gtR h o 5 7) fun r3 =>
    Option.bind (gtI h o 5 11) fun v4 =>
    Option.bind (ldA h r3 10 v4) fun v5 =>
    some v5
noncomputable def L_X5_step_0 {β : Type} (o0 : Nat) (k : AH → Option (β)) : Nat → AH → Option (β)
  | 0, _ => none
  | n + 1, h =>
    Option.bind (F_X5_here h o0) fun v1 =>
    if ¬ v1 = 32 then
      k h
    else
      Option.bind (gtI h o0 5 11) fun v2 =>
      Option.bind (ptI h o0 5 11 (v2 + 1)) fun h3 =>
      L_X5_step_0 o0 k n h3
noncomputable def L_X5_step_122 {β : Type} (o0 : Nat) (x1 : Int32) (k : AH → Option (β)) : Nat → AH → Option (β)
  | 0, _ => none
  | n + 1, h =>
    Option.bind (gtI h o0 5 13) fun v1 =>
    if ¬ v1 = 1 then
      k h
    else
      Option.bind (F_X5_here h o0) fun v2 =>
      Option.bind (F_X5_in h v2.toInt64 97 122) fun v3 =>
      if v3 = 0 then
        k h
      else
        Option.bind (gtI h o0 5 11) fun v4 =>
        Option.bind (gtI h o0 5 12) fun v5 =>
        Option.bind (α := Int64) (
          if 7 ≤ (v4 - v5) then
            some (-1)
          else
            Option.bind (gtL h o0 5 14) fun v7 =>
            Option.bind (F_X5_here h o0) fun v8 =>
            some ((v7 * 256) + v8.toInt64)
        ) fun q6 =>
        Option.bind (ptL h o0 5 14 q6) fun h9 =>
        Option.bind (gtI h9 o0 5 11) fun v10 =>
        Option.bind (ptI h9 o0 5 11 (v10 + 1)) fun h11 =>
        L_X5_step_122 o0 x1 k n h11
noncomputable def L_X5_step_198 {β : Type} (o0 : Nat) (x1 : Int32) (k : AH → Option (β)) : Nat → AH → Option (β)
  | 0, _ => none
  | n + 1, h =>
    Option.bind (gtI h o0 5 13) fun v1 =>
    if ¬ v1 = 2 then
      k h
    else
      Option.bind (F_X5_here h o0) fun v2 =>
      Option.bind (F_X5_in h v2.toInt64 48 57) fun v3 =>
      if v3 = 0 then
        k h
      else
        Option.bind (gtI h o0 5 11) fun v4 =>
        Option.bind (gtI h o0 5 12) fun v5 =>
        Option.bind (α := Int32) (
          if 2 ≤ (v4 - v5) then
            Option.bind (gtI h o0 5 15) fun v7 =>
            some v7
          else
            Option.bind (gtI h o0 5 15) fun v8 =>
            Option.bind (F_X5_here h o0) fun v9 =>
            some (((10 * v8) + v9) - 48)
        ) fun q6 =>
        Option.bind (ptI h o0 5 15 q6) fun h10 =>
        Option.bind (gtI h10 o0 5 11) fun v11 =>
        Option.bind (ptI h10 o0 5 11 (v11 + 1)) fun h12 =>
        L_X5_step_198 o0 x1 k n h12
noncomputable def F_X5_step (h : AH) (o : Nat) : Option (AH) :=
  Option.bind (ckO h o 5) fun _ =>
  L_X5_step_0 o (fun h4 =>
    Option.bind (gtI h4 o 5 11) fun v5 =>
    Option.bind (ptI h4 o 5 12 v5) fun h6 =>
    Option.bind (ptL h6 o 5 14 0) fun h7 =>
    Option.bind (ptI h7 o 5 15 0) fun h8 =>
    Option.bind (F_X5_here h8 o) fun v9 =>
    Option.bind (α := Int32) (
      if 0 ≤ v9 then
        Option.bind (F_X5_in h8 v9.toInt64 97 122) fun v11 =>
        if v11 = 0 then
          Option.bind (F_X5_in h8 v9.toInt64 48 57) fun v12 =>
          if v12 = 0 then
            if ¬ v9 = 59 then
              some 4
            else
              some 3
          else
            some 2
        else
          some 1
      else
        some 0
    ) fun q10 =>
    Option.bind (ptI h8 o 5 13 q10) fun h13 =>
    Option.bind (gtI h13 o 5 13) fun v14 =>
    Option.bind (α := AH) (
      if v14 ≤ 2 then
        some h13
      else
        Option.bind (gtI h13 o 5 11) fun v16 =>
        Option.bind (ptI h13 o 5 11 (v16 + 1)) fun h17 =>
        some h17
    ) fun q15 =>
    L_X5_step_122 o v9 (fun h18 =>
      L_X5_step_198 o v9 (fun h19 =>
        Option.bind (gtI h19 o 5 13) fun v20 =>
        if ¬ v20 = 2 then
          Option.bind (gtI h19 o 5 13) fun v21 =>
          Option.bind (ptI h19 o 5 13 v21) fun h22 =>
          some h22
        else
          Option.bind (gtI h19 o 5 11) fun v23 =>
          Option.bind (gtI h19 o 5 12) fun v24 =>
          if (v23 - v24) ≤ 2 then
            Option.bind (gtI h19 o 5 13) fun v25 =>
            Option.bind (ptI h19 o 5 13 v25) fun h26 =>
            some h26
          else
            Option.bind (ptI h19 o 5 13 4) fun h27 =>
            some h27
      ) FU h18
    ) FU q15
  ) FU h
noncomputable def F_X5_anew (h : AH) (o : Nat) : Option (Int32 × AH) :=
  Option.bind (ckO h o 5) fun _ =>
  Option.bind (gtR h o 5 1) fun r1 =>
  Option.bind (F_X5_blank h r1) fun h2 =>
  some (1, h2)
noncomputable def F_X5_number (h : AH) (o : Nat) (x1 : Int32) : Option (Int32 × AH) :=
  Option.bind (ckO h o 5) fun _ =>
  Option.bind (F_X5_step h o) fun h1 =>
  Option.bind (gtI h1 o 5 13) fun v2 =>
  if ¬ v2 = 2 then
    some (0, h1)
  else
    Option.bind (gtI h1 o 5 15) fun v3 =>
    if x1 < v3 then
      some (0, h1)
    else
      some (1, h1)
noncomputable def F_X5_readsPlace (h : AH) (o : Nat) : Option (Int32 × AH) :=
  Option.bind (ckO h o 5) fun _ =>
  Option.bind (gtR h o 5 1) fun r1 =>
  Option.bind (ldA h r1 10 0) fun v2 =>
  if v2 = 8 then
    some (0, h)
  else
    Option.bind (F_X5_number h o 7) fun q3 =>
    if ¬ q3.1 = 0 then
      Option.bind (gtR q3.2 o 5 1) fun r4 =>
      Option.bind (gtI q3.2 o 5 15) fun v5 =>
      Option.bind (stA q3.2 r4 10 (1 + v2) v5) fun h6 =>
      Option.bind (F_X5_number h6 o 9) fun q7 =>
      if ¬ q7.1 = 0 then
        Option.bind (gtR q7.2 o 5 1) fun r8 =>
        Option.bind (gtI q7.2 o 5 15) fun v9 =>
        Option.bind (stA q7.2 r8 10 (9 + v2) v9) fun h10 =>
        Option.bind (F_X5_number h10 o 9) fun q11 =>
        if ¬ q11.1 = 0 then
          Option.bind (gtR q11.2 o 5 1) fun r12 =>
          Option.bind (gtI q11.2 o 5 15) fun v13 =>
          Option.bind (stA q11.2 r12 10 (17 + v2) v13) fun h14 =>
          Option.bind (gtR h14 o 5 1) fun r15 =>
          Option.bind (ldA h14 r15 10 0) fun v16 =>
          Option.bind (stA h14 r15 10 0 (v16 + 1)) fun h17 =>
          some (1, h17)
        else
          some (0, q11.2)
      else
        some (0, q7.2)
    else
      some (0, q3.2)
noncomputable def F_X5_readsNews (h : AH) (o : Nat) : Option (Int32 × AH) :=
  Option.bind (ckO h o 5) fun _ =>
  Option.bind (F_X5_number h o 13) fun q1 =>
  if ¬ q1.1 = 0 then
    Option.bind (gtI q1.2 o 5 15) fun v2 =>
    Option.bind (F_X5_number q1.2 o 7) fun q3 =>
    if ¬ q3.1 = 0 then
      Option.bind (gtR q3.2 o 5 1) fun r4 =>
      Option.bind (gtI q3.2 o 5 15) fun v5 =>
      Option.bind (stA q3.2 r4 10 (36 + v2) v5) fun h6 =>
      some (1, h6)
    else
      some (0, q3.2)
  else
    some (0, q1.2)
noncomputable def L_X5_calm_2 {β : Type} (o0 : Nat) (k : AH → Int32 → Option (β)) : Nat → AH → Int32 → Option (β)
  | 0, _, _ => none
  | n + 1, h, x1 =>
    if 14 ≤ x1 then
      k h x1
    else
      Option.bind (gtR h o0 5 1) fun r1 =>
      Option.bind (stA h r1 10 (36 + x1) (-1)) fun h2 =>
      L_X5_calm_2 o0 k n h2 (x1 + 1)
noncomputable def F_X5_calm (h : AH) (o : Nat) : Option (Int32 × AH) :=
  Option.bind (ckO h o 5) fun _ =>
  L_X5_calm_2 o (fun h3 y4 =>
    some (1, h3)
  ) FU h 0
noncomputable def F_X5_readsHen (h : AH) (o : Nat) (x1 : Int32) : Option (Int32 × AH) :=
  Option.bind (ckO h o 5) fun _ =>
  Option.bind (gtR h o 5 1) fun r1 =>
  Option.bind (ldA h r1 10 25) fun v2 =>
  if v2 = 5 then
    some (0, h)
  else
    Option.bind (F_X5_number h o 9) fun q3 =>
    if ¬ q3.1 = 0 then
      Option.bind (gtR q3.2 o 5 1) fun r4 =>
      Option.bind (stA q3.2 r4 10 (26 + v2) x1) fun h5 =>
      Option.bind (gtR h5 o 5 1) fun r6 =>
      Option.bind (gtI h5 o 5 15) fun v7 =>
      Option.bind (stA h5 r6 10 (31 + v2) v7) fun h8 =>
      Option.bind (gtR h8 o 5 1) fun r9 =>
      Option.bind (ldA h8 r9 10 25) fun v10 =>
      Option.bind (stA h8 r9 10 25 (v10 + 1)) fun h11 =>
      some (1, h11)
    else
      some (0, q3.2)
noncomputable def F_X5_readsClause (h : AH) (o : Nat) : Option (Int32 × AH) :=
  Option.bind (ckO h o 5) fun _ =>
  Option.bind (gtI h o 5 13) fun v1 =>
  if v1 = 1 then
    Option.bind (gtL h o 5 14) fun v2 =>
    if ¬ (lg_cmp v2 2036429412) = 0 then
      if ¬ (lg_cmp v2 482854658917) = 0 then
        if ¬ (lg_cmp v2 1852143475) = 0 then
          if ¬ (lg_cmp v2 1667329133) = 0 then
            Option.bind (α := Int32) (
              if ¬ (lg_cmp v2 465491813746) = 0 then
                if ¬ (lg_cmp v2 108243635364985) = 0 then
                  if ¬ (lg_cmp v2 123649632527732) = 0 then
                    if ¬ (lg_cmp v2 426953502305) = 0 then
                      some (-1)
                    else
                      some 3
                  else
                    some 2
                else
                  some 1
              else
                some 0
            ) fun q3 =>
            if q3 < 0 then
              some (0, h)
            else
              Option.bind (F_X5_readsHen h o q3) fun q4 =>
              if q4.1 = 0 then
                some (0, q4.2)
              else
                some (1, q4.2)
          else
            Option.bind (F_X5_calm h o) fun q5 =>
            Option.bind (bz q5.1) fun v6 => some (v6, q5.2)
        else
          Option.bind (F_X5_readsNews h o) fun q7 =>
          Option.bind (bz q7.1) fun v8 => some (v8, q7.2)
      else
        Option.bind (F_X5_readsPlace h o) fun q9 =>
        Option.bind (bz q9.1) fun v10 => some (v10, q9.2)
    else
      Option.bind (F_X5_anew h o) fun q11 =>
      Option.bind (bz q11.1) fun v12 => some (v12, q11.2)
  else
    some (0, h)
noncomputable def L_X5_reads_27 (o0 : Nat) (k : AH → Int32 → Option (Int32 × AH)) : Nat → AH → Int32 → Option (Int32 × AH)
  | 0, _, _ => none
  | n + 1, h, x1 =>
    if x1 = 0 then
      k h x1
    else
      Option.bind (F_X5_step h o0) fun h1 =>
      Option.bind (F_X5_readsClause h1 o0) fun q2 =>
      if ¬ q2.1 = 0 then
        Option.bind (gtI q2.2 o0 5 16) fun v3 =>
        Option.bind (ptI q2.2 o0 5 16 (v3 + 1)) fun h4 =>
        Option.bind (F_X5_step h4 o0) fun h5 =>
        Option.bind (gtI h5 o0 5 13) fun v6 =>
        Option.bind (α := Int32) (
          if ¬ v6 = 3 then
            some 0
          else
            Option.bind (gtI h5 o0 5 16) fun v8 =>
            if 14 ≤ v8 then
              some 0
            else
              some 1
        ) fun q7 =>
        L_X5_reads_27 o0 k n h5 q7
      else
        Option.bind (gtI q2.2 o0 5 12) fun v9 =>
        some (v9, q2.2)
noncomputable def F_X5_reads (h : AH) (o : Nat) : Option (Int32 × AH) :=
  Option.bind (ckO h o 5) fun _ =>
  Option.bind (gtR h o 5 0) fun r1 =>
  Option.bind (gtR h o 5 1) fun r2 =>
  Option.bind (F_X5_copies h r1 0 r2 0 50) fun h3 =>
  Option.bind (ptI h3 o 5 11 0) fun h4 =>
  Option.bind (ptI h4 o 5 16 0) fun h5 =>
  L_X5_reads_27 o (fun h10 y11 =>
    Option.bind (gtI h10 o 5 13) fun v12 =>
    if ¬ v12 = 0 then
      Option.bind (gtI h10 o 5 12) fun v13 =>
      some (v13, h10)
    else
      some ((-1), h10)
  ) FU h5 1
noncomputable def F_X5_fault (h : AH) (o : Nat) : Option (Int32 × AH) :=
  Option.bind (ckO h o 5) fun _ =>
  Option.bind (F_X5_reads h o) fun q1 =>
  some (q1.1, q1.2)
noncomputable def F_X3_beginAs (h : AH) (o : Nat) (o1 : Nat) : Option (AH) :=
  Option.bind (ckO h o 3) fun _ =>
  Option.bind (gtR h o1 2 2) fun r1 =>
  Option.bind (gtR h o 3 0) fun r2 =>
  Option.bind (cpA h r1 0 r2 0 8) fun h3 =>
  Option.bind (gtR h3 o1 2 3) fun r4 =>
  Option.bind (gtR h3 o 3 1) fun r5 =>
  Option.bind (cpA h3 r4 0 r5 0 8) fun h6 =>
  Option.bind (gtR h6 o1 2 5) fun r7 =>
  Option.bind (gtR h6 o 3 4) fun r8 =>
  Option.bind (cpA h6 r7 0 r8 0 5) fun h9 =>
  Option.bind (gtR h9 o1 2 6) fun r10 =>
  Option.bind (gtR h9 o 3 5) fun r11 =>
  Option.bind (cpA h9 r10 0 r11 0 5) fun h12 =>
  Option.bind (gtR h12 o 3 2) fun r13 =>
  Option.bind (F_J7_fill_53178 h12 r13 (-1)) fun h14 =>
  Option.bind (gtR h14 o 3 6) fun r15 =>
  Option.bind (F_J7_fill_53178 h14 r15 (-1)) fun h16 =>
  Option.bind (gtR h16 o 3 7) fun r17 =>
  Option.bind (F_J7_fill_53178 h16 r17 0) fun h18 =>
  Option.bind (gtR h18 o 3 8) fun r19 =>
  Option.bind (F_J7_fill_53178 h18 r19 0) fun h20 =>
  Option.bind (ptI h20 o 3 9 0) fun h21 =>
  Option.bind (ptZ h21 o 3 10 0) fun h22 =>
  Option.bind (ptI h22 o 3 11 0) fun h23 =>
  Option.bind (ptI h23 o 3 12 0) fun h24 =>
  Option.bind (ptI h24 o 3 13 0) fun h25 =>
  some h25
noncomputable def L_X4_yard_74 {β : Type} (o0 : Nat) (k : AH → Int32 → Option (β)) : Nat → AH → Int32 → Option (β)
  | 0, _, _ => none
  | n + 1, h, x1 =>
    if 2 ≤ x1 then
      k h x1
    else
      Option.bind (gtR h o0 4 8) fun r1 =>
      Option.bind (stA h r1 12 x1 (vp_nar .boolean 0)) fun h2 =>
      L_X4_yard_74 o0 k n h2 (x1 + 1)
noncomputable def F_X4_yard (h : AH) (o : Nat) : Option (Int32 × AH) :=
  Option.bind (ckO h o 4) fun _ =>
  Option.bind (gtR h o 4 2) fun r1 =>
  Option.bind (gtR h o 4 1) fun r2 =>
  Option.bind (F_X2_copyFrom h r1 r2) fun h3 =>
  Option.bind (gtR h3 o 4 0) fun r4 =>
  Option.bind (gtR h3 o 4 2) fun r5 =>
  Option.bind (F_X1_readInto h3 r4 r5) fun q6 =>
  if q6.1 = (-1) then
    Option.bind (gtR q6.2 o 4 1) fun r7 =>
    Option.bind (gtR q6.2 o 4 2) fun r8 =>
    Option.bind (F_X2_copyFrom q6.2 r7 r8) fun h9 =>
    Option.bind (gtR h9 o 4 0) fun r10 =>
    Option.bind (ptI h9 r10 1 1 0) fun h11 =>
    Option.bind (gtR h11 o 4 3) fun r12 =>
    Option.bind (gtR h11 o 4 1) fun r13 =>
    Option.bind (F_X3_beginAs h11 r12 r13) fun h14 =>
    Option.bind (gtR h14 o 4 9) fun r15 =>
    Option.bind (ptI h14 r15 0 3 0) fun h16 =>
    Option.bind (ptI h16 o 4 6 0) fun h17 =>
    L_X4_yard_74 o (fun h18 y19 =>
      Option.bind (gtR h18 o 4 0) fun r20 =>
      Option.bind (gtI h18 r20 1 2) fun v21 =>
      some (v21, h18)
    ) FU h17 0
  else
    some ((-4), q6.2)
noncomputable def F_X5_yard (h : AH) (o : Nat) : Option (Int32 × AH) :=
  Option.bind (ckO h o 5) fun _ =>
  Option.bind (F_X5_reads h o) fun q1 =>
  if q1.1 = (-1) then
    Option.bind (gtR q1.2 o 5 1) fun r2 =>
    Option.bind (gtR q1.2 o 5 0) fun r3 =>
    Option.bind (F_X5_copies q1.2 r2 0 r3 0 50) fun h4 =>
    Option.bind (ptI h4 o 5 8 0) fun h5 =>
    Option.bind (F_X5_begins h5 o) fun h6 =>
    Option.bind (gtI h6 o 5 16) fun v7 =>
    some (v7, h6)
  else
    some ((-4), q1.2)
noncomputable def F_X4_isPlace (h : AH) (o : Nat) (x1 : Int32) : Option (Int32) :=
  Option.bind (ckO h o 4) fun _ =>
  if x1 < 0 then
    some 0
  else
    Option.bind (gtR h o 4 1) fun r1 =>
    Option.bind (gtI h r1 2 0) fun v2 =>
    if v2 ≤ x1 then
      some 0
    else
      some 1
noncomputable def F_X4_place (h : AH) (o : Nat) (x1 : Int32) (x2 : Int32) : Option (Int32) :=
  Option.bind (ckO h o 4) fun _ =>
  Option.bind (F_X4_isPlace h o x1) fun v1 =>
  if ¬ v1 = 0 then
    if x2 = 0 then
      Option.bind (gtR h o 4 3) fun r2 =>
      Option.bind (gtR h r2 3 0) fun r3 =>
      Option.bind (ldA h r3 10 x1) fun v4 =>
      some v4
    else if x2 = 1 then
      Option.bind (gtR h o 4 3) fun r5 =>
      Option.bind (gtR h r5 3 1) fun r6 =>
      Option.bind (ldA h r6 10 x1) fun v7 =>
      some v7
    else if x2 = 2 then
      Option.bind (gtR h o 4 1) fun r8 =>
      Option.bind (gtR h r8 2 4) fun r9 =>
      Option.bind (ldA h r9 10 x1) fun v10 =>
      some v10
    else if x2 = 3 then
      Option.bind (gtR h o 4 3) fun r11 =>
      Option.bind (gtR h r11 3 2) fun r12 =>
      Option.bind (ldA h r12 10 x1) fun v13 =>
      some v13
    else
      some (-3)
  else
    some (-2)
noncomputable def F_X5_isPlace (h : AH) (o : Nat) (x1 : Int32) : Option (Int32) :=
  Option.bind (ckO h o 5) fun _ =>
  Option.bind (gtR h o 5 0) fun r1 =>
  Option.bind (ldA h r1 10 0) fun v2 =>
  Option.bind (F_X5_in h x1.toInt64 0 (Int32.toInt64 (v2 - 1))) fun v3 =>
  Option.bind (bz v3) fun v4 => some v4
noncomputable def F_X5_place (h : AH) (o : Nat) (x1 : Int32) (x2 : Int32) : Option (Int32) :=
  Option.bind (ckO h o 5) fun _ =>
  Option.bind (F_X5_isPlace h o x1) fun v1 =>
  if ¬ v1 = 0 then
    if x2 = 0 then
      Option.bind (gtR h o 5 2) fun r2 =>
      Option.bind (ldA h r2 10 (2 + x1)) fun v3 =>
      some v3
    else if x2 = 1 then
      Option.bind (gtR h o 5 2) fun r4 =>
      Option.bind (ldA h r4 10 (10 + x1)) fun v5 =>
      some v5
    else if x2 = 2 then
      Option.bind (gtR h o 5 0) fun r6 =>
      Option.bind (ldA h r6 10 (17 + x1)) fun v7 =>
      some v7
    else if x2 = 3 then
      Option.bind (gtR h o 5 2) fun r8 =>
      Option.bind (ldA h r8 10 (18 + x1)) fun v9 =>
      some v9
    else
      some (-3)
  else
    some (-2)
noncomputable def F_X4_isHen (h : AH) (o : Nat) (x1 : Int32) : Option (Int32) :=
  Option.bind (ckO h o 4) fun _ =>
  if x1 < 0 then
    some 0
  else
    Option.bind (gtR h o 4 1) fun r1 =>
    Option.bind (gtI h r1 2 1) fun v2 =>
    if v2 ≤ x1 then
      some 0
    else
      some 1
noncomputable def F_X4_hen (h : AH) (o : Nat) (x1 : Int32) (x2 : Int32) : Option (Int32) :=
  Option.bind (ckO h o 4) fun _ =>
  Option.bind (F_X4_isHen h o x1) fun v1 =>
  if ¬ v1 = 0 then
    if x2 = 0 then
      Option.bind (gtR h o 4 3) fun r2 =>
      Option.bind (gtR h r2 3 4) fun r3 =>
      Option.bind (ldA h r3 10 x1) fun v4 =>
      some v4
    else if x2 = 1 then
      Option.bind (gtR h o 4 3) fun r5 =>
      Option.bind (gtR h r5 3 5) fun r6 =>
      Option.bind (ldA h r6 10 x1) fun v7 =>
      some v7
    else if x2 = 2 then
      Option.bind (gtR h o 4 3) fun r8 =>
      Option.bind (gtR h r8 3 6) fun r9 =>
      Option.bind (ldA h r9 10 x1) fun v10 =>
      some v10
    else if x2 = 3 then
      Option.bind (gtR h o 4 3) fun r11 =>
      Option.bind (gtR h r11 3 7) fun r12 =>
      Option.bind (ldA h r12 10 x1) fun v13 =>
      some v13
    else if x2 = 4 then
      Option.bind (gtR h o 4 3) fun r14 =>
      Option.bind (gtR h r14 3 8) fun r15 =>
      Option.bind (ldA h r15 10 x1) fun v16 =>
      some v16
    else
      some (-3)
  else
    some (-2)
noncomputable def F_X5_isHen (h : AH) (o : Nat) (x1 : Int32) : Option (Int32) :=
  Option.bind (ckO h o 5) fun _ =>
  Option.bind (gtR h o 5 0) fun r1 =>
  Option.bind (ldA h r1 10 25) fun v2 =>
  Option.bind (F_X5_in h x1.toInt64 0 (Int32.toInt64 (v2 - 1))) fun v3 =>
  Option.bind (bz v3) fun v4 => some v4
noncomputable def F_X5_hen (h : AH) (o : Nat) (x1 : Int32) (x2 : Int32) : Option (Int32) :=
  Option.bind (ckO h o 5) fun _ =>
  Option.bind (F_X5_isHen h o x1) fun v1 =>
  if ¬ v1 = 0 then
    if x2 = 0 then
      Option.bind (gtR h o 5 0) fun r2 =>
      Option.bind (ldA h r2 10 (26 + x1)) fun v3 =>
      some v3
    else if x2 = 1 then
      Option.bind (gtR h o 5 0) fun r4 =>
      Option.bind (ldA h r4 10 (31 + x1)) fun v5 =>
      some v5
    else if x2 = 2 then
      Option.bind (gtR h o 5 2) fun r6 =>
      Option.bind (ldA h r6 10 (34 + x1)) fun v7 =>
      some v7
    else if x2 = 3 then
      Option.bind (gtR h o 5 2) fun r8 =>
      Option.bind (ldA h r8 10 (39 + x1)) fun v9 =>
      some v9
    else if x2 = 4 then
      Option.bind (gtR h o 5 2) fun r10 =>
      Option.bind (ldA h r10 10 (44 + x1)) fun v11 =>
      some v11
    else
      some (-3)
  else
    some (-2)
noncomputable def F_X4_news (h : AH) (o : Nat) (x1 : Int32) : Option (Int32) :=
  Option.bind (ckO h o 4) fun _ =>
  if x1 < 0 then
    some (-3)
  else
    if x1 < 14 then
      Option.bind (gtR h o 4 1) fun r1 =>
      Option.bind (gtR h r1 2 7) fun r2 =>
      Option.bind (ldA h r2 10 x1) fun v3 =>
      some v3
    else
      some (-3)
noncomputable def F_X5_news (h : AH) (o : Nat) (x1 : Int32) : Option (Int32) :=
  Option.bind (ckO h o 5) fun _ =>
  Option.bind (F_X5_in h x1.toInt64 0 13) fun v1 =>
  if v1 = 0 then
    some (-3)
  else
    Option.bind (gtR h o 5 0) fun r2 =>
    Option.bind (ldA h r2 10 (36 + x1)) fun v3 =>
    some v3
noncomputable def F_X4_isUnder (h : AH) (x0 : Int32) (x1 : Int32) : Option (Int32) :=
  if ¬ x1 = 0 then
    if ¬ x1 = 1 then
      if ¬ x1 = (x0 + 1) then
        some 0
      else
        some 1
    else
      if x0 = 3 then
        some 0
      else
        some 1
  else
    some 1
noncomputable def F_X3_likes (h : AH) (o : Nat) (o1 : Nat) (x2 : Int32) (x3 : Int32) : Option (Int32) :=
  Option.bind (ckO h o 3) fun _ =>
  Option.bind (gtR h o 3 1) fun r1 =>
  Option.bind (ldA h r1 10 x3) fun v2 =>
  Option.bind (gtR h o1 2 4) fun r3 =>
  Option.bind (ldA h r3 10 x3) fun v4 =>
  Option.bind (gtR h o 3 6) fun r5 =>
  Option.bind (ldA h r5 10 x2) fun v6 =>
  Option.bind (α := Int32) (
    if ¬ v6 = x3 then
      some 0
    else
      some 1
  ) fun q7 =>
  Option.bind (gtR h o 3 4) fun r8 =>
  Option.bind (ldA h r8 10 x2) fun v9 =>
  if v9 = 0 then
    if q7 = 0 then
      some ((2 * v2) + v4)
    else
      Option.bind (gtR h o 3 5) fun r10 =>
      Option.bind (ldA h r10 10 x2) fun v11 =>
      some (((2 * v2) + v4) - v11)
  else if v9 = 1 then
    if q7 = 0 then
      some ((2 * v2) + v4)
    else
      Option.bind (gtR h o 3 5) fun r12 =>
      Option.bind (ldA h r12 10 x2) fun v13 =>
      some ((((2 * v2) + v4) - v13) + 9)
  else if v9 = 2 then
    Option.bind (gtR h o1 2 4) fun r14 =>
    Option.bind (ldA h r14 10 x3) fun v15 =>
    Option.bind (gtI h o 3 9) fun v16 =>
    Option.bind (gtR h o 3 5) fun r17 =>
    Option.bind (ldA h r17 10 x2) fun v18 =>
    Option.bind (rmI (v15 + (v16 * v18)) 10) fun v19 =>
    some v19
  else
    Option.bind (gtI h o1 2 0) fun v20 =>
    if v20 ≤ 0 then
      some 0
    else
      Option.bind (gtR h o 3 5) fun r21 =>
      Option.bind (ldA h r21 10 x2) fun v22 =>
      Option.bind (gtI h o1 2 0) fun v23 =>
      Option.bind (rmI v22 v23) fun v24 =>
      if ¬ x3 = v24 then
        some 0
      else
        some 1
noncomputable def F_X4_as (h : AH) (o : Nat) (x1 : Int32) (x2 : Int32) : Option (Int32) :=
  Option.bind (ckO h o 4) fun _ =>
  Option.bind (F_X4_isHen h o x1) fun v1 =>
  if ¬ v1 = 0 then
    if x2 < 0 then
      some (-3)
    else
      if x2 ≤ 4 then
        Option.bind (gtR h o 4 3) fun r2 =>
        Option.bind (gtR h r2 3 4) fun r3 =>
        Option.bind (ldA h r3 10 x1) fun v4 =>
        Option.bind (F_X4_isUnder h v4 x2) fun v5 =>
        if v5 = 0 then
          some (-4)
        else
          Option.bind (gtR h o 4 1) fun r6 =>
          Option.bind (gtI h r6 2 0) fun v7 =>
          if ¬ v7 = 0 then
            Option.bind (gtR h o 4 3) fun r8 =>
            Option.bind (gtR h o 4 1) fun r9 =>
            Option.bind (F_X3_likes h r8 r9 x1 0) fun v10 =>
            some (v10 + 9999)
          else
            some (-4)
      else
        some (-3)
  else
    some (-2)
noncomputable def F_X5_asTold (h : AH) (o : Nat) : Option (AH) :=
  Option.bind (ckO h o 5) fun _ =>
  Option.bind (gtR h o 5 0) fun r1 =>
  Option.bind (gtR h o 5 17) fun r2 =>
  Option.bind (F_X5_copies h r1 26 r2 0 5) fun h3 =>
  Option.bind (gtR h3 o 5 0) fun r4 =>
  Option.bind (gtR h3 o 5 18) fun r5 =>
  Option.bind (F_X5_copies h3 r4 31 r5 0 5) fun h6 =>
  some h6
noncomputable def F_X5_likes (h : AH) (o : Nat) (o1 : Nat) (x2 : Int32) (x3 : Int32) : Option (Int32) :=
  Option.bind (ckO h o 5) fun _ =>
  Option.bind (ldA h o1 10 (10 + x3)) fun v1 =>
  Option.bind (gtR h o 5 0) fun r2 =>
  Option.bind (ldA h r2 10 (17 + x3)) fun v3 =>
  Option.bind (ldA h o1 10 (34 + x2)) fun v4 =>
  Option.bind (α := Int32) (
    if ¬ v4 = x3 then
      some 0
    else
      Option.bind (gtR h o 5 18) fun r6 =>
      Option.bind (ldA h r6 10 x2) fun v7 =>
      some v7
  ) fun q5 =>
  Option.bind (gtR h o 5 17) fun r8 =>
  Option.bind (ldA h r8 10 x2) fun v9 =>
  if v9 = 0 then
    some (((2 * v1) + v3) - q5)
  else if v9 = 1 then
    Option.bind (ldA h o1 10 (34 + x2)) fun v10 =>
    if ¬ v10 = x3 then
      some (((2 * v1) + v3) - q5)
    else
      some ((((2 * v1) + v3) - q5) + 9)
  else if v9 = 2 then
    Option.bind (gtR h o 5 0) fun r11 =>
    Option.bind (ldA h r11 10 (17 + x3)) fun v12 =>
    Option.bind (ldA h o1 10 0) fun v13 =>
    Option.bind (gtR h o 5 18) fun r14 =>
    Option.bind (ldA h r14 10 x2) fun v15 =>
    Option.bind (rmI (v12 + (v13 * v15)) 10) fun v16 =>
    some v16
  else
    Option.bind (gtR h o 5 18) fun r17 =>
    Option.bind (ldA h r17 10 x2) fun v18 =>
    Option.bind (gtR h o 5 0) fun r19 =>
    Option.bind (ldA h r19 10 0) fun v20 =>
    Option.bind (rmI v18 v20) fun v21 =>
    if ¬ v21 = x3 then
      some 0
    else
      some 1
noncomputable def F_X5_as (h : AH) (o : Nat) (x1 : Int32) (x2 : Int32) : Option (Int32 × AH) :=
  Option.bind (ckO h o 5) fun _ =>
  Option.bind (F_X5_isHen h o x1) fun v1 =>
  if ¬ v1 = 0 then
    Option.bind (F_X5_in h x2.toInt64 0 4) fun v2 =>
    if ¬ v2 = 0 then
      Option.bind (gtR h o 5 0) fun r3 =>
      Option.bind (ldA h r3 10 (26 + x1)) fun v4 =>
      Option.bind (α := Int32) (
        if x2 = 0 then
          some 1
        else
          if x2 = (v4 + 1) then
            some 1
          else
            if ¬ x2 = 1 then
              some 0
            else
              if 3 ≤ v4 then
                some 0
              else
                some 1
      ) fun q5 =>
      if q5 = 0 then
        some ((-4), h)
      else
        Option.bind (gtR h o 5 0) fun r6 =>
        Option.bind (ldA h r6 10 0) fun v7 =>
        if ¬ v7 = 0 then
          Option.bind (F_X5_asTold h o) fun h8 =>
          Option.bind (gtR h8 o 5 2) fun r9 =>
          Option.bind (F_X5_likes h8 o r9 x1 0) fun v10 =>
          some (v10 + 9999, h8)
        else
          some ((-4), h)
    else
      some ((-3), h)
  else
    some ((-2), h)
noncomputable def L_X4_dropOldest_9 {β : Type} (o0 : Nat) (o1 : Nat) (k : AH → Int32 → Option (β)) : Nat → AH → Int32 → Option (β)
  | 0, _, _ => none
  | n + 1, h, x2 =>
    if 8 ≤ x2 then
      k h x2
    else
      Option.bind (gtR h o0 4 5) fun r1 =>
      Option.bind (gtR h o0 4 5) fun r2 =>
      Option.bind (ldR h r2 x2) fun r3 =>
      Option.bind (stR h r1 (x2 - 1) r3) fun h4 =>
      L_X4_dropOldest_9 o0 o1 k n h4 (x2 + 1)
noncomputable def F_X4_dropOldest (h : AH) (o : Nat) : Option (AH) :=
  Option.bind (ckO h o 4) fun _ =>
  Option.bind (gtR h o 4 5) fun r1 =>
  Option.bind (ldR h r1 0) fun r2 =>
  L_X4_dropOldest_9 o r2 (fun h5 y6 =>
    Option.bind (gtR h5 o 4 5) fun r7 =>
    Option.bind (stR h5 r7 7 r2) fun h8 =>
    Option.bind (ptI h8 o 4 6 7) fun h9 =>
    some h9
  ) FU h 1
noncomputable def F_X3_copyFrom (h : AH) (o : Nat) (o1 : Nat) : Option (AH) :=
  Option.bind (ckO h o 3) fun _ =>
  Option.bind (gtR h o1 3 0) fun r1 =>
  Option.bind (gtR h o 3 0) fun r2 =>
  Option.bind (cpA h r1 0 r2 0 8) fun h3 =>
  Option.bind (gtR h3 o1 3 1) fun r4 =>
  Option.bind (gtR h3 o 3 1) fun r5 =>
  Option.bind (cpA h3 r4 0 r5 0 8) fun h6 =>
  Option.bind (gtR h6 o1 3 2) fun r7 =>
  Option.bind (gtR h6 o 3 2) fun r8 =>
  Option.bind (cpA h6 r7 0 r8 0 8) fun h9 =>
  Option.bind (gtR h9 o1 3 3) fun r10 =>
  Option.bind (gtR h9 o 3 3) fun r11 =>
  Option.bind (cpA h9 r10 0 r11 0 8) fun h12 =>
  Option.bind (gtR h12 o1 3 4) fun r13 =>
  Option.bind (gtR h12 o 3 4) fun r14 =>
  Option.bind (cpA h12 r13 0 r14 0 5) fun h15 =>
  Option.bind (gtR h15 o1 3 5) fun r16 =>
  Option.bind (gtR h15 o 3 5) fun r17 =>
  Option.bind (cpA h15 r16 0 r17 0 5) fun h18 =>
  Option.bind (gtR h18 o1 3 6) fun r19 =>
  Option.bind (gtR h18 o 3 6) fun r20 =>
  Option.bind (cpA h18 r19 0 r20 0 5) fun h21 =>
  Option.bind (gtR h21 o1 3 7) fun r22 =>
  Option.bind (gtR h21 o 3 7) fun r23 =>
  Option.bind (cpA h21 r22 0 r23 0 5) fun h24 =>
  Option.bind (gtR h24 o1 3 8) fun r25 =>
  Option.bind (gtR h24 o 3 8) fun r26 =>
  Option.bind (cpA h24 r25 0 r26 0 5) fun h27 =>
  Option.bind (gtI h27 o1 3 9) fun v28 =>
  Option.bind (ptI h27 o 3 9 v28) fun h29 =>
  Option.bind (gtI h29 o1 3 10) fun v30 =>
  Option.bind (ptZ h29 o 3 10 v30) fun h31 =>
  Option.bind (gtI h31 o1 3 11) fun v32 =>
  Option.bind (ptI h31 o 3 11 v32) fun h33 =>
  Option.bind (gtI h33 o1 3 12) fun v34 =>
  Option.bind (ptI h33 o 3 12 v34) fun h35 =>
  Option.bind (gtI h35 o1 3 13) fun v36 =>
  Option.bind (ptI h35 o 3 13 v36) fun h37 =>
  some h37
noncomputable def F_X4_remember (h : AH) (o : Nat) : Option (AH) :=
  Option.bind (ckO h o 4) fun _ =>
  Option.bind (gtI h o 4 6) fun v1 =>
  Option.bind (α := AH) (
    if v1 < 8 then
      some h
    else
      Option.bind (F_X4_dropOldest h o) fun h3 =>
      some h3
  ) fun q2 =>
  Option.bind (gtR q2 o 4 5) fun r4 =>
  Option.bind (gtI q2 o 4 6) fun v5 =>
  Option.bind (ldR q2 r4 v5) fun r6 =>
  Option.bind (gtR q2 o 4 3) fun r7 =>
  Option.bind (F_X3_copyFrom q2 r6 r7) fun h8 =>
  Option.bind (gtI h8 o 4 6) fun v9 =>
  Option.bind (ptI h8 o 4 6 (v9 + 1)) fun h10 =>
  some h10
noncomputable def F_X3_laysToday (h : AH) (o : Nat) (x1 : Int32) : Option (Int32) :=
  Option.bind (ckO h o 3) fun _ =>
  Option.bind (gtI h o 3 10) fun v1 =>
  if ¬ v1 = 0 then
    some 0
  else
    Option.bind (gtR h o 3 4) fun r2 =>
    Option.bind (ldA h r2 10 x1) fun v3 =>
    if ¬ v3 = 1 then
      some 1
    else
      Option.bind (gtI h o 3 9) fun v4 =>
      Option.bind (rmI v4 2) fun v5 =>
      if ¬ v5 = 0 then
        some 0
      else
        some 1
noncomputable def L_X3_favourite_8 {β : Type} (h : AH) (o0 : Nat) (o1 : Nat) (x2 : Int32) (k : Int32 → Int32 → Int32 → Option (β)) : Nat → Int32 → Int32 → Int32 → Option (β)
  | 0, _, _, _ => none
  | n + 1, x3, x4, x5 =>
    Option.bind (gtI h o1 2 0) fun v1 =>
    if v1 ≤ x5 then
      k x3 x4 x5
    else
      Option.bind (gtR h o0 3 2) fun r2 =>
      Option.bind (ldA h r2 10 x5) fun v3 =>
      Option.bind (α := Int32 × Int32) (
        if ¬ v3 = (-1) then
          some (x3, x4)
        else
          Option.bind (F_X3_likes h o0 o1 x2 x5) fun v5 =>
          if x3 = (-1) then
            some (x5, v5)
          else
            if v5 ≤ x4 then
              some (x3, x4)
            else
              some (x5, v5)
      ) fun q4 =>
      L_X3_favourite_8 h o0 o1 x2 k n q4.1 q4.2 (x5 + 1)
noncomputable def F_X3_favourite (h : AH) (o : Nat) (o1 : Nat) (x2 : Int32) : Option (Int32) :=
  Option.bind (ckO h o 3) fun _ =>
  L_X3_favourite_8 h o o1 x2 (fun y6 y7 y8 =>
    some y6
  ) FU (-1) 0 0
noncomputable def F_J9_floorMod_7cf53 (h : AH) (x0 : Int32) (x1 : Int32) : Option (Int32) :=
  Option.bind (rmI x0 x1) fun v1 =>
  if 0 ≤ (x0 ^^^ x1) then
    some v1
  else
    if v1 = 0 then
      some v1
    else
      some (v1 + x1)
noncomputable def F_X2_newsOf (h : AH) (o : Nat) (x1 : Int32) : Option (Int32) :=
  Option.bind (ckO h o 2) fun _ =>
  Option.bind (gtR h o 2 7) fun r1 =>
  Option.bind (F_J9_floorMod_7cf53 h x1 14) fun v2 =>
  Option.bind (ldA h r1 10 v2) fun v3 =>
  some v3
noncomputable def F_X3_layEgg (h : AH) (o : Nat) (x1 : Int32) (x2 : Int32) (x3 : Int32) : Option (AH) :=
  Option.bind (ckO h o 3) fun _ =>
  Option.bind (gtR h o 3 0) fun r1 =>
  Option.bind (ldA h r1 10 x2) fun v2 =>
  Option.bind (α := Int32) (
    if ¬ x3 = v2 then
      some 0
    else
      some 1
  ) fun q3 =>
  Option.bind (gtR h o 3 2) fun r4 =>
  Option.bind (stA h r4 10 x2 x1) fun h5 =>
  Option.bind (gtR h5 o 3 6) fun r6 =>
  Option.bind (stA h5 r6 10 x1 x2) fun h7 =>
  Option.bind (gtR h7 o 3 3) fun r8 =>
  Option.bind (α := Int32) (
    if q3 = 0 then
      some (-1)
    else
      some 2
  ) fun q9 =>
  Option.bind (stA h7 r8 10 x2 q9) fun h10 =>
  if q3 = 0 then
    Option.bind (gtR h10 o 3 8) fun r11 =>
    Option.bind (ldA h10 r11 10 x1) fun v12 =>
    Option.bind (stA h10 r11 10 x1 (v12 + 1)) fun h13 =>
    some h13
  else
    Option.bind (gtR h10 o 3 7) fun r14 =>
    Option.bind (ldA h10 r14 10 x1) fun v15 =>
    Option.bind (stA h10 r14 10 x1 (v15 + 1)) fun h16 =>
    some h16
noncomputable def L_X3_passDay_10 {β : Type} (o0 : Nat) (o1 : Nat) (k : AH → Int32 → Option (β)) : Nat → AH → Int32 → Option (β)
  | 0, _, _ => none
  | n + 1, h, x2 =>
    Option.bind (gtI h o1 2 1) fun v1 =>
    if v1 ≤ x2 then
      k h x2
    else
      Option.bind (F_X3_laysToday h o0 x2) fun v2 =>
      Option.bind (α := Int32) (
        if v2 = 0 then
          some (-1)
        else
          Option.bind (F_X3_favourite h o0 o1 x2) fun v4 =>
          some v4
      ) fun q3 =>
      Option.bind (α := AH) (
        if q3 = (-1) then
          some h
        else
          Option.bind (gtI h o0 3 9) fun v6 =>
          Option.bind (F_X2_newsOf h o1 v6) fun v7 =>
          Option.bind (F_X3_layEgg h o0 x2 q3 v7) fun h8 =>
          some h8
      ) fun q5 =>
      L_X3_passDay_10 o0 o1 k n q5 (x2 + 1)
noncomputable def F_X3_passDay (h : AH) (o : Nat) (o1 : Nat) : Option (AH) :=
  Option.bind (ckO h o 3) fun _ =>
  Option.bind (gtR h o 3 2) fun r1 =>
  Option.bind (F_J7_fill_53178 h r1 (-1)) fun h2 =>
  L_X3_passDay_10 o o1 (fun h9 y10 =>
    Option.bind (ptZ h9 o 3 10 0) fun h11 =>
    Option.bind (gtI h11 o 3 9) fun v12 =>
    Option.bind (ptI h11 o 3 9 (v12 + 1)) fun h13 =>
    some h13
  ) FU h2 0
noncomputable def L_X3_eggBits_4 {β : Type} (h : AH) (o0 : Nat) (k : Int32 → Int32 → Option (β)) : Nat → Int32 → Int32 → Option (β)
  | 0, _, _ => none
  | n + 1, x1, x2 =>
    if 8 ≤ x2 then
      k x1 x2
    else
      Option.bind (gtR h o0 3 2) fun r1 =>
      Option.bind (ldA h r1 10 x2) fun v2 =>
      Option.bind (α := Int32) (
        if v2 = (-1) then
          some x1
        else
          some (x1 ||| (1 <<< (x2 &&& 31)))
      ) fun q3 =>
      L_X3_eggBits_4 h o0 k n q3 (x2 + 1)
noncomputable def F_X3_eggBits (h : AH) (o : Nat) : Option (Int32) :=
  Option.bind (ckO h o 3) fun _ =>
  L_X3_eggBits_4 h o (fun y4 y5 =>
    some y4
  ) FU 0 0
noncomputable def F_X4_day (h : AH) (o : Nat) : Option (Int32 × AH) :=
  Option.bind (ckO h o 4) fun _ =>
  Option.bind (gtR h o 4 3) fun r1 =>
  Option.bind (gtI h r1 3 9) fun v2 =>
  if v2 < 999 then
    Option.bind (F_X4_remember h o) fun h3 =>
    Option.bind (gtR h3 o 4 3) fun r4 =>
    Option.bind (gtR h3 o 4 1) fun r5 =>
    Option.bind (F_X3_passDay h3 r4 r5) fun h6 =>
    Option.bind (gtR h6 o 4 3) fun r7 =>
    Option.bind (F_X3_eggBits h6 r7) fun v8 =>
    some (v8, h6)
  else
    some ((-5), h)
noncomputable def L_X5_remember_11 {β : Type} (o0 : Nat) (k : AH → Int32 → Option (β)) : Nat → AH → Int32 → Option (β)
  | 0, _, _ => none
  | n + 1, h, x1 =>
    if 364 ≤ x1 then
      k h x1
    else
      Option.bind (gtR h o0 5 3) fun r1 =>
      Option.bind (gtR h o0 5 3) fun r2 =>
      Option.bind (ldA h r2 10 (x1 + 52)) fun v3 =>
      Option.bind (stA h r1 10 x1 v3) fun h4 =>
      L_X5_remember_11 o0 k n h4 (x1 + 1)
noncomputable def F_X5_remember (h : AH) (o : Nat) : Option (AH) :=
  Option.bind (ckO h o 5) fun _ =>
  Option.bind (gtI h o 5 4) fun v1 =>
  Option.bind (α := AH) (
    if ¬ v1 = 8 then
      some h
    else
      L_X5_remember_11 o (fun h5 y6 =>
        Option.bind (gtI h5 o 5 4) fun v7 =>
        Option.bind (ptI h5 o 5 4 (v7 - 1)) fun h8 =>
        some h8
      ) FU h 0
  ) fun q2 =>
  Option.bind (gtR q2 o 5 2) fun r9 =>
  Option.bind (gtR q2 o 5 3) fun r10 =>
  Option.bind (gtI q2 o 5 4) fun v11 =>
  Option.bind (F_X5_copies q2 r9 0 r10 (52 * v11) 52) fun h12 =>
  Option.bind (gtI h12 o 5 4) fun v13 =>
  Option.bind (ptI h12 o 5 4 (v13 + 1)) fun h14 =>
  some h14
noncomputable def L_X5_bestOf_9 {β : Type} (h : AH) (o0 : Nat) (o1 : Nat) (x2 : Int32) (k : Int32 → Int32 → Int32 → Option (β)) : Nat → Int32 → Int32 → Int32 → Option (β)
  | 0, _, _, _ => none
  | n + 1, x3, x4, x5 =>
    Option.bind (gtR h o0 5 0) fun r1 =>
    Option.bind (ldA h r1 10 0) fun v2 =>
    if v2 ≤ x5 then
      k x3 x4 x5
    else
      Option.bind (ldA h o1 10 (18 + x5)) fun v3 =>
      Option.bind (α := Int32 × Int32) (
        if ¬ v3 = (-1) then
          some (x3, x4)
        else
          Option.bind (F_X5_likes h o0 o1 x2 x5) fun v5 =>
          if v5 ≤ x4 then
            some (x3, x4)
          else
            Option.bind (F_X5_likes h o0 o1 x2 x5) fun v6 =>
            some (x5, v6)
      ) fun q4 =>
      L_X5_bestOf_9 h o0 o1 x2 k n q4.1 q4.2 (x5 + 1)
noncomputable def F_X5_bestOf (h : AH) (o : Nat) (o1 : Nat) (x2 : Int32) : Option (Int32) :=
  Option.bind (ckO h o 5) fun _ =>
  L_X5_bestOf_9 h o o1 x2 (fun y7 y8 y9 =>
    some y7
  ) FU (-1) (-1000000) 0
noncomputable def L_X5_goes_2 {β : Type} (o0 : Nat) (o1 : Nat) (k : AH → Int32 → Option (β)) : Nat → AH → Int32 → Option (β)
  | 0, _, _ => none
  | n + 1, h, x2 =>
    if 8 ≤ x2 then
      k h x2
    else
      Option.bind (stA h o1 10 (18 + x2) (-1)) fun h1 =>
      Option.bind (stA h1 o1 10 (26 + x2) 0) fun h2 =>
      L_X5_goes_2 o0 o1 k n h2 (x2 + 1)
noncomputable def L_X5_goes_46 {β : Type} (o0 : Nat) (o1 : Nat) (x3 : Int32) (k : AH → Int32 → Int32 → Option (β)) : Nat → AH → Int32 → Int32 → Option (β)
  | 0, _, _, _ => none
  | n + 1, h, x2, x4 =>
    if 5 ≤ x4 then
      k h x2 x4
    else
      Option.bind (gtR h o0 5 0) fun r1 =>
      Option.bind (ldA h r1 10 25) fun v2 =>
      Option.bind (α := Int32) (
        if v2 ≤ x4 then
          some 0
        else
          if ¬ x3 = 0 then
            some 0
          else
            Option.bind (gtR h o0 5 17) fun r4 =>
            Option.bind (ldA h r4 10 x4) fun v5 =>
            if ¬ v5 = 1 then
              some 1
            else
              Option.bind (ldA h o1 10 0) fun v6 =>
              Option.bind (rmI v6 2) fun v7 =>
              if ¬ v7 = 0 then
                some 0
              else
                some 1
      ) fun q3 =>
      Option.bind (α := Int32) (
        if q3 = 0 then
          some (-1)
        else
          Option.bind (F_X5_bestOf h o0 o1 x4) fun v9 =>
          some v9
      ) fun q8 =>
      Option.bind (gtR h o0 5 19) fun r10 =>
      Option.bind (stA h r10 10 x4 q8) fun h11 =>
      Option.bind (α := AH × Int32) (
        if q8 = (-1) then
          some (h11, x2)
        else
          Option.bind (gtR h11 o0 5 0) fun r13 =>
          Option.bind (ldA h11 o1 10 0) fun v14 =>
          Option.bind (rmI v14 14) fun v15 =>
          Option.bind (ldA h11 r13 10 (36 + v15)) fun v16 =>
          Option.bind (ldA h11 o1 10 (2 + q8)) fun v17 =>
          Option.bind (α := Int32) (
            if ¬ v16 = v17 then
              some 0
            else
              some 1
          ) fun q18 =>
          Option.bind (stA h11 o1 10 (18 + q8) x4) fun h19 =>
          Option.bind (α := Int32) (
            if q18 = 0 then
              some 0
            else
              some 1
          ) fun q20 =>
          Option.bind (stA h19 o1 10 (26 + q8) q20) fun h21 =>
          Option.bind (stA h21 o1 10 (34 + x4) q8) fun h22 =>
          Option.bind (ldA h22 o1 10 (39 + x4)) fun v23 =>
          Option.bind (α := Int32) (
            if q18 = 0 then
              some 0
            else
              some 1
          ) fun q24 =>
          Option.bind (stA h22 o1 10 (39 + x4) (v23 + q24)) fun h25 =>
          Option.bind (ldA h25 o1 10 (44 + x4)) fun v26 =>
          Option.bind (α := Int32) (
            if q18 = 0 then
              some 1
            else
              some 0
          ) fun q27 =>
          Option.bind (stA h25 o1 10 (44 + x4) (v26 + q27)) fun h28 =>
          some (h28, x2 ||| (1 <<< (q8 &&& 31)))
      ) fun q12 =>
      L_X5_goes_46 o0 o1 x3 k n q12.1 q12.2 (x4 + 1)
noncomputable def F_X5_goes (h : AH) (o : Nat) (o1 : Nat) : Option (Int32 × AH) :=
  Option.bind (ckO h o 5) fun _ =>
  L_X5_goes_2 o o1 (fun h3 y4 =>
    Option.bind (ldA h3 o1 10 1) fun v5 =>
    Option.bind (α := Int32) (
      if ¬ v5 = 1 then
        some 0
      else
        some 1
    ) fun q6 =>
    L_X5_goes_46 o o1 q6 (fun h29 y30 y31 =>
      Option.bind (stA h29 o1 10 1 0) fun h32 =>
      Option.bind (ldA h32 o1 10 0) fun v33 =>
      Option.bind (stA h32 o1 10 0 (v33 + 1)) fun h34 =>
      some (y30, h34)
    ) FU h3 0 0
  ) FU h 0
noncomputable def F_X5_day (h : AH) (o : Nat) : Option (Int32 × AH) :=
  Option.bind (ckO h o 5) fun _ =>
  Option.bind (gtR h o 5 2) fun r1 =>
  Option.bind (ldA h r1 10 0) fun v2 =>
  if ¬ v2 = 999 then
    Option.bind (F_X5_remember h o) fun h3 =>
    Option.bind (F_X5_asTold h3 o) fun h4 =>
    Option.bind (gtR h4 o 5 2) fun r5 =>
    Option.bind (F_X5_goes h4 o r5) fun q6 =>
    some (q6.1, q6.2)
  else
    some ((-5), h)
noncomputable def F_X4_thunder (h : AH) (o : Nat) : Option (Int32 × AH) :=
  Option.bind (ckO h o 4) fun _ =>
  Option.bind (F_X4_remember h o) fun h1 =>
  Option.bind (gtR h1 o 4 3) fun r2 =>
  Option.bind (gtI h1 r2 3 10) fun v3 =>
  Option.bind (α := Int32) (
    if v3 = 0 then
      some 0
    else
      some 1
  ) fun q4 =>
  Option.bind (gtR h1 o 4 3) fun r5 =>
  Option.bind (ptZ h1 r5 3 10 1) fun h6 =>
  some (q4, h6)
noncomputable def F_X5_thunder (h : AH) (o : Nat) : Option (Int32 × AH) :=
  Option.bind (ckO h o 5) fun _ =>
  Option.bind (F_X5_remember h o) fun h1 =>
  Option.bind (gtR h1 o 5 2) fun r2 =>
  Option.bind (ldA h1 r2 10 1) fun v3 =>
  Option.bind (gtR h1 o 5 2) fun r4 =>
  Option.bind (stA h1 r4 10 1 1) fun h5 =>
  some (v3, h5)
noncomputable def F_X4_straw (h : AH) (o : Nat) (x1 : Int32) (x2 : Int32) : Option (Int32 × AH) :=
  Option.bind (ckO h o 4) fun _ =>
  Option.bind (F_X4_isPlace h o x1) fun v1 =>
  if ¬ v1 = 0 then
    if x2 < 0 then
      some ((-3), h)
    else
      if x2 ≤ 9 then
        Option.bind (F_X4_remember h o) fun h2 =>
        Option.bind (gtR h2 o 4 3) fun r3 =>
        Option.bind (gtR h2 r3 3 1) fun r4 =>
        Option.bind (ldA h2 r4 10 x1) fun v5 =>
        Option.bind (gtR h2 o 4 3) fun r6 =>
        Option.bind (gtR h2 r6 3 1) fun r7 =>
        Option.bind (stA h2 r7 10 x1 x2) fun h8 =>
        some (v5, h8)
      else
        some ((-3), h)
  else
    some ((-2), h)
noncomputable def F_X5_straw (h : AH) (o : Nat) (x1 : Int32) (x2 : Int32) : Option (Int32 × AH) :=
  Option.bind (ckO h o 5) fun _ =>
  Option.bind (F_X5_isPlace h o x1) fun v1 =>
  if ¬ v1 = 0 then
    Option.bind (F_X5_in h x2.toInt64 0 9) fun v2 =>
    if ¬ v2 = 0 then
      Option.bind (F_X5_remember h o) fun h3 =>
      Option.bind (gtR h3 o 5 2) fun r4 =>
      Option.bind (ldA h3 r4 10 (10 + x1)) fun v5 =>
      Option.bind (gtR h3 o 5 2) fun r6 =>
      Option.bind (stA h3 r6 10 (10 + x1) x2) fun h7 =>
      some (v5, h7)
    else
      some ((-3), h)
  else
    some ((-2), h)
noncomputable def F_X4_move (h : AH) (o : Nat) (x1 : Int32) (x2 : Int32) : Option (Int32 × AH) :=
  Option.bind (ckO h o 4) fun _ =>
  Option.bind (F_X4_isPlace h o x1) fun v1 =>
  if v1 = 0 then
    some ((-2), h)
  else
    Option.bind (F_X4_isPlace h o x2) fun v2 =>
    if v2 = 0 then
      some ((-2), h)
    else
      if ¬ x1 = x2 then
        Option.bind (F_X4_remember h o) fun h3 =>
        Option.bind (gtR h3 o 4 3) fun r4 =>
        Option.bind (gtR h3 r4 3 0) fun r5 =>
        Option.bind (ldA h3 r5 10 x1) fun v6 =>
        Option.bind (gtR h3 o 4 3) fun r7 =>
        Option.bind (gtR h3 r7 3 0) fun r8 =>
        Option.bind (gtR h3 o 4 3) fun r9 =>
        Option.bind (gtR h3 r9 3 0) fun r10 =>
        Option.bind (ldA h3 r10 10 x2) fun v11 =>
        Option.bind (stA h3 r8 10 x1 v11) fun h12 =>
        Option.bind (gtR h12 o 4 3) fun r13 =>
        Option.bind (gtR h12 r13 3 0) fun r14 =>
        Option.bind (stA h12 r14 10 x2 v6) fun h15 =>
        Option.bind (gtR h15 o 4 3) fun r16 =>
        Option.bind (gtR h15 r16 3 0) fun r17 =>
        Option.bind (ldA h15 r17 10 x1) fun v18 =>
        some (v18, h15)
      else
        some ((-2), h)
noncomputable def F_X5_moves (h : AH) (o0 : Nat) (x1 : Int32) (x2 : Int32) : Option (AH) :=
  Option.bind (ldA h o0 10 (2 + x1)) fun v1 =>
  Option.bind (ldA h o0 10 (2 + x2)) fun v2 =>
  Option.bind (stA h o0 10 (2 + x1) v2) fun h3 =>
  Option.bind (stA h3 o0 10 (2 + x2) v1) fun h4 =>
  some h4
noncomputable def F_X5_move (h : AH) (o : Nat) (x1 : Int32) (x2 : Int32) : Option (Int32 × AH) :=
  Option.bind (ckO h o 5) fun _ =>
  Option.bind (F_X5_isPlace h o x1) fun v1 =>
  if v1 = 0 then
    some ((-2), h)
  else
    Option.bind (F_X5_isPlace h o x2) fun v2 =>
    if v2 = 0 then
      some ((-2), h)
    else
      if ¬ x1 = x2 then
        Option.bind (F_X5_remember h o) fun h3 =>
        Option.bind (gtR h3 o 5 2) fun r4 =>
        Option.bind (F_X5_moves h3 r4 x1 x2) fun h5 =>
        Option.bind (gtR h5 o 5 2) fun r6 =>
        Option.bind (ldA h5 r6 10 (2 + x1)) fun v7 =>
        some (v7, h5)
      else
        some ((-2), h)
noncomputable def F_X4_eat (h : AH) (o : Nat) (x1 : Int32) : Option (Int32 × AH) :=
  Option.bind (ckO h o 4) fun _ =>
  Option.bind (F_X4_isPlace h o x1) fun v1 =>
  if ¬ v1 = 0 then
    Option.bind (gtR h o 4 3) fun r2 =>
    Option.bind (gtR h r2 3 2) fun r3 =>
    Option.bind (ldA h r3 10 x1) fun v4 =>
    if ¬ v4 = (-1) then
      Option.bind (F_X4_remember h o) fun h5 =>
      Option.bind (gtR h5 o 4 3) fun r6 =>
      Option.bind (gtR h5 r6 3 2) fun r7 =>
      Option.bind (stA h5 r7 10 x1 (-1)) fun h8 =>
      Option.bind (gtR h8 o 4 3) fun r9 =>
      Option.bind (gtI h8 r9 3 11) fun v10 =>
      Option.bind (ptI h8 r9 3 11 (v10 + 1)) fun h11 =>
      Option.bind (gtR h11 o 4 3) fun r12 =>
      Option.bind (gtI h11 r12 3 11) fun v13 =>
      some (v13, h11)
    else
      some ((-4), h)
  else
    some ((-2), h)
noncomputable def F_X5_eat (h : AH) (o : Nat) (x1 : Int32) : Option (Int32 × AH) :=
  Option.bind (ckO h o 5) fun _ =>
  Option.bind (F_X5_isPlace h o x1) fun v1 =>
  if ¬ v1 = 0 then
    Option.bind (gtR h o 5 2) fun r2 =>
    Option.bind (ldA h r2 10 (18 + x1)) fun v3 =>
    if ¬ v3 = (-1) then
      Option.bind (F_X5_remember h o) fun h4 =>
      Option.bind (gtR h4 o 5 2) fun r5 =>
      Option.bind (stA h4 r5 10 (18 + x1) (-1)) fun h6 =>
      Option.bind (gtR h6 o 5 2) fun r7 =>
      Option.bind (ldA h6 r7 10 49) fun v8 =>
      Option.bind (stA h6 r7 10 49 (v8 + 1)) fun h9 =>
      Option.bind (gtR h9 o 5 2) fun r10 =>
      Option.bind (ldA h9 r10 10 49) fun v11 =>
      some (v11, h9)
    else
      some ((-4), h)
  else
    some ((-2), h)
noncomputable def F_X4_heed (h : AH) (o : Nat) (x1 : Int32) : Option (Int32 × AH) :=
  Option.bind (ckO h o 4) fun _ =>
  Option.bind (F_X4_isPlace h o x1) fun v1 =>
  if ¬ v1 = 0 then
    Option.bind (gtR h o 4 3) fun r2 =>
    Option.bind (gtR h r2 3 2) fun r3 =>
    Option.bind (ldA h r3 10 x1) fun v4 =>
    if ¬ v4 = (-1) then
      Option.bind (F_X4_remember h o) fun h5 =>
      Option.bind (gtR h5 o 4 3) fun r6 =>
      Option.bind (gtR h5 r6 3 2) fun r7 =>
      Option.bind (stA h5 r7 10 x1 (-1)) fun h8 =>
      Option.bind (gtR h8 o 4 3) fun r9 =>
      Option.bind (gtI h8 r9 3 12) fun v10 =>
      Option.bind (ptI h8 r9 3 12 (v10 + 1)) fun h11 =>
      Option.bind (gtR h11 o 4 3) fun r12 =>
      Option.bind (gtI h11 r12 3 13) fun v13 =>
      Option.bind (gtR h11 o 4 3) fun r14 =>
      Option.bind (gtR h11 r14 3 3) fun r15 =>
      Option.bind (ldA h11 r15 10 x1) fun v16 =>
      Option.bind (ptI h11 r12 3 13 (v13 + v16)) fun h17 =>
      Option.bind (gtR h17 o 4 3) fun r18 =>
      Option.bind (gtI h17 r18 3 13) fun v19 =>
      some (v19 + 9999, h17)
    else
      some ((-4), h)
  else
    some ((-2), h)
noncomputable def F_X5_heed (h : AH) (o : Nat) (x1 : Int32) : Option (Int32 × AH) :=
  Option.bind (ckO h o 5) fun _ =>
  Option.bind (F_X5_isPlace h o x1) fun v1 =>
  if ¬ v1 = 0 then
    Option.bind (gtR h o 5 2) fun r2 =>
    Option.bind (ldA h r2 10 (18 + x1)) fun v3 =>
    if ¬ v3 = (-1) then
      Option.bind (F_X5_remember h o) fun h4 =>
      Option.bind (gtR h4 o 5 2) fun r5 =>
      Option.bind (stA h4 r5 10 (18 + x1) (-1)) fun h6 =>
      Option.bind (gtR h6 o 5 2) fun r7 =>
      Option.bind (ldA h6 r7 10 50) fun v8 =>
      Option.bind (stA h6 r7 10 50 (v8 + 1)) fun h9 =>
      Option.bind (gtR h9 o 5 2) fun r10 =>
      Option.bind (ldA h9 r10 10 51) fun v11 =>
      Option.bind (gtR h9 o 5 2) fun r12 =>
      Option.bind (ldA h9 r12 10 (26 + x1)) fun v13 =>
      Option.bind (α := Int32) (
        if ¬ v13 = 1 then
          some (-1)
        else
          some 2
      ) fun q14 =>
      Option.bind (stA h9 r10 10 51 (v11 + q14)) fun h15 =>
      Option.bind (gtR h15 o 5 2) fun r16 =>
      Option.bind (ldA h15 r16 10 51) fun v17 =>
      some (v17 + 9999, h15)
    else
      some ((-4), h)
  else
    some ((-2), h)
noncomputable def F_X4_undo (h : AH) (o : Nat) : Option (Int32 × AH) :=
  Option.bind (ckO h o 4) fun _ =>
  Option.bind (gtI h o 4 6) fun v1 =>
  if v1 ≤ 0 then
    some ((-4), h)
  else
    Option.bind (gtI h o 4 6) fun v2 =>
    if v2 ≤ 8 then
      Option.bind (gtI h o 4 6) fun v3 =>
      Option.bind (ptI h o 4 6 (v3 - 1)) fun h4 =>
      Option.bind (gtR h4 o 4 3) fun r5 =>
      Option.bind (gtR h4 o 4 5) fun r6 =>
      Option.bind (gtI h4 o 4 6) fun v7 =>
      Option.bind (ldR h4 r6 v7) fun r8 =>
      Option.bind (F_X3_copyFrom h4 r5 r8) fun h9 =>
      Option.bind (gtI h9 o 4 6) fun v10 =>
      some (v10, h9)
    else
      some ((-4), h)
noncomputable def F_X5_undo (h : AH) (o : Nat) : Option (Int32 × AH) :=
  Option.bind (ckO h o 5) fun _ =>
  Option.bind (gtI h o 5 4) fun v1 =>
  if ¬ v1 = 0 then
    Option.bind (gtI h o 5 4) fun v2 =>
    Option.bind (ptI h o 5 4 (v2 - 1)) fun h3 =>
    Option.bind (gtR h3 o 5 3) fun r4 =>
    Option.bind (gtI h3 o 5 4) fun v5 =>
    Option.bind (gtR h3 o 5 2) fun r6 =>
    Option.bind (F_X5_copies h3 r4 (52 * v5) r6 0 52) fun h7 =>
    Option.bind (gtI h7 o 5 4) fun v8 =>
    some (v8, h7)
  else
    some ((-4), h)
noncomputable def F_X4_keep (h : AH) (o : Nat) (x1 : Int32) : Option (Int32 × AH) :=
  Option.bind (ckO h o 4) fun _ =>
  if x1 < 0 then
    some ((-2), h)
  else
    if x1 < 2 then
      Option.bind (gtR h o 4 7) fun r1 =>
      Option.bind (ldR h r1 x1) fun r2 =>
      Option.bind (gtR h o 4 3) fun r3 =>
      Option.bind (F_X3_copyFrom h r2 r3) fun h4 =>
      Option.bind (gtR h4 o 4 8) fun r5 =>
      Option.bind (stA h4 r5 12 x1 (vp_nar .boolean 1)) fun h6 =>
      Option.bind (gtR h6 o 4 3) fun r7 =>
      Option.bind (gtI h6 r7 3 9) fun v8 =>
      some (v8, h6)
    else
      some ((-2), h)
noncomputable def F_X5_isTwo (h : AH) (x0 : Int32) : Option (Int32) :=
  Option.bind (F_X5_in h x0.toInt64 0 1) fun v1 =>
  Option.bind (bz v1) fun v2 => some v2
noncomputable def F_X5_keep (h : AH) (o : Nat) (x1 : Int32) : Option (Int32 × AH) :=
  Option.bind (ckO h o 5) fun _ =>
  Option.bind (F_X5_isTwo h x1) fun v1 =>
  if ¬ v1 = 0 then
    Option.bind (gtR h o 5 2) fun r2 =>
    Option.bind (gtR h o 5 5) fun r3 =>
    Option.bind (F_X5_copies h r2 0 r3 (52 * x1) 52) fun h4 =>
    Option.bind (gtR h4 o 5 6) fun r5 =>
    Option.bind (stA h4 r5 12 x1 (vp_nar .boolean 1)) fun h6 =>
    Option.bind (gtR h6 o 5 2) fun r7 =>
    Option.bind (ldA h6 r7 10 0) fun v8 =>
    some (v8, h6)
  else
    some ((-2), h)
noncomputable def F_X4_back (h : AH) (o : Nat) (x1 : Int32) : Option (Int32 × AH) :=
  Option.bind (ckO h o 4) fun _ =>
  if x1 < 0 then
    some ((-2), h)
  else
    if x1 < 2 then
      Option.bind (gtR h o 4 8) fun r1 =>
      Option.bind (ldA h r1 12 x1) fun v2 =>
      if ¬ v2 = 0 then
        Option.bind (gtR h o 4 3) fun r3 =>
        Option.bind (gtR h o 4 7) fun r4 =>
        Option.bind (ldR h r4 x1) fun r5 =>
        Option.bind (F_X3_copyFrom h r3 r5) fun h6 =>
        Option.bind (ptI h6 o 4 6 0) fun h7 =>
        Option.bind (gtR h7 o 4 3) fun r8 =>
        Option.bind (gtI h7 r8 3 9) fun v9 =>
        some (v9, h7)
      else
        some ((-4), h)
    else
      some ((-2), h)
noncomputable def F_X5_back (h : AH) (o : Nat) (x1 : Int32) : Option (Int32 × AH) :=
  Option.bind (ckO h o 5) fun _ =>
  Option.bind (F_X5_isTwo h x1) fun v1 =>
  if ¬ v1 = 0 then
    Option.bind (gtR h o 5 6) fun r2 =>
    Option.bind (ldA h r2 12 x1) fun v3 =>
    if ¬ v3 = 0 then
      Option.bind (gtR h o 5 5) fun r4 =>
      Option.bind (gtR h o 5 2) fun r5 =>
      Option.bind (F_X5_copies h r4 (52 * x1) r5 0 52) fun h6 =>
      Option.bind (ptI h6 o 5 4 0) fun h7 =>
      Option.bind (gtR h7 o 5 2) fun r8 =>
      Option.bind (ldA h7 r8 10 0) fun v9 =>
      some (v9, h7)
    else
      some ((-4), h)
  else
    some ((-2), h)
noncomputable def L_X4_foretell_13 {β : Type} (o0 : Nat) (x1 : Int32) (k : AH → Int32 → Option (β)) : Nat → AH → Int32 → Option (β)
  | 0, _, _ => none
  | n + 1, h, x2 =>
    if x1 ≤ x2 then
      k h x2
    else
      Option.bind (gtR h o0 4 4) fun r1 =>
      Option.bind (gtR h o0 4 1) fun r2 =>
      Option.bind (F_X3_passDay h r1 r2) fun h3 =>
      L_X4_foretell_13 o0 x1 k n h3 (x2 + 1)
noncomputable def F_X4_foretell (h : AH) (o : Nat) (x1 : Int32) : Option (AH) :=
  Option.bind (ckO h o 4) fun _ =>
  Option.bind (gtR h o 4 4) fun r1 =>
  Option.bind (gtR h o 4 3) fun r2 =>
  Option.bind (F_X3_copyFrom h r1 r2) fun h3 =>
  L_X4_foretell_13 o x1 (fun h4 y5 =>
    some h4
  ) FU h3 0
noncomputable def L_X3_placeOfEgg_2 (h : AH) (o0 : Nat) (x1 : Int32) (k : Int32 → Option (Int32)) : Nat → Int32 → Option (Int32)
  | 0, _ => none
  | n + 1, x2 =>
    if 8 ≤ x2 then
      k x2
    else
      Option.bind (gtR h o0 3 2) fun r1 =>
      Option.bind (ldA h r1 10 x2) fun v2 =>
      if ¬ v2 = x1 then
        L_X3_placeOfEgg_2 h o0 x1 k n (x2 + 1)
      else
        some x2
noncomputable def F_X3_placeOfEgg (h : AH) (o : Nat) (x1 : Int32) : Option (Int32) :=
  Option.bind (ckO h o 3) fun _ =>
  L_X3_placeOfEgg_2 h o x1 (fun y3 =>
    some (-1)
  ) FU 0
noncomputable def F_X4_lays (h : AH) (o : Nat) (x1 : Int32) (x2 : Int32) : Option (Int32 × AH) :=
  Option.bind (ckO h o 4) fun _ =>
  Option.bind (F_X4_isHen h o x1) fun v1 =>
  if ¬ v1 = 0 then
    if x2 < 1 then
      some ((-3), h)
    else
      if x2 ≤ 30 then
        Option.bind (F_X4_foretell h o x2) fun h2 =>
        Option.bind (gtR h2 o 4 4) fun r3 =>
        Option.bind (F_X3_placeOfEgg h2 r3 x1) fun v4 =>
        some (v4, h2)
      else
        some ((-3), h)
  else
    some ((-2), h)
noncomputable def F_X5_layAside (h : AH) (o : Nat) : Option (AH) :=
  Option.bind (ckO h o 5) fun _ =>
  Option.bind (gtR h o 5 2) fun r1 =>
  Option.bind (gtR h o 5 20) fun r2 =>
  Option.bind (F_X5_copies h r1 0 r2 0 52) fun h3 =>
  some h3
noncomputable def L_X5_go_2 {β : Type} (o0 : Nat) (x1 : Int32) (k : AH → Int32 → Option (β)) : Nat → AH → Int32 → Option (β)
  | 0, _, _ => none
  | n + 1, h, x2 =>
    if x1 ≤ x2 then
      k h x2
    else
      Option.bind (gtR h o0 5 20) fun r1 =>
      Option.bind (F_X5_goes h o0 r1) fun q2 =>
      L_X5_go_2 o0 x1 k n q2.2 (x2 + 1)
noncomputable def F_X5_go (h : AH) (o : Nat) (x1 : Int32) : Option (AH) :=
  Option.bind (ckO h o 5) fun _ =>
  L_X5_go_2 o x1 (fun h3 y4 =>
    some h3
  ) FU h 0
noncomputable def F_X5_lays (h : AH) (o : Nat) (x1 : Int32) (x2 : Int32) : Option (Int32 × AH) :=
  Option.bind (ckO h o 5) fun _ =>
  Option.bind (F_X5_isHen h o x1) fun v1 =>
  if ¬ v1 = 0 then
    Option.bind (F_X5_in h x2.toInt64 1 30) fun v2 =>
    if ¬ v2 = 0 then
      Option.bind (F_X5_asTold h o) fun h3 =>
      Option.bind (F_X5_layAside h3 o) fun h4 =>
      Option.bind (F_X5_go h4 o x2) fun h5 =>
      Option.bind (gtR h5 o 5 19) fun r6 =>
      Option.bind (ldA h5 r6 10 x1) fun v7 =>
      some (v7, h5)
    else
      some ((-3), h)
  else
    some ((-2), h)
noncomputable def F_X4_rightsForetold (h : AH) (o : Nat) (x1 : Int32) : Option (Int32) :=
  Option.bind (ckO h o 4) fun _ =>
  Option.bind (gtR h o 4 4) fun r1 =>
  Option.bind (gtR h r1 3 7) fun r2 =>
  Option.bind (ldA h r2 10 x1) fun v3 =>
  Option.bind (gtR h o 4 3) fun r4 =>
  Option.bind (gtR h r4 3 7) fun r5 =>
  Option.bind (ldA h r5 10 x1) fun v6 =>
  some (v3 - v6)
noncomputable def F_X4_rights (h : AH) (o : Nat) (x1 : Int32) (x2 : Int32) : Option (Int32 × AH) :=
  Option.bind (ckO h o 4) fun _ =>
  Option.bind (F_X4_isHen h o x1) fun v1 =>
  if ¬ v1 = 0 then
    if x2 < 0 then
      some ((-3), h)
    else
      if x2 ≤ 30 then
        Option.bind (F_X4_foretell h o x2) fun h2 =>
        Option.bind (F_X4_rightsForetold h2 o x1) fun v3 =>
        some (v3, h2)
      else
        some ((-3), h)
  else
    some ((-2), h)
noncomputable def F_X5_rights (h : AH) (o : Nat) (x1 : Int32) (x2 : Int32) : Option (Int32 × AH) :=
  Option.bind (ckO h o 5) fun _ =>
  Option.bind (F_X5_isHen h o x1) fun v1 =>
  if ¬ v1 = 0 then
    Option.bind (F_X5_in h x2.toInt64 0 30) fun v2 =>
    if ¬ v2 = 0 then
      Option.bind (F_X5_asTold h o) fun h3 =>
      Option.bind (F_X5_layAside h3 o) fun h4 =>
      Option.bind (F_X5_go h4 o x2) fun h5 =>
      Option.bind (gtR h5 o 5 20) fun r6 =>
      Option.bind (ldA h5 r6 10 (39 + x1)) fun v7 =>
      Option.bind (gtR h5 o 5 2) fun r8 =>
      Option.bind (ldA h5 r8 10 (39 + x1)) fun v9 =>
      some (v7 - v9, h5)
    else
      some ((-3), h)
  else
    some ((-2), h)
noncomputable def L_X4_ask_35 {β : Type} (h : AH) (o0 : Nat) (x1 : Int32) (x2 : Int32) (k : Int32 → Int32 → Int32 → Option (β)) : Nat → Int32 → Int32 → Int32 → Option (β)
  | 0, _, _, _ => none
  | n + 1, x3, x4, x5 =>
    Option.bind (gtR h o0 4 1) fun r1 =>
    Option.bind (gtI h r1 2 1) fun v2 =>
    if v2 ≤ x5 then
      k x3 x4 x5
    else
      Option.bind (F_X4_rightsForetold h o0 x5) fun v3 =>
      Option.bind (α := Int32 × Int32) (
        if v3 ≤ x4 then
          some (x3, x4)
        else
          Option.bind (F_X4_rightsForetold h o0 x5) fun v5 =>
          some (x5, v5)
      ) fun q4 =>
      L_X4_ask_35 h o0 x1 x2 k n q4.1 q4.2 (x5 + 1)
noncomputable def F_X4_ask (h : AH) (o : Nat) (x1 : Int32) (x2 : Int32) : Option (Int32 × AH) :=
  Option.bind (ckO h o 4) fun _ =>
  if x1 < 0 then
    some ((-3), h)
  else
    if 30 < x1 then
      some ((-3), h)
    else
      if x2 < 0 then
        some ((-3), h)
      else
        if x2 ≤ 1 then
          Option.bind (F_X4_foretell h o x1) fun h1 =>
          L_X4_ask_35 h1 o x1 x2 (fun y6 y7 y8 =>
            if ¬ x2 = 0 then
              some (y7, h1)
            else
              some (y6, h1)
          ) FU (-1) (-1) 0
        else
          some ((-3), h)
noncomputable def L_X5_ask_43 {β : Type} (h : AH) (o0 : Nat) (x1 : Int32) (x2 : Int32) (k : Int32 → Int32 → Int32 → Option (β)) : Nat → Int32 → Int32 → Int32 → Option (β)
  | 0, _, _, _ => none
  | n + 1, x3, x4, x5 =>
    Option.bind (gtR h o0 5 0) fun r1 =>
    Option.bind (ldA h r1 10 25) fun v2 =>
    if v2 ≤ x5 then
      k x3 x4 x5
    else
      Option.bind (gtR h o0 5 20) fun r3 =>
      Option.bind (ldA h r3 10 (39 + x5)) fun v4 =>
      Option.bind (gtR h o0 5 2) fun r5 =>
      Option.bind (ldA h r5 10 (39 + x5)) fun v6 =>
      Option.bind (α := Int32) (
        if (v4 - v6) ≤ x4 then
          some x3
        else
          some x5
      ) fun q7 =>
      Option.bind (α := Int32) (
        if (v4 - v6) ≤ x4 then
          some x4
        else
          some (v4 - v6)
      ) fun q8 =>
      L_X5_ask_43 h o0 x1 x2 k n q7 q8 (x5 + 1)
noncomputable def F_X5_ask (h : AH) (o : Nat) (x1 : Int32) (x2 : Int32) : Option (Int32 × AH) :=
  Option.bind (ckO h o 5) fun _ =>
  Option.bind (F_X5_in h x1.toInt64 0 30) fun v1 =>
  if v1 = 0 then
    some ((-3), h)
  else
    Option.bind (F_X5_isTwo h x2) fun v2 =>
    if ¬ v2 = 0 then
      Option.bind (F_X5_asTold h o) fun h3 =>
      Option.bind (F_X5_layAside h3 o) fun h4 =>
      Option.bind (F_X5_go h4 o x1) fun h5 =>
      L_X5_ask_43 h5 o x1 x2 (fun y9 y10 y11 =>
        if ¬ x2 = 0 then
          some (y10, h5)
        else
          some (y9, h5)
      ) FU (-1) (-1) 0
    else
      some ((-3), h)
noncomputable def F_X4_hitIndex (h : AH) (x0 : Int32) (x1 : Int32) : Option (Int32) :=
  some ((x0 * 8) + x1)
noncomputable def L_X4_tallyEggs_2 {β : Type} (o0 : Nat) (x1 : Int32) (k : AH → Int32 → Option (β)) : Nat → AH → Int32 → Option (β)
  | 0, _, _ => none
  | n + 1, h, x2 =>
    Option.bind (gtR h o0 4 1) fun r1 =>
    Option.bind (gtI h r1 2 0) fun v2 =>
    if v2 ≤ x2 then
      k h x2
    else
      Option.bind (gtR h o0 4 4) fun r3 =>
      Option.bind (gtR h r3 3 2) fun r4 =>
      Option.bind (ldA h r4 10 x2) fun v5 =>
      Option.bind (α := AH) (
        if v5 = (-1) then
          some h
        else
          Option.bind (gtR h o0 4 10) fun r7 =>
          Option.bind (F_X4_hitIndex h x2 x1) fun v8 =>
          Option.bind (ldA h r7 10 v8) fun v9 =>
          Option.bind (stA h r7 10 v8 (v9 + 1)) fun h10 =>
          some h10
      ) fun q6 =>
      L_X4_tallyEggs_2 o0 x1 k n q6 (x2 + 1)
noncomputable def F_X4_tallyEggs (h : AH) (o : Nat) (x1 : Int32) : Option (AH) :=
  Option.bind (ckO h o 4) fun _ =>
  L_X4_tallyEggs_2 o x1 (fun h11 y12 =>
    some h11
  ) FU h 0
noncomputable def L_X4_tallyHits_21 {β : Type} (o0 : Nat) (x1 : Int32) (k : AH → Int32 → Option (β)) : Nat → AH → Int32 → Option (β)
  | 0, _, _ => none
  | n + 1, h, x2 =>
    if x1 ≤ x2 then
      k h x2
    else
      Option.bind (gtR h o0 4 1) fun r1 =>
      Option.bind (gtR h o0 4 4) fun r2 =>
      Option.bind (gtI h r2 3 9) fun v3 =>
      Option.bind (F_X2_newsOf h r1 v3) fun v4 =>
      Option.bind (gtR h o0 4 4) fun r5 =>
      Option.bind (gtR h o0 4 1) fun r6 =>
      Option.bind (F_X3_passDay h r5 r6) fun h7 =>
      Option.bind (α := AH) (
        if v4 = (-1) then
          some h7
        else
          Option.bind (F_X4_tallyEggs h7 o0 v4) fun h9 =>
          some h9
      ) fun q8 =>
      L_X4_tallyHits_21 o0 x1 k n q8 (x2 + 1)
noncomputable def F_X4_tallyHits (h : AH) (o : Nat) (x1 : Int32) : Option (AH) :=
  Option.bind (ckO h o 4) fun _ =>
  Option.bind (gtR h o 4 10) fun r1 =>
  Option.bind (F_J7_fill_53178 h r1 0) fun h2 =>
  Option.bind (gtR h2 o 4 4) fun r3 =>
  Option.bind (gtR h2 o 4 3) fun r4 =>
  Option.bind (F_X3_copyFrom h2 r3 r4) fun h5 =>
  L_X4_tallyHits_21 o x1 (fun h10 y11 =>
    some h10
  ) FU h5 0
noncomputable def F_X4_gainOfMove (h : AH) (o : Nat) (x1 : Int32) (x2 : Int32) : Option (Int32) :=
  Option.bind (ckO h o 4) fun _ =>
  Option.bind (gtR h o 4 3) fun r1 =>
  Option.bind (gtR h r1 3 0) fun r2 =>
  Option.bind (ldA h r2 10 x1) fun v3 =>
  Option.bind (gtR h o 4 3) fun r4 =>
  Option.bind (gtR h r4 3 0) fun r5 =>
  Option.bind (ldA h r5 10 x2) fun v6 =>
  Option.bind (gtR h o 4 10) fun r7 =>
  Option.bind (F_X4_hitIndex h x1 v6) fun v8 =>
  Option.bind (ldA h r7 10 v8) fun v9 =>
  Option.bind (gtR h o 4 10) fun r10 =>
  Option.bind (F_X4_hitIndex h x2 v3) fun v11 =>
  Option.bind (ldA h r10 10 v11) fun v12 =>
  Option.bind (gtR h o 4 10) fun r13 =>
  Option.bind (F_X4_hitIndex h x1 v3) fun v14 =>
  Option.bind (ldA h r13 10 v14) fun v15 =>
  Option.bind (gtR h o 4 10) fun r16 =>
  Option.bind (F_X4_hitIndex h x2 v6) fun v17 =>
  Option.bind (ldA h r16 10 v17) fun v18 =>
  some (((v9 + v12) - v15) - v18)
noncomputable def L_X4_trough_44 {β : Type} (h : AH) (o0 : Nat) (x1 : Int32) (x4 : Int32) (k : Int32 → Int32 → Int32 → Option (β)) : Nat → Int32 → Int32 → Int32 → Option (β)
  | 0, _, _, _ => none
  | n + 1, x2, x3, x5 =>
    Option.bind (gtR h o0 4 1) fun r1 =>
    Option.bind (gtI h r1 2 0) fun v2 =>
    if v2 ≤ x5 then
      k x2 x3 x5
    else
      Option.bind (F_X4_gainOfMove h o0 x4 x5) fun v3 =>
      Option.bind (α := Int32 × Int32) (
        if v3 ≤ x3 then
          some (x2, x3)
        else
          some ((10 * x4) + x5, v3)
      ) fun q4 =>
      L_X4_trough_44 h o0 x1 x4 k n q4.1 q4.2 (x5 + 1)
noncomputable def L_X4_trough_26 {β : Type} (h : AH) (o0 : Nat) (x1 : Int32) (k : Int32 → Int32 → Int32 → Option (β)) : Nat → Int32 → Int32 → Int32 → Option (β)
  | 0, _, _, _ => none
  | n + 1, x2, x3, x4 =>
    Option.bind (gtR h o0 4 1) fun r1 =>
    Option.bind (gtI h r1 2 0) fun v2 =>
    if v2 ≤ x4 then
      k x2 x3 x4
    else
      L_X4_trough_44 h o0 x1 x4 (fun y5 y6 y7 =>
        L_X4_trough_26 h o0 x1 k n y5 y6 (x4 + 1)
      ) FU x2 x3 (x4 + 1)
noncomputable def F_X4_trough (h : AH) (o : Nat) (x1 : Int32) : Option (Int32 × AH) :=
  Option.bind (ckO h o 4) fun _ =>
  if x1 < 1 then
    some ((-3), h)
  else
    if x1 ≤ 20 then
      Option.bind (F_X4_tallyHits h o x1) fun h1 =>
      L_X4_trough_26 h1 o x1 (fun y8 y9 y10 =>
        some (y8, h1)
      ) FU (-1) 0 0
    else
      some ((-3), h)
noncomputable def L_X5_rightsOfAll_4 {β : Type} (h : AH) (o0 : Nat) (o1 : Nat) (k : Int32 → Int32 → Option (β)) : Nat → Int32 → Int32 → Option (β)
  | 0, _, _ => none
  | n + 1, x2, x3 =>
    if 5 ≤ x3 then
      k x2 x3
    else
      Option.bind (ldA h o1 10 (39 + x3)) fun v1 =>
      L_X5_rightsOfAll_4 h o0 o1 k n (x2 + v1) (x3 + 1)
noncomputable def F_X5_rightsOfAll (h : AH) (o : Nat) (o1 : Nat) : Option (Int32) :=
  Option.bind (ckO h o 5) fun _ =>
  L_X5_rightsOfAll_4 h o o1 (fun y2 y3 =>
    some y2
  ) FU 0 0
noncomputable def L_X5_trough_59 {β : Type} (o0 : Nat) (x1 : Int32) (x4 : Int32) (k : AH → Int32 → Int32 → Int32 → Option (β)) : Nat → AH → Int32 → Int32 → Int32 → Option (β)
  | 0, _, _, _, _ => none
  | n + 1, h, x2, x3, x5 =>
    Option.bind (gtR h o0 5 0) fun r1 =>
    Option.bind (ldA h r1 10 0) fun v2 =>
    if v2 ≤ x5 then
      k h x2 x3 x5
    else
      Option.bind (F_X5_layAside h o0) fun h3 =>
      Option.bind (gtR h3 o0 5 20) fun r4 =>
      Option.bind (F_X5_moves h3 r4 x4 x5) fun h5 =>
      Option.bind (F_X5_go h5 o0 x1) fun h6 =>
      Option.bind (gtR h6 o0 5 20) fun r7 =>
      Option.bind (F_X5_rightsOfAll h6 o0 r7) fun v8 =>
      Option.bind (α := Int32) (
        if v8 ≤ x2 then
          some x3
        else
          some ((10 * x4) + x5)
      ) fun q9 =>
      Option.bind (α := Int32) (
        if v8 ≤ x2 then
          some x2
        else
          some v8
      ) fun q10 =>
      L_X5_trough_59 o0 x1 x4 k n h6 q10 q9 (x5 + 1)
noncomputable def L_X5_trough_42 {β : Type} (o0 : Nat) (x1 : Int32) (k : AH → Int32 → Int32 → Int32 → Option (β)) : Nat → AH → Int32 → Int32 → Int32 → Option (β)
  | 0, _, _, _, _ => none
  | n + 1, h, x2, x3, x4 =>
    Option.bind (gtR h o0 5 0) fun r1 =>
    Option.bind (ldA h r1 10 0) fun v2 =>
    if v2 ≤ x4 then
      k h x2 x3 x4
    else
      L_X5_trough_59 o0 x1 x4 (fun h11 y12 y13 y14 =>
        L_X5_trough_42 o0 x1 k n h11 y12 y13 (x4 + 1)
      ) FU h x2 x3 (x4 + 1)
noncomputable def F_X5_trough (h : AH) (o : Nat) (x1 : Int32) : Option (Int32 × AH) :=
  Option.bind (ckO h o 5) fun _ =>
  Option.bind (F_X5_in h x1.toInt64 1 20) fun v1 =>
  if ¬ v1 = 0 then
    Option.bind (F_X5_asTold h o) fun h2 =>
    Option.bind (F_X5_layAside h2 o) fun h3 =>
    Option.bind (F_X5_go h3 o x1) fun h4 =>
    Option.bind (gtR h4 o 5 20) fun r5 =>
    Option.bind (F_X5_rightsOfAll h4 o r5) fun v6 =>
    L_X5_trough_42 o x1 (fun h15 y16 y17 y18 =>
      some (y17, h15)
    ) FU h4 v6 (-1) 0
  else
    some ((-3), h)
noncomputable def L_X4_warmth_21 (o0 : Nat) (x1 : Int32) (x2 : Int32) (k : AH → Int32 → Option (Int32 × AH)) : Nat → AH → Int32 → Option (Int32 × AH)
  | 0, _, _ => none
  | n + 1, h, x3 =>
    if 9 < x3 then
      k h x3
    else
      Option.bind (gtR h o0 4 4) fun r1 =>
      Option.bind (gtR h o0 4 3) fun r2 =>
      Option.bind (F_X3_copyFrom h r1 r2) fun h3 =>
      Option.bind (gtR h3 o0 4 4) fun r4 =>
      Option.bind (gtR h3 r4 3 1) fun r5 =>
      Option.bind (stA h3 r5 10 x2 x3) fun h6 =>
      Option.bind (gtR h6 o0 4 4) fun r7 =>
      Option.bind (gtR h6 o0 4 1) fun r8 =>
      Option.bind (F_X3_passDay h6 r7 r8) fun h9 =>
      Option.bind (gtR h9 o0 4 4) fun r10 =>
      Option.bind (gtR h9 r10 3 2) fun r11 =>
      Option.bind (ldA h9 r11 10 x2) fun v12 =>
      if ¬ v12 = x1 then
        L_X4_warmth_21 o0 x1 x2 k n h9 (x3 + 1)
      else
        some (x3, h9)
noncomputable def F_X4_warmth (h : AH) (o : Nat) (x1 : Int32) (x2 : Int32) : Option (Int32 × AH) :=
  Option.bind (ckO h o 4) fun _ =>
  Option.bind (F_X4_isHen h o x1) fun v1 =>
  if v1 = 0 then
    some ((-2), h)
  else
    Option.bind (F_X4_isPlace h o x2) fun v2 =>
    if ¬ v2 = 0 then
      L_X4_warmth_21 o x1 x2 (fun h13 y14 =>
        some ((-1), h13)
      ) FU h 0
    else
      some ((-2), h)
noncomputable def L_X5_warmth_25 (o0 : Nat) (x1 : Int32) (x2 : Int32) (k : AH → Int32 → Option (Int32 × AH)) : Nat → AH → Int32 → Option (Int32 × AH)
  | 0, _, _ => none
  | n + 1, h, x3 =>
    if 10 ≤ x3 then
      k h x3
    else
      Option.bind (F_X5_layAside h o0) fun h1 =>
      Option.bind (gtR h1 o0 5 20) fun r2 =>
      Option.bind (stA h1 r2 10 (10 + x2) x3) fun h3 =>
      Option.bind (F_X5_go h3 o0 1) fun h4 =>
      Option.bind (gtR h4 o0 5 19) fun r5 =>
      Option.bind (ldA h4 r5 10 x1) fun v6 =>
      if ¬ v6 = x2 then
        L_X5_warmth_25 o0 x1 x2 k n h4 (x3 + 1)
      else
        some (x3, h4)
noncomputable def F_X5_warmth (h : AH) (o : Nat) (x1 : Int32) (x2 : Int32) : Option (Int32 × AH) :=
  Option.bind (ckO h o 5) fun _ =>
  Option.bind (F_X5_isHen h o x1) fun v1 =>
  if v1 = 0 then
    some ((-2), h)
  else
    Option.bind (F_X5_isPlace h o x2) fun v2 =>
    if ¬ v2 = 0 then
      Option.bind (F_X5_asTold h o) fun h3 =>
      L_X5_warmth_25 o x1 x2 (fun h7 y8 =>
        some ((-1), h7)
      ) FU h3 0
    else
      some ((-2), h)
noncomputable def F_X0_add (h : AH) (o : Nat) (x1 : Int32) (x2 : Int32) (x3 : Int32) : Option (AH) :=
  Option.bind (ckO h o 0) fun _ =>
  Option.bind (gtI h o 0 3) fun v1 =>
  if v1 < 6 then
    Option.bind (gtR h o 0 0) fun r2 =>
    Option.bind (gtI h o 0 3) fun v3 =>
    Option.bind (stA h r2 10 v3 x1) fun h4 =>
    Option.bind (gtR h4 o 0 1) fun r5 =>
    Option.bind (gtI h4 o 0 3) fun v6 =>
    Option.bind (stA h4 r5 10 v6 x2) fun h7 =>
    Option.bind (gtR h7 o 0 2) fun r8 =>
    Option.bind (gtI h7 o 0 3) fun v9 =>
    Option.bind (stA h7 r8 10 v9 x3) fun h10 =>
    Option.bind (gtI h10 o 0 3) fun v11 =>
    Option.bind (ptI h10 o 0 3 (v11 + 1)) fun h12 =>
    some h12
  else
    some h
noncomputable def F_X4_seen (h : AH) (o : Nat) (x1 : Int32) (x2 : Int32) (x3 : Int32) : Option (Int32 × AH) :=
  Option.bind (ckO h o 4) fun _ =>
  Option.bind (F_X4_isHen h o x1) fun v1 =>
  if v1 = 0 then
    some ((-2), h)
  else
    if x3 = (-1) then
      if x2 < 1 then
        some ((-3), h)
      else
        if x2 ≤ 14 then
          Option.bind (gtR h o 4 9) fun r2 =>
          Option.bind (gtI h r2 0 3) fun v3 =>
          if v3 < 6 then
            Option.bind (gtR h o 4 9) fun r4 =>
            Option.bind (F_X0_add h r4 x1 x2 x3) fun h5 =>
            Option.bind (gtR h5 o 4 9) fun r6 =>
            Option.bind (gtI h5 r6 0 3) fun v7 =>
            some (v7, h5)
          else
            some ((-5), h)
        else
          some ((-3), h)
    else
      Option.bind (F_X4_isPlace h o x3) fun v8 =>
      if ¬ v8 = 0 then
        if x2 < 1 then
          some ((-3), h)
        else
          if x2 ≤ 14 then
            Option.bind (gtR h o 4 9) fun r9 =>
            Option.bind (gtI h r9 0 3) fun v10 =>
            if v10 < 6 then
              Option.bind (gtR h o 4 9) fun r11 =>
              Option.bind (F_X0_add h r11 x1 x2 x3) fun h12 =>
              Option.bind (gtR h12 o 4 9) fun r13 =>
              Option.bind (gtI h12 r13 0 3) fun v14 =>
              some (v14, h12)
            else
              some ((-5), h)
          else
            some ((-3), h)
      else
        some ((-2), h)
noncomputable def F_X5_seen (h : AH) (o : Nat) (x1 : Int32) (x2 : Int32) (x3 : Int32) : Option (Int32 × AH) :=
  Option.bind (ckO h o 5) fun _ =>
  Option.bind (F_X5_isHen h o x1) fun v1 =>
  if v1 = 0 then
    some ((-2), h)
  else
    if x3 = (-1) then
      Option.bind (F_X5_in h x2.toInt64 1 14) fun v2 =>
      if ¬ v2 = 0 then
        Option.bind (gtI h o 5 10) fun v3 =>
        if ¬ v3 = 6 then
          Option.bind (gtR h o 5 9) fun r4 =>
          Option.bind (gtI h o 5 10) fun v5 =>
          Option.bind (stA h r4 10 (3 * v5) x1) fun h6 =>
          Option.bind (gtR h6 o 5 9) fun r7 =>
          Option.bind (gtI h6 o 5 10) fun v8 =>
          Option.bind (stA h6 r7 10 ((3 * v8) + 1) x2) fun h9 =>
          Option.bind (gtR h9 o 5 9) fun r10 =>
          Option.bind (gtI h9 o 5 10) fun v11 =>
          Option.bind (stA h9 r10 10 ((3 * v11) + 2) x3) fun h12 =>
          Option.bind (gtI h12 o 5 10) fun v13 =>
          Option.bind (ptI h12 o 5 10 (v13 + 1)) fun h14 =>
          Option.bind (gtI h14 o 5 10) fun v15 =>
          some (v15, h14)
        else
          some ((-5), h)
      else
        some ((-3), h)
    else
      Option.bind (F_X5_isPlace h o x3) fun v16 =>
      if ¬ v16 = 0 then
        Option.bind (F_X5_in h x2.toInt64 1 14) fun v17 =>
        if ¬ v17 = 0 then
          Option.bind (gtI h o 5 10) fun v18 =>
          if ¬ v18 = 6 then
            Option.bind (gtR h o 5 9) fun r19 =>
            Option.bind (gtI h o 5 10) fun v20 =>
            Option.bind (stA h r19 10 (3 * v20) x1) fun h21 =>
            Option.bind (gtR h21 o 5 9) fun r22 =>
            Option.bind (gtI h21 o 5 10) fun v23 =>
            Option.bind (stA h21 r22 10 ((3 * v23) + 1) x2) fun h24 =>
            Option.bind (gtR h24 o 5 9) fun r25 =>
            Option.bind (gtI h24 o 5 10) fun v26 =>
            Option.bind (stA h24 r25 10 ((3 * v26) + 2) x3) fun h27 =>
            Option.bind (gtI h27 o 5 10) fun v28 =>
            Option.bind (ptI h27 o 5 10 (v28 + 1)) fun h29 =>
            Option.bind (gtI h29 o 5 10) fun v30 =>
            some (v30, h29)
          else
            some ((-5), h)
        else
          some ((-3), h)
      else
        some ((-2), h)
noncomputable def F_X4_forget (h : AH) (o : Nat) : Option (Int32 × AH) :=
  Option.bind (ckO h o 4) fun _ =>
  Option.bind (gtR h o 4 9) fun r1 =>
  Option.bind (gtI h r1 0 3) fun v2 =>
  Option.bind (gtR h o 4 9) fun r3 =>
  Option.bind (ptI h r3 0 3 0) fun h4 =>
  some (v2, h4)
noncomputable def F_X5_forget (h : AH) (o : Nat) : Option (Int32 × AH) :=
  Option.bind (ckO h o 5) fun _ =>
  Option.bind (gtI h o 5 10) fun v1 =>
  Option.bind (ptI h o 5 10 0) fun h2 =>
  some (v1, h2)
noncomputable def F_J9_max_7cf53 (h : AH) (x0 : Int32) (x1 : Int32) : Option (Int32) :=
  if x0 < x1 then
    some x1
  else
    some x0
noncomputable def L_X0_lastDayOf_4 {β : Type} (h : AH) (o0 : Nat) (x1 : Int32) (k : Int32 → Int32 → Option (β)) : Nat → Int32 → Int32 → Option (β)
  | 0, _, _ => none
  | n + 1, x2, x3 =>
    Option.bind (gtI h o0 0 3) fun v1 =>
    if v1 ≤ x3 then
      k x2 x3
    else
      Option.bind (gtR h o0 0 0) fun r2 =>
      Option.bind (ldA h r2 10 x3) fun v3 =>
      Option.bind (α := Int32) (
        if ¬ v3 = x1 then
          some x2
        else
          Option.bind (gtR h o0 0 1) fun r5 =>
          Option.bind (ldA h r5 10 x3) fun v6 =>
          Option.bind (F_J9_max_7cf53 h x2 v6) fun v7 =>
          some v7
      ) fun q4 =>
      L_X0_lastDayOf_4 h o0 x1 k n q4 (x3 + 1)
noncomputable def F_X0_lastDayOf (h : AH) (o : Nat) (x1 : Int32) : Option (Int32) :=
  Option.bind (ckO h o 0) fun _ =>
  L_X0_lastDayOf_4 h o x1 (fun y8 y9 =>
    some y8
  ) FU 0 0
noncomputable def L_X0_agree_3 (h : AH) (o0 : Nat) (x1 : Int32) (x2 : Int32) (x3 : Int32) (k : Int32 → Option (Int32)) : Nat → Int32 → Option (Int32)
  | 0, _ => none
  | n + 1, x4 =>
    Option.bind (gtI h o0 0 3) fun v1 =>
    if v1 ≤ x4 then
      k x4
    else
      Option.bind (gtR h o0 0 0) fun r2 =>
      Option.bind (ldA h r2 10 x4) fun v3 =>
      if ¬ v3 = x1 then
        L_X0_agree_3 h o0 x1 x2 x3 k n (x4 + 1)
      else
        Option.bind (gtR h o0 0 1) fun r4 =>
        Option.bind (ldA h r4 10 x4) fun v5 =>
        if ¬ v5 = x2 then
          L_X0_agree_3 h o0 x1 x2 x3 k n (x4 + 1)
        else
          Option.bind (gtR h o0 0 2) fun r6 =>
          Option.bind (ldA h r6 10 x4) fun v7 =>
          if v7 = x3 then
            L_X0_agree_3 h o0 x1 x2 x3 k n (x4 + 1)
          else
            some 0
noncomputable def F_X0_agree (h : AH) (o : Nat) (x1 : Int32) (x2 : Int32) (x3 : Int32) : Option (Int32) :=
  Option.bind (ckO h o 0) fun _ =>
  L_X0_agree_3 h o x1 x2 x3 (fun y8 =>
    some 1
  ) FU 0
noncomputable def L_X4_wouldBeSeen_44 (o0 : Nat) (x1 : Int32) (x2 : Int32) (x3 : Int32) (x4 : Int32) (k : AH → Int32 → Option (Int32 × AH)) : Nat → AH → Int32 → Option (Int32 × AH)
  | 0, _, _ => none
  | n + 1, h, x5 =>
    if x4 < x5 then
      k h x5
    else
      Option.bind (gtR h o0 4 4) fun r1 =>
      Option.bind (gtR h o0 4 1) fun r2 =>
      Option.bind (F_X3_passDay h r1 r2) fun h3 =>
      Option.bind (gtR h3 o0 4 9) fun r4 =>
      Option.bind (gtR h3 o0 4 4) fun r5 =>
      Option.bind (F_X3_placeOfEgg h3 r5 x1) fun v6 =>
      Option.bind (F_X0_agree h3 r4 x1 x5 v6) fun v7 =>
      if ¬ v7 = 0 then
        L_X4_wouldBeSeen_44 o0 x1 x2 x3 x4 k n h3 (x5 + 1)
      else
        some (0, h3)
noncomputable def F_X4_wouldBeSeen (h : AH) (o : Nat) (x1 : Int32) (x2 : Int32) (x3 : Int32) : Option (Int32 × AH) :=
  Option.bind (ckO h o 4) fun _ =>
  Option.bind (gtR h o 4 9) fun r1 =>
  Option.bind (F_X0_lastDayOf h r1 x1) fun v2 =>
  Option.bind (gtR h o 4 4) fun r3 =>
  Option.bind (gtR h o 4 3) fun r4 =>
  Option.bind (F_X3_copyFrom h r3 r4) fun h5 =>
  Option.bind (gtR h5 o 4 4) fun r6 =>
  Option.bind (gtR h5 r6 3 4) fun r7 =>
  Option.bind (stA h5 r7 10 x1 x2) fun h8 =>
  Option.bind (gtR h8 o 4 4) fun r9 =>
  Option.bind (gtR h8 r9 3 5) fun r10 =>
  Option.bind (stA h8 r10 10 x1 x3) fun h11 =>
  L_X4_wouldBeSeen_44 o x1 x2 x3 v2 (fun h12 y13 =>
    some (1, h12)
  ) FU h11 1
noncomputable def L_X4_kinds_15 {β : Type} (o0 : Nat) (x1 : Int32) (k : AH → Int32 → Int32 → Option (β)) : Nat → AH → Int32 → Int32 → Option (β)
  | 0, _, _, _ => none
  | n + 1, h, x2, x3 =>
    if 3 < x3 then
      k h x2 x3
    else
      Option.bind (gtR h o0 4 3) fun r1 =>
      Option.bind (gtR h r1 3 5) fun r2 =>
      Option.bind (ldA h r2 10 x1) fun v3 =>
      Option.bind (F_X4_wouldBeSeen h o0 x1 x3 v3) fun q4 =>
      Option.bind (α := Int32) (
        if q4.1 = 0 then
          some x2
        else
          some (x2 ||| (1 <<< (x3 &&& 31)))
      ) fun q5 =>
      L_X4_kinds_15 o0 x1 k n q4.2 q5 (x3 + 1)
noncomputable def F_X4_kinds (h : AH) (o : Nat) (x1 : Int32) : Option (Int32 × AH) :=
  Option.bind (ckO h o 4) fun _ =>
  Option.bind (F_X4_isHen h o x1) fun v1 =>
  if ¬ v1 = 0 then
    L_X4_kinds_15 o x1 (fun h6 y7 y8 =>
      some (y7, h6)
    ) FU h 0 0
  else
    some ((-2), h)
noncomputable def L_X5_comes_22 {β : Type} (h : AH) (o0 : Nat) (x1 : Int32) (x3 : Int32) (k : Int32 → Int32 → Option (β)) : Nat → Int32 → Int32 → Option (β)
  | 0, _, _ => none
  | n + 1, x2, x4 =>
    Option.bind (gtI h o0 5 10) fun v1 =>
    if v1 ≤ x4 then
      k x2 x4
    else
      Option.bind (gtR h o0 5 9) fun r2 =>
      Option.bind (ldA h r2 10 (3 * x4)) fun v3 =>
      Option.bind (α := Int32) (
        if ¬ v3 = x1 then
          some 0
        else
          Option.bind (gtR h o0 5 9) fun r5 =>
          Option.bind (ldA h r5 10 ((3 * x4) + 1)) fun v6 =>
          if ¬ v6 = x3 then
            some 0
          else
            some 1
      ) fun q4 =>
      Option.bind (α := Int32) (
        if x2 = 0 then
          some 0
        else
          if q4 = 0 then
            some 1
          else
            Option.bind (gtR h o0 5 19) fun r8 =>
            Option.bind (ldA h r8 10 x1) fun v9 =>
            Option.bind (gtR h o0 5 9) fun r10 =>
            Option.bind (ldA h r10 10 ((3 * x4) + 2)) fun v11 =>
            if ¬ v9 = v11 then
              some 0
            else
              some 1
      ) fun q7 =>
      L_X5_comes_22 h o0 x1 x3 k n q7 (x4 + 1)
noncomputable def L_X5_comes_8 {β : Type} (o0 : Nat) (x1 : Int32) (k : AH → Int32 → Int32 → Option (β)) : Nat → AH → Int32 → Int32 → Option (β)
  | 0, _, _, _ => none
  | n + 1, h, x2, x3 =>
    if 15 ≤ x3 then
      k h x2 x3
    else
      Option.bind (F_X5_go h o0 1) fun h1 =>
      L_X5_comes_22 h1 o0 x1 x3 (fun y12 y13 =>
        L_X5_comes_8 o0 x1 k n h1 y12 (x3 + 1)
      ) FU x2 0
noncomputable def F_X5_comes (h : AH) (o : Nat) (x1 : Int32) : Option (Int32 × AH) :=
  Option.bind (ckO h o 5) fun _ =>
  Option.bind (F_X5_layAside h o) fun h1 =>
  L_X5_comes_8 o x1 (fun h14 y15 y16 =>
    Option.bind (bz y15) fun v17 => some (v17, h14)
  ) FU h1 1 1
noncomputable def L_X5_kinds_19 {β : Type} (o0 : Nat) (x1 : Int32) (k : AH → Int32 → Int32 → Option (β)) : Nat → AH → Int32 → Int32 → Option (β)
  | 0, _, _, _ => none
  | n + 1, h, x2, x3 =>
    if 4 ≤ x3 then
      k h x2 x3
    else
      Option.bind (gtR h o0 5 17) fun r1 =>
      Option.bind (stA h r1 10 x1 x3) fun h2 =>
      Option.bind (F_X5_comes h2 o0 x1) fun q3 =>
      Option.bind (α := Int32) (
        if q3.1 = 0 then
          some 0
        else
          some (1 <<< (x3 &&& 31))
      ) fun q4 =>
      L_X5_kinds_19 o0 x1 k n q3.2 (x2 ||| q4) (x3 + 1)
noncomputable def F_X5_kinds (h : AH) (o : Nat) (x1 : Int32) : Option (Int32 × AH) :=
  Option.bind (ckO h o 5) fun _ =>
  Option.bind (F_X5_isHen h o x1) fun v1 =>
  if ¬ v1 = 0 then
    Option.bind (F_X5_asTold h o) fun h2 =>
    L_X5_kinds_19 o x1 (fun h5 y6 y7 =>
      some (y6, h5)
    ) FU h2 0 0
  else
    some ((-2), h)
noncomputable def L_X4_habits_15 {β : Type} (o0 : Nat) (x1 : Int32) (k : AH → Int32 → Int32 → Option (β)) : Nat → AH → Int32 → Int32 → Option (β)
  | 0, _, _, _ => none
  | n + 1, h, x2, x3 =>
    if 9 < x3 then
      k h x2 x3
    else
      Option.bind (gtR h o0 4 3) fun r1 =>
      Option.bind (gtR h r1 3 4) fun r2 =>
      Option.bind (ldA h r2 10 x1) fun v3 =>
      Option.bind (F_X4_wouldBeSeen h o0 x1 v3 x3) fun q4 =>
      Option.bind (α := Int32) (
        if q4.1 = 0 then
          some x2
        else
          some (x2 ||| (1 <<< (x3 &&& 31)))
      ) fun q5 =>
      L_X4_habits_15 o0 x1 k n q4.2 q5 (x3 + 1)
noncomputable def F_X4_habits (h : AH) (o : Nat) (x1 : Int32) : Option (Int32 × AH) :=
  Option.bind (ckO h o 4) fun _ =>
  Option.bind (F_X4_isHen h o x1) fun v1 =>
  if ¬ v1 = 0 then
    L_X4_habits_15 o x1 (fun h6 y7 y8 =>
      some (y7, h6)
    ) FU h 0 0
  else
    some ((-2), h)
noncomputable def L_X5_habits_19 {β : Type} (o0 : Nat) (x1 : Int32) (k : AH → Int32 → Int32 → Option (β)) : Nat → AH → Int32 → Int32 → Option (β)
  | 0, _, _, _ => none
  | n + 1, h, x2, x3 =>
    if 10 ≤ x3 then
      k h x2 x3
    else
      Option.bind (gtR h o0 5 18) fun r1 =>
      Option.bind (stA h r1 10 x1 x3) fun h2 =>
      Option.bind (F_X5_comes h2 o0 x1) fun q3 =>
      Option.bind (α := Int32) (
        if q3.1 = 0 then
          some 0
        else
          some (1 <<< (x3 &&& 31))
      ) fun q4 =>
      L_X5_habits_19 o0 x1 k n q3.2 (x2 ||| q4) (x3 + 1)
noncomputable def F_X5_habits (h : AH) (o : Nat) (x1 : Int32) : Option (Int32 × AH) :=
  Option.bind (ckO h o 5) fun _ =>
  Option.bind (F_X5_isHen h o x1) fun v1 =>
  if ¬ v1 = 0 then
    Option.bind (F_X5_asTold h o) fun h2 =>
    L_X5_habits_19 o x1 (fun h5 y6 y7 =>
      some (y6, h5)
    ) FU h2 0 0
  else
    some ((-2), h)
noncomputable def L_X4_daysToFirstRight_13 (o0 : Nat) (x1 : Int32) (x2 : Int32) (k : AH → Int32 → Option (Int32 × AH)) : Nat → AH → Int32 → Option (Int32 × AH)
  | 0, _, _ => none
  | n + 1, h, x3 =>
    if x2 < x3 then
      k h x3
    else
      Option.bind (gtR h o0 4 4) fun r1 =>
      Option.bind (gtR h o0 4 1) fun r2 =>
      Option.bind (F_X3_passDay h r1 r2) fun h3 =>
      Option.bind (F_X4_rightsForetold h3 o0 x1) fun v4 =>
      if v4 ≤ 0 then
        L_X4_daysToFirstRight_13 o0 x1 x2 k n h3 (x3 + 1)
      else
        some (x3, h3)
noncomputable def F_X4_daysToFirstRight (h : AH) (o : Nat) (x1 : Int32) (x2 : Int32) : Option (Int32 × AH) :=
  Option.bind (ckO h o 4) fun _ =>
  Option.bind (gtR h o 4 4) fun r1 =>
  Option.bind (gtR h o 4 3) fun r2 =>
  Option.bind (F_X3_copyFrom h r1 r2) fun h3 =>
  L_X4_daysToFirstRight_13 o x1 x2 (fun h5 y6 =>
    some ((-1), h5)
  ) FU h3 1
noncomputable def L_X4_power_4 {β : Type} (h : AH) (x0 : Int32) (x1 : Int32) (k : Int32 → Int32 → Option (β)) : Nat → Int32 → Int32 → Option (β)
  | 0, _, _ => none
  | n + 1, x2, x3 =>
    if x1 ≤ x3 then
      k x2 x3
    else
      L_X4_power_4 h x0 x1 k n (x2 * x0) (x3 + 1)
noncomputable def F_X4_power (h : AH) (x0 : Int32) (x1 : Int32) : Option (Int32) :=
  L_X4_power_4 h x0 x1 (fun y1 y2 =>
    some y1
  ) FU 1 0
noncomputable def L_X4_commonDivisor_7 {β : Type} (h : AH) (x0 : Int32) (x1 : Int32) (k : Int32 → Int32 → Int32 → Option (β)) : Nat → Int32 → Int32 → Int32 → Option (β)
  | 0, _, _, _ => none
  | n + 1, x2, x3, x4 =>
    if 64 ≤ x4 then
      k x2 x3 x4
    else
      if x3 ≤ 0 then
        k x2 x3 x4
      else
        Option.bind (rmI x2 x3) fun v1 =>
        L_X4_commonDivisor_7 h x0 x1 k n x3 v1 (x4 + 1)
noncomputable def F_X4_commonDivisor (h : AH) (x0 : Int32) (x1 : Int32) : Option (Int32) :=
  L_X4_commonDivisor_7 h x0 x1 (fun y2 y3 y4 =>
    some y2
  ) FU x1 x0 0
noncomputable def F_X4_foxes (h : AH) (o : Nat) (x1 : Int32) (x2 : Int32) (x3 : Int32) (x4 : Int32) : Option (Int32 × AH) :=
  Option.bind (ckO h o 4) fun _ =>
  Option.bind (F_X4_isHen h o x1) fun v1 =>
  if ¬ v1 = 0 then
    if x2 < 0 then
      some ((-3), h)
    else
      if 6 < x2 then
        some ((-3), h)
      else
        if x3 < 0 then
          some ((-3), h)
        else
          if 10 < x3 then
            some ((-3), h)
          else
            if x4 < 0 then
              some ((-3), h)
            else
              if x4 ≤ 1 then
                Option.bind (F_X4_daysToFirstRight h o x1 x2) fun q2 =>
                Option.bind (α := Int32) (
                  if ¬ q2.1 = (-1) then
                    Option.bind (F_X4_power q2.2 (10 - x3) q2.1) fun v4 =>
                    some v4
                  else
                    some 0
                ) fun q3 =>
                Option.bind (α := Int32) (
                  if ¬ q2.1 = (-1) then
                    Option.bind (F_X4_power q2.2 10 q2.1) fun v6 =>
                    some v6
                  else
                    some 1
                ) fun q5 =>
                Option.bind (F_X4_commonDivisor q2.2 q3 q5) fun v7 =>
                Option.bind (F_J9_max_7cf53 q2.2 1 v7) fun v8 =>
                if ¬ x4 = 0 then
                  Option.bind (dvI q5 v8) fun v9 =>
                  some (v9, q2.2)
                else
                  Option.bind (dvI q3 v8) fun v10 =>
                  some (v10, q2.2)
              else
                some ((-3), h)
  else
    some ((-2), h)
noncomputable def L_X5_foxes_66 {β : Type} (o0 : Nat) (x1 : Int32) (x2 : Int32) (x3 : Int32) (x4 : Int32) (k : AH → Int64 → Int64 → Int32 → Int32 → Option (β)) : Nat → AH → Int64 → Int64 → Int32 → Int32 → Option (β)
  | 0, _, _, _, _, _ => none
  | n + 1, h, x5, x7, x9, x10 =>
    if x2 ≤ x10 then
      k h x5 x7 x9 x10
    else
      if ¬ x9 = 0 then
        k h x5 x7 x9 x10
      else
        Option.bind (F_X5_go h o0 1) fun h1 =>
        Option.bind (gtR h1 o0 5 20) fun r2 =>
        Option.bind (ldA h1 r2 10 (39 + x1)) fun v3 =>
        Option.bind (gtR h1 o0 5 2) fun r4 =>
        Option.bind (ldA h1 r4 10 (39 + x1)) fun v5 =>
        Option.bind (α := Int32) (
          if v3 ≤ v5 then
            some 0
          else
            some 1
        ) fun q6 =>
        L_X5_foxes_66 o0 x1 x2 x3 x4 k n h1 (x5 * (Int32.toInt64 (10 - x3))) (x7 * 10) q6 (x10 + 1)
noncomputable def L_X5_foxes_155 {β : Type} (h : AH) (o0 : Nat) (x1 : Int32) (x2 : Int32) (x3 : Int32) (x4 : Int32) (x5 : Int64) (x7 : Int64) (x9 : Int32) (k : Int64 → Int64 → Option (β)) : Nat → Int64 → Int64 → Option (β)
  | 0, _, _ => none
  | n + 1, x10, x12 =>
    if (lg_cmp x12 0) = 0 then
      k x10 x12
    else
      Option.bind (rmL x10 x12) fun v1 =>
      L_X5_foxes_155 h o0 x1 x2 x3 x4 x5 x7 x9 k n x12 v1
noncomputable def F_X5_foxes (h : AH) (o : Nat) (x1 : Int32) (x2 : Int32) (x3 : Int32) (x4 : Int32) : Option (Int32 × AH) :=
  Option.bind (ckO h o 5) fun _ =>
  Option.bind (F_X5_isHen h o x1) fun v1 =>
  if ¬ v1 = 0 then
    Option.bind (F_X5_in h x2.toInt64 0 6) fun v2 =>
    if v2 = 0 then
      some ((-3), h)
    else
      Option.bind (F_X5_in h x3.toInt64 0 10) fun v3 =>
      if v3 = 0 then
        some ((-3), h)
      else
        Option.bind (F_X5_isTwo h x4) fun v4 =>
        if ¬ v4 = 0 then
          Option.bind (F_X5_asTold h o) fun h5 =>
          Option.bind (F_X5_layAside h5 o) fun h6 =>
          L_X5_foxes_66 o x1 x2 x3 x4 (fun h7 y8 y9 y10 y11 =>
            Option.bind (α := Int64) (
              if y10 = 0 then
                some 0
              else
                some y8
            ) fun q12 =>
            L_X5_foxes_155 h7 o x1 x2 x3 x4 q12 y9 y10 (fun y13 y14 =>
              if ¬ x4 = 0 then
                Option.bind (dvL y9 y13) fun v15 =>
                some (Int64.toInt32 v15, h7)
              else
                Option.bind (dvL q12 y13) fun v16 =>
                some (Int64.toInt32 v16, h7)
            ) FU q12 y9
          ) FU h6 1 1 0 0
        else
          some ((-3), h)
  else
    some ((-2), h)
noncomputable def L_X4_sum_4 {β : Type} (h : AH) (o0 : Nat) (k : Int32 → Int32 → Option (β)) : Nat → Int32 → Int32 → Option (β)
  | 0, _, _ => none
  | n + 1, x1, x2 =>
    Option.bind (lnA h o0) fun v1 =>
    if v1 ≤ x2 then
      k x1 x2
    else
      Option.bind (ldA h o0 10 x2) fun v2 =>
      L_X4_sum_4 h o0 k n (x1 + v2) (x2 + 1)
noncomputable def F_X4_sum (h : AH) (o0 : Nat) : Option (Int32) :=
  L_X4_sum_4 h o0 (fun y3 y4 =>
    some y3
  ) FU 0 0
noncomputable def F_X4_count (h : AH) (o : Nat) (x1 : Int32) : Option (Int32) :=
  Option.bind (ckO h o 4) fun _ =>
  if x1 = 0 then
    Option.bind (gtR h o 4 1) fun r1 =>
    Option.bind (gtI h r1 2 0) fun v2 =>
    some v2
  else if x1 = 1 then
    Option.bind (gtR h o 4 1) fun r3 =>
    Option.bind (gtI h r3 2 1) fun v4 =>
    some v4
  else if x1 = 2 then
    Option.bind (gtR h o 4 3) fun r5 =>
    Option.bind (gtI h r5 3 9) fun v6 =>
    some v6
  else if x1 = 3 then
    Option.bind (gtR h o 4 3) fun r7 =>
    Option.bind (F_X3_eggBits h r7) fun v8 =>
    some v8
  else if x1 = 4 then
    Option.bind (gtR h o 4 3) fun r9 =>
    Option.bind (gtI h r9 3 11) fun v10 =>
    some v10
  else if x1 = 5 then
    Option.bind (gtR h o 4 3) fun r11 =>
    Option.bind (gtI h r11 3 12) fun v12 =>
    some v12
  else if x1 = 6 then
    Option.bind (gtR h o 4 3) fun r13 =>
    Option.bind (gtI h r13 3 13) fun v14 =>
    some (v14 + 9999)
  else if x1 = 7 then
    Option.bind (gtR h o 4 3) fun r15 =>
    Option.bind (gtR h r15 3 7) fun r16 =>
    Option.bind (F_X4_sum h r16) fun v17 =>
    some v17
  else if x1 = 8 then
    Option.bind (gtR h o 4 3) fun r18 =>
    Option.bind (gtR h r18 3 8) fun r19 =>
    Option.bind (F_X4_sum h r19) fun v20 =>
    some v20
  else if x1 = 9 then
    Option.bind (gtR h o 4 3) fun r21 =>
    Option.bind (gtI h r21 3 10) fun v22 =>
    if v22 = 0 then
      some 0
    else
      some 1
  else if x1 = 10 then
    Option.bind (gtR h o 4 9) fun r23 =>
    Option.bind (gtI h r23 0 3) fun v24 =>
    some v24
  else if x1 = 11 then
    Option.bind (gtI h o 4 6) fun v25 =>
    some v25
  else if x1 = 12 then
    Option.bind (gtR h o 4 0) fun r26 =>
    Option.bind (gtI h r26 1 1) fun v27 =>
    some v27
  else
    some (-3)
noncomputable def L_X5_count_10 {β : Type} (h : AH) (o0 : Nat) (x1 : Int32) (x3 : Int32) (x4 : Int32) (k : Int32 → Int32 → Option (β)) : Nat → Int32 → Int32 → Option (β)
  | 0, _, _ => none
  | n + 1, x2, x5 =>
    if 8 ≤ x5 then
      k x2 x5
    else
      Option.bind (gtR h o0 5 2) fun r1 =>
      Option.bind (ldA h r1 10 (18 + x5)) fun v2 =>
      Option.bind (α := Int32) (
        if ¬ v2 = (-1) then
          some (1 <<< (x5 &&& 31))
        else
          some 0
      ) fun q3 =>
      L_X5_count_10 h o0 x1 x3 x4 k n (x2 ||| q3) (x5 + 1)
noncomputable def L_X5_count_51 {β : Type} (h : AH) (o0 : Nat) (x1 : Int32) (x2 : Int32) (k : Int32 → Int32 → Int32 → Option (β)) : Nat → Int32 → Int32 → Int32 → Option (β)
  | 0, _, _, _ => none
  | n + 1, x3, x4, x5 =>
    if 5 ≤ x5 then
      k x3 x4 x5
    else
      Option.bind (gtR h o0 5 2) fun r1 =>
      Option.bind (ldA h r1 10 (39 + x5)) fun v2 =>
      Option.bind (gtR h o0 5 2) fun r3 =>
      Option.bind (ldA h r3 10 (44 + x5)) fun v4 =>
      L_X5_count_51 h o0 x1 x2 k n (x3 + v2) (x4 + v4) (x5 + 1)
noncomputable def F_X5_count (h : AH) (o : Nat) (x1 : Int32) : Option (Int32) :=
  Option.bind (ckO h o 5) fun _ =>
  L_X5_count_10 h o x1 0 0 (fun y4 y5 =>
    L_X5_count_51 h o x1 y4 (fun y6 y7 y8 =>
      if x1 = 0 then
        Option.bind (gtR h o 5 0) fun r9 =>
        Option.bind (ldA h r9 10 0) fun v10 =>
        some v10
      else if x1 = 1 then
        Option.bind (gtR h o 5 0) fun r11 =>
        Option.bind (ldA h r11 10 25) fun v12 =>
        some v12
      else if x1 = 2 then
        Option.bind (gtR h o 5 2) fun r13 =>
        Option.bind (ldA h r13 10 0) fun v14 =>
        some v14
      else if x1 = 3 then
        some y4
      else if x1 = 4 then
        Option.bind (gtR h o 5 2) fun r15 =>
        Option.bind (ldA h r15 10 ((49 + x1) - 4)) fun v16 =>
        some v16
      else if x1 = 5 then
        Option.bind (gtR h o 5 2) fun r17 =>
        Option.bind (ldA h r17 10 ((49 + x1) - 4)) fun v18 =>
        some v18
      else if x1 = 6 then
        Option.bind (gtR h o 5 2) fun r19 =>
        Option.bind (ldA h r19 10 51) fun v20 =>
        some (v20 + 9999)
      else if x1 = 7 then
        some y6
      else if x1 = 8 then
        some y7
      else if x1 = 9 then
        Option.bind (gtR h o 5 2) fun r21 =>
        Option.bind (ldA h r21 10 1) fun v22 =>
        some v22
      else if x1 = 10 then
        Option.bind (gtI h o 5 10) fun v23 =>
        some v23
      else if x1 = 11 then
        Option.bind (gtI h o 5 4) fun v24 =>
        some v24
      else if x1 = 12 then
        Option.bind (gtI h o 5 8) fun v25 =>
        some v25
      else
        some (-3)
    ) FU 0 0 0
  ) FU 0 0
noncomputable def L_L_law_18 (ln : Nat) (xs : Nat → Int32) (o1 : Nat) (o2 : Nat) (k : AH → Int32 → Option (Int32 × AH)) : Nat → AH → Int32 → Option (Int32 × AH)
  | 0, _, _ => none
  | n + 1, h, x3 =>
    if ((nI ln) - 5) < x3 then
      k h x3
    else
      Option.bind (scr ln xs x3) fun v1 =>
      if (v1 &&& 31) = 0 then
        Option.bind (scr ln xs (x3 + 1)) fun v2 =>
        Option.bind (F_X4_write h o1 v2) fun q3 =>
        Option.bind (scr ln xs (x3 + 1)) fun v4 =>
        Option.bind (F_X5_write q3.2 o2 v4) fun q5 =>
        if q3.1 = q5.1 then
          L_L_law_18 ln xs o1 o2 k n q5.2 (x3 + 5)
        else
          some (0, q5.2)
      else if (v1 &&& 31) = 1 then
        Option.bind (F_X4_erase h o1) fun q6 =>
        Option.bind (F_X5_erase q6.2 o2) fun q7 =>
        if q6.1 = q7.1 then
          L_L_law_18 ln xs o1 o2 k n q7.2 (x3 + 5)
        else
          some (0, q7.2)
      else if (v1 &&& 31) = 2 then
        Option.bind (F_X4_fault h o1) fun q8 =>
        Option.bind (F_X5_fault q8.2 o2) fun q9 =>
        if q8.1 = q9.1 then
          L_L_law_18 ln xs o1 o2 k n q9.2 (x3 + 5)
        else
          some (0, q9.2)
      else if (v1 &&& 31) = 3 then
        Option.bind (F_X4_yard h o1) fun q10 =>
        Option.bind (F_X5_yard q10.2 o2) fun q11 =>
        if q10.1 = q11.1 then
          L_L_law_18 ln xs o1 o2 k n q11.2 (x3 + 5)
        else
          some (0, q11.2)
      else if (v1 &&& 31) = 4 then
        Option.bind (scr ln xs (x3 + 1)) fun v12 =>
        Option.bind (scr ln xs (x3 + 2)) fun v13 =>
        Option.bind (F_X4_place h o1 v12 v13) fun v14 =>
        Option.bind (scr ln xs (x3 + 1)) fun v15 =>
        Option.bind (scr ln xs (x3 + 2)) fun v16 =>
        Option.bind (F_X5_place h o2 v15 v16) fun v17 =>
        if v14 = v17 then
          L_L_law_18 ln xs o1 o2 k n h (x3 + 5)
        else
          some (0, h)
      else if (v1 &&& 31) = 5 then
        Option.bind (scr ln xs (x3 + 1)) fun v18 =>
        Option.bind (scr ln xs (x3 + 2)) fun v19 =>
        Option.bind (F_X4_hen h o1 v18 v19) fun v20 =>
        Option.bind (scr ln xs (x3 + 1)) fun v21 =>
        Option.bind (scr ln xs (x3 + 2)) fun v22 =>
        Option.bind (F_X5_hen h o2 v21 v22) fun v23 =>
        if v20 = v23 then
          L_L_law_18 ln xs o1 o2 k n h (x3 + 5)
        else
          some (0, h)
      else if (v1 &&& 31) = 6 then
        Option.bind (scr ln xs (x3 + 1)) fun v24 =>
        Option.bind (F_X4_news h o1 v24) fun v25 =>
        Option.bind (scr ln xs (x3 + 1)) fun v26 =>
        Option.bind (F_X5_news h o2 v26) fun v27 =>
        if v25 = v27 then
          L_L_law_18 ln xs o1 o2 k n h (x3 + 5)
        else
          some (0, h)
      else if (v1 &&& 31) = 7 then
        Option.bind (scr ln xs (x3 + 1)) fun v28 =>
        Option.bind (scr ln xs (x3 + 2)) fun v29 =>
        Option.bind (F_X4_as h o1 v28 v29) fun v30 =>
        Option.bind (scr ln xs (x3 + 1)) fun v31 =>
        Option.bind (scr ln xs (x3 + 2)) fun v32 =>
        Option.bind (F_X5_as h o2 v31 v32) fun q33 =>
        if v30 = q33.1 then
          L_L_law_18 ln xs o1 o2 k n q33.2 (x3 + 5)
        else
          some (0, q33.2)
      else if (v1 &&& 31) = 8 then
        Option.bind (F_X4_day h o1) fun q34 =>
        Option.bind (F_X5_day q34.2 o2) fun q35 =>
        if q34.1 = q35.1 then
          L_L_law_18 ln xs o1 o2 k n q35.2 (x3 + 5)
        else
          some (0, q35.2)
      else if (v1 &&& 31) = 9 then
        Option.bind (F_X4_thunder h o1) fun q36 =>
        Option.bind (F_X5_thunder q36.2 o2) fun q37 =>
        if q36.1 = q37.1 then
          L_L_law_18 ln xs o1 o2 k n q37.2 (x3 + 5)
        else
          some (0, q37.2)
      else if (v1 &&& 31) = 10 then
        Option.bind (scr ln xs (x3 + 1)) fun v38 =>
        Option.bind (scr ln xs (x3 + 2)) fun v39 =>
        Option.bind (F_X4_straw h o1 v38 v39) fun q40 =>
        Option.bind (scr ln xs (x3 + 1)) fun v41 =>
        Option.bind (scr ln xs (x3 + 2)) fun v42 =>
        Option.bind (F_X5_straw q40.2 o2 v41 v42) fun q43 =>
        if q40.1 = q43.1 then
          L_L_law_18 ln xs o1 o2 k n q43.2 (x3 + 5)
        else
          some (0, q43.2)
      else if (v1 &&& 31) = 11 then
        Option.bind (scr ln xs (x3 + 1)) fun v44 =>
        Option.bind (scr ln xs (x3 + 2)) fun v45 =>
        Option.bind (F_X4_move h o1 v44 v45) fun q46 =>
        Option.bind (scr ln xs (x3 + 1)) fun v47 =>
        Option.bind (scr ln xs (x3 + 2)) fun v48 =>
        Option.bind (F_X5_move q46.2 o2 v47 v48) fun q49 =>
        if q46.1 = q49.1 then
          L_L_law_18 ln xs o1 o2 k n q49.2 (x3 + 5)
        else
          some (0, q49.2)
      else if (v1 &&& 31) = 12 then
        Option.bind (scr ln xs (x3 + 1)) fun v50 =>
        Option.bind (F_X4_eat h o1 v50) fun q51 =>
        Option.bind (scr ln xs (x3 + 1)) fun v52 =>
        Option.bind (F_X5_eat q51.2 o2 v52) fun q53 =>
        if q51.1 = q53.1 then
          L_L_law_18 ln xs o1 o2 k n q53.2 (x3 + 5)
        else
          some (0, q53.2)
      else if (v1 &&& 31) = 13 then
        Option.bind (scr ln xs (x3 + 1)) fun v54 =>
        Option.bind (F_X4_heed h o1 v54) fun q55 =>
        Option.bind (scr ln xs (x3 + 1)) fun v56 =>
        Option.bind (F_X5_heed q55.2 o2 v56) fun q57 =>
        if q55.1 = q57.1 then
          L_L_law_18 ln xs o1 o2 k n q57.2 (x3 + 5)
        else
          some (0, q57.2)
      else if (v1 &&& 31) = 14 then
        Option.bind (F_X4_undo h o1) fun q58 =>
        Option.bind (F_X5_undo q58.2 o2) fun q59 =>
        if q58.1 = q59.1 then
          L_L_law_18 ln xs o1 o2 k n q59.2 (x3 + 5)
        else
          some (0, q59.2)
      else if (v1 &&& 31) = 15 then
        Option.bind (scr ln xs (x3 + 1)) fun v60 =>
        Option.bind (F_X4_keep h o1 v60) fun q61 =>
        Option.bind (scr ln xs (x3 + 1)) fun v62 =>
        Option.bind (F_X5_keep q61.2 o2 v62) fun q63 =>
        if q61.1 = q63.1 then
          L_L_law_18 ln xs o1 o2 k n q63.2 (x3 + 5)
        else
          some (0, q63.2)
      else if (v1 &&& 31) = 16 then
        Option.bind (scr ln xs (x3 + 1)) fun v64 =>
        Option.bind (F_X4_back h o1 v64) fun q65 =>
        Option.bind (scr ln xs (x3 + 1)) fun v66 =>
        Option.bind (F_X5_back q65.2 o2 v66) fun q67 =>
        if q65.1 = q67.1 then
          L_L_law_18 ln xs o1 o2 k n q67.2 (x3 + 5)
        else
          some (0, q67.2)
      else if (v1 &&& 31) = 17 then
        Option.bind (scr ln xs (x3 + 1)) fun v68 =>
        Option.bind (scr ln xs (x3 + 2)) fun v69 =>
        Option.bind (F_X4_lays h o1 v68 v69) fun q70 =>
        Option.bind (scr ln xs (x3 + 1)) fun v71 =>
        Option.bind (scr ln xs (x3 + 2)) fun v72 =>
        Option.bind (F_X5_lays q70.2 o2 v71 v72) fun q73 =>
        if q70.1 = q73.1 then
          L_L_law_18 ln xs o1 o2 k n q73.2 (x3 + 5)
        else
          some (0, q73.2)
      else if (v1 &&& 31) = 18 then
        Option.bind (scr ln xs (x3 + 1)) fun v74 =>
        Option.bind (scr ln xs (x3 + 2)) fun v75 =>
        Option.bind (F_X4_rights h o1 v74 v75) fun q76 =>
        Option.bind (scr ln xs (x3 + 1)) fun v77 =>
        Option.bind (scr ln xs (x3 + 2)) fun v78 =>
        Option.bind (F_X5_rights q76.2 o2 v77 v78) fun q79 =>
        if q76.1 = q79.1 then
          L_L_law_18 ln xs o1 o2 k n q79.2 (x3 + 5)
        else
          some (0, q79.2)
      else if (v1 &&& 31) = 19 then
        Option.bind (scr ln xs (x3 + 1)) fun v80 =>
        Option.bind (scr ln xs (x3 + 2)) fun v81 =>
        Option.bind (F_X4_ask h o1 v80 v81) fun q82 =>
        Option.bind (scr ln xs (x3 + 1)) fun v83 =>
        Option.bind (scr ln xs (x3 + 2)) fun v84 =>
        Option.bind (F_X5_ask q82.2 o2 v83 v84) fun q85 =>
        if q82.1 = q85.1 then
          L_L_law_18 ln xs o1 o2 k n q85.2 (x3 + 5)
        else
          some (0, q85.2)
      else if (v1 &&& 31) = 20 then
        Option.bind (scr ln xs (x3 + 1)) fun v86 =>
        Option.bind (F_X4_trough h o1 v86) fun q87 =>
        Option.bind (scr ln xs (x3 + 1)) fun v88 =>
        Option.bind (F_X5_trough q87.2 o2 v88) fun q89 =>
        if q87.1 = q89.1 then
          L_L_law_18 ln xs o1 o2 k n q89.2 (x3 + 5)
        else
          some (0, q89.2)
      else if (v1 &&& 31) = 21 then
        Option.bind (scr ln xs (x3 + 1)) fun v90 =>
        Option.bind (scr ln xs (x3 + 2)) fun v91 =>
        Option.bind (F_X4_warmth h o1 v90 v91) fun q92 =>
        Option.bind (scr ln xs (x3 + 1)) fun v93 =>
        Option.bind (scr ln xs (x3 + 2)) fun v94 =>
        Option.bind (F_X5_warmth q92.2 o2 v93 v94) fun q95 =>
        if q92.1 = q95.1 then
          L_L_law_18 ln xs o1 o2 k n q95.2 (x3 + 5)
        else
          some (0, q95.2)
      else if (v1 &&& 31) = 22 then
        Option.bind (scr ln xs (x3 + 1)) fun v96 =>
        Option.bind (scr ln xs (x3 + 2)) fun v97 =>
        Option.bind (scr ln xs (x3 + 3)) fun v98 =>
        Option.bind (F_X4_seen h o1 v96 v97 v98) fun q99 =>
        Option.bind (scr ln xs (x3 + 1)) fun v100 =>
        Option.bind (scr ln xs (x3 + 2)) fun v101 =>
        Option.bind (scr ln xs (x3 + 3)) fun v102 =>
        Option.bind (F_X5_seen q99.2 o2 v100 v101 v102) fun q103 =>
        if q99.1 = q103.1 then
          L_L_law_18 ln xs o1 o2 k n q103.2 (x3 + 5)
        else
          some (0, q103.2)
      else if (v1 &&& 31) = 23 then
        Option.bind (F_X4_forget h o1) fun q104 =>
        Option.bind (F_X5_forget q104.2 o2) fun q105 =>
        if q104.1 = q105.1 then
          L_L_law_18 ln xs o1 o2 k n q105.2 (x3 + 5)
        else
          some (0, q105.2)
      else if (v1 &&& 31) = 24 then
        Option.bind (scr ln xs (x3 + 1)) fun v106 =>
        Option.bind (F_X4_kinds h o1 v106) fun q107 =>
        Option.bind (scr ln xs (x3 + 1)) fun v108 =>
        Option.bind (F_X5_kinds q107.2 o2 v108) fun q109 =>
        if q107.1 = q109.1 then
          L_L_law_18 ln xs o1 o2 k n q109.2 (x3 + 5)
        else
          some (0, q109.2)
      else if (v1 &&& 31) = 25 then
        Option.bind (scr ln xs (x3 + 1)) fun v110 =>
        Option.bind (F_X4_habits h o1 v110) fun q111 =>
        Option.bind (scr ln xs (x3 + 1)) fun v112 =>
        Option.bind (F_X5_habits q111.2 o2 v112) fun q113 =>
        if q111.1 = q113.1 then
          L_L_law_18 ln xs o1 o2 k n q113.2 (x3 + 5)
        else
          some (0, q113.2)
      else if (v1 &&& 31) = 26 then
        Option.bind (scr ln xs (x3 + 1)) fun v114 =>
        Option.bind (scr ln xs (x3 + 2)) fun v115 =>
        Option.bind (scr ln xs (x3 + 3)) fun v116 =>
        Option.bind (scr ln xs (x3 + 4)) fun v117 =>
        Option.bind (F_X4_foxes h o1 v114 v115 v116 v117) fun q118 =>
        Option.bind (scr ln xs (x3 + 1)) fun v119 =>
        Option.bind (scr ln xs (x3 + 2)) fun v120 =>
        Option.bind (scr ln xs (x3 + 3)) fun v121 =>
        Option.bind (scr ln xs (x3 + 4)) fun v122 =>
        Option.bind (F_X5_foxes q118.2 o2 v119 v120 v121 v122) fun q123 =>
        if q118.1 = q123.1 then
          L_L_law_18 ln xs o1 o2 k n q123.2 (x3 + 5)
        else
          some (0, q123.2)
      else if (v1 &&& 31) = 27 then
        Option.bind (scr ln xs (x3 + 1)) fun v124 =>
        Option.bind (F_X4_count h o1 v124) fun v125 =>
        Option.bind (scr ln xs (x3 + 1)) fun v126 =>
        Option.bind (F_X5_count h o2 v126) fun v127 =>
        if v125 = v127 then
          L_L_law_18 ln xs o1 o2 k n h (x3 + 5)
        else
          some (0, h)
      else
        L_L_law_18 ln xs o1 o2 k n h (x3 + 5)
noncomputable def F_L_law (ln : Nat) (xs : Nat → Int32) (h : AH) : Option (Int32 × AH) :=
  Option.bind (some (sN h 4 11)) fun h1 =>
  Option.bind (F_X4_init h1 (hN h)) fun h2 =>
  Option.bind (some (sN h2 5 21)) fun h3 =>
  Option.bind (F_X5_init h3 (hN h2)) fun h4 =>
  L_L_law_18 ln xs (hN h) (hN h2) (fun h128 y129 =>
    some (1, h128)
  ) FU h4 0
end
section
/-! the objects of both sides by number, and what the operations answer there -/
def lsL : List (Nat × Nat) := [(4, 11), (1, 5), (11, 160), (2, 8), (10, 8), (10, 8), (10, 8), (10, 5), (10, 5), (10, 14), (2, 8), (10, 8), (10, 8), (10, 8), (10, 5), (10, 5), (10, 14), (3, 14), (10, 8), (10, 8), (10, 8), (10, 8), (10, 5), (10, 5), (10, 5), (10, 5), (10, 5), (3, 14), (10, 8), (10, 8), (10, 8), (10, 8), (10, 5), (10, 5), (10, 5), (10, 5), (10, 5), (13, 8), (13, 2), (12, 2), (0, 4), (10, 6), (10, 6), (10, 6), (10, 64), (3, 14), (10, 8), (10, 8), (10, 8), (10, 8), (10, 5), (10, 5), (10, 5), (10, 5), (10, 5), (3, 14), (10, 8), (10, 8), (10, 8), (10, 8), (10, 5), (10, 5), (10, 5), (10, 5), (10, 5), (3, 14), (10, 8), (10, 8), (10, 8), (10, 8), (10, 5), (10, 5), (10, 5), (10, 5), (10, 5), (3, 14), (10, 8), (10, 8), (10, 8), (10, 8), (10, 5), (10, 5), (10, 5), (10, 5), (10, 5), (3, 14), (10, 8), (10, 8), (10, 8), (10, 8), (10, 5), (10, 5), (10, 5), (10, 5), (10, 5), (3, 14), (10, 8), (10, 8), (10, 8), (10, 8), (10, 5), (10, 5), (10, 5), (10, 5), (10, 5), (3, 14), (10, 8), (10, 8), (10, 8), (10, 8), (10, 5), (10, 5), (10, 5), (10, 5), (10, 5), (3, 14), (10, 8), (10, 8), (10, 8), (10, 8), (10, 5), (10, 5), (10, 5), (10, 5), (10, 5), (3, 14), (10, 8), (10, 8), (10, 8), (10, 8), (10, 5), (10, 5), (10, 5), (10, 5), (10, 5), (3, 14), (10, 8), (10, 8), (10, 8), (10, 8), (10, 5), (10, 5), (10, 5), (10, 5), (10, 5), (5, 21), (10, 50), (10, 50), (10, 52), (10, 416), (10, 104), (12, 2), (10, 160), (10, 18), (10, 5), (10, 5), (10, 5), (10, 52)]
def lyS (o : Nat) : Nat × Nat := lsL.getD o (99, 0)
def lrL : List (List (Option Nat)) := [[some 1, some 3, some 10, some 17, some 27, some 37, none, some 38, some 39, some 40, some 44], [some 2], [], [none, none, some 4, some 5, some 6, some 7, some 8, some 9], [], [], [], [], [], [], [none, none, some 11, some 12, some 13, some 14, some 15, some 16], [], [], [], [], [], [], [some 18, some 19, some 20, some 21, some 22, some 23, some 24, some 25, some 26], [], [], [], [], [], [], [], [], [], [some 28, some 29, some 30, some 31, some 32, some 33, some 34, some 35, some 36], [], [], [], [], [], [], [], [], [], [], [some 125, some 135], [], [some 41, some 42, some 43], [], [], [], [], [some 46, some 47, some 48, some 49, some 50, some 51, some 52, some 53, some 54], [], [], [], [], [], [], [], [], [], [some 56, some 57, some 58, some 59, some 60, some 61, some 62, some 63, some 64], [], [], [], [], [], [], [], [], [], [some 66, some 67, some 68, some 69, some 70, some 71, some 72, some 73, some 74], [], [], [], [], [], [], [], [], [], [some 76, some 77, some 78, some 79, some 80, some 81, some 82, some 83, some 84], [], [], [], [], [], [], [], [], [], [some 86, some 87, some 88, some 89, some 90, some 91, some 92, some 93, some 94], [], [], [], [], [], [], [], [], [], [some 96, some 97, some 98, some 99, some 100, some 101, some 102, some 103, some 104], [], [], [], [], [], [], [], [], [], [some 106, some 107, some 108, some 109, some 110, some 111, some 112, some 113, some 114], [], [], [], [], [], [], [], [], [], [some 116, some 117, some 118, some 119, some 120, some 121, some 122, some 123, some 124], [], [], [], [], [], [], [], [], [], [some 126, some 127, some 128, some 129, some 130, some 131, some 132, some 133, some 134], [], [], [], [], [], [], [], [], [], [some 136, some 137, some 138, some 139, some 140, some 141, some 142, some 143, some 144], [], [], [], [], [], [], [], [], [], [some 146, some 147, some 148, some 149, none, some 150, some 151, some 152, none, some 153, none, none, none, none, none, none, none, some 154, some 155, some 156, some 157], [], [], [], [], [], [], [], [], [], [], [], []]
def lyR (o k : Nat) : Option Nat := (lrL.getD o []).getD k none
abbrev YT : Type := Nat → Nat → Int32
def Lo (h : AH) : Prop := hN h = 158 ∧ (∀ q, q < 158 → hS h q = lyS q) ∧ ∀ q k, q < 158 → q ≠ 37 → hR h q k = lyR q k
def YO (o : Nat) : Prop := o ∈ [17, 27, 45, 55, 65, 75, 85, 95, 105, 115, 125, 135]
def TO (o : Nat) : Prop := o = 3 ∨ o = 10
theorem hI_sA (h : AH) (a : Nat) (g : Nat → Int32) (q : Nat) : hI (sA h a g) q = if q = a then g else hI h q := rfl
theorem hI_sL (h : AH) (a j : Nat) (v : Int64) : hI (sL h a j v) = hI h := rfl
theorem hI_sR (h : AH) (a j : Nat) (v : Option Nat) : hI (sR h a j v) = hI h := rfl
theorem hS_sA (h : AH) (a : Nat) (g : Nat → Int32) : hS (sA h a g) = hS h := rfl
theorem hR_sA (h : AH) (a : Nat) (g : Nat → Int32) : hR (sA h a g) = hR h := rfl
theorem hN_sA (h : AH) (a : Nat) (g : Nat → Int32) : hN (sA h a g) = hN h := rfl
theorem hL_sA (h : AH) (a : Nat) (g : Nat → Int32) : hL (sA h a g) = hL h := rfl
theorem Lo_sA {h : AH} {a : Nat} {g : Nat → Int32} : Lo (sA h a g) ↔ Lo h := Iff.rfl
theorem Lo_sL {h : AH} {a j : Nat} {v : Int64} : Lo (sL h a j v) ↔ Lo h := Iff.rfl
theorem Lo.sA {h : AH} (a : Nat) (g : Nat → Int32) (H : Lo h) : Lo (sA h a g) := H
/-- nothing changed but the ints of a .. b - 1 -/
def Fr (h h' : AH) (a b : Nat) : Prop := hN h' = hN h ∧ hS h' = hS h ∧ hR h' = hR h ∧ ∀ q, (q < a ∨ b ≤ q) → hI h' q = hI h q
theorem Fr.refl (h : AH) (a b : Nat) : Fr h h a b := ⟨rfl, rfl, rfl, fun _ _ => rfl⟩
theorem Fr.trans {h h1 h2 : AH} {a b : Nat} (x : Fr h h1 a b) (y : Fr h1 h2 a b) : Fr h h2 a b := ⟨y.1.trans x.1, y.2.1.trans x.2.1, y.2.2.1.trans x.2.2.1, fun q hq => (y.2.2.2 q hq).trans (x.2.2.2 q hq)⟩
theorem Fr.wide {h h1 : AH} {a b c d : Nat} (x : Fr h h1 a b) (h1' : c ≤ a) (h2' : b ≤ d) : Fr h h1 c d := ⟨x.1, x.2.1, x.2.2.1, fun q hq => x.2.2.2 q (by omega)⟩
theorem Fr.sA {h h1 : AH} {a b q : Nat} {g : Nat → Int32} (x : Fr h h1 a b) (h2 : a ≤ q) (h3 : q < b) : Fr h (sA h1 q g) a b := ⟨x.1, x.2.1, x.2.2.1, fun r hr => (if_neg (show ¬ r = q by omega)).trans (x.2.2.2 r hr)⟩
theorem Fr.sL {h h1 : AH} {a b q j : Nat} {v : Int64} (x : Fr h h1 a b) : Fr h (sL h1 q j v) a b := x
theorem Lo.fr {h h1 : AH} {a b : Nat} (H : Lo h) (x : Fr h h1 a b) : Lo h1 := ⟨x.1.trans H.1, fun q hq => by rw [x.2.1]; exact H.2.1 q hq, fun q k hq hn => by rw [x.2.2.1]; exact H.2.2 q k hq hn⟩
theorem sA_self (h : AH) (o : Nat) : sA h o (hI h o) = h := by
  obtain ⟨n, s, r, i, l⟩ := h
  show (n, s, r, va_up i o (i o), l) = (n, s, r, i, l)
  have e : va_up i o (i o) = i := by
    funext q
    unfold va_up
    split
    next e => rw [e]
    next => rfl
  rw [e]
theorem sA_sA (h : AH) (o : Nat) (f g : Nat → Int32) : sA (sA h o f) o g = sA h o g := by
  obtain ⟨n, s, r, i, l⟩ := h
  show (n, s, r, va_up (va_up i o f) o g, l) = (n, s, r, va_up i o g, l)
  have e : va_up (va_up i o f) o g = va_up i o g := by
    funext q
    unfold va_up
    split
    next => rfl
    next => rfl
  rw [e]
theorem sA_eq {h : AH} {o : Nat} {g : Nat → Int32} (e : g = hI h o) : sA h o g = h := by rw [e]; exact sA_self h o
theorem inB_nI {k n : Nat} (h : k < n) (hn : n < 2 ^ 31) : inB (nI k) n = true := by
  unfold inB
  rw [nI_clamp (by omega)]
  simp [h, nI_pos (show k < 2 ^ 31 by omega)]
section OPS
variable {h : AH}
theorem op_is {q t n : Nat} (H : Lo h) (hq : q < 158) (hs : lyS q = (t, n)) : q < hN h ∧ hS h q = (t, n) := ⟨by rw [H.1]; exact hq, by rw [H.2.1 q hq]; exact hs⟩
theorem op_ck {q ci : Nat} (H : Lo h) (hq : q < 158) (hs : lyS q = (ci, nfO ci)) : ckO h q ci = some () := if_pos (op_is H hq hs)
theorem op_gtI {q ci k : Nat} (H : Lo h) (hq : q < 158) (hs : lyS q = (ci, nfO ci)) : gtI h q ci k = some (hI h q k) := if_pos (op_is H hq hs)
theorem op_gtL {q ci k : Nat} (H : Lo h) (hq : q < 158) (hs : lyS q = (ci, nfO ci)) : gtL h q ci k = some (hL h q k) := if_pos (op_is H hq hs)
theorem op_gtR {q ci k r : Nat} (H : Lo h) (hq : q < 158) (hs : lyS q = (ci, nfO ci)) (h37 : q ≠ 37) (hr : lyR q k = some r) : gtR h q ci k = some r := (if_pos (op_is H hq hs)).trans ((H.2.2 q k hq h37).trans hr)
theorem op_ptI {q ci k : Nat} {v : Int32} (H : Lo h) (hq : q < 158) (hs : lyS q = (ci, nfO ci)) : ptI h q ci k v = some (sI h q k v) := if_pos (op_is H hq hs)
theorem op_ptL {q ci k : Nat} {v : Int64} (H : Lo h) (hq : q < 158) (hs : lyS q = (ci, nfO ci)) : ptL h q ci k v = some (sL h q k v) := if_pos (op_is H hq hs)
theorem op_ptZ {q ci k : Nat} {v : Int32} (H : Lo h) (hq : q < 158) (hs : lyS q = (ci, nfO ci)) (hv : v = 0 ∨ v = 1) : ptZ h q ci k v = some (sI h q k v) := if_pos ⟨op_is H hq hs, hv⟩
theorem op_ldA {q t n k : Nat} (H : Lo h) (hq : q < 158) (hs : lyS q = (t, n)) (hn : n < 2 ^ 31) (hk : k < n) : ldA h q t (nI k) = some (hI h q k) := by
  have z := op_is H hq hs
  unfold ldA
  rw [if_pos ⟨⟨z.1, by rw [z.2]⟩, by rw [z.2]; exact inB_nI hk hn⟩, nI_clamp (by omega)]
theorem op_stA {q t n k : Nat} {v : Int32} (H : Lo h) (hq : q < 158) (hs : lyS q = (t, n)) (hn : n < 2 ^ 31) (hk : k < n) : stA h q t (nI k) v = some (sI h q k v) := by
  have z := op_is H hq hs
  unfold stA
  rw [if_pos ⟨⟨z.1, by rw [z.2]⟩, by rw [z.2]; exact inB_nI hk hn⟩, nI_clamp (by omega)]
theorem op_lnA {q n : Nat} (H : Lo h) (hq : q < 158) (hs : lyS q = (10, n)) : lnA h q = some (nI n) := by
  have z := op_is H hq hs
  unfold lnA
  rw [if_pos ⟨z.1, by rw [z.2]⟩, z.2]
theorem op_cpA {q1 q2 n1 n2 n : Nat} (H : Lo h) (hq1 : q1 < 158) (hs1 : lyS q1 = (10, n1)) (hq2 : q2 < 158) (hs2 : lyS q2 = (10, n2)) (h1 : n ≤ n1) (h2 : n ≤ n2) (hn : n < 2 ^ 31) : cpA h q1 0 q2 0 (nI n) = some (sA h q2 (va_cpy (hI h q1) (hI h q2) 0 0 n)) := by
  have z1 := op_is H hq1 hs1
  have z2 := op_is H hq2 hs2
  unfold cpA
  have e0 : (0 : Int32).toNatClampNeg = 0 := by decide
  rw [if_pos ⟨⟨⟨z1.1, by rw [z1.2]⟩, ⟨z2.1, by rw [z2.2]⟩⟩, ⟨by decide, by decide, nI_pos hn⟩, by rw [e0, nI_clamp hn, z1.2]; show 0 + n ≤ n1; omega, by rw [e0, nI_clamp hn, z2.2]; show 0 + n ≤ n2; omega⟩, e0, nI_clamp hn]
theorem yo_lt {o : Nat} (ho : YO o) : o + 10 ≤ 158 ∧ o ≠ 37 ∧ 17 ≤ o ∧ o + 10 ≤ 145 := by
  have : ∀ o ∈ [17, 27, 45, 55, 65, 75, 85, 95, 105, 115, 125, 135], o + 10 ≤ 158 ∧ o ≠ 37 ∧ 17 ≤ o ∧ o + 10 ≤ 145 := by decide
  exact this o ho
theorem yo_all : ∀ o ∈ [17, 27, 45, 55, 65, 75, 85, 95, 105, 115, 125, 135], lyS o = (3, 14) ∧ (lyS (o + 1) = (10, 8) ∧ lyS (o + 2) = (10, 8) ∧ lyS (o + 3) = (10, 8) ∧ lyS (o + 4) = (10, 8)) ∧ (lyS (o + 5) = (10, 5) ∧ lyS (o + 6) = (10, 5) ∧ lyS (o + 7) = (10, 5) ∧ lyS (o + 8) = (10, 5) ∧ lyS (o + 9) = (10, 5)) ∧ (lyR o 0 = some (o + 1) ∧ lyR o 1 = some (o + 2) ∧ lyR o 2 = some (o + 3) ∧ lyR o 3 = some (o + 4) ∧ lyR o 4 = some (o + 5) ∧ lyR o 5 = some (o + 6) ∧ lyR o 6 = some (o + 7) ∧ lyR o 7 = some (o + 8) ∧ lyR o 8 = some (o + 9)) := by decide
theorem y_ck {o : Nat} (H : Lo h) (ho : YO o) : ckO h o 3 = some () := op_ck H (by have := yo_lt ho; omega) (yo_all o ho).1
theorem y_gI {o k : Nat} (H : Lo h) (ho : YO o) : gtI h o 3 k = some (hI h o k) := op_gtI H (by have := yo_lt ho; omega) (yo_all o ho).1
theorem y_pI {o k : Nat} {v : Int32} (H : Lo h) (ho : YO o) : ptI h o 3 k v = some (sI h o k v) := op_ptI H (by have := yo_lt ho; omega) (yo_all o ho).1
theorem y_pZ {o k : Nat} {v : Int32} (H : Lo h) (ho : YO o) (hv : v = 0 ∨ v = 1) : ptZ h o 3 k v = some (sI h o k v) := op_ptZ H (by have := yo_lt ho; omega) (yo_all o ho).1 hv
theorem y_R0 {o : Nat} (H : Lo h) (ho : YO o) : gtR h o 3 0 = some (o + 1) := op_gtR H (by have := yo_lt ho; omega) (yo_all o ho).1 (yo_lt ho).2.1 (yo_all o ho).2.2.2.1
theorem y_ld1 {o k : Nat} (H : Lo h) (ho : YO o) (hk : k < 8) : ldA h (o + 1) 10 (nI k) = some (hI h (o + 1) k) := op_ldA H (by have := yo_lt ho; omega) (yo_all o ho).2.1.1 (by decide) hk
theorem y_st1 {o k : Nat} {v : Int32} (H : Lo h) (ho : YO o) (hk : k < 8) : stA h (o + 1) 10 (nI k) v = some (sI h (o + 1) k v) := op_stA H (by have := yo_lt ho; omega) (yo_all o ho).2.1.1 (by decide) hk
theorem y_ls1 {o : Nat} (ho : YO o) : o + 1 < 158 ∧ lyS (o + 1) = (10, 8) := ⟨by have := yo_lt ho; omega, (yo_all o ho).2.1.1⟩
theorem y_R1 {o : Nat} (H : Lo h) (ho : YO o) : gtR h o 3 1 = some (o + 2) := op_gtR H (by have := yo_lt ho; omega) (yo_all o ho).1 (yo_lt ho).2.1 (yo_all o ho).2.2.2.2.1
theorem y_ld2 {o k : Nat} (H : Lo h) (ho : YO o) (hk : k < 8) : ldA h (o + 2) 10 (nI k) = some (hI h (o + 2) k) := op_ldA H (by have := yo_lt ho; omega) (yo_all o ho).2.1.2.1 (by decide) hk
theorem y_st2 {o k : Nat} {v : Int32} (H : Lo h) (ho : YO o) (hk : k < 8) : stA h (o + 2) 10 (nI k) v = some (sI h (o + 2) k v) := op_stA H (by have := yo_lt ho; omega) (yo_all o ho).2.1.2.1 (by decide) hk
theorem y_ls2 {o : Nat} (ho : YO o) : o + 2 < 158 ∧ lyS (o + 2) = (10, 8) := ⟨by have := yo_lt ho; omega, (yo_all o ho).2.1.2.1⟩
theorem y_R2 {o : Nat} (H : Lo h) (ho : YO o) : gtR h o 3 2 = some (o + 3) := op_gtR H (by have := yo_lt ho; omega) (yo_all o ho).1 (yo_lt ho).2.1 (yo_all o ho).2.2.2.2.2.1
theorem y_ld3 {o k : Nat} (H : Lo h) (ho : YO o) (hk : k < 8) : ldA h (o + 3) 10 (nI k) = some (hI h (o + 3) k) := op_ldA H (by have := yo_lt ho; omega) (yo_all o ho).2.1.2.2.1 (by decide) hk
theorem y_st3 {o k : Nat} {v : Int32} (H : Lo h) (ho : YO o) (hk : k < 8) : stA h (o + 3) 10 (nI k) v = some (sI h (o + 3) k v) := op_stA H (by have := yo_lt ho; omega) (yo_all o ho).2.1.2.2.1 (by decide) hk
theorem y_ls3 {o : Nat} (ho : YO o) : o + 3 < 158 ∧ lyS (o + 3) = (10, 8) := ⟨by have := yo_lt ho; omega, (yo_all o ho).2.1.2.2.1⟩
theorem y_R3 {o : Nat} (H : Lo h) (ho : YO o) : gtR h o 3 3 = some (o + 4) := op_gtR H (by have := yo_lt ho; omega) (yo_all o ho).1 (yo_lt ho).2.1 (yo_all o ho).2.2.2.2.2.2.1
theorem y_ld4 {o k : Nat} (H : Lo h) (ho : YO o) (hk : k < 8) : ldA h (o + 4) 10 (nI k) = some (hI h (o + 4) k) := op_ldA H (by have := yo_lt ho; omega) (yo_all o ho).2.1.2.2.2 (by decide) hk
theorem y_st4 {o k : Nat} {v : Int32} (H : Lo h) (ho : YO o) (hk : k < 8) : stA h (o + 4) 10 (nI k) v = some (sI h (o + 4) k v) := op_stA H (by have := yo_lt ho; omega) (yo_all o ho).2.1.2.2.2 (by decide) hk
theorem y_ls4 {o : Nat} (ho : YO o) : o + 4 < 158 ∧ lyS (o + 4) = (10, 8) := ⟨by have := yo_lt ho; omega, (yo_all o ho).2.1.2.2.2⟩
theorem y_R4 {o : Nat} (H : Lo h) (ho : YO o) : gtR h o 3 4 = some (o + 5) := op_gtR H (by have := yo_lt ho; omega) (yo_all o ho).1 (yo_lt ho).2.1 (yo_all o ho).2.2.2.2.2.2.2.1
theorem y_ld5 {o k : Nat} (H : Lo h) (ho : YO o) (hk : k < 5) : ldA h (o + 5) 10 (nI k) = some (hI h (o + 5) k) := op_ldA H (by have := yo_lt ho; omega) (yo_all o ho).2.2.1.1 (by decide) hk
theorem y_st5 {o k : Nat} {v : Int32} (H : Lo h) (ho : YO o) (hk : k < 5) : stA h (o + 5) 10 (nI k) v = some (sI h (o + 5) k v) := op_stA H (by have := yo_lt ho; omega) (yo_all o ho).2.2.1.1 (by decide) hk
theorem y_ls5 {o : Nat} (ho : YO o) : o + 5 < 158 ∧ lyS (o + 5) = (10, 5) := ⟨by have := yo_lt ho; omega, (yo_all o ho).2.2.1.1⟩
theorem y_R5 {o : Nat} (H : Lo h) (ho : YO o) : gtR h o 3 5 = some (o + 6) := op_gtR H (by have := yo_lt ho; omega) (yo_all o ho).1 (yo_lt ho).2.1 (yo_all o ho).2.2.2.2.2.2.2.2.1
theorem y_ld6 {o k : Nat} (H : Lo h) (ho : YO o) (hk : k < 5) : ldA h (o + 6) 10 (nI k) = some (hI h (o + 6) k) := op_ldA H (by have := yo_lt ho; omega) (yo_all o ho).2.2.1.2.1 (by decide) hk
theorem y_st6 {o k : Nat} {v : Int32} (H : Lo h) (ho : YO o) (hk : k < 5) : stA h (o + 6) 10 (nI k) v = some (sI h (o + 6) k v) := op_stA H (by have := yo_lt ho; omega) (yo_all o ho).2.2.1.2.1 (by decide) hk
theorem y_ls6 {o : Nat} (ho : YO o) : o + 6 < 158 ∧ lyS (o + 6) = (10, 5) := ⟨by have := yo_lt ho; omega, (yo_all o ho).2.2.1.2.1⟩
theorem y_R6 {o : Nat} (H : Lo h) (ho : YO o) : gtR h o 3 6 = some (o + 7) := op_gtR H (by have := yo_lt ho; omega) (yo_all o ho).1 (yo_lt ho).2.1 (yo_all o ho).2.2.2.2.2.2.2.2.2.1
theorem y_ld7 {o k : Nat} (H : Lo h) (ho : YO o) (hk : k < 5) : ldA h (o + 7) 10 (nI k) = some (hI h (o + 7) k) := op_ldA H (by have := yo_lt ho; omega) (yo_all o ho).2.2.1.2.2.1 (by decide) hk
theorem y_st7 {o k : Nat} {v : Int32} (H : Lo h) (ho : YO o) (hk : k < 5) : stA h (o + 7) 10 (nI k) v = some (sI h (o + 7) k v) := op_stA H (by have := yo_lt ho; omega) (yo_all o ho).2.2.1.2.2.1 (by decide) hk
theorem y_ls7 {o : Nat} (ho : YO o) : o + 7 < 158 ∧ lyS (o + 7) = (10, 5) := ⟨by have := yo_lt ho; omega, (yo_all o ho).2.2.1.2.2.1⟩
theorem y_R7 {o : Nat} (H : Lo h) (ho : YO o) : gtR h o 3 7 = some (o + 8) := op_gtR H (by have := yo_lt ho; omega) (yo_all o ho).1 (yo_lt ho).2.1 (yo_all o ho).2.2.2.2.2.2.2.2.2.2.1
theorem y_ld8 {o k : Nat} (H : Lo h) (ho : YO o) (hk : k < 5) : ldA h (o + 8) 10 (nI k) = some (hI h (o + 8) k) := op_ldA H (by have := yo_lt ho; omega) (yo_all o ho).2.2.1.2.2.2.1 (by decide) hk
theorem y_st8 {o k : Nat} {v : Int32} (H : Lo h) (ho : YO o) (hk : k < 5) : stA h (o + 8) 10 (nI k) v = some (sI h (o + 8) k v) := op_stA H (by have := yo_lt ho; omega) (yo_all o ho).2.2.1.2.2.2.1 (by decide) hk
theorem y_ls8 {o : Nat} (ho : YO o) : o + 8 < 158 ∧ lyS (o + 8) = (10, 5) := ⟨by have := yo_lt ho; omega, (yo_all o ho).2.2.1.2.2.2.1⟩
theorem y_R8 {o : Nat} (H : Lo h) (ho : YO o) : gtR h o 3 8 = some (o + 9) := op_gtR H (by have := yo_lt ho; omega) (yo_all o ho).1 (yo_lt ho).2.1 (yo_all o ho).2.2.2.2.2.2.2.2.2.2.2
theorem y_ld9 {o k : Nat} (H : Lo h) (ho : YO o) (hk : k < 5) : ldA h (o + 9) 10 (nI k) = some (hI h (o + 9) k) := op_ldA H (by have := yo_lt ho; omega) (yo_all o ho).2.2.1.2.2.2.2 (by decide) hk
theorem y_st9 {o k : Nat} {v : Int32} (H : Lo h) (ho : YO o) (hk : k < 5) : stA h (o + 9) 10 (nI k) v = some (sI h (o + 9) k v) := op_stA H (by have := yo_lt ho; omega) (yo_all o ho).2.2.1.2.2.2.2 (by decide) hk
theorem y_ls9 {o : Nat} (ho : YO o) : o + 9 < 158 ∧ lyS (o + 9) = (10, 5) := ⟨by have := yo_lt ho; omega, (yo_all o ho).2.2.1.2.2.2.2⟩
theorem to_lt {o : Nat} (ho : TO o) : o + 7 ≤ 17 ∧ 3 ≤ o := by unfold TO at ho; omega
theorem to_all : ∀ o ∈ [3, 10], lyS o = (2, 8) ∧ (lyS (o + 1) = (10, 8) ∧ lyR o 2 = some (o + 1)) ∧ (lyS (o + 2) = (10, 8) ∧ lyR o 3 = some (o + 2)) ∧ (lyS (o + 3) = (10, 8) ∧ lyR o 4 = some (o + 3)) ∧ (lyS (o + 4) = (10, 5) ∧ lyR o 5 = some (o + 4)) ∧ (lyS (o + 5) = (10, 5) ∧ lyR o 6 = some (o + 5)) ∧ (lyS (o + 6) = (10, 14) ∧ lyR o 7 = some (o + 6)) := by decide
theorem TO.mem {o : Nat} (ho : TO o) : o ∈ [3, 10] := by unfold TO at ho; simpa using ho
theorem t_ck {o : Nat} (H : Lo h) (ho : TO o) : ckO h o 2 = some () := op_ck H (by have := to_lt ho; omega) (to_all o ho.mem).1
theorem t_gI {o k : Nat} (H : Lo h) (ho : TO o) : gtI h o 2 k = some (hI h o k) := op_gtI H (by have := to_lt ho; omega) (to_all o ho.mem).1
theorem t_pI {o k : Nat} {v : Int32} (H : Lo h) (ho : TO o) : ptI h o 2 k v = some (sI h o k v) := op_ptI H (by have := to_lt ho; omega) (to_all o ho.mem).1
theorem t_R2 {o : Nat} (H : Lo h) (ho : TO o) : gtR h o 2 2 = some (o + 1) := op_gtR H (by have := to_lt ho; omega) (to_all o ho.mem).1 (by have := to_lt ho; omega) (to_all o ho.mem).2.1.2
theorem t_ld1 {o k : Nat} (H : Lo h) (ho : TO o) (hk : k < 8) : ldA h (o + 1) 10 (nI k) = some (hI h (o + 1) k) := op_ldA H (by have := to_lt ho; omega) (to_all o ho.mem).2.1.1 (by decide) hk
theorem t_st1 {o k : Nat} {v : Int32} (H : Lo h) (ho : TO o) (hk : k < 8) : stA h (o + 1) 10 (nI k) v = some (sI h (o + 1) k v) := op_stA H (by have := to_lt ho; omega) (to_all o ho.mem).2.1.1 (by decide) hk
theorem t_ls1 {o : Nat} (ho : TO o) : o + 1 < 158 ∧ lyS (o + 1) = (10, 8) := ⟨by have := to_lt ho; omega, (to_all o ho.mem).2.1.1⟩
theorem t_R3 {o : Nat} (H : Lo h) (ho : TO o) : gtR h o 2 3 = some (o + 2) := op_gtR H (by have := to_lt ho; omega) (to_all o ho.mem).1 (by have := to_lt ho; omega) (to_all o ho.mem).2.2.1.2
theorem t_ld2 {o k : Nat} (H : Lo h) (ho : TO o) (hk : k < 8) : ldA h (o + 2) 10 (nI k) = some (hI h (o + 2) k) := op_ldA H (by have := to_lt ho; omega) (to_all o ho.mem).2.2.1.1 (by decide) hk
theorem t_st2 {o k : Nat} {v : Int32} (H : Lo h) (ho : TO o) (hk : k < 8) : stA h (o + 2) 10 (nI k) v = some (sI h (o + 2) k v) := op_stA H (by have := to_lt ho; omega) (to_all o ho.mem).2.2.1.1 (by decide) hk
theorem t_ls2 {o : Nat} (ho : TO o) : o + 2 < 158 ∧ lyS (o + 2) = (10, 8) := ⟨by have := to_lt ho; omega, (to_all o ho.mem).2.2.1.1⟩
theorem t_R4 {o : Nat} (H : Lo h) (ho : TO o) : gtR h o 2 4 = some (o + 3) := op_gtR H (by have := to_lt ho; omega) (to_all o ho.mem).1 (by have := to_lt ho; omega) (to_all o ho.mem).2.2.2.1.2
theorem t_ld3 {o k : Nat} (H : Lo h) (ho : TO o) (hk : k < 8) : ldA h (o + 3) 10 (nI k) = some (hI h (o + 3) k) := op_ldA H (by have := to_lt ho; omega) (to_all o ho.mem).2.2.2.1.1 (by decide) hk
theorem t_st3 {o k : Nat} {v : Int32} (H : Lo h) (ho : TO o) (hk : k < 8) : stA h (o + 3) 10 (nI k) v = some (sI h (o + 3) k v) := op_stA H (by have := to_lt ho; omega) (to_all o ho.mem).2.2.2.1.1 (by decide) hk
theorem t_ls3 {o : Nat} (ho : TO o) : o + 3 < 158 ∧ lyS (o + 3) = (10, 8) := ⟨by have := to_lt ho; omega, (to_all o ho.mem).2.2.2.1.1⟩
theorem t_R5 {o : Nat} (H : Lo h) (ho : TO o) : gtR h o 2 5 = some (o + 4) := op_gtR H (by have := to_lt ho; omega) (to_all o ho.mem).1 (by have := to_lt ho; omega) (to_all o ho.mem).2.2.2.2.1.2
theorem t_ld4 {o k : Nat} (H : Lo h) (ho : TO o) (hk : k < 5) : ldA h (o + 4) 10 (nI k) = some (hI h (o + 4) k) := op_ldA H (by have := to_lt ho; omega) (to_all o ho.mem).2.2.2.2.1.1 (by decide) hk
theorem t_st4 {o k : Nat} {v : Int32} (H : Lo h) (ho : TO o) (hk : k < 5) : stA h (o + 4) 10 (nI k) v = some (sI h (o + 4) k v) := op_stA H (by have := to_lt ho; omega) (to_all o ho.mem).2.2.2.2.1.1 (by decide) hk
theorem t_ls4 {o : Nat} (ho : TO o) : o + 4 < 158 ∧ lyS (o + 4) = (10, 5) := ⟨by have := to_lt ho; omega, (to_all o ho.mem).2.2.2.2.1.1⟩
theorem t_R6 {o : Nat} (H : Lo h) (ho : TO o) : gtR h o 2 6 = some (o + 5) := op_gtR H (by have := to_lt ho; omega) (to_all o ho.mem).1 (by have := to_lt ho; omega) (to_all o ho.mem).2.2.2.2.2.1.2
theorem t_ld5 {o k : Nat} (H : Lo h) (ho : TO o) (hk : k < 5) : ldA h (o + 5) 10 (nI k) = some (hI h (o + 5) k) := op_ldA H (by have := to_lt ho; omega) (to_all o ho.mem).2.2.2.2.2.1.1 (by decide) hk
theorem t_st5 {o k : Nat} {v : Int32} (H : Lo h) (ho : TO o) (hk : k < 5) : stA h (o + 5) 10 (nI k) v = some (sI h (o + 5) k v) := op_stA H (by have := to_lt ho; omega) (to_all o ho.mem).2.2.2.2.2.1.1 (by decide) hk
theorem t_ls5 {o : Nat} (ho : TO o) : o + 5 < 158 ∧ lyS (o + 5) = (10, 5) := ⟨by have := to_lt ho; omega, (to_all o ho.mem).2.2.2.2.2.1.1⟩
theorem t_R7 {o : Nat} (H : Lo h) (ho : TO o) : gtR h o 2 7 = some (o + 6) := op_gtR H (by have := to_lt ho; omega) (to_all o ho.mem).1 (by have := to_lt ho; omega) (to_all o ho.mem).2.2.2.2.2.2.2
theorem t_ld6 {o k : Nat} (H : Lo h) (ho : TO o) (hk : k < 14) : ldA h (o + 6) 10 (nI k) = some (hI h (o + 6) k) := op_ldA H (by have := to_lt ho; omega) (to_all o ho.mem).2.2.2.2.2.2.1 (by decide) hk
theorem t_st6 {o k : Nat} {v : Int32} (H : Lo h) (ho : TO o) (hk : k < 14) : stA h (o + 6) 10 (nI k) v = some (sI h (o + 6) k v) := op_stA H (by have := to_lt ho; omega) (to_all o ho.mem).2.2.2.2.2.2.1 (by decide) hk
theorem t_ls6 {o : Nat} (ho : TO o) : o + 6 < 158 ∧ lyS (o + 6) = (10, 14) := ⟨by have := to_lt ho; omega, (to_all o ho.mem).2.2.2.2.2.2.1⟩
theorem o0_ck (H : Lo h) : ckO h 0 4 = some () := op_ck H (by decide) (by decide)
theorem o0_gI {k : Nat} (H : Lo h) : gtI h 0 4 k = some (hI h 0 k) := op_gtI H (by decide) (by decide)
theorem o0_pI {k : Nat} {v : Int32} (H : Lo h) : ptI h 0 4 k v = some (sI h 0 k v) := op_ptI H (by decide) (by decide)
theorem o0_R0 (H : Lo h) : gtR h 0 4 0 = some 1 := op_gtR H (by decide) (by decide) (by decide) (by decide)
theorem o0_R1 (H : Lo h) : gtR h 0 4 1 = some 3 := op_gtR H (by decide) (by decide) (by decide) (by decide)
theorem o0_R2 (H : Lo h) : gtR h 0 4 2 = some 10 := op_gtR H (by decide) (by decide) (by decide) (by decide)
theorem o0_R3 (H : Lo h) : gtR h 0 4 3 = some 17 := op_gtR H (by decide) (by decide) (by decide) (by decide)
theorem o0_R4 (H : Lo h) : gtR h 0 4 4 = some 27 := op_gtR H (by decide) (by decide) (by decide) (by decide)
theorem o0_R5 (H : Lo h) : gtR h 0 4 5 = some 37 := op_gtR H (by decide) (by decide) (by decide) (by decide)
theorem o0_R7 (H : Lo h) : gtR h 0 4 7 = some 38 := op_gtR H (by decide) (by decide) (by decide) (by decide)
theorem o0_R8 (H : Lo h) : gtR h 0 4 8 = some 39 := op_gtR H (by decide) (by decide) (by decide) (by decide)
theorem o0_R9 (H : Lo h) : gtR h 0 4 9 = some 40 := op_gtR H (by decide) (by decide) (by decide) (by decide)
theorem o0_R10 (H : Lo h) : gtR h 0 4 10 = some 44 := op_gtR H (by decide) (by decide) (by decide) (by decide)
theorem o1_ck (H : Lo h) : ckO h 1 1 = some () := op_ck H (by decide) (by decide)
theorem o1_gI {k : Nat} (H : Lo h) : gtI h 1 1 k = some (hI h 1 k) := op_gtI H (by decide) (by decide)
theorem o1_pI {k : Nat} {v : Int32} (H : Lo h) : ptI h 1 1 k v = some (sI h 1 k v) := op_ptI H (by decide) (by decide)
theorem o1_R0 (H : Lo h) : gtR h 1 1 0 = some 2 := op_gtR H (by decide) (by decide) (by decide) (by decide)
theorem o40_ck (H : Lo h) : ckO h 40 0 = some () := op_ck H (by decide) (by decide)
theorem o40_gI {k : Nat} (H : Lo h) : gtI h 40 0 k = some (hI h 40 k) := op_gtI H (by decide) (by decide)
theorem o40_pI {k : Nat} {v : Int32} (H : Lo h) : ptI h 40 0 k v = some (sI h 40 k v) := op_ptI H (by decide) (by decide)
theorem o40_R0 (H : Lo h) : gtR h 40 0 0 = some 41 := op_gtR H (by decide) (by decide) (by decide) (by decide)
theorem o40_R1 (H : Lo h) : gtR h 40 0 1 = some 42 := op_gtR H (by decide) (by decide) (by decide) (by decide)
theorem o40_R2 (H : Lo h) : gtR h 40 0 2 = some 43 := op_gtR H (by decide) (by decide) (by decide) (by decide)
theorem o145_ck (H : Lo h) : ckO h 145 5 = some () := op_ck H (by decide) (by decide)
theorem o145_gI {k : Nat} (H : Lo h) : gtI h 145 5 k = some (hI h 145 k) := op_gtI H (by decide) (by decide)
theorem o145_pI {k : Nat} {v : Int32} (H : Lo h) : ptI h 145 5 k v = some (sI h 145 k v) := op_ptI H (by decide) (by decide)
theorem o145_R0 (H : Lo h) : gtR h 145 5 0 = some 146 := op_gtR H (by decide) (by decide) (by decide) (by decide)
theorem o145_R1 (H : Lo h) : gtR h 145 5 1 = some 147 := op_gtR H (by decide) (by decide) (by decide) (by decide)
theorem o145_R2 (H : Lo h) : gtR h 145 5 2 = some 148 := op_gtR H (by decide) (by decide) (by decide) (by decide)
theorem o145_R3 (H : Lo h) : gtR h 145 5 3 = some 149 := op_gtR H (by decide) (by decide) (by decide) (by decide)
theorem o145_R5 (H : Lo h) : gtR h 145 5 5 = some 150 := op_gtR H (by decide) (by decide) (by decide) (by decide)
theorem o145_R6 (H : Lo h) : gtR h 145 5 6 = some 151 := op_gtR H (by decide) (by decide) (by decide) (by decide)
theorem o145_R7 (H : Lo h) : gtR h 145 5 7 = some 152 := op_gtR H (by decide) (by decide) (by decide) (by decide)
theorem o145_R9 (H : Lo h) : gtR h 145 5 9 = some 153 := op_gtR H (by decide) (by decide) (by decide) (by decide)
theorem o145_R17 (H : Lo h) : gtR h 145 5 17 = some 154 := op_gtR H (by decide) (by decide) (by decide) (by decide)
theorem o145_R18 (H : Lo h) : gtR h 145 5 18 = some 155 := op_gtR H (by decide) (by decide) (by decide) (by decide)
theorem o145_R19 (H : Lo h) : gtR h 145 5 19 = some 156 := op_gtR H (by decide) (by decide) (by decide) (by decide)
theorem o145_R20 (H : Lo h) : gtR h 145 5 20 = some 157 := op_gtR H (by decide) (by decide) (by decide) (by decide)
theorem o145_gL {k : Nat} (H : Lo h) : gtL h 145 5 k = some (hL h 145 k) := op_gtL H (by decide) (by decide)
theorem o145_pL {k : Nat} {v : Int64} (H : Lo h) : ptL h 145 5 k v = some (sL h 145 k v) := op_ptL H (by decide) (by decide)
theorem o2_ld {k : Nat} (H : Lo h) (hk : k < 160) : ldA h 2 11 (nI k) = some (hI h 2 k) := op_ldA H (by decide) (by decide) (by decide) hk
theorem o2_st {k : Nat} {v : Int32} (H : Lo h) (hk : k < 160) : stA h 2 11 (nI k) v = some (sI h 2 k v) := op_stA H (by decide) (by decide) (by decide) hk
theorem o39_ld {k : Nat} (H : Lo h) (hk : k < 2) : ldA h 39 12 (nI k) = some (hI h 39 k) := op_ldA H (by decide) (by decide) (by decide) hk
theorem o39_st {k : Nat} {v : Int32} (H : Lo h) (hk : k < 2) : stA h 39 12 (nI k) v = some (sI h 39 k v) := op_stA H (by decide) (by decide) (by decide) hk
theorem o41_ld {k : Nat} (H : Lo h) (hk : k < 6) : ldA h 41 10 (nI k) = some (hI h 41 k) := op_ldA H (by decide) (by decide) (by decide) hk
theorem o41_st {k : Nat} {v : Int32} (H : Lo h) (hk : k < 6) : stA h 41 10 (nI k) v = some (sI h 41 k v) := op_stA H (by decide) (by decide) (by decide) hk
theorem o42_ld {k : Nat} (H : Lo h) (hk : k < 6) : ldA h 42 10 (nI k) = some (hI h 42 k) := op_ldA H (by decide) (by decide) (by decide) hk
theorem o42_st {k : Nat} {v : Int32} (H : Lo h) (hk : k < 6) : stA h 42 10 (nI k) v = some (sI h 42 k v) := op_stA H (by decide) (by decide) (by decide) hk
theorem o43_ld {k : Nat} (H : Lo h) (hk : k < 6) : ldA h 43 10 (nI k) = some (hI h 43 k) := op_ldA H (by decide) (by decide) (by decide) hk
theorem o43_st {k : Nat} {v : Int32} (H : Lo h) (hk : k < 6) : stA h 43 10 (nI k) v = some (sI h 43 k v) := op_stA H (by decide) (by decide) (by decide) hk
theorem o44_ld {k : Nat} (H : Lo h) (hk : k < 64) : ldA h 44 10 (nI k) = some (hI h 44 k) := op_ldA H (by decide) (by decide) (by decide) hk
theorem o44_st {k : Nat} {v : Int32} (H : Lo h) (hk : k < 64) : stA h 44 10 (nI k) v = some (sI h 44 k v) := op_stA H (by decide) (by decide) (by decide) hk
theorem o146_ld {k : Nat} (H : Lo h) (hk : k < 50) : ldA h 146 10 (nI k) = some (hI h 146 k) := op_ldA H (by decide) (by decide) (by decide) hk
theorem o146_st {k : Nat} {v : Int32} (H : Lo h) (hk : k < 50) : stA h 146 10 (nI k) v = some (sI h 146 k v) := op_stA H (by decide) (by decide) (by decide) hk
theorem o147_ld {k : Nat} (H : Lo h) (hk : k < 50) : ldA h 147 10 (nI k) = some (hI h 147 k) := op_ldA H (by decide) (by decide) (by decide) hk
theorem o147_st {k : Nat} {v : Int32} (H : Lo h) (hk : k < 50) : stA h 147 10 (nI k) v = some (sI h 147 k v) := op_stA H (by decide) (by decide) (by decide) hk
theorem o148_ld {k : Nat} (H : Lo h) (hk : k < 52) : ldA h 148 10 (nI k) = some (hI h 148 k) := op_ldA H (by decide) (by decide) (by decide) hk
theorem o148_st {k : Nat} {v : Int32} (H : Lo h) (hk : k < 52) : stA h 148 10 (nI k) v = some (sI h 148 k v) := op_stA H (by decide) (by decide) (by decide) hk
theorem o149_ld {k : Nat} (H : Lo h) (hk : k < 416) : ldA h 149 10 (nI k) = some (hI h 149 k) := op_ldA H (by decide) (by decide) (by decide) hk
theorem o149_st {k : Nat} {v : Int32} (H : Lo h) (hk : k < 416) : stA h 149 10 (nI k) v = some (sI h 149 k v) := op_stA H (by decide) (by decide) (by decide) hk
theorem o150_ld {k : Nat} (H : Lo h) (hk : k < 104) : ldA h 150 10 (nI k) = some (hI h 150 k) := op_ldA H (by decide) (by decide) (by decide) hk
theorem o150_st {k : Nat} {v : Int32} (H : Lo h) (hk : k < 104) : stA h 150 10 (nI k) v = some (sI h 150 k v) := op_stA H (by decide) (by decide) (by decide) hk
theorem o151_ld {k : Nat} (H : Lo h) (hk : k < 2) : ldA h 151 12 (nI k) = some (hI h 151 k) := op_ldA H (by decide) (by decide) (by decide) hk
theorem o151_st {k : Nat} {v : Int32} (H : Lo h) (hk : k < 2) : stA h 151 12 (nI k) v = some (sI h 151 k v) := op_stA H (by decide) (by decide) (by decide) hk
theorem o152_ld {k : Nat} (H : Lo h) (hk : k < 160) : ldA h 152 10 (nI k) = some (hI h 152 k) := op_ldA H (by decide) (by decide) (by decide) hk
theorem o152_st {k : Nat} {v : Int32} (H : Lo h) (hk : k < 160) : stA h 152 10 (nI k) v = some (sI h 152 k v) := op_stA H (by decide) (by decide) (by decide) hk
theorem o153_ld {k : Nat} (H : Lo h) (hk : k < 18) : ldA h 153 10 (nI k) = some (hI h 153 k) := op_ldA H (by decide) (by decide) (by decide) hk
theorem o153_st {k : Nat} {v : Int32} (H : Lo h) (hk : k < 18) : stA h 153 10 (nI k) v = some (sI h 153 k v) := op_stA H (by decide) (by decide) (by decide) hk
theorem o154_ld {k : Nat} (H : Lo h) (hk : k < 5) : ldA h 154 10 (nI k) = some (hI h 154 k) := op_ldA H (by decide) (by decide) (by decide) hk
theorem o154_st {k : Nat} {v : Int32} (H : Lo h) (hk : k < 5) : stA h 154 10 (nI k) v = some (sI h 154 k v) := op_stA H (by decide) (by decide) (by decide) hk
theorem o155_ld {k : Nat} (H : Lo h) (hk : k < 5) : ldA h 155 10 (nI k) = some (hI h 155 k) := op_ldA H (by decide) (by decide) (by decide) hk
theorem o155_st {k : Nat} {v : Int32} (H : Lo h) (hk : k < 5) : stA h 155 10 (nI k) v = some (sI h 155 k v) := op_stA H (by decide) (by decide) (by decide) hk
theorem o156_ld {k : Nat} (H : Lo h) (hk : k < 5) : ldA h 156 10 (nI k) = some (hI h 156 k) := op_ldA H (by decide) (by decide) (by decide) hk
theorem o156_st {k : Nat} {v : Int32} (H : Lo h) (hk : k < 5) : stA h 156 10 (nI k) v = some (sI h 156 k v) := op_stA H (by decide) (by decide) (by decide) hk
theorem o157_ld {k : Nat} (H : Lo h) (hk : k < 52) : ldA h 157 10 (nI k) = some (hI h 157 k) := op_ldA H (by decide) (by decide) (by decide) hk
theorem o157_st {k : Nat} {v : Int32} (H : Lo h) (hk : k < 52) : stA h 157 10 (nI k) v = some (sI h 157 k v) := op_stA H (by decide) (by decide) (by decide) hk
theorem yo_17 : YO 17 := by unfold YO; decide
theorem yo_27 : YO 27 := by unfold YO; decide
theorem yo_past {i : Nat} (h : i < 8) : YO (45 + 10 * i) := by
  have : ∀ i, i < 8 → 45 + 10 * i ∈ [17, 27, 45, 55, 65, 75, 85, 95, 105, 115, 125, 135] := by decide
  exact this i h
theorem yo_kept {i : Nat} (h : i < 2) : YO (125 + 10 * i) := by
  have : ∀ i, i < 2 → 125 + 10 * i ∈ [17, 27, 45, 55, 65, 75, 85, 95, 105, 115, 125, 135] := by decide
  exact this i h
theorem to_3 : TO 3 := Or.inl rfl
theorem to_10 : TO 10 := Or.inr rfl
end OPS
end
section
/-! what a yard is, as mathematics: told τ = (places, hens, rows: 1 meaning, 2 warm, 3 light, 4 kind, 5 habit, 6 news); a yard y by rows: 0 (9 day, 10 thunder, 11 eaten, 12 heeded, 13 fortune), 1 meaning, 2 warm, 3 egg, 4 right or not, 5 kind, 6 habit, 7 last, 8 right, 9 wrong -/
def rmd (x y : Int32) : Int32 := x - x / y * y
def up2 (y : YT) (i j : Nat) (v : Int32) : YT := fun a b => if a = i ∧ b = j then v else y a b
def upR (y : YT) (i : Nat) (g : Nat → Int32) : YT := fun a => if a = i then g else y a
abbrev TT : Type := Nat × Nat × YT
def tP (τ : TT) : Nat := τ.1
def tH (τ : TT) : Nat := τ.2.1
def tY (τ : TT) : YT := τ.2.2
def lkP (τ : TT) (y : YT) (h p : Nat) : Int32 :=
  if y 5 h = 0 then (if y 7 h = nI p then 2 * y 2 p + tY τ 3 p - y 6 h else 2 * y 2 p + tY τ 3 p)
  else if y 5 h = 1 then (if y 7 h = nI p then 2 * y 2 p + tY τ 3 p - y 6 h + 9 else 2 * y 2 p + tY τ 3 p)
  else if y 5 h = 2 then rmd (tY τ 3 p + y 0 9 * y 6 h) 10
  else if nI p = rmd (y 6 h) (nI (tP τ)) then 1 else 0
/-- the place that is liked best among the first n, and how -/
def bsP (τ : TT) (y : YT) (h : Nat) : Nat → Int32 × Int32
  | 0 => (-1, 0)
  | n + 1 => if ¬ y 3 n = -1 then bsP τ y h n else if (bsP τ y h n).1 = -1 then (nI n, lkP τ y h n) else if lkP τ y h n ≤ (bsP τ y h n).2 then bsP τ y h n else (nI n, lkP τ y h n)
def plP (τ : TT) (y : YT) (h : Nat) : Int32 := if y 0 10 = 0 ∧ (¬ y 5 h = 1 ∨ rmd (y 0 9) 2 = 0) then (bsP τ y h (tP τ)).1 else -1
def rgP (τ : TT) (y : YT) (p : Nat) : Prop := tY τ 6 ((y 0 9).toNatClampNeg % 14) = y 1 p
theorem rgP_dec (τ : TT) (y : YT) (p : Nat) : (rgP τ y p) ∨ ¬ (rgP τ y p) := Classical.em _
def rgB (τ : TT) (y : YT) (p : Nat) : Bool := decide (tY τ 6 ((y 0 9).toNatClampNeg % 14) = y 1 p)
def egP (τ : TT) (y : YT) (h p : Nat) : YT :=
  up2 (up2 (up2 (up2 (up2 y 3 p (nI h)) 4 p (if rgB τ y p then 1 else 0)) 7 h (nI p)) 8 h (y 8 h + (if rgB τ y p then 1 else 0))) 9 h (y 9 h + (if rgB τ y p then 0 else 1))
def hnP (τ : TT) (y : YT) (h : Nat) : YT := if plP τ y h = -1 then y else egP τ y h (plP τ y h).toNatClampNeg
def dyP (τ : TT) (y : YT) : Nat → YT
  | 0 => upR (upR y 3 (fun _ => -1)) 4 (fun _ => 0)
  | n + 1 => hnP τ (dyP τ y n) n
def dayP (τ : TT) (y : YT) : YT := up2 (up2 (dyP τ y (tH τ)) 0 10 0) 0 9 (y 0 9 + 1)
/-- told as it must be -/
def VT (τ : TT) : Prop := tP τ ≤ 8 ∧ tH τ ≤ 5
theorem bsP_place (τ : TT) (y : YT) (h : Nat) : ∀ n, n ≤ 8 → (bsP τ y h n).1 = -1 ∨ ∃ p, p < n ∧ (bsP τ y h n).1 = nI p ∧ y 3 p = -1 := by
  intro n
  induction n with
  | zero => intro _; exact Or.inl rfl
  | succ n ih =>
    intro hn
    have ih := ih (by omega)
    have old : (bsP τ y h n).1 = -1 ∨ ∃ p, p < n + 1 ∧ (bsP τ y h n).1 = nI p ∧ y 3 p = -1 := by
      rcases ih with e | ⟨p, h1, h2, h3⟩
      · exact Or.inl e
      · exact Or.inr ⟨p, by omega, h2, h3⟩
    unfold bsP
    by_cases he : y 3 n = -1
    · rw [if_neg (not_not_intro he)]
      by_cases hb : (bsP τ y h n).1 = -1
      · rw [if_pos hb]
        exact Or.inr ⟨n, by omega, rfl, he⟩
      · rw [if_neg hb]
        by_cases hl : lkP τ y h n ≤ (bsP τ y h n).2
        · rw [if_pos hl]
          exact old
        · rw [if_neg hl]
          exact Or.inr ⟨n, by omega, rfl, he⟩
    · rw [if_pos he]
      exact old
theorem nI_m1 {p : Nat} (h : p < 2 ^ 31) : ¬ nI p = -1 := by
  intro e
  have e2 := congrArg Int32.toInt e
  rw [nI_toInt h] at e2
  have : (-1 : Int32).toInt = -1 := by decide
  omega
theorem plP_place {τ : TT} (V : VT τ) (y : YT) (h : Nat) : plP τ y h = -1 ∨ ∃ p, p < tP τ ∧ plP τ y h = nI p ∧ y 3 p = -1 := by
  unfold plP
  split
  next => exact bsP_place τ y h _ V.1
  next => exact Or.inl rfl
/-- what a day doesn't touch -/
theorem up2_ne {y : YT} {i j a b : Nat} {v : Int32} (h : ¬ (a = i ∧ b = j)) : up2 y i j v a b = y a b := if_neg h
theorem up2_eq {y : YT} {i j : Nat} {v : Int32} : up2 y i j v i j = v := if_pos ⟨rfl, rfl⟩
theorem upR_ne {y : YT} {i a : Nat} {g : Nat → Int32} (h : ¬ a = i) : upR y i g a = y a := if_neg h
theorem upR_eq {y : YT} {i : Nat} {g : Nat → Int32} : upR y i g i = g := if_pos rfl
theorem hnP_row (τ : TT) (y : YT) (h a : Nat) (ha : a = 0 ∨ a = 1 ∨ a = 2 ∨ a = 5 ∨ a = 6) : hnP τ y h a = y a := by
  unfold hnP
  split
  next => rfl
  next =>
    funext b
    unfold egP
    repeat rw [up2_ne (by omega)]
theorem dyP_row (τ : TT) (y : YT) (a : Nat) (ha : a = 0 ∨ a = 1 ∨ a = 2 ∨ a = 5 ∨ a = 6) : ∀ n, dyP τ y n a = y a := by
  intro n
  induction n with
  | zero => unfold dyP; rw [upR_ne (by omega), upR_ne (by omega)]
  | succ n ih => unfold dyP; rw [hnP_row τ _ n a ha, ih]
end
section
/-! the class's yards: Told and Yard against the mathematics -/
def Yc (h : AH) (o : Nat) : YT := fun i j => hI h (o + i) j
def CY (τ : TT) (c y : YT) : Prop :=
  (∀ j, 9 ≤ j → j ≤ 13 → c 0 j = y 0 j) ∧ (∀ p, p < tP τ → c 1 p = y 1 p ∧ c 2 p = y 2 p) ∧ (∀ p, p < 8 → c 3 p = y 3 p ∧ (¬ y 3 p = -1 → c 4 p = if y 4 p = 1 then 2 else -1)) ∧ (∀ h, h < tH τ → c 5 h = y 5 h ∧ c 6 h = y 6 h) ∧ (∀ h, h < 5 → c 7 h = y 7 h ∧ c 8 h = y 8 h ∧ c 9 h = y 9 h)
def CT (h : AH) (t : Nat) (τ : TT) : Prop :=
  hI h t 0 = nI (tP τ) ∧ hI h t 1 = nI (tH τ) ∧ (∀ p, p < tP τ → hI h (t + 1) p = tY τ 1 p ∧ hI h (t + 2) p = tY τ 2 p ∧ hI h (t + 3) p = tY τ 3 p) ∧ (∀ k, k < tH τ → hI h (t + 4) k = tY τ 4 k ∧ hI h (t + 5) k = tY τ 5 k) ∧ ∀ d, d < 14 → hI h (t + 6) d = tY τ 6 d
theorem CT.fr {h h' : AH} {t a b : Nat} {τ : TT} (T : CT h t τ) (F : Fr h h' a b) (hd : t + 7 ≤ a ∨ b ≤ t) : CT h' t τ := by
  obtain ⟨t1, t2, t3, t4, t5⟩ := T
  have e : ∀ i, i < 7 → hI h' (t + i) = hI h (t + i) := fun i hi => F.2.2.2 _ (by omega)
  have e0 : hI h' t = hI h t := F.2.2.2 _ (by omega)
  unfold CT
  rw [e0, e 1 (by omega), e 2 (by omega), e 3 (by omega), e 4 (by omega), e 5 (by omega), e 6 (by omega)]
  exact ⟨t1, t2, t3, t4, t5⟩
theorem nI_lit8 : (8 : Int32) = nI 8 := rfl
theorem fill_loop {β : Type} {o n : Nat} {v : Int32} {k : AH → Int32 → Option β} (ho : o < 158) (hs : lyS o = (10, n)) (hn : n < 900) :
    ∀ (m i f : Nat) (h : AH), Lo h → i + m = n → m < f → L_J7_fill_53178_5 o v (nI n) k f h (nI i) = k (sA h o (fun j => if i ≤ j ∧ j < n then v else hI h o j)) (nI n) := by
  intro m
  induction m with
  | zero =>
    intro i f h H e hf
    obtain ⟨f, rfl⟩ : ∃ g, f = g + 1 := ⟨f - 1, by omega⟩
    unfold L_J7_fill_53178_5
    have hin : i = n := by omega
    subst hin
    rw [if_pos (nI_le (Nat.le_refl i) (by omega))]
    rw [sA_eq (funext fun j => if_neg (by omega))]
  | succ m ih =>
    intro i f h H e hf
    obtain ⟨f, rfl⟩ : ∃ g, f = g + 1 := ⟨f - 1, by omega⟩
    unfold L_J7_fill_53178_5
    rw [if_neg (nI_ge (by omega) (by omega)), op_stA H ho hs (by omega) (by omega), Option.bind_some, nI_1, ih (i + 1) f _ (H.sA _ _) (by omega) (by omega), sA_sA]
    congr 2
    funext j
    rw [hI_sA, if_pos rfl]
    unfold upd
    by_cases h1 : j = i
    · rw [if_neg (by omega), if_pos h1, if_pos (by omega)]
    · by_cases h2 : i ≤ j ∧ j < n
      · rw [if_pos (by omega), if_pos h2]
      · rw [if_neg (by omega), if_neg h1, if_neg h2]
theorem fill_ok {h : AH} {o n : Nat} {v : Int32} (H : Lo h) (ho : o < 158) (hs : lyS o = (10, n)) (hn : n < 900) : F_J7_fill_53178 h o v = some (sA h o (fun j => if j < n then v else hI h o j)) := by
  unfold F_J7_fill_53178
  rw [op_lnA H ho hs, Option.bind_some, ← nI_0, fill_loop ho hs hn n 0 FU h H (by omega) (by unfold FU; omega)]
  congr 2
  funext j
  by_cases h1 : j < n
  · rw [if_pos h1, if_pos (by omega)]
  · rw [if_neg h1, if_neg (by omega)]
section CYARD
variable {h : AH} {o t : Nat} {τ : TT} {y : YT}
theorem c_likes (H : Lo h) (ho : YO o) (ht : TO t) (V : VT τ) (C : CY τ (Yc h o) y) (T : CT h t τ) {k p : Nat} (hk : k < tH τ) (hp : p < tP τ) : F_X3_likes h o t (nI k) (nI p) = some (lkP τ y k p) := by
  have v1 := V.1
  have v2 := V.2
  have e2 : hI h (o + 2) p = y 2 p := (C.2.1 p hp).2
  have e3 : hI h (t + 3) p = tY τ 3 p := (T.2.2.1 p hp).2.2
  have e7 : hI h (o + 7) k = y 7 k := (C.2.2.2.2 k (by omega)).1
  have e5 : hI h (o + 5) k = y 5 k := (C.2.2.2.1 k hk).1
  have e6 : hI h (o + 6) k = y 6 k := (C.2.2.2.1 k hk).2
  have e9 : hI h o 9 = y 0 9 := C.1 9 (by omega) (by omega)
  have e0 : hI h t 0 = nI (tP τ) := T.1
  have hP0 : ¬ nI (tP τ) ≤ 0 := nI_nle (by omega) (by omega)
  have hPz : ¬ nI (tP τ) = 0 := nI_ne0 (by omega) (by omega)
  have h10 : ¬ (10 : Int32) = 0 := by decide
  unfold F_X3_likes lkP
  simp only [y_ck H ho, y_R1 H ho, y_R6 H ho, y_R4 H ho, y_R5 H ho, t_R4 H ht, y_gI H ho, t_gI H ht, y_ld2 H ho (show p < 8 by omega), t_ld3 H ht (show p < 8 by omega), y_ld7 H ho (show k < 5 by omega), y_ld5 H ho (show k < 5 by omega), y_ld6 H ho (show k < 5 by omega), Option.bind_some, e2, e3, e7, e5, e6, e9, e0, if_neg hP0, rmI, if_neg hPz, if_neg h10]
  by_cases h7 : y 7 k = nI p
  · have h71 : ¬ (1 : Int32) = 0 := by decide
    simp only [h7, not_true_eq_false, if_false, Option.bind_some, h71, if_true]
    by_cases h50 : y 5 k = 0
    · simp only [h50, if_true]
    · by_cases h51 : y 5 k = 1
      · simp only [h51, h71, if_true, if_false]
      · by_cases h52 : y 5 k = 2
        · have q0 : ¬ (2 : Int32) = 0 := by decide
          have q1 : ¬ (2 : Int32) = 1 := by decide
          simp only [h52, q0, q1, if_true, if_false]
          rfl
        · simp only [h50, h51, h52, if_false]
          by_cases hr : nI p = rmd (y 6 k) (nI (tP τ))
          · rw [if_pos hr, if_neg (by unfold rmd at hr; exact not_not_intro hr)]
          · rw [if_neg hr, if_pos (by unfold rmd at hr; exact hr)]
  · have h71 : ¬ (1 : Int32) = 0 := by decide
    simp only [h7, not_false_eq_true, if_true, Option.bind_some, if_false]
    by_cases h50 : y 5 k = 0
    · simp only [h50, if_true]
    · by_cases h51 : y 5 k = 1
      · simp only [h51, h71, if_true, if_false]
      · by_cases h52 : y 5 k = 2
        · have q0 : ¬ (2 : Int32) = 0 := by decide
          have q1 : ¬ (2 : Int32) = 1 := by decide
          simp only [h52, q0, q1, if_true, if_false]
          rfl
        · simp only [h50, h51, h52, if_false]
          by_cases hr : nI p = rmd (y 6 k) (nI (tP τ))
          · rw [if_pos hr, if_neg (by unfold rmd at hr; exact not_not_intro hr)]
          · rw [if_neg hr, if_pos (by unfold rmd at hr; exact hr)]
theorem c_fav_loop {β : Type} {kk : Int32 → Int32 → Int32 → Option β} (H : Lo h) (ho : YO o) (ht : TO t) (V : VT τ) (C : CY τ (Yc h o) y) (T : CT h t τ) {k : Nat} (hk : k < tH τ) : ∀ (m i f : Nat), i + m = tP τ → m < f → L_X3_favourite_8 h o t (nI k) kk f (bsP τ y k i).1 (bsP τ y k i).2 (nI i) = kk (bsP τ y k (tP τ)).1 (bsP τ y k (tP τ)).2 (nI (tP τ)) := by
  have v1 := V.1
  intro m
  induction m with
  | zero =>
    intro i f e hf
    obtain ⟨f, rfl⟩ : ∃ g, f = g + 1 := ⟨f - 1, by omega⟩
    have hi : i = tP τ := by omega
    subst hi
    unfold L_X3_favourite_8
    rw [t_gI H ht, Option.bind_some, T.1, if_pos (nI_le (Nat.le_refl _) (by omega))]
  | succ m ih =>
    intro i f e hf
    obtain ⟨f, rfl⟩ : ∃ g, f = g + 1 := ⟨f - 1, by omega⟩
    unfold L_X3_favourite_8
    have e3 : hI h (o + 3) i = y 3 i := (C.2.2.1 i (by omega)).1
    simp only [t_gI H ht, Option.bind_some, T.1, if_neg (nI_ge (show i < tP τ by omega) (show tP τ < 2 ^ 31 by omega)), y_R2 H ho, y_ld3 H ho (show i < 8 by omega), e3, c_likes H ho ht V C T hk (show i < tP τ by omega), nI_1]
    have hb : bsP τ y k (i + 1) = if ¬ y 3 i = -1 then bsP τ y k i else if (bsP τ y k i).1 = -1 then (nI i, lkP τ y k i) else if lkP τ y k i ≤ (bsP τ y k i).2 then bsP τ y k i else (nI i, lkP τ y k i) := rfl
    have go := ih (i + 1) f (by omega) (by omega)
    by_cases he : y 3 i = -1
    · rw [if_neg (not_not_intro he)] at hb
      simp only [he, not_true_eq_false, if_false]
      by_cases h1 : (bsP τ y k i).1 = -1
      · rw [if_pos h1] at hb
        rw [hb] at go
        simp only [h1, if_true, Option.bind_some]
        exact go
      · rw [if_neg h1] at hb
        by_cases h2 : lkP τ y k i ≤ (bsP τ y k i).2
        · rw [if_pos h2] at hb
          rw [hb] at go
          simp only [h1, h2, if_true, if_false, Option.bind_some]
          exact go
        · rw [if_neg h2] at hb
          rw [hb] at go
          simp only [h1, h2, if_false, Option.bind_some]
          exact go
    · rw [if_pos he] at hb
      rw [hb] at go
      simp only [he, not_false_eq_true, if_true, Option.bind_some]
      exact go
theorem c_fav (H : Lo h) (ho : YO o) (ht : TO t) (V : VT τ) (C : CY τ (Yc h o) y) (T : CT h t τ) {k : Nat} (hk : k < tH τ) : F_X3_favourite h o t (nI k) = some (bsP τ y k (tP τ)).1 := by
  have v1 := V.1
  unfold F_X3_favourite
  rw [y_ck H ho, Option.bind_some]
  exact c_fav_loop H ho ht V C T hk (tP τ) 0 FU (by omega) (by unfold FU; omega)
theorem c_lays (H : Lo h) (ho : YO o) (C : CY τ (Yc h o) y) {k : Nat} (V : VT τ) (hk : k < tH τ) : F_X3_laysToday h o (nI k) = some (if y 0 10 = 0 ∧ (¬ y 5 k = 1 ∨ rmd (y 0 9) 2 = 0) then 1 else 0) := by
  have v2 := V.2
  have e10 : hI h o 10 = y 0 10 := C.1 10 (by omega) (by omega)
  have e9 : hI h o 9 = y 0 9 := C.1 9 (by omega) (by omega)
  have e5 : hI h (o + 5) k = y 5 k := (C.2.2.2.1 k hk).1
  have h2 : ¬ (2 : Int32) = 0 := by decide
  unfold F_X3_laysToday
  simp only [y_ck H ho, y_gI H ho, y_R4 H ho, y_ld5 H ho (show k < 5 by omega), Option.bind_some, e10, e9, e5, rmI, if_neg h2]
  by_cases h10 : y 0 10 = 0
  · by_cases h5 : y 5 k = 1
    · by_cases hr : rmd (y 0 9) 2 = 0
      · have hr' : y 0 9 - y 0 9 / 2 * 2 = 0 := hr
        simp [h10, h5, hr, hr']
      · have hr' : ¬ y 0 9 - y 0 9 / 2 * 2 = 0 := hr
        simp [h10, h5, hr, hr']
    · simp [h10, h5]
  · simp [h10]
end CYARD
end
section
/-! the class's yards: laying, a day, copies -/
theorem xr_nI (a b : Nat) : nI a ^^^ nI b = nI (a ^^^ b) := by
  apply Int32.toBitVec_inj.1
  show BitVec.ofNat 32 a ^^^ BitVec.ofNat 32 b = BitVec.ofNat 32 (a ^^^ b)
  apply BitVec.eq_of_getLsbD_eq
  intro i hi
  simp [hi]
theorem xr_pos {d : Nat} (h : d < 2 ^ 30) : (0 : Int32) ≤ nI d ^^^ 14 := by
  have e : nI d ^^^ 14 = nI (d ^^^ 14) := xr_nI d 14
  rw [e]
  exact nI_pos' (Nat.lt_trans (Nat.xor_lt_two_pow h (by decide : 14 < 2 ^ 30)) (by decide))
theorem Yc_sI (h : AH) (o i j : Nat) (v : Int32) : Yc (sI h (o + i) j v) o = up2 (Yc h o) i j v := by
  funext a b
  unfold Yc up2
  rw [hI_sA]
  by_cases ha : a = i
  · subst ha
    rw [if_pos rfl]
    unfold upd
    by_cases hb : b = j
    · rw [if_pos hb, if_pos ⟨rfl, hb⟩]
    · rw [if_neg hb, if_neg (fun z => hb z.2)]
  · rw [if_neg (by omega), if_neg (fun z => ha z.1)]
theorem Yc_sI0 (h : AH) (o j : Nat) (v : Int32) : Yc (sI h o j v) o = up2 (Yc h o) 0 j v := Yc_sI h o 0 j v
theorem Yc_sA (h : AH) (o i : Nat) (g : Nat → Int32) : Yc (sA h (o + i) g) o = upR (Yc h o) i g := by
  funext a
  unfold Yc upR
  funext b
  rw [hI_sA]
  by_cases ha : a = i
  · subst ha
    rw [if_pos rfl, if_pos rfl]
  · rw [if_neg (by omega), if_neg ha]
theorem Yc_fr {h h' : AH} {o a b : Nat} (F : Fr h h' a b) (hd : o + 10 ≤ a ∨ b ≤ o) : ∀ i, i < 10 → Yc h' o i = Yc h o i := by
  intro i hi
  funext j
  show hI h' (o + i) j = hI h (o + i) j
  rw [F.2.2.2 _ (by omega)]
theorem CY.fr {h h' : AH} {o a b : Nat} {τ : TT} {y : YT} (C : CY τ (Yc h o) y) (F : Fr h h' a b) (hd : o + 10 ≤ a ∨ b ≤ o) : CY τ (Yc h' o) y := by
  have e := Yc_fr F hd
  unfold CY at C ⊢
  rw [e 0 (by omega), e 1 (by omega), e 2 (by omega), e 3 (by omega), e 4 (by omega), e 5 (by omega), e 6 (by omega), e 7 (by omega), e 8 (by omega), e 9 (by omega)]
  exact C
theorem cp8 {h : AH} {q1 q2 : Nat} (H : Lo h) (z1 : q1 < 158 ∧ lyS q1 = (10, 8)) (z2 : q2 < 158 ∧ lyS q2 = (10, 8)) : cpA h q1 0 q2 0 8 = some (sA h q2 (va_cpy (hI h q1) (hI h q2) 0 0 8)) := op_cpA (n := 8) H z1.1 z1.2 z2.1 z2.2 (by omega) (by omega) (by omega)
theorem cp5 {h : AH} {q1 q2 : Nat} (H : Lo h) (z1 : q1 < 158 ∧ lyS q1 = (10, 5)) (z2 : q2 < 158 ∧ lyS q2 = (10, 5)) : cpA h q1 0 q2 0 5 = some (sA h q2 (va_cpy (hI h q1) (hI h q2) 0 0 5)) := op_cpA (n := 5) H z1.1 z1.2 z2.1 z2.2 (by omega) (by omega) (by omega)
theorem cp14 {h : AH} {q1 q2 : Nat} (H : Lo h) (z1 : q1 < 158 ∧ lyS q1 = (10, 14)) (z2 : q2 < 158 ∧ lyS q2 = (10, 14)) : cpA h q1 0 q2 0 14 = some (sA h q2 (va_cpy (hI h q1) (hI h q2) 0 0 14)) := op_cpA (n := 14) H z1.1 z1.2 z2.1 z2.2 (by omega) (by omega) (by omega)
theorem fl8 {h : AH} {q : Nat} {v : Int32} (H : Lo h) (z : q < 158 ∧ lyS q = (10, 8)) : F_J7_fill_53178 h q v = some (sA h q (fun j => if j < 8 then v else hI h q j)) := fill_ok H z.1 z.2 (by omega)
theorem fl5 {h : AH} {q : Nat} {v : Int32} (H : Lo h) (z : q < 158 ∧ lyS q = (10, 5)) : F_J7_fill_53178 h q v = some (sA h q (fun j => if j < 5 then v else hI h q j)) := fill_ok H z.1 z.2 (by omega)
theorem fl14 {h : AH} {q : Nat} {v : Int32} (H : Lo h) (z : q < 158 ∧ lyS q = (10, 14)) : F_J7_fill_53178 h q v = some (sA h q (fun j => if j < 14 then v else hI h q j)) := fill_ok H z.1 z.2 (by omega)
theorem yo_apart {a b : Nat} (ha : YO a) (hb : YO b) (h : a ≠ b) : a + 10 ≤ b ∨ b + 10 ≤ a := by
  have : ∀ a ∈ [17, 27, 45, 55, 65, 75, 85, 95, 105, 115, 125, 135], ∀ b ∈ [17, 27, 45, 55, 65, 75, 85, 95, 105, 115, 125, 135], a ≠ b → a + 10 ≤ b ∨ b + 10 ≤ a := by decide
  exact this a ha b hb h
theorem cpy0 {f g : Nat → Int32} {n j : Nat} (h : j < n) : va_cpy f g 0 0 n j = f j := by
  unfold va_cpy
  rw [if_pos (by omega)]
  congr 1
  omega
section CYARD2
variable {h : AH} {o t : Nat} {τ : TT} {y : YT}
theorem c_news (H : Lo h) (ht : TO t) (T : CT h t τ) {d : Nat} (hd : d < 2 ^ 30) : F_X2_newsOf h t (nI d) = some (tY τ 6 (d % 14)) := by
  have h14 : ¬ (14 : Int32) = 0 := by decide
  have er : nI d - nI d / 14 * 14 = nI (d % 14) := pk_rem (a := d) (d := 14) (by omega) (by omega) (by omega)
  have hm : d % 14 < 14 := Nat.mod_lt _ (by omega)
  unfold F_X2_newsOf F_J9_floorMod_7cf53 rmI
  simp only [t_ck H ht, t_R7 H ht, Option.bind_some, if_neg h14, if_pos (xr_pos hd), er, t_ld6 H ht hm, T.2.2.2.2 _ hm]
theorem c_layEgg (H : Lo h) (ho : YO o) (V : VT τ) (C : CY τ (Yc h o) y) {k p : Nat} (hk : k < tH τ) (hp : p < tP τ) : ∃ h', F_X3_layEgg h o (nI k) (nI p) (tY τ 6 ((y 0 9).toNatClampNeg % 14)) = some h' ∧ Fr h h' o (o + 10) ∧ CY τ (Yc h' o) (egP τ y k p) := by
  have v1 := V.1
  have v2 := V.2
  have e1 : hI h (o + 1) p = y 1 p := (C.2.1 p hp).1
  have h10 : ¬ (1 : Int32) = 0 := by decide
  have hp8 : p < 8 := by omega
  have hk5 : k < 5 := by omega
  obtain ⟨c0, c1, c3, c5, c7⟩ := C
  have m1 : ¬ nI k = -1 := nI_m1 (by omega)
  unfold F_X3_layEgg
  by_cases hr : tY τ 6 ((y 0 9).toNatClampNeg % 14) = y 1 p
  · have hB : rgB τ y p = true := decide_eq_true hr
    simp only [y_ck H ho, y_R0 H ho, y_R2, y_R6, y_R3, y_R7, y_R8, y_ld1 H ho hp8, y_st3, y_st7, y_st4, y_ld8, y_st8, y_ld9, y_st9, Option.bind_some, e1, hr, not_true_eq_false, if_false, Lo_sA, H, ho, hp8, hk5, if_neg h10]
    refine ⟨_, rfl, ?_, ?_⟩
    · exact ((((Fr.refl h _ _).sA (by omega) (by omega)).sA (by omega) (by omega)).sA (by omega) (by omega)).sA (by omega) (by omega)
    · rw [Yc_sI, Yc_sI, Yc_sI, Yc_sI]
      have e8 : hI (sI (sI (sI h (o + 3) p (nI k)) (o + 7) k (nI p)) (o + 4) p 2) (o + 8) k = y 8 k := by
        rw [hI_sA, if_neg (by omega), hI_sA, if_neg (by omega), hI_sA, if_neg (by omega)]
        exact (c7 k hk5).2.1
      rw [e8]
      unfold egP
      rw [hB]
      refine ⟨fun j h1 h2 => ?_, fun q hq => ?_, fun q hq => ?_, fun q hq => ?_, fun q hq => ?_⟩
      · simpa [up2] using c0 j h1 h2
      · simpa [up2] using c1 q hq
      · by_cases hqp : q = p
        · subst hqp
          simp [up2]
        · simpa [up2, hqp] using c3 q hq
      · simpa [up2] using c5 q hq
      · by_cases hqk : q = k
        · subst hqk
          have := c7 q hq
          simp [up2, this]
        · simpa [up2, hqk] using c7 q hq
  · have hB : rgB τ y p = false := decide_eq_false hr
    simp only [y_ck H ho, y_R0 H ho, y_R2, y_R6, y_R3, y_R7, y_R8, y_ld1 H ho hp8, y_st3, y_st7, y_st4, y_ld8, y_st8, y_ld9, y_st9, Option.bind_some, e1, hr, not_false_eq_true, if_true, Lo_sA, H, ho, hp8, hk5]
    refine ⟨_, rfl, ?_, ?_⟩
    · exact ((((Fr.refl h _ _).sA (by omega) (by omega)).sA (by omega) (by omega)).sA (by omega) (by omega)).sA (by omega) (by omega)
    · rw [Yc_sI, Yc_sI, Yc_sI, Yc_sI]
      have e8 : hI (sI (sI (sI h (o + 3) p (nI k)) (o + 7) k (nI p)) (o + 4) p (-1)) (o + 9) k = y 9 k := by
        rw [hI_sA, if_neg (by omega), hI_sA, if_neg (by omega), hI_sA, if_neg (by omega)]
        exact (c7 k hk5).2.2
      rw [e8]
      unfold egP
      rw [hB]
      refine ⟨fun j h1 h2 => ?_, fun q hq => ?_, fun q hq => ?_, fun q hq => ?_, fun q hq => ?_⟩
      · simpa [up2] using c0 j h1 h2
      · simpa [up2] using c1 q hq
      · by_cases hqp : q = p
        · subst hqp
          simp [up2]
        · simpa [up2, hqp] using c3 q hq
      · simpa [up2] using c5 q hq
      · by_cases hqk : q = k
        · subst hqk
          have := c7 q hq
          simp [up2, this]
        · simpa [up2, hqk] using c7 q hq
theorem c_pass_loop {β : Type} {kk : AH → Int32 → Option β} (ho : YO o) (ht : TO t) (V : VT τ) {d : Nat} (hd : d < 2 ^ 30) (hy : y 0 9 = nI d) : ∀ (m i f : Nat) (h : AH), Lo h → CT h t τ → CY τ (Yc h o) (dyP τ y i) → i + m = tH τ → m < f → ∃ h', L_X3_passDay_10 o t kk f h (nI i) = kk h' (nI (tH τ)) ∧ Fr h h' o (o + 10) ∧ CY τ (Yc h' o) (dyP τ y (tH τ)) := by
  have v1 := V.1
  have v2 := V.2
  intro m
  induction m with
  | zero =>
    intro i f h H T C e hf
    obtain ⟨f, rfl⟩ : ∃ g, f = g + 1 := ⟨f - 1, by omega⟩
    have hi : i = tH τ := by omega
    subst hi
    unfold L_X3_passDay_10
    rw [t_gI H ht, Option.bind_some, T.2.1, if_pos (nI_le (Nat.le_refl _) (by omega))]
    exact ⟨h, rfl, Fr.refl _ _ _, C⟩
  | succ m ih =>
    intro i f h H T C e hf
    obtain ⟨f, rfl⟩ : ∃ g, f = g + 1 := ⟨f - 1, by omega⟩
    have hi : i < tH τ := by omega
    unfold L_X3_passDay_10
    have e9 : hI h o 9 = nI d := by
      have := C.1 9 (by omega) (by omega)
      rw [dyP_row τ y 0 (Or.inl rfl), hy] at this
      exact this
    have e9c : (dyP τ y i 0 9).toNatClampNeg = d := by rw [dyP_row τ y 0 (Or.inl rfl), hy, nI_clamp (by omega)]
    simp only [t_gI H ht, Option.bind_some, T.2.1, if_neg (nI_ge (show i < tH τ by omega) (show tH τ < 2 ^ 31 by omega)), c_lays H ho C V hi, c_fav H ho ht V C T hi, y_gI H ho, e9, c_news H ht T hd, nI_1]
    have hq' : (if (if dyP τ y i 0 10 = 0 ∧ (¬ dyP τ y i 5 i = 1 ∨ rmd (dyP τ y i 0 9) 2 = 0) then (1 : Int32) else 0) = 0 then some (-1) else some (bsP τ (dyP τ y i) i (tP τ)).1) = some (plP τ (dyP τ y i) i) := by
      unfold plP
      by_cases hc : dyP τ y i 0 10 = 0 ∧ (¬ dyP τ y i 5 i = 1 ∨ rmd (dyP τ y i 0 9) 2 = 0)
      · rw [if_pos hc, if_pos hc, if_neg (by decide)]
      · rw [if_neg hc, if_neg hc, if_pos rfl]
    rw [hq', Option.bind_some]
    have hn : dyP τ y (i + 1) = hnP τ (dyP τ y i) i := rfl
    rcases plP_place V (dyP τ y i) i with hz | ⟨p, hp, hz, hz3⟩
    · rw [if_pos hz, Option.bind_some]
      have hn2 : dyP τ y (i + 1) = dyP τ y i := by rw [hn]; unfold hnP; rw [if_pos hz]
      exact ih (i + 1) f h H T (by rw [hn2]; exact C) (by omega) (by omega)
    · have hne : ¬ plP τ (dyP τ y i) i = -1 := by rw [hz]; exact nI_m1 (by omega)
      obtain ⟨h1, g1, g2, g3⟩ := c_layEgg H ho V C hi hp
      rw [e9c] at g1
      have hn2 : dyP τ y (i + 1) = egP τ (dyP τ y i) i p := by rw [hn]; unfold hnP; rw [if_neg hne, hz, nI_clamp (by omega)]
      rw [if_neg hne, hz, g1, Option.bind_some, Option.bind_some]
      have ylt := yo_lt ho
      have tlt := to_lt ht
      obtain ⟨h2, k1, k2, k3⟩ := ih (i + 1) f h1 (H.fr g2) (T.fr g2 (Or.inl (by omega))) (by rw [hn2]; exact g3) (by omega) (by omega)
      exact ⟨h2, k1, g2.trans k2, k3⟩
/-- a DAY, on the class's side -/
theorem c_pass (H : Lo h) (ho : YO o) (ht : TO t) (V : VT τ) (C : CY τ (Yc h o) y) (T : CT h t τ) {d : Nat} (hd : d < 2 ^ 30) (hy : y 0 9 = nI d) : ∃ h', F_X3_passDay h o t = some h' ∧ Fr h h' o (o + 10) ∧ CY τ (Yc h' o) (dayP τ y) := by
  have ylt := yo_lt ho
  have tlt := to_lt ht
  have v2 := V.2
  have F1 : Fr h (sA h (o + 3) (fun j => if j < 8 then -1 else hI h (o + 3) j)) o (o + 10) := (Fr.refl h _ _).sA (by omega) (by omega)
  have C1 : CY τ (Yc (sA h (o + 3) (fun j => if j < 8 then -1 else hI h (o + 3) j)) o) (dyP τ y 0) := by
    obtain ⟨c0, c1, c3, c5, c7⟩ := C
    rw [Yc_sA]
    unfold dyP
    refine ⟨fun j h1 h2 => ?_, fun q hq => ?_, fun q hq => ?_, fun q hq => ?_, fun q hq => ?_⟩
    · simpa [upR] using c0 j h1 h2
    · simpa [upR] using c1 q hq
    · simp [upR, hq]
    · simpa [upR] using c5 q hq
    · simpa [upR] using c7 q hq
  unfold F_X3_passDay
  rw [y_ck H ho, Option.bind_some, y_R2 H ho, Option.bind_some, fl8 H (y_ls3 ho), Option.bind_some]
  obtain ⟨h1, k1, k2, k3⟩ := c_pass_loop (kk := fun h9 _ => Option.bind (ptZ h9 o 3 10 0) fun h11 => Option.bind (gtI h11 o 3 9) fun v12 => Option.bind (ptI h11 o 3 9 (v12 + 1)) fun h13 => some h13) ho ht V hd hy (tH τ) 0 FU _ (H.fr F1) (T.fr F1 (Or.inl (by omega))) C1 (by omega) (by unfold FU; omega)
  have H1 : Lo h1 := (H.fr F1).fr k2
  rw [nI_0] at k1
  rw [k1]
  have hz0 : (0 : Int32) = 0 ∨ (0 : Int32) = 1 := Or.inl rfl
  have e9 : hI (sI h1 o 10 0) o 9 = y 0 9 := by
    rw [hI_sA, if_pos rfl]
    show (if 9 = 10 then (0 : Int32) else hI h1 o 9) = y 0 9
    rw [if_neg (by decide)]
    have := k3.1 9 (by omega) (by omega)
    rw [dyP_row τ y 0 (Or.inl rfl)] at this
    exact this
  simp only [y_pZ H1 ho hz0, Option.bind_some, y_gI, y_pI, Lo_sA, H1, ho, e9]
  refine ⟨_, rfl, ((F1.trans k2).sA (by omega) (by omega)).sA (by omega) (by omega), ?_⟩
  rw [Yc_sI0, Yc_sI0]
  obtain ⟨c0, c1, c3, c5, c7⟩ := k3
  unfold dayP
  refine ⟨fun j h1 h2 => ?_, fun q hq => ?_, fun q hq => ?_, fun q hq => ?_, fun q hq => ?_⟩
  · by_cases hj9 : j = 9
    · subst hj9; simp [up2]
    · by_cases hj : j = 10
      · subst hj; simp [up2]
      · simpa [up2, hj9, hj] using c0 j h1 h2
  · simpa [up2] using c1 q hq
  · simpa [up2] using c3 q hq
  · simpa [up2] using c5 q hq
  · simpa [up2] using c7 q hq
end CYARD2
end
section
/-! the class's yards: copies, a new beginning, where an egg is, eggs by bits -/
section CYARD3
variable {h : AH} {o t : Nat} {τ : TT} {y : YT}
theorem c_copy {o1 : Nat} (H : Lo h) (ho : YO o) (ho1 : YO o1) (hne : o ≠ o1) (V : VT τ) (C : CY τ (Yc h o1) y) (hth : y 0 10 = 0 ∨ y 0 10 = 1) : ∃ h', F_X3_copyFrom h o o1 = some h' ∧ Fr h h' o (o + 10) ∧ CY τ (Yc h' o) y := by
  have ap := yo_apart ho ho1 hne
  have v1 := V.1
  have v2 := V.2
  obtain ⟨c0, c1, c3, c5, c7⟩ := C
  have e9 : hI h o1 9 = y 0 9 := c0 9 (by omega) (by omega)
  have e10 : hI h o1 10 = y 0 10 := c0 10 (by omega) (by omega)
  have e11 : hI h o1 11 = y 0 11 := c0 11 (by omega) (by omega)
  have e12 : hI h o1 12 = y 0 12 := c0 12 (by omega) (by omega)
  have e13 : hI h o1 13 = y 0 13 := c0 13 (by omega) (by omega)
  have n0 : ∀ i, i < 10 → ¬ o1 = o + i := fun i hi => by omega
  have n00 : ¬ o1 = o := by omega
  unfold F_X3_copyFrom
  simp only [y_ck H ho, y_R0, y_R1, y_R2, y_R3, y_R4, y_R5, y_R6, y_R7, y_R8, cp8, cp5, and_self, y_gI, y_pI, y_pZ, Option.bind_some, Lo_sA, H, ho, ho1, y_ls1 ho, y_ls2 ho, y_ls3 ho, y_ls4 ho, y_ls5 ho, y_ls6 ho, y_ls7 ho, y_ls8 ho, y_ls9 ho, y_ls1 ho1, y_ls2 ho1, y_ls3 ho1, y_ls4 ho1, y_ls5 ho1, y_ls6 ho1, y_ls7 ho1, y_ls8 ho1, y_ls9 ho1, hI_sA, n0 1 (by omega), n0 2 (by omega), n0 3 (by omega), n0 4 (by omega), n0 5 (by omega), n0 6 (by omega), n0 7 (by omega), n0 8 (by omega), n0 9 (by omega), n00, if_false, e9, e10, e11, e12, e13, hth]
  refine ⟨_, rfl, ?_, ?_⟩
  · repeat refine Fr.sA ?_ (by omega) (by omega)
    exact Fr.refl _ _ _
  · refine ⟨fun j h1 h2 => ?_, fun q hq => ?_, fun q hq => ?_, fun q hq => ?_, fun q hq => ?_⟩
    · have hj : j = 9 ∨ j = 10 ∨ j = 11 ∨ j = 12 ∨ j = 13 := by omega
      rcases hj with e | e | e | e | e <;> subst e <;> simp [Yc, hI_sA, upd]
    · have := c1 q hq
      have hq8 : q < 8 := by omega
      have a1 : ∀ i a, i < 10 → ¬ o1 + i = o + a ∨ 10 ≤ a := fun i a hi => by omega
      have b1 : ¬ o1 + 2 = o + 1 := by omega
      simp [Yc, hI_sA, cpy0 hq8, b1] at this ⊢
      exact this
    · have := c3 q hq
      have b1 : ¬ o1 + 3 = o + 1 := by omega
      have b2 : ¬ o1 + 3 = o + 2 := by omega
      have b3 : ¬ o1 + 4 = o + 1 := by omega
      have b4 : ¬ o1 + 4 = o + 2 := by omega
      have b5 : ¬ o1 + 4 = o + 3 := by omega
      simp [Yc, hI_sA, cpy0 hq, b1, b2, b3, b4, b5] at this ⊢
      exact this
    · have := c5 q hq
      have hq5 : q < 5 := by omega
      have b1 : ∀ i a, i < 10 → a < 10 → ¬ o1 + i = o + a := fun i a hi ha => by omega
      simp [Yc, hI_sA, cpy0 hq5, b1] at this ⊢
      exact this
    · have := c7 q hq
      have b1 : ∀ i a, i < 10 → a < 10 → ¬ o1 + i = o + a := fun i a hi ha => by omega
      simp [Yc, hI_sA, cpy0 hq, b1] at this ⊢
      exact this
/-- a yard as a text begins it -/
def bgP (τ : TT) : YT := fun i j => if i = 1 then tY τ 1 j else if i = 2 then tY τ 2 j else if i = 3 then -1 else if i = 5 then tY τ 4 j else if i = 6 then tY τ 5 j else if i = 7 then -1 else 0
theorem c_begin (H : Lo h) (ho : YO o) (ht : TO t) (V : VT τ) (T : CT h t τ) : ∃ h', F_X3_beginAs h o t = some h' ∧ Fr h h' o (o + 10) ∧ CY τ (Yc h' o) (bgP τ) := by
  have ylt := yo_lt ho
  have tlt := to_lt ht
  have v1 := V.1
  have v2 := V.2
  obtain ⟨t1, t2, t3, t4, t5⟩ := T
  have b1 : ∀ i a, i < 7 → ¬ t + i = o + a := fun i a hi => by omega
  have hz0 : (0 : Int32) = 0 ∨ (0 : Int32) = 1 := Or.inl rfl
  unfold F_X3_beginAs
  simp only [y_ck H ho, t_R2, t_R3, t_R5, t_R6, y_R0, y_R1, y_R2, y_R3, y_R4, y_R5, y_R6, y_R7, y_R8, cp8, cp5, and_self, fl8, fl5, y_gI, y_pI, y_pZ, Option.bind_some, Lo_sA, H, ho, ht, y_ls1 ho, y_ls2 ho, y_ls3 ho, y_ls4 ho, y_ls5 ho, y_ls6 ho, y_ls7 ho, y_ls8 ho, y_ls9 ho, t_ls1 ht, t_ls2 ht, t_ls4 ht, t_ls5 ht, true_or]
  refine ⟨_, rfl, ?_, ?_⟩
  · repeat refine Fr.sA ?_ (by omega) (by omega)
    exact Fr.refl _ _ _
  · refine ⟨fun j h1 h2 => ?_, fun q hq => ?_, fun q hq => ?_, fun q hq => ?_, fun q hq => ?_⟩
    · have hj : j = 9 ∨ j = 10 ∨ j = 11 ∨ j = 12 ∨ j = 13 := by omega
      rcases hj with e | e | e | e | e <;> subst e <;> simp [Yc, hI_sA, upd, bgP]
    · have := t3 q hq
      have hq8 : q < 8 := by omega
      simp [Yc, hI_sA, cpy0 hq8, b1, bgP]
      exact ⟨this.1, this.2.1⟩
    · simp [Yc, hI_sA, hq, bgP]
    · have := t4 q hq
      have hq5 : q < 5 := by omega
      have nto : ¬ t = o := by omega
      simp [Yc, hI_sA, cpy0 hq5, b1, bgP, nto]
      exact this
    · simp [Yc, hI_sA, hq, bgP]
theorem c_poe_loop (H : Lo h) (ho : YO o) (C : CY τ (Yc h o) y) (x : Int32) {kk : Int32 → Option Int32} : ∀ (m i f : Nat), i + m = 8 → m < f → (∀ p, p < i → ¬ y 3 p = x) → (L_X3_placeOfEgg_2 h o x kk f (nI i) = kk (nI 8) ∧ ∀ p, p < 8 → ¬ y 3 p = x) ∨ ∃ p, p < 8 ∧ y 3 p = x ∧ (∀ q, q < p → ¬ y 3 q = x) ∧ L_X3_placeOfEgg_2 h o x kk f (nI i) = some (nI p) := by
  intro m
  induction m with
  | zero =>
    intro i f e hf hb
    obtain ⟨f, rfl⟩ : ∃ g, f = g + 1 := ⟨f - 1, by omega⟩
    have hi : i = 8 := by omega
    subst hi
    refine Or.inl ⟨?_, hb⟩
    unfold L_X3_placeOfEgg_2
    rw [if_pos (by decide)]
  | succ m ih =>
    intro i f e hf hb
    obtain ⟨f, rfl⟩ : ∃ g, f = g + 1 := ⟨f - 1, by omega⟩
    have hi : i < 8 := by omega
    have e3 : hI h (o + 3) i = y 3 i := (C.2.2.1 i hi).1
    have h8 : ¬ (8 : Int32) ≤ nI i := nI_ge (b := 8) hi (by omega)
    unfold L_X3_placeOfEgg_2
    simp only [if_neg h8, y_R2 H ho, Option.bind_some, y_ld3 H ho hi, e3, nI_1]
    by_cases hx : y 3 i = x
    · simp only [hx, not_true_eq_false, if_false]
      exact Or.inr ⟨i, hi, hx, hb, rfl⟩
    · simp only [hx, not_false_eq_true, if_true]
      refine ih (i + 1) f (by omega) (by omega) (fun p hp => ?_)
      by_cases hpi : p = i
      · subst hpi; exact hx
      · exact hb p (by omega)
/-- the place of hen x's egg: the first one, or none -/
theorem c_poe (H : Lo h) (ho : YO o) (C : CY τ (Yc h o) y) (x : Int32) : (F_X3_placeOfEgg h o x = some (-1) ∧ ∀ p, p < 8 → ¬ y 3 p = x) ∨ ∃ p, p < 8 ∧ y 3 p = x ∧ F_X3_placeOfEgg h o x = some (nI p) := by
  unfold F_X3_placeOfEgg
  rw [y_ck H ho, Option.bind_some]
  rcases c_poe_loop (kk := fun _ => some (-1)) H ho C x 8 0 FU (by omega) (by unfold FU; omega) (fun p hp => absurd hp (Nat.not_lt_zero p)) with ⟨a, b⟩ | ⟨p, a, b, c, d⟩
  · exact Or.inl ⟨a, b⟩
  · exact Or.inr ⟨p, a, b, d⟩
/-- eggs by bits -/
def ebP (y : YT) : Nat → Int32
  | 0 => 0
  | n + 1 => if y 3 n = -1 then ebP y n else ebP y n ||| (1 <<< (nI n &&& 31))
theorem c_eb_loop (H : Lo h) (ho : YO o) (C : CY τ (Yc h o) y) {β : Type} {kk : Int32 → Int32 → Option β} : ∀ (m i f : Nat), i + m = 8 → m < f → L_X3_eggBits_4 h o kk f (ebP y i) (nI i) = kk (ebP y 8) (nI 8) := by
  intro m
  induction m with
  | zero =>
    intro i f e hf
    obtain ⟨f, rfl⟩ : ∃ g, f = g + 1 := ⟨f - 1, by omega⟩
    have hi : i = 8 := by omega
    subst hi
    unfold L_X3_eggBits_4
    rw [if_pos (by decide)]
  | succ m ih =>
    intro i f e hf
    obtain ⟨f, rfl⟩ : ∃ g, f = g + 1 := ⟨f - 1, by omega⟩
    have hi : i < 8 := by omega
    have e3 : hI h (o + 3) i = y 3 i := (C.2.2.1 i hi).1
    have h8 : ¬ (8 : Int32) ≤ nI i := nI_ge (b := 8) hi (by omega)
    have go := ih (i + 1) f (by omega) (by omega)
    have hb : ebP y (i + 1) = if y 3 i = -1 then ebP y i else ebP y i ||| (1 <<< (nI i &&& 31)) := rfl
    rw [hb] at go
    unfold L_X3_eggBits_4
    simp only [if_neg h8, y_R2 H ho, Option.bind_some, y_ld3 H ho hi, e3, nI_1]
    by_cases hx : y 3 i = -1
    · simp only [hx, if_true, Option.bind_some] at go ⊢
      exact go
    · simp only [hx, if_false, Option.bind_some] at go ⊢
      exact go
theorem c_eb (H : Lo h) (ho : YO o) (C : CY τ (Yc h o) y) : F_X3_eggBits h o = some (ebP y 8) := by
  unfold F_X3_eggBits
  rw [y_ck H ho, Option.bind_some]
  exact c_eb_loop H ho C 8 0 FU (by omega) (by unfold FU; omega)
end CYARD3
end
section
/-! the reference's yards against the same mathematics -/
def Fs (h h' : AH) (S : List Nat) : Prop := hN h' = hN h ∧ hS h' = hS h ∧ hR h' = hR h ∧ ∀ q, q ∉ S → hI h' q = hI h q
theorem Fs.refl (h : AH) (S : List Nat) : Fs h h S := ⟨rfl, rfl, rfl, fun _ _ => rfl⟩
theorem Fs.trans {h h1 h2 : AH} {S : List Nat} (x : Fs h h1 S) (y : Fs h1 h2 S) : Fs h h2 S := ⟨y.1.trans x.1, y.2.1.trans x.2.1, y.2.2.1.trans x.2.2.1, fun q hq => (y.2.2.2 q hq).trans (x.2.2.2 q hq)⟩
theorem Fs.wide {h h1 : AH} {S S' : List Nat} (x : Fs h h1 S) (hs : ∀ q, q ∈ S → q ∈ S') : Fs h h1 S' := ⟨x.1, x.2.1, x.2.2.1, fun q hq => x.2.2.2 q (fun z => hq (hs q z))⟩
theorem Fs.sA {h h1 : AH} {S : List Nat} {q : Nat} {g : Nat → Int32} (x : Fs h h1 S) (hq : q ∈ S) : Fs h (sA h1 q g) S := ⟨x.1, x.2.1, x.2.2.1, fun r hr => (if_neg (show ¬ r = q from fun e => hr (e ▸ hq))).trans (x.2.2.2 r hr)⟩
theorem Fs.sL {h h1 : AH} {S : List Nat} {q j : Nat} {v : Int64} (x : Fs h h1 S) : Fs h (sL h1 q j v) S := x
theorem Lo.fs {h h1 : AH} {S : List Nat} (H : Lo h) (x : Fs h h1 S) : Lo h1 := ⟨x.1.trans H.1, fun q hq => by rw [x.2.1]; exact H.2.1 q hq, fun q k hq hn => by rw [x.2.2.1]; exact H.2.2 q k hq hn⟩
def RO (a : Nat) : Prop := a = 148 ∨ a = 157
theorem ro_ls {a : Nat} (ha : RO a) : a < 158 ∧ lyS a = (10, 52) := by
  rcases ha with e | e <;> subst e <;> exact ⟨by decide, by decide⟩
theorem r_ld {h : AH} {a k : Nat} (H : Lo h) (ha : RO a) (hk : k < 52) : ldA h a 10 (nI k) = some (hI h a k) := op_ldA H (ro_ls ha).1 (ro_ls ha).2 (by decide) hk
theorem r_st {h : AH} {a k : Nat} {v : Int32} (H : Lo h) (ha : RO a) (hk : k < 52) : stA h a 10 (nI k) v = some (sI h a k v) := op_stA H (ro_ls ha).1 (ro_ls ha).2 (by decide) hk
theorem r_ld0 {h : AH} {a : Nat} (H : Lo h) (ha : RO a) : ldA h a 10 0 = some (hI h a 0) := r_ld (k := 0) H ha (by decide)
theorem r_ld1 {h : AH} {a : Nat} (H : Lo h) (ha : RO a) : ldA h a 10 1 = some (hI h a 1) := r_ld (k := 1) H ha (by decide)
theorem r_st0 {h : AH} {a : Nat} {v : Int32} (H : Lo h) (ha : RO a) : stA h a 10 0 v = some (sI h a 0 v) := r_st (k := 0) H ha (by decide)
theorem r_st1 {h : AH} {a : Nat} {v : Int32} (H : Lo h) (ha : RO a) : stA h a 10 1 v = some (sI h a 1 v) := r_st (k := 1) H ha (by decide)
theorem o146_l0 {h : AH} (H : Lo h) : ldA h 146 10 0 = some (hI h 146 0) := o146_ld (k := 0) H (by decide)
theorem o146_l25 {h : AH} (H : Lo h) : ldA h 146 10 25 = some (hI h 146 25) := o146_ld (k := 25) H (by decide)
theorem al_1 (p : Nat) : (1 : Int32) + nI p = nI (1 + p) := nI_add 1 p
theorem al_2 (p : Nat) : (2 : Int32) + nI p = nI (2 + p) := nI_add 2 p
theorem al_9 (p : Nat) : (9 : Int32) + nI p = nI (9 + p) := nI_add 9 p
theorem al_10 (p : Nat) : (10 : Int32) + nI p = nI (10 + p) := nI_add 10 p
theorem al_17 (p : Nat) : (17 : Int32) + nI p = nI (17 + p) := nI_add 17 p
theorem al_18 (p : Nat) : (18 : Int32) + nI p = nI (18 + p) := nI_add 18 p
theorem al_26 (p : Nat) : (26 : Int32) + nI p = nI (26 + p) := nI_add 26 p
theorem al_31 (p : Nat) : (31 : Int32) + nI p = nI (31 + p) := nI_add 31 p
theorem al_34 (p : Nat) : (34 : Int32) + nI p = nI (34 + p) := nI_add 34 p
theorem al_36 (p : Nat) : (36 : Int32) + nI p = nI (36 + p) := nI_add 36 p
theorem al_39 (p : Nat) : (39 : Int32) + nI p = nI (39 + p) := nI_add 39 p
theorem al_44 (p : Nat) : (44 : Int32) + nI p = nI (44 + p) := nI_add 44 p
def RY (τ : TT) (t : Nat → Int32) (y : YT) : Prop :=
  (t 0 = y 0 9 ∧ t 1 = y 0 10 ∧ t 49 = y 0 11 ∧ t 50 = y 0 12 ∧ t 51 = y 0 13) ∧ (∀ p, p < tP τ → t (2 + p) = y 1 p ∧ t (10 + p) = y 2 p) ∧ (∀ p, p < 8 → t (18 + p) = y 3 p ∧ t (26 + p) = y 4 p) ∧ (∀ k, k < 5 → t (34 + k) = y 7 k ∧ t (39 + k) = y 8 k ∧ t (44 + k) = y 9 k)
def RK (τ : TT) (h : AH) (y : YT) : Prop := ∀ k, k < tH τ → hI h 154 k = y 5 k ∧ hI h 155 k = y 6 k
def RT0 (t : Nat → Int32) (τ : TT) : Prop :=
  t 0 = nI (tP τ) ∧ t 25 = nI (tH τ) ∧ (∀ p, p < tP τ → t (1 + p) = tY τ 1 p ∧ t (9 + p) = tY τ 2 p ∧ t (17 + p) = tY τ 3 p) ∧ (∀ k, k < tH τ → t (26 + k) = tY τ 4 k ∧ t (31 + k) = tY τ 5 k) ∧ ∀ d, d < 14 → t (36 + d) = tY τ 6 d
abbrev RT (h : AH) (τ : TT) : Prop := RT0 (hI h 146) τ
/-- what bounds a hen's liking from below -/
def VL (τ : TT) (y : YT) : Prop := (∀ p, p < tP τ → (∃ w, w ≤ 9 ∧ y 2 p = nI w) ∧ ∃ l, l ≤ 9 ∧ tY τ 3 p = nI l) ∧ (∀ k, k < tH τ → ∃ a, a ≤ 9 ∧ y 6 k = nI a) ∧ ∃ d, d ≤ 1100 ∧ y 0 9 = nI d
theorem lk_lo {x : Int32} {m a : Nat} (hm : m < 100) (ha : a < 100) (e : x = nI m - nI a) : ¬ x ≤ -1000000 := by
  rw [Int32.le_iff_toInt_le, e, pk_sub_toInt (by omega) (by omega)]
  have : (-1000000 : Int32).toInt = -1000000 := by decide
  omega
theorem lk_lo0 {x : Int32} {m : Nat} (hm : m < 100) (e : x = nI m) : ¬ x ≤ -1000000 := by
  rw [Int32.le_iff_toInt_le, e, nI_toInt (by omega)]
  have : (-1000000 : Int32).toInt = -1000000 := by decide
  omega
theorem lk_low {τ : TT} {y : YT} (V : VT τ) (L : VL τ y) {k p : Nat} (hk : k < tH τ) (hp : p < tP τ) : ¬ lkP τ y k p ≤ -1000000 := by
  obtain ⟨l1, l2, d, hd, ed⟩ := L
  obtain ⟨⟨w, hw, ew⟩, l, hl, el⟩ := l1 p hp
  obtain ⟨a, ha, ea⟩ := l2 k hk
  have e2 : (2 : Int32) * nI w + nI l = nI (2 * w + l) := by
    have : (2 : Int32) * nI w = nI (2 * w) := pk_mul 2 w
    rw [this, nI_add]
  unfold lkP
  rw [ew, el, ea, ed, e2]
  by_cases h0 : y 5 k = 0
  · rw [if_pos h0]
    split
    next => exact lk_lo (m := 2 * w + l) (a := a) (by omega) (by omega) rfl
    next => exact lk_lo0 (m := 2 * w + l) (by omega) rfl
  · rw [if_neg h0]
    by_cases h1 : y 5 k = 1
    · rw [if_pos h1]
      split
      next =>
        refine lk_lo (m := 2 * w + l + 9) (a := a) (by omega) (by omega) ?_
        have e9 : nI (2 * w + l + 9) = nI (2 * w + l) + 9 := (nI_add (2 * w + l) 9).symm
        rw [e9, Int32.sub_eq_add_neg, Int32.sub_eq_add_neg, Int32.add_assoc, Int32.add_assoc, Int32.add_comm (-nI a) 9]
      next => exact lk_lo0 (m := 2 * w + l) (by omega) rfl
    · rw [if_neg h1]
      by_cases h2 : y 5 k = 2
      · rw [if_pos h2]
        refine lk_lo0 (m := (l + d * a) % 10) (by omega) ?_
        rw [pk_mul, nI_add]
        have hda : d * a ≤ 1100 * 9 := Nat.mul_le_mul hd ha
        exact pk_rem (a := l + d * a) (d := 10) (by omega) (by omega) (by omega)
      · rw [if_neg h2]
        split
        next => decide
        next => decide
section RYARD
variable {h : AH} {a : Nat} {τ : TT} {y : YT}
theorem r_likes (H : Lo h) (ha : RO a) (V : VT τ) (R : RY τ (hI h a) y) (K : RK τ h y) (T : RT h τ) {k p : Nat} (hk : k < tH τ) (hp : p < tP τ) : F_X5_likes h 145 a (nI k) (nI p) = some (lkP τ y k p) := by
  have v1 := V.1
  have v2 := V.2
  have e2 : hI h a (10 + p) = y 2 p := (R.2.1 p hp).2
  have e3 : hI h 146 (17 + p) = tY τ 3 p := (T.2.2.1 p hp).2.2
  have e7 : hI h a (34 + k) = y 7 k := (R.2.2.2 k (by omega)).1
  have e5 : hI h 154 k = y 5 k := (K k hk).1
  have e6 : hI h 155 k = y 6 k := (K k hk).2
  have e9 : hI h a 0 = y 0 9 := R.1.1
  have e0 : hI h 146 0 = nI (tP τ) := T.1
  have hPz : ¬ nI (tP τ) = 0 := nI_ne0 (by omega) (by omega)
  have h10 : ¬ (10 : Int32) = 0 := by decide
  unfold F_X5_likes lkP
  simp only [o145_ck H, al_10, al_17, al_34, r_ld H ha (show 10 + p < 52 by omega), o145_R0 H, o145_R17 H, o145_R18 H, o146_ld H (show 17 + p < 50 by omega), r_ld H ha (show 34 + k < 52 by omega), o155_ld H (show k < 5 by omega), o154_ld H (show k < 5 by omega), r_ld0 H ha, o146_l0 H, Option.bind_some, e2, e3, e7, e5, e6, e9, e0, rmI, if_neg hPz, if_neg h10]
  have q0 : ¬ (2 : Int32) = 0 := by decide
  have q1 : ¬ (2 : Int32) = 1 := by decide
  have h71 : ¬ (1 : Int32) = 0 := by decide
  by_cases h7 : y 7 k = nI p
  · simp only [h7, not_true_eq_false, if_false, Option.bind_some, if_true]
    by_cases h50 : y 5 k = 0
    · simp only [h50, if_true]
    · by_cases h51 : y 5 k = 1
      · simp only [h51, h71, if_true, if_false]
      · by_cases h52 : y 5 k = 2
        · simp only [h52, q0, q1, if_true, if_false]
          rfl
        · simp only [h50, h51, h52, if_false]
          by_cases hr : nI p = rmd (y 6 k) (nI (tP τ))
          · rw [if_pos hr, if_neg (by unfold rmd at hr; exact not_not_intro hr.symm)]
          · rw [if_neg hr, if_pos (by unfold rmd at hr; exact fun z => hr z.symm)]
  · simp only [h7, not_false_eq_true, if_true, Option.bind_some, if_false, Int32.sub_zero]
    by_cases h50 : y 5 k = 0
    · simp only [h50, if_true]
    · by_cases h51 : y 5 k = 1
      · simp only [h51, h71, if_true, if_false]
      · by_cases h52 : y 5 k = 2
        · simp only [h52, q0, q1, if_true, if_false]
          rfl
        · simp only [h50, h51, h52, if_false]
          by_cases hr : nI p = rmd (y 6 k) (nI (tP τ))
          · rw [if_pos hr, if_neg (by unfold rmd at hr; exact not_not_intro hr.symm)]
          · rw [if_neg hr, if_pos (by unfold rmd at hr; exact fun z => hr z.symm)]
def bsM (b : Int32 × Int32) : Int32 := if b.1 = -1 then -1000000 else b.2
theorem r_best_loop {β : Type} {kk : Int32 → Int32 → Int32 → Option β} (H : Lo h) (ha : RO a) (V : VT τ) (L : VL τ y) (R : RY τ (hI h a) y) (K : RK τ h y) (T : RT h τ) {k : Nat} (hk : k < tH τ) : ∀ (m i f : Nat), i + m = tP τ → m < f → L_X5_bestOf_9 h 145 a (nI k) kk f (bsP τ y k i).1 (bsM (bsP τ y k i)) (nI i) = kk (bsP τ y k (tP τ)).1 (bsM (bsP τ y k (tP τ))) (nI (tP τ)) := by
  have v1 := V.1
  intro m
  induction m with
  | zero =>
    intro i f e hf
    obtain ⟨f, rfl⟩ : ∃ g, f = g + 1 := ⟨f - 1, by omega⟩
    have hi : i = tP τ := by omega
    subst hi
    unfold L_X5_bestOf_9
    rw [o145_R0 H, Option.bind_some, o146_l0 H, Option.bind_some, T.1, if_pos (nI_le (Nat.le_refl _) (by omega))]
  | succ m ih =>
    intro i f e hf
    obtain ⟨f, rfl⟩ : ∃ g, f = g + 1 := ⟨f - 1, by omega⟩
    unfold L_X5_bestOf_9
    have e3 : hI h a (18 + i) = y 3 i := (R.2.2.1 i (by omega)).1
    simp only [o145_R0 H, o146_l0 H, Option.bind_some, T.1, if_neg (nI_ge (show i < tP τ by omega) (show tP τ < 2 ^ 31 by omega)), al_18, r_ld H ha (show 18 + i < 52 by omega), e3, r_likes H ha V R K T hk (show i < tP τ by omega), nI_1]
    have hb : bsP τ y k (i + 1) = if ¬ y 3 i = -1 then bsP τ y k i else if (bsP τ y k i).1 = -1 then (nI i, lkP τ y k i) else if lkP τ y k i ≤ (bsP τ y k i).2 then bsP τ y k i else (nI i, lkP τ y k i) := rfl
    have go := ih (i + 1) f (by omega) (by omega)
    have hm : bsM (nI i, lkP τ y k i) = lkP τ y k i := if_neg (nI_m1 (by omega))
    by_cases he : y 3 i = -1
    · rw [if_neg (not_not_intro he)] at hb
      simp only [he, not_true_eq_false, if_false]
      by_cases h1 : (bsP τ y k i).1 = -1
      · rw [if_pos h1] at hb
        rw [hb, hm] at go
        have hm2 : bsM (bsP τ y k i) = -1000000 := if_pos h1
        simp only [hm2, if_neg (lk_low V L hk (show i < tP τ by omega)), Option.bind_some]
        exact go
      · rw [if_neg h1] at hb
        have hm2 : bsM (bsP τ y k i) = (bsP τ y k i).2 := if_neg h1
        by_cases h2 : lkP τ y k i ≤ (bsP τ y k i).2
        · rw [if_pos h2] at hb
          rw [hb, hm2] at go
          simp only [hm2, h2, if_true, Option.bind_some]
          exact go
        · rw [if_neg h2] at hb
          rw [hb, hm] at go
          simp only [hm2, h2, if_false, Option.bind_some]
          exact go
    · rw [if_pos he] at hb
      rw [hb] at go
      simp only [he, not_false_eq_true, if_true, Option.bind_some]
      exact go
theorem r_best (H : Lo h) (ha : RO a) (V : VT τ) (L : VL τ y) (R : RY τ (hI h a) y) (K : RK τ h y) (T : RT h τ) {k : Nat} (hk : k < tH τ) : F_X5_bestOf h 145 a (nI k) = some (bsP τ y k (tP τ)).1 := by
  have v1 := V.1
  unfold F_X5_bestOf
  rw [o145_ck H, Option.bind_some]
  exact r_best_loop H ha V L R K T hk (tP τ) 0 FU (by omega) (by unfold FU; omega)
end RYARD
end
section
/-! a DAY on the reference's side -/
def laP (τ : TT) (y : YT) (j : Nat) : Int32 := if j < tH τ then plP τ (dyP τ y j) j else -1
theorem ebP_up {y y' : YT} {p : Nat} {v : Int32} (hp0 : y 3 p = -1) (hv : ¬ v = -1) (h3 : ∀ q, y' 3 q = if q = p then v else y 3 q) : ∀ n, ebP y' n = if p < n then ebP y n ||| (1 <<< (nI p &&& 31)) else ebP y n := by
  intro n
  induction n with
  | zero => rfl
  | succ n ih =>
    unfold ebP
    rw [h3 n, ih]
    by_cases hn : n = p
    · subst hn
      rw [if_pos rfl, if_neg hv, if_neg (Nat.lt_irrefl n), if_pos (Nat.lt_succ_self n), if_pos hp0]
    · rw [if_neg hn]
      by_cases hlt : p < n
      · rw [if_pos hlt, if_pos (by omega : p < n + 1)]
        by_cases he : y 3 n = -1
        · rw [if_pos he, if_pos he]
        · rw [if_neg he, if_neg he, Int32.or_assoc, Int32.or_assoc, Int32.or_comm (1 <<< (nI p &&& 31))]
      · rw [if_neg hlt, if_neg (by omega : ¬ p < n + 1)]
theorem ebP_congr {y y' : YT} (h3 : ∀ q, y' 3 q = y 3 q) : ∀ n, ebP y' n = ebP y n := by
  intro n
  induction n with
  | zero => rfl
  | succ n ih => unfold ebP; rw [h3 n, ih]
theorem ebP_0 {y : YT} (h3 : ∀ q, y 3 q = -1) : ∀ n, ebP y n = 0 := by
  intro n
  induction n with
  | zero => rfl
  | succ n ih => unfold ebP; rw [h3 n, if_pos rfl, ih]
theorem VL.dy {τ : TT} {y : YT} (L : VL τ y) (n : Nat) : VL τ (dyP τ y n) := by
  obtain ⟨l1, l2, l3⟩ := L
  unfold VL
  rw [dyP_row τ y 2 (by omega), dyP_row τ y 6 (by omega), dyP_row τ y 0 (by omega)]
  exact ⟨l1, l2, l3⟩
theorem RK.dy {τ : TT} {h : AH} {y : YT} (K : RK τ h y) (n : Nat) : RK τ h (dyP τ y n) := by
  unfold RK at K ⊢
  rw [dyP_row τ y 5 (by omega), dyP_row τ y 6 (by omega)]
  exact K
theorem RT.fs {h h' : AH} {τ : TT} {S : List Nat} (T : RT h τ) (F : Fs h h' S) (hn : 146 ∉ S) : RT h' τ := by
  unfold RT at T ⊢
  rw [F.2.2.2 146 hn]
  exact T
theorem RK.fs {h h' : AH} {τ : TT} {y : YT} {S : List Nat} (K : RK τ h y) (F : Fs h h' S) (h4 : 154 ∉ S) (h5 : 155 ∉ S) : RK τ h' y := by
  unfold RK at K ⊢
  rw [F.2.2.2 154 h4, F.2.2.2 155 h5]
  exact K
theorem ro_not {a : Nat} (ha : RO a) : 146 ∉ [a, 156] ∧ 154 ∉ [a, 156] ∧ 155 ∉ [a, 156] ∧ a ≠ 156 := by
  rcases ha with e | e <;> subst e <;> decide
section RGOES
variable {a : Nat} {τ : TT} {y : YT}
theorem r_clear_loop {β : Type} {kk : AH → Int32 → Option β} (ha : RO a) : ∀ (m i f : Nat) (h : AH), Lo h → i + m = 8 → m < f → L_X5_goes_2 145 a kk f h (nI i) = kk (sA h a (fun j => if 18 + i ≤ j ∧ j < 26 then -1 else if 26 + i ≤ j ∧ j < 34 then 0 else hI h a j)) (nI 8) := by
  intro m
  induction m with
  | zero =>
    intro i f h H e hf
    obtain ⟨f, rfl⟩ : ∃ g, f = g + 1 := ⟨f - 1, by omega⟩
    have hi : i = 8 := by omega
    subst hi
    unfold L_X5_goes_2
    rw [if_pos (by decide), sA_eq (funext fun j => by rw [if_neg (by omega), if_neg (by omega)])]
  | succ m ih =>
    intro i f h H e hf
    obtain ⟨f, rfl⟩ : ∃ g, f = g + 1 := ⟨f - 1, by omega⟩
    have hi : i < 8 := by omega
    have h8 : ¬ (8 : Int32) ≤ nI i := nI_ge (b := 8) hi (by omega)
    unfold L_X5_goes_2
    rw [if_neg h8, al_18, r_st H ha (by omega), Option.bind_some, al_26, r_st (H.sA _ _) ha (by omega), Option.bind_some, nI_1, ih (i + 1) f _ ((H.sA _ _).sA _ _) (by omega) (by omega), sA_sA, sA_sA]
    congr 2
    funext j
    simp only [hI_sA, if_true, upd]
    by_cases h1 : j = 18 + i
    · rw [if_neg (show ¬ (18 + (i + 1) ≤ j ∧ j < 26) by omega), if_neg (show ¬ (26 + (i + 1) ≤ j ∧ j < 34) by omega), if_neg (show ¬ j = 26 + i by omega), if_pos h1, if_pos (show 18 + i ≤ j ∧ j < 26 by omega)]
    · by_cases h2 : j = 26 + i
      · rw [if_neg (show ¬ (18 + (i + 1) ≤ j ∧ j < 26) by omega), if_neg (show ¬ (26 + (i + 1) ≤ j ∧ j < 34) by omega), if_pos h2, if_neg (show ¬ (18 + i ≤ j ∧ j < 26) by omega), if_pos (show 26 + i ≤ j ∧ j < 34 by omega)]
      · simp only [h1, h2, if_false]
        by_cases h3 : 18 + i ≤ j ∧ j < 26
        · rw [if_pos h3, if_pos (by omega)]
        · rw [if_neg h3, if_neg (by omega)]
          by_cases h4 : 26 + i ≤ j ∧ j < 34
          · rw [if_pos h4, if_pos (by omega)]
          · rw [if_neg h4, if_neg (by omega)]
theorem RY.laid {h : AH} {z : YT} (R : RY τ (hI h a) z) (ha : RO a) (g : Nat → Int32) : RY τ (hI (sA h 156 g) a) z := by
  rw [hI_sA, if_neg (ro_not ha).2.2.2]
  exact R
theorem RY.egg {h : AH} {z : YT} (R : RY τ (hI h a) z) (V : VT τ) {k p : Nat} (hk : k < tH τ) (hp : p < tP τ) : RY τ (upd (upd (upd (upd (upd (hI h a) (18 + p) (nI k)) (26 + p) (if rgB τ z p then 1 else 0)) (34 + k) (nI p)) (39 + k) (z 8 k + (if rgB τ z p then 1 else 0))) (44 + k) (z 9 k + (if rgB τ z p then 0 else 1))) (egP τ z k p) := by
  have v1 := V.1
  have v2 := V.2
  obtain ⟨⟨r1, r2, r3, r4, r5⟩, r6, r7, r8⟩ := R
  unfold egP
  refine ⟨⟨?_, ?_, ?_, ?_, ?_⟩, fun q hq => ?_, fun q hq => ?_, fun q hq => ?_⟩
  · have c1 : ¬ 0 = 18 + p := by omega
    have c2 : ¬ 0 = 26 + p := by omega
    have c3 : ¬ 0 = 34 + k := by omega
    have c4 : ¬ 0 = 39 + k := by omega
    have c5 : ¬ 0 = 44 + k := by omega
    simp only [upd, if_neg c1, if_neg c2, if_neg c3, if_neg c4, if_neg c5]
    simpa [up2] using r1
  · have c1 : ¬ 1 = 18 + p := by omega
    have c2 : ¬ 1 = 26 + p := by omega
    have c3 : ¬ 1 = 34 + k := by omega
    have c4 : ¬ 1 = 39 + k := by omega
    have c5 : ¬ 1 = 44 + k := by omega
    simp only [upd, if_neg c1, if_neg c2, if_neg c3, if_neg c4, if_neg c5]
    simpa [up2] using r2
  · have c1 : ¬ 49 = 18 + p := by omega
    have c2 : ¬ 49 = 26 + p := by omega
    have c3 : ¬ 49 = 34 + k := by omega
    have c4 : ¬ 49 = 39 + k := by omega
    have c5 : ¬ 49 = 44 + k := by omega
    simp only [upd, if_neg c1, if_neg c2, if_neg c3, if_neg c4, if_neg c5]
    simpa [up2] using r3
  · have c1 : ¬ 50 = 18 + p := by omega
    have c2 : ¬ 50 = 26 + p := by omega
    have c3 : ¬ 50 = 34 + k := by omega
    have c4 : ¬ 50 = 39 + k := by omega
    have c5 : ¬ 50 = 44 + k := by omega
    simp only [upd, if_neg c1, if_neg c2, if_neg c3, if_neg c4, if_neg c5]
    simpa [up2] using r4
  · have c1 : ¬ 51 = 18 + p := by omega
    have c2 : ¬ 51 = 26 + p := by omega
    have c3 : ¬ 51 = 34 + k := by omega
    have c4 : ¬ 51 = 39 + k := by omega
    have c5 : ¬ 51 = 44 + k := by omega
    simp only [upd, if_neg c1, if_neg c2, if_neg c3, if_neg c4, if_neg c5]
    simpa [up2] using r5
  · have c : ∀ u, (u = 2 ∨ u = 10) → ¬ u + q = 18 + p ∧ ¬ u + q = 26 + p ∧ ¬ u + q = 34 + k ∧ ¬ u + q = 39 + k ∧ ¬ u + q = 44 + k := fun u hu => by omega
    obtain ⟨c1, c2, c3, c4, c5⟩ := c 2 (Or.inl rfl)
    obtain ⟨d1, d2, d3, d4, d5⟩ := c 10 (Or.inr rfl)
    simp only [upd, if_neg c1, if_neg c2, if_neg c3, if_neg c4, if_neg c5, if_neg d1, if_neg d2, if_neg d3, if_neg d4, if_neg d5]
    simpa [up2] using r6 q hq
  · have c1 : ¬ 18 + q = 26 + p := by omega
    have c2 : ¬ 18 + q = 34 + k ∧ ¬ 18 + q = 39 + k ∧ ¬ 18 + q = 44 + k := by omega
    have c3 : ¬ 26 + q = 34 + k ∧ ¬ 26 + q = 39 + k ∧ ¬ 26 + q = 44 + k := by omega
    have c4 : (26 + q = 18 + p) = False := by simp; omega
    simp only [upd, if_neg c1, if_neg c2.1, if_neg c2.2.1, if_neg c2.2.2, if_neg c3.1, if_neg c3.2.1, if_neg c3.2.2, c4, if_false]
    by_cases hqp : q = p
    · subst hqp
      simp [up2]
    · have n1 : ¬ 18 + q = 18 + p := by omega
      have n2 : ¬ 26 + q = 26 + p := by omega
      simp only [if_neg n1, if_neg n2]
      simpa [up2, hqp] using r7 q hq
  · have c1 : ¬ 34 + q = 18 + p ∧ ¬ 34 + q = 26 + p ∧ ¬ 34 + q = 39 + k ∧ ¬ 34 + q = 44 + k := by omega
    have c2 : ¬ 39 + q = 18 + p ∧ ¬ 39 + q = 26 + p ∧ ¬ 39 + q = 34 + k ∧ ¬ 39 + q = 44 + k := by omega
    have c3 : ¬ 44 + q = 18 + p ∧ ¬ 44 + q = 26 + p ∧ ¬ 44 + q = 34 + k ∧ ¬ 44 + q = 39 + k := by omega
    simp only [upd, if_neg c1.1, if_neg c1.2.1, if_neg c1.2.2.1, if_neg c1.2.2.2, if_neg c2.1, if_neg c2.2.1, if_neg c2.2.2.1, if_neg c2.2.2.2, if_neg c3.1, if_neg c3.2.1, if_neg c3.2.2.1, if_neg c3.2.2.2]
    by_cases hqk : q = k
    · subst hqk
      simp [up2]
    · have n1 : ¬ 34 + q = 34 + k := by omega
      have n2 : ¬ 39 + q = 39 + k := by omega
      have n3 : ¬ 44 + q = 44 + k := by omega
      simp only [if_neg n1, if_neg n2, if_neg n3]
      simpa [up2, hqk] using r8 q hq
/-- hen i's turn, when there is one: what the loop's body comes to -/
theorem r_pl {z : YT} {x3 : Int32} (hth : z 0 10 = 0 ∨ z 0 10 = 1) (hx3 : x3 = if z 0 10 = 1 then 1 else 0) (i : Nat) : (Option.bind (α := Int32) (if ¬ x3 = 0 then some 0 else if ¬ z 5 i = 1 then some 1 else if ¬ z 0 9 - z 0 9 / 2 * 2 = 0 then some 0 else some 1) fun q3 => (if q3 = 0 then some (-1) else some (bsP τ z i (tP τ)).1)) = some (plP τ z i) := by
  unfold plP
  rw [hx3]
  rcases hth with hz | hz
  · rw [hz]
    by_cases h51 : z 5 i = 1
    · by_cases hr : z 0 9 - z 0 9 / 2 * 2 = 0
      · have hr' : rmd (z 0 9) 2 = 0 := hr
        simp [h51, hr, hr']
      · have hr' : ¬ rmd (z 0 9) 2 = 0 := hr
        simp [h51, hr, hr']
    · simp [h51]
  · rw [hz]
    simp
theorem ob_assoc {α γ β : Type} (X : Option α) (F : α → Option γ) (Gk : γ → Option β) : (Option.bind X fun q => Option.bind (F q) Gk) = Option.bind (Option.bind X F) Gk := by
  cases X <;> rfl
theorem r_step_none {β : Type} {kk : AH → Int32 → Int32 → Option β} {z : YT} {h : AH} {x2 x3 : Int32} {i f : Nat} (ha : RO a) (V : VT τ) (L : VL τ z) (hth : z 0 10 = 0 ∨ z 0 10 = 1) (hx3 : x3 = if z 0 10 = 1 then 1 else 0) (H : Lo h) (T : RT h τ) (K : RK τ h z) (R : RY τ (hI h a) z) (hin : i < tH τ) (hz : plP τ z i = -1) : L_X5_goes_46 145 a x3 kk (f + 1) h x2 (nI i) = L_X5_goes_46 145 a x3 kk f (sI h 156 i (-1)) x2 (nI (i + 1)) := by
  have v2 := V.2
  have hi : i < 5 := by omega
  have h5 : ¬ (5 : Int32) ≤ nI i := nI_ge (b := 5) hi (by omega)
  have h2 : ¬ (2 : Int32) = 0 := by decide
  have e5 : hI h 154 i = z 5 i := (K i hin).1
  have e0 : hI h a 0 = z 0 9 := R.1.1
  have hp := r_pl (τ := τ) hth hx3 i
  rw [hz] at hp
  conv => lhs; unfold L_X5_goes_46
  simp only [if_neg h5, o145_R0 H, o146_l25 H, Option.bind_some, T.2.1, if_neg (nI_ge hin (show tH τ < 2 ^ 31 by omega)), o145_R17 H, o145_R19 H, o154_ld H hi, e5, r_ld0 H ha, e0, rmI, if_neg h2, r_best H ha V L R K T hin]
  rw [ob_assoc, hp, Option.bind_some]
  simp only [o156_st H hi, Option.bind_some, nI_1, if_true]
theorem r_step_out {β : Type} {kk : AH → Int32 → Int32 → Option β} {h : AH} {x2 x3 : Int32} {i f : Nat} (V : VT τ) (H : Lo h) (T : RT h τ) (hin : ¬ i < tH τ) (hi : i < 5) : L_X5_goes_46 145 a x3 kk (f + 1) h x2 (nI i) = L_X5_goes_46 145 a x3 kk f (sI h 156 i (-1)) x2 (nI (i + 1)) := by
  have v2 := V.2
  have h5 : ¬ (5 : Int32) ≤ nI i := nI_ge (b := 5) hi (by omega)
  conv => lhs; unfold L_X5_goes_46
  simp only [if_neg h5, o145_R0 H, o146_l25 H, Option.bind_some, T.2.1, if_pos (nI_le (show tH τ ≤ i by omega) (show i < 2 ^ 31 by omega)), if_true, o145_R19 H, o156_st H hi, nI_1]
/-- what laying changes in the reference's row -/
def egT (τ : TT) (z : YT) (t : Nat → Int32) (i p : Nat) : Nat → Int32 := upd (upd (upd (upd (upd t (18 + p) (nI i)) (26 + p) (if rgB τ z p then 1 else 0)) (34 + i) (nI p)) (39 + i) (z 8 i + (if rgB τ z p then 1 else 0))) (44 + i) (z 9 i + (if rgB τ z p then 0 else 1))
theorem r_step_some {β : Type} {kk : AH → Int32 → Int32 → Option β} {z : YT} {h : AH} {x2 x3 : Int32} {i f p : Nat} (ha : RO a) (V : VT τ) (L : VL τ z) (hth : z 0 10 = 0 ∨ z 0 10 = 1) (hx3 : x3 = if z 0 10 = 1 then 1 else 0) (H : Lo h) (T : RT h τ) (K : RK τ h z) (R : RY τ (hI h a) z) (hin : i < tH τ) (hp : p < tP τ) (hz : plP τ z i = nI p) : L_X5_goes_46 145 a x3 kk (f + 1) h x2 (nI i) = L_X5_goes_46 145 a x3 kk f (sA (sI h 156 i (nI p)) a (egT τ z (hI h a) i p)) (x2 ||| (1 <<< (nI p &&& 31))) (nI (i + 1)) := by
  have v1 := V.1
  have v2 := V.2
  have hi : i < 5 := by omega
  have h5 : ¬ (5 : Int32) ≤ nI i := nI_ge (b := 5) hi (by omega)
  have h2 : ¬ (2 : Int32) = 0 := by decide
  have h14 : ¬ (14 : Int32) = 0 := by decide
  have q10 : ¬ (1 : Int32) = 0 := by decide
  have e5 : hI h 154 i = z 5 i := (K i hin).1
  have e0 : hI h a 0 = z 0 9 := R.1.1
  have hpl := r_pl (τ := τ) hth hx3 i
  rw [hz] at hpl
  have nd := (ro_not ha).2.2.2
  have hne : ¬ nI p = -1 := nI_m1 (by omega)
  have hbest := r_best H ha V L R K T hin
  obtain ⟨-, -, d, hd, ed⟩ := L
  conv => lhs; unfold L_X5_goes_46
  simp only [if_neg h5, o145_R0 H, o146_l25 H, Option.bind_some, T.2.1, if_neg (nI_ge hin (show tH τ < 2 ^ 31 by omega)), o145_R17 H, o145_R19 H, o154_ld H hi, e5, r_ld0 H ha, e0, rmI, if_neg h2, hbest]
  rw [ob_assoc, hpl, Option.bind_some]
  have H1 : Lo (sI h 156 i (nI p)) := H.sA _ _
  have er : nI d - nI d / 14 * 14 = nI (d % 14) := pk_rem (a := d) (d := 14) (by omega) (by omega) (by omega)
  have hm14 : d % 14 < 14 := Nat.mod_lt _ (by omega)
  have ea : hI (sI h 156 i (nI p)) a = hI h a := by rw [hI_sA, if_neg nd]
  have e146 : hI (sI h 156 i (nI p)) 146 = hI h 146 := by rw [hI_sA, if_neg (by decide)]
  have e16 : hI h 146 (36 + d % 14) = tY τ 6 (d % 14) := T.2.2.2.2 _ hm14
  have e1p : hI h a (2 + p) = z 1 p := (R.2.1 p hp).1
  have e0d : hI h a 0 = nI d := by rw [e0, ed]
  have hB : rgB τ z p = decide (tY τ 6 (d % 14) = z 1 p) := by unfold rgB; rw [ed, nI_clamp (by omega)]
  have e39 : hI h a (39 + i) = z 8 i := (R.2.2.2 i hi).2.1
  have e44 : hI h a (44 + i) = z 9 i := (R.2.2.2 i hi).2.2
  have b1 : 36 + d % 14 < 50 := by omega
  have b2 : 2 + p < 52 := by omega
  have b3 : 18 + p < 52 := by omega
  have b4 : 26 + p < 52 := by omega
  have b5 : 34 + i < 52 := by omega
  have b6 : 39 + i < 52 := by omega
  have b7 : 44 + i < 52 := by omega
  simp only [o156_st H hi, Option.bind_some, nI_1, if_neg hne, o145_R0 H1, r_ld0 H1 ha, ea, e0d, if_neg h14, er, al_36, al_2, al_18, al_26, al_34, al_39, al_44, o146_ld H1 b1, e146, e16, r_ld H1 ha b2, e1p, r_st H1 ha b3]
  unfold egT
  rw [hB]
  by_cases hr : tY τ 6 (d % 14) = z 1 p
  · rw [decide_eq_true hr]
    simp only [hr, not_true_eq_false, if_false, Option.bind_some, if_neg q10]
    rw [r_st (H1.sA _ _) ha b4, Option.bind_some, r_st ((H1.sA _ _).sA _ _) ha b5, Option.bind_some, r_ld (((H1.sA _ _).sA _ _).sA _ _) ha b6, Option.bind_some, r_st (((H1.sA _ _).sA _ _).sA _ _) ha b6, Option.bind_some, r_ld ((((H1.sA _ _).sA _ _).sA _ _).sA _ _) ha b7, Option.bind_some, r_st ((((H1.sA _ _).sA _ _).sA _ _).sA _ _) ha b7, Option.bind_some, Option.bind_some]
    simp only [sA_sA, hI_sA, if_true, if_neg nd]
    have w1 : upd (upd (upd (hI h a) (18 + p) (nI i)) (26 + p) 1) (34 + i) (nI p) (39 + i) = z 8 i := by
      simp only [upd, if_neg (show ¬ 39 + i = 34 + i by omega), if_neg (show ¬ 39 + i = 26 + p by omega), if_neg (show ¬ 39 + i = 18 + p by omega), e39]
    rw [w1]
    have w2 : upd (upd (upd (upd (hI h a) (18 + p) (nI i)) (26 + p) 1) (34 + i) (nI p)) (39 + i) (z 8 i + 1) (44 + i) = z 9 i := by
      simp only [upd, if_neg (show ¬ 44 + i = 39 + i by omega), if_neg (show ¬ 44 + i = 34 + i by omega), if_neg (show ¬ 44 + i = 26 + p by omega), if_neg (show ¬ 44 + i = 18 + p by omega), e44]
    rw [w2]
  · rw [decide_eq_false hr]
    simp only [hr, not_false_eq_true, if_true, Option.bind_some, Bool.false_eq_true, if_false]
    rw [r_st (H1.sA _ _) ha b4, Option.bind_some, r_st ((H1.sA _ _).sA _ _) ha b5, Option.bind_some, r_ld (((H1.sA _ _).sA _ _).sA _ _) ha b6, Option.bind_some, r_st (((H1.sA _ _).sA _ _).sA _ _) ha b6, Option.bind_some, r_ld ((((H1.sA _ _).sA _ _).sA _ _).sA _ _) ha b7, Option.bind_some, r_st ((((H1.sA _ _).sA _ _).sA _ _).sA _ _) ha b7, Option.bind_some, Option.bind_some]
    simp only [sA_sA, hI_sA, if_true, if_neg nd]
    have w1 : upd (upd (upd (hI h a) (18 + p) (nI i)) (26 + p) 0) (34 + i) (nI p) (39 + i) = z 8 i := by
      simp only [upd, if_neg (show ¬ 39 + i = 34 + i by omega), if_neg (show ¬ 39 + i = 26 + p by omega), if_neg (show ¬ 39 + i = 18 + p by omega), e39]
    rw [w1]
    have w2 : upd (upd (upd (upd (hI h a) (18 + p) (nI i)) (26 + p) 0) (34 + i) (nI p)) (39 + i) (z 8 i + 0) (44 + i) = z 9 i := by
      simp only [upd, if_neg (show ¬ 44 + i = 39 + i by omega), if_neg (show ¬ 44 + i = 34 + i by omega), if_neg (show ¬ 44 + i = 26 + p by omega), if_neg (show ¬ 44 + i = 18 + p by omega), e44]
    rw [w2]
theorem r_goes_loop {β : Type} {kk : AH → Int32 → Int32 → Option β} (ha : RO a) (V : VT τ) (L : VL τ y) (hth : y 0 10 = 0 ∨ y 0 10 = 1) {x3 : Int32} (hx3 : x3 = if y 0 10 = 1 then 1 else 0) : ∀ (m i f : Nat) (h : AH) (z : YT) (x2 : Int32), Lo h → RT h τ → RK τ h y → z = dyP τ y (min i (tH τ)) → x2 = ebP z 8 → RY τ (hI h a) z → (∀ j, j < i → hI h 156 j = laP τ y j) → i + m = 5 → m < f →
    ∃ h' x', L_X5_goes_46 145 a x3 kk f h x2 (nI i) = kk h' x' (nI 5) ∧ x' = ebP (dyP τ y (tH τ)) 8 ∧ Fs h h' [a, 156] ∧ RY τ (hI h' a) (dyP τ y (tH τ)) ∧ ∀ j, j < 5 → hI h' 156 j = laP τ y j := by
  have v1 := V.1
  have v2 := V.2
  obtain ⟨na, nb, nc, nd⟩ := ro_not ha
  intro m
  induction m with
  | zero =>
    intro i f h z x2 H T K ez ex R La e hf
    obtain ⟨f, rfl⟩ : ∃ g, f = g + 1 := ⟨f - 1, by omega⟩
    have hi : i = 5 := by omega
    subst hi
    have hmin : min 5 (tH τ) = tH τ := by omega
    rw [hmin] at ez
    subst ez
    refine ⟨h, x2, ?_, ex, Fs.refl _ _, R, La⟩
    conv => lhs; unfold L_X5_goes_46
    rw [if_pos (by decide)]
  | succ m ih =>
    intro i f h z x2 H T K ez ex R La e hf
    obtain ⟨f, rfl⟩ : ∃ g, f = g + 1 := ⟨f - 1, by omega⟩
    have hi : i < 5 := by omega
    have laid : ∀ v : Int32, v = laP τ y i → ∀ j, j < i + 1 → hI (sI h 156 i v) 156 j = laP τ y j := by
      intro v hv j hj
      rw [hI_sA, if_pos rfl]
      unfold upd
      by_cases hji : j = i
      · rw [if_pos hji, hji, hv]
      · rw [if_neg hji]
        exact La j (by omega)
    by_cases hin : i < tH τ
    · have hmin : min i (tH τ) = i := by omega
      have hmin1 : min (i + 1) (tH τ) = i + 1 := by omega
      rw [hmin] at ez
      have K' : RK τ h z := by rw [ez]; exact K.dy i
      have L' : VL τ z := by rw [ez]; exact L.dy i
      have e10 : z 0 10 = y 0 10 := by rw [ez, dyP_row τ y 0 (Or.inl rfl)]
      have hl : laP τ y i = plP τ z i := by rw [ez]; exact if_pos hin
      have hn : dyP τ y (i + 1) = hnP τ z i := by rw [ez]; rfl
      rcases plP_place V z i with hz | ⟨p, hp, hz, hz3⟩
      · rw [r_step_none ha V L' (by rw [e10]; exact hth) (by rw [e10]; exact hx3) H T K' R hin hz]
        have F1 : Fs h (sI h 156 i (-1)) [a, 156] := (Fs.refl h _).sA (by simp)
        have hn2 : dyP τ y (i + 1) = z := by rw [hn]; unfold hnP; rw [if_pos hz]
        obtain ⟨h', x', g1, g2, g3, g4, g5⟩ := ih (i + 1) f _ z x2 (H.fs F1) (T.fs F1 na) (K.fs F1 nb nc) (by rw [hmin1, hn2]) ex (R.laid ha _) (laid _ (by rw [hl, hz])) (by omega) (by omega)
        exact ⟨h', x', g1, g2, F1.trans g3, g4, g5⟩
      · rw [r_step_some ha V L' (by rw [e10]; exact hth) (by rw [e10]; exact hx3) H T K' R hin hp hz]
        have hne : ¬ nI p = -1 := nI_m1 (by omega)
        have hn2 : dyP τ y (i + 1) = egP τ z i p := by rw [hn]; unfold hnP; rw [if_neg (by rw [hz]; exact hne), hz, nI_clamp (by omega)]
        have RE : RY τ (egT τ z (hI h a) i p) (egP τ z i p) := R.egg V hin hp
        have F1 : Fs h (sA (sI h 156 i (nI p)) a (egT τ z (hI h a) i p)) [a, 156] := ((Fs.refl h _).sA (by simp)).sA (by simp)
        have heb : x2 ||| (1 <<< (nI p &&& 31)) = ebP (egP τ z i p) 8 := by
          rw [ex, ebP_up (y := z) (y' := egP τ z i p) (p := p) (v := nI i) hz3 (nI_m1 (by omega)) (fun q => by simp [egP, up2]) 8, if_pos (by omega)]
        have R2 : RY τ (hI (sA (sI h 156 i (nI p)) a (egT τ z (hI h a) i p)) a) (egP τ z i p) := by rw [hI_sA, if_pos rfl]; exact RE
        have La2 : ∀ j, j < i + 1 → hI (sA (sI h 156 i (nI p)) a (egT τ z (hI h a) i p)) 156 j = laP τ y j := by
          intro j hj
          rw [hI_sA, if_neg (fun z => nd z.symm)]
          exact laid (nI p) (by rw [hl, hz]) j hj
        obtain ⟨h', x', g1, g2, g3, g4, g5⟩ := ih (i + 1) f _ (egP τ z i p) _ (H.fs F1) (T.fs F1 na) (K.fs F1 nb nc) (by rw [hmin1, hn2]) heb R2 La2 (by omega) (by omega)
        exact ⟨h', x', g1, g2, F1.trans g3, g4, g5⟩
    · rw [r_step_out V H T hin hi]
      have F1 : Fs h (sI h 156 i (-1)) [a, 156] := (Fs.refl h _).sA (by simp)
      have hl : laP τ y i = -1 := if_neg hin
      have hmin : min i (tH τ) = min (i + 1) (tH τ) := by omega
      obtain ⟨h', x', g1, g2, g3, g4, g5⟩ := ih (i + 1) f _ z x2 (H.fs F1) (T.fs F1 na) (K.fs F1 nb nc) (by rw [← hmin, ez]) ex (R.laid ha _) (laid _ hl.symm) (by omega) (by omega)
      exact ⟨h', x', g1, g2, F1.trans g3, g4, g5⟩
theorem RY.clear {h : AH} (R : RY τ (hI h a) y) (V : VT τ) : RY τ (fun j => if 18 + 0 ≤ j ∧ j < 26 then -1 else if 26 + 0 ≤ j ∧ j < 34 then 0 else hI h a j) (dyP τ y 0) := by
  have v1 := V.1
  obtain ⟨⟨r1, r2, r3, r4, r5⟩, r6, r7, r8⟩ := R
  unfold dyP
  refine ⟨⟨?_, ?_, ?_, ?_, ?_⟩, fun q hq => ?_, fun q hq => ?_, fun q hq => ?_⟩
  · simpa [upR] using r1
  · simpa [upR] using r2
  · simpa [upR] using r3
  · simpa [upR] using r4
  · simpa [upR] using r5
  · have := r6 q hq
    refine ⟨?_, ?_⟩
    · show (if 18 + 0 ≤ 2 + q ∧ 2 + q < 26 then (-1 : Int32) else if 26 + 0 ≤ 2 + q ∧ 2 + q < 34 then 0 else hI h a (2 + q)) = _
      rw [if_neg (by omega), if_neg (by omega), upR_ne (by decide), upR_ne (by decide)]
      exact this.1
    · show (if 18 + 0 ≤ 10 + q ∧ 10 + q < 26 then (-1 : Int32) else if 26 + 0 ≤ 10 + q ∧ 10 + q < 34 then 0 else hI h a (10 + q)) = _
      rw [if_neg (by omega), if_neg (by omega), upR_ne (by decide), upR_ne (by decide)]
      exact this.2
  · refine ⟨?_, ?_⟩
    · show (if 18 + 0 ≤ 18 + q ∧ 18 + q < 26 then (-1 : Int32) else if 26 + 0 ≤ 18 + q ∧ 18 + q < 34 then 0 else hI h a (18 + q)) = _
      rw [if_pos (by omega), upR_ne (by decide), upR_eq]
    · show (if 18 + 0 ≤ 26 + q ∧ 26 + q < 26 then (-1 : Int32) else if 26 + 0 ≤ 26 + q ∧ 26 + q < 34 then 0 else hI h a (26 + q)) = _
      rw [if_neg (by omega), if_pos (by omega), upR_eq]
  · have := r8 q hq
    refine ⟨?_, ?_, ?_⟩
    · show (if 18 + 0 ≤ 34 + q ∧ 34 + q < 26 then (-1 : Int32) else if 26 + 0 ≤ 34 + q ∧ 34 + q < 34 then 0 else hI h a (34 + q)) = _
      rw [if_neg (by omega), if_neg (by omega), upR_ne (by decide), upR_ne (by decide)]
      exact this.1
    · show (if 18 + 0 ≤ 39 + q ∧ 39 + q < 26 then (-1 : Int32) else if 26 + 0 ≤ 39 + q ∧ 39 + q < 34 then 0 else hI h a (39 + q)) = _
      rw [if_neg (by omega), if_neg (by omega), upR_ne (by decide), upR_ne (by decide)]
      exact this.2.1
    · show (if 18 + 0 ≤ 44 + q ∧ 44 + q < 26 then (-1 : Int32) else if 26 + 0 ≤ 44 + q ∧ 44 + q < 34 then 0 else hI h a (44 + q)) = _
      rw [if_neg (by omega), if_neg (by omega), upR_ne (by decide), upR_ne (by decide)]
      exact this.2.2
/-- a DAY, on the reference's side -/
theorem r_goes {h : AH} (H : Lo h) (ha : RO a) (V : VT τ) (L : VL τ y) (hth : y 0 10 = 0 ∨ y 0 10 = 1) (R : RY τ (hI h a) y) (K : RK τ h y) (T : RT h τ) : ∃ h', F_X5_goes h 145 a = some (ebP (dayP τ y) 8, h') ∧ Fs h h' [a, 156] ∧ RY τ (hI h' a) (dayP τ y) ∧ ∀ j, j < 5 → hI h' 156 j = laP τ y j := by
  have v1 := V.1
  have v2 := V.2
  obtain ⟨na, nb, nc, nd⟩ := ro_not ha
  have RC := R.clear V
  have F1 : Fs h (sA h a (fun j => if 18 + 0 ≤ j ∧ j < 26 then -1 else if 26 + 0 ≤ j ∧ j < 34 then 0 else hI h a j)) [a, 156] := (Fs.refl h _).sA (by simp)
  have hc := fun kk => r_clear_loop (β := Int32 × AH) (kk := kk) ha 8 0 FU h H (by omega) (by unfold FU; omega)
  rw [nI_0] at hc
  unfold F_X5_goes
  rw [o145_ck H, Option.bind_some, hc]
  have H1 := H.fs F1
  have R1 : RY τ (hI (sA h a (fun j => if 18 + 0 ≤ j ∧ j < 26 then -1 else if 26 + 0 ≤ j ∧ j < 34 then 0 else hI h a j)) a) (dyP τ y 0) := by rw [hI_sA, if_pos rfl]; exact RC
  generalize hg : sA h a (fun j => if 18 + 0 ≤ j ∧ j < 26 then -1 else if 26 + 0 ≤ j ∧ j < 34 then 0 else hI h a j) = h1 at F1 H1 R1
  have e1 : hI h1 a 1 = y 0 10 := by
    have := R1.1.2.1
    rw [dyP_row τ y 0 (Or.inl rfl)] at this
    exact this
  have hq6 : (if ¬ hI h1 a 1 = 1 then some (0 : Int32) else some 1) = some (if y 0 10 = 1 then 1 else 0) := by
    rw [e1]
    by_cases hz : y 0 10 = 1
    · rw [if_neg (not_not_intro hz), if_pos hz]
    · rw [if_pos hz, if_neg hz]
  rw [r_ld1 H1 ha, Option.bind_some, hq6, Option.bind_some]
  have hmin0 : min 0 (tH τ) = 0 := by omega
  have hb0 : (0 : Int32) = ebP (dyP τ y 0) 8 := (ebP_0 (y := dyP τ y 0) (fun q => by simp [dyP, upR]) 8).symm
  obtain ⟨h2, x', g1, g2, g3, g4, g5⟩ := r_goes_loop (kk := fun h29 y30 _ => Option.bind (stA h29 a 10 1 0) fun h32 => Option.bind (ldA h32 a 10 0) fun v33 => Option.bind (stA h32 a 10 0 (v33 + 1)) fun h34 => some (y30, h34)) ha V L hth (x3 := if y 0 10 = 1 then 1 else 0) rfl 5 0 FU h1 (dyP τ y 0) 0 H1 (T.fs F1 na) (K.fs F1 nb nc) (by rw [hmin0]) hb0 R1 (fun j hj => absurd hj (Nat.not_lt_zero j)) (by omega) (by unfold FU; omega)
  rw [nI_0] at g1
  rw [g1]
  have H2 := H1.fs g3
  have e9 : hI (sI h2 a 1 0) a 0 = y 0 9 := by
    rw [hI_sA, if_pos rfl]
    show (if 0 = 1 then (0 : Int32) else hI h2 a 0) = _
    rw [if_neg (by decide), g4.1.1, dyP_row τ y 0 (Or.inl rfl)]
  rw [r_st1 H2 ha, Option.bind_some, r_ld0 (H2.sA _ _) ha, Option.bind_some, e9, r_st0 (H2.sA _ _) ha, Option.bind_some]
  have hx : x' = ebP (dayP τ y) 8 := by
    rw [g2]
    exact (ebP_congr (y := dyP τ y (tH τ)) (y' := dayP τ y) (fun q => by unfold dayP; rw [up2_ne (by omega), up2_ne (by omega)]) 8).symm
  refine ⟨_, by rw [hx], ((F1.trans g3).sA (by simp)).sA (by simp), ?_, fun j hj => ?_⟩
  · rw [hI_sA, if_pos rfl, hI_sA, if_pos rfl]
    obtain ⟨⟨r1, r2, r3, r4, r5⟩, r6, r7, r8⟩ := g4
    unfold dayP
    refine ⟨⟨?_, ?_, ?_, ?_, ?_⟩, fun q hq => ?_, fun q hq => ?_, fun q hq => ?_⟩
    · simp [upd, up2]
    · simp [upd, up2]
    · simpa [upd, up2] using r3
    · simpa [upd, up2] using r4
    · simpa [upd, up2] using r5
    · have := r6 q hq
      simp only [upd, if_neg (show ¬ 2 + q = 0 by omega), if_neg (show ¬ 2 + q = 1 by omega), if_neg (show ¬ 10 + q = 0 by omega), if_neg (show ¬ 10 + q = 1 by omega)]
      simpa [up2] using this
    · have := r7 q hq
      simp only [upd, if_neg (show ¬ 18 + q = 0 by omega), if_neg (show ¬ 18 + q = 1 by omega), if_neg (show ¬ 26 + q = 0 by omega), if_neg (show ¬ 26 + q = 1 by omega)]
      simpa [up2] using this
    · have := r8 q hq
      simp only [upd, if_neg (show ¬ 34 + q = 0 by omega), if_neg (show ¬ 34 + q = 1 by omega), if_neg (show ¬ 39 + q = 0 by omega), if_neg (show ¬ 39 + q = 1 by omega), if_neg (show ¬ 44 + q = 0 by omega), if_neg (show ¬ 44 + q = 1 by omega)]
      simpa [up2] using this
  · rw [hI_sA, if_neg (fun z => nd z.symm), hI_sA, if_neg (fun z => nd z.symm)]
    exact g5 j hj
end RGOES
end
