-- ===== PART A: goes FIRST, ahead of the names: the tables' words, and 'selects' of the private methods out of them =====
/-- a private method of a class that the tables say can be made, by its rows of tables_1 -/
def lw_okq (q : MethodName × Nat) : Prop := (q.1.cls ≠ "java/lang/invoke/MethodHandle" ∧ q.1.cls ≠ "java/lang/invoke/VarHandle") ∧ Cond.instantiable q.1.cls q.2 ∈ tables_1 ∧ Cond.privateMethod q.1 ∈ tables_1 ∧ Cond.instanceMethod q.1 ∈ tables_1
theorem lw_p0 : lw_okq (⟨"OthersHours", "textOf", "(I)LOthersHours$Text;"⟩, 15) := ⟨⟨by decide +kernel, by decide +kernel⟩, List.mem_of_getElem? (i := 12) (by decide +kernel), List.mem_of_getElem? (i := 174) (by decide +kernel), List.mem_of_getElem? (i := 175) (by decide +kernel)⟩
theorem lw_p1 : lw_okq (⟨"OthersHours$Text", "canGoOn", "(I)Z"⟩, 7) := ⟨⟨by decide +kernel, by decide +kernel⟩, List.mem_of_getElem? (i := 20) (by decide +kernel), List.mem_of_getElem? (i := 182) (by decide +kernel), List.mem_of_getElem? (i := 183) (by decide +kernel)⟩
theorem lw_p2 : lw_okq (⟨"OthersHours$Text", "figureEnd", "(II)I"⟩, 7) := ⟨⟨by decide +kernel, by decide +kernel⟩, List.mem_of_getElem? (i := 20) (by decide +kernel), List.mem_of_getElem? (i := 186) (by decide +kernel), List.mem_of_getElem? (i := 187) (by decide +kernel)⟩
theorem lw_p3 : lw_okq (⟨"OthersHours$Text", "figure", "(II)I"⟩, 7) := ⟨⟨by decide +kernel, by decide +kernel⟩, List.mem_of_getElem? (i := 20) (by decide +kernel), List.mem_of_getElem? (i := 190) (by decide +kernel), List.mem_of_getElem? (i := 191) (by decide +kernel)⟩
theorem lw_p4 : lw_okq (⟨"OthersHours$Text", "isToldAhead", "(I)Z"⟩, 7) := ⟨⟨by decide +kernel, by decide +kernel⟩, List.mem_of_getElem? (i := 20) (by decide +kernel), List.mem_of_getElem? (i := 195) (by decide +kernel), List.mem_of_getElem? (i := 196) (by decide +kernel)⟩
theorem lw_p5 : lw_okq (⟨"OthersHours", "settleTexts", "()V"⟩, 15) := ⟨⟨by decide +kernel, by decide +kernel⟩, List.mem_of_getElem? (i := 12) (by decide +kernel), List.mem_of_getElem? (i := 207) (by decide +kernel), List.mem_of_getElem? (i := 208) (by decide +kernel)⟩
theorem lw_p6 : lw_okq (⟨"OthersHours", "ageDays", "()V"⟩, 15) := ⟨⟨by decide +kernel, by decide +kernel⟩, List.mem_of_getElem? (i := 12) (by decide +kernel), List.mem_of_getElem? (i := 242) (by decide +kernel), List.mem_of_getElem? (i := 243) (by decide +kernel)⟩
theorem lw_p7 : lw_okq (⟨"OthersHours", "found", "(I)I"⟩, 15) := ⟨⟨by decide +kernel, by decide +kernel⟩, List.mem_of_getElem? (i := 12) (by decide +kernel), List.mem_of_getElem? (i := 295) (by decide +kernel), List.mem_of_getElem? (i := 296) (by decide +kernel)⟩
theorem lw_p8 : lw_okq (⟨"OthersHours", "dayBy", "(I)LOthersHours$Day;"⟩, 15) := ⟨⟨by decide +kernel, by decide +kernel⟩, List.mem_of_getElem? (i := 12) (by decide +kernel), List.mem_of_getElem? (i := 314) (by decide +kernel), List.mem_of_getElem? (i := 315) (by decide +kernel)⟩
theorem lw_p9 : lw_okq (⟨"OthersHours$Day", "obey", "(LOthersHours$Text;)V"⟩, 9) := ⟨⟨by decide +kernel, by decide +kernel⟩, List.mem_of_getElem? (i := 61) (by decide +kernel), List.mem_of_getElem? (i := 327) (by decide +kernel), List.mem_of_getElem? (i := 328) (by decide +kernel)⟩
theorem lw_p10 : lw_okq (⟨"OthersHours$Day", "spend", "(II)V"⟩, 9) := ⟨⟨by decide +kernel, by decide +kernel⟩, List.mem_of_getElem? (i := 61) (by decide +kernel), List.mem_of_getElem? (i := 343) (by decide +kernel), List.mem_of_getElem? (i := 344) (by decide +kernel)⟩
theorem lw_p11 : lw_okq (⟨"OthersHours", "fewestBodies", "(LOthersHours$Day;II)I"⟩, 15) := ⟨⟨by decide +kernel, by decide +kernel⟩, List.mem_of_getElem? (i := 12) (by decide +kernel), List.mem_of_getElem? (i := 423) (by decide +kernel), List.mem_of_getElem? (i := 424) (by decide +kernel)⟩
theorem lw_p12 : lw_okq (⟨"OthersHours", "spanOf", "(I)I"⟩, 15) := ⟨⟨by decide +kernel, by decide +kernel⟩, List.mem_of_getElem? (i := 12) (by decide +kernel), List.mem_of_getElem? (i := 437) (by decide +kernel), List.mem_of_getElem? (i := 438) (by decide +kernel)⟩
theorem lw_p13 : lw_okq (⟨"OthersHours$Day", "rowTo", "(IIZ)I"⟩, 9) := ⟨⟨by decide +kernel, by decide +kernel⟩, List.mem_of_getElem? (i := 61) (by decide +kernel), List.mem_of_getElem? (i := 449) (by decide +kernel), List.mem_of_getElem? (i := 450) (by decide +kernel)⟩
theorem lw_p14 : lw_okq (⟨"OthersHours$Day", "rowAhead", "(IIZ)I"⟩, 9) := ⟨⟨by decide +kernel, by decide +kernel⟩, List.mem_of_getElem? (i := 61) (by decide +kernel), List.mem_of_getElem? (i := 456) (by decide +kernel), List.mem_of_getElem? (i := 457) (by decide +kernel)⟩
theorem lw_p15 : lw_okq (⟨"OthersHours", "bothGain", "(IIII)Z"⟩, 15) := ⟨⟨by decide +kernel, by decide +kernel⟩, List.mem_of_getElem? (i := 12) (by decide +kernel), List.mem_of_getElem? (i := 468) (by decide +kernel), List.mem_of_getElem? (i := 469) (by decide +kernel)⟩
def lw_privs_1 : List (MethodName × Nat) := [(⟨"OthersHours", "textOf", "(I)LOthersHours$Text;"⟩, 15), (⟨"OthersHours$Text", "canGoOn", "(I)Z"⟩, 7), (⟨"OthersHours$Text", "figureEnd", "(II)I"⟩, 7), (⟨"OthersHours$Text", "figure", "(II)I"⟩, 7), (⟨"OthersHours$Text", "isToldAhead", "(I)Z"⟩, 7), (⟨"OthersHours", "settleTexts", "()V"⟩, 15), (⟨"OthersHours", "ageDays", "()V"⟩, 15), (⟨"OthersHours", "found", "(I)I"⟩, 15), (⟨"OthersHours", "dayBy", "(I)LOthersHours$Day;"⟩, 15), (⟨"OthersHours$Day", "obey", "(LOthersHours$Text;)V"⟩, 9), (⟨"OthersHours$Day", "spend", "(II)V"⟩, 9), (⟨"OthersHours", "fewestBodies", "(LOthersHours$Day;II)I"⟩, 15), (⟨"OthersHours", "spanOf", "(I)I"⟩, 15), (⟨"OthersHours$Day", "rowTo", "(IIZ)I"⟩, 9), (⟨"OthersHours$Day", "rowAhead", "(IIZ)I"⟩, 9), (⟨"OthersHours", "bothGain", "(IIII)Z"⟩, 15)]
theorem lw_r1 : ∀ q ∈ lw_privs_1, lw_okq q := List.forall_mem_cons.mpr ⟨lw_p0, List.forall_mem_cons.mpr ⟨lw_p1, List.forall_mem_cons.mpr ⟨lw_p2, List.forall_mem_cons.mpr ⟨lw_p3, List.forall_mem_cons.mpr ⟨lw_p4, List.forall_mem_cons.mpr ⟨lw_p5, List.forall_mem_cons.mpr ⟨lw_p6, List.forall_mem_cons.mpr ⟨lw_p7, List.forall_mem_cons.mpr ⟨lw_p8, List.forall_mem_cons.mpr ⟨lw_p9, List.forall_mem_cons.mpr ⟨lw_p10, List.forall_mem_cons.mpr ⟨lw_p11, List.forall_mem_cons.mpr ⟨lw_p12, List.forall_mem_cons.mpr ⟨lw_p13, List.forall_mem_cons.mpr ⟨lw_p14, List.forall_mem_cons.mpr ⟨lw_p15, fun _ h => absurd h List.not_mem_nil⟩⟩⟩⟩⟩⟩⟩⟩⟩⟩⟩⟩⟩⟩⟩⟩
theorem lw_p16 : lw_okq (⟨"OthersHours", "matesOf", "(II)I"⟩, 15) := ⟨⟨by decide +kernel, by decide +kernel⟩, List.mem_of_getElem? (i := 12) (by decide +kernel), List.mem_of_getElem? (i := 476) (by decide +kernel), List.mem_of_getElem? (i := 477) (by decide +kernel)⟩
theorem lw_p17 : lw_okq (⟨"OthersHours", "freedBy", "(I)I"⟩, 15) := ⟨⟨by decide +kernel, by decide +kernel⟩, List.mem_of_getElem? (i := 12) (by decide +kernel), List.mem_of_getElem? (i := 490) (by decide +kernel), List.mem_of_getElem? (i := 491) (by decide +kernel)⟩
theorem lw_p18 : lw_okq (⟨"OthersHours", "explainsSeen", "(LOthersHours$Day;)Z"⟩, 15) := ⟨⟨by decide +kernel, by decide +kernel⟩, List.mem_of_getElem? (i := 12) (by decide +kernel), List.mem_of_getElem? (i := 530) (by decide +kernel), List.mem_of_getElem? (i := 531) (by decide +kernel)⟩
theorem lw_p19 : lw_okq (⟨"OthersHours", "mixPerson", "(JI)J"⟩, 15) := ⟨⟨by decide +kernel, by decide +kernel⟩, List.mem_of_getElem? (i := 12) (by decide +kernel), List.mem_of_getElem? (i := 600) (by decide +kernel), List.mem_of_getElem? (i := 601) (by decide +kernel)⟩
theorem lw_p20 : lw_okq (⟨"OthersHoursModel", "finds", "(I)I"⟩, 25) := ⟨⟨by decide +kernel, by decide +kernel⟩, List.mem_of_getElem? (i := 624) (by decide +kernel), List.mem_of_getElem? (i := 719) (by decide +kernel), List.mem_of_getElem? (i := 720) (by decide +kernel)⟩
theorem lw_p21 : lw_okq (⟨"OthersHoursModel", "lacks", "(III)I"⟩, 25) := ⟨⟨by decide +kernel, by decide +kernel⟩, List.mem_of_getElem? (i := 624) (by decide +kernel), List.mem_of_getElem? (i := 731) (by decide +kernel), List.mem_of_getElem? (i := 732) (by decide +kernel)⟩
theorem lw_p22 : lw_okq (⟨"OthersHoursModel", "readsGrants", "()I"⟩, 25) := ⟨⟨by decide +kernel, by decide +kernel⟩, List.mem_of_getElem? (i := 624) (by decide +kernel), List.mem_of_getElem? (i := 763) (by decide +kernel), List.mem_of_getElem? (i := 764) (by decide +kernel)⟩
theorem lw_p23 : lw_okq (⟨"OthersHoursModel", "nobodyGrants", "()V"⟩, 25) := ⟨⟨by decide +kernel, by decide +kernel⟩, List.mem_of_getElem? (i := 624) (by decide +kernel), List.mem_of_getElem? (i := 767) (by decide +kernel), List.mem_of_getElem? (i := 768) (by decide +kernel)⟩
theorem lw_p24 : lw_okq (⟨"OthersHoursModel", "readsGrant", "()Z"⟩, 25) := ⟨⟨by decide +kernel, by decide +kernel⟩, List.mem_of_getElem? (i := 624) (by decide +kernel), List.mem_of_getElem? (i := 771) (by decide +kernel), List.mem_of_getElem? (i := 772) (by decide +kernel)⟩
theorem lw_p25 : lw_okq (⟨"OthersHoursModel", "figure", "(II)I"⟩, 25) := ⟨⟨by decide +kernel, by decide +kernel⟩, List.mem_of_getElem? (i := 624) (by decide +kernel), List.mem_of_getElem? (i := 775) (by decide +kernel), List.mem_of_getElem? (i := 776) (by decide +kernel)⟩
theorem lw_p26 : lw_okq (⟨"OthersHoursModel", "hour", "(I)I"⟩, 25) := ⟨⟨by decide +kernel, by decide +kernel⟩, List.mem_of_getElem? (i := 624) (by decide +kernel), List.mem_of_getElem? (i := 779) (by decide +kernel), List.mem_of_getElem? (i := 780) (by decide +kernel)⟩
theorem lw_p27 : lw_okq (⟨"OthersHoursModel", "isGranted", "(II)Z"⟩, 25) := ⟨⟨by decide +kernel, by decide +kernel⟩, List.mem_of_getElem? (i := 624) (by decide +kernel), List.mem_of_getElem? (i := 783) (by decide +kernel), List.mem_of_getElem? (i := 784) (by decide +kernel)⟩
theorem lw_p28 : lw_okq (⟨"OthersHoursModel", "readsOrders", "()I"⟩, 25) := ⟨⟨by decide +kernel, by decide +kernel⟩, List.mem_of_getElem? (i := 624) (by decide +kernel), List.mem_of_getElem? (i := 787) (by decide +kernel), List.mem_of_getElem? (i := 788) (by decide +kernel)⟩
theorem lw_p29 : lw_okq (⟨"OthersHoursModel", "readsOrder", "()Z"⟩, 25) := ⟨⟨by decide +kernel, by decide +kernel⟩, List.mem_of_getElem? (i := 624) (by decide +kernel), List.mem_of_getElem? (i := 791) (by decide +kernel), List.mem_of_getElem? (i := 792) (by decide +kernel)⟩
theorem lw_p30 : lw_okq (⟨"OthersHoursModel", "reads", "()V"⟩, 25) := ⟨⟨by decide +kernel, by decide +kernel⟩, List.mem_of_getElem? (i := 624) (by decide +kernel), List.mem_of_getElem? (i := 799) (by decide +kernel), List.mem_of_getElem? (i := 800) (by decide +kernel)⟩
theorem lw_p31 : lw_okq (⟨"OthersHoursModel", "actsNow", "(II)I"⟩, 25) := ⟨⟨by decide +kernel, by decide +kernel⟩, List.mem_of_getElem? (i := 624) (by decide +kernel), List.mem_of_getElem? (i := 837) (by decide +kernel), List.mem_of_getElem? (i := 838) (by decide +kernel)⟩
def lw_privs_2 : List (MethodName × Nat) := [(⟨"OthersHours", "matesOf", "(II)I"⟩, 15), (⟨"OthersHours", "freedBy", "(I)I"⟩, 15), (⟨"OthersHours", "explainsSeen", "(LOthersHours$Day;)Z"⟩, 15), (⟨"OthersHours", "mixPerson", "(JI)J"⟩, 15), (⟨"OthersHoursModel", "finds", "(I)I"⟩, 25), (⟨"OthersHoursModel", "lacks", "(III)I"⟩, 25), (⟨"OthersHoursModel", "readsGrants", "()I"⟩, 25), (⟨"OthersHoursModel", "nobodyGrants", "()V"⟩, 25), (⟨"OthersHoursModel", "readsGrant", "()Z"⟩, 25), (⟨"OthersHoursModel", "figure", "(II)I"⟩, 25), (⟨"OthersHoursModel", "hour", "(I)I"⟩, 25), (⟨"OthersHoursModel", "isGranted", "(II)Z"⟩, 25), (⟨"OthersHoursModel", "readsOrders", "()I"⟩, 25), (⟨"OthersHoursModel", "readsOrder", "()Z"⟩, 25), (⟨"OthersHoursModel", "reads", "()V"⟩, 25), (⟨"OthersHoursModel", "actsNow", "(II)I"⟩, 25)]
theorem lw_r2 : ∀ q ∈ lw_privs_2, lw_okq q := List.forall_mem_cons.mpr ⟨lw_p16, List.forall_mem_cons.mpr ⟨lw_p17, List.forall_mem_cons.mpr ⟨lw_p18, List.forall_mem_cons.mpr ⟨lw_p19, List.forall_mem_cons.mpr ⟨lw_p20, List.forall_mem_cons.mpr ⟨lw_p21, List.forall_mem_cons.mpr ⟨lw_p22, List.forall_mem_cons.mpr ⟨lw_p23, List.forall_mem_cons.mpr ⟨lw_p24, List.forall_mem_cons.mpr ⟨lw_p25, List.forall_mem_cons.mpr ⟨lw_p26, List.forall_mem_cons.mpr ⟨lw_p27, List.forall_mem_cons.mpr ⟨lw_p28, List.forall_mem_cons.mpr ⟨lw_p29, List.forall_mem_cons.mpr ⟨lw_p30, List.forall_mem_cons.mpr ⟨lw_p31, fun _ h => absurd h List.not_mem_nil⟩⟩⟩⟩⟩⟩⟩⟩⟩⟩⟩⟩⟩⟩⟩⟩
theorem lw_p32 : lw_okq (⟨"OthersHoursModel", "actsBy", "(III)I"⟩, 25) := ⟨⟨by decide +kernel, by decide +kernel⟩, List.mem_of_getElem? (i := 624) (by decide +kernel), List.mem_of_getElem? (i := 841) (by decide +kernel), List.mem_of_getElem? (i := 842) (by decide +kernel)⟩
theorem lw_p33 : lw_okq (⟨"OthersHoursModel", "deepOf", "(II)I"⟩, 25) := ⟨⟨by decide +kernel, by decide +kernel⟩, List.mem_of_getElem? (i := 624) (by decide +kernel), List.mem_of_getElem? (i := 845) (by decide +kernel), List.mem_of_getElem? (i := 846) (by decide +kernel)⟩
theorem lw_p34 : lw_okq (⟨"OthersHoursModel", "freeOf", "(I)I"⟩, 25) := ⟨⟨by decide +kernel, by decide +kernel⟩, List.mem_of_getElem? (i := 624) (by decide +kernel), List.mem_of_getElem? (i := 857) (by decide +kernel), List.mem_of_getElem? (i := 858) (by decide +kernel)⟩
theorem lw_p35 : lw_okq (⟨"OthersHoursModel", "holdsOf", "(I)I"⟩, 25) := ⟨⟨by decide +kernel, by decide +kernel⟩, List.mem_of_getElem? (i := 624) (by decide +kernel), List.mem_of_getElem? (i := 865) (by decide +kernel), List.mem_of_getElem? (i := 866) (by decide +kernel)⟩
theorem lw_p36 : lw_okq (⟨"OthersHoursModel", "wrongedBy", "(I)I"⟩, 25) := ⟨⟨by decide +kernel, by decide +kernel⟩, List.mem_of_getElem? (i := 624) (by decide +kernel), List.mem_of_getElem? (i := 873) (by decide +kernel), List.mem_of_getElem? (i := 874) (by decide +kernel)⟩
theorem lw_p37 : lw_okq (⟨"OthersHoursModel", "gentlestNow", "()I"⟩, 25) := ⟨⟨by decide +kernel, by decide +kernel⟩, List.mem_of_getElem? (i := 624) (by decide +kernel), List.mem_of_getElem? (i := 881) (by decide +kernel), List.mem_of_getElem? (i := 882) (by decide +kernel)⟩
theorem lw_p38 : lw_okq (⟨"OthersHoursModel", "find", "()V"⟩, 25) := ⟨⟨by decide +kernel, by decide +kernel⟩, List.mem_of_getElem? (i := 624) (by decide +kernel), List.mem_of_getElem? (i := 889) (by decide +kernel), List.mem_of_getElem? (i := 890) (by decide +kernel)⟩
theorem lw_p39 : lw_okq (⟨"OthersHoursModel", "lives", "(I)V"⟩, 25) := ⟨⟨by decide +kernel, by decide +kernel⟩, List.mem_of_getElem? (i := 624) (by decide +kernel), List.mem_of_getElem? (i := 893) (by decide +kernel), List.mem_of_getElem? (i := 894) (by decide +kernel)⟩
theorem lw_p40 : lw_okq (⟨"OthersHoursModel", "judgedNow", "()I"⟩, 25) := ⟨⟨by decide +kernel, by decide +kernel⟩, List.mem_of_getElem? (i := 624) (by decide +kernel), List.mem_of_getElem? (i := 910) (by decide +kernel), List.mem_of_getElem? (i := 911) (by decide +kernel)⟩
theorem lw_p41 : lw_okq (⟨"OthersHoursModel", "bodyOf", "(III)I"⟩, 25) := ⟨⟨by decide +kernel, by decide +kernel⟩, List.mem_of_getElem? (i := 624) (by decide +kernel), List.mem_of_getElem? (i := 918) (by decide +kernel), List.mem_of_getElem? (i := 919) (by decide +kernel)⟩
theorem lw_p42 : lw_okq (⟨"OthersHoursModel", "metOf", "(II)I"⟩, 25) := ⟨⟨by decide +kernel, by decide +kernel⟩, List.mem_of_getElem? (i := 624) (by decide +kernel), List.mem_of_getElem? (i := 926) (by decide +kernel), List.mem_of_getElem? (i := 927) (by decide +kernel)⟩
theorem lw_p43 : lw_okq (⟨"OthersHoursModel", "slipsOf", "(II)I"⟩, 25) := ⟨⟨by decide +kernel, by decide +kernel⟩, List.mem_of_getElem? (i := 624) (by decide +kernel), List.mem_of_getElem? (i := 934) (by decide +kernel), List.mem_of_getElem? (i := 935) (by decide +kernel)⟩
theorem lw_p44 : lw_okq (⟨"OthersHoursModel", "soonestOf", "(II)I"⟩, 25) := ⟨⟨by decide +kernel, by decide +kernel⟩, List.mem_of_getElem? (i := 624) (by decide +kernel), List.mem_of_getElem? (i := 943) (by decide +kernel), List.mem_of_getElem? (i := 944) (by decide +kernel)⟩
theorem lw_p45 : lw_okq (⟨"OthersHoursModel", "bodies", "(II)I"⟩, 25) := ⟨⟨by decide +kernel, by decide +kernel⟩, List.mem_of_getElem? (i := 624) (by decide +kernel), List.mem_of_getElem? (i := 947) (by decide +kernel), List.mem_of_getElem? (i := 948) (by decide +kernel)⟩
theorem lw_p46 : lw_okq (⟨"OthersHoursModel", "fewestOf", "(III)I"⟩, 25) := ⟨⟨by decide +kernel, by decide +kernel⟩, List.mem_of_getElem? (i := 624) (by decide +kernel), List.mem_of_getElem? (i := 958) (by decide +kernel), List.mem_of_getElem? (i := 959) (by decide +kernel)⟩
theorem lw_p47 : lw_okq (⟨"OthersHoursModel", "runOf", "(II)I"⟩, 25) := ⟨⟨by decide +kernel, by decide +kernel⟩, List.mem_of_getElem? (i := 624) (by decide +kernel), List.mem_of_getElem? (i := 966) (by decide +kernel), List.mem_of_getElem? (i := 967) (by decide +kernel)⟩
def lw_privs_3 : List (MethodName × Nat) := [(⟨"OthersHoursModel", "actsBy", "(III)I"⟩, 25), (⟨"OthersHoursModel", "deepOf", "(II)I"⟩, 25), (⟨"OthersHoursModel", "freeOf", "(I)I"⟩, 25), (⟨"OthersHoursModel", "holdsOf", "(I)I"⟩, 25), (⟨"OthersHoursModel", "wrongedBy", "(I)I"⟩, 25), (⟨"OthersHoursModel", "gentlestNow", "()I"⟩, 25), (⟨"OthersHoursModel", "find", "()V"⟩, 25), (⟨"OthersHoursModel", "lives", "(I)V"⟩, 25), (⟨"OthersHoursModel", "judgedNow", "()I"⟩, 25), (⟨"OthersHoursModel", "bodyOf", "(III)I"⟩, 25), (⟨"OthersHoursModel", "metOf", "(II)I"⟩, 25), (⟨"OthersHoursModel", "slipsOf", "(II)I"⟩, 25), (⟨"OthersHoursModel", "soonestOf", "(II)I"⟩, 25), (⟨"OthersHoursModel", "bodies", "(II)I"⟩, 25), (⟨"OthersHoursModel", "fewestOf", "(III)I"⟩, 25), (⟨"OthersHoursModel", "runOf", "(II)I"⟩, 25)]
theorem lw_r3 : ∀ q ∈ lw_privs_3, lw_okq q := List.forall_mem_cons.mpr ⟨lw_p32, List.forall_mem_cons.mpr ⟨lw_p33, List.forall_mem_cons.mpr ⟨lw_p34, List.forall_mem_cons.mpr ⟨lw_p35, List.forall_mem_cons.mpr ⟨lw_p36, List.forall_mem_cons.mpr ⟨lw_p37, List.forall_mem_cons.mpr ⟨lw_p38, List.forall_mem_cons.mpr ⟨lw_p39, List.forall_mem_cons.mpr ⟨lw_p40, List.forall_mem_cons.mpr ⟨lw_p41, List.forall_mem_cons.mpr ⟨lw_p42, List.forall_mem_cons.mpr ⟨lw_p43, List.forall_mem_cons.mpr ⟨lw_p44, List.forall_mem_cons.mpr ⟨lw_p45, List.forall_mem_cons.mpr ⟨lw_p46, List.forall_mem_cons.mpr ⟨lw_p47, fun _ h => absurd h List.not_mem_nil⟩⟩⟩⟩⟩⟩⟩⟩⟩⟩⟩⟩⟩⟩⟩⟩
theorem lw_p48 : lw_okq (⟨"OthersHoursModel", "goesOnFrom", "(III)I"⟩, 25) := ⟨⟨by decide +kernel, by decide +kernel⟩, List.mem_of_getElem? (i := 624) (by decide +kernel), List.mem_of_getElem? (i := 970) (by decide +kernel), List.mem_of_getElem? (i := 971) (by decide +kernel)⟩
theorem lw_p49 : lw_okq (⟨"OthersHoursModel", "longest", "(II)I"⟩, 25) := ⟨⟨by decide +kernel, by decide +kernel⟩, List.mem_of_getElem? (i := 624) (by decide +kernel), List.mem_of_getElem? (i := 977) (by decide +kernel), List.mem_of_getElem? (i := 978) (by decide +kernel)⟩
theorem lw_p50 : lw_okq (⟨"OthersHoursModel", "tradeOf", "(IIII)I"⟩, 25) := ⟨⟨by decide +kernel, by decide +kernel⟩, List.mem_of_getElem? (i := 624) (by decide +kernel), List.mem_of_getElem? (i := 985) (by decide +kernel), List.mem_of_getElem? (i := 986) (by decide +kernel)⟩
theorem lw_p51 : lw_okq (⟨"OthersHoursModel", "wouldTrade", "(IIII)Z"⟩, 25) := ⟨⟨by decide +kernel, by decide +kernel⟩, List.mem_of_getElem? (i := 624) (by decide +kernel), List.mem_of_getElem? (i := 989) (by decide +kernel), List.mem_of_getElem? (i := 990) (by decide +kernel)⟩
theorem lw_p52 : lw_okq (⟨"OthersHoursModel", "wants", "(III)Z"⟩, 25) := ⟨⟨by decide +kernel, by decide +kernel⟩, List.mem_of_getElem? (i := 624) (by decide +kernel), List.mem_of_getElem? (i := 993) (by decide +kernel), List.mem_of_getElem? (i := 994) (by decide +kernel)⟩
theorem lw_p53 : lw_okq (⟨"OthersHoursModel", "tradesNow", "()I"⟩, 25) := ⟨⟨by decide +kernel, by decide +kernel⟩, List.mem_of_getElem? (i := 624) (by decide +kernel), List.mem_of_getElem? (i := 1001) (by decide +kernel), List.mem_of_getElem? (i := 1002) (by decide +kernel)⟩
theorem lw_p54 : lw_okq (⟨"OthersHoursModel", "freesOf", "(I)I"⟩, 25) := ⟨⟨by decide +kernel, by decide +kernel⟩, List.mem_of_getElem? (i := 624) (by decide +kernel), List.mem_of_getElem? (i := 1009) (by decide +kernel), List.mem_of_getElem? (i := 1010) (by decide +kernel)⟩
theorem lw_p55 : lw_okq (⟨"OthersHoursModel", "wordNow", "()I"⟩, 25) := ⟨⟨by decide +kernel, by decide +kernel⟩, List.mem_of_getElem? (i := 624) (by decide +kernel), List.mem_of_getElem? (i := 1017) (by decide +kernel), List.mem_of_getElem? (i := 1018) (by decide +kernel)⟩
theorem lw_p56 : lw_okq (⟨"OthersHoursModel", "heirOf", "(II)I"⟩, 25) := ⟨⟨by decide +kernel, by decide +kernel⟩, List.mem_of_getElem? (i := 624) (by decide +kernel), List.mem_of_getElem? (i := 1025) (by decide +kernel), List.mem_of_getElem? (i := 1026) (by decide +kernel)⟩
theorem lw_p57 : lw_okq (⟨"OthersHoursModel", "suspectsNow", "()I"⟩, 25) := ⟨⟨by decide +kernel, by decide +kernel⟩, List.mem_of_getElem? (i := 624) (by decide +kernel), List.mem_of_getElem? (i := 1042) (by decide +kernel), List.mem_of_getElem? (i := 1043) (by decide +kernel)⟩
theorem lw_p58 : lw_okq (⟨"OthersHoursModel", "likelyNow", "()I"⟩, 25) := ⟨⟨by decide +kernel, by decide +kernel⟩, List.mem_of_getElem? (i := 624) (by decide +kernel), List.mem_of_getElem? (i := 1050) (by decide +kernel), List.mem_of_getElem? (i := 1051) (by decide +kernel)⟩
theorem lw_p59 : lw_okq (⟨"OthersHoursModel", "tellsHour", "(JII)J"⟩, 25) := ⟨⟨by decide +kernel, by decide +kernel⟩, List.mem_of_getElem? (i := 624) (by decide +kernel), List.mem_of_getElem? (i := 1070) (by decide +kernel), List.mem_of_getElem? (i := 1071) (by decide +kernel)⟩
def lw_privs_4 : List (MethodName × Nat) := [(⟨"OthersHoursModel", "goesOnFrom", "(III)I"⟩, 25), (⟨"OthersHoursModel", "longest", "(II)I"⟩, 25), (⟨"OthersHoursModel", "tradeOf", "(IIII)I"⟩, 25), (⟨"OthersHoursModel", "wouldTrade", "(IIII)Z"⟩, 25), (⟨"OthersHoursModel", "wants", "(III)Z"⟩, 25), (⟨"OthersHoursModel", "tradesNow", "()I"⟩, 25), (⟨"OthersHoursModel", "freesOf", "(I)I"⟩, 25), (⟨"OthersHoursModel", "wordNow", "()I"⟩, 25), (⟨"OthersHoursModel", "heirOf", "(II)I"⟩, 25), (⟨"OthersHoursModel", "suspectsNow", "()I"⟩, 25), (⟨"OthersHoursModel", "likelyNow", "()I"⟩, 25), (⟨"OthersHoursModel", "tellsHour", "(JII)J"⟩, 25)]
theorem lw_r4 : ∀ q ∈ lw_privs_4, lw_okq q := List.forall_mem_cons.mpr ⟨lw_p48, List.forall_mem_cons.mpr ⟨lw_p49, List.forall_mem_cons.mpr ⟨lw_p50, List.forall_mem_cons.mpr ⟨lw_p51, List.forall_mem_cons.mpr ⟨lw_p52, List.forall_mem_cons.mpr ⟨lw_p53, List.forall_mem_cons.mpr ⟨lw_p54, List.forall_mem_cons.mpr ⟨lw_p55, List.forall_mem_cons.mpr ⟨lw_p56, List.forall_mem_cons.mpr ⟨lw_p57, List.forall_mem_cons.mpr ⟨lw_p58, List.forall_mem_cons.mpr ⟨lw_p59, fun _ h => absurd h List.not_mem_nil⟩⟩⟩⟩⟩⟩⟩⟩⟩⟩⟩⟩
def lw_privs : List (MethodName × Nat) := lw_privs_1 ++ (lw_privs_2 ++ (lw_privs_3 ++ (lw_privs_4)))
def lw_tbl : List Cond := k2_sels lw_privs ++ tables_1
theorem lw_privs_ok : ∀ q ∈ lw_privs, lw_okq q := by
  show ∀ q ∈ lw_privs_1 ++ (lw_privs_2 ++ (lw_privs_3 ++ (lw_privs_4))), lw_okq q
  exact List.forall_mem_append.mpr ⟨lw_r1, List.forall_mem_append.mpr ⟨lw_r2, List.forall_mem_append.mpr ⟨lw_r3, lw_r4⟩⟩⟩

def RX0 : String := "OthersHours$Day"
def TX0 : u_T := fun k => match k with
  | 0 => ("OthersHours$Day", "law", "I", true)
  | 1 => ("OthersHours$Day", "actors", "[I", true)
  | 2 => ("OthersHours$Day", "deeds", "[I", true)
  | 3 => ("OthersHours$Day", "places", "[I", true)
  | 4 => ("OthersHours$Day", "tired", "[I", true)
  | 5 => ("OthersHours$Day", "rows", "[I", true)
  | 6 => ("OthersHours$Day", "rowsAhead", "[I", true)
  | 7 => ("OthersHours$Day", "obeyed", "I", false)
  | _ => ("OthersHours$Day", "stale", "Z", false)
def tyX0 : Nat → FieldType := fun k => match k with
  | 0 => .int
  | 1 => .array .int
  | 2 => .array .int
  | 3 => .array .int
  | 4 => .array .int
  | 5 => .array .int
  | 6 => .array .int
  | 7 => .int
  | _ => .boolean
abbrev wsX00 : List Cond := u_ws RX0 TX0 9
theorem nmX0 : ∀ a, a < 9 → ∀ b, b < 9 → a ≠ b → (TX0 a).2.1 ≠ (TX0 b).2.1 := by decide +kernel
theorem tyX0_ok : ∀ k, k < 9 → parseFieldDescriptor (TX0 k).2.2.1 = some (tyX0 k) := by decide +kernel
abbrev cX0_init : ByteArray := prog_2_method_1_code
def yX0_init : MethodName := ⟨RX0, "<init>", "(I)V"⟩
abbrev cX0_live : ByteArray := prog_2_method_2_code
def yX0_live : MethodName := ⟨RX0, "live", "(LOthersHours$Owners;LOthersHours$Text;[I)V"⟩
abbrev cX0_obey : ByteArray := prog_2_method_3_code
def yX0_obey : MethodName := ⟨RX0, "obey", "(LOthersHours$Text;)V"⟩
abbrev cX0_spend : ByteArray := prog_2_method_4_code
def yX0_spend : MethodName := ⟨RX0, "spend", "(II)V"⟩
abbrev cX0_isObeyed : ByteArray := prog_2_method_5_code
def yX0_isObeyed : MethodName := ⟨RX0, "isObeyed", "(I)Z"⟩
abbrev cX0_bodiesOf : ByteArray := prog_2_method_6_code
def yX0_bodiesOf : MethodName := ⟨RX0, "bodiesOf", "(II)I"⟩
abbrev cX0_hoursIn : ByteArray := prog_2_method_7_code
def yX0_hoursIn : MethodName := ⟨RX0, "hoursIn", "(II)I"⟩
abbrev cX0_longestRow : ByteArray := prog_2_method_8_code
def yX0_longestRow : MethodName := ⟨RX0, "longestRow", "(IZ)I"⟩
abbrev cX0_firstOfRow : ByteArray := prog_2_method_9_code
def yX0_firstOfRow : MethodName := ⟨RX0, "firstOfRow", "(IZ)I"⟩
abbrev cX0_rowTo : ByteArray := prog_2_method_10_code
def yX0_rowTo : MethodName := ⟨RX0, "rowTo", "(IIZ)I"⟩
abbrev cX0_rowAhead : ByteArray := prog_2_method_11_code
def yX0_rowAhead : MethodName := ⟨RX0, "rowAhead", "(IIZ)I"⟩
def RX1 : String := "OthersHours$Owners"
def TX1 : u_T := fun k => match k with
  | _ => ("OthersHours$Owners", "table", "[I", true)
def tyX1 : Nat → FieldType := fun k => match k with
  | _ => .array .int
abbrev wsX10 : List Cond := u_ws RX1 TX1 1
theorem nmX1 : ∀ a, a < 1 → ∀ b, b < 1 → a ≠ b → (TX1 a).2.1 ≠ (TX1 b).2.1 := by decide +kernel
theorem tyX1_ok : ∀ k, k < 1 → parseFieldDescriptor (TX1 k).2.2.1 = some (tyX1 k) := by decide +kernel
abbrev cX1_init : ByteArray := prog_3_method_1_code
def yX1_init : MethodName := ⟨RX1, "<init>", "()V"⟩
abbrev cX1_tell : ByteArray := prog_3_method_2_code
def yX1_tell : MethodName := ⟨RX1, "tell", "(LOthersHours$Text;)V"⟩
abbrev cX1_takeFrom : ByteArray := prog_3_method_3_code
def yX1_takeFrom : MethodName := ⟨RX1, "takeFrom", "(LOthersHours$Owners;)V"⟩
abbrev cX1_setOwner : ByteArray := prog_3_method_4_code
def yX1_setOwner : MethodName := ⟨RX1, "setOwner", "(III)V"⟩
abbrev cX1_bequeath : ByteArray := prog_3_method_5_code
def yX1_bequeath : MethodName := ⟨RX1, "bequeath", "(II)V"⟩
abbrev cX1_owner : ByteArray := prog_3_method_6_code
def yX1_owner : MethodName := ⟨RX1, "owner", "(II)I"⟩
abbrev cX1_steps : ByteArray := prog_3_method_7_code
def yX1_steps : MethodName := ⟨RX1, "steps", "(II)I"⟩
abbrev cX1_actor : ByteArray := prog_3_method_8_code
def yX1_actor : MethodName := ⟨RX1, "actor", "(III)I"⟩
abbrev cX1_wrongedIn : ByteArray := prog_3_method_9_code
def yX1_wrongedIn : MethodName := ⟨RX1, "wrongedIn", "(II)I"⟩
abbrev cX1_rounds : ByteArray := prog_3_method_10_code
def yX1_rounds : MethodName := ⟨RX1, "rounds", "()I"⟩
def RX2 : String := "OthersHours$Sheet"
def TX2 : u_T := fun k => match k with
  | 0 => ("OthersHours$Sheet", "items", "[I", true)
  | 1 => ("OthersHours$Sheet", "form", "I", false)
  | _ => ("OthersHours$Sheet", "size", "I", false)
def tyX2 : Nat → FieldType := fun k => match k with
  | 0 => .array .int
  | 1 => .int
  | _ => .int
abbrev wsX20 : List Cond := u_ws RX2 TX2 3
theorem nmX2 : ∀ a, a < 3 → ∀ b, b < 3 → a ≠ b → (TX2 a).2.1 ≠ (TX2 b).2.1 := by decide +kernel
theorem tyX2_ok : ∀ k, k < 3 → parseFieldDescriptor (TX2 k).2.2.1 = some (tyX2 k) := by decide +kernel
abbrev cX2_init : ByteArray := prog_4_method_1_code
def yX2_init : MethodName := ⟨RX2, "<init>", "()V"⟩
abbrev cX2_isLost : ByteArray := prog_4_method_2_code
def yX2_isLost : MethodName := ⟨RX2, "isLost", "()Z"⟩
abbrev cX2_renew : ByteArray := prog_4_method_3_code
def yX2_renew : MethodName := ⟨RX2, "renew", "(II)V"⟩
abbrev cX2_findingAt : ByteArray := prog_4_method_4_code
def yX2_findingAt : MethodName := ⟨RX2, "findingAt", "(II)I"⟩
abbrev cX2_hasItems : ByteArray := prog_4_method_5_code
def yX2_hasItems : MethodName := ⟨RX2, "hasItems", "(II)Z"⟩
abbrev cX2_put : ByteArray := prog_4_method_6_code
def yX2_put : MethodName := ⟨RX2, "put", "(II)V"⟩
def RX3 : String := "OthersHours$Text"
def TX3 : u_T := fun k => match k with
  | 0 => ("OthersHours$Text", "bytes", "[I", true)
  | 1 => ("OthersHours$Text", "lead", "I", true)
  | 2 => ("OthersHours$Text", "step", "I", true)
  | 3 => ("OthersHours$Text", "lastEnd", "I", true)
  | 4 => ("OthersHours$Text", "once", "Z", true)
  | 5 => ("OthersHours$Text", "length", "I", false)
  | _ => ("OthersHours$Text", "broken", "I", false)
def tyX3 : Nat → FieldType := fun k => match k with
  | 0 => .array .int
  | 1 => .int
  | 2 => .int
  | 3 => .int
  | 4 => .boolean
  | 5 => .int
  | _ => .int
abbrev wsX30 : List Cond := u_ws RX3 TX3 7
theorem nmX3 : ∀ a, a < 7 → ∀ b, b < 7 → a ≠ b → (TX3 a).2.1 ≠ (TX3 b).2.1 := by decide +kernel
theorem tyX3_ok : ∀ k, k < 7 → parseFieldDescriptor (TX3 k).2.2.1 = some (tyX3 k) := by decide +kernel
abbrev cX3_init : ByteArray := prog_5_method_1_code
def yX3_init : MethodName := ⟨RX3, "<init>", "(IIZ)V"⟩
abbrev cX3_append : ByteArray := prog_5_method_2_code
def yX3_append : MethodName := ⟨RX3, "append", "(I)V"⟩
abbrev cX3_clear : ByteArray := prog_5_method_3_code
def yX3_clear : MethodName := ⟨RX3, "clear", "()V"⟩
abbrev cX3_dropLast : ByteArray := prog_5_method_4_code
def yX3_dropLast : MethodName := ⟨RX3, "dropLast", "()V"⟩
abbrev cX3_flaw : ByteArray := prog_5_method_5_code
def yX3_flaw : MethodName := ⟨RX3, "flaw", "()I"⟩
abbrev cX3_entries : ByteArray := prog_5_method_6_code
def yX3_entries : MethodName := ⟨RX3, "entries", "()I"⟩
abbrev cX3_firstOf : ByteArray := prog_5_method_7_code
def yX3_firstOf : MethodName := ⟨RX3, "firstOf", "(I)I"⟩
abbrev cX3_bodyOf : ByteArray := prog_5_method_8_code
def yX3_bodyOf : MethodName := ⟨RX3, "bodyOf", "(I)I"⟩
abbrev cX3_hourOf : ByteArray := prog_5_method_9_code
def yX3_hourOf : MethodName := ⟨RX3, "hourOf", "(I)I"⟩
abbrev cX3_lastOf : ByteArray := prog_5_method_10_code
def yX3_lastOf : MethodName := ⟨RX3, "lastOf", "(I)I"⟩
abbrev cX3_figure : ByteArray := prog_5_method_11_code
def yX3_figure : MethodName := ⟨RX3, "figure", "(II)I"⟩
abbrev cX3_canGoOn : ByteArray := prog_5_method_12_code
def yX3_canGoOn : MethodName := ⟨RX3, "canGoOn", "(I)Z"⟩
abbrev cX3_figureEnd : ByteArray := prog_5_method_13_code
def yX3_figureEnd : MethodName := ⟨RX3, "figureEnd", "(II)I"⟩
abbrev cX3_isToldAhead : ByteArray := prog_5_method_14_code
def yX3_isToldAhead : MethodName := ⟨RX3, "isToldAhead", "(I)Z"⟩
def RX4 : String := "OthersHours"
def TX4 : u_T := fun k => match k with
  | 0 => ("OthersHours", "grants", "LOthersHours$Text;", true)
  | 1 => ("OthersHours", "orders", "LOthersHours$Text;", true)
  | 2 => ("OthersHours", "owners", "LOthersHours$Owners;", true)
  | 3 => ("OthersHours", "supposed", "LOthersHours$Owners;", true)
  | 4 => ("OthersHours", "days", "[LOthersHours$Day;", true)
  | 5 => ("OthersHours", "homes", "[I", true)
  | 6 => ("OthersHours", "worths", "[I", true)
  | 7 => ("OthersHours", "spans", "[I", true)
  | 8 => ("OthersHours", "mates", "[I", true)
  | 9 => ("OthersHours", "seenCells", "[I", true)
  | 10 => ("OthersHours", "seenDeeds", "[I", true)
  | 11 => ("OthersHours", "sheets", "[LOthersHours$Sheet;", true)
  | 12 => ("OthersHours", "seenCount", "I", false)
  | 13 => ("OthersHours", "law", "I", false)
  | _ => ("OthersHours", "finding", "I", false)
def tyX4 : Nat → FieldType := fun k => match k with
  | 0 => .object "OthersHours$Text"
  | 1 => .object "OthersHours$Text"
  | 2 => .object "OthersHours$Owners"
  | 3 => .object "OthersHours$Owners"
  | 4 => .array (.object "OthersHours$Day")
  | 5 => .array .int
  | 6 => .array .int
  | 7 => .array .int
  | 8 => .array .int
  | 9 => .array .int
  | 10 => .array .int
  | 11 => .array (.object "OthersHours$Sheet")
  | 12 => .int
  | 13 => .int
  | _ => .int
abbrev wsX40 : List Cond := u_ws RX4 TX4 15
theorem nmX4 : ∀ a, a < 15 → ∀ b, b < 15 → a ≠ b → (TX4 a).2.1 ≠ (TX4 b).2.1 := by decide +kernel
theorem tyX4_ok : ∀ k, k < 15 → parseFieldDescriptor (TX4 k).2.2.1 = some (tyX4 k) := by decide +kernel
abbrev cX4_init : ByteArray := prog_1_method_1_code
def yX4_init : MethodName := ⟨RX4, "<init>", "()V"⟩
abbrev cX4_type : ByteArray := prog_1_method_2_code
def yX4_type : MethodName := ⟨RX4, "type", "(II)I"⟩
abbrev cX4_wipe : ByteArray := prog_1_method_3_code
def yX4_wipe : MethodName := ⟨RX4, "wipe", "(I)I"⟩
abbrev cX4_undo : ByteArray := prog_1_method_4_code
def yX4_undo : MethodName := ⟨RX4, "undo", "(I)I"⟩
abbrev cX4_fault : ByteArray := prog_1_method_5_code
def yX4_fault : MethodName := ⟨RX4, "fault", "(I)I"⟩
abbrev cX4_setLaw : ByteArray := prog_1_method_6_code
def yX4_setLaw : MethodName := ⟨RX4, "setLaw", "(I)I"⟩
abbrev cX4_home : ByteArray := prog_1_method_7_code
def yX4_home : MethodName := ⟨RX4, "home", "(II)I"⟩
abbrev cX4_worth : ByteArray := prog_1_method_8_code
def yX4_worth : MethodName := ⟨RX4, "worth", "(III)I"⟩
abbrev cX4_read : ByteArray := prog_1_method_9_code
def yX4_read : MethodName := ⟨RX4, "read", "(II)I"⟩
abbrev cX4_owns : ByteArray := prog_1_method_10_code
def yX4_owns : MethodName := ⟨RX4, "owns", "(II)I"⟩
abbrev cX4_acts : ByteArray := prog_1_method_11_code
def yX4_acts : MethodName := ⟨RX4, "acts", "(II)I"⟩
abbrev cX4_deep : ByteArray := prog_1_method_12_code
def yX4_deep : MethodName := ⟨RX4, "deep", "(II)I"⟩
abbrev cX4_free : ByteArray := prog_1_method_13_code
def yX4_free : MethodName := ⟨RX4, "free", "(I)I"⟩
abbrev cX4_holds : ByteArray := prog_1_method_14_code
def yX4_holds : MethodName := ⟨RX4, "holds", "(I)I"⟩
abbrev cX4_wronged : ByteArray := prog_1_method_15_code
def yX4_wronged : MethodName := ⟨RX4, "wronged", "(I)I"⟩
abbrev cX4_gentlest : ByteArray := prog_1_method_16_code
def yX4_gentlest : MethodName := ⟨RX4, "gentlest", "()I"⟩
abbrev cX4_done : ByteArray := prog_1_method_17_code
def yX4_done : MethodName := ⟨RX4, "done", "(I)I"⟩
abbrev cX4_judged : ByteArray := prog_1_method_18_code
def yX4_judged : MethodName := ⟨RX4, "judged", "()I"⟩
abbrev cX4_body : ByteArray := prog_1_method_19_code
def yX4_body : MethodName := ⟨RX4, "body", "(III)I"⟩
abbrev cX4_met : ByteArray := prog_1_method_20_code
def yX4_met : MethodName := ⟨RX4, "met", "(II)I"⟩
abbrev cX4_slips : ByteArray := prog_1_method_21_code
def yX4_slips : MethodName := ⟨RX4, "slips", "(II)I"⟩
abbrev cX4_soonest : ByteArray := prog_1_method_22_code
def yX4_soonest : MethodName := ⟨RX4, "soonest", "(II)I"⟩
abbrev cX4_fewest : ByteArray := prog_1_method_23_code
def yX4_fewest : MethodName := ⟨RX4, "fewest", "(III)I"⟩
abbrev cX4_run : ByteArray := prog_1_method_24_code
def yX4_run : MethodName := ⟨RX4, "run", "(II)I"⟩
abbrev cX4_trade : ByteArray := prog_1_method_25_code
def yX4_trade : MethodName := ⟨RX4, "trade", "(IIII)I"⟩
abbrev cX4_trades : ByteArray := prog_1_method_26_code
def yX4_trades : MethodName := ⟨RX4, "trades", "()I"⟩
abbrev cX4_frees : ByteArray := prog_1_method_27_code
def yX4_frees : MethodName := ⟨RX4, "frees", "(I)I"⟩
abbrev cX4_word : ByteArray := prog_1_method_28_code
def yX4_word : MethodName := ⟨RX4, "word", "()I"⟩
abbrev cX4_heir : ByteArray := prog_1_method_29_code
def yX4_heir : MethodName := ⟨RX4, "heir", "(II)I"⟩
abbrev cX4_seen : ByteArray := prog_1_method_30_code
def yX4_seen : MethodName := ⟨RX4, "seen", "(III)I"⟩
abbrev cX4_forget : ByteArray := prog_1_method_31_code
def yX4_forget : MethodName := ⟨RX4, "forget", "()I"⟩
abbrev cX4_suspects : ByteArray := prog_1_method_32_code
def yX4_suspects : MethodName := ⟨RX4, "suspects", "()I"⟩
abbrev cX4_likely : ByteArray := prog_1_method_33_code
def yX4_likely : MethodName := ⟨RX4, "likely", "()I"⟩
abbrev cX4_sheet : ByteArray := prog_1_method_34_code
def yX4_sheet : MethodName := ⟨RX4, "sheet", "(III)I"⟩
abbrev cX4_lose : ByteArray := prog_1_method_35_code
def yX4_lose : MethodName := ⟨RX4, "lose", "(I)I"⟩
abbrev cX4_lay : ByteArray := prog_1_method_36_code
def yX4_lay : MethodName := ⟨RX4, "lay", "(IIII)I"⟩
abbrev cX4_get : ByteArray := prog_1_method_37_code
def yX4_get : MethodName := ⟨RX4, "get", "(III)I"⟩
abbrev cX4_copy : ByteArray := prog_1_method_38_code
def yX4_copy : MethodName := ⟨RX4, "copy", "(IIIII)I"⟩
abbrev cX4_write : ByteArray := prog_1_method_39_code
def yX4_write : MethodName := ⟨RX4, "write", "(II)I"⟩
abbrev cX4_count : ByteArray := prog_1_method_40_code
def yX4_count : MethodName := ⟨RX4, "count", "(I)I"⟩
abbrev cX4_digest : ByteArray := prog_1_method_41_code
def yX4_digest : MethodName := ⟨RX4, "digest", "()J"⟩
abbrev cX4_isBelow : ByteArray := prog_1_method_42_code
def yX4_isBelow : MethodName := ⟨RX4, "isBelow", "(II)Z"⟩
abbrev cX4_isCell : ByteArray := prog_1_method_43_code
def yX4_isCell : MethodName := ⟨RX4, "isCell", "(II)Z"⟩
abbrev cX4_areTwo : ByteArray := prog_1_method_44_code
def yX4_areTwo : MethodName := ⟨RX4, "areTwo", "(II)Z"⟩
abbrev cX4_isWork : ByteArray := prog_1_method_45_code
def yX4_isWork : MethodName := ⟨RX4, "isWork", "(I)Z"⟩
abbrev cX4_cell : ByteArray := prog_1_method_46_code
def yX4_cell : MethodName := ⟨RX4, "cell", "(II)I"⟩
abbrev cX4_mix : ByteArray := prog_1_method_47_code
def yX4_mix : MethodName := ⟨RX4, "mix", "(JJ)J"⟩
abbrev cX4_textOf : ByteArray := prog_1_method_48_code
def yX4_textOf : MethodName := ⟨RX4, "textOf", "(I)LOthersHours$Text;"⟩
abbrev cX4_settleTexts : ByteArray := prog_1_method_49_code
def yX4_settleTexts : MethodName := ⟨RX4, "settleTexts", "()V"⟩
abbrev cX4_ageDays : ByteArray := prog_1_method_50_code
def yX4_ageDays : MethodName := ⟨RX4, "ageDays", "()V"⟩
abbrev cX4_dayBy : ByteArray := prog_1_method_51_code
def yX4_dayBy : MethodName := ⟨RX4, "dayBy", "(I)LOthersHours$Day;"⟩
abbrev cX4_found : ByteArray := prog_1_method_52_code
def yX4_found : MethodName := ⟨RX4, "found", "(I)I"⟩
abbrev cX4_fewestBodies : ByteArray := prog_1_method_53_code
def yX4_fewestBodies : MethodName := ⟨RX4, "fewestBodies", "(LOthersHours$Day;II)I"⟩
abbrev cX4_spanOf : ByteArray := prog_1_method_54_code
def yX4_spanOf : MethodName := ⟨RX4, "spanOf", "(I)I"⟩
abbrev cX4_bothGain : ByteArray := prog_1_method_55_code
def yX4_bothGain : MethodName := ⟨RX4, "bothGain", "(IIII)Z"⟩
abbrev cX4_matesOf : ByteArray := prog_1_method_56_code
def yX4_matesOf : MethodName := ⟨RX4, "matesOf", "(II)I"⟩
abbrev cX4_mostPairs : ByteArray := prog_1_method_57_code
def yX4_mostPairs : MethodName := ⟨RX4, "mostPairs", "([III)I"⟩
abbrev cX4_freedBy : ByteArray := prog_1_method_58_code
def yX4_freedBy : MethodName := ⟨RX4, "freedBy", "(I)I"⟩
abbrev cX4_explainsSeen : ByteArray := prog_1_method_59_code
def yX4_explainsSeen : MethodName := ⟨RX4, "explainsSeen", "(LOthersHours$Day;)Z"⟩
abbrev cX4_mixPerson : ByteArray := prog_1_method_60_code
def yX4_mixPerson : MethodName := ⟨RX4, "mixPerson", "(JI)J"⟩
def RX5 : String := "OthersHoursModel"
def TX5 : u_T := fun k => match k with
  | 0 => ("OthersHoursModel", "forms", "[I", true)
  | 1 => ("OthersHoursModel", "sizes", "[I", true)
  | 2 => ("OthersHoursModel", "items", "[I", true)
  | 3 => ("OthersHoursModel", "moved", "[I", true)
  | 4 => ("OthersHoursModel", "latest", "I", false)
  | 5 => ("OthersHoursModel", "bytes", "[I", true)
  | 6 => ("OthersHoursModel", "typed", "[I", true)
  | 7 => ("OthersHoursModel", "at", "I", false)
  | 8 => ("OthersHoursModel", "grants", "I", false)
  | 9 => ("OthersHoursModel", "grant", "[I", true)
  | 10 => ("OthersHoursModel", "owner", "[I", true)
  | 11 => ("OthersHoursModel", "orders", "I", false)
  | 12 => ("OthersHoursModel", "order", "[I", true)
  | 13 => ("OthersHoursModel", "law", "I", false)
  | 14 => ("OthersHoursModel", "homes", "[I", true)
  | 15 => ("OthersHoursModel", "worths", "[I", true)
  | 16 => ("OthersHoursModel", "doneOrder", "[I", true)
  | 17 => ("OthersHoursModel", "isDone", "[Z", true)
  | 18 => ("OthersHoursModel", "deeds", "[I", true)
  | 19 => ("OthersHoursModel", "places", "[I", true)
  | 20 => ("OthersHoursModel", "tired", "[I", true)
  | 21 => ("OthersHoursModel", "goesOn", "[I", true)
  | 22 => ("OthersHoursModel", "pairs", "[I", true)
  | 23 => ("OthersHoursModel", "sights", "I", false)
  | _ => ("OthersHoursModel", "seen", "[I", true)
def tyX5 : Nat → FieldType := fun k => match k with
  | 0 => .array .int
  | 1 => .array .int
  | 2 => .array .int
  | 3 => .array .int
  | 4 => .int
  | 5 => .array .int
  | 6 => .array .int
  | 7 => .int
  | 8 => .int
  | 9 => .array .int
  | 10 => .array .int
  | 11 => .int
  | 12 => .array .int
  | 13 => .int
  | 14 => .array .int
  | 15 => .array .int
  | 16 => .array .int
  | 17 => .array .boolean
  | 18 => .array .int
  | 19 => .array .int
  | 20 => .array .int
  | 21 => .array .int
  | 22 => .array .int
  | 23 => .int
  | _ => .array .int
abbrev wsX50 : List Cond := u_ws RX5 TX5 25
theorem nmX5 : ∀ a, a < 25 → ∀ b, b < 25 → a ≠ b → (TX5 a).2.1 ≠ (TX5 b).2.1 := by decide +kernel
theorem tyX5_ok : ∀ k, k < 25 → parseFieldDescriptor (TX5 k).2.2.1 = some (tyX5 k) := by decide +kernel
abbrev cX5_init : ByteArray := prog_7_method_1_code
def yX5_init : MethodName := ⟨RX5, "<init>", "()V"⟩
abbrev cX5_in : ByteArray := prog_7_method_3_code
def yX5_in : MethodName := ⟨RX5, "in", "(JJJ)Z"⟩
abbrev cX5_isTwo : ByteArray := prog_7_method_4_code
def yX5_isTwo : MethodName := ⟨RX5, "isTwo", "(I)Z"⟩
abbrev cX5_isIn : ByteArray := prog_7_method_5_code
def yX5_isIn : MethodName := ⟨RX5, "isIn", "(II)Z"⟩
abbrev cX5_ones : ByteArray := prog_7_method_6_code
def yX5_ones : MethodName := ⟨RX5, "ones", "(I)I"⟩
abbrev cX5_greater : ByteArray := prog_7_method_7_code
def yX5_greater : MethodName := ⟨RX5, "greater", "(II)I"⟩
abbrev cX5_lesser : ByteArray := prog_7_method_8_code
def yX5_lesser : MethodName := ⟨RX5, "lesser", "(II)I"⟩
abbrev cX5_finds : ByteArray := prog_7_method_9_code
def yX5_finds : MethodName := ⟨RX5, "finds", "(I)I"⟩
abbrev cX5_isSheet : ByteArray := prog_7_method_10_code
def yX5_isSheet : MethodName := ⟨RX5, "isSheet", "(I)Z"⟩
abbrev cX5_sheet : ByteArray := prog_7_method_11_code
def yX5_sheet : MethodName := ⟨RX5, "sheet", "(III)I"⟩
abbrev cX5_lose : ByteArray := prog_7_method_12_code
def yX5_lose : MethodName := ⟨RX5, "lose", "(I)I"⟩
abbrev cX5_lacks : ByteArray := prog_7_method_13_code
def yX5_lacks : MethodName := ⟨RX5, "lacks", "(III)I"⟩
abbrev cX5_cut : ByteArray := prog_7_method_14_code
def yX5_cut : MethodName := ⟨RX5, "cut", "(II)I"⟩
abbrev cX5_lay : ByteArray := prog_7_method_15_code
def yX5_lay : MethodName := ⟨RX5, "lay", "(IIII)I"⟩
abbrev cX5_get : ByteArray := prog_7_method_16_code
def yX5_get : MethodName := ⟨RX5, "get", "(III)I"⟩
abbrev cX5_copy : ByteArray := prog_7_method_17_code
def yX5_copy : MethodName := ⟨RX5, "copy", "(IIIII)I"⟩
abbrev cX5_type : ByteArray := prog_7_method_18_code
def yX5_type : MethodName := ⟨RX5, "type", "(II)I"⟩
abbrev cX5_wipe : ByteArray := prog_7_method_19_code
def yX5_wipe : MethodName := ⟨RX5, "wipe", "(I)I"⟩
abbrev cX5_figure : ByteArray := prog_7_method_20_code
def yX5_figure : MethodName := ⟨RX5, "figure", "(II)I"⟩
abbrev cX5_hour : ByteArray := prog_7_method_21_code
def yX5_hour : MethodName := ⟨RX5, "hour", "(I)I"⟩
abbrev cX5_nobodyGrants : ByteArray := prog_7_method_22_code
def yX5_nobodyGrants : MethodName := ⟨RX5, "nobodyGrants", "()V"⟩
abbrev cX5_isGranted : ByteArray := prog_7_method_23_code
def yX5_isGranted : MethodName := ⟨RX5, "isGranted", "(II)Z"⟩
abbrev cX5_readsGrant : ByteArray := prog_7_method_24_code
def yX5_readsGrant : MethodName := ⟨RX5, "readsGrant", "()Z"⟩
abbrev cX5_readsGrants : ByteArray := prog_7_method_25_code
def yX5_readsGrants : MethodName := ⟨RX5, "readsGrants", "()I"⟩
abbrev cX5_readsOrder : ByteArray := prog_7_method_26_code
def yX5_readsOrder : MethodName := ⟨RX5, "readsOrder", "()Z"⟩
abbrev cX5_readsOrders : ByteArray := prog_7_method_27_code
def yX5_readsOrders : MethodName := ⟨RX5, "readsOrders", "()I"⟩
abbrev cX5_reads : ByteArray := prog_7_method_28_code
def yX5_reads : MethodName := ⟨RX5, "reads", "()V"⟩
abbrev cX5_fault : ByteArray := prog_7_method_29_code
def yX5_fault : MethodName := ⟨RX5, "fault", "(I)I"⟩
abbrev cX5_undo : ByteArray := prog_7_method_30_code
def yX5_undo : MethodName := ⟨RX5, "undo", "(I)I"⟩
abbrev cX5_isBody : ByteArray := prog_7_method_31_code
def yX5_isBody : MethodName := ⟨RX5, "isBody", "(I)Z"⟩
abbrev cX5_isHour : ByteArray := prog_7_method_32_code
def yX5_isHour : MethodName := ⟨RX5, "isHour", "(I)Z"⟩
abbrev cX5_setLaw : ByteArray := prog_7_method_33_code
def yX5_setLaw : MethodName := ⟨RX5, "setLaw", "(I)I"⟩
abbrev cX5_home : ByteArray := prog_7_method_34_code
def yX5_home : MethodName := ⟨RX5, "home", "(II)I"⟩
abbrev cX5_worth : ByteArray := prog_7_method_35_code
def yX5_worth : MethodName := ⟨RX5, "worth", "(III)I"⟩
abbrev cX5_read : ByteArray := prog_7_method_36_code
def yX5_read : MethodName := ⟨RX5, "read", "(II)I"⟩
abbrev cX5_owns : ByteArray := prog_7_method_37_code
def yX5_owns : MethodName := ⟨RX5, "owns", "(II)I"⟩
abbrev cX5_deepOf : ByteArray := prog_7_method_38_code
def yX5_deepOf : MethodName := ⟨RX5, "deepOf", "(II)I"⟩
abbrev cX5_actsBy : ByteArray := prog_7_method_39_code
def yX5_actsBy : MethodName := ⟨RX5, "actsBy", "(III)I"⟩
abbrev cX5_actsNow : ByteArray := prog_7_method_40_code
def yX5_actsNow : MethodName := ⟨RX5, "actsNow", "(II)I"⟩
abbrev cX5_acts : ByteArray := prog_7_method_41_code
def yX5_acts : MethodName := ⟨RX5, "acts", "(II)I"⟩
abbrev cX5_deep : ByteArray := prog_7_method_42_code
def yX5_deep : MethodName := ⟨RX5, "deep", "(II)I"⟩
abbrev cX5_freeOf : ByteArray := prog_7_method_43_code
def yX5_freeOf : MethodName := ⟨RX5, "freeOf", "(I)I"⟩
abbrev cX5_free : ByteArray := prog_7_method_44_code
def yX5_free : MethodName := ⟨RX5, "free", "(I)I"⟩
abbrev cX5_holdsOf : ByteArray := prog_7_method_45_code
def yX5_holdsOf : MethodName := ⟨RX5, "holdsOf", "(I)I"⟩
abbrev cX5_holds : ByteArray := prog_7_method_46_code
def yX5_holds : MethodName := ⟨RX5, "holds", "(I)I"⟩
abbrev cX5_wrongedBy : ByteArray := prog_7_method_47_code
def yX5_wrongedBy : MethodName := ⟨RX5, "wrongedBy", "(I)I"⟩
abbrev cX5_wronged : ByteArray := prog_7_method_48_code
def yX5_wronged : MethodName := ⟨RX5, "wronged", "(I)I"⟩
abbrev cX5_gentlestNow : ByteArray := prog_7_method_49_code
def yX5_gentlestNow : MethodName := ⟨RX5, "gentlestNow", "()I"⟩
abbrev cX5_gentlest : ByteArray := prog_7_method_50_code
def yX5_gentlest : MethodName := ⟨RX5, "gentlest", "()I"⟩
abbrev cX5_more : ByteArray := prog_7_method_51_code
def yX5_more : MethodName := ⟨RX5, "more", "(I)I"⟩
abbrev cX5_lives : ByteArray := prog_7_method_52_code
def yX5_lives : MethodName := ⟨RX5, "lives", "(I)V"⟩
abbrev cX5_find : ByteArray := prog_7_method_53_code
def yX5_find : MethodName := ⟨RX5, "find", "()V"⟩
abbrev cX5_done : ByteArray := prog_7_method_54_code
def yX5_done : MethodName := ⟨RX5, "done", "(I)I"⟩
abbrev cX5_judgedNow : ByteArray := prog_7_method_55_code
def yX5_judgedNow : MethodName := ⟨RX5, "judgedNow", "()I"⟩
abbrev cX5_judged : ByteArray := prog_7_method_56_code
def yX5_judged : MethodName := ⟨RX5, "judged", "()I"⟩
abbrev cX5_bodyOf : ByteArray := prog_7_method_57_code
def yX5_bodyOf : MethodName := ⟨RX5, "bodyOf", "(III)I"⟩
abbrev cX5_body : ByteArray := prog_7_method_58_code
def yX5_body : MethodName := ⟨RX5, "body", "(III)I"⟩
abbrev cX5_metOf : ByteArray := prog_7_method_59_code
def yX5_metOf : MethodName := ⟨RX5, "metOf", "(II)I"⟩
abbrev cX5_met : ByteArray := prog_7_method_60_code
def yX5_met : MethodName := ⟨RX5, "met", "(II)I"⟩
abbrev cX5_slipsOf : ByteArray := prog_7_method_61_code
def yX5_slipsOf : MethodName := ⟨RX5, "slipsOf", "(II)I"⟩
abbrev cX5_slips : ByteArray := prog_7_method_62_code
def yX5_slips : MethodName := ⟨RX5, "slips", "(II)I"⟩
abbrev cX5_bodies : ByteArray := prog_7_method_63_code
def yX5_bodies : MethodName := ⟨RX5, "bodies", "(II)I"⟩
abbrev cX5_soonestOf : ByteArray := prog_7_method_64_code
def yX5_soonestOf : MethodName := ⟨RX5, "soonestOf", "(II)I"⟩
abbrev cX5_soonest : ByteArray := prog_7_method_65_code
def yX5_soonest : MethodName := ⟨RX5, "soonest", "(II)I"⟩
abbrev cX5_fewestOf : ByteArray := prog_7_method_66_code
def yX5_fewestOf : MethodName := ⟨RX5, "fewestOf", "(III)I"⟩
abbrev cX5_fewest : ByteArray := prog_7_method_67_code
def yX5_fewest : MethodName := ⟨RX5, "fewest", "(III)I"⟩
abbrev cX5_goesOnFrom : ByteArray := prog_7_method_68_code
def yX5_goesOnFrom : MethodName := ⟨RX5, "goesOnFrom", "(III)I"⟩
abbrev cX5_runOf : ByteArray := prog_7_method_69_code
def yX5_runOf : MethodName := ⟨RX5, "runOf", "(II)I"⟩
abbrev cX5_longest : ByteArray := prog_7_method_70_code
def yX5_longest : MethodName := ⟨RX5, "longest", "(II)I"⟩
abbrev cX5_run : ByteArray := prog_7_method_71_code
def yX5_run : MethodName := ⟨RX5, "run", "(II)I"⟩
abbrev cX5_wants : ByteArray := prog_7_method_72_code
def yX5_wants : MethodName := ⟨RX5, "wants", "(III)Z"⟩
abbrev cX5_wouldTrade : ByteArray := prog_7_method_73_code
def yX5_wouldTrade : MethodName := ⟨RX5, "wouldTrade", "(IIII)Z"⟩
abbrev cX5_tradeOf : ByteArray := prog_7_method_74_code
def yX5_tradeOf : MethodName := ⟨RX5, "tradeOf", "(IIII)I"⟩
abbrev cX5_trade : ByteArray := prog_7_method_75_code
def yX5_trade : MethodName := ⟨RX5, "trade", "(IIII)I"⟩
abbrev cX5_tradesNow : ByteArray := prog_7_method_76_code
def yX5_tradesNow : MethodName := ⟨RX5, "tradesNow", "()I"⟩
abbrev cX5_trades : ByteArray := prog_7_method_77_code
def yX5_trades : MethodName := ⟨RX5, "trades", "()I"⟩
abbrev cX5_freesOf : ByteArray := prog_7_method_78_code
def yX5_freesOf : MethodName := ⟨RX5, "freesOf", "(I)I"⟩
abbrev cX5_frees : ByteArray := prog_7_method_79_code
def yX5_frees : MethodName := ⟨RX5, "frees", "(I)I"⟩
abbrev cX5_wordNow : ByteArray := prog_7_method_80_code
def yX5_wordNow : MethodName := ⟨RX5, "wordNow", "()I"⟩
abbrev cX5_word : ByteArray := prog_7_method_81_code
def yX5_word : MethodName := ⟨RX5, "word", "()I"⟩
abbrev cX5_heirOf : ByteArray := prog_7_method_82_code
def yX5_heirOf : MethodName := ⟨RX5, "heirOf", "(II)I"⟩
abbrev cX5_heir : ByteArray := prog_7_method_83_code
def yX5_heir : MethodName := ⟨RX5, "heir", "(II)I"⟩
abbrev cX5_seen : ByteArray := prog_7_method_84_code
def yX5_seen : MethodName := ⟨RX5, "seen", "(III)I"⟩
abbrev cX5_forget : ByteArray := prog_7_method_85_code
def yX5_forget : MethodName := ⟨RX5, "forget", "()I"⟩
abbrev cX5_suspectsNow : ByteArray := prog_7_method_86_code
def yX5_suspectsNow : MethodName := ⟨RX5, "suspectsNow", "()I"⟩
abbrev cX5_suspects : ByteArray := prog_7_method_87_code
def yX5_suspects : MethodName := ⟨RX5, "suspects", "()I"⟩
abbrev cX5_likelyNow : ByteArray := prog_7_method_88_code
def yX5_likelyNow : MethodName := ⟨RX5, "likelyNow", "()I"⟩
abbrev cX5_likely : ByteArray := prog_7_method_89_code
def yX5_likely : MethodName := ⟨RX5, "likely", "()I"⟩
abbrev cX5_write : ByteArray := prog_7_method_90_code
def yX5_write : MethodName := ⟨RX5, "write", "(II)I"⟩
abbrev cX5_count : ByteArray := prog_7_method_91_code
def yX5_count : MethodName := ⟨RX5, "count", "(I)I"⟩
abbrev cX5_tellsHour : ByteArray := prog_7_method_92_code
def yX5_tellsHour : MethodName := ⟨RX5, "tellsHour", "(JII)J"⟩
abbrev cX5_digest : ByteArray := prog_7_method_93_code
def yX5_digest : MethodName := ⟨RX5, "digest", "()J"⟩
def RJ6 : String := "java/lang/Integer"
def TJ6 : u_T := fun k => match k with
  | _ => ("", "", "", false)
def tyJ6 : Nat → FieldType := fun k => match k with
  | _ => .int
abbrev wsJ60 : List Cond := u_ws RJ6 TJ6 0
theorem nmJ6 : ∀ a, a < 0 → ∀ b, b < 0 → a ≠ b → (TJ6 a).2.1 ≠ (TJ6 b).2.1 := by decide +kernel
theorem tyJ6_ok : ∀ k, k < 0 → parseFieldDescriptor (TJ6 k).2.2.1 = some (tyJ6 k) := by decide +kernel
abbrev cJ6_bitCount_0f7a4 : ByteArray := prog_8_method_49_code
def yJ6_bitCount_0f7a4 : MethodName := ⟨RJ6, "bitCount", "(I)I"⟩
def RJ9 : String := "java/lang/Math"
def TJ9 : u_T := fun k => match k with
  | _ => ("", "", "", false)
def tyJ9 : Nat → FieldType := fun k => match k with
  | _ => .int
abbrev wsJ90 : List Cond := u_ws RJ9 TJ9 0
theorem nmJ9 : ∀ a, a < 0 → ∀ b, b < 0 → a ≠ b → (TJ9 a).2.1 ≠ (TJ9 b).2.1 := by decide +kernel
theorem tyJ9_ok : ∀ k, k < 0 → parseFieldDescriptor (TJ9 k).2.2.1 = some (tyJ9 k) := by decide +kernel
abbrev cJ9_max_7cf53 : ByteArray := prog_9_method_65_code
def yJ9_max_7cf53 : MethodName := ⟨RJ9, "max", "(II)I"⟩
abbrev cJ9_min_7cf53 : ByteArray := prog_9_method_69_code
def yJ9_min_7cf53 : MethodName := ⟨RJ9, "min", "(II)I"⟩
def RJ10 : String := "java/lang/System"
def TJ10 : u_T := fun k => match k with
  | _ => ("", "", "", false)
def tyJ10 : Nat → FieldType := fun k => match k with
  | _ => .int
abbrev wsJ100 : List Cond := u_ws RJ10 TJ10 0
theorem nmJ10 : ∀ a, a < 0 → ∀ b, b < 0 → a ≠ b → (TJ10 a).2.1 ≠ (TJ10 b).2.1 := by decide +kernel
theorem tyJ10_ok : ∀ k, k < 0 → parseFieldDescriptor (TJ10 k).2.2.1 = some (tyJ10 k) := by decide +kernel
def RJ7 : String := "java/util/Arrays"
def TJ7 : u_T := fun k => match k with
  | _ => ("", "", "", false)
def tyJ7 : Nat → FieldType := fun k => match k with
  | _ => .int
abbrev wsJ70 : List Cond := u_ws RJ7 TJ7 0
theorem nmJ7 : ∀ a, a < 0 → ∀ b, b < 0 → a ≠ b → (TJ7 a).2.1 ≠ (TJ7 b).2.1 := by decide +kernel
theorem tyJ7_ok : ∀ k, k < 0 → parseFieldDescriptor (TJ7 k).2.2.1 = some (tyJ7 k) := by decide +kernel
abbrev cJ7_rangeCheck_23922 : ByteArray := prog_11_method_30_code
def yJ7_rangeCheck_23922 : MethodName := ⟨RJ7, "rangeCheck", "(III)V"⟩
abbrev cJ7_fill_53178 : ByteArray := prog_11_method_103_code
def yJ7_fill_53178 : MethodName := ⟨RJ7, "fill", "([II)V"⟩
abbrev cJ7_fill_fda19 : ByteArray := prog_11_method_104_code
def yJ7_fill_fda19 : MethodName := ⟨RJ7, "fill", "([IIII)V"⟩
def RL : String := "OthersHoursLaw"
abbrev cL_law : ByteArray := code
def yL_law : MethodName := ⟨RL, "law", "([I)Z"⟩
abbrev vwCl : List vw_C := [(RX0, TX0, 9), (RX1, TX1, 1), (RX2, TX2, 3), (RX3, TX3, 7), (RX4, TX4, 15), (RX5, TX5, 25)]
