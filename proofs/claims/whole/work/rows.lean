section
-- ===== PART A: goes FIRST, ahead of the names: the tables' words, and 'selects' of the private methods out of them =====
/-- a private method of a class that the tables say can be made, by its rows of tables_1 -/
def lw_okq (q : MethodName × Nat) : Prop := (q.1.cls ≠ "java/lang/invoke/MethodHandle" ∧ q.1.cls ≠ "java/lang/invoke/VarHandle") ∧ Cond.instantiable q.1.cls q.2 ∈ tables_1 ∧ Cond.privateMethod q.1 ∈ tables_1 ∧ Cond.instanceMethod q.1 ∈ tables_1
theorem lw_p0 : lw_okq (⟨"OthersHours", "textOf", "(I)LOthersHours$Text;"⟩, 15) := ⟨⟨by decide +kernel, by decide +kernel⟩, List.mem_of_getElem? (i := 12) (by decide +kernel), List.mem_of_getElem? (i := 174) (by decide +kernel), List.mem_of_getElem? (i := 175) (by decide +kernel)⟩
theorem lw_p1 : lw_okq (⟨"OthersHours$Text", "canGoOn", "(I)Z"⟩, 7) := ⟨⟨by decide +kernel, by decide +kernel⟩, List.mem_of_getElem? (i := 20) (by decide +kernel), List.mem_of_getElem? (i := 182) (by decide +kernel), List.mem_of_getElem? (i := 183) (by decide +kernel)⟩
theorem lw_p2 : lw_okq (⟨"OthersHours$Text", "figureEnd", "(II)I"⟩, 7) := ⟨⟨by decide +kernel, by decide +kernel⟩, List.mem_of_getElem? (i := 20) (by decide +kernel), List.mem_of_getElem? (i := 186) (by decide +kernel), List.mem_of_getElem? (i := 187) (by decide +kernel)⟩
theorem lw_p3 : lw_okq (⟨"OthersHours$Text", "figure", "(II)I"⟩, 7) := ⟨⟨by decide +kernel, by decide +kernel⟩, List.mem_of_getElem? (i := 20) (by decide +kernel), List.mem_of_getElem? (i := 190) (by decide +kernel), List.mem_of_getElem? (i := 191) (by decide +kernel)⟩
theorem lw_p4 : lw_okq (⟨"OthersHours$Text", "isToldAhead", "(I)Z"⟩, 7) := ⟨⟨by decide +kernel, by decide +kernel⟩, List.mem_of_getElem? (i := 20) (by decide +kernel), List.mem_of_getElem? (i := 195) (by decide +kernel), List.mem_of_getElem? (i := 196) (by decide +kernel)⟩
theorem lw_p5 : lw_okq (⟨"OthersHours", "settleTexts", "()V"⟩, 15) := ⟨⟨by decide +kernel, by decide +kernel⟩, List.mem_of_getElem? (i := 12) (by decide +kernel), List.mem_of_getElem? (i := 207) (by decide +kernel), List.mem_of_getElem? (i := 208) (by decide +kernel)⟩
theorem lw_p6 : lw_okq (⟨"OthersHours", "ageDays", "()V"⟩, 15) := ⟨⟨by decide +kernel, by decide +kernel⟩, List.mem_of_getElem? (i := 12) (by decide +kernel), List.mem_of_getElem? (i := 242) (by decide +kernel), List.mem_of_getElem? (i := 243) (by decide +kernel)⟩
theorem lw_p7 : lw_okq (⟨"OthersHours", "found", "(I)I"⟩, 15) := ⟨⟨by decide +kernel, by decide +kernel⟩, List.mem_of_getElem? (i := 12) (by decide +kernel), List.mem_of_getElem? (i := 295) (by decide +kernel), List.mem_of_getElem? (i := 296) (by decide +kernel)⟩
theorem lw_p8 : lw_okq (⟨"OthersHours", "dayBy", "(I)LOthersHours$Day;"⟩, 15) := ⟨⟨by decide +kernel, by decide +kernel⟩, List.mem_of_getElem? (i := 12) (by decide +kernel), List.mem_of_getElem? (i := 314) (by decide +kernel), List.mem_of_getElem? (i := 315) (by decide +kernel)⟩
theorem lw_p9 : lw_okq (⟨"OthersHours$Day", "obey", "(LOthersHours$Text;)V"⟩, 9) := ⟨⟨by decide +kernel, by decide +kernel⟩, List.mem_of_getElem? (i := 61) (by decide +kernel), List.mem_of_getElem? (i := 327) (by decide +kernel), List.mem_of_getElem? (i := 328) (by decide +kernel)⟩
theorem lw_p10 : lw_okq (⟨"OthersHours$Day", "spend", "(II)V"⟩, 9) := ⟨⟨by decide +kernel, by decide +kernel⟩, List.mem_of_getElem? (i := 61) (by decide +kernel), List.mem_of_getElem? (i := 343) (by decide +kernel), List.mem_of_getElem? (i := 344) (by decide +kernel)⟩
theorem lw_p11 : lw_okq (⟨"OthersHours", "fewestBodies", "(LOthersHours$Day;II)I"⟩, 15) := ⟨⟨by decide +kernel, by decide +kernel⟩, List.mem_of_getElem? (i := 12) (by decide +kernel), List.mem_of_getElem? (i := 423) (by decide +kernel), List.mem_of_getElem? (i := 424) (by decide +kernel)⟩
theorem lw_p12 : lw_okq (⟨"OthersHours", "spanOf", "(I)I"⟩, 15) := ⟨⟨by decide +kernel, by decide +kernel⟩, List.mem_of_getElem? (i := 12) (by decide +kernel), List.mem_of_getElem? (i := 437) (by decide +kernel), List.mem_of_getElem? (i := 438) (by decide +kernel)⟩
theorem lw_p13 : lw_okq (⟨"OthersHours$Day", "rowTo", "(IIZ)I"⟩, 9) := ⟨⟨by decide +kernel, by decide +kernel⟩, List.mem_of_getElem? (i := 61) (by decide +kernel), List.mem_of_getElem? (i := 449) (by decide +kernel), List.mem_of_getElem? (i := 450) (by decide +kernel)⟩
theorem lw_p14 : lw_okq (⟨"OthersHours$Day", "rowAhead", "(IIZ)I"⟩, 9) := ⟨⟨by decide +kernel, by decide +kernel⟩, List.mem_of_getElem? (i := 61) (by decide +kernel), List.mem_of_getElem? (i := 456) (by decide +kernel), List.mem_of_getElem? (i := 457) (by decide +kernel)⟩
theorem lw_p15 : lw_okq (⟨"OthersHours", "bothGain", "(IIII)Z"⟩, 15) := ⟨⟨by decide +kernel, by decide +kernel⟩, List.mem_of_getElem? (i := 12) (by decide +kernel), List.mem_of_getElem? (i := 468) (by decide +kernel), List.mem_of_getElem? (i := 469) (by decide +kernel)⟩
def lw_privs_1 : List (MethodName × Nat) := [(⟨"OthersHours", "textOf", "(I)LOthersHours$Text;"⟩, 15), (⟨"OthersHours$Text", "canGoOn", "(I)Z"⟩, 7), (⟨"OthersHours$Text", "figureEnd", "(II)I"⟩, 7), (⟨"OthersHours$Text", "figure", "(II)I"⟩, 7), (⟨"OthersHours$Text", "isToldAhead", "(I)Z"⟩, 7), (⟨"OthersHours", "settleTexts", "()V"⟩, 15), (⟨"OthersHours", "ageDays", "()V"⟩, 15), (⟨"OthersHours", "found", "(I)I"⟩, 15), (⟨"OthersHours", "dayBy", "(I)LOthersHours$Day;"⟩, 15), (⟨"OthersHours$Day", "obey", "(LOthersHours$Text;)V"⟩, 9), (⟨"OthersHours$Day", "spend", "(II)V"⟩, 9), (⟨"OthersHours", "fewestBodies", "(LOthersHours$Day;II)I"⟩, 15), (⟨"OthersHours", "spanOf", "(I)I"⟩, 15), (⟨"OthersHours$Day", "rowTo", "(IIZ)I"⟩, 9), (⟨"OthersHours$Day", "rowAhead", "(IIZ)I"⟩, 9), (⟨"OthersHours", "bothGain", "(IIII)Z"⟩, 15)]
theorem lw_r1 : ∀ q ∈ lw_privs_1, lw_okq q := List.forall_mem_cons.mpr ⟨lw_p0, List.forall_mem_cons.mpr ⟨lw_p1, List.forall_mem_cons.mpr ⟨lw_p2, List.forall_mem_cons.mpr ⟨lw_p3, List.forall_mem_cons.mpr ⟨lw_p4, List.forall_mem_cons.mpr ⟨lw_p5, List.forall_mem_cons.mpr ⟨lw_p6, List.forall_mem_cons.mpr ⟨lw_p7, List.forall_mem_cons.mpr ⟨lw_p8, List.forall_mem_cons.mpr ⟨lw_p9, List.forall_mem_cons.mpr ⟨lw_p10, List.forall_mem_cons.mpr ⟨lw_p11, List.forall_mem_cons.mpr ⟨lw_p12, List.forall_mem_cons.mpr ⟨lw_p13, List.forall_mem_cons.mpr ⟨lw_p14, List.forall_mem_cons.mpr ⟨lw_p15, fun _ h => absurd h List.not_mem_nil⟩⟩⟩⟩⟩⟩⟩⟩⟩⟩⟩⟩⟩⟩⟩⟩
theorem lw_p16 : lw_okq (⟨"OthersHours", "matesOf", "(II)I"⟩, 15) := ⟨⟨by decide +kernel, by decide +kernel⟩, List.mem_of_getElem? (i := 12) (by decide +kernel), List.mem_of_getElem? (i := 476) (by decide +kernel), List.mem_of_getElem? (i := 477) (by decide +kernel)⟩
theorem lw_p17 : lw_okq (⟨"OthersHours", "freedBy", "(I)I"⟩, 15) := ⟨⟨by decide +kernel, by decide +kernel⟩, List.mem_of_getElem? (i := 12) (by decide +kernel), List.mem_of_getElem? (i := 490) (by decide +kernel), List.mem_of_getElem? (i := 491) (by decide +kernel)⟩
theorem lw_p18 : lw_okq (⟨"OthersHours", "explainsSeen", "(LOthersHours$Day;)Z"⟩, 15) := ⟨⟨by decide +kernel, by decide +kernel⟩, List.mem_of_getElem? (i := 12) (by decide +kernel), List.mem_of_getElem? (i := 530) (by decide +kernel), List.mem_of_getElem? (i := 531) (by decide +kernel)⟩
theorem lw_p19 : lw_okq (⟨"OthersHours", "mixPerson", "(JI)J"⟩, 15) := ⟨⟨by decide +kernel, by decide +kernel⟩, List.mem_of_getElem? (i := 12) (by decide +kernel), List.mem_of_getElem? (i := 600) (by decide +kernel), List.mem_of_getElem? (i := 601) (by decide +kernel)⟩
theorem lw_p20 : lw_okq (⟨"OthersHoursModel", "finds", "(I)I"⟩, 25) := ⟨⟨by decide +kernel, by decide +kernel⟩, List.mem_of_getElem? (i := 624) (by decide +kernel), List.mem_of_getElem? (i := 719) (by decide +kernel), List.mem_of_getElem? (i := 720) (by decide +kernel)⟩
theorem lw_p21 : lw_okq (⟨"OthersHoursModel", "lacks", "(III)I"⟩, 25) := ⟨⟨by decide +kernel, by decide +kernel⟩, List.mem_of_getElem? (i := 624) (by decide +kernel), List.mem_of_getElem? (i := 731) (by decide +kernel), List.mem_of_getElem? (i := 732) (by decide +kernel)⟩
theorem lw_p22 : lw_okq (⟨"OthersHoursModel", "readsGrants", "()I"⟩, 25) := ⟨⟨by decide +kernel, by decide +kernel⟩, List.mem_of_getElem? (i := 624) (by decide +kernel), List.mem_of_getElem? (i := 763) (by decide +kernel), List.mem_of_getElem? (i := 764) (by decide +kernel)⟩
theorem lw_p23 : lw_okq (⟨"OthersHoursModel", "nobodyGrants", "()V"⟩, 25) := ⟨⟨by decide +kernel, by decide +kernel⟩, List.mem_of_getElem? (i := 624) (by decide +kernel), List.mem_of_getElem? (i := 767) (by decide +kernel), List.mem_of_getElem? (i := 768) (by decide +kernel)⟩
theorem lw_p24 : lw_okq (⟨"OthersHoursModel", "readsGrant", "()Z"⟩, 25) := ⟨⟨by decide +kernel, by decide +kernel⟩, List.mem_of_getElem? (i := 624) (by decide +kernel), List.mem_of_getElem? (i := 771) (by decide +kernel), List.mem_of_getElem? (i := 772) (by decide +kernel)⟩
theorem lw_p25 : lw_okq (⟨"OthersHoursModel", "figure", "(II)I"⟩, 25) := ⟨⟨by decide +kernel, by decide +kernel⟩, List.mem_of_getElem? (i := 624) (by decide +kernel), List.mem_of_getElem? (i := 775) (by decide +kernel), List.mem_of_getElem? (i := 776) (by decide +kernel)⟩
theorem lw_p26 : lw_okq (⟨"OthersHoursModel", "hour", "(I)I"⟩, 25) := ⟨⟨by decide +kernel, by decide +kernel⟩, List.mem_of_getElem? (i := 624) (by decide +kernel), List.mem_of_getElem? (i := 779) (by decide +kernel), List.mem_of_getElem? (i := 780) (by decide +kernel)⟩
theorem lw_p27 : lw_okq (⟨"OthersHoursModel", "isGranted", "(II)Z"⟩, 25) := ⟨⟨by decide +kernel, by decide +kernel⟩, List.mem_of_getElem? (i := 624) (by decide +kernel), List.mem_of_getElem? (i := 783) (by decide +kernel), List.mem_of_getElem? (i := 784) (by decide +kernel)⟩
theorem lw_p28 : lw_okq (⟨"OthersHoursModel", "readsOrders", "()I"⟩, 25) := ⟨⟨by decide +kernel, by decide +kernel⟩, List.mem_of_getElem? (i := 624) (by decide +kernel), List.mem_of_getElem? (i := 787) (by decide +kernel), List.mem_of_getElem? (i := 788) (by decide +kernel)⟩
theorem lw_p29 : lw_okq (⟨"OthersHoursModel", "readsOrder", "()Z"⟩, 25) := ⟨⟨by decide +kernel, by decide +kernel⟩, List.mem_of_getElem? (i := 624) (by decide +kernel), List.mem_of_getElem? (i := 791) (by decide +kernel), List.mem_of_getElem? (i := 792) (by decide +kernel)⟩
theorem lw_p30 : lw_okq (⟨"OthersHoursModel", "reads", "()V"⟩, 25) := ⟨⟨by decide +kernel, by decide +kernel⟩, List.mem_of_getElem? (i := 624) (by decide +kernel), List.mem_of_getElem? (i := 799) (by decide +kernel), List.mem_of_getElem? (i := 800) (by decide +kernel)⟩
theorem lw_p31 : lw_okq (⟨"OthersHoursModel", "actsNow", "(II)I"⟩, 25) := ⟨⟨by decide +kernel, by decide +kernel⟩, List.mem_of_getElem? (i := 624) (by decide +kernel), List.mem_of_getElem? (i := 837) (by decide +kernel), List.mem_of_getElem? (i := 838) (by decide +kernel)⟩
def lw_privs_2 : List (MethodName × Nat) := [(⟨"OthersHours", "matesOf", "(II)I"⟩, 15), (⟨"OthersHours", "freedBy", "(I)I"⟩, 15), (⟨"OthersHours", "explainsSeen", "(LOthersHours$Day;)Z"⟩, 15), (⟨"OthersHours", "mixPerson", "(JI)J"⟩, 15), (⟨"OthersHoursModel", "finds", "(I)I"⟩, 25), (⟨"OthersHoursModel", "lacks", "(III)I"⟩, 25), (⟨"OthersHoursModel", "readsGrants", "()I"⟩, 25), (⟨"OthersHoursModel", "nobodyGrants", "()V"⟩, 25), (⟨"OthersHoursModel", "readsGrant", "()Z"⟩, 25), (⟨"OthersHoursModel", "figure", "(II)I"⟩, 25), (⟨"OthersHoursModel", "hour", "(I)I"⟩, 25), (⟨"OthersHoursModel", "isGranted", "(II)Z"⟩, 25), (⟨"OthersHoursModel", "readsOrders", "()I"⟩, 25), (⟨"OthersHoursModel", "readsOrder", "()Z"⟩, 25), (⟨"OthersHoursModel", "reads", "()V"⟩, 25), (⟨"OthersHoursModel", "actsNow", "(II)I"⟩, 25)]
theorem lw_r2 : ∀ q ∈ lw_privs_2, lw_okq q := List.forall_mem_cons.mpr ⟨lw_p16, List.forall_mem_cons.mpr ⟨lw_p17, List.forall_mem_cons.mpr ⟨lw_p18, List.forall_mem_cons.mpr ⟨lw_p19, List.forall_mem_cons.mpr ⟨lw_p20, List.forall_mem_cons.mpr ⟨lw_p21, List.forall_mem_cons.mpr ⟨lw_p22, List.forall_mem_cons.mpr ⟨lw_p23, List.forall_mem_cons.mpr ⟨lw_p24, List.forall_mem_cons.mpr ⟨lw_p25, List.forall_mem_cons.mpr ⟨lw_p26, List.forall_mem_cons.mpr ⟨lw_p27, List.forall_mem_cons.mpr ⟨lw_p28, List.forall_mem_cons.mpr ⟨lw_p29, List.forall_mem_cons.mpr ⟨lw_p30, List.forall_mem_cons.mpr ⟨lw_p31, fun _ h => absurd h List.not_mem_nil⟩⟩⟩⟩⟩⟩⟩⟩⟩⟩⟩⟩⟩⟩⟩⟩
theorem lw_p32 : lw_okq (⟨"OthersHoursModel", "actsBy", "(III)I"⟩, 25) := ⟨⟨by decide +kernel, by decide +kernel⟩, List.mem_of_getElem? (i := 624) (by decide +kernel), List.mem_of_getElem? (i := 841) (by decide +kernel), List.mem_of_getElem? (i := 842) (by decide +kernel)⟩
theorem lw_p33 : lw_okq (⟨"OthersHoursModel", "deepOf", "(II)I"⟩, 25) := ⟨⟨by decide +kernel, by decide +kernel⟩, List.mem_of_getElem? (i := 624) (by decide +kernel), List.mem_of_getElem? (i := 845) (by decide +kernel), List.mem_of_getElem? (i := 846) (by decide +kernel)⟩
theorem lw_p34 : lw_okq (⟨"OthersHoursModel", "freeOf", "(I)I"⟩, 25) := ⟨⟨by decide +kernel, by decide +kernel⟩, List.mem_of_getElem? (i := 624) (by decide +kernel), List.mem_of_getElem? (i := 857) (by decide +kernel), List.mem_of_getElem? (i := 858) (by decide +kernel)⟩
theorem lw_p35 : lw_okq (⟨"OthersHoursModel", "holdsOf", "(I)I"⟩, 25) := ⟨⟨by decide +kernel, by decide +kernel⟩, List.mem_of_getElem? (i := 624) (by decide +kernel), List.mem_of_getElem? (i := 865) (by decide +kernel), List.mem_of_getElem? (i := 866) (by decide +kernel)⟩
theorem lw_p36 : lw_okq (⟨"OthersHoursModel", "wrongedBy", "(I)I"⟩, 25) := ⟨⟨by decide +kernel, by decide +kernel⟩, List.mem_of_getElem? (i := 624) (by decide +kernel), List.mem_of_getElem? (i := 873) (by decide +kernel), List.mem_of_getElem? (i := 874) (by decide +kernel)⟩
theorem lw_p37 : lw_okq (⟨"OthersHoursModel", "gentlestNow", "()I"⟩, 25) := ⟨⟨by decide +kernel, by decide +kernel⟩, List.mem_of_getElem? (i := 624) (by decide +kernel), List.mem_of_getElem? (i := 881) (by decide +kernel), List.mem_of_getElem? (i := 882) (by decide +kernel)⟩
theorem lw_p38 : lw_okq (⟨"OthersHoursModel", "find", "()V"⟩, 25) := ⟨⟨by decide +kernel, by decide +kernel⟩, List.mem_of_getElem? (i := 624) (by decide +kernel), List.mem_of_getElem? (i := 889) (by decide +kernel), List.mem_of_getElem? (i := 890) (by decide +kernel)⟩
theorem lw_p39 : lw_okq (⟨"OthersHoursModel", "lives", "(I)V"⟩, 25) := ⟨⟨by decide +kernel, by decide +kernel⟩, List.mem_of_getElem? (i := 624) (by decide +kernel), List.mem_of_getElem? (i := 893) (by decide +kernel), List.mem_of_getElem? (i := 894) (by decide +kernel)⟩
theorem lw_p40 : lw_okq (⟨"OthersHoursModel", "judgedNow", "()I"⟩, 25) := ⟨⟨by decide +kernel, by decide +kernel⟩, List.mem_of_getElem? (i := 624) (by decide +kernel), List.mem_of_getElem? (i := 910) (by decide +kernel), List.mem_of_getElem? (i := 911) (by decide +kernel)⟩
theorem lw_p41 : lw_okq (⟨"OthersHoursModel", "bodyOf", "(III)I"⟩, 25) := ⟨⟨by decide +kernel, by decide +kernel⟩, List.mem_of_getElem? (i := 624) (by decide +kernel), List.mem_of_getElem? (i := 918) (by decide +kernel), List.mem_of_getElem? (i := 919) (by decide +kernel)⟩
theorem lw_p42 : lw_okq (⟨"OthersHoursModel", "metOf", "(II)I"⟩, 25) := ⟨⟨by decide +kernel, by decide +kernel⟩, List.mem_of_getElem? (i := 624) (by decide +kernel), List.mem_of_getElem? (i := 926) (by decide +kernel), List.mem_of_getElem? (i := 927) (by decide +kernel)⟩
theorem lw_p43 : lw_okq (⟨"OthersHoursModel", "slipsOf", "(II)I"⟩, 25) := ⟨⟨by decide +kernel, by decide +kernel⟩, List.mem_of_getElem? (i := 624) (by decide +kernel), List.mem_of_getElem? (i := 934) (by decide +kernel), List.mem_of_getElem? (i := 935) (by decide +kernel)⟩
theorem lw_p44 : lw_okq (⟨"OthersHoursModel", "soonestOf", "(II)I"⟩, 25) := ⟨⟨by decide +kernel, by decide +kernel⟩, List.mem_of_getElem? (i := 624) (by decide +kernel), List.mem_of_getElem? (i := 943) (by decide +kernel), List.mem_of_getElem? (i := 944) (by decide +kernel)⟩
theorem lw_p45 : lw_okq (⟨"OthersHoursModel", "bodies", "(II)I"⟩, 25) := ⟨⟨by decide +kernel, by decide +kernel⟩, List.mem_of_getElem? (i := 624) (by decide +kernel), List.mem_of_getElem? (i := 947) (by decide +kernel), List.mem_of_getElem? (i := 948) (by decide +kernel)⟩
theorem lw_p46 : lw_okq (⟨"OthersHoursModel", "fewestOf", "(III)I"⟩, 25) := ⟨⟨by decide +kernel, by decide +kernel⟩, List.mem_of_getElem? (i := 624) (by decide +kernel), List.mem_of_getElem? (i := 958) (by decide +kernel), List.mem_of_getElem? (i := 959) (by decide +kernel)⟩
theorem lw_p47 : lw_okq (⟨"OthersHoursModel", "runOf", "(II)I"⟩, 25) := ⟨⟨by decide +kernel, by decide +kernel⟩, List.mem_of_getElem? (i := 624) (by decide +kernel), List.mem_of_getElem? (i := 966) (by decide +kernel), List.mem_of_getElem? (i := 967) (by decide +kernel)⟩
def lw_privs_3 : List (MethodName × Nat) := [(⟨"OthersHoursModel", "actsBy", "(III)I"⟩, 25), (⟨"OthersHoursModel", "deepOf", "(II)I"⟩, 25), (⟨"OthersHoursModel", "freeOf", "(I)I"⟩, 25), (⟨"OthersHoursModel", "holdsOf", "(I)I"⟩, 25), (⟨"OthersHoursModel", "wrongedBy", "(I)I"⟩, 25), (⟨"OthersHoursModel", "gentlestNow", "()I"⟩, 25), (⟨"OthersHoursModel", "find", "()V"⟩, 25), (⟨"OthersHoursModel", "lives", "(I)V"⟩, 25), (⟨"OthersHoursModel", "judgedNow", "()I"⟩, 25), (⟨"OthersHoursModel", "bodyOf", "(III)I"⟩, 25), (⟨"OthersHoursModel", "metOf", "(II)I"⟩, 25), (⟨"OthersHoursModel", "slipsOf", "(II)I"⟩, 25), (⟨"OthersHoursModel", "soonestOf", "(II)I"⟩, 25), (⟨"OthersHoursModel", "bodies", "(II)I"⟩, 25), (⟨"OthersHoursModel", "fewestOf", "(III)I"⟩, 25), (⟨"OthersHoursModel", "runOf", "(II)I"⟩, 25)]
theorem lw_r3 : ∀ q ∈ lw_privs_3, lw_okq q := List.forall_mem_cons.mpr ⟨lw_p32, List.forall_mem_cons.mpr ⟨lw_p33, List.forall_mem_cons.mpr ⟨lw_p34, List.forall_mem_cons.mpr ⟨lw_p35, List.forall_mem_cons.mpr ⟨lw_p36, List.forall_mem_cons.mpr ⟨lw_p37, List.forall_mem_cons.mpr ⟨lw_p38, List.forall_mem_cons.mpr ⟨lw_p39, List.forall_mem_cons.mpr ⟨lw_p40, List.forall_mem_cons.mpr ⟨lw_p41, List.forall_mem_cons.mpr ⟨lw_p42, List.forall_mem_cons.mpr ⟨lw_p43, List.forall_mem_cons.mpr ⟨lw_p44, List.forall_mem_cons.mpr ⟨lw_p45, List.forall_mem_cons.mpr ⟨lw_p46, List.forall_mem_cons.mpr ⟨lw_p47, fun _ h => absurd h List.not_mem_nil⟩⟩⟩⟩⟩⟩⟩⟩⟩⟩⟩⟩⟩⟩⟩⟩
theorem lw_p48 : lw_okq (⟨"OthersHoursModel", "goesOnFrom", "(III)I"⟩, 25) := ⟨⟨by decide +kernel, by decide +kernel⟩, List.mem_of_getElem? (i := 624) (by decide +kernel), List.mem_of_getElem? (i := 970) (by decide +kernel), List.mem_of_getElem? (i := 971) (by decide +kernel)⟩
theorem lw_p49 : lw_okq (⟨"OthersHoursModel", "longest", "(II)I"⟩, 25) := ⟨⟨by decide +kernel, by decide +kernel⟩, List.mem_of_getElem? (i := 624) (by decide +kernel), List.mem_of_getElem? (i := 977) (by decide +kernel), List.mem_of_getElem? (i := 978) (by decide +kernel)⟩
theorem lw_p50 : lw_okq (⟨"OthersHoursModel", "tradeOf", "(IIII)I"⟩, 25) := ⟨⟨by decide +kernel, by decide +kernel⟩, List.mem_of_getElem? (i := 624) (by decide +kernel), List.mem_of_getElem? (i := 985) (by decide +kernel), List.mem_of_getElem? (i := 986) (by decide +kernel)⟩
theorem lw_p51 : lw_okq (⟨"OthersHoursModel", "wouldTrade", "(IIII)Z"⟩, 25) := ⟨⟨by decide +kernel, by decide +kernel⟩, List.mem_of_getElem? (i := 624) (by decide +kernel), List.mem_of_getElem? (i := 989) (by decide +kernel), List.mem_of_getElem? (i := 990) (by decide +kernel)⟩
theorem lw_p52 : lw_okq (⟨"OthersHoursModel", "wants", "(III)Z"⟩, 25) := ⟨⟨by decide +kernel, by decide +kernel⟩, List.mem_of_getElem? (i := 624) (by decide +kernel), List.mem_of_getElem? (i := 993) (by decide +kernel), List.mem_of_getElem? (i := 994) (by decide +kernel)⟩
theorem lw_p53 : lw_okq (⟨"OthersHoursModel", "tradesNow", "()I"⟩, 25) := ⟨⟨by decide +kernel, by decide +kernel⟩, List.mem_of_getElem? (i := 624) (by decide +kernel), List.mem_of_getElem? (i := 1001) (by decide +kernel), List.mem_of_getElem? (i := 1002) (by decide +kernel)⟩
theorem lw_p54 : lw_okq (⟨"OthersHoursModel", "freesOf", "(I)I"⟩, 25) := ⟨⟨by decide +kernel, by decide +kernel⟩, List.mem_of_getElem? (i := 624) (by decide +kernel), List.mem_of_getElem? (i := 1009) (by decide +kernel), List.mem_of_getElem? (i := 1010) (by decide +kernel)⟩
theorem lw_p55 : lw_okq (⟨"OthersHoursModel", "wordNow", "()I"⟩, 25) := ⟨⟨by decide +kernel, by decide +kernel⟩, List.mem_of_getElem? (i := 624) (by decide +kernel), List.mem_of_getElem? (i := 1017) (by decide +kernel), List.mem_of_getElem? (i := 1018) (by decide +kernel)⟩
theorem lw_p56 : lw_okq (⟨"OthersHoursModel", "heirOf", "(II)I"⟩, 25) := ⟨⟨by decide +kernel, by decide +kernel⟩, List.mem_of_getElem? (i := 624) (by decide +kernel), List.mem_of_getElem? (i := 1025) (by decide +kernel), List.mem_of_getElem? (i := 1026) (by decide +kernel)⟩
theorem lw_p57 : lw_okq (⟨"OthersHoursModel", "suspectsNow", "()I"⟩, 25) := ⟨⟨by decide +kernel, by decide +kernel⟩, List.mem_of_getElem? (i := 624) (by decide +kernel), List.mem_of_getElem? (i := 1042) (by decide +kernel), List.mem_of_getElem? (i := 1043) (by decide +kernel)⟩
theorem lw_p58 : lw_okq (⟨"OthersHoursModel", "likelyNow", "()I"⟩, 25) := ⟨⟨by decide +kernel, by decide +kernel⟩, List.mem_of_getElem? (i := 624) (by decide +kernel), List.mem_of_getElem? (i := 1050) (by decide +kernel), List.mem_of_getElem? (i := 1051) (by decide +kernel)⟩
theorem lw_p59 : lw_okq (⟨"OthersHoursModel", "tellsHour", "(JII)J"⟩, 25) := ⟨⟨by decide +kernel, by decide +kernel⟩, List.mem_of_getElem? (i := 624) (by decide +kernel), List.mem_of_getElem? (i := 1070) (by decide +kernel), List.mem_of_getElem? (i := 1071) (by decide +kernel)⟩
def lw_privs_4 : List (MethodName × Nat) := [(⟨"OthersHoursModel", "goesOnFrom", "(III)I"⟩, 25), (⟨"OthersHoursModel", "longest", "(II)I"⟩, 25), (⟨"OthersHoursModel", "tradeOf", "(IIII)I"⟩, 25), (⟨"OthersHoursModel", "wouldTrade", "(IIII)Z"⟩, 25), (⟨"OthersHoursModel", "wants", "(III)Z"⟩, 25), (⟨"OthersHoursModel", "tradesNow", "()I"⟩, 25), (⟨"OthersHoursModel", "freesOf", "(I)I"⟩, 25), (⟨"OthersHoursModel", "wordNow", "()I"⟩, 25), (⟨"OthersHoursModel", "heirOf", "(II)I"⟩, 25), (⟨"OthersHoursModel", "suspectsNow", "()I"⟩, 25), (⟨"OthersHoursModel", "likelyNow", "()I"⟩, 25), (⟨"OthersHoursModel", "tellsHour", "(JII)J"⟩, 25)]
theorem lw_r4 : ∀ q ∈ lw_privs_4, lw_okq q := List.forall_mem_cons.mpr ⟨lw_p48, List.forall_mem_cons.mpr ⟨lw_p49, List.forall_mem_cons.mpr ⟨lw_p50, List.forall_mem_cons.mpr ⟨lw_p51, List.forall_mem_cons.mpr ⟨lw_p52, List.forall_mem_cons.mpr ⟨lw_p53, List.forall_mem_cons.mpr ⟨lw_p54, List.forall_mem_cons.mpr ⟨lw_p55, List.forall_mem_cons.mpr ⟨lw_p56, List.forall_mem_cons.mpr ⟨lw_p57, List.forall_mem_cons.mpr ⟨lw_p58, List.forall_mem_cons.mpr ⟨lw_p59, fun _ h => absurd h List.not_mem_nil⟩⟩⟩⟩⟩⟩⟩⟩⟩⟩⟩⟩
def lw_privs : List (MethodName × Nat) := lw_privs_1 ++ (lw_privs_2 ++ (lw_privs_3 ++ (lw_privs_4)))
def lw_tbl : List Cond := k2_sels lw_privs ++ tables_1
theorem lw_privs_ok : ∀ q ∈ lw_privs, lw_okq q := by
  show ∀ q ∈ lw_privs_1 ++ (lw_privs_2 ++ (lw_privs_3 ++ (lw_privs_4))), lw_okq q
  exact List.forall_mem_append.mpr ⟨lw_r1, List.forall_mem_append.mpr ⟨lw_r2, List.forall_mem_append.mpr ⟨lw_r3, lw_r4⟩⟩⟩

def RX0 : String := "OthersHours$Day"
def TX0 : u_T := fun k => match k with
  | 0 => ("OthersHours$Day", "law", "I", true)
  | 1 => ("OthersHours$Day", "actors", "[I", true)
  | 2 => ("OthersHours$Day", "deeds", "[I", true)
  | 3 => ("OthersHours$Day", "places", "[I", true)
  | 4 => ("OthersHours$Day", "tired", "[I", true)
  | 5 => ("OthersHours$Day", "rows", "[I", true)
  | 6 => ("OthersHours$Day", "rowsAhead", "[I", true)
  | 7 => ("OthersHours$Day", "obeyed", "I", false)
  | _ => ("OthersHours$Day", "stale", "Z", false)
def tyX0 : Nat → FieldType := fun k => match k with
  | 0 => .int
  | 1 => .array .int
  | 2 => .array .int
  | 3 => .array .int
  | 4 => .array .int
  | 5 => .array .int
  | 6 => .array .int
  | 7 => .int
  | _ => .boolean
abbrev wsX00 : List Cond := u_ws RX0 TX0 9
theorem nmX0 : ∀ a, a < 9 → ∀ b, b < 9 → a ≠ b → (TX0 a).2.1 ≠ (TX0 b).2.1 := by decide +kernel
theorem tyX0_ok : ∀ k, k < 9 → parseFieldDescriptor (TX0 k).2.2.1 = some (tyX0 k) := by decide +kernel
abbrev cX0_init : ByteArray := prog_2_method_1_code
def yX0_init : MethodName := ⟨RX0, "<init>", "(I)V"⟩
abbrev cX0_live : ByteArray := prog_2_method_2_code
def yX0_live : MethodName := ⟨RX0, "live", "(LOthersHours$Owners;LOthersHours$Text;[I)V"⟩
abbrev cX0_obey : ByteArray := prog_2_method_3_code
def yX0_obey : MethodName := ⟨RX0, "obey", "(LOthersHours$Text;)V"⟩
abbrev cX0_spend : ByteArray := prog_2_method_4_code
def yX0_spend : MethodName := ⟨RX0, "spend", "(II)V"⟩
abbrev cX0_isObeyed : ByteArray := prog_2_method_5_code
def yX0_isObeyed : MethodName := ⟨RX0, "isObeyed", "(I)Z"⟩
abbrev cX0_bodiesOf : ByteArray := prog_2_method_6_code
def yX0_bodiesOf : MethodName := ⟨RX0, "bodiesOf", "(II)I"⟩
abbrev cX0_hoursIn : ByteArray := prog_2_method_7_code
def yX0_hoursIn : MethodName := ⟨RX0, "hoursIn", "(II)I"⟩
abbrev cX0_longestRow : ByteArray := prog_2_method_8_code
def yX0_longestRow : MethodName := ⟨RX0, "longestRow", "(IZ)I"⟩
abbrev cX0_firstOfRow : ByteArray := prog_2_method_9_code
def yX0_firstOfRow : MethodName := ⟨RX0, "firstOfRow", "(IZ)I"⟩
abbrev cX0_rowTo : ByteArray := prog_2_method_10_code
def yX0_rowTo : MethodName := ⟨RX0, "rowTo", "(IIZ)I"⟩
abbrev cX0_rowAhead : ByteArray := prog_2_method_11_code
def yX0_rowAhead : MethodName := ⟨RX0, "rowAhead", "(IIZ)I"⟩
def RX1 : String := "OthersHours$Owners"
def TX1 : u_T := fun k => match k with
  | _ => ("OthersHours$Owners", "table", "[I", true)
def tyX1 : Nat → FieldType := fun k => match k with
  | _ => .array .int
abbrev wsX10 : List Cond := u_ws RX1 TX1 1
theorem nmX1 : ∀ a, a < 1 → ∀ b, b < 1 → a ≠ b → (TX1 a).2.1 ≠ (TX1 b).2.1 := by decide +kernel
theorem tyX1_ok : ∀ k, k < 1 → parseFieldDescriptor (TX1 k).2.2.1 = some (tyX1 k) := by decide +kernel
abbrev cX1_init : ByteArray := prog_3_method_1_code
def yX1_init : MethodName := ⟨RX1, "<init>", "()V"⟩
abbrev cX1_tell : ByteArray := prog_3_method_2_code
def yX1_tell : MethodName := ⟨RX1, "tell", "(LOthersHours$Text;)V"⟩
abbrev cX1_takeFrom : ByteArray := prog_3_method_3_code
def yX1_takeFrom : MethodName := ⟨RX1, "takeFrom", "(LOthersHours$Owners;)V"⟩
abbrev cX1_setOwner : ByteArray := prog_3_method_4_code
def yX1_setOwner : MethodName := ⟨RX1, "setOwner", "(III)V"⟩
abbrev cX1_bequeath : ByteArray := prog_3_method_5_code
def yX1_bequeath : MethodName := ⟨RX1, "bequeath", "(II)V"⟩
abbrev cX1_owner : ByteArray := prog_3_method_6_code
def yX1_owner : MethodName := ⟨RX1, "owner", "(II)I"⟩
abbrev cX1_steps : ByteArray := prog_3_method_7_code
def yX1_steps : MethodName := ⟨RX1, "steps", "(II)I"⟩
abbrev cX1_actor : ByteArray := prog_3_method_8_code
def yX1_actor : MethodName := ⟨RX1, "actor", "(III)I"⟩
abbrev cX1_wrongedIn : ByteArray := prog_3_method_9_code
def yX1_wrongedIn : MethodName := ⟨RX1, "wrongedIn", "(II)I"⟩
abbrev cX1_rounds : ByteArray := prog_3_method_10_code
def yX1_rounds : MethodName := ⟨RX1, "rounds", "()I"⟩
def RX2 : String := "OthersHours$Sheet"
def TX2 : u_T := fun k => match k with
  | 0 => ("OthersHours$Sheet", "items", "[I", true)
  | 1 => ("OthersHours$Sheet", "form", "I", false)
  | _ => ("OthersHours$Sheet", "size", "I", false)
def tyX2 : Nat → FieldType := fun k => match k with
  | 0 => .array .int
  | 1 => .int
  | _ => .int
abbrev wsX20 : List Cond := u_ws RX2 TX2 3
theorem nmX2 : ∀ a, a < 3 → ∀ b, b < 3 → a ≠ b → (TX2 a).2.1 ≠ (TX2 b).2.1 := by decide +kernel
theorem tyX2_ok : ∀ k, k < 3 → parseFieldDescriptor (TX2 k).2.2.1 = some (tyX2 k) := by decide +kernel
abbrev cX2_init : ByteArray := prog_4_method_1_code
def yX2_init : MethodName := ⟨RX2, "<init>", "()V"⟩
abbrev cX2_isLost : ByteArray := prog_4_method_2_code
def yX2_isLost : MethodName := ⟨RX2, "isLost", "()Z"⟩
abbrev cX2_renew : ByteArray := prog_4_method_3_code
def yX2_renew : MethodName := ⟨RX2, "renew", "(II)V"⟩
abbrev cX2_findingAt : ByteArray := prog_4_method_4_code
def yX2_findingAt : MethodName := ⟨RX2, "findingAt", "(II)I"⟩
abbrev cX2_hasItems : ByteArray := prog_4_method_5_code
def yX2_hasItems : MethodName := ⟨RX2, "hasItems", "(II)Z"⟩
abbrev cX2_put : ByteArray := prog_4_method_6_code
def yX2_put : MethodName := ⟨RX2, "put", "(II)V"⟩
def RX3 : String := "OthersHours$Text"
def TX3 : u_T := fun k => match k with
  | 0 => ("OthersHours$Text", "bytes", "[I", true)
  | 1 => ("OthersHours$Text", "lead", "I", true)
  | 2 => ("OthersHours$Text", "step", "I", true)
  | 3 => ("OthersHours$Text", "lastEnd", "I", true)
  | 4 => ("OthersHours$Text", "once", "Z", true)
  | 5 => ("OthersHours$Text", "length", "I", false)
  | _ => ("OthersHours$Text", "broken", "I", false)
def tyX3 : Nat → FieldType := fun k => match k with
  | 0 => .array .int
  | 1 => .int
  | 2 => .int
  | 3 => .int
  | 4 => .boolean
  | 5 => .int
  | _ => .int
abbrev wsX30 : List Cond := u_ws RX3 TX3 7
theorem nmX3 : ∀ a, a < 7 → ∀ b, b < 7 → a ≠ b → (TX3 a).2.1 ≠ (TX3 b).2.1 := by decide +kernel
theorem tyX3_ok : ∀ k, k < 7 → parseFieldDescriptor (TX3 k).2.2.1 = some (tyX3 k) := by decide +kernel
abbrev cX3_init : ByteArray := prog_5_method_1_code
def yX3_init : MethodName := ⟨RX3, "<init>", "(IIZ)V"⟩
abbrev cX3_append : ByteArray := prog_5_method_2_code
def yX3_append : MethodName := ⟨RX3, "append", "(I)V"⟩
abbrev cX3_clear : ByteArray := prog_5_method_3_code
def yX3_clear : MethodName := ⟨RX3, "clear", "()V"⟩
abbrev cX3_dropLast : ByteArray := prog_5_method_4_code
def yX3_dropLast : MethodName := ⟨RX3, "dropLast", "()V"⟩
abbrev cX3_flaw : ByteArray := prog_5_method_5_code
def yX3_flaw : MethodName := ⟨RX3, "flaw", "()I"⟩
abbrev cX3_entries : ByteArray := prog_5_method_6_code
def yX3_entries : MethodName := ⟨RX3, "entries", "()I"⟩
abbrev cX3_firstOf : ByteArray := prog_5_method_7_code
def yX3_firstOf : MethodName := ⟨RX3, "firstOf", "(I)I"⟩
abbrev cX3_bodyOf : ByteArray := prog_5_method_8_code
def yX3_bodyOf : MethodName := ⟨RX3, "bodyOf", "(I)I"⟩
abbrev cX3_hourOf : ByteArray := prog_5_method_9_code
def yX3_hourOf : MethodName := ⟨RX3, "hourOf", "(I)I"⟩
abbrev cX3_lastOf : ByteArray := prog_5_method_10_code
def yX3_lastOf : MethodName := ⟨RX3, "lastOf", "(I)I"⟩
abbrev cX3_figure : ByteArray := prog_5_method_11_code
def yX3_figure : MethodName := ⟨RX3, "figure", "(II)I"⟩
abbrev cX3_canGoOn : ByteArray := prog_5_method_12_code
def yX3_canGoOn : MethodName := ⟨RX3, "canGoOn", "(I)Z"⟩
abbrev cX3_figureEnd : ByteArray := prog_5_method_13_code
def yX3_figureEnd : MethodName := ⟨RX3, "figureEnd", "(II)I"⟩
abbrev cX3_isToldAhead : ByteArray := prog_5_method_14_code
def yX3_isToldAhead : MethodName := ⟨RX3, "isToldAhead", "(I)Z"⟩
def RX4 : String := "OthersHours"
def TX4 : u_T := fun k => match k with
  | 0 => ("OthersHours", "grants", "LOthersHours$Text;", true)
  | 1 => ("OthersHours", "orders", "LOthersHours$Text;", true)
  | 2 => ("OthersHours", "owners", "LOthersHours$Owners;", true)
  | 3 => ("OthersHours", "supposed", "LOthersHours$Owners;", true)
  | 4 => ("OthersHours", "days", "[LOthersHours$Day;", true)
  | 5 => ("OthersHours", "homes", "[I", true)
  | 6 => ("OthersHours", "worths", "[I", true)
  | 7 => ("OthersHours", "spans", "[I", true)
  | 8 => ("OthersHours", "mates", "[I", true)
  | 9 => ("OthersHours", "seenCells", "[I", true)
  | 10 => ("OthersHours", "seenDeeds", "[I", true)
  | 11 => ("OthersHours", "sheets", "[LOthersHours$Sheet;", true)
  | 12 => ("OthersHours", "seenCount", "I", false)
  | 13 => ("OthersHours", "law", "I", false)
  | _ => ("OthersHours", "finding", "I", false)
def tyX4 : Nat → FieldType := fun k => match k with
  | 0 => .object "OthersHours$Text"
  | 1 => .object "OthersHours$Text"
  | 2 => .object "OthersHours$Owners"
  | 3 => .object "OthersHours$Owners"
  | 4 => .array (.object "OthersHours$Day")
  | 5 => .array .int
  | 6 => .array .int
  | 7 => .array .int
  | 8 => .array .int
  | 9 => .array .int
  | 10 => .array .int
  | 11 => .array (.object "OthersHours$Sheet")
  | 12 => .int
  | 13 => .int
  | _ => .int
abbrev wsX40 : List Cond := u_ws RX4 TX4 15
theorem nmX4 : ∀ a, a < 15 → ∀ b, b < 15 → a ≠ b → (TX4 a).2.1 ≠ (TX4 b).2.1 := by decide +kernel
theorem tyX4_ok : ∀ k, k < 15 → parseFieldDescriptor (TX4 k).2.2.1 = some (tyX4 k) := by decide +kernel
abbrev cX4_init : ByteArray := prog_1_method_1_code
def yX4_init : MethodName := ⟨RX4, "<init>", "()V"⟩
abbrev cX4_type : ByteArray := prog_1_method_2_code
def yX4_type : MethodName := ⟨RX4, "type", "(II)I"⟩
abbrev cX4_wipe : ByteArray := prog_1_method_3_code
def yX4_wipe : MethodName := ⟨RX4, "wipe", "(I)I"⟩
abbrev cX4_undo : ByteArray := prog_1_method_4_code
def yX4_undo : MethodName := ⟨RX4, "undo", "(I)I"⟩
abbrev cX4_fault : ByteArray := prog_1_method_5_code
def yX4_fault : MethodName := ⟨RX4, "fault", "(I)I"⟩
abbrev cX4_setLaw : ByteArray := prog_1_method_6_code
def yX4_setLaw : MethodName := ⟨RX4, "setLaw", "(I)I"⟩
abbrev cX4_home : ByteArray := prog_1_method_7_code
def yX4_home : MethodName := ⟨RX4, "home", "(II)I"⟩
abbrev cX4_worth : ByteArray := prog_1_method_8_code
def yX4_worth : MethodName := ⟨RX4, "worth", "(III)I"⟩
abbrev cX4_read : ByteArray := prog_1_method_9_code
def yX4_read : MethodName := ⟨RX4, "read", "(II)I"⟩
abbrev cX4_owns : ByteArray := prog_1_method_10_code
def yX4_owns : MethodName := ⟨RX4, "owns", "(II)I"⟩
abbrev cX4_acts : ByteArray := prog_1_method_11_code
def yX4_acts : MethodName := ⟨RX4, "acts", "(II)I"⟩
abbrev cX4_deep : ByteArray := prog_1_method_12_code
def yX4_deep : MethodName := ⟨RX4, "deep", "(II)I"⟩
abbrev cX4_free : ByteArray := prog_1_method_13_code
def yX4_free : MethodName := ⟨RX4, "free", "(I)I"⟩
abbrev cX4_holds : ByteArray := prog_1_method_14_code
def yX4_holds : MethodName := ⟨RX4, "holds", "(I)I"⟩
abbrev cX4_wronged : ByteArray := prog_1_method_15_code
def yX4_wronged : MethodName := ⟨RX4, "wronged", "(I)I"⟩
abbrev cX4_gentlest : ByteArray := prog_1_method_16_code
def yX4_gentlest : MethodName := ⟨RX4, "gentlest", "()I"⟩
abbrev cX4_done : ByteArray := prog_1_method_17_code
def yX4_done : MethodName := ⟨RX4, "done", "(I)I"⟩
abbrev cX4_judged : ByteArray := prog_1_method_18_code
def yX4_judged : MethodName := ⟨RX4, "judged", "()I"⟩
abbrev cX4_body : ByteArray := prog_1_method_19_code
def yX4_body : MethodName := ⟨RX4, "body", "(III)I"⟩
abbrev cX4_met : ByteArray := prog_1_method_20_code
def yX4_met : MethodName := ⟨RX4, "met", "(II)I"⟩
abbrev cX4_slips : ByteArray := prog_1_method_21_code
def yX4_slips : MethodName := ⟨RX4, "slips", "(II)I"⟩
abbrev cX4_soonest : ByteArray := prog_1_method_22_code
def yX4_soonest : MethodName := ⟨RX4, "soonest", "(II)I"⟩
abbrev cX4_fewest : ByteArray := prog_1_method_23_code
def yX4_fewest : MethodName := ⟨RX4, "fewest", "(III)I"⟩
abbrev cX4_run : ByteArray := prog_1_method_24_code
def yX4_run : MethodName := ⟨RX4, "run", "(II)I"⟩
abbrev cX4_trade : ByteArray := prog_1_method_25_code
def yX4_trade : MethodName := ⟨RX4, "trade", "(IIII)I"⟩
abbrev cX4_trades : ByteArray := prog_1_method_26_code
def yX4_trades : MethodName := ⟨RX4, "trades", "()I"⟩
abbrev cX4_frees : ByteArray := prog_1_method_27_code
def yX4_frees : MethodName := ⟨RX4, "frees", "(I)I"⟩
abbrev cX4_word : ByteArray := prog_1_method_28_code
def yX4_word : MethodName := ⟨RX4, "word", "()I"⟩
abbrev cX4_heir : ByteArray := prog_1_method_29_code
def yX4_heir : MethodName := ⟨RX4, "heir", "(II)I"⟩
abbrev cX4_seen : ByteArray := prog_1_method_30_code
def yX4_seen : MethodName := ⟨RX4, "seen", "(III)I"⟩
abbrev cX4_forget : ByteArray := prog_1_method_31_code
def yX4_forget : MethodName := ⟨RX4, "forget", "()I"⟩
abbrev cX4_suspects : ByteArray := prog_1_method_32_code
def yX4_suspects : MethodName := ⟨RX4, "suspects", "()I"⟩
abbrev cX4_likely : ByteArray := prog_1_method_33_code
def yX4_likely : MethodName := ⟨RX4, "likely", "()I"⟩
abbrev cX4_sheet : ByteArray := prog_1_method_34_code
def yX4_sheet : MethodName := ⟨RX4, "sheet", "(III)I"⟩
abbrev cX4_lose : ByteArray := prog_1_method_35_code
def yX4_lose : MethodName := ⟨RX4, "lose", "(I)I"⟩
abbrev cX4_lay : ByteArray := prog_1_method_36_code
def yX4_lay : MethodName := ⟨RX4, "lay", "(IIII)I"⟩
abbrev cX4_get : ByteArray := prog_1_method_37_code
def yX4_get : MethodName := ⟨RX4, "get", "(III)I"⟩
abbrev cX4_copy : ByteArray := prog_1_method_38_code
def yX4_copy : MethodName := ⟨RX4, "copy", "(IIIII)I"⟩
abbrev cX4_write : ByteArray := prog_1_method_39_code
def yX4_write : MethodName := ⟨RX4, "write", "(II)I"⟩
abbrev cX4_count : ByteArray := prog_1_method_40_code
def yX4_count : MethodName := ⟨RX4, "count", "(I)I"⟩
abbrev cX4_digest : ByteArray := prog_1_method_41_code
def yX4_digest : MethodName := ⟨RX4, "digest", "()J"⟩
abbrev cX4_isBelow : ByteArray := prog_1_method_42_code
def yX4_isBelow : MethodName := ⟨RX4, "isBelow", "(II)Z"⟩
abbrev cX4_isCell : ByteArray := prog_1_method_43_code
def yX4_isCell : MethodName := ⟨RX4, "isCell", "(II)Z"⟩
abbrev cX4_areTwo : ByteArray := prog_1_method_44_code
def yX4_areTwo : MethodName := ⟨RX4, "areTwo", "(II)Z"⟩
abbrev cX4_isWork : ByteArray := prog_1_method_45_code
def yX4_isWork : MethodName := ⟨RX4, "isWork", "(I)Z"⟩
abbrev cX4_cell : ByteArray := prog_1_method_46_code
def yX4_cell : MethodName := ⟨RX4, "cell", "(II)I"⟩
abbrev cX4_mix : ByteArray := prog_1_method_47_code
def yX4_mix : MethodName := ⟨RX4, "mix", "(JJ)J"⟩
abbrev cX4_textOf : ByteArray := prog_1_method_48_code
def yX4_textOf : MethodName := ⟨RX4, "textOf", "(I)LOthersHours$Text;"⟩
abbrev cX4_settleTexts : ByteArray := prog_1_method_49_code
def yX4_settleTexts : MethodName := ⟨RX4, "settleTexts", "()V"⟩
abbrev cX4_ageDays : ByteArray := prog_1_method_50_code
def yX4_ageDays : MethodName := ⟨RX4, "ageDays", "()V"⟩
abbrev cX4_dayBy : ByteArray := prog_1_method_51_code
def yX4_dayBy : MethodName := ⟨RX4, "dayBy", "(I)LOthersHours$Day;"⟩
abbrev cX4_found : ByteArray := prog_1_method_52_code
def yX4_found : MethodName := ⟨RX4, "found", "(I)I"⟩
abbrev cX4_fewestBodies : ByteArray := prog_1_method_53_code
def yX4_fewestBodies : MethodName := ⟨RX4, "fewestBodies", "(LOthersHours$Day;II)I"⟩
abbrev cX4_spanOf : ByteArray := prog_1_method_54_code
def yX4_spanOf : MethodName := ⟨RX4, "spanOf", "(I)I"⟩
abbrev cX4_bothGain : ByteArray := prog_1_method_55_code
def yX4_bothGain : MethodName := ⟨RX4, "bothGain", "(IIII)Z"⟩
abbrev cX4_matesOf : ByteArray := prog_1_method_56_code
def yX4_matesOf : MethodName := ⟨RX4, "matesOf", "(II)I"⟩
abbrev cX4_mostPairs : ByteArray := prog_1_method_57_code
def yX4_mostPairs : MethodName := ⟨RX4, "mostPairs", "([III)I"⟩
abbrev cX4_freedBy : ByteArray := prog_1_method_58_code
def yX4_freedBy : MethodName := ⟨RX4, "freedBy", "(I)I"⟩
abbrev cX4_explainsSeen : ByteArray := prog_1_method_59_code
def yX4_explainsSeen : MethodName := ⟨RX4, "explainsSeen", "(LOthersHours$Day;)Z"⟩
abbrev cX4_mixPerson : ByteArray := prog_1_method_60_code
def yX4_mixPerson : MethodName := ⟨RX4, "mixPerson", "(JI)J"⟩
def RX5 : String := "OthersHoursModel"
def TX5 : u_T := fun k => match k with
  | 0 => ("OthersHoursModel", "forms", "[I", true)
  | 1 => ("OthersHoursModel", "sizes", "[I", true)
  | 2 => ("OthersHoursModel", "items", "[I", true)
  | 3 => ("OthersHoursModel", "moved", "[I", true)
  | 4 => ("OthersHoursModel", "latest", "I", false)
  | 5 => ("OthersHoursModel", "bytes", "[I", true)
  | 6 => ("OthersHoursModel", "typed", "[I", true)
  | 7 => ("OthersHoursModel", "at", "I", false)
  | 8 => ("OthersHoursModel", "grants", "I", false)
  | 9 => ("OthersHoursModel", "grant", "[I", true)
  | 10 => ("OthersHoursModel", "owner", "[I", true)
  | 11 => ("OthersHoursModel", "orders", "I", false)
  | 12 => ("OthersHoursModel", "order", "[I", true)
  | 13 => ("OthersHoursModel", "law", "I", false)
  | 14 => ("OthersHoursModel", "homes", "[I", true)
  | 15 => ("OthersHoursModel", "worths", "[I", true)
  | 16 => ("OthersHoursModel", "doneOrder", "[I", true)
  | 17 => ("OthersHoursModel", "isDone", "[Z", true)
  | 18 => ("OthersHoursModel", "deeds", "[I", true)
  | 19 => ("OthersHoursModel", "places", "[I", true)
  | 20 => ("OthersHoursModel", "tired", "[I", true)
  | 21 => ("OthersHoursModel", "goesOn", "[I", true)
  | 22 => ("OthersHoursModel", "pairs", "[I", true)
  | 23 => ("OthersHoursModel", "sights", "I", false)
  | _ => ("OthersHoursModel", "seen", "[I", true)
def tyX5 : Nat → FieldType := fun k => match k with
  | 0 => .array .int
  | 1 => .array .int
  | 2 => .array .int
  | 3 => .array .int
  | 4 => .int
  | 5 => .array .int
  | 6 => .array .int
  | 7 => .int
  | 8 => .int
  | 9 => .array .int
  | 10 => .array .int
  | 11 => .int
  | 12 => .array .int
  | 13 => .int
  | 14 => .array .int
  | 15 => .array .int
  | 16 => .array .int
  | 17 => .array .boolean
  | 18 => .array .int
  | 19 => .array .int
  | 20 => .array .int
  | 21 => .array .int
  | 22 => .array .int
  | 23 => .int
  | _ => .array .int
abbrev wsX50 : List Cond := u_ws RX5 TX5 25
theorem nmX5 : ∀ a, a < 25 → ∀ b, b < 25 → a ≠ b → (TX5 a).2.1 ≠ (TX5 b).2.1 := by decide +kernel
theorem tyX5_ok : ∀ k, k < 25 → parseFieldDescriptor (TX5 k).2.2.1 = some (tyX5 k) := by decide +kernel
abbrev cX5_init : ByteArray := prog_7_method_1_code
def yX5_init : MethodName := ⟨RX5, "<init>", "()V"⟩
abbrev cX5_in : ByteArray := prog_7_method_3_code
def yX5_in : MethodName := ⟨RX5, "in", "(JJJ)Z"⟩
abbrev cX5_isTwo : ByteArray := prog_7_method_4_code
def yX5_isTwo : MethodName := ⟨RX5, "isTwo", "(I)Z"⟩
abbrev cX5_isIn : ByteArray := prog_7_method_5_code
def yX5_isIn : MethodName := ⟨RX5, "isIn", "(II)Z"⟩
abbrev cX5_ones : ByteArray := prog_7_method_6_code
def yX5_ones : MethodName := ⟨RX5, "ones", "(I)I"⟩
abbrev cX5_greater : ByteArray := prog_7_method_7_code
def yX5_greater : MethodName := ⟨RX5, "greater", "(II)I"⟩
abbrev cX5_lesser : ByteArray := prog_7_method_8_code
def yX5_lesser : MethodName := ⟨RX5, "lesser", "(II)I"⟩
abbrev cX5_finds : ByteArray := prog_7_method_9_code
def yX5_finds : MethodName := ⟨RX5, "finds", "(I)I"⟩
abbrev cX5_isSheet : ByteArray := prog_7_method_10_code
def yX5_isSheet : MethodName := ⟨RX5, "isSheet", "(I)Z"⟩
abbrev cX5_sheet : ByteArray := prog_7_method_11_code
def yX5_sheet : MethodName := ⟨RX5, "sheet", "(III)I"⟩
abbrev cX5_lose : ByteArray := prog_7_method_12_code
def yX5_lose : MethodName := ⟨RX5, "lose", "(I)I"⟩
abbrev cX5_lacks : ByteArray := prog_7_method_13_code
def yX5_lacks : MethodName := ⟨RX5, "lacks", "(III)I"⟩
abbrev cX5_cut : ByteArray := prog_7_method_14_code
def yX5_cut : MethodName := ⟨RX5, "cut", "(II)I"⟩
abbrev cX5_lay : ByteArray := prog_7_method_15_code
def yX5_lay : MethodName := ⟨RX5, "lay", "(IIII)I"⟩
abbrev cX5_get : ByteArray := prog_7_method_16_code
def yX5_get : MethodName := ⟨RX5, "get", "(III)I"⟩
abbrev cX5_copy : ByteArray := prog_7_method_17_code
def yX5_copy : MethodName := ⟨RX5, "copy", "(IIIII)I"⟩
abbrev cX5_type : ByteArray := prog_7_method_18_code
def yX5_type : MethodName := ⟨RX5, "type", "(II)I"⟩
abbrev cX5_wipe : ByteArray := prog_7_method_19_code
def yX5_wipe : MethodName := ⟨RX5, "wipe", "(I)I"⟩
abbrev cX5_figure : ByteArray := prog_7_method_20_code
def yX5_figure : MethodName := ⟨RX5, "figure", "(II)I"⟩
abbrev cX5_hour : ByteArray := prog_7_method_21_code
def yX5_hour : MethodName := ⟨RX5, "hour", "(I)I"⟩
abbrev cX5_nobodyGrants : ByteArray := prog_7_method_22_code
def yX5_nobodyGrants : MethodName := ⟨RX5, "nobodyGrants", "()V"⟩
abbrev cX5_isGranted : ByteArray := prog_7_method_23_code
def yX5_isGranted : MethodName := ⟨RX5, "isGranted", "(II)Z"⟩
abbrev cX5_readsGrant : ByteArray := prog_7_method_24_code
def yX5_readsGrant : MethodName := ⟨RX5, "readsGrant", "()Z"⟩
abbrev cX5_readsGrants : ByteArray := prog_7_method_25_code
def yX5_readsGrants : MethodName := ⟨RX5, "readsGrants", "()I"⟩
abbrev cX5_readsOrder : ByteArray := prog_7_method_26_code
def yX5_readsOrder : MethodName := ⟨RX5, "readsOrder", "()Z"⟩
abbrev cX5_readsOrders : ByteArray := prog_7_method_27_code
def yX5_readsOrders : MethodName := ⟨RX5, "readsOrders", "()I"⟩
abbrev cX5_reads : ByteArray := prog_7_method_28_code
def yX5_reads : MethodName := ⟨RX5, "reads", "()V"⟩
abbrev cX5_fault : ByteArray := prog_7_method_29_code
def yX5_fault : MethodName := ⟨RX5, "fault", "(I)I"⟩
abbrev cX5_undo : ByteArray := prog_7_method_30_code
def yX5_undo : MethodName := ⟨RX5, "undo", "(I)I"⟩
abbrev cX5_isBody : ByteArray := prog_7_method_31_code
def yX5_isBody : MethodName := ⟨RX5, "isBody", "(I)Z"⟩
abbrev cX5_isHour : ByteArray := prog_7_method_32_code
def yX5_isHour : MethodName := ⟨RX5, "isHour", "(I)Z"⟩
abbrev cX5_setLaw : ByteArray := prog_7_method_33_code
def yX5_setLaw : MethodName := ⟨RX5, "setLaw", "(I)I"⟩
abbrev cX5_home : ByteArray := prog_7_method_34_code
def yX5_home : MethodName := ⟨RX5, "home", "(II)I"⟩
abbrev cX5_worth : ByteArray := prog_7_method_35_code
def yX5_worth : MethodName := ⟨RX5, "worth", "(III)I"⟩
abbrev cX5_read : ByteArray := prog_7_method_36_code
def yX5_read : MethodName := ⟨RX5, "read", "(II)I"⟩
abbrev cX5_owns : ByteArray := prog_7_method_37_code
def yX5_owns : MethodName := ⟨RX5, "owns", "(II)I"⟩
abbrev cX5_deepOf : ByteArray := prog_7_method_38_code
def yX5_deepOf : MethodName := ⟨RX5, "deepOf", "(II)I"⟩
abbrev cX5_actsBy : ByteArray := prog_7_method_39_code
def yX5_actsBy : MethodName := ⟨RX5, "actsBy", "(III)I"⟩
abbrev cX5_actsNow : ByteArray := prog_7_method_40_code
def yX5_actsNow : MethodName := ⟨RX5, "actsNow", "(II)I"⟩
abbrev cX5_acts : ByteArray := prog_7_method_41_code
def yX5_acts : MethodName := ⟨RX5, "acts", "(II)I"⟩
abbrev cX5_deep : ByteArray := prog_7_method_42_code
def yX5_deep : MethodName := ⟨RX5, "deep", "(II)I"⟩
abbrev cX5_freeOf : ByteArray := prog_7_method_43_code
def yX5_freeOf : MethodName := ⟨RX5, "freeOf", "(I)I"⟩
abbrev cX5_free : ByteArray := prog_7_method_44_code
def yX5_free : MethodName := ⟨RX5, "free", "(I)I"⟩
abbrev cX5_holdsOf : ByteArray := prog_7_method_45_code
def yX5_holdsOf : MethodName := ⟨RX5, "holdsOf", "(I)I"⟩
abbrev cX5_holds : ByteArray := prog_7_method_46_code
def yX5_holds : MethodName := ⟨RX5, "holds", "(I)I"⟩
abbrev cX5_wrongedBy : ByteArray := prog_7_method_47_code
def yX5_wrongedBy : MethodName := ⟨RX5, "wrongedBy", "(I)I"⟩
abbrev cX5_wronged : ByteArray := prog_7_method_48_code
def yX5_wronged : MethodName := ⟨RX5, "wronged", "(I)I"⟩
abbrev cX5_gentlestNow : ByteArray := prog_7_method_49_code
def yX5_gentlestNow : MethodName := ⟨RX5, "gentlestNow", "()I"⟩
abbrev cX5_gentlest : ByteArray := prog_7_method_50_code
def yX5_gentlest : MethodName := ⟨RX5, "gentlest", "()I"⟩
abbrev cX5_more : ByteArray := prog_7_method_51_code
def yX5_more : MethodName := ⟨RX5, "more", "(I)I"⟩
abbrev cX5_lives : ByteArray := prog_7_method_52_code
def yX5_lives : MethodName := ⟨RX5, "lives", "(I)V"⟩
abbrev cX5_find : ByteArray := prog_7_method_53_code
def yX5_find : MethodName := ⟨RX5, "find", "()V"⟩
abbrev cX5_done : ByteArray := prog_7_method_54_code
def yX5_done : MethodName := ⟨RX5, "done", "(I)I"⟩
abbrev cX5_judgedNow : ByteArray := prog_7_method_55_code
def yX5_judgedNow : MethodName := ⟨RX5, "judgedNow", "()I"⟩
abbrev cX5_judged : ByteArray := prog_7_method_56_code
def yX5_judged : MethodName := ⟨RX5, "judged", "()I"⟩
abbrev cX5_bodyOf : ByteArray := prog_7_method_57_code
def yX5_bodyOf : MethodName := ⟨RX5, "bodyOf", "(III)I"⟩
abbrev cX5_body : ByteArray := prog_7_method_58_code
def yX5_body : MethodName := ⟨RX5, "body", "(III)I"⟩
abbrev cX5_metOf : ByteArray := prog_7_method_59_code
def yX5_metOf : MethodName := ⟨RX5, "metOf", "(II)I"⟩
abbrev cX5_met : ByteArray := prog_7_method_60_code
def yX5_met : MethodName := ⟨RX5, "met", "(II)I"⟩
abbrev cX5_slipsOf : ByteArray := prog_7_method_61_code
def yX5_slipsOf : MethodName := ⟨RX5, "slipsOf", "(II)I"⟩
abbrev cX5_slips : ByteArray := prog_7_method_62_code
def yX5_slips : MethodName := ⟨RX5, "slips", "(II)I"⟩
abbrev cX5_bodies : ByteArray := prog_7_method_63_code
def yX5_bodies : MethodName := ⟨RX5, "bodies", "(II)I"⟩
abbrev cX5_soonestOf : ByteArray := prog_7_method_64_code
def yX5_soonestOf : MethodName := ⟨RX5, "soonestOf", "(II)I"⟩
abbrev cX5_soonest : ByteArray := prog_7_method_65_code
def yX5_soonest : MethodName := ⟨RX5, "soonest", "(II)I"⟩
abbrev cX5_fewestOf : ByteArray := prog_7_method_66_code
def yX5_fewestOf : MethodName := ⟨RX5, "fewestOf", "(III)I"⟩
abbrev cX5_fewest : ByteArray := prog_7_method_67_code
def yX5_fewest : MethodName := ⟨RX5, "fewest", "(III)I"⟩
abbrev cX5_goesOnFrom : ByteArray := prog_7_method_68_code
def yX5_goesOnFrom : MethodName := ⟨RX5, "goesOnFrom", "(III)I"⟩
abbrev cX5_runOf : ByteArray := prog_7_method_69_code
def yX5_runOf : MethodName := ⟨RX5, "runOf", "(II)I"⟩
abbrev cX5_longest : ByteArray := prog_7_method_70_code
def yX5_longest : MethodName := ⟨RX5, "longest", "(II)I"⟩
abbrev cX5_run : ByteArray := prog_7_method_71_code
def yX5_run : MethodName := ⟨RX5, "run", "(II)I"⟩
abbrev cX5_wants : ByteArray := prog_7_method_72_code
def yX5_wants : MethodName := ⟨RX5, "wants", "(III)Z"⟩
abbrev cX5_wouldTrade : ByteArray := prog_7_method_73_code
def yX5_wouldTrade : MethodName := ⟨RX5, "wouldTrade", "(IIII)Z"⟩
abbrev cX5_tradeOf : ByteArray := prog_7_method_74_code
def yX5_tradeOf : MethodName := ⟨RX5, "tradeOf", "(IIII)I"⟩
abbrev cX5_trade : ByteArray := prog_7_method_75_code
def yX5_trade : MethodName := ⟨RX5, "trade", "(IIII)I"⟩
abbrev cX5_tradesNow : ByteArray := prog_7_method_76_code
def yX5_tradesNow : MethodName := ⟨RX5, "tradesNow", "()I"⟩
abbrev cX5_trades : ByteArray := prog_7_method_77_code
def yX5_trades : MethodName := ⟨RX5, "trades", "()I"⟩
abbrev cX5_freesOf : ByteArray := prog_7_method_78_code
def yX5_freesOf : MethodName := ⟨RX5, "freesOf", "(I)I"⟩
abbrev cX5_frees : ByteArray := prog_7_method_79_code
def yX5_frees : MethodName := ⟨RX5, "frees", "(I)I"⟩
abbrev cX5_wordNow : ByteArray := prog_7_method_80_code
def yX5_wordNow : MethodName := ⟨RX5, "wordNow", "()I"⟩
abbrev cX5_word : ByteArray := prog_7_method_81_code
def yX5_word : MethodName := ⟨RX5, "word", "()I"⟩
abbrev cX5_heirOf : ByteArray := prog_7_method_82_code
def yX5_heirOf : MethodName := ⟨RX5, "heirOf", "(II)I"⟩
abbrev cX5_heir : ByteArray := prog_7_method_83_code
def yX5_heir : MethodName := ⟨RX5, "heir", "(II)I"⟩
abbrev cX5_seen : ByteArray := prog_7_method_84_code
def yX5_seen : MethodName := ⟨RX5, "seen", "(III)I"⟩
abbrev cX5_forget : ByteArray := prog_7_method_85_code
def yX5_forget : MethodName := ⟨RX5, "forget", "()I"⟩
abbrev cX5_suspectsNow : ByteArray := prog_7_method_86_code
def yX5_suspectsNow : MethodName := ⟨RX5, "suspectsNow", "()I"⟩
abbrev cX5_suspects : ByteArray := prog_7_method_87_code
def yX5_suspects : MethodName := ⟨RX5, "suspects", "()I"⟩
abbrev cX5_likelyNow : ByteArray := prog_7_method_88_code
def yX5_likelyNow : MethodName := ⟨RX5, "likelyNow", "()I"⟩
abbrev cX5_likely : ByteArray := prog_7_method_89_code
def yX5_likely : MethodName := ⟨RX5, "likely", "()I"⟩
abbrev cX5_write : ByteArray := prog_7_method_90_code
def yX5_write : MethodName := ⟨RX5, "write", "(II)I"⟩
abbrev cX5_count : ByteArray := prog_7_method_91_code
def yX5_count : MethodName := ⟨RX5, "count", "(I)I"⟩
abbrev cX5_tellsHour : ByteArray := prog_7_method_92_code
def yX5_tellsHour : MethodName := ⟨RX5, "tellsHour", "(JII)J"⟩
abbrev cX5_digest : ByteArray := prog_7_method_93_code
def yX5_digest : MethodName := ⟨RX5, "digest", "()J"⟩
def RJ6 : String := "java/lang/Integer"
def TJ6 : u_T := fun k => match k with
  | _ => ("", "", "", false)
def tyJ6 : Nat → FieldType := fun k => match k with
  | _ => .int
abbrev wsJ60 : List Cond := u_ws RJ6 TJ6 0
theorem nmJ6 : ∀ a, a < 0 → ∀ b, b < 0 → a ≠ b → (TJ6 a).2.1 ≠ (TJ6 b).2.1 := by decide +kernel
theorem tyJ6_ok : ∀ k, k < 0 → parseFieldDescriptor (TJ6 k).2.2.1 = some (tyJ6 k) := by decide +kernel
abbrev cJ6_bitCount_0f7a4 : ByteArray := prog_8_method_49_code
def yJ6_bitCount_0f7a4 : MethodName := ⟨RJ6, "bitCount", "(I)I"⟩
def RJ9 : String := "java/lang/Math"
def TJ9 : u_T := fun k => match k with
  | _ => ("", "", "", false)
def tyJ9 : Nat → FieldType := fun k => match k with
  | _ => .int
abbrev wsJ90 : List Cond := u_ws RJ9 TJ9 0
theorem nmJ9 : ∀ a, a < 0 → ∀ b, b < 0 → a ≠ b → (TJ9 a).2.1 ≠ (TJ9 b).2.1 := by decide +kernel
theorem tyJ9_ok : ∀ k, k < 0 → parseFieldDescriptor (TJ9 k).2.2.1 = some (tyJ9 k) := by decide +kernel
abbrev cJ9_max_7cf53 : ByteArray := prog_9_method_65_code
def yJ9_max_7cf53 : MethodName := ⟨RJ9, "max", "(II)I"⟩
abbrev cJ9_min_7cf53 : ByteArray := prog_9_method_69_code
def yJ9_min_7cf53 : MethodName := ⟨RJ9, "min", "(II)I"⟩
def RJ10 : String := "java/lang/System"
def TJ10 : u_T := fun k => match k with
  | _ => ("", "", "", false)
def tyJ10 : Nat → FieldType := fun k => match k with
  | _ => .int
abbrev wsJ100 : List Cond := u_ws RJ10 TJ10 0
theorem nmJ10 : ∀ a, a < 0 → ∀ b, b < 0 → a ≠ b → (TJ10 a).2.1 ≠ (TJ10 b).2.1 := by decide +kernel
theorem tyJ10_ok : ∀ k, k < 0 → parseFieldDescriptor (TJ10 k).2.2.1 = some (tyJ10 k) := by decide +kernel
def RJ7 : String := "java/util/Arrays"
def TJ7 : u_T := fun k => match k with
  | _ => ("", "", "", false)
def tyJ7 : Nat → FieldType := fun k => match k with
  | _ => .int
abbrev wsJ70 : List Cond := u_ws RJ7 TJ7 0
theorem nmJ7 : ∀ a, a < 0 → ∀ b, b < 0 → a ≠ b → (TJ7 a).2.1 ≠ (TJ7 b).2.1 := by decide +kernel
theorem tyJ7_ok : ∀ k, k < 0 → parseFieldDescriptor (TJ7 k).2.2.1 = some (tyJ7 k) := by decide +kernel
abbrev cJ7_rangeCheck_23922 : ByteArray := prog_11_method_30_code
def yJ7_rangeCheck_23922 : MethodName := ⟨RJ7, "rangeCheck", "(III)V"⟩
abbrev cJ7_fill_53178 : ByteArray := prog_11_method_103_code
def yJ7_fill_53178 : MethodName := ⟨RJ7, "fill", "([II)V"⟩
abbrev cJ7_fill_fda19 : ByteArray := prog_11_method_104_code
def yJ7_fill_fda19 : MethodName := ⟨RJ7, "fill", "([IIII)V"⟩
def RL : String := "OthersHoursLaw"
abbrev cL_law : ByteArray := code
def yL_law : MethodName := ⟨RL, "law", "([I)Z"⟩
abbrev vwCl : List vw_C := [(RX0, TX0, 9), (RX1, TX1, 1), (RX2, TX2, 3), (RX3, TX3, 7), (RX4, TX4, 15), (RX5, TX5, 25)]
end
section
/-! THE SMALL MACHINE: ints as Int, the world as a function of (sort, number, place). A method is a table of
its instructions; 'oh_sem' says what each asks of the state behind it (goal first). -/
abbrev AV : Type := Int ⊕ (Int ⊕ ((Nat × Nat) ⊕ Nat))
abbrev oI (x : Int) : AV := Sum.inl x
abbrev oL (x : Int) : AV := Sum.inr (Sum.inl x)
abbrev oR (s n : Nat) : AV := Sum.inr (Sum.inr (Sum.inl (s, n)))
abbrev oK (c : Nat) : AV := Sum.inr (Sum.inr (Sum.inr c))
abbrev Mem : Type := Nat → Nat → Int → Int
abbrev LV : Type := List (Option AV)
abbrev Po : Type := Option AV → Mem → Prop
abbrev Tr : Type := List AV → Mem → Po → Prop
abbrev Kt : Type := Nat → LV → List AV → Mem → Prop
/-- a row of a method's table: place, instruction, its length, the place behind it, where it may go -/
abbrev IR : Type := Nat × ClassFile.Instr × Nat × Nat × List (Int × Nat)
/-- a method: its rows; its fields (pool number, sort, place, the place as an Int); int constants, and long ones (at their number and 100000); static arrays; calls (not static: at their number and 100000); whether it answers a boolean; the arrays that stay -/
abbrev PG : Type := List IR × List (Nat × Nat × Nat × Int) × List (Nat × Int) × List (Nat × Nat) × List (Nat × Nat × Tr) × Bool × (Nat → Int × (Int → Int))
def oh_nth {α : Type} : List α → Nat → α → α
  | [], _, d => d
  | a :: _, 0, _ => a
  | _ :: l, n + 1, d => oh_nth l n d
def oh_look {α : Type} : List (Nat × α) → Nat → Option α
  | [], _ => none
  | (k, a) :: l, n => match Nat.beq k n with
    | true => some a
    | false => oh_look l n
def oh_put : LV → Nat → Option AV → (LV → Prop) → Prop
  | [], _, _, _ => False
  | _ :: l, 0, v, k => k (v :: l)
  | a :: l, i + 1, v, k => oh_put l i v (fun l' => k (a :: l'))
/-- the local ahead of place i is no long -/
def oh_pl (ls : LV) (i : Nat) : Bool := match i with
  | 0 => true
  | j + 1 => match oh_nth ls j none with
    | some (Sum.inr (Sum.inl _)) => false
    | _ => true
def oh_trK : Nat → LV → (LV → Prop) → Prop
  | _, [], k => k []
  | 0, _ :: l, k => oh_trK 0 l (fun l' => k (none :: l'))
  | n + 1, a :: l, k => oh_trK n l (fun l' => k (a :: l'))
def oh_args : Nat → List AV → List AV → (List AV → List AV → Prop) → Prop
  | 0, st, acc, k => k acc st
  | n + 1, Sum.inl x :: st, acc, k => oh_args n st (Sum.inl x :: acc) k
  | n + 1, Sum.inr (Sum.inl x) :: st, acc, k => oh_args n st (Sum.inr (Sum.inl x) :: acc) k
  | n + 1, Sum.inr (Sum.inr (Sum.inl x)) :: st, acc, k => oh_args n st (Sum.inr (Sum.inr (Sum.inl x)) :: acc) k
  | _ + 1, _, _, _ => False
def oh_cat : List AV → Nat
  | [] => 0
  | Sum.inr (Sum.inl _) :: l => oh_cat l + 2
  | _ :: l => oh_cat l + 1
/-- an array of ints of a sort: its length -/
def oh_lenT : List (Option Int) := [none, some 144, some 144, some 144, some 144, some 6, some 6, none, some 144, none, some 60, none, some 99, none, none, some 6, some 144, some 6, some 12, some 8, some 8, none, none, some 4, some 4, some 240, some 60, some 198, some 2, some 60, some 144, some 80, some 6, some 144, some 144, none, some 144, some 144, some 144, some 144, some 4096, some 24]
def oh_len (s : Nat) : Option Int := oh_nth oh_lenT s none
/-- fields of a sort of objects: (0, ..) int, (1, ..) boolean, (2, t, ..) the same number of sort t, (3, t, c) number c of sort t, (4, ..) final int, (5, ..) final boolean -/
def oh_ftT : List (Nat × List (Nat × Nat × Nat)) :=
  [(0, [(4, 0, 0), (2, 1, 0), (2, 2, 0), (2, 3, 0), (2, 4, 0), (2, 5, 0), (2, 6, 0), (0, 0, 0), (1, 0, 0)]),
   (7, [(2, 8, 0)]),
   (9, [(2, 10, 0), (0, 0, 0), (0, 0, 0)]),
   (11, [(2, 12, 0), (4, 0, 0), (4, 0, 0), (4, 0, 0), (5, 0, 0), (0, 0, 0), (0, 0, 0)]),
   (13, [(3, 11, 0), (3, 11, 1), (3, 7, 0), (3, 7, 1), (2, 14, 0), (2, 15, 0), (2, 16, 0), (2, 17, 0), (2, 18, 0), (2, 19, 0), (2, 20, 0), (2, 21, 0), (0, 0, 0), (0, 0, 0), (0, 0, 0)]),
   (22, [(2, 23, 0), (2, 24, 0), (2, 25, 0), (2, 26, 0), (0, 0, 0), (2, 27, 0), (2, 28, 0), (0, 0, 0), (0, 0, 0), (2, 29, 0), (2, 30, 0), (0, 0, 0), (2, 31, 0), (0, 0, 0), (2, 32, 0), (2, 33, 0), (2, 34, 0), (2, 35, 0), (2, 36, 0), (2, 37, 0), (2, 38, 0), (2, 39, 0), (2, 40, 0), (0, 0, 0), (2, 41, 0)])]
def oh_ft (s k : Nat) : Nat × Nat × Nat := match oh_look oh_ftT s with
  | some l => oh_nth l k (9, 0, 0)
  | none => (9, 0, 0)
def oh_up (μ : Mem) (s n : Nat) (j v : Int) : Mem := fun s' n' j' => if s' = s ∧ n' = n ∧ j' = j then v else μ s' n' j'
def oh_and (x y : Int) : Int := (Int32.ofInt x &&& Int32.ofInt y).toInt
def oh_or (x y : Int) : Int := (Int32.ofInt x ||| Int32.ofInt y).toInt
def oh_xor (x y : Int) : Int := (Int32.ofInt x ^^^ Int32.ofInt y).toInt
def oh_shl (x y : Int) : Int := (Int32.ofInt x <<< (Int32.ofInt y &&& 31)).toInt
def oh_shr (x y : Int) : Int := (Int32.ofInt x >>> (Int32.ofInt y &&& 31)).toInt
def oh_ushr (x y : Int) : Int := ((Int32.ofInt x).toUInt32 >>> ((Int32.ofInt y).toUInt32 &&& Int32.toUInt32 31)).toInt32.toInt
def oh_i2b (x : Int) : Int := (Int32.ofInt x).toInt8.toInt32.toInt
def oh_i2s (x : Int) : Int := (Int32.ofInt x).toInt16.toInt32.toInt
def oh_w64 (x : Int) : Int := (Int64.ofInt x).toInt
def oh_cmp (x y : Int) : Int := if x < y then -1 else if x = y then 0 else 1
def oh_swl (x : Int) : List (Int × Nat) → (Nat → Prop) → Prop
  | [], _ => True
  | (a, t) :: l, k => (x = a → k t) ∧ oh_swl x l k
def oh_br (c : Prop) (tg : List (Int × Nat)) (nx : Nat) (k : Nat → Prop) : Prop := match tg with
  | (_, t) :: _ => (c → k t) ∧ (¬ c → k nx)
  | [] => False
/-- reads of locals, by kind -/
def oh_ldI (ls : LV) (i : Nat) (k : Int → Prop) : Prop := match oh_nth ls i none with
  | some (Sum.inl x) => k x
  | _ => False
def oh_ldL (ls : LV) (i : Nat) (k : Int → Prop) : Prop := match oh_nth ls i none with
  | some (Sum.inr (Sum.inl x)) => k x
  | _ => False
def oh_ldA (ls : LV) (i : Nat) (k : (Nat × Nat) ⊕ Nat → Prop) : Prop := match oh_nth ls i none with
  | some (Sum.inr (Sum.inr x)) => k x
  | _ => False
def oh_st1 (ls : LV) (i : Nat) (v : AV) (k : LV → Prop) : Prop := match oh_pl ls i with
  | true => oh_put ls i (some v) k
  | false => False
def oh_st2 (ls : LV) (i : Nat) (v : AV) (k : LV → Prop) : Prop := match oh_pl ls i with
  | true => oh_put ls i (some v) (fun ls1 => oh_put ls1 (i + 1) none k)
  | false => False
def oh_stI (ls : LV) (i : Nat) (st : List AV) (k : LV → List AV → Prop) : Prop := match st with
  | Sum.inl x :: st1 => oh_st1 ls i (oI x) (fun l => k l st1)
  | _ => False
def oh_stA (ls : LV) (i : Nat) (st : List AV) (k : LV → List AV → Prop) : Prop := match st with
  | Sum.inr (Sum.inr x) :: st1 => oh_st1 ls i (Sum.inr (Sum.inr x)) (fun l => k l st1)
  | _ => False
def oh_stL (ls : LV) (i : Nat) (st : List AV) (k : LV → List AV → Prop) : Prop := match st with
  | Sum.inr (Sum.inl x) :: st1 => oh_st2 ls i (oL x) (fun l => k l st1)
  | _ => False
def oh_b2 (st : List AV) (k : Int → Int → List AV → Prop) : Prop := match st with
  | Sum.inl y :: Sum.inl x :: st1 => k x y st1
  | _ => False
def oh_b1 (st : List AV) (k : Int → List AV → Prop) : Prop := match st with
  | Sum.inl x :: st1 => k x st1
  | _ => False
def oh_l2 (st : List AV) (k : Int → Int → List AV → Prop) : Prop := match st with
  | Sum.inr (Sum.inl y) :: Sum.inr (Sum.inl x) :: st1 => k x y st1
  | _ => False
def oh_rg (x : Int) (A : Prop) : Prop := (-2147483648 ≤ x ∧ x ≤ 2147483647) ∧ A
def oh_get (s0 k : Nat) (o : Int) (st : List AV) (μ : Mem) (K : List AV → Prop) : Prop := match st with
  | Sum.inr (Sum.inr (Sum.inl (s, n))) :: st1 => match Nat.beq s s0 with
    | true => match oh_ft s0 k with
      | (0, _, _) => K (oI (μ s0 n o) :: st1)
      | (1, _, _) => K (oI (μ s0 n o) :: st1)
      | (4, _, _) => K (oI (μ s0 n o) :: st1)
      | (5, _, _) => K (oI (μ s0 n o) :: st1)
      | (2, t, _) => K (oR t n :: st1)
      | (3, t, c) => K (oR t c :: st1)
      | _ => False
    | false => False
  | _ => False
def oh_set (s0 k : Nat) (o : Int) (st : List AV) (μ : Mem) (K : List AV → Mem → Prop) : Prop := match st with
  | Sum.inl v :: Sum.inr (Sum.inr (Sum.inl (s, n))) :: st1 => match Nat.beq s s0 with
    | true => match oh_ft s0 k with
      | (0, _, _) => K st1 (oh_up μ s0 n o v)
      | (1, _, _) => (0 ≤ v ∧ v ≤ 1) ∧ K st1 (oh_up μ s0 n o v)
      | _ => False
    | false => False
  | _ => False
def oh_ald (kc : Nat → Int × (Int → Int)) (st : List AV) (μ : Mem) (K : List AV → Prop) : Prop := match st with
  | Sum.inl i :: Sum.inr (Sum.inr (Sum.inl (s, n))) :: st1 => match oh_len s with
    | some L => (0 ≤ i ∧ i < L) ∧ K (oI (μ s n i) :: st1)
    | none => False
  | Sum.inl i :: Sum.inr (Sum.inr (Sum.inr c)) :: st1 => match kc c with
    | (L, f) => (0 ≤ i ∧ i < L) ∧ K (oI (f i) :: st1)
  | _ => False
def oh_ast (st : List AV) (μ : Mem) (K : List AV → Mem → Prop) : Prop := match st with
  | Sum.inl v :: Sum.inl i :: Sum.inr (Sum.inr (Sum.inl (s, n))) :: st1 => match oh_len s with
    | some L => (0 ≤ i ∧ i < L) ∧ K st1 (oh_up μ s n i v)
    | none => False
  | _ => False
def oh_zld (st : List AV) (μ : Mem) (K : List AV → Prop) : Prop := match st with
  | Sum.inl i :: Sum.inr (Sum.inr (Sum.inl (s, n))) :: st1 => match Nat.beq s 35 with
    | true => (0 ≤ i ∧ i < 20) ∧ K (oI (μ 35 n i) :: st1)
    | false => False
  | _ => False
def oh_zst (st : List AV) (μ : Mem) (K : List AV → Mem → Prop) : Prop := match st with
  | Sum.inl v :: Sum.inl i :: Sum.inr (Sum.inr (Sum.inl (s, n))) :: st1 => match Nat.beq s 35 with
    | true => (0 ≤ i ∧ i < 20) ∧ (0 ≤ v ∧ v ≤ 1) ∧ K st1 (oh_up μ 35 n i v)
    | false => False
  | _ => False
def oh_rld (st : List AV) (K : List AV → Prop) : Prop := match st with
  | Sum.inl i :: Sum.inr (Sum.inr (Sum.inl (s, _))) :: st1 => match Nat.beq s 14 with
    | true => (0 ≤ i ∧ i < 3) ∧ K (oR 0 i.toNat :: st1)
    | false => match Nat.beq s 21 with
      | true => (0 ≤ i ∧ i < 4) ∧ K (oR 9 i.toNat :: st1)
      | false => False
  | _ => False
def oh_aln (kc : Nat → Int × (Int → Int)) (st : List AV) (K : List AV → Prop) : Prop := match st with
  | Sum.inr (Sum.inr (Sum.inl (s, _))) :: st1 => match oh_len s with
    | some L => K (oI L :: st1)
    | none => False
  | Sum.inr (Sum.inr (Sum.inr c)) :: st1 => match kc c with
    | (L, _) => K (oI L :: st1)
  | _ => False
def oh_dup (st : List AV) (K : List AV → Prop) : Prop := match st with
  | Sum.inl x :: st1 => K (oI x :: oI x :: st1)
  | Sum.inr (Sum.inr x) :: st1 => K (Sum.inr (Sum.inr x) :: Sum.inr (Sum.inr x) :: st1)
  | _ => False
def oh_dup2 (st : List AV) (K : List AV → Prop) : Prop := match st with
  | Sum.inl x :: Sum.inr (Sum.inr y) :: st1 => K (oI x :: Sum.inr (Sum.inr y) :: oI x :: Sum.inr (Sum.inr y) :: st1)
  | _ => False
def oh_pop (st : List AV) (K : List AV → Prop) : Prop := match st with
  | Sum.inl _ :: st1 => K st1
  | _ => False
def oh_inv (ca : List (Nat × Nat × Tr)) (idx : Nat) (st : List AV) (μ : Mem) (K : List AV → Mem → Prop) : Prop := match oh_look ca idx with
  | some (na, T) => oh_args na st [] (fun as st1 => match Nat.ble (oh_cat st1) 8 with
    | true => T as μ (fun r μ1 => match r with
      | none => K st1 μ1
      | some v => K (v :: st1) μ1) ∧ True
    | false => False)
  | none => False
def oh_cond (c : ClassFile.Cond) (x y : Int) (tg : List (Int × Nat)) (nx : Nat) (k : Nat → Prop) : Prop := match c with
  | .eq => oh_br (x = y) tg nx k
  | .ne => oh_br (¬ x = y) tg nx k
  | .lt => oh_br (x < y) tg nx k
  | .ge => oh_br (y ≤ x) tg nx k
  | .gt => oh_br (y < x) tg nx k
  | .le => oh_br (x ≤ y) tg nx k
def oh_sem (P : PG) (Post : Po) (K : Kt) (i : ClassFile.Instr) (nx : Nat) (tg : List (Int × Nat)) (ls : LV) (st : List AV) (μ : Mem) : Prop := match i with
  | .iconst n => K nx ls (oI n :: st) μ
  | .bipush n => K nx ls (oI n :: st) μ
  | .sipush n => K nx ls (oI n :: st) μ
  | .lconst n => K nx ls (oL (n.val : Int) :: st) μ
  | .ldc k => match oh_look P.2.2.1 k with
    | some v => K nx ls (oI v :: st) μ
    | none => False
  | .ldc_w k => match oh_look P.2.2.1 k with
    | some v => K nx ls (oI v :: st) μ
    | none => False
  | .ldc2_w k => match oh_look P.2.2.1 (k + 100000) with
    | some v => K nx ls (oL v :: st) μ
    | none => False
  | .iload k => oh_ldI ls k (fun x => K nx ls (oI x :: st) μ)
  | .iload_n k => oh_ldI ls k.val (fun x => K nx ls (oI x :: st) μ)
  | .lload k => oh_ldL ls k (fun x => K nx ls (oL x :: st) μ)
  | .lload_n k => oh_ldL ls k.val (fun x => K nx ls (oL x :: st) μ)
  | .aload k => oh_ldA ls k (fun x => K nx ls (Sum.inr (Sum.inr x) :: st) μ)
  | .aload_n k => oh_ldA ls k.val (fun x => K nx ls (Sum.inr (Sum.inr x) :: st) μ)
  | .istore k => oh_stI ls k st (fun l st1 => K nx l st1 μ)
  | .istore_n k => oh_stI ls k.val st (fun l st1 => K nx l st1 μ)
  | .lstore k => oh_stL ls k st (fun l st1 => K nx l st1 μ)
  | .lstore_n k => oh_stL ls k.val st (fun l st1 => K nx l st1 μ)
  | .astore k => oh_stA ls k st (fun l st1 => K nx l st1 μ)
  | .astore_n k => oh_stA ls k.val st (fun l st1 => K nx l st1 μ)
  | .iinc k n => oh_ldI ls k (fun x => oh_rg (x + n) (oh_st1 ls k (oI (x + n)) (fun l => K nx l st μ)))
  | .iadd => oh_b2 st (fun x y st1 => oh_rg (x + y) (K nx ls (oI (x + y) :: st1) μ))
  | .isub => oh_b2 st (fun x y st1 => oh_rg (x - y) (K nx ls (oI (x - y) :: st1) μ))
  | .imul => oh_b2 st (fun x y st1 => oh_rg (x * y) (K nx ls (oI (x * y) :: st1) μ))
  | .idiv => oh_b2 st (fun x y st1 => (0 ≤ x ∧ 0 < y) ∧ K nx ls (oI (x / y) :: st1) μ)
  | .irem => oh_b2 st (fun x y st1 => (0 ≤ x ∧ 0 < y) ∧ K nx ls (oI (x % y) :: st1) μ)
  | .iand => oh_b2 st (fun x y st1 => K nx ls (oI (oh_and x y) :: st1) μ)
  | .ior => oh_b2 st (fun x y st1 => K nx ls (oI (oh_or x y) :: st1) μ)
  | .ixor => oh_b2 st (fun x y st1 => K nx ls (oI (oh_xor x y) :: st1) μ)
  | .ishl => oh_b2 st (fun x y st1 => K nx ls (oI (oh_shl x y) :: st1) μ)
  | .ishr => oh_b2 st (fun x y st1 => K nx ls (oI (oh_shr x y) :: st1) μ)
  | .iushr => oh_b2 st (fun x y st1 => K nx ls (oI (oh_ushr x y) :: st1) μ)
  | .i2b => oh_b1 st (fun x st1 => K nx ls (oI (oh_i2b x) :: st1) μ)
  | .i2s => oh_b1 st (fun x st1 => K nx ls (oI (oh_i2s x) :: st1) μ)
  | .i2l => oh_b1 st (fun x st1 => K nx ls (oL x :: st1) μ)
  | .ladd => oh_l2 st (fun x y st1 => K nx ls (oL (oh_w64 (x + y)) :: st1) μ)
  | .lmul => oh_l2 st (fun x y st1 => K nx ls (oL (oh_w64 (x * y)) :: st1) μ)
  | .lcmp => oh_l2 st (fun x y st1 => K nx ls (oI (oh_cmp x y) :: st1) μ)
  | .ifCond c _ => oh_b1 st (fun x st1 => oh_cond c x 0 tg nx (fun t => K t ls st1 μ))
  | .if_icmp c _ => oh_b2 st (fun x y st1 => oh_cond c x y tg nx (fun t => K t ls st1 μ))
  | .goto _ => match tg with
    | (_, t) :: _ => K t ls st μ
    | [] => False
  | .tableswitch _ lo hi _ => oh_b1 st (fun x st1 => match tg with
    | (_, t) :: l => (x < lo ∨ hi < x → K t ls st1 μ) ∧ oh_swl x l (fun t => K t ls st1 μ)
    | [] => False)
  | .getfield k => match oh_look P.2.1 k with
    | some (s0, f, o) => oh_get s0 f o st μ (fun st1 => K nx ls st1 μ)
    | none => False
  | .putfield k => match oh_look P.2.1 k with
    | some (s0, f, o) => oh_set s0 f o st μ (fun st1 μ1 => K nx ls st1 μ1)
    | none => False
  | .getstatic k => match oh_look P.2.2.2.1 k with
    | some c => K nx ls (oK c :: st) μ
    | none => False
  | .iaload => oh_ald P.2.2.2.2.2.2 st μ (fun st1 => K nx ls st1 μ)
  | .iastore => oh_ast st μ (fun st1 μ1 => K nx ls st1 μ1)
  | .baload => oh_zld st μ (fun st1 => K nx ls st1 μ)
  | .bastore => oh_zst st μ (fun st1 μ1 => K nx ls st1 μ1)
  | .aaload => oh_rld st (fun st1 => K nx ls st1 μ)
  | .arraylength => oh_aln P.2.2.2.2.2.2 st (fun st1 => K nx ls st1 μ)
  | .dup => oh_dup st (fun st1 => K nx ls st1 μ)
  | .dup2 => oh_dup2 st (fun st1 => K nx ls st1 μ)
  | .pop => oh_pop st (fun st1 => K nx ls st1 μ)
  | .invokestatic k => oh_inv P.2.2.2.2.1 k st μ (fun st1 μ1 => K nx ls st1 μ1)
  | .invokevirtual k => oh_inv P.2.2.2.2.1 (k + 100000) st μ (fun st1 μ1 => K nx ls st1 μ1)
  | .ireturn => match st with
    | [Sum.inl x] => match P.2.2.2.2.2.1 with
      | true => (0 ≤ x ∧ x ≤ 1) ∧ Post (some (oI x)) μ
      | false => Post (some (oI x)) μ
    | _ => False
  | .lreturn => match st with
    | [Sum.inr (Sum.inl x)] => Post (some (oL x)) μ
    | _ => False
  | .areturn => match st with
    | [Sum.inr (Sum.inr (Sum.inl q))] => Post (some (Sum.inr (Sum.inr (Sum.inl q)))) μ
    | _ => False
  | .return_ => match st with
    | [] => Post none μ
    | _ => False
  | _ => False
def oh_step (P : PG) (Post : Po) (K : Kt) (pc : Nat) (ls : LV) (st : List AV) (μ : Mem) : Prop := match oh_look P.1 pc with
  | some (i, _, nx, tg) => oh_sem P Post K i nx tg ls st μ
  | none => False
/-- a claim about states that the machine's steps lead to -/
def oh_Cl (P : PG) (Post : Po) (G : Kt) : Prop :=
  (∀ K : Kt, (∀ pc ls st μ, K pc ls st μ → G pc ls st μ) → ∀ pc ls st μ, oh_step P Post K pc ls st μ → G pc ls st μ) ∧
  ∀ k pc ls st μ, oh_trK k ls (fun l => G pc l st μ) → G pc ls st μ
def oh_wp (P : PG) (Post : Po) (G : Kt) (sp : List (Nat × Nat)) : Nat → Kt
  | 0 => fun pc ls st μ => G pc ls st μ
  | n + 1 => fun pc ls st μ => match oh_look sp pc with
    | some k => oh_trK k ls (fun l => G pc l st μ)
    | none => oh_step P Post (oh_wp P Post G sp n) pc ls st μ
theorem oh_wp_G {P : PG} {Post : Po} {G : Kt} (h : oh_Cl P Post G) (sp : List (Nat × Nat)) : ∀ (n : Nat) pc ls st μ, oh_wp P Post G sp n pc ls st μ → G pc ls st μ := by
  intro n
  induction n with
  | zero => intro pc ls st μ k; exact k
  | succ n ih =>
    intro pc ls st μ k
    unfold oh_wp at k
    split at k
    · exact h.2 _ _ _ _ _ k
    · exact h.1 _ ih _ _ _ _ k
theorem oh_go {P : PG} {Post : Po} {G : Kt} (h : oh_Cl P Post G) (sp : List (Nat × Nat)) (n : Nat) {pc : Nat} {ls : LV} {st : List AV} {μ : Mem} (k : oh_step P Post (oh_wp P Post G sp n) pc ls st μ) : G pc ls st μ := h.1 _ (oh_wp_G h sp n) _ _ _ _ k
/-- the locals at the entry: the arguments (a long takes two places), then what isn't set yet -/
def oh_pad : Nat → (LV → Prop) → Prop
  | 0, k => k []
  | n + 1, k => oh_pad n (fun l => k (none :: l))
def oh_ent : List AV → Nat → (LV → Prop) → Prop
  | [], n, k => oh_pad n k
  | Sum.inr (Sum.inl x) :: l, n + 2, k => oh_ent l n (fun r => k (some (oL x) :: none :: r))
  | Sum.inl x :: l, n + 1, k => oh_ent l n (fun r => k (some (oI x) :: r))
  | Sum.inr (Sum.inr x) :: l, n + 1, k => oh_ent l n (fun r => k (some (Sum.inr (Sum.inr x)) :: r))
  | _ :: _, _, _ => False
def oh_rgI (x : Int) : Prop := -2147483648 ≤ x ∧ x ≤ 2147483647
def oh_rgL (x : Int) : Prop := -9223372036854775808 ≤ x ∧ x ≤ 9223372036854775807
/-- how many of a sort there are -/
def oh_cntT : List Nat := [3, 3, 3, 3, 3, 3, 3, 2, 2, 4, 4, 2, 2, 1, 1, 1, 1, 1, 1, 1, 1, 1, 1, 1, 1, 1, 1, 1, 1, 1, 1, 1, 1, 1, 1, 1, 1, 1, 1, 1, 1, 1]
def oh_cnt (s : Nat) : Nat := oh_nth oh_cntT s 0
def oh_wf (v : AV) : Prop := match v with
  | Sum.inl x => oh_rgI x
  | Sum.inr (Sum.inl x) => oh_rgL x
  | Sum.inr (Sum.inr (Sum.inl q)) => q.2 < oh_cnt q.1
  | Sum.inr (Sum.inr (Sum.inr _)) => True
def oh_wfM (μ : Mem) : Prop := ∀ s n j, oh_rgI (μ s n j)
/-- a method keeps a contract: at its entry, whatever its answer is asked to be -/
def oh_Ok (P : PG) (nL : Nat) (T : Tr) : Prop := ∀ (as : List AV) (μ : Mem) (Post : Po) (G : Kt), oh_Cl P Post G → (∀ v ∈ as, oh_wf v) → oh_wfM μ → T as μ Post → oh_ent as nL (fun ls => G 0 ls [] μ)
/-- loops that count up to a bound -/
theorem oh_for {F : Int → Prop} (hi : Int) (h1 : ∀ c, hi ≤ c → F c) (h2 : ∀ c, c < hi → F (c + 1) → F c) : ∀ c, F c := by
  have key : ∀ (n : Nat) (c : Int), hi - c ≤ n → F c := by
    intro n
    induction n with
    | zero => intro c h; exact h1 c (by omega)
    | succ n ih =>
      intro c h
      by_cases hc : hi ≤ c
      · exact h1 c hc
      · exact h2 c (by omega) (ih (c + 1) (by omega))
  intro c
  exact key (hi - c).toNat c (by omega)
end
section
/-! THE TABLES: each method's rows, by program out of the printed decode rows; calls by their pool numbers, the contracts of the called as arguments. -/
def oh_nthI : List Int → Int → Int
  | [], _ => 0
  | a :: l, j => if j = 0 then a else oh_nthI l (j - 1)
def oh_kc : Nat → Int × (Int → Int) := fun c => match c with
  | 0 => (5, oh_nthI [-3, 2, 1, 1, 0])
  | _ => (3, oh_nthI [0, 9, 20])

def fl_X0 : List (Nat × Nat × Nat × Int) := [(9, 0, 0, 0), (15, 0, 1, 1), (19, 0, 2, 2), (22, 0, 3, 3), (25, 0, 4, 4), (28, 0, 5, 5), (31, 0, 6, 6), (34, 0, 8, 8), (58, 0, 7, 7)]
def cs_X0 : List (Nat × Int) := []
def ks_X0 : List (Nat × Nat) := [(84, 0)]
def fl_X1 : List (Nat × Nat × Nat × Int) := [(9, 7, 0, 0)]
def cs_X1 : List (Nat × Int) := []
def ks_X1 : List (Nat × Nat) := []
def fl_X2 : List (Nat × Nat × Nat × Int) := [(9, 9, 0, 0), (15, 9, 2, 2), (19, 9, 1, 1)]
def cs_X2 : List (Nat × Int) := []
def ks_X2 : List (Nat × Nat) := []
def fl_X3 : List (Nat × Nat × Nat × Int) := [(9, 11, 0, 0), (15, 11, 1, 1), (19, 11, 2, 2), (22, 11, 3, 3), (25, 11, 4, 4), (29, 11, 6, 6), (36, 11, 5, 5)]
def cs_X3 : List (Nat × Int) := []
def ks_X3 : List (Nat × Nat) := []
def fl_X4 : List (Nat × Nat × Nat × Int) := [(14, 13, 0, 0), (18, 13, 1, 1), (24, 13, 2, 2), (28, 13, 3, 3), (33, 13, 4, 4), (40, 13, 5, 5), (44, 13, 6, 6), (47, 13, 7, 7), (50, 13, 8, 8), (53, 13, 9, 9), (56, 13, 10, 10), (61, 13, 11, 11), (74, 11, 5, 5), (97, 13, 13, 13), (118, 9, 2, 2), (126, 9, 0, 0), (136, 0, 1, 1), (152, 0, 2, 2), (155, 0, 3, 3), (158, 0, 4, 4), (212, 13, 12, 12), (229, 13, 14, 14), (232, 9, 1, 1), (244, 0, 7, 7), (299, 0, 8, 8)]
def cs_X4 : List (Nat × Int) := [(228, -2147483648), (100250, 17), (100293, 31)]
def ks_X4 : List (Nat × Nat) := [(335, 1)]
def fl_X5 : List (Nat × Nat × Nat × Int) := [(7, 22, 0, 0), (13, 22, 1, 1), (16, 22, 2, 2), (19, 22, 3, 3), (22, 22, 5, 5), (25, 22, 6, 6), (28, 22, 9, 9), (31, 22, 10, 10), (34, 22, 12, 12), (37, 22, 14, 14), (40, 22, 15, 15), (43, 22, 16, 16), (46, 22, 17, 17), (50, 22, 18, 18), (53, 22, 19, 19), (56, 22, 20, 20), (59, 22, 21, 21), (62, 22, 22, 22), (65, 22, 24, 24), (72, 22, 4, 4), (102, 22, 7, 7), (108, 22, 8, 8), (125, 22, 11, 11), (145, 22, 13, 13), (260, 22, 23, 23)]
def cs_X5 : List (Nat × Int) := [(100076, 3), (100082, 2), (96, -2147483648), (100100, 255), (100141, 5), (100143, 23), (100151, 9), (100214, 99), (100258, 4), (100269, 31), (100271, 17)]
def ks_X5 : List (Nat × Nat) := []
def fl_L : List (Nat × Nat × Nat × Int) := []
def cs_L : List (Nat × Int) := []
def ks_L : List (Nat × Nat) := []
def cs_J6 : List (Nat × Int) := [(265, 1431655765), (266, 858993459), (267, 252645135)]
def tb_X0_live : List IR := [
  (0, .iconst 0, 1, 1, []), (1, .istore 4, 2, 3, []), (3, .iload 4, 2, 5, []), (5, .sipush 144, 3, 8, []), (8, .if_icmp .ge 34, 3, 11, [(0, 42)]), (11, .aload_n 0, 1, 12, []),
  (12, .getfield 15, 3, 15, []), (15, .iload 4, 2, 17, []), (17, .aload_n 1, 1, 18, []), (18, .aload_n 0, 1, 19, []), (19, .getfield 9, 3, 22, []), (22, .iload 4, 2, 24, []),
  (24, .bipush 24, 2, 26, []), (26, .idiv, 1, 27, []), (27, .iload 4, 2, 29, []), (29, .bipush 24, 2, 31, []), (31, .irem, 1, 32, []), (32, .invokevirtual 38, 3, 35, []),
  (35, .iastore, 1, 36, []), (36, .iinc 4 1, 3, 39, []), (39, .goto (-36), 3, 42, [(0, 3)]), (42, .aload_n 0, 1, 43, []), (43, .aload_n 2, 1, 44, []), (44, .invokevirtual 44, 3, 47, []),
  (47, .iconst 0, 1, 48, []), (48, .istore 4, 2, 50, []), (50, .iload 4, 2, 52, []), (52, .bipush 6, 2, 54, []), (54, .if_icmp .ge 19, 3, 57, [(0, 73)]), (57, .aload_n 0, 1, 58, []),
  (58, .iload 4, 2, 60, []), (60, .aload_n 3, 1, 61, []), (61, .iload 4, 2, 63, []), (63, .iaload, 1, 64, []), (64, .invokevirtual 48, 3, 67, []), (67, .iinc 4 1, 3, 70, []),
  (70, .goto (-20), 3, 73, [(0, 50)]), (73, .aload_n 0, 1, 74, []), (74, .iconst 0, 1, 75, []), (75, .putfield 34, 3, 78, []), (78, .return_, 1, 79, [])]
def pg_X0_live (T1 T2 T3 : Tr) : PG := (tb_X0_live, fl_X0, cs_X0, ks_X0, [(100038, 4, T1), (100044, 2, T2), (100048, 3, T3)], false, oh_kc)
def tb_X0_obey : List IR := [
  (0, .aload_n 0, 1, 1, []), (1, .getfield 19, 3, 4, []), (4, .iconst (-1), 1, 5, []), (5, .invokestatic 52, 3, 8, []), (8, .aload_n 0, 1, 9, []), (9, .iconst 0, 1, 10, []),
  (10, .putfield 58, 3, 13, []), (13, .aload_n 1, 1, 14, []), (14, .invokevirtual 61, 3, 17, []), (17, .istore_n 2, 1, 18, []), (18, .iconst 0, 1, 19, []), (19, .istore_n 3, 1, 20, []),
  (20, .iload_n 3, 1, 21, []), (21, .iload_n 2, 1, 22, []), (22, .if_icmp .ge 74, 3, 25, [(0, 96)]), (25, .aload_n 1, 1, 26, []), (26, .iload_n 3, 1, 27, []), (27, .invokevirtual 67, 3, 30, []),
  (30, .aload_n 1, 1, 31, []), (31, .iload_n 3, 1, 32, []), (32, .invokevirtual 71, 3, 35, []), (35, .invokestatic 74, 3, 38, []), (38, .istore 4, 2, 40, []), (40, .aload_n 0, 1, 41, []),
  (41, .getfield 15, 3, 44, []), (44, .iload 4, 2, 46, []), (46, .iaload, 1, 47, []), (47, .aload_n 1, 1, 48, []), (48, .iload_n 3, 1, 49, []), (49, .invokevirtual 78, 3, 52, []),
  (52, .if_icmp .ne 38, 3, 55, [(0, 90)]), (55, .aload_n 0, 1, 56, []), (56, .getfield 19, 3, 59, []), (59, .iload 4, 2, 61, []), (61, .iaload, 1, 62, []), (62, .iconst (-1), 1, 63, []),
  (63, .if_icmp .ne 27, 3, 66, [(0, 90)]), (66, .aload_n 0, 1, 67, []), (67, .getfield 19, 3, 70, []), (70, .iload 4, 2, 72, []), (72, .aload_n 1, 1, 73, []), (73, .iload_n 3, 1, 74, []),
  (74, .invokevirtual 81, 3, 77, []), (77, .iastore, 1, 78, []), (78, .aload_n 0, 1, 79, []), (79, .dup, 1, 80, []), (80, .getfield 58, 3, 83, []), (83, .iconst 1, 1, 84, []),
  (84, .iload_n 3, 1, 85, []), (85, .ishl, 1, 86, []), (86, .ior, 1, 87, []), (87, .putfield 58, 3, 90, []), (90, .iinc 3 1, 3, 93, []), (93, .goto (-73), 3, 96, [(0, 20)]),
  (96, .return_, 1, 97, [])]
def pg_X0_obey (T1 T2 T3 T4 T5 T6 T7 : Tr) : PG := (tb_X0_obey, fl_X0, cs_X0, ks_X0, [(52, 2, T1), (100061, 1, T2), (100067, 2, T3), (100071, 2, T4), (74, 2, T5), (100078, 2, T6), (100081, 2, T7)], false, oh_kc)
def tb_X0_spend : List IR := [
  (0, .iload_n 2, 1, 1, []), (1, .istore_n 3, 1, 2, []), (2, .iconst 0, 1, 3, []), (3, .istore 4, 2, 5, []), (5, .iload_n 1, 1, 6, []), (6, .iconst 0, 1, 7, []),
  (7, .invokestatic 74, 3, 10, []), (10, .istore 5, 2, 12, []), (12, .iload 5, 2, 14, []), (14, .iload_n 1, 1, 15, []), (15, .bipush 24, 2, 17, []), (17, .invokestatic 74, 3, 20, []),
  (20, .if_icmp .ge 123, 3, 23, [(0, 143)]), (23, .aload_n 0, 1, 24, []), (24, .getfield 19, 3, 27, []), (27, .iload 5, 2, 29, []), (29, .iaload, 1, 30, []), (30, .iconst (-1), 1, 31, []),
  (31, .if_icmp .ne 7, 3, 34, [(0, 38)]), (34, .iconst 0, 1, 35, []), (35, .goto 10, 3, 38, [(0, 45)]), (38, .aload_n 0, 1, 39, []), (39, .getfield 19, 3, 42, []), (42, .iload 5, 2, 44, []),
  (44, .iaload, 1, 45, []), (45, .istore 6, 2, 47, []), (47, .iload 4, 2, 49, []), (49, .getstatic 84, 3, 52, []), (52, .iload 6, 2, 54, []), (54, .iaload, 1, 55, []),
  (55, .iadd, 1, 56, []), (56, .bipush 9, 2, 58, []), (58, .if_icmp .le 6, 3, 61, [(0, 64)]), (61, .iconst 0, 1, 62, []), (62, .istore 6, 2, 64, []), (64, .iconst 0, 1, 65, []),
  (65, .iload 4, 2, 67, []), (67, .getstatic 84, 3, 70, []), (70, .iload 6, 2, 72, []), (72, .iaload, 1, 73, []), (73, .iadd, 1, 74, []), (74, .invokestatic 87, 3, 77, []),
  (77, .istore 4, 2, 79, []), (79, .iload 6, 2, 81, []), (81, .iconst 2, 1, 82, []), (82, .if_icmp .ne 15, 3, 85, [(0, 97)]), (85, .bipush 9, 2, 87, []), (87, .iload_n 3, 1, 88, []),
  (88, .iconst 1, 1, 89, []), (89, .iadd, 1, 90, []), (90, .invokestatic 92, 3, 93, []), (93, .istore_n 3, 1, 94, []), (94, .goto 17, 3, 97, [(0, 111)]), (97, .iload 6, 2, 99, []),
  (99, .iconst 3, 1, 100, []), (100, .if_icmp .ne 11, 3, 103, [(0, 111)]), (103, .iconst 0, 1, 104, []), (104, .iload_n 3, 1, 105, []), (105, .iconst 1, 1, 106, []), (106, .isub, 1, 107, []),
  (107, .invokestatic 87, 3, 110, []), (110, .istore_n 3, 1, 111, []), (111, .aload_n 0, 1, 112, []), (112, .getfield 19, 3, 115, []), (115, .iload 5, 2, 117, []), (117, .iload 6, 2, 119, []),
  (119, .iastore, 1, 120, []), (120, .aload_n 0, 1, 121, []), (121, .getfield 22, 3, 124, []), (124, .iload 5, 2, 126, []), (126, .iload_n 3, 1, 127, []), (127, .iastore, 1, 128, []),
  (128, .aload_n 0, 1, 129, []), (129, .getfield 25, 3, 132, []), (132, .iload 5, 2, 134, []), (134, .iload 4, 2, 136, []), (136, .iastore, 1, 137, []), (137, .iinc 5 1, 3, 140, []),
  (140, .goto (-128), 3, 143, [(0, 12)]), (143, .return_, 1, 144, [])]
def pg_X0_spend (T1 T2 T3 : Tr) : PG := (tb_X0_spend, fl_X0, cs_X0, ks_X0, [(74, 2, T1), (87, 2, T2), (92, 2, T3)], false, oh_kc)
def tb_X0_isObeyed : List IR := [
  (0, .aload_n 0, 1, 1, []), (1, .getfield 58, 3, 4, []), (4, .iload_n 1, 1, 5, []), (5, .ishr, 1, 6, []), (6, .iconst 1, 1, 7, []), (7, .iand, 1, 8, []),
  (8, .iconst 1, 1, 9, []), (9, .if_icmp .ne 7, 3, 12, [(0, 16)]), (12, .iconst 1, 1, 13, []), (13, .goto 4, 3, 16, [(0, 17)]), (16, .iconst 0, 1, 17, []), (17, .ireturn, 1, 18, [])]
def pg_X0_isObeyed : PG := (tb_X0_isObeyed, fl_X0, cs_X0, ks_X0, [], true, oh_kc)
def tb_X0_bodiesOf : List IR := [
  (0, .iconst 0, 1, 1, []), (1, .istore_n 3, 1, 2, []), (2, .iconst 0, 1, 3, []), (3, .istore 4, 2, 5, []), (5, .iload 4, 2, 7, []), (7, .bipush 6, 2, 9, []),
  (9, .if_icmp .ge 27, 3, 12, [(0, 36)]), (12, .aload_n 0, 1, 13, []), (13, .getfield 15, 3, 16, []), (16, .iload 4, 2, 18, []), (18, .iload_n 2, 1, 19, []), (19, .invokestatic 74, 3, 22, []),
  (22, .iaload, 1, 23, []), (23, .iload_n 1, 1, 24, []), (24, .if_icmp .ne 6, 3, 27, [(0, 30)]), (27, .iinc 3 1, 3, 30, []), (30, .iinc 4 1, 3, 33, []), (33, .goto (-28), 3, 36, [(0, 5)]),
  (36, .iload_n 3, 1, 37, []), (37, .ireturn, 1, 38, [])]
def pg_X0_bodiesOf (T1 : Tr) : PG := (tb_X0_bodiesOf, fl_X0, cs_X0, ks_X0, [(74, 2, T1)], false, oh_kc)
def tb_X0_hoursIn : List IR := [
  (0, .iconst 0, 1, 1, []), (1, .istore_n 3, 1, 2, []), (2, .iconst 0, 1, 3, []), (3, .istore 4, 2, 5, []), (5, .iload 4, 2, 7, []), (7, .bipush 24, 2, 9, []),
  (9, .if_icmp .ge 27, 3, 12, [(0, 36)]), (12, .aload_n 0, 1, 13, []), (13, .getfield 15, 3, 16, []), (16, .iload_n 1, 1, 17, []), (17, .iload 4, 2, 19, []), (19, .invokestatic 74, 3, 22, []),
  (22, .iaload, 1, 23, []), (23, .iload_n 2, 1, 24, []), (24, .if_icmp .ne 6, 3, 27, [(0, 30)]), (27, .iinc 3 1, 3, 30, []), (30, .iinc 4 1, 3, 33, []), (33, .goto (-28), 3, 36, [(0, 5)]),
  (36, .iload_n 3, 1, 37, []), (37, .ireturn, 1, 38, [])]
def pg_X0_hoursIn (T1 : Tr) : PG := (tb_X0_hoursIn, fl_X0, cs_X0, ks_X0, [(74, 2, T1)], false, oh_kc)
def tb_X0_longestRow : List IR := [
  (0, .iconst 0, 1, 1, []), (1, .istore_n 3, 1, 2, []), (2, .iconst 0, 1, 3, []), (3, .istore 4, 2, 5, []), (5, .iload 4, 2, 7, []), (7, .bipush 24, 2, 9, []),
  (9, .if_icmp .ge 22, 3, 12, [(0, 31)]), (12, .iload_n 3, 1, 13, []), (13, .aload_n 0, 1, 14, []), (14, .iload_n 1, 1, 15, []), (15, .iload 4, 2, 17, []), (17, .iload_n 2, 1, 18, []),
  (18, .invokevirtual 95, 3, 21, []), (21, .invokestatic 87, 3, 24, []), (24, .istore_n 3, 1, 25, []), (25, .iinc 4 1, 3, 28, []), (28, .goto (-23), 3, 31, [(0, 5)]), (31, .iload_n 3, 1, 32, []),
  (32, .ireturn, 1, 33, [])]
def pg_X0_longestRow (T1 T2 : Tr) : PG := (tb_X0_longestRow, fl_X0, cs_X0, ks_X0, [(100095, 4, T1), (87, 2, T2)], false, oh_kc)
def tb_X0_firstOfRow : List IR := [
  (0, .iconst 0, 1, 1, []), (1, .istore_n 3, 1, 2, []), (2, .iconst (-1), 1, 3, []), (3, .istore 4, 2, 5, []), (5, .iconst 0, 1, 6, []), (6, .istore 5, 2, 8, []),
  (8, .iload 5, 2, 10, []), (10, .bipush 24, 2, 12, []), (12, .if_icmp .ge 37, 3, 15, [(0, 49)]), (15, .aload_n 0, 1, 16, []), (16, .iload_n 1, 1, 17, []), (17, .iload 5, 2, 19, []),
  (19, .iload_n 2, 1, 20, []), (20, .invokevirtual 95, 3, 23, []), (23, .istore 6, 2, 25, []), (25, .iload 6, 2, 27, []), (27, .iload_n 3, 1, 28, []), (28, .if_icmp .le 15, 3, 31, [(0, 43)]),
  (31, .iload 6, 2, 33, []), (33, .istore_n 3, 1, 34, []), (34, .iload 5, 2, 36, []), (36, .iload 6, 2, 38, []), (38, .isub, 1, 39, []), (39, .iconst 1, 1, 40, []),
  (40, .iadd, 1, 41, []), (41, .istore 4, 2, 43, []), (43, .iinc 5 1, 3, 46, []), (46, .goto (-38), 3, 49, [(0, 8)]), (49, .iload 4, 2, 51, []), (51, .ireturn, 1, 52, [])]
def pg_X0_firstOfRow (T1 : Tr) : PG := (tb_X0_firstOfRow, fl_X0, cs_X0, ks_X0, [(100095, 4, T1)], false, oh_kc)
def tb_X0_rowTo : List IR := [
  (0, .aload_n 0, 1, 1, []), (1, .getfield 28, 3, 4, []), (4, .iconst 0, 1, 5, []), (5, .aload_n 0, 1, 6, []), (6, .getfield 31, 3, 9, []), (9, .iconst 0, 1, 10, []),
  (10, .bipush 6, 2, 12, []), (12, .invokestatic 99, 3, 15, []), (15, .iconst 0, 1, 16, []), (16, .istore 4, 2, 18, []), (18, .iconst 0, 1, 19, []), (19, .istore 5, 2, 21, []),
  (21, .iload 5, 2, 23, []), (23, .bipush 6, 2, 25, []), (25, .if_icmp .ge 71, 3, 28, [(0, 96)]), (28, .aload_n 0, 1, 29, []), (29, .getfield 15, 3, 32, []), (32, .iload 5, 2, 34, []),
  (34, .iload_n 2, 1, 35, []), (35, .invokestatic 74, 3, 38, []), (38, .iaload, 1, 39, []), (39, .iload_n 1, 1, 40, []), (40, .if_icmp .ne 7, 3, 43, [(0, 47)]), (43, .iconst 1, 1, 44, []),
  (44, .goto 4, 3, 47, [(0, 48)]), (47, .iconst 0, 1, 48, []), (48, .istore 6, 2, 50, []), (50, .aload_n 0, 1, 51, []), (51, .getfield 28, 3, 54, []), (54, .iload 5, 2, 56, []),
  (56, .iload 6, 2, 58, []), (58, .ifCond .eq 16, 3, 61, [(0, 74)]), (61, .iconst 1, 1, 62, []), (62, .aload_n 0, 1, 63, []), (63, .iload 5, 2, 65, []), (65, .iload_n 2, 1, 66, []),
  (66, .iload_n 3, 1, 67, []), (67, .invokevirtual 105, 3, 70, []), (70, .iadd, 1, 71, []), (71, .goto 4, 3, 74, [(0, 75)]), (74, .iconst 0, 1, 75, []), (75, .iastore, 1, 76, []),
  (76, .iload 4, 2, 78, []), (78, .aload_n 0, 1, 79, []), (79, .getfield 28, 3, 82, []), (82, .iload 5, 2, 84, []), (84, .iaload, 1, 85, []), (85, .invokestatic 87, 3, 88, []),
  (88, .istore 4, 2, 90, []), (90, .iinc 5 1, 3, 93, []), (93, .goto (-72), 3, 96, [(0, 21)]), (96, .iload 4, 2, 98, []), (98, .ireturn, 1, 99, [])]
def pg_X0_rowTo (T1 T2 T3 T4 : Tr) : PG := (tb_X0_rowTo, fl_X0, cs_X0, ks_X0, [(99, 5, T1), (74, 2, T2), (100105, 4, T3), (87, 2, T4)], false, oh_kc)
def tb_X0_rowAhead : List IR := [
  (0, .iconst 0, 1, 1, []), (1, .istore 4, 2, 3, []), (3, .iconst 0, 1, 4, []), (4, .istore 5, 2, 6, []), (6, .iload 5, 2, 8, []), (8, .bipush 6, 2, 10, []),
  (10, .if_icmp .ge 59, 3, 13, [(0, 69)]), (13, .iload_n 2, 1, 14, []), (14, .ifCond .le 55, 3, 17, [(0, 69)]), (17, .iload_n 3, 1, 18, []), (18, .ifCond .eq 31, 3, 21, [(0, 49)]), (21, .aload_n 0, 1, 22, []),
  (22, .getfield 22, 3, 25, []), (25, .iload 5, 2, 27, []), (27, .iload_n 2, 1, 28, []), (28, .iconst 1, 1, 29, []), (29, .isub, 1, 30, []), (30, .invokestatic 74, 3, 33, []),
  (33, .iaload, 1, 34, []), (34, .aload_n 0, 1, 35, []), (35, .getfield 22, 3, 38, []), (38, .iload_n 1, 1, 39, []), (39, .iload_n 2, 1, 40, []), (40, .iconst 1, 1, 41, []),
  (41, .isub, 1, 42, []), (42, .invokestatic 74, 3, 45, []), (45, .iaload, 1, 46, []), (46, .if_icmp .ne 17, 3, 49, [(0, 63)]), (49, .iload 4, 2, 51, []), (51, .aload_n 0, 1, 52, []),
  (52, .getfield 31, 3, 55, []), (55, .iload 5, 2, 57, []), (57, .iaload, 1, 58, []), (58, .invokestatic 87, 3, 61, []), (61, .istore 4, 2, 63, []), (63, .iinc 5 1, 3, 66, []),
  (66, .goto (-60), 3, 69, [(0, 6)]), (69, .iload 4, 2, 71, []), (71, .ireturn, 1, 72, [])]
def pg_X0_rowAhead (T1 T2 : Tr) : PG := (tb_X0_rowAhead, fl_X0, cs_X0, ks_X0, [(74, 2, T1), (87, 2, T2)], false, oh_kc)
def tb_X1_tell : List IR := [
  (0, .iconst 0, 1, 1, []), (1, .istore_n 2, 1, 2, []), (2, .iload_n 2, 1, 3, []), (3, .bipush 6, 2, 5, []), (5, .if_icmp .ge 27, 3, 8, [(0, 32)]), (8, .aload_n 0, 1, 9, []),
  (9, .getfield 9, 3, 12, []), (12, .iload_n 2, 1, 13, []), (13, .bipush 24, 2, 15, []), (15, .imul, 1, 16, []), (16, .iload_n 2, 1, 17, []), (17, .iconst 1, 1, 18, []),
  (18, .iadd, 1, 19, []), (19, .bipush 24, 2, 21, []), (21, .imul, 1, 22, []), (22, .iload_n 2, 1, 23, []), (23, .invokestatic 15, 3, 26, []), (26, .iinc 2 1, 3, 29, []),
  (29, .goto (-27), 3, 32, [(0, 2)]), (32, .aload_n 1, 1, 33, []), (33, .invokevirtual 21, 3, 36, []), (36, .istore_n 2, 1, 37, []), (37, .iconst 0, 1, 38, []), (38, .istore_n 3, 1, 39, []),
  (39, .iload_n 3, 1, 40, []), (40, .iload_n 2, 1, 41, []), (41, .if_icmp .ge 28, 3, 44, [(0, 69)]), (44, .aload_n 0, 1, 45, []), (45, .aload_n 1, 1, 46, []), (46, .iload_n 3, 1, 47, []),
  (47, .invokevirtual 27, 3, 50, []), (50, .aload_n 1, 1, 51, []), (51, .iload_n 3, 1, 52, []), (52, .invokevirtual 31, 3, 55, []), (55, .aload_n 1, 1, 56, []), (56, .iload_n 3, 1, 57, []),
  (57, .invokevirtual 34, 3, 60, []), (60, .invokevirtual 37, 3, 63, []), (63, .iinc 3 1, 3, 66, []), (66, .goto (-27), 3, 69, [(0, 39)]), (69, .return_, 1, 70, [])]
def pg_X1_tell (T1 T2 T3 T4 T5 T6 : Tr) : PG := (tb_X1_tell, fl_X1, cs_X1, ks_X1, [(15, 4, T1), (100021, 1, T2), (100027, 2, T3), (100031, 2, T4), (100034, 2, T5), (100037, 4, T6)], false, oh_kc)
def tb_X1_takeFrom : List IR := [
  (0, .aload_n 1, 1, 1, []), (1, .getfield 9, 3, 4, []), (4, .iconst 0, 1, 5, []), (5, .aload_n 0, 1, 6, []), (6, .getfield 9, 3, 9, []), (9, .iconst 0, 1, 10, []),
  (10, .sipush 144, 3, 13, []), (13, .invokestatic 41, 3, 16, []), (16, .return_, 1, 17, [])]
def pg_X1_takeFrom (T1 : Tr) : PG := (tb_X1_takeFrom, fl_X1, cs_X1, ks_X1, [(41, 5, T1)], false, oh_kc)
def tb_X1_setOwner : List IR := [
  (0, .aload_n 0, 1, 1, []), (1, .getfield 9, 3, 4, []), (4, .iload_n 1, 1, 5, []), (5, .iload_n 2, 1, 6, []), (6, .invokestatic 47, 3, 9, []), (9, .iload_n 3, 1, 10, []),
  (10, .iastore, 1, 11, []), (11, .return_, 1, 12, [])]
def pg_X1_setOwner (T1 : Tr) : PG := (tb_X1_setOwner, fl_X1, cs_X1, ks_X1, [(47, 2, T1)], false, oh_kc)
def tb_X1_bequeath : List IR := [
  (0, .iconst 0, 1, 1, []), (1, .istore_n 3, 1, 2, []), (2, .iload_n 3, 1, 3, []), (3, .sipush 144, 3, 6, []), (6, .if_icmp .ge 34, 3, 9, [(0, 40)]), (9, .aload_n 0, 1, 10, []),
  (10, .getfield 9, 3, 13, []), (13, .iload_n 3, 1, 14, []), (14, .iaload, 1, 15, []), (15, .iload_n 1, 1, 16, []), (16, .if_icmp .ne 18, 3, 19, [(0, 34)]), (19, .iload_n 3, 1, 20, []),
  (20, .bipush 24, 2, 22, []), (22, .idiv, 1, 23, []), (23, .iload_n 1, 1, 24, []), (24, .if_icmp .eq 10, 3, 27, [(0, 34)]), (27, .aload_n 0, 1, 28, []), (28, .getfield 9, 3, 31, []),
  (31, .iload_n 3, 1, 32, []), (32, .iload_n 2, 1, 33, []), (33, .iastore, 1, 34, []), (34, .iinc 3 1, 3, 37, []), (37, .goto (-35), 3, 40, [(0, 2)]), (40, .return_, 1, 41, [])]
def pg_X1_bequeath : PG := (tb_X1_bequeath, fl_X1, cs_X1, ks_X1, [], false, oh_kc)
def tb_X1_owner : List IR := [
  (0, .aload_n 0, 1, 1, []), (1, .getfield 9, 3, 4, []), (4, .iload_n 1, 1, 5, []), (5, .iload_n 2, 1, 6, []), (6, .invokestatic 47, 3, 9, []), (9, .iaload, 1, 10, []),
  (10, .ireturn, 1, 11, [])]
def pg_X1_owner (T1 : Tr) : PG := (tb_X1_owner, fl_X1, cs_X1, ks_X1, [(47, 2, T1)], false, oh_kc)
def tb_X1_steps : List IR := [
  (0, .iload_n 1, 1, 1, []), (1, .istore_n 3, 1, 2, []), (2, .iconst 0, 1, 3, []), (3, .istore 4, 2, 5, []), (5, .iload 4, 2, 7, []), (7, .bipush 6, 2, 9, []),
  (9, .if_icmp .ge 29, 3, 12, [(0, 38)]), (12, .aload_n 0, 1, 13, []), (13, .iload_n 3, 1, 14, []), (14, .iload_n 2, 1, 15, []), (15, .invokevirtual 51, 3, 18, []), (18, .istore 5, 2, 20, []),
  (20, .iload 5, 2, 22, []), (22, .iload_n 3, 1, 23, []), (23, .if_icmp .ne 6, 3, 26, [(0, 29)]), (26, .iload 4, 2, 28, []), (28, .ireturn, 1, 29, []), (29, .iload 5, 2, 31, []),
  (31, .istore_n 3, 1, 32, []), (32, .iinc 4 1, 3, 35, []), (35, .goto (-30), 3, 38, [(0, 5)]), (38, .iconst (-1), 1, 39, []), (39, .ireturn, 1, 40, [])]
def pg_X1_steps (T1 : Tr) : PG := (tb_X1_steps, fl_X1, cs_X1, ks_X1, [(100051, 3, T1)], false, oh_kc)
def tb_X1_actor : List IR := [
  (0, .iload_n 1, 1, 1, []), (1, .iconst 1, 1, 2, []), (2, .if_icmp .ne 10, 3, 5, [(0, 12)]), (5, .aload_n 0, 1, 6, []), (6, .iload_n 2, 1, 7, []), (7, .iload_n 3, 1, 8, []),
  (8, .invokevirtual 51, 3, 11, []), (11, .ireturn, 1, 12, []), (12, .iload_n 2, 1, 13, []), (13, .istore 4, 2, 15, []), (15, .iconst 0, 1, 16, []), (16, .istore 5, 2, 18, []),
  (18, .iload 5, 2, 20, []), (20, .bipush 6, 2, 22, []), (22, .if_icmp .ge 18, 3, 25, [(0, 40)]), (25, .aload_n 0, 1, 26, []), (26, .iload 4, 2, 28, []), (28, .iload_n 3, 1, 29, []),
  (29, .invokevirtual 51, 3, 32, []), (32, .istore 4, 2, 34, []), (34, .iinc 5 1, 3, 37, []), (37, .goto (-19), 3, 40, [(0, 18)]), (40, .aload_n 0, 1, 41, []), (41, .iload 4, 2, 43, []),
  (43, .iload_n 3, 1, 44, []), (44, .invokevirtual 51, 3, 47, []), (47, .iload 4, 2, 49, []), (49, .if_icmp .ne 6, 3, 52, [(0, 55)]), (52, .iload 4, 2, 54, []), (54, .ireturn, 1, 55, []),
  (55, .iload_n 1, 1, 56, []), (56, .iconst 2, 1, 57, []), (57, .if_icmp .ne 7, 3, 60, [(0, 64)]), (60, .iload_n 2, 1, 61, []), (61, .goto 4, 3, 64, [(0, 65)]), (64, .iconst (-1), 1, 65, []),
  (65, .ireturn, 1, 66, [])]
def pg_X1_actor (T1 : Tr) : PG := (tb_X1_actor, fl_X1, cs_X1, ks_X1, [(100051, 3, T1)], false, oh_kc)
def tb_X1_wrongedIn : List IR := [
  (0, .iconst 0, 1, 1, []), (1, .istore_n 3, 1, 2, []), (2, .iconst 0, 1, 3, []), (3, .istore 4, 2, 5, []), (5, .iload 4, 2, 7, []), (7, .bipush 6, 2, 9, []),
  (9, .if_icmp .ge 25, 3, 12, [(0, 34)]), (12, .aload_n 0, 1, 13, []), (13, .iload_n 1, 1, 14, []), (14, .iload 4, 2, 16, []), (16, .iload_n 2, 1, 17, []), (17, .invokevirtual 54, 3, 20, []),
  (20, .iload 4, 2, 22, []), (22, .if_icmp .eq 6, 3, 25, [(0, 28)]), (25, .iinc 3 1, 3, 28, []), (28, .iinc 4 1, 3, 31, []), (31, .goto (-26), 3, 34, [(0, 5)]), (34, .iload_n 3, 1, 35, []),
  (35, .ireturn, 1, 36, [])]
def pg_X1_wrongedIn (T1 : Tr) : PG := (tb_X1_wrongedIn, fl_X1, cs_X1, ks_X1, [(100054, 4, T1)], false, oh_kc)
def tb_X1_rounds : List IR := [
  (0, .iconst 0, 1, 1, []), (1, .istore_n 1, 1, 2, []), (2, .iconst 0, 1, 3, []), (3, .istore_n 2, 1, 4, []), (4, .iload_n 2, 1, 5, []), (5, .bipush 6, 2, 7, []),
  (7, .if_icmp .ge 36, 3, 10, [(0, 43)]), (10, .iconst 0, 1, 11, []), (11, .istore_n 3, 1, 12, []), (12, .iload_n 3, 1, 13, []), (13, .bipush 24, 2, 15, []), (15, .if_icmp .ge 22, 3, 18, [(0, 37)]),
  (18, .aload_n 0, 1, 19, []), (19, .iload_n 2, 1, 20, []), (20, .iload_n 3, 1, 21, []), (21, .invokevirtual 58, 3, 24, []), (24, .iconst (-1), 1, 25, []), (25, .if_icmp .ne 6, 3, 28, [(0, 31)]),
  (28, .iinc 1 1, 3, 31, []), (31, .iinc 3 1, 3, 34, []), (34, .goto (-22), 3, 37, [(0, 12)]), (37, .iinc 2 1, 3, 40, []), (40, .goto (-36), 3, 43, [(0, 4)]), (43, .iload_n 1, 1, 44, []),
  (44, .ireturn, 1, 45, [])]
def pg_X1_rounds (T1 : Tr) : PG := (tb_X1_rounds, fl_X1, cs_X1, ks_X1, [(100058, 3, T1)], false, oh_kc)
def tb_X2_isLost : List IR := [
  (0, .aload_n 0, 1, 1, []), (1, .getfield 15, 3, 4, []), (4, .iconst (-1), 1, 5, []), (5, .if_icmp .ne 7, 3, 8, [(0, 12)]), (8, .iconst 1, 1, 9, []), (9, .goto 4, 3, 12, [(0, 13)]),
  (12, .iconst 0, 1, 13, []), (13, .ireturn, 1, 14, [])]
def pg_X2_isLost : PG := (tb_X2_isLost, fl_X2, cs_X2, ks_X2, [], true, oh_kc)
def tb_X2_renew : List IR := [
  (0, .aload_n 0, 1, 1, []), (1, .iload_n 1, 1, 2, []), (2, .putfield 19, 3, 5, []), (5, .aload_n 0, 1, 6, []), (6, .iload_n 2, 1, 7, []), (7, .putfield 15, 3, 10, []),
  (10, .aload_n 0, 1, 11, []), (11, .getfield 9, 3, 14, []), (14, .iconst 0, 1, 15, []), (15, .invokestatic 22, 3, 18, []), (18, .return_, 1, 19, [])]
def pg_X2_renew (T1 : Tr) : PG := (tb_X2_renew, fl_X2, cs_X2, ks_X2, [(22, 2, T1)], false, oh_kc)
def tb_X2_findingAt : List IR := [
  (0, .aload_n 0, 1, 1, []), (1, .invokevirtual 28, 3, 4, []), (4, .ifCond .eq 5, 3, 7, [(0, 9)]), (7, .iconst 1, 1, 8, []), (8, .ireturn, 1, 9, []), (9, .aload_n 0, 1, 10, []),
  (10, .getfield 19, 3, 13, []), (13, .iload_n 1, 1, 14, []), (14, .if_icmp .eq 5, 3, 17, [(0, 19)]), (17, .iconst 3, 1, 18, []), (18, .ireturn, 1, 19, []), (19, .iload_n 2, 1, 20, []),
  (20, .aload_n 0, 1, 21, []), (21, .getfield 15, 3, 24, []), (24, .invokestatic 32, 3, 27, []), (27, .ifCond .eq 7, 3, 30, [(0, 34)]), (30, .iconst 0, 1, 31, []), (31, .goto 4, 3, 34, [(0, 35)]),
  (34, .iconst 2, 1, 35, []), (35, .ireturn, 1, 36, [])]
def pg_X2_findingAt (T1 T2 : Tr) : PG := (tb_X2_findingAt, fl_X2, cs_X2, ks_X2, [(100028, 1, T1), (32, 2, T2)], false, oh_kc)
def tb_X2_hasItems : List IR := [
  (0, .iload_n 1, 1, 1, []), (1, .ifCond .lt 29, 3, 4, [(0, 30)]), (4, .iload_n 2, 1, 5, []), (5, .ifCond .lt 25, 3, 8, [(0, 30)]), (8, .iload_n 1, 1, 9, []), (9, .aload_n 0, 1, 10, []),
  (10, .getfield 15, 3, 13, []), (13, .if_icmp .gt 17, 3, 16, [(0, 30)]), (16, .iload_n 2, 1, 17, []), (17, .aload_n 0, 1, 18, []), (18, .getfield 15, 3, 21, []), (21, .iload_n 1, 1, 22, []),
  (22, .isub, 1, 23, []), (23, .if_icmp .gt 7, 3, 26, [(0, 30)]), (26, .iconst 1, 1, 27, []), (27, .goto 4, 3, 30, [(0, 31)]), (30, .iconst 0, 1, 31, []), (31, .ireturn, 1, 32, [])]
def pg_X2_hasItems : PG := (tb_X2_hasItems, fl_X2, cs_X2, ks_X2, [], true, oh_kc)
def tb_X2_put : List IR := [
  (0, .aload_n 0, 1, 1, []), (1, .getfield 19, 3, 4, []), (4, .ifCond .ne 14, 3, 7, [(0, 18)]), (7, .aload_n 0, 1, 8, []), (8, .getfield 9, 3, 11, []), (11, .iload_n 1, 1, 12, []),
  (12, .iload_n 2, 1, 13, []), (13, .i2b, 1, 14, []), (14, .iastore, 1, 15, []), (15, .goto 29, 3, 18, [(0, 44)]), (18, .aload_n 0, 1, 19, []), (19, .getfield 19, 3, 22, []),
  (22, .iconst 1, 1, 23, []), (23, .if_icmp .ne 14, 3, 26, [(0, 37)]), (26, .aload_n 0, 1, 27, []), (27, .getfield 9, 3, 30, []), (30, .iload_n 1, 1, 31, []), (31, .iload_n 2, 1, 32, []),
  (32, .i2s, 1, 33, []), (33, .iastore, 1, 34, []), (34, .goto 10, 3, 37, [(0, 44)]), (37, .aload_n 0, 1, 38, []), (38, .getfield 9, 3, 41, []), (41, .iload_n 1, 1, 42, []),
  (42, .iload_n 2, 1, 43, []), (43, .iastore, 1, 44, []), (44, .return_, 1, 45, [])]
def pg_X2_put : PG := (tb_X2_put, fl_X2, cs_X2, ks_X2, [], false, oh_kc)
def tb_X3_append : List IR := [
  (0, .aload_n 0, 1, 1, []), (1, .getfield 29, 3, 4, []), (4, .iconst (-1), 1, 5, []), (5, .if_icmp .ne 19, 3, 8, [(0, 24)]), (8, .aload_n 0, 1, 9, []), (9, .iload_n 1, 1, 10, []),
  (10, .invokevirtual 32, 3, 13, []), (13, .ifCond .ne 11, 3, 16, [(0, 24)]), (16, .aload_n 0, 1, 17, []), (17, .aload_n 0, 1, 18, []), (18, .getfield 36, 3, 21, []), (21, .putfield 29, 3, 24, []),
  (24, .aload_n 0, 1, 25, []), (25, .getfield 9, 3, 28, []), (28, .aload_n 0, 1, 29, []), (29, .getfield 36, 3, 32, []), (32, .iload_n 1, 1, 33, []), (33, .iastore, 1, 34, []),
  (34, .aload_n 0, 1, 35, []), (35, .dup, 1, 36, []), (36, .getfield 36, 3, 39, []), (39, .iconst 1, 1, 40, []), (40, .iadd, 1, 41, []), (41, .putfield 36, 3, 44, []),
  (44, .return_, 1, 45, [])]
def pg_X3_append (T1 : Tr) : PG := (tb_X3_append, fl_X3, cs_X3, ks_X3, [(100032, 2, T1)], false, oh_kc)
def tb_X3_clear : List IR := [
  (0, .aload_n 0, 1, 1, []), (1, .iconst 0, 1, 2, []), (2, .putfield 36, 3, 5, []), (5, .aload_n 0, 1, 6, []), (6, .iconst (-1), 1, 7, []), (7, .putfield 29, 3, 10, []),
  (10, .return_, 1, 11, [])]
def pg_X3_clear : PG := (tb_X3_clear, fl_X3, cs_X3, ks_X3, [], false, oh_kc)
def tb_X3_dropLast : List IR := [
  (0, .aload_n 0, 1, 1, []), (1, .iconst 0, 1, 2, []), (2, .aload_n 0, 1, 3, []), (3, .getfield 36, 3, 6, []), (6, .aload_n 0, 1, 7, []), (7, .getfield 19, 3, 10, []),
  (10, .isub, 1, 11, []), (11, .invokestatic 39, 3, 14, []), (14, .putfield 36, 3, 17, []), (17, .return_, 1, 18, [])]
def pg_X3_dropLast (T1 : Tr) : PG := (tb_X3_dropLast, fl_X3, cs_X3, ks_X3, [(39, 2, T1)], false, oh_kc)
def tb_X3_flaw : List IR := [
  (0, .aload_n 0, 1, 1, []), (1, .getfield 29, 3, 4, []), (4, .iconst (-1), 1, 5, []), (5, .if_icmp .eq 8, 3, 8, [(0, 13)]), (8, .aload_n 0, 1, 9, []), (9, .getfield 29, 3, 12, []),
  (12, .ireturn, 1, 13, []), (13, .aload_n 0, 1, 14, []), (14, .getfield 36, 3, 17, []), (17, .ifCond .eq 21, 3, 20, [(0, 38)]), (20, .aload_n 0, 1, 21, []), (21, .getfield 36, 3, 24, []),
  (24, .aload_n 0, 1, 25, []), (25, .getfield 19, 3, 28, []), (28, .irem, 1, 29, []), (29, .aload_n 0, 1, 30, []), (30, .getfield 19, 3, 33, []), (33, .iconst 1, 1, 34, []),
  (34, .isub, 1, 35, []), (35, .if_icmp .ne 7, 3, 38, [(0, 42)]), (38, .iconst (-1), 1, 39, []), (39, .goto 7, 3, 42, [(0, 46)]), (42, .aload_n 0, 1, 43, []), (43, .getfield 36, 3, 46, []),
  (46, .ireturn, 1, 47, [])]
def pg_X3_flaw : PG := (tb_X3_flaw, fl_X3, cs_X3, ks_X3, [], false, oh_kc)
def tb_X3_entries : List IR := [
  (0, .aload_n 0, 1, 1, []), (1, .invokevirtual 45, 3, 4, []), (4, .iconst (-1), 1, 5, []), (5, .if_icmp .ne 17, 3, 8, [(0, 22)]), (8, .aload_n 0, 1, 9, []), (9, .getfield 36, 3, 12, []),
  (12, .iconst 1, 1, 13, []), (13, .iadd, 1, 14, []), (14, .aload_n 0, 1, 15, []), (15, .getfield 19, 3, 18, []), (18, .idiv, 1, 19, []), (19, .goto 4, 3, 22, [(0, 23)]),
  (22, .iconst 0, 1, 23, []), (23, .ireturn, 1, 24, [])]
def pg_X3_entries (T1 : Tr) : PG := (tb_X3_entries, fl_X3, cs_X3, ks_X3, [(100045, 1, T1)], false, oh_kc)
def tb_X3_firstOf : List IR := [
  (0, .aload_n 0, 1, 1, []), (1, .iload_n 1, 1, 2, []), (2, .iconst 0, 1, 3, []), (3, .invokevirtual 49, 3, 6, []), (6, .ireturn, 1, 7, [])]
def pg_X3_firstOf (T1 : Tr) : PG := (tb_X3_firstOf, fl_X3, cs_X3, ks_X3, [(100049, 3, T1)], false, oh_kc)
def tb_X3_bodyOf : List IR := [
  (0, .aload_n 0, 1, 1, []), (1, .iload_n 1, 1, 2, []), (2, .aload_n 0, 1, 3, []), (3, .getfield 15, 3, 6, []), (6, .iconst 1, 1, 7, []), (7, .isub, 1, 8, []),
  (8, .invokevirtual 49, 3, 11, []), (11, .ireturn, 1, 12, [])]
def pg_X3_bodyOf (T1 : Tr) : PG := (tb_X3_bodyOf, fl_X3, cs_X3, ks_X3, [(100049, 3, T1)], false, oh_kc)
def tb_X3_hourOf : List IR := [
  (0, .bipush 10, 2, 2, []), (2, .aload_n 0, 1, 3, []), (3, .iload_n 1, 1, 4, []), (4, .aload_n 0, 1, 5, []), (5, .getfield 15, 3, 8, []), (8, .invokevirtual 49, 3, 11, []),
  (11, .imul, 1, 12, []), (12, .aload_n 0, 1, 13, []), (13, .iload_n 1, 1, 14, []), (14, .aload_n 0, 1, 15, []), (15, .getfield 15, 3, 18, []), (18, .iconst 1, 1, 19, []),
  (19, .iadd, 1, 20, []), (20, .invokevirtual 49, 3, 23, []), (23, .iadd, 1, 24, []), (24, .ireturn, 1, 25, [])]
def pg_X3_hourOf (T1 : Tr) : PG := (tb_X3_hourOf, fl_X3, cs_X3, ks_X3, [(100049, 3, T1)], false, oh_kc)
def tb_X3_lastOf : List IR := [
  (0, .aload_n 0, 1, 1, []), (1, .iload_n 1, 1, 2, []), (2, .aload_n 0, 1, 3, []), (3, .getfield 15, 3, 6, []), (6, .iconst 2, 1, 7, []), (7, .iadd, 1, 8, []),
  (8, .invokevirtual 49, 3, 11, []), (11, .ireturn, 1, 12, [])]
def pg_X3_lastOf (T1 : Tr) : PG := (tb_X3_lastOf, fl_X3, cs_X3, ks_X3, [(100049, 3, T1)], false, oh_kc)
def tb_X3_figure : List IR := [
  (0, .aload_n 0, 1, 1, []), (1, .getfield 9, 3, 4, []), (4, .iload_n 1, 1, 5, []), (5, .aload_n 0, 1, 6, []), (6, .getfield 19, 3, 9, []), (9, .imul, 1, 10, []),
  (10, .iload_n 2, 1, 11, []), (11, .iadd, 1, 12, []), (12, .iaload, 1, 13, []), (13, .bipush 48, 2, 15, []), (15, .isub, 1, 16, []), (16, .ireturn, 1, 17, [])]
def pg_X3_figure : PG := (tb_X3_figure, fl_X3, cs_X3, ks_X3, [], false, oh_kc)
def tb_X3_canGoOn : List IR := [
  (0, .aload_n 0, 1, 1, []), (1, .getfield 36, 3, 4, []), (4, .aload_n 0, 1, 5, []), (5, .getfield 19, 3, 8, []), (8, .idiv, 1, 9, []), (9, .istore_n 2, 1, 10, []),
  (10, .aload_n 0, 1, 11, []), (11, .getfield 36, 3, 14, []), (14, .aload_n 0, 1, 15, []), (15, .getfield 19, 3, 18, []), (18, .irem, 1, 19, []), (19, .istore_n 3, 1, 20, []),
  (20, .iload_n 3, 1, 21, []), (21, .aload_n 0, 1, 22, []), (22, .getfield 19, 3, 25, []), (25, .iconst 1, 1, 26, []), (26, .isub, 1, 27, []), (27, .if_icmp .ne 15, 3, 30, [(0, 42)]),
  (30, .iload_n 1, 1, 31, []), (31, .bipush 59, 2, 33, []), (33, .if_icmp .ne 7, 3, 36, [(0, 40)]), (36, .iconst 1, 1, 37, []), (37, .goto 4, 3, 40, [(0, 41)]), (40, .iconst 0, 1, 41, []),
  (41, .ireturn, 1, 42, []), (42, .iload_n 1, 1, 43, []), (43, .bipush 48, 2, 45, []), (45, .isub, 1, 46, []), (46, .aload_n 0, 1, 47, []), (47, .iload_n 2, 1, 48, []),
  (48, .iload_n 3, 1, 49, []), (49, .invokevirtual 52, 3, 52, []), (52, .invokestatic 55, 3, 55, []), (55, .ifCond .eq 32, 3, 58, [(0, 87)]), (58, .iload_n 3, 1, 59, []), (59, .aload_n 0, 1, 60, []),
  (60, .getfield 15, 3, 63, []), (63, .iconst 2, 1, 64, []), (64, .iadd, 1, 65, []), (65, .if_icmp .ne 18, 3, 68, [(0, 83)]), (68, .aload_n 0, 1, 69, []), (69, .getfield 25, 3, 72, []),
  (72, .ifCond .eq 11, 3, 75, [(0, 83)]), (75, .aload_n 0, 1, 76, []), (76, .iload_n 2, 1, 77, []), (77, .invokevirtual 59, 3, 80, []), (80, .ifCond .ne 7, 3, 83, [(0, 87)]), (83, .iconst 1, 1, 84, []),
  (84, .goto 4, 3, 87, [(0, 88)]), (87, .iconst 0, 1, 88, []), (88, .ireturn, 1, 89, [])]
def pg_X3_canGoOn (T1 T2 T3 : Tr) : PG := (tb_X3_canGoOn, fl_X3, cs_X3, ks_X3, [(100052, 3, T1), (55, 2, T2), (100059, 2, T3)], true, oh_kc)
def tb_X3_figureEnd : List IR := [
  (0, .iload_n 2, 1, 1, []), (1, .aload_n 0, 1, 2, []), (2, .getfield 15, 3, 5, []), (5, .if_icmp .ge 6, 3, 8, [(0, 11)]), (8, .bipush 6, 2, 10, []), (10, .ireturn, 1, 11, []),
  (11, .iload_n 2, 1, 12, []), (12, .aload_n 0, 1, 13, []), (13, .getfield 15, 3, 16, []), (16, .if_icmp .ne 5, 3, 19, [(0, 21)]), (19, .iconst 3, 1, 20, []), (20, .ireturn, 1, 21, []),
  (21, .iload_n 2, 1, 22, []), (22, .aload_n 0, 1, 23, []), (23, .getfield 15, 3, 26, []), (26, .iconst 1, 1, 27, []), (27, .iadd, 1, 28, []), (28, .if_icmp .ne 23, 3, 31, [(0, 51)]),
  (31, .aload_n 0, 1, 32, []), (32, .iload_n 1, 1, 33, []), (33, .aload_n 0, 1, 34, []), (34, .getfield 15, 3, 37, []), (37, .invokevirtual 49, 3, 40, []), (40, .iconst 2, 1, 41, []),
  (41, .if_icmp .ne 7, 3, 44, [(0, 48)]), (44, .iconst 4, 1, 45, []), (45, .goto 5, 3, 48, [(0, 50)]), (48, .bipush 10, 2, 50, []), (50, .ireturn, 1, 51, []), (51, .aload_n 0, 1, 52, []),
  (52, .getfield 22, 3, 55, []), (55, .ireturn, 1, 56, [])]
def pg_X3_figureEnd (T1 : Tr) : PG := (tb_X3_figureEnd, fl_X3, cs_X3, ks_X3, [(100049, 3, T1)], false, oh_kc)
def tb_X3_isToldAhead : List IR := [
  (0, .iconst 0, 1, 1, []), (1, .istore_n 2, 1, 2, []), (2, .iload_n 2, 1, 3, []), (3, .iload_n 1, 1, 4, []), (4, .if_icmp .ge 37, 3, 7, [(0, 41)]), (7, .aload_n 0, 1, 8, []),
  (8, .iload_n 2, 1, 9, []), (9, .invokevirtual 62, 3, 12, []), (12, .aload_n 0, 1, 13, []), (13, .iload_n 1, 1, 14, []), (14, .invokevirtual 62, 3, 17, []), (17, .if_icmp .ne 18, 3, 20, [(0, 35)]),
  (20, .aload_n 0, 1, 21, []), (21, .iload_n 2, 1, 22, []), (22, .invokevirtual 66, 3, 25, []), (25, .aload_n 0, 1, 26, []), (26, .iload_n 1, 1, 27, []), (27, .invokevirtual 66, 3, 30, []),
  (30, .if_icmp .ne 5, 3, 33, [(0, 35)]), (33, .iconst 1, 1, 34, []), (34, .ireturn, 1, 35, []), (35, .iinc 2 1, 3, 38, []), (38, .goto (-36), 3, 41, [(0, 2)]), (41, .iconst 0, 1, 42, []),
  (42, .ireturn, 1, 43, [])]
def pg_X3_isToldAhead (T1 T2 : Tr) : PG := (tb_X3_isToldAhead, fl_X3, cs_X3, ks_X3, [(100062, 2, T1), (100066, 2, T2)], true, oh_kc)
def tb_X4_type : List IR := [
  (0, .iload_n 1, 1, 1, []), (1, .iconst 2, 1, 2, []), (2, .invokestatic 66, 3, 5, []), (5, .ifCond .eq 13, 3, 8, [(0, 18)]), (8, .iload_n 2, 1, 9, []), (9, .sipush 256, 3, 12, []),
  (12, .invokestatic 66, 3, 15, []), (15, .ifCond .ne 6, 3, 18, [(0, 21)]), (18, .bipush (-2), 2, 20, []), (20, .ireturn, 1, 21, []), (21, .aload_n 0, 1, 22, []), (22, .iload_n 1, 1, 23, []),
  (23, .invokevirtual 70, 3, 26, []), (26, .astore_n 3, 1, 27, []), (27, .aload_n 3, 1, 28, []), (28, .getfield 74, 3, 31, []), (31, .bipush 99, 2, 33, []), (33, .if_icmp .lt 6, 3, 36, [(0, 39)]),
  (36, .bipush (-4), 2, 38, []), (38, .ireturn, 1, 39, []), (39, .aload_n 3, 1, 40, []), (40, .iload_n 2, 1, 41, []), (41, .invokevirtual 78, 3, 44, []), (44, .aload_n 0, 1, 45, []),
  (45, .invokevirtual 81, 3, 48, []), (48, .aload_n 3, 1, 49, []), (49, .getfield 74, 3, 52, []), (52, .ireturn, 1, 53, [])]
def pg_X4_type (T1 T2 T3 T4 : Tr) : PG := (tb_X4_type, fl_X4, cs_X4, ks_X4, [(66, 2, T1), (100070, 2, T2), (100078, 2, T3), (100081, 1, T4)], false, oh_kc)
def tb_X4_wipe : List IR := [
  (0, .iload_n 1, 1, 1, []), (1, .iconst 2, 1, 2, []), (2, .invokestatic 66, 3, 5, []), (5, .ifCond .ne 6, 3, 8, [(0, 11)]), (8, .bipush (-2), 2, 10, []), (10, .ireturn, 1, 11, []),
  (11, .aload_n 0, 1, 12, []), (12, .iload_n 1, 1, 13, []), (13, .invokevirtual 70, 3, 16, []), (16, .astore_n 2, 1, 17, []), (17, .aload_n 2, 1, 18, []), (18, .getfield 74, 3, 21, []),
  (21, .istore_n 3, 1, 22, []), (22, .aload_n 2, 1, 23, []), (23, .invokevirtual 84, 3, 26, []), (26, .aload_n 0, 1, 27, []), (27, .invokevirtual 81, 3, 30, []), (30, .iload_n 3, 1, 31, []),
  (31, .ireturn, 1, 32, [])]
def pg_X4_wipe (T1 T2 T3 T4 : Tr) : PG := (tb_X4_wipe, fl_X4, cs_X4, ks_X4, [(66, 2, T1), (100070, 2, T2), (100084, 1, T3), (100081, 1, T4)], false, oh_kc)
def tb_X4_undo : List IR := [
  (0, .iload_n 1, 1, 1, []), (1, .iconst 2, 1, 2, []), (2, .invokestatic 66, 3, 5, []), (5, .ifCond .ne 6, 3, 8, [(0, 11)]), (8, .bipush (-2), 2, 10, []), (10, .ireturn, 1, 11, []),
  (11, .aload_n 0, 1, 12, []), (12, .iload_n 1, 1, 13, []), (13, .invokevirtual 70, 3, 16, []), (16, .astore_n 2, 1, 17, []), (17, .aload_n 2, 1, 18, []), (18, .invokevirtual 87, 3, 21, []),
  (21, .ifCond .ne 6, 3, 24, [(0, 27)]), (24, .bipush (-3), 2, 26, []), (26, .ireturn, 1, 27, []), (27, .aload_n 2, 1, 28, []), (28, .invokevirtual 91, 3, 31, []), (31, .aload_n 0, 1, 32, []),
  (32, .invokevirtual 81, 3, 35, []), (35, .aload_n 2, 1, 36, []), (36, .invokevirtual 87, 3, 39, []), (39, .ireturn, 1, 40, [])]
def pg_X4_undo (T1 T2 T3 T4 T5 : Tr) : PG := (tb_X4_undo, fl_X4, cs_X4, ks_X4, [(66, 2, T1), (100070, 2, T2), (100087, 1, T3), (100091, 1, T4), (100081, 1, T5)], false, oh_kc)
def tb_X4_fault : List IR := [
  (0, .iload_n 1, 1, 1, []), (1, .iconst 2, 1, 2, []), (2, .invokestatic 66, 3, 5, []), (5, .ifCond .eq 14, 3, 8, [(0, 19)]), (8, .aload_n 0, 1, 9, []), (9, .iload_n 1, 1, 10, []),
  (10, .invokevirtual 70, 3, 13, []), (13, .invokevirtual 94, 3, 16, []), (16, .goto 5, 3, 19, [(0, 21)]), (19, .bipush (-2), 2, 21, []), (21, .ireturn, 1, 22, [])]
def pg_X4_fault (T1 T2 T3 : Tr) : PG := (tb_X4_fault, fl_X4, cs_X4, ks_X4, [(66, 2, T1), (100070, 2, T2), (100094, 1, T3)], false, oh_kc)
def tb_X4_setLaw : List IR := [
  (0, .iload_n 1, 1, 1, []), (1, .iconst 3, 1, 2, []), (2, .invokestatic 66, 3, 5, []), (5, .ifCond .ne 6, 3, 8, [(0, 11)]), (8, .bipush (-2), 2, 10, []), (10, .ireturn, 1, 11, []),
  (11, .aload_n 0, 1, 12, []), (12, .getfield 97, 3, 15, []), (15, .istore_n 2, 1, 16, []), (16, .aload_n 0, 1, 17, []), (17, .iload_n 1, 1, 18, []), (18, .putfield 97, 3, 21, []),
  (21, .iload_n 2, 1, 22, []), (22, .ireturn, 1, 23, [])]
def pg_X4_setLaw (T1 : Tr) : PG := (tb_X4_setLaw, fl_X4, cs_X4, ks_X4, [(66, 2, T1)], false, oh_kc)
def tb_X4_home : List IR := [
  (0, .iload_n 1, 1, 1, []), (1, .bipush 6, 2, 3, []), (3, .invokestatic 66, 3, 6, []), (6, .ifCond .eq 12, 3, 9, [(0, 18)]), (9, .iload_n 2, 1, 10, []), (10, .bipush 10, 2, 12, []),
  (12, .invokestatic 66, 3, 15, []), (15, .ifCond .ne 6, 3, 18, [(0, 21)]), (18, .bipush (-2), 2, 20, []), (20, .ireturn, 1, 21, []), (21, .aload_n 0, 1, 22, []), (22, .getfield 40, 3, 25, []),
  (25, .iload_n 1, 1, 26, []), (26, .iaload, 1, 27, []), (27, .istore_n 3, 1, 28, []), (28, .aload_n 0, 1, 29, []), (29, .getfield 40, 3, 32, []), (32, .iload_n 1, 1, 33, []),
  (33, .iload_n 2, 1, 34, []), (34, .iastore, 1, 35, []), (35, .aload_n 0, 1, 36, []), (36, .invokevirtual 100, 3, 39, []), (39, .iload_n 3, 1, 40, []), (40, .ireturn, 1, 41, [])]
def pg_X4_home (T1 T2 : Tr) : PG := (tb_X4_home, fl_X4, cs_X4, ks_X4, [(66, 2, T1), (100100, 1, T2)], false, oh_kc)
def tb_X4_worth : List IR := [
  (0, .iload_n 1, 1, 1, []), (1, .iload_n 2, 1, 2, []), (2, .invokestatic 103, 3, 5, []), (5, .ifCond .eq 12, 3, 8, [(0, 17)]), (8, .iload_n 3, 1, 9, []), (9, .bipush 10, 2, 11, []),
  (11, .invokestatic 66, 3, 14, []), (14, .ifCond .ne 6, 3, 17, [(0, 20)]), (17, .bipush (-2), 2, 19, []), (19, .ireturn, 1, 20, []), (20, .aload_n 0, 1, 21, []), (21, .getfield 44, 3, 24, []),
  (24, .iload_n 1, 1, 25, []), (25, .iload_n 2, 1, 26, []), (26, .invokestatic 106, 3, 29, []), (29, .iaload, 1, 30, []), (30, .istore 4, 2, 32, []), (32, .aload_n 0, 1, 33, []),
  (33, .getfield 44, 3, 36, []), (36, .iload_n 1, 1, 37, []), (37, .iload_n 2, 1, 38, []), (38, .invokestatic 106, 3, 41, []), (41, .iload_n 3, 1, 42, []), (42, .iastore, 1, 43, []),
  (43, .iload 4, 2, 45, []), (45, .ireturn, 1, 46, [])]
def pg_X4_worth (T1 T2 T3 : Tr) : PG := (tb_X4_worth, fl_X4, cs_X4, ks_X4, [(103, 2, T1), (66, 2, T2), (106, 2, T3)], false, oh_kc)
def tb_X4_read : List IR := [
  (0, .iload_n 1, 1, 1, []), (1, .iconst 4, 1, 2, []), (2, .invokestatic 66, 3, 5, []), (5, .ifCond .eq 12, 3, 8, [(0, 17)]), (8, .iload_n 2, 1, 9, []), (9, .bipush 6, 2, 11, []),
  (11, .invokestatic 66, 3, 14, []), (14, .ifCond .ne 6, 3, 17, [(0, 20)]), (17, .bipush (-2), 2, 19, []), (19, .ireturn, 1, 20, []), (20, .aload_n 0, 1, 21, []), (21, .getfield 61, 3, 24, []),
  (24, .iload_n 1, 1, 25, []), (25, .aaload, 1, 26, []), (26, .astore_n 3, 1, 27, []), (27, .aload_n 3, 1, 28, []), (28, .invokevirtual 110, 3, 31, []), (31, .ifCond .eq 9, 3, 34, [(0, 40)]),
  (34, .aload_n 0, 1, 35, []), (35, .iconst 1, 1, 36, []), (36, .invokevirtual 114, 3, 39, []), (39, .ireturn, 1, 40, []), (40, .aload_n 3, 1, 41, []), (41, .getfield 118, 3, 44, []),
  (44, .bipush 24, 2, 46, []), (46, .invokestatic 121, 3, 49, []), (49, .istore 4, 2, 51, []), (51, .iconst 0, 1, 52, []), (52, .istore 5, 2, 54, []), (54, .iload 5, 2, 56, []),
  (56, .iload 4, 2, 58, []), (58, .if_icmp .ge 42, 3, 61, [(0, 100)]), (61, .aload_n 3, 1, 62, []), (62, .getfield 126, 3, 65, []), (65, .iload 5, 2, 67, []), (67, .iaload, 1, 68, []),
  (68, .bipush 10, 2, 70, []), (70, .invokestatic 66, 3, 73, []), (73, .ifCond .eq 27, 3, 76, [(0, 100)]), (76, .aload_n 0, 1, 77, []), (77, .getfield 44, 3, 80, []), (80, .iload_n 2, 1, 81, []),
  (81, .iload 5, 2, 83, []), (83, .invokestatic 106, 3, 86, []), (86, .aload_n 3, 1, 87, []), (87, .getfield 126, 3, 90, []), (90, .iload 5, 2, 92, []), (92, .iaload, 1, 93, []),
  (93, .iastore, 1, 94, []), (94, .iinc 5 1, 3, 97, []), (97, .goto (-43), 3, 100, [(0, 54)]), (100, .iload 5, 2, 102, []), (102, .ireturn, 1, 103, [])]
def pg_X4_read (T1 T2 T3 T4 T5 : Tr) : PG := (tb_X4_read, fl_X4, cs_X4, ks_X4, [(66, 2, T1), (100110, 1, T2), (100114, 2, T3), (121, 2, T4), (106, 2, T5)], false, oh_kc)
def tb_X4_owns : List IR := [
  (0, .iload_n 1, 1, 1, []), (1, .iload_n 2, 1, 2, []), (2, .invokestatic 103, 3, 5, []), (5, .ifCond .eq 15, 3, 8, [(0, 20)]), (8, .aload_n 0, 1, 9, []), (9, .getfield 24, 3, 12, []),
  (12, .iload_n 1, 1, 13, []), (13, .iload_n 2, 1, 14, []), (14, .invokevirtual 129, 3, 17, []), (17, .goto 5, 3, 20, [(0, 22)]), (20, .bipush (-2), 2, 22, []), (22, .ireturn, 1, 23, [])]
def pg_X4_owns (T1 T2 : Tr) : PG := (tb_X4_owns, fl_X4, cs_X4, ks_X4, [(103, 2, T1), (100129, 3, T2)], false, oh_kc)
def tb_X4_acts : List IR := [
  (0, .iload_n 1, 1, 1, []), (1, .iload_n 2, 1, 2, []), (2, .invokestatic 103, 3, 5, []), (5, .ifCond .eq 23, 3, 8, [(0, 28)]), (8, .aload_n 0, 1, 9, []), (9, .aload_n 0, 1, 10, []),
  (10, .getfield 97, 3, 13, []), (13, .invokevirtual 132, 3, 16, []), (16, .getfield 136, 3, 19, []), (19, .iload_n 1, 1, 20, []), (20, .iload_n 2, 1, 21, []), (21, .invokestatic 106, 3, 24, []),
  (24, .iaload, 1, 25, []), (25, .goto 5, 3, 28, [(0, 30)]), (28, .bipush (-2), 2, 30, []), (30, .ireturn, 1, 31, [])]
def pg_X4_acts (T1 T2 T3 : Tr) : PG := (tb_X4_acts, fl_X4, cs_X4, ks_X4, [(103, 2, T1), (100132, 2, T2), (106, 2, T3)], false, oh_kc)
def tb_X4_deep : List IR := [
  (0, .iload_n 1, 1, 1, []), (1, .iload_n 2, 1, 2, []), (2, .invokestatic 103, 3, 5, []), (5, .ifCond .eq 15, 3, 8, [(0, 20)]), (8, .aload_n 0, 1, 9, []), (9, .getfield 24, 3, 12, []),
  (12, .iload_n 1, 1, 13, []), (13, .iload_n 2, 1, 14, []), (14, .invokevirtual 139, 3, 17, []), (17, .goto 5, 3, 20, [(0, 22)]), (20, .bipush (-2), 2, 22, []), (22, .ireturn, 1, 23, [])]
def pg_X4_deep (T1 T2 : Tr) : PG := (tb_X4_deep, fl_X4, cs_X4, ks_X4, [(103, 2, T1), (100139, 3, T2)], false, oh_kc)
def tb_X4_free : List IR := [
  (0, .iload_n 1, 1, 1, []), (1, .bipush 6, 2, 3, []), (3, .invokestatic 66, 3, 6, []), (6, .ifCond .ne 6, 3, 9, [(0, 12)]), (9, .bipush (-2), 2, 11, []), (11, .ireturn, 1, 12, []),
  (12, .aload_n 0, 1, 13, []), (13, .aload_n 0, 1, 14, []), (14, .getfield 97, 3, 17, []), (17, .invokevirtual 132, 3, 20, []), (20, .astore_n 2, 1, 21, []), (21, .iconst 0, 1, 22, []),
  (22, .istore_n 3, 1, 23, []), (23, .iconst 0, 1, 24, []), (24, .istore 4, 2, 26, []), (26, .iload 4, 2, 28, []), (28, .bipush 24, 2, 30, []), (30, .if_icmp .ge 31, 3, 33, [(0, 61)]),
  (33, .aload_n 2, 1, 34, []), (34, .getfield 136, 3, 37, []), (37, .iload_n 1, 1, 38, []), (38, .iload 4, 2, 40, []), (40, .invokestatic 106, 3, 43, []), (43, .iaload, 1, 44, []),
  (44, .iload_n 1, 1, 45, []), (45, .if_icmp .ne 10, 3, 48, [(0, 55)]), (48, .iload_n 3, 1, 49, []), (49, .iconst 1, 1, 50, []), (50, .iload 4, 2, 52, []), (52, .ishl, 1, 53, []),
  (53, .ior, 1, 54, []), (54, .istore_n 3, 1, 55, []), (55, .iinc 4 1, 3, 58, []), (58, .goto (-32), 3, 61, [(0, 26)]), (61, .iload_n 3, 1, 62, []), (62, .ireturn, 1, 63, [])]
def pg_X4_free (T1 T2 T3 : Tr) : PG := (tb_X4_free, fl_X4, cs_X4, ks_X4, [(66, 2, T1), (100132, 2, T2), (106, 2, T3)], false, oh_kc)
def tb_X4_holds : List IR := [
  (0, .iload_n 1, 1, 1, []), (1, .bipush 6, 2, 3, []), (3, .invokestatic 66, 3, 6, []), (6, .ifCond .ne 6, 3, 9, [(0, 12)]), (9, .bipush (-2), 2, 11, []), (11, .ireturn, 1, 12, []),
  (12, .aload_n 0, 1, 13, []), (13, .aload_n 0, 1, 14, []), (14, .getfield 97, 3, 17, []), (17, .invokevirtual 132, 3, 20, []), (20, .astore_n 2, 1, 21, []), (21, .iconst 0, 1, 22, []),
  (22, .istore_n 3, 1, 23, []), (23, .iconst 0, 1, 24, []), (24, .istore 4, 2, 26, []), (26, .iload 4, 2, 28, []), (28, .sipush 144, 3, 31, []), (31, .if_icmp .ge 23, 3, 34, [(0, 54)]),
  (34, .aload_n 2, 1, 35, []), (35, .getfield 136, 3, 38, []), (38, .iload 4, 2, 40, []), (40, .iaload, 1, 41, []), (41, .iload_n 1, 1, 42, []), (42, .if_icmp .ne 6, 3, 45, [(0, 48)]),
  (45, .iinc 3 1, 3, 48, []), (48, .iinc 4 1, 3, 51, []), (51, .goto (-25), 3, 54, [(0, 26)]), (54, .iload_n 3, 1, 55, []), (55, .ireturn, 1, 56, [])]
def pg_X4_holds (T1 T2 : Tr) : PG := (tb_X4_holds, fl_X4, cs_X4, ks_X4, [(66, 2, T1), (100132, 2, T2)], false, oh_kc)
def tb_X4_wronged : List IR := [
  (0, .iload_n 1, 1, 1, []), (1, .iconst 3, 1, 2, []), (2, .invokestatic 66, 3, 5, []), (5, .ifCond .ne 6, 3, 8, [(0, 11)]), (8, .bipush (-2), 2, 10, []), (10, .ireturn, 1, 11, []),
  (11, .iconst 0, 1, 12, []), (12, .istore_n 2, 1, 13, []), (13, .iconst 0, 1, 14, []), (14, .istore_n 3, 1, 15, []), (15, .iload_n 3, 1, 16, []), (16, .bipush 24, 2, 18, []),
  (18, .if_icmp .ge 21, 3, 21, [(0, 39)]), (21, .iload_n 2, 1, 22, []), (22, .aload_n 0, 1, 23, []), (23, .getfield 24, 3, 26, []), (26, .iload_n 1, 1, 27, []), (27, .iload_n 3, 1, 28, []),
  (28, .invokevirtual 142, 3, 31, []), (31, .iadd, 1, 32, []), (32, .istore_n 2, 1, 33, []), (33, .iinc 3 1, 3, 36, []), (36, .goto (-21), 3, 39, [(0, 15)]), (39, .iload_n 2, 1, 40, []),
  (40, .ireturn, 1, 41, [])]
def pg_X4_wronged (T1 T2 : Tr) : PG := (tb_X4_wronged, fl_X4, cs_X4, ks_X4, [(66, 2, T1), (100142, 3, T2)], false, oh_kc)
def tb_X4_gentlest : List IR := [
  (0, .iconst 0, 1, 1, []), (1, .istore_n 1, 1, 2, []), (2, .aload_n 0, 1, 3, []), (3, .iconst 0, 1, 4, []), (4, .invokevirtual 145, 3, 7, []), (7, .istore_n 2, 1, 8, []),
  (8, .iconst 1, 1, 9, []), (9, .istore_n 3, 1, 10, []), (10, .iload_n 3, 1, 11, []), (11, .iconst 3, 1, 12, []), (12, .if_icmp .ge 27, 3, 15, [(0, 39)]), (15, .aload_n 0, 1, 16, []),
  (16, .iload_n 3, 1, 17, []), (17, .invokevirtual 145, 3, 20, []), (20, .istore 4, 2, 22, []), (22, .iload 4, 2, 24, []), (24, .iload_n 2, 1, 25, []), (25, .if_icmp .ge 8, 3, 28, [(0, 33)]),
  (28, .iload_n 3, 1, 29, []), (29, .istore_n 1, 1, 30, []), (30, .iload 4, 2, 32, []), (32, .istore_n 2, 1, 33, []), (33, .iinc 3 1, 3, 36, []), (36, .goto (-26), 3, 39, [(0, 10)]),
  (39, .iload_n 1, 1, 40, []), (40, .ireturn, 1, 41, [])]
def pg_X4_gentlest (T1 : Tr) : PG := (tb_X4_gentlest, fl_X4, cs_X4, ks_X4, [(100145, 2, T1)], false, oh_kc)
def tb_X4_done : List IR := [
  (0, .iload_n 1, 1, 1, []), (1, .aload_n 0, 1, 2, []), (2, .getfield 18, 3, 5, []), (5, .invokevirtual 87, 3, 8, []), (8, .invokestatic 66, 3, 11, []), (11, .ifCond .ne 6, 3, 14, [(0, 17)]),
  (14, .bipush (-2), 2, 16, []), (16, .ireturn, 1, 17, []), (17, .aload_n 0, 1, 18, []), (18, .aload_n 0, 1, 19, []), (19, .getfield 97, 3, 22, []), (22, .invokevirtual 132, 3, 25, []),
  (25, .iload_n 1, 1, 26, []), (26, .invokevirtual 148, 3, 29, []), (29, .ifCond .eq 7, 3, 32, [(0, 36)]), (32, .iconst 1, 1, 33, []), (33, .goto 4, 3, 36, [(0, 37)]), (36, .iconst 0, 1, 37, []),
  (37, .ireturn, 1, 38, [])]
def pg_X4_done (T1 T2 T3 T4 : Tr) : PG := (tb_X4_done, fl_X4, cs_X4, ks_X4, [(100087, 1, T1), (66, 2, T2), (100132, 2, T3), (100148, 2, T4)], false, oh_kc)
def tb_X4_judged : List IR := [
  (0, .aload_n 0, 1, 1, []), (1, .aload_n 0, 1, 2, []), (2, .getfield 97, 3, 5, []), (5, .invokevirtual 132, 3, 8, []), (8, .astore_n 1, 1, 9, []), (9, .aload_n 0, 1, 10, []),
  (10, .getfield 18, 3, 13, []), (13, .invokevirtual 87, 3, 16, []), (16, .istore_n 2, 1, 17, []), (17, .iconst 0, 1, 18, []), (18, .istore_n 3, 1, 19, []), (19, .iload_n 3, 1, 20, []),
  (20, .iload_n 2, 1, 21, []), (21, .if_icmp .ge 19, 3, 24, [(0, 40)]), (24, .aload_n 1, 1, 25, []), (25, .iload_n 3, 1, 26, []), (26, .invokevirtual 148, 3, 29, []), (29, .ifCond .ne 5, 3, 32, [(0, 34)]),
  (32, .iload_n 3, 1, 33, []), (33, .ireturn, 1, 34, []), (34, .iinc 3 1, 3, 37, []), (37, .goto (-18), 3, 40, [(0, 19)]), (40, .iconst (-1), 1, 41, []), (41, .ireturn, 1, 42, [])]
def pg_X4_judged (T1 T2 T3 : Tr) : PG := (tb_X4_judged, fl_X4, cs_X4, ks_X4, [(100132, 2, T1), (100087, 1, T2), (100148, 2, T3)], false, oh_kc)
def tb_X4_body : List IR := [
  (0, .iload_n 1, 1, 1, []), (1, .iload_n 2, 1, 2, []), (2, .invokestatic 103, 3, 5, []), (5, .ifCond .ne 6, 3, 8, [(0, 11)]), (8, .bipush (-2), 2, 10, []), (10, .ireturn, 1, 11, []),
  (11, .iload_n 3, 1, 12, []), (12, .tableswitch 82 0 2 #[28, 46, 64], 28, 40, [(0, 94), (0, 40), (1, 58), (2, 76)]), (40, .aload_n 0, 1, 41, []), (41, .aload_n 0, 1, 42, []), (42, .getfield 97, 3, 45, []), (45, .invokevirtual 132, 3, 48, []),
  (48, .getfield 152, 3, 51, []), (51, .iload_n 1, 1, 52, []), (52, .iload_n 2, 1, 53, []), (53, .invokestatic 106, 3, 56, []), (56, .iaload, 1, 57, []), (57, .ireturn, 1, 58, []),
  (58, .aload_n 0, 1, 59, []), (59, .aload_n 0, 1, 60, []), (60, .getfield 97, 3, 63, []), (63, .invokevirtual 132, 3, 66, []), (66, .getfield 155, 3, 69, []), (69, .iload_n 1, 1, 70, []),
  (70, .iload_n 2, 1, 71, []), (71, .invokestatic 106, 3, 74, []), (74, .iaload, 1, 75, []), (75, .ireturn, 1, 76, []), (76, .aload_n 0, 1, 77, []), (77, .aload_n 0, 1, 78, []),
  (78, .getfield 97, 3, 81, []), (81, .invokevirtual 132, 3, 84, []), (84, .getfield 158, 3, 87, []), (87, .iload_n 1, 1, 88, []), (88, .iload_n 2, 1, 89, []), (89, .invokestatic 106, 3, 92, []),
  (92, .iaload, 1, 93, []), (93, .ireturn, 1, 94, []), (94, .bipush (-2), 2, 96, []), (96, .ireturn, 1, 97, [])]
def pg_X4_body (T1 T2 T3 : Tr) : PG := (tb_X4_body, fl_X4, cs_X4, ks_X4, [(103, 2, T1), (100132, 2, T2), (106, 2, T3)], false, oh_kc)
def tb_X4_met : List IR := [
  (0, .iload_n 1, 1, 1, []), (1, .iload_n 2, 1, 2, []), (2, .invokestatic 161, 3, 5, []), (5, .ifCond .ne 6, 3, 8, [(0, 11)]), (8, .bipush (-2), 2, 10, []), (10, .ireturn, 1, 11, []),
  (11, .aload_n 0, 1, 12, []), (12, .aload_n 0, 1, 13, []), (13, .getfield 97, 3, 16, []), (16, .invokevirtual 132, 3, 19, []), (19, .astore_n 3, 1, 20, []), (20, .iconst 0, 1, 21, []),
  (21, .istore 4, 2, 23, []), (23, .iconst 0, 1, 24, []), (24, .istore 5, 2, 26, []), (26, .iload 5, 2, 28, []), (28, .bipush 24, 2, 30, []), (30, .if_icmp .ge 43, 3, 33, [(0, 73)]),
  (33, .aload_n 3, 1, 34, []), (34, .getfield 155, 3, 37, []), (37, .iload_n 1, 1, 38, []), (38, .iload 5, 2, 40, []), (40, .invokestatic 106, 3, 43, []), (43, .iaload, 1, 44, []),
  (44, .aload_n 3, 1, 45, []), (45, .getfield 155, 3, 48, []), (48, .iload_n 2, 1, 49, []), (49, .iload 5, 2, 51, []), (51, .invokestatic 106, 3, 54, []), (54, .iaload, 1, 55, []),
  (55, .if_icmp .ne 12, 3, 58, [(0, 67)]), (58, .iload 4, 2, 60, []), (60, .iconst 1, 1, 61, []), (61, .iload 5, 2, 63, []), (63, .ishl, 1, 64, []), (64, .ior, 1, 65, []),
  (65, .istore 4, 2, 67, []), (67, .iinc 5 1, 3, 70, []), (70, .goto (-44), 3, 73, [(0, 26)]), (73, .iload 4, 2, 75, []), (75, .ireturn, 1, 76, [])]
def pg_X4_met (T1 T2 T3 : Tr) : PG := (tb_X4_met, fl_X4, cs_X4, ks_X4, [(161, 2, T1), (100132, 2, T2), (106, 2, T3)], false, oh_kc)
def tb_X4_slips : List IR := [
  (0, .iload_n 1, 1, 1, []), (1, .iload_n 2, 1, 2, []), (2, .invokestatic 161, 3, 5, []), (5, .ifCond .ne 6, 3, 8, [(0, 11)]), (8, .bipush (-2), 2, 10, []), (10, .ireturn, 1, 11, []),
  (11, .aload_n 0, 1, 12, []), (12, .aload_n 0, 1, 13, []), (13, .getfield 97, 3, 16, []), (16, .invokevirtual 132, 3, 19, []), (19, .astore_n 3, 1, 20, []), (20, .iconst 0, 1, 21, []),
  (21, .istore 4, 2, 23, []), (23, .iconst 1, 1, 24, []), (24, .istore 5, 2, 26, []), (26, .iload 5, 2, 28, []), (28, .bipush 24, 2, 30, []), (30, .if_icmp .ge 55, 3, 33, [(0, 85)]),
  (33, .aload_n 3, 1, 34, []), (34, .getfield 136, 3, 37, []), (37, .iload_n 2, 1, 38, []), (38, .iload 5, 2, 40, []), (40, .invokestatic 106, 3, 43, []), (43, .iaload, 1, 44, []),
  (44, .istore 6, 2, 46, []), (46, .iload 6, 2, 48, []), (48, .iconst (-1), 1, 49, []), (49, .if_icmp .eq 30, 3, 52, [(0, 79)]), (52, .iload 6, 2, 54, []), (54, .aload_n 3, 1, 55, []),
  (55, .getfield 136, 3, 58, []), (58, .iload_n 1, 1, 59, []), (59, .iload 5, 2, 61, []), (61, .iconst 1, 1, 62, []), (62, .isub, 1, 63, []), (63, .invokestatic 106, 3, 66, []),
  (66, .iaload, 1, 67, []), (67, .if_icmp .ne 12, 3, 70, [(0, 79)]), (70, .iload 4, 2, 72, []), (72, .iconst 1, 1, 73, []), (73, .iload 5, 2, 75, []), (75, .ishl, 1, 76, []),
  (76, .ior, 1, 77, []), (77, .istore 4, 2, 79, []), (79, .iinc 5 1, 3, 82, []), (82, .goto (-56), 3, 85, [(0, 26)]), (85, .iload 4, 2, 87, []), (87, .ireturn, 1, 88, [])]
def pg_X4_slips (T1 T2 T3 : Tr) : PG := (tb_X4_slips, fl_X4, cs_X4, ks_X4, [(161, 2, T1), (100132, 2, T2), (106, 2, T3)], false, oh_kc)
def tb_X4_soonest : List IR := [
  (0, .iload_n 1, 1, 1, []), (1, .bipush 6, 2, 3, []), (3, .invokestatic 66, 3, 6, []), (6, .ifCond .eq 10, 3, 9, [(0, 16)]), (9, .iload_n 2, 1, 10, []), (10, .invokestatic 164, 3, 13, []),
  (13, .ifCond .ne 6, 3, 16, [(0, 19)]), (16, .bipush (-2), 2, 18, []), (18, .ireturn, 1, 19, []), (19, .aload_n 0, 1, 20, []), (20, .aload_n 0, 1, 21, []), (21, .getfield 97, 3, 24, []),
  (24, .invokevirtual 132, 3, 27, []), (27, .astore_n 3, 1, 28, []), (28, .iconst 0, 1, 29, []), (29, .istore 4, 2, 31, []), (31, .iconst 0, 1, 32, []), (32, .istore 5, 2, 34, []),
  (34, .iload 5, 2, 36, []), (36, .bipush 24, 2, 38, []), (38, .if_icmp .ge 30, 3, 41, [(0, 68)]), (41, .iload 4, 2, 43, []), (43, .aload_n 3, 1, 44, []), (44, .iload_n 1, 1, 45, []),
  (45, .iload 5, 2, 47, []), (47, .invokevirtual 167, 3, 50, []), (50, .iadd, 1, 51, []), (51, .istore 4, 2, 53, []), (53, .iload 4, 2, 55, []), (55, .iload_n 2, 1, 56, []),
  (56, .if_icmp .lt 6, 3, 59, [(0, 62)]), (59, .iload 5, 2, 61, []), (61, .ireturn, 1, 62, []), (62, .iinc 5 1, 3, 65, []), (65, .goto (-31), 3, 68, [(0, 34)]), (68, .iconst (-1), 1, 69, []),
  (69, .ireturn, 1, 70, [])]
def pg_X4_soonest (T1 T2 T3 T4 : Tr) : PG := (tb_X4_soonest, fl_X4, cs_X4, ks_X4, [(66, 2, T1), (164, 1, T2), (100132, 2, T3), (100167, 3, T4)], false, oh_kc)
def tb_X4_fewest : List IR := [
  (0, .iload_n 1, 1, 1, []), (1, .bipush 6, 2, 3, []), (3, .invokestatic 66, 3, 6, []), (6, .ifCond .eq 18, 3, 9, [(0, 24)]), (9, .iload_n 2, 1, 10, []), (10, .invokestatic 164, 3, 13, []),
  (13, .ifCond .eq 11, 3, 16, [(0, 24)]), (16, .iload_n 3, 1, 17, []), (17, .iconst 2, 1, 18, []), (18, .invokestatic 66, 3, 21, []), (21, .ifCond .ne 6, 3, 24, [(0, 27)]), (24, .bipush (-2), 2, 26, []),
  (26, .ireturn, 1, 27, []), (27, .aload_n 0, 1, 28, []), (28, .aload_n 0, 1, 29, []), (29, .aload_n 0, 1, 30, []), (30, .getfield 97, 3, 33, []), (33, .invokevirtual 132, 3, 36, []),
  (36, .iload_n 1, 1, 37, []), (37, .iload_n 2, 1, 38, []), (38, .invokevirtual 170, 3, 41, []), (41, .istore 4, 2, 43, []), (43, .iload 4, 2, 45, []), (45, .iconst (-1), 1, 46, []),
  (46, .if_icmp .eq 8, 3, 49, [(0, 54)]), (49, .iload_n 3, 1, 50, []), (50, .iconst 1, 1, 51, []), (51, .if_icmp .ne 8, 3, 54, [(0, 59)]), (54, .iload 4, 2, 56, []), (56, .goto 8, 3, 59, [(0, 64)]),
  (59, .iload 4, 2, 61, []), (61, .invokestatic 174, 3, 64, []), (64, .ireturn, 1, 65, [])]
def pg_X4_fewest (T1 T2 T3 T4 T5 : Tr) : PG := (tb_X4_fewest, fl_X4, cs_X4, ks_X4, [(66, 2, T1), (164, 1, T2), (100132, 2, T3), (100170, 4, T4), (174, 1, T5)], false, oh_kc)
def tb_X4_run : List IR := [
  (0, .iload_n 1, 1, 1, []), (1, .bipush 6, 2, 3, []), (3, .invokestatic 66, 3, 6, []), (6, .ifCond .ne 6, 3, 9, [(0, 12)]), (9, .bipush (-2), 2, 11, []), (11, .ireturn, 1, 12, []),
  (12, .iload_n 2, 1, 13, []), (13, .tableswitch 87 0 3 #[31, 45, 59, 73], 31, 44, [(0, 100), (0, 44), (1, 58), (2, 72), (3, 86)]), (44, .aload_n 0, 1, 45, []), (45, .aload_n 0, 1, 46, []), (46, .getfield 97, 3, 49, []), (49, .invokevirtual 132, 3, 52, []),
  (52, .iload_n 1, 1, 53, []), (53, .iconst 0, 1, 54, []), (54, .invokevirtual 179, 3, 57, []), (57, .ireturn, 1, 58, []), (58, .aload_n 0, 1, 59, []), (59, .aload_n 0, 1, 60, []),
  (60, .getfield 97, 3, 63, []), (63, .invokevirtual 132, 3, 66, []), (66, .iload_n 1, 1, 67, []), (67, .iconst 0, 1, 68, []), (68, .invokevirtual 183, 3, 71, []), (71, .ireturn, 1, 72, []),
  (72, .aload_n 0, 1, 73, []), (73, .aload_n 0, 1, 74, []), (74, .getfield 97, 3, 77, []), (77, .invokevirtual 132, 3, 80, []), (80, .iload_n 1, 1, 81, []), (81, .iconst 1, 1, 82, []),
  (82, .invokevirtual 179, 3, 85, []), (85, .ireturn, 1, 86, []), (86, .aload_n 0, 1, 87, []), (87, .aload_n 0, 1, 88, []), (88, .getfield 97, 3, 91, []), (91, .invokevirtual 132, 3, 94, []),
  (94, .iload_n 1, 1, 95, []), (95, .iconst 1, 1, 96, []), (96, .invokevirtual 183, 3, 99, []), (99, .ireturn, 1, 100, []), (100, .bipush (-2), 2, 102, []), (102, .ireturn, 1, 103, [])]
def pg_X4_run (T1 T2 T3 T4 : Tr) : PG := (tb_X4_run, fl_X4, cs_X4, ks_X4, [(66, 2, T1), (100132, 2, T2), (100179, 3, T3), (100183, 3, T4)], false, oh_kc)
def tb_X4_trade : List IR := [
  (0, .iload_n 1, 1, 1, []), (1, .iload_n 2, 1, 2, []), (2, .invokestatic 103, 3, 5, []), (5, .ifCond .eq 12, 3, 8, [(0, 17)]), (8, .iload_n 3, 1, 9, []), (9, .iload 4, 2, 11, []),
  (11, .invokestatic 103, 3, 14, []), (14, .ifCond .ne 6, 3, 17, [(0, 20)]), (17, .bipush (-2), 2, 19, []), (19, .ireturn, 1, 20, []), (20, .aload_n 0, 1, 21, []), (21, .getfield 24, 3, 24, []),
  (24, .iload_n 1, 1, 25, []), (25, .iload_n 2, 1, 26, []), (26, .invokevirtual 129, 3, 29, []), (29, .istore 5, 2, 31, []), (31, .aload_n 0, 1, 32, []), (32, .getfield 24, 3, 35, []),
  (35, .iload_n 3, 1, 36, []), (36, .iload 4, 2, 38, []), (38, .invokevirtual 129, 3, 41, []), (41, .istore 6, 2, 43, []), (43, .iload 5, 2, 45, []), (45, .iload 6, 2, 47, []),
  (47, .if_icmp .ne 6, 3, 50, [(0, 53)]), (50, .bipush (-3), 2, 52, []), (52, .ireturn, 1, 53, []), (53, .aload_n 0, 1, 54, []), (54, .iload 5, 2, 56, []), (56, .iload_n 2, 1, 57, []),
  (57, .iload 6, 2, 59, []), (59, .iload 4, 2, 61, []), (61, .invokevirtual 186, 3, 64, []), (64, .ifCond .eq 7, 3, 67, [(0, 71)]), (67, .iconst 1, 1, 68, []), (68, .goto 4, 3, 71, [(0, 72)]),
  (71, .iconst 0, 1, 72, []), (72, .ireturn, 1, 73, [])]
def pg_X4_trade (T1 T2 T3 : Tr) : PG := (tb_X4_trade, fl_X4, cs_X4, ks_X4, [(103, 2, T1), (100129, 3, T2), (100186, 5, T3)], false, oh_kc)
def tb_X4_trades : List IR := [
  (0, .aload_n 0, 1, 1, []), (1, .getfield 14, 3, 4, []), (4, .invokevirtual 87, 3, 7, []), (7, .bipush 12, 2, 9, []), (9, .invokestatic 121, 3, 12, []), (12, .istore_n 1, 1, 13, []),
  (13, .iconst 0, 1, 14, []), (14, .istore_n 2, 1, 15, []), (15, .iload_n 2, 1, 16, []), (16, .iload_n 1, 1, 17, []), (17, .if_icmp .ge 21, 3, 20, [(0, 38)]), (20, .aload_n 0, 1, 21, []),
  (21, .getfield 50, 3, 24, []), (24, .iload_n 2, 1, 25, []), (25, .aload_n 0, 1, 26, []), (26, .iload_n 2, 1, 27, []), (27, .iload_n 1, 1, 28, []), (28, .invokevirtual 190, 3, 31, []),
  (31, .iastore, 1, 32, []), (32, .iinc 2 1, 3, 35, []), (35, .goto (-20), 3, 38, [(0, 15)]), (38, .aload_n 0, 1, 39, []), (39, .getfield 50, 3, 42, []), (42, .iconst 0, 1, 43, []),
  (43, .iconst 1, 1, 44, []), (44, .iload_n 1, 1, 45, []), (45, .ishl, 1, 46, []), (46, .iconst 1, 1, 47, []), (47, .isub, 1, 48, []), (48, .invokestatic 193, 3, 51, []),
  (51, .ireturn, 1, 52, [])]
def pg_X4_trades (T1 T2 T3 T4 : Tr) : PG := (tb_X4_trades, fl_X4, cs_X4, ks_X4, [(100087, 1, T1), (121, 2, T2), (100190, 3, T3), (193, 3, T4)], false, oh_kc)
def tb_X4_frees : List IR := [
  (0, .iload_n 1, 1, 1, []), (1, .aload_n 0, 1, 2, []), (2, .getfield 14, 3, 5, []), (5, .invokevirtual 87, 3, 8, []), (8, .invokestatic 66, 3, 11, []), (11, .ifCond .eq 11, 3, 14, [(0, 22)]),
  (14, .aload_n 0, 1, 15, []), (15, .iload_n 1, 1, 16, []), (16, .invokevirtual 197, 3, 19, []), (19, .goto 6, 3, 22, [(0, 25)]), (22, .sipush (-1002), 3, 25, []), (25, .ireturn, 1, 26, [])]
def pg_X4_frees (T1 T2 T3 : Tr) : PG := (tb_X4_frees, fl_X4, cs_X4, ks_X4, [(100087, 1, T1), (66, 2, T2), (100197, 2, T3)], false, oh_kc)
def tb_X4_word : List IR := [
  (0, .aload_n 0, 1, 1, []), (1, .getfield 14, 3, 4, []), (4, .invokevirtual 87, 3, 7, []), (7, .istore_n 1, 1, 8, []), (8, .iconst (-1), 1, 9, []), (9, .istore_n 2, 1, 10, []),
  (10, .iconst 0, 1, 11, []), (11, .istore_n 3, 1, 12, []), (12, .iconst 0, 1, 13, []), (13, .istore 4, 2, 15, []), (15, .iload 4, 2, 17, []), (17, .iload_n 1, 1, 18, []),
  (18, .if_icmp .ge 34, 3, 21, [(0, 52)]), (21, .aload_n 0, 1, 22, []), (22, .iload 4, 2, 24, []), (24, .invokevirtual 197, 3, 27, []), (27, .istore 5, 2, 29, []), (29, .iload_n 2, 1, 30, []),
  (30, .iconst (-1), 1, 31, []), (31, .if_icmp .eq 9, 3, 34, [(0, 40)]), (34, .iload 5, 2, 36, []), (36, .iload_n 3, 1, 37, []), (37, .if_icmp .le 9, 3, 40, [(0, 46)]), (40, .iload 4, 2, 42, []),
  (42, .istore_n 2, 1, 43, []), (43, .iload 5, 2, 45, []), (45, .istore_n 3, 1, 46, []), (46, .iinc 4 1, 3, 49, []), (49, .goto (-34), 3, 52, [(0, 15)]), (52, .iload_n 2, 1, 53, []),
  (53, .ireturn, 1, 54, [])]
def pg_X4_word (T1 T2 : Tr) : PG := (tb_X4_word, fl_X4, cs_X4, ks_X4, [(100087, 1, T1), (100197, 2, T2)], false, oh_kc)
def tb_X4_heir : List IR := [
  (0, .iload_n 1, 1, 1, []), (1, .iload_n 2, 1, 2, []), (2, .invokestatic 161, 3, 5, []), (5, .ifCond .ne 6, 3, 8, [(0, 11)]), (8, .bipush (-2), 2, 10, []), (10, .ireturn, 1, 11, []),
  (11, .aload_n 0, 1, 12, []), (12, .getfield 28, 3, 15, []), (15, .aload_n 0, 1, 16, []), (16, .getfield 24, 3, 19, []), (19, .invokevirtual 200, 3, 22, []), (22, .aload_n 0, 1, 23, []),
  (23, .getfield 28, 3, 26, []), (26, .iload_n 1, 1, 27, []), (27, .iload_n 2, 1, 28, []), (28, .invokevirtual 204, 3, 31, []), (31, .iconst 0, 1, 32, []), (32, .istore_n 3, 1, 33, []),
  (33, .iconst 0, 1, 34, []), (34, .istore 4, 2, 36, []), (36, .iload 4, 2, 38, []), (38, .bipush 6, 2, 40, []), (40, .if_icmp .ge 47, 3, 43, [(0, 87)]), (43, .iconst 0, 1, 44, []),
  (44, .istore 5, 2, 46, []), (46, .iload 5, 2, 48, []), (48, .bipush 24, 2, 50, []), (50, .if_icmp .ge 31, 3, 53, [(0, 81)]), (53, .aload_n 0, 1, 54, []), (54, .getfield 28, 3, 57, []),
  (57, .aload_n 0, 1, 58, []), (58, .getfield 97, 3, 61, []), (61, .iload 4, 2, 63, []), (63, .iload 5, 2, 65, []), (65, .invokevirtual 208, 3, 68, []), (68, .iload_n 2, 1, 69, []),
  (69, .if_icmp .ne 6, 3, 72, [(0, 75)]), (72, .iinc 3 1, 3, 75, []), (75, .iinc 5 1, 3, 78, []), (78, .goto (-32), 3, 81, [(0, 46)]), (81, .iinc 4 1, 3, 84, []), (84, .goto (-48), 3, 87, [(0, 36)]),
  (87, .iload_n 3, 1, 88, []), (88, .ireturn, 1, 89, [])]
def pg_X4_heir (T1 T2 T3 T4 : Tr) : PG := (tb_X4_heir, fl_X4, cs_X4, ks_X4, [(161, 2, T1), (100200, 2, T2), (100204, 3, T3), (100208, 4, T4)], false, oh_kc)
def tb_X4_seen : List IR := [
  (0, .iload_n 1, 1, 1, []), (1, .iload_n 2, 1, 2, []), (2, .invokestatic 103, 3, 5, []), (5, .ifCond .eq 11, 3, 8, [(0, 16)]), (8, .iload_n 3, 1, 9, []), (9, .iconst 5, 1, 10, []),
  (10, .invokestatic 66, 3, 13, []), (13, .ifCond .ne 6, 3, 16, [(0, 19)]), (16, .bipush (-2), 2, 18, []), (18, .ireturn, 1, 19, []), (19, .aload_n 0, 1, 20, []), (20, .getfield 212, 3, 23, []),
  (23, .bipush 8, 2, 25, []), (25, .if_icmp .lt 6, 3, 28, [(0, 31)]), (28, .bipush (-4), 2, 30, []), (30, .ireturn, 1, 31, []), (31, .aload_n 0, 1, 32, []), (32, .getfield 53, 3, 35, []),
  (35, .aload_n 0, 1, 36, []), (36, .getfield 212, 3, 39, []), (39, .iload_n 1, 1, 40, []), (40, .iload_n 2, 1, 41, []), (41, .invokestatic 106, 3, 44, []), (44, .iastore, 1, 45, []),
  (45, .aload_n 0, 1, 46, []), (46, .getfield 56, 3, 49, []), (49, .aload_n 0, 1, 50, []), (50, .getfield 212, 3, 53, []), (53, .iload_n 3, 1, 54, []), (54, .iastore, 1, 55, []),
  (55, .aload_n 0, 1, 56, []), (56, .dup, 1, 57, []), (57, .getfield 212, 3, 60, []), (60, .iconst 1, 1, 61, []), (61, .iadd, 1, 62, []), (62, .putfield 212, 3, 65, []),
  (65, .aload_n 0, 1, 66, []), (66, .getfield 212, 3, 69, []), (69, .ireturn, 1, 70, [])]
def pg_X4_seen (T1 T2 T3 : Tr) : PG := (tb_X4_seen, fl_X4, cs_X4, ks_X4, [(103, 2, T1), (66, 2, T2), (106, 2, T3)], false, oh_kc)
def tb_X4_forget : List IR := [
  (0, .aload_n 0, 1, 1, []), (1, .getfield 212, 3, 4, []), (4, .istore_n 1, 1, 5, []), (5, .aload_n 0, 1, 6, []), (6, .iconst 0, 1, 7, []), (7, .putfield 212, 3, 10, []),
  (10, .iload_n 1, 1, 11, []), (11, .ireturn, 1, 12, [])]
def pg_X4_forget : PG := (tb_X4_forget, fl_X4, cs_X4, ks_X4, [], false, oh_kc)
def tb_X4_suspects : List IR := [
  (0, .aload_n 0, 1, 1, []), (1, .aload_n 0, 1, 2, []), (2, .getfield 97, 3, 5, []), (5, .invokevirtual 132, 3, 8, []), (8, .astore_n 1, 1, 9, []), (9, .bipush 63, 2, 11, []),
  (11, .istore_n 2, 1, 12, []), (12, .iconst 0, 1, 13, []), (13, .istore_n 3, 1, 14, []), (14, .iload_n 3, 1, 15, []), (15, .aload_n 0, 1, 16, []), (16, .getfield 212, 3, 19, []),
  (19, .if_icmp .ge 39, 3, 22, [(0, 58)]), (22, .aload_n 1, 1, 23, []), (23, .getfield 136, 3, 26, []), (26, .aload_n 0, 1, 27, []), (27, .getfield 53, 3, 30, []), (30, .iload_n 3, 1, 31, []),
  (31, .iaload, 1, 32, []), (32, .iaload, 1, 33, []), (33, .istore 4, 2, 35, []), (35, .iload_n 2, 1, 36, []), (36, .iload 4, 2, 38, []), (38, .iconst (-1), 1, 39, []),
  (39, .if_icmp .ne 7, 3, 42, [(0, 46)]), (42, .iconst 0, 1, 43, []), (43, .goto 7, 3, 46, [(0, 50)]), (46, .iconst 1, 1, 47, []), (47, .iload 4, 2, 49, []), (49, .ishl, 1, 50, []),
  (50, .iand, 1, 51, []), (51, .istore_n 2, 1, 52, []), (52, .iinc 3 1, 3, 55, []), (55, .goto (-41), 3, 58, [(0, 14)]), (58, .iload_n 2, 1, 59, []), (59, .ireturn, 1, 60, [])]
def pg_X4_suspects (T1 : Tr) : PG := (tb_X4_suspects, fl_X4, cs_X4, ks_X4, [(100132, 2, T1)], false, oh_kc)
def tb_X4_likely : List IR := [
  (0, .iconst 0, 1, 1, []), (1, .istore_n 1, 1, 2, []), (2, .iconst 0, 1, 3, []), (3, .istore_n 2, 1, 4, []), (4, .iload_n 2, 1, 5, []), (5, .iconst 3, 1, 6, []),
  (6, .if_icmp .ge 27, 3, 9, [(0, 33)]), (9, .aload_n 0, 1, 10, []), (10, .aload_n 0, 1, 11, []), (11, .iload_n 2, 1, 12, []), (12, .invokevirtual 132, 3, 15, []), (15, .invokevirtual 215, 3, 18, []),
  (18, .ifCond .eq 9, 3, 21, [(0, 27)]), (21, .iload_n 1, 1, 22, []), (22, .iconst 1, 1, 23, []), (23, .iload_n 2, 1, 24, []), (24, .ishl, 1, 25, []), (25, .ior, 1, 26, []),
  (26, .istore_n 1, 1, 27, []), (27, .iinc 2 1, 3, 30, []), (30, .goto (-26), 3, 33, [(0, 4)]), (33, .iload_n 1, 1, 34, []), (34, .ireturn, 1, 35, [])]
def pg_X4_likely (T1 T2 : Tr) : PG := (tb_X4_likely, fl_X4, cs_X4, ks_X4, [(100132, 2, T1), (100215, 2, T2)], false, oh_kc)
def tb_X4_sheet : List IR := [
  (0, .iload_n 1, 1, 1, []), (1, .iconst 4, 1, 2, []), (2, .invokestatic 66, 3, 5, []), (5, .ifCond .eq 17, 3, 8, [(0, 22)]), (8, .iload_n 2, 1, 9, []), (9, .iconst 3, 1, 10, []),
  (10, .invokestatic 66, 3, 13, []), (13, .ifCond .eq 9, 3, 16, [(0, 22)]), (16, .iload_n 3, 1, 17, []), (17, .bipush 60, 2, 19, []), (19, .if_icmp .le 6, 3, 22, [(0, 25)]), (22, .bipush (-2), 2, 24, []),
  (24, .ireturn, 1, 25, []), (25, .iload_n 3, 1, 26, []), (26, .ifCond .ge 9, 3, 29, [(0, 35)]), (29, .aload_n 0, 1, 30, []), (30, .iconst 5, 1, 31, []), (31, .invokevirtual 114, 3, 34, []),
  (34, .ireturn, 1, 35, []), (35, .aload_n 0, 1, 36, []), (36, .getfield 61, 3, 39, []), (39, .iload_n 1, 1, 40, []), (40, .aaload, 1, 41, []), (41, .iload_n 2, 1, 42, []),
  (42, .iload_n 3, 1, 43, []), (43, .invokevirtual 219, 3, 46, []), (46, .iload_n 3, 1, 47, []), (47, .ireturn, 1, 48, [])]
def pg_X4_sheet (T1 T2 T3 : Tr) : PG := (tb_X4_sheet, fl_X4, cs_X4, ks_X4, [(66, 2, T1), (100114, 2, T2), (100219, 3, T3)], false, oh_kc)
def tb_X4_lose : List IR := [
  (0, .iload_n 1, 1, 1, []), (1, .iconst 4, 1, 2, []), (2, .invokestatic 66, 3, 5, []), (5, .ifCond .ne 6, 3, 8, [(0, 11)]), (8, .bipush (-2), 2, 10, []), (10, .ireturn, 1, 11, []),
  (11, .aload_n 0, 1, 12, []), (12, .getfield 61, 3, 15, []), (15, .iload_n 1, 1, 16, []), (16, .aaload, 1, 17, []), (17, .invokevirtual 110, 3, 20, []), (20, .ifCond .eq 9, 3, 23, [(0, 29)]),
  (23, .aload_n 0, 1, 24, []), (24, .iconst 1, 1, 25, []), (25, .invokevirtual 114, 3, 28, []), (28, .ireturn, 1, 29, []), (29, .aload_n 0, 1, 30, []), (30, .getfield 61, 3, 33, []),
  (33, .iload_n 1, 1, 34, []), (34, .aaload, 1, 35, []), (35, .getfield 118, 3, 38, []), (38, .istore_n 2, 1, 39, []), (39, .aload_n 0, 1, 40, []), (40, .getfield 61, 3, 43, []),
  (43, .iload_n 1, 1, 44, []), (44, .aaload, 1, 45, []), (45, .iconst (-1), 1, 46, []), (46, .putfield 118, 3, 49, []), (49, .iload_n 2, 1, 50, []), (50, .ireturn, 1, 51, [])]
def pg_X4_lose (T1 T2 T3 : Tr) : PG := (tb_X4_lose, fl_X4, cs_X4, ks_X4, [(66, 2, T1), (100110, 1, T2), (100114, 2, T3)], false, oh_kc)
def tb_X4_lay : List IR := [
  (0, .iload_n 1, 1, 1, []), (1, .iconst 4, 1, 2, []), (2, .invokestatic 66, 3, 5, []), (5, .ifCond .eq 11, 3, 8, [(0, 16)]), (8, .iload_n 2, 1, 9, []), (9, .iconst 3, 1, 10, []),
  (10, .invokestatic 66, 3, 13, []), (13, .ifCond .ne 6, 3, 16, [(0, 19)]), (16, .bipush (-2), 2, 18, []), (18, .ireturn, 1, 19, []), (19, .aload_n 0, 1, 20, []), (20, .getfield 61, 3, 23, []),
  (23, .iload_n 1, 1, 24, []), (24, .aaload, 1, 25, []), (25, .iload_n 2, 1, 26, []), (26, .iload_n 3, 1, 27, []), (27, .invokevirtual 222, 3, 30, []), (30, .istore 5, 2, 32, []),
  (32, .iload 5, 2, 34, []), (34, .ifCond .eq 10, 3, 37, [(0, 44)]), (37, .aload_n 0, 1, 38, []), (38, .iload 5, 2, 40, []), (40, .invokevirtual 114, 3, 43, []), (43, .ireturn, 1, 44, []),
  (44, .aload_n 0, 1, 45, []), (45, .getfield 61, 3, 48, []), (48, .iload_n 1, 1, 49, []), (49, .aaload, 1, 50, []), (50, .iload_n 3, 1, 51, []), (51, .iload 4, 2, 53, []),
  (53, .invokevirtual 225, 3, 56, []), (56, .iconst 1, 1, 57, []), (57, .ireturn, 1, 58, [])]
def pg_X4_lay (T1 T2 T3 T4 : Tr) : PG := (tb_X4_lay, fl_X4, cs_X4, ks_X4, [(66, 2, T1), (100222, 3, T2), (100114, 2, T3), (100225, 3, T4)], false, oh_kc)
def tb_X4_get : List IR := [
  (0, .iload_n 1, 1, 1, []), (1, .iconst 4, 1, 2, []), (2, .invokestatic 66, 3, 5, []), (5, .ifCond .eq 11, 3, 8, [(0, 16)]), (8, .iload_n 2, 1, 9, []), (9, .iconst 3, 1, 10, []),
  (10, .invokestatic 66, 3, 13, []), (13, .ifCond .ne 6, 3, 16, [(0, 19)]), (16, .ldc 228, 2, 18, []), (18, .ireturn, 1, 19, []), (19, .aload_n 0, 1, 20, []), (20, .getfield 61, 3, 23, []),
  (23, .iload_n 1, 1, 24, []), (24, .aaload, 1, 25, []), (25, .iload_n 2, 1, 26, []), (26, .iload_n 3, 1, 27, []), (27, .invokevirtual 222, 3, 30, []), (30, .istore 4, 2, 32, []),
  (32, .iload 4, 2, 34, []), (34, .ifCond .eq 12, 3, 37, [(0, 46)]), (37, .aload_n 0, 1, 38, []), (38, .iload 4, 2, 40, []), (40, .putfield 229, 3, 43, []), (43, .ldc 228, 2, 45, []),
  (45, .ireturn, 1, 46, []), (46, .aload_n 0, 1, 47, []), (47, .getfield 61, 3, 50, []), (50, .iload_n 1, 1, 51, []), (51, .aaload, 1, 52, []), (52, .getfield 126, 3, 55, []),
  (55, .iload_n 3, 1, 56, []), (56, .iaload, 1, 57, []), (57, .ireturn, 1, 58, [])]
def pg_X4_get (T1 T2 : Tr) : PG := (tb_X4_get, fl_X4, cs_X4, ks_X4, [(66, 2, T1), (100222, 3, T2)], false, oh_kc)
def tb_X4_copy : List IR := [
  (0, .iload_n 1, 1, 1, []), (1, .iconst 4, 1, 2, []), (2, .invokestatic 66, 3, 5, []), (5, .ifCond .eq 11, 3, 8, [(0, 16)]), (8, .iload_n 3, 1, 9, []), (9, .iconst 4, 1, 10, []),
  (10, .invokestatic 66, 3, 13, []), (13, .ifCond .ne 6, 3, 16, [(0, 19)]), (16, .bipush (-2), 2, 18, []), (18, .ireturn, 1, 19, []), (19, .aload_n 0, 1, 20, []), (20, .getfield 61, 3, 23, []),
  (23, .iload_n 1, 1, 24, []), (24, .aaload, 1, 25, []), (25, .astore 6, 2, 27, []), (27, .aload_n 0, 1, 28, []), (28, .getfield 61, 3, 31, []), (31, .iload_n 3, 1, 32, []),
  (32, .aaload, 1, 33, []), (33, .astore 7, 2, 35, []), (35, .aload 6, 2, 37, []), (37, .invokevirtual 110, 3, 40, []), (40, .ifCond .ne 11, 3, 43, [(0, 51)]), (43, .aload 7, 2, 45, []),
  (45, .invokevirtual 110, 3, 48, []), (48, .ifCond .eq 9, 3, 51, [(0, 57)]), (51, .aload_n 0, 1, 52, []), (52, .iconst 1, 1, 53, []), (53, .invokevirtual 114, 3, 56, []), (56, .ireturn, 1, 57, []),
  (57, .aload 6, 2, 59, []), (59, .getfield 232, 3, 62, []), (62, .aload 7, 2, 64, []), (64, .getfield 232, 3, 67, []), (67, .if_icmp .eq 9, 3, 70, [(0, 76)]), (70, .aload_n 0, 1, 71, []),
  (71, .iconst 4, 1, 72, []), (72, .invokevirtual 114, 3, 75, []), (75, .ireturn, 1, 76, []), (76, .aload 6, 2, 78, []), (78, .iload_n 2, 1, 79, []), (79, .iload 5, 2, 81, []),
  (81, .invokevirtual 235, 3, 84, []), (84, .ifCond .eq 15, 3, 87, [(0, 99)]), (87, .aload 7, 2, 89, []), (89, .iload 4, 2, 91, []), (91, .iload 5, 2, 93, []), (93, .invokevirtual 235, 3, 96, []),
  (96, .ifCond .ne 9, 3, 99, [(0, 105)]), (99, .aload_n 0, 1, 100, []), (100, .iconst 2, 1, 101, []), (101, .invokevirtual 114, 3, 104, []), (104, .ireturn, 1, 105, []), (105, .aload 6, 2, 107, []),
  (107, .getfield 126, 3, 110, []), (110, .iload_n 2, 1, 111, []), (111, .aload 7, 2, 113, []), (113, .getfield 126, 3, 116, []), (116, .iload 4, 2, 118, []), (118, .iload 5, 2, 120, []),
  (120, .invokestatic 238, 3, 123, []), (123, .iconst 1, 1, 124, []), (124, .ireturn, 1, 125, [])]
def pg_X4_copy (T1 T2 T3 T4 T5 : Tr) : PG := (tb_X4_copy, fl_X4, cs_X4, ks_X4, [(66, 2, T1), (100110, 1, T2), (100114, 2, T3), (100235, 3, T4), (238, 5, T5)], false, oh_kc)
def tb_X4_write : List IR := [
  (0, .iload_n 1, 1, 1, []), (1, .bipush 6, 2, 3, []), (3, .invokestatic 66, 3, 6, []), (6, .ifCond .eq 11, 3, 9, [(0, 17)]), (9, .iload_n 2, 1, 10, []), (10, .iconst 4, 1, 11, []),
  (11, .invokestatic 66, 3, 14, []), (14, .ifCond .ne 6, 3, 17, [(0, 20)]), (17, .bipush (-2), 2, 19, []), (19, .ireturn, 1, 20, []), (20, .aload_n 0, 1, 21, []), (21, .getfield 61, 3, 24, []),
  (24, .iload_n 2, 1, 25, []), (25, .aaload, 1, 26, []), (26, .astore_n 3, 1, 27, []), (27, .aload_n 3, 1, 28, []), (28, .invokevirtual 110, 3, 31, []), (31, .ifCond .eq 9, 3, 34, [(0, 40)]),
  (34, .aload_n 0, 1, 35, []), (35, .iconst 1, 1, 36, []), (36, .invokevirtual 114, 3, 39, []), (39, .ireturn, 1, 40, []), (40, .aload_n 0, 1, 41, []), (41, .aload_n 0, 1, 42, []),
  (42, .getfield 97, 3, 45, []), (45, .invokevirtual 132, 3, 48, []), (48, .astore 4, 2, 50, []), (50, .aload_n 3, 1, 51, []), (51, .getfield 118, 3, 54, []), (54, .bipush 24, 2, 56, []),
  (56, .invokestatic 121, 3, 59, []), (59, .istore 5, 2, 61, []), (61, .iconst 0, 1, 62, []), (62, .istore 6, 2, 64, []), (64, .iload 6, 2, 66, []), (66, .iload 5, 2, 68, []),
  (68, .if_icmp .ge 27, 3, 71, [(0, 95)]), (71, .aload_n 3, 1, 72, []), (72, .iload 6, 2, 74, []), (74, .aload 4, 2, 76, []), (76, .getfield 136, 3, 79, []), (79, .iload_n 1, 1, 80, []),
  (80, .iload 6, 2, 82, []), (82, .invokestatic 106, 3, 85, []), (85, .iaload, 1, 86, []), (86, .invokevirtual 225, 3, 89, []), (89, .iinc 6 1, 3, 92, []), (92, .goto (-28), 3, 95, [(0, 64)]),
  (95, .iload 5, 2, 97, []), (97, .ireturn, 1, 98, [])]
def pg_X4_write (T1 T2 T3 T4 T5 T6 T7 : Tr) : PG := (tb_X4_write, fl_X4, cs_X4, ks_X4, [(66, 2, T1), (100110, 1, T2), (100114, 2, T3), (100132, 2, T4), (121, 2, T5), (106, 2, T6), (100225, 3, T7)], false, oh_kc)
def tb_X4_count : List IR := [
  (0, .iload_n 1, 1, 1, []), (1, .tableswitch 121 0 8 #[51, 59, 67, 75, 83, 98, 103, 108, 116], 51, 52, [(0, 122), (0, 52), (1, 60), (2, 68), (3, 76), (4, 84), (5, 99), (6, 104), (7, 109), (8, 117)]), (52, .aload_n 0, 1, 53, []), (53, .getfield 14, 3, 56, []), (56, .invokevirtual 87, 3, 59, []), (59, .ireturn, 1, 60, []),
  (60, .aload_n 0, 1, 61, []), (61, .getfield 18, 3, 64, []), (64, .invokevirtual 87, 3, 67, []), (67, .ireturn, 1, 68, []), (68, .aload_n 0, 1, 69, []), (69, .getfield 14, 3, 72, []),
  (72, .getfield 74, 3, 75, []), (75, .ireturn, 1, 76, []), (76, .aload_n 0, 1, 77, []), (77, .getfield 18, 3, 80, []), (80, .getfield 74, 3, 83, []), (83, .ireturn, 1, 84, []),
  (84, .aload_n 0, 1, 85, []), (85, .aload_n 0, 1, 86, []), (86, .getfield 97, 3, 89, []), (89, .invokevirtual 132, 3, 92, []), (92, .getfield 244, 3, 95, []), (95, .invokestatic 174, 3, 98, []),
  (98, .ireturn, 1, 99, []), (99, .aload_n 0, 1, 100, []), (100, .getfield 212, 3, 103, []), (103, .ireturn, 1, 104, []), (104, .aload_n 0, 1, 105, []), (105, .getfield 97, 3, 108, []),
  (108, .ireturn, 1, 109, []), (109, .aload_n 0, 1, 110, []), (110, .getfield 24, 3, 113, []), (113, .invokevirtual 247, 3, 116, []), (116, .ireturn, 1, 117, []), (117, .aload_n 0, 1, 118, []),
  (118, .getfield 229, 3, 121, []), (121, .ireturn, 1, 122, []), (122, .bipush (-2), 2, 124, []), (124, .ireturn, 1, 125, [])]
def pg_X4_count (T1 T2 T3 T4 : Tr) : PG := (tb_X4_count, fl_X4, cs_X4, ks_X4, [(100087, 1, T1), (100132, 2, T2), (174, 1, T3), (100247, 1, T4)], false, oh_kc)
def tb_X4_digest : List IR := [
  (0, .ldc2_w 250, 3, 3, []), (3, .lstore_n 1, 1, 4, []), (4, .iconst 0, 1, 5, []), (5, .istore_n 3, 1, 6, []), (6, .iload_n 3, 1, 7, []), (7, .bipush 8, 2, 9, []),
  (9, .if_icmp .ge 20, 3, 12, [(0, 29)]), (12, .lload_n 1, 1, 13, []), (13, .aload_n 0, 1, 14, []), (14, .iload_n 3, 1, 15, []), (15, .invokevirtual 252, 3, 18, []), (18, .i2l, 1, 19, []),
  (19, .invokestatic 255, 3, 22, []), (22, .lstore_n 1, 1, 23, []), (23, .iinc 3 1, 3, 26, []), (26, .goto (-20), 3, 29, [(0, 6)]), (29, .iconst 0, 1, 30, []), (30, .istore_n 3, 1, 31, []),
  (31, .iload_n 3, 1, 32, []), (32, .iconst 2, 1, 33, []), (33, .if_icmp .ge 20, 3, 36, [(0, 53)]), (36, .lload_n 1, 1, 37, []), (37, .aload_n 0, 1, 38, []), (38, .iload_n 3, 1, 39, []),
  (39, .invokevirtual 259, 3, 42, []), (42, .i2l, 1, 43, []), (43, .invokestatic 255, 3, 46, []), (46, .lstore_n 1, 1, 47, []), (47, .iinc 3 1, 3, 50, []), (50, .goto (-19), 3, 53, [(0, 31)]),
  (53, .lload_n 1, 1, 54, []), (54, .aload_n 0, 1, 55, []), (55, .invokevirtual 262, 3, 58, []), (58, .i2l, 1, 59, []), (59, .invokestatic 255, 3, 62, []), (62, .lstore_n 1, 1, 63, []),
  (63, .iconst 0, 1, 64, []), (64, .istore_n 3, 1, 65, []), (65, .iload_n 3, 1, 66, []), (66, .bipush 6, 2, 68, []), (68, .if_icmp .ge 16, 3, 71, [(0, 84)]), (71, .aload_n 0, 1, 72, []),
  (72, .lload_n 1, 1, 73, []), (73, .iload_n 3, 1, 74, []), (74, .invokevirtual 265, 3, 77, []), (77, .lstore_n 1, 1, 78, []), (78, .iinc 3 1, 3, 81, []), (81, .goto (-16), 3, 84, [(0, 65)]),
  (84, .iconst 0, 1, 85, []), (85, .istore_n 3, 1, 86, []), (86, .iload_n 3, 1, 87, []), (87, .iconst 3, 1, 88, []), (88, .if_icmp .ge 20, 3, 91, [(0, 108)]), (91, .lload_n 1, 1, 92, []),
  (92, .aload_n 0, 1, 93, []), (93, .iload_n 3, 1, 94, []), (94, .invokevirtual 145, 3, 97, []), (97, .i2l, 1, 98, []), (98, .invokestatic 255, 3, 101, []), (101, .lstore_n 1, 1, 102, []),
  (102, .iinc 3 1, 3, 105, []), (105, .goto (-19), 3, 108, [(0, 86)]), (108, .lload_n 1, 1, 109, []), (109, .aload_n 0, 1, 110, []), (110, .invokevirtual 269, 3, 113, []), (113, .i2l, 1, 114, []),
  (114, .invokestatic 255, 3, 117, []), (117, .lstore_n 1, 1, 118, []), (118, .lload_n 1, 1, 119, []), (119, .aload_n 0, 1, 120, []), (120, .iconst 0, 1, 121, []), (121, .iconst 1, 1, 122, []),
  (122, .invokevirtual 272, 3, 125, []), (125, .i2l, 1, 126, []), (126, .invokestatic 255, 3, 129, []), (129, .lstore_n 1, 1, 130, []), (130, .lload_n 1, 1, 131, []), (131, .aload_n 0, 1, 132, []),
  (132, .iconst 0, 1, 133, []), (133, .iconst 1, 1, 134, []), (134, .invokevirtual 275, 3, 137, []), (137, .i2l, 1, 138, []), (138, .invokestatic 255, 3, 141, []), (141, .lstore_n 1, 1, 142, []),
  (142, .lload_n 1, 1, 143, []), (143, .aload_n 0, 1, 144, []), (144, .invokevirtual 278, 3, 147, []), (147, .i2l, 1, 148, []), (148, .invokestatic 255, 3, 151, []), (151, .lstore_n 1, 1, 152, []),
  (152, .lload_n 1, 1, 153, []), (153, .aload_n 0, 1, 154, []), (154, .invokevirtual 281, 3, 157, []), (157, .i2l, 1, 158, []), (158, .invokestatic 255, 3, 161, []), (161, .lstore_n 1, 1, 162, []),
  (162, .aload_n 0, 1, 163, []), (163, .getfield 14, 3, 166, []), (166, .invokevirtual 87, 3, 169, []), (169, .istore_n 3, 1, 170, []), (170, .iconst 0, 1, 171, []), (171, .istore 4, 2, 173, []),
  (173, .iload 4, 2, 175, []), (175, .iload_n 3, 1, 176, []), (176, .if_icmp .ge 21, 3, 179, [(0, 197)]), (179, .lload_n 1, 1, 180, []), (180, .aload_n 0, 1, 181, []), (181, .iload 4, 2, 183, []),
  (183, .invokevirtual 284, 3, 186, []), (186, .i2l, 1, 187, []), (187, .invokestatic 255, 3, 190, []), (190, .lstore_n 1, 1, 191, []), (191, .iinc 4 1, 3, 194, []), (194, .goto (-21), 3, 197, [(0, 173)]),
  (197, .lload_n 1, 1, 198, []), (198, .aload_n 0, 1, 199, []), (199, .invokevirtual 287, 3, 202, []), (202, .i2l, 1, 203, []), (203, .invokestatic 255, 3, 206, []), (206, .lstore_n 1, 1, 207, []),
  (207, .lload_n 1, 1, 208, []), (208, .aload_n 0, 1, 209, []), (209, .invokevirtual 290, 3, 212, []), (212, .i2l, 1, 213, []), (213, .invokestatic 255, 3, 216, []), (216, .lreturn, 1, 217, [])]
def pg_X4_digest (T1 T2 T3 T4 T5 T6 T7 T8 T9 T10 T11 T12 T13 T14 T15 : Tr) : PG := (tb_X4_digest, fl_X4, cs_X4, ks_X4, [(100252, 2, T1), (255, 2, T2), (100259, 2, T3), (100262, 1, T4), (100265, 3, T5), (100145, 2, T6), (100269, 1, T7), (100272, 3, T8), (100275, 3, T9), (100278, 1, T10), (100281, 1, T11), (100087, 1, T12), (100284, 2, T13), (100287, 1, T14), (100290, 1, T15)], false, oh_kc)
def tb_X4_isBelow : List IR := [
  (0, .iload_n 0, 1, 1, []), (1, .ifCond .lt 12, 3, 4, [(0, 13)]), (4, .iload_n 0, 1, 5, []), (5, .iload_n 1, 1, 6, []), (6, .if_icmp .ge 7, 3, 9, [(0, 13)]), (9, .iconst 1, 1, 10, []),
  (10, .goto 4, 3, 13, [(0, 14)]), (13, .iconst 0, 1, 14, []), (14, .ireturn, 1, 15, [])]
def pg_X4_isBelow : PG := (tb_X4_isBelow, fl_X4, cs_X4, ks_X4, [], true, oh_kc)
def tb_X4_isCell : List IR := [
  (0, .iload_n 0, 1, 1, []), (1, .bipush 6, 2, 3, []), (3, .invokestatic 66, 3, 6, []), (6, .ifCond .eq 16, 3, 9, [(0, 22)]), (9, .iload_n 1, 1, 10, []), (10, .bipush 24, 2, 12, []),
  (12, .invokestatic 66, 3, 15, []), (15, .ifCond .eq 7, 3, 18, [(0, 22)]), (18, .iconst 1, 1, 19, []), (19, .goto 4, 3, 22, [(0, 23)]), (22, .iconst 0, 1, 23, []), (23, .ireturn, 1, 24, [])]
def pg_X4_isCell (T1 : Tr) : PG := (tb_X4_isCell, fl_X4, cs_X4, ks_X4, [(66, 2, T1)], true, oh_kc)
def tb_X4_areTwo : List IR := [
  (0, .iload_n 0, 1, 1, []), (1, .bipush 6, 2, 3, []), (3, .invokestatic 66, 3, 6, []), (6, .ifCond .eq 21, 3, 9, [(0, 27)]), (9, .iload_n 1, 1, 10, []), (10, .bipush 6, 2, 12, []),
  (12, .invokestatic 66, 3, 15, []), (15, .ifCond .eq 12, 3, 18, [(0, 27)]), (18, .iload_n 0, 1, 19, []), (19, .iload_n 1, 1, 20, []), (20, .if_icmp .eq 7, 3, 23, [(0, 27)]), (23, .iconst 1, 1, 24, []),
  (24, .goto 4, 3, 27, [(0, 28)]), (27, .iconst 0, 1, 28, []), (28, .ireturn, 1, 29, [])]
def pg_X4_areTwo (T1 : Tr) : PG := (tb_X4_areTwo, fl_X4, cs_X4, ks_X4, [(66, 2, T1)], true, oh_kc)
def tb_X4_isWork : List IR := [
  (0, .iload_n 0, 1, 1, []), (1, .iconst 1, 1, 2, []), (2, .if_icmp .lt 13, 3, 5, [(0, 15)]), (5, .iload_n 0, 1, 6, []), (6, .bipush 99, 2, 8, []), (8, .if_icmp .gt 7, 3, 11, [(0, 15)]),
  (11, .iconst 1, 1, 12, []), (12, .goto 4, 3, 15, [(0, 16)]), (15, .iconst 0, 1, 16, []), (16, .ireturn, 1, 17, [])]
def pg_X4_isWork : PG := (tb_X4_isWork, fl_X4, cs_X4, ks_X4, [], true, oh_kc)
def tb_X4_cell : List IR := [
  (0, .iload_n 0, 1, 1, []), (1, .bipush 24, 2, 3, []), (3, .imul, 1, 4, []), (4, .iload_n 1, 1, 5, []), (5, .iadd, 1, 6, []), (6, .ireturn, 1, 7, [])]
def pg_X4_cell : PG := (tb_X4_cell, fl_X4, cs_X4, ks_X4, [], false, oh_kc)
def tb_X4_mix : List IR := [
  (0, .ldc2_w 293, 3, 3, []), (3, .lload_n 0, 1, 4, []), (4, .lmul, 1, 5, []), (5, .lload_n 2, 1, 6, []), (6, .ladd, 1, 7, []), (7, .lreturn, 1, 8, [])]
def pg_X4_mix : PG := (tb_X4_mix, fl_X4, cs_X4, ks_X4, [], false, oh_kc)
def tb_X4_textOf : List IR := [
  (0, .iload_n 1, 1, 1, []), (1, .ifCond .ne 10, 3, 4, [(0, 11)]), (4, .aload_n 0, 1, 5, []), (5, .getfield 14, 3, 8, []), (8, .goto 7, 3, 11, [(0, 15)]), (11, .aload_n 0, 1, 12, []),
  (12, .getfield 18, 3, 15, []), (15, .areturn, 1, 16, [])]
def pg_X4_textOf : PG := (tb_X4_textOf, fl_X4, cs_X4, ks_X4, [], false, oh_kc)
def tb_X4_settleTexts : List IR := [
  (0, .aload_n 0, 1, 1, []), (1, .getfield 24, 3, 4, []), (4, .aload_n 0, 1, 5, []), (5, .getfield 14, 3, 8, []), (8, .invokevirtual 295, 3, 11, []), (11, .aload_n 0, 1, 12, []),
  (12, .invokevirtual 100, 3, 15, []), (15, .return_, 1, 16, [])]
def pg_X4_settleTexts (T1 T2 : Tr) : PG := (tb_X4_settleTexts, fl_X4, cs_X4, ks_X4, [(100295, 2, T1), (100100, 1, T2)], false, oh_kc)
def tb_X4_ageDays : List IR := [
  (0, .iconst 0, 1, 1, []), (1, .istore_n 1, 1, 2, []), (2, .iload_n 1, 1, 3, []), (3, .iconst 3, 1, 4, []), (4, .if_icmp .ge 19, 3, 7, [(0, 23)]), (7, .aload_n 0, 1, 8, []),
  (8, .getfield 33, 3, 11, []), (11, .iload_n 1, 1, 12, []), (12, .aaload, 1, 13, []), (13, .iconst 1, 1, 14, []), (14, .putfield 299, 3, 17, []), (17, .iinc 1 1, 3, 20, []),
  (20, .goto (-18), 3, 23, [(0, 2)]), (23, .return_, 1, 24, [])]
def pg_X4_ageDays : PG := (tb_X4_ageDays, fl_X4, cs_X4, ks_X4, [], false, oh_kc)
def tb_X4_dayBy : List IR := [
  (0, .aload_n 0, 1, 1, []), (1, .getfield 33, 3, 4, []), (4, .iload_n 1, 1, 5, []), (5, .aaload, 1, 6, []), (6, .astore_n 2, 1, 7, []), (7, .aload_n 2, 1, 8, []),
  (8, .getfield 299, 3, 11, []), (11, .ifCond .eq 19, 3, 14, [(0, 30)]), (14, .aload_n 2, 1, 15, []), (15, .aload_n 0, 1, 16, []), (16, .getfield 24, 3, 19, []), (19, .aload_n 0, 1, 20, []),
  (20, .getfield 18, 3, 23, []), (23, .aload_n 0, 1, 24, []), (24, .getfield 40, 3, 27, []), (27, .invokevirtual 303, 3, 30, []), (30, .aload_n 2, 1, 31, []), (31, .areturn, 1, 32, [])]
def pg_X4_dayBy (T1 : Tr) : PG := (tb_X4_dayBy, fl_X4, cs_X4, ks_X4, [(100303, 4, T1)], false, oh_kc)
def tb_X4_found : List IR := [
  (0, .aload_n 0, 1, 1, []), (1, .iload_n 1, 1, 2, []), (2, .putfield 229, 3, 5, []), (5, .bipush (-10), 2, 7, []), (7, .iload_n 1, 1, 8, []), (8, .isub, 1, 9, []),
  (9, .ireturn, 1, 10, [])]
def pg_X4_found : PG := (tb_X4_found, fl_X4, cs_X4, ks_X4, [], false, oh_kc)
def tb_X4_fewestBodies : List IR := [
  (0, .iconst 0, 1, 1, []), (1, .istore 4, 2, 3, []), (3, .iload 4, 2, 5, []), (5, .bipush 6, 2, 7, []), (7, .if_icmp .ge 23, 3, 10, [(0, 30)]), (10, .aload_n 0, 1, 11, []),
  (11, .getfield 47, 3, 14, []), (14, .iload 4, 2, 16, []), (16, .aload_n 1, 1, 17, []), (17, .iload 4, 2, 19, []), (19, .iload_n 2, 1, 20, []), (20, .invokevirtual 307, 3, 23, []),
  (23, .iastore, 1, 24, []), (24, .iinc 4 1, 3, 27, []), (27, .goto (-24), 3, 30, [(0, 3)]), (30, .iconst (-1), 1, 31, []), (31, .istore 4, 2, 33, []), (33, .iconst 1, 1, 34, []),
  (34, .istore 5, 2, 36, []), (36, .iload 5, 2, 38, []), (38, .bipush 63, 2, 40, []), (40, .if_icmp .gt 54, 3, 43, [(0, 94)]), (43, .iload 4, 2, 45, []), (45, .iconst (-1), 1, 46, []),
  (46, .if_icmp .eq 16, 3, 49, [(0, 62)]), (49, .iload 5, 2, 51, []), (51, .invokestatic 174, 3, 54, []), (54, .iload 4, 2, 56, []), (56, .invokestatic 174, 3, 59, []), (59, .if_icmp .ge 7, 3, 62, [(0, 66)]),
  (62, .iconst 1, 1, 63, []), (63, .goto 4, 3, 66, [(0, 67)]), (66, .iconst 0, 1, 67, []), (67, .istore 6, 2, 69, []), (69, .iload 6, 2, 71, []), (71, .ifCond .eq 17, 3, 74, [(0, 88)]),
  (74, .aload_n 0, 1, 75, []), (75, .iload 5, 2, 77, []), (77, .invokevirtual 310, 3, 80, []), (80, .iload_n 3, 1, 81, []), (81, .if_icmp .lt 7, 3, 84, [(0, 88)]), (84, .iload 5, 2, 86, []),
  (86, .istore 4, 2, 88, []), (88, .iinc 5 1, 3, 91, []), (91, .goto (-55), 3, 94, [(0, 36)]), (94, .iload 4, 2, 96, []), (96, .ireturn, 1, 97, [])]
def pg_X4_fewestBodies (T1 T2 T3 : Tr) : PG := (tb_X4_fewestBodies, fl_X4, cs_X4, ks_X4, [(100307, 3, T1), (174, 1, T2), (100310, 2, T3)], false, oh_kc)
def tb_X4_spanOf : List IR := [
  (0, .iconst 0, 1, 1, []), (1, .istore_n 2, 1, 2, []), (2, .iconst 0, 1, 3, []), (3, .istore_n 3, 1, 4, []), (4, .iload_n 3, 1, 5, []), (5, .bipush 6, 2, 7, []),
  (7, .if_icmp .ge 27, 3, 10, [(0, 34)]), (10, .iload_n 1, 1, 11, []), (11, .iload_n 3, 1, 12, []), (12, .ishr, 1, 13, []), (13, .iconst 1, 1, 14, []), (14, .iand, 1, 15, []),
  (15, .iconst 1, 1, 16, []), (16, .if_icmp .ne 12, 3, 19, [(0, 28)]), (19, .iload_n 2, 1, 20, []), (20, .aload_n 0, 1, 21, []), (21, .getfield 47, 3, 24, []), (24, .iload_n 3, 1, 25, []),
  (25, .iaload, 1, 26, []), (26, .iadd, 1, 27, []), (27, .istore_n 2, 1, 28, []), (28, .iinc 3 1, 3, 31, []), (31, .goto (-27), 3, 34, [(0, 4)]), (34, .iload_n 2, 1, 35, []),
  (35, .ireturn, 1, 36, [])]
def pg_X4_spanOf : PG := (tb_X4_spanOf, fl_X4, cs_X4, ks_X4, [], false, oh_kc)
def tb_X4_bothGain : List IR := [
  (0, .aload_n 0, 1, 1, []), (1, .getfield 44, 3, 4, []), (4, .iload_n 1, 1, 5, []), (5, .iload 4, 2, 7, []), (7, .invokestatic 106, 3, 10, []), (10, .iaload, 1, 11, []),
  (11, .aload_n 0, 1, 12, []), (12, .getfield 44, 3, 15, []), (15, .iload_n 1, 1, 16, []), (16, .iload_n 2, 1, 17, []), (17, .invokestatic 106, 3, 20, []), (20, .iaload, 1, 21, []),
  (21, .if_icmp .le 31, 3, 24, [(0, 52)]), (24, .aload_n 0, 1, 25, []), (25, .getfield 44, 3, 28, []), (28, .iload_n 3, 1, 29, []), (29, .iload_n 2, 1, 30, []), (30, .invokestatic 106, 3, 33, []),
  (33, .iaload, 1, 34, []), (34, .aload_n 0, 1, 35, []), (35, .getfield 44, 3, 38, []), (38, .iload_n 3, 1, 39, []), (39, .iload 4, 2, 41, []), (41, .invokestatic 106, 3, 44, []),
  (44, .iaload, 1, 45, []), (45, .if_icmp .le 7, 3, 48, [(0, 52)]), (48, .iconst 1, 1, 49, []), (49, .goto 4, 3, 52, [(0, 53)]), (52, .iconst 0, 1, 53, []), (53, .ireturn, 1, 54, [])]
def pg_X4_bothGain (T1 : Tr) : PG := (tb_X4_bothGain, fl_X4, cs_X4, ks_X4, [(106, 2, T1)], true, oh_kc)
def tb_X4_matesOf : List IR := [
  (0, .iconst 0, 1, 1, []), (1, .istore_n 3, 1, 2, []), (2, .iconst 0, 1, 3, []), (3, .istore 4, 2, 5, []), (5, .iload 4, 2, 7, []), (7, .iload_n 2, 1, 8, []),
  (8, .if_icmp .ge 57, 3, 11, [(0, 65)]), (11, .aload_n 0, 1, 12, []), (12, .aload_n 0, 1, 13, []), (13, .getfield 14, 3, 16, []), (16, .iload_n 1, 1, 17, []), (17, .invokevirtual 313, 3, 20, []),
  (20, .aload_n 0, 1, 21, []), (21, .getfield 14, 3, 24, []), (24, .iload_n 1, 1, 25, []), (25, .invokevirtual 316, 3, 28, []), (28, .aload_n 0, 1, 29, []), (29, .getfield 14, 3, 32, []),
  (32, .iload 4, 2, 34, []), (34, .invokevirtual 313, 3, 37, []), (37, .aload_n 0, 1, 38, []), (38, .getfield 14, 3, 41, []), (41, .iload 4, 2, 43, []), (43, .invokevirtual 316, 3, 46, []),
  (46, .invokevirtual 186, 3, 49, []), (49, .ifCond .eq 10, 3, 52, [(0, 59)]), (52, .iload_n 3, 1, 53, []), (53, .iconst 1, 1, 54, []), (54, .iload 4, 2, 56, []), (56, .ishl, 1, 57, []),
  (57, .ior, 1, 58, []), (58, .istore_n 3, 1, 59, []), (59, .iinc 4 1, 3, 62, []), (62, .goto (-57), 3, 65, [(0, 5)]), (65, .iload_n 3, 1, 66, []), (66, .ireturn, 1, 67, [])]
def pg_X4_matesOf (T1 T2 T3 : Tr) : PG := (tb_X4_matesOf, fl_X4, cs_X4, ks_X4, [(100313, 2, T1), (100316, 2, T2), (100186, 5, T3)], false, oh_kc)
def tb_X4_mostPairs : List IR := [
  (0, .iload_n 1, 1, 1, []), (1, .bipush 12, 2, 3, []), (3, .if_icmp .lt 5, 3, 6, [(0, 8)]), (6, .iconst 0, 1, 7, []), (7, .ireturn, 1, 8, []), (8, .iload_n 2, 1, 9, []),
  (9, .iconst 1, 1, 10, []), (10, .iload_n 1, 1, 11, []), (11, .ishl, 1, 12, []), (12, .iconst (-1), 1, 13, []), (13, .ixor, 1, 14, []), (14, .iand, 1, 15, []),
  (15, .istore_n 3, 1, 16, []), (16, .iload_n 2, 1, 17, []), (17, .iload_n 1, 1, 18, []), (18, .ishr, 1, 19, []), (19, .iconst 1, 1, 20, []), (20, .iand, 1, 21, []),
  (21, .iconst 1, 1, 22, []), (22, .if_icmp .ne 11, 3, 25, [(0, 33)]), (25, .aload_n 0, 1, 26, []), (26, .iload_n 1, 1, 27, []), (27, .iaload, 1, 28, []), (28, .iload_n 3, 1, 29, []),
  (29, .iand, 1, 30, []), (30, .goto 4, 3, 33, [(0, 34)]), (33, .iconst 0, 1, 34, []), (34, .istore 4, 2, 36, []), (36, .iload 4, 2, 38, []), (38, .ifCond .ne 12, 3, 41, [(0, 50)]),
  (41, .aload_n 0, 1, 42, []), (42, .iload_n 1, 1, 43, []), (43, .iconst 1, 1, 44, []), (44, .iadd, 1, 45, []), (45, .iload_n 3, 1, 46, []), (46, .invokestatic 193, 3, 49, []),
  (49, .ireturn, 1, 50, []), (50, .iload_n 2, 1, 51, []), (51, .invokestatic 174, 3, 54, []), (54, .iconst 1, 1, 55, []), (55, .ishr, 1, 56, []), (56, .istore 5, 2, 58, []),
  (58, .iconst 0, 1, 59, []), (59, .istore 6, 2, 61, []), (61, .iload_n 1, 1, 62, []), (62, .iconst 1, 1, 63, []), (63, .iadd, 1, 64, []), (64, .istore 7, 2, 66, []),
  (66, .iload 7, 2, 68, []), (68, .bipush 12, 2, 70, []), (70, .if_icmp .ge 51, 3, 73, [(0, 121)]), (73, .iload 6, 2, 75, []), (75, .iload 5, 2, 77, []), (77, .if_icmp .ge 44, 3, 80, [(0, 121)]),
  (80, .iload 4, 2, 82, []), (82, .iload 7, 2, 84, []), (84, .ishr, 1, 85, []), (85, .iconst 1, 1, 86, []), (86, .iand, 1, 87, []), (87, .iconst 1, 1, 88, []),
  (88, .if_icmp .ne 27, 3, 91, [(0, 115)]), (91, .iload 6, 2, 93, []), (93, .iconst 1, 1, 94, []), (94, .aload_n 0, 1, 95, []), (95, .iload_n 1, 1, 96, []), (96, .iconst 1, 1, 97, []),
  (97, .iadd, 1, 98, []), (98, .iload_n 3, 1, 99, []), (99, .iconst 1, 1, 100, []), (100, .iload 7, 2, 102, []), (102, .ishl, 1, 103, []), (103, .iconst (-1), 1, 104, []),
  (104, .ixor, 1, 105, []), (105, .iand, 1, 106, []), (106, .invokestatic 193, 3, 109, []), (109, .iadd, 1, 110, []), (110, .invokestatic 319, 3, 113, []), (113, .istore 6, 2, 115, []),
  (115, .iinc 7 1, 3, 118, []), (118, .goto (-52), 3, 121, [(0, 66)]), (121, .iload 6, 2, 123, []), (123, .ireturn, 1, 124, [])]
def pg_X4_mostPairs (T1 T2 T3 : Tr) : PG := (tb_X4_mostPairs, fl_X4, cs_X4, ks_X4, [(193, 3, T1), (174, 1, T2), (319, 2, T3)], false, oh_kc)
def tb_X4_freedBy : List IR := [
  (0, .aload_n 0, 1, 1, []), (1, .getfield 14, 3, 4, []), (4, .iload_n 1, 1, 5, []), (5, .invokevirtual 316, 3, 8, []), (8, .istore_n 2, 1, 9, []), (9, .aload_n 0, 1, 10, []),
  (10, .getfield 14, 3, 13, []), (13, .iload_n 1, 1, 14, []), (14, .invokevirtual 322, 3, 17, []), (17, .istore_n 3, 1, 18, []), (18, .aload_n 0, 1, 19, []), (19, .getfield 28, 3, 22, []),
  (22, .aload_n 0, 1, 23, []), (23, .getfield 24, 3, 26, []), (26, .invokevirtual 200, 3, 29, []), (29, .aload_n 0, 1, 30, []), (30, .getfield 28, 3, 33, []), (33, .iload_n 3, 1, 34, []),
  (34, .iload_n 2, 1, 35, []), (35, .iload_n 3, 1, 36, []), (36, .invokevirtual 325, 3, 39, []), (39, .aload_n 0, 1, 40, []), (40, .getfield 24, 3, 43, []), (43, .aload_n 0, 1, 44, []),
  (44, .getfield 97, 3, 47, []), (47, .iload_n 2, 1, 48, []), (48, .invokevirtual 142, 3, 51, []), (51, .aload_n 0, 1, 52, []), (52, .getfield 28, 3, 55, []), (55, .aload_n 0, 1, 56, []),
  (56, .getfield 97, 3, 59, []), (59, .iload_n 2, 1, 60, []), (60, .invokevirtual 142, 3, 63, []), (63, .isub, 1, 64, []), (64, .ireturn, 1, 65, [])]
def pg_X4_freedBy (T1 T2 T3 T4 T5 : Tr) : PG := (tb_X4_freedBy, fl_X4, cs_X4, ks_X4, [(100316, 2, T1), (100322, 2, T2), (100200, 2, T3), (100325, 4, T4), (100142, 3, T5)], false, oh_kc)
def tb_X4_explainsSeen : List IR := [
  (0, .iconst 0, 1, 1, []), (1, .istore_n 2, 1, 2, []), (2, .iload_n 2, 1, 3, []), (3, .aload_n 0, 1, 4, []), (4, .getfield 212, 3, 7, []), (7, .if_icmp .ge 31, 3, 10, [(0, 38)]),
  (10, .aload_n 1, 1, 11, []), (11, .getfield 152, 3, 14, []), (14, .aload_n 0, 1, 15, []), (15, .getfield 53, 3, 18, []), (18, .iload_n 2, 1, 19, []), (19, .iaload, 1, 20, []),
  (20, .iaload, 1, 21, []), (21, .aload_n 0, 1, 22, []), (22, .getfield 56, 3, 25, []), (25, .iload_n 2, 1, 26, []), (26, .iaload, 1, 27, []), (27, .if_icmp .eq 5, 3, 30, [(0, 32)]),
  (30, .iconst 0, 1, 31, []), (31, .ireturn, 1, 32, []), (32, .iinc 2 1, 3, 35, []), (35, .goto (-33), 3, 38, [(0, 2)]), (38, .iconst 1, 1, 39, []), (39, .ireturn, 1, 40, [])]
def pg_X4_explainsSeen : PG := (tb_X4_explainsSeen, fl_X4, cs_X4, ks_X4, [], true, oh_kc)
def tb_X4_mixPerson : List IR := [
  (0, .lload_n 1, 1, 1, []), (1, .aload_n 0, 1, 2, []), (2, .iload_n 3, 1, 3, []), (3, .invokevirtual 329, 3, 6, []), (6, .i2l, 1, 7, []), (7, .invokestatic 255, 3, 10, []),
  (10, .lstore 4, 2, 12, []), (12, .lload 4, 2, 14, []), (14, .aload_n 0, 1, 15, []), (15, .iload_n 3, 1, 16, []), (16, .invokevirtual 332, 3, 19, []), (19, .i2l, 1, 20, []),
  (20, .invokestatic 255, 3, 23, []), (23, .lstore 4, 2, 25, []), (25, .iconst 0, 1, 26, []), (26, .istore 6, 2, 28, []), (28, .iload 6, 2, 30, []), (30, .getstatic 335, 3, 33, []),
  (33, .arraylength, 1, 34, []), (34, .if_icmp .ge 94, 3, 37, [(0, 128)]), (37, .getstatic 335, 3, 40, []), (40, .iload 6, 2, 42, []), (42, .iaload, 1, 43, []), (43, .istore 7, 2, 45, []),
  (45, .lload 4, 2, 47, []), (47, .aload_n 0, 1, 48, []), (48, .iload_n 3, 1, 49, []), (49, .iload 7, 2, 51, []), (51, .invokevirtual 338, 3, 54, []), (54, .i2l, 1, 55, []),
  (55, .invokestatic 255, 3, 58, []), (58, .lstore 4, 2, 60, []), (60, .lload 4, 2, 62, []), (62, .aload_n 0, 1, 63, []), (63, .iload_n 3, 1, 64, []), (64, .iload 7, 2, 66, []),
  (66, .invokevirtual 341, 3, 69, []), (69, .i2l, 1, 70, []), (70, .invokestatic 255, 3, 73, []), (73, .lstore 4, 2, 75, []), (75, .lload 4, 2, 77, []), (77, .aload_n 0, 1, 78, []),
  (78, .iload_n 3, 1, 79, []), (79, .iload 7, 2, 81, []), (81, .invokevirtual 344, 3, 84, []), (84, .i2l, 1, 85, []), (85, .invokestatic 255, 3, 88, []), (88, .lstore 4, 2, 90, []),
  (90, .iconst 0, 1, 91, []), (91, .istore 8, 2, 93, []), (93, .iload 8, 2, 95, []), (95, .iconst 3, 1, 96, []), (96, .if_icmp .ge 26, 3, 99, [(0, 122)]), (99, .lload 4, 2, 101, []),
  (101, .aload_n 0, 1, 102, []), (102, .iload_n 3, 1, 103, []), (103, .iload 7, 2, 105, []), (105, .iload 8, 2, 107, []), (107, .invokevirtual 347, 3, 110, []), (110, .i2l, 1, 111, []),
  (111, .invokestatic 255, 3, 114, []), (114, .lstore 4, 2, 116, []), (116, .iinc 8 1, 3, 119, []), (119, .goto (-26), 3, 122, [(0, 93)]), (122, .iinc 6 1, 3, 125, []), (125, .goto (-97), 3, 128, [(0, 28)]),
  (128, .lload 4, 2, 130, []), (130, .aload_n 0, 1, 131, []), (131, .iload_n 3, 1, 132, []), (132, .bipush 9, 2, 134, []), (134, .invokevirtual 350, 3, 137, []), (137, .i2l, 1, 138, []),
  (138, .invokestatic 255, 3, 141, []), (141, .lstore 4, 2, 143, []), (143, .lload 4, 2, 145, []), (145, .aload_n 0, 1, 146, []), (146, .iload_n 3, 1, 147, []), (147, .bipush 9, 2, 149, []),
  (149, .iconst 0, 1, 150, []), (150, .invokevirtual 353, 3, 153, []), (153, .i2l, 1, 154, []), (154, .invokestatic 255, 3, 157, []), (157, .lstore 4, 2, 159, []), (159, .lload 4, 2, 161, []),
  (161, .aload_n 0, 1, 162, []), (162, .iload_n 3, 1, 163, []), (163, .bipush 9, 2, 165, []), (165, .iconst 1, 1, 166, []), (166, .invokevirtual 353, 3, 169, []), (169, .i2l, 1, 170, []),
  (170, .invokestatic 255, 3, 173, []), (173, .lstore 4, 2, 175, []), (175, .iconst 0, 1, 176, []), (176, .istore 6, 2, 178, []), (178, .iload 6, 2, 180, []), (180, .iconst 4, 1, 181, []),
  (181, .if_icmp .ge 24, 3, 184, [(0, 205)]), (184, .lload 4, 2, 186, []), (186, .aload_n 0, 1, 187, []), (187, .iload_n 3, 1, 188, []), (188, .iload 6, 2, 190, []), (190, .invokevirtual 356, 3, 193, []),
  (193, .i2l, 1, 194, []), (194, .invokestatic 255, 3, 197, []), (197, .lstore 4, 2, 199, []), (199, .iinc 6 1, 3, 202, []), (202, .goto (-24), 3, 205, [(0, 178)]), (205, .lload 4, 2, 207, []),
  (207, .aload_n 0, 1, 208, []), (208, .iload_n 3, 1, 209, []), (209, .iconst 0, 1, 210, []), (210, .invokevirtual 359, 3, 213, []), (213, .i2l, 1, 214, []), (214, .invokestatic 255, 3, 217, []),
  (217, .lreturn, 1, 218, [])]
def pg_X4_mixPerson (T1 T2 T3 T4 T5 T6 T7 T8 T9 T10 T11 : Tr) : PG := (tb_X4_mixPerson, fl_X4, cs_X4, ks_X4, [(100329, 2, T1), (255, 2, T2), (100332, 2, T3), (100338, 3, T4), (100341, 3, T5), (100344, 3, T6), (100347, 4, T7), (100350, 3, T8), (100353, 4, T9), (100356, 3, T10), (100359, 3, T11)], false, oh_kc)
def tb_X5_in : List IR := [
  (0, .lload_n 0, 1, 1, []), (1, .lload_n 2, 1, 2, []), (2, .lcmp, 1, 3, []), (3, .ifCond .lt 14, 3, 6, [(0, 17)]), (6, .lload_n 0, 1, 7, []), (7, .lload 4, 2, 9, []),
  (9, .lcmp, 1, 10, []), (10, .ifCond .gt 7, 3, 13, [(0, 17)]), (13, .iconst 1, 1, 14, []), (14, .goto 4, 3, 17, [(0, 18)]), (17, .iconst 0, 1, 18, []), (18, .ireturn, 1, 19, [])]
def pg_X5_in : PG := (tb_X5_in, fl_X5, cs_X5, ks_X5, [], true, oh_kc)
def tb_X5_isTwo : List IR := [
  (0, .iload_n 0, 1, 1, []), (1, .i2l, 1, 2, []), (2, .lconst 0, 1, 3, []), (3, .lconst 1, 1, 4, []), (4, .invokestatic 68, 3, 7, []), (7, .ireturn, 1, 8, [])]
def pg_X5_isTwo (T1 : Tr) : PG := (tb_X5_isTwo, fl_X5, cs_X5, ks_X5, [(68, 3, T1)], true, oh_kc)
def tb_X5_isIn : List IR := [
  (0, .iload_n 0, 1, 1, []), (1, .iload_n 1, 1, 2, []), (2, .ishr, 1, 3, []), (3, .iconst 1, 1, 4, []), (4, .iand, 1, 5, []), (5, .iconst 1, 1, 6, []),
  (6, .if_icmp .ne 7, 3, 9, [(0, 13)]), (9, .iconst 1, 1, 10, []), (10, .goto 4, 3, 13, [(0, 14)]), (13, .iconst 0, 1, 14, []), (14, .ireturn, 1, 15, [])]
def pg_X5_isIn : PG := (tb_X5_isIn, fl_X5, cs_X5, ks_X5, [], true, oh_kc)
def tb_X5_ones : List IR := [
  (0, .iconst 0, 1, 1, []), (1, .istore_n 1, 1, 2, []), (2, .iload_n 0, 1, 3, []), (3, .istore_n 2, 1, 4, []), (4, .iload_n 2, 1, 5, []), (5, .ifCond .eq 15, 3, 8, [(0, 20)]),
  (8, .iinc 1 1, 3, 11, []), (11, .iload_n 2, 1, 12, []), (12, .iload_n 2, 1, 13, []), (13, .iconst 1, 1, 14, []), (14, .isub, 1, 15, []), (15, .iand, 1, 16, []),
  (16, .istore_n 2, 1, 17, []), (17, .goto (-13), 3, 20, [(0, 4)]), (20, .iload_n 1, 1, 21, []), (21, .ireturn, 1, 22, [])]
def pg_X5_ones : PG := (tb_X5_ones, fl_X5, cs_X5, ks_X5, [], false, oh_kc)
def tb_X5_greater : List IR := [
  (0, .iload_n 0, 1, 1, []), (1, .iload_n 1, 1, 2, []), (2, .if_icmp .le 7, 3, 5, [(0, 9)]), (5, .iload_n 0, 1, 6, []), (6, .goto 4, 3, 9, [(0, 10)]), (9, .iload_n 1, 1, 10, []),
  (10, .ireturn, 1, 11, [])]
def pg_X5_greater : PG := (tb_X5_greater, fl_X5, cs_X5, ks_X5, [], false, oh_kc)
def tb_X5_lesser : List IR := [
  (0, .iload_n 0, 1, 1, []), (1, .iload_n 1, 1, 2, []), (2, .if_icmp .ge 7, 3, 5, [(0, 9)]), (5, .iload_n 0, 1, 6, []), (6, .goto 4, 3, 9, [(0, 10)]), (9, .iload_n 1, 1, 10, []),
  (10, .ireturn, 1, 11, [])]
def pg_X5_lesser : PG := (tb_X5_lesser, fl_X5, cs_X5, ks_X5, [], false, oh_kc)
def tb_X5_finds : List IR := [
  (0, .aload_n 0, 1, 1, []), (1, .iload_n 1, 1, 2, []), (2, .putfield 72, 3, 5, []), (5, .bipush (-10), 2, 7, []), (7, .iload_n 1, 1, 8, []), (8, .isub, 1, 9, []),
  (9, .ireturn, 1, 10, [])]
def pg_X5_finds : PG := (tb_X5_finds, fl_X5, cs_X5, ks_X5, [], false, oh_kc)
def tb_X5_isSheet : List IR := [
  (0, .iload_n 0, 1, 1, []), (1, .i2l, 1, 2, []), (2, .lconst 0, 1, 3, []), (3, .ldc2_w 76, 3, 6, []), (6, .invokestatic 68, 3, 9, []), (9, .ireturn, 1, 10, [])]
def pg_X5_isSheet (T1 : Tr) : PG := (tb_X5_isSheet, fl_X5, cs_X5, ks_X5, [(68, 3, T1)], true, oh_kc)
def tb_X5_sheet : List IR := [
  (0, .iload_n 1, 1, 1, []), (1, .invokestatic 78, 3, 4, []), (4, .ifCond .eq 21, 3, 7, [(0, 25)]), (7, .iload_n 2, 1, 8, []), (8, .i2l, 1, 9, []), (9, .lconst 0, 1, 10, []),
  (10, .ldc2_w 82, 3, 13, []), (13, .invokestatic 68, 3, 16, []), (16, .ifCond .eq 9, 3, 19, [(0, 25)]), (19, .iload_n 3, 1, 20, []), (20, .bipush 60, 2, 22, []), (22, .if_icmp .le 6, 3, 25, [(0, 28)]),
  (25, .bipush (-2), 2, 27, []), (27, .ireturn, 1, 28, []), (28, .iload_n 3, 1, 29, []), (29, .ifCond .ge 9, 3, 32, [(0, 38)]), (32, .aload_n 0, 1, 33, []), (33, .iconst 5, 1, 34, []),
  (34, .invokevirtual 84, 3, 37, []), (37, .ireturn, 1, 38, []), (38, .aload_n 0, 1, 39, []), (39, .getfield 7, 3, 42, []), (42, .iload_n 1, 1, 43, []), (43, .iload_n 2, 1, 44, []),
  (44, .iastore, 1, 45, []), (45, .aload_n 0, 1, 46, []), (46, .getfield 13, 3, 49, []), (49, .iload_n 1, 1, 50, []), (50, .iload_n 3, 1, 51, []), (51, .iastore, 1, 52, []),
  (52, .iconst 0, 1, 53, []), (53, .istore 4, 2, 55, []), (55, .iload 4, 2, 57, []), (57, .iload_n 3, 1, 58, []), (58, .if_icmp .ge 22, 3, 61, [(0, 80)]), (61, .aload_n 0, 1, 62, []),
  (62, .getfield 16, 3, 65, []), (65, .bipush 60, 2, 67, []), (67, .iload_n 1, 1, 68, []), (68, .imul, 1, 69, []), (69, .iload 4, 2, 71, []), (71, .iadd, 1, 72, []),
  (72, .iconst 0, 1, 73, []), (73, .iastore, 1, 74, []), (74, .iinc 4 1, 3, 77, []), (77, .goto (-22), 3, 80, [(0, 55)]), (80, .iload_n 3, 1, 81, []), (81, .ireturn, 1, 82, [])]
def pg_X5_sheet (T1 T2 T3 : Tr) : PG := (tb_X5_sheet, fl_X5, cs_X5, ks_X5, [(78, 1, T1), (68, 3, T2), (100084, 2, T3)], false, oh_kc)
def tb_X5_lose : List IR := [
  (0, .iload_n 1, 1, 1, []), (1, .invokestatic 78, 3, 4, []), (4, .ifCond .ne 6, 3, 7, [(0, 10)]), (7, .bipush (-2), 2, 9, []), (9, .ireturn, 1, 10, []), (10, .aload_n 0, 1, 11, []),
  (11, .getfield 7, 3, 14, []), (14, .iload_n 1, 1, 15, []), (15, .iaload, 1, 16, []), (16, .ifCond .ge 9, 3, 19, [(0, 25)]), (19, .aload_n 0, 1, 20, []), (20, .iconst 1, 1, 21, []),
  (21, .invokevirtual 84, 3, 24, []), (24, .ireturn, 1, 25, []), (25, .aload_n 0, 1, 26, []), (26, .getfield 7, 3, 29, []), (29, .iload_n 1, 1, 30, []), (30, .iconst (-1), 1, 31, []),
  (31, .iastore, 1, 32, []), (32, .aload_n 0, 1, 33, []), (33, .getfield 13, 3, 36, []), (36, .iload_n 1, 1, 37, []), (37, .iaload, 1, 38, []), (38, .ireturn, 1, 39, [])]
def pg_X5_lose (T1 T2 : Tr) : PG := (tb_X5_lose, fl_X5, cs_X5, ks_X5, [(78, 1, T1), (100084, 2, T2)], false, oh_kc)
def tb_X5_lacks : List IR := [
  (0, .aload_n 0, 1, 1, []), (1, .getfield 7, 3, 4, []), (4, .iload_n 1, 1, 5, []), (5, .iaload, 1, 6, []), (6, .ifCond .ge 9, 3, 9, [(0, 15)]), (9, .aload_n 0, 1, 10, []),
  (10, .iconst 1, 1, 11, []), (11, .invokevirtual 84, 3, 14, []), (14, .ireturn, 1, 15, []), (15, .aload_n 0, 1, 16, []), (16, .getfield 7, 3, 19, []), (19, .iload_n 1, 1, 20, []),
  (20, .iaload, 1, 21, []), (21, .iload_n 2, 1, 22, []), (22, .if_icmp .eq 9, 3, 25, [(0, 31)]), (25, .aload_n 0, 1, 26, []), (26, .iconst 3, 1, 27, []), (27, .invokevirtual 84, 3, 30, []),
  (30, .ireturn, 1, 31, []), (31, .iload_n 3, 1, 32, []), (32, .i2l, 1, 33, []), (33, .lconst 0, 1, 34, []), (34, .aload_n 0, 1, 35, []), (35, .getfield 13, 3, 38, []),
  (38, .iload_n 1, 1, 39, []), (39, .iaload, 1, 40, []), (40, .iconst 1, 1, 41, []), (41, .isub, 1, 42, []), (42, .i2l, 1, 43, []), (43, .invokestatic 68, 3, 46, []),
  (46, .ifCond .eq 7, 3, 49, [(0, 53)]), (49, .iconst 0, 1, 50, []), (50, .goto 8, 3, 53, [(0, 58)]), (53, .aload_n 0, 1, 54, []), (54, .iconst 2, 1, 55, []), (55, .invokevirtual 84, 3, 58, []),
  (58, .ireturn, 1, 59, [])]
def pg_X5_lacks (T1 T2 : Tr) : PG := (tb_X5_lacks, fl_X5, cs_X5, ks_X5, [(100084, 2, T1), (68, 3, T2)], false, oh_kc)
def tb_X5_cut : List IR := [
  (0, .iload_n 0, 1, 1, []), (1, .ifCond .ne 8, 3, 4, [(0, 9)]), (4, .iload_n 1, 1, 5, []), (5, .i2b, 1, 6, []), (6, .goto 14, 3, 9, [(0, 20)]), (9, .iload_n 0, 1, 10, []),
  (10, .iconst 1, 1, 11, []), (11, .if_icmp .ne 8, 3, 14, [(0, 19)]), (14, .iload_n 1, 1, 15, []), (15, .i2s, 1, 16, []), (16, .goto 4, 3, 19, [(0, 20)]), (19, .iload_n 1, 1, 20, []),
  (20, .ireturn, 1, 21, [])]
def pg_X5_cut : PG := (tb_X5_cut, fl_X5, cs_X5, ks_X5, [], false, oh_kc)
def tb_X5_lay : List IR := [
  (0, .iload_n 1, 1, 1, []), (1, .invokestatic 78, 3, 4, []), (4, .ifCond .eq 15, 3, 7, [(0, 19)]), (7, .iload_n 2, 1, 8, []), (8, .i2l, 1, 9, []), (9, .lconst 0, 1, 10, []),
  (10, .ldc2_w 82, 3, 13, []), (13, .invokestatic 68, 3, 16, []), (16, .ifCond .ne 6, 3, 19, [(0, 22)]), (19, .bipush (-2), 2, 21, []), (21, .ireturn, 1, 22, []), (22, .aload_n 0, 1, 23, []),
  (23, .iload_n 1, 1, 24, []), (24, .iload_n 2, 1, 25, []), (25, .iload_n 3, 1, 26, []), (26, .invokevirtual 88, 3, 29, []), (29, .istore 5, 2, 31, []), (31, .iload 5, 2, 33, []),
  (33, .ifCond .eq 6, 3, 36, [(0, 39)]), (36, .iload 5, 2, 38, []), (38, .ireturn, 1, 39, []), (39, .aload_n 0, 1, 40, []), (40, .getfield 16, 3, 43, []), (43, .bipush 60, 2, 45, []),
  (45, .iload_n 1, 1, 46, []), (46, .imul, 1, 47, []), (47, .iload_n 3, 1, 48, []), (48, .iadd, 1, 49, []), (49, .iload_n 2, 1, 50, []), (50, .iload 4, 2, 52, []),
  (52, .invokestatic 92, 3, 55, []), (55, .iastore, 1, 56, []), (56, .iconst 1, 1, 57, []), (57, .ireturn, 1, 58, [])]
def pg_X5_lay (T1 T2 T3 T4 : Tr) : PG := (tb_X5_lay, fl_X5, cs_X5, ks_X5, [(78, 1, T1), (68, 3, T2), (100088, 4, T3), (92, 2, T4)], false, oh_kc)
def tb_X5_get : List IR := [
  (0, .iload_n 1, 1, 1, []), (1, .invokestatic 78, 3, 4, []), (4, .ifCond .eq 25, 3, 7, [(0, 29)]), (7, .iload_n 2, 1, 8, []), (8, .i2l, 1, 9, []), (9, .lconst 0, 1, 10, []),
  (10, .ldc2_w 82, 3, 13, []), (13, .invokestatic 68, 3, 16, []), (16, .ifCond .eq 13, 3, 19, [(0, 29)]), (19, .aload_n 0, 1, 20, []), (20, .iload_n 1, 1, 21, []), (21, .iload_n 2, 1, 22, []),
  (22, .iload_n 3, 1, 23, []), (23, .invokevirtual 88, 3, 26, []), (26, .ifCond .eq 6, 3, 29, [(0, 32)]), (29, .ldc 96, 2, 31, []), (31, .ireturn, 1, 32, []), (32, .aload_n 0, 1, 33, []),
  (33, .getfield 16, 3, 36, []), (36, .bipush 60, 2, 38, []), (38, .iload_n 1, 1, 39, []), (39, .imul, 1, 40, []), (40, .iload_n 3, 1, 41, []), (41, .iadd, 1, 42, []),
  (42, .iaload, 1, 43, []), (43, .ireturn, 1, 44, [])]
def pg_X5_get (T1 T2 T3 : Tr) : PG := (tb_X5_get, fl_X5, cs_X5, ks_X5, [(78, 1, T1), (68, 3, T2), (100088, 4, T3)], false, oh_kc)
def tb_X5_copy : List IR := [
  (0, .iload_n 1, 1, 1, []), (1, .invokestatic 78, 3, 4, []), (4, .ifCond .eq 10, 3, 7, [(0, 14)]), (7, .iload_n 3, 1, 8, []), (8, .invokestatic 78, 3, 11, []), (11, .ifCond .ne 6, 3, 14, [(0, 17)]),
  (14, .bipush (-2), 2, 16, []), (16, .ireturn, 1, 17, []), (17, .aload_n 0, 1, 18, []), (18, .getfield 7, 3, 21, []), (21, .iload_n 1, 1, 22, []), (22, .iaload, 1, 23, []),
  (23, .ifCond .lt 12, 3, 26, [(0, 35)]), (26, .aload_n 0, 1, 27, []), (27, .getfield 7, 3, 30, []), (30, .iload_n 3, 1, 31, []), (31, .iaload, 1, 32, []), (32, .ifCond .ge 9, 3, 35, [(0, 41)]),
  (35, .aload_n 0, 1, 36, []), (36, .iconst 1, 1, 37, []), (37, .invokevirtual 84, 3, 40, []), (40, .ireturn, 1, 41, []), (41, .aload_n 0, 1, 42, []), (42, .getfield 7, 3, 45, []),
  (45, .iload_n 1, 1, 46, []), (46, .iaload, 1, 47, []), (47, .aload_n 0, 1, 48, []), (48, .getfield 7, 3, 51, []), (51, .iload_n 3, 1, 52, []), (52, .iaload, 1, 53, []),
  (53, .if_icmp .eq 9, 3, 56, [(0, 62)]), (56, .aload_n 0, 1, 57, []), (57, .iconst 4, 1, 58, []), (58, .invokevirtual 84, 3, 61, []), (61, .ireturn, 1, 62, []), (62, .iload_n 2, 1, 63, []),
  (63, .ifCond .lt 48, 3, 66, [(0, 111)]), (66, .iload 4, 2, 68, []), (68, .ifCond .lt 43, 3, 71, [(0, 111)]), (71, .iload 5, 2, 73, []), (73, .ifCond .lt 38, 3, 76, [(0, 111)]), (76, .iload_n 2, 1, 77, []),
  (77, .i2l, 1, 78, []), (78, .iload 5, 2, 80, []), (80, .i2l, 1, 81, []), (81, .ladd, 1, 82, []), (82, .aload_n 0, 1, 83, []), (83, .getfield 13, 3, 86, []),
  (86, .iload_n 1, 1, 87, []), (87, .iaload, 1, 88, []), (88, .i2l, 1, 89, []), (89, .lcmp, 1, 90, []), (90, .ifCond .gt 21, 3, 93, [(0, 111)]), (93, .iload 4, 2, 95, []),
  (95, .i2l, 1, 96, []), (96, .iload 5, 2, 98, []), (98, .i2l, 1, 99, []), (99, .ladd, 1, 100, []), (100, .aload_n 0, 1, 101, []), (101, .getfield 13, 3, 104, []),
  (104, .iload_n 3, 1, 105, []), (105, .iaload, 1, 106, []), (106, .i2l, 1, 107, []), (107, .lcmp, 1, 108, []), (108, .ifCond .le 9, 3, 111, [(0, 117)]), (111, .aload_n 0, 1, 112, []),
  (112, .iconst 2, 1, 113, []), (113, .invokevirtual 84, 3, 116, []), (116, .ireturn, 1, 117, []), (117, .iconst 0, 1, 118, []), (118, .istore 6, 2, 120, []), (120, .iload 6, 2, 122, []),
  (122, .iload 5, 2, 124, []), (124, .if_icmp .ge 30, 3, 127, [(0, 154)]), (127, .aload_n 0, 1, 128, []), (128, .getfield 19, 3, 131, []), (131, .iload 6, 2, 133, []), (133, .aload_n 0, 1, 134, []),
  (134, .getfield 16, 3, 137, []), (137, .bipush 60, 2, 139, []), (139, .iload_n 1, 1, 140, []), (140, .imul, 1, 141, []), (141, .iload_n 2, 1, 142, []), (142, .iadd, 1, 143, []),
  (143, .iload 6, 2, 145, []), (145, .iadd, 1, 146, []), (146, .iaload, 1, 147, []), (147, .iastore, 1, 148, []), (148, .iinc 6 1, 3, 151, []), (151, .goto (-31), 3, 154, [(0, 120)]),
  (154, .iconst 0, 1, 155, []), (155, .istore 6, 2, 157, []), (157, .iload 6, 2, 159, []), (159, .iload 5, 2, 161, []), (161, .if_icmp .ge 31, 3, 164, [(0, 192)]), (164, .aload_n 0, 1, 165, []),
  (165, .getfield 16, 3, 168, []), (168, .bipush 60, 2, 170, []), (170, .iload_n 3, 1, 171, []), (171, .imul, 1, 172, []), (172, .iload 4, 2, 174, []), (174, .iadd, 1, 175, []),
  (175, .iload 6, 2, 177, []), (177, .iadd, 1, 178, []), (178, .aload_n 0, 1, 179, []), (179, .getfield 19, 3, 182, []), (182, .iload 6, 2, 184, []), (184, .iaload, 1, 185, []),
  (185, .iastore, 1, 186, []), (186, .iinc 6 1, 3, 189, []), (189, .goto (-32), 3, 192, [(0, 157)]), (192, .iconst 1, 1, 193, []), (193, .ireturn, 1, 194, [])]
def pg_X5_copy (T1 T2 : Tr) : PG := (tb_X5_copy, fl_X5, cs_X5, ks_X5, [(78, 1, T1), (100084, 2, T2)], false, oh_kc)
def tb_X5_type : List IR := [
  (0, .iload_n 1, 1, 1, []), (1, .invokestatic 97, 3, 4, []), (4, .ifCond .eq 15, 3, 7, [(0, 19)]), (7, .iload_n 2, 1, 8, []), (8, .i2l, 1, 9, []), (9, .lconst 0, 1, 10, []),
  (10, .ldc2_w 100, 3, 13, []), (13, .invokestatic 68, 3, 16, []), (16, .ifCond .ne 6, 3, 19, [(0, 22)]), (19, .bipush (-2), 2, 21, []), (21, .ireturn, 1, 22, []), (22, .aload_n 0, 1, 23, []),
  (23, .getfield 25, 3, 26, []), (26, .iload_n 1, 1, 27, []), (27, .iaload, 1, 28, []), (28, .bipush 99, 2, 30, []), (30, .if_icmp .ne 6, 3, 33, [(0, 36)]), (33, .bipush (-4), 2, 35, []),
  (35, .ireturn, 1, 36, []), (36, .aload_n 0, 1, 37, []), (37, .getfield 22, 3, 40, []), (40, .bipush 99, 2, 42, []), (42, .iload_n 1, 1, 43, []), (43, .imul, 1, 44, []),
  (44, .aload_n 0, 1, 45, []), (45, .getfield 25, 3, 48, []), (48, .iload_n 1, 1, 49, []), (49, .iaload, 1, 50, []), (50, .iadd, 1, 51, []), (51, .iload_n 2, 1, 52, []),
  (52, .iastore, 1, 53, []), (53, .aload_n 0, 1, 54, []), (54, .getfield 25, 3, 57, []), (57, .iload_n 1, 1, 58, []), (58, .dup2, 1, 59, []), (59, .iaload, 1, 60, []),
  (60, .iconst 1, 1, 61, []), (61, .iadd, 1, 62, []), (62, .iastore, 1, 63, []), (63, .aload_n 0, 1, 64, []), (64, .getfield 25, 3, 67, []), (67, .iload_n 1, 1, 68, []),
  (68, .iaload, 1, 69, []), (69, .ireturn, 1, 70, [])]
def pg_X5_type (T1 T2 : Tr) : PG := (tb_X5_type, fl_X5, cs_X5, ks_X5, [(97, 1, T1), (68, 3, T2)], false, oh_kc)
def tb_X5_wipe : List IR := [
  (0, .iload_n 1, 1, 1, []), (1, .invokestatic 97, 3, 4, []), (4, .ifCond .ne 6, 3, 7, [(0, 10)]), (7, .bipush (-2), 2, 9, []), (9, .ireturn, 1, 10, []), (10, .aload_n 0, 1, 11, []),
  (11, .getfield 25, 3, 14, []), (14, .iload_n 1, 1, 15, []), (15, .iaload, 1, 16, []), (16, .istore_n 2, 1, 17, []), (17, .aload_n 0, 1, 18, []), (18, .getfield 25, 3, 21, []),
  (21, .iload_n 1, 1, 22, []), (22, .iconst 0, 1, 23, []), (23, .iastore, 1, 24, []), (24, .iload_n 2, 1, 25, []), (25, .ireturn, 1, 26, [])]
def pg_X5_wipe (T1 : Tr) : PG := (tb_X5_wipe, fl_X5, cs_X5, ks_X5, [(97, 1, T1)], false, oh_kc)
def tb_X5_figure : List IR := [
  (0, .aload_n 0, 1, 1, []), (1, .getfield 102, 3, 4, []), (4, .aload_n 0, 1, 5, []), (5, .getfield 25, 3, 8, []), (8, .iload_n 1, 1, 9, []), (9, .iaload, 1, 10, []),
  (10, .if_icmp .ge 23, 3, 13, [(0, 33)]), (13, .aload_n 0, 1, 14, []), (14, .getfield 22, 3, 17, []), (17, .bipush 99, 2, 19, []), (19, .iload_n 1, 1, 20, []), (20, .imul, 1, 21, []),
  (21, .aload_n 0, 1, 22, []), (22, .getfield 102, 3, 25, []), (25, .iadd, 1, 26, []), (26, .iaload, 1, 27, []), (27, .bipush 48, 2, 29, []), (29, .isub, 1, 30, []),
  (30, .goto 4, 3, 33, [(0, 34)]), (33, .iconst (-1), 1, 34, []), (34, .istore_n 3, 1, 35, []), (35, .iload_n 3, 1, 36, []), (36, .i2l, 1, 37, []), (37, .lconst 0, 1, 38, []),
  (38, .iload_n 2, 1, 39, []), (39, .i2l, 1, 40, []), (40, .invokestatic 68, 3, 43, []), (43, .ifCond .ne 5, 3, 46, [(0, 48)]), (46, .iconst (-1), 1, 47, []), (47, .ireturn, 1, 48, []),
  (48, .aload_n 0, 1, 49, []), (49, .dup, 1, 50, []), (50, .getfield 102, 3, 53, []), (53, .iconst 1, 1, 54, []), (54, .iadd, 1, 55, []), (55, .putfield 102, 3, 58, []),
  (58, .iload_n 3, 1, 59, []), (59, .ireturn, 1, 60, [])]
def pg_X5_figure (T1 : Tr) : PG := (tb_X5_figure, fl_X5, cs_X5, ks_X5, [(68, 3, T1)], false, oh_kc)
def tb_X5_hour : List IR := [
  (0, .aload_n 0, 1, 1, []), (1, .iload_n 1, 1, 2, []), (2, .iconst 2, 1, 3, []), (3, .invokevirtual 105, 3, 6, []), (6, .istore_n 2, 1, 7, []), (7, .iload_n 2, 1, 8, []),
  (8, .iconst (-1), 1, 9, []), (9, .if_icmp .ne 7, 3, 12, [(0, 16)]), (12, .iconst (-1), 1, 13, []), (13, .goto 19, 3, 16, [(0, 32)]), (16, .aload_n 0, 1, 17, []), (17, .iload_n 1, 1, 18, []),
  (18, .iload_n 2, 1, 19, []), (19, .iconst 2, 1, 20, []), (20, .if_icmp .ne 7, 3, 23, [(0, 27)]), (23, .iconst 3, 1, 24, []), (24, .goto 5, 3, 27, [(0, 29)]), (27, .bipush 9, 2, 29, []),
  (29, .invokevirtual 105, 3, 32, []), (32, .istore_n 3, 1, 33, []), (33, .iload_n 3, 1, 34, []), (34, .iconst (-1), 1, 35, []), (35, .if_icmp .ne 7, 3, 38, [(0, 42)]), (38, .iconst (-1), 1, 39, []),
  (39, .goto 9, 3, 42, [(0, 48)]), (42, .bipush 10, 2, 44, []), (44, .iload_n 2, 1, 45, []), (45, .imul, 1, 46, []), (46, .iload_n 3, 1, 47, []), (47, .iadd, 1, 48, []),
  (48, .ireturn, 1, 49, [])]
def pg_X5_hour (T1 : Tr) : PG := (tb_X5_hour, fl_X5, cs_X5, ks_X5, [(100105, 3, T1)], false, oh_kc)
def tb_X5_nobodyGrants : List IR := [
  (0, .aload_n 0, 1, 1, []), (1, .iconst 0, 1, 2, []), (2, .putfield 108, 3, 5, []), (5, .iconst 0, 1, 6, []), (6, .istore_n 1, 1, 7, []), (7, .iload_n 1, 1, 8, []),
  (8, .sipush 144, 3, 11, []), (11, .if_icmp .ge 19, 3, 14, [(0, 30)]), (14, .aload_n 0, 1, 15, []), (15, .getfield 31, 3, 18, []), (18, .iload_n 1, 1, 19, []), (19, .iload_n 1, 1, 20, []),
  (20, .bipush 24, 2, 22, []), (22, .idiv, 1, 23, []), (23, .iastore, 1, 24, []), (24, .iinc 1 1, 3, 27, []), (27, .goto (-20), 3, 30, [(0, 7)]), (30, .return_, 1, 31, [])]
def pg_X5_nobodyGrants : PG := (tb_X5_nobodyGrants, fl_X5, cs_X5, ks_X5, [], false, oh_kc)
def tb_X5_isGranted : List IR := [
  (0, .iconst 0, 1, 1, []), (1, .istore_n 3, 1, 2, []), (2, .iconst 0, 1, 3, []), (3, .istore 4, 2, 5, []), (5, .iload 4, 2, 7, []), (7, .aload_n 0, 1, 8, []),
  (8, .getfield 108, 3, 11, []), (11, .if_icmp .ge 47, 3, 14, [(0, 58)]), (14, .iload_n 3, 1, 15, []), (15, .ifCond .ne 31, 3, 18, [(0, 46)]), (18, .aload_n 0, 1, 19, []), (19, .getfield 28, 3, 22, []),
  (22, .iconst 3, 1, 23, []), (23, .iload 4, 2, 25, []), (25, .imul, 1, 26, []), (26, .iaload, 1, 27, []), (27, .iload_n 1, 1, 28, []), (28, .if_icmp .ne 22, 3, 31, [(0, 50)]),
  (31, .aload_n 0, 1, 32, []), (32, .getfield 28, 3, 35, []), (35, .iconst 3, 1, 36, []), (36, .iload 4, 2, 38, []), (38, .imul, 1, 39, []), (39, .iconst 1, 1, 40, []),
  (40, .iadd, 1, 41, []), (41, .iaload, 1, 42, []), (42, .iload_n 2, 1, 43, []), (43, .if_icmp .ne 7, 3, 46, [(0, 50)]), (46, .iconst 1, 1, 47, []), (47, .goto 4, 3, 50, [(0, 51)]),
  (50, .iconst 0, 1, 51, []), (51, .istore_n 3, 1, 52, []), (52, .iinc 4 1, 3, 55, []), (55, .goto (-50), 3, 58, [(0, 5)]), (58, .iload_n 3, 1, 59, []), (59, .ireturn, 1, 60, [])]
def pg_X5_isGranted : PG := (tb_X5_isGranted, fl_X5, cs_X5, ks_X5, [], true, oh_kc)
def tb_X5_readsGrant : List IR := [
  (0, .aload_n 0, 1, 1, []), (1, .getfield 108, 3, 4, []), (4, .bipush 20, 2, 6, []), (6, .if_icmp .ne 7, 3, 9, [(0, 13)]), (9, .iconst (-1), 1, 10, []), (10, .goto 9, 3, 13, [(0, 19)]),
  (13, .aload_n 0, 1, 14, []), (14, .iconst 0, 1, 15, []), (15, .iconst 5, 1, 16, []), (16, .invokevirtual 105, 3, 19, []), (19, .istore_n 1, 1, 20, []), (20, .iload_n 1, 1, 21, []),
  (21, .iconst (-1), 1, 22, []), (22, .if_icmp .ne 7, 3, 25, [(0, 29)]), (25, .iconst (-1), 1, 26, []), (26, .goto 8, 3, 29, [(0, 34)]), (29, .aload_n 0, 1, 30, []), (30, .iconst 0, 1, 31, []),
  (31, .invokevirtual 111, 3, 34, []), (34, .istore_n 2, 1, 35, []), (35, .iload_n 2, 1, 36, []), (36, .iconst (-1), 1, 37, []), (37, .if_icmp .eq 12, 3, 40, [(0, 49)]), (40, .aload_n 0, 1, 41, []),
  (41, .iload_n 1, 1, 42, []), (42, .iload_n 2, 1, 43, []), (43, .invokevirtual 114, 3, 46, []), (46, .ifCond .eq 5, 3, 49, [(0, 51)]), (49, .iconst 0, 1, 50, []), (50, .ireturn, 1, 51, []),
  (51, .aload_n 0, 1, 52, []), (52, .iconst 0, 1, 53, []), (53, .iconst 5, 1, 54, []), (54, .invokevirtual 105, 3, 57, []), (57, .istore_n 3, 1, 58, []), (58, .iload_n 3, 1, 59, []),
  (59, .iconst (-1), 1, 60, []), (60, .if_icmp .ne 5, 3, 63, [(0, 65)]), (63, .iconst 0, 1, 64, []), (64, .ireturn, 1, 65, []), (65, .aload_n 0, 1, 66, []), (66, .getfield 28, 3, 69, []),
  (69, .iconst 3, 1, 70, []), (70, .aload_n 0, 1, 71, []), (71, .getfield 108, 3, 74, []), (74, .imul, 1, 75, []), (75, .iload_n 1, 1, 76, []), (76, .iastore, 1, 77, []),
  (77, .aload_n 0, 1, 78, []), (78, .getfield 28, 3, 81, []), (81, .iconst 3, 1, 82, []), (82, .aload_n 0, 1, 83, []), (83, .getfield 108, 3, 86, []), (86, .imul, 1, 87, []),
  (87, .iconst 1, 1, 88, []), (88, .iadd, 1, 89, []), (89, .iload_n 2, 1, 90, []), (90, .iastore, 1, 91, []), (91, .aload_n 0, 1, 92, []), (92, .getfield 28, 3, 95, []),
  (95, .iconst 3, 1, 96, []), (96, .aload_n 0, 1, 97, []), (97, .getfield 108, 3, 100, []), (100, .imul, 1, 101, []), (101, .iconst 2, 1, 102, []), (102, .iadd, 1, 103, []),
  (103, .iload_n 3, 1, 104, []), (104, .iastore, 1, 105, []), (105, .aload_n 0, 1, 106, []), (106, .getfield 31, 3, 109, []), (109, .bipush 24, 2, 111, []), (111, .iload_n 1, 1, 112, []),
  (112, .imul, 1, 113, []), (113, .iload_n 2, 1, 114, []), (114, .iadd, 1, 115, []), (115, .iload_n 3, 1, 116, []), (116, .iastore, 1, 117, []), (117, .aload_n 0, 1, 118, []),
  (118, .dup, 1, 119, []), (119, .getfield 108, 3, 122, []), (122, .iconst 1, 1, 123, []), (123, .iadd, 1, 124, []), (124, .putfield 108, 3, 127, []), (127, .iconst 1, 1, 128, []),
  (128, .ireturn, 1, 129, [])]
def pg_X5_readsGrant (T1 T2 T3 : Tr) : PG := (tb_X5_readsGrant, fl_X5, cs_X5, ks_X5, [(100105, 3, T1), (100111, 2, T2), (100114, 3, T3)], true, oh_kc)
def tb_X5_readsGrants : List IR := [
  (0, .aload_n 0, 1, 1, []), (1, .iconst 0, 1, 2, []), (2, .putfield 102, 3, 5, []), (5, .aload_n 0, 1, 6, []), (6, .invokevirtual 118, 3, 9, []), (9, .aload_n 0, 1, 10, []),
  (10, .getfield 25, 3, 13, []), (13, .iconst 0, 1, 14, []), (14, .iaload, 1, 15, []), (15, .ifCond .le 7, 3, 18, [(0, 22)]), (18, .iconst 1, 1, 19, []), (19, .goto 4, 3, 22, [(0, 23)]),
  (22, .iconst 0, 1, 23, []), (23, .istore_n 1, 1, 24, []), (24, .iload_n 1, 1, 25, []), (25, .ifCond .eq 83, 3, 28, [(0, 108)]), (28, .aload_n 0, 1, 29, []), (29, .invokevirtual 121, 3, 32, []),
  (32, .istore_n 2, 1, 33, []), (33, .iload_n 2, 1, 34, []), (34, .ifCond .eq 20, 3, 37, [(0, 54)]), (37, .aload_n 0, 1, 38, []), (38, .getfield 102, 3, 41, []), (41, .aload_n 0, 1, 42, []),
  (42, .getfield 25, 3, 45, []), (45, .iconst 0, 1, 46, []), (46, .iaload, 1, 47, []), (47, .if_icmp .ge 7, 3, 50, [(0, 54)]), (50, .iconst 1, 1, 51, []), (51, .goto 4, 3, 54, [(0, 55)]),
  (54, .iconst 0, 1, 55, []), (55, .istore_n 1, 1, 56, []), (56, .iload_n 2, 1, 57, []), (57, .ifCond .eq 21, 3, 60, [(0, 78)]), (60, .iload_n 1, 1, 61, []), (61, .ifCond .eq 26, 3, 64, [(0, 87)]),
  (64, .aload_n 0, 1, 65, []), (65, .getfield 22, 3, 68, []), (68, .aload_n 0, 1, 69, []), (69, .getfield 102, 3, 72, []), (72, .iaload, 1, 73, []), (73, .bipush 59, 2, 75, []),
  (75, .if_icmp .eq 12, 3, 78, [(0, 87)]), (78, .aload_n 0, 1, 79, []), (79, .invokevirtual 118, 3, 82, []), (82, .aload_n 0, 1, 83, []), (83, .getfield 102, 3, 86, []), (86, .ireturn, 1, 87, []),
  (87, .aload_n 0, 1, 88, []), (88, .dup, 1, 89, []), (89, .getfield 102, 3, 92, []), (92, .iload_n 1, 1, 93, []), (93, .ifCond .eq 7, 3, 96, [(0, 100)]), (96, .iconst 1, 1, 97, []),
  (97, .goto 4, 3, 100, [(0, 101)]), (100, .iconst 0, 1, 101, []), (101, .iadd, 1, 102, []), (102, .putfield 102, 3, 105, []), (105, .goto (-81), 3, 108, [(0, 24)]), (108, .iconst (-1), 1, 109, []),
  (109, .ireturn, 1, 110, [])]
def pg_X5_readsGrants (T1 T2 : Tr) : PG := (tb_X5_readsGrants, fl_X5, cs_X5, ks_X5, [(100118, 1, T1), (100121, 1, T2)], false, oh_kc)
def tb_X5_readsOrder : List IR := [
  (0, .aload_n 0, 1, 1, []), (1, .getfield 125, 3, 4, []), (4, .bipush 20, 2, 6, []), (6, .if_icmp .ne 7, 3, 9, [(0, 13)]), (9, .iconst (-1), 1, 10, []), (10, .goto 9, 3, 13, [(0, 19)]),
  (13, .aload_n 0, 1, 14, []), (14, .iconst 1, 1, 15, []), (15, .iconst 5, 1, 16, []), (16, .invokevirtual 105, 3, 19, []), (19, .istore_n 1, 1, 20, []), (20, .iload_n 1, 1, 21, []),
  (21, .iconst (-1), 1, 22, []), (22, .if_icmp .ne 7, 3, 25, [(0, 29)]), (25, .iconst (-1), 1, 26, []), (26, .goto 9, 3, 29, [(0, 35)]), (29, .aload_n 0, 1, 30, []), (30, .iconst 1, 1, 31, []),
  (31, .iconst 5, 1, 32, []), (32, .invokevirtual 105, 3, 35, []), (35, .istore_n 2, 1, 36, []), (36, .iload_n 2, 1, 37, []), (37, .iconst (-1), 1, 38, []), (38, .if_icmp .ne 7, 3, 41, [(0, 45)]),
  (41, .iconst (-1), 1, 42, []), (42, .goto 8, 3, 45, [(0, 50)]), (45, .aload_n 0, 1, 46, []), (46, .iconst 1, 1, 47, []), (47, .invokevirtual 111, 3, 50, []), (50, .istore_n 3, 1, 51, []),
  (51, .iload_n 3, 1, 52, []), (52, .iconst (-1), 1, 53, []), (53, .if_icmp .ne 7, 3, 56, [(0, 60)]), (56, .iconst (-1), 1, 57, []), (57, .goto 9, 3, 60, [(0, 66)]), (60, .aload_n 0, 1, 61, []),
  (61, .iconst 1, 1, 62, []), (62, .iconst 4, 1, 63, []), (63, .invokevirtual 105, 3, 66, []), (66, .istore 4, 2, 68, []), (68, .iload 4, 2, 70, []), (70, .iconst (-1), 1, 71, []),
  (71, .if_icmp .ne 5, 3, 74, [(0, 76)]), (74, .iconst 0, 1, 75, []), (75, .ireturn, 1, 76, []), (76, .aload_n 0, 1, 77, []), (77, .getfield 34, 3, 80, []), (80, .iconst 4, 1, 81, []),
  (81, .aload_n 0, 1, 82, []), (82, .getfield 125, 3, 85, []), (85, .imul, 1, 86, []), (86, .iload_n 1, 1, 87, []), (87, .iastore, 1, 88, []), (88, .aload_n 0, 1, 89, []),
  (89, .getfield 34, 3, 92, []), (92, .iconst 4, 1, 93, []), (93, .aload_n 0, 1, 94, []), (94, .getfield 125, 3, 97, []), (97, .imul, 1, 98, []), (98, .iconst 1, 1, 99, []),
  (99, .iadd, 1, 100, []), (100, .iload_n 2, 1, 101, []), (101, .iastore, 1, 102, []), (102, .aload_n 0, 1, 103, []), (103, .getfield 34, 3, 106, []), (106, .iconst 4, 1, 107, []),
  (107, .aload_n 0, 1, 108, []), (108, .getfield 125, 3, 111, []), (111, .imul, 1, 112, []), (112, .iconst 2, 1, 113, []), (113, .iadd, 1, 114, []), (114, .iload_n 3, 1, 115, []),
  (115, .iastore, 1, 116, []), (116, .aload_n 0, 1, 117, []), (117, .getfield 34, 3, 120, []), (120, .iconst 4, 1, 121, []), (121, .aload_n 0, 1, 122, []), (122, .getfield 125, 3, 125, []),
  (125, .imul, 1, 126, []), (126, .iconst 3, 1, 127, []), (127, .iadd, 1, 128, []), (128, .iload 4, 2, 130, []), (130, .iastore, 1, 131, []), (131, .aload_n 0, 1, 132, []),
  (132, .dup, 1, 133, []), (133, .getfield 125, 3, 136, []), (136, .iconst 1, 1, 137, []), (137, .iadd, 1, 138, []), (138, .putfield 125, 3, 141, []), (141, .iconst 1, 1, 142, []),
  (142, .ireturn, 1, 143, [])]
def pg_X5_readsOrder (T1 T2 : Tr) : PG := (tb_X5_readsOrder, fl_X5, cs_X5, ks_X5, [(100105, 3, T1), (100111, 2, T2)], true, oh_kc)
def tb_X5_readsOrders : List IR := [
  (0, .aload_n 0, 1, 1, []), (1, .iconst 0, 1, 2, []), (2, .putfield 102, 3, 5, []), (5, .aload_n 0, 1, 6, []), (6, .iconst 0, 1, 7, []), (7, .putfield 125, 3, 10, []),
  (10, .aload_n 0, 1, 11, []), (11, .getfield 25, 3, 14, []), (14, .iconst 1, 1, 15, []), (15, .iaload, 1, 16, []), (16, .ifCond .le 7, 3, 19, [(0, 23)]), (19, .iconst 1, 1, 20, []),
  (20, .goto 4, 3, 23, [(0, 24)]), (23, .iconst 0, 1, 24, []), (24, .istore_n 1, 1, 25, []), (25, .iload_n 1, 1, 26, []), (26, .ifCond .eq 87, 3, 29, [(0, 113)]), (29, .aload_n 0, 1, 30, []),
  (30, .invokevirtual 128, 3, 33, []), (33, .istore_n 2, 1, 34, []), (34, .iload_n 2, 1, 35, []), (35, .ifCond .eq 20, 3, 38, [(0, 55)]), (38, .aload_n 0, 1, 39, []), (39, .getfield 102, 3, 42, []),
  (42, .aload_n 0, 1, 43, []), (43, .getfield 25, 3, 46, []), (46, .iconst 1, 1, 47, []), (47, .iaload, 1, 48, []), (48, .if_icmp .ge 7, 3, 51, [(0, 55)]), (51, .iconst 1, 1, 52, []),
  (52, .goto 4, 3, 55, [(0, 56)]), (55, .iconst 0, 1, 56, []), (56, .istore_n 1, 1, 57, []), (57, .iload_n 2, 1, 58, []), (58, .ifCond .eq 24, 3, 61, [(0, 82)]), (61, .iload_n 1, 1, 62, []),
  (62, .ifCond .eq 30, 3, 65, [(0, 92)]), (65, .aload_n 0, 1, 66, []), (66, .getfield 22, 3, 69, []), (69, .bipush 99, 2, 71, []), (71, .aload_n 0, 1, 72, []), (72, .getfield 102, 3, 75, []),
  (75, .iadd, 1, 76, []), (76, .iaload, 1, 77, []), (77, .bipush 59, 2, 79, []), (79, .if_icmp .eq 13, 3, 82, [(0, 92)]), (82, .aload_n 0, 1, 83, []), (83, .iconst 0, 1, 84, []),
  (84, .putfield 125, 3, 87, []), (87, .aload_n 0, 1, 88, []), (88, .getfield 102, 3, 91, []), (91, .ireturn, 1, 92, []), (92, .aload_n 0, 1, 93, []), (93, .dup, 1, 94, []),
  (94, .getfield 102, 3, 97, []), (97, .iload_n 1, 1, 98, []), (98, .ifCond .eq 7, 3, 101, [(0, 105)]), (101, .iconst 1, 1, 102, []), (102, .goto 4, 3, 105, [(0, 106)]), (105, .iconst 0, 1, 106, []),
  (106, .iadd, 1, 107, []), (107, .putfield 102, 3, 110, []), (110, .goto (-85), 3, 113, [(0, 25)]), (113, .iconst (-1), 1, 114, []), (114, .ireturn, 1, 115, [])]
def pg_X5_readsOrders (T1 : Tr) : PG := (tb_X5_readsOrders, fl_X5, cs_X5, ks_X5, [(100128, 1, T1)], false, oh_kc)
def tb_X5_reads : List IR := [
  (0, .aload_n 0, 1, 1, []), (1, .invokevirtual 131, 3, 4, []), (4, .pop, 1, 5, []), (5, .aload_n 0, 1, 6, []), (6, .invokevirtual 135, 3, 9, []), (9, .pop, 1, 10, []),
  (10, .return_, 1, 11, [])]
def pg_X5_reads (T1 T2 : Tr) : PG := (tb_X5_reads, fl_X5, cs_X5, ks_X5, [(100131, 1, T1), (100135, 1, T2)], false, oh_kc)
def tb_X5_fault : List IR := [
  (0, .iload_n 1, 1, 1, []), (1, .invokestatic 97, 3, 4, []), (4, .ifCond .ne 8, 3, 7, [(0, 12)]), (7, .bipush (-2), 2, 9, []), (9, .goto 18, 3, 12, [(0, 27)]), (12, .iload_n 1, 1, 13, []),
  (13, .ifCond .ne 10, 3, 16, [(0, 23)]), (16, .aload_n 0, 1, 17, []), (17, .invokevirtual 131, 3, 20, []), (20, .goto 7, 3, 23, [(0, 27)]), (23, .aload_n 0, 1, 24, []), (24, .invokevirtual 135, 3, 27, []),
  (27, .ireturn, 1, 28, [])]
def pg_X5_fault (T1 T2 T3 : Tr) : PG := (tb_X5_fault, fl_X5, cs_X5, ks_X5, [(97, 1, T1), (100131, 1, T2), (100135, 1, T3)], false, oh_kc)
def tb_X5_undo : List IR := [
  (0, .iload_n 1, 1, 1, []), (1, .invokestatic 97, 3, 4, []), (4, .ifCond .ne 6, 3, 7, [(0, 10)]), (7, .bipush (-2), 2, 9, []), (9, .ireturn, 1, 10, []), (10, .aload_n 0, 1, 11, []),
  (11, .invokevirtual 138, 3, 14, []), (14, .iload_n 1, 1, 15, []), (15, .ifCond .ne 10, 3, 18, [(0, 25)]), (18, .aload_n 0, 1, 19, []), (19, .getfield 108, 3, 22, []), (22, .goto 7, 3, 25, [(0, 29)]),
  (25, .aload_n 0, 1, 26, []), (26, .getfield 125, 3, 29, []), (29, .istore_n 2, 1, 30, []), (30, .iload_n 2, 1, 31, []), (31, .ifCond .ne 6, 3, 34, [(0, 37)]), (34, .bipush (-3), 2, 36, []),
  (36, .ireturn, 1, 37, []), (37, .aload_n 0, 1, 38, []), (38, .getfield 25, 3, 41, []), (41, .iload_n 1, 1, 42, []), (42, .dup2, 1, 43, []), (43, .iaload, 1, 44, []),
  (44, .iconst 4, 1, 45, []), (45, .iload_n 1, 1, 46, []), (46, .iadd, 1, 47, []), (47, .iload_n 2, 1, 48, []), (48, .iconst 1, 1, 49, []), (49, .if_icmp .ne 7, 3, 52, [(0, 56)]),
  (52, .iconst 0, 1, 53, []), (53, .goto 4, 3, 56, [(0, 57)]), (56, .iconst 1, 1, 57, []), (57, .iadd, 1, 58, []), (58, .isub, 1, 59, []), (59, .iastore, 1, 60, []),
  (60, .iload_n 2, 1, 61, []), (61, .iconst 1, 1, 62, []), (62, .isub, 1, 63, []), (63, .ireturn, 1, 64, [])]
def pg_X5_undo (T1 T2 : Tr) : PG := (tb_X5_undo, fl_X5, cs_X5, ks_X5, [(97, 1, T1), (100138, 1, T2)], false, oh_kc)
def tb_X5_isBody : List IR := [
  (0, .iload_n 0, 1, 1, []), (1, .i2l, 1, 2, []), (2, .lconst 0, 1, 3, []), (3, .ldc2_w 141, 3, 6, []), (6, .invokestatic 68, 3, 9, []), (9, .ireturn, 1, 10, [])]
def pg_X5_isBody (T1 : Tr) : PG := (tb_X5_isBody, fl_X5, cs_X5, ks_X5, [(68, 3, T1)], true, oh_kc)
def tb_X5_isHour : List IR := [
  (0, .iload_n 0, 1, 1, []), (1, .i2l, 1, 2, []), (2, .lconst 0, 1, 3, []), (3, .ldc2_w 143, 3, 6, []), (6, .invokestatic 68, 3, 9, []), (9, .ireturn, 1, 10, [])]
def pg_X5_isHour (T1 : Tr) : PG := (tb_X5_isHour, fl_X5, cs_X5, ks_X5, [(68, 3, T1)], true, oh_kc)
def tb_X5_setLaw : List IR := [
  (0, .iload_n 1, 1, 1, []), (1, .i2l, 1, 2, []), (2, .lconst 0, 1, 3, []), (3, .ldc2_w 82, 3, 6, []), (6, .invokestatic 68, 3, 9, []), (9, .ifCond .ne 6, 3, 12, [(0, 15)]),
  (12, .bipush (-2), 2, 14, []), (14, .ireturn, 1, 15, []), (15, .aload_n 0, 1, 16, []), (16, .getfield 145, 3, 19, []), (19, .istore_n 2, 1, 20, []), (20, .aload_n 0, 1, 21, []),
  (21, .iload_n 1, 1, 22, []), (22, .putfield 145, 3, 25, []), (25, .iload_n 2, 1, 26, []), (26, .ireturn, 1, 27, [])]
def pg_X5_setLaw (T1 : Tr) : PG := (tb_X5_setLaw, fl_X5, cs_X5, ks_X5, [(68, 3, T1)], false, oh_kc)
def tb_X5_home : List IR := [
  (0, .iload_n 1, 1, 1, []), (1, .invokestatic 148, 3, 4, []), (4, .ifCond .eq 15, 3, 7, [(0, 19)]), (7, .iload_n 2, 1, 8, []), (8, .i2l, 1, 9, []), (9, .lconst 0, 1, 10, []),
  (10, .ldc2_w 151, 3, 13, []), (13, .invokestatic 68, 3, 16, []), (16, .ifCond .ne 6, 3, 19, [(0, 22)]), (19, .bipush (-2), 2, 21, []), (21, .ireturn, 1, 22, []), (22, .aload_n 0, 1, 23, []),
  (23, .getfield 37, 3, 26, []), (26, .iload_n 1, 1, 27, []), (27, .iaload, 1, 28, []), (28, .istore_n 3, 1, 29, []), (29, .aload_n 0, 1, 30, []), (30, .getfield 37, 3, 33, []),
  (33, .iload_n 1, 1, 34, []), (34, .iload_n 2, 1, 35, []), (35, .iastore, 1, 36, []), (36, .iload_n 3, 1, 37, []), (37, .ireturn, 1, 38, [])]
def pg_X5_home (T1 T2 : Tr) : PG := (tb_X5_home, fl_X5, cs_X5, ks_X5, [(148, 1, T1), (68, 3, T2)], false, oh_kc)
def tb_X5_worth : List IR := [
  (0, .iload_n 1, 1, 1, []), (1, .invokestatic 148, 3, 4, []), (4, .ifCond .eq 22, 3, 7, [(0, 26)]), (7, .iload_n 2, 1, 8, []), (8, .invokestatic 153, 3, 11, []), (11, .ifCond .eq 15, 3, 14, [(0, 26)]),
  (14, .iload_n 3, 1, 15, []), (15, .i2l, 1, 16, []), (16, .lconst 0, 1, 17, []), (17, .ldc2_w 151, 3, 20, []), (20, .invokestatic 68, 3, 23, []), (23, .ifCond .ne 6, 3, 26, [(0, 29)]),
  (26, .bipush (-2), 2, 28, []), (28, .ireturn, 1, 29, []), (29, .aload_n 0, 1, 30, []), (30, .getfield 40, 3, 33, []), (33, .bipush 24, 2, 35, []), (35, .iload_n 1, 1, 36, []),
  (36, .imul, 1, 37, []), (37, .iload_n 2, 1, 38, []), (38, .iadd, 1, 39, []), (39, .iaload, 1, 40, []), (40, .istore 4, 2, 42, []), (42, .aload_n 0, 1, 43, []),
  (43, .getfield 40, 3, 46, []), (46, .bipush 24, 2, 48, []), (48, .iload_n 1, 1, 49, []), (49, .imul, 1, 50, []), (50, .iload_n 2, 1, 51, []), (51, .iadd, 1, 52, []),
  (52, .iload_n 3, 1, 53, []), (53, .iastore, 1, 54, []), (54, .iload 4, 2, 56, []), (56, .ireturn, 1, 57, [])]
def pg_X5_worth (T1 T2 T3 : Tr) : PG := (tb_X5_worth, fl_X5, cs_X5, ks_X5, [(148, 1, T1), (153, 1, T2), (68, 3, T3)], false, oh_kc)
def tb_X5_read : List IR := [
  (0, .iload_n 1, 1, 1, []), (1, .invokestatic 78, 3, 4, []), (4, .ifCond .eq 10, 3, 7, [(0, 14)]), (7, .iload_n 2, 1, 8, []), (8, .invokestatic 148, 3, 11, []), (11, .ifCond .ne 6, 3, 14, [(0, 17)]),
  (14, .bipush (-2), 2, 16, []), (16, .ireturn, 1, 17, []), (17, .aload_n 0, 1, 18, []), (18, .getfield 7, 3, 21, []), (21, .iload_n 1, 1, 22, []), (22, .iaload, 1, 23, []),
  (23, .ifCond .ge 9, 3, 26, [(0, 32)]), (26, .aload_n 0, 1, 27, []), (27, .iconst 1, 1, 28, []), (28, .invokevirtual 84, 3, 31, []), (31, .ireturn, 1, 32, []), (32, .iconst 0, 1, 33, []),
  (33, .istore_n 3, 1, 34, []), (34, .iload_n 3, 1, 35, []), (35, .aload_n 0, 1, 36, []), (36, .getfield 13, 3, 39, []), (39, .iload_n 1, 1, 40, []), (40, .iaload, 1, 41, []),
  (41, .if_icmp .ge 29, 3, 44, [(0, 70)]), (44, .aload_n 0, 1, 45, []), (45, .iload_n 2, 1, 46, []), (46, .iload_n 3, 1, 47, []), (47, .aload_n 0, 1, 48, []), (48, .getfield 16, 3, 51, []),
  (51, .bipush 60, 2, 53, []), (53, .iload_n 1, 1, 54, []), (54, .imul, 1, 55, []), (55, .iload_n 3, 1, 56, []), (56, .iadd, 1, 57, []), (57, .iaload, 1, 58, []),
  (58, .invokevirtual 156, 3, 61, []), (61, .ifCond .lt 9, 3, 64, [(0, 70)]), (64, .iinc 3 1, 3, 67, []), (67, .goto (-33), 3, 70, [(0, 34)]), (70, .iload_n 3, 1, 71, []), (71, .ireturn, 1, 72, [])]
def pg_X5_read (T1 T2 T3 T4 : Tr) : PG := (tb_X5_read, fl_X5, cs_X5, ks_X5, [(78, 1, T1), (148, 1, T2), (100084, 2, T3), (100156, 4, T4)], false, oh_kc)
def tb_X5_owns : List IR := [
  (0, .aload_n 0, 1, 1, []), (1, .invokevirtual 138, 3, 4, []), (4, .iload_n 1, 1, 5, []), (5, .invokestatic 148, 3, 8, []), (8, .ifCond .eq 24, 3, 11, [(0, 32)]), (11, .iload_n 2, 1, 12, []),
  (12, .invokestatic 153, 3, 15, []), (15, .ifCond .eq 17, 3, 18, [(0, 32)]), (18, .aload_n 0, 1, 19, []), (19, .getfield 31, 3, 22, []), (22, .bipush 24, 2, 24, []), (24, .iload_n 1, 1, 25, []),
  (25, .imul, 1, 26, []), (26, .iload_n 2, 1, 27, []), (27, .iadd, 1, 28, []), (28, .iaload, 1, 29, []), (29, .goto 5, 3, 32, [(0, 34)]), (32, .bipush (-2), 2, 34, []),
  (34, .ireturn, 1, 35, [])]
def pg_X5_owns (T1 T2 T3 : Tr) : PG := (tb_X5_owns, fl_X5, cs_X5, ks_X5, [(100138, 1, T1), (148, 1, T2), (153, 1, T3)], false, oh_kc)
def tb_X5_deepOf : List IR := [
  (0, .iload_n 1, 1, 1, []), (1, .istore_n 3, 1, 2, []), (2, .iconst 0, 1, 3, []), (3, .istore 4, 2, 5, []), (5, .iload 4, 2, 7, []), (7, .bipush 6, 2, 9, []),
  (9, .if_icmp .ge 36, 3, 12, [(0, 45)]), (12, .aload_n 0, 1, 13, []), (13, .getfield 31, 3, 16, []), (16, .bipush 24, 2, 18, []), (18, .iload_n 3, 1, 19, []), (19, .imul, 1, 20, []),
  (20, .iload_n 2, 1, 21, []), (21, .iadd, 1, 22, []), (22, .iaload, 1, 23, []), (23, .iload_n 3, 1, 24, []), (24, .if_icmp .eq 21, 3, 27, [(0, 45)]), (27, .aload_n 0, 1, 28, []),
  (28, .getfield 31, 3, 31, []), (31, .bipush 24, 2, 33, []), (33, .iload_n 3, 1, 34, []), (34, .imul, 1, 35, []), (35, .iload_n 2, 1, 36, []), (36, .iadd, 1, 37, []),
  (37, .iaload, 1, 38, []), (38, .istore_n 3, 1, 39, []), (39, .iinc 4 1, 3, 42, []), (42, .goto (-37), 3, 45, [(0, 5)]), (45, .iload 4, 2, 47, []), (47, .bipush 6, 2, 49, []),
  (49, .if_icmp .ne 7, 3, 52, [(0, 56)]), (52, .iconst (-1), 1, 53, []), (53, .goto 5, 3, 56, [(0, 58)]), (56, .iload 4, 2, 58, []), (58, .ireturn, 1, 59, [])]
def pg_X5_deepOf : PG := (tb_X5_deepOf, fl_X5, cs_X5, ks_X5, [], false, oh_kc)
def tb_X5_actsBy : List IR := [
  (0, .iload_n 1, 1, 1, []), (1, .iconst 1, 1, 2, []), (2, .if_icmp .ne 15, 3, 5, [(0, 17)]), (5, .aload_n 0, 1, 6, []), (6, .getfield 31, 3, 9, []), (9, .bipush 24, 2, 11, []),
  (11, .iload_n 2, 1, 12, []), (12, .imul, 1, 13, []), (13, .iload_n 3, 1, 14, []), (14, .iadd, 1, 15, []), (15, .iaload, 1, 16, []), (16, .ireturn, 1, 17, []),
  (17, .aload_n 0, 1, 18, []), (18, .iload_n 2, 1, 19, []), (19, .iload_n 3, 1, 20, []), (20, .invokevirtual 159, 3, 23, []), (23, .istore 4, 2, 25, []), (25, .iload_n 2, 1, 26, []),
  (26, .istore 5, 2, 28, []), (28, .iconst 0, 1, 29, []), (29, .istore 6, 2, 31, []), (31, .iload 6, 2, 33, []), (33, .iload 4, 2, 35, []), (35, .if_icmp .ge 23, 3, 38, [(0, 58)]),
  (38, .aload_n 0, 1, 39, []), (39, .getfield 31, 3, 42, []), (42, .bipush 24, 2, 44, []), (44, .iload 5, 2, 46, []), (46, .imul, 1, 47, []), (47, .iload_n 3, 1, 48, []),
  (48, .iadd, 1, 49, []), (49, .iaload, 1, 50, []), (50, .istore 5, 2, 52, []), (52, .iinc 6 1, 3, 55, []), (55, .goto (-24), 3, 58, [(0, 31)]), (58, .iload 4, 2, 60, []),
  (60, .iconst (-1), 1, 61, []), (61, .if_icmp .ne 11, 3, 64, [(0, 72)]), (64, .iload_n 1, 1, 65, []), (65, .ifCond .ne 7, 3, 68, [(0, 72)]), (68, .iconst (-1), 1, 69, []), (69, .goto 5, 3, 72, [(0, 74)]),
  (72, .iload 5, 2, 74, []), (74, .ireturn, 1, 75, [])]
def pg_X5_actsBy (T1 : Tr) : PG := (tb_X5_actsBy, fl_X5, cs_X5, ks_X5, [(100159, 3, T1)], false, oh_kc)
def tb_X5_actsNow : List IR := [
  (0, .aload_n 0, 1, 1, []), (1, .aload_n 0, 1, 2, []), (2, .getfield 145, 3, 5, []), (5, .iload_n 1, 1, 6, []), (6, .iload_n 2, 1, 7, []), (7, .invokevirtual 162, 3, 10, []),
  (10, .ireturn, 1, 11, [])]
def pg_X5_actsNow (T1 : Tr) : PG := (tb_X5_actsNow, fl_X5, cs_X5, ks_X5, [(100162, 4, T1)], false, oh_kc)
def tb_X5_acts : List IR := [
  (0, .aload_n 0, 1, 1, []), (1, .invokevirtual 138, 3, 4, []), (4, .iload_n 1, 1, 5, []), (5, .invokestatic 148, 3, 8, []), (8, .ifCond .eq 19, 3, 11, [(0, 27)]), (11, .iload_n 2, 1, 12, []),
  (12, .invokestatic 153, 3, 15, []), (15, .ifCond .eq 12, 3, 18, [(0, 27)]), (18, .aload_n 0, 1, 19, []), (19, .iload_n 1, 1, 20, []), (20, .iload_n 2, 1, 21, []), (21, .invokevirtual 165, 3, 24, []),
  (24, .goto 5, 3, 27, [(0, 29)]), (27, .bipush (-2), 2, 29, []), (29, .ireturn, 1, 30, [])]
def pg_X5_acts (T1 T2 T3 T4 : Tr) : PG := (tb_X5_acts, fl_X5, cs_X5, ks_X5, [(100138, 1, T1), (148, 1, T2), (153, 1, T3), (100165, 3, T4)], false, oh_kc)
def tb_X5_deep : List IR := [
  (0, .aload_n 0, 1, 1, []), (1, .invokevirtual 138, 3, 4, []), (4, .iload_n 1, 1, 5, []), (5, .invokestatic 148, 3, 8, []), (8, .ifCond .eq 19, 3, 11, [(0, 27)]), (11, .iload_n 2, 1, 12, []),
  (12, .invokestatic 153, 3, 15, []), (15, .ifCond .eq 12, 3, 18, [(0, 27)]), (18, .aload_n 0, 1, 19, []), (19, .iload_n 1, 1, 20, []), (20, .iload_n 2, 1, 21, []), (21, .invokevirtual 159, 3, 24, []),
  (24, .goto 5, 3, 27, [(0, 29)]), (27, .bipush (-2), 2, 29, []), (29, .ireturn, 1, 30, [])]
def pg_X5_deep (T1 T2 T3 T4 : Tr) : PG := (tb_X5_deep, fl_X5, cs_X5, ks_X5, [(100138, 1, T1), (148, 1, T2), (153, 1, T3), (100159, 3, T4)], false, oh_kc)
def tb_X5_freeOf : List IR := [
  (0, .iconst 0, 1, 1, []), (1, .istore_n 2, 1, 2, []), (2, .iconst 0, 1, 3, []), (3, .istore_n 3, 1, 4, []), (4, .iload_n 3, 1, 5, []), (5, .bipush 24, 2, 7, []),
  (7, .if_icmp .ge 29, 3, 10, [(0, 36)]), (10, .iload_n 2, 1, 11, []), (11, .aload_n 0, 1, 12, []), (12, .iload_n 1, 1, 13, []), (13, .iload_n 3, 1, 14, []), (14, .invokevirtual 165, 3, 17, []),
  (17, .iload_n 1, 1, 18, []), (18, .if_icmp .ne 9, 3, 21, [(0, 27)]), (21, .iconst 1, 1, 22, []), (22, .iload_n 3, 1, 23, []), (23, .ishl, 1, 24, []), (24, .goto 4, 3, 27, [(0, 28)]),
  (27, .iconst 0, 1, 28, []), (28, .ior, 1, 29, []), (29, .istore_n 2, 1, 30, []), (30, .iinc 3 1, 3, 33, []), (33, .goto (-29), 3, 36, [(0, 4)]), (36, .iload_n 2, 1, 37, []),
  (37, .ireturn, 1, 38, [])]
def pg_X5_freeOf (T1 : Tr) : PG := (tb_X5_freeOf, fl_X5, cs_X5, ks_X5, [(100165, 3, T1)], false, oh_kc)
def tb_X5_free : List IR := [
  (0, .aload_n 0, 1, 1, []), (1, .invokevirtual 138, 3, 4, []), (4, .iload_n 1, 1, 5, []), (5, .invokestatic 148, 3, 8, []), (8, .ifCond .eq 11, 3, 11, [(0, 19)]), (11, .aload_n 0, 1, 12, []),
  (12, .iload_n 1, 1, 13, []), (13, .invokevirtual 168, 3, 16, []), (16, .goto 5, 3, 19, [(0, 21)]), (19, .bipush (-2), 2, 21, []), (21, .ireturn, 1, 22, [])]
def pg_X5_free (T1 T2 T3 : Tr) : PG := (tb_X5_free, fl_X5, cs_X5, ks_X5, [(100138, 1, T1), (148, 1, T2), (100168, 2, T3)], false, oh_kc)
def tb_X5_holdsOf : List IR := [
  (0, .iconst 0, 1, 1, []), (1, .istore_n 2, 1, 2, []), (2, .iconst 0, 1, 3, []), (3, .istore_n 3, 1, 4, []), (4, .iload_n 3, 1, 5, []), (5, .sipush 144, 3, 8, []),
  (8, .if_icmp .ge 33, 3, 11, [(0, 41)]), (11, .iload_n 2, 1, 12, []), (12, .aload_n 0, 1, 13, []), (13, .iload_n 3, 1, 14, []), (14, .bipush 24, 2, 16, []), (16, .idiv, 1, 17, []),
  (17, .iload_n 3, 1, 18, []), (18, .bipush 24, 2, 20, []), (20, .irem, 1, 21, []), (21, .invokevirtual 165, 3, 24, []), (24, .iload_n 1, 1, 25, []), (25, .if_icmp .ne 7, 3, 28, [(0, 32)]),
  (28, .iconst 1, 1, 29, []), (29, .goto 4, 3, 32, [(0, 33)]), (32, .iconst 0, 1, 33, []), (33, .iadd, 1, 34, []), (34, .istore_n 2, 1, 35, []), (35, .iinc 3 1, 3, 38, []),
  (38, .goto (-34), 3, 41, [(0, 4)]), (41, .iload_n 2, 1, 42, []), (42, .ireturn, 1, 43, [])]
def pg_X5_holdsOf (T1 : Tr) : PG := (tb_X5_holdsOf, fl_X5, cs_X5, ks_X5, [(100165, 3, T1)], false, oh_kc)
def tb_X5_holds : List IR := [
  (0, .aload_n 0, 1, 1, []), (1, .invokevirtual 138, 3, 4, []), (4, .iload_n 1, 1, 5, []), (5, .invokestatic 148, 3, 8, []), (8, .ifCond .eq 11, 3, 11, [(0, 19)]), (11, .aload_n 0, 1, 12, []),
  (12, .iload_n 1, 1, 13, []), (13, .invokevirtual 171, 3, 16, []), (16, .goto 5, 3, 19, [(0, 21)]), (19, .bipush (-2), 2, 21, []), (21, .ireturn, 1, 22, [])]
def pg_X5_holds (T1 T2 T3 : Tr) : PG := (tb_X5_holds, fl_X5, cs_X5, ks_X5, [(100138, 1, T1), (148, 1, T2), (100171, 2, T3)], false, oh_kc)
def tb_X5_wrongedBy : List IR := [
  (0, .iconst 0, 1, 1, []), (1, .istore_n 2, 1, 2, []), (2, .iconst 0, 1, 3, []), (3, .istore_n 3, 1, 4, []), (4, .iload_n 3, 1, 5, []), (5, .sipush 144, 3, 8, []),
  (8, .if_icmp .ge 37, 3, 11, [(0, 45)]), (11, .iload_n 2, 1, 12, []), (12, .aload_n 0, 1, 13, []), (13, .iload_n 1, 1, 14, []), (14, .iload_n 3, 1, 15, []), (15, .bipush 24, 2, 17, []),
  (17, .idiv, 1, 18, []), (18, .iload_n 3, 1, 19, []), (19, .bipush 24, 2, 21, []), (21, .irem, 1, 22, []), (22, .invokevirtual 162, 3, 25, []), (25, .iload_n 3, 1, 26, []),
  (26, .bipush 24, 2, 28, []), (28, .idiv, 1, 29, []), (29, .if_icmp .ne 7, 3, 32, [(0, 36)]), (32, .iconst 0, 1, 33, []), (33, .goto 4, 3, 36, [(0, 37)]), (36, .iconst 1, 1, 37, []),
  (37, .iadd, 1, 38, []), (38, .istore_n 2, 1, 39, []), (39, .iinc 3 1, 3, 42, []), (42, .goto (-38), 3, 45, [(0, 4)]), (45, .iload_n 2, 1, 46, []), (46, .ireturn, 1, 47, [])]
def pg_X5_wrongedBy (T1 : Tr) : PG := (tb_X5_wrongedBy, fl_X5, cs_X5, ks_X5, [(100162, 4, T1)], false, oh_kc)
def tb_X5_wronged : List IR := [
  (0, .aload_n 0, 1, 1, []), (1, .invokevirtual 138, 3, 4, []), (4, .iload_n 1, 1, 5, []), (5, .i2l, 1, 6, []), (6, .lconst 0, 1, 7, []), (7, .ldc2_w 82, 3, 10, []),
  (10, .invokestatic 68, 3, 13, []), (13, .ifCond .eq 11, 3, 16, [(0, 24)]), (16, .aload_n 0, 1, 17, []), (17, .iload_n 1, 1, 18, []), (18, .invokevirtual 174, 3, 21, []), (21, .goto 5, 3, 24, [(0, 26)]),
  (24, .bipush (-2), 2, 26, []), (26, .ireturn, 1, 27, [])]
def pg_X5_wronged (T1 T2 T3 : Tr) : PG := (tb_X5_wronged, fl_X5, cs_X5, ks_X5, [(100138, 1, T1), (68, 3, T2), (100174, 2, T3)], false, oh_kc)
def tb_X5_gentlestNow : List IR := [
  (0, .iconst 0, 1, 1, []), (1, .istore_n 1, 1, 2, []), (2, .iconst 1, 1, 3, []), (3, .istore_n 2, 1, 4, []), (4, .iload_n 2, 1, 5, []), (5, .iconst 3, 1, 6, []),
  (6, .if_icmp .ge 28, 3, 9, [(0, 34)]), (9, .aload_n 0, 1, 10, []), (10, .iload_n 2, 1, 11, []), (11, .invokevirtual 174, 3, 14, []), (14, .aload_n 0, 1, 15, []), (15, .iload_n 1, 1, 16, []),
  (16, .invokevirtual 174, 3, 19, []), (19, .if_icmp .ge 7, 3, 22, [(0, 26)]), (22, .iload_n 2, 1, 23, []), (23, .goto 4, 3, 26, [(0, 27)]), (26, .iload_n 1, 1, 27, []), (27, .istore_n 1, 1, 28, []),
  (28, .iinc 2 1, 3, 31, []), (31, .goto (-27), 3, 34, [(0, 4)]), (34, .iload_n 1, 1, 35, []), (35, .ireturn, 1, 36, [])]
def pg_X5_gentlestNow (T1 : Tr) : PG := (tb_X5_gentlestNow, fl_X5, cs_X5, ks_X5, [(100174, 2, T1)], false, oh_kc)
def tb_X5_gentlest : List IR := [
  (0, .aload_n 0, 1, 1, []), (1, .invokevirtual 138, 3, 4, []), (4, .aload_n 0, 1, 5, []), (5, .invokevirtual 177, 3, 8, []), (8, .ireturn, 1, 9, [])]
def pg_X5_gentlest (T1 T2 : Tr) : PG := (tb_X5_gentlest, fl_X5, cs_X5, ks_X5, [(100138, 1, T1), (100177, 1, T2)], false, oh_kc)
def tb_X5_more : List IR := [
  (0, .iload_n 0, 1, 1, []), (1, .ifCond .ne 8, 3, 4, [(0, 9)]), (4, .bipush (-3), 2, 6, []), (6, .goto 22, 3, 9, [(0, 28)]), (9, .iload_n 0, 1, 10, []), (10, .iconst 1, 1, 11, []),
  (11, .if_icmp .ne 7, 3, 14, [(0, 18)]), (14, .iconst 2, 1, 15, []), (15, .goto 13, 3, 18, [(0, 28)]), (18, .iload_n 0, 1, 19, []), (19, .iconst 4, 1, 20, []), (20, .if_icmp .ne 7, 3, 23, [(0, 27)]),
  (23, .iconst 0, 1, 24, []), (24, .goto 4, 3, 27, [(0, 28)]), (27, .iconst 1, 1, 28, []), (28, .ireturn, 1, 29, [])]
def pg_X5_more : PG := (tb_X5_more, fl_X5, cs_X5, ks_X5, [], false, oh_kc)
def tb_X5_lives : List IR := [
  (0, .iconst 0, 1, 1, []), (1, .istore_n 2, 1, 2, []), (2, .iload_n 2, 1, 3, []), (3, .sipush 144, 3, 6, []), (6, .if_icmp .ge 16, 3, 9, [(0, 22)]), (9, .aload_n 0, 1, 10, []),
  (10, .getfield 43, 3, 13, []), (13, .iload_n 2, 1, 14, []), (14, .iconst (-1), 1, 15, []), (15, .iastore, 1, 16, []), (16, .iinc 2 1, 3, 19, []), (19, .goto (-17), 3, 22, [(0, 2)]),
  (22, .iconst 0, 1, 23, []), (23, .istore_n 2, 1, 24, []), (24, .iload_n 2, 1, 25, []), (25, .aload_n 0, 1, 26, []), (26, .getfield 125, 3, 29, []), (29, .if_icmp .ge 104, 3, 32, [(0, 133)]),
  (32, .bipush 24, 2, 34, []), (34, .aload_n 0, 1, 35, []), (35, .getfield 34, 3, 38, []), (38, .iconst 4, 1, 39, []), (39, .iload_n 2, 1, 40, []), (40, .imul, 1, 41, []),
  (41, .iconst 1, 1, 42, []), (42, .iadd, 1, 43, []), (43, .iaload, 1, 44, []), (44, .imul, 1, 45, []), (45, .aload_n 0, 1, 46, []), (46, .getfield 34, 3, 49, []),
  (49, .iconst 4, 1, 50, []), (50, .iload_n 2, 1, 51, []), (51, .imul, 1, 52, []), (52, .iconst 2, 1, 53, []), (53, .iadd, 1, 54, []), (54, .iaload, 1, 55, []),
  (55, .iadd, 1, 56, []), (56, .istore_n 3, 1, 57, []), (57, .aload_n 0, 1, 58, []), (58, .getfield 46, 3, 61, []), (61, .iload_n 2, 1, 62, []), (62, .aload_n 0, 1, 63, []),
  (63, .getfield 43, 3, 66, []), (66, .iload_n 3, 1, 67, []), (67, .iaload, 1, 68, []), (68, .iconst (-1), 1, 69, []), (69, .if_icmp .ne 31, 3, 72, [(0, 100)]), (72, .aload_n 0, 1, 73, []),
  (73, .iload_n 1, 1, 74, []), (74, .iload_n 3, 1, 75, []), (75, .bipush 24, 2, 77, []), (77, .idiv, 1, 78, []), (78, .iload_n 3, 1, 79, []), (79, .bipush 24, 2, 81, []),
  (81, .irem, 1, 82, []), (82, .invokevirtual 162, 3, 85, []), (85, .aload_n 0, 1, 86, []), (86, .getfield 34, 3, 89, []), (89, .iconst 4, 1, 90, []), (90, .iload_n 2, 1, 91, []),
  (91, .imul, 1, 92, []), (92, .iaload, 1, 93, []), (93, .if_icmp .ne 7, 3, 96, [(0, 100)]), (96, .iconst 1, 1, 97, []), (97, .goto 4, 3, 100, [(0, 101)]), (100, .iconst 0, 1, 101, []),
  (101, .bastore, 1, 102, []), (102, .aload_n 0, 1, 103, []), (103, .getfield 43, 3, 106, []), (106, .iload_n 3, 1, 107, []), (107, .aload_n 0, 1, 108, []), (108, .getfield 46, 3, 111, []),
  (111, .iload_n 2, 1, 112, []), (112, .baload, 1, 113, []), (113, .ifCond .eq 7, 3, 116, [(0, 120)]), (116, .iload_n 2, 1, 117, []), (117, .goto 9, 3, 120, [(0, 126)]), (120, .aload_n 0, 1, 121, []),
  (121, .getfield 43, 3, 124, []), (124, .iload_n 3, 1, 125, []), (125, .iaload, 1, 126, []), (126, .iastore, 1, 127, []), (127, .iinc 2 1, 3, 130, []), (130, .goto (-106), 3, 133, [(0, 24)]),
  (133, .iconst 0, 1, 134, []), (134, .istore_n 2, 1, 135, []), (135, .iload_n 2, 1, 136, []), (136, .bipush 6, 2, 138, []), (138, .if_icmp .ge 173, 3, 141, [(0, 311)]), (141, .aload_n 0, 1, 142, []),
  (142, .getfield 37, 3, 145, []), (145, .iload_n 2, 1, 146, []), (146, .iaload, 1, 147, []), (147, .istore_n 3, 1, 148, []), (148, .iconst 0, 1, 149, []), (149, .istore 4, 2, 151, []),
  (151, .iconst 0, 1, 152, []), (152, .istore 5, 2, 154, []), (154, .iload 5, 2, 156, []), (156, .bipush 24, 2, 158, []), (158, .if_icmp .ge 147, 3, 161, [(0, 305)]), (161, .bipush 24, 2, 163, []),
  (163, .iload_n 2, 1, 164, []), (164, .imul, 1, 165, []), (165, .iload 5, 2, 167, []), (167, .iadd, 1, 168, []), (168, .istore 6, 2, 170, []), (170, .aload_n 0, 1, 171, []),
  (171, .getfield 43, 3, 174, []), (174, .iload 6, 2, 176, []), (176, .iaload, 1, 177, []), (177, .iconst (-1), 1, 178, []), (178, .if_icmp .ne 7, 3, 181, [(0, 185)]), (181, .iconst 0, 1, 182, []),
  (182, .goto 19, 3, 185, [(0, 201)]), (185, .aload_n 0, 1, 186, []), (186, .getfield 34, 3, 189, []), (189, .iconst 4, 1, 190, []), (190, .aload_n 0, 1, 191, []), (191, .getfield 43, 3, 194, []),
  (194, .iload 6, 2, 196, []), (196, .iaload, 1, 197, []), (197, .imul, 1, 198, []), (198, .iconst 3, 1, 199, []), (199, .iadd, 1, 200, []), (200, .iaload, 1, 201, []),
  (201, .istore 7, 2, 203, []), (203, .iload 4, 2, 205, []), (205, .iload 7, 2, 207, []), (207, .invokestatic 180, 3, 210, []), (210, .iadd, 1, 211, []), (211, .bipush 9, 2, 213, []),
  (213, .if_icmp .le 7, 3, 216, [(0, 220)]), (216, .iconst 0, 1, 217, []), (217, .goto 5, 3, 220, [(0, 222)]), (220, .iload 7, 2, 222, []), (222, .istore 7, 2, 224, []), (224, .iload 4, 2, 226, []),
  (226, .iload 7, 2, 228, []), (228, .invokestatic 180, 3, 231, []), (231, .iadd, 1, 232, []), (232, .iconst 0, 1, 233, []), (233, .invokestatic 183, 3, 236, []), (236, .istore 4, 2, 238, []),
  (238, .iload 7, 2, 240, []), (240, .iconst 2, 1, 241, []), (241, .if_icmp .ne 14, 3, 244, [(0, 255)]), (244, .iload_n 3, 1, 245, []), (245, .iconst 1, 1, 246, []), (246, .iadd, 1, 247, []),
  (247, .bipush 9, 2, 249, []), (249, .invokestatic 186, 3, 252, []), (252, .goto 20, 3, 255, [(0, 272)]), (255, .iload 7, 2, 257, []), (257, .iconst 3, 1, 258, []), (258, .if_icmp .ne 13, 3, 261, [(0, 271)]),
  (261, .iload_n 3, 1, 262, []), (262, .iconst 1, 1, 263, []), (263, .isub, 1, 264, []), (264, .iconst 0, 1, 265, []), (265, .invokestatic 183, 3, 268, []), (268, .goto 4, 3, 271, [(0, 272)]),
  (271, .iload_n 3, 1, 272, []), (272, .istore_n 3, 1, 273, []), (273, .aload_n 0, 1, 274, []), (274, .getfield 50, 3, 277, []), (277, .iload 6, 2, 279, []), (279, .iload 7, 2, 281, []),
  (281, .iastore, 1, 282, []), (282, .aload_n 0, 1, 283, []), (283, .getfield 53, 3, 286, []), (286, .iload 6, 2, 288, []), (288, .iload_n 3, 1, 289, []), (289, .iastore, 1, 290, []),
  (290, .aload_n 0, 1, 291, []), (291, .getfield 56, 3, 294, []), (294, .iload 6, 2, 296, []), (296, .iload 4, 2, 298, []), (298, .iastore, 1, 299, []), (299, .iinc 5 1, 3, 302, []),
  (302, .goto (-148), 3, 305, [(0, 154)]), (305, .iinc 2 1, 3, 308, []), (308, .goto (-173), 3, 311, [(0, 135)]), (311, .return_, 1, 312, [])]
def pg_X5_lives (T1 T2 T3 T4 : Tr) : PG := (tb_X5_lives, fl_X5, cs_X5, ks_X5, [(100162, 4, T1), (180, 1, T2), (183, 2, T3), (186, 2, T4)], false, oh_kc)
def tb_X5_find : List IR := [
  (0, .aload_n 0, 1, 1, []), (1, .invokevirtual 138, 3, 4, []), (4, .aload_n 0, 1, 5, []), (5, .aload_n 0, 1, 6, []), (6, .getfield 145, 3, 9, []), (9, .invokevirtual 189, 3, 12, []),
  (12, .return_, 1, 13, [])]
def pg_X5_find (T1 T2 : Tr) : PG := (tb_X5_find, fl_X5, cs_X5, ks_X5, [(100138, 1, T1), (100189, 2, T2)], false, oh_kc)
def tb_X5_done : List IR := [
  (0, .aload_n 0, 1, 1, []), (1, .invokevirtual 193, 3, 4, []), (4, .iload_n 1, 1, 5, []), (5, .i2l, 1, 6, []), (6, .lconst 0, 1, 7, []), (7, .aload_n 0, 1, 8, []),
  (8, .getfield 125, 3, 11, []), (11, .iconst 1, 1, 12, []), (12, .isub, 1, 13, []), (13, .i2l, 1, 14, []), (14, .invokestatic 68, 3, 17, []), (17, .ifCond .eq 20, 3, 20, [(0, 37)]),
  (20, .aload_n 0, 1, 21, []), (21, .getfield 46, 3, 24, []), (24, .iload_n 1, 1, 25, []), (25, .baload, 1, 26, []), (26, .ifCond .eq 7, 3, 29, [(0, 33)]), (29, .iconst 1, 1, 30, []),
  (30, .goto 9, 3, 33, [(0, 39)]), (33, .iconst 0, 1, 34, []), (34, .goto 5, 3, 37, [(0, 39)]), (37, .bipush (-2), 2, 39, []), (39, .ireturn, 1, 40, [])]
def pg_X5_done (T1 T2 : Tr) : PG := (tb_X5_done, fl_X5, cs_X5, ks_X5, [(100193, 1, T1), (68, 3, T2)], false, oh_kc)
def tb_X5_judgedNow : List IR := [
  (0, .iconst 0, 1, 1, []), (1, .istore_n 1, 1, 2, []), (2, .iload_n 1, 1, 3, []), (3, .aload_n 0, 1, 4, []), (4, .getfield 125, 3, 7, []), (7, .if_icmp .ge 20, 3, 10, [(0, 27)]),
  (10, .aload_n 0, 1, 11, []), (11, .getfield 46, 3, 14, []), (14, .iload_n 1, 1, 15, []), (15, .baload, 1, 16, []), (16, .ifCond .ne 5, 3, 19, [(0, 21)]), (19, .iload_n 1, 1, 20, []),
  (20, .ireturn, 1, 21, []), (21, .iinc 1 1, 3, 24, []), (24, .goto (-22), 3, 27, [(0, 2)]), (27, .iconst (-1), 1, 28, []), (28, .ireturn, 1, 29, [])]
def pg_X5_judgedNow : PG := (tb_X5_judgedNow, fl_X5, cs_X5, ks_X5, [], false, oh_kc)
def tb_X5_judged : List IR := [
  (0, .aload_n 0, 1, 1, []), (1, .invokevirtual 193, 3, 4, []), (4, .aload_n 0, 1, 5, []), (5, .invokevirtual 196, 3, 8, []), (8, .ireturn, 1, 9, [])]
def pg_X5_judged (T1 T2 : Tr) : PG := (tb_X5_judged, fl_X5, cs_X5, ks_X5, [(100193, 1, T1), (100196, 1, T2)], false, oh_kc)
def tb_X5_bodyOf : List IR := [
  (0, .bipush 24, 2, 2, []), (2, .iload_n 1, 1, 3, []), (3, .imul, 1, 4, []), (4, .iload_n 2, 1, 5, []), (5, .iadd, 1, 6, []), (6, .istore 4, 2, 8, []),
  (8, .iload_n 3, 1, 9, []), (9, .ifCond .ne 13, 3, 12, [(0, 22)]), (12, .aload_n 0, 1, 13, []), (13, .getfield 50, 3, 16, []), (16, .iload 4, 2, 18, []), (18, .iaload, 1, 19, []),
  (19, .goto 25, 3, 22, [(0, 44)]), (22, .iload_n 3, 1, 23, []), (23, .iconst 1, 1, 24, []), (24, .if_icmp .ne 13, 3, 27, [(0, 37)]), (27, .aload_n 0, 1, 28, []), (28, .getfield 53, 3, 31, []),
  (31, .iload 4, 2, 33, []), (33, .iaload, 1, 34, []), (34, .goto 10, 3, 37, [(0, 44)]), (37, .aload_n 0, 1, 38, []), (38, .getfield 56, 3, 41, []), (41, .iload 4, 2, 43, []),
  (43, .iaload, 1, 44, []), (44, .ireturn, 1, 45, [])]
def pg_X5_bodyOf : PG := (tb_X5_bodyOf, fl_X5, cs_X5, ks_X5, [], false, oh_kc)
def tb_X5_body : List IR := [
  (0, .aload_n 0, 1, 1, []), (1, .invokevirtual 193, 3, 4, []), (4, .iload_n 1, 1, 5, []), (5, .invokestatic 148, 3, 8, []), (8, .ifCond .eq 32, 3, 11, [(0, 40)]), (11, .iload_n 2, 1, 12, []),
  (12, .invokestatic 153, 3, 15, []), (15, .ifCond .eq 25, 3, 18, [(0, 40)]), (18, .iload_n 3, 1, 19, []), (19, .i2l, 1, 20, []), (20, .lconst 0, 1, 21, []), (21, .ldc2_w 82, 3, 24, []),
  (24, .invokestatic 68, 3, 27, []), (27, .ifCond .eq 13, 3, 30, [(0, 40)]), (30, .aload_n 0, 1, 31, []), (31, .iload_n 1, 1, 32, []), (32, .iload_n 2, 1, 33, []), (33, .iload_n 3, 1, 34, []),
  (34, .invokevirtual 199, 3, 37, []), (37, .goto 5, 3, 40, [(0, 42)]), (40, .bipush (-2), 2, 42, []), (42, .ireturn, 1, 43, [])]
def pg_X5_body (T1 T2 T3 T4 T5 : Tr) : PG := (tb_X5_body, fl_X5, cs_X5, ks_X5, [(100193, 1, T1), (148, 1, T2), (153, 1, T3), (68, 3, T4), (100199, 4, T5)], false, oh_kc)
def tb_X5_metOf : List IR := [
  (0, .iconst 0, 1, 1, []), (1, .istore_n 3, 1, 2, []), (2, .iconst 0, 1, 3, []), (3, .istore 4, 2, 5, []), (5, .iload 4, 2, 7, []), (7, .bipush 24, 2, 9, []),
  (9, .if_icmp .ge 47, 3, 12, [(0, 56)]), (12, .iload_n 3, 1, 13, []), (13, .aload_n 0, 1, 14, []), (14, .getfield 53, 3, 17, []), (17, .bipush 24, 2, 19, []), (19, .iload_n 1, 1, 20, []),
  (20, .imul, 1, 21, []), (21, .iload 4, 2, 23, []), (23, .iadd, 1, 24, []), (24, .iaload, 1, 25, []), (25, .aload_n 0, 1, 26, []), (26, .getfield 53, 3, 29, []),
  (29, .bipush 24, 2, 31, []), (31, .iload_n 2, 1, 32, []), (32, .imul, 1, 33, []), (33, .iload 4, 2, 35, []), (35, .iadd, 1, 36, []), (36, .iaload, 1, 37, []),
  (37, .if_icmp .ne 10, 3, 40, [(0, 47)]), (40, .iconst 1, 1, 41, []), (41, .iload 4, 2, 43, []), (43, .ishl, 1, 44, []), (44, .goto 4, 3, 47, [(0, 48)]), (47, .iconst 0, 1, 48, []),
  (48, .ior, 1, 49, []), (49, .istore_n 3, 1, 50, []), (50, .iinc 4 1, 3, 53, []), (53, .goto (-48), 3, 56, [(0, 5)]), (56, .iload_n 3, 1, 57, []), (57, .ireturn, 1, 58, [])]
def pg_X5_metOf : PG := (tb_X5_metOf, fl_X5, cs_X5, ks_X5, [], false, oh_kc)
def tb_X5_met : List IR := [
  (0, .aload_n 0, 1, 1, []), (1, .invokevirtual 193, 3, 4, []), (4, .iload_n 1, 1, 5, []), (5, .invokestatic 148, 3, 8, []), (8, .ifCond .eq 24, 3, 11, [(0, 32)]), (11, .iload_n 2, 1, 12, []),
  (12, .invokestatic 148, 3, 15, []), (15, .ifCond .eq 17, 3, 18, [(0, 32)]), (18, .iload_n 1, 1, 19, []), (19, .iload_n 2, 1, 20, []), (20, .if_icmp .eq 12, 3, 23, [(0, 32)]), (23, .aload_n 0, 1, 24, []),
  (24, .iload_n 1, 1, 25, []), (25, .iload_n 2, 1, 26, []), (26, .invokevirtual 202, 3, 29, []), (29, .goto 5, 3, 32, [(0, 34)]), (32, .bipush (-2), 2, 34, []), (34, .ireturn, 1, 35, [])]
def pg_X5_met (T1 T2 T3 : Tr) : PG := (tb_X5_met, fl_X5, cs_X5, ks_X5, [(100193, 1, T1), (148, 1, T2), (100202, 3, T3)], false, oh_kc)
def tb_X5_slipsOf : List IR := [
  (0, .iconst 0, 1, 1, []), (1, .istore_n 3, 1, 2, []), (2, .iconst 1, 1, 3, []), (3, .istore 4, 2, 5, []), (5, .iload 4, 2, 7, []), (7, .bipush 24, 2, 9, []),
  (9, .if_icmp .ge 49, 3, 12, [(0, 58)]), (12, .aload_n 0, 1, 13, []), (13, .iload_n 2, 1, 14, []), (14, .iload 4, 2, 16, []), (16, .invokevirtual 165, 3, 19, []), (19, .istore 5, 2, 21, []),
  (21, .iload_n 3, 1, 22, []), (22, .iload 5, 2, 24, []), (24, .iconst (-1), 1, 25, []), (25, .if_icmp .eq 24, 3, 28, [(0, 49)]), (28, .aload_n 0, 1, 29, []), (29, .iload_n 1, 1, 30, []),
  (30, .iload 4, 2, 32, []), (32, .iconst 1, 1, 33, []), (33, .isub, 1, 34, []), (34, .invokevirtual 165, 3, 37, []), (37, .iload 5, 2, 39, []), (39, .if_icmp .ne 10, 3, 42, [(0, 49)]),
  (42, .iconst 1, 1, 43, []), (43, .iload 4, 2, 45, []), (45, .ishl, 1, 46, []), (46, .goto 4, 3, 49, [(0, 50)]), (49, .iconst 0, 1, 50, []), (50, .ior, 1, 51, []),
  (51, .istore_n 3, 1, 52, []), (52, .iinc 4 1, 3, 55, []), (55, .goto (-50), 3, 58, [(0, 5)]), (58, .iload_n 3, 1, 59, []), (59, .ireturn, 1, 60, [])]
def pg_X5_slipsOf (T1 : Tr) : PG := (tb_X5_slipsOf, fl_X5, cs_X5, ks_X5, [(100165, 3, T1)], false, oh_kc)
def tb_X5_slips : List IR := [
  (0, .aload_n 0, 1, 1, []), (1, .invokevirtual 138, 3, 4, []), (4, .iload_n 1, 1, 5, []), (5, .invokestatic 148, 3, 8, []), (8, .ifCond .eq 24, 3, 11, [(0, 32)]), (11, .iload_n 2, 1, 12, []),
  (12, .invokestatic 148, 3, 15, []), (15, .ifCond .eq 17, 3, 18, [(0, 32)]), (18, .iload_n 1, 1, 19, []), (19, .iload_n 2, 1, 20, []), (20, .if_icmp .eq 12, 3, 23, [(0, 32)]), (23, .aload_n 0, 1, 24, []),
  (24, .iload_n 1, 1, 25, []), (25, .iload_n 2, 1, 26, []), (26, .invokevirtual 205, 3, 29, []), (29, .goto 5, 3, 32, [(0, 34)]), (32, .bipush (-2), 2, 34, []), (34, .ireturn, 1, 35, [])]
def pg_X5_slips (T1 T2 T3 : Tr) : PG := (tb_X5_slips, fl_X5, cs_X5, ks_X5, [(100138, 1, T1), (148, 1, T2), (100205, 3, T3)], false, oh_kc)
def tb_X5_bodies : List IR := [
  (0, .iconst 0, 1, 1, []), (1, .istore_n 3, 1, 2, []), (2, .iconst 0, 1, 3, []), (3, .istore 4, 2, 5, []), (5, .iload 4, 2, 7, []), (7, .bipush 6, 2, 9, []),
  (9, .if_icmp .ge 31, 3, 12, [(0, 40)]), (12, .iload_n 3, 1, 13, []), (13, .aload_n 0, 1, 14, []), (14, .iload 4, 2, 16, []), (16, .iload_n 2, 1, 17, []), (17, .invokevirtual 165, 3, 20, []),
  (20, .iload_n 1, 1, 21, []), (21, .if_icmp .ne 10, 3, 24, [(0, 31)]), (24, .iconst 1, 1, 25, []), (25, .iload 4, 2, 27, []), (27, .ishl, 1, 28, []), (28, .goto 4, 3, 31, [(0, 32)]),
  (31, .iconst 0, 1, 32, []), (32, .ior, 1, 33, []), (33, .istore_n 3, 1, 34, []), (34, .iinc 4 1, 3, 37, []), (37, .goto (-32), 3, 40, [(0, 5)]), (40, .iload_n 3, 1, 41, []),
  (41, .ireturn, 1, 42, [])]
def pg_X5_bodies (T1 : Tr) : PG := (tb_X5_bodies, fl_X5, cs_X5, ks_X5, [(100165, 3, T1)], false, oh_kc)
def tb_X5_soonestOf : List IR := [
  (0, .iload_n 2, 1, 1, []), (1, .istore_n 3, 1, 2, []), (2, .iconst 0, 1, 3, []), (3, .istore 4, 2, 5, []), (5, .iload 4, 2, 7, []), (7, .bipush 24, 2, 9, []),
  (9, .if_icmp .ge 29, 3, 12, [(0, 38)]), (12, .iload_n 3, 1, 13, []), (13, .aload_n 0, 1, 14, []), (14, .iload_n 1, 1, 15, []), (15, .iload 4, 2, 17, []), (17, .invokevirtual 208, 3, 20, []),
  (20, .invokestatic 211, 3, 23, []), (23, .isub, 1, 24, []), (24, .istore_n 3, 1, 25, []), (25, .iload_n 3, 1, 26, []), (26, .ifCond .gt 6, 3, 29, [(0, 32)]), (29, .iload 4, 2, 31, []),
  (31, .ireturn, 1, 32, []), (32, .iinc 4 1, 3, 35, []), (35, .goto (-30), 3, 38, [(0, 5)]), (38, .iconst (-1), 1, 39, []), (39, .ireturn, 1, 40, [])]
def pg_X5_soonestOf (T1 T2 : Tr) : PG := (tb_X5_soonestOf, fl_X5, cs_X5, ks_X5, [(100208, 3, T1), (211, 1, T2)], false, oh_kc)
def tb_X5_soonest : List IR := [
  (0, .aload_n 0, 1, 1, []), (1, .invokevirtual 138, 3, 4, []), (4, .iload_n 1, 1, 5, []), (5, .invokestatic 148, 3, 8, []), (8, .ifCond .eq 24, 3, 11, [(0, 32)]), (11, .iload_n 2, 1, 12, []),
  (12, .i2l, 1, 13, []), (13, .lconst 1, 1, 14, []), (14, .ldc2_w 214, 3, 17, []), (17, .invokestatic 68, 3, 20, []), (20, .ifCond .eq 12, 3, 23, [(0, 32)]), (23, .aload_n 0, 1, 24, []),
  (24, .iload_n 1, 1, 25, []), (25, .iload_n 2, 1, 26, []), (26, .invokevirtual 216, 3, 29, []), (29, .goto 5, 3, 32, [(0, 34)]), (32, .bipush (-2), 2, 34, []), (34, .ireturn, 1, 35, [])]
def pg_X5_soonest (T1 T2 T3 T4 : Tr) : PG := (tb_X5_soonest, fl_X5, cs_X5, ks_X5, [(100138, 1, T1), (148, 1, T2), (68, 3, T3), (100216, 3, T4)], false, oh_kc)
def tb_X5_fewestOf : List IR := [
  (0, .iconst (-1), 1, 1, []), (1, .istore 4, 2, 3, []), (3, .iconst 0, 1, 4, []), (4, .istore 5, 2, 6, []), (6, .iload 5, 2, 8, []), (8, .bipush 64, 2, 10, []),
  (10, .if_icmp .ge 80, 3, 13, [(0, 90)]), (13, .iconst 0, 1, 14, []), (14, .istore 6, 2, 16, []), (16, .iconst 0, 1, 17, []), (17, .istore 7, 2, 19, []), (19, .iload 7, 2, 21, []),
  (21, .bipush 24, 2, 23, []), (23, .if_icmp .ge 27, 3, 26, [(0, 50)]), (26, .iload 6, 2, 28, []), (28, .aload_n 0, 1, 29, []), (29, .iload_n 1, 1, 30, []), (30, .iload 7, 2, 32, []),
  (32, .invokevirtual 208, 3, 35, []), (35, .iload 5, 2, 37, []), (37, .iand, 1, 38, []), (38, .invokestatic 211, 3, 41, []), (41, .iadd, 1, 42, []), (42, .istore 6, 2, 44, []),
  (44, .iinc 7 1, 3, 47, []), (47, .goto (-28), 3, 50, [(0, 19)]), (50, .iload 6, 2, 52, []), (52, .iload_n 2, 1, 53, []), (53, .if_icmp .lt 27, 3, 56, [(0, 80)]), (56, .iload 4, 2, 58, []),
  (58, .iconst (-1), 1, 59, []), (59, .if_icmp .eq 16, 3, 62, [(0, 75)]), (62, .iload 5, 2, 64, []), (64, .invokestatic 211, 3, 67, []), (67, .iload 4, 2, 69, []), (69, .invokestatic 211, 3, 72, []),
  (72, .if_icmp .ge 8, 3, 75, [(0, 80)]), (75, .iload 5, 2, 77, []), (77, .goto 5, 3, 80, [(0, 82)]), (80, .iload 4, 2, 82, []), (82, .istore 4, 2, 84, []), (84, .iinc 5 1, 3, 87, []),
  (87, .goto (-81), 3, 90, [(0, 6)]), (90, .iload 4, 2, 92, []), (92, .iconst (-1), 1, 93, []), (93, .if_icmp .eq 8, 3, 96, [(0, 101)]), (96, .iload_n 3, 1, 97, []), (97, .iconst 1, 1, 98, []),
  (98, .if_icmp .ne 8, 3, 101, [(0, 106)]), (101, .iload 4, 2, 103, []), (103, .goto 8, 3, 106, [(0, 111)]), (106, .iload 4, 2, 108, []), (108, .invokestatic 211, 3, 111, []), (111, .ireturn, 1, 112, [])]
def pg_X5_fewestOf (T1 T2 : Tr) : PG := (tb_X5_fewestOf, fl_X5, cs_X5, ks_X5, [(100208, 3, T1), (211, 1, T2)], false, oh_kc)
def tb_X5_fewest : List IR := [
  (0, .aload_n 0, 1, 1, []), (1, .invokevirtual 138, 3, 4, []), (4, .iload_n 1, 1, 5, []), (5, .invokestatic 148, 3, 8, []), (8, .ifCond .eq 32, 3, 11, [(0, 40)]), (11, .iload_n 2, 1, 12, []),
  (12, .i2l, 1, 13, []), (13, .lconst 1, 1, 14, []), (14, .ldc2_w 214, 3, 17, []), (17, .invokestatic 68, 3, 20, []), (20, .ifCond .eq 20, 3, 23, [(0, 40)]), (23, .iload_n 3, 1, 24, []),
  (24, .invokestatic 97, 3, 27, []), (27, .ifCond .eq 13, 3, 30, [(0, 40)]), (30, .aload_n 0, 1, 31, []), (31, .iload_n 1, 1, 32, []), (32, .iload_n 2, 1, 33, []), (33, .iload_n 3, 1, 34, []),
  (34, .invokevirtual 219, 3, 37, []), (37, .goto 5, 3, 40, [(0, 42)]), (40, .bipush (-2), 2, 42, []), (42, .ireturn, 1, 43, [])]
def pg_X5_fewest (T1 T2 T3 T4 T5 : Tr) : PG := (tb_X5_fewest, fl_X5, cs_X5, ks_X5, [(100138, 1, T1), (148, 1, T2), (68, 3, T3), (97, 1, T4), (100219, 4, T5)], false, oh_kc)
def tb_X5_goesOnFrom : List IR := [
  (0, .iconst 0, 1, 1, []), (1, .istore 4, 2, 3, []), (3, .iconst 0, 1, 4, []), (4, .istore 5, 2, 6, []), (6, .iload 5, 2, 8, []), (8, .bipush 6, 2, 10, []),
  (10, .if_icmp .ge 88, 3, 13, [(0, 98)]), (13, .iload_n 3, 1, 14, []), (14, .iload 5, 2, 16, []), (16, .invokestatic 222, 3, 19, []), (19, .ifCond .eq 39, 3, 22, [(0, 58)]), (22, .iload 5, 2, 24, []),
  (24, .iload_n 1, 1, 25, []), (25, .if_icmp .eq 29, 3, 28, [(0, 54)]), (28, .aload_n 0, 1, 29, []), (29, .getfield 53, 3, 32, []), (32, .bipush 24, 2, 34, []), (34, .iload 5, 2, 36, []),
  (36, .imul, 1, 37, []), (37, .iload_n 2, 1, 38, []), (38, .iadd, 1, 39, []), (39, .iaload, 1, 40, []), (40, .aload_n 0, 1, 41, []), (41, .getfield 53, 3, 44, []),
  (44, .bipush 24, 2, 46, []), (46, .iload_n 1, 1, 47, []), (47, .imul, 1, 48, []), (48, .iload_n 2, 1, 49, []), (49, .iadd, 1, 50, []), (50, .iaload, 1, 51, []),
  (51, .if_icmp .ne 7, 3, 54, [(0, 58)]), (54, .iconst 1, 1, 55, []), (55, .goto 4, 3, 58, [(0, 59)]), (58, .iconst 0, 1, 59, []), (59, .istore 6, 2, 61, []), (61, .iload 6, 2, 63, []),
  (63, .ifCond .eq 25, 3, 66, [(0, 88)]), (66, .iload 4, 2, 68, []), (68, .aload_n 0, 1, 69, []), (69, .getfield 59, 3, 72, []), (72, .bipush 24, 2, 74, []), (74, .iload 5, 2, 76, []),
  (76, .imul, 1, 77, []), (77, .iload_n 2, 1, 78, []), (78, .iadd, 1, 79, []), (79, .iconst 1, 1, 80, []), (80, .iadd, 1, 81, []), (81, .iaload, 1, 82, []),
  (82, .invokestatic 183, 3, 85, []), (85, .goto 5, 3, 88, [(0, 90)]), (88, .iload 4, 2, 90, []), (90, .istore 4, 2, 92, []), (92, .iinc 5 1, 3, 95, []), (95, .goto (-89), 3, 98, [(0, 6)]),
  (98, .iload 4, 2, 100, []), (100, .ireturn, 1, 101, [])]
def pg_X5_goesOnFrom (T1 T2 : Tr) : PG := (tb_X5_goesOnFrom, fl_X5, cs_X5, ks_X5, [(222, 2, T1), (183, 2, T2)], false, oh_kc)
def tb_X5_runOf : List IR := [
  (0, .iconst 0, 1, 1, []), (1, .istore_n 3, 1, 2, []), (2, .iconst (-1), 1, 3, []), (3, .istore 4, 2, 5, []), (5, .bipush 23, 2, 7, []), (7, .istore 5, 2, 9, []),
  (9, .iload 5, 2, 11, []), (11, .ifCond .lt 175, 3, 14, [(0, 186)]), (14, .aload_n 0, 1, 15, []), (15, .iload_n 1, 1, 16, []), (16, .iload 5, 2, 18, []), (18, .invokevirtual 208, 3, 21, []),
  (21, .istore 6, 2, 23, []), (23, .iload 5, 2, 25, []), (25, .bipush 23, 2, 27, []), (27, .if_icmp .ne 7, 3, 30, [(0, 34)]), (30, .iconst 0, 1, 31, []), (31, .goto 12, 3, 34, [(0, 43)]),
  (34, .aload_n 0, 1, 35, []), (35, .iload_n 1, 1, 36, []), (36, .iload 5, 2, 38, []), (38, .iconst 1, 1, 39, []), (39, .iadd, 1, 40, []), (40, .invokevirtual 208, 3, 43, []),
  (43, .istore 7, 2, 45, []), (45, .iconst 0, 1, 46, []), (46, .istore 8, 2, 48, []), (48, .iconst 0, 1, 49, []), (49, .istore 9, 2, 51, []), (51, .iload 9, 2, 53, []),
  (53, .bipush 6, 2, 55, []), (55, .if_icmp .ge 98, 3, 58, [(0, 153)]), (58, .iconst 0, 1, 59, []), (59, .istore 10, 2, 61, []), (61, .iload 7, 2, 63, []), (63, .ifCond .eq 33, 3, 66, [(0, 96)]),
  (66, .iload_n 2, 1, 67, []), (67, .iconst 1, 1, 68, []), (68, .if_icmp .le 16, 3, 71, [(0, 84)]), (71, .aload_n 0, 1, 72, []), (72, .iload 9, 2, 74, []), (74, .iload 5, 2, 76, []),
  (76, .iload 7, 2, 78, []), (78, .invokevirtual 225, 3, 81, []), (81, .goto 13, 3, 84, [(0, 94)]), (84, .aload_n 0, 1, 85, []), (85, .iload 5, 2, 87, []), (87, .iconst 1, 1, 88, []),
  (88, .iadd, 1, 89, []), (89, .iload 7, 2, 91, []), (91, .invokevirtual 228, 3, 94, []), (94, .istore 10, 2, 96, []), (96, .aload_n 0, 1, 97, []), (97, .getfield 59, 3, 100, []),
  (100, .bipush 24, 2, 102, []), (102, .iload 9, 2, 104, []), (104, .imul, 1, 105, []), (105, .iload 5, 2, 107, []), (107, .iadd, 1, 108, []), (108, .iload 6, 2, 110, []),
  (110, .iload 9, 2, 112, []), (112, .invokestatic 222, 3, 115, []), (115, .ifCond .eq 10, 3, 118, [(0, 125)]), (118, .iconst 1, 1, 119, []), (119, .iload 10, 2, 121, []), (121, .iadd, 1, 122, []),
  (122, .goto 4, 3, 125, [(0, 126)]), (125, .iconst 0, 1, 126, []), (126, .iastore, 1, 127, []), (127, .iload 8, 2, 129, []), (129, .aload_n 0, 1, 130, []), (130, .getfield 59, 3, 133, []),
  (133, .bipush 24, 2, 135, []), (135, .iload 9, 2, 137, []), (137, .imul, 1, 138, []), (138, .iload 5, 2, 140, []), (140, .iadd, 1, 141, []), (141, .iaload, 1, 142, []),
  (142, .invokestatic 183, 3, 145, []), (145, .istore 8, 2, 147, []), (147, .iinc 9 1, 3, 150, []), (150, .goto (-99), 3, 153, [(0, 51)]), (153, .iload 8, 2, 155, []), (155, .ifCond .le 14, 3, 158, [(0, 169)]),
  (158, .iload 8, 2, 160, []), (160, .iload_n 3, 1, 161, []), (161, .if_icmp .lt 8, 3, 164, [(0, 169)]), (164, .iload 5, 2, 166, []), (166, .goto 5, 3, 169, [(0, 171)]), (169, .iload 4, 2, 171, []),
  (171, .istore 4, 2, 173, []), (173, .iload 8, 2, 175, []), (175, .iload_n 3, 1, 176, []), (176, .invokestatic 183, 3, 179, []), (179, .istore_n 3, 1, 180, []), (180, .iinc 5 (-1), 3, 183, []),
  (183, .goto (-174), 3, 186, [(0, 9)]), (186, .iload_n 2, 1, 187, []), (187, .iconst 2, 1, 188, []), (188, .irem, 1, 189, []), (189, .ifCond .ne 7, 3, 192, [(0, 196)]), (192, .iload_n 3, 1, 193, []),
  (193, .goto 5, 3, 196, [(0, 198)]), (196, .iload 4, 2, 198, []), (198, .ireturn, 1, 199, [])]
def pg_X5_runOf (T1 T2 T3 T4 T5 : Tr) : PG := (tb_X5_runOf, fl_X5, cs_X5, ks_X5, [(100208, 3, T1), (100225, 4, T2), (100228, 3, T3), (222, 2, T4), (183, 2, T5)], false, oh_kc)
def tb_X5_longest : List IR := [
  (0, .iconst 0, 1, 1, []), (1, .istore_n 3, 1, 2, []), (2, .iconst 0, 1, 3, []), (3, .istore 4, 2, 5, []), (5, .iload 4, 2, 7, []), (7, .bipush 6, 2, 9, []),
  (9, .if_icmp .ge 39, 3, 12, [(0, 48)]), (12, .iload_n 2, 1, 13, []), (13, .iload 4, 2, 15, []), (15, .invokestatic 222, 3, 18, []), (18, .ifCond .eq 22, 3, 21, [(0, 40)]), (21, .iload_n 3, 1, 22, []),
  (22, .aload_n 0, 1, 23, []), (23, .getfield 59, 3, 26, []), (26, .bipush 24, 2, 28, []), (28, .iload 4, 2, 30, []), (30, .imul, 1, 31, []), (31, .iload_n 1, 1, 32, []),
  (32, .iadd, 1, 33, []), (33, .iaload, 1, 34, []), (34, .invokestatic 183, 3, 37, []), (37, .goto 4, 3, 40, [(0, 41)]), (40, .iload_n 3, 1, 41, []), (41, .istore_n 3, 1, 42, []),
  (42, .iinc 4 1, 3, 45, []), (45, .goto (-40), 3, 48, [(0, 5)]), (48, .iload_n 3, 1, 49, []), (49, .ireturn, 1, 50, [])]
def pg_X5_longest (T1 T2 : Tr) : PG := (tb_X5_longest, fl_X5, cs_X5, ks_X5, [(222, 2, T1), (183, 2, T2)], false, oh_kc)
def tb_X5_run : List IR := [
  (0, .aload_n 0, 1, 1, []), (1, .invokevirtual 193, 3, 4, []), (4, .iload_n 1, 1, 5, []), (5, .invokestatic 148, 3, 8, []), (8, .ifCond .eq 24, 3, 11, [(0, 32)]), (11, .iload_n 2, 1, 12, []),
  (12, .i2l, 1, 13, []), (13, .lconst 0, 1, 14, []), (14, .ldc2_w 76, 3, 17, []), (17, .invokestatic 68, 3, 20, []), (20, .ifCond .eq 12, 3, 23, [(0, 32)]), (23, .aload_n 0, 1, 24, []),
  (24, .iload_n 1, 1, 25, []), (25, .iload_n 2, 1, 26, []), (26, .invokevirtual 231, 3, 29, []), (29, .goto 5, 3, 32, [(0, 34)]), (32, .bipush (-2), 2, 34, []), (34, .ireturn, 1, 35, [])]
def pg_X5_run (T1 T2 T3 T4 : Tr) : PG := (tb_X5_run, fl_X5, cs_X5, ks_X5, [(100193, 1, T1), (148, 1, T2), (68, 3, T3), (100231, 3, T4)], false, oh_kc)
def tb_X5_wants : List IR := [
  (0, .aload_n 0, 1, 1, []), (1, .getfield 40, 3, 4, []), (4, .bipush 24, 2, 6, []), (6, .iload_n 1, 1, 7, []), (7, .imul, 1, 8, []), (8, .iload_n 3, 1, 9, []),
  (9, .iadd, 1, 10, []), (10, .iaload, 1, 11, []), (11, .aload_n 0, 1, 12, []), (12, .getfield 40, 3, 15, []), (15, .bipush 24, 2, 17, []), (17, .iload_n 1, 1, 18, []),
  (18, .imul, 1, 19, []), (19, .iload_n 2, 1, 20, []), (20, .iadd, 1, 21, []), (21, .iaload, 1, 22, []), (22, .if_icmp .le 7, 3, 25, [(0, 29)]), (25, .iconst 1, 1, 26, []),
  (26, .goto 4, 3, 29, [(0, 30)]), (29, .iconst 0, 1, 30, []), (30, .ireturn, 1, 31, [])]
def pg_X5_wants : PG := (tb_X5_wants, fl_X5, cs_X5, ks_X5, [], true, oh_kc)
def tb_X5_wouldTrade : List IR := [
  (0, .aload_n 0, 1, 1, []), (1, .getfield 31, 3, 4, []), (4, .bipush 24, 2, 6, []), (6, .iload_n 1, 1, 7, []), (7, .imul, 1, 8, []), (8, .iload_n 2, 1, 9, []),
  (9, .iadd, 1, 10, []), (10, .iaload, 1, 11, []), (11, .istore 5, 2, 13, []), (13, .aload_n 0, 1, 14, []), (14, .getfield 31, 3, 17, []), (17, .bipush 24, 2, 19, []),
  (19, .iload_n 3, 1, 20, []), (20, .imul, 1, 21, []), (21, .iload 4, 2, 23, []), (23, .iadd, 1, 24, []), (24, .iaload, 1, 25, []), (25, .istore 6, 2, 27, []),
  (27, .iload 5, 2, 29, []), (29, .iload 6, 2, 31, []), (31, .if_icmp .eq 31, 3, 34, [(0, 62)]), (34, .aload_n 0, 1, 35, []), (35, .iload 5, 2, 37, []), (37, .iload_n 2, 1, 38, []),
  (38, .iload 4, 2, 40, []), (40, .invokevirtual 234, 3, 43, []), (43, .ifCond .eq 19, 3, 46, [(0, 62)]), (46, .aload_n 0, 1, 47, []), (47, .iload 6, 2, 49, []), (49, .iload 4, 2, 51, []),
  (51, .iload_n 2, 1, 52, []), (52, .invokevirtual 234, 3, 55, []), (55, .ifCond .eq 7, 3, 58, [(0, 62)]), (58, .iconst 1, 1, 59, []), (59, .goto 4, 3, 62, [(0, 63)]), (62, .iconst 0, 1, 63, []),
  (63, .ireturn, 1, 64, [])]
def pg_X5_wouldTrade (T1 : Tr) : PG := (tb_X5_wouldTrade, fl_X5, cs_X5, ks_X5, [(100234, 4, T1)], true, oh_kc)
def tb_X5_tradeOf : List IR := [
  (0, .aload_n 0, 1, 1, []), (1, .getfield 31, 3, 4, []), (4, .bipush 24, 2, 6, []), (6, .iload_n 1, 1, 7, []), (7, .imul, 1, 8, []), (8, .iload_n 2, 1, 9, []),
  (9, .iadd, 1, 10, []), (10, .iaload, 1, 11, []), (11, .aload_n 0, 1, 12, []), (12, .getfield 31, 3, 15, []), (15, .bipush 24, 2, 17, []), (17, .iload_n 3, 1, 18, []),
  (18, .imul, 1, 19, []), (19, .iload 4, 2, 21, []), (21, .iadd, 1, 22, []), (22, .iaload, 1, 23, []), (23, .if_icmp .ne 7, 3, 26, [(0, 30)]), (26, .iconst 1, 1, 27, []),
  (27, .goto 4, 3, 30, [(0, 31)]), (30, .iconst 0, 1, 31, []), (31, .istore 5, 2, 33, []), (33, .iload 5, 2, 35, []), (35, .ifCond .eq 8, 3, 38, [(0, 43)]), (38, .bipush (-3), 2, 40, []),
  (40, .goto 20, 3, 43, [(0, 60)]), (43, .aload_n 0, 1, 44, []), (44, .iload_n 1, 1, 45, []), (45, .iload_n 2, 1, 46, []), (46, .iload_n 3, 1, 47, []), (47, .iload 4, 2, 49, []),
  (49, .invokevirtual 238, 3, 52, []), (52, .ifCond .eq 7, 3, 55, [(0, 59)]), (55, .iconst 1, 1, 56, []), (56, .goto 4, 3, 59, [(0, 60)]), (59, .iconst 0, 1, 60, []), (60, .ireturn, 1, 61, [])]
def pg_X5_tradeOf (T1 : Tr) : PG := (tb_X5_tradeOf, fl_X5, cs_X5, ks_X5, [(100238, 5, T1)], false, oh_kc)
def tb_X5_trade : List IR := [
  (0, .aload_n 0, 1, 1, []), (1, .invokevirtual 138, 3, 4, []), (4, .iload_n 1, 1, 5, []), (5, .invokestatic 148, 3, 8, []), (8, .ifCond .eq 37, 3, 11, [(0, 45)]), (11, .iload_n 2, 1, 12, []),
  (12, .invokestatic 153, 3, 15, []), (15, .ifCond .eq 30, 3, 18, [(0, 45)]), (18, .iload_n 3, 1, 19, []), (19, .invokestatic 148, 3, 22, []), (22, .ifCond .eq 23, 3, 25, [(0, 45)]), (25, .iload 4, 2, 27, []),
  (27, .invokestatic 153, 3, 30, []), (30, .ifCond .eq 15, 3, 33, [(0, 45)]), (33, .aload_n 0, 1, 34, []), (34, .iload_n 1, 1, 35, []), (35, .iload_n 2, 1, 36, []), (36, .iload_n 3, 1, 37, []),
  (37, .iload 4, 2, 39, []), (39, .invokevirtual 242, 3, 42, []), (42, .goto 5, 3, 45, [(0, 47)]), (45, .bipush (-2), 2, 47, []), (47, .ireturn, 1, 48, [])]
def pg_X5_trade (T1 T2 T3 T4 : Tr) : PG := (tb_X5_trade, fl_X5, cs_X5, ks_X5, [(100138, 1, T1), (148, 1, T2), (153, 1, T3), (100242, 5, T4)], false, oh_kc)
def tb_X5_tradesNow : List IR := [
  (0, .aload_n 0, 1, 1, []), (1, .getfield 108, 3, 4, []), (4, .bipush 12, 2, 6, []), (6, .invokestatic 186, 3, 9, []), (9, .istore_n 1, 1, 10, []), (10, .iconst 1, 1, 11, []),
  (11, .istore_n 2, 1, 12, []), (12, .iload_n 2, 1, 13, []), (13, .iconst 1, 1, 14, []), (14, .iload_n 1, 1, 15, []), (15, .ishl, 1, 16, []), (16, .if_icmp .ge 163, 3, 19, [(0, 179)]),
  (19, .iconst 0, 1, 20, []), (20, .istore_n 3, 1, 21, []), (21, .iload_n 2, 1, 22, []), (22, .iload_n 3, 1, 23, []), (23, .invokestatic 222, 3, 26, []), (26, .ifCond .ne 9, 3, 29, [(0, 35)]),
  (29, .iinc 3 1, 3, 32, []), (32, .goto (-11), 3, 35, [(0, 21)]), (35, .iload_n 2, 1, 36, []), (36, .iconst 1, 1, 37, []), (37, .iload_n 3, 1, 38, []), (38, .ishl, 1, 39, []),
  (39, .iconst (-1), 1, 40, []), (40, .ixor, 1, 41, []), (41, .iand, 1, 42, []), (42, .istore 4, 2, 44, []), (44, .aload_n 0, 1, 45, []), (45, .getfield 62, 3, 48, []),
  (48, .iload 4, 2, 50, []), (50, .iaload, 1, 51, []), (51, .istore 5, 2, 53, []), (53, .iload_n 3, 1, 54, []), (54, .iconst 1, 1, 55, []), (55, .iadd, 1, 56, []),
  (56, .istore 6, 2, 58, []), (58, .iload 6, 2, 60, []), (60, .iload_n 1, 1, 61, []), (61, .if_icmp .ge 104, 3, 64, [(0, 165)]), (64, .iload 4, 2, 66, []), (66, .iload 6, 2, 68, []),
  (68, .invokestatic 222, 3, 71, []), (71, .ifCond .eq 52, 3, 74, [(0, 123)]), (74, .aload_n 0, 1, 75, []), (75, .aload_n 0, 1, 76, []), (76, .getfield 28, 3, 79, []), (79, .iconst 3, 1, 80, []),
  (80, .iload_n 3, 1, 81, []), (81, .imul, 1, 82, []), (82, .iaload, 1, 83, []), (83, .aload_n 0, 1, 84, []), (84, .getfield 28, 3, 87, []), (87, .iconst 3, 1, 88, []),
  (88, .iload_n 3, 1, 89, []), (89, .imul, 1, 90, []), (90, .iconst 1, 1, 91, []), (91, .iadd, 1, 92, []), (92, .iaload, 1, 93, []), (93, .aload_n 0, 1, 94, []),
  (94, .getfield 28, 3, 97, []), (97, .iconst 3, 1, 98, []), (98, .iload 6, 2, 100, []), (100, .imul, 1, 101, []), (101, .iaload, 1, 102, []), (102, .aload_n 0, 1, 103, []),
  (103, .getfield 28, 3, 106, []), (106, .iconst 3, 1, 107, []), (107, .iload 6, 2, 109, []), (109, .imul, 1, 110, []), (110, .iconst 1, 1, 111, []), (111, .iadd, 1, 112, []),
  (112, .iaload, 1, 113, []), (113, .invokevirtual 238, 3, 116, []), (116, .ifCond .eq 7, 3, 119, [(0, 123)]), (119, .iconst 1, 1, 120, []), (120, .goto 4, 3, 123, [(0, 124)]), (123, .iconst 0, 1, 124, []),
  (124, .istore 7, 2, 126, []), (126, .iload 7, 2, 128, []), (128, .ifCond .eq 27, 3, 131, [(0, 155)]), (131, .iload 5, 2, 133, []), (133, .iconst 1, 1, 134, []), (134, .aload_n 0, 1, 135, []),
  (135, .getfield 62, 3, 138, []), (138, .iload 4, 2, 140, []), (140, .iconst 1, 1, 141, []), (141, .iload 6, 2, 143, []), (143, .ishl, 1, 144, []), (144, .iconst (-1), 1, 145, []),
  (145, .ixor, 1, 146, []), (146, .iand, 1, 147, []), (147, .iaload, 1, 148, []), (148, .iadd, 1, 149, []), (149, .invokestatic 183, 3, 152, []), (152, .goto 5, 3, 155, [(0, 157)]),
  (155, .iload 5, 2, 157, []), (157, .istore 5, 2, 159, []), (159, .iinc 6 1, 3, 162, []), (162, .goto (-104), 3, 165, [(0, 58)]), (165, .aload_n 0, 1, 166, []), (166, .getfield 62, 3, 169, []),
  (169, .iload_n 2, 1, 170, []), (170, .iload 5, 2, 172, []), (172, .iastore, 1, 173, []), (173, .iinc 2 1, 3, 176, []), (176, .goto (-164), 3, 179, [(0, 12)]), (179, .aload_n 0, 1, 180, []),
  (180, .getfield 62, 3, 183, []), (183, .iconst 1, 1, 184, []), (184, .iload_n 1, 1, 185, []), (185, .ishl, 1, 186, []), (186, .iconst 1, 1, 187, []), (187, .isub, 1, 188, []),
  (188, .iaload, 1, 189, []), (189, .ireturn, 1, 190, [])]
def pg_X5_tradesNow (T1 T2 T3 T4 : Tr) : PG := (tb_X5_tradesNow, fl_X5, cs_X5, ks_X5, [(186, 2, T1), (222, 2, T2), (100238, 5, T3), (183, 2, T4)], false, oh_kc)
def tb_X5_trades : List IR := [
  (0, .aload_n 0, 1, 1, []), (1, .invokevirtual 138, 3, 4, []), (4, .aload_n 0, 1, 5, []), (5, .invokevirtual 246, 3, 8, []), (8, .ireturn, 1, 9, [])]
def pg_X5_trades (T1 T2 : Tr) : PG := (tb_X5_trades, fl_X5, cs_X5, ks_X5, [(100138, 1, T1), (100246, 1, T2)], false, oh_kc)
def tb_X5_freesOf : List IR := [
  (0, .aload_n 0, 1, 1, []), (1, .aload_n 0, 1, 2, []), (2, .getfield 145, 3, 5, []), (5, .invokevirtual 174, 3, 8, []), (8, .istore_n 2, 1, 9, []), (9, .bipush 24, 2, 11, []),
  (11, .aload_n 0, 1, 12, []), (12, .getfield 28, 3, 15, []), (15, .iconst 3, 1, 16, []), (16, .iload_n 1, 1, 17, []), (17, .imul, 1, 18, []), (18, .iaload, 1, 19, []),
  (19, .imul, 1, 20, []), (20, .aload_n 0, 1, 21, []), (21, .getfield 28, 3, 24, []), (24, .iconst 3, 1, 25, []), (25, .iload_n 1, 1, 26, []), (26, .imul, 1, 27, []),
  (27, .iconst 1, 1, 28, []), (28, .iadd, 1, 29, []), (29, .iaload, 1, 30, []), (30, .iadd, 1, 31, []), (31, .istore_n 3, 1, 32, []), (32, .aload_n 0, 1, 33, []),
  (33, .getfield 31, 3, 36, []), (36, .iload_n 3, 1, 37, []), (37, .iaload, 1, 38, []), (38, .istore 4, 2, 40, []), (40, .aload_n 0, 1, 41, []), (41, .getfield 31, 3, 44, []),
  (44, .iload_n 3, 1, 45, []), (45, .iload_n 3, 1, 46, []), (46, .bipush 24, 2, 48, []), (48, .idiv, 1, 49, []), (49, .iastore, 1, 50, []), (50, .iload_n 2, 1, 51, []),
  (51, .aload_n 0, 1, 52, []), (52, .aload_n 0, 1, 53, []), (53, .getfield 145, 3, 56, []), (56, .invokevirtual 174, 3, 59, []), (59, .isub, 1, 60, []), (60, .istore_n 2, 1, 61, []),
  (61, .aload_n 0, 1, 62, []), (62, .getfield 31, 3, 65, []), (65, .iload_n 3, 1, 66, []), (66, .iload 4, 2, 68, []), (68, .iastore, 1, 69, []), (69, .iload_n 2, 1, 70, []),
  (70, .ireturn, 1, 71, [])]
def pg_X5_freesOf (T1 : Tr) : PG := (tb_X5_freesOf, fl_X5, cs_X5, ks_X5, [(100174, 2, T1)], false, oh_kc)
def tb_X5_frees : List IR := [
  (0, .aload_n 0, 1, 1, []), (1, .invokevirtual 138, 3, 4, []), (4, .iload_n 1, 1, 5, []), (5, .i2l, 1, 6, []), (6, .lconst 0, 1, 7, []), (7, .aload_n 0, 1, 8, []),
  (8, .getfield 108, 3, 11, []), (11, .iconst 1, 1, 12, []), (12, .isub, 1, 13, []), (13, .i2l, 1, 14, []), (14, .invokestatic 68, 3, 17, []), (17, .ifCond .eq 11, 3, 20, [(0, 28)]),
  (20, .aload_n 0, 1, 21, []), (21, .iload_n 1, 1, 22, []), (22, .invokevirtual 249, 3, 25, []), (25, .goto 6, 3, 28, [(0, 31)]), (28, .sipush (-1002), 3, 31, []), (31, .ireturn, 1, 32, [])]
def pg_X5_frees (T1 T2 T3 : Tr) : PG := (tb_X5_frees, fl_X5, cs_X5, ks_X5, [(100138, 1, T1), (68, 3, T2), (100249, 2, T3)], false, oh_kc)
def tb_X5_wordNow : List IR := [
  (0, .iconst (-1), 1, 1, []), (1, .istore_n 1, 1, 2, []), (2, .iconst 0, 1, 3, []), (3, .istore_n 2, 1, 4, []), (4, .iconst 0, 1, 5, []), (5, .istore_n 3, 1, 6, []),
  (6, .iload_n 3, 1, 7, []), (7, .aload_n 0, 1, 8, []), (8, .getfield 108, 3, 11, []), (11, .if_icmp .ge 57, 3, 14, [(0, 68)]), (14, .aload_n 0, 1, 15, []), (15, .iload_n 3, 1, 16, []),
  (16, .invokevirtual 249, 3, 19, []), (19, .istore 4, 2, 21, []), (21, .iload_n 1, 1, 22, []), (22, .iconst (-1), 1, 23, []), (23, .if_icmp .eq 9, 3, 26, [(0, 32)]), (26, .iload 4, 2, 28, []),
  (28, .iload_n 2, 1, 29, []), (29, .if_icmp .le 7, 3, 32, [(0, 36)]), (32, .iconst 1, 1, 33, []), (33, .goto 4, 3, 36, [(0, 37)]), (36, .iconst 0, 1, 37, []), (37, .istore 5, 2, 39, []),
  (39, .iload 5, 2, 41, []), (41, .ifCond .eq 7, 3, 44, [(0, 48)]), (44, .iload_n 3, 1, 45, []), (45, .goto 4, 3, 48, [(0, 49)]), (48, .iload_n 1, 1, 49, []), (49, .istore_n 1, 1, 50, []),
  (50, .iload 5, 2, 52, []), (52, .ifCond .eq 8, 3, 55, [(0, 60)]), (55, .iload 4, 2, 57, []), (57, .goto 4, 3, 60, [(0, 61)]), (60, .iload_n 2, 1, 61, []), (61, .istore_n 2, 1, 62, []),
  (62, .iinc 3 1, 3, 65, []), (65, .goto (-59), 3, 68, [(0, 6)]), (68, .iload_n 1, 1, 69, []), (69, .ireturn, 1, 70, [])]
def pg_X5_wordNow (T1 : Tr) : PG := (tb_X5_wordNow, fl_X5, cs_X5, ks_X5, [(100249, 2, T1)], false, oh_kc)
def tb_X5_word : List IR := [
  (0, .aload_n 0, 1, 1, []), (1, .invokevirtual 138, 3, 4, []), (4, .aload_n 0, 1, 5, []), (5, .invokevirtual 252, 3, 8, []), (8, .ireturn, 1, 9, [])]
def pg_X5_word (T1 T2 : Tr) : PG := (tb_X5_word, fl_X5, cs_X5, ks_X5, [(100138, 1, T1), (100252, 1, T2)], false, oh_kc)
def tb_X5_heirOf : List IR := [
  (0, .iconst 0, 1, 1, []), (1, .istore_n 3, 1, 2, []), (2, .iload_n 3, 1, 3, []), (3, .sipush 144, 3, 6, []), (6, .if_icmp .ge 43, 3, 9, [(0, 49)]), (9, .aload_n 0, 1, 10, []),
  (10, .getfield 31, 3, 13, []), (13, .iload_n 3, 1, 14, []), (14, .aload_n 0, 1, 15, []), (15, .getfield 31, 3, 18, []), (18, .iload_n 3, 1, 19, []), (19, .iaload, 1, 20, []),
  (20, .iload_n 1, 1, 21, []), (21, .if_icmp .ne 15, 3, 24, [(0, 36)]), (24, .iload_n 3, 1, 25, []), (25, .bipush 24, 2, 27, []), (27, .idiv, 1, 28, []), (28, .iload_n 1, 1, 29, []),
  (29, .if_icmp .eq 7, 3, 32, [(0, 36)]), (32, .iload_n 2, 1, 33, []), (33, .goto 9, 3, 36, [(0, 42)]), (36, .aload_n 0, 1, 37, []), (37, .getfield 31, 3, 40, []), (40, .iload_n 3, 1, 41, []),
  (41, .iaload, 1, 42, []), (42, .iastore, 1, 43, []), (43, .iinc 3 1, 3, 46, []), (46, .goto (-44), 3, 49, [(0, 2)]), (49, .aload_n 0, 1, 50, []), (50, .iload_n 2, 1, 51, []),
  (51, .invokevirtual 171, 3, 54, []), (54, .istore_n 3, 1, 55, []), (55, .aload_n 0, 1, 56, []), (56, .invokevirtual 131, 3, 59, []), (59, .pop, 1, 60, []), (60, .iload_n 3, 1, 61, []),
  (61, .ireturn, 1, 62, [])]
def pg_X5_heirOf (T1 T2 : Tr) : PG := (tb_X5_heirOf, fl_X5, cs_X5, ks_X5, [(100171, 2, T1), (100131, 1, T2)], false, oh_kc)
def tb_X5_heir : List IR := [
  (0, .aload_n 0, 1, 1, []), (1, .invokevirtual 138, 3, 4, []), (4, .iload_n 1, 1, 5, []), (5, .invokestatic 148, 3, 8, []), (8, .ifCond .eq 24, 3, 11, [(0, 32)]), (11, .iload_n 2, 1, 12, []),
  (12, .invokestatic 148, 3, 15, []), (15, .ifCond .eq 17, 3, 18, [(0, 32)]), (18, .iload_n 1, 1, 19, []), (19, .iload_n 2, 1, 20, []), (20, .if_icmp .eq 12, 3, 23, [(0, 32)]), (23, .aload_n 0, 1, 24, []),
  (24, .iload_n 1, 1, 25, []), (25, .iload_n 2, 1, 26, []), (26, .invokevirtual 255, 3, 29, []), (29, .goto 5, 3, 32, [(0, 34)]), (32, .bipush (-2), 2, 34, []), (34, .ireturn, 1, 35, [])]
def pg_X5_heir (T1 T2 T3 : Tr) : PG := (tb_X5_heir, fl_X5, cs_X5, ks_X5, [(100138, 1, T1), (148, 1, T2), (100255, 3, T3)], false, oh_kc)
def tb_X5_seen : List IR := [
  (0, .iload_n 1, 1, 1, []), (1, .invokestatic 148, 3, 4, []), (4, .ifCond .eq 22, 3, 7, [(0, 26)]), (7, .iload_n 2, 1, 8, []), (8, .invokestatic 153, 3, 11, []), (11, .ifCond .eq 15, 3, 14, [(0, 26)]),
  (14, .iload_n 3, 1, 15, []), (15, .i2l, 1, 16, []), (16, .lconst 0, 1, 17, []), (17, .ldc2_w 258, 3, 20, []), (20, .invokestatic 68, 3, 23, []), (23, .ifCond .ne 6, 3, 26, [(0, 29)]),
  (26, .bipush (-2), 2, 28, []), (28, .ireturn, 1, 29, []), (29, .aload_n 0, 1, 30, []), (30, .getfield 260, 3, 33, []), (33, .bipush 8, 2, 35, []), (35, .if_icmp .ne 6, 3, 38, [(0, 41)]),
  (38, .bipush (-4), 2, 40, []), (40, .ireturn, 1, 41, []), (41, .aload_n 0, 1, 42, []), (42, .getfield 65, 3, 45, []), (45, .iconst 3, 1, 46, []), (46, .aload_n 0, 1, 47, []),
  (47, .getfield 260, 3, 50, []), (50, .imul, 1, 51, []), (51, .iload_n 1, 1, 52, []), (52, .iastore, 1, 53, []), (53, .aload_n 0, 1, 54, []), (54, .getfield 65, 3, 57, []),
  (57, .iconst 3, 1, 58, []), (58, .aload_n 0, 1, 59, []), (59, .getfield 260, 3, 62, []), (62, .imul, 1, 63, []), (63, .iconst 1, 1, 64, []), (64, .iadd, 1, 65, []),
  (65, .iload_n 2, 1, 66, []), (66, .iastore, 1, 67, []), (67, .aload_n 0, 1, 68, []), (68, .getfield 65, 3, 71, []), (71, .iconst 3, 1, 72, []), (72, .aload_n 0, 1, 73, []),
  (73, .getfield 260, 3, 76, []), (76, .imul, 1, 77, []), (77, .iconst 2, 1, 78, []), (78, .iadd, 1, 79, []), (79, .iload_n 3, 1, 80, []), (80, .iastore, 1, 81, []),
  (81, .aload_n 0, 1, 82, []), (82, .dup, 1, 83, []), (83, .getfield 260, 3, 86, []), (86, .iconst 1, 1, 87, []), (87, .iadd, 1, 88, []), (88, .putfield 260, 3, 91, []),
  (91, .aload_n 0, 1, 92, []), (92, .getfield 260, 3, 95, []), (95, .ireturn, 1, 96, [])]
def pg_X5_seen (T1 T2 T3 : Tr) : PG := (tb_X5_seen, fl_X5, cs_X5, ks_X5, [(148, 1, T1), (153, 1, T2), (68, 3, T3)], false, oh_kc)
def tb_X5_forget : List IR := [
  (0, .aload_n 0, 1, 1, []), (1, .getfield 260, 3, 4, []), (4, .istore_n 1, 1, 5, []), (5, .aload_n 0, 1, 6, []), (6, .iconst 0, 1, 7, []), (7, .putfield 260, 3, 10, []),
  (10, .iload_n 1, 1, 11, []), (11, .ireturn, 1, 12, [])]
def pg_X5_forget : PG := (tb_X5_forget, fl_X5, cs_X5, ks_X5, [], false, oh_kc)
def tb_X5_suspectsNow : List IR := [
  (0, .bipush 63, 2, 2, []), (2, .istore_n 1, 1, 3, []), (3, .iconst 0, 1, 4, []), (4, .istore_n 2, 1, 5, []), (5, .iload_n 2, 1, 6, []), (6, .aload_n 0, 1, 7, []),
  (7, .getfield 260, 3, 10, []), (10, .if_icmp .ge 47, 3, 13, [(0, 57)]), (13, .aload_n 0, 1, 14, []), (14, .aload_n 0, 1, 15, []), (15, .getfield 65, 3, 18, []), (18, .iconst 3, 1, 19, []),
  (19, .iload_n 2, 1, 20, []), (20, .imul, 1, 21, []), (21, .iaload, 1, 22, []), (22, .aload_n 0, 1, 23, []), (23, .getfield 65, 3, 26, []), (26, .iconst 3, 1, 27, []),
  (27, .iload_n 2, 1, 28, []), (28, .imul, 1, 29, []), (29, .iconst 1, 1, 30, []), (30, .iadd, 1, 31, []), (31, .iaload, 1, 32, []), (32, .invokevirtual 165, 3, 35, []),
  (35, .istore_n 3, 1, 36, []), (36, .iload_n 1, 1, 37, []), (37, .iload_n 3, 1, 38, []), (38, .iconst (-1), 1, 39, []), (39, .if_icmp .ne 7, 3, 42, [(0, 46)]), (42, .iconst 0, 1, 43, []),
  (43, .goto 6, 3, 46, [(0, 49)]), (46, .iconst 1, 1, 47, []), (47, .iload_n 3, 1, 48, []), (48, .ishl, 1, 49, []), (49, .iand, 1, 50, []), (50, .istore_n 1, 1, 51, []),
  (51, .iinc 2 1, 3, 54, []), (54, .goto (-49), 3, 57, [(0, 5)]), (57, .iload_n 1, 1, 58, []), (58, .ireturn, 1, 59, [])]
def pg_X5_suspectsNow (T1 : Tr) : PG := (tb_X5_suspectsNow, fl_X5, cs_X5, ks_X5, [(100165, 3, T1)], false, oh_kc)
def tb_X5_suspects : List IR := [
  (0, .aload_n 0, 1, 1, []), (1, .invokevirtual 138, 3, 4, []), (4, .aload_n 0, 1, 5, []), (5, .invokevirtual 263, 3, 8, []), (8, .ireturn, 1, 9, [])]
def pg_X5_suspects (T1 T2 : Tr) : PG := (tb_X5_suspects, fl_X5, cs_X5, ks_X5, [(100138, 1, T1), (100263, 1, T2)], false, oh_kc)
def tb_X5_likelyNow : List IR := [
  (0, .iconst 0, 1, 1, []), (1, .istore_n 1, 1, 2, []), (2, .iconst 0, 1, 3, []), (3, .istore_n 2, 1, 4, []), (4, .iload_n 2, 1, 5, []), (5, .iconst 3, 1, 6, []),
  (6, .if_icmp .ge 101, 3, 9, [(0, 107)]), (9, .aload_n 0, 1, 10, []), (10, .iload_n 2, 1, 11, []), (11, .invokevirtual 189, 3, 14, []), (14, .iconst 1, 1, 15, []), (15, .istore_n 3, 1, 16, []),
  (16, .iconst 0, 1, 17, []), (17, .istore 4, 2, 19, []), (19, .iload 4, 2, 21, []), (21, .aload_n 0, 1, 22, []), (22, .getfield 260, 3, 25, []), (25, .if_icmp .ge 62, 3, 28, [(0, 87)]),
  (28, .iload_n 3, 1, 29, []), (29, .ifCond .eq 50, 3, 32, [(0, 79)]), (32, .aload_n 0, 1, 33, []), (33, .getfield 50, 3, 36, []), (36, .bipush 24, 2, 38, []), (38, .aload_n 0, 1, 39, []),
  (39, .getfield 65, 3, 42, []), (42, .iconst 3, 1, 43, []), (43, .iload 4, 2, 45, []), (45, .imul, 1, 46, []), (46, .iaload, 1, 47, []), (47, .imul, 1, 48, []),
  (48, .aload_n 0, 1, 49, []), (49, .getfield 65, 3, 52, []), (52, .iconst 3, 1, 53, []), (53, .iload 4, 2, 55, []), (55, .imul, 1, 56, []), (56, .iconst 1, 1, 57, []),
  (57, .iadd, 1, 58, []), (58, .iaload, 1, 59, []), (59, .iadd, 1, 60, []), (60, .iaload, 1, 61, []), (61, .aload_n 0, 1, 62, []), (62, .getfield 65, 3, 65, []),
  (65, .iconst 3, 1, 66, []), (66, .iload 4, 2, 68, []), (68, .imul, 1, 69, []), (69, .iconst 2, 1, 70, []), (70, .iadd, 1, 71, []), (71, .iaload, 1, 72, []),
  (72, .if_icmp .ne 7, 3, 75, [(0, 79)]), (75, .iconst 1, 1, 76, []), (76, .goto 4, 3, 79, [(0, 80)]), (79, .iconst 0, 1, 80, []), (80, .istore_n 3, 1, 81, []), (81, .iinc 4 1, 3, 84, []),
  (84, .goto (-65), 3, 87, [(0, 19)]), (87, .iload_n 1, 1, 88, []), (88, .iload_n 3, 1, 89, []), (89, .ifCond .eq 9, 3, 92, [(0, 98)]), (92, .iconst 1, 1, 93, []), (93, .iload_n 2, 1, 94, []),
  (94, .ishl, 1, 95, []), (95, .goto 4, 3, 98, [(0, 99)]), (98, .iconst 0, 1, 99, []), (99, .ior, 1, 100, []), (100, .istore_n 1, 1, 101, []), (101, .iinc 2 1, 3, 104, []),
  (104, .goto (-100), 3, 107, [(0, 4)]), (107, .iload_n 1, 1, 108, []), (108, .ireturn, 1, 109, [])]
def pg_X5_likelyNow (T1 : Tr) : PG := (tb_X5_likelyNow, fl_X5, cs_X5, ks_X5, [(100189, 2, T1)], false, oh_kc)
def tb_X5_likely : List IR := [
  (0, .aload_n 0, 1, 1, []), (1, .invokevirtual 138, 3, 4, []), (4, .aload_n 0, 1, 5, []), (5, .invokevirtual 266, 3, 8, []), (8, .ireturn, 1, 9, [])]
def pg_X5_likely (T1 T2 : Tr) : PG := (tb_X5_likely, fl_X5, cs_X5, ks_X5, [(100138, 1, T1), (100266, 1, T2)], false, oh_kc)
def tb_X5_write : List IR := [
  (0, .iload_n 1, 1, 1, []), (1, .invokestatic 148, 3, 4, []), (4, .ifCond .eq 10, 3, 7, [(0, 14)]), (7, .iload_n 2, 1, 8, []), (8, .invokestatic 78, 3, 11, []), (11, .ifCond .ne 6, 3, 14, [(0, 17)]),
  (14, .bipush (-2), 2, 16, []), (16, .ireturn, 1, 17, []), (17, .aload_n 0, 1, 18, []), (18, .getfield 7, 3, 21, []), (21, .iload_n 2, 1, 22, []), (22, .iaload, 1, 23, []),
  (23, .ifCond .ge 9, 3, 26, [(0, 32)]), (26, .aload_n 0, 1, 27, []), (27, .iconst 1, 1, 28, []), (28, .invokevirtual 84, 3, 31, []), (31, .ireturn, 1, 32, []), (32, .aload_n 0, 1, 33, []),
  (33, .invokevirtual 138, 3, 36, []), (36, .aload_n 0, 1, 37, []), (37, .getfield 13, 3, 40, []), (40, .iload_n 2, 1, 41, []), (41, .iaload, 1, 42, []), (42, .bipush 24, 2, 44, []),
  (44, .invokestatic 186, 3, 47, []), (47, .istore_n 3, 1, 48, []), (48, .iconst 0, 1, 49, []), (49, .istore 4, 2, 51, []), (51, .iload 4, 2, 53, []), (53, .iload_n 3, 1, 54, []),
  (54, .if_icmp .ge 37, 3, 57, [(0, 91)]), (57, .aload_n 0, 1, 58, []), (58, .getfield 16, 3, 61, []), (61, .bipush 60, 2, 63, []), (63, .iload_n 2, 1, 64, []), (64, .imul, 1, 65, []),
  (65, .iload 4, 2, 67, []), (67, .iadd, 1, 68, []), (68, .aload_n 0, 1, 69, []), (69, .getfield 7, 3, 72, []), (72, .iload_n 2, 1, 73, []), (73, .iaload, 1, 74, []),
  (74, .aload_n 0, 1, 75, []), (75, .iload_n 1, 1, 76, []), (76, .iload 4, 2, 78, []), (78, .invokevirtual 165, 3, 81, []), (81, .invokestatic 92, 3, 84, []), (84, .iastore, 1, 85, []),
  (85, .iinc 4 1, 3, 88, []), (88, .goto (-37), 3, 91, [(0, 51)]), (91, .iload_n 3, 1, 92, []), (92, .ireturn, 1, 93, [])]
def pg_X5_write (T1 T2 T3 T4 T5 T6 T7 : Tr) : PG := (tb_X5_write, fl_X5, cs_X5, ks_X5, [(148, 1, T1), (78, 1, T2), (100084, 2, T3), (100138, 1, T4), (186, 2, T5), (100165, 3, T6), (92, 2, T7)], false, oh_kc)
def tb_X5_count : List IR := [
  (0, .iconst 0, 1, 1, []), (1, .istore_n 2, 1, 2, []), (2, .aload_n 0, 1, 3, []), (3, .invokevirtual 193, 3, 6, []), (6, .iload_n 1, 1, 7, []), (7, .tableswitch 159 0 8 #[49, 54, 59, 59, 68, 103, 108, 113, 154], 49, 56, [(0, 166), (0, 56), (1, 61), (2, 66), (3, 66), (4, 75), (5, 110), (6, 115), (7, 120), (8, 161)]),
  (56, .aload_n 0, 1, 57, []), (57, .getfield 108, 3, 60, []), (60, .ireturn, 1, 61, []), (61, .aload_n 0, 1, 62, []), (62, .getfield 125, 3, 65, []), (65, .ireturn, 1, 66, []),
  (66, .aload_n 0, 1, 67, []), (67, .getfield 25, 3, 70, []), (70, .iload_n 1, 1, 71, []), (71, .iconst 2, 1, 72, []), (72, .isub, 1, 73, []), (73, .iaload, 1, 74, []),
  (74, .ireturn, 1, 75, []), (75, .iconst 0, 1, 76, []), (76, .istore_n 3, 1, 77, []), (77, .iload_n 3, 1, 78, []), (78, .aload_n 0, 1, 79, []), (79, .getfield 125, 3, 82, []),
  (82, .if_icmp .ge 26, 3, 85, [(0, 108)]), (85, .iload_n 2, 1, 86, []), (86, .aload_n 0, 1, 87, []), (87, .getfield 46, 3, 90, []), (90, .iload_n 3, 1, 91, []), (91, .baload, 1, 92, []),
  (92, .ifCond .eq 7, 3, 95, [(0, 99)]), (95, .iconst 1, 1, 96, []), (96, .goto 4, 3, 99, [(0, 100)]), (99, .iconst 0, 1, 100, []), (100, .iadd, 1, 101, []), (101, .istore_n 2, 1, 102, []),
  (102, .iinc 3 1, 3, 105, []), (105, .goto (-28), 3, 108, [(0, 77)]), (108, .iload_n 2, 1, 109, []), (109, .ireturn, 1, 110, []), (110, .aload_n 0, 1, 111, []), (111, .getfield 260, 3, 114, []),
  (114, .ireturn, 1, 115, []), (115, .aload_n 0, 1, 116, []), (116, .getfield 145, 3, 119, []), (119, .ireturn, 1, 120, []), (120, .iconst 0, 1, 121, []), (121, .istore_n 3, 1, 122, []),
  (122, .iload_n 3, 1, 123, []), (123, .sipush 144, 3, 126, []), (126, .if_icmp .ge 33, 3, 129, [(0, 159)]), (129, .iload_n 2, 1, 130, []), (130, .aload_n 0, 1, 131, []), (131, .iload_n 3, 1, 132, []),
  (132, .bipush 24, 2, 134, []), (134, .idiv, 1, 135, []), (135, .iload_n 3, 1, 136, []), (136, .bipush 24, 2, 138, []), (138, .irem, 1, 139, []), (139, .invokevirtual 159, 3, 142, []),
  (142, .iconst (-1), 1, 143, []), (143, .if_icmp .ne 7, 3, 146, [(0, 150)]), (146, .iconst 1, 1, 147, []), (147, .goto 4, 3, 150, [(0, 151)]), (150, .iconst 0, 1, 151, []), (151, .iadd, 1, 152, []),
  (152, .istore_n 2, 1, 153, []), (153, .iinc 3 1, 3, 156, []), (156, .goto (-34), 3, 159, [(0, 122)]), (159, .iload_n 2, 1, 160, []), (160, .ireturn, 1, 161, []), (161, .aload_n 0, 1, 162, []),
  (162, .getfield 72, 3, 165, []), (165, .ireturn, 1, 166, []), (166, .bipush (-2), 2, 168, []), (168, .ireturn, 1, 169, [])]
def pg_X5_count (T1 T2 : Tr) : PG := (tb_X5_count, fl_X5, cs_X5, ks_X5, [(100193, 1, T1), (100159, 3, T2)], false, oh_kc)
def tb_X5_tellsHour : List IR := [
  (0, .ldc2_w 269, 3, 3, []), (3, .lload_n 1, 1, 4, []), (4, .lmul, 1, 5, []), (5, .aload_n 0, 1, 6, []), (6, .getfield 31, 3, 9, []), (9, .bipush 24, 2, 11, []),
  (11, .iload_n 3, 1, 12, []), (12, .imul, 1, 13, []), (13, .iload 4, 2, 15, []), (15, .iadd, 1, 16, []), (16, .iaload, 1, 17, []), (17, .i2l, 1, 18, []),
  (18, .ladd, 1, 19, []), (19, .lstore 5, 2, 21, []), (21, .ldc2_w 269, 3, 24, []), (24, .lload 5, 2, 26, []), (26, .lmul, 1, 27, []), (27, .aload_n 0, 1, 28, []),
  (28, .iload_n 3, 1, 29, []), (29, .iload 4, 2, 31, []), (31, .invokevirtual 165, 3, 34, []), (34, .i2l, 1, 35, []), (35, .ladd, 1, 36, []), (36, .lstore 5, 2, 38, []),
  (38, .ldc2_w 269, 3, 41, []), (41, .lload 5, 2, 43, []), (43, .lmul, 1, 44, []), (44, .aload_n 0, 1, 45, []), (45, .iload_n 3, 1, 46, []), (46, .iload 4, 2, 48, []),
  (48, .invokevirtual 159, 3, 51, []), (51, .i2l, 1, 52, []), (52, .ladd, 1, 53, []), (53, .lstore 5, 2, 55, []), (55, .iconst 0, 1, 56, []), (56, .istore 7, 2, 58, []),
  (58, .iload 7, 2, 60, []), (60, .iconst 3, 1, 61, []), (61, .if_icmp .ge 28, 3, 64, [(0, 89)]), (64, .ldc2_w 269, 3, 67, []), (67, .lload 5, 2, 69, []), (69, .lmul, 1, 70, []),
  (70, .aload_n 0, 1, 71, []), (71, .iload_n 3, 1, 72, []), (72, .iload 4, 2, 74, []), (74, .iload 7, 2, 76, []), (76, .invokevirtual 199, 3, 79, []), (79, .i2l, 1, 80, []),
  (80, .ladd, 1, 81, []), (81, .lstore 5, 2, 83, []), (83, .iinc 7 1, 3, 86, []), (86, .goto (-28), 3, 89, [(0, 58)]), (89, .lload 5, 2, 91, []), (91, .lreturn, 1, 92, [])]
def pg_X5_tellsHour (T1 T2 T3 : Tr) : PG := (tb_X5_tellsHour, fl_X5, cs_X5, ks_X5, [(100165, 3, T1), (100159, 3, T2), (100199, 4, T3)], false, oh_kc)
def tb_X5_digest : List IR := [
  (0, .ldc2_w 271, 3, 3, []), (3, .lstore_n 1, 1, 4, []), (4, .iconst 0, 1, 5, []), (5, .istore_n 3, 1, 6, []), (6, .iload_n 3, 1, 7, []), (7, .bipush 8, 2, 9, []),
  (9, .if_icmp .ge 22, 3, 12, [(0, 31)]), (12, .ldc2_w 269, 3, 15, []), (15, .lload_n 1, 1, 16, []), (16, .lmul, 1, 17, []), (17, .aload_n 0, 1, 18, []), (18, .iload_n 3, 1, 19, []),
  (19, .invokevirtual 273, 3, 22, []), (22, .i2l, 1, 23, []), (23, .ladd, 1, 24, []), (24, .lstore_n 1, 1, 25, []), (25, .iinc 3 1, 3, 28, []), (28, .goto (-22), 3, 31, [(0, 6)]),
  (31, .ldc2_w 269, 3, 34, []), (34, .lload_n 1, 1, 35, []), (35, .lmul, 1, 36, []), (36, .aload_n 0, 1, 37, []), (37, .invokevirtual 131, 3, 40, []), (40, .i2l, 1, 41, []),
  (41, .ladd, 1, 42, []), (42, .lstore_n 1, 1, 43, []), (43, .ldc2_w 269, 3, 46, []), (46, .lload_n 1, 1, 47, []), (47, .lmul, 1, 48, []), (48, .aload_n 0, 1, 49, []),
  (49, .invokevirtual 135, 3, 52, []), (52, .i2l, 1, 53, []), (53, .ladd, 1, 54, []), (54, .lstore_n 1, 1, 55, []), (55, .ldc2_w 269, 3, 58, []), (58, .lload_n 1, 1, 59, []),
  (59, .lmul, 1, 60, []), (60, .aload_n 0, 1, 61, []), (61, .invokevirtual 276, 3, 64, []), (64, .i2l, 1, 65, []), (65, .ladd, 1, 66, []), (66, .lstore_n 1, 1, 67, []),
  (67, .iconst 0, 1, 68, []), (68, .istore_n 3, 1, 69, []), (69, .iload_n 3, 1, 70, []), (70, .bipush 6, 2, 72, []), (72, .if_icmp .ge 152, 3, 75, [(0, 224)]), (75, .ldc2_w 269, 3, 78, []),
  (78, .lload_n 1, 1, 79, []), (79, .lmul, 1, 80, []), (80, .aload_n 0, 1, 81, []), (81, .iload_n 3, 1, 82, []), (82, .invokevirtual 168, 3, 85, []), (85, .i2l, 1, 86, []),
  (86, .ladd, 1, 87, []), (87, .lstore_n 1, 1, 88, []), (88, .ldc2_w 269, 3, 91, []), (91, .lload_n 1, 1, 92, []), (92, .lmul, 1, 93, []), (93, .aload_n 0, 1, 94, []),
  (94, .iload_n 3, 1, 95, []), (95, .invokevirtual 171, 3, 98, []), (98, .i2l, 1, 99, []), (99, .ladd, 1, 100, []), (100, .lstore_n 1, 1, 101, []), (101, .aload_n 0, 1, 102, []),
  (102, .lload_n 1, 1, 103, []), (103, .iload_n 3, 1, 104, []), (104, .iconst 0, 1, 105, []), (105, .invokevirtual 279, 3, 108, []), (108, .lstore_n 1, 1, 109, []), (109, .aload_n 0, 1, 110, []),
  (110, .lload_n 1, 1, 111, []), (111, .iload_n 3, 1, 112, []), (112, .bipush 9, 2, 114, []), (114, .invokevirtual 279, 3, 117, []), (117, .lstore_n 1, 1, 118, []), (118, .aload_n 0, 1, 119, []),
  (119, .lload_n 1, 1, 120, []), (120, .iload_n 3, 1, 121, []), (121, .bipush 20, 2, 123, []), (123, .invokevirtual 279, 3, 126, []), (126, .lstore_n 1, 1, 127, []), (127, .ldc2_w 269, 3, 130, []),
  (130, .lload_n 1, 1, 131, []), (131, .lmul, 1, 132, []), (132, .aload_n 0, 1, 133, []), (133, .iload_n 3, 1, 134, []), (134, .bipush 9, 2, 136, []), (136, .invokevirtual 216, 3, 139, []),
  (139, .i2l, 1, 140, []), (140, .ladd, 1, 141, []), (141, .lstore_n 1, 1, 142, []), (142, .ldc2_w 269, 3, 145, []), (145, .lload_n 1, 1, 146, []), (146, .lmul, 1, 147, []),
  (147, .aload_n 0, 1, 148, []), (148, .iload_n 3, 1, 149, []), (149, .bipush 9, 2, 151, []), (151, .iconst 0, 1, 152, []), (152, .invokevirtual 219, 3, 155, []), (155, .i2l, 1, 156, []),
  (156, .ladd, 1, 157, []), (157, .lstore_n 1, 1, 158, []), (158, .ldc2_w 269, 3, 161, []), (161, .lload_n 1, 1, 162, []), (162, .lmul, 1, 163, []), (163, .aload_n 0, 1, 164, []),
  (164, .iload_n 3, 1, 165, []), (165, .bipush 9, 2, 167, []), (167, .iconst 1, 1, 168, []), (168, .invokevirtual 219, 3, 171, []), (171, .i2l, 1, 172, []), (172, .ladd, 1, 173, []),
  (173, .lstore_n 1, 1, 174, []), (174, .iconst 0, 1, 175, []), (175, .istore 4, 2, 177, []), (177, .iload 4, 2, 179, []), (179, .iconst 4, 1, 180, []), (180, .if_icmp .ge 24, 3, 183, [(0, 204)]),
  (183, .ldc2_w 269, 3, 186, []), (186, .lload_n 1, 1, 187, []), (187, .lmul, 1, 188, []), (188, .aload_n 0, 1, 189, []), (189, .iload_n 3, 1, 190, []), (190, .iload 4, 2, 192, []),
  (192, .invokevirtual 231, 3, 195, []), (195, .i2l, 1, 196, []), (196, .ladd, 1, 197, []), (197, .lstore_n 1, 1, 198, []), (198, .iinc 4 1, 3, 201, []), (201, .goto (-24), 3, 204, [(0, 177)]),
  (204, .ldc2_w 269, 3, 207, []), (207, .lload_n 1, 1, 208, []), (208, .lmul, 1, 209, []), (209, .aload_n 0, 1, 210, []), (210, .iload_n 3, 1, 211, []), (211, .iconst 0, 1, 212, []),
  (212, .invokevirtual 283, 3, 215, []), (215, .i2l, 1, 216, []), (216, .ladd, 1, 217, []), (217, .lstore_n 1, 1, 218, []), (218, .iinc 3 1, 3, 221, []), (221, .goto (-152), 3, 224, [(0, 69)]),
  (224, .iconst 0, 1, 225, []), (225, .istore_n 3, 1, 226, []), (226, .iload_n 3, 1, 227, []), (227, .iconst 3, 1, 228, []), (228, .if_icmp .ge 22, 3, 231, [(0, 250)]), (231, .ldc2_w 269, 3, 234, []),
  (234, .lload_n 1, 1, 235, []), (235, .lmul, 1, 236, []), (236, .aload_n 0, 1, 237, []), (237, .iload_n 3, 1, 238, []), (238, .invokevirtual 174, 3, 241, []), (241, .i2l, 1, 242, []),
  (242, .ladd, 1, 243, []), (243, .lstore_n 1, 1, 244, []), (244, .iinc 3 1, 3, 247, []), (247, .goto (-21), 3, 250, [(0, 226)]), (250, .ldc2_w 269, 3, 253, []), (253, .lload_n 1, 1, 254, []),
  (254, .lmul, 1, 255, []), (255, .aload_n 0, 1, 256, []), (256, .invokevirtual 177, 3, 259, []), (259, .i2l, 1, 260, []), (260, .ladd, 1, 261, []), (261, .lstore_n 1, 1, 262, []),
  (262, .ldc2_w 269, 3, 265, []), (265, .lload_n 1, 1, 266, []), (266, .lmul, 1, 267, []), (267, .aload_n 0, 1, 268, []), (268, .iconst 0, 1, 269, []), (269, .iconst 1, 1, 270, []),
  (270, .invokevirtual 202, 3, 273, []), (273, .i2l, 1, 274, []), (274, .ladd, 1, 275, []), (275, .lstore_n 1, 1, 276, []), (276, .ldc2_w 269, 3, 279, []), (279, .lload_n 1, 1, 280, []),
  (280, .lmul, 1, 281, []), (281, .aload_n 0, 1, 282, []), (282, .iconst 0, 1, 283, []), (283, .iconst 1, 1, 284, []), (284, .invokevirtual 205, 3, 287, []), (287, .i2l, 1, 288, []),
  (288, .ladd, 1, 289, []), (289, .lstore_n 1, 1, 290, []), (290, .ldc2_w 269, 3, 293, []), (293, .lload_n 1, 1, 294, []), (294, .lmul, 1, 295, []), (295, .aload_n 0, 1, 296, []),
  (296, .invokevirtual 246, 3, 299, []), (299, .i2l, 1, 300, []), (300, .ladd, 1, 301, []), (301, .lstore_n 1, 1, 302, []), (302, .ldc2_w 269, 3, 305, []), (305, .lload_n 1, 1, 306, []),
  (306, .lmul, 1, 307, []), (307, .aload_n 0, 1, 308, []), (308, .invokevirtual 252, 3, 311, []), (311, .i2l, 1, 312, []), (312, .ladd, 1, 313, []), (313, .lstore_n 1, 1, 314, []),
  (314, .iconst 0, 1, 315, []), (315, .istore_n 3, 1, 316, []), (316, .iload_n 3, 1, 317, []), (317, .aload_n 0, 1, 318, []), (318, .getfield 108, 3, 321, []), (321, .if_icmp .ge 22, 3, 324, [(0, 343)]),
  (324, .ldc2_w 269, 3, 327, []), (327, .lload_n 1, 1, 328, []), (328, .lmul, 1, 329, []), (329, .aload_n 0, 1, 330, []), (330, .iload_n 3, 1, 331, []), (331, .invokevirtual 249, 3, 334, []),
  (334, .i2l, 1, 335, []), (335, .ladd, 1, 336, []), (336, .lstore_n 1, 1, 337, []), (337, .iinc 3 1, 3, 340, []), (340, .goto (-24), 3, 343, [(0, 316)]), (343, .ldc2_w 269, 3, 346, []),
  (346, .lload_n 1, 1, 347, []), (347, .lmul, 1, 348, []), (348, .aload_n 0, 1, 349, []), (349, .invokevirtual 263, 3, 352, []), (352, .i2l, 1, 353, []), (353, .ladd, 1, 354, []),
  (354, .lstore_n 1, 1, 355, []), (355, .ldc2_w 269, 3, 358, []), (358, .lload_n 1, 1, 359, []), (359, .lmul, 1, 360, []), (360, .aload_n 0, 1, 361, []), (361, .invokevirtual 266, 3, 364, []),
  (364, .i2l, 1, 365, []), (365, .ladd, 1, 366, []), (366, .lreturn, 1, 367, [])]
def pg_X5_digest (T1 T2 T3 T4 T5 T6 T7 T8 T9 T10 T11 T12 T13 T14 T15 T16 T17 T18 T19 T20 : Tr) : PG := (tb_X5_digest, fl_X5, cs_X5, ks_X5, [(100273, 2, T1), (100131, 1, T2), (100135, 1, T3), (100276, 1, T4), (100168, 2, T5), (100171, 2, T6), (100279, 4, T7), (100216, 3, T8), (100219, 4, T9), (100231, 3, T10), (100283, 3, T11), (100174, 2, T12), (100177, 1, T13), (100202, 3, T14), (100205, 3, T15), (100246, 1, T16), (100252, 1, T17), (100249, 2, T18), (100263, 1, T19), (100266, 1, T20)], false, oh_kc)
def tb_J6_bitCount_0f7a4 : List IR := [
  (0, .iload_n 0, 1, 1, []), (1, .iload_n 0, 1, 2, []), (2, .iconst 1, 1, 3, []), (3, .iushr, 1, 4, []), (4, .ldc_w 265, 3, 7, []), (7, .iand, 1, 8, []),
  (8, .isub, 1, 9, []), (9, .istore_n 0, 1, 10, []), (10, .iload_n 0, 1, 11, []), (11, .ldc_w 266, 3, 14, []), (14, .iand, 1, 15, []), (15, .iload_n 0, 1, 16, []),
  (16, .iconst 2, 1, 17, []), (17, .iushr, 1, 18, []), (18, .ldc_w 266, 3, 21, []), (21, .iand, 1, 22, []), (22, .iadd, 1, 23, []), (23, .istore_n 0, 1, 24, []),
  (24, .iload_n 0, 1, 25, []), (25, .iload_n 0, 1, 26, []), (26, .iconst 4, 1, 27, []), (27, .iushr, 1, 28, []), (28, .iadd, 1, 29, []), (29, .ldc_w 267, 3, 32, []),
  (32, .iand, 1, 33, []), (33, .istore_n 0, 1, 34, []), (34, .iload_n 0, 1, 35, []), (35, .iload_n 0, 1, 36, []), (36, .bipush 8, 2, 38, []), (38, .iushr, 1, 39, []),
  (39, .iadd, 1, 40, []), (40, .istore_n 0, 1, 41, []), (41, .iload_n 0, 1, 42, []), (42, .iload_n 0, 1, 43, []), (43, .bipush 16, 2, 45, []), (45, .iushr, 1, 46, []),
  (46, .iadd, 1, 47, []), (47, .istore_n 0, 1, 48, []), (48, .iload_n 0, 1, 49, []), (49, .bipush 63, 2, 51, []), (51, .iand, 1, 52, []), (52, .ireturn, 1, 53, [])]
def pg_J6_bitCount_0f7a4 : PG := (tb_J6_bitCount_0f7a4, [], cs_J6, [], [], false, oh_kc)
def tb_J9_max_7cf53 : List IR := [
  (0, .iload_n 0, 1, 1, []), (1, .iload_n 1, 1, 2, []), (2, .if_icmp .lt 7, 3, 5, [(0, 9)]), (5, .iload_n 0, 1, 6, []), (6, .goto 4, 3, 9, [(0, 10)]), (9, .iload_n 1, 1, 10, []),
  (10, .ireturn, 1, 11, [])]
def pg_J9_max_7cf53 : PG := (tb_J9_max_7cf53, [], [], [], [], false, oh_kc)
def tb_J9_min_7cf53 : List IR := [
  (0, .iload_n 0, 1, 1, []), (1, .iload_n 1, 1, 2, []), (2, .if_icmp .gt 7, 3, 5, [(0, 9)]), (5, .iload_n 0, 1, 6, []), (6, .goto 4, 3, 9, [(0, 10)]), (9, .iload_n 1, 1, 10, []),
  (10, .ireturn, 1, 11, [])]
def pg_J9_min_7cf53 : PG := (tb_J9_min_7cf53, [], [], [], [], false, oh_kc)
def tb_J7_rangeCheck_23922 : List IR := [
  (0, .iload_n 1, 1, 1, []), (1, .iload_n 2, 1, 2, []), (2, .if_icmp .le 44, 3, 5, [(0, 46)]), (5, .new 43, 3, 8, []), (8, .dup, 1, 9, []), (9, .new 45, 3, 12, []),
  (12, .dup, 1, 13, []), (13, .invokespecial 47, 3, 16, []), (16, .ldc 48, 2, 18, []), (18, .invokevirtual 50, 3, 21, []), (21, .iload_n 1, 1, 22, []), (22, .invokevirtual 54, 3, 25, []),
  (25, .ldc 57, 2, 27, []), (27, .invokevirtual 50, 3, 30, []), (30, .iload_n 2, 1, 31, []), (31, .invokevirtual 54, 3, 34, []), (34, .ldc 59, 2, 36, []), (36, .invokevirtual 50, 3, 39, []),
  (39, .invokevirtual 61, 3, 42, []), (42, .invokespecial 65, 3, 45, []), (45, .athrow, 1, 46, []), (46, .iload_n 1, 1, 47, []), (47, .ifCond .ge 12, 3, 50, [(0, 59)]), (50, .new 68, 3, 53, []),
  (53, .dup, 1, 54, []), (54, .iload_n 1, 1, 55, []), (55, .invokespecial 70, 3, 58, []), (58, .athrow, 1, 59, []), (59, .iload_n 2, 1, 60, []), (60, .iload_n 0, 1, 61, []),
  (61, .if_icmp .le 12, 3, 64, [(0, 73)]), (64, .new 68, 3, 67, []), (67, .dup, 1, 68, []), (68, .iload_n 2, 1, 69, []), (69, .invokespecial 70, 3, 72, []), (72, .athrow, 1, 73, []),
  (73, .return_, 1, 74, [])]
def pg_J7_rangeCheck_23922 : PG := (tb_J7_rangeCheck_23922, [], [], [], [], false, oh_kc)
def tb_J7_fill_53178 : List IR := [
  (0, .iconst 0, 1, 1, []), (1, .istore_n 2, 1, 2, []), (2, .aload_n 0, 1, 3, []), (3, .arraylength, 1, 4, []), (4, .istore_n 3, 1, 5, []), (5, .iload_n 2, 1, 6, []),
  (6, .iload_n 3, 1, 7, []), (7, .if_icmp .ge 13, 3, 10, [(0, 20)]), (10, .aload_n 0, 1, 11, []), (11, .iload_n 2, 1, 12, []), (12, .iload_n 1, 1, 13, []), (13, .iastore, 1, 14, []),
  (14, .iinc 2 1, 3, 17, []), (17, .goto (-12), 3, 20, [(0, 5)]), (20, .return_, 1, 21, [])]
def pg_J7_fill_53178 : PG := (tb_J7_fill_53178, [], [], [], [], false, oh_kc)
def tb_J7_fill_fda19 : List IR := [
  (0, .aload_n 0, 1, 1, []), (1, .arraylength, 1, 2, []), (2, .iload_n 1, 1, 3, []), (3, .iload_n 2, 1, 4, []), (4, .invokestatic 13, 3, 7, []), (7, .iload_n 1, 1, 8, []),
  (8, .istore 4, 2, 10, []), (10, .iload 4, 2, 12, []), (12, .iload_n 2, 1, 13, []), (13, .if_icmp .ge 14, 3, 16, [(0, 27)]), (16, .aload_n 0, 1, 17, []), (17, .iload 4, 2, 19, []),
  (19, .iload_n 3, 1, 20, []), (20, .iastore, 1, 21, []), (21, .iinc 4 1, 3, 24, []), (24, .goto (-14), 3, 27, [(0, 10)]), (27, .return_, 1, 28, [])]
def pg_J7_fill_fda19 (T1 : Tr) : PG := (tb_J7_fill_fda19, [], [], [], [(13, 3, T1)], false, oh_kc)
def tb_L_law_0 : List IR := [
  (0, .new 7, 3, 3, []), (3, .dup, 1, 4, []), (4, .invokespecial 9, 3, 7, []), (7, .astore_n 1, 1, 8, []), (8, .new 10, 3, 11, []), (11, .dup, 1, 12, []),
  (12, .invokespecial 12, 3, 15, []), (15, .astore_n 2, 1, 16, []), (16, .iconst 0, 1, 17, []), (17, .istore_n 3, 1, 18, []), (18, .iload_n 3, 1, 19, []), (19, .aload_n 0, 1, 20, []),
  (20, .arraylength, 1, 21, []), (21, .bipush 6, 2, 23, []), (23, .isub, 1, 24, []), (24, .if_icmp .gt 1371, 3, 27, [(0, 1395)]), (27, .aload_n 0, 1, 28, []), (28, .iload_n 3, 1, 29, []),
  (29, .iaload, 1, 30, []), (30, .bipush 63, 2, 32, []), (32, .iand, 1, 33, []), (33, .tableswitch 1356 0 39 #[175, 208, 231, 254, 277, 300, 333, 376, 409, 442, 475, 508, 531, 554, 577, 590, 613, 626, 669, 702, 735, 768, 811, 844, 897, 910, 933, 946, 979, 1022, 1035, 1048, 1061, 1104, 1127, 1180, 1223, 1286, 1319, 1342], 175, 208, [(0, 1389), (0, 208), (1, 241), (2, 264), (3, 287), (4, 310), (5, 333), (6, 366), (7, 409), (8, 442), (9, 475), (10, 508), (11, 541), (12, 564), (13, 587), (14, 610), (15, 623), (16, 646), (17, 659), (18, 702), (19, 735), (20, 768), (21, 801), (22, 844), (23, 877), (24, 930), (25, 943), (26, 966), (27, 979), (28, 1012), (29, 1055), (30, 1068), (31, 1081), (32, 1094), (33, 1137), (34, 1160), (35, 1213), (36, 1256), (37, 1319), (38, 1352), (39, 1375)]), (208, .aload_n 1, 1, 209, []), (209, .aload_n 0, 1, 210, []),
  (210, .iload_n 3, 1, 211, []), (211, .iconst 1, 1, 212, []), (212, .iadd, 1, 213, []), (213, .iaload, 1, 214, []), (214, .aload_n 0, 1, 215, []), (215, .iload_n 3, 1, 216, []),
  (216, .iconst 2, 1, 217, []), (217, .iadd, 1, 218, []), (218, .iaload, 1, 219, []), (219, .invokevirtual 13, 3, 222, []), (222, .aload_n 2, 1, 223, []), (223, .aload_n 0, 1, 224, []),
  (224, .iload_n 3, 1, 225, []), (225, .iconst 1, 1, 226, []), (226, .iadd, 1, 227, []), (227, .iaload, 1, 228, []), (228, .aload_n 0, 1, 229, []), (229, .iload_n 3, 1, 230, []),
  (230, .iconst 2, 1, 231, []), (231, .iadd, 1, 232, []), (232, .iaload, 1, 233, []), (233, .invokevirtual 17, 3, 236, []), (236, .if_icmp .eq 1153, 3, 239, [(0, 1389)]), (239, .iconst 0, 1, 240, []),
  (240, .ireturn, 1, 241, []), (241, .aload_n 1, 1, 242, []), (242, .aload_n 0, 1, 243, []), (243, .iload_n 3, 1, 244, []), (244, .iconst 1, 1, 245, []), (245, .iadd, 1, 246, []),
  (246, .iaload, 1, 247, []), (247, .invokevirtual 18, 3, 250, []), (250, .aload_n 2, 1, 251, []), (251, .aload_n 0, 1, 252, []), (252, .iload_n 3, 1, 253, []), (253, .iconst 1, 1, 254, []),
  (254, .iadd, 1, 255, []), (255, .iaload, 1, 256, []), (256, .invokevirtual 22, 3, 259, []), (259, .if_icmp .eq 1130, 3, 262, [(0, 1389)]), (262, .iconst 0, 1, 263, []), (263, .ireturn, 1, 264, []),
  (264, .aload_n 1, 1, 265, []), (265, .aload_n 0, 1, 266, []), (266, .iload_n 3, 1, 267, []), (267, .iconst 1, 1, 268, []), (268, .iadd, 1, 269, []), (269, .iaload, 1, 270, []),
  (270, .invokevirtual 23, 3, 273, []), (273, .aload_n 2, 1, 274, []), (274, .aload_n 0, 1, 275, []), (275, .iload_n 3, 1, 276, []), (276, .iconst 1, 1, 277, []), (277, .iadd, 1, 278, []),
  (278, .iaload, 1, 279, []), (279, .invokevirtual 26, 3, 282, []), (282, .if_icmp .eq 1107, 3, 285, [(0, 1389)]), (285, .iconst 0, 1, 286, []), (286, .ireturn, 1, 287, []), (287, .aload_n 1, 1, 288, []),
  (288, .aload_n 0, 1, 289, []), (289, .iload_n 3, 1, 290, []), (290, .iconst 1, 1, 291, []), (291, .iadd, 1, 292, []), (292, .iaload, 1, 293, []), (293, .invokevirtual 27, 3, 296, []),
  (296, .aload_n 2, 1, 297, []), (297, .aload_n 0, 1, 298, []), (298, .iload_n 3, 1, 299, []), (299, .iconst 1, 1, 300, []), (300, .iadd, 1, 301, []), (301, .iaload, 1, 302, []),
  (302, .invokevirtual 30, 3, 305, []), (305, .if_icmp .eq 1084, 3, 308, [(0, 1389)]), (308, .iconst 0, 1, 309, []), (309, .ireturn, 1, 310, []), (310, .aload_n 1, 1, 311, []), (311, .aload_n 0, 1, 312, []),
  (312, .iload_n 3, 1, 313, []), (313, .iconst 1, 1, 314, []), (314, .iadd, 1, 315, []), (315, .iaload, 1, 316, []), (316, .invokevirtual 31, 3, 319, []), (319, .aload_n 2, 1, 320, []),
  (320, .aload_n 0, 1, 321, []), (321, .iload_n 3, 1, 322, []), (322, .iconst 1, 1, 323, []), (323, .iadd, 1, 324, []), (324, .iaload, 1, 325, []), (325, .invokevirtual 34, 3, 328, []),
  (328, .if_icmp .eq 1061, 3, 331, [(0, 1389)]), (331, .iconst 0, 1, 332, []), (332, .ireturn, 1, 333, []), (333, .aload_n 1, 1, 334, []), (334, .aload_n 0, 1, 335, []), (335, .iload_n 3, 1, 336, [])]
def tb_L_law_1 : List IR := [
  (336, .iconst 1, 1, 337, []), (337, .iadd, 1, 338, []), (338, .iaload, 1, 339, []), (339, .aload_n 0, 1, 340, []), (340, .iload_n 3, 1, 341, []), (341, .iconst 2, 1, 342, []),
  (342, .iadd, 1, 343, []), (343, .iaload, 1, 344, []), (344, .invokevirtual 35, 3, 347, []), (347, .aload_n 2, 1, 348, []), (348, .aload_n 0, 1, 349, []), (349, .iload_n 3, 1, 350, []),
  (350, .iconst 1, 1, 351, []), (351, .iadd, 1, 352, []), (352, .iaload, 1, 353, []), (353, .aload_n 0, 1, 354, []), (354, .iload_n 3, 1, 355, []), (355, .iconst 2, 1, 356, []),
  (356, .iadd, 1, 357, []), (357, .iaload, 1, 358, []), (358, .invokevirtual 38, 3, 361, []), (361, .if_icmp .eq 1028, 3, 364, [(0, 1389)]), (364, .iconst 0, 1, 365, []), (365, .ireturn, 1, 366, []),
  (366, .aload_n 1, 1, 367, []), (367, .aload_n 0, 1, 368, []), (368, .iload_n 3, 1, 369, []), (369, .iconst 1, 1, 370, []), (370, .iadd, 1, 371, []), (371, .iaload, 1, 372, []),
  (372, .aload_n 0, 1, 373, []), (373, .iload_n 3, 1, 374, []), (374, .iconst 2, 1, 375, []), (375, .iadd, 1, 376, []), (376, .iaload, 1, 377, []), (377, .aload_n 0, 1, 378, []),
  (378, .iload_n 3, 1, 379, []), (379, .iconst 3, 1, 380, []), (380, .iadd, 1, 381, []), (381, .iaload, 1, 382, []), (382, .invokevirtual 39, 3, 385, []), (385, .aload_n 2, 1, 386, []),
  (386, .aload_n 0, 1, 387, []), (387, .iload_n 3, 1, 388, []), (388, .iconst 1, 1, 389, []), (389, .iadd, 1, 390, []), (390, .iaload, 1, 391, []), (391, .aload_n 0, 1, 392, []),
  (392, .iload_n 3, 1, 393, []), (393, .iconst 2, 1, 394, []), (394, .iadd, 1, 395, []), (395, .iaload, 1, 396, []), (396, .aload_n 0, 1, 397, []), (397, .iload_n 3, 1, 398, []),
  (398, .iconst 3, 1, 399, []), (399, .iadd, 1, 400, []), (400, .iaload, 1, 401, []), (401, .invokevirtual 43, 3, 404, []), (404, .if_icmp .eq 985, 3, 407, [(0, 1389)]), (407, .iconst 0, 1, 408, []),
  (408, .ireturn, 1, 409, []), (409, .aload_n 1, 1, 410, []), (410, .aload_n 0, 1, 411, []), (411, .iload_n 3, 1, 412, []), (412, .iconst 1, 1, 413, []), (413, .iadd, 1, 414, []),
  (414, .iaload, 1, 415, []), (415, .aload_n 0, 1, 416, []), (416, .iload_n 3, 1, 417, []), (417, .iconst 2, 1, 418, []), (418, .iadd, 1, 419, []), (419, .iaload, 1, 420, []),
  (420, .invokevirtual 44, 3, 423, []), (423, .aload_n 2, 1, 424, []), (424, .aload_n 0, 1, 425, []), (425, .iload_n 3, 1, 426, []), (426, .iconst 1, 1, 427, []), (427, .iadd, 1, 428, []),
  (428, .iaload, 1, 429, []), (429, .aload_n 0, 1, 430, []), (430, .iload_n 3, 1, 431, []), (431, .iconst 2, 1, 432, []), (432, .iadd, 1, 433, []), (433, .iaload, 1, 434, []),
  (434, .invokevirtual 47, 3, 437, []), (437, .if_icmp .eq 952, 3, 440, [(0, 1389)]), (440, .iconst 0, 1, 441, []), (441, .ireturn, 1, 442, []), (442, .aload_n 1, 1, 443, []), (443, .aload_n 0, 1, 444, []),
  (444, .iload_n 3, 1, 445, []), (445, .iconst 1, 1, 446, []), (446, .iadd, 1, 447, []), (447, .iaload, 1, 448, []), (448, .aload_n 0, 1, 449, []), (449, .iload_n 3, 1, 450, []),
  (450, .iconst 2, 1, 451, []), (451, .iadd, 1, 452, []), (452, .iaload, 1, 453, []), (453, .invokevirtual 48, 3, 456, []), (456, .aload_n 2, 1, 457, []), (457, .aload_n 0, 1, 458, []),
  (458, .iload_n 3, 1, 459, []), (459, .iconst 1, 1, 460, []), (460, .iadd, 1, 461, []), (461, .iaload, 1, 462, []), (462, .aload_n 0, 1, 463, []), (463, .iload_n 3, 1, 464, []),
  (464, .iconst 2, 1, 465, []), (465, .iadd, 1, 466, []), (466, .iaload, 1, 467, []), (467, .invokevirtual 51, 3, 470, []), (470, .if_icmp .eq 919, 3, 473, [(0, 1389)]), (473, .iconst 0, 1, 474, []),
  (474, .ireturn, 1, 475, []), (475, .aload_n 1, 1, 476, []), (476, .aload_n 0, 1, 477, []), (477, .iload_n 3, 1, 478, []), (478, .iconst 1, 1, 479, []), (479, .iadd, 1, 480, [])]
def tb_L_law_2 : List IR := [
  (480, .iaload, 1, 481, []), (481, .aload_n 0, 1, 482, []), (482, .iload_n 3, 1, 483, []), (483, .iconst 2, 1, 484, []), (484, .iadd, 1, 485, []), (485, .iaload, 1, 486, []),
  (486, .invokevirtual 52, 3, 489, []), (489, .aload_n 2, 1, 490, []), (490, .aload_n 0, 1, 491, []), (491, .iload_n 3, 1, 492, []), (492, .iconst 1, 1, 493, []), (493, .iadd, 1, 494, []),
  (494, .iaload, 1, 495, []), (495, .aload_n 0, 1, 496, []), (496, .iload_n 3, 1, 497, []), (497, .iconst 2, 1, 498, []), (498, .iadd, 1, 499, []), (499, .iaload, 1, 500, []),
  (500, .invokevirtual 55, 3, 503, []), (503, .if_icmp .eq 886, 3, 506, [(0, 1389)]), (506, .iconst 0, 1, 507, []), (507, .ireturn, 1, 508, []), (508, .aload_n 1, 1, 509, []), (509, .aload_n 0, 1, 510, []),
  (510, .iload_n 3, 1, 511, []), (511, .iconst 1, 1, 512, []), (512, .iadd, 1, 513, []), (513, .iaload, 1, 514, []), (514, .aload_n 0, 1, 515, []), (515, .iload_n 3, 1, 516, []),
  (516, .iconst 2, 1, 517, []), (517, .iadd, 1, 518, []), (518, .iaload, 1, 519, []), (519, .invokevirtual 56, 3, 522, []), (522, .aload_n 2, 1, 523, []), (523, .aload_n 0, 1, 524, []),
  (524, .iload_n 3, 1, 525, []), (525, .iconst 1, 1, 526, []), (526, .iadd, 1, 527, []), (527, .iaload, 1, 528, []), (528, .aload_n 0, 1, 529, []), (529, .iload_n 3, 1, 530, []),
  (530, .iconst 2, 1, 531, []), (531, .iadd, 1, 532, []), (532, .iaload, 1, 533, []), (533, .invokevirtual 59, 3, 536, []), (536, .if_icmp .eq 853, 3, 539, [(0, 1389)]), (539, .iconst 0, 1, 540, []),
  (540, .ireturn, 1, 541, []), (541, .aload_n 1, 1, 542, []), (542, .aload_n 0, 1, 543, []), (543, .iload_n 3, 1, 544, []), (544, .iconst 1, 1, 545, []), (545, .iadd, 1, 546, []),
  (546, .iaload, 1, 547, []), (547, .invokevirtual 60, 3, 550, []), (550, .aload_n 2, 1, 551, []), (551, .aload_n 0, 1, 552, []), (552, .iload_n 3, 1, 553, []), (553, .iconst 1, 1, 554, []),
  (554, .iadd, 1, 555, []), (555, .iaload, 1, 556, []), (556, .invokevirtual 63, 3, 559, []), (559, .if_icmp .eq 830, 3, 562, [(0, 1389)]), (562, .iconst 0, 1, 563, []), (563, .ireturn, 1, 564, []),
  (564, .aload_n 1, 1, 565, []), (565, .aload_n 0, 1, 566, []), (566, .iload_n 3, 1, 567, []), (567, .iconst 1, 1, 568, []), (568, .iadd, 1, 569, []), (569, .iaload, 1, 570, []),
  (570, .invokevirtual 64, 3, 573, []), (573, .aload_n 2, 1, 574, []), (574, .aload_n 0, 1, 575, []), (575, .iload_n 3, 1, 576, []), (576, .iconst 1, 1, 577, []), (577, .iadd, 1, 578, []),
  (578, .iaload, 1, 579, []), (579, .invokevirtual 67, 3, 582, []), (582, .if_icmp .eq 807, 3, 585, [(0, 1389)]), (585, .iconst 0, 1, 586, []), (586, .ireturn, 1, 587, []), (587, .aload_n 1, 1, 588, []),
  (588, .aload_n 0, 1, 589, []), (589, .iload_n 3, 1, 590, []), (590, .iconst 1, 1, 591, []), (591, .iadd, 1, 592, []), (592, .iaload, 1, 593, []), (593, .invokevirtual 68, 3, 596, []),
  (596, .aload_n 2, 1, 597, []), (597, .aload_n 0, 1, 598, []), (598, .iload_n 3, 1, 599, []), (599, .iconst 1, 1, 600, []), (600, .iadd, 1, 601, []), (601, .iaload, 1, 602, []),
  (602, .invokevirtual 71, 3, 605, []), (605, .if_icmp .eq 784, 3, 608, [(0, 1389)]), (608, .iconst 0, 1, 609, []), (609, .ireturn, 1, 610, []), (610, .aload_n 1, 1, 611, []), (611, .invokevirtual 72, 3, 614, []),
  (614, .aload_n 2, 1, 615, []), (615, .invokevirtual 76, 3, 618, []), (618, .if_icmp .eq 771, 3, 621, [(0, 1389)]), (621, .iconst 0, 1, 622, []), (622, .ireturn, 1, 623, []), (623, .aload_n 1, 1, 624, []),
  (624, .aload_n 0, 1, 625, []), (625, .iload_n 3, 1, 626, []), (626, .iconst 1, 1, 627, []), (627, .iadd, 1, 628, []), (628, .iaload, 1, 629, []), (629, .invokevirtual 77, 3, 632, []),
  (632, .aload_n 2, 1, 633, []), (633, .aload_n 0, 1, 634, []), (634, .iload_n 3, 1, 635, []), (635, .iconst 1, 1, 636, []), (636, .iadd, 1, 637, []), (637, .iaload, 1, 638, [])]
def tb_L_law_3 : List IR := [
  (638, .invokevirtual 80, 3, 641, []), (641, .if_icmp .eq 748, 3, 644, [(0, 1389)]), (644, .iconst 0, 1, 645, []), (645, .ireturn, 1, 646, []), (646, .aload_n 1, 1, 647, []), (647, .invokevirtual 81, 3, 650, []),
  (650, .aload_n 2, 1, 651, []), (651, .invokevirtual 84, 3, 654, []), (654, .if_icmp .eq 735, 3, 657, [(0, 1389)]), (657, .iconst 0, 1, 658, []), (658, .ireturn, 1, 659, []), (659, .aload_n 1, 1, 660, []),
  (660, .aload_n 0, 1, 661, []), (661, .iload_n 3, 1, 662, []), (662, .iconst 1, 1, 663, []), (663, .iadd, 1, 664, []), (664, .iaload, 1, 665, []), (665, .aload_n 0, 1, 666, []),
  (666, .iload_n 3, 1, 667, []), (667, .iconst 2, 1, 668, []), (668, .iadd, 1, 669, []), (669, .iaload, 1, 670, []), (670, .aload_n 0, 1, 671, []), (671, .iload_n 3, 1, 672, []),
  (672, .iconst 3, 1, 673, []), (673, .iadd, 1, 674, []), (674, .iaload, 1, 675, []), (675, .invokevirtual 85, 3, 678, []), (678, .aload_n 2, 1, 679, []), (679, .aload_n 0, 1, 680, []),
  (680, .iload_n 3, 1, 681, []), (681, .iconst 1, 1, 682, []), (682, .iadd, 1, 683, []), (683, .iaload, 1, 684, []), (684, .aload_n 0, 1, 685, []), (685, .iload_n 3, 1, 686, []),
  (686, .iconst 2, 1, 687, []), (687, .iadd, 1, 688, []), (688, .iaload, 1, 689, []), (689, .aload_n 0, 1, 690, []), (690, .iload_n 3, 1, 691, []), (691, .iconst 3, 1, 692, []),
  (692, .iadd, 1, 693, []), (693, .iaload, 1, 694, []), (694, .invokevirtual 88, 3, 697, []), (697, .if_icmp .eq 692, 3, 700, [(0, 1389)]), (700, .iconst 0, 1, 701, []), (701, .ireturn, 1, 702, []),
  (702, .aload_n 1, 1, 703, []), (703, .aload_n 0, 1, 704, []), (704, .iload_n 3, 1, 705, []), (705, .iconst 1, 1, 706, []), (706, .iadd, 1, 707, []), (707, .iaload, 1, 708, []),
  (708, .aload_n 0, 1, 709, []), (709, .iload_n 3, 1, 710, []), (710, .iconst 2, 1, 711, []), (711, .iadd, 1, 712, []), (712, .iaload, 1, 713, []), (713, .invokevirtual 89, 3, 716, []),
  (716, .aload_n 2, 1, 717, []), (717, .aload_n 0, 1, 718, []), (718, .iload_n 3, 1, 719, []), (719, .iconst 1, 1, 720, []), (720, .iadd, 1, 721, []), (721, .iaload, 1, 722, []),
  (722, .aload_n 0, 1, 723, []), (723, .iload_n 3, 1, 724, []), (724, .iconst 2, 1, 725, []), (725, .iadd, 1, 726, []), (726, .iaload, 1, 727, []), (727, .invokevirtual 92, 3, 730, []),
  (730, .if_icmp .eq 659, 3, 733, [(0, 1389)]), (733, .iconst 0, 1, 734, []), (734, .ireturn, 1, 735, []), (735, .aload_n 1, 1, 736, []), (736, .aload_n 0, 1, 737, []), (737, .iload_n 3, 1, 738, []),
  (738, .iconst 1, 1, 739, []), (739, .iadd, 1, 740, []), (740, .iaload, 1, 741, []), (741, .aload_n 0, 1, 742, []), (742, .iload_n 3, 1, 743, []), (743, .iconst 2, 1, 744, []),
  (744, .iadd, 1, 745, []), (745, .iaload, 1, 746, []), (746, .invokevirtual 93, 3, 749, []), (749, .aload_n 2, 1, 750, []), (750, .aload_n 0, 1, 751, []), (751, .iload_n 3, 1, 752, []),
  (752, .iconst 1, 1, 753, []), (753, .iadd, 1, 754, []), (754, .iaload, 1, 755, []), (755, .aload_n 0, 1, 756, []), (756, .iload_n 3, 1, 757, []), (757, .iconst 2, 1, 758, []),
  (758, .iadd, 1, 759, []), (759, .iaload, 1, 760, []), (760, .invokevirtual 96, 3, 763, []), (763, .if_icmp .eq 626, 3, 766, [(0, 1389)]), (766, .iconst 0, 1, 767, []), (767, .ireturn, 1, 768, []),
  (768, .aload_n 1, 1, 769, []), (769, .aload_n 0, 1, 770, []), (770, .iload_n 3, 1, 771, []), (771, .iconst 1, 1, 772, []), (772, .iadd, 1, 773, []), (773, .iaload, 1, 774, []),
  (774, .aload_n 0, 1, 775, []), (775, .iload_n 3, 1, 776, []), (776, .iconst 2, 1, 777, []), (777, .iadd, 1, 778, []), (778, .iaload, 1, 779, []), (779, .invokevirtual 97, 3, 782, []),
  (782, .aload_n 2, 1, 783, []), (783, .aload_n 0, 1, 784, []), (784, .iload_n 3, 1, 785, []), (785, .iconst 1, 1, 786, []), (786, .iadd, 1, 787, []), (787, .iaload, 1, 788, [])]
def tb_L_law_4 : List IR := [
  (788, .aload_n 0, 1, 789, []), (789, .iload_n 3, 1, 790, []), (790, .iconst 2, 1, 791, []), (791, .iadd, 1, 792, []), (792, .iaload, 1, 793, []), (793, .invokevirtual 100, 3, 796, []),
  (796, .if_icmp .eq 593, 3, 799, [(0, 1389)]), (799, .iconst 0, 1, 800, []), (800, .ireturn, 1, 801, []), (801, .aload_n 1, 1, 802, []), (802, .aload_n 0, 1, 803, []), (803, .iload_n 3, 1, 804, []),
  (804, .iconst 1, 1, 805, []), (805, .iadd, 1, 806, []), (806, .iaload, 1, 807, []), (807, .aload_n 0, 1, 808, []), (808, .iload_n 3, 1, 809, []), (809, .iconst 2, 1, 810, []),
  (810, .iadd, 1, 811, []), (811, .iaload, 1, 812, []), (812, .aload_n 0, 1, 813, []), (813, .iload_n 3, 1, 814, []), (814, .iconst 3, 1, 815, []), (815, .iadd, 1, 816, []),
  (816, .iaload, 1, 817, []), (817, .invokevirtual 101, 3, 820, []), (820, .aload_n 2, 1, 821, []), (821, .aload_n 0, 1, 822, []), (822, .iload_n 3, 1, 823, []), (823, .iconst 1, 1, 824, []),
  (824, .iadd, 1, 825, []), (825, .iaload, 1, 826, []), (826, .aload_n 0, 1, 827, []), (827, .iload_n 3, 1, 828, []), (828, .iconst 2, 1, 829, []), (829, .iadd, 1, 830, []),
  (830, .iaload, 1, 831, []), (831, .aload_n 0, 1, 832, []), (832, .iload_n 3, 1, 833, []), (833, .iconst 3, 1, 834, []), (834, .iadd, 1, 835, []), (835, .iaload, 1, 836, []),
  (836, .invokevirtual 104, 3, 839, []), (839, .if_icmp .eq 550, 3, 842, [(0, 1389)]), (842, .iconst 0, 1, 843, []), (843, .ireturn, 1, 844, []), (844, .aload_n 1, 1, 845, []), (845, .aload_n 0, 1, 846, []),
  (846, .iload_n 3, 1, 847, []), (847, .iconst 1, 1, 848, []), (848, .iadd, 1, 849, []), (849, .iaload, 1, 850, []), (850, .aload_n 0, 1, 851, []), (851, .iload_n 3, 1, 852, []),
  (852, .iconst 2, 1, 853, []), (853, .iadd, 1, 854, []), (854, .iaload, 1, 855, []), (855, .invokevirtual 105, 3, 858, []), (858, .aload_n 2, 1, 859, []), (859, .aload_n 0, 1, 860, []),
  (860, .iload_n 3, 1, 861, []), (861, .iconst 1, 1, 862, []), (862, .iadd, 1, 863, []), (863, .iaload, 1, 864, []), (864, .aload_n 0, 1, 865, []), (865, .iload_n 3, 1, 866, []),
  (866, .iconst 2, 1, 867, []), (867, .iadd, 1, 868, []), (868, .iaload, 1, 869, []), (869, .invokevirtual 108, 3, 872, []), (872, .if_icmp .eq 517, 3, 875, [(0, 1389)]), (875, .iconst 0, 1, 876, []),
  (876, .ireturn, 1, 877, []), (877, .aload_n 1, 1, 878, []), (878, .aload_n 0, 1, 879, []), (879, .iload_n 3, 1, 880, []), (880, .iconst 1, 1, 881, []), (881, .iadd, 1, 882, []),
  (882, .iaload, 1, 883, []), (883, .aload_n 0, 1, 884, []), (884, .iload_n 3, 1, 885, []), (885, .iconst 2, 1, 886, []), (886, .iadd, 1, 887, []), (887, .iaload, 1, 888, []),
  (888, .aload_n 0, 1, 889, []), (889, .iload_n 3, 1, 890, []), (890, .iconst 3, 1, 891, []), (891, .iadd, 1, 892, []), (892, .iaload, 1, 893, []), (893, .aload_n 0, 1, 894, []),
  (894, .iload_n 3, 1, 895, []), (895, .iconst 4, 1, 896, []), (896, .iadd, 1, 897, []), (897, .iaload, 1, 898, []), (898, .invokevirtual 109, 3, 901, []), (901, .aload_n 2, 1, 902, []),
  (902, .aload_n 0, 1, 903, []), (903, .iload_n 3, 1, 904, []), (904, .iconst 1, 1, 905, []), (905, .iadd, 1, 906, []), (906, .iaload, 1, 907, []), (907, .aload_n 0, 1, 908, []),
  (908, .iload_n 3, 1, 909, []), (909, .iconst 2, 1, 910, []), (910, .iadd, 1, 911, []), (911, .iaload, 1, 912, []), (912, .aload_n 0, 1, 913, []), (913, .iload_n 3, 1, 914, []),
  (914, .iconst 3, 1, 915, []), (915, .iadd, 1, 916, []), (916, .iaload, 1, 917, []), (917, .aload_n 0, 1, 918, []), (918, .iload_n 3, 1, 919, []), (919, .iconst 4, 1, 920, []),
  (920, .iadd, 1, 921, []), (921, .iaload, 1, 922, []), (922, .invokevirtual 113, 3, 925, []), (925, .if_icmp .eq 464, 3, 928, [(0, 1389)]), (928, .iconst 0, 1, 929, []), (929, .ireturn, 1, 930, [])]
def tb_L_law_5 : List IR := [
  (930, .aload_n 1, 1, 931, []), (931, .invokevirtual 114, 3, 934, []), (934, .aload_n 2, 1, 935, []), (935, .invokevirtual 117, 3, 938, []), (938, .if_icmp .eq 451, 3, 941, [(0, 1389)]), (941, .iconst 0, 1, 942, []),
  (942, .ireturn, 1, 943, []), (943, .aload_n 1, 1, 944, []), (944, .aload_n 0, 1, 945, []), (945, .iload_n 3, 1, 946, []), (946, .iconst 1, 1, 947, []), (947, .iadd, 1, 948, []),
  (948, .iaload, 1, 949, []), (949, .invokevirtual 118, 3, 952, []), (952, .aload_n 2, 1, 953, []), (953, .aload_n 0, 1, 954, []), (954, .iload_n 3, 1, 955, []), (955, .iconst 1, 1, 956, []),
  (956, .iadd, 1, 957, []), (957, .iaload, 1, 958, []), (958, .invokevirtual 121, 3, 961, []), (961, .if_icmp .eq 428, 3, 964, [(0, 1389)]), (964, .iconst 0, 1, 965, []), (965, .ireturn, 1, 966, []),
  (966, .aload_n 1, 1, 967, []), (967, .invokevirtual 122, 3, 970, []), (970, .aload_n 2, 1, 971, []), (971, .invokevirtual 125, 3, 974, []), (974, .if_icmp .eq 415, 3, 977, [(0, 1389)]), (977, .iconst 0, 1, 978, []),
  (978, .ireturn, 1, 979, []), (979, .aload_n 1, 1, 980, []), (980, .aload_n 0, 1, 981, []), (981, .iload_n 3, 1, 982, []), (982, .iconst 1, 1, 983, []), (983, .iadd, 1, 984, []),
  (984, .iaload, 1, 985, []), (985, .aload_n 0, 1, 986, []), (986, .iload_n 3, 1, 987, []), (987, .iconst 2, 1, 988, []), (988, .iadd, 1, 989, []), (989, .iaload, 1, 990, []),
  (990, .invokevirtual 126, 3, 993, []), (993, .aload_n 2, 1, 994, []), (994, .aload_n 0, 1, 995, []), (995, .iload_n 3, 1, 996, []), (996, .iconst 1, 1, 997, []), (997, .iadd, 1, 998, []),
  (998, .iaload, 1, 999, []), (999, .aload_n 0, 1, 1000, []), (1000, .iload_n 3, 1, 1001, []), (1001, .iconst 2, 1, 1002, []), (1002, .iadd, 1, 1003, []), (1003, .iaload, 1, 1004, []),
  (1004, .invokevirtual 129, 3, 1007, []), (1007, .if_icmp .eq 382, 3, 1010, [(0, 1389)]), (1010, .iconst 0, 1, 1011, []), (1011, .ireturn, 1, 1012, []), (1012, .aload_n 1, 1, 1013, []), (1013, .aload_n 0, 1, 1014, []),
  (1014, .iload_n 3, 1, 1015, []), (1015, .iconst 1, 1, 1016, []), (1016, .iadd, 1, 1017, []), (1017, .iaload, 1, 1018, []), (1018, .aload_n 0, 1, 1019, []), (1019, .iload_n 3, 1, 1020, []),
  (1020, .iconst 2, 1, 1021, []), (1021, .iadd, 1, 1022, []), (1022, .iaload, 1, 1023, []), (1023, .aload_n 0, 1, 1024, []), (1024, .iload_n 3, 1, 1025, []), (1025, .iconst 3, 1, 1026, []),
  (1026, .iadd, 1, 1027, []), (1027, .iaload, 1, 1028, []), (1028, .invokevirtual 130, 3, 1031, []), (1031, .aload_n 2, 1, 1032, []), (1032, .aload_n 0, 1, 1033, []), (1033, .iload_n 3, 1, 1034, []),
  (1034, .iconst 1, 1, 1035, []), (1035, .iadd, 1, 1036, []), (1036, .iaload, 1, 1037, []), (1037, .aload_n 0, 1, 1038, []), (1038, .iload_n 3, 1, 1039, []), (1039, .iconst 2, 1, 1040, []),
  (1040, .iadd, 1, 1041, []), (1041, .iaload, 1, 1042, []), (1042, .aload_n 0, 1, 1043, []), (1043, .iload_n 3, 1, 1044, []), (1044, .iconst 3, 1, 1045, []), (1045, .iadd, 1, 1046, []),
  (1046, .iaload, 1, 1047, []), (1047, .invokevirtual 133, 3, 1050, []), (1050, .if_icmp .eq 339, 3, 1053, [(0, 1389)]), (1053, .iconst 0, 1, 1054, []), (1054, .ireturn, 1, 1055, []), (1055, .aload_n 1, 1, 1056, []),
  (1056, .invokevirtual 134, 3, 1059, []), (1059, .aload_n 2, 1, 1060, []), (1060, .invokevirtual 137, 3, 1063, []), (1063, .if_icmp .eq 326, 3, 1066, [(0, 1389)]), (1066, .iconst 0, 1, 1067, []), (1067, .ireturn, 1, 1068, []),
  (1068, .aload_n 1, 1, 1069, []), (1069, .invokevirtual 138, 3, 1072, []), (1072, .aload_n 2, 1, 1073, []), (1073, .invokevirtual 141, 3, 1076, []), (1076, .if_icmp .eq 313, 3, 1079, [(0, 1389)]), (1079, .iconst 0, 1, 1080, []),
  (1080, .ireturn, 1, 1081, []), (1081, .aload_n 1, 1, 1082, []), (1082, .invokevirtual 142, 3, 1085, []), (1085, .aload_n 2, 1, 1086, []), (1086, .invokevirtual 145, 3, 1089, []), (1089, .if_icmp .eq 300, 3, 1092, [(0, 1389)]),
  (1092, .iconst 0, 1, 1093, []), (1093, .ireturn, 1, 1094, []), (1094, .aload_n 1, 1, 1095, []), (1095, .aload_n 0, 1, 1096, []), (1096, .iload_n 3, 1, 1097, []), (1097, .iconst 1, 1, 1098, [])]
def tb_L_law_6 : List IR := [
  (1098, .iadd, 1, 1099, []), (1099, .iaload, 1, 1100, []), (1100, .aload_n 0, 1, 1101, []), (1101, .iload_n 3, 1, 1102, []), (1102, .iconst 2, 1, 1103, []), (1103, .iadd, 1, 1104, []),
  (1104, .iaload, 1, 1105, []), (1105, .aload_n 0, 1, 1106, []), (1106, .iload_n 3, 1, 1107, []), (1107, .iconst 3, 1, 1108, []), (1108, .iadd, 1, 1109, []), (1109, .iaload, 1, 1110, []),
  (1110, .invokevirtual 146, 3, 1113, []), (1113, .aload_n 2, 1, 1114, []), (1114, .aload_n 0, 1, 1115, []), (1115, .iload_n 3, 1, 1116, []), (1116, .iconst 1, 1, 1117, []), (1117, .iadd, 1, 1118, []),
  (1118, .iaload, 1, 1119, []), (1119, .aload_n 0, 1, 1120, []), (1120, .iload_n 3, 1, 1121, []), (1121, .iconst 2, 1, 1122, []), (1122, .iadd, 1, 1123, []), (1123, .iaload, 1, 1124, []),
  (1124, .aload_n 0, 1, 1125, []), (1125, .iload_n 3, 1, 1126, []), (1126, .iconst 3, 1, 1127, []), (1127, .iadd, 1, 1128, []), (1128, .iaload, 1, 1129, []), (1129, .invokevirtual 149, 3, 1132, []),
  (1132, .if_icmp .eq 257, 3, 1135, [(0, 1389)]), (1135, .iconst 0, 1, 1136, []), (1136, .ireturn, 1, 1137, []), (1137, .aload_n 1, 1, 1138, []), (1138, .aload_n 0, 1, 1139, []), (1139, .iload_n 3, 1, 1140, []),
  (1140, .iconst 1, 1, 1141, []), (1141, .iadd, 1, 1142, []), (1142, .iaload, 1, 1143, []), (1143, .invokevirtual 150, 3, 1146, []), (1146, .aload_n 2, 1, 1147, []), (1147, .aload_n 0, 1, 1148, []),
  (1148, .iload_n 3, 1, 1149, []), (1149, .iconst 1, 1, 1150, []), (1150, .iadd, 1, 1151, []), (1151, .iaload, 1, 1152, []), (1152, .invokevirtual 153, 3, 1155, []), (1155, .if_icmp .eq 234, 3, 1158, [(0, 1389)]),
  (1158, .iconst 0, 1, 1159, []), (1159, .ireturn, 1, 1160, []), (1160, .aload_n 1, 1, 1161, []), (1161, .aload_n 0, 1, 1162, []), (1162, .iload_n 3, 1, 1163, []), (1163, .iconst 1, 1, 1164, []),
  (1164, .iadd, 1, 1165, []), (1165, .iaload, 1, 1166, []), (1166, .aload_n 0, 1, 1167, []), (1167, .iload_n 3, 1, 1168, []), (1168, .iconst 2, 1, 1169, []), (1169, .iadd, 1, 1170, []),
  (1170, .iaload, 1, 1171, []), (1171, .aload_n 0, 1, 1172, []), (1172, .iload_n 3, 1, 1173, []), (1173, .iconst 3, 1, 1174, []), (1174, .iadd, 1, 1175, []), (1175, .iaload, 1, 1176, []),
  (1176, .aload_n 0, 1, 1177, []), (1177, .iload_n 3, 1, 1178, []), (1178, .iconst 4, 1, 1179, []), (1179, .iadd, 1, 1180, []), (1180, .iaload, 1, 1181, []), (1181, .invokevirtual 154, 3, 1184, []),
  (1184, .aload_n 2, 1, 1185, []), (1185, .aload_n 0, 1, 1186, []), (1186, .iload_n 3, 1, 1187, []), (1187, .iconst 1, 1, 1188, []), (1188, .iadd, 1, 1189, []), (1189, .iaload, 1, 1190, []),
  (1190, .aload_n 0, 1, 1191, []), (1191, .iload_n 3, 1, 1192, []), (1192, .iconst 2, 1, 1193, []), (1193, .iadd, 1, 1194, []), (1194, .iaload, 1, 1195, []), (1195, .aload_n 0, 1, 1196, []),
  (1196, .iload_n 3, 1, 1197, []), (1197, .iconst 3, 1, 1198, []), (1198, .iadd, 1, 1199, []), (1199, .iaload, 1, 1200, []), (1200, .aload_n 0, 1, 1201, []), (1201, .iload_n 3, 1, 1202, []),
  (1202, .iconst 4, 1, 1203, []), (1203, .iadd, 1, 1204, []), (1204, .iaload, 1, 1205, []), (1205, .invokevirtual 157, 3, 1208, []), (1208, .if_icmp .eq 181, 3, 1211, [(0, 1389)]), (1211, .iconst 0, 1, 1212, []),
  (1212, .ireturn, 1, 1213, []), (1213, .aload_n 1, 1, 1214, []), (1214, .aload_n 0, 1, 1215, []), (1215, .iload_n 3, 1, 1216, []), (1216, .iconst 1, 1, 1217, []), (1217, .iadd, 1, 1218, []),
  (1218, .iaload, 1, 1219, []), (1219, .aload_n 0, 1, 1220, []), (1220, .iload_n 3, 1, 1221, []), (1221, .iconst 2, 1, 1222, []), (1222, .iadd, 1, 1223, []), (1223, .iaload, 1, 1224, []),
  (1224, .aload_n 0, 1, 1225, []), (1225, .iload_n 3, 1, 1226, []), (1226, .iconst 3, 1, 1227, []), (1227, .iadd, 1, 1228, []), (1228, .iaload, 1, 1229, []), (1229, .invokevirtual 158, 3, 1232, []),
  (1232, .aload_n 2, 1, 1233, []), (1233, .aload_n 0, 1, 1234, []), (1234, .iload_n 3, 1, 1235, []), (1235, .iconst 1, 1, 1236, []), (1236, .iadd, 1, 1237, []), (1237, .iaload, 1, 1238, [])]
def tb_L_law_7 : List IR := [
  (1238, .aload_n 0, 1, 1239, []), (1239, .iload_n 3, 1, 1240, []), (1240, .iconst 2, 1, 1241, []), (1241, .iadd, 1, 1242, []), (1242, .iaload, 1, 1243, []), (1243, .aload_n 0, 1, 1244, []),
  (1244, .iload_n 3, 1, 1245, []), (1245, .iconst 3, 1, 1246, []), (1246, .iadd, 1, 1247, []), (1247, .iaload, 1, 1248, []), (1248, .invokevirtual 161, 3, 1251, []), (1251, .if_icmp .eq 138, 3, 1254, [(0, 1389)]),
  (1254, .iconst 0, 1, 1255, []), (1255, .ireturn, 1, 1256, []), (1256, .aload_n 1, 1, 1257, []), (1257, .aload_n 0, 1, 1258, []), (1258, .iload_n 3, 1, 1259, []), (1259, .iconst 1, 1, 1260, []),
  (1260, .iadd, 1, 1261, []), (1261, .iaload, 1, 1262, []), (1262, .aload_n 0, 1, 1263, []), (1263, .iload_n 3, 1, 1264, []), (1264, .iconst 2, 1, 1265, []), (1265, .iadd, 1, 1266, []),
  (1266, .iaload, 1, 1267, []), (1267, .aload_n 0, 1, 1268, []), (1268, .iload_n 3, 1, 1269, []), (1269, .iconst 3, 1, 1270, []), (1270, .iadd, 1, 1271, []), (1271, .iaload, 1, 1272, []),
  (1272, .aload_n 0, 1, 1273, []), (1273, .iload_n 3, 1, 1274, []), (1274, .iconst 4, 1, 1275, []), (1275, .iadd, 1, 1276, []), (1276, .iaload, 1, 1277, []), (1277, .aload_n 0, 1, 1278, []),
  (1278, .iload_n 3, 1, 1279, []), (1279, .iconst 5, 1, 1280, []), (1280, .iadd, 1, 1281, []), (1281, .iaload, 1, 1282, []), (1282, .invokevirtual 162, 3, 1285, []), (1285, .aload_n 2, 1, 1286, []),
  (1286, .aload_n 0, 1, 1287, []), (1287, .iload_n 3, 1, 1288, []), (1288, .iconst 1, 1, 1289, []), (1289, .iadd, 1, 1290, []), (1290, .iaload, 1, 1291, []), (1291, .aload_n 0, 1, 1292, []),
  (1292, .iload_n 3, 1, 1293, []), (1293, .iconst 2, 1, 1294, []), (1294, .iadd, 1, 1295, []), (1295, .iaload, 1, 1296, []), (1296, .aload_n 0, 1, 1297, []), (1297, .iload_n 3, 1, 1298, []),
  (1298, .iconst 3, 1, 1299, []), (1299, .iadd, 1, 1300, []), (1300, .iaload, 1, 1301, []), (1301, .aload_n 0, 1, 1302, []), (1302, .iload_n 3, 1, 1303, []), (1303, .iconst 4, 1, 1304, []),
  (1304, .iadd, 1, 1305, []), (1305, .iaload, 1, 1306, []), (1306, .aload_n 0, 1, 1307, []), (1307, .iload_n 3, 1, 1308, []), (1308, .iconst 5, 1, 1309, []), (1309, .iadd, 1, 1310, []),
  (1310, .iaload, 1, 1311, []), (1311, .invokevirtual 166, 3, 1314, []), (1314, .if_icmp .eq 75, 3, 1317, [(0, 1389)]), (1317, .iconst 0, 1, 1318, []), (1318, .ireturn, 1, 1319, []), (1319, .aload_n 1, 1, 1320, []),
  (1320, .aload_n 0, 1, 1321, []), (1321, .iload_n 3, 1, 1322, []), (1322, .iconst 1, 1, 1323, []), (1323, .iadd, 1, 1324, []), (1324, .iaload, 1, 1325, []), (1325, .aload_n 0, 1, 1326, []),
  (1326, .iload_n 3, 1, 1327, []), (1327, .iconst 2, 1, 1328, []), (1328, .iadd, 1, 1329, []), (1329, .iaload, 1, 1330, []), (1330, .invokevirtual 167, 3, 1333, []), (1333, .aload_n 2, 1, 1334, []),
  (1334, .aload_n 0, 1, 1335, []), (1335, .iload_n 3, 1, 1336, []), (1336, .iconst 1, 1, 1337, []), (1337, .iadd, 1, 1338, []), (1338, .iaload, 1, 1339, []), (1339, .aload_n 0, 1, 1340, []),
  (1340, .iload_n 3, 1, 1341, []), (1341, .iconst 2, 1, 1342, []), (1342, .iadd, 1, 1343, []), (1343, .iaload, 1, 1344, []), (1344, .invokevirtual 170, 3, 1347, []), (1347, .if_icmp .eq 42, 3, 1350, [(0, 1389)]),
  (1350, .iconst 0, 1, 1351, []), (1351, .ireturn, 1, 1352, []), (1352, .aload_n 1, 1, 1353, []), (1353, .aload_n 0, 1, 1354, []), (1354, .iload_n 3, 1, 1355, []), (1355, .iconst 1, 1, 1356, []),
  (1356, .iadd, 1, 1357, []), (1357, .iaload, 1, 1358, []), (1358, .invokevirtual 171, 3, 1361, []), (1361, .aload_n 2, 1, 1362, []), (1362, .aload_n 0, 1, 1363, []), (1363, .iload_n 3, 1, 1364, []),
  (1364, .iconst 1, 1, 1365, []), (1365, .iadd, 1, 1366, []), (1366, .iaload, 1, 1367, []), (1367, .invokevirtual 174, 3, 1370, []), (1370, .if_icmp .eq 19, 3, 1373, [(0, 1389)]), (1373, .iconst 0, 1, 1374, []),
  (1374, .ireturn, 1, 1375, []), (1375, .aload_n 1, 1, 1376, []), (1376, .invokevirtual 175, 3, 1379, []), (1379, .aload_n 2, 1, 1380, []), (1380, .invokevirtual 179, 3, 1383, []), (1383, .lcmp, 1, 1384, [])]
def tb_L_law_8 : List IR := [
  (1384, .ifCond .eq 5, 3, 1387, [(0, 1389)]), (1387, .iconst 0, 1, 1388, []), (1388, .ireturn, 1, 1389, []), (1389, .iinc 3 6, 3, 1392, []), (1392, .goto (-1374), 3, 1395, [(0, 18)]), (1395, .iconst 1, 1, 1396, []),
  (1396, .ireturn, 1, 1397, [])]
def tb_L_law : List IR := tb_L_law_0 ++ (tb_L_law_1 ++ (tb_L_law_2 ++ (tb_L_law_3 ++ (tb_L_law_4 ++ (tb_L_law_5 ++ (tb_L_law_6 ++ (tb_L_law_7 ++ (tb_L_law_8))))))))
def pg_L_law (kc : Nat → Int × (Int → Int)) (T1 T2 T3 T4 T5 T6 T7 T8 T9 T10 T11 T12 T13 T14 T15 T16 T17 T18 T19 T20 T21 T22 T23 T24 T25 T26 T27 T28 T29 T30 T31 T32 T33 T34 T35 T36 T37 T38 T39 T40 T41 T42 T43 T44 T45 T46 T47 T48 T49 T50 T51 T52 T53 T54 T55 T56 T57 T58 T59 T60 T61 T62 T63 T64 T65 T66 T67 T68 T69 T70 T71 T72 T73 T74 T75 T76 T77 T78 T79 T80 T81 T82 : Tr) : PG := (tb_L_law, fl_L, cs_L, ks_L, [(100009, 1, T1), (100012, 1, T2), (100013, 3, T3), (100017, 3, T4), (100018, 2, T5), (100022, 2, T6), (100023, 2, T7), (100026, 2, T8), (100027, 2, T9), (100030, 2, T10), (100031, 2, T11), (100034, 2, T12), (100035, 3, T13), (100038, 3, T14), (100039, 4, T15), (100043, 4, T16), (100044, 3, T17), (100047, 3, T18), (100048, 3, T19), (100051, 3, T20), (100052, 3, T21), (100055, 3, T22), (100056, 3, T23), (100059, 3, T24), (100060, 2, T25), (100063, 2, T26), (100064, 2, T27), (100067, 2, T28), (100068, 2, T29), (100071, 2, T30), (100072, 1, T31), (100076, 1, T32), (100077, 2, T33), (100080, 2, T34), (100081, 1, T35), (100084, 1, T36), (100085, 4, T37), (100088, 4, T38), (100089, 3, T39), (100092, 3, T40), (100093, 3, T41), (100096, 3, T42), (100097, 3, T43), (100100, 3, T44), (100101, 4, T45), (100104, 4, T46), (100105, 3, T47), (100108, 3, T48), (100109, 5, T49), (100113, 5, T50), (100114, 1, T51), (100117, 1, T52), (100118, 2, T53), (100121, 2, T54), (100122, 1, T55), (100125, 1, T56), (100126, 3, T57), (100129, 3, T58), (100130, 4, T59), (100133, 4, T60), (100134, 1, T61), (100137, 1, T62), (100138, 1, T63), (100141, 1, T64), (100142, 1, T65), (100145, 1, T66), (100146, 4, T67), (100149, 4, T68), (100150, 2, T69), (100153, 2, T70), (100154, 5, T71), (100157, 5, T72), (100158, 4, T73), (100161, 4, T74), (100162, 6, T75), (100166, 6, T76), (100167, 3, T77), (100170, 3, T78), (100171, 2, T79), (100174, 2, T80), (100175, 1, T81), (100179, 1, T82)], true, kc)
/-- links to private members of the nest host: they stay over calls, though they are no good words -/
def oh_nest : List Cond := [.methodLinkNest "OthersHours$Text" 55 ⟨"OthersHours", "isBelow", "(II)Z"⟩ "OthersHours", .methodLinkNest "OthersHours$Owners" 47 ⟨"OthersHours", "cell", "(II)I"⟩ "OthersHours", .methodLinkNest "OthersHours$Day" 74 ⟨"OthersHours", "cell", "(II)I"⟩ "OthersHours", .fieldLinkNest "OthersHours$Day" 84 "OthersHours" "TOIL" "[I" "OthersHours", .methodLinkNest "OthersHours$Sheet" 32 ⟨"OthersHours", "isBelow", "(II)Z"⟩ "OthersHours"]
theorem oh_nest_warm {s U : State} (hW : s.WarmedH U.vm) (h : ∀ w ∈ oh_nest, va_Nw w s) : ∀ w ∈ oh_nest, va_Nw w U := by
  intro w hw
  have h1 := h w hw
  simp only [oh_nest, List.mem_cons, List.not_mem_nil, or_false] at hw
  rcases hw with rfl | rfl | rfl | rfl | rfl
  · exact va_Nw.warmM hW h1
  · exact va_Nw.warmM hW h1
  · exact va_Nw.warmM hW h1
  · exact va_Nw.warmF hW h1
  · exact va_Nw.warmM hW h1
theorem oh_nest_same {u U : State} (hv : u.vm = U.vm) (h : ∀ w ∈ oh_nest, va_Nw w u) : ∀ w ∈ oh_nest, va_Nw w U := by
  intro w hw
  have h1 := h w hw
  simp only [oh_nest, List.mem_cons, List.not_mem_nil, or_false] at hw
  rcases hw with rfl | rfl | rfl | rfl | rfl <;> exact va_Nw.same rfl hv h1
end
section
/-! THE WORLD of the small machine as cells of the heap -/
/-- the tables' words that stay good over calls -/
def oh_tbl : List Cond := lw_tbl.filter goodWord
def oh_ids : List (Nat × Nat) := (List.range 42).flatMap (fun s => (List.range (oh_cnt s)).map (fun n => (s, n)))
theorem oh_nth_big {α : Type} {d : α} : ∀ (l : List α) (n : Nat), l.length ≤ n → oh_nth l n d = d
  | [], _, _ => rfl
  | _ :: l, 0, h => absurd h (by simp)
  | _ :: l, n + 1, h => oh_nth_big l n (by simpa using h)
theorem oh_mem {s n : Nat} (h : n < oh_cnt s) : (s, n) ∈ oh_ids := by
  have hs : s < 42 := by
    rcases Nat.lt_or_ge s 42 with q | q
    · exact q
    · have : oh_cnt s = 0 := oh_nth_big oh_cntT s q
      omega
  simp only [oh_ids, List.mem_flatMap, List.mem_range, List.mem_map]
  exact ⟨s, hs, n, h, rfl⟩
theorem oh_mem_cnt {s n : Nat} (h : (s, n) ∈ oh_ids) : n < oh_cnt s := by
  simp only [oh_ids, List.mem_flatMap, List.mem_range, List.mem_map] at h
  obtain ⟨a, -, b, hb, e⟩ := h
  cases e
  exact hb
theorem oh_place {s n : Nat} (h : n < oh_cnt s) : ∃ k : Nat, oh_ids[k]? = some (s, n) := List.mem_iff_getElem?.mp (oh_mem h)
theorem oh_ids_nd : ∀ i, i < 66 → ∀ j, j < 66 → oh_ids[i]? = oh_ids[j]? → i = j := by decide +kernel
theorem oh_ids_66 : oh_ids.length = 66 := by decide +kernel
theorem oh_ids_in {i j : Nat} {q : Nat × Nat} (h : oh_ids[i]? = some q) (h' : oh_ids[j]? = some q) : i = j := by
  have h1 := (List.getElem?_eq_some_iff.mp h).1
  have h2 := (List.getElem?_eq_some_iff.mp h').1
  rw [oh_ids_66] at h1 h2
  exact oh_ids_nd i h1 j h2 (h.trans h'.symm)
/-- the class of a sort of objects, by its number -/
def oh_ci (s : Nat) : Nat := match s with
  | 0 => 0
  | 7 => 1
  | 9 => 2
  | 11 => 3
  | 13 => 4
  | _ => 5
def oh_nf (s : Nat) : Nat := match oh_look oh_ftT s with
  | some l => l.length
  | none => 0
def oh_fv (ad : Nat → Nat → Nat) (μ : Mem) (s n k : Nat) : Value := match oh_ft s k with
  | (2, t, _) => .ref (ad t n)
  | (3, t, c) => .ref (ad t c)
  | _ => .int (Int32.ofInt (μ s n k))
def oh_ar (L : Nat) (f : Int → Int) : vp_A := (L, .inl (fun j => Int32.ofInt (f j)))
def oh_e (ad : Nat → Nat → Nat) (cA : Nat → Nat → ClassId) (μ : Mem) (s n : Nat) : va_E := match oh_len s with
  | some L => .inl (cA s n, oh_ar L.toNat (μ s n))
  | none => match s with
    | 35 => .inl (cA s n, oh_ar 20 (μ s n))
    | 14 => .inl (cA s n, (3, .inr (.inr (.inr (.inr (fun j => some (ad 0 j)))))))
    | 21 => .inl (cA s n, (4, .inr (.inr (.inr (.inr (fun j => some (ad 9 j)))))))
    | _ => .inr (oh_ci s, (List.range (oh_nf s)).map (oh_fv ad μ s n))
def oh_w (ad : Nat → Nat → Nat) (cA : Nat → Nat → ClassId) (μ : Mem) : va_W := oh_ids.map (fun q => (ad q.1 q.2, oh_e ad cA μ q.1 q.2))
def oh_ty (s : Nat) : FieldType := match s with
  | 35 => .boolean
  | 14 => .object "OthersHours$Day"
  | 21 => .object "OthersHours$Sheet"
  | _ => .int
def oh_isA (s : Nat) : Bool := match oh_look oh_ftT s with
  | some _ => false
  | none => true
def oh_tys (cA : Nat → Nat → ClassId) : List (ClassId × FieldType) := (oh_ids.filter (fun q => oh_isA q.1)).map (fun q => (cA q.1 q.2, oh_ty q.1))
theorem oh_tys_at {cA : Nat → Nat → ClassId} {s n : Nat} (h : n < oh_cnt s) (ha : oh_isA s = true) : ∃ k : Nat, (oh_tys cA)[k]? = some (cA s n, oh_ty s) := by
  refine List.mem_iff_getElem?.mp ?_
  refine List.mem_map.mpr ⟨(s, n), List.mem_filter.mpr ⟨oh_mem h, ha⟩, rfl⟩
theorem oh_w_at {ad : Nat → Nat → Nat} {cA : Nat → Nat → ClassId} {μ : Mem} {k s n : Nat} (h : oh_ids[k]? = some (s, n)) : (oh_w ad cA μ)[k]? = some (ad s n, oh_e ad cA μ s n) := by
  simp [oh_w, h]
theorem oh_w_set {ad : Nat → Nat → Nat} {cA : Nat → Nat → ClassId} {μ μ' : Mem} {k s n : Nat} {x : va_E} (h : oh_ids[k]? = some (s, n)) (hx : x = oh_e ad cA μ' s n) (ho : ∀ s' n', ¬ (s' = s ∧ n' = n) → oh_e ad cA μ' s' n' = oh_e ad cA μ s' n') :
    (oh_w ad cA μ).set k (ad s n, x) = oh_w ad cA μ' := by
  subst hx
  apply List.ext_getElem?
  intro i
  simp only [oh_w, List.getElem?_set, List.length_map, List.getElem?_map]
  have hk : k < oh_ids.length := (List.getElem?_eq_some_iff.mp h).1
  by_cases e : k = i
  · subst e
    rw [if_pos rfl, if_pos hk, h]
    rfl
  · rw [if_neg e]
    cases hi : oh_ids[i]? with
    | none => rfl
    | some q =>
      simp only [Option.map_some]
      rw [ho q.1 q.2 ?_]
      rintro ⟨rfl, rfl⟩
      exact e (oh_ids_in h hi)
theorem oh_up_s {μ : Mem} {s n : Nat} {j v : Int} : oh_up μ s n j v s n j = v := by simp [oh_up]
theorem oh_up_o {μ : Mem} {s n s' n' : Nat} {j v j' : Int} (h : ¬ (s' = s ∧ n' = n ∧ j' = j)) : oh_up μ s n j v s' n' j' = μ s' n' j' := by simp [oh_up, h]
theorem oh_e_off {ad : Nat → Nat → Nat} {cA : Nat → Nat → ClassId} {μ μ' : Mem} {s n : Nat} (h : ∀ j, μ' s n j = μ s n j) : oh_e ad cA μ' s n = oh_e ad cA μ s n := by
  have e : μ' s n = μ s n := funext h
  have ef : oh_fv ad μ' s n = oh_fv ad μ s n := by
    funext k
    unfold oh_fv
    rw [e]
  unfold oh_e
  rw [e, ef]
theorem oh_e_up {ad : Nat → Nat → Nat} {cA : Nat → Nat → ClassId} {μ : Mem} {s n : Nat} {j v : Int} : ∀ s' n', ¬ (s' = s ∧ n' = n) → oh_e ad cA (oh_up μ s n j v) s' n' = oh_e ad cA μ s' n' := fun s' n' h => oh_e_off (fun j' => oh_up_o (fun q => h ⟨q.1, q.2.1⟩))
/-- numbers -/
theorem oh_toInt {x : Int} (h : oh_rgI x) : (Int32.ofInt x).toInt = x := by
  obtain ⟨h1, h2⟩ := h
  exact Int32.toInt_ofInt_of_le (by omega) (by omega)
theorem oh_toInt64 {x : Int} (h : oh_rgL x) : (Int64.ofInt x).toInt = x := by
  obtain ⟨h1, h2⟩ := h
  exact Int64.toInt_ofInt_of_le (by omega) (by omega)
theorem oh_rg32 (x : Int32) : oh_rgI x.toInt := ⟨by have := x.le_toInt; omega, by have := x.toInt_lt; omega⟩
theorem oh_rg64 (x : Int64) : oh_rgL x.toInt := ⟨by have := x.le_toInt; omega, by have := x.toInt_lt; omega⟩
theorem oh_eq32 {x y : Int} (hx : oh_rgI x) (hy : oh_rgI y) : Int32.ofInt x = Int32.ofInt y ↔ x = y := by
  rw [← Int32.toInt_inj, oh_toInt hx, oh_toInt hy]
theorem oh_lt32 {x y : Int} (hx : oh_rgI x) (hy : oh_rgI y) : Int32.ofInt x < Int32.ofInt y ↔ x < y := by
  rw [Int32.lt_iff_toInt_lt, oh_toInt hx, oh_toInt hy]
theorem oh_le32 {x y : Int} (hx : oh_rgI x) (hy : oh_rgI y) : Int32.ofInt x ≤ Int32.ofInt y ↔ x ≤ y := by
  rw [Int32.le_iff_toInt_le, oh_toInt hx, oh_toInt hy]
theorem oh_in {i : Int} {L : Nat} (h1 : 0 ≤ i) (h2 : i < L) (hL : L ≤ 2147483647) : vp_in (Int32.ofInt i) L ∧ (Int32.ofInt i).toNatClampNeg = i.toNat := by
  have hr : oh_rgI i := ⟨by omega, by omega⟩
  refine ⟨vp_in_iff.mpr ?_, ?_⟩
  · rw [oh_toInt hr]
    exact ⟨h1, h2⟩
  · show (Int32.ofInt i).toInt.toNat = i.toNat
    rw [oh_toInt hr]
theorem oh_div32 {x y : Int} (hx : oh_rgI x) (hy : oh_rgI y) (h0 : 0 ≤ x) (h1 : 0 < y) : Int32.ofInt x / Int32.ofInt y = Int32.ofInt (x / y) := by
  have hb : x / y ≤ x := Int.ediv_le_self y h0
  have hc : 0 ≤ x / y := Int.ediv_nonneg h0 (Int.le_of_lt h1)
  have hr : oh_rgI (x / y) := ⟨by omega, by have := hx.2; omega⟩
  rw [← Int32.toInt_inj, oh_toInt hr, Int32.toInt_div_of_ne_right, oh_toInt hx, oh_toInt hy, Int.tdiv_eq_ediv_of_nonneg h0]
  intro q
  have := congrArg Int32.toInt q
  rw [oh_toInt hy] at this
  have h3 : (-1 : Int32).toInt = -1 := by decide
  omega
theorem oh_rem32 {x y : Int} (hx : oh_rgI x) (hy : oh_rgI y) (h0 : 0 ≤ x) (h1 : 0 < y) : Int32.ofInt x - Int32.ofInt x / Int32.ofInt y * Int32.ofInt y = Int32.ofInt (x % y) := by
  rw [oh_div32 hx hy h0 h1, ← Int32.ofInt_mul, ← Int32.ofInt_sub]
  congr 1
  have := Int.emod_def x y
  rw [this, Int.mul_comm]
theorem oh_up_wf {μ : Mem} {s n : Nat} {j v : Int} (h : oh_wfM μ) (hv : oh_rgI v) : oh_wfM (oh_up μ s n j v) := by
  intro s' n' j'
  unfold oh_up
  split
  · exact hv
  · exact h _ _ _
/-- values of the small machine as the machine's -/
def oh_re (ad : Nat → Nat → Nat) (tc : Nat → Nat) (v : AV) : Value := match v with
  | Sum.inl x => .int (Int32.ofInt x)
  | Sum.inr (Sum.inl x) => .long (Int64.ofInt x)
  | Sum.inr (Sum.inr (Sum.inl q)) => .ref (ad q.1 q.2)
  | Sum.inr (Sum.inr (Sum.inr c)) => .ref (tc c)
theorem oh_re_cat (ad : Nat → Nat → Nat) (tc : Nat → Nat) (l : List AV) : ((l.map (oh_re ad tc)).map fun v => v.category).sum = oh_cat l := by
  induction l with
  | nil => rfl
  | cons v l ih =>
    rw [List.map_cons, List.map_cons, List.sum_cons, ih]
    rcases v with x | x | q | c <;> simp [oh_re, oh_cat, Value.category] <;> omega
/-- the machine's locals hold those of the small machine -/
def oh_lv (ad : Nat → Nat → Nat) (tc : Nat → Nat) (ls : LV) : List (Nat × Value) := (List.range ls.length).filterMap (fun i => (oh_nth ls i none).map (fun v => (i, oh_re ad tc v)))
theorem oh_nth_lt {ls : LV} {i : Nat} {v : AV} (h : oh_nth ls i none = some v) : i < ls.length := by
  rcases Nat.lt_or_ge i ls.length with q | q
  · exact q
  · rw [oh_nth_big ls i q] at h
    cases h
theorem oh_lv_in {ad : Nat → Nat → Nat} {tc : Nat → Nat} {ls : LV} {i : Nat} {v : AV} (h : oh_nth ls i none = some v) : (i, oh_re ad tc v) ∈ oh_lv ad tc ls := by
  refine List.mem_filterMap.mpr ⟨i, List.mem_range.mpr (oh_nth_lt h), ?_⟩
  rw [h]
  rfl
theorem oh_lv_of {ad : Nat → Nat → Nat} {tc : Nat → Nat} {ls : LV} {q : Nat × Value} (h : q ∈ oh_lv ad tc ls) : ∃ v, oh_nth ls q.1 none = some v ∧ q.2 = oh_re ad tc v := by
  obtain ⟨i, -, hi⟩ := List.mem_filterMap.mp h
  cases hn : oh_nth ls i none with
  | none => rw [hn] at hi; cases hi
  | some v =>
    rw [hn] at hi
    cases hi
    exact ⟨v, hn, rfl⟩
def oh_L (ad : Nat → Nat → Nat) (tc : Nat → Nat) (nL : Nat) (lr : Array Slot) (ls : LV) : Prop := lv_has lr nL (oh_lv ad tc ls)
theorem oh_L_at {ad : Nat → Nat → Nat} {tc : Nat → Nat} {nL : Nat} {lr : Array Slot} {ls : LV} (h : oh_L ad tc nL lr ls) {i : Nat} {v : AV} (hi : oh_nth ls i none = some v) : lr[i]? = some (.val (oh_re ad tc v)) := h.2.2 _ (oh_lv_in hi)
theorem oh_L_of {ad : Nat → Nat → Nat} {tc : Nat → Nat} {nL : Nat} {lr : Array Slot} {ls : LV} {l : List (Nat × Value)} (h : lv_has lr nL l) (hi : ∀ i v, oh_nth ls i none = some v → (i, oh_re ad tc v) ∈ l) : oh_L ad tc nL lr ls := by
  refine ⟨h.1, h.2.1, fun q hq => ?_⟩
  obtain ⟨v, h1, h2⟩ := oh_lv_of hq
  have := h.2.2 _ (hi _ _ h1)
  rw [← h2] at this
  exact this
/-- the list with a place changed -/
def oh_sv : LV → Nat → Option AV → LV
  | [], _, _ => []
  | _ :: l, 0, v => v :: l
  | a :: l, i + 1, v => a :: oh_sv l i v
theorem oh_put_of {v : Option AV} : ∀ (ls : LV) (i : Nat) (k : LV → Prop), oh_put ls i v k → i < ls.length ∧ k (oh_sv ls i v)
  | [], _, _, h => absurd h (by simp [oh_put])
  | _ :: _, 0, _, h => ⟨by simp, h⟩
  | a :: l, i + 1, k, h => by
    obtain ⟨h1, h2⟩ := oh_put_of l i (fun l' => k (a :: l')) h
    exact ⟨by simp; omega, h2⟩
theorem oh_sv_nth {v : Option AV} : ∀ (ls : LV) (i j : Nat), i < ls.length → oh_nth (oh_sv ls i v) j none = if j = i then v else oh_nth ls j none
  | [], _, _, h => absurd h (by simp)
  | _ :: _, 0, 0, _ => rfl
  | _ :: _, 0, _ + 1, _ => by simp [oh_sv, oh_nth]
  | _ :: _, _ + 1, 0, _ => by simp [oh_sv, oh_nth]
  | _ :: l, i + 1, j + 1, h => by
    have := oh_sv_nth (v := v) l i j (by simpa using h)
    simp [oh_sv, oh_nth, this]
theorem oh_sv_len {v : Option AV} : ∀ (ls : LV) (i : Nat), (oh_sv ls i v).length = ls.length
  | [], _ => rfl
  | _ :: _, 0 => rfl
  | _ :: l, i + 1 => by simp [oh_sv, oh_sv_len l i]
def oh_tr : Nat → LV → LV
  | _, [] => []
  | 0, _ :: l => none :: oh_tr 0 l
  | n + 1, a :: l => a :: oh_tr n l
theorem oh_trK_of : ∀ (n : Nat) (ls : LV) (k : LV → Prop), oh_trK n ls k → k (oh_tr n ls)
  | 0, [], _, h => h
  | _ + 1, [], _, h => h
  | 0, a :: l, k, h => oh_trK_of 0 l (fun l' => k (none :: l')) h
  | n + 1, a :: l, k, h => oh_trK_of n l (fun l' => k (a :: l')) h
theorem oh_tr_nth : ∀ (n : Nat) (ls : LV) (i : Nat) (v : AV), oh_nth (oh_tr n ls) i none = some v → oh_nth ls i none = some v
  | _, [], _, _, h => by cases ‹Nat› <;> simp [oh_tr, oh_nth] at h
  | 0, _ :: l, 0, _, h => by simp [oh_tr, oh_nth] at h
  | 0, _ :: l, i + 1, v, h => oh_tr_nth 0 l i v h
  | _ + 1, _ :: _, 0, _, h => h
  | n + 1, _ :: l, i + 1, v, h => oh_tr_nth n l i v h
theorem oh_tr_len : ∀ (n : Nat) (ls : LV), (oh_tr n ls).length = ls.length
  | 0, [] => rfl
  | _ + 1, [] => rfl
  | 0, _ :: l => by simp [oh_tr, oh_tr_len 0 l]
  | n + 1, _ :: l => by simp [oh_tr, oh_tr_len n l]
theorem oh_nth_mem : ∀ (ls : LV) (i : Nat) (v : AV), oh_nth ls i none = some v → some v ∈ ls
  | [], _, _, h => by simp [oh_nth] at h
  | a :: l, 0, v, h => by
    simp [oh_nth] at h
    simp [h]
  | a :: l, i + 1, v, h => List.mem_cons_of_mem _ (oh_nth_mem l i v h)
theorem oh_mem_nth : ∀ (ls : LV) (v : AV), some v ∈ ls → ∃ i, oh_nth ls i none = some v
  | a :: l, v, h => by
    rcases List.mem_cons.mp h with h | h
    · exact ⟨0, h.symm⟩
    · obtain ⟨i, hi⟩ := oh_mem_nth l v h
      exact ⟨i + 1, hi⟩
end
section
/-! THE STEPS: what the small machine asks at an instruction is enough for the machine there -/
theorem oh_b1_of {st : List AV} {k : Int → List AV → Prop} (h : oh_b1 st k) : ∃ x st1, st = oI x :: st1 ∧ k x st1 := by
  unfold oh_b1 at h
  split at h
  · exact ⟨_, _, rfl, h⟩
  · exact h.elim
theorem oh_b2_of {st : List AV} {k : Int → Int → List AV → Prop} (h : oh_b2 st k) : ∃ x y st1, st = oI y :: oI x :: st1 ∧ k x y st1 := by
  unfold oh_b2 at h
  split at h
  · exact ⟨_, _, _, rfl, h⟩
  · exact h.elim
theorem oh_l2_of {st : List AV} {k : Int → Int → List AV → Prop} (h : oh_l2 st k) : ∃ x y st1, st = oL y :: oL x :: st1 ∧ k x y st1 := by
  unfold oh_l2 at h
  split at h
  · exact ⟨_, _, _, rfl, h⟩
  · exact h.elim
theorem oh_ldI_of {ls : LV} {i : Nat} {k : Int → Prop} (h : oh_ldI ls i k) : ∃ x, oh_nth ls i none = some (oI x) ∧ k x := by
  unfold oh_ldI at h
  split at h
  · rename_i x e
    exact ⟨x, e, h⟩
  · exact h.elim
theorem oh_ldL_of {ls : LV} {i : Nat} {k : Int → Prop} (h : oh_ldL ls i k) : ∃ x, oh_nth ls i none = some (oL x) ∧ k x := by
  unfold oh_ldL at h
  split at h
  · rename_i x e
    exact ⟨x, e, h⟩
  · exact h.elim
theorem oh_ldA_of {ls : LV} {i : Nat} {k : (Nat × Nat) ⊕ Nat → Prop} (h : oh_ldA ls i k) : ∃ x, oh_nth ls i none = some (Sum.inr (Sum.inr x)) ∧ k x := by
  unfold oh_ldA at h
  split at h
  · rename_i x e
    exact ⟨x, e, h⟩
  · exact h.elim
theorem oh_st1_of {ls : LV} {i : Nat} {v : AV} {k : LV → Prop} (h : oh_st1 ls i v k) : i < ls.length ∧ oh_pl ls i = true ∧ k (oh_sv ls i (some v)) := by
  unfold oh_st1 at h
  split at h
  · rename_i e
    obtain ⟨h1, h2⟩ := oh_put_of _ _ _ h
    exact ⟨h1, e, h2⟩
  · exact h.elim
theorem oh_st2_of {ls : LV} {i : Nat} {v : AV} {k : LV → Prop} (h : oh_st2 ls i v k) : i + 1 < ls.length ∧ oh_pl ls i = true ∧ k (oh_sv (oh_sv ls i (some v)) (i + 1) none) := by
  unfold oh_st2 at h
  split at h
  · rename_i e
    obtain ⟨h1, h2⟩ := oh_put_of _ _ _ h
    obtain ⟨h3, h4⟩ := oh_put_of _ _ _ h2
    rw [oh_sv_len] at h3
    exact ⟨h3, e, h4⟩
  · exact h.elim
theorem oh_pl_of {ls : LV} {i : Nat} (h : oh_pl ls i = true) {j : Nat} (hj : j + 1 = i) {x : Int} : ¬ oh_nth ls j none = some (oL x) := by
  subst hj
  intro e
  simp [oh_pl, e] at h
theorem oh_mem_st1 {ls : LV} {i : Nat} {v : AV} (hi : i < ls.length) (hv : oh_wf v) (h : ∀ w, some w ∈ ls → oh_wf w) : ∀ w, some w ∈ oh_sv ls i (some v) → oh_wf w := by
  intro w hw
  obtain ⟨j, hj⟩ := oh_mem_nth _ _ hw
  rw [oh_sv_nth _ _ _ hi] at hj
  split at hj
  · cases hj
    exact hv
  · exact h _ (oh_nth_mem _ _ _ hj)
theorem oh_mem_st0 {ls : LV} {i : Nat} (hi : i < ls.length) (h : ∀ w, some w ∈ ls → oh_wf w) : ∀ w, some w ∈ oh_sv ls i none → oh_wf w := by
  intro w hw
  obtain ⟨j, hj⟩ := oh_mem_nth _ _ hw
  rw [oh_sv_nth _ _ _ hi] at hj
  split at hj
  · cases hj
  · exact h _ (oh_nth_mem _ _ _ hj)
theorem oh_lv_st1 {ad : Nat → Nat → Nat} {tc : Nat → Nat} {nL : Nat} {ls : LV} {i : Nat} {v : AV} (hi : i < ls.length) (hp : oh_pl ls i = true) {lr' : Array Slot}
    (h' : lv_has lr' nL ((i, oh_re ad tc v) :: (oh_lv ad tc ls).filter (fun q => !(q.1 == i) && !(q.1 + 1 == i && q.2.category == 2)))) : oh_L ad tc nL lr' (oh_sv ls i (some v)) := by
  refine oh_L_of h' (fun j w hj => ?_)
  rw [oh_sv_nth _ _ _ hi] at hj
  split at hj
  · rename_i e
    subst e
    cases hj
    exact List.mem_cons_self
  · rename_i e
    refine List.mem_cons_of_mem _ (List.mem_filter.mpr ⟨oh_lv_in hj, ?_⟩)
    simp only [Bool.and_eq_true, Bool.not_eq_true', beq_eq_false_iff_ne, Bool.and_eq_false_iff]
    refine ⟨e, ?_⟩
    by_cases e2 : j + 1 = i
    · right
      rcases w with x | x | q | c
      · simp [oh_re, Value.category]
      · exact absurd hj (oh_pl_of hp e2)
      · simp [oh_re, Value.category]
      · simp [oh_re, Value.category]
    · left
      exact e2
theorem oh_lv_st2 {ad : Nat → Nat → Nat} {tc : Nat → Nat} {nL : Nat} {ls : LV} {i : Nat} {v : AV} (hi : i + 1 < ls.length) (hp : oh_pl ls i = true) {lr' : Array Slot}
    (h' : lv_has lr' nL ((i, oh_re ad tc v) :: (oh_lv ad tc ls).filter (fun q => !(q.1 == i) && (!(q.1 == i + 1) && !(q.1 + 1 == i && q.2.category == 2))))) : oh_L ad tc nL lr' (oh_sv (oh_sv ls i (some v)) (i + 1) none) := by
  refine oh_L_of h' (fun j w hj => ?_)
  rw [oh_sv_nth _ _ _ (by rw [oh_sv_len]; exact hi), oh_sv_nth _ _ _ (by omega)] at hj
  split at hj
  · cases hj
  · rename_i e0
    split at hj
    · rename_i e
      subst e
      cases hj
      exact List.mem_cons_self
    · rename_i e
      refine List.mem_cons_of_mem _ (List.mem_filter.mpr ⟨oh_lv_in hj, ?_⟩)
      simp only [Bool.and_eq_true, Bool.not_eq_true', beq_eq_false_iff_ne, Bool.and_eq_false_iff]
      refine ⟨e, e0, ?_⟩
      by_cases e2 : j + 1 = i
      · right
        rcases w with x | x | q | c
        · simp [oh_re, Value.category]
        · exact absurd hj (oh_pl_of hp e2)
        · simp [oh_re, Value.category]
        · simp [oh_re, Value.category]
      · left
        exact e2
/-- the claim at a state: whatever heap and locals hold it -/
def oh_G (p : Program) (l : Launch) (e : Env) (R : Room) (s : State) (m : MethodId) (args : Array Value) (below : List Frame) (meth : Method) (c : Code) (cells slots : Nat) (Q : State → Prop) (D : va_G) (ad : Nat → Nat → Nat) (tc : Nat → Nat) (cA : Nat → Nat → ClassId) (A : Nat → Prop) (nL : Nat) : Kt := fun pc ls st μ =>
  ls.length = nL → (∀ v, some v ∈ ls → oh_wf v) → (∀ v ∈ st, oh_wf v) → oh_wfM μ → ∀ (H : Heap) (locs : List Loc) (lr : Array Slot), va_P D vwCl (oh_w ad cA μ) H → va_D A (oh_w ad cA μ) → va_S A s.heap H locs → oh_L ad tc nL lr ls →
    W p l e R s m args below meth c H locs cells slots Q (F0 m pc lr (st.map (oh_re ad tc)))
section OhG
variable {p : Program} {l : Launch} {e : Env} {R : Room} {s : State} {m : MethodId} {args : Array Value} {below : List Frame} {meth : Method} {c : Code} {cells slots : Nat} {Q : State → Prop}
variable {D : va_G} {ad : Nat → Nat → Nat} {tc : Nat → Nat} {cA : Nat → Nat → ClassId} {A : Nat → Prop} {nL : Nat} {cc : ByteArray} {own : String} {K : Kt} {pc nx : Nat} {ls : LV} {st : List AV} {μ : Mem}
theorem g_iconst (hx : p.tables.exec = Jvm.exec) (hb : c.code = cc) (hK : ∀ pc ls st μ, K pc ls st μ → oh_G p l e R s m args below meth c cells slots Q D ad tc cA A nL pc ls st μ) {n : Int} (hd : decode cc pc = .ok (.iconst n, 1)) (hn : nx = pc + 1) (hr : oh_rgI n) (h : K nx ls (oI n :: st) μ) : oh_G p l e R s m args below meth c cells slots Q D ad tc cA A nL pc ls st μ := by
  subst hn
  intro h0 h1 h2 h3 H locs lr hP hD hS hL
  exact lv_iconst hx hb hd rfl (hK _ _ _ _ h h0 h1 (List.forall_mem_cons.mpr ⟨hr, h2⟩) h3 H locs lr hP hD hS hL)
theorem g_bipush (hx : p.tables.exec = Jvm.exec) (hb : c.code = cc) (hK : ∀ pc ls st μ, K pc ls st μ → oh_G p l e R s m args below meth c cells slots Q D ad tc cA A nL pc ls st μ) {n : Int} (hd : decode cc pc = .ok (.bipush n, 2)) (hn : nx = pc + 2) (hr : -128 ≤ n ∧ n ≤ 127) (h : K nx ls (oI n :: st) μ) : oh_G p l e R s m args below meth c cells slots Q D ad tc cA A nL pc ls st μ := by
  subst hn
  intro h0 h1 h2 h3 H locs lr hP hD hS hL
  refine lv_bipush hx hb hd ?_ (hK _ _ _ _ h h0 h1 (List.forall_mem_cons.mpr ⟨⟨by omega, by omega⟩, h2⟩) h3 H locs lr hP hD hS hL)
  rw [← Int32.toInt_inj, oh_toInt ⟨by omega, by omega⟩, Int8.toInt_toInt32]
  exact Int8.toInt_ofInt_of_le (by omega) (by omega)
theorem g_sipush (hx : p.tables.exec = Jvm.exec) (hb : c.code = cc) (hK : ∀ pc ls st μ, K pc ls st μ → oh_G p l e R s m args below meth c cells slots Q D ad tc cA A nL pc ls st μ) {n : Int} (hd : decode cc pc = .ok (.sipush n, 3)) (hn : nx = pc + 3) (hr : -32768 ≤ n ∧ n ≤ 32767) (h : K nx ls (oI n :: st) μ) : oh_G p l e R s m args below meth c cells slots Q D ad tc cA A nL pc ls st μ := by
  subst hn
  intro h0 h1 h2 h3 H locs lr hP hD hS hL
  refine lv_sipush hx hb hd ?_ (hK _ _ _ _ h h0 h1 (List.forall_mem_cons.mpr ⟨⟨by omega, by omega⟩, h2⟩) h3 H locs lr hP hD hS hL)
  rw [← Int32.toInt_inj, oh_toInt ⟨by omega, by omega⟩, Int16.toInt_toInt32]
  exact Int16.toInt_ofInt_of_le (by omega) (by omega)
theorem g_lconst (hx : p.tables.exec = Jvm.exec) (hb : c.code = cc) (hK : ∀ pc ls st μ, K pc ls st μ → oh_G p l e R s m args below meth c cells slots Q D ad tc cA A nL pc ls st μ) {n : Fin 2} (hd : decode cc pc = .ok (.lconst n, 1)) (hn : nx = pc + 1) (h : K nx ls (oL (n.val : Int) :: st) μ) : oh_G p l e R s m args below meth c cells slots Q D ad tc cA A nL pc ls st μ := by
  subst hn
  intro h0 h1 h2 h3 H locs lr hP hD hS hL
  refine lv_lconst hx hb hd ?_ (hK _ _ _ _ h h0 h1 (List.forall_mem_cons.mpr ⟨⟨by omega, by omega⟩, h2⟩) h3 H locs lr hP hD hS hL)
  rfl
theorem g_ldc (hx : p.tables.exec = Jvm.exec) (hb : c.code = cc) (hown : s.vm.findClass own = some m.cls) (hK : ∀ pc ls st μ, K pc ls st μ → oh_G p l e R s m args below meth c cells slots Q D ad tc cA A nL pc ls st μ) {n : Nat} {v : Int} (hd : decode cc pc = .ok (.ldc n, 2)) (hn : nx = pc + 2) (hr : oh_rgI v) (hc : (Jvm.Cond.constant own n (Int32.ofInt v)).before args s = true) (h : K nx ls (oI v :: st) μ) : oh_G p l e R s m args below meth c cells slots Q D ad tc cA A nL pc ls st μ := by
  subst hn
  intro h0 h1 h2 h3 H locs lr hP hD hS hL
  exact lv_ldc hx hb hown hc hd (hK _ _ _ _ h h0 h1 (List.forall_mem_cons.mpr ⟨hr, h2⟩) h3 H locs lr hP hD hS hL)
theorem g_ldcw (hx : p.tables.exec = Jvm.exec) (hb : c.code = cc) (hown : s.vm.findClass own = some m.cls) (hK : ∀ pc ls st μ, K pc ls st μ → oh_G p l e R s m args below meth c cells slots Q D ad tc cA A nL pc ls st μ) {n : Nat} {v : Int} (hd : decode cc pc = .ok (.ldc_w n, 3)) (hn : nx = pc + 3) (hr : oh_rgI v) (hc : (Jvm.Cond.constant own n (Int32.ofInt v)).before args s = true) (h : K nx ls (oI v :: st) μ) : oh_G p l e R s m args below meth c cells slots Q D ad tc cA A nL pc ls st μ := by
  subst hn
  intro h0 h1 h2 h3 H locs lr hP hD hS hL
  exact lv_ldcw hx hb hown hc hd (hK _ _ _ _ h h0 h1 (List.forall_mem_cons.mpr ⟨hr, h2⟩) h3 H locs lr hP hD hS hL)
theorem g_ldc2 (hx : p.tables.exec = Jvm.exec) (hb : c.code = cc) (hown : s.vm.findClass own = some m.cls) (hK : ∀ pc ls st μ, K pc ls st μ → oh_G p l e R s m args below meth c cells slots Q D ad tc cA A nL pc ls st μ) {n : Nat} {v : Int} (hd : decode cc pc = .ok (.ldc2_w n, 3)) (hn : nx = pc + 3) (hr : oh_rgL v) (hc : (Jvm.Cond.constantLong own n (Int64.ofInt v)).before args s = true) (h : K nx ls (oL v :: st) μ) : oh_G p l e R s m args below meth c cells slots Q D ad tc cA A nL pc ls st μ := by
  subst hn
  intro h0 h1 h2 h3 H locs lr hP hD hS hL
  exact lv_ldc2 hx hb hown hc hd (hK _ _ _ _ h h0 h1 (List.forall_mem_cons.mpr ⟨hr, h2⟩) h3 H locs lr hP hD hS hL)
theorem g_iload (hx : p.tables.exec = Jvm.exec) (hb : c.code = cc) (hK : ∀ pc ls st μ, K pc ls st μ → oh_G p l e R s m args below meth c cells slots Q D ad tc cA A nL pc ls st μ) {k : Nat} (hd : decode cc pc = .ok (.iload k, 2)) (hn : nx = pc + 2) (h : oh_ldI ls k (fun x => K nx ls (oI x :: st) μ)) : oh_G p l e R s m args below meth c cells slots Q D ad tc cA A nL pc ls st μ := by
  subst hn
  obtain ⟨x, hx1, h⟩ := oh_ldI_of h
  intro h0 h1 h2 h3 H locs lr hP hD hS hL
  exact lv_iload hx hb hd (oh_L_at hL hx1) (hK _ _ _ _ h h0 h1 (List.forall_mem_cons.mpr ⟨h1 _ (oh_nth_mem _ _ _ hx1), h2⟩) h3 H locs lr hP hD hS hL)
theorem g_iload_n (hx : p.tables.exec = Jvm.exec) (hb : c.code = cc) (hK : ∀ pc ls st μ, K pc ls st μ → oh_G p l e R s m args below meth c cells slots Q D ad tc cA A nL pc ls st μ) {k : Fin 4} (hd : decode cc pc = .ok (.iload_n k, 1)) (hn : nx = pc + 1) (h : oh_ldI ls k.val (fun x => K nx ls (oI x :: st) μ)) : oh_G p l e R s m args below meth c cells slots Q D ad tc cA A nL pc ls st μ := by
  subst hn
  obtain ⟨x, hx1, h⟩ := oh_ldI_of h
  intro h0 h1 h2 h3 H locs lr hP hD hS hL
  exact lv_iload_n hx hb hd rfl (oh_L_at hL hx1) (hK _ _ _ _ h h0 h1 (List.forall_mem_cons.mpr ⟨h1 _ (oh_nth_mem _ _ _ hx1), h2⟩) h3 H locs lr hP hD hS hL)
theorem g_lload (hx : p.tables.exec = Jvm.exec) (hb : c.code = cc) (hK : ∀ pc ls st μ, K pc ls st μ → oh_G p l e R s m args below meth c cells slots Q D ad tc cA A nL pc ls st μ) {k : Nat} (hd : decode cc pc = .ok (.lload k, 2)) (hn : nx = pc + 2) (h : oh_ldL ls k (fun x => K nx ls (oL x :: st) μ)) : oh_G p l e R s m args below meth c cells slots Q D ad tc cA A nL pc ls st μ := by
  subst hn
  obtain ⟨x, hx1, h⟩ := oh_ldL_of h
  intro h0 h1 h2 h3 H locs lr hP hD hS hL
  exact lv_lload hx hb hd (oh_L_at hL hx1) (hK _ _ _ _ h h0 h1 (List.forall_mem_cons.mpr ⟨h1 _ (oh_nth_mem _ _ _ hx1), h2⟩) h3 H locs lr hP hD hS hL)
theorem g_lload_n (hx : p.tables.exec = Jvm.exec) (hb : c.code = cc) (hK : ∀ pc ls st μ, K pc ls st μ → oh_G p l e R s m args below meth c cells slots Q D ad tc cA A nL pc ls st μ) {k : Fin 4} (hd : decode cc pc = .ok (.lload_n k, 1)) (hn : nx = pc + 1) (h : oh_ldL ls k.val (fun x => K nx ls (oL x :: st) μ)) : oh_G p l e R s m args below meth c cells slots Q D ad tc cA A nL pc ls st μ := by
  subst hn
  obtain ⟨x, hx1, h⟩ := oh_ldL_of h
  intro h0 h1 h2 h3 H locs lr hP hD hS hL
  exact lv_lload_n hx hb hd rfl (oh_L_at hL hx1) (hK _ _ _ _ h h0 h1 (List.forall_mem_cons.mpr ⟨h1 _ (oh_nth_mem _ _ _ hx1), h2⟩) h3 H locs lr hP hD hS hL)
theorem g_aload (hx : p.tables.exec = Jvm.exec) (hb : c.code = cc) (hK : ∀ pc ls st μ, K pc ls st μ → oh_G p l e R s m args below meth c cells slots Q D ad tc cA A nL pc ls st μ) {k : Nat} (hd : decode cc pc = .ok (.aload k, 2)) (hn : nx = pc + 2) (h : oh_ldA ls k (fun x => K nx ls (Sum.inr (Sum.inr x) :: st) μ)) : oh_G p l e R s m args below meth c cells slots Q D ad tc cA A nL pc ls st μ := by
  subst hn
  obtain ⟨x, hx1, h⟩ := oh_ldA_of h
  intro h0 h1 h2 h3 H locs lr hP hD hS hL
  have hw := hK _ _ _ _ h h0 h1 (List.forall_mem_cons.mpr ⟨h1 _ (oh_nth_mem _ _ _ hx1), h2⟩) h3 H locs lr hP hD hS hL
  have ha := oh_L_at hL hx1
  rcases x with ⟨q1, q2⟩ | x
  · exact lv_aload hx hb hd ha hw
  · exact lv_aload hx hb hd ha hw
theorem g_aload_n (hx : p.tables.exec = Jvm.exec) (hb : c.code = cc) (hK : ∀ pc ls st μ, K pc ls st μ → oh_G p l e R s m args below meth c cells slots Q D ad tc cA A nL pc ls st μ) {k : Fin 4} (hd : decode cc pc = .ok (.aload_n k, 1)) (hn : nx = pc + 1) (h : oh_ldA ls k.val (fun x => K nx ls (Sum.inr (Sum.inr x) :: st) μ)) : oh_G p l e R s m args below meth c cells slots Q D ad tc cA A nL pc ls st μ := by
  subst hn
  obtain ⟨x, hx1, h⟩ := oh_ldA_of h
  intro h0 h1 h2 h3 H locs lr hP hD hS hL
  have hw := hK _ _ _ _ h h0 h1 (List.forall_mem_cons.mpr ⟨h1 _ (oh_nth_mem _ _ _ hx1), h2⟩) h3 H locs lr hP hD hS hL
  have ha := oh_L_at hL hx1
  rcases x with ⟨q1, q2⟩ | x
  · exact lv_aload_n hx hb hd rfl ha hw
  · exact lv_aload_n hx hb hd rfl ha hw
theorem g_istore (hx : p.tables.exec = Jvm.exec) (hb : c.code = cc) (hK : ∀ pc ls st μ, K pc ls st μ → oh_G p l e R s m args below meth c cells slots Q D ad tc cA A nL pc ls st μ) {k : Nat} (hd : decode cc pc = .ok (.istore k, 2)) (hn : nx = pc + 2) (h : oh_stI ls k st (fun l st1 => K nx l st1 μ)) : oh_G p l e R s m args below meth c cells slots Q D ad tc cA A nL pc ls st μ := by
  subst hn
  unfold oh_stI at h
  split at h
  · rename_i x st1
    obtain ⟨hi, hp, h⟩ := oh_st1_of h
    intro h0 h1 h2 h3 H locs lr hP hD hS hL
    obtain ⟨hw, h2⟩ := List.forall_mem_cons.mp h2
    refine lv_istore hx hb hd hL (by omega) rfl (fun lr' hl' => ?_)
    exact hK _ _ _ _ h (by rw [oh_sv_len]; exact h0) (oh_mem_st1 hi hw h1) h2 h3 H locs lr' hP hD hS (oh_lv_st1 (v := oI x) hi hp hl')
  · exact h.elim
theorem g_istore_n (hx : p.tables.exec = Jvm.exec) (hb : c.code = cc) (hK : ∀ pc ls st μ, K pc ls st μ → oh_G p l e R s m args below meth c cells slots Q D ad tc cA A nL pc ls st μ) {k : Fin 4} (hd : decode cc pc = .ok (.istore_n k, 1)) (hn : nx = pc + 1) (h : oh_stI ls k.val st (fun l st1 => K nx l st1 μ)) : oh_G p l e R s m args below meth c cells slots Q D ad tc cA A nL pc ls st μ := by
  subst hn
  unfold oh_stI at h
  split at h
  · rename_i x st1
    obtain ⟨hi, hp, h⟩ := oh_st1_of h
    intro h0 h1 h2 h3 H locs lr hP hD hS hL
    obtain ⟨hw, h2⟩ := List.forall_mem_cons.mp h2
    refine lv_istore_n hx hb hd rfl hL (by omega) rfl (fun lr' hl' => ?_)
    exact hK _ _ _ _ h (by rw [oh_sv_len]; exact h0) (oh_mem_st1 hi hw h1) h2 h3 H locs lr' hP hD hS (oh_lv_st1 (v := oI x) hi hp hl')
  · exact h.elim
theorem g_lstore (hx : p.tables.exec = Jvm.exec) (hb : c.code = cc) (hK : ∀ pc ls st μ, K pc ls st μ → oh_G p l e R s m args below meth c cells slots Q D ad tc cA A nL pc ls st μ) {k : Nat} (hd : decode cc pc = .ok (.lstore k, 2)) (hn : nx = pc + 2) (h : oh_stL ls k st (fun l st1 => K nx l st1 μ)) : oh_G p l e R s m args below meth c cells slots Q D ad tc cA A nL pc ls st μ := by
  subst hn
  unfold oh_stL at h
  split at h
  · rename_i x st1
    obtain ⟨hi, hp, h⟩ := oh_st2_of h
    intro h0 h1 h2 h3 H locs lr hP hD hS hL
    obtain ⟨hw, h2⟩ := List.forall_mem_cons.mp h2
    refine lv_lstore hx hb hd hL (by omega) rfl (fun lr' hl' => ?_)
    exact hK _ _ _ _ h (by rw [oh_sv_len, oh_sv_len]; exact h0) (oh_mem_st0 (by rw [oh_sv_len]; exact hi) (oh_mem_st1 (by omega) hw h1)) h2 h3 H locs lr' hP hD hS (oh_lv_st2 (v := oL x) hi hp hl')
  · exact h.elim
theorem g_lstore_n (hx : p.tables.exec = Jvm.exec) (hb : c.code = cc) (hK : ∀ pc ls st μ, K pc ls st μ → oh_G p l e R s m args below meth c cells slots Q D ad tc cA A nL pc ls st μ) {k : Fin 4} (hd : decode cc pc = .ok (.lstore_n k, 1)) (hn : nx = pc + 1) (h : oh_stL ls k.val st (fun l st1 => K nx l st1 μ)) : oh_G p l e R s m args below meth c cells slots Q D ad tc cA A nL pc ls st μ := by
  subst hn
  unfold oh_stL at h
  split at h
  · rename_i x st1
    obtain ⟨hi, hp, h⟩ := oh_st2_of h
    intro h0 h1 h2 h3 H locs lr hP hD hS hL
    obtain ⟨hw, h2⟩ := List.forall_mem_cons.mp h2
    refine lv_lstore_n hx hb hd rfl hL (by omega) rfl (fun lr' hl' => ?_)
    exact hK _ _ _ _ h (by rw [oh_sv_len, oh_sv_len]; exact h0) (oh_mem_st0 (by rw [oh_sv_len]; exact hi) (oh_mem_st1 (by omega) hw h1)) h2 h3 H locs lr' hP hD hS (oh_lv_st2 (v := oL x) hi hp hl')
  · exact h.elim
theorem g_astore (hx : p.tables.exec = Jvm.exec) (hb : c.code = cc) (hK : ∀ pc ls st μ, K pc ls st μ → oh_G p l e R s m args below meth c cells slots Q D ad tc cA A nL pc ls st μ) {k : Nat} (hd : decode cc pc = .ok (.astore k, 2)) (hn : nx = pc + 2) (h : oh_stA ls k st (fun l st1 => K nx l st1 μ)) : oh_G p l e R s m args below meth c cells slots Q D ad tc cA A nL pc ls st μ := by
  subst hn
  unfold oh_stA at h
  split at h
  · rename_i x st1
    obtain ⟨hi, hp, h⟩ := oh_st1_of h
    intro h0 h1 h2 h3 H locs lr hP hD hS hL
    obtain ⟨hw, h2⟩ := List.forall_mem_cons.mp h2
    have kk := fun lr' hl' => hK _ _ _ _ h (by rw [oh_sv_len]; exact h0) (oh_mem_st1 hi hw h1) h2 h3 H locs lr' hP hD hS (oh_lv_st1 (v := Sum.inr (Sum.inr x)) hi hp hl')
    rcases x with ⟨q1, q2⟩ | x
    · exact lv_astore hx hb hd hL (by omega) rfl kk
    · exact lv_astore hx hb hd hL (by omega) rfl kk
  · exact h.elim
theorem g_astore_n (hx : p.tables.exec = Jvm.exec) (hb : c.code = cc) (hK : ∀ pc ls st μ, K pc ls st μ → oh_G p l e R s m args below meth c cells slots Q D ad tc cA A nL pc ls st μ) {k : Fin 4} (hd : decode cc pc = .ok (.astore_n k, 1)) (hn : nx = pc + 1) (h : oh_stA ls k.val st (fun l st1 => K nx l st1 μ)) : oh_G p l e R s m args below meth c cells slots Q D ad tc cA A nL pc ls st μ := by
  subst hn
  unfold oh_stA at h
  split at h
  · rename_i x st1
    obtain ⟨hi, hp, h⟩ := oh_st1_of h
    intro h0 h1 h2 h3 H locs lr hP hD hS hL
    obtain ⟨hw, h2⟩ := List.forall_mem_cons.mp h2
    have kk := fun lr' hl' => hK _ _ _ _ h (by rw [oh_sv_len]; exact h0) (oh_mem_st1 hi hw h1) h2 h3 H locs lr' hP hD hS (oh_lv_st1 (v := Sum.inr (Sum.inr x)) hi hp hl')
    rcases x with ⟨q1, q2⟩ | x
    · exact lv_astore_n hx hb hd rfl hL (by omega) rfl kk
    · exact lv_astore_n hx hb hd rfl hL (by omega) rfl kk
  · exact h.elim
theorem g_iinc (hx : p.tables.exec = Jvm.exec) (hb : c.code = cc) (hK : ∀ pc ls st μ, K pc ls st μ → oh_G p l e R s m args below meth c cells slots Q D ad tc cA A nL pc ls st μ) {k : Nat} {n : Int} (hd : decode cc pc = .ok (.iinc k n, 3)) (hn : nx = pc + 3) (h : oh_ldI ls k (fun x => oh_rg (x + n) (oh_st1 ls k (oI (x + n)) (fun l => K nx l st μ)))) : oh_G p l e R s m args below meth c cells slots Q D ad tc cA A nL pc ls st μ := by
  subst hn
  obtain ⟨x, hx1, hr, h⟩ := oh_ldI_of h
  obtain ⟨hi, hp, h⟩ := oh_st1_of h
  intro h0 h1 h2 h3 H locs lr hP hD hS hL
  obtain ⟨kk, hkk⟩ := List.mem_iff_getElem?.mp (oh_lv_in (ad := ad) (tc := tc) hx1)
  refine lv_iinc hx hb hd hL hkk (Int32.ofInt_add x n).symm (by omega) rfl (fun lr' hl' => ?_)
  exact hK _ _ _ _ h (by rw [oh_sv_len]; exact h0) (oh_mem_st1 hi hr h1) h2 h3 H locs lr' hP hD hS (oh_lv_st1 (v := oI (x + n)) hi hp hl')
end OhG
end
section
/-! STEPS: arithmetic, branches, the stack -/
section OhG2
variable {p : Program} {l : Launch} {e : Env} {R : Room} {s : State} {m : MethodId} {args : Array Value} {below : List Frame} {meth : Method} {c : Code} {cells slots : Nat} {Q : State → Prop}
variable {D : va_G} {ad : Nat → Nat → Nat} {tc : Nat → Nat} {cA : Nat → Nat → ClassId} {A : Nat → Prop} {nL : Nat} {cc : ByteArray} {own : String} {K : Kt} {pc nx : Nat} {ls : LV} {st : List AV} {μ : Mem} {tg : List (Int × Nat)}
theorem oh_and_re (x y : Int) : Int32.ofInt x &&& Int32.ofInt y = Int32.ofInt (oh_and x y) := (Int32.ofInt_toInt _).symm
theorem oh_or_re (x y : Int) : Int32.ofInt x ||| Int32.ofInt y = Int32.ofInt (oh_or x y) := (Int32.ofInt_toInt _).symm
theorem oh_xor_re (x y : Int) : Int32.ofInt x ^^^ Int32.ofInt y = Int32.ofInt (oh_xor x y) := (Int32.ofInt_toInt _).symm
theorem oh_shl_re (x y : Int) : Int32.ofInt x <<< (Int32.ofInt y &&& 31) = Int32.ofInt (oh_shl x y) := (Int32.ofInt_toInt _).symm
theorem oh_shr_re (x y : Int) : Int32.ofInt x >>> (Int32.ofInt y &&& 31) = Int32.ofInt (oh_shr x y) := (Int32.ofInt_toInt _).symm
theorem oh_ushr_re (x y : Int) : ((Int32.ofInt x).toUInt32 >>> ((Int32.ofInt y).toUInt32 &&& Int32.toUInt32 31)).toInt32 = Int32.ofInt (oh_ushr x y) := (Int32.ofInt_toInt _).symm
theorem oh_i2b_re (x : Int) : (Int32.ofInt x).toInt8.toInt32 = Int32.ofInt (oh_i2b x) := (Int32.ofInt_toInt _).symm
theorem oh_i2s_re (x : Int) : (Int32.ofInt x).toInt16.toInt32 = Int32.ofInt (oh_i2s x) := (Int32.ofInt_toInt _).symm
theorem oh_w64_re (x : Int) : Int64.ofInt x = Int64.ofInt (oh_w64 x) := (Int64.ofInt_toInt _).symm
theorem oh_i2l_re {x : Int} (h : oh_rgI x) : (Int32.ofInt x).toInt64 = Int64.ofInt x := by
  rw [← Int64.toInt_inj, Int32.toInt_toInt64, oh_toInt h, oh_toInt64 ⟨by have := h.1; omega, by have := h.2; omega⟩]
theorem oh_cmp_re {x y : Int} (hx : oh_rgL x) (hy : oh_rgL y) : lg_cmp (Int64.ofInt x) (Int64.ofInt y) = Int32.ofInt (oh_cmp x y) := by
  unfold lg_cmp oh_cmp
  have e1 : (Int64.ofInt x > Int64.ofInt y) ↔ y < x := by
    show Int64.ofInt y < Int64.ofInt x ↔ y < x
    rw [Int64.lt_iff_toInt_lt, oh_toInt64 hx, oh_toInt64 hy]
  have e2 : (Int64.ofInt x = Int64.ofInt y) ↔ x = y := by
    rw [← Int64.toInt_inj, oh_toInt64 hx, oh_toInt64 hy]
  by_cases h1 : y < x
  · rw [if_pos (e1.mpr h1), if_neg (by omega), if_neg (by omega)]
    rfl
  · rw [if_neg (fun q => h1 (e1.mp q))]
    by_cases h2 : x = y
    · rw [if_pos (e2.mpr h2), if_neg (by omega), if_pos h2]
      rfl
    · rw [if_neg (fun q => h2 (e2.mp q)), if_pos (by omega)]
      rfl
theorem oh_cmp_rg (x y : Int) : oh_rgI (oh_cmp x y) := by
  unfold oh_cmp oh_rgI
  split
  · omega
  · split <;> omega
theorem oh_br_of {q : Prop} {k : Nat → Prop} (h : oh_br q tg nx k) : ∃ a t r, tg = (a, t) :: r ∧ (q → k t) ∧ (¬ q → k nx) := by
  unfold oh_br at h
  split at h
  · exact ⟨_, _, _, rfl, h⟩
  · exact h.elim

theorem g_iadd (hx : p.tables.exec = Jvm.exec) (hb : c.code = cc) (hK : ∀ pc ls st μ, K pc ls st μ → oh_G p l e R s m args below meth c cells slots Q D ad tc cA A nL pc ls st μ) (hd : decode cc pc = .ok (.iadd, 1)) (hn : nx = pc + 1) (h : oh_b2 st (fun x y st1 => oh_rg (x + y) (K nx ls (oI (x + y) :: st1) μ))) : oh_G p l e R s m args below meth c cells slots Q D ad tc cA A nL pc ls st μ := by
  subst hn
  obtain ⟨x, y, st1, rfl, h⟩ := oh_b2_of h
  obtain ⟨hr, h⟩ := h
  intro h0 h1 h2 h3 H locs lr hP hD hS hL
  obtain ⟨hy, h2⟩ := List.forall_mem_cons.mp h2
  obtain ⟨hx1, h2⟩ := List.forall_mem_cons.mp h2
  have w := hK _ _ _ _ h h0 h1 (List.forall_mem_cons.mpr ⟨hr, h2⟩) h3 H locs lr hP hD hS hL
  refine lv_iadd hx hb hd ?_
  rw [← Int32.ofInt_add]
  exact w
theorem g_isub (hx : p.tables.exec = Jvm.exec) (hb : c.code = cc) (hK : ∀ pc ls st μ, K pc ls st μ → oh_G p l e R s m args below meth c cells slots Q D ad tc cA A nL pc ls st μ) (hd : decode cc pc = .ok (.isub, 1)) (hn : nx = pc + 1) (h : oh_b2 st (fun x y st1 => oh_rg (x - y) (K nx ls (oI (x - y) :: st1) μ))) : oh_G p l e R s m args below meth c cells slots Q D ad tc cA A nL pc ls st μ := by
  subst hn
  obtain ⟨x, y, st1, rfl, h⟩ := oh_b2_of h
  obtain ⟨hr, h⟩ := h
  intro h0 h1 h2 h3 H locs lr hP hD hS hL
  obtain ⟨hy, h2⟩ := List.forall_mem_cons.mp h2
  obtain ⟨hx1, h2⟩ := List.forall_mem_cons.mp h2
  have w := hK _ _ _ _ h h0 h1 (List.forall_mem_cons.mpr ⟨hr, h2⟩) h3 H locs lr hP hD hS hL
  refine lv_isub hx hb hd ?_
  rw [← Int32.ofInt_sub]
  exact w
theorem g_imul (hx : p.tables.exec = Jvm.exec) (hb : c.code = cc) (hK : ∀ pc ls st μ, K pc ls st μ → oh_G p l e R s m args below meth c cells slots Q D ad tc cA A nL pc ls st μ) (hd : decode cc pc = .ok (.imul, 1)) (hn : nx = pc + 1) (h : oh_b2 st (fun x y st1 => oh_rg (x * y) (K nx ls (oI (x * y) :: st1) μ))) : oh_G p l e R s m args below meth c cells slots Q D ad tc cA A nL pc ls st μ := by
  subst hn
  obtain ⟨x, y, st1, rfl, h⟩ := oh_b2_of h
  obtain ⟨hr, h⟩ := h
  intro h0 h1 h2 h3 H locs lr hP hD hS hL
  obtain ⟨hy, h2⟩ := List.forall_mem_cons.mp h2
  obtain ⟨hx1, h2⟩ := List.forall_mem_cons.mp h2
  have w := hK _ _ _ _ h h0 h1 (List.forall_mem_cons.mpr ⟨hr, h2⟩) h3 H locs lr hP hD hS hL
  refine lv_imul hx hb hd ?_
  rw [← Int32.ofInt_mul]
  exact w
theorem g_iand (hx : p.tables.exec = Jvm.exec) (hb : c.code = cc) (hK : ∀ pc ls st μ, K pc ls st μ → oh_G p l e R s m args below meth c cells slots Q D ad tc cA A nL pc ls st μ) (hd : decode cc pc = .ok (.iand, 1)) (hn : nx = pc + 1) (h : oh_b2 st (fun x y st1 => K nx ls (oI (oh_and x y) :: st1) μ)) : oh_G p l e R s m args below meth c cells slots Q D ad tc cA A nL pc ls st μ := by
  subst hn
  obtain ⟨x, y, st1, rfl, h⟩ := oh_b2_of h
  intro h0 h1 h2 h3 H locs lr hP hD hS hL
  obtain ⟨hy, h2⟩ := List.forall_mem_cons.mp h2
  obtain ⟨hx1, h2⟩ := List.forall_mem_cons.mp h2
  have w := hK _ _ _ _ h h0 h1 (List.forall_mem_cons.mpr ⟨oh_rg32 _, h2⟩) h3 H locs lr hP hD hS hL
  refine lv_iand hx hb hd ?_
  rw [oh_and_re]
  exact w
theorem g_ior (hx : p.tables.exec = Jvm.exec) (hb : c.code = cc) (hK : ∀ pc ls st μ, K pc ls st μ → oh_G p l e R s m args below meth c cells slots Q D ad tc cA A nL pc ls st μ) (hd : decode cc pc = .ok (.ior, 1)) (hn : nx = pc + 1) (h : oh_b2 st (fun x y st1 => K nx ls (oI (oh_or x y) :: st1) μ)) : oh_G p l e R s m args below meth c cells slots Q D ad tc cA A nL pc ls st μ := by
  subst hn
  obtain ⟨x, y, st1, rfl, h⟩ := oh_b2_of h
  intro h0 h1 h2 h3 H locs lr hP hD hS hL
  obtain ⟨hy, h2⟩ := List.forall_mem_cons.mp h2
  obtain ⟨hx1, h2⟩ := List.forall_mem_cons.mp h2
  have w := hK _ _ _ _ h h0 h1 (List.forall_mem_cons.mpr ⟨oh_rg32 _, h2⟩) h3 H locs lr hP hD hS hL
  refine lv_ior hx hb hd ?_
  rw [oh_or_re]
  exact w
theorem g_ixor (hx : p.tables.exec = Jvm.exec) (hb : c.code = cc) (hK : ∀ pc ls st μ, K pc ls st μ → oh_G p l e R s m args below meth c cells slots Q D ad tc cA A nL pc ls st μ) (hd : decode cc pc = .ok (.ixor, 1)) (hn : nx = pc + 1) (h : oh_b2 st (fun x y st1 => K nx ls (oI (oh_xor x y) :: st1) μ)) : oh_G p l e R s m args below meth c cells slots Q D ad tc cA A nL pc ls st μ := by
  subst hn
  obtain ⟨x, y, st1, rfl, h⟩ := oh_b2_of h
  intro h0 h1 h2 h3 H locs lr hP hD hS hL
  obtain ⟨hy, h2⟩ := List.forall_mem_cons.mp h2
  obtain ⟨hx1, h2⟩ := List.forall_mem_cons.mp h2
  have w := hK _ _ _ _ h h0 h1 (List.forall_mem_cons.mpr ⟨oh_rg32 _, h2⟩) h3 H locs lr hP hD hS hL
  refine lv_ixor hx hb hd ?_
  rw [oh_xor_re]
  exact w
theorem g_ishl (hx : p.tables.exec = Jvm.exec) (hb : c.code = cc) (hK : ∀ pc ls st μ, K pc ls st μ → oh_G p l e R s m args below meth c cells slots Q D ad tc cA A nL pc ls st μ) (hd : decode cc pc = .ok (.ishl, 1)) (hn : nx = pc + 1) (h : oh_b2 st (fun x y st1 => K nx ls (oI (oh_shl x y) :: st1) μ)) : oh_G p l e R s m args below meth c cells slots Q D ad tc cA A nL pc ls st μ := by
  subst hn
  obtain ⟨x, y, st1, rfl, h⟩ := oh_b2_of h
  intro h0 h1 h2 h3 H locs lr hP hD hS hL
  obtain ⟨hy, h2⟩ := List.forall_mem_cons.mp h2
  obtain ⟨hx1, h2⟩ := List.forall_mem_cons.mp h2
  have w := hK _ _ _ _ h h0 h1 (List.forall_mem_cons.mpr ⟨oh_rg32 _, h2⟩) h3 H locs lr hP hD hS hL
  refine lv_ishl hx hb hd ?_
  rw [oh_shl_re]
  exact w
theorem g_ishr (hx : p.tables.exec = Jvm.exec) (hb : c.code = cc) (hK : ∀ pc ls st μ, K pc ls st μ → oh_G p l e R s m args below meth c cells slots Q D ad tc cA A nL pc ls st μ) (hd : decode cc pc = .ok (.ishr, 1)) (hn : nx = pc + 1) (h : oh_b2 st (fun x y st1 => K nx ls (oI (oh_shr x y) :: st1) μ)) : oh_G p l e R s m args below meth c cells slots Q D ad tc cA A nL pc ls st μ := by
  subst hn
  obtain ⟨x, y, st1, rfl, h⟩ := oh_b2_of h
  intro h0 h1 h2 h3 H locs lr hP hD hS hL
  obtain ⟨hy, h2⟩ := List.forall_mem_cons.mp h2
  obtain ⟨hx1, h2⟩ := List.forall_mem_cons.mp h2
  have w := hK _ _ _ _ h h0 h1 (List.forall_mem_cons.mpr ⟨oh_rg32 _, h2⟩) h3 H locs lr hP hD hS hL
  refine lv_ishr hx hb hd ?_
  rw [oh_shr_re]
  exact w
theorem g_iushr (hx : p.tables.exec = Jvm.exec) (hb : c.code = cc) (hK : ∀ pc ls st μ, K pc ls st μ → oh_G p l e R s m args below meth c cells slots Q D ad tc cA A nL pc ls st μ) (hd : decode cc pc = .ok (.iushr, 1)) (hn : nx = pc + 1) (h : oh_b2 st (fun x y st1 => K nx ls (oI (oh_ushr x y) :: st1) μ)) : oh_G p l e R s m args below meth c cells slots Q D ad tc cA A nL pc ls st μ := by
  subst hn
  obtain ⟨x, y, st1, rfl, h⟩ := oh_b2_of h
  intro h0 h1 h2 h3 H locs lr hP hD hS hL
  obtain ⟨hy, h2⟩ := List.forall_mem_cons.mp h2
  obtain ⟨hx1, h2⟩ := List.forall_mem_cons.mp h2
  exact lv_iushr hx hb hd (oh_ushr_re x y) (hK _ _ _ _ h h0 h1 (List.forall_mem_cons.mpr ⟨oh_rg32 _, h2⟩) h3 H locs lr hP hD hS hL)
theorem g_idiv (hx : p.tables.exec = Jvm.exec) (hb : c.code = cc) (hK : ∀ pc ls st μ, K pc ls st μ → oh_G p l e R s m args below meth c cells slots Q D ad tc cA A nL pc ls st μ) (hd : decode cc pc = .ok (.idiv, 1)) (hn : nx = pc + 1) (h : oh_b2 st (fun x y st1 => (0 ≤ x ∧ 0 < y) ∧ K nx ls (oI (x / y) :: st1) μ)) : oh_G p l e R s m args below meth c cells slots Q D ad tc cA A nL pc ls st μ := by
  subst hn
  obtain ⟨x, y, st1, rfl, h⟩ := oh_b2_of h
  intro h0 h1 h2 h3 H locs lr hP hD hS hL
  obtain ⟨hy, h2⟩ := List.forall_mem_cons.mp h2
  obtain ⟨hx1, h2⟩ := List.forall_mem_cons.mp h2
  have hx1 : oh_rgI x := hx1
  have hy : oh_rgI y := hy
  have hne : ¬ Int32.ofInt y = 0 := by
    intro q
    have := congrArg Int32.toInt q
    rw [oh_toInt hy] at this
    have h9 : (0 : Int32).toInt = 0 := by decide
    have := h.1.2
    omega
  have hr : oh_rgI (x / y) := by
    have a1 := h.1.1
    have a2 := h.1.2
    have b1 : x / y ≤ x := Int.ediv_le_self y a1
    have b2 : 0 ≤ x / y := Int.ediv_nonneg a1 (Int.le_of_lt a2)
    have b3 : 0 ≤ x % y := Int.emod_nonneg x (by omega)
    have b4 : x % y < y := Int.emod_lt_of_pos x a2
    have b5 := hx1.2
    have b6 := hy.2
    exact ⟨by omega, by omega⟩
  have w := hK _ _ _ _ h.2 h0 h1 (List.forall_mem_cons.mpr ⟨hr, h2⟩) h3 H locs lr hP hD hS hL
  refine lv_idiv hx hb hd hne ?_
  rw [oh_div32 hx1 hy h.1.1 h.1.2]
  exact w
theorem g_irem (hx : p.tables.exec = Jvm.exec) (hb : c.code = cc) (hK : ∀ pc ls st μ, K pc ls st μ → oh_G p l e R s m args below meth c cells slots Q D ad tc cA A nL pc ls st μ) (hd : decode cc pc = .ok (.irem, 1)) (hn : nx = pc + 1) (h : oh_b2 st (fun x y st1 => (0 ≤ x ∧ 0 < y) ∧ K nx ls (oI (x % y) :: st1) μ)) : oh_G p l e R s m args below meth c cells slots Q D ad tc cA A nL pc ls st μ := by
  subst hn
  obtain ⟨x, y, st1, rfl, h⟩ := oh_b2_of h
  intro h0 h1 h2 h3 H locs lr hP hD hS hL
  obtain ⟨hy, h2⟩ := List.forall_mem_cons.mp h2
  obtain ⟨hx1, h2⟩ := List.forall_mem_cons.mp h2
  have hx1 : oh_rgI x := hx1
  have hy : oh_rgI y := hy
  have hne : ¬ Int32.ofInt y = 0 := by
    intro q
    have := congrArg Int32.toInt q
    rw [oh_toInt hy] at this
    have h9 : (0 : Int32).toInt = 0 := by decide
    have := h.1.2
    omega
  have hr : oh_rgI (x % y) := by
    have a1 := h.1.1
    have a2 := h.1.2
    have b1 : x / y ≤ x := Int.ediv_le_self y a1
    have b2 : 0 ≤ x / y := Int.ediv_nonneg a1 (Int.le_of_lt a2)
    have b3 : 0 ≤ x % y := Int.emod_nonneg x (by omega)
    have b4 : x % y < y := Int.emod_lt_of_pos x a2
    have b5 := hx1.2
    have b6 := hy.2
    exact ⟨by omega, by omega⟩
  have w := hK _ _ _ _ h.2 h0 h1 (List.forall_mem_cons.mpr ⟨hr, h2⟩) h3 H locs lr hP hD hS hL
  refine lv_irem hx hb hd hne ?_
  rw [oh_rem32 hx1 hy h.1.1 h.1.2]
  exact w
theorem g_i2b (hx : p.tables.exec = Jvm.exec) (hb : c.code = cc) (hK : ∀ pc ls st μ, K pc ls st μ → oh_G p l e R s m args below meth c cells slots Q D ad tc cA A nL pc ls st μ) (hd : decode cc pc = .ok (.i2b, 1)) (hn : nx = pc + 1) (h : oh_b1 st (fun x st1 => K nx ls (oI (oh_i2b x) :: st1) μ)) : oh_G p l e R s m args below meth c cells slots Q D ad tc cA A nL pc ls st μ := by
  subst hn
  obtain ⟨x, st1, rfl, h⟩ := oh_b1_of h
  intro h0 h1 h2 h3 H locs lr hP hD hS hL
  obtain ⟨hx1, h2⟩ := List.forall_mem_cons.mp h2
  exact lv_i2b hx hb hd (oh_i2b_re x) (hK _ _ _ _ h h0 h1 (List.forall_mem_cons.mpr ⟨oh_rg32 _, h2⟩) h3 H locs lr hP hD hS hL)
theorem g_i2s (hx : p.tables.exec = Jvm.exec) (hb : c.code = cc) (hK : ∀ pc ls st μ, K pc ls st μ → oh_G p l e R s m args below meth c cells slots Q D ad tc cA A nL pc ls st μ) (hd : decode cc pc = .ok (.i2s, 1)) (hn : nx = pc + 1) (h : oh_b1 st (fun x st1 => K nx ls (oI (oh_i2s x) :: st1) μ)) : oh_G p l e R s m args below meth c cells slots Q D ad tc cA A nL pc ls st μ := by
  subst hn
  obtain ⟨x, st1, rfl, h⟩ := oh_b1_of h
  intro h0 h1 h2 h3 H locs lr hP hD hS hL
  obtain ⟨hx1, h2⟩ := List.forall_mem_cons.mp h2
  exact lv_i2s hx hb hd (oh_i2s_re x) (hK _ _ _ _ h h0 h1 (List.forall_mem_cons.mpr ⟨oh_rg32 _, h2⟩) h3 H locs lr hP hD hS hL)
theorem g_i2l (hx : p.tables.exec = Jvm.exec) (hb : c.code = cc) (hK : ∀ pc ls st μ, K pc ls st μ → oh_G p l e R s m args below meth c cells slots Q D ad tc cA A nL pc ls st μ) (hd : decode cc pc = .ok (.i2l, 1)) (hn : nx = pc + 1) (h : oh_b1 st (fun x st1 => K nx ls (oL x :: st1) μ)) : oh_G p l e R s m args below meth c cells slots Q D ad tc cA A nL pc ls st μ := by
  subst hn
  obtain ⟨x, st1, rfl, h⟩ := oh_b1_of h
  intro h0 h1 h2 h3 H locs lr hP hD hS hL
  obtain ⟨hx1, h2⟩ := List.forall_mem_cons.mp h2
  have hx1 : oh_rgI x := hx1
  have hr : oh_rgL x := ⟨by have := hx1.1; omega, by have := hx1.2; omega⟩
  exact lv_i2l hx hb hd (oh_i2l_re hx1) (hK _ _ _ _ h h0 h1 (List.forall_mem_cons.mpr ⟨hr, h2⟩) h3 H locs lr hP hD hS hL)
theorem g_ladd (hx : p.tables.exec = Jvm.exec) (hb : c.code = cc) (hK : ∀ pc ls st μ, K pc ls st μ → oh_G p l e R s m args below meth c cells slots Q D ad tc cA A nL pc ls st μ) (hd : decode cc pc = .ok (.ladd, 1)) (hn : nx = pc + 1) (h : oh_l2 st (fun x y st1 => K nx ls (oL (oh_w64 (x + y)) :: st1) μ)) : oh_G p l e R s m args below meth c cells slots Q D ad tc cA A nL pc ls st μ := by
  subst hn
  obtain ⟨x, y, st1, rfl, h⟩ := oh_l2_of h
  intro h0 h1 h2 h3 H locs lr hP hD hS hL
  obtain ⟨hy, h2⟩ := List.forall_mem_cons.mp h2
  obtain ⟨hx1, h2⟩ := List.forall_mem_cons.mp h2
  have w := hK _ _ _ _ h h0 h1 (List.forall_mem_cons.mpr ⟨oh_rg64 _, h2⟩) h3 H locs lr hP hD hS hL
  refine lv_ladd hx hb hd ?_
  rw [← Int64.ofInt_add, oh_w64_re]
  exact w
theorem g_lmul (hx : p.tables.exec = Jvm.exec) (hb : c.code = cc) (hK : ∀ pc ls st μ, K pc ls st μ → oh_G p l e R s m args below meth c cells slots Q D ad tc cA A nL pc ls st μ) (hd : decode cc pc = .ok (.lmul, 1)) (hn : nx = pc + 1) (h : oh_l2 st (fun x y st1 => K nx ls (oL (oh_w64 (x * y)) :: st1) μ)) : oh_G p l e R s m args below meth c cells slots Q D ad tc cA A nL pc ls st μ := by
  subst hn
  obtain ⟨x, y, st1, rfl, h⟩ := oh_l2_of h
  intro h0 h1 h2 h3 H locs lr hP hD hS hL
  obtain ⟨hy, h2⟩ := List.forall_mem_cons.mp h2
  obtain ⟨hx1, h2⟩ := List.forall_mem_cons.mp h2
  have w := hK _ _ _ _ h h0 h1 (List.forall_mem_cons.mpr ⟨oh_rg64 _, h2⟩) h3 H locs lr hP hD hS hL
  refine lv_lmul hx hb hd ?_
  rw [← Int64.ofInt_mul, oh_w64_re]
  exact w
theorem g_lcmp (hx : p.tables.exec = Jvm.exec) (hb : c.code = cc) (hK : ∀ pc ls st μ, K pc ls st μ → oh_G p l e R s m args below meth c cells slots Q D ad tc cA A nL pc ls st μ) (hd : decode cc pc = .ok (.lcmp, 1)) (hn : nx = pc + 1) (h : oh_l2 st (fun x y st1 => K nx ls (oI (oh_cmp x y) :: st1) μ)) : oh_G p l e R s m args below meth c cells slots Q D ad tc cA A nL pc ls st μ := by
  subst hn
  obtain ⟨x, y, st1, rfl, h⟩ := oh_l2_of h
  intro h0 h1 h2 h3 H locs lr hP hD hS hL
  obtain ⟨hy, h2⟩ := List.forall_mem_cons.mp h2
  obtain ⟨hx1, h2⟩ := List.forall_mem_cons.mp h2
  have w := hK _ _ _ _ h h0 h1 (List.forall_mem_cons.mpr ⟨oh_cmp_rg x y, h2⟩) h3 H locs lr hP hD hS hL
  refine W.lcmp hx hb hd ?_
  rw [oh_cmp_re hx1 hy]
  exact w
theorem g_icmp_eq (hx : p.tables.exec = Jvm.exec) (hb : c.code = cc) (hK : ∀ pc ls st μ, K pc ls st μ → oh_G p l e R s m args below meth c cells slots Q D ad tc cA A nL pc ls st μ) {off : Int} (hd : decode cc pc = .ok (.if_icmp .eq off, 3)) (hn : nx = pc + 3) (ht : ∀ a t r, tg = (a, t) :: r → (pc : Int) + off = (t : Int)) (h : oh_b2 st (fun x y st1 => oh_br (x = y) tg nx (fun t => K t ls st1 μ))) : oh_G p l e R s m args below meth c cells slots Q D ad tc cA A nL pc ls st μ := by
  subst hn
  obtain ⟨x, y, st1, rfl, h⟩ := oh_b2_of h
  obtain ⟨a, t, r, htg, ha, hf⟩ := oh_br_of h
  intro h0 h1 h2 h3 H locs lr hP hD hS hL
  obtain ⟨hy, h2⟩ := List.forall_mem_cons.mp h2
  obtain ⟨hx1, h2⟩ := List.forall_mem_cons.mp h2
  have ef := oh_eq32 hx1 hy
  exact lv_icmp_eq hx hb hd (ht _ _ _ htg) (fun q => hK _ _ _ _ (ha (ef.mp q)) h0 h1 h2 h3 H locs lr hP hD hS hL) (fun q => hK _ _ _ _ (hf (fun z => q (ef.mpr z))) h0 h1 h2 h3 H locs lr hP hD hS hL)
theorem g_if_eq (hx : p.tables.exec = Jvm.exec) (hb : c.code = cc) (hK : ∀ pc ls st μ, K pc ls st μ → oh_G p l e R s m args below meth c cells slots Q D ad tc cA A nL pc ls st μ) {off : Int} (hd : decode cc pc = .ok (.ifCond .eq off, 3)) (hn : nx = pc + 3) (ht : ∀ a t r, tg = (a, t) :: r → (pc : Int) + off = (t : Int)) (h : oh_b1 st (fun x st1 => oh_br (x = 0) tg nx (fun t => K t ls st1 μ))) : oh_G p l e R s m args below meth c cells slots Q D ad tc cA A nL pc ls st μ := by
  subst hn
  obtain ⟨x, st1, rfl, h⟩ := oh_b1_of h
  obtain ⟨a, t, r, htg, ha, hf⟩ := oh_br_of h
  intro h0 h1 h2 h3 H locs lr hP hD hS hL
  obtain ⟨hx1, h2⟩ := List.forall_mem_cons.mp h2
  have h00 : oh_rgI 0 := ⟨by decide, by decide⟩
  have ef := oh_eq32 hx1 h00
  exact lv_if_eq hx hb hd (ht _ _ _ htg) (fun q => hK _ _ _ _ (ha (ef.mp q)) h0 h1 h2 h3 H locs lr hP hD hS hL) (fun q => hK _ _ _ _ (hf (fun z => q (ef.mpr z))) h0 h1 h2 h3 H locs lr hP hD hS hL)
theorem g_icmp_ne (hx : p.tables.exec = Jvm.exec) (hb : c.code = cc) (hK : ∀ pc ls st μ, K pc ls st μ → oh_G p l e R s m args below meth c cells slots Q D ad tc cA A nL pc ls st μ) {off : Int} (hd : decode cc pc = .ok (.if_icmp .ne off, 3)) (hn : nx = pc + 3) (ht : ∀ a t r, tg = (a, t) :: r → (pc : Int) + off = (t : Int)) (h : oh_b2 st (fun x y st1 => oh_br (¬ x = y) tg nx (fun t => K t ls st1 μ))) : oh_G p l e R s m args below meth c cells slots Q D ad tc cA A nL pc ls st μ := by
  subst hn
  obtain ⟨x, y, st1, rfl, h⟩ := oh_b2_of h
  obtain ⟨a, t, r, htg, ha, hf⟩ := oh_br_of h
  intro h0 h1 h2 h3 H locs lr hP hD hS hL
  obtain ⟨hy, h2⟩ := List.forall_mem_cons.mp h2
  obtain ⟨hx1, h2⟩ := List.forall_mem_cons.mp h2
  have ef := not_congr (oh_eq32 hx1 hy)
  exact lv_icmp_ne hx hb hd (ht _ _ _ htg) (fun q => hK _ _ _ _ (ha (ef.mp q)) h0 h1 h2 h3 H locs lr hP hD hS hL) (fun q => hK _ _ _ _ (hf (fun z => (ef.mpr z) q)) h0 h1 h2 h3 H locs lr hP hD hS hL)
theorem g_if_ne (hx : p.tables.exec = Jvm.exec) (hb : c.code = cc) (hK : ∀ pc ls st μ, K pc ls st μ → oh_G p l e R s m args below meth c cells slots Q D ad tc cA A nL pc ls st μ) {off : Int} (hd : decode cc pc = .ok (.ifCond .ne off, 3)) (hn : nx = pc + 3) (ht : ∀ a t r, tg = (a, t) :: r → (pc : Int) + off = (t : Int)) (h : oh_b1 st (fun x st1 => oh_br (¬ x = 0) tg nx (fun t => K t ls st1 μ))) : oh_G p l e R s m args below meth c cells slots Q D ad tc cA A nL pc ls st μ := by
  subst hn
  obtain ⟨x, st1, rfl, h⟩ := oh_b1_of h
  obtain ⟨a, t, r, htg, ha, hf⟩ := oh_br_of h
  intro h0 h1 h2 h3 H locs lr hP hD hS hL
  obtain ⟨hx1, h2⟩ := List.forall_mem_cons.mp h2
  have h00 : oh_rgI 0 := ⟨by decide, by decide⟩
  have ef := not_congr (oh_eq32 hx1 h00)
  exact lv_if_ne hx hb hd (ht _ _ _ htg) (fun q => hK _ _ _ _ (ha (ef.mp q)) h0 h1 h2 h3 H locs lr hP hD hS hL) (fun q => hK _ _ _ _ (hf (fun z => (ef.mpr z) q)) h0 h1 h2 h3 H locs lr hP hD hS hL)
theorem g_icmp_lt (hx : p.tables.exec = Jvm.exec) (hb : c.code = cc) (hK : ∀ pc ls st μ, K pc ls st μ → oh_G p l e R s m args below meth c cells slots Q D ad tc cA A nL pc ls st μ) {off : Int} (hd : decode cc pc = .ok (.if_icmp .lt off, 3)) (hn : nx = pc + 3) (ht : ∀ a t r, tg = (a, t) :: r → (pc : Int) + off = (t : Int)) (h : oh_b2 st (fun x y st1 => oh_br (x < y) tg nx (fun t => K t ls st1 μ))) : oh_G p l e R s m args below meth c cells slots Q D ad tc cA A nL pc ls st μ := by
  subst hn
  obtain ⟨x, y, st1, rfl, h⟩ := oh_b2_of h
  obtain ⟨a, t, r, htg, ha, hf⟩ := oh_br_of h
  intro h0 h1 h2 h3 H locs lr hP hD hS hL
  obtain ⟨hy, h2⟩ := List.forall_mem_cons.mp h2
  obtain ⟨hx1, h2⟩ := List.forall_mem_cons.mp h2
  have ef := oh_lt32 hx1 hy
  exact lv_icmp_lt hx hb hd (ht _ _ _ htg) (fun q => hK _ _ _ _ (ha (ef.mp q)) h0 h1 h2 h3 H locs lr hP hD hS hL) (fun q => hK _ _ _ _ (hf (fun z => q (ef.mpr z))) h0 h1 h2 h3 H locs lr hP hD hS hL)
theorem g_if_lt (hx : p.tables.exec = Jvm.exec) (hb : c.code = cc) (hK : ∀ pc ls st μ, K pc ls st μ → oh_G p l e R s m args below meth c cells slots Q D ad tc cA A nL pc ls st μ) {off : Int} (hd : decode cc pc = .ok (.ifCond .lt off, 3)) (hn : nx = pc + 3) (ht : ∀ a t r, tg = (a, t) :: r → (pc : Int) + off = (t : Int)) (h : oh_b1 st (fun x st1 => oh_br (x < 0) tg nx (fun t => K t ls st1 μ))) : oh_G p l e R s m args below meth c cells slots Q D ad tc cA A nL pc ls st μ := by
  subst hn
  obtain ⟨x, st1, rfl, h⟩ := oh_b1_of h
  obtain ⟨a, t, r, htg, ha, hf⟩ := oh_br_of h
  intro h0 h1 h2 h3 H locs lr hP hD hS hL
  obtain ⟨hx1, h2⟩ := List.forall_mem_cons.mp h2
  have h00 : oh_rgI 0 := ⟨by decide, by decide⟩
  have ef := oh_lt32 hx1 h00
  exact lv_if_lt hx hb hd (ht _ _ _ htg) (fun q => hK _ _ _ _ (ha (ef.mp q)) h0 h1 h2 h3 H locs lr hP hD hS hL) (fun q => hK _ _ _ _ (hf (fun z => q (ef.mpr z))) h0 h1 h2 h3 H locs lr hP hD hS hL)
theorem g_icmp_ge (hx : p.tables.exec = Jvm.exec) (hb : c.code = cc) (hK : ∀ pc ls st μ, K pc ls st μ → oh_G p l e R s m args below meth c cells slots Q D ad tc cA A nL pc ls st μ) {off : Int} (hd : decode cc pc = .ok (.if_icmp .ge off, 3)) (hn : nx = pc + 3) (ht : ∀ a t r, tg = (a, t) :: r → (pc : Int) + off = (t : Int)) (h : oh_b2 st (fun x y st1 => oh_br (y ≤ x) tg nx (fun t => K t ls st1 μ))) : oh_G p l e R s m args below meth c cells slots Q D ad tc cA A nL pc ls st μ := by
  subst hn
  obtain ⟨x, y, st1, rfl, h⟩ := oh_b2_of h
  obtain ⟨a, t, r, htg, ha, hf⟩ := oh_br_of h
  intro h0 h1 h2 h3 H locs lr hP hD hS hL
  obtain ⟨hy, h2⟩ := List.forall_mem_cons.mp h2
  obtain ⟨hx1, h2⟩ := List.forall_mem_cons.mp h2
  have ef := oh_le32 hy hx1
  exact lv_icmp_ge hx hb hd (ht _ _ _ htg) (fun q => hK _ _ _ _ (ha (ef.mp q)) h0 h1 h2 h3 H locs lr hP hD hS hL) (fun q => hK _ _ _ _ (hf (fun z => q (ef.mpr z))) h0 h1 h2 h3 H locs lr hP hD hS hL)
theorem g_if_ge (hx : p.tables.exec = Jvm.exec) (hb : c.code = cc) (hK : ∀ pc ls st μ, K pc ls st μ → oh_G p l e R s m args below meth c cells slots Q D ad tc cA A nL pc ls st μ) {off : Int} (hd : decode cc pc = .ok (.ifCond .ge off, 3)) (hn : nx = pc + 3) (ht : ∀ a t r, tg = (a, t) :: r → (pc : Int) + off = (t : Int)) (h : oh_b1 st (fun x st1 => oh_br (0 ≤ x) tg nx (fun t => K t ls st1 μ))) : oh_G p l e R s m args below meth c cells slots Q D ad tc cA A nL pc ls st μ := by
  subst hn
  obtain ⟨x, st1, rfl, h⟩ := oh_b1_of h
  obtain ⟨a, t, r, htg, ha, hf⟩ := oh_br_of h
  intro h0 h1 h2 h3 H locs lr hP hD hS hL
  obtain ⟨hx1, h2⟩ := List.forall_mem_cons.mp h2
  have h00 : oh_rgI 0 := ⟨by decide, by decide⟩
  have ef := oh_le32 h00 hx1
  exact lv_if_ge hx hb hd (ht _ _ _ htg) (fun q => hK _ _ _ _ (ha (ef.mp q)) h0 h1 h2 h3 H locs lr hP hD hS hL) (fun q => hK _ _ _ _ (hf (fun z => q (ef.mpr z))) h0 h1 h2 h3 H locs lr hP hD hS hL)
theorem g_icmp_gt (hx : p.tables.exec = Jvm.exec) (hb : c.code = cc) (hK : ∀ pc ls st μ, K pc ls st μ → oh_G p l e R s m args below meth c cells slots Q D ad tc cA A nL pc ls st μ) {off : Int} (hd : decode cc pc = .ok (.if_icmp .gt off, 3)) (hn : nx = pc + 3) (ht : ∀ a t r, tg = (a, t) :: r → (pc : Int) + off = (t : Int)) (h : oh_b2 st (fun x y st1 => oh_br (y < x) tg nx (fun t => K t ls st1 μ))) : oh_G p l e R s m args below meth c cells slots Q D ad tc cA A nL pc ls st μ := by
  subst hn
  obtain ⟨x, y, st1, rfl, h⟩ := oh_b2_of h
  obtain ⟨a, t, r, htg, ha, hf⟩ := oh_br_of h
  intro h0 h1 h2 h3 H locs lr hP hD hS hL
  obtain ⟨hy, h2⟩ := List.forall_mem_cons.mp h2
  obtain ⟨hx1, h2⟩ := List.forall_mem_cons.mp h2
  have ef := oh_lt32 hy hx1
  exact lv_icmp_gt hx hb hd (ht _ _ _ htg) (fun q => hK _ _ _ _ (ha (ef.mp q)) h0 h1 h2 h3 H locs lr hP hD hS hL) (fun q => hK _ _ _ _ (hf (fun z => q (ef.mpr z))) h0 h1 h2 h3 H locs lr hP hD hS hL)
theorem g_if_gt (hx : p.tables.exec = Jvm.exec) (hb : c.code = cc) (hK : ∀ pc ls st μ, K pc ls st μ → oh_G p l e R s m args below meth c cells slots Q D ad tc cA A nL pc ls st μ) {off : Int} (hd : decode cc pc = .ok (.ifCond .gt off, 3)) (hn : nx = pc + 3) (ht : ∀ a t r, tg = (a, t) :: r → (pc : Int) + off = (t : Int)) (h : oh_b1 st (fun x st1 => oh_br (0 < x) tg nx (fun t => K t ls st1 μ))) : oh_G p l e R s m args below meth c cells slots Q D ad tc cA A nL pc ls st μ := by
  subst hn
  obtain ⟨x, st1, rfl, h⟩ := oh_b1_of h
  obtain ⟨a, t, r, htg, ha, hf⟩ := oh_br_of h
  intro h0 h1 h2 h3 H locs lr hP hD hS hL
  obtain ⟨hx1, h2⟩ := List.forall_mem_cons.mp h2
  have h00 : oh_rgI 0 := ⟨by decide, by decide⟩
  have ef := oh_lt32 h00 hx1
  exact lv_if_gt hx hb hd (ht _ _ _ htg) (fun q => hK _ _ _ _ (ha (ef.mp q)) h0 h1 h2 h3 H locs lr hP hD hS hL) (fun q => hK _ _ _ _ (hf (fun z => q (ef.mpr z))) h0 h1 h2 h3 H locs lr hP hD hS hL)
theorem g_icmp_le (hx : p.tables.exec = Jvm.exec) (hb : c.code = cc) (hK : ∀ pc ls st μ, K pc ls st μ → oh_G p l e R s m args below meth c cells slots Q D ad tc cA A nL pc ls st μ) {off : Int} (hd : decode cc pc = .ok (.if_icmp .le off, 3)) (hn : nx = pc + 3) (ht : ∀ a t r, tg = (a, t) :: r → (pc : Int) + off = (t : Int)) (h : oh_b2 st (fun x y st1 => oh_br (x ≤ y) tg nx (fun t => K t ls st1 μ))) : oh_G p l e R s m args below meth c cells slots Q D ad tc cA A nL pc ls st μ := by
  subst hn
  obtain ⟨x, y, st1, rfl, h⟩ := oh_b2_of h
  obtain ⟨a, t, r, htg, ha, hf⟩ := oh_br_of h
  intro h0 h1 h2 h3 H locs lr hP hD hS hL
  obtain ⟨hy, h2⟩ := List.forall_mem_cons.mp h2
  obtain ⟨hx1, h2⟩ := List.forall_mem_cons.mp h2
  have ef := oh_le32 hx1 hy
  exact lv_icmp_le hx hb hd (ht _ _ _ htg) (fun q => hK _ _ _ _ (ha (ef.mp q)) h0 h1 h2 h3 H locs lr hP hD hS hL) (fun q => hK _ _ _ _ (hf (fun z => q (ef.mpr z))) h0 h1 h2 h3 H locs lr hP hD hS hL)
theorem g_if_le (hx : p.tables.exec = Jvm.exec) (hb : c.code = cc) (hK : ∀ pc ls st μ, K pc ls st μ → oh_G p l e R s m args below meth c cells slots Q D ad tc cA A nL pc ls st μ) {off : Int} (hd : decode cc pc = .ok (.ifCond .le off, 3)) (hn : nx = pc + 3) (ht : ∀ a t r, tg = (a, t) :: r → (pc : Int) + off = (t : Int)) (h : oh_b1 st (fun x st1 => oh_br (x ≤ 0) tg nx (fun t => K t ls st1 μ))) : oh_G p l e R s m args below meth c cells slots Q D ad tc cA A nL pc ls st μ := by
  subst hn
  obtain ⟨x, st1, rfl, h⟩ := oh_b1_of h
  obtain ⟨a, t, r, htg, ha, hf⟩ := oh_br_of h
  intro h0 h1 h2 h3 H locs lr hP hD hS hL
  obtain ⟨hx1, h2⟩ := List.forall_mem_cons.mp h2
  have h00 : oh_rgI 0 := ⟨by decide, by decide⟩
  have ef := oh_le32 hx1 h00
  exact lv_if_le hx hb hd (ht _ _ _ htg) (fun q => hK _ _ _ _ (ha (ef.mp q)) h0 h1 h2 h3 H locs lr hP hD hS hL) (fun q => hK _ _ _ _ (hf (fun z => q (ef.mpr z))) h0 h1 h2 h3 H locs lr hP hD hS hL)
theorem g_goto (hx : p.tables.exec = Jvm.exec) (hb : c.code = cc) (hK : ∀ pc ls st μ, K pc ls st μ → oh_G p l e R s m args below meth c cells slots Q D ad tc cA A nL pc ls st μ) {off : Int} (hd : decode cc pc = .ok (.goto off, 3)) {a : Int} {t : Nat} (ht : (pc : Int) + off = (t : Int)) (h : K t ls st μ) : oh_G p l e R s m args below meth c cells slots Q D ad tc cA A nL pc ls st μ := by
  intro h0 h1 h2 h3 H locs lr hP hD hS hL
  exact lv_goto hx hb hd ht (hK _ _ _ _ h h0 h1 h2 h3 H locs lr hP hD hS hL)
/-- the rows of a switch: keys from lo on, targets by the offsets -/
def oh_swOK (pc : Nat) (lo : Int) : List Int → List (Int × Nat) → Bool
  | [], [] => true
  | o :: os, (a, t) :: l => decide (a = lo) && decide ((pc : Int) + o = (t : Int)) && oh_swOK pc (lo + 1) os l
  | _, _ => false
theorem oh_sw_of {k : Nat → Prop} : ∀ (os : List Int) (l : List (Int × Nat)) (lo x : Int), oh_swOK pc lo os l = true → lo ≤ x → x < lo + os.length → oh_swl x l k → ∃ (o : Int) (t : Nat), os[(x - lo).toNat]? = some o ∧ (pc : Int) + o = (t : Int) ∧ k t
  | [], l, lo, x, _, h1, h2, _ => absurd h2 (by simp; omega)
  | o :: os, [], lo, x, h, _, _, _ => by simp [oh_swOK] at h
  | o :: os, (a, t) :: l, lo, x, h, h1, h2, hk => by
    simp only [oh_swOK, Bool.and_eq_true, decide_eq_true_eq] at h
    obtain ⟨⟨e1, e2⟩, e3⟩ := h
    by_cases hx : x = lo
    · subst hx
      refine ⟨o, t, ?_, e2, hk.1 e1.symm⟩
      simp
    · obtain ⟨o', t', g1, g2, g3⟩ := oh_sw_of os l (lo + 1) x e3 (by omega) (by simp at h2; omega) hk.2
      refine ⟨o', t', ?_, g2, g3⟩
      have : (x - lo).toNat = (x - (lo + 1)).toNat + 1 := by omega
      rw [this, List.getElem?_cons_succ]
      exact g1
theorem g_switch (hx : p.tables.exec = Jvm.exec) (hb : c.code = cc) (hK : ∀ pc ls st μ, K pc ls st μ → oh_G p l e R s m args below meth c cells slots Q D ad tc cA A nL pc ls st μ) {dflt lo hi : Int} {offs : Array Int} {len : Nat} (hd : decode cc pc = .ok (.tableswitch dflt lo hi offs, len)) {a : Int} {t : Nat} {r : List (Int × Nat)} (htg : tg = (a, t) :: r) (ht : (pc : Int) + dflt = (t : Int)) (hsw : oh_swOK pc lo offs.toList r = true) (hlen : hi < lo + offs.toList.length) (h : oh_b1 st (fun x st1 => (x < lo ∨ hi < x → K t ls st1 μ) ∧ oh_swl x r (fun t => K t ls st1 μ))) : oh_G p l e R s m args below meth c cells slots Q D ad tc cA A nL pc ls st μ := by
  obtain ⟨x, st1, rfl, h⟩ := oh_b1_of h
  intro h0 h1 h2 h3 H locs lr hP hD hS hL
  obtain ⟨hx1, h2⟩ := List.forall_mem_cons.mp h2
  have hx1 : oh_rgI x := hx1
  have hxi := oh_toInt hx1
  by_cases q : x < lo ∨ hi < x
  · exact lv_tableOut hx hb hd (by rw [hxi]; exact q) ht (hK _ _ _ _ (h.1 q) h0 h1 h2 h3 H locs lr hP hD hS hL)
  · obtain ⟨o, t', g1, g2, g3⟩ := oh_sw_of _ _ _ _ hsw (by omega) (by omega) h.2
    refine lv_tableIn hx hb hd (by rw [hxi]; omega) (by rw [hxi]; omega) (off := o) ?_ g2 (hK _ _ _ _ g3 h0 h1 h2 h3 H locs lr hP hD hS hL)
    rw [hxi, ← Array.getElem?_toList]
    exact g1
theorem g_dup (hx : p.tables.exec = Jvm.exec) (hb : c.code = cc) (hK : ∀ pc ls st μ, K pc ls st μ → oh_G p l e R s m args below meth c cells slots Q D ad tc cA A nL pc ls st μ) (hd : decode cc pc = .ok (.dup, 1)) (hn : nx = pc + 1) (h : oh_dup st (fun st1 => K nx ls st1 μ)) : oh_G p l e R s m args below meth c cells slots Q D ad tc cA A nL pc ls st μ := by
  subst hn
  unfold oh_dup at h
  intro h0 h1 h2 h3 H locs lr hP hD hS hL
  split at h
  · obtain ⟨hx1, h2⟩ := List.forall_mem_cons.mp h2
    exact lv_dup hx hb hd rfl (hK _ _ _ _ h h0 h1 (List.forall_mem_cons.mpr ⟨hx1, List.forall_mem_cons.mpr ⟨hx1, h2⟩⟩) h3 H locs lr hP hD hS hL)
  · rename_i x st1
    obtain ⟨hx1, h2⟩ := List.forall_mem_cons.mp h2
    refine lv_dup hx hb hd ?_ (hK _ _ _ _ h h0 h1 (List.forall_mem_cons.mpr ⟨hx1, List.forall_mem_cons.mpr ⟨hx1, h2⟩⟩) h3 H locs lr hP hD hS hL)
    rcases x with ⟨q1, q2⟩ | x <;> rfl
  · exact h.elim
theorem g_dup2 (hx : p.tables.exec = Jvm.exec) (hb : c.code = cc) (hK : ∀ pc ls st μ, K pc ls st μ → oh_G p l e R s m args below meth c cells slots Q D ad tc cA A nL pc ls st μ) (hd : decode cc pc = .ok (.dup2, 1)) (hn : nx = pc + 1) (h : oh_dup2 st (fun st1 => K nx ls st1 μ)) : oh_G p l e R s m args below meth c cells slots Q D ad tc cA A nL pc ls st μ := by
  subst hn
  unfold oh_dup2 at h
  intro h0 h1 h2 h3 H locs lr hP hD hS hL
  split at h
  · rename_i x y st1
    obtain ⟨hx1, h2⟩ := List.forall_mem_cons.mp h2
    obtain ⟨hy1, h2⟩ := List.forall_mem_cons.mp h2
    refine lv_dup2_11 hx hb hd rfl ?_ (hK _ _ _ _ h h0 h1 (List.forall_mem_cons.mpr ⟨hx1, List.forall_mem_cons.mpr ⟨hy1, List.forall_mem_cons.mpr ⟨hx1, List.forall_mem_cons.mpr ⟨hy1, h2⟩⟩⟩⟩) h3 H locs lr hP hD hS hL)
    rcases y with ⟨q1, q2⟩ | y <;> rfl
  · exact h.elim
theorem g_pop (hx : p.tables.exec = Jvm.exec) (hb : c.code = cc) (hK : ∀ pc ls st μ, K pc ls st μ → oh_G p l e R s m args below meth c cells slots Q D ad tc cA A nL pc ls st μ) (hd : decode cc pc = .ok (.pop, 1)) (hn : nx = pc + 1) (h : oh_pop st (fun st1 => K nx ls st1 μ)) : oh_G p l e R s m args below meth c cells slots Q D ad tc cA A nL pc ls st μ := by
  subst hn
  unfold oh_pop at h
  intro h0 h1 h2 h3 H locs lr hP hD hS hL
  split at h
  · obtain ⟨hx1, h2⟩ := List.forall_mem_cons.mp h2
    exact lv_pop hx hb hd rfl (hK _ _ _ _ h h0 h1 h2 h3 H locs lr hP hD hS hL)
  · exact h.elim
end OhG2
end
section
/-! STEPS: fields, arrays, statics -/
theorem oh_isA_cases {s : Nat} (h : oh_isA s = false) : s = 0 ∨ s = 7 ∨ s = 9 ∨ s = 11 ∨ s = 13 ∨ s = 22 := by
  unfold oh_isA at h
  split at h
  · rename_i l hl
    simp only [oh_look, oh_ftT] at hl
    by_cases a0 : s = 0
    · exact Or.inl a0
    by_cases a1 : s = 7
    · exact Or.inr (Or.inl a1)
    by_cases a2 : s = 9
    · exact Or.inr (Or.inr (Or.inl a2))
    by_cases a3 : s = 11
    · exact Or.inr (Or.inr (Or.inr (Or.inl a3)))
    by_cases a4 : s = 13
    · exact Or.inr (Or.inr (Or.inr (Or.inr (Or.inl a4))))
    by_cases a5 : s = 22
    · exact Or.inr (Or.inr (Or.inr (Or.inr (Or.inr a5))))
    have e : ∀ k : Nat, ¬ s = k → Nat.beq k s = false := fun k hk => by
      cases hb : Nat.beq k s with
      | false => rfl
      | true => exact absurd (Nat.eq_of_beq_eq_true hb).symm hk
    rw [e 0 a0, e 7 a1, e 9 a2, e 11 a3, e 13 a4, e 22 a5] at hl
    cases hl
  · cases h
theorem oh_e_obj {ad : Nat → Nat → Nat} {cA : Nat → Nat → ClassId} {μ : Mem} {s n : Nat} (h : oh_isA s = false) : oh_e ad cA μ s n = .inr (oh_ci s, (List.range (oh_nf s)).map (oh_fv ad μ s n)) := by
  rcases oh_isA_cases h with rfl | rfl | rfl | rfl | rfl | rfl <;> rfl
def oh_lenB (s : Nat) : Bool := match oh_len s with
  | some L => decide (0 < L) && (decide (L ≤ 4096) && (oh_isA s && decide (oh_ty s = .int)))
  | none => true
theorem oh_len_all : ∀ s, s < 42 → oh_lenB s = true := by decide +kernel
theorem oh_len_of {s : Nat} {L : Int} (h : oh_len s = some L) : 0 < L ∧ L ≤ 4096 ∧ oh_isA s = true ∧ oh_ty s = .int := by
  have hs : s < 42 := by
    rcases Nat.lt_or_ge s 42 with q | q
    · exact q
    · have : oh_len s = none := oh_nth_big oh_lenT s q
      rw [this] at h
      cases h
  have := oh_len_all s hs
  simp only [oh_lenB, h, Bool.and_eq_true, decide_eq_true_eq] at this
  exact this
theorem oh_e_arr {ad : Nat → Nat → Nat} {cA : Nat → Nat → ClassId} {μ : Mem} {s n : Nat} {L : Int} (h : oh_len s = some L) : oh_e ad cA μ s n = .inl (cA s n, oh_ar L.toNat (μ s n)) := by
  unfold oh_e
  rw [h]
theorem oh_ar_up {L : Nat} {μ : Mem} {s n : Nat} {i v : Int} (h0 : 0 ≤ i) : (fun j : Nat => Int32.ofInt (oh_up μ s n i v s n j)) = upd (fun j : Nat => Int32.ofInt (μ s n j)) i.toNat (Int32.ofInt v) := by
  funext j
  unfold upd
  by_cases e : j = i.toNat
  · have e2 : (j : Int) = i := by omega
    rw [if_pos e, e2, oh_up_s]
  · rw [if_neg e, oh_up_o (fun q => e (by have := q.2.2; omega))]
/-- what a field's row in a class's table must have -/
def oh_FOK (own : String) (idx s0 k : Nat) (o : Int) : Prop := o = k ∧ k < oh_nf s0 ∧ oh_isA s0 = false ∧ ∃ (C : String) (T : u_T) (ty0 : Nat → FieldType), vwCl[oh_ci s0]? = some (C, T, oh_nf s0) ∧ (∀ w ∈ u_ws C T (oh_nf s0), w ∈ oh_tbl) ∧
  (∀ k, k < oh_nf s0 → parseFieldDescriptor (T k).2.2.1 = some (ty0 k)) ∧ (∀ a, a < oh_nf s0 → ∀ b, b < oh_nf s0 → a ≠ b → (T a).2.1 ≠ (T b).2.1) ∧ Cond.fieldLink own idx (T k).1 (T k).2.1 (T k).2.2.1 ∈ oh_tbl ∧
  ((oh_ft s0 k).1 = 0 → ty0 k = .int ∧ (T k).2.2.2 = false) ∧ ((oh_ft s0 k).1 = 1 → ty0 k = .boolean ∧ (T k).2.2.2 = false)
theorem oh_ft_all : ∀ s ∈ [0, 7, 9, 11, 13, 22], ∀ k, k < oh_nf s → ((oh_ft s k).1 = 2 → oh_cnt s ≤ oh_cnt (oh_ft s k).2.1) ∧ ((oh_ft s k).1 = 3 → (oh_ft s k).2.2 < oh_cnt (oh_ft s k).2.1) := by decide +kernel
theorem oh_nar_z {v : Int} (h0 : 0 ≤ v) (h1 : v ≤ 1) : narrow .boolean (.int (Int32.ofInt v)) = .int (Int32.ofInt v) ∧ fits .boolean (.int (Int32.ofInt v)) = true ∧ vp_nar .boolean (Int32.ofInt v) = Int32.ofInt v := by
  have : v = 0 ∨ v = 1 := by omega
  rcases this with rfl | rfl <;> decide
section OhG3
variable {p : Program} {l : Launch} {e : Env} {R : Room} {s : State} {m : MethodId} {args : Array Value} {below : List Frame} {meth : Method} {c : Code} {cells slots : Nat} {Q : State → Prop}
variable {D : va_G} {ad : Nat → Nat → Nat} {tc : Nat → Nat} {cA : Nat → Nat → ClassId} {A : Nat → Prop} {nL : Nat} {cc : ByteArray} {own : String} {K : Kt} {pc nx : Nat} {ls : LV} {st : List AV} {μ : Mem} {kc : Nat → Int × (Int → Int)}
theorem g_getfield (hx : p.tables.exec = Jvm.exec) (hb : c.code = cc) (hown : s.vm.findClass own = some m.cls) (hts : ∀ w ∈ oh_tbl, w.before args s = true) (hKn : va_K D vwCl (oh_tys cA) s) (hK : ∀ pc ls st μ, K pc ls st μ → oh_G p l e R s m args below meth c cells slots Q D ad tc cA A nL pc ls st μ) {idx s0 k : Nat} {o : Int} (hd : decode cc pc = .ok (.getfield idx, 3)) (hn : nx = pc + 3) (hF : oh_FOK own idx s0 k o) (h : oh_get s0 k o st μ (fun st1 => K nx ls st1 μ)) : oh_G p l e R s m args below meth c cells slots Q D ad tc cA A nL pc ls st μ := by
  subst hn
  obtain ⟨rfl, hk, hA, C, T, ty0, hcl, hin, hty, hnm, hlink, -, -⟩ := hF
  unfold oh_get at h
  split at h
  · rename_i s9 n st1
    split at h
    · rename_i hs
      have hs := Nat.eq_of_beq_eq_true hs
      subst hs
      intro h0 h1 h2 h3 H locs lr hP hD hS hL
      obtain ⟨hw, h2⟩ := List.forall_mem_cons.mp h2
      have hw : n < oh_cnt s9 := hw
      obtain ⟨q0, hq0⟩ := oh_place hw
      have he := oh_w_at (ad := ad) (cA := cA) (μ := μ) hq0
      rw [oh_e_obj hA] at he
      have hv : ((List.range (oh_nf s9)).map (oh_fv ad μ s9 n))[k]? = some (oh_fv ad μ s9 n k) := by
        rw [List.getElem?_map, List.getElem?_range hk]
        rfl
      have hfa := oh_ft_all s9 (by rcases oh_isA_cases hA with rfl | rfl | rfl | rfl | rfl | rfl <;> decide) k hk
      refine va_get (D := D) hx hb hts hin hown hKn hP q0 he hcl k hk (hts _ hlink) (fun _ h9 => h9) hv hd ?_
      unfold oh_fv
      split at h
      · rename_i e
        rw [e]
        exact hK _ _ _ _ h h0 h1 (List.forall_mem_cons.mpr ⟨h3 _ _ _, h2⟩) h3 H locs lr hP hD hS hL
      · rename_i e
        rw [e]
        exact hK _ _ _ _ h h0 h1 (List.forall_mem_cons.mpr ⟨h3 _ _ _, h2⟩) h3 H locs lr hP hD hS hL
      · rename_i e
        rw [e]
        exact hK _ _ _ _ h h0 h1 (List.forall_mem_cons.mpr ⟨h3 _ _ _, h2⟩) h3 H locs lr hP hD hS hL
      · rename_i e
        rw [e]
        exact hK _ _ _ _ h h0 h1 (List.forall_mem_cons.mpr ⟨h3 _ _ _, h2⟩) h3 H locs lr hP hD hS hL
      · rename_i t _ e
        rw [e] at hfa
        rw [e]
        exact hK _ _ _ _ h h0 h1 (List.forall_mem_cons.mpr ⟨Nat.lt_of_lt_of_le hw (hfa.1 rfl), h2⟩) h3 H locs lr hP hD hS hL
      · rename_i t c9 e
        rw [e] at hfa
        rw [e]
        exact hK _ _ _ _ h h0 h1 (List.forall_mem_cons.mpr ⟨hfa.2 rfl, h2⟩) h3 H locs lr hP hD hS hL
      · exact h.elim
    · exact h.elim
  · exact h.elim
theorem oh_fs_set {s0 n k : Nat} {v : Int} (hf : (oh_ft s0 k).1 = 0 ∨ (oh_ft s0 k).1 = 1) : ((List.range (oh_nf s0)).map (oh_fv ad μ s0 n)).set k (.int (Int32.ofInt v)) = (List.range (oh_nf s0)).map (oh_fv ad (oh_up μ s0 n k v) s0 n) := by
  apply List.ext_getElem?
  intro i
  simp only [List.getElem?_set, List.getElem?_map, List.length_map, List.length_range]
  by_cases e : k = i
  · subst e
    rw [if_pos rfl]
    by_cases hk : k < oh_nf s0
    · rw [if_pos hk, List.getElem?_range hk]
      show _ = some (oh_fv ad (oh_up μ s0 n k v) s0 n k)
      unfold oh_fv
      rw [oh_up_s]
      rcases hft : oh_ft s0 k with ⟨a, b, d⟩
      rw [hft] at hf
      rcases hf with hf | hf <;> (have hf : a = _ := hf; subst hf; rfl)
    · rw [if_neg hk, List.getElem?_eq_none (by simpa using hk)]
      rfl
  · rw [if_neg e]
    by_cases hi : i < oh_nf s0
    · rw [List.getElem?_range hi]
      show some (oh_fv ad μ s0 n i) = some (oh_fv ad (oh_up μ s0 n k v) s0 n i)
      unfold oh_fv
      rw [oh_up_o (fun q => e (by have := q.2.2; omega))]
    · rw [List.getElem?_eq_none (by simpa using hi)]
      rfl
theorem g_putfield (hx : p.tables.exec = Jvm.exec) (hb : c.code = cc) (hown : s.vm.findClass own = some m.cls) (hts : ∀ w ∈ oh_tbl, w.before args s = true) (hKn : va_K D vwCl (oh_tys cA) s) (hK : ∀ pc ls st μ, K pc ls st μ → oh_G p l e R s m args below meth c cells slots Q D ad tc cA A nL pc ls st μ) {idx s0 k : Nat} {o : Int} (hd : decode cc pc = .ok (.putfield idx, 3)) (hn : nx = pc + 3) (hF : oh_FOK own idx s0 k o) (h : oh_set s0 k o st μ (fun st1 μ1 => K nx ls st1 μ1)) : oh_G p l e R s m args below meth c cells slots Q D ad tc cA A nL pc ls st μ := by
  subst hn
  obtain ⟨rfl, hk, hA, C, T, ty0, hcl, hin, hty, hnm, hlink, hi0, hi1⟩ := hF
  unfold oh_set at h
  split at h
  · rename_i v s9 n st1
    split at h
    · rename_i hs
      have hs := Nat.eq_of_beq_eq_true hs
      subst hs
      intro h0 h1 h2 h3 H locs lr hP hD hS hL
      obtain ⟨hv, h2⟩ := List.forall_mem_cons.mp h2
      obtain ⟨hw, h2⟩ := List.forall_mem_cons.mp h2
      have hw : n < oh_cnt s9 := hw
      have hv : oh_rgI v := hv
      obtain ⟨q0, hq0⟩ := oh_place hw
      have he := oh_w_at (ad := ad) (cA := cA) (μ := μ) hq0
      rw [oh_e_obj hA] at he
      have key : ∀ (hf : (oh_ft s9 k).1 = 0 ∨ (oh_ft s9 k).1 = 1) (hn1 : narrow (ty0 k) (.int (Int32.ofInt v)) = .int (Int32.ofInt v)) (hn2 : fits (ty0 k) (.int (Int32.ofInt v)) = true) (hfin : (T k).2.2.2 = false) (h : K (pc + 3) ls st1 (oh_up μ s9 n k v)),
          W p l e R s m args below meth c H locs cells slots Q (F0 m pc lr (List.map (oh_re ad tc) (oI v :: Sum.inr (Sum.inr (Sum.inl (s9, n))) :: st1))) := by
        intro hf hn1 hn2 hfin h
        refine va_put (D := D) hx hb hts hin ty0 hty hnm hown hKn hP hD hS q0 he hcl k hk (hts _ hlink) (fun _ h9 => h9) hfin (hty k hk) hn1 hn2 (by simpa using hk) hd (fun H1 locs1 hP1 hD1 hS1 => ?_)
        have ew : (oh_w ad cA μ).set q0 (ad s9 n, .inr (oh_ci s9, ((List.range (oh_nf s9)).map (oh_fv ad μ s9 n)).set k (oh_re ad tc (oI v)))) = oh_w ad cA (oh_up μ s9 n k v) :=
          oh_w_set hq0 (by rw [oh_e_obj hA, ← oh_fs_set hf]; rfl) oh_e_up
        rw [ew] at hP1 hD1
        exact hK _ _ _ _ h h0 h1 h2 (oh_up_wf h3 hv) H1 locs1 lr hP1 hD1 hS1 hL
      split at h
      · rename_i e
        have h9 := hi0 (by rw [e])
        exact key (Or.inl (by rw [e])) (by rw [h9.1]; exact vp_nar_int _) (by rw [h9.1]; rfl) h9.2 h
      · rename_i e
        have h9 := hi1 (by rw [e])
        obtain ⟨z1, z2, -⟩ := oh_nar_z h.1.1 h.1.2
        exact key (Or.inr (by rw [e])) (by rw [h9.1]; exact z1) (by rw [h9.1]; exact z2) h9.2 h.2
      · exact h.elim
    · exact h.elim
  · exact h.elim
def oh_Con (kc : Nat → Int × (Int → Int)) (tc : Nat → Nat) (A : Nat → Prop) (U : State) (H : Heap) (k : Nat) : Prop := ∃ N : Nat, (kc k).1 = N ∧ N ≤ 2147483647 ∧ va_T .int (tc k) N (fun j => .int (Int32.ofInt ((kc k).2 j))) A U H ∧ ∀ j, oh_rgI ((kc k).2 j)
theorem g_iaload (hx : p.tables.exec = Jvm.exec) (hb : c.code = cc) (hKn : va_K D vwCl (oh_tys cA) s) (hC : ∀ k, oh_Con kc tc A s s.heap k) (hK : ∀ pc ls st μ, K pc ls st μ → oh_G p l e R s m args below meth c cells slots Q D ad tc cA A nL pc ls st μ) (hd : decode cc pc = .ok (.iaload, 1)) (hn : nx = pc + 1) (h : oh_ald kc st μ (fun st1 => K nx ls st1 μ)) : oh_G p l e R s m args below meth c cells slots Q D ad tc cA A nL pc ls st μ := by
  subst hn
  unfold oh_ald at h
  split at h
  · rename_i i s9 n st1
    split at h
    · rename_i L hL9
      obtain ⟨⟨hi0, hi1⟩, h⟩ := h
      obtain ⟨l1, l2, l3, l4⟩ := oh_len_of hL9
      intro h0 h1 h2 h3 H locs lr hP hD hS hL
      obtain ⟨hi, h2⟩ := List.forall_mem_cons.mp h2
      obtain ⟨hw, h2⟩ := List.forall_mem_cons.mp h2
      have hw : n < oh_cnt s9 := hw
      obtain ⟨q0, hq0⟩ := oh_place hw
      obtain ⟨t0, ht0⟩ := oh_tys_at (cA := cA) hw l3
      rw [l4] at ht0
      have he := oh_w_at (ad := ad) (cA := cA) (μ := μ) hq0
      rw [oh_e_arr hL9] at he
      obtain ⟨v1, v2⟩ := oh_in (L := L.toNat) hi0 (by omega) (by omega)
      refine va_iald (D := D) hx hb hKn hP q0 t0 he ht0 v1 hd ?_
      rw [v2]
      have e1 : ((i.toNat : Nat) : Int) = i := by omega
      have w := hK _ _ _ _ h h0 h1 (List.forall_mem_cons.mpr ⟨h3 _ _ _, h2⟩) h3 H locs lr hP hD hS hL
      rw [e1]
      exact w
    · exact h.elim
  · rename_i i c9 st1
    split at h
    rename_i L f hkc
    obtain ⟨⟨hi0, hi1⟩, h⟩ := h
    obtain ⟨N, hN, hN2, hT, hrg⟩ := hC c9
    rw [hkc] at hN hT hrg
    have hN : L = N := hN
    subst hN
    intro h0 h1 h2 h3 H locs lr hP hD hS hL
    obtain ⟨hi, h2⟩ := List.forall_mem_cons.mp h2
    obtain ⟨hw, h2⟩ := List.forall_mem_cons.mp h2
    obtain ⟨v1, v2⟩ := oh_in (L := N) hi0 hi1 hN2
    have e1 : ((i.toNat : Nat) : Int) = i := by omega
    have w := hK _ _ _ _ h h0 h1 (List.forall_mem_cons.mpr ⟨hrg i, h2⟩) h3 H locs lr hP hD hS hL
    refine va_ti hx hb hT hS v1 (v := .int (Int32.ofInt (f i))) ?_ hd w
    show Value.int (Int32.ofInt (f ((Int32.ofInt i).toNatClampNeg : Nat))) = _
    rw [v2, e1]
  · exact h.elim
theorem g_iastore (hx : p.tables.exec = Jvm.exec) (hb : c.code = cc) (hKn : va_K D vwCl (oh_tys cA) s) (hK : ∀ pc ls st μ, K pc ls st μ → oh_G p l e R s m args below meth c cells slots Q D ad tc cA A nL pc ls st μ) (hd : decode cc pc = .ok (.iastore, 1)) (hn : nx = pc + 1) (h : oh_ast st μ (fun st1 μ1 => K nx ls st1 μ1)) : oh_G p l e R s m args below meth c cells slots Q D ad tc cA A nL pc ls st μ := by
  subst hn
  unfold oh_ast at h
  split at h
  · rename_i v i s9 n st1
    split at h
    · rename_i L hL9
      obtain ⟨⟨hi0, hi1⟩, h⟩ := h
      obtain ⟨l1, l2, l3, l4⟩ := oh_len_of hL9
      intro h0 h1 h2 h3 H locs lr hP hD hS hL
      obtain ⟨hv, h2⟩ := List.forall_mem_cons.mp h2
      obtain ⟨hi, h2⟩ := List.forall_mem_cons.mp h2
      obtain ⟨hw, h2⟩ := List.forall_mem_cons.mp h2
      have hw : n < oh_cnt s9 := hw
      obtain ⟨q0, hq0⟩ := oh_place hw
      obtain ⟨t0, ht0⟩ := oh_tys_at (cA := cA) hw l3
      rw [l4] at ht0
      have he := oh_w_at (ad := ad) (cA := cA) (μ := μ) hq0
      rw [oh_e_arr hL9] at he
      obtain ⟨v1, v2⟩ := oh_in (L := L.toNat) hi0 (by omega) (by omega)
      refine va_iast (D := D) hx hb hKn hP hD hS q0 t0 he ht0 v1 hd (fun H1 locs1 hP1 hD1 hS1 => ?_)
      rw [v2] at hP1 hD1
      have ew : (oh_w ad cA μ).set q0 (ad s9 n, .inl (cA s9 n, L.toNat, .inl (upd (fun j : Nat => Int32.ofInt (μ s9 n j)) i.toNat (Int32.ofInt v)))) = oh_w ad cA (oh_up μ s9 n i v) :=
        oh_w_set hq0 (by rw [oh_e_arr hL9, ← oh_ar_up (L := L.toNat) hi0]; rfl) oh_e_up
      rw [ew] at hP1 hD1
      exact hK _ _ _ _ h h0 h1 h2 (oh_up_wf h3 hv) H1 locs1 lr hP1 hD1 hS1 hL
    · exact h.elim
  · exact h.elim
theorem g_baload (hx : p.tables.exec = Jvm.exec) (hb : c.code = cc) (hKn : va_K D vwCl (oh_tys cA) s) (hK : ∀ pc ls st μ, K pc ls st μ → oh_G p l e R s m args below meth c cells slots Q D ad tc cA A nL pc ls st μ) (hd : decode cc pc = .ok (.baload, 1)) (hn : nx = pc + 1) (h : oh_zld st μ (fun st1 => K nx ls st1 μ)) : oh_G p l e R s m args below meth c cells slots Q D ad tc cA A nL pc ls st μ := by
  subst hn
  unfold oh_zld at h
  split at h
  · rename_i i s9 n st1
    split at h
    · rename_i hs
      have hs := Nat.eq_of_beq_eq_true hs
      subst hs
      obtain ⟨⟨hi0, hi1⟩, h⟩ := h
      intro h0 h1 h2 h3 H locs lr hP hD hS hL
      obtain ⟨hi, h2⟩ := List.forall_mem_cons.mp h2
      obtain ⟨hw, h2⟩ := List.forall_mem_cons.mp h2
      have hw : n < oh_cnt 35 := hw
      obtain ⟨q0, hq0⟩ := oh_place hw
      obtain ⟨t0, ht0⟩ := oh_tys_at (cA := cA) hw rfl
      have he : (oh_w ad cA μ)[q0]? = some (ad 35 n, .inl (cA 35 n, 20, .inl (fun j : Nat => Int32.ofInt (μ 35 n j)))) := oh_w_at (ad := ad) (cA := cA) (μ := μ) hq0
      obtain ⟨v1, v2⟩ := oh_in (L := 20) hi0 (by omega) (by omega)
      refine va_zald (D := D) hx hb hKn hP q0 t0 he ht0 v1 hd ?_
      rw [v2]
      have e1 : ((i.toNat : Nat) : Int) = i := by omega
      have w := hK _ _ _ _ h h0 h1 (List.forall_mem_cons.mpr ⟨h3 _ _ _, h2⟩) h3 H locs lr hP hD hS hL
      rw [e1]
      exact w
    · exact h.elim
  · exact h.elim
theorem g_bastore (hx : p.tables.exec = Jvm.exec) (hb : c.code = cc) (hKn : va_K D vwCl (oh_tys cA) s) (hK : ∀ pc ls st μ, K pc ls st μ → oh_G p l e R s m args below meth c cells slots Q D ad tc cA A nL pc ls st μ) (hd : decode cc pc = .ok (.bastore, 1)) (hn : nx = pc + 1) (h : oh_zst st μ (fun st1 μ1 => K nx ls st1 μ1)) : oh_G p l e R s m args below meth c cells slots Q D ad tc cA A nL pc ls st μ := by
  subst hn
  unfold oh_zst at h
  split at h
  · rename_i v i s9 n st1
    split at h
    · rename_i hs
      have hs := Nat.eq_of_beq_eq_true hs
      subst hs
      obtain ⟨⟨hi0, hi1⟩, ⟨hz0, hz1⟩, h⟩ := h
      intro h0 h1 h2 h3 H locs lr hP hD hS hL
      obtain ⟨hv, h2⟩ := List.forall_mem_cons.mp h2
      obtain ⟨hi, h2⟩ := List.forall_mem_cons.mp h2
      obtain ⟨hw, h2⟩ := List.forall_mem_cons.mp h2
      have hw : n < oh_cnt 35 := hw
      obtain ⟨q0, hq0⟩ := oh_place hw
      obtain ⟨t0, ht0⟩ := oh_tys_at (cA := cA) hw rfl
      have he : (oh_w ad cA μ)[q0]? = some (ad 35 n, .inl (cA 35 n, 20, .inl (fun j : Nat => Int32.ofInt (μ 35 n j)))) := oh_w_at (ad := ad) (cA := cA) (μ := μ) hq0
      obtain ⟨v1, v2⟩ := oh_in (L := 20) hi0 (by omega) (by omega)
      refine va_zast (D := D) hx hb hKn hP hD hS q0 t0 he ht0 v1 hd (fun H1 locs1 hP1 hD1 hS1 => ?_)
      rw [v2, (oh_nar_z hz0 hz1).2.2] at hP1 hD1
      have ew : (oh_w ad cA μ).set q0 (ad 35 n, .inl (cA 35 n, 20, .inl (upd (fun j : Nat => Int32.ofInt (μ 35 n j)) i.toNat (Int32.ofInt v)))) = oh_w ad cA (oh_up μ 35 n i v) :=
        oh_w_set hq0 (by rw [← oh_ar_up (L := 20) hi0]; rfl) oh_e_up
      rw [ew] at hP1 hD1
      exact hK _ _ _ _ h h0 h1 h2 (oh_up_wf h3 hv) H1 locs1 lr hP1 hD1 hS1 hL
    · exact h.elim
  · exact h.elim
theorem g_aaload (hx : p.tables.exec = Jvm.exec) (hb : c.code = cc) (hKn : va_K D vwCl (oh_tys cA) s) (hK : ∀ pc ls st μ, K pc ls st μ → oh_G p l e R s m args below meth c cells slots Q D ad tc cA A nL pc ls st μ) (hd : decode cc pc = .ok (.aaload, 1)) (hn : nx = pc + 1) (h : oh_rld st (fun st1 => K nx ls st1 μ)) : oh_G p l e R s m args below meth c cells slots Q D ad tc cA A nL pc ls st μ := by
  subst hn
  unfold oh_rld at h
  split at h
  · rename_i i s9 n st1
    split at h
    · rename_i hs
      have hs := Nat.eq_of_beq_eq_true hs
      subst hs
      obtain ⟨⟨hi0, hi1⟩, h⟩ := h
      intro h0 h1 h2 h3 H locs lr hP hD hS hL
      obtain ⟨hi, h2⟩ := List.forall_mem_cons.mp h2
      obtain ⟨hw, h2⟩ := List.forall_mem_cons.mp h2
      have hw : n < oh_cnt 14 := hw
      obtain ⟨q0, hq0⟩ := oh_place hw
      obtain ⟨t0, ht0⟩ := oh_tys_at (cA := cA) hw rfl
      have he : (oh_w ad cA μ)[q0]? = some (ad 14 n, .inl (cA 14 n, 3, .inr (.inr (.inr (.inr (fun j => some (ad 0 j))))))) := oh_w_at (ad := ad) (cA := cA) (μ := μ) hq0
      obtain ⟨v1, v2⟩ := oh_in (L := 3) hi0 (by omega) (by omega)
      refine va_aldq (D := D) hx hb hKn hP q0 t0 he ht0 v1 hd ?_
      rw [v2]
      exact hK _ _ _ _ h h0 h1 (List.forall_mem_cons.mpr ⟨show i.toNat < 3 by omega, h2⟩) h3 H locs lr hP hD hS hL
    · split at h
      · rename_i hs
        have hs := Nat.eq_of_beq_eq_true hs
        subst hs
        obtain ⟨⟨hi0, hi1⟩, h⟩ := h
        intro h0 h1 h2 h3 H locs lr hP hD hS hL
        obtain ⟨hi, h2⟩ := List.forall_mem_cons.mp h2
        obtain ⟨hw, h2⟩ := List.forall_mem_cons.mp h2
        have hw : n < oh_cnt 21 := hw
        obtain ⟨q0, hq0⟩ := oh_place hw
        obtain ⟨t0, ht0⟩ := oh_tys_at (cA := cA) hw rfl
        have he : (oh_w ad cA μ)[q0]? = some (ad 21 n, .inl (cA 21 n, 4, .inr (.inr (.inr (.inr (fun j => some (ad 9 j))))))) := oh_w_at (ad := ad) (cA := cA) (μ := μ) hq0
        obtain ⟨v1, v2⟩ := oh_in (L := 4) hi0 (by omega) (by omega)
        refine va_aldq (D := D) hx hb hKn hP q0 t0 he ht0 v1 hd ?_
        rw [v2]
        exact hK _ _ _ _ h h0 h1 (List.forall_mem_cons.mpr ⟨show i.toNat < 4 by omega, h2⟩) h3 H locs lr hP hD hS hL
      · exact h.elim
  · exact h.elim
theorem g_alen (hx : p.tables.exec = Jvm.exec) (hb : c.code = cc) (hKn : va_K D vwCl (oh_tys cA) s) (hC : ∀ k, oh_Con kc tc A s s.heap k) (hK : ∀ pc ls st μ, K pc ls st μ → oh_G p l e R s m args below meth c cells slots Q D ad tc cA A nL pc ls st μ) (hd : decode cc pc = .ok (.arraylength, 1)) (hn : nx = pc + 1) (h : oh_aln kc st (fun st1 => K nx ls st1 μ)) : oh_G p l e R s m args below meth c cells slots Q D ad tc cA A nL pc ls st μ := by
  subst hn
  unfold oh_aln at h
  split at h
  · rename_i s9 n st1
    split at h
    · rename_i L hL9
      obtain ⟨l1, l2, l3, l4⟩ := oh_len_of hL9
      intro h0 h1 h2 h3 H locs lr hP hD hS hL
      obtain ⟨hw, h2⟩ := List.forall_mem_cons.mp h2
      have hw : n < oh_cnt s9 := hw
      obtain ⟨q0, hq0⟩ := oh_place hw
      obtain ⟨t0, ht0⟩ := oh_tys_at (cA := cA) hw l3
      rw [l4] at ht0
      have he := oh_w_at (ad := ad) (cA := cA) (μ := μ) hq0
      rw [oh_e_arr hL9] at he
      refine va_alen (D := D) hx hb hKn hP q0 t0 he ht0 (v := Int32.ofInt L) ?_ hd (hK _ _ _ _ h h0 h1 (List.forall_mem_cons.mpr ⟨⟨by omega, by omega⟩, h2⟩) h3 H locs lr hP hD hS hL)
      show Int32.ofNat L.toNat = Int32.ofInt L
      have e1 : ((L.toNat : Nat) : Int) = L := by omega
      rw [← e1]
      rfl
    · exact h.elim
  · rename_i c9 st1
    split at h
    rename_i L f hkc
    obtain ⟨N, hN, hN2, hT, hrg⟩ := hC c9
    rw [hkc] at hN hT hrg
    have hN : L = N := hN
    subst hN
    intro h0 h1 h2 h3 H locs lr hP hD hS hL
    obtain ⟨hw, h2⟩ := List.forall_mem_cons.mp h2
    exact va_tlen hx hb hT hS (v := Int32.ofInt N) rfl hd (hK _ _ _ _ h h0 h1 (List.forall_mem_cons.mpr ⟨⟨by omega, by omega⟩, h2⟩) h3 H locs lr hP hD hS hL)
  · exact h.elim
/-- what a static array's row in a class's table must have, at a start -/
def oh_SOK (own : String) (tc : Nat → Nat) (A : Nat → Prop) (s : State) (idx k : Nat) : Prop := ∃ n : String, va_Z "OthersHours" n "[I" (.ref (tc k)) A s s.heap ∧ (Cond.fieldLink own idx "OthersHours" n "[I" ∈ oh_tbl ∨ Cond.fieldLinkNest own idx "OthersHours" n "[I" "OthersHours" ∈ oh_nest)
theorem g_getstatic (hx : p.tables.exec = Jvm.exec) (hb : c.code = cc) (hown : s.vm.findClass own = some m.cls) (hts : ∀ w ∈ oh_tbl, w.before args s = true) (hNs : ∀ w ∈ oh_nest, va_Nw w s) (hK : ∀ pc ls st μ, K pc ls st μ → oh_G p l e R s m args below meth c cells slots Q D ad tc cA A nL pc ls st μ) {idx k : Nat} (hd : decode cc pc = .ok (.getstatic idx, 3)) (hn : nx = pc + 3) (hF : oh_SOK own tc A s idx k) (h : K nx ls (oK k :: st) μ) : oh_G p l e R s m args below meth c cells slots Q D ad tc cA A nL pc ls st μ := by
  subst hn
  obtain ⟨n, hZ, hl⟩ := hF
  intro h0 h1 h2 h3 H locs lr hP hD hS hL
  have w := hK _ _ _ _ h h0 h1 (List.forall_mem_cons.mpr ⟨trivial, h2⟩) h3 H locs lr hP hD hS hL
  rcases hl with hl | hl
  · exact va_gets hx hb hZ hS hown (hts _ hl) (fun _ h9 => h9) hd w
  · exact va_getsN hx hb hZ hS hown (va_Nw.use rfl (hNs _ hl)) (fun _ h9 => h9) hd w
end OhG3
end
section
/-! CALLS, CONTRACTS, and the small machine's claim out of all its steps -/
theorem oh_look_mem {α : Type} : ∀ {l : List (Nat × α)} {k : Nat} {a : α}, oh_look l k = some a → (k, a) ∈ l
  | [], _, _, h => by simp [oh_look] at h
  | (k', a') :: l, k, a, h => by
    unfold oh_look at h
    split at h
    · rename_i e
      have e := Nat.eq_of_beq_eq_true e
      subst e
      cases h
      exact List.mem_cons_self
    · exact List.mem_cons_of_mem _ (oh_look_mem h)
def oh_nK (v : AV) : Prop := match v with
  | Sum.inr (Sum.inr (Sum.inr _)) => False
  | _ => True
theorem oh_re_nK {ad : Nat → Nat → Nat} {tc tc' : Nat → Nat} {v : AV} (h : oh_nK v) : oh_re ad tc v = oh_re ad tc' v := by
  rcases v with x | x | q | k
  · rfl
  · rfl
  · rfl
  · exact h.elim
theorem oh_args_of : ∀ (n : Nat) (st acc : List AV) (k : List AV → List AV → Prop), oh_args n st acc k → ∃ bs st1, st = bs ++ st1 ∧ bs.length = n ∧ (∀ v ∈ bs, oh_nK v) ∧ k (bs.reverse ++ acc) st1
  | 0, st, acc, k, h => ⟨[], st, rfl, rfl, ⟨fun _ h => (nomatch h), h⟩⟩
  | n + 1, [], _, _, h => by simp [oh_args] at h
  | n + 1, v :: st, acc, k, h => by
    have key : oh_nK v ∧ oh_args n st (v :: acc) k := by
      rcases v with x | x | q | c
      · exact ⟨trivial, h⟩
      · exact ⟨trivial, h⟩
      · exact ⟨trivial, h⟩
      · exact h.elim
    obtain ⟨bs, st1, e, hl, hn, hk⟩ := oh_args_of n st (v :: acc) k key.2
    refine ⟨v :: bs, st1, by rw [e]; rfl, by simp [hl], List.forall_mem_cons.mpr ⟨key.1, hn⟩, ?_⟩
    simpa using hk
/-- the addresses that may be written: the world's, and new ones -/
def oh_A (ad : Nat → Nat → Nat) (sz : Nat) : Nat → Prop := fun q => (∃ s n, n < oh_cnt s ∧ q = ad s n) ∨ sz ≤ q
theorem oh_A_sub {ad : Nat → Nat → Nat} {a b : Nat} (h : a ≤ b) {q : Nat} (hq : oh_A ad b q) : oh_A ad a q := by
  rcases hq with hq | hq
  · exact Or.inl hq
  · exact Or.inr (Nat.le_trans h hq)
theorem oh_D_all {ad : Nat → Nat → Nat} {cA : Nat → Nat → ClassId} {μ : Mem} {A : Nat → Prop} {sz : Nat} (h : va_D A (oh_w ad cA μ)) : va_D (oh_A ad sz) (oh_w ad cA μ) := by
  refine ⟨h.1, fun k q hk => ?_⟩
  have hm : q ∈ oh_w ad cA μ := List.mem_of_getElem? hk
  obtain ⟨x, hx, rfl⟩ := List.mem_map.mp hm
  exact Or.inl ⟨x.1, x.2, oh_mem_cnt hx, rfl⟩
def oh_tc (t0 t1 : Nat) : Nat → Nat := fun k => match k with
  | 0 => t0
  | _ => t1
def oh_Sta (t0 t1 : Nat) (A : Nat → Prop) (U : State) (H : Heap) : Prop := va_Z "OthersHours" "TOIL" "[I" (.ref t0) A U H ∧ va_Z "OthersHours" "DIGEST_HOURS" "[I" (.ref t1) A U H ∧ ∀ k, oh_Con oh_kc (oh_tc t0 t1) A U H k
theorem oh_Sta_moved {t0 t1 : Nat} {A : Nat → Prop} {u U : State} {H : Heap} (hvm : u.vm.Alike U.vm) (h : oh_Sta t0 t1 A u H) : oh_Sta t0 t1 A U H :=
  ⟨h.1.moved hvm, h.2.1.moved hvm, fun k => by
    obtain ⟨N, h1, h2, h3, h4⟩ := h.2.2 k
    exact ⟨N, h1, h2, h3.moved hvm, h4⟩⟩
theorem oh_Sta_kept {t0 t1 : Nat} {A : Nat → Prop} {U : State} {H H1 : Heap} (hq : ∀ a : Nat, a < H.size → ¬ A a → H1[a]? = H[a]?) (h : oh_Sta t0 t1 A U H) : oh_Sta t0 t1 A U H1 :=
  ⟨h.1.kept hq, h.2.1.kept hq, fun k => by
    obtain ⟨N, h1, h2, h3, h4⟩ := h.2.2 k
    exact ⟨N, h1, h2, h3.kept hq, h4⟩⟩
theorem oh_Sta_narrow {t0 t1 : Nat} {A B : Nat → Prop} {U : State} {H : Heap} (hAB : ∀ q, B q → A q) (h : oh_Sta t0 t1 A U H) : oh_Sta t0 t1 B U H :=
  ⟨h.1.narrow hAB, h.2.1.narrow hAB, fun k => by
    obtain ⟨N, h1, h2, h3, h4⟩ := h.2.2 k
    exact ⟨N, h1, h2, h3.narrow hAB, h4⟩⟩
def oh_B (D : va_G) (ad : Nat → Nat → Nat) (cA : Nat → Nat → ClassId) (t0 t1 : Nat) (μ : Mem) (sz : Nat) (U : State) : Prop :=
  U.heap.size = sz ∧ va_P D vwCl (oh_w ad cA μ) U.heap ∧ va_K D vwCl (oh_tys cA) U ∧ va_D (oh_A ad sz) (oh_w ad cA μ) ∧ oh_Sta t0 t1 (oh_A ad sz) U U.heap ∧ ∀ w ∈ oh_nest, va_Nw w U
def oh_Qc (D : va_G) (ad : Nat → Nat → Nat) (cA : Nat → Nat → ClassId) (tc : Nat → Nat) (sz : Nat) (Post : Po) : Array Value → State → Outcome → State → Prop := fun _ st oc t =>
  (∃ (r : Option AV) (μ1 : Mem), oc = .returned (r.map (oh_re ad tc)) ∧ Post r μ1 ∧ (∀ v, r = some v → oh_wf v ∧ oh_nK v) ∧ oh_wfM μ1 ∧ va_P D vwCl (oh_w ad cA μ1) t.heap ∧ va_D (oh_A ad sz) (oh_w ad cA μ1)) ∧ va_F (oh_A ad sz) st t
def oh_rm (h : Nat) : Room := { frames := h, cells := 0, slots := 0, locals := 128 * h }
/-- a method's contract over the machine -/
def oh_MC (l : Launch) (h : Nat) (y : MethodName) (bytes : ByteArray) (maxL : Nat) (ret : Option FieldType) (T : Tr) : Prop :=
  ∀ (D : va_G) (ad : Nat → Nat → Nat) (cA : Nat → Nat → ClassId) (t0 t1 sz : Nat) (as : List AV) (μ : Mem) (Post : Po), T as μ Post → (∀ v ∈ as, oh_wf v ∧ oh_nK v) → oh_wfM μ →
    Met l y (.code y bytes maxL ret :: oh_tbl) (oh_rm h) (va_Pc (as.map (oh_re ad (oh_tc t0 t1))) (oh_B D ad cA t0 t1 μ sz)) (oh_Qc D ad cA (oh_tc t0 t1) sz Post) 0 0 (oh_A ad sz)
theorem oh_blind {D : va_G} {ad : Nat → Nat → Nat} {cA : Nat → Nat → ClassId} {t0 t1 sz : Nat} {μ : Mem} {av : List Value} : FrameBlind (va_Pc av (oh_B D ad cA t0 t1 μ sz)) := by
  intro a U g mk q
  obtain ⟨q0, q1, qP, qK, qD, qS, qN⟩ := q
  exact ⟨q0, q1, qP, va_K.moved (u := U) (U := U.calling g mk a) (Vm.Alike.refl U.vm) qK, qD, oh_Sta_moved (u := U) (U := U.calling g mk a) (Vm.Alike.refl U.vm) qS, oh_nest_same (u := U) rfl qN⟩
theorem oh_good {w : Cond} (h : w ∈ oh_tbl) : GoodIn oh_tbl (w :: oh_tbl) := by
  intro v hv
  rcases List.mem_cons.mp hv with rfl | hv
  · exact ⟨h, good_of_word (List.mem_filter.mp h).2⟩
  · exact ⟨hv, good_of_word (List.mem_filter.mp hv).2⟩
section OhC
variable {p : Program} {l : Launch} {e : Env} {R : Room} {s : State} {m : MethodId} {args : Array Value} {below : List Frame} {meth : Method} {c : Code} {cells slots : Nat} {Q : State → Prop}
variable {D : va_G} {ad : Nat → Nat → Nat} {tc : Nat → Nat} {cA : Nat → Nat → ClassId} {nL : Nat} {cc : ByteArray} {own : String} {K : Kt} {pc nx : Nat} {ls : LV} {st : List AV} {μ : Mem} {kc : Nat → Int × (Int → Int)} {t0 t1 : Nat}
def oh_COK (p : Program) (l : Launch) (e : Env) (R : Room) (s : State) (m : MethodId) (args : Array Value) (below : List Frame) (meth : Method) (c : Code) (cells slots : Nat) (Q : State → Prop) (D : va_G) (ad : Nat → Nat → Nat) (tc : Nat → Nat) (cA : Nat → Nat → ClassId) (A : Nat → Prop) (nL : Nat) (cc : ByteArray) (i : ClassFile.Instr) (na : Nat) (T : Tr) : Prop :=
  ∀ (pc : Nat) (as st1 : List AV) (μ : Mem) (Post : Po) (H : Heap) (locs : List Loc) (lr : Array Slot), decode cc pc = .ok (i, 3) → as.length = na → (∀ v ∈ as, oh_wf v ∧ oh_nK v) → oh_cat st1 ≤ 8 → oh_wfM μ → T as μ Post → va_P D vwCl (oh_w ad cA μ) H → va_D A (oh_w ad cA μ) → va_S A s.heap H locs → lr.size = nL →
    (∀ (r : Option AV) (μ1 : Mem) (H1 : Heap) (locs1 : List Loc), Post r μ1 → (∀ v, r = some v → oh_wf v) → oh_wfM μ1 → va_P D vwCl (oh_w ad cA μ1) H1 → va_D A (oh_w ad cA μ1) → va_S A s.heap H1 locs1 → W p l e R s m args below meth c H1 locs1 cells slots Q (F0 m (pc + 3) lr ((r.toList ++ st1).map (oh_re ad tc)))) →
    W p l e R s m args below meth c H locs cells slots Q (F0 m pc lr ((as.reverse ++ st1).map (oh_re ad tc)))
theorem oh_run_go {lr : Array Slot} {H : Heap} {locs : List Loc} {st0 : List Value} {st1 : List AV} {Post : Po} {a : Array Value}
    (hr : va_Run p l e R s m args below meth c H locs cells slots 0 0 (F0 m pc lr st0) (st1.map (oh_re ad tc)) (oh_Qc D ad cA (oh_tc t0 t1) H.size Post a) (oh_A ad H.size)) (hS : va_S (oh_A ad s.heap.size) s.heap H locs)
    (kk : ∀ (r : Option AV) (μ1 : Mem) (H1 : Heap) (locs1 : List Loc), Post r μ1 → (∀ v, r = some v → oh_wf v) → oh_wfM μ1 → va_P D vwCl (oh_w ad cA μ1) H1 → va_D (oh_A ad s.heap.size) (oh_w ad cA μ1) → va_S (oh_A ad s.heap.size) s.heap H1 locs1 → W p l e R s m args below meth c H1 locs1 cells slots Q (F0 m (pc + 3) lr ((r.toList ++ st1).map (oh_re ad tc)))) :
    W p l e R s m args below meth c H locs cells slots Q (F0 m pc lr st0) := by
  intro T hT X
  obtain ⟨v, st₀, t, T', L, h0, X', hL, e1, e2, ⟨⟨r, μ1, hv, hp, hw, hm, hP1, hD1⟩, hz, hk⟩, st⟩ := hr T hT X
  cases hv
  rw [h0] at hz hk
  have hsub : ∀ q, oh_A ad H.size q → oh_A ad s.heap.size q := fun q h => oh_A_sub hS.1 h
  have kk2 := kk r μ1 T'.heap (locs ++ L) hp (fun v hv => (hw v hv).1) hm (by rw [e1]; exact hP1) (oh_D_all hD1)
    ⟨Nat.le_trans hS.1 (by rw [e1]; exact hz), fun q h1 h2 => by rw [e1, hk q (Nat.lt_of_lt_of_le h1 hS.1) (fun z => h2 (hsub q z))]; exact hS.2.1 q h1 h2, fun q hq => by
      rcases List.mem_append.mp hq with h | h
      · exact hS.2.2 q h
      · exact hsub _ (hL q h)⟩
  have est : (r.map (oh_re ad (oh_tc t0 t1))).toList ++ st1.map (oh_re ad tc) = (r.toList ++ st1).map (oh_re ad tc) := by
    cases r with
    | none => rfl
    | some v =>
      show oh_re ad (oh_tc t0 t1) v :: _ = oh_re ad tc v :: _
      rw [oh_re_nK (tc' := tc) (hw v rfl).2]
      rfl
  obtain ⟨t2, a1, b1⟩ := kk2 T' rfl X'
  refine ⟨t2, st t2 ?_, b1⟩
  show Steps p.tables e below (T'.setTop (F0 m (pc + 3) lr ((r.map (oh_re ad (oh_tc t0 t1))).toList ++ st1.map (oh_re ad tc)))) t2
  rw [est]
  exact a1
theorem oh_pre {as : List AV} {H : Heap} {locs : List Loc} (hKn : va_K D vwCl (oh_tys cA) s) (hSt : oh_Sta t0 t1 (oh_A ad s.heap.size) s s.heap) (hNs : ∀ w ∈ oh_nest, va_Nw w s) (hP : va_P D vwCl (oh_w ad cA μ) H) (hD : va_D (oh_A ad s.heap.size) (oh_w ad cA μ)) (hS : va_S (oh_A ad s.heap.size) s.heap H locs) :
    ∀ U : State, U.heap = H → s.WarmedH U.vm → va_Pc (as.map (oh_re ad (oh_tc t0 t1))) (oh_B D ad cA t0 t1 μ H.size) (as.map (oh_re ad (oh_tc t0 t1))).toArray U := by
  intro U hU hW
  refine ⟨rfl, by rw [hU], by rw [hU]; exact hP, va_K.moved hW.alike hKn, oh_D_all hD, ?_, oh_nest_warm hW hNs⟩
  rw [hU]
  exact oh_Sta_moved hW.alike (oh_Sta_narrow (fun q h => oh_A_sub hS.1 h) (oh_Sta_kept (fun a h1 h2 => hS.2.1 a h1 h2) hSt))
theorem oh_map_nK {as : List AV} (h : ∀ v ∈ as, oh_wf v ∧ oh_nK v) : as.map (oh_re ad tc) = as.map (oh_re ad (oh_tc t0 t1)) := List.map_congr_left (fun v hv => oh_re_nK (h v hv).2)
/-- a static method of the same class, or of another one by an ordinary link -/
theorem oh_cS (hx : p.tables.exec = Jvm.exec) (hb : c.code = cc) (hml : c.maxLocals = nL) (hown : s.vm.findClass own = some m.cls) (hts : ∀ w ∈ oh_tbl, w.before args s = true) (hKn : va_K D vwCl (oh_tys cA) s) (hSt : oh_Sta t0 t1 (oh_A ad s.heap.size) s s.heap) (hNs : ∀ w ∈ oh_nest, va_Nw w s)
    {h idx na maxL : Nat} {y : MethodName} {bytes : ByteArray} {ret : Option FieldType} {T : Tr} (hM : oh_MC l h y bytes maxL ret T) (w1 : Cond.code y bytes maxL ret ∈ oh_tbl) (w2 : Cond.initialized y.cls ∈ oh_tbl) (w3 : Cond.methodLink own idx y ∈ oh_tbl) (w4 : Cond.static y ∈ oh_tbl)
    (hd : y.cls ≠ "java/lang/invoke/MethodHandle" ∧ y.cls ≠ "java/lang/invoke/VarHandle" ∧ (parseMethodDescriptor y.desc).map (fun d => d.parameters.length) = some na) (hR : h + 1 ≤ R.frames ∧ 8 + (maxL + 11) + 128 * h ≤ R.locals) (hcs : cells ≤ R.cells ∧ slots ≤ R.slots) :
    oh_COK p l e R s m args below meth c cells slots Q D ad tc cA (oh_A ad s.heap.size) nL cc (.invokestatic idx) na T := by
  intro pc as st1 μ Post H locs lr hdg hn hwf hcat hwM hT hP hD hS hlr kk
  refine oh_run_go (t0 := t0) (t1 := t1) (a := (as.map (oh_re ad (oh_tc t0 t1))).toArray) (va_runS (y := y) (bytes := bytes) (maxL := maxL) (ret := ret) (ws := .code y bytes maxL ret :: oh_tbl) (Ts := oh_tbl) ⟨hx, hb, hml, hown, hts⟩ (hM D ad cA t0 t1 H.size as μ Post hT hwf hwM) ⟨callB_of na hts (oh_good w1) rfl rfl rfl (hts _ w2) (hts _ w3) hd hR, hts _ w4⟩
    ⟨oh_blind, oh_pre hKn hSt hNs hP hD hS⟩ rfl (by rw [List.length_map]; exact hn) hlr ?_ (lv_room (by rw [oh_re_cat]; exact hcat)) hdg hcs) hS kk
  rw [← oh_map_nK (tc := tc) hwf]
  show (as.reverse ++ st1).map (oh_re ad tc) = _
  rw [List.map_append, List.map_reverse]
/-- a private static method of the nest's host -/
theorem oh_cSN (hx : p.tables.exec = Jvm.exec) (hb : c.code = cc) (hml : c.maxLocals = nL) (hown : s.vm.findClass own = some m.cls) (hts : ∀ w ∈ oh_tbl, w.before args s = true) (hKn : va_K D vwCl (oh_tys cA) s) (hSt : oh_Sta t0 t1 (oh_A ad s.heap.size) s s.heap) (hNs : ∀ w ∈ oh_nest, va_Nw w s)
    {h idx na maxL : Nat} {host : String} {y : MethodName} {bytes : ByteArray} {ret : Option FieldType} {T : Tr} (hM : oh_MC l h y bytes maxL ret T) (w1 : Cond.code y bytes maxL ret ∈ oh_tbl) (w2 : Cond.initialized y.cls ∈ oh_tbl) (w3 : Cond.methodLinkNest own idx y host ∈ oh_nest) (w4 : Cond.static y ∈ oh_tbl)
    (hd : y.cls ≠ "java/lang/invoke/MethodHandle" ∧ y.cls ≠ "java/lang/invoke/VarHandle" ∧ (parseMethodDescriptor y.desc).map (fun d => d.parameters.length) = some na) (hR : h + 1 ≤ R.frames ∧ 8 + (maxL + 11) + 128 * h ≤ R.locals) (hcs : cells ≤ R.cells ∧ slots ≤ R.slots) :
    oh_COK p l e R s m args below meth c cells slots Q D ad tc cA (oh_A ad s.heap.size) nL cc (.invokestatic idx) na T := by
  intro pc as st1 μ Post H locs lr hdg hn hwf hcat hwM hT hP hD hS hlr kk
  have hl : va_Nw (.methodLinkNest own idx y host) s := hNs _ w3
  refine oh_run_go (t0 := t0) (t1 := t1) (a := (as.map (oh_re ad (oh_tc t0 t1))).toArray) (va_runSN (y := y) (bytes := bytes) (maxL := maxL) (ret := ret) (host := host) (ws := .code y bytes maxL ret :: oh_tbl) (Ts := oh_tbl) ⟨hx, hb, hml, hown, hts⟩ (hM D ad cA t0 t1 H.size as μ Post hT hwf hwM) ⟨va_cnB na hts (oh_good w1) rfl rfl rfl hl (hts _ w2) hd hR, hts _ w4, trivial⟩
    ⟨oh_blind, oh_pre hKn hSt hNs hP hD hS⟩ rfl (by rw [List.length_map]; exact hn) hlr ?_ (lv_room (by rw [oh_re_cat]; exact hcat)) hdg hcs) hS kk
  rw [← oh_map_nK (tc := tc) hwf]
  show (as.reverse ++ st1).map (oh_re ad tc) = _
  rw [List.map_append, List.map_reverse]
/-- a method of an object of the world -/
theorem oh_cV (hx : p.tables.exec = Jvm.exec) (hb : c.code = cc) (hml : c.maxLocals = nL) (hown : s.vm.findClass own = some m.cls) (hts : ∀ w ∈ oh_tbl, w.before args s = true) (hKn : va_K D vwCl (oh_tys cA) s) (hSt : oh_Sta t0 t1 (oh_A ad s.heap.size) s s.heap) (hNs : ∀ w ∈ oh_nest, va_Nw w s)
    {h idx na maxL s0 : Nat} {y : MethodName} {bytes : ByteArray} {ret : Option FieldType} {T : Tr} (hM : oh_MC l h y bytes maxL ret T) (hrec : ∀ as μ Post, T as μ Post → ∃ n r, as = oR s0 n :: r) (hA0 : oh_isA s0 = false) (hcl : ∃ q, vwCl[oh_ci s0]? = some q ∧ q.1 = y.cls) (w1 : Cond.code y bytes maxL ret ∈ oh_tbl) (w2 : Cond.initialized y.cls ∈ oh_tbl) (w3 : Cond.methodLink own idx y ∈ oh_tbl) (w4 : Cond.instanceMethod y ∈ oh_tbl) (w5 : Cond.selects y.cls y y ∈ oh_tbl)
    (hd : y.cls ≠ "java/lang/invoke/MethodHandle" ∧ y.cls ≠ "java/lang/invoke/VarHandle" ∧ (parseMethodDescriptor y.desc).map (fun d => d.parameters.length) = some na) (hR : h + 1 ≤ R.frames ∧ 8 + (maxL + 11) + 128 * h ≤ R.locals) (hcs : cells ≤ R.cells ∧ slots ≤ R.slots) :
    oh_COK p l e R s m args below meth c cells slots Q D ad tc cA (oh_A ad s.heap.size) nL cc (.invokevirtual idx) (na + 1) T := by
  intro pc as st1 μ Post H locs lr hdg hn hwf hcat hwM hT hP hD hS hlr kk
  obtain ⟨n, r, rfl⟩ := hrec as μ Post hT
  have hw : n < oh_cnt s0 := (hwf _ List.mem_cons_self).1
  obtain ⟨q0, hq0⟩ := oh_place hw
  have he := oh_w_at (ad := ad) (cA := cA) (μ := μ) hq0
  rw [oh_e_obj hA0] at he
  obtain ⟨qc, hqc, hqn⟩ := hcl
  have hrv := va_recv hKn hP hqc he
  rw [hqn] at hrv
  have hpre := oh_pre (as := oR s0 n :: r) hKn hSt hNs hP hD hS
  refine oh_run_go (t0 := t0) (t1 := t1) (a := (Value.ref (ad s0 n) :: r.map (oh_re ad (oh_tc t0 t1))).toArray) (va_runV (y := y) (C := y.cls) (b := ad s0 n) (As := r.map (oh_re ad (oh_tc t0 t1))) (n := na) (bytes := bytes) (maxL := maxL) (ret := ret) (ws := .code y bytes maxL ret :: oh_tbl) (Ts := oh_tbl) ⟨hx, hb, hml, hown, hts⟩ (hM D ad cA t0 t1 H.size (oR s0 n :: r) μ Post hT hwf hwM) ⟨callB_of na hts (oh_good w1) rfl rfl rfl (hts _ w2) (hts _ w3) hd hR, hts _ w4, hts _ w5⟩
    ⟨oh_blind, hrv, hpre⟩ rfl (by rw [List.length_map]; simpa using hn) hlr ?_ (lv_room (by rw [oh_re_cat]; exact hcat)) hdg hcs) hS kk
  rw [← oh_map_nK (tc := tc) (fun v hv => hwf v (List.mem_cons_of_mem _ hv))]
  show ((oR s0 n :: r).reverse ++ st1).map (oh_re ad tc) = _
  simp [oh_re]
theorem g_invoke {i : ClassFile.Instr} {ca : List (Nat × Nat × Tr)} {idx : Nat} {A : Nat → Prop} (hK : ∀ pc ls st μ, K pc ls st μ → oh_G p l e R s m args below meth c cells slots Q D ad tc cA A nL pc ls st μ) (hd : decode cc pc = .ok (i, 3)) (hn : nx = pc + 3)
    (hC : ∀ na T, oh_look ca idx = some (na, T) → oh_COK p l e R s m args below meth c cells slots Q D ad tc cA A nL cc i na T) (h : oh_inv ca idx st μ (fun st1 μ1 => K nx ls st1 μ1)) : oh_G p l e R s m args below meth c cells slots Q D ad tc cA A nL pc ls st μ := by
  subst hn
  unfold oh_inv at h
  split at h
  · rename_i na T hl
    obtain ⟨bs, st1, rfl, hbl, hnk, h⟩ := oh_args_of _ _ _ _ h
    split at h
    · rename_i hcat
      have hcat := Nat.le_of_ble_eq_true hcat
      intro h0 h1 h2 h3 H locs lr hP hD hS hL
      obtain ⟨h2a, h2b⟩ := List.forall_mem_append.mp h2
      rw [List.append_nil] at h
      have w := hC na T hl pc bs.reverse st1 μ _ H locs lr hd (by rw [List.length_reverse]; exact hbl) (fun v hv => ⟨h2a v (List.mem_reverse.mp hv), hnk v (List.mem_reverse.mp hv)⟩) hcat h3 h.1 hP hD hS hL.1
        (fun r μ1 H1 locs1 hpo hwr hwm hP1 hD1 hS1 => ?_)
      · rw [List.reverse_reverse] at w
        exact w
      · cases r with
        | none => exact hK _ _ _ _ hpo h0 h1 h2b hwm H1 locs1 lr hP1 hD1 hS1 hL
        | some v => exact hK _ _ _ _ hpo h0 h1 (List.forall_mem_cons.mpr ⟨hwr v rfl, h2b⟩) hwm H1 locs1 lr hP1 hD1 hS1 hL
    · exact h.elim
  · exact h.elim
end OhC
end
section
/-! THE SMALL MACHINE STANDS FOR THE MACHINE -/
def oh_tg1 (pc : Nat) (off : Int) (tg : List (Int × Nat)) : Bool := match tg with
  | (_, t) :: _ => decide ((pc : Int) + off = (t : Int))
  | [] => true
def oh_rowC (pc : Nat) (i : ClassFile.Instr) (len : Nat) (tg : List (Int × Nat)) : Bool := match i with
  | .iconst n => len == 1 && decide (-1 ≤ n ∧ n ≤ 5)
  | .bipush n => len == 2 && decide (-128 ≤ n ∧ n ≤ 127)
  | .sipush n => len == 3 && decide (-32768 ≤ n ∧ n ≤ 32767)
  | .ldc k => len == 2 && decide (k < 100000)
  | .ldc_w k => len == 3 && decide (k < 100000)
  | .ldc2_w _ => len == 3
  | .iload _ => len == 2
  | .lload _ => len == 2
  | .aload _ => len == 2
  | .istore _ => len == 2
  | .lstore _ => len == 2
  | .astore _ => len == 2
  | .iinc _ _ => len == 3
  | .ifCond _ off => len == 3 && oh_tg1 pc off tg
  | .if_icmp _ off => len == 3 && oh_tg1 pc off tg
  | .goto off => len == 3 && oh_tg1 pc off tg
  | .tableswitch d lo hi offs => match tg with
    | (_, t) :: r => decide ((pc : Int) + d = (t : Int)) && (oh_swOK pc lo offs.toList r && decide (hi < lo + offs.toList.length))
    | [] => true
  | .getfield _ => len == 3
  | .putfield _ => len == 3
  | .getstatic _ => len == 3
  | .invokestatic k => len == 3 && decide (k < 100000)
  | .invokevirtual _ => len == 3
  | _ => len == 1
def oh_rowB (cc : ByteArray) (r : IR) : Bool := match r with
  | (pc, i, len, nx, tg) => decide (decode cc pc = .ok (i, len)) && (decide (nx = pc + len) && oh_rowC pc i len tg)
theorem oh_ln {cc : ByteArray} {pc len nx k : Nat} {i : ClassFile.Instr} (h : (len == k) = true) (hd : decode cc pc = .ok (i, len)) (hn : nx = pc + len) : decode cc pc = .ok (i, k) ∧ nx = pc + k := by
  have e : len = k := eq_of_beq h
  subst e
  exact ⟨hd, hn⟩
theorem oh_lnA {cc : ByteArray} {pc len nx k : Nat} {i : ClassFile.Instr} {b : Bool} (h : (len == k && b) = true) (hd : decode cc pc = .ok (i, len)) (hn : nx = pc + len) : (decode cc pc = .ok (i, k) ∧ nx = pc + k) ∧ b = true := by
  rw [Bool.and_eq_true] at h
  exact ⟨oh_ln h.1 hd hn, h.2⟩
theorem oh_tg1_of {pc : Nat} {off : Int} {tg : List (Int × Nat)} (h : oh_tg1 pc off tg = true) : ∀ a t r, tg = (a, t) :: r → (pc : Int) + off = (t : Int) := by
  rintro a t r rfl
  simpa [oh_tg1] using h
/-- an instruction that ends a method, and its answer -/
def oh_rtk (rb : Bool) (i : ClassFile.Instr) (r : Option AV) : Prop :=
  (i = .ireturn ∧ ∃ x, r = some (oI x) ∧ (rb = true → 0 ≤ x ∧ x ≤ 1)) ∨ (i = .lreturn ∧ ∃ x, r = some (oL x)) ∨ (i = .areturn ∧ ∃ s n, r = some (oR s n)) ∨ (i = .return_ ∧ r = none)
section OhCl
variable {p : Program} {l : Launch} {e : Env} {R : Room} {s : State} {m : MethodId} {args : Array Value} {below : List Frame} {meth : Method} {c : Code} {cells slots : Nat} {Q : State → Prop}
variable {D : va_G} {ad : Nat → Nat → Nat} {tc : Nat → Nat} {cA : Nat → Nat → ClassId} {A : Nat → Prop} {nL : Nat} {cc : ByteArray} {own : String}
set_option maxHeartbeats 4000000 in
theorem oh_cl {P : PG} {Post : Po} (hx : p.tables.exec = Jvm.exec) (hb : c.code = cc) (hown : s.vm.findClass own = some m.cls) (hts : ∀ w ∈ oh_tbl, w.before args s = true) (hNs : ∀ w ∈ oh_nest, va_Nw w s) (hKn : va_K D vwCl (oh_tys cA) s) (hC : ∀ k, oh_Con P.2.2.2.2.2.2 tc A s s.heap k)
    (hTab : P.1.all (oh_rowB cc) = true) (hFl : ∀ idx s0 k o, oh_look P.2.1 idx = some (s0, k, o) → oh_FOK own idx s0 k o)
    (hCi : ∀ k v, k < 100000 → oh_look P.2.2.1 k = some v → oh_rgI v ∧ Cond.constant own k (Int32.ofInt v) ∈ oh_tbl) (hCl : ∀ k v, oh_look P.2.2.1 (k + 100000) = some v → oh_rgL v ∧ Cond.constantLong own k (Int64.ofInt v) ∈ oh_tbl)
    (hKs : ∀ idx k, oh_look P.2.2.2.1 idx = some k → oh_SOK own tc A s idx k)
    (hCaS : ∀ idx na T, idx < 100000 → oh_look P.2.2.2.2.1 idx = some (na, T) → oh_COK p l e R s m args below meth c cells slots Q D ad tc cA A nL cc (.invokestatic idx) na T)
    (hCaV : ∀ idx na T, oh_look P.2.2.2.2.1 (idx + 100000) = some (na, T) → oh_COK p l e R s m args below meth c cells slots Q D ad tc cA A nL cc (.invokevirtual idx) na T)
    (hR : ∀ (i : ClassFile.Instr) (pc : Nat) (r : Option AV) (μ : Mem) (H : Heap) (locs : List Loc) (lr : Array Slot), (∃ len nx tg, (pc, i, len, nx, tg) ∈ P.1) → decode cc pc = .ok (i, 1) → oh_rtk P.2.2.2.2.2.1 i r → Post r μ → (∀ v, r = some v → oh_wf v) → oh_wfM μ → va_P D vwCl (oh_w ad cA μ) H → va_D A (oh_w ad cA μ) → va_S A s.heap H locs → W p l e R s m args below meth c H locs cells slots Q (F0 m pc lr (r.toList.map (oh_re ad tc)))) :
    oh_Cl P Post (oh_G p l e R s m args below meth c cells slots Q D ad tc cA A nL) := by
  refine ⟨?_, ?_⟩
  · intro K hK pc ls st μ h
    unfold oh_step at h
    split at h
    · rename_i i len nx tg hl
      have hrow := List.all_eq_true.mp hTab _ (oh_look_mem hl)
      simp only [oh_rowB, Bool.and_eq_true, decide_eq_true_eq] at hrow
      obtain ⟨hd, hn, hrow⟩ := hrow
      have hmm : ∃ len nx tg, (pc, i, len, nx, tg) ∈ P.1 := ⟨len, nx, tg, oh_look_mem hl⟩
      clear hl
      unfold oh_sem at h
      split at h
      · obtain ⟨⟨d1, n1⟩, b1⟩ := oh_lnA (k := 1) hrow hd hn
        have b1 := of_decide_eq_true b1
        exact g_iconst hx hb hK d1 n1 ⟨by omega, by omega⟩ h
      · obtain ⟨⟨d1, n1⟩, b1⟩ := oh_lnA (k := 2) hrow hd hn
        exact g_bipush hx hb hK d1 n1 (of_decide_eq_true b1) h
      · obtain ⟨⟨d1, n1⟩, b1⟩ := oh_lnA (k := 3) hrow hd hn
        exact g_sipush hx hb hK d1 n1 (of_decide_eq_true b1) h
      · obtain ⟨d1, n1⟩ := oh_ln (k := 1) hrow hd hn
        exact g_lconst hx hb hK d1 n1 h
      · obtain ⟨⟨d1, n1⟩, b1⟩ := oh_lnA (k := 2) hrow hd hn
        split at h
        · rename_i v hv
          obtain ⟨r1, r2⟩ := hCi _ _ (of_decide_eq_true b1) hv
          exact g_ldc hx hb hown hK d1 n1 r1 (hts _ r2) h
        · exact h.elim
      · obtain ⟨⟨d1, n1⟩, b1⟩ := oh_lnA (k := 3) hrow hd hn
        split at h
        · rename_i v hv
          obtain ⟨r1, r2⟩ := hCi _ _ (of_decide_eq_true b1) hv
          exact g_ldcw hx hb hown hK d1 n1 r1 (hts _ r2) h
        · exact h.elim
      · obtain ⟨d1, n1⟩ := oh_ln (k := 3) hrow hd hn
        split at h
        · rename_i v hv
          obtain ⟨r1, r2⟩ := hCl _ _ hv
          exact g_ldc2 hx hb hown hK d1 n1 r1 (hts _ r2) h
        · exact h.elim
      · obtain ⟨d1, n1⟩ := oh_ln (k := 2) hrow hd hn
        exact g_iload hx hb hK d1 n1 h
      · obtain ⟨d1, n1⟩ := oh_ln (k := 1) hrow hd hn
        exact g_iload_n hx hb hK d1 n1 h
      · obtain ⟨d1, n1⟩ := oh_ln (k := 2) hrow hd hn
        exact g_lload hx hb hK d1 n1 h
      · obtain ⟨d1, n1⟩ := oh_ln (k := 1) hrow hd hn
        exact g_lload_n hx hb hK d1 n1 h
      · obtain ⟨d1, n1⟩ := oh_ln (k := 2) hrow hd hn
        exact g_aload hx hb hK d1 n1 h
      · obtain ⟨d1, n1⟩ := oh_ln (k := 1) hrow hd hn
        exact g_aload_n hx hb hK d1 n1 h
      · obtain ⟨d1, n1⟩ := oh_ln (k := 2) hrow hd hn
        exact g_istore hx hb hK d1 n1 h
      · obtain ⟨d1, n1⟩ := oh_ln (k := 1) hrow hd hn
        exact g_istore_n hx hb hK d1 n1 h
      · obtain ⟨d1, n1⟩ := oh_ln (k := 2) hrow hd hn
        exact g_lstore hx hb hK d1 n1 h
      · obtain ⟨d1, n1⟩ := oh_ln (k := 1) hrow hd hn
        exact g_lstore_n hx hb hK d1 n1 h
      · obtain ⟨d1, n1⟩ := oh_ln (k := 2) hrow hd hn
        exact g_astore hx hb hK d1 n1 h
      · obtain ⟨d1, n1⟩ := oh_ln (k := 1) hrow hd hn
        exact g_astore_n hx hb hK d1 n1 h
      · obtain ⟨d1, n1⟩ := oh_ln (k := 3) hrow hd hn
        exact g_iinc hx hb hK d1 n1 h
      · obtain ⟨d1, n1⟩ := oh_ln (k := 1) hrow hd hn
        exact g_iadd hx hb hK d1 n1 h
      · obtain ⟨d1, n1⟩ := oh_ln (k := 1) hrow hd hn
        exact g_isub hx hb hK d1 n1 h
      · obtain ⟨d1, n1⟩ := oh_ln (k := 1) hrow hd hn
        exact g_imul hx hb hK d1 n1 h
      · obtain ⟨d1, n1⟩ := oh_ln (k := 1) hrow hd hn
        exact g_idiv hx hb hK d1 n1 h
      · obtain ⟨d1, n1⟩ := oh_ln (k := 1) hrow hd hn
        exact g_irem hx hb hK d1 n1 h
      · obtain ⟨d1, n1⟩ := oh_ln (k := 1) hrow hd hn
        exact g_iand hx hb hK d1 n1 h
      · obtain ⟨d1, n1⟩ := oh_ln (k := 1) hrow hd hn
        exact g_ior hx hb hK d1 n1 h
      · obtain ⟨d1, n1⟩ := oh_ln (k := 1) hrow hd hn
        exact g_ixor hx hb hK d1 n1 h
      · obtain ⟨d1, n1⟩ := oh_ln (k := 1) hrow hd hn
        exact g_ishl hx hb hK d1 n1 h
      · obtain ⟨d1, n1⟩ := oh_ln (k := 1) hrow hd hn
        exact g_ishr hx hb hK d1 n1 h
      · obtain ⟨d1, n1⟩ := oh_ln (k := 1) hrow hd hn
        exact g_iushr hx hb hK d1 n1 h
      · obtain ⟨d1, n1⟩ := oh_ln (k := 1) hrow hd hn
        exact g_i2b hx hb hK d1 n1 h
      · obtain ⟨d1, n1⟩ := oh_ln (k := 1) hrow hd hn
        exact g_i2s hx hb hK d1 n1 h
      · obtain ⟨d1, n1⟩ := oh_ln (k := 1) hrow hd hn
        exact g_i2l hx hb hK d1 n1 h
      · obtain ⟨d1, n1⟩ := oh_ln (k := 1) hrow hd hn
        exact g_ladd hx hb hK d1 n1 h
      · obtain ⟨d1, n1⟩ := oh_ln (k := 1) hrow hd hn
        exact g_lmul hx hb hK d1 n1 h
      · obtain ⟨d1, n1⟩ := oh_ln (k := 1) hrow hd hn
        exact g_lcmp hx hb hK d1 n1 h
      · rename_i cd off
        obtain ⟨⟨d1, n1⟩, b1⟩ := oh_lnA (k := 3) hrow hd hn
        have ht := oh_tg1_of b1
        cases cd with
        | eq => exact g_if_eq hx hb hK d1 n1 ht h
        | ne => exact g_if_ne hx hb hK d1 n1 ht h
        | lt => exact g_if_lt hx hb hK d1 n1 ht h
        | ge => exact g_if_ge hx hb hK d1 n1 ht h
        | gt => exact g_if_gt hx hb hK d1 n1 ht h
        | le => exact g_if_le hx hb hK d1 n1 ht h
      · rename_i cd off
        obtain ⟨⟨d1, n1⟩, b1⟩ := oh_lnA (k := 3) hrow hd hn
        have ht := oh_tg1_of b1
        cases cd with
        | eq => exact g_icmp_eq hx hb hK d1 n1 ht h
        | ne => exact g_icmp_ne hx hb hK d1 n1 ht h
        | lt => exact g_icmp_lt hx hb hK d1 n1 ht h
        | ge => exact g_icmp_ge hx hb hK d1 n1 ht h
        | gt => exact g_icmp_gt hx hb hK d1 n1 ht h
        | le => exact g_icmp_le hx hb hK d1 n1 ht h
      · obtain ⟨⟨d1, n1⟩, b1⟩ := oh_lnA (k := 3) hrow hd hn
        have ht := oh_tg1_of b1
        split at h
        · rename_i a t r
          exact g_goto (a := a) hx hb hK d1 (ht _ _ _ rfl) h
        · exact h.elim
      · rename_i dflt lo hi offs
        split at h
        · rename_i a t r
          simp only [oh_rowC, Bool.and_eq_true, decide_eq_true_eq] at hrow
          obtain ⟨b1, b2, b3⟩ := hrow
          exact g_switch (tg := (a, t) :: r) (a := a) hx hb hK hd rfl b1 b2 b3 h
        · obtain ⟨x, st1, -, h⟩ := oh_b1_of h
          exact h.elim
      · obtain ⟨d1, n1⟩ := oh_ln (k := 3) hrow hd hn
        split at h
        · rename_i s0 f o hv
          exact g_getfield hx hb hown hts hKn hK d1 n1 (hFl _ _ _ _ hv) h
        · exact h.elim
      · obtain ⟨d1, n1⟩ := oh_ln (k := 3) hrow hd hn
        split at h
        · rename_i s0 f o hv
          exact g_putfield hx hb hown hts hKn hK d1 n1 (hFl _ _ _ _ hv) h
        · exact h.elim
      · obtain ⟨d1, n1⟩ := oh_ln (k := 3) hrow hd hn
        split at h
        · rename_i k hv
          exact g_getstatic hx hb hown hts hNs hK d1 n1 (hKs _ _ hv) h
        · exact h.elim
      · obtain ⟨d1, n1⟩ := oh_ln (k := 1) hrow hd hn
        exact g_iaload hx hb hKn hC hK d1 n1 h
      · obtain ⟨d1, n1⟩ := oh_ln (k := 1) hrow hd hn
        exact g_iastore hx hb hKn hK d1 n1 h
      · obtain ⟨d1, n1⟩ := oh_ln (k := 1) hrow hd hn
        exact g_baload hx hb hKn hK d1 n1 h
      · obtain ⟨d1, n1⟩ := oh_ln (k := 1) hrow hd hn
        exact g_bastore hx hb hKn hK d1 n1 h
      · obtain ⟨d1, n1⟩ := oh_ln (k := 1) hrow hd hn
        exact g_aaload hx hb hKn hK d1 n1 h
      · obtain ⟨d1, n1⟩ := oh_ln (k := 1) hrow hd hn
        exact g_alen hx hb hKn hC hK d1 n1 h
      · obtain ⟨d1, n1⟩ := oh_ln (k := 1) hrow hd hn
        exact g_dup hx hb hK d1 n1 h
      · obtain ⟨d1, n1⟩ := oh_ln (k := 1) hrow hd hn
        exact g_dup2 hx hb hK d1 n1 h
      · obtain ⟨d1, n1⟩ := oh_ln (k := 1) hrow hd hn
        exact g_pop hx hb hK d1 n1 h
      · obtain ⟨⟨d1, n1⟩, b1⟩ := oh_lnA (k := 3) hrow hd hn
        exact g_invoke hK d1 n1 (fun na T hv => hCaS _ _ _ (of_decide_eq_true b1) hv) h
      · obtain ⟨d1, n1⟩ := oh_ln (k := 3) hrow hd hn
        exact g_invoke hK d1 n1 (fun na T hv => hCaV _ _ _ hv) h
      · obtain ⟨d1, n1⟩ := oh_ln (k := 1) hrow hd hn
        split at h
        · rename_i x
          intro h0 h1 h2 h3 H locs lr hP hD hS hL
          split at h
          · rename_i hrb
            exact hR _ _ (some (oI x)) μ H locs lr hmm d1 (Or.inl ⟨rfl, x, rfl, fun _ => h.1⟩) h.2 (fun v hv => by cases hv; exact h2 _ List.mem_cons_self) h3 hP hD hS
          · rename_i hrb
            exact hR _ _ (some (oI x)) μ H locs lr hmm d1 (Or.inl ⟨rfl, x, rfl, fun z => by rw [hrb] at z; cases z⟩) h (fun v hv => by cases hv; exact h2 _ List.mem_cons_self) h3 hP hD hS
        · exact h.elim
      · obtain ⟨d1, n1⟩ := oh_ln (k := 1) hrow hd hn
        split at h
        · rename_i x
          intro h0 h1 h2 h3 H locs lr hP hD hS hL
          exact hR _ _ (some (oL x)) μ H locs lr hmm d1 (Or.inr (Or.inl ⟨rfl, x, rfl⟩)) h (fun v hv => by cases hv; exact h2 _ List.mem_cons_self) h3 hP hD hS
        · exact h.elim
      · obtain ⟨d1, n1⟩ := oh_ln (k := 1) hrow hd hn
        split at h
        · rename_i q
          intro h0 h1 h2 h3 H locs lr hP hD hS hL
          exact hR _ _ (some (Sum.inr (Sum.inr (Sum.inl q)))) μ H locs lr hmm d1 (Or.inr (Or.inr (Or.inl ⟨rfl, q.1, q.2, rfl⟩))) h (fun v hv => by cases hv; exact h2 _ List.mem_cons_self) h3 hP hD hS
        · exact h.elim
      · obtain ⟨d1, n1⟩ := oh_ln (k := 1) hrow hd hn
        split at h
        · intro h0 h1 h2 h3 H locs lr hP hD hS hL
          exact hR _ _ none μ H locs lr hmm d1 (Or.inr (Or.inr (Or.inr ⟨rfl, rfl⟩))) h (fun v hv => by cases hv) h3 hP hD hS
        · exact h.elim
      · exact h.elim
    · exact h.elim
  · intro k pc ls st μ h
    have h := oh_trK_of _ _ _ h
    intro h0 h1 h2 h3 H locs lr hP hD hS hL
    refine h (by rw [oh_tr_len]; exact h0) (fun v hv => ?_) h2 h3 H locs lr hP hD hS ?_
    · obtain ⟨i, hi⟩ := oh_mem_nth _ _ hv
      exact h1 _ (oh_nth_mem _ _ _ (oh_tr_nth _ _ _ _ hi))
    · exact oh_L_of hL (fun i v hi => oh_lv_in (oh_tr_nth _ _ _ _ hi))
end OhCl
end
section
/-! A METHOD'S CONTRACT over the machine out of its keeping it over the small one -/
/-- System.arraycopy of ints -/
def oh_cp (μ : Mem) (s n : Nat) (i : Int) (t k : Nat) (j c : Int) : Mem := fun s' n' j' => if s' = t ∧ n' = k ∧ j ≤ j' ∧ j' < j + c then μ s n (i + (j' - j)) else μ s' n' j'
def T_cp : Tr := fun as μ Post => ∃ (s n : Nat) (i : Int) (t k : Nat) (j c L1 L2 : Int), as = [oR s n, oI i, oR t k, oI j, oI c] ∧ oh_len s = some L1 ∧ oh_len t = some L2 ∧ 0 ≤ i ∧ 0 ≤ j ∧ 0 ≤ c ∧ i + c ≤ L1 ∧ j + c ≤ L2 ∧ Post none (oh_cp μ s n i t k j c)
/-- what stands behind a call of a method's table: a contract, and its words -/
def oh_CF (l : Launch) (own : String) (h key na : Nat) (T : Tr) : Prop :=
  (∃ (h' : Nat) (y : MethodName) (bytes : ByteArray) (maxL : Nat) (ret : Option FieldType), key < 100000 ∧ h' < h ∧ maxL ≤ 80 ∧ oh_MC l h' y bytes maxL ret T ∧ Cond.code y bytes maxL ret ∈ oh_tbl ∧ Cond.initialized y.cls ∈ oh_tbl ∧ (Cond.methodLink own key y ∈ oh_tbl ∨ ∃ host, Cond.methodLinkNest own key y host ∈ oh_nest) ∧ Cond.static y ∈ oh_tbl ∧
    y.cls ≠ "java/lang/invoke/MethodHandle" ∧ y.cls ≠ "java/lang/invoke/VarHandle" ∧ (parseMethodDescriptor y.desc).map (fun d => d.parameters.length) = some na) ∨
  (∃ (h' : Nat) (y : MethodName) (bytes : ByteArray) (maxL : Nat) (ret : Option FieldType) (idx s0 n : Nat), key = idx + 100000 ∧ na = n + 1 ∧ h' < h ∧ maxL ≤ 80 ∧ oh_MC l h' y bytes maxL ret T ∧ (∀ as μ Post, T as μ Post → ∃ n r, as = oR s0 n :: r) ∧ oh_isA s0 = false ∧ (∃ q, vwCl[oh_ci s0]? = some q ∧ q.1 = y.cls) ∧
    Cond.code y bytes maxL ret ∈ oh_tbl ∧ Cond.initialized y.cls ∈ oh_tbl ∧ Cond.methodLink own idx y ∈ oh_tbl ∧ Cond.instanceMethod y ∈ oh_tbl ∧ Cond.selects y.cls y y ∈ oh_tbl ∧ y.cls ≠ "java/lang/invoke/MethodHandle" ∧ y.cls ≠ "java/lang/invoke/VarHandle" ∧ (parseMethodDescriptor y.desc).map (fun d => d.parameters.length) = some n) ∨
  (key < 100000 ∧ 0 < h ∧ T = T_cp ∧ na = 5 ∧ Cond.methodLink own key arraycopyName ∈ oh_tbl ∧ Cond.native arraycopyName ∈ oh_tbl ∧ Cond.static arraycopyName ∈ oh_tbl ∧ Cond.initialized "java/lang/System" ∈ oh_tbl) ∨
  (key < 100000 ∧ 0 < h ∧ na = 2 ∧ (∀ as μ Post, T as μ Post → ∃ a b : Int, as = [oI a, oI b] ∧ Post (some (oI (max a b))) μ) ∧ Cond.methodLink own key Lib.Math.max.name ∈ oh_tbl ∧ Cond.static Lib.Math.max.name ∈ oh_tbl ∧ Cond.initialized "java/lang/Math" ∈ oh_tbl ∧ Cond.code Lib.Math.max.name Lib.Math.max.code 2 (some .int) ∈ oh_tbl) ∨
  (key < 100000 ∧ 0 < h ∧ na = 2 ∧ (∀ as μ Post, T as μ Post → ∃ a b : Int, as = [oI a, oI b] ∧ Post (some (oI (min a b))) μ) ∧ Cond.methodLink own key Lib.Math.min.name ∈ oh_tbl ∧ Cond.static Lib.Math.min.name ∈ oh_tbl ∧ Cond.initialized "java/lang/Math" ∈ oh_tbl ∧ Cond.code Lib.Math.min.name Lib.Math.min.code 2 (some .int) ∈ oh_tbl)
/-- what a class's tables must have -/
def oh_KF (own : String) (fl : List (Nat × Nat × Nat × Int)) (cs : List (Nat × Int)) (ks : List (Nat × Nat)) : Prop :=
  (∀ idx s0 k o, oh_look fl idx = some (s0, k, o) → oh_FOK own idx s0 k o) ∧
  (∀ k v, k < 100000 → oh_look cs k = some v → oh_rgI v ∧ Cond.constant own k (Int32.ofInt v) ∈ oh_tbl) ∧ (∀ k v, oh_look cs (k + 100000) = some v → oh_rgL v ∧ Cond.constantLong own k (Int64.ofInt v) ∈ oh_tbl) ∧
  (∀ idx k, oh_look ks idx = some k → (k = 0 ∧ (Cond.fieldLink own idx "OthersHours" "TOIL" "[I" ∈ oh_tbl ∨ Cond.fieldLinkNest own idx "OthersHours" "TOIL" "[I" "OthersHours" ∈ oh_nest)) ∨ (k = 1 ∧ (Cond.fieldLink own idx "OthersHours" "DIGEST_HOURS" "[I" ∈ oh_tbl ∨ Cond.fieldLinkNest own idx "OthersHours" "DIGEST_HOURS" "[I" "OthersHours" ∈ oh_nest)))
theorem oh_cp_wf {μ : Mem} {s n : Nat} {i : Int} {t k : Nat} {j c : Int} (h : oh_wfM μ) : oh_wfM (oh_cp μ s n i t k j c) := by
  intro s' n' j'
  unfold oh_cp
  split
  · exact h _ _ _
  · exact h _ _ _
theorem oh_cp_ar {μ : Mem} {s n : Nat} {i : Int} {t k : Nat} {j c : Int} (h1 : 0 ≤ i) (h2 : 0 ≤ j) (h3 : 0 ≤ c) : (fun x : Nat => Int32.ofInt (oh_cp μ s n i t k j c t k x)) = va_cpy (fun x : Nat => Int32.ofInt (μ s n x)) (fun x : Nat => Int32.ofInt (μ t k x)) i.toNat j.toNat c.toNat := by
  funext x
  unfold va_cpy oh_cp
  by_cases e : j.toNat ≤ x ∧ x < j.toNat + c.toNat
  · rw [if_pos e, if_pos ⟨rfl, rfl, by omega, by omega⟩]
    have : i + ((x : Int) - j) = ((i.toNat + (x - j.toNat) : Nat) : Int) := by omega
    rw [this]
  · rw [if_neg e, if_neg (fun q => e (by omega))]
section OhM
variable {p : Program} {l : Launch} {e : Env} {R : Room} {s : State} {m : MethodId} {args : Array Value} {below : List Frame} {meth : Method} {c : Code} {cells slots : Nat} {Q : State → Prop}
variable {D : va_G} {ad : Nat → Nat → Nat} {tc : Nat → Nat} {cA : Nat → Nat → ClassId} {nL : Nat} {cc : ByteArray} {own : String} {t0 t1 : Nat}
theorem oh_cC (hx : p.tables.exec = Jvm.exec) (hb : c.code = cc) (hml : c.maxLocals = nL) (hown : s.vm.findClass own = some m.cls) (hts : ∀ w ∈ oh_tbl, w.before args s = true) (hKn : va_K D vwCl (oh_tys cA) s)
    {idx : Nat} (w1 : Cond.methodLink own idx arraycopyName ∈ oh_tbl) (w2 : Cond.native arraycopyName ∈ oh_tbl) (w3 : Cond.static arraycopyName ∈ oh_tbl) (w4 : Cond.initialized "java/lang/System" ∈ oh_tbl) (hR : 1 ≤ R.frames ∧ 128 ≤ R.locals) {A : Nat → Prop} :
    oh_COK p l e R s m args below meth c cells slots Q D ad tc cA A nL cc (.invokestatic idx) 5 T_cp := by
  intro pc as st1 μ Post H locs lr hdg hn hwf hcat hwM hT hP hD hS hlr kk
  obtain ⟨s1, n1, i, s2, n2, j, k, L1, L2, rfl, hl1, hl2, hi, hj, hk, hb1, hb2, hpo⟩ := hT
  obtain ⟨a1, a2, a3, a4⟩ := oh_len_of hl1
  obtain ⟨b1, b2, b3, b4⟩ := oh_len_of hl2
  have hw1 : n1 < oh_cnt s1 := (hwf (oR s1 n1) (by simp)).1
  have hw2 : n2 < oh_cnt s2 := (hwf (oR s2 n2) (by simp)).1
  obtain ⟨q0, hq0⟩ := oh_place hw1
  obtain ⟨q1, hq1⟩ := oh_place hw2
  obtain ⟨u0, hu0⟩ := oh_tys_at (cA := cA) hw1 a3
  obtain ⟨u1, hu1⟩ := oh_tys_at (cA := cA) hw2 b3
  rw [a4] at hu0
  rw [b4] at hu1
  have he0 := oh_w_at (ad := ad) (cA := cA) (μ := μ) hq0
  have he1 := oh_w_at (ad := ad) (cA := cA) (μ := μ) hq1
  rw [oh_e_arr hl1] at he0
  rw [oh_e_arr hl2] at he1
  have ei : (Int32.ofInt i).toNatClampNeg = i.toNat := by
    show (Int32.ofInt i).toInt.toNat = _
    rw [oh_toInt ⟨by omega, by omega⟩]
  have ej : (Int32.ofInt j).toNatClampNeg = j.toNat := by
    show (Int32.ofInt j).toInt.toNat = _
    rw [oh_toInt ⟨by omega, by omega⟩]
  have ek : (Int32.ofInt k).toNatClampNeg = k.toNat := by
    show (Int32.ofInt k).toInt.toNat = _
    rw [oh_toInt ⟨by omega, by omega⟩]
  have h0 : ∀ x : Int, 0 ≤ x → x ≤ 4096 → ¬ Int32.ofInt x < 0 := fun x h1 h2 q => by
    have := (oh_lt32 (x := x) (y := 0) ⟨by omega, by omega⟩ ⟨by omega, by omega⟩).mp q
    omega
  refine va_copyi (D := D) (sp := Int32.ofInt i) (dp := Int32.ofInt j) (n := Int32.ofInt k) hx hb (by rw [hml, hlr]) hown (hts _ w1) (hts _ w2) (hts _ w3) (hts _ w4) hKn hP hD hS q0 q1 u0 u1 he0 he1 hu0 hu1 rfl (h0 _ hi (by omega)) (h0 _ hj (by omega)) (h0 _ hk (by omega)) (by rw [ei, ek]; omega) (by rw [ej, ek]; omega) (fun _ _ => rfl) hR.1 ?_ hdg (fun H1 locs1 hP1 hD1 hS1 => ?_)
  · rw [oh_re_cat]
    have : nativeFrameWords "java/lang/System" "arraycopy" 5 + 11 ≤ 120 := by decide
    have e9 : oh_cat (List.append [] st1) = oh_cat st1 := rfl
    omega
  · rw [ei, ej, ek] at hP1 hD1
    have ew : (oh_w ad cA μ).set q1 (ad s2 n2, .inl (cA s2 n2, L2.toNat, .inl (va_cpy (fun x : Nat => Int32.ofInt (μ s1 n1 x)) (fun x : Nat => Int32.ofInt (μ s2 n2 x)) i.toNat j.toNat k.toNat))) = oh_w ad cA (oh_cp μ s1 n1 i s2 n2 j k) := by
      refine oh_w_set hq1 ?_ (fun s' n' h => oh_e_off (fun j' => ?_))
      · rw [oh_e_arr hl2, ← oh_cp_ar hi hj hk]
        rfl
      · unfold oh_cp
        rw [if_neg (fun q => h ⟨q.1, q.2.1⟩)]
    rw [ew] at hP1 hD1
    exact kk none _ H1 locs1 hpo (fun v hv => by cases hv) (oh_cp_wf hwM) hP1 hD1 hS1
theorem oh_cMax (hx : p.tables.exec = Jvm.exec) (hb : c.code = cc) (hml : c.maxLocals = nL) (hown : s.vm.findClass own = some m.cls) (hts : ∀ w ∈ oh_tbl, w.before args s = true) {T : Tr}
    (hT : ∀ as μ Post, T as μ Post → ∃ a b : Int, as = [oI a, oI b] ∧ Post (some (oI (max a b))) μ) {idx : Nat} (w1 : Cond.methodLink own idx Lib.Math.max.name ∈ oh_tbl) (w2 : Cond.static Lib.Math.max.name ∈ oh_tbl) (w3 : Cond.initialized "java/lang/Math" ∈ oh_tbl) (w4 : Cond.code Lib.Math.max.name Lib.Math.max.code 2 (some .int) ∈ oh_tbl) (hR : 1 ≤ R.frames ∧ 128 ≤ R.locals) (hcs : cells ≤ R.cells ∧ slots ≤ R.slots) {A : Nat → Prop} :
    oh_COK p l e R s m args below meth c cells slots Q D ad tc cA A nL cc (.invokestatic idx) 2 T := by
  intro pc as st1 μ Post H locs lr hdg hn hwf hcat hwM hT1 hP hD hS hlr kk
  obtain ⟨a, b, rfl, hpo⟩ := hT _ _ _ hT1
  have ha : oh_rgI a := (hwf (oI a) (by simp)).1
  have hb1 : oh_rgI b := (hwf (oI b) (by simp)).1
  have e1 : (if Int32.ofInt a < Int32.ofInt b then Int32.ofInt b else Int32.ofInt a) = Int32.ofInt (max a b) := by
    by_cases q : Int32.ofInt a < Int32.ofInt b
    · rw [if_pos q]
      have := (oh_lt32 ha hb1).mp q
      congr 1
      omega
    · rw [if_neg q]
      have : ¬ a < b := fun z => q ((oh_lt32 ha hb1).mpr z)
      congr 1
      omega
  have k := kk (some (oI (max a b))) μ H locs hpo (fun v hv => by
    cases hv
    show oh_rgI (max a b)
    unfold oh_rgI at ha hb1 ⊢
    omega) hwM hP hD hS
  refine va_mmax (x := Int32.ofInt a) (y := Int32.ofInt b) (rest := st1.map (oh_re ad tc)) hx hb (by rw [hml, hlr]) hown (hts _ w1) (hts _ w2) (hts _ w3) (hts _ w4) hR.1 ?_ hcs.1 hcs.2 hdg ?_
  · rw [oh_re_cat]
    omega
  · rw [e1]
    exact k
theorem oh_cMin (hx : p.tables.exec = Jvm.exec) (hb : c.code = cc) (hml : c.maxLocals = nL) (hown : s.vm.findClass own = some m.cls) (hts : ∀ w ∈ oh_tbl, w.before args s = true) {T : Tr}
    (hT : ∀ as μ Post, T as μ Post → ∃ a b : Int, as = [oI a, oI b] ∧ Post (some (oI (min a b))) μ) {idx : Nat} (w1 : Cond.methodLink own idx Lib.Math.min.name ∈ oh_tbl) (w2 : Cond.static Lib.Math.min.name ∈ oh_tbl) (w3 : Cond.initialized "java/lang/Math" ∈ oh_tbl) (w4 : Cond.code Lib.Math.min.name Lib.Math.min.code 2 (some .int) ∈ oh_tbl) (hR : 1 ≤ R.frames ∧ 128 ≤ R.locals) (hcs : cells ≤ R.cells ∧ slots ≤ R.slots) {A : Nat → Prop} :
    oh_COK p l e R s m args below meth c cells slots Q D ad tc cA A nL cc (.invokestatic idx) 2 T := by
  intro pc as st1 μ Post H locs lr hdg hn hwf hcat hwM hT1 hP hD hS hlr kk
  obtain ⟨a, b, rfl, hpo⟩ := hT _ _ _ hT1
  have ha : oh_rgI a := (hwf (oI a) (by simp)).1
  have hb1 : oh_rgI b := (hwf (oI b) (by simp)).1
  have e1 : (if Int32.ofInt b < Int32.ofInt a then Int32.ofInt b else Int32.ofInt a) = Int32.ofInt (min a b) := by
    by_cases q : Int32.ofInt b < Int32.ofInt a
    · rw [if_pos q]
      have := (oh_lt32 hb1 ha).mp q
      congr 1
      omega
    · rw [if_neg q]
      have : ¬ b < a := fun z => q ((oh_lt32 hb1 ha).mpr z)
      congr 1
      omega
  have k := kk (some (oI (min a b))) μ H locs hpo (fun v hv => by
    cases hv
    show oh_rgI (min a b)
    unfold oh_rgI at ha hb1 ⊢
    omega) hwM hP hD hS
  refine va_mmin (x := Int32.ofInt a) (y := Int32.ofInt b) (rest := st1.map (oh_re ad tc)) hx hb (by rw [hml, hlr]) hown (hts _ w1) (hts _ w2) (hts _ w3) (hts _ w4) hR.1 ?_ hcs.1 hcs.2 hdg ?_
  · rw [oh_re_cat]
    omega
  · rw [e1]
    exact k
theorem oh_calls (hx : p.tables.exec = Jvm.exec) (hb : c.code = cc) (hml : c.maxLocals = nL) (hown : s.vm.findClass own = some m.cls) (hts : ∀ w ∈ oh_tbl, w.before args s = true) (hKn : va_K D vwCl (oh_tys cA) s) (hSt : oh_Sta t0 t1 (oh_A ad s.heap.size) s s.heap) (hNs : ∀ w ∈ oh_nest, va_Nw w s) {h : Nat} (hRf : h ≤ R.frames) (hRl : 128 * h ≤ R.locals) (hcs : cells ≤ R.cells ∧ slots ≤ R.slots)
    {ca : List (Nat × Nat × Tr)} (hca : ∀ key na T, oh_look ca key = some (na, T) → oh_CF l own h key na T) :
    (∀ idx na T, idx < 100000 → oh_look ca idx = some (na, T) → oh_COK p l e R s m args below meth c cells slots Q D ad tc cA (oh_A ad s.heap.size) nL cc (.invokestatic idx) na T) ∧
    (∀ idx na T, oh_look ca (idx + 100000) = some (na, T) → oh_COK p l e R s m args below meth c cells slots Q D ad tc cA (oh_A ad s.heap.size) nL cc (.invokevirtual idx) na T) := by
  refine ⟨fun idx na T hi hl => ?_, fun idx na T hl => ?_⟩
  · rcases hca _ _ _ hl with ⟨h', y, bytes, maxL, ret, hk, hh, hm, hM, w1, w2, w3, w4, d1, d2, d3⟩ | ⟨h', y, bytes, maxL, ret, i, s0, n, hk, -⟩ | ⟨hk, hh, rfl, rfl, w1, w2, w3, w4⟩ | ⟨hk, hh, rfl, hT, w1, w2, w3, w4⟩ | ⟨hk, hh, rfl, hT, w1, w2, w3, w4⟩
    · rcases w3 with w3 | ⟨host, w3⟩
      · exact oh_cS (t0 := t0) (t1 := t1) hx hb hml hown hts hKn hSt hNs hM w1 w2 w3 w4 ⟨d1, d2, d3⟩ ⟨by omega, by omega⟩ hcs
      · exact oh_cSN (t0 := t0) (t1 := t1) hx hb hml hown hts hKn hSt hNs hM w1 w2 w3 w4 ⟨d1, d2, d3⟩ ⟨by omega, by omega⟩ hcs
    · omega
    · exact oh_cC hx hb hml hown hts hKn w1 w2 w3 w4 ⟨by omega, by omega⟩
    · exact oh_cMax hx hb hml hown hts hT w1 w2 w3 w4 ⟨by omega, by omega⟩ hcs
    · exact oh_cMin hx hb hml hown hts hT w1 w2 w3 w4 ⟨by omega, by omega⟩ hcs
  · rcases hca _ _ _ hl with ⟨h', y, bytes, maxL, ret, hk, -⟩ | ⟨h', y, bytes, maxL, ret, i, s0, n, hk, rfl, hh, hm, hM, hrec, hA0, hcl, w1, w2, w3, w4, w5, d1, d2, d3⟩ | ⟨hk, -⟩ | ⟨hk, -⟩ | ⟨hk, -⟩
    · omega
    · have hk : i = idx := by omega
      subst hk
      exact oh_cV (t0 := t0) (t1 := t1) hx hb hml hown hts hKn hSt hNs hM hrec hA0 hcl w1 w2 w3 w4 w5 ⟨d1, d2, d3⟩ ⟨by omega, by omega⟩ hcs
    · omega
    · omega
    · omega
end OhM
theorem oh_pad_of : ∀ (n : Nat) (k : LV → Prop), oh_pad n k → k (List.replicate n none)
  | 0, _, h => h
  | n + 1, k, h => oh_pad_of n (fun l => k (none :: l)) h
theorem oh_rep_nth : ∀ (n i : Nat) (v : AV), ¬ oh_nth (List.replicate n (none : Option AV)) i none = some v
  | 0, _, _, h => by simp [oh_nth] at h
  | n + 1, 0, _, h => by simp [oh_nth, List.replicate] at h
  | n + 1, i + 1, v, h => oh_rep_nth n i v h
theorem oh_ent_of {ad : Nat → Nat → Nat} {tc : Nat → Nat} : ∀ (as : List AV) (n : Nat) (k : LV → Prop), oh_ent as n k → ∃ ls, k ls ∧ ls.length = n ∧ (lg_sl (as.map (oh_re ad tc))).length ≤ n ∧ (∀ v, some v ∈ ls → v ∈ as) ∧ ∀ b i v, oh_nth ls i none = some v → (b + i, oh_re ad tc v) ∈ lv_args b (as.map (oh_re ad tc))
  | [], n, k, h => ⟨_, oh_pad_of n k h, by simp, by simp [lg_sl], fun v hv => absurd (List.eq_of_mem_replicate hv) (by simp), fun b i v hv => absurd hv (oh_rep_nth n i v)⟩
  | Sum.inl x :: as, 0, k, h => h.elim
  | Sum.inl x :: as, n + 1, k, h => by
    obtain ⟨ls, h1, h2, h3, h4, h5⟩ := oh_ent_of (ad := ad) (tc := tc) as n _ h
    refine ⟨some (oI x) :: ls, h1, by simp [h2], ?_, ?_, ?_⟩
    · simp only [List.map_cons, lg_sl, List.flatMap_cons, List.length_append] at h3 ⊢
      have : (if (oh_re ad tc (Sum.inl x)).category = 2 then [Slot.val (oh_re ad tc (Sum.inl x)), Slot.second] else [Slot.val (oh_re ad tc (Sum.inl x))]).length = 1 := rfl
      omega
    · intro v hv
      rcases List.mem_cons.mp hv with hv | hv
      · cases hv
        exact List.mem_cons_self
      · exact List.mem_cons_of_mem _ (h4 v hv)
    · intro b i v hv
      cases i with
      | zero =>
        cases hv
        exact List.mem_cons_self
      | succ i =>
        have := h5 (b + 1) i v hv
        refine List.mem_cons_of_mem _ ?_
        have e : b + (i + 1) = b + 1 + i := by omega
        rw [e]
        exact this
  | Sum.inr (Sum.inr x) :: as, 0, k, h => by rcases x with x | x <;> exact h.elim
  | Sum.inr (Sum.inr x) :: as, n + 1, k, h => by
    obtain ⟨ls, h1, h2, h3, h4, h5⟩ := oh_ent_of (ad := ad) (tc := tc) as n _ h
    have hc : (oh_re ad tc (Sum.inr (Sum.inr x))).category = 1 := by rcases x with x | x <;> rfl
    refine ⟨some (Sum.inr (Sum.inr x)) :: ls, h1, by simp [h2], ?_, ?_, ?_⟩
    · simp only [List.map_cons, lg_sl, List.flatMap_cons, List.length_append] at h3 ⊢
      have e1 : (if (oh_re ad tc (Sum.inr (Sum.inr x))).category = 2 then [Slot.val (oh_re ad tc (Sum.inr (Sum.inr x))), Slot.second] else [Slot.val (oh_re ad tc (Sum.inr (Sum.inr x)))]).length = 1 := by
        rw [hc]
        rfl
      omega
    · intro v hv
      rcases List.mem_cons.mp hv with hv | hv
      · cases hv
        exact List.mem_cons_self
      · exact List.mem_cons_of_mem _ (h4 v hv)
    · intro b i v hv
      simp only [List.map_cons, lv_args, hc]
      cases i with
      | zero =>
        cases hv
        exact List.mem_cons_self
      | succ i =>
        have := h5 (b + 1) i v hv
        refine List.mem_cons_of_mem _ ?_
        have e : b + (i + 1) = b + 1 + i := by omega
        rw [e]
        exact this
  | Sum.inr (Sum.inl x) :: as, 0, k, h => h.elim
  | Sum.inr (Sum.inl x) :: as, 1, k, h => h.elim
  | Sum.inr (Sum.inl x) :: as, n + 2, k, h => by
    obtain ⟨ls, h1, h2, h3, h4, h5⟩ := oh_ent_of (ad := ad) (tc := tc) as n _ h
    have hc : (oh_re ad tc (Sum.inr (Sum.inl x))).category = 2 := rfl
    refine ⟨some (oL x) :: none :: ls, h1, by simp [h2], ?_, ?_, ?_⟩
    · simp only [List.map_cons, lg_sl, List.flatMap_cons, List.length_append] at h3 ⊢
      have e1 : (if (oh_re ad tc (Sum.inr (Sum.inl x))).category = 2 then [Slot.val (oh_re ad tc (Sum.inr (Sum.inl x))), Slot.second] else [Slot.val (oh_re ad tc (Sum.inr (Sum.inl x)))]).length = 2 := by
        rw [hc]
        rfl
      omega
    · intro v hv
      rcases List.mem_cons.mp hv with hv | hv
      · cases hv
        exact List.mem_cons_self
      · rcases List.mem_cons.mp hv with hv | hv
        · cases hv
        · exact List.mem_cons_of_mem _ (h4 v hv)
    · intro b i v hv
      simp only [List.map_cons, lv_args, hc]
      match i, hv with
      | 0, hv =>
        cases hv
        exact List.mem_cons_self
      | 1, hv => cases hv
      | i + 2, hv =>
        have := h5 (b + 2) i v hv
        refine List.mem_cons_of_mem _ ?_
        have e : b + (i + 2) = b + 2 + i := by omega
        rw [e]
        exact this
/-- how the answer's type goes with a table's mark -/
def oh_rok (ret : Option FieldType) (rb : Bool) : Prop := (ret = some .int ∧ rb = false) ∨ (ret = some .boolean ∧ rb = true) ∨ (ret = some .long ∧ rb = false) ∨ (∃ C, ret = some (.object C) ∧ rb = false) ∨ (ret = none ∧ rb = false)
/-- which instructions end the method -/
def oh_rtB (ret : Option FieldType) (r : IR) : Bool := match r with
  | (_, .ireturn, _) => decide (ret = some .int) || decide (ret = some .boolean)
  | (_, .lreturn, _) => decide (ret = some .long)
  | (_, .areturn, _) => match ret with
    | some (.object _) => true
    | _ => false
  | (_, .return_, _) => decide (ret = none)
  | _ => true
theorem oh_kc_sta {t0 t1 : Nat} {A : Nat → Prop} {U : State} {H : Heap} (h : oh_Sta t0 t1 A U H) : ∀ k, oh_Con oh_kc (oh_tc t0 t1) A U H k := h.2.2
set_option maxHeartbeats 4000000 in
/-- a method that keeps a contract over the small machine keeps it over the machine -/
theorem oh_mc (l : Launch) (h : Nat) {y : MethodName} {bytes : ByteArray} {maxL : Nat} {ret : Option FieldType} {P : PG} {T : Tr} (hy : plainName y.cls = true) (hOk : oh_Ok P maxL T) (hTab : P.1.all (oh_rowB bytes) = true) (hRt : P.1.all (oh_rtB ret) = true) (hrk : oh_rok ret P.2.2.2.2.2.1) (hkc : P.2.2.2.2.2.2 = oh_kc)
    (hKF : oh_KF y.cls P.2.1 P.2.2.1 P.2.2.2.1) (hca : ∀ key na T, oh_look P.2.2.2.2.1 key = some (na, T) → oh_CF l y.cls h key na T) : oh_MC l h y bytes maxL ret T := by
  intro D ad cA t0 t1 sz as μ Post hT hwf hwM
  refine Met.ofW (cc := bytes) (maxL := maxL) (ret := ret) hy rfl ?_
  intro p e s m args below meth c s₁ B hml hv
  obtain ⟨rfl, hsz, hP, hK, hD, hSt, hNs⟩ := hv
  subst hsz
  have hx := B.exec
  have hb := B.bytes
  have hr := B.returns
  have hts0 := atoms_spec (ws := .code y bytes maxL ret :: oh_tbl) B.pre
  have hts : ∀ w ∈ oh_tbl, w.before (as.map (oh_re ad (oh_tc t0 t1))).toArray s = true := fun w hw => hts0 w (List.mem_cons_of_mem _ hw)
  have hown : s.vm.findClass y.cls = some m.cls := findClass_of_methodNamed B.named
  have hlocks := B.notSynchronized
  obtain ⟨hF1, hF2, hF3, hF4⟩ := hKF
  obtain ⟨hcS, hcV⟩ := oh_calls (p := p) (e := e) (R := (headSpec (.code y bytes maxL ret :: oh_tbl) (oh_rm h)).room) (below := below) (meth := meth) (cells := 0) (slots := 0) (Q := MQ below (oh_Qc D ad cA (oh_tc t0 t1) s.heap.size Post) (as.map (oh_re ad (oh_tc t0 t1))).toArray s 0 0 (oh_A ad s.heap.size)) (tc := oh_tc t0 t1) hx hb hml hown hts hK hSt hNs (h := h) (Nat.le_refl _) (Nat.le_refl _) ⟨Nat.zero_le _, Nat.zero_le _⟩ hca
  have hcl := oh_cl (P := P) (Post := Post) (nL := maxL) hx hb hown hts hNs hK (by rw [hkc]; exact oh_kc_sta hSt) hTab hF1 hF2 hF3 (fun idx k hk => by
      rcases hF4 idx k hk with ⟨rfl, hl⟩ | ⟨rfl, hl⟩
      · exact ⟨_, hSt.1, hl⟩
      · exact ⟨_, hSt.2.1, hl⟩) hcS hcV ?_
  · have hent := hOk as μ Post _ hcl (fun v hv => (hwf v hv).1) hwM hT
    obtain ⟨ls, hG, hlen, hfit, hmem, hnth⟩ := oh_ent_of (ad := ad) (tc := oh_tc t0 t1) as maxL _ hent
    have hl := lv_entry (as.map (oh_re ad (oh_tc t0 t1))) (n := maxL) hfit
    rw [lg_entry_eq]
    exact hG hlen (fun v hv => (hwf v (hmem v hv)).1) (fun v hv => by cases hv) hwM s.heap [] _ hP hD va_S.rf (oh_L_of hl (fun i v hi => by
      have := hnth 0 i v hi
      rw [Nat.zero_add] at this
      exact this))
  · intro i pc r μ1 H locs lr hmm hd hk hpo hwr hwm hP1 hD1 hS1
    have hq : (∀ v, r = some v → oh_nK v) → ∀ t : State, t.heap = H → s.WarmedH t.vm → oh_Qc D ad cA (oh_tc t0 t1) s.heap.size Post (as.map (oh_re ad (oh_tc t0 t1))).toArray s (.returned (r.map (oh_re ad (oh_tc t0 t1)))) t := by
      intro hnk t ht hW
      exact ⟨⟨r, μ1, rfl, hpo, fun v hv => ⟨hwr v hv, hnk v hv⟩, hwm, by rw [ht]; exact hP1, hD1⟩, hS1.F ht⟩
    obtain ⟨len, nx, tg, hmm⟩ := hmm
    have hrt := List.all_eq_true.mp hRt _ hmm
    rcases hk with ⟨rfl, x, rfl, hz⟩ | ⟨rfl, x, rfl⟩ | ⟨rfl, s0, n0, rfl⟩ | ⟨rfl, rfl⟩
    · have hq := hq (fun v hv => by cases hv; trivial)
      simp only [oh_rtB, Bool.or_eq_true, decide_eq_true_eq] at hrt
      rcases hrt with e1 | e1
      · exact W.iret (v := Int32.ofInt x) hx hb (hr.trans e1) hq hS1.2.2 hd
      · have e2 : P.2.2.2.2.2.1 = true := by
          rcases hrk with ⟨e3, e2⟩ | ⟨e3, e2⟩ | ⟨e3, e2⟩ | ⟨C, e3, e2⟩ | ⟨e3, e2⟩
          · rw [e1] at e3
            cases e3
          · exact e2
          · rw [e1] at e3
            cases e3
          · rw [e1] at e3
            cases e3
          · rw [e1] at e3
            cases e3
        exact W.zret (v := Int32.ofInt x) hx hb (hr.trans e1) (oh_nar_z (hz e2).1 (hz e2).2).1 hq hS1.2.2 hd
    · have hq := hq (fun v hv => by cases hv; trivial)
      simp only [oh_rtB, decide_eq_true_eq] at hrt
      exact W.lret (v := Int64.ofInt x) hx hb (hr.trans hrt) hq hS1.2.2 hd
    · have hq := hq (fun v hv => by cases hv; trivial)
      unfold oh_rtB at hrt
      split at hrt
      · rename_i e1
        cases e1
      · rename_i e1
        cases e1
      · split at hrt
        · exact W.aret (v := .ref (ad s0 n0)) hx hb hr (Or.inl ⟨_, rfl⟩) (Or.inr ⟨_, rfl⟩) hq hS1.2.2 hd
        · cases hrt
      · rename_i e1
        cases e1
      · rename_i e1 _
        exact absurd rfl (e1 _ _)
    · have hq := hq (fun v hv => by cases hv)
      simp only [oh_rtB, decide_eq_true_eq] at hrt
      exact W.vret hx hb (hr.trans hrt) hq hS1.2.2 hd
end
