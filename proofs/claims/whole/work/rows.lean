section
-- ===== PART A: goes FIRST, ahead of the names: the tables' words, and 'selects' of the private methods out of them =====
/-- a private method of a class that the tables say can be made, by its rows of tables_1 -/
def lw_okq (q : MethodName × Nat) : Prop := (q.1.cls ≠ "java/lang/invoke/MethodHandle" ∧ q.1.cls ≠ "java/lang/invoke/VarHandle") ∧ Cond.instantiable q.1.cls q.2 ∈ tables_1 ∧ Cond.privateMethod q.1 ∈ tables_1 ∧ Cond.instanceMethod q.1 ∈ tables_1
theorem lw_p0 : lw_okq (⟨"BoxNest", "refusal", "(IIIIZ)I"⟩, 5) := ⟨⟨by decide +kernel, by decide +kernel⟩, List.mem_of_getElem? (i := 15) (by decide +kernel), List.mem_of_getElem? (i := 371) (by decide +kernel), List.mem_of_getElem? (i := 372) (by decide +kernel)⟩
theorem lw_p1 : lw_okq (⟨"BoxNest$Hold", "commonInX", "(II)I"⟩, 12) := ⟨⟨by decide +kernel, by decide +kernel⟩, List.mem_of_getElem? (i := 23) (by decide +kernel), List.mem_of_getElem? (i := 391) (by decide +kernel), List.mem_of_getElem? (i := 392) (by decide +kernel)⟩
theorem lw_p2 : lw_okq (⟨"BoxNest$Hold", "commonInY", "(II)I"⟩, 12) := ⟨⟨by decide +kernel, by decide +kernel⟩, List.mem_of_getElem? (i := 23) (by decide +kernel), List.mem_of_getElem? (i := 396) (by decide +kernel), List.mem_of_getElem? (i := 397) (by decide +kernel)⟩
theorem lw_p3 : lw_okq (⟨"BoxNest$Hold", "commonInZ", "(II)I"⟩, 12) := ⟨⟨by decide +kernel, by decide +kernel⟩, List.mem_of_getElem? (i := 23) (by decide +kernel), List.mem_of_getElem? (i := 400) (by decide +kernel), List.mem_of_getElem? (i := 401) (by decide +kernel)⟩
theorem lw_p4 : lw_okq (⟨"BoxNest$Hold", "isInside", "(LBoxNest$Box;)Z"⟩, 12) := ⟨⟨by decide +kernel, by decide +kernel⟩, List.mem_of_getElem? (i := 23) (by decide +kernel), List.mem_of_getElem? (i := 408) (by decide +kernel), List.mem_of_getElem? (i := 409) (by decide +kernel)⟩
theorem lw_p5 : lw_okq (⟨"BoxNest$Hold", "isHeld", "(LBoxNest$Box;)Z"⟩, 12) := ⟨⟨by decide +kernel, by decide +kernel⟩, List.mem_of_getElem? (i := 23) (by decide +kernel), List.mem_of_getElem? (i := 412) (by decide +kernel), List.mem_of_getElem? (i := 413) (by decide +kernel)⟩
theorem lw_p6 : lw_okq (⟨"BoxNest$Hold", "bearAll", "(I)Z"⟩, 12) := ⟨⟨by decide +kernel, by decide +kernel⟩, List.mem_of_getElem? (i := 23) (by decide +kernel), List.mem_of_getElem? (i := 420) (by decide +kernel), List.mem_of_getElem? (i := 421) (by decide +kernel)⟩
theorem lw_p7 : lw_okq (⟨"BoxNest$Hold", "giveLoad", "(II)V"⟩, 12) := ⟨⟨by decide +kernel, by decide +kernel⟩, List.mem_of_getElem? (i := 23) (by decide +kernel), List.mem_of_getElem? (i := 427) (by decide +kernel), List.mem_of_getElem? (i := 428) (by decide +kernel)⟩
theorem lw_p8 : lw_okq (⟨"BoxNest$Hold", "isInWay", "(LBoxNest$Box;)Z"⟩, 12) := ⟨⟨by decide +kernel, by decide +kernel⟩, List.mem_of_getElem? (i := 23) (by decide +kernel), List.mem_of_getElem? (i := 431) (by decide +kernel), List.mem_of_getElem? (i := 432) (by decide +kernel)⟩
theorem lw_p9 : lw_okq (⟨"BoxNest$Hold", "listCorners", "(LBoxNest$Box;)V"⟩, 12) := ⟨⟨by decide +kernel, by decide +kernel⟩, List.mem_of_getElem? (i := 23) (by decide +kernel), List.mem_of_getElem? (i := 451) (by decide +kernel), List.mem_of_getElem? (i := 452) (by decide +kernel)⟩
theorem lw_p10 : lw_okq (⟨"BoxNest$Hold", "listCommon", "(LBoxNest$Box;)V"⟩, 12) := ⟨⟨by decide +kernel, by decide +kernel⟩, List.mem_of_getElem? (i := 23) (by decide +kernel), List.mem_of_getElem? (i := 459) (by decide +kernel), List.mem_of_getElem? (i := 460) (by decide +kernel)⟩
theorem lw_p11 : lw_okq (⟨"BoxNest$Hold", "isFree", "(IIIIZ)Z"⟩, 12) := ⟨⟨by decide +kernel, by decide +kernel⟩, List.mem_of_getElem? (i := 23) (by decide +kernel), List.mem_of_getElem? (i := 467) (by decide +kernel), List.mem_of_getElem? (i := 468) (by decide +kernel)⟩
theorem lw_p12 : lw_okq (⟨"BoxNest", "isSet", "(I)Z"⟩, 5) := ⟨⟨by decide +kernel, by decide +kernel⟩, List.mem_of_getElem? (i := 15) (by decide +kernel), List.mem_of_getElem? (i := 498) (by decide +kernel), List.mem_of_getElem? (i := 499) (by decide +kernel)⟩
theorem lw_p13 : lw_okq (⟨"BoxNest", "tryOrders", "(III)V"⟩, 5) := ⟨⟨by decide +kernel, by decide +kernel⟩, List.mem_of_getElem? (i := 15) (by decide +kernel), List.mem_of_getElem? (i := 506) (by decide +kernel), List.mem_of_getElem? (i := 507) (by decide +kernel)⟩
theorem lw_p14 : lw_okq (⟨"BoxNest", "setBest", "()I"⟩, 5) := ⟨⟨by decide +kernel, by decide +kernel⟩, List.mem_of_getElem? (i := 15) (by decide +kernel), List.mem_of_getElem? (i := 522) (by decide +kernel), List.mem_of_getElem? (i := 523) (by decide +kernel)⟩
theorem lw_p15 : lw_okq (⟨"BoxNest", "overAt", "(I)I"⟩, 5) := ⟨⟨by decide +kernel, by decide +kernel⟩, List.mem_of_getElem? (i := 15) (by decide +kernel), List.mem_of_getElem? (i := 574) (by decide +kernel), List.mem_of_getElem? (i := 575) (by decide +kernel)⟩
def lw_privs_1 : List (MethodName × Nat) := [(⟨"BoxNest", "refusal", "(IIIIZ)I"⟩, 5), (⟨"BoxNest$Hold", "commonInX", "(II)I"⟩, 12), (⟨"BoxNest$Hold", "commonInY", "(II)I"⟩, 12), (⟨"BoxNest$Hold", "commonInZ", "(II)I"⟩, 12), (⟨"BoxNest$Hold", "isInside", "(LBoxNest$Box;)Z"⟩, 12), (⟨"BoxNest$Hold", "isHeld", "(LBoxNest$Box;)Z"⟩, 12), (⟨"BoxNest$Hold", "bearAll", "(I)Z"⟩, 12), (⟨"BoxNest$Hold", "giveLoad", "(II)V"⟩, 12), (⟨"BoxNest$Hold", "isInWay", "(LBoxNest$Box;)Z"⟩, 12), (⟨"BoxNest$Hold", "listCorners", "(LBoxNest$Box;)V"⟩, 12), (⟨"BoxNest$Hold", "listCommon", "(LBoxNest$Box;)V"⟩, 12), (⟨"BoxNest$Hold", "isFree", "(IIIIZ)Z"⟩, 12), (⟨"BoxNest", "isSet", "(I)Z"⟩, 5), (⟨"BoxNest", "tryOrders", "(III)V"⟩, 5), (⟨"BoxNest", "setBest", "()I"⟩, 5), (⟨"BoxNest", "overAt", "(I)I"⟩, 5)]
theorem lw_r1 : ∀ q ∈ lw_privs_1, lw_okq q := List.forall_mem_cons.mpr ⟨lw_p0, List.forall_mem_cons.mpr ⟨lw_p1, List.forall_mem_cons.mpr ⟨lw_p2, List.forall_mem_cons.mpr ⟨lw_p3, List.forall_mem_cons.mpr ⟨lw_p4, List.forall_mem_cons.mpr ⟨lw_p5, List.forall_mem_cons.mpr ⟨lw_p6, List.forall_mem_cons.mpr ⟨lw_p7, List.forall_mem_cons.mpr ⟨lw_p8, List.forall_mem_cons.mpr ⟨lw_p9, List.forall_mem_cons.mpr ⟨lw_p10, List.forall_mem_cons.mpr ⟨lw_p11, List.forall_mem_cons.mpr ⟨lw_p12, List.forall_mem_cons.mpr ⟨lw_p13, List.forall_mem_cons.mpr ⟨lw_p14, List.forall_mem_cons.mpr ⟨lw_p15, fun _ h => absurd h List.not_mem_nil⟩⟩⟩⟩⟩⟩⟩⟩⟩⟩⟩⟩⟩⟩⟩⟩
theorem lw_p16 : lw_okq (⟨"BoxNest$Cutter", "fillWorths", "(LBoxNest$Hold;I)V"⟩, 5) := ⟨⟨by decide +kernel, by decide +kernel⟩, List.mem_of_getElem? (i := 593) (by decide +kernel), List.mem_of_getElem? (i := 628) (by decide +kernel), List.mem_of_getElem? (i := 629) (by decide +kernel)⟩
theorem lw_p17 : lw_okq (⟨"BoxNest$Cutter", "offer", "(II)V"⟩, 5) := ⟨⟨by decide +kernel, by decide +kernel⟩, List.mem_of_getElem? (i := 593) (by decide +kernel), List.mem_of_getElem? (i := 633) (by decide +kernel), List.mem_of_getElem? (i := 634) (by decide +kernel)⟩
theorem lw_p18 : lw_okq (⟨"BoxNest$Cutter", "worthCut", "(I)I"⟩, 5) := ⟨⟨by decide +kernel, by decide +kernel⟩, List.mem_of_getElem? (i := 593) (by decide +kernel), List.mem_of_getElem? (i := 637) (by decide +kernel), List.mem_of_getElem? (i := 638) (by decide +kernel)⟩
theorem lw_p19 : lw_okq (⟨"BoxNest$Cutter", "layOut", "(LBoxNest$Hold;III)V"⟩, 5) := ⟨⟨by decide +kernel, by decide +kernel⟩, List.mem_of_getElem? (i := 593) (by decide +kernel), List.mem_of_getElem? (i := 652) (by decide +kernel), List.mem_of_getElem? (i := 653) (by decide +kernel)⟩
theorem lw_p20 : lw_okq (⟨"BoxNest$Cutter", "layPiece", "(LBoxNest$Hold;II)Z"⟩, 5) := ⟨⟨by decide +kernel, by decide +kernel⟩, List.mem_of_getElem? (i := 593) (by decide +kernel), List.mem_of_getElem? (i := 656) (by decide +kernel), List.mem_of_getElem? (i := 657) (by decide +kernel)⟩
theorem lw_p21 : lw_okq (⟨"BoxNest$Cutter", "firstCut", "(I)I"⟩, 5) := ⟨⟨by decide +kernel, by decide +kernel⟩, List.mem_of_getElem? (i := 593) (by decide +kernel), List.mem_of_getElem? (i := 660) (by decide +kernel), List.mem_of_getElem? (i := 661) (by decide +kernel)⟩
theorem lw_p22 : lw_okq (⟨"BoxNest$Bounds", "measure", "(LBoxNest$Hold;I)V"⟩, 7) := ⟨⟨by decide +kernel, by decide +kernel⟩, List.mem_of_getElem? (i := 291) (by decide +kernel), List.mem_of_getElem? (i := 680) (by decide +kernel), List.mem_of_getElem? (i := 681) (by decide +kernel)⟩
theorem lw_p23 : lw_okq (⟨"BoxNest$Bounds", "findApart", "(LBoxNest$Hold;I)V"⟩, 7) := ⟨⟨by decide +kernel, by decide +kernel⟩, List.mem_of_getElem? (i := 291) (by decide +kernel), List.mem_of_getElem? (i := 688) (by decide +kernel), List.mem_of_getElem? (i := 689) (by decide +kernel)⟩
theorem lw_p24 : lw_okq (⟨"BoxNest$Bounds", "areApart", "(LBoxNest$Hold;II)Z"⟩, 7) := ⟨⟨by decide +kernel, by decide +kernel⟩, List.mem_of_getElem? (i := 291) (by decide +kernel), List.mem_of_getElem? (i := 692) (by decide +kernel), List.mem_of_getElem? (i := 693) (by decide +kernel)⟩
theorem lw_p25 : lw_okq (⟨"BoxNest$Bounds", "findBig", "(III)V"⟩, 7) := ⟨⟨by decide +kernel, by decide +kernel⟩, List.mem_of_getElem? (i := 291) (by decide +kernel), List.mem_of_getElem? (i := 696) (by decide +kernel), List.mem_of_getElem? (i := 697) (by decide +kernel)⟩
theorem lw_p26 : lw_okq (⟨"BoxNestModel", "placed", "()I"⟩, 40) := ⟨⟨by decide +kernel, by decide +kernel⟩, List.mem_of_getElem? (i := 719) (by decide +kernel), List.mem_of_getElem? (i := 859) (by decide +kernel), List.mem_of_getElem? (i := 860) (by decide +kernel)⟩
theorem lw_p27 : lw_okq (⟨"BoxNestModel", "asked", "(IIIIZ)I"⟩, 40) := ⟨⟨by decide +kernel, by decide +kernel⟩, List.mem_of_getElem? (i := 719) (by decide +kernel), List.mem_of_getElem? (i := 879) (by decide +kernel), List.mem_of_getElem? (i := 880) (by decide +kernel)⟩
theorem lw_p28 : lw_okq (⟨"BoxNestModel", "isBox", "(I)Z"⟩, 40) := ⟨⟨by decide +kernel, by decide +kernel⟩, List.mem_of_getElem? (i := 719) (by decide +kernel), List.mem_of_getElem? (i := 883) (by decide +kernel), List.mem_of_getElem? (i := 884) (by decide +kernel)⟩
theorem lw_p29 : lw_okq (⟨"BoxNestModel", "wrongAt", "(IIIIZ)I"⟩, 40) := ⟨⟨by decide +kernel, by decide +kernel⟩, List.mem_of_getElem? (i := 719) (by decide +kernel), List.mem_of_getElem? (i := 887) (by decide +kernel), List.mem_of_getElem? (i := 888) (by decide +kernel)⟩
theorem lw_p30 : lw_okq (⟨"BoxNestModel", "longOf", "(I)I"⟩, 40) := ⟨⟨by decide +kernel, by decide +kernel⟩, List.mem_of_getElem? (i := 719) (by decide +kernel), List.mem_of_getElem? (i := 891) (by decide +kernel), List.mem_of_getElem? (i := 892) (by decide +kernel)⟩
theorem lw_p31 : lw_okq (⟨"BoxNestModel", "wideOf", "(I)I"⟩, 40) := ⟨⟨by decide +kernel, by decide +kernel⟩, List.mem_of_getElem? (i := 719) (by decide +kernel), List.mem_of_getElem? (i := 895) (by decide +kernel), List.mem_of_getElem? (i := 896) (by decide +kernel)⟩
def lw_privs_2 : List (MethodName × Nat) := [(⟨"BoxNest$Cutter", "fillWorths", "(LBoxNest$Hold;I)V"⟩, 5), (⟨"BoxNest$Cutter", "offer", "(II)V"⟩, 5), (⟨"BoxNest$Cutter", "worthCut", "(I)I"⟩, 5), (⟨"BoxNest$Cutter", "layOut", "(LBoxNest$Hold;III)V"⟩, 5), (⟨"BoxNest$Cutter", "layPiece", "(LBoxNest$Hold;II)Z"⟩, 5), (⟨"BoxNest$Cutter", "firstCut", "(I)I"⟩, 5), (⟨"BoxNest$Bounds", "measure", "(LBoxNest$Hold;I)V"⟩, 7), (⟨"BoxNest$Bounds", "findApart", "(LBoxNest$Hold;I)V"⟩, 7), (⟨"BoxNest$Bounds", "areApart", "(LBoxNest$Hold;II)Z"⟩, 7), (⟨"BoxNest$Bounds", "findBig", "(III)V"⟩, 7), (⟨"BoxNestModel", "placed", "()I"⟩, 40), (⟨"BoxNestModel", "asked", "(IIIIZ)I"⟩, 40), (⟨"BoxNestModel", "isBox", "(I)Z"⟩, 40), (⟨"BoxNestModel", "wrongAt", "(IIIIZ)I"⟩, 40), (⟨"BoxNestModel", "longOf", "(I)I"⟩, 40), (⟨"BoxNestModel", "wideOf", "(I)I"⟩, 40)]
theorem lw_r2 : ∀ q ∈ lw_privs_2, lw_okq q := List.forall_mem_cons.mpr ⟨lw_p16, List.forall_mem_cons.mpr ⟨lw_p17, List.forall_mem_cons.mpr ⟨lw_p18, List.forall_mem_cons.mpr ⟨lw_p19, List.forall_mem_cons.mpr ⟨lw_p20, List.forall_mem_cons.mpr ⟨lw_p21, List.forall_mem_cons.mpr ⟨lw_p22, List.forall_mem_cons.mpr ⟨lw_p23, List.forall_mem_cons.mpr ⟨lw_p24, List.forall_mem_cons.mpr ⟨lw_p25, List.forall_mem_cons.mpr ⟨lw_p26, List.forall_mem_cons.mpr ⟨lw_p27, List.forall_mem_cons.mpr ⟨lw_p28, List.forall_mem_cons.mpr ⟨lw_p29, List.forall_mem_cons.mpr ⟨lw_p30, List.forall_mem_cons.mpr ⟨lw_p31, fun _ h => absurd h List.not_mem_nil⟩⟩⟩⟩⟩⟩⟩⟩⟩⟩⟩⟩⟩⟩⟩⟩
theorem lw_p32 : lw_okq (⟨"BoxNestModel", "area", "(II)I"⟩, 40) := ⟨⟨by decide +kernel, by decide +kernel⟩, List.mem_of_getElem? (i := 719) (by decide +kernel), List.mem_of_getElem? (i := 899) (by decide +kernel), List.mem_of_getElem? (i := 900) (by decide +kernel)⟩
theorem lw_p33 : lw_okq (⟨"BoxNestModel", "stands", "(II)I"⟩, 40) := ⟨⟨by decide +kernel, by decide +kernel⟩, List.mem_of_getElem? (i := 719) (by decide +kernel), List.mem_of_getElem? (i := 906) (by decide +kernel), List.mem_of_getElem? (i := 907) (by decide +kernel)⟩
theorem lw_p34 : lw_okq (⟨"BoxNestModel", "topOf", "(I)I"⟩, 40) := ⟨⟨by decide +kernel, by decide +kernel⟩, List.mem_of_getElem? (i := 719) (by decide +kernel), List.mem_of_getElem? (i := 910) (by decide +kernel), List.mem_of_getElem? (i := 911) (by decide +kernel)⟩
theorem lw_p35 : lw_okq (⟨"BoxNestModel", "isInWay", "(II)Z"⟩, 40) := ⟨⟨by decide +kernel, by decide +kernel⟩, List.mem_of_getElem? (i := 719) (by decide +kernel), List.mem_of_getElem? (i := 914) (by decide +kernel), List.mem_of_getElem? (i := 915) (by decide +kernel)⟩
theorem lw_p36 : lw_okq (⟨"BoxNestModel", "makeLoads", "()V"⟩, 40) := ⟨⟨by decide +kernel, by decide +kernel⟩, List.mem_of_getElem? (i := 719) (by decide +kernel), List.mem_of_getElem? (i := 918) (by decide +kernel), List.mem_of_getElem? (i := 919) (by decide +kernel)⟩
theorem lw_p37 : lw_okq (⟨"BoxNestModel", "sets", "(I)Z"⟩, 40) := ⟨⟨by decide +kernel, by decide +kernel⟩, List.mem_of_getElem? (i := 719) (by decide +kernel), List.mem_of_getElem? (i := 930) (by decide +kernel), List.mem_of_getElem? (i := 931) (by decide +kernel)⟩
theorem lw_p38 : lw_okq (⟨"BoxNestModel", "nextEnd", "(II)I"⟩, 40) := ⟨⟨by decide +kernel, by decide +kernel⟩, List.mem_of_getElem? (i := 719) (by decide +kernel), List.mem_of_getElem? (i := 934) (by decide +kernel), List.mem_of_getElem? (i := 935) (by decide +kernel)⟩
theorem lw_p39 : lw_okq (⟨"BoxNestModel", "isSet", "(I)Z"⟩, 40) := ⟨⟨by decide +kernel, by decide +kernel⟩, List.mem_of_getElem? (i := 719) (by decide +kernel), List.mem_of_getElem? (i := 950) (by decide +kernel), List.mem_of_getElem? (i := 951) (by decide +kernel)⟩
theorem lw_p40 : lw_okq (⟨"BoxNestModel", "orders", "(IIII)V"⟩, 40) := ⟨⟨by decide +kernel, by decide +kernel⟩, List.mem_of_getElem? (i := 719) (by decide +kernel), List.mem_of_getElem? (i := 954) (by decide +kernel), List.mem_of_getElem? (i := 955) (by decide +kernel)⟩
theorem lw_p41 : lw_okq (⟨"BoxNestModel", "lists", "(II)I"⟩, 40) := ⟨⟨by decide +kernel, by decide +kernel⟩, List.mem_of_getElem? (i := 719) (by decide +kernel), List.mem_of_getElem? (i := 958) (by decide +kernel), List.mem_of_getElem? (i := 959) (by decide +kernel)⟩
theorem lw_p42 : lw_okq (⟨"BoxNestModel", "farthest", "()I"⟩, 40) := ⟨⟨by decide +kernel, by decide +kernel⟩, List.mem_of_getElem? (i := 719) (by decide +kernel), List.mem_of_getElem? (i := 962) (by decide +kernel), List.mem_of_getElem? (i := 963) (by decide +kernel)⟩
theorem lw_p43 : lw_okq (⟨"BoxNestModel", "unset", "(I)V"⟩, 40) := ⟨⟨by decide +kernel, by decide +kernel⟩, List.mem_of_getElem? (i := 719) (by decide +kernel), List.mem_of_getElem? (i := 966) (by decide +kernel), List.mem_of_getElem? (i := 967) (by decide +kernel)⟩
theorem lw_p44 : lw_okq (⟨"BoxNestModel", "axleOf", "(II)I"⟩, 40) := ⟨⟨by decide +kernel, by decide +kernel⟩, List.mem_of_getElem? (i := 719) (by decide +kernel), List.mem_of_getElem? (i := 983) (by decide +kernel), List.mem_of_getElem? (i := 984) (by decide +kernel)⟩
theorem lw_p45 : lw_okq (⟨"BoxNestModel", "isLeft", "(II)Z"⟩, 40) := ⟨⟨by decide +kernel, by decide +kernel⟩, List.mem_of_getElem? (i := 719) (by decide +kernel), List.mem_of_getElem? (i := 987) (by decide +kernel), List.mem_of_getElem? (i := 988) (by decide +kernel)⟩
theorem lw_p46 : lw_okq (⟨"BoxNestModel", "weights", "(I)I"⟩, 40) := ⟨⟨by decide +kernel, by decide +kernel⟩, List.mem_of_getElem? (i := 719) (by decide +kernel), List.mem_of_getElem? (i := 991) (by decide +kernel), List.mem_of_getElem? (i := 992) (by decide +kernel)⟩
theorem lw_p47 : lw_okq (⟨"BoxNestModel", "overAt", "(I)I"⟩, 40) := ⟨⟨by decide +kernel, by decide +kernel⟩, List.mem_of_getElem? (i := 719) (by decide +kernel), List.mem_of_getElem? (i := 999) (by decide +kernel), List.mem_of_getElem? (i := 1000) (by decide +kernel)⟩
def lw_privs_3 : List (MethodName × Nat) := [(⟨"BoxNestModel", "area", "(II)I"⟩, 40), (⟨"BoxNestModel", "stands", "(II)I"⟩, 40), (⟨"BoxNestModel", "topOf", "(I)I"⟩, 40), (⟨"BoxNestModel", "isInWay", "(II)Z"⟩, 40), (⟨"BoxNestModel", "makeLoads", "()V"⟩, 40), (⟨"BoxNestModel", "sets", "(I)Z"⟩, 40), (⟨"BoxNestModel", "nextEnd", "(II)I"⟩, 40), (⟨"BoxNestModel", "isSet", "(I)Z"⟩, 40), (⟨"BoxNestModel", "orders", "(IIII)V"⟩, 40), (⟨"BoxNestModel", "lists", "(II)I"⟩, 40), (⟨"BoxNestModel", "farthest", "()I"⟩, 40), (⟨"BoxNestModel", "unset", "(I)V"⟩, 40), (⟨"BoxNestModel", "axleOf", "(II)I"⟩, 40), (⟨"BoxNestModel", "isLeft", "(II)Z"⟩, 40), (⟨"BoxNestModel", "weights", "(I)I"⟩, 40), (⟨"BoxNestModel", "overAt", "(I)I"⟩, 40)]
theorem lw_r3 : ∀ q ∈ lw_privs_3, lw_okq q := List.forall_mem_cons.mpr ⟨lw_p32, List.forall_mem_cons.mpr ⟨lw_p33, List.forall_mem_cons.mpr ⟨lw_p34, List.forall_mem_cons.mpr ⟨lw_p35, List.forall_mem_cons.mpr ⟨lw_p36, List.forall_mem_cons.mpr ⟨lw_p37, List.forall_mem_cons.mpr ⟨lw_p38, List.forall_mem_cons.mpr ⟨lw_p39, List.forall_mem_cons.mpr ⟨lw_p40, List.forall_mem_cons.mpr ⟨lw_p41, List.forall_mem_cons.mpr ⟨lw_p42, List.forall_mem_cons.mpr ⟨lw_p43, List.forall_mem_cons.mpr ⟨lw_p44, List.forall_mem_cons.mpr ⟨lw_p45, List.forall_mem_cons.mpr ⟨lw_p46, List.forall_mem_cons.mpr ⟨lw_p47, fun _ h => absurd h List.not_mem_nil⟩⟩⟩⟩⟩⟩⟩⟩⟩⟩⟩⟩⟩⟩⟩⟩
theorem lw_p48 : lw_okq (⟨"BoxNestModel", "makeMost", "(III)V"⟩, 40) := ⟨⟨by decide +kernel, by decide +kernel⟩, List.mem_of_getElem? (i := 719) (by decide +kernel), List.mem_of_getElem? (i := 1012) (by decide +kernel), List.mem_of_getElem? (i := 1013) (by decide +kernel)⟩
theorem lw_p49 : lw_okq (⟨"BoxNestModel", "isPiece", "(IIIIZ)Z"⟩, 40) := ⟨⟨by decide +kernel, by decide +kernel⟩, List.mem_of_getElem? (i := 719) (by decide +kernel), List.mem_of_getElem? (i := 1016) (by decide +kernel), List.mem_of_getElem? (i := 1017) (by decide +kernel)⟩
theorem lw_p50 : lw_okq (⟨"BoxNestModel", "pattern", "(IIIIII)V"⟩, 40) := ⟨⟨by decide +kernel, by decide +kernel⟩, List.mem_of_getElem? (i := 719) (by decide +kernel), List.mem_of_getElem? (i := 1026) (by decide +kernel), List.mem_of_getElem? (i := 1027) (by decide +kernel)⟩
theorem lw_p51 : lw_okq (⟨"BoxNestModel", "fitsSo", "(IZ)Z"⟩, 40) := ⟨⟨by decide +kernel, by decide +kernel⟩, List.mem_of_getElem? (i := 719) (by decide +kernel), List.mem_of_getElem? (i := 1038) (by decide +kernel), List.mem_of_getElem? (i := 1039) (by decide +kernel)⟩
theorem lw_p52 : lw_okq (⟨"BoxNestModel", "isApart", "(II)Z"⟩, 40) := ⟨⟨by decide +kernel, by decide +kernel⟩, List.mem_of_getElem? (i := 719) (by decide +kernel), List.mem_of_getElem? (i := 1042) (by decide +kernel), List.mem_of_getElem? (i := 1043) (by decide +kernel)⟩
theorem lw_p53 : lw_okq (⟨"BoxNestModel", "bigs", "(IIII)V"⟩, 40) := ⟨⟨by decide +kernel, by decide +kernel⟩, List.mem_of_getElem? (i := 719) (by decide +kernel), List.mem_of_getElem? (i := 1046) (by decide +kernel), List.mem_of_getElem? (i := 1047) (by decide +kernel)⟩
def lw_privs_4 : List (MethodName × Nat) := [(⟨"BoxNestModel", "makeMost", "(III)V"⟩, 40), (⟨"BoxNestModel", "isPiece", "(IIIIZ)Z"⟩, 40), (⟨"BoxNestModel", "pattern", "(IIIIII)V"⟩, 40), (⟨"BoxNestModel", "fitsSo", "(IZ)Z"⟩, 40), (⟨"BoxNestModel", "isApart", "(II)Z"⟩, 40), (⟨"BoxNestModel", "bigs", "(IIII)V"⟩, 40)]
theorem lw_r4 : ∀ q ∈ lw_privs_4, lw_okq q := List.forall_mem_cons.mpr ⟨lw_p48, List.forall_mem_cons.mpr ⟨lw_p49, List.forall_mem_cons.mpr ⟨lw_p50, List.forall_mem_cons.mpr ⟨lw_p51, List.forall_mem_cons.mpr ⟨lw_p52, List.forall_mem_cons.mpr ⟨lw_p53, fun _ h => absurd h List.not_mem_nil⟩⟩⟩⟩⟩⟩
def lw_privs : List (MethodName × Nat) := lw_privs_1 ++ (lw_privs_2 ++ (lw_privs_3 ++ (lw_privs_4)))
def lw_tbl : List Cond := k2_sels lw_privs ++ tables_1
theorem lw_privs_ok : ∀ q ∈ lw_privs, lw_okq q := by
  show ∀ q ∈ lw_privs_1 ++ (lw_privs_2 ++ (lw_privs_3 ++ (lw_privs_4))), lw_okq q
  exact List.forall_mem_append.mpr ⟨lw_r1, List.forall_mem_append.mpr ⟨lw_r2, List.forall_mem_append.mpr ⟨lw_r3, lw_r4⟩⟩⟩
end
section
/-! classes, fields, methods by number; the words that speak of them, by their places in lw_tbl (written by tools/gen2.py) -/
def am_cn : Nat → String := fun k => match k with
  | 0 => "BoxNest$Balance"
  | 1 => "BoxNest$Bounds"
  | 2 => "BoxNest$Box"
  | 3 => "BoxNest$Cutter"
  | 4 => "BoxNest$Edges"
  | 5 => "BoxNest$Hold"
  | 6 => "BoxNest$Orders"
  | 7 => "BoxNest$Truck"
  | 8 => "BoxNest"
  | 9 => "BoxNestModel"
  | 10 => "BoxNestLaw"
  | 11 => "java/lang/Integer"
  | 12 => "java/lang/Math"
  | 13 => "java/util/Arrays"
  | _ => ""
def am_F0 : u_T := fun k => match k with
  | 0 => ("BoxNest$Balance", "weight", "I", false)
  | 1 => ("BoxNest$Balance", "lever", "I", false)
  | 2 => ("BoxNest$Balance", "sideLever", "I", false)
  | _ => ("BoxNest$Balance", "below", "I", false)
def am_t0 : Nat → FieldType := fun k => match k with
  | 0 => .int
  | 1 => .int
  | 2 => .int
  | _ => .int
def am_F1 : u_T := fun k => match k with
  | 0 => ("BoxNest$Bounds", "judged", "Z", false)
  | 1 => ("BoxNest$Bounds", "byVolume", "I", false)
  | 2 => ("BoxNest$Bounds", "byBig", "I", false)
  | 3 => ("BoxNest$Bounds", "bigOnes", "I", false)
  | 4 => ("BoxNest$Bounds", "leastLength", "[I", true)
  | 5 => ("BoxNest$Bounds", "leastWidth", "[I", true)
  | _ => ("BoxNest$Bounds", "apart", "[I", true)
def am_t1 : Nat → FieldType := fun k => match k with
  | 0 => .boolean
  | 1 => .int
  | 2 => .int
  | 3 => .int
  | 4 => .array .int
  | 5 => .array .int
  | _ => .array .int
def am_F2 : u_T := fun k => match k with
  | 0 => ("BoxNest$Box", "length", "I", false)
  | 1 => ("BoxNest$Box", "width", "I", false)
  | 2 => ("BoxNest$Box", "height", "I", false)
  | 3 => ("BoxNest$Box", "weight", "I", false)
  | 4 => ("BoxNest$Box", "bears", "I", false)
  | 5 => ("BoxNest$Box", "drop", "I", false)
  | 6 => ("BoxNest$Box", "turns", "Z", false)
  | 7 => ("BoxNest$Box", "worth", "I", false)
  | 8 => ("BoxNest$Box", "x", "I", false)
  | 9 => ("BoxNest$Box", "y", "I", false)
  | 10 => ("BoxNest$Box", "z", "I", false)
  | 11 => ("BoxNest$Box", "endX", "I", false)
  | 12 => ("BoxNest$Box", "endY", "I", false)
  | 13 => ("BoxNest$Box", "top", "I", false)
  | _ => ("BoxNest$Box", "turned", "Z", false)
def am_t2 : Nat → FieldType := fun k => match k with
  | 0 => .int
  | 1 => .int
  | 2 => .int
  | 3 => .int
  | 4 => .int
  | 5 => .int
  | 6 => .boolean
  | 7 => .int
  | 8 => .int
  | 9 => .int
  | 10 => .int
  | 11 => .int
  | 12 => .int
  | 13 => .int
  | _ => .boolean
def am_F3 : u_T := fun k => match k with
  | 0 => ("BoxNest$Cutter", "worths", "[I", true)
  | 1 => ("BoxNest$Cutter", "pattern", "[I", true)
  | 2 => ("BoxNest$Cutter", "known", "I", false)
  | 3 => ("BoxNest$Cutter", "latest", "I", false)
  | _ => ("BoxNest$Cutter", "pieces", "I", false)
def am_t3 : Nat → FieldType := fun k => match k with
  | 0 => .array .int
  | 1 => .array .int
  | 2 => .int
  | 3 => .int
  | _ => .int
def am_F4 : u_T := fun k => match k with
  | 0 => ("BoxNest$Edges", "place", "[I", true)
  | 1 => ("BoxNest$Edges", "straight", "[I", true)
  | 2 => ("BoxNest$Edges", "turned", "[I", true)
  | _ => ("BoxNest$Edges", "size", "I", false)
def am_t4 : Nat → FieldType := fun k => match k with
  | 0 => .array .int
  | 1 => .array .int
  | 2 => .array .int
  | _ => .int
def am_F5 : u_T := fun k => match k with
  | 0 => ("BoxNest$Hold", "truck", "LBoxNest$Truck;", true)
  | 1 => ("BoxNest$Hold", "boxes", "[LBoxNest$Box;", true)
  | 2 => ("BoxNest$Hold", "told", "I", false)
  | 3 => ("BoxNest$Hold", "in", "I", false)
  | 4 => ("BoxNest$Hold", "loads", "[I", true)
  | 5 => ("BoxNest$Hold", "areas", "[I", true)
  | 6 => ("BoxNest$Hold", "alongX", "LBoxNest$Edges;", true)
  | 7 => ("BoxNest$Hold", "alongY", "LBoxNest$Edges;", true)
  | 8 => ("BoxNest$Hold", "alongZ", "LBoxNest$Edges;", true)
  | 9 => ("BoxNest$Hold", "commonX", "I", false)
  | 10 => ("BoxNest$Hold", "commonY", "I", false)
  | _ => ("BoxNest$Hold", "commonZ", "I", false)
def am_t5 : Nat → FieldType := fun k => match k with
  | 0 => .object "BoxNest$Truck"
  | 1 => .array (.object "BoxNest$Box")
  | 2 => .int
  | 3 => .int
  | 4 => .array .int
  | 5 => .array .int
  | 6 => .object "BoxNest$Edges"
  | 7 => .object "BoxNest$Edges"
  | 8 => .object "BoxNest$Edges"
  | 9 => .int
  | 10 => .int
  | _ => .int
def am_F6 : u_T := fun k => match k with
  | 0 => ("BoxNest$Orders", "row", "[I", true)
  | 1 => ("BoxNest$Orders", "bestRow", "[I", true)
  | 2 => ("BoxNest$Orders", "bestSize", "I", false)
  | 3 => ("BoxNest$Orders", "bestPlaced", "I", false)
  | _ => ("BoxNest$Orders", "bestReach", "I", false)
def am_t6 : Nat → FieldType := fun k => match k with
  | 0 => .array .int
  | 1 => .array .int
  | 2 => .int
  | 3 => .int
  | _ => .int
def am_F7 : u_T := fun k => match k with
  | 0 => ("BoxNest$Truck", "length", "I", false)
  | 1 => ("BoxNest$Truck", "width", "I", false)
  | 2 => ("BoxNest$Truck", "height", "I", false)
  | 3 => ("BoxNest$Truck", "share", "I", false)
  | 4 => ("BoxNest$Truck", "first", "I", false)
  | 5 => ("BoxNest$Truck", "second", "I", false)
  | 6 => ("BoxNest$Truck", "frontLimit", "I", false)
  | 7 => ("BoxNest$Truck", "rearLimit", "I", false)
  | _ => ("BoxNest$Truck", "sideLimit", "I", false)
def am_t7 : Nat → FieldType := fun k => match k with
  | 0 => .int
  | 1 => .int
  | 2 => .int
  | 3 => .int
  | 4 => .int
  | 5 => .int
  | 6 => .int
  | 7 => .int
  | _ => .int
def am_F8 : u_T := fun k => match k with
  | 0 => ("BoxNest", "hold", "LBoxNest$Hold;", true)
  | 1 => ("BoxNest", "orders", "LBoxNest$Orders;", true)
  | 2 => ("BoxNest", "balance", "LBoxNest$Balance;", true)
  | 3 => ("BoxNest", "bounds", "LBoxNest$Bounds;", true)
  | _ => ("BoxNest", "cutter", "LBoxNest$Cutter;", false)
def am_t8 : Nat → FieldType := fun k => match k with
  | 0 => .object "BoxNest$Hold"
  | 1 => .object "BoxNest$Orders"
  | 2 => .object "BoxNest$Balance"
  | 3 => .object "BoxNest$Bounds"
  | _ => .object "BoxNest$Cutter"
def am_F9 : u_T := fun k => match k with
  | 0 => ("BoxNestModel", "boxes", "I", false)
  | 1 => ("BoxNestModel", "length", "[I", true)
  | 2 => ("BoxNestModel", "width", "[I", true)
  | 3 => ("BoxNestModel", "height", "[I", true)
  | 4 => ("BoxNestModel", "weight", "[I", true)
  | 5 => ("BoxNestModel", "bears", "[I", true)
  | 6 => ("BoxNestModel", "drop", "[I", true)
  | 7 => ("BoxNestModel", "turns", "[Z", true)
  | 8 => ("BoxNestModel", "value", "[I", true)
  | 9 => ("BoxNestModel", "isIn", "[Z", true)
  | 10 => ("BoxNestModel", "px", "[I", true)
  | 11 => ("BoxNestModel", "py", "[I", true)
  | 12 => ("BoxNestModel", "pz", "[I", true)
  | 13 => ("BoxNestModel", "turned", "[Z", true)
  | 14 => ("BoxNestModel", "truckLength", "I", false)
  | 15 => ("BoxNestModel", "truckWidth", "I", false)
  | 16 => ("BoxNestModel", "truckHeight", "I", false)
  | 17 => ("BoxNestModel", "shares", "I", false)
  | 18 => ("BoxNestModel", "firstAxle", "I", false)
  | 19 => ("BoxNestModel", "secondAxle", "I", false)
  | 20 => ("BoxNestModel", "frontLimit", "I", false)
  | 21 => ("BoxNestModel", "rearLimit", "I", false)
  | 22 => ("BoxNestModel", "sides", "I", false)
  | 23 => ("BoxNestModel", "load", "[I", true)
  | 24 => ("BoxNestModel", "bestOrder", "I", false)
  | 25 => ("BoxNestModel", "bestIn", "I", false)
  | 26 => ("BoxNestModel", "bestEnd", "I", false)
  | 27 => ("BoxNestModel", "most", "[I", true)
  | 28 => ("BoxNestModel", "pieces", "I", false)
  | 29 => ("BoxNestModel", "pieceBox", "[I", true)
  | 30 => ("BoxNestModel", "pieceX", "[I", true)
  | 31 => ("BoxNestModel", "pieceY", "[I", true)
  | 32 => ("BoxNestModel", "pieceZ", "[I", true)
  | 33 => ("BoxNestModel", "pieceTurned", "[Z", true)
  | 34 => ("BoxNestModel", "apart", "[I", true)
  | 35 => ("BoxNestModel", "bigMost", "I", false)
  | 36 => ("BoxNestModel", "bigSet", "I", false)
  | 37 => ("BoxNestModel", "toldVolumes", "I", false)
  | 38 => ("BoxNestModel", "toldBig", "I", false)
  | _ => ("BoxNestModel", "toldSet", "I", false)
def am_t9 : Nat → FieldType := fun k => match k with
  | 0 => .int
  | 1 => .array .int
  | 2 => .array .int
  | 3 => .array .int
  | 4 => .array .int
  | 5 => .array .int
  | 6 => .array .int
  | 7 => .array .boolean
  | 8 => .array .int
  | 9 => .array .boolean
  | 10 => .array .int
  | 11 => .array .int
  | 12 => .array .int
  | 13 => .array .boolean
  | 14 => .int
  | 15 => .int
  | 16 => .int
  | 17 => .int
  | 18 => .int
  | 19 => .int
  | 20 => .int
  | 21 => .int
  | 22 => .int
  | 23 => .array .int
  | 24 => .int
  | 25 => .int
  | 26 => .int
  | 27 => .array .int
  | 28 => .int
  | 29 => .array .int
  | 30 => .array .int
  | 31 => .array .int
  | 32 => .array .int
  | 33 => .array .boolean
  | 34 => .array .int
  | 35 => .int
  | 36 => .int
  | 37 => .int
  | 38 => .int
  | _ => .int
def am_cls : List vw_C := [("BoxNest$Balance", am_F0, 4), ("BoxNest$Bounds", am_F1, 7), ("BoxNest$Box", am_F2, 15), ("BoxNest$Cutter", am_F3, 5), ("BoxNest$Edges", am_F4, 4), ("BoxNest$Hold", am_F5, 12), ("BoxNest$Orders", am_F6, 5), ("BoxNest$Truck", am_F7, 9), ("BoxNest", am_F8, 5), ("BoxNestModel", am_F9, 40)]
def am_F : Nat → u_T := fun ci => match ci with
  | 0 => am_F0
  | 1 => am_F1
  | 2 => am_F2
  | 3 => am_F3
  | 4 => am_F4
  | 5 => am_F5
  | 6 => am_F6
  | 7 => am_F7
  | 8 => am_F8
  | _ => am_F9
def am_fty : Nat → Nat → FieldType := fun ci => match ci with
  | 0 => am_t0
  | 1 => am_t1
  | 2 => am_t2
  | 3 => am_t3
  | 4 => am_t4
  | 5 => am_t5
  | 6 => am_t6
  | 7 => am_t7
  | 8 => am_t8
  | _ => am_t9
def am_N : Nat → Nat := fun ci => match ci with
  | 0 => 4
  | 1 => 7
  | 2 => 15
  | 3 => 5
  | 4 => 4
  | 5 => 12
  | 6 => 5
  | 7 => 9
  | 8 => 5
  | _ => 40
theorem am_u0 : u_ws "BoxNest$Balance" am_F0 4 = ([335, 337, 339, 341] : List Nat).filterMap (fun i => lw_tbl[i]?) := by decide +kernel
theorem am_ty0 : ∀ k, k < 4 → parseFieldDescriptor (am_F0 k).2.2.1 = some (am_t0 k) := by decide +kernel
theorem am_nm0 : ∀ a, a < 4 → ∀ b, b < 4 → a ≠ b → (am_F0 a).2.1 ≠ (am_F0 b).2.1 := by decide +kernel
theorem am_in0 : lw_tbl[325]? = some (Cond.instantiable "BoxNest$Balance" 4) ∧ lw_tbl[61]? = some (Cond.initialized "BoxNest$Balance") := by decide +kernel
theorem am_u1 : u_ws "BoxNest$Bounds" am_F1 7 = ([361, 363, 365, 367, 369, 371, 373] : List Nat).filterMap (fun i => lw_tbl[i]?) := by decide +kernel
theorem am_ty1 : ∀ k, k < 7 → parseFieldDescriptor (am_F1 k).2.2.1 = some (am_t1 k) := by decide +kernel
theorem am_nm1 : ∀ a, a < 7 → ∀ b, b < 7 → a ≠ b → (am_F1 a).2.1 ≠ (am_F1 b).2.1 := by decide +kernel
theorem am_in1 : lw_tbl[345]? = some (Cond.instantiable "BoxNest$Bounds" 7) ∧ lw_tbl[62]? = some (Cond.initialized "BoxNest$Bounds") := by decide +kernel
theorem am_u2 : u_ws "BoxNest$Box" am_F2 15 = ([219, 221, 223, 225, 227, 229, 231, 233, 235, 237, 239, 241, 243, 245, 247] : List Nat).filterMap (fun i => lw_tbl[i]?) := by decide +kernel
theorem am_ty2 : ∀ k, k < 15 → parseFieldDescriptor (am_F2 k).2.2.1 = some (am_t2 k) := by decide +kernel
theorem am_nm2 : ∀ a, a < 15 → ∀ b, b < 15 → a ≠ b → (am_F2 a).2.1 ≠ (am_F2 b).2.1 := by decide +kernel
theorem am_in2 : lw_tbl[165]? = some (Cond.instantiable "BoxNest$Box" 15) ∧ lw_tbl[59]? = some (Cond.initialized "BoxNest$Box") := by decide +kernel
theorem am_u3 : u_ws "BoxNest$Cutter" am_F3 5 = ([657, 659, 661, 663, 665] : List Nat).filterMap (fun i => lw_tbl[i]?) := by decide +kernel
theorem am_ty3 : ∀ k, k < 5 → parseFieldDescriptor (am_F3 k).2.2.1 = some (am_t3 k) := by decide +kernel
theorem am_nm3 : ∀ a, a < 5 → ∀ b, b < 5 → a ≠ b → (am_F3 a).2.1 ≠ (am_F3 b).2.1 := by decide +kernel
theorem am_in3 : lw_tbl[647]? = some (Cond.instantiable "BoxNest$Cutter" 5) ∧ lw_tbl[67]? = some (Cond.initialized "BoxNest$Cutter") := by decide +kernel
theorem am_u4 : u_ws "BoxNest$Edges" am_F4 4 = ([155, 157, 159, 161] : List Nat).filterMap (fun i => lw_tbl[i]?) := by decide +kernel
theorem am_ty4 : ∀ k, k < 4 → parseFieldDescriptor (am_F4 k).2.2.1 = some (am_t4 k) := by decide +kernel
theorem am_nm4 : ∀ a, a < 4 → ∀ b, b < 4 → a ≠ b → (am_F4 a).2.1 ≠ (am_F4 b).2.1 := by decide +kernel
theorem am_in4 : lw_tbl[142]? = some (Cond.instantiable "BoxNest$Edges" 4) ∧ lw_tbl[58]? = some (Cond.initialized "BoxNest$Edges") := by decide +kernel
theorem am_u5 : u_ws "BoxNest$Hold" am_F5 12 = ([274, 276, 278, 280, 282, 284, 286, 288, 290, 292, 294, 296] : List Nat).filterMap (fun i => lw_tbl[i]?) := by decide +kernel
theorem am_ty5 : ∀ k, k < 12 → parseFieldDescriptor (am_F5 k).2.2.1 = some (am_t5 k) := by decide +kernel
theorem am_nm5 : ∀ a, a < 12 → ∀ b, b < 12 → a ≠ b → (am_F5 a).2.1 ≠ (am_F5 b).2.1 := by decide +kernel
theorem am_in5 : lw_tbl[77]? = some (Cond.instantiable "BoxNest$Hold" 12) ∧ lw_tbl[56]? = some (Cond.initialized "BoxNest$Hold") := by decide +kernel
theorem am_u6 : u_ws "BoxNest$Orders" am_F6 5 = ([313, 315, 317, 319, 321] : List Nat).filterMap (fun i => lw_tbl[i]?) := by decide +kernel
theorem am_ty6 : ∀ k, k < 5 → parseFieldDescriptor (am_F6 k).2.2.1 = some (am_t6 k) := by decide +kernel
theorem am_nm6 : ∀ a, a < 5 → ∀ b, b < 5 → a ≠ b → (am_F6 a).2.1 ≠ (am_F6 b).2.1 := by decide +kernel
theorem am_in6 : lw_tbl[300]? = some (Cond.instantiable "BoxNest$Orders" 5) ∧ lw_tbl[60]? = some (Cond.initialized "BoxNest$Orders") := by decide +kernel
theorem am_u7 : u_ws "BoxNest$Truck" am_F7 9 = ([120, 122, 124, 126, 128, 130, 132, 134, 136] : List Nat).filterMap (fun i => lw_tbl[i]?) := by decide +kernel
theorem am_ty7 : ∀ k, k < 9 → parseFieldDescriptor (am_F7 k).2.2.1 = some (am_t7 k) := by decide +kernel
theorem am_nm7 : ∀ a, a < 9 → ∀ b, b < 9 → a ≠ b → (am_F7 a).2.1 ≠ (am_F7 b).2.1 := by decide +kernel
theorem am_in7 : lw_tbl[83]? = some (Cond.instantiable "BoxNest$Truck" 9) ∧ lw_tbl[57]? = some (Cond.initialized "BoxNest$Truck") := by decide +kernel
theorem am_u8 : u_ws "BoxNest" am_F8 5 = ([381, 383, 385, 387, 389] : List Nat).filterMap (fun i => lw_tbl[i]?) := by decide +kernel
theorem am_ty8 : ∀ k, k < 5 → parseFieldDescriptor (am_F8 k).2.2.1 = some (am_t8 k) := by decide +kernel
theorem am_nm8 : ∀ a, a < 5 → ∀ b, b < 5 → a ≠ b → (am_F8 a).2.1 ≠ (am_F8 b).2.1 := by decide +kernel
theorem am_in8 : lw_tbl[69]? = some (Cond.instantiable "BoxNest" 5) ∧ lw_tbl[55]? = some (Cond.initialized "BoxNest") := by decide +kernel
theorem am_u9 : u_ws "BoxNestModel" am_F9 40 = ([819, 821, 823, 825, 827, 829, 831, 833, 835, 837, 839, 841, 843, 845, 847, 849, 851, 853, 855, 857, 859, 861, 863, 865, 867, 869, 871, 873, 875, 877, 879, 881, 883, 885, 887, 889, 891, 893, 895, 897] : List Nat).filterMap (fun i => lw_tbl[i]?) := by decide +kernel
theorem am_ty9 : ∀ k, k < 40 → parseFieldDescriptor (am_F9 k).2.2.1 = some (am_t9 k) := by decide +kernel
theorem am_nm9 : ∀ a, a < 40 → ∀ b, b < 40 → a ≠ b → (am_F9 a).2.1 ≠ (am_F9 b).2.1 := by decide +kernel
theorem am_in9 : lw_tbl[773]? = some (Cond.instantiable "BoxNestModel" 40) ∧ lw_tbl[63]? = some (Cond.initialized "BoxNestModel") := by decide +kernel
theorem am_mem {ws : List Cond} {ps : List Nat} (h : ws = ps.filterMap (fun i => lw_tbl[i]?)) : ∀ w ∈ ws, w ∈ lw_tbl := by
  intro w hw
  rw [h] at hw
  obtain ⟨i, -, hi⟩ := List.mem_filterMap.mp hw
  exact List.mem_of_getElem? hi
/-- what is known of a class of the table -/
def am_okC (ci : Nat) (q : vw_C) : Prop := q = (am_cn ci, am_F ci, am_N ci) ∧ (∀ w ∈ u_ws q.1 q.2.1 q.2.2, w ∈ lw_tbl) ∧ (∀ k, k < q.2.2 → parseFieldDescriptor (q.2.1 k).2.2.1 = some (am_fty ci k)) ∧ (∀ a, a < q.2.2 → ∀ b, b < q.2.2 → a ≠ b → (q.2.1 a).2.1 ≠ (q.2.1 b).2.1) ∧ Cond.instantiable q.1 q.2.2 ∈ lw_tbl ∧ Cond.initialized q.1 ∈ lw_tbl
theorem am_clsOk : ∀ (ci : Nat) (q : vw_C), am_cls[ci]? = some q → am_okC ci q
  | 0, q, h => by cases h; exact ⟨rfl, am_mem am_u0, am_ty0, am_nm0, List.mem_of_getElem? am_in0.1, List.mem_of_getElem? am_in0.2⟩
  | 1, q, h => by cases h; exact ⟨rfl, am_mem am_u1, am_ty1, am_nm1, List.mem_of_getElem? am_in1.1, List.mem_of_getElem? am_in1.2⟩
  | 2, q, h => by cases h; exact ⟨rfl, am_mem am_u2, am_ty2, am_nm2, List.mem_of_getElem? am_in2.1, List.mem_of_getElem? am_in2.2⟩
  | 3, q, h => by cases h; exact ⟨rfl, am_mem am_u3, am_ty3, am_nm3, List.mem_of_getElem? am_in3.1, List.mem_of_getElem? am_in3.2⟩
  | 4, q, h => by cases h; exact ⟨rfl, am_mem am_u4, am_ty4, am_nm4, List.mem_of_getElem? am_in4.1, List.mem_of_getElem? am_in4.2⟩
  | 5, q, h => by cases h; exact ⟨rfl, am_mem am_u5, am_ty5, am_nm5, List.mem_of_getElem? am_in5.1, List.mem_of_getElem? am_in5.2⟩
  | 6, q, h => by cases h; exact ⟨rfl, am_mem am_u6, am_ty6, am_nm6, List.mem_of_getElem? am_in6.1, List.mem_of_getElem? am_in6.2⟩
  | 7, q, h => by cases h; exact ⟨rfl, am_mem am_u7, am_ty7, am_nm7, List.mem_of_getElem? am_in7.1, List.mem_of_getElem? am_in7.2⟩
  | 8, q, h => by cases h; exact ⟨rfl, am_mem am_u8, am_ty8, am_nm8, List.mem_of_getElem? am_in8.1, List.mem_of_getElem? am_in8.2⟩
  | 9, q, h => by cases h; exact ⟨rfl, am_mem am_u9, am_ty9, am_nm9, List.mem_of_getElem? am_in9.1, List.mem_of_getElem? am_in9.2⟩
  | n + 10, q, h => by cases h
/-- a method: class number, name, code, locals, what it answers, arguments (with the object), static, constructor -/
abbrev am_M : Type := Nat × MethodName × ByteArray × Nat × Option FieldType × Nat × Bool × Bool
abbrev M_B_new : Nat := 0
abbrev M_Hold_new : Nat := 1
abbrev M_Truck_new : Nat := 2
abbrev M_Edges_new : Nat := 3
abbrev M_Box_new : Nat := 4
abbrev M_Orders_new : Nat := 5
abbrev M_Balance_new : Nat := 6
abbrev M_Bounds_new : Nat := 7
abbrev M_B_box : Nat := 8
abbrev M_B_within : Nat := 9
abbrev M_Cutter_forget : Nat := 10
abbrev M_B_truck : Nat := 11
abbrev M_B_share : Nat := 12
abbrev M_B_axles : Nat := 13
abbrev M_B_side : Nat := 14
abbrev M_B_wrong : Nat := 15
abbrev M_B_refusal : Nat := 16
abbrev M_Hold_knows : Nat := 17
abbrev M_Hold_has : Nat := 18
abbrev M_Hold_stand : Nat := 19
abbrev M_Box_moveTo : Nat := 20
abbrev M_Hold_commonInX : Nat := 21
abbrev M_Hold_commonInY : Nat := 22
abbrev M_Hold_commonInZ : Nat := 23
abbrev M_Hold_faults : Nat := 24
abbrev M_Hold_isInside : Nat := 25
abbrev M_Hold_isHeld : Nat := 26
abbrev M_Box_areaOn : Nat := 27
abbrev M_Hold_bearAll : Nat := 28
abbrev M_Arrays_fill : Nat := 29
abbrev M_Hold_giveLoad : Nat := 30
abbrev M_Hold_isInWay : Nat := 31
abbrev M_B_place : Nat := 32
abbrev M_Hold_putIn : Nat := 33
abbrev M_B_set : Nat := 34
abbrev M_Hold_setAtCorner : Nat := 35
abbrev M_Hold_listCorners : Nat := 36
abbrev M_Edges_list : Nat := 37
abbrev M_Hold_listCommon : Nat := 38
abbrev M_Hold_wall : Nat := 39
abbrev M_Hold_isFree : Nat := 40
abbrev M_B_take : Nat := 41
abbrev M_Hold_carries : Nat := 42
abbrev M_Hold_putOut : Nat := 43
abbrev M_B_clear : Nat := 44
abbrev M_Integer_bitCount : Nat := 45
abbrev M_B_best : Nat := 46
abbrev M_B_isSet : Nat := 47
abbrev M_Orders_begin : Nat := 48
abbrev M_B_tryOrders : Nat := 49
abbrev M_Hold_reach : Nat := 50
abbrev M_Orders_cannotWin : Nat := 51
abbrev M_Orders_keep : Nat := 52
abbrev M_B_setBest : Nat := 53
abbrev M_B_about : Nat := 54
abbrev M_Hold_loadOf : Nat := 55
abbrev M_Hold_supportsOf : Nat := 56
abbrev M_B_at : Nat := 57
abbrev M_Box_fills : Nat := 58
abbrev M_B_axle : Nat := 59
abbrev M_Balance_sum : Nat := 60
abbrev M_Balance_front : Nat := 61
abbrev M_Balance_rear : Nat := 62
abbrev M_Math_abs : Nat := 63
abbrev M_B_commonDivisor : Nat := 64
abbrev M_B_over : Nat := 65
abbrev M_B_overAt : Nat := 66
abbrev M_Balance_overBits : Nat := 67
abbrev M_B_fit : Nat := 68
abbrev M_B_cut : Nat := 69
abbrev M_Cutter_new : Nat := 70
abbrev M_Cutter_mostWorth : Nat := 71
abbrev M_Cutter_blockOf : Nat := 72
abbrev M_Cutter_greaterOf : Nat := 73
abbrev M_Math_max : Nat := 74
abbrev M_Cutter_fillWorths : Nat := 75
abbrev M_Cutter_offer : Nat := 76
abbrev M_Cutter_worthCut : Nat := 77
abbrev M_Cutter_aheadOf : Nat := 78
abbrev M_B_piece : Nat := 79
abbrev M_Cutter_tell : Nat := 80
abbrev M_Cutter_layOut : Nat := 81
abbrev M_Cutter_layPiece : Nat := 82
abbrev M_Cutter_firstCut : Nat := 83
abbrev M_B_trucks : Nat := 84
abbrev M_Hold_fitsEmpty : Nat := 85
abbrev M_Bounds_judge : Nat := 86
abbrev M_Box_volume : Nat := 87
abbrev M_Bounds_measure : Nat := 88
abbrev M_Math_min : Nat := 89
abbrev M_Bounds_findApart : Nat := 90
abbrev M_Bounds_areApart : Nat := 91
abbrev M_Bounds_findBig : Nat := 92
abbrev M_B_shown : Nat := 93
abbrev M_B_count : Nat := 94
abbrev M_Hold_weightIn : Nat := 95
abbrev M_Hold_cellsFilled : Nat := 96
abbrev M_R_new : Nat := 97
abbrev M_R_box : Nat := 98
abbrev M_R_in : Nat := 99
abbrev M_R_truck : Nat := 100
abbrev M_R_placed : Nat := 101
abbrev M_R_share : Nat := 102
abbrev M_R_axles : Nat := 103
abbrev M_R_side : Nat := 104
abbrev M_R_wrong : Nat := 105
abbrev M_R_asked : Nat := 106
abbrev M_R_isBox : Nat := 107
abbrev M_R_wrongAt : Nat := 108
abbrev M_R_longOf : Nat := 109
abbrev M_R_wideOf : Nat := 110
abbrev M_R_area : Nat := 111
abbrev M_R_common : Nat := 112
abbrev M_R_stands : Nat := 113
abbrev M_R_topOf : Nat := 114
abbrev M_R_isInWay : Nat := 115
abbrev M_R_makeLoads : Nat := 116
abbrev M_R_place : Nat := 117
abbrev M_R_set : Nat := 118
abbrev M_R_sets : Nat := 119
abbrev M_R_nextEnd : Nat := 120
abbrev M_R_take : Nat := 121
abbrev M_R_clear : Nat := 122
abbrev M_R_best : Nat := 123
abbrev M_R_isSet : Nat := 124
abbrev M_R_orders : Nat := 125
abbrev M_R_lists : Nat := 126
abbrev M_R_farthest : Nat := 127
abbrev M_R_unset : Nat := 128
abbrev M_R_about : Nat := 129
abbrev M_R_at : Nat := 130
abbrev M_R_axle : Nat := 131
abbrev M_R_axleOf : Nat := 132
abbrev M_R_isLeft : Nat := 133
abbrev M_R_weights : Nat := 134
abbrev M_R_over : Nat := 135
abbrev M_R_overAt : Nat := 136
abbrev M_R_fit : Nat := 137
abbrev M_R_cut : Nat := 138
abbrev M_R_makeMost : Nat := 139
abbrev M_R_isPiece : Nat := 140
abbrev M_R_block : Nat := 141
abbrev M_R_greater : Nat := 142
abbrev M_R_pattern : Nat := 143
abbrev M_R_piece : Nat := 144
abbrev M_R_trucks : Nat := 145
abbrev M_R_fitsSo : Nat := 146
abbrev M_R_isApart : Nat := 147
abbrev M_R_bigs : Nat := 148
abbrev M_R_shown : Nat := 149
abbrev M_R_count : Nat := 150
abbrev M_L_law : Nat := 151
def am_m0 : am_M := (8, ⟨"BoxNest", "<init>", "()V"⟩, prog_1_method_1_code, 1, none, 1, false, true)
def am_m1 : am_M := (5, ⟨"BoxNest$Hold", "<init>", "()V"⟩, prog_7_method_1_code, 2, none, 1, false, true)
def am_m2 : am_M := (7, ⟨"BoxNest$Truck", "<init>", "()V"⟩, prog_9_method_1_code, 1, none, 1, false, true)
def am_m3 : am_M := (4, ⟨"BoxNest$Edges", "<init>", "()V"⟩, prog_6_method_1_code, 1, none, 1, false, true)
def am_m4 : am_M := (2, ⟨"BoxNest$Box", "<init>", "()V"⟩, prog_4_method_1_code, 1, none, 1, false, true)
def am_m5 : am_M := (6, ⟨"BoxNest$Orders", "<init>", "()V"⟩, prog_8_method_1_code, 1, none, 1, false, true)
def am_m6 : am_M := (0, ⟨"BoxNest$Balance", "<init>", "()V"⟩, prog_2_method_1_code, 1, none, 1, false, true)
def am_m7 : am_M := (1, ⟨"BoxNest$Bounds", "<init>", "()V"⟩, prog_3_method_1_code, 1, none, 1, false, true)
def am_m8 : am_M := (8, ⟨"BoxNest", "box", "(IIIIIIZI)I"⟩, prog_1_method_2_code, 10, (some .int), 9, false, false)
def am_m9 : am_M := (8, ⟨"BoxNest", "within", "(III)Z"⟩, prog_1_method_23_code, 3, (some .boolean), 3, true, false)
def am_m10 : am_M := (3, ⟨"BoxNest$Cutter", "forget", "()V"⟩, prog_5_method_2_code, 1, none, 1, false, false)
def am_m11 : am_M := (8, ⟨"BoxNest", "truck", "(III)I"⟩, prog_1_method_3_code, 4, (some .int), 4, false, false)
def am_m12 : am_M := (8, ⟨"BoxNest", "share", "(I)I"⟩, prog_1_method_4_code, 3, (some .int), 2, false, false)
def am_m13 : am_M := (8, ⟨"BoxNest", "axles", "(IIII)I"⟩, prog_1_method_5_code, 5, (some .int), 5, false, false)
def am_m14 : am_M := (8, ⟨"BoxNest", "side", "(I)I"⟩, prog_1_method_6_code, 3, (some .int), 2, false, false)
def am_m15 : am_M := (8, ⟨"BoxNest", "wrong", "(IIIIZ)I"⟩, prog_1_method_7_code, 7, (some .int), 6, false, false)
def am_m16 : am_M := (8, ⟨"BoxNest", "refusal", "(IIIIZ)I"⟩, prog_1_method_25_code, 6, (some .int), 6, false, false)
def am_m17 : am_M := (5, ⟨"BoxNest$Hold", "knows", "(I)Z"⟩, prog_7_method_2_code, 2, (some .boolean), 2, false, false)
def am_m18 : am_M := (5, ⟨"BoxNest$Hold", "has", "(I)Z"⟩, prog_7_method_3_code, 2, (some .boolean), 2, false, false)
def am_m19 : am_M := (5, ⟨"BoxNest$Hold", "stand", "(IIIIZ)V"⟩, prog_7_method_13_code, 7, none, 6, false, false)
def am_m20 : am_M := (2, ⟨"BoxNest$Box", "moveTo", "(IIIZ)V"⟩, prog_4_method_2_code, 5, none, 5, false, false)
def am_m21 : am_M := (5, ⟨"BoxNest$Hold", "commonInX", "(II)I"⟩, prog_7_method_15_code, 5, (some .int), 3, false, false)
def am_m22 : am_M := (5, ⟨"BoxNest$Hold", "commonInY", "(II)I"⟩, prog_7_method_16_code, 5, (some .int), 3, false, false)
def am_m23 : am_M := (5, ⟨"BoxNest$Hold", "commonInZ", "(II)I"⟩, prog_7_method_17_code, 5, (some .int), 3, false, false)
def am_m24 : am_M := (5, ⟨"BoxNest$Hold", "faults", "(I)I"⟩, prog_7_method_14_code, 4, (some .int), 2, false, false)
def am_m25 : am_M := (5, ⟨"BoxNest$Hold", "isInside", "(LBoxNest$Box;)Z"⟩, prog_7_method_18_code, 2, (some .boolean), 2, false, false)
def am_m26 : am_M := (5, ⟨"BoxNest$Hold", "isHeld", "(LBoxNest$Box;)Z"⟩, prog_7_method_19_code, 5, (some .boolean), 2, false, false)
def am_m27 : am_M := (2, ⟨"BoxNest$Box", "areaOn", "(LBoxNest$Box;)I"⟩, prog_4_method_4_code, 4, (some .int), 2, false, false)
def am_m28 : am_M := (5, ⟨"BoxNest$Hold", "bearAll", "(I)Z"⟩, prog_7_method_21_code, 5, (some .boolean), 2, false, false)
def am_m29 : am_M := (13, ⟨"java/util/Arrays", "fill", "([II)V"⟩, prog_14_method_103_code, 4, none, 2, true, false)
def am_m30 : am_M := (5, ⟨"BoxNest$Hold", "giveLoad", "(II)V"⟩, prog_7_method_22_code, 9, none, 3, false, false)
def am_m31 : am_M := (5, ⟨"BoxNest$Hold", "isInWay", "(LBoxNest$Box;)Z"⟩, prog_7_method_20_code, 8, (some .boolean), 2, false, false)
def am_m32 : am_M := (8, ⟨"BoxNest", "place", "(IIIIZ)I"⟩, prog_1_method_8_code, 7, (some .int), 6, false, false)
def am_m33 : am_M := (5, ⟨"BoxNest$Hold", "putIn", "(I)V"⟩, prog_7_method_4_code, 2, none, 2, false, false)
def am_m34 : am_M := (8, ⟨"BoxNest", "set", "(I)I"⟩, prog_1_method_9_code, 2, (some .int), 2, false, false)
def am_m35 : am_M := (5, ⟨"BoxNest$Hold", "setAtCorner", "(I)Z"⟩, prog_7_method_23_code, 8, (some .boolean), 2, false, false)
def am_m36 : am_M := (5, ⟨"BoxNest$Hold", "listCorners", "(LBoxNest$Box;)V"⟩, prog_7_method_24_code, 9, none, 2, false, false)
def am_m37 : am_M := (4, ⟨"BoxNest$Edges", "list", "(J)V"⟩, prog_6_method_2_code, 4, none, 2, false, false)
def am_m38 : am_M := (5, ⟨"BoxNest$Hold", "listCommon", "(LBoxNest$Box;)V"⟩, prog_7_method_25_code, 4, none, 2, false, false)
def am_m39 : am_M := (5, ⟨"BoxNest$Hold", "wall", "(II)I"⟩, prog_7_method_26_code, 2, (some .int), 2, true, false)
def am_m40 : am_M := (5, ⟨"BoxNest$Hold", "isFree", "(IIIIZ)Z"⟩, prog_7_method_27_code, 7, (some .boolean), 6, false, false)
def am_m41 : am_M := (8, ⟨"BoxNest", "take", "(I)I"⟩, prog_1_method_10_code, 2, (some .int), 2, false, false)
def am_m42 : am_M := (5, ⟨"BoxNest$Hold", "carries", "(I)Z"⟩, prog_7_method_9_code, 3, (some .boolean), 2, false, false)
def am_m43 : am_M := (5, ⟨"BoxNest$Hold", "putOut", "(I)V"⟩, prog_7_method_5_code, 2, none, 2, false, false)
def am_m44 : am_M := (8, ⟨"BoxNest", "clear", "()I"⟩, prog_1_method_11_code, 2, (some .int), 1, false, false)
def am_m45 : am_M := (11, ⟨"java/lang/Integer", "bitCount", "(I)I"⟩, prog_12_method_49_code, 1, (some .int), 1, true, false)
def am_m46 : am_M := (8, ⟨"BoxNest", "best", "(I)I"⟩, prog_1_method_12_code, 2, (some .int), 2, false, false)
def am_m47 : am_M := (8, ⟨"BoxNest", "isSet", "(I)Z"⟩, prog_1_method_24_code, 2, (some .boolean), 2, false, false)
def am_m48 : am_M := (6, ⟨"BoxNest$Orders", "begin", "()V"⟩, prog_8_method_2_code, 1, none, 1, false, false)
def am_m49 : am_M := (8, ⟨"BoxNest", "tryOrders", "(III)V"⟩, prog_1_method_26_code, 7, none, 4, false, false)
def am_m50 : am_M := (5, ⟨"BoxNest$Hold", "reach", "()I"⟩, prog_7_method_7_code, 3, (some .int), 1, false, false)
def am_m51 : am_M := (6, ⟨"BoxNest$Orders", "cannotWin", "(II)Z"⟩, prog_8_method_3_code, 3, (some .boolean), 3, false, false)
def am_m52 : am_M := (6, ⟨"BoxNest$Orders", "keep", "(III)V"⟩, prog_8_method_4_code, 5, none, 4, false, false)
def am_m53 : am_M := (8, ⟨"BoxNest", "setBest", "()I"⟩, prog_1_method_27_code, 3, (some .int), 1, false, false)
def am_m54 : am_M := (8, ⟨"BoxNest", "about", "(II)I"⟩, prog_1_method_13_code, 5, (some .int), 3, false, false)
def am_m55 : am_M := (5, ⟨"BoxNest$Hold", "loadOf", "(I)I"⟩, prog_7_method_11_code, 2, (some .int), 2, false, false)
def am_m56 : am_M := (5, ⟨"BoxNest$Hold", "supportsOf", "(I)I"⟩, prog_7_method_10_code, 4, (some .int), 2, false, false)
def am_m57 : am_M := (8, ⟨"BoxNest", "at", "(III)I"⟩, prog_1_method_14_code, 5, (some .int), 4, false, false)
def am_m58 : am_M := (2, ⟨"BoxNest$Box", "fills", "(III)Z"⟩, prog_4_method_3_code, 4, (some .boolean), 4, false, false)
def am_m59 : am_M := (8, ⟨"BoxNest", "axle", "(III)I"⟩, prog_1_method_15_code, 6, (some .int), 4, false, false)
def am_m60 : am_M := (0, ⟨"BoxNest$Balance", "sum", "(LBoxNest$Hold;I)V"⟩, prog_2_method_2_code, 6, none, 3, false, false)
def am_m61 : am_M := (0, ⟨"BoxNest$Balance", "front", "()I"⟩, prog_2_method_3_code, 1, (some .int), 1, false, false)
def am_m62 : am_M := (0, ⟨"BoxNest$Balance", "rear", "()I"⟩, prog_2_method_4_code, 1, (some .int), 1, false, false)
def am_m63 : am_M := (12, ⟨"java/lang/Math", "abs", "(I)I"⟩, prog_13_method_59_code, 1, (some .int), 1, true, false)
def am_m64 : am_M := (8, ⟨"BoxNest", "commonDivisor", "(II)I"⟩, prog_1_method_29_code, 6, (some .int), 2, true, false)
def am_m65 : am_M := (8, ⟨"BoxNest", "over", "(I)I"⟩, prog_1_method_16_code, 2, (some .int), 2, false, false)
def am_m66 : am_M := (8, ⟨"BoxNest", "overAt", "(I)I"⟩, prog_1_method_28_code, 2, (some .int), 2, false, false)
def am_m67 : am_M := (0, ⟨"BoxNest$Balance", "overBits", "(LBoxNest$Truck;)I"⟩, prog_2_method_5_code, 4, (some .int), 2, false, false)
def am_m68 : am_M := (8, ⟨"BoxNest", "fit", "()I"⟩, prog_1_method_17_code, 2, (some .int), 1, false, false)
def am_m69 : am_M := (8, ⟨"BoxNest", "cut", "(III)I"⟩, prog_1_method_18_code, 4, (some .int), 4, false, false)
def am_m70 : am_M := (3, ⟨"BoxNest$Cutter", "<init>", "()V"⟩, prog_5_method_1_code, 1, none, 1, false, true)
def am_m71 : am_M := (3, ⟨"BoxNest$Cutter", "mostWorth", "(LBoxNest$Hold;III)I"⟩, prog_5_method_3_code, 6, (some .int), 5, false, false)
def am_m72 : am_M := (3, ⟨"BoxNest$Cutter", "blockOf", "(III)I"⟩, prog_5_method_5_code, 3, (some .int), 3, true, false)
def am_m73 : am_M := (3, ⟨"BoxNest$Cutter", "greaterOf", "(II)I"⟩, prog_5_method_6_code, 5, (some .int), 2, true, false)
def am_m74 : am_M := (12, ⟨"java/lang/Math", "max", "(II)I"⟩, prog_13_method_65_code, 2, (some .int), 2, true, false)
def am_m75 : am_M := (3, ⟨"BoxNest$Cutter", "fillWorths", "(LBoxNest$Hold;I)V"⟩, prog_5_method_7_code, 7, none, 3, false, false)
def am_m76 : am_M := (3, ⟨"BoxNest$Cutter", "offer", "(II)V"⟩, prog_5_method_8_code, 3, none, 3, false, false)
def am_m77 : am_M := (3, ⟨"BoxNest$Cutter", "worthCut", "(I)I"⟩, prog_5_method_9_code, 7, (some .int), 2, false, false)
def am_m78 : am_M := (3, ⟨"BoxNest$Cutter", "aheadOf", "(III)I"⟩, prog_5_method_10_code, 3, (some .int), 3, true, false)
def am_m79 : am_M := (8, ⟨"BoxNest", "piece", "(II)I"⟩, prog_1_method_19_code, 3, (some .int), 3, false, false)
def am_m80 : am_M := (3, ⟨"BoxNest$Cutter", "tell", "(LBoxNest$Hold;II)I"⟩, prog_5_method_4_code, 5, (some .int), 4, false, false)
def am_m81 : am_M := (3, ⟨"BoxNest$Cutter", "layOut", "(LBoxNest$Hold;III)V"⟩, prog_5_method_11_code, 11, none, 5, false, false)
def am_m82 : am_M := (3, ⟨"BoxNest$Cutter", "layPiece", "(LBoxNest$Hold;II)Z"⟩, prog_5_method_12_code, 7, (some .boolean), 4, false, false)
def am_m83 : am_M := (3, ⟨"BoxNest$Cutter", "firstCut", "(I)I"⟩, prog_5_method_13_code, 5, (some .int), 2, false, false)
def am_m84 : am_M := (8, ⟨"BoxNest", "trucks", "(I)I"⟩, prog_1_method_20_code, 3, (some .int), 2, false, false)
def am_m85 : am_M := (5, ⟨"BoxNest$Hold", "fitsEmpty", "(IZ)Z"⟩, prog_7_method_12_code, 6, (some .boolean), 3, false, false)
def am_m86 : am_M := (1, ⟨"BoxNest$Bounds", "judge", "(LBoxNest$Hold;I)V"⟩, prog_3_method_2_code, 6, none, 3, false, false)
def am_m87 : am_M := (2, ⟨"BoxNest$Box", "volume", "()I"⟩, prog_4_method_5_code, 1, (some .int), 1, false, false)
def am_m88 : am_M := (1, ⟨"BoxNest$Bounds", "measure", "(LBoxNest$Hold;I)V"⟩, prog_3_method_3_code, 6, none, 3, false, false)
def am_m89 : am_M := (12, ⟨"java/lang/Math", "min", "(II)I"⟩, prog_13_method_69_code, 2, (some .int), 2, true, false)
def am_m90 : am_M := (1, ⟨"BoxNest$Bounds", "findApart", "(LBoxNest$Hold;I)V"⟩, prog_3_method_4_code, 5, none, 3, false, false)
def am_m91 : am_M := (1, ⟨"BoxNest$Bounds", "areApart", "(LBoxNest$Hold;II)Z"⟩, prog_3_method_5_code, 5, (some .boolean), 4, false, false)
def am_m92 : am_M := (1, ⟨"BoxNest$Bounds", "findBig", "(III)V"⟩, prog_3_method_6_code, 6, none, 4, false, false)
def am_m93 : am_M := (8, ⟨"BoxNest", "shown", "(I)I"⟩, prog_1_method_21_code, 2, (some .int), 2, false, false)
def am_m94 : am_M := (8, ⟨"BoxNest", "count", "(I)I"⟩, prog_1_method_22_code, 3, (some .int), 2, false, false)
def am_m95 : am_M := (5, ⟨"BoxNest$Hold", "weightIn", "()I"⟩, prog_7_method_6_code, 3, (some .int), 1, false, false)
def am_m96 : am_M := (5, ⟨"BoxNest$Hold", "cellsFilled", "()I"⟩, prog_7_method_8_code, 3, (some .int), 1, false, false)
def am_m97 : am_M := (9, ⟨"BoxNestModel", "<init>", "()V"⟩, prog_11_method_1_code, 1, none, 1, false, true)
def am_m98 : am_M := (9, ⟨"BoxNestModel", "box", "(IIIIIIZI)I"⟩, prog_11_method_3_code, 9, (some .int), 9, false, false)
def am_m99 : am_M := (9, ⟨"BoxNestModel", "in", "(III)Z"⟩, prog_11_method_2_code, 3, (some .boolean), 3, true, false)
def am_m100 : am_M := (9, ⟨"BoxNestModel", "truck", "(III)I"⟩, prog_11_method_5_code, 4, (some .int), 4, false, false)
def am_m101 : am_M := (9, ⟨"BoxNestModel", "placed", "()I"⟩, prog_11_method_4_code, 3, (some .int), 1, false, false)
def am_m102 : am_M := (9, ⟨"BoxNestModel", "share", "(I)I"⟩, prog_11_method_6_code, 3, (some .int), 2, false, false)
def am_m103 : am_M := (9, ⟨"BoxNestModel", "axles", "(IIII)I"⟩, prog_11_method_7_code, 5, (some .int), 5, false, false)
def am_m104 : am_M := (9, ⟨"BoxNestModel", "side", "(I)I"⟩, prog_11_method_8_code, 3, (some .int), 2, false, false)
def am_m105 : am_M := (9, ⟨"BoxNestModel", "wrong", "(IIIIZ)I"⟩, prog_11_method_20_code, 7, (some .int), 6, false, false)
def am_m106 : am_M := (9, ⟨"BoxNestModel", "asked", "(IIIIZ)I"⟩, prog_11_method_19_code, 6, (some .int), 6, false, false)
def am_m107 : am_M := (9, ⟨"BoxNestModel", "isBox", "(I)Z"⟩, prog_11_method_9_code, 2, (some .boolean), 2, false, false)
def am_m108 : am_M := (9, ⟨"BoxNestModel", "wrongAt", "(IIIIZ)I"⟩, prog_11_method_18_code, 10, (some .int), 6, false, false)
def am_m109 : am_M := (9, ⟨"BoxNestModel", "longOf", "(I)I"⟩, prog_11_method_10_code, 2, (some .int), 2, false, false)
def am_m110 : am_M := (9, ⟨"BoxNestModel", "wideOf", "(I)I"⟩, prog_11_method_11_code, 2, (some .int), 2, false, false)
def am_m111 : am_M := (9, ⟨"BoxNestModel", "area", "(II)I"⟩, prog_11_method_14_code, 3, (some .int), 3, false, false)
def am_m112 : am_M := (9, ⟨"BoxNestModel", "common", "(IIII)I"⟩, prog_11_method_13_code, 6, (some .int), 4, true, false)
def am_m113 : am_M := (9, ⟨"BoxNestModel", "stands", "(II)I"⟩, prog_11_method_15_code, 3, (some .int), 3, false, false)
def am_m114 : am_M := (9, ⟨"BoxNestModel", "topOf", "(I)I"⟩, prog_11_method_12_code, 2, (some .int), 2, false, false)
def am_m115 : am_M := (9, ⟨"BoxNestModel", "isInWay", "(II)Z"⟩, prog_11_method_17_code, 7, (some .boolean), 3, false, false)
def am_m116 : am_M := (9, ⟨"BoxNestModel", "makeLoads", "()V"⟩, prog_11_method_16_code, 8, none, 1, false, false)
def am_m117 : am_M := (9, ⟨"BoxNestModel", "place", "(IIIIZ)I"⟩, prog_11_method_21_code, 7, (some .int), 6, false, false)
def am_m118 : am_M := (9, ⟨"BoxNestModel", "set", "(I)I"⟩, prog_11_method_24_code, 2, (some .int), 2, false, false)
def am_m119 : am_M := (9, ⟨"BoxNestModel", "sets", "(I)Z"⟩, prog_11_method_23_code, 6, (some .boolean), 2, false, false)
def am_m120 : am_M := (9, ⟨"BoxNestModel", "nextEnd", "(II)I"⟩, prog_11_method_22_code, 6, (some .int), 3, false, false)
def am_m121 : am_M := (9, ⟨"BoxNestModel", "take", "(I)I"⟩, prog_11_method_25_code, 3, (some .int), 2, false, false)
def am_m122 : am_M := (9, ⟨"BoxNestModel", "clear", "()I"⟩, prog_11_method_26_code, 3, (some .int), 1, false, false)
def am_m123 : am_M := (9, ⟨"BoxNestModel", "best", "(I)I"⟩, prog_11_method_32_code, 4, (some .int), 2, false, false)
def am_m124 : am_M := (9, ⟨"BoxNestModel", "isSet", "(I)Z"⟩, prog_11_method_28_code, 2, (some .boolean), 2, false, false)
def am_m125 : am_M := (9, ⟨"BoxNestModel", "orders", "(IIII)V"⟩, prog_11_method_31_code, 7, none, 5, false, false)
def am_m126 : am_M := (9, ⟨"BoxNestModel", "lists", "(II)I"⟩, prog_11_method_29_code, 5, (some .int), 3, false, false)
def am_m127 : am_M := (9, ⟨"BoxNestModel", "farthest", "()I"⟩, prog_11_method_27_code, 3, (some .int), 1, false, false)
def am_m128 : am_M := (9, ⟨"BoxNestModel", "unset", "(I)V"⟩, prog_11_method_30_code, 3, none, 2, false, false)
def am_m129 : am_M := (9, ⟨"BoxNestModel", "about", "(II)I"⟩, prog_11_method_33_code, 5, (some .int), 3, false, false)
def am_m130 : am_M := (9, ⟨"BoxNestModel", "at", "(III)I"⟩, prog_11_method_34_code, 6, (some .int), 4, false, false)
def am_m131 : am_M := (9, ⟨"BoxNestModel", "axle", "(III)I"⟩, prog_11_method_38_code, 9, (some .int), 4, false, false)
def am_m132 : am_M := (9, ⟨"BoxNestModel", "axleOf", "(II)I"⟩, prog_11_method_37_code, 5, (some .int), 3, false, false)
def am_m133 : am_M := (9, ⟨"BoxNestModel", "isLeft", "(II)Z"⟩, prog_11_method_35_code, 3, (some .boolean), 3, false, false)
def am_m134 : am_M := (9, ⟨"BoxNestModel", "weights", "(I)I"⟩, prog_11_method_36_code, 4, (some .int), 2, false, false)
def am_m135 : am_M := (9, ⟨"BoxNestModel", "over", "(I)I"⟩, prog_11_method_40_code, 2, (some .int), 2, false, false)
def am_m136 : am_M := (9, ⟨"BoxNestModel", "overAt", "(I)I"⟩, prog_11_method_39_code, 9, (some .int), 2, false, false)
def am_m137 : am_M := (9, ⟨"BoxNestModel", "fit", "()I"⟩, prog_11_method_41_code, 2, (some .int), 1, false, false)
def am_m138 : am_M := (9, ⟨"BoxNestModel", "cut", "(III)I"⟩, prog_11_method_47_code, 4, (some .int), 4, false, false)
def am_m139 : am_M := (9, ⟨"BoxNestModel", "makeMost", "(III)V"⟩, prog_11_method_44_code, 9, none, 4, false, false)
def am_m140 : am_M := (9, ⟨"BoxNestModel", "isPiece", "(IIIIZ)Z"⟩, prog_11_method_43_code, 6, (some .boolean), 6, false, false)
def am_m141 : am_M := (9, ⟨"BoxNestModel", "block", "(III)I"⟩, prog_11_method_42_code, 3, (some .int), 3, true, false)
def am_m142 : am_M := (9, ⟨"BoxNestModel", "greater", "(II)I"⟩, prog_11_method_45_code, 2, (some .int), 2, true, false)
def am_m143 : am_M := (9, ⟨"BoxNestModel", "pattern", "(IIIIII)V"⟩, prog_11_method_46_code, 10, none, 7, false, false)
def am_m144 : am_M := (9, ⟨"BoxNestModel", "piece", "(II)I"⟩, prog_11_method_48_code, 3, (some .int), 3, false, false)
def am_m145 : am_M := (9, ⟨"BoxNestModel", "trucks", "(I)I"⟩, prog_11_method_52_code, 5, (some .int), 2, false, false)
def am_m146 : am_M := (9, ⟨"BoxNestModel", "fitsSo", "(IZ)Z"⟩, prog_11_method_49_code, 5, (some .boolean), 3, false, false)
def am_m147 : am_M := (9, ⟨"BoxNestModel", "isApart", "(II)Z"⟩, prog_11_method_50_code, 7, (some .boolean), 3, false, false)
def am_m148 : am_M := (9, ⟨"BoxNestModel", "bigs", "(IIII)V"⟩, prog_11_method_51_code, 7, none, 5, false, false)
def am_m149 : am_M := (9, ⟨"BoxNestModel", "shown", "(I)I"⟩, prog_11_method_53_code, 2, (some .int), 2, false, false)
def am_m150 : am_M := (9, ⟨"BoxNestModel", "count", "(I)I"⟩, prog_11_method_54_code, 4, (some .int), 2, false, false)
def am_m151 : am_M := (10, ⟨"BoxNestLaw", "law", "([I)Z"⟩, code, 4, (some .boolean), 1, true, false)
def am_ms : List am_M := [am_m0, am_m1, am_m2, am_m3, am_m4, am_m5, am_m6, am_m7, am_m8, am_m9, am_m10, am_m11, am_m12, am_m13, am_m14, am_m15, am_m16, am_m17, am_m18, am_m19, am_m20, am_m21, am_m22, am_m23, am_m24, am_m25, am_m26, am_m27, am_m28, am_m29, am_m30, am_m31, am_m32, am_m33, am_m34, am_m35, am_m36, am_m37, am_m38, am_m39, am_m40, am_m41, am_m42, am_m43, am_m44, am_m45, am_m46, am_m47, am_m48, am_m49, am_m50, am_m51, am_m52, am_m53, am_m54, am_m55, am_m56, am_m57, am_m58, am_m59, am_m60, am_m61, am_m62, am_m63, am_m64, am_m65, am_m66, am_m67, am_m68, am_m69, am_m70, am_m71, am_m72, am_m73, am_m74, am_m75, am_m76, am_m77, am_m78, am_m79, am_m80, am_m81, am_m82, am_m83, am_m84, am_m85, am_m86, am_m87, am_m88, am_m89, am_m90, am_m91, am_m92, am_m93, am_m94, am_m95, am_m96, am_m97, am_m98, am_m99, am_m100, am_m101, am_m102, am_m103, am_m104, am_m105, am_m106, am_m107, am_m108, am_m109, am_m110, am_m111, am_m112, am_m113, am_m114, am_m115, am_m116, am_m117, am_m118, am_m119, am_m120, am_m121, am_m122, am_m123, am_m124, am_m125, am_m126, am_m127, am_m128, am_m129, am_m130, am_m131, am_m132, am_m133, am_m134, am_m135, am_m136, am_m137, am_m138, am_m139, am_m140, am_m141, am_m142, am_m143, am_m144, am_m145, am_m146, am_m147, am_m148, am_m149, am_m150, am_m151]
def am_y (mi : Nat) : MethodName := match am_ms[mi]? with | some q => q.2.1 | none => ⟨"", "", ""⟩
def am_FW : List (Nat × Nat × Nat × Nat) := [(7, 7, 7, 0), (1, 27, 7, 0), (8, 92, 7, 0), (5, 87, 7, 0), (7, 13, 7, 1), (1, 33, 7, 1), (8, 95, 7, 1), (0, 78, 7, 1), (5, 88, 7, 1), (7, 16, 7, 2), (1, 36, 7, 2), (8, 96, 7, 2), (5, 76, 7, 2), (7, 19, 7, 3), (8, 97, 7, 3), (5, 137, 7, 3), (7, 22, 7, 4), (0, 30, 7, 4), (8, 101, 7, 4), (7, 25, 7, 5), (0, 25, 7, 5), (8, 104, 7, 5), (7, 29, 7, 6), (0, 69, 7, 6), (8, 107, 7, 6), (7, 32, 7, 7), (0, 75, 7, 7), (8, 110, 7, 7), (7, 35, 7, 8), (0, 87, 7, 8), (8, 113, 7, 8), (4, 9, 4, 0), (5, 163, 4, 0), (4, 15, 4, 1), (5, 166, 4, 1), (4, 18, 4, 2), (5, 187, 4, 2), (4, 21, 4, 3), (5, 160, 4, 3), (2, 26, 2, 0), (8, 53, 2, 0), (1, 80, 2, 0), (3, 64, 2, 0), (5, 84, 2, 0), (2, 23, 2, 1), (8, 58, 2, 1), (1, 81, 2, 1), (3, 69, 2, 1), (5, 81, 2, 1), (2, 35, 2, 2), (8, 61, 2, 2), (1, 92, 2, 2), (3, 72, 2, 2), (5, 73, 2, 2), (0, 52, 2, 3), (8, 64, 2, 3), (5, 56, 2, 3), (8, 67, 2, 4), (5, 149, 2, 4), (0, 47, 2, 5), (8, 70, 2, 5), (5, 140, 2, 5), (8, 73, 2, 6), (3, 82, 2, 6), (5, 77, 2, 6), (8, 77, 2, 7), (3, 75, 2, 7), (2, 7, 2, 8), (0, 53, 2, 8), (5, 93, 2, 8), (8, 167, 2, 8), (2, 13, 2, 9), (0, 59, 2, 9), (5, 103, 2, 9), (8, 170, 2, 9), (2, 16, 2, 10), (5, 115, 2, 10), (8, 173, 2, 10), (2, 29, 2, 11), (0, 56, 2, 11), (5, 59, 2, 11), (2, 32, 2, 12), (0, 62, 2, 12), (5, 106, 2, 12), (2, 38, 2, 13), (5, 118, 2, 13), (2, 19, 2, 14), (8, 176, 2, 14), (5, 12, 5, 0), (0, 7, 5, 0), (1, 21, 5, 0), (8, 88, 5, 0), (5, 20, 5, 1), (0, 39, 5, 1), (1, 42, 5, 1), (8, 49, 5, 1), (3, 60, 5, 1), (5, 45, 5, 2), (1, 39, 5, 2), (0, 36, 5, 2), (8, 45, 5, 2), (3, 55, 5, 2), (5, 49, 5, 3), (8, 85, 5, 3), (5, 24, 5, 4), (5, 28, 5, 5), (5, 34, 5, 6), (5, 38, 5, 7), (5, 41, 5, 8), (5, 100, 5, 9), (5, 112, 5, 10), (5, 124, 5, 11), (6, 9, 6, 0), (8, 261, 6, 0), (6, 15, 6, 1), (8, 268, 6, 1), (6, 18, 6, 2), (8, 265, 6, 2), (6, 22, 6, 3), (6, 25, 6, 4), (0, 13, 0, 0), (0, 19, 0, 1), (0, 22, 0, 2), (0, 33, 0, 3), (8, 204, 0, 3), (1, 56, 1, 0), (8, 239, 1, 0), (1, 60, 1, 1), (8, 230, 1, 1), (1, 63, 1, 2), (8, 233, 1, 2), (1, 66, 1, 3), (8, 242, 1, 3), (1, 9, 1, 4), (1, 15, 1, 5), (1, 18, 1, 6), (8, 10, 8, 0), (8, 19, 8, 1), (8, 26, 8, 2), (8, 33, 8, 3), (8, 37, 8, 4), (3, 11, 3, 0), (3, 15, 3, 1), (3, 18, 3, 2), (3, 22, 3, 3), (3, 25, 3, 4), (9, 119, 9, 0), (9, 7, 9, 1), (9, 13, 9, 2), (9, 16, 9, 3), (9, 19, 9, 4), (9, 22, 9, 5), (9, 25, 9, 6), (9, 28, 9, 7), (9, 32, 9, 8), (9, 35, 9, 9), (9, 38, 9, 10), (9, 41, 9, 11), (9, 44, 9, 12), (9, 47, 9, 13), (9, 50, 9, 14), (9, 54, 9, 15), (9, 57, 9, 16), (9, 60, 9, 17), (9, 63, 9, 18), (9, 66, 9, 19), (9, 70, 9, 20), (9, 73, 9, 21), (9, 76, 9, 22), (9, 79, 9, 23), (9, 191, 9, 24), (9, 185, 9, 25), (9, 188, 9, 26), (9, 82, 9, 27), (9, 85, 9, 28), (9, 88, 9, 29), (9, 91, 9, 30), (9, 94, 9, 31), (9, 97, 9, 32), (9, 100, 9, 33), (9, 103, 9, 34), (9, 235, 9, 35), (9, 238, 9, 36), (9, 106, 9, 37), (9, 109, 9, 38), (9, 112, 9, 39)]
theorem am_FWe : am_FW.map (fun q => Cond.fieldLink (am_cn q.1) q.2.1 (am_F q.2.2.1 q.2.2.2).1 (am_F q.2.2.1 q.2.2.2).2.1 (am_F q.2.2.1 q.2.2.2).2.2.1) = ([89, 90, 91, 92, 93, 94, 95, 96, 97, 98, 99, 100, 101, 102, 103, 104, 105, 106, 107, 108, 109, 110, 111, 112, 113, 114, 115, 116, 117, 118, 119, 147, 148, 149, 150, 151, 152, 153, 154, 170, 171, 172, 173, 174, 175, 176, 177, 178, 179, 180, 181, 182, 183, 184, 185, 186, 187, 188, 189, 190, 191, 192, 193, 194, 195, 196, 197, 198, 199, 200, 201, 202, 203, 204, 205, 206, 207, 208, 209, 210, 211, 212, 213, 214, 215, 216, 217, 218, 250, 251, 252, 253, 254, 255, 256, 257, 258, 259, 260, 261, 262, 263, 264, 265, 266, 267, 268, 269, 270, 271, 272, 273, 305, 306, 307, 308, 309, 310, 311, 312, 330, 331, 332, 333, 334, 350, 351, 352, 353, 354, 355, 356, 357, 358, 359, 360, 376, 377, 378, 379, 380, 652, 653, 654, 655, 656, 779, 780, 781, 782, 783, 784, 785, 786, 787, 788, 789, 790, 791, 792, 793, 794, 795, 796, 797, 798, 799, 800, 801, 802, 803, 804, 805, 806, 807, 808, 809, 810, 811, 812, 813, 814, 815, 816, 817, 818] : List Nat).filterMap (fun i => lw_tbl[i]?) := by decide +kernel
def am_MW : List (Nat × Nat × Nat) := [(10, 9, 0), (8, 9, 1), (10, 13, 8), (8, 41, 9), (8, 80, 10), (10, 18, 11), (10, 23, 12), (10, 28, 13), (10, 33, 14), (10, 37, 15), (8, 116, 16), (8, 132, 17), (8, 136, 18), (8, 120, 19), (5, 89, 20), (5, 96, 21), (5, 52, 18), (5, 109, 22), (5, 121, 23), (8, 124, 24), (5, 127, 25), (5, 131, 26), (5, 66, 27), (5, 70, 28), (5, 143, 29), (5, 152, 30), (5, 134, 31), (10, 42, 32), (8, 128, 33), (10, 46, 34), (8, 139, 35), (5, 156, 36), (5, 177, 37), (5, 181, 38), (5, 184, 39), (5, 169, 40), (5, 173, 33), (10, 50, 41), (8, 142, 42), (8, 145, 43), (10, 54, 44), (8, 148, 45), (10, 59, 46), (8, 153, 47), (8, 156, 48), (8, 159, 49), (8, 248, 50), (8, 254, 51), (8, 258, 52), (8, 163, 53), (10, 63, 54), (8, 179, 55), (8, 182, 56), (10, 68, 57), (8, 185, 58), (10, 72, 59), (8, 189, 60), (0, 43, 18), (8, 193, 61), (8, 196, 62), (8, 199, 63), (8, 207, 64), (10, 76, 65), (8, 211, 66), (8, 271, 67), (0, 65, 61), (0, 72, 62), (0, 81, 63), (10, 80, 68), (10, 84, 69), (8, 215, 71), (3, 28, 72), (3, 32, 73), (3, 44, 74), (3, 36, 75), (3, 49, 29), (3, 78, 76), (3, 86, 77), (3, 90, 78), (10, 88, 79), (8, 219, 80), (3, 40, 81), (3, 93, 82), (3, 97, 83), (10, 92, 84), (8, 223, 85), (8, 227, 86), (1, 46, 87), (1, 52, 88), (1, 76, 85), (1, 82, 89), (1, 69, 90), (1, 88, 91), (1, 72, 92), (1, 93, 45), (8, 236, 74), (10, 96, 93), (10, 100, 94), (8, 245, 95), (8, 251, 96), (5, 62, 87), (10, 12, 97), (10, 17, 98), (9, 115, 99), (10, 22, 100), (9, 122, 101), (10, 27, 102), (10, 32, 103), (10, 36, 104), (10, 41, 105), (9, 158, 106), (9, 154, 107), (9, 162, 108), (9, 126, 109), (9, 134, 110), (9, 140, 111), (9, 130, 112), (9, 144, 113), (9, 137, 114), (9, 147, 115), (9, 151, 116), (10, 45, 117), (10, 49, 118), (9, 168, 119), (9, 165, 120), (10, 53, 121), (10, 58, 122), (10, 62, 123), (9, 194, 124), (9, 171, 125), (9, 175, 126), (9, 178, 127), (9, 181, 128), (10, 67, 129), (10, 71, 130), (10, 75, 131), (9, 204, 132), (9, 197, 133), (9, 200, 134), (10, 79, 135), (9, 209, 136), (10, 83, 137), (10, 87, 138), (9, 227, 139), (9, 212, 140), (9, 216, 141), (9, 220, 142), (9, 223, 143), (10, 91, 144), (10, 95, 145), (9, 231, 146), (9, 244, 147), (9, 241, 148), (10, 99, 149), (10, 103, 150)]
theorem am_MWe : am_MW.map (fun q => Cond.methodLink (am_cn q.1) q.2.1 (am_y q.2.2)) = ([70, 78, 392, 396, 399, 403, 407, 411, 416, 420, 424, 428, 432, 436, 440, 444, 448, 449, 453, 457, 461, 465, 469, 473, 477, 480, 484, 488, 492, 496, 500, 504, 508, 512, 516, 520, 524, 525, 529, 533, 537, 541, 547, 551, 555, 559, 563, 567, 571, 575, 579, 583, 587, 591, 595, 599, 604, 608, 609, 613, 617, 620, 623, 627, 631, 635, 636, 637, 638, 642, 668, 672, 675, 678, 681, 685, 686, 690, 694, 697, 701, 705, 709, 713, 717, 721, 725, 729, 733, 737, 738, 741, 745, 749, 753, 754, 755, 759, 763, 767, 771, 774, 901, 905, 908, 912, 916, 920, 924, 928, 932, 936, 940, 944, 948, 952, 956, 959, 963, 967, 971, 975, 979, 983, 987, 991, 995, 999, 1003, 1007, 1011, 1015, 1019, 1023, 1027, 1031, 1036, 1040, 1044, 1048, 1052, 1057, 1061, 1065, 1069, 1073, 1076, 1079, 1083, 1087, 1091, 1095, 1099, 1103, 1107] : List Nat).filterMap (fun i => lw_tbl[i]?) := by decide +kernel
def am_MN : List (Nat × Nat × Nat) := [(5, 11, 2), (5, 33, 3), (5, 44, 4), (8, 18, 5), (8, 25, 6), (8, 32, 7), (8, 214, 70)]
theorem am_MNe : am_MN.map (fun q => Cond.methodLinkNest (am_cn q.1) q.2.1 (am_y q.2.2) "BoxNest") = ([84, 143, 166, 301, 326, 346, 648] : List Nat).filterMap (fun i => lw_tbl[i]?) := by decide +kernel
def am_OW : List (Nat × Nat) := [(8, 1), (5, 3), (7, 1), (4, 3), (2, 1), (6, 3), (0, 1), (1, 3), (3, 3), (9, 1)]
theorem am_OWe : am_OW.map (fun q => Cond.methodLink (am_cn q.1) q.2 objectInit) = ([73, 81, 87, 146, 169, 304, 329, 349, 651, 777] : List Nat).filterMap (fun i => lw_tbl[i]?) := by decide +kernel
def am_CW : List (Nat × Nat × Nat) := [(10, 7, 8), (8, 7, 5), (5, 9, 7), (5, 18, 2), (5, 31, 4), (8, 16, 6), (8, 23, 0), (8, 30, 1), (8, 81, 3), (10, 10, 9)]
theorem am_CWe : am_CW.map (fun q => Cond.classLink (am_cn q.1) q.2.1 (am_cn q.2.2)) = ([68, 76, 82, 139, 141, 299, 324, 344, 646, 772] : List Nat).filterMap (fun i => lw_tbl[i]?) := by decide +kernel
def am_KW : List (Nat × Nat × Int32) := [(7, 28, 100000), (8, 100, 100000), (5, 190, 1073741824), (11, 265, 1431655765), (11, 266, 858993459), (11, 267, 252645135), (8, 188, -2000000000), (9, 69, 100000), (9, 203, -2000000000)]
theorem am_KWe : am_KW.map (fun q => Cond.constant (am_cn q.1) q.2.1 q.2.2) = ([88, 415, 519, 544, 545, 546, 603, 778, 1035] : List Nat).filterMap (fun i => lw_tbl[i]?) := by decide +kernel
def am_LW : List (Nat × Nat × Nat) := [(9, 207, 100)]
theorem am_LWe : am_LW.map (fun q => Cond.constantLong (am_cn q.1) q.2.1 (Int64.ofNat q.2.2)) = ([1056] : List Nat).filterMap (fun i => lw_tbl[i]?) := by decide +kernel
theorem am_oi : lw_tbl[74]? = some (Cond.instanceMethod objectInit) := by decide +kernel
theorem am_oc : lw_tbl[75]? = some (Cond.code objectInit ⟨#[0xb1]⟩ 1 none) := by decide +kernel
theorem am_ac_int : lw_tbl[164]? = some (Cond.arrayClass .int) := by decide +kernel
theorem am_ac_boolean : lw_tbl[900]? = some (Cond.arrayClass .boolean) := by decide +kernel
theorem am_ao : lw_tbl[140]? = some (Cond.arrayOver (.object "BoxNest$Box")) := by decide +kernel
def am_tb : List Cond := lw_tbl.filter goodWord
theorem am_tb_in {w : Cond} (h : w ∈ lw_tbl) (hg : goodWord w = true) : w ∈ am_tb := List.mem_filter.mpr ⟨h, hg⟩
theorem am_tb_lw {w : Cond} (h : w ∈ am_tb) : w ∈ lw_tbl := (List.mem_filter.mp h).1
theorem am_tb_good {w : Cond} (h : w ∈ am_tb) : goodWord w = true := (List.mem_filter.mp h).2
theorem am_math_max : am_y 74 = Lib.Math.max.name ∧ lw_tbl[679]? = some (Cond.static Lib.Math.max.name) ∧ lw_tbl[66]? = some (Cond.initialized "java/lang/Math") ∧ lw_tbl[680]? = some (Cond.code Lib.Math.max.name Lib.Math.max.code 2 (some .int)) := by decide +kernel
theorem am_math_min : am_y 89 = Lib.Math.min.name ∧ lw_tbl[739]? = some (Cond.static Lib.Math.min.name) ∧ lw_tbl[66]? = some (Cond.initialized "java/lang/Math") ∧ lw_tbl[740]? = some (Cond.code Lib.Math.min.name Lib.Math.min.code 2 (some .int)) := by decide +kernel
theorem am_math_abs : am_y 63 = Lib.Math.abs.name ∧ lw_tbl[618]? = some (Cond.static Lib.Math.abs.name) ∧ lw_tbl[66]? = some (Cond.initialized "java/lang/Math") ∧ lw_tbl[619]? = some (Cond.code Lib.Math.abs.name Lib.Math.abs.code 1 (some .int)) := by decide +kernel
/-- what is known of a method that is called -/
def am_okM (q : am_M) : Prop := am_cn q.1 = q.2.1.cls ∧ (q.2.1.cls ≠ "java/lang/invoke/MethodHandle" ∧ q.2.1.cls ≠ "java/lang/invoke/VarHandle") ∧ plainName q.2.1.cls = true ∧ Cond.code q.2.1 q.2.2.1 q.2.2.2.1 q.2.2.2.2.1 ∈ lw_tbl ∧ Cond.initialized q.2.1.cls ∈ lw_tbl ∧
  (parseMethodDescriptor q.2.1.desc).map (fun d => d.parameters.length) = some (if q.2.2.2.2.2.2.1 = true then q.2.2.2.2.2.1 else q.2.2.2.2.2.1 - 1) ∧ q.2.2.2.1 ≤ 40 ∧ (q.2.2.2.2.2.2.1 = true → Cond.static q.2.1 ∈ lw_tbl) ∧ (q.2.2.2.2.2.2.1 = false → Cond.instanceMethod q.2.1 ∈ lw_tbl) ∧ (q.2.2.2.2.2.2.1 = false → q.2.2.2.2.2.2.2 = false → Cond.selects q.2.1.cls q.2.1 q.2.1 ∈ lw_tbl) ∧ (q.2.2.2.2.2.2.2 = true → q.2.1.name = "<init>" ∧ q.2.2.2.2.1 = none) ∧ (q.2.2.2.2.2.2.1 = false → 1 ≤ q.2.2.2.2.2.1)
end
section
/-! what is known of each method that is called (written by tools/gen2.py) -/
theorem am_k0 : am_okM am_m0 := ⟨by decide +kernel, by decide +kernel, by decide +kernel, List.mem_of_getElem? (i := 72) (by decide +kernel), List.mem_of_getElem? (i := 55) (by decide +kernel), by decide +kernel, by decide, fun h => absurd h (by decide), fun _ => List.mem_of_getElem? (i := 71) (by decide +kernel), fun _ h => absurd h (by decide), fun _ => ⟨rfl, rfl⟩, by decide⟩
theorem am_k1 : am_okM am_m1 := ⟨by decide +kernel, by decide +kernel, by decide +kernel, List.mem_of_getElem? (i := 80) (by decide +kernel), List.mem_of_getElem? (i := 56) (by decide +kernel), by decide +kernel, by decide, fun h => absurd h (by decide), fun _ => List.mem_of_getElem? (i := 79) (by decide +kernel), fun _ h => absurd h (by decide), fun _ => ⟨rfl, rfl⟩, by decide⟩
theorem am_k2 : am_okM am_m2 := ⟨by decide +kernel, by decide +kernel, by decide +kernel, List.mem_of_getElem? (i := 86) (by decide +kernel), List.mem_of_getElem? (i := 57) (by decide +kernel), by decide +kernel, by decide, fun h => absurd h (by decide), fun _ => List.mem_of_getElem? (i := 85) (by decide +kernel), fun _ h => absurd h (by decide), fun _ => ⟨rfl, rfl⟩, by decide⟩
theorem am_k3 : am_okM am_m3 := ⟨by decide +kernel, by decide +kernel, by decide +kernel, List.mem_of_getElem? (i := 145) (by decide +kernel), List.mem_of_getElem? (i := 58) (by decide +kernel), by decide +kernel, by decide, fun h => absurd h (by decide), fun _ => List.mem_of_getElem? (i := 144) (by decide +kernel), fun _ h => absurd h (by decide), fun _ => ⟨rfl, rfl⟩, by decide⟩
theorem am_k4 : am_okM am_m4 := ⟨by decide +kernel, by decide +kernel, by decide +kernel, List.mem_of_getElem? (i := 168) (by decide +kernel), List.mem_of_getElem? (i := 59) (by decide +kernel), by decide +kernel, by decide, fun h => absurd h (by decide), fun _ => List.mem_of_getElem? (i := 167) (by decide +kernel), fun _ h => absurd h (by decide), fun _ => ⟨rfl, rfl⟩, by decide⟩
theorem am_k5 : am_okM am_m5 := ⟨by decide +kernel, by decide +kernel, by decide +kernel, List.mem_of_getElem? (i := 303) (by decide +kernel), List.mem_of_getElem? (i := 60) (by decide +kernel), by decide +kernel, by decide, fun h => absurd h (by decide), fun _ => List.mem_of_getElem? (i := 302) (by decide +kernel), fun _ h => absurd h (by decide), fun _ => ⟨rfl, rfl⟩, by decide⟩
theorem am_k6 : am_okM am_m6 := ⟨by decide +kernel, by decide +kernel, by decide +kernel, List.mem_of_getElem? (i := 328) (by decide +kernel), List.mem_of_getElem? (i := 61) (by decide +kernel), by decide +kernel, by decide, fun h => absurd h (by decide), fun _ => List.mem_of_getElem? (i := 327) (by decide +kernel), fun _ h => absurd h (by decide), fun _ => ⟨rfl, rfl⟩, by decide⟩
theorem am_k7 : am_okM am_m7 := ⟨by decide +kernel, by decide +kernel, by decide +kernel, List.mem_of_getElem? (i := 348) (by decide +kernel), List.mem_of_getElem? (i := 62) (by decide +kernel), by decide +kernel, by decide, fun h => absurd h (by decide), fun _ => List.mem_of_getElem? (i := 347) (by decide +kernel), fun _ h => absurd h (by decide), fun _ => ⟨rfl, rfl⟩, by decide⟩
theorem am_k8 : am_okM am_m8 := ⟨by decide +kernel, by decide +kernel, by decide +kernel, List.mem_of_getElem? (i := 395) (by decide +kernel), List.mem_of_getElem? (i := 55) (by decide +kernel), by decide +kernel, by decide, fun h => absurd h (by decide), fun _ => List.mem_of_getElem? (i := 393) (by decide +kernel), fun _ _ => List.mem_of_getElem? (i := 394) (by decide +kernel), fun h => absurd h (by decide), by decide⟩
theorem am_k9 : am_okM am_m9 := ⟨by decide +kernel, by decide +kernel, by decide +kernel, List.mem_of_getElem? (i := 398) (by decide +kernel), List.mem_of_getElem? (i := 55) (by decide +kernel), by decide +kernel, by decide, fun _ => List.mem_of_getElem? (i := 397) (by decide +kernel), fun h => absurd h (by decide), fun h => absurd h (by decide), fun h => absurd h (by decide), by decide⟩
theorem am_k10 : am_okM am_m10 := ⟨by decide +kernel, by decide +kernel, by decide +kernel, List.mem_of_getElem? (i := 402) (by decide +kernel), List.mem_of_getElem? (i := 67) (by decide +kernel), by decide +kernel, by decide, fun h => absurd h (by decide), fun _ => List.mem_of_getElem? (i := 400) (by decide +kernel), fun _ _ => List.mem_of_getElem? (i := 401) (by decide +kernel), fun h => absurd h (by decide), by decide⟩
theorem am_k11 : am_okM am_m11 := ⟨by decide +kernel, by decide +kernel, by decide +kernel, List.mem_of_getElem? (i := 406) (by decide +kernel), List.mem_of_getElem? (i := 55) (by decide +kernel), by decide +kernel, by decide, fun h => absurd h (by decide), fun _ => List.mem_of_getElem? (i := 404) (by decide +kernel), fun _ _ => List.mem_of_getElem? (i := 405) (by decide +kernel), fun h => absurd h (by decide), by decide⟩
theorem am_k12 : am_okM am_m12 := ⟨by decide +kernel, by decide +kernel, by decide +kernel, List.mem_of_getElem? (i := 410) (by decide +kernel), List.mem_of_getElem? (i := 55) (by decide +kernel), by decide +kernel, by decide, fun h => absurd h (by decide), fun _ => List.mem_of_getElem? (i := 408) (by decide +kernel), fun _ _ => List.mem_of_getElem? (i := 409) (by decide +kernel), fun h => absurd h (by decide), by decide⟩
theorem am_k13 : am_okM am_m13 := ⟨by decide +kernel, by decide +kernel, by decide +kernel, List.mem_of_getElem? (i := 414) (by decide +kernel), List.mem_of_getElem? (i := 55) (by decide +kernel), by decide +kernel, by decide, fun h => absurd h (by decide), fun _ => List.mem_of_getElem? (i := 412) (by decide +kernel), fun _ _ => List.mem_of_getElem? (i := 413) (by decide +kernel), fun h => absurd h (by decide), by decide⟩
theorem am_k14 : am_okM am_m14 := ⟨by decide +kernel, by decide +kernel, by decide +kernel, List.mem_of_getElem? (i := 419) (by decide +kernel), List.mem_of_getElem? (i := 55) (by decide +kernel), by decide +kernel, by decide, fun h => absurd h (by decide), fun _ => List.mem_of_getElem? (i := 417) (by decide +kernel), fun _ _ => List.mem_of_getElem? (i := 418) (by decide +kernel), fun h => absurd h (by decide), by decide⟩
theorem am_k15 : am_okM am_m15 := ⟨by decide +kernel, by decide +kernel, by decide +kernel, List.mem_of_getElem? (i := 423) (by decide +kernel), List.mem_of_getElem? (i := 55) (by decide +kernel), by decide +kernel, by decide, fun h => absurd h (by decide), fun _ => List.mem_of_getElem? (i := 421) (by decide +kernel), fun _ _ => List.mem_of_getElem? (i := 422) (by decide +kernel), fun h => absurd h (by decide), by decide⟩
theorem am_k16 : am_okM am_m16 := ⟨by decide +kernel, by decide +kernel, by decide +kernel, List.mem_of_getElem? (i := 427) (by decide +kernel), List.mem_of_getElem? (i := 55) (by decide +kernel), by decide +kernel, by decide, fun h => absurd h (by decide), fun _ => List.mem_of_getElem? (i := 426) (by decide +kernel), fun _ _ => List.mem_of_getElem? (i := 0) (by decide +kernel), fun h => absurd h (by decide), by decide⟩
theorem am_k17 : am_okM am_m17 := ⟨by decide +kernel, by decide +kernel, by decide +kernel, List.mem_of_getElem? (i := 431) (by decide +kernel), List.mem_of_getElem? (i := 56) (by decide +kernel), by decide +kernel, by decide, fun h => absurd h (by decide), fun _ => List.mem_of_getElem? (i := 429) (by decide +kernel), fun _ _ => List.mem_of_getElem? (i := 430) (by decide +kernel), fun h => absurd h (by decide), by decide⟩
theorem am_k18 : am_okM am_m18 := ⟨by decide +kernel, by decide +kernel, by decide +kernel, List.mem_of_getElem? (i := 435) (by decide +kernel), List.mem_of_getElem? (i := 56) (by decide +kernel), by decide +kernel, by decide, fun h => absurd h (by decide), fun _ => List.mem_of_getElem? (i := 433) (by decide +kernel), fun _ _ => List.mem_of_getElem? (i := 434) (by decide +kernel), fun h => absurd h (by decide), by decide⟩
theorem am_k19 : am_okM am_m19 := ⟨by decide +kernel, by decide +kernel, by decide +kernel, List.mem_of_getElem? (i := 439) (by decide +kernel), List.mem_of_getElem? (i := 56) (by decide +kernel), by decide +kernel, by decide, fun h => absurd h (by decide), fun _ => List.mem_of_getElem? (i := 437) (by decide +kernel), fun _ _ => List.mem_of_getElem? (i := 438) (by decide +kernel), fun h => absurd h (by decide), by decide⟩
theorem am_k20 : am_okM am_m20 := ⟨by decide +kernel, by decide +kernel, by decide +kernel, List.mem_of_getElem? (i := 443) (by decide +kernel), List.mem_of_getElem? (i := 59) (by decide +kernel), by decide +kernel, by decide, fun h => absurd h (by decide), fun _ => List.mem_of_getElem? (i := 441) (by decide +kernel), fun _ _ => List.mem_of_getElem? (i := 442) (by decide +kernel), fun h => absurd h (by decide), by decide⟩
theorem am_k21 : am_okM am_m21 := ⟨by decide +kernel, by decide +kernel, by decide +kernel, List.mem_of_getElem? (i := 447) (by decide +kernel), List.mem_of_getElem? (i := 56) (by decide +kernel), by decide +kernel, by decide, fun h => absurd h (by decide), fun _ => List.mem_of_getElem? (i := 446) (by decide +kernel), fun _ _ => List.mem_of_getElem? (i := 1) (by decide +kernel), fun h => absurd h (by decide), by decide⟩
theorem am_k22 : am_okM am_m22 := ⟨by decide +kernel, by decide +kernel, by decide +kernel, List.mem_of_getElem? (i := 452) (by decide +kernel), List.mem_of_getElem? (i := 56) (by decide +kernel), by decide +kernel, by decide, fun h => absurd h (by decide), fun _ => List.mem_of_getElem? (i := 451) (by decide +kernel), fun _ _ => List.mem_of_getElem? (i := 2) (by decide +kernel), fun h => absurd h (by decide), by decide⟩
theorem am_k23 : am_okM am_m23 := ⟨by decide +kernel, by decide +kernel, by decide +kernel, List.mem_of_getElem? (i := 456) (by decide +kernel), List.mem_of_getElem? (i := 56) (by decide +kernel), by decide +kernel, by decide, fun h => absurd h (by decide), fun _ => List.mem_of_getElem? (i := 455) (by decide +kernel), fun _ _ => List.mem_of_getElem? (i := 3) (by decide +kernel), fun h => absurd h (by decide), by decide⟩
theorem am_k24 : am_okM am_m24 := ⟨by decide +kernel, by decide +kernel, by decide +kernel, List.mem_of_getElem? (i := 460) (by decide +kernel), List.mem_of_getElem? (i := 56) (by decide +kernel), by decide +kernel, by decide, fun h => absurd h (by decide), fun _ => List.mem_of_getElem? (i := 458) (by decide +kernel), fun _ _ => List.mem_of_getElem? (i := 459) (by decide +kernel), fun h => absurd h (by decide), by decide⟩
theorem am_k25 : am_okM am_m25 := ⟨by decide +kernel, by decide +kernel, by decide +kernel, List.mem_of_getElem? (i := 464) (by decide +kernel), List.mem_of_getElem? (i := 56) (by decide +kernel), by decide +kernel, by decide, fun h => absurd h (by decide), fun _ => List.mem_of_getElem? (i := 463) (by decide +kernel), fun _ _ => List.mem_of_getElem? (i := 4) (by decide +kernel), fun h => absurd h (by decide), by decide⟩
theorem am_k26 : am_okM am_m26 := ⟨by decide +kernel, by decide +kernel, by decide +kernel, List.mem_of_getElem? (i := 468) (by decide +kernel), List.mem_of_getElem? (i := 56) (by decide +kernel), by decide +kernel, by decide, fun h => absurd h (by decide), fun _ => List.mem_of_getElem? (i := 467) (by decide +kernel), fun _ _ => List.mem_of_getElem? (i := 5) (by decide +kernel), fun h => absurd h (by decide), by decide⟩
theorem am_k27 : am_okM am_m27 := ⟨by decide +kernel, by decide +kernel, by decide +kernel, List.mem_of_getElem? (i := 472) (by decide +kernel), List.mem_of_getElem? (i := 59) (by decide +kernel), by decide +kernel, by decide, fun h => absurd h (by decide), fun _ => List.mem_of_getElem? (i := 470) (by decide +kernel), fun _ _ => List.mem_of_getElem? (i := 471) (by decide +kernel), fun h => absurd h (by decide), by decide⟩
theorem am_k28 : am_okM am_m28 := ⟨by decide +kernel, by decide +kernel, by decide +kernel, List.mem_of_getElem? (i := 476) (by decide +kernel), List.mem_of_getElem? (i := 56) (by decide +kernel), by decide +kernel, by decide, fun h => absurd h (by decide), fun _ => List.mem_of_getElem? (i := 475) (by decide +kernel), fun _ _ => List.mem_of_getElem? (i := 6) (by decide +kernel), fun h => absurd h (by decide), by decide⟩
theorem am_k29 : am_okM am_m29 := ⟨by decide +kernel, by decide +kernel, by decide +kernel, List.mem_of_getElem? (i := 479) (by decide +kernel), List.mem_of_getElem? (i := 64) (by decide +kernel), by decide +kernel, by decide, fun _ => List.mem_of_getElem? (i := 478) (by decide +kernel), fun h => absurd h (by decide), fun h => absurd h (by decide), fun h => absurd h (by decide), by decide⟩
theorem am_k30 : am_okM am_m30 := ⟨by decide +kernel, by decide +kernel, by decide +kernel, List.mem_of_getElem? (i := 483) (by decide +kernel), List.mem_of_getElem? (i := 56) (by decide +kernel), by decide +kernel, by decide, fun h => absurd h (by decide), fun _ => List.mem_of_getElem? (i := 482) (by decide +kernel), fun _ _ => List.mem_of_getElem? (i := 7) (by decide +kernel), fun h => absurd h (by decide), by decide⟩
theorem am_k31 : am_okM am_m31 := ⟨by decide +kernel, by decide +kernel, by decide +kernel, List.mem_of_getElem? (i := 487) (by decide +kernel), List.mem_of_getElem? (i := 56) (by decide +kernel), by decide +kernel, by decide, fun h => absurd h (by decide), fun _ => List.mem_of_getElem? (i := 486) (by decide +kernel), fun _ _ => List.mem_of_getElem? (i := 8) (by decide +kernel), fun h => absurd h (by decide), by decide⟩
theorem am_k32 : am_okM am_m32 := ⟨by decide +kernel, by decide +kernel, by decide +kernel, List.mem_of_getElem? (i := 491) (by decide +kernel), List.mem_of_getElem? (i := 55) (by decide +kernel), by decide +kernel, by decide, fun h => absurd h (by decide), fun _ => List.mem_of_getElem? (i := 489) (by decide +kernel), fun _ _ => List.mem_of_getElem? (i := 490) (by decide +kernel), fun h => absurd h (by decide), by decide⟩
theorem am_k33 : am_okM am_m33 := ⟨by decide +kernel, by decide +kernel, by decide +kernel, List.mem_of_getElem? (i := 495) (by decide +kernel), List.mem_of_getElem? (i := 56) (by decide +kernel), by decide +kernel, by decide, fun h => absurd h (by decide), fun _ => List.mem_of_getElem? (i := 493) (by decide +kernel), fun _ _ => List.mem_of_getElem? (i := 494) (by decide +kernel), fun h => absurd h (by decide), by decide⟩
theorem am_k34 : am_okM am_m34 := ⟨by decide +kernel, by decide +kernel, by decide +kernel, List.mem_of_getElem? (i := 499) (by decide +kernel), List.mem_of_getElem? (i := 55) (by decide +kernel), by decide +kernel, by decide, fun h => absurd h (by decide), fun _ => List.mem_of_getElem? (i := 497) (by decide +kernel), fun _ _ => List.mem_of_getElem? (i := 498) (by decide +kernel), fun h => absurd h (by decide), by decide⟩
theorem am_k35 : am_okM am_m35 := ⟨by decide +kernel, by decide +kernel, by decide +kernel, List.mem_of_getElem? (i := 503) (by decide +kernel), List.mem_of_getElem? (i := 56) (by decide +kernel), by decide +kernel, by decide, fun h => absurd h (by decide), fun _ => List.mem_of_getElem? (i := 501) (by decide +kernel), fun _ _ => List.mem_of_getElem? (i := 502) (by decide +kernel), fun h => absurd h (by decide), by decide⟩
theorem am_k36 : am_okM am_m36 := ⟨by decide +kernel, by decide +kernel, by decide +kernel, List.mem_of_getElem? (i := 507) (by decide +kernel), List.mem_of_getElem? (i := 56) (by decide +kernel), by decide +kernel, by decide, fun h => absurd h (by decide), fun _ => List.mem_of_getElem? (i := 506) (by decide +kernel), fun _ _ => List.mem_of_getElem? (i := 9) (by decide +kernel), fun h => absurd h (by decide), by decide⟩
theorem am_k37 : am_okM am_m37 := ⟨by decide +kernel, by decide +kernel, by decide +kernel, List.mem_of_getElem? (i := 511) (by decide +kernel), List.mem_of_getElem? (i := 58) (by decide +kernel), by decide +kernel, by decide, fun h => absurd h (by decide), fun _ => List.mem_of_getElem? (i := 509) (by decide +kernel), fun _ _ => List.mem_of_getElem? (i := 510) (by decide +kernel), fun h => absurd h (by decide), by decide⟩
theorem am_k38 : am_okM am_m38 := ⟨by decide +kernel, by decide +kernel, by decide +kernel, List.mem_of_getElem? (i := 515) (by decide +kernel), List.mem_of_getElem? (i := 56) (by decide +kernel), by decide +kernel, by decide, fun h => absurd h (by decide), fun _ => List.mem_of_getElem? (i := 514) (by decide +kernel), fun _ _ => List.mem_of_getElem? (i := 10) (by decide +kernel), fun h => absurd h (by decide), by decide⟩
theorem am_k39 : am_okM am_m39 := ⟨by decide +kernel, by decide +kernel, by decide +kernel, List.mem_of_getElem? (i := 518) (by decide +kernel), List.mem_of_getElem? (i := 56) (by decide +kernel), by decide +kernel, by decide, fun _ => List.mem_of_getElem? (i := 517) (by decide +kernel), fun h => absurd h (by decide), fun h => absurd h (by decide), fun h => absurd h (by decide), by decide⟩
theorem am_k40 : am_okM am_m40 := ⟨by decide +kernel, by decide +kernel, by decide +kernel, List.mem_of_getElem? (i := 523) (by decide +kernel), List.mem_of_getElem? (i := 56) (by decide +kernel), by decide +kernel, by decide, fun h => absurd h (by decide), fun _ => List.mem_of_getElem? (i := 522) (by decide +kernel), fun _ _ => List.mem_of_getElem? (i := 11) (by decide +kernel), fun h => absurd h (by decide), by decide⟩
theorem am_k41 : am_okM am_m41 := ⟨by decide +kernel, by decide +kernel, by decide +kernel, List.mem_of_getElem? (i := 528) (by decide +kernel), List.mem_of_getElem? (i := 55) (by decide +kernel), by decide +kernel, by decide, fun h => absurd h (by decide), fun _ => List.mem_of_getElem? (i := 526) (by decide +kernel), fun _ _ => List.mem_of_getElem? (i := 527) (by decide +kernel), fun h => absurd h (by decide), by decide⟩
theorem am_k42 : am_okM am_m42 := ⟨by decide +kernel, by decide +kernel, by decide +kernel, List.mem_of_getElem? (i := 532) (by decide +kernel), List.mem_of_getElem? (i := 56) (by decide +kernel), by decide +kernel, by decide, fun h => absurd h (by decide), fun _ => List.mem_of_getElem? (i := 530) (by decide +kernel), fun _ _ => List.mem_of_getElem? (i := 531) (by decide +kernel), fun h => absurd h (by decide), by decide⟩
theorem am_k43 : am_okM am_m43 := ⟨by decide +kernel, by decide +kernel, by decide +kernel, List.mem_of_getElem? (i := 536) (by decide +kernel), List.mem_of_getElem? (i := 56) (by decide +kernel), by decide +kernel, by decide, fun h => absurd h (by decide), fun _ => List.mem_of_getElem? (i := 534) (by decide +kernel), fun _ _ => List.mem_of_getElem? (i := 535) (by decide +kernel), fun h => absurd h (by decide), by decide⟩
theorem am_k44 : am_okM am_m44 := ⟨by decide +kernel, by decide +kernel, by decide +kernel, List.mem_of_getElem? (i := 540) (by decide +kernel), List.mem_of_getElem? (i := 55) (by decide +kernel), by decide +kernel, by decide, fun h => absurd h (by decide), fun _ => List.mem_of_getElem? (i := 538) (by decide +kernel), fun _ _ => List.mem_of_getElem? (i := 539) (by decide +kernel), fun h => absurd h (by decide), by decide⟩
theorem am_k45 : am_okM am_m45 := ⟨by decide +kernel, by decide +kernel, by decide +kernel, List.mem_of_getElem? (i := 543) (by decide +kernel), List.mem_of_getElem? (i := 65) (by decide +kernel), by decide +kernel, by decide, fun _ => List.mem_of_getElem? (i := 542) (by decide +kernel), fun h => absurd h (by decide), fun h => absurd h (by decide), fun h => absurd h (by decide), by decide⟩
theorem am_k46 : am_okM am_m46 := ⟨by decide +kernel, by decide +kernel, by decide +kernel, List.mem_of_getElem? (i := 550) (by decide +kernel), List.mem_of_getElem? (i := 55) (by decide +kernel), by decide +kernel, by decide, fun h => absurd h (by decide), fun _ => List.mem_of_getElem? (i := 548) (by decide +kernel), fun _ _ => List.mem_of_getElem? (i := 549) (by decide +kernel), fun h => absurd h (by decide), by decide⟩
theorem am_k47 : am_okM am_m47 := ⟨by decide +kernel, by decide +kernel, by decide +kernel, List.mem_of_getElem? (i := 554) (by decide +kernel), List.mem_of_getElem? (i := 55) (by decide +kernel), by decide +kernel, by decide, fun h => absurd h (by decide), fun _ => List.mem_of_getElem? (i := 553) (by decide +kernel), fun _ _ => List.mem_of_getElem? (i := 12) (by decide +kernel), fun h => absurd h (by decide), by decide⟩
theorem am_k48 : am_okM am_m48 := ⟨by decide +kernel, by decide +kernel, by decide +kernel, List.mem_of_getElem? (i := 558) (by decide +kernel), List.mem_of_getElem? (i := 60) (by decide +kernel), by decide +kernel, by decide, fun h => absurd h (by decide), fun _ => List.mem_of_getElem? (i := 556) (by decide +kernel), fun _ _ => List.mem_of_getElem? (i := 557) (by decide +kernel), fun h => absurd h (by decide), by decide⟩
theorem am_k49 : am_okM am_m49 := ⟨by decide +kernel, by decide +kernel, by decide +kernel, List.mem_of_getElem? (i := 562) (by decide +kernel), List.mem_of_getElem? (i := 55) (by decide +kernel), by decide +kernel, by decide, fun h => absurd h (by decide), fun _ => List.mem_of_getElem? (i := 561) (by decide +kernel), fun _ _ => List.mem_of_getElem? (i := 13) (by decide +kernel), fun h => absurd h (by decide), by decide⟩
theorem am_k50 : am_okM am_m50 := ⟨by decide +kernel, by decide +kernel, by decide +kernel, List.mem_of_getElem? (i := 566) (by decide +kernel), List.mem_of_getElem? (i := 56) (by decide +kernel), by decide +kernel, by decide, fun h => absurd h (by decide), fun _ => List.mem_of_getElem? (i := 564) (by decide +kernel), fun _ _ => List.mem_of_getElem? (i := 565) (by decide +kernel), fun h => absurd h (by decide), by decide⟩
theorem am_k51 : am_okM am_m51 := ⟨by decide +kernel, by decide +kernel, by decide +kernel, List.mem_of_getElem? (i := 570) (by decide +kernel), List.mem_of_getElem? (i := 60) (by decide +kernel), by decide +kernel, by decide, fun h => absurd h (by decide), fun _ => List.mem_of_getElem? (i := 568) (by decide +kernel), fun _ _ => List.mem_of_getElem? (i := 569) (by decide +kernel), fun h => absurd h (by decide), by decide⟩
theorem am_k52 : am_okM am_m52 := ⟨by decide +kernel, by decide +kernel, by decide +kernel, List.mem_of_getElem? (i := 574) (by decide +kernel), List.mem_of_getElem? (i := 60) (by decide +kernel), by decide +kernel, by decide, fun h => absurd h (by decide), fun _ => List.mem_of_getElem? (i := 572) (by decide +kernel), fun _ _ => List.mem_of_getElem? (i := 573) (by decide +kernel), fun h => absurd h (by decide), by decide⟩
theorem am_k53 : am_okM am_m53 := ⟨by decide +kernel, by decide +kernel, by decide +kernel, List.mem_of_getElem? (i := 578) (by decide +kernel), List.mem_of_getElem? (i := 55) (by decide +kernel), by decide +kernel, by decide, fun h => absurd h (by decide), fun _ => List.mem_of_getElem? (i := 577) (by decide +kernel), fun _ _ => List.mem_of_getElem? (i := 14) (by decide +kernel), fun h => absurd h (by decide), by decide⟩
theorem am_k54 : am_okM am_m54 := ⟨by decide +kernel, by decide +kernel, by decide +kernel, List.mem_of_getElem? (i := 582) (by decide +kernel), List.mem_of_getElem? (i := 55) (by decide +kernel), by decide +kernel, by decide, fun h => absurd h (by decide), fun _ => List.mem_of_getElem? (i := 580) (by decide +kernel), fun _ _ => List.mem_of_getElem? (i := 581) (by decide +kernel), fun h => absurd h (by decide), by decide⟩
theorem am_k55 : am_okM am_m55 := ⟨by decide +kernel, by decide +kernel, by decide +kernel, List.mem_of_getElem? (i := 586) (by decide +kernel), List.mem_of_getElem? (i := 56) (by decide +kernel), by decide +kernel, by decide, fun h => absurd h (by decide), fun _ => List.mem_of_getElem? (i := 584) (by decide +kernel), fun _ _ => List.mem_of_getElem? (i := 585) (by decide +kernel), fun h => absurd h (by decide), by decide⟩
theorem am_k56 : am_okM am_m56 := ⟨by decide +kernel, by decide +kernel, by decide +kernel, List.mem_of_getElem? (i := 590) (by decide +kernel), List.mem_of_getElem? (i := 56) (by decide +kernel), by decide +kernel, by decide, fun h => absurd h (by decide), fun _ => List.mem_of_getElem? (i := 588) (by decide +kernel), fun _ _ => List.mem_of_getElem? (i := 589) (by decide +kernel), fun h => absurd h (by decide), by decide⟩
theorem am_k57 : am_okM am_m57 := ⟨by decide +kernel, by decide +kernel, by decide +kernel, List.mem_of_getElem? (i := 594) (by decide +kernel), List.mem_of_getElem? (i := 55) (by decide +kernel), by decide +kernel, by decide, fun h => absurd h (by decide), fun _ => List.mem_of_getElem? (i := 592) (by decide +kernel), fun _ _ => List.mem_of_getElem? (i := 593) (by decide +kernel), fun h => absurd h (by decide), by decide⟩
theorem am_k58 : am_okM am_m58 := ⟨by decide +kernel, by decide +kernel, by decide +kernel, List.mem_of_getElem? (i := 598) (by decide +kernel), List.mem_of_getElem? (i := 59) (by decide +kernel), by decide +kernel, by decide, fun h => absurd h (by decide), fun _ => List.mem_of_getElem? (i := 596) (by decide +kernel), fun _ _ => List.mem_of_getElem? (i := 597) (by decide +kernel), fun h => absurd h (by decide), by decide⟩
theorem am_k59 : am_okM am_m59 := ⟨by decide +kernel, by decide +kernel, by decide +kernel, List.mem_of_getElem? (i := 602) (by decide +kernel), List.mem_of_getElem? (i := 55) (by decide +kernel), by decide +kernel, by decide, fun h => absurd h (by decide), fun _ => List.mem_of_getElem? (i := 600) (by decide +kernel), fun _ _ => List.mem_of_getElem? (i := 601) (by decide +kernel), fun h => absurd h (by decide), by decide⟩
theorem am_k60 : am_okM am_m60 := ⟨by decide +kernel, by decide +kernel, by decide +kernel, List.mem_of_getElem? (i := 607) (by decide +kernel), List.mem_of_getElem? (i := 61) (by decide +kernel), by decide +kernel, by decide, fun h => absurd h (by decide), fun _ => List.mem_of_getElem? (i := 605) (by decide +kernel), fun _ _ => List.mem_of_getElem? (i := 606) (by decide +kernel), fun h => absurd h (by decide), by decide⟩
theorem am_k61 : am_okM am_m61 := ⟨by decide +kernel, by decide +kernel, by decide +kernel, List.mem_of_getElem? (i := 612) (by decide +kernel), List.mem_of_getElem? (i := 61) (by decide +kernel), by decide +kernel, by decide, fun h => absurd h (by decide), fun _ => List.mem_of_getElem? (i := 610) (by decide +kernel), fun _ _ => List.mem_of_getElem? (i := 611) (by decide +kernel), fun h => absurd h (by decide), by decide⟩
theorem am_k62 : am_okM am_m62 := ⟨by decide +kernel, by decide +kernel, by decide +kernel, List.mem_of_getElem? (i := 616) (by decide +kernel), List.mem_of_getElem? (i := 61) (by decide +kernel), by decide +kernel, by decide, fun h => absurd h (by decide), fun _ => List.mem_of_getElem? (i := 614) (by decide +kernel), fun _ _ => List.mem_of_getElem? (i := 615) (by decide +kernel), fun h => absurd h (by decide), by decide⟩
theorem am_k64 : am_okM am_m64 := ⟨by decide +kernel, by decide +kernel, by decide +kernel, List.mem_of_getElem? (i := 622) (by decide +kernel), List.mem_of_getElem? (i := 55) (by decide +kernel), by decide +kernel, by decide, fun _ => List.mem_of_getElem? (i := 621) (by decide +kernel), fun h => absurd h (by decide), fun h => absurd h (by decide), fun h => absurd h (by decide), by decide⟩
theorem am_k65 : am_okM am_m65 := ⟨by decide +kernel, by decide +kernel, by decide +kernel, List.mem_of_getElem? (i := 626) (by decide +kernel), List.mem_of_getElem? (i := 55) (by decide +kernel), by decide +kernel, by decide, fun h => absurd h (by decide), fun _ => List.mem_of_getElem? (i := 624) (by decide +kernel), fun _ _ => List.mem_of_getElem? (i := 625) (by decide +kernel), fun h => absurd h (by decide), by decide⟩
theorem am_k66 : am_okM am_m66 := ⟨by decide +kernel, by decide +kernel, by decide +kernel, List.mem_of_getElem? (i := 630) (by decide +kernel), List.mem_of_getElem? (i := 55) (by decide +kernel), by decide +kernel, by decide, fun h => absurd h (by decide), fun _ => List.mem_of_getElem? (i := 629) (by decide +kernel), fun _ _ => List.mem_of_getElem? (i := 15) (by decide +kernel), fun h => absurd h (by decide), by decide⟩
theorem am_k67 : am_okM am_m67 := ⟨by decide +kernel, by decide +kernel, by decide +kernel, List.mem_of_getElem? (i := 634) (by decide +kernel), List.mem_of_getElem? (i := 61) (by decide +kernel), by decide +kernel, by decide, fun h => absurd h (by decide), fun _ => List.mem_of_getElem? (i := 632) (by decide +kernel), fun _ _ => List.mem_of_getElem? (i := 633) (by decide +kernel), fun h => absurd h (by decide), by decide⟩
theorem am_k68 : am_okM am_m68 := ⟨by decide +kernel, by decide +kernel, by decide +kernel, List.mem_of_getElem? (i := 641) (by decide +kernel), List.mem_of_getElem? (i := 55) (by decide +kernel), by decide +kernel, by decide, fun h => absurd h (by decide), fun _ => List.mem_of_getElem? (i := 639) (by decide +kernel), fun _ _ => List.mem_of_getElem? (i := 640) (by decide +kernel), fun h => absurd h (by decide), by decide⟩
theorem am_k69 : am_okM am_m69 := ⟨by decide +kernel, by decide +kernel, by decide +kernel, List.mem_of_getElem? (i := 645) (by decide +kernel), List.mem_of_getElem? (i := 55) (by decide +kernel), by decide +kernel, by decide, fun h => absurd h (by decide), fun _ => List.mem_of_getElem? (i := 643) (by decide +kernel), fun _ _ => List.mem_of_getElem? (i := 644) (by decide +kernel), fun h => absurd h (by decide), by decide⟩
theorem am_k70 : am_okM am_m70 := ⟨by decide +kernel, by decide +kernel, by decide +kernel, List.mem_of_getElem? (i := 650) (by decide +kernel), List.mem_of_getElem? (i := 67) (by decide +kernel), by decide +kernel, by decide, fun h => absurd h (by decide), fun _ => List.mem_of_getElem? (i := 649) (by decide +kernel), fun _ h => absurd h (by decide), fun _ => ⟨rfl, rfl⟩, by decide⟩
theorem am_k71 : am_okM am_m71 := ⟨by decide +kernel, by decide +kernel, by decide +kernel, List.mem_of_getElem? (i := 671) (by decide +kernel), List.mem_of_getElem? (i := 67) (by decide +kernel), by decide +kernel, by decide, fun h => absurd h (by decide), fun _ => List.mem_of_getElem? (i := 669) (by decide +kernel), fun _ _ => List.mem_of_getElem? (i := 670) (by decide +kernel), fun h => absurd h (by decide), by decide⟩
theorem am_k72 : am_okM am_m72 := ⟨by decide +kernel, by decide +kernel, by decide +kernel, List.mem_of_getElem? (i := 674) (by decide +kernel), List.mem_of_getElem? (i := 67) (by decide +kernel), by decide +kernel, by decide, fun _ => List.mem_of_getElem? (i := 673) (by decide +kernel), fun h => absurd h (by decide), fun h => absurd h (by decide), fun h => absurd h (by decide), by decide⟩
theorem am_k73 : am_okM am_m73 := ⟨by decide +kernel, by decide +kernel, by decide +kernel, List.mem_of_getElem? (i := 677) (by decide +kernel), List.mem_of_getElem? (i := 67) (by decide +kernel), by decide +kernel, by decide, fun _ => List.mem_of_getElem? (i := 676) (by decide +kernel), fun h => absurd h (by decide), fun h => absurd h (by decide), fun h => absurd h (by decide), by decide⟩
theorem am_k75 : am_okM am_m75 := ⟨by decide +kernel, by decide +kernel, by decide +kernel, List.mem_of_getElem? (i := 684) (by decide +kernel), List.mem_of_getElem? (i := 67) (by decide +kernel), by decide +kernel, by decide, fun h => absurd h (by decide), fun _ => List.mem_of_getElem? (i := 683) (by decide +kernel), fun _ _ => List.mem_of_getElem? (i := 16) (by decide +kernel), fun h => absurd h (by decide), by decide⟩
theorem am_k76 : am_okM am_m76 := ⟨by decide +kernel, by decide +kernel, by decide +kernel, List.mem_of_getElem? (i := 689) (by decide +kernel), List.mem_of_getElem? (i := 67) (by decide +kernel), by decide +kernel, by decide, fun h => absurd h (by decide), fun _ => List.mem_of_getElem? (i := 688) (by decide +kernel), fun _ _ => List.mem_of_getElem? (i := 17) (by decide +kernel), fun h => absurd h (by decide), by decide⟩
theorem am_k77 : am_okM am_m77 := ⟨by decide +kernel, by decide +kernel, by decide +kernel, List.mem_of_getElem? (i := 693) (by decide +kernel), List.mem_of_getElem? (i := 67) (by decide +kernel), by decide +kernel, by decide, fun h => absurd h (by decide), fun _ => List.mem_of_getElem? (i := 692) (by decide +kernel), fun _ _ => List.mem_of_getElem? (i := 18) (by decide +kernel), fun h => absurd h (by decide), by decide⟩
theorem am_k78 : am_okM am_m78 := ⟨by decide +kernel, by decide +kernel, by decide +kernel, List.mem_of_getElem? (i := 696) (by decide +kernel), List.mem_of_getElem? (i := 67) (by decide +kernel), by decide +kernel, by decide, fun _ => List.mem_of_getElem? (i := 695) (by decide +kernel), fun h => absurd h (by decide), fun h => absurd h (by decide), fun h => absurd h (by decide), by decide⟩
theorem am_k79 : am_okM am_m79 := ⟨by decide +kernel, by decide +kernel, by decide +kernel, List.mem_of_getElem? (i := 700) (by decide +kernel), List.mem_of_getElem? (i := 55) (by decide +kernel), by decide +kernel, by decide, fun h => absurd h (by decide), fun _ => List.mem_of_getElem? (i := 698) (by decide +kernel), fun _ _ => List.mem_of_getElem? (i := 699) (by decide +kernel), fun h => absurd h (by decide), by decide⟩
theorem am_k80 : am_okM am_m80 := ⟨by decide +kernel, by decide +kernel, by decide +kernel, List.mem_of_getElem? (i := 704) (by decide +kernel), List.mem_of_getElem? (i := 67) (by decide +kernel), by decide +kernel, by decide, fun h => absurd h (by decide), fun _ => List.mem_of_getElem? (i := 702) (by decide +kernel), fun _ _ => List.mem_of_getElem? (i := 703) (by decide +kernel), fun h => absurd h (by decide), by decide⟩
theorem am_k81 : am_okM am_m81 := ⟨by decide +kernel, by decide +kernel, by decide +kernel, List.mem_of_getElem? (i := 708) (by decide +kernel), List.mem_of_getElem? (i := 67) (by decide +kernel), by decide +kernel, by decide, fun h => absurd h (by decide), fun _ => List.mem_of_getElem? (i := 707) (by decide +kernel), fun _ _ => List.mem_of_getElem? (i := 19) (by decide +kernel), fun h => absurd h (by decide), by decide⟩
theorem am_k82 : am_okM am_m82 := ⟨by decide +kernel, by decide +kernel, by decide +kernel, List.mem_of_getElem? (i := 712) (by decide +kernel), List.mem_of_getElem? (i := 67) (by decide +kernel), by decide +kernel, by decide, fun h => absurd h (by decide), fun _ => List.mem_of_getElem? (i := 711) (by decide +kernel), fun _ _ => List.mem_of_getElem? (i := 20) (by decide +kernel), fun h => absurd h (by decide), by decide⟩
theorem am_k83 : am_okM am_m83 := ⟨by decide +kernel, by decide +kernel, by decide +kernel, List.mem_of_getElem? (i := 716) (by decide +kernel), List.mem_of_getElem? (i := 67) (by decide +kernel), by decide +kernel, by decide, fun h => absurd h (by decide), fun _ => List.mem_of_getElem? (i := 715) (by decide +kernel), fun _ _ => List.mem_of_getElem? (i := 21) (by decide +kernel), fun h => absurd h (by decide), by decide⟩
theorem am_k84 : am_okM am_m84 := ⟨by decide +kernel, by decide +kernel, by decide +kernel, List.mem_of_getElem? (i := 720) (by decide +kernel), List.mem_of_getElem? (i := 55) (by decide +kernel), by decide +kernel, by decide, fun h => absurd h (by decide), fun _ => List.mem_of_getElem? (i := 718) (by decide +kernel), fun _ _ => List.mem_of_getElem? (i := 719) (by decide +kernel), fun h => absurd h (by decide), by decide⟩
theorem am_k85 : am_okM am_m85 := ⟨by decide +kernel, by decide +kernel, by decide +kernel, List.mem_of_getElem? (i := 724) (by decide +kernel), List.mem_of_getElem? (i := 56) (by decide +kernel), by decide +kernel, by decide, fun h => absurd h (by decide), fun _ => List.mem_of_getElem? (i := 722) (by decide +kernel), fun _ _ => List.mem_of_getElem? (i := 723) (by decide +kernel), fun h => absurd h (by decide), by decide⟩
theorem am_k86 : am_okM am_m86 := ⟨by decide +kernel, by decide +kernel, by decide +kernel, List.mem_of_getElem? (i := 728) (by decide +kernel), List.mem_of_getElem? (i := 62) (by decide +kernel), by decide +kernel, by decide, fun h => absurd h (by decide), fun _ => List.mem_of_getElem? (i := 726) (by decide +kernel), fun _ _ => List.mem_of_getElem? (i := 727) (by decide +kernel), fun h => absurd h (by decide), by decide⟩
theorem am_k87 : am_okM am_m87 := ⟨by decide +kernel, by decide +kernel, by decide +kernel, List.mem_of_getElem? (i := 732) (by decide +kernel), List.mem_of_getElem? (i := 59) (by decide +kernel), by decide +kernel, by decide, fun h => absurd h (by decide), fun _ => List.mem_of_getElem? (i := 730) (by decide +kernel), fun _ _ => List.mem_of_getElem? (i := 731) (by decide +kernel), fun h => absurd h (by decide), by decide⟩
theorem am_k88 : am_okM am_m88 := ⟨by decide +kernel, by decide +kernel, by decide +kernel, List.mem_of_getElem? (i := 736) (by decide +kernel), List.mem_of_getElem? (i := 62) (by decide +kernel), by decide +kernel, by decide, fun h => absurd h (by decide), fun _ => List.mem_of_getElem? (i := 735) (by decide +kernel), fun _ _ => List.mem_of_getElem? (i := 22) (by decide +kernel), fun h => absurd h (by decide), by decide⟩
theorem am_k90 : am_okM am_m90 := ⟨by decide +kernel, by decide +kernel, by decide +kernel, List.mem_of_getElem? (i := 744) (by decide +kernel), List.mem_of_getElem? (i := 62) (by decide +kernel), by decide +kernel, by decide, fun h => absurd h (by decide), fun _ => List.mem_of_getElem? (i := 743) (by decide +kernel), fun _ _ => List.mem_of_getElem? (i := 23) (by decide +kernel), fun h => absurd h (by decide), by decide⟩
theorem am_k91 : am_okM am_m91 := ⟨by decide +kernel, by decide +kernel, by decide +kernel, List.mem_of_getElem? (i := 748) (by decide +kernel), List.mem_of_getElem? (i := 62) (by decide +kernel), by decide +kernel, by decide, fun h => absurd h (by decide), fun _ => List.mem_of_getElem? (i := 747) (by decide +kernel), fun _ _ => List.mem_of_getElem? (i := 24) (by decide +kernel), fun h => absurd h (by decide), by decide⟩
theorem am_k92 : am_okM am_m92 := ⟨by decide +kernel, by decide +kernel, by decide +kernel, List.mem_of_getElem? (i := 752) (by decide +kernel), List.mem_of_getElem? (i := 62) (by decide +kernel), by decide +kernel, by decide, fun h => absurd h (by decide), fun _ => List.mem_of_getElem? (i := 751) (by decide +kernel), fun _ _ => List.mem_of_getElem? (i := 25) (by decide +kernel), fun h => absurd h (by decide), by decide⟩
theorem am_k93 : am_okM am_m93 := ⟨by decide +kernel, by decide +kernel, by decide +kernel, List.mem_of_getElem? (i := 758) (by decide +kernel), List.mem_of_getElem? (i := 55) (by decide +kernel), by decide +kernel, by decide, fun h => absurd h (by decide), fun _ => List.mem_of_getElem? (i := 756) (by decide +kernel), fun _ _ => List.mem_of_getElem? (i := 757) (by decide +kernel), fun h => absurd h (by decide), by decide⟩
theorem am_k94 : am_okM am_m94 := ⟨by decide +kernel, by decide +kernel, by decide +kernel, List.mem_of_getElem? (i := 762) (by decide +kernel), List.mem_of_getElem? (i := 55) (by decide +kernel), by decide +kernel, by decide, fun h => absurd h (by decide), fun _ => List.mem_of_getElem? (i := 760) (by decide +kernel), fun _ _ => List.mem_of_getElem? (i := 761) (by decide +kernel), fun h => absurd h (by decide), by decide⟩
theorem am_k95 : am_okM am_m95 := ⟨by decide +kernel, by decide +kernel, by decide +kernel, List.mem_of_getElem? (i := 766) (by decide +kernel), List.mem_of_getElem? (i := 56) (by decide +kernel), by decide +kernel, by decide, fun h => absurd h (by decide), fun _ => List.mem_of_getElem? (i := 764) (by decide +kernel), fun _ _ => List.mem_of_getElem? (i := 765) (by decide +kernel), fun h => absurd h (by decide), by decide⟩
theorem am_k96 : am_okM am_m96 := ⟨by decide +kernel, by decide +kernel, by decide +kernel, List.mem_of_getElem? (i := 770) (by decide +kernel), List.mem_of_getElem? (i := 56) (by decide +kernel), by decide +kernel, by decide, fun h => absurd h (by decide), fun _ => List.mem_of_getElem? (i := 768) (by decide +kernel), fun _ _ => List.mem_of_getElem? (i := 769) (by decide +kernel), fun h => absurd h (by decide), by decide⟩
theorem am_k97 : am_okM am_m97 := ⟨by decide +kernel, by decide +kernel, by decide +kernel, List.mem_of_getElem? (i := 776) (by decide +kernel), List.mem_of_getElem? (i := 63) (by decide +kernel), by decide +kernel, by decide, fun h => absurd h (by decide), fun _ => List.mem_of_getElem? (i := 775) (by decide +kernel), fun _ h => absurd h (by decide), fun _ => ⟨rfl, rfl⟩, by decide⟩
theorem am_k98 : am_okM am_m98 := ⟨by decide +kernel, by decide +kernel, by decide +kernel, List.mem_of_getElem? (i := 904) (by decide +kernel), List.mem_of_getElem? (i := 63) (by decide +kernel), by decide +kernel, by decide, fun h => absurd h (by decide), fun _ => List.mem_of_getElem? (i := 902) (by decide +kernel), fun _ _ => List.mem_of_getElem? (i := 903) (by decide +kernel), fun h => absurd h (by decide), by decide⟩
theorem am_k99 : am_okM am_m99 := ⟨by decide +kernel, by decide +kernel, by decide +kernel, List.mem_of_getElem? (i := 907) (by decide +kernel), List.mem_of_getElem? (i := 63) (by decide +kernel), by decide +kernel, by decide, fun _ => List.mem_of_getElem? (i := 906) (by decide +kernel), fun h => absurd h (by decide), fun h => absurd h (by decide), fun h => absurd h (by decide), by decide⟩
theorem am_k100 : am_okM am_m100 := ⟨by decide +kernel, by decide +kernel, by decide +kernel, List.mem_of_getElem? (i := 911) (by decide +kernel), List.mem_of_getElem? (i := 63) (by decide +kernel), by decide +kernel, by decide, fun h => absurd h (by decide), fun _ => List.mem_of_getElem? (i := 909) (by decide +kernel), fun _ _ => List.mem_of_getElem? (i := 910) (by decide +kernel), fun h => absurd h (by decide), by decide⟩
theorem am_k101 : am_okM am_m101 := ⟨by decide +kernel, by decide +kernel, by decide +kernel, List.mem_of_getElem? (i := 915) (by decide +kernel), List.mem_of_getElem? (i := 63) (by decide +kernel), by decide +kernel, by decide, fun h => absurd h (by decide), fun _ => List.mem_of_getElem? (i := 914) (by decide +kernel), fun _ _ => List.mem_of_getElem? (i := 26) (by decide +kernel), fun h => absurd h (by decide), by decide⟩
theorem am_k102 : am_okM am_m102 := ⟨by decide +kernel, by decide +kernel, by decide +kernel, List.mem_of_getElem? (i := 919) (by decide +kernel), List.mem_of_getElem? (i := 63) (by decide +kernel), by decide +kernel, by decide, fun h => absurd h (by decide), fun _ => List.mem_of_getElem? (i := 917) (by decide +kernel), fun _ _ => List.mem_of_getElem? (i := 918) (by decide +kernel), fun h => absurd h (by decide), by decide⟩
theorem am_k103 : am_okM am_m103 := ⟨by decide +kernel, by decide +kernel, by decide +kernel, List.mem_of_getElem? (i := 923) (by decide +kernel), List.mem_of_getElem? (i := 63) (by decide +kernel), by decide +kernel, by decide, fun h => absurd h (by decide), fun _ => List.mem_of_getElem? (i := 921) (by decide +kernel), fun _ _ => List.mem_of_getElem? (i := 922) (by decide +kernel), fun h => absurd h (by decide), by decide⟩
theorem am_k104 : am_okM am_m104 := ⟨by decide +kernel, by decide +kernel, by decide +kernel, List.mem_of_getElem? (i := 927) (by decide +kernel), List.mem_of_getElem? (i := 63) (by decide +kernel), by decide +kernel, by decide, fun h => absurd h (by decide), fun _ => List.mem_of_getElem? (i := 925) (by decide +kernel), fun _ _ => List.mem_of_getElem? (i := 926) (by decide +kernel), fun h => absurd h (by decide), by decide⟩
theorem am_k105 : am_okM am_m105 := ⟨by decide +kernel, by decide +kernel, by decide +kernel, List.mem_of_getElem? (i := 931) (by decide +kernel), List.mem_of_getElem? (i := 63) (by decide +kernel), by decide +kernel, by decide, fun h => absurd h (by decide), fun _ => List.mem_of_getElem? (i := 929) (by decide +kernel), fun _ _ => List.mem_of_getElem? (i := 930) (by decide +kernel), fun h => absurd h (by decide), by decide⟩
theorem am_k106 : am_okM am_m106 := ⟨by decide +kernel, by decide +kernel, by decide +kernel, List.mem_of_getElem? (i := 935) (by decide +kernel), List.mem_of_getElem? (i := 63) (by decide +kernel), by decide +kernel, by decide, fun h => absurd h (by decide), fun _ => List.mem_of_getElem? (i := 934) (by decide +kernel), fun _ _ => List.mem_of_getElem? (i := 27) (by decide +kernel), fun h => absurd h (by decide), by decide⟩
theorem am_k107 : am_okM am_m107 := ⟨by decide +kernel, by decide +kernel, by decide +kernel, List.mem_of_getElem? (i := 939) (by decide +kernel), List.mem_of_getElem? (i := 63) (by decide +kernel), by decide +kernel, by decide, fun h => absurd h (by decide), fun _ => List.mem_of_getElem? (i := 938) (by decide +kernel), fun _ _ => List.mem_of_getElem? (i := 28) (by decide +kernel), fun h => absurd h (by decide), by decide⟩
theorem am_k108 : am_okM am_m108 := ⟨by decide +kernel, by decide +kernel, by decide +kernel, List.mem_of_getElem? (i := 943) (by decide +kernel), List.mem_of_getElem? (i := 63) (by decide +kernel), by decide +kernel, by decide, fun h => absurd h (by decide), fun _ => List.mem_of_getElem? (i := 942) (by decide +kernel), fun _ _ => List.mem_of_getElem? (i := 29) (by decide +kernel), fun h => absurd h (by decide), by decide⟩
theorem am_k109 : am_okM am_m109 := ⟨by decide +kernel, by decide +kernel, by decide +kernel, List.mem_of_getElem? (i := 947) (by decide +kernel), List.mem_of_getElem? (i := 63) (by decide +kernel), by decide +kernel, by decide, fun h => absurd h (by decide), fun _ => List.mem_of_getElem? (i := 946) (by decide +kernel), fun _ _ => List.mem_of_getElem? (i := 30) (by decide +kernel), fun h => absurd h (by decide), by decide⟩
theorem am_k110 : am_okM am_m110 := ⟨by decide +kernel, by decide +kernel, by decide +kernel, List.mem_of_getElem? (i := 951) (by decide +kernel), List.mem_of_getElem? (i := 63) (by decide +kernel), by decide +kernel, by decide, fun h => absurd h (by decide), fun _ => List.mem_of_getElem? (i := 950) (by decide +kernel), fun _ _ => List.mem_of_getElem? (i := 31) (by decide +kernel), fun h => absurd h (by decide), by decide⟩
theorem am_k111 : am_okM am_m111 := ⟨by decide +kernel, by decide +kernel, by decide +kernel, List.mem_of_getElem? (i := 955) (by decide +kernel), List.mem_of_getElem? (i := 63) (by decide +kernel), by decide +kernel, by decide, fun h => absurd h (by decide), fun _ => List.mem_of_getElem? (i := 954) (by decide +kernel), fun _ _ => List.mem_of_getElem? (i := 32) (by decide +kernel), fun h => absurd h (by decide), by decide⟩
theorem am_k112 : am_okM am_m112 := ⟨by decide +kernel, by decide +kernel, by decide +kernel, List.mem_of_getElem? (i := 958) (by decide +kernel), List.mem_of_getElem? (i := 63) (by decide +kernel), by decide +kernel, by decide, fun _ => List.mem_of_getElem? (i := 957) (by decide +kernel), fun h => absurd h (by decide), fun h => absurd h (by decide), fun h => absurd h (by decide), by decide⟩
theorem am_k113 : am_okM am_m113 := ⟨by decide +kernel, by decide +kernel, by decide +kernel, List.mem_of_getElem? (i := 962) (by decide +kernel), List.mem_of_getElem? (i := 63) (by decide +kernel), by decide +kernel, by decide, fun h => absurd h (by decide), fun _ => List.mem_of_getElem? (i := 961) (by decide +kernel), fun _ _ => List.mem_of_getElem? (i := 33) (by decide +kernel), fun h => absurd h (by decide), by decide⟩
theorem am_k114 : am_okM am_m114 := ⟨by decide +kernel, by decide +kernel, by decide +kernel, List.mem_of_getElem? (i := 966) (by decide +kernel), List.mem_of_getElem? (i := 63) (by decide +kernel), by decide +kernel, by decide, fun h => absurd h (by decide), fun _ => List.mem_of_getElem? (i := 965) (by decide +kernel), fun _ _ => List.mem_of_getElem? (i := 34) (by decide +kernel), fun h => absurd h (by decide), by decide⟩
theorem am_k115 : am_okM am_m115 := ⟨by decide +kernel, by decide +kernel, by decide +kernel, List.mem_of_getElem? (i := 970) (by decide +kernel), List.mem_of_getElem? (i := 63) (by decide +kernel), by decide +kernel, by decide, fun h => absurd h (by decide), fun _ => List.mem_of_getElem? (i := 969) (by decide +kernel), fun _ _ => List.mem_of_getElem? (i := 35) (by decide +kernel), fun h => absurd h (by decide), by decide⟩
theorem am_k116 : am_okM am_m116 := ⟨by decide +kernel, by decide +kernel, by decide +kernel, List.mem_of_getElem? (i := 974) (by decide +kernel), List.mem_of_getElem? (i := 63) (by decide +kernel), by decide +kernel, by decide, fun h => absurd h (by decide), fun _ => List.mem_of_getElem? (i := 973) (by decide +kernel), fun _ _ => List.mem_of_getElem? (i := 36) (by decide +kernel), fun h => absurd h (by decide), by decide⟩
theorem am_k117 : am_okM am_m117 := ⟨by decide +kernel, by decide +kernel, by decide +kernel, List.mem_of_getElem? (i := 978) (by decide +kernel), List.mem_of_getElem? (i := 63) (by decide +kernel), by decide +kernel, by decide, fun h => absurd h (by decide), fun _ => List.mem_of_getElem? (i := 976) (by decide +kernel), fun _ _ => List.mem_of_getElem? (i := 977) (by decide +kernel), fun h => absurd h (by decide), by decide⟩
theorem am_k118 : am_okM am_m118 := ⟨by decide +kernel, by decide +kernel, by decide +kernel, List.mem_of_getElem? (i := 982) (by decide +kernel), List.mem_of_getElem? (i := 63) (by decide +kernel), by decide +kernel, by decide, fun h => absurd h (by decide), fun _ => List.mem_of_getElem? (i := 980) (by decide +kernel), fun _ _ => List.mem_of_getElem? (i := 981) (by decide +kernel), fun h => absurd h (by decide), by decide⟩
theorem am_k119 : am_okM am_m119 := ⟨by decide +kernel, by decide +kernel, by decide +kernel, List.mem_of_getElem? (i := 986) (by decide +kernel), List.mem_of_getElem? (i := 63) (by decide +kernel), by decide +kernel, by decide, fun h => absurd h (by decide), fun _ => List.mem_of_getElem? (i := 985) (by decide +kernel), fun _ _ => List.mem_of_getElem? (i := 37) (by decide +kernel), fun h => absurd h (by decide), by decide⟩
theorem am_k120 : am_okM am_m120 := ⟨by decide +kernel, by decide +kernel, by decide +kernel, List.mem_of_getElem? (i := 990) (by decide +kernel), List.mem_of_getElem? (i := 63) (by decide +kernel), by decide +kernel, by decide, fun h => absurd h (by decide), fun _ => List.mem_of_getElem? (i := 989) (by decide +kernel), fun _ _ => List.mem_of_getElem? (i := 38) (by decide +kernel), fun h => absurd h (by decide), by decide⟩
theorem am_k121 : am_okM am_m121 := ⟨by decide +kernel, by decide +kernel, by decide +kernel, List.mem_of_getElem? (i := 994) (by decide +kernel), List.mem_of_getElem? (i := 63) (by decide +kernel), by decide +kernel, by decide, fun h => absurd h (by decide), fun _ => List.mem_of_getElem? (i := 992) (by decide +kernel), fun _ _ => List.mem_of_getElem? (i := 993) (by decide +kernel), fun h => absurd h (by decide), by decide⟩
theorem am_k122 : am_okM am_m122 := ⟨by decide +kernel, by decide +kernel, by decide +kernel, List.mem_of_getElem? (i := 998) (by decide +kernel), List.mem_of_getElem? (i := 63) (by decide +kernel), by decide +kernel, by decide, fun h => absurd h (by decide), fun _ => List.mem_of_getElem? (i := 996) (by decide +kernel), fun _ _ => List.mem_of_getElem? (i := 997) (by decide +kernel), fun h => absurd h (by decide), by decide⟩
theorem am_k123 : am_okM am_m123 := ⟨by decide +kernel, by decide +kernel, by decide +kernel, List.mem_of_getElem? (i := 1002) (by decide +kernel), List.mem_of_getElem? (i := 63) (by decide +kernel), by decide +kernel, by decide, fun h => absurd h (by decide), fun _ => List.mem_of_getElem? (i := 1000) (by decide +kernel), fun _ _ => List.mem_of_getElem? (i := 1001) (by decide +kernel), fun h => absurd h (by decide), by decide⟩
theorem am_k124 : am_okM am_m124 := ⟨by decide +kernel, by decide +kernel, by decide +kernel, List.mem_of_getElem? (i := 1006) (by decide +kernel), List.mem_of_getElem? (i := 63) (by decide +kernel), by decide +kernel, by decide, fun h => absurd h (by decide), fun _ => List.mem_of_getElem? (i := 1005) (by decide +kernel), fun _ _ => List.mem_of_getElem? (i := 39) (by decide +kernel), fun h => absurd h (by decide), by decide⟩
theorem am_k125 : am_okM am_m125 := ⟨by decide +kernel, by decide +kernel, by decide +kernel, List.mem_of_getElem? (i := 1010) (by decide +kernel), List.mem_of_getElem? (i := 63) (by decide +kernel), by decide +kernel, by decide, fun h => absurd h (by decide), fun _ => List.mem_of_getElem? (i := 1009) (by decide +kernel), fun _ _ => List.mem_of_getElem? (i := 40) (by decide +kernel), fun h => absurd h (by decide), by decide⟩
theorem am_k126 : am_okM am_m126 := ⟨by decide +kernel, by decide +kernel, by decide +kernel, List.mem_of_getElem? (i := 1014) (by decide +kernel), List.mem_of_getElem? (i := 63) (by decide +kernel), by decide +kernel, by decide, fun h => absurd h (by decide), fun _ => List.mem_of_getElem? (i := 1013) (by decide +kernel), fun _ _ => List.mem_of_getElem? (i := 41) (by decide +kernel), fun h => absurd h (by decide), by decide⟩
theorem am_k127 : am_okM am_m127 := ⟨by decide +kernel, by decide +kernel, by decide +kernel, List.mem_of_getElem? (i := 1018) (by decide +kernel), List.mem_of_getElem? (i := 63) (by decide +kernel), by decide +kernel, by decide, fun h => absurd h (by decide), fun _ => List.mem_of_getElem? (i := 1017) (by decide +kernel), fun _ _ => List.mem_of_getElem? (i := 42) (by decide +kernel), fun h => absurd h (by decide), by decide⟩
theorem am_k128 : am_okM am_m128 := ⟨by decide +kernel, by decide +kernel, by decide +kernel, List.mem_of_getElem? (i := 1022) (by decide +kernel), List.mem_of_getElem? (i := 63) (by decide +kernel), by decide +kernel, by decide, fun h => absurd h (by decide), fun _ => List.mem_of_getElem? (i := 1021) (by decide +kernel), fun _ _ => List.mem_of_getElem? (i := 43) (by decide +kernel), fun h => absurd h (by decide), by decide⟩
theorem am_k129 : am_okM am_m129 := ⟨by decide +kernel, by decide +kernel, by decide +kernel, List.mem_of_getElem? (i := 1026) (by decide +kernel), List.mem_of_getElem? (i := 63) (by decide +kernel), by decide +kernel, by decide, fun h => absurd h (by decide), fun _ => List.mem_of_getElem? (i := 1024) (by decide +kernel), fun _ _ => List.mem_of_getElem? (i := 1025) (by decide +kernel), fun h => absurd h (by decide), by decide⟩
theorem am_k130 : am_okM am_m130 := ⟨by decide +kernel, by decide +kernel, by decide +kernel, List.mem_of_getElem? (i := 1030) (by decide +kernel), List.mem_of_getElem? (i := 63) (by decide +kernel), by decide +kernel, by decide, fun h => absurd h (by decide), fun _ => List.mem_of_getElem? (i := 1028) (by decide +kernel), fun _ _ => List.mem_of_getElem? (i := 1029) (by decide +kernel), fun h => absurd h (by decide), by decide⟩
theorem am_k131 : am_okM am_m131 := ⟨by decide +kernel, by decide +kernel, by decide +kernel, List.mem_of_getElem? (i := 1034) (by decide +kernel), List.mem_of_getElem? (i := 63) (by decide +kernel), by decide +kernel, by decide, fun h => absurd h (by decide), fun _ => List.mem_of_getElem? (i := 1032) (by decide +kernel), fun _ _ => List.mem_of_getElem? (i := 1033) (by decide +kernel), fun h => absurd h (by decide), by decide⟩
theorem am_k132 : am_okM am_m132 := ⟨by decide +kernel, by decide +kernel, by decide +kernel, List.mem_of_getElem? (i := 1039) (by decide +kernel), List.mem_of_getElem? (i := 63) (by decide +kernel), by decide +kernel, by decide, fun h => absurd h (by decide), fun _ => List.mem_of_getElem? (i := 1038) (by decide +kernel), fun _ _ => List.mem_of_getElem? (i := 44) (by decide +kernel), fun h => absurd h (by decide), by decide⟩
theorem am_k133 : am_okM am_m133 := ⟨by decide +kernel, by decide +kernel, by decide +kernel, List.mem_of_getElem? (i := 1043) (by decide +kernel), List.mem_of_getElem? (i := 63) (by decide +kernel), by decide +kernel, by decide, fun h => absurd h (by decide), fun _ => List.mem_of_getElem? (i := 1042) (by decide +kernel), fun _ _ => List.mem_of_getElem? (i := 45) (by decide +kernel), fun h => absurd h (by decide), by decide⟩
theorem am_k134 : am_okM am_m134 := ⟨by decide +kernel, by decide +kernel, by decide +kernel, List.mem_of_getElem? (i := 1047) (by decide +kernel), List.mem_of_getElem? (i := 63) (by decide +kernel), by decide +kernel, by decide, fun h => absurd h (by decide), fun _ => List.mem_of_getElem? (i := 1046) (by decide +kernel), fun _ _ => List.mem_of_getElem? (i := 46) (by decide +kernel), fun h => absurd h (by decide), by decide⟩
theorem am_k135 : am_okM am_m135 := ⟨by decide +kernel, by decide +kernel, by decide +kernel, List.mem_of_getElem? (i := 1051) (by decide +kernel), List.mem_of_getElem? (i := 63) (by decide +kernel), by decide +kernel, by decide, fun h => absurd h (by decide), fun _ => List.mem_of_getElem? (i := 1049) (by decide +kernel), fun _ _ => List.mem_of_getElem? (i := 1050) (by decide +kernel), fun h => absurd h (by decide), by decide⟩
theorem am_k136 : am_okM am_m136 := ⟨by decide +kernel, by decide +kernel, by decide +kernel, List.mem_of_getElem? (i := 1055) (by decide +kernel), List.mem_of_getElem? (i := 63) (by decide +kernel), by decide +kernel, by decide, fun h => absurd h (by decide), fun _ => List.mem_of_getElem? (i := 1054) (by decide +kernel), fun _ _ => List.mem_of_getElem? (i := 47) (by decide +kernel), fun h => absurd h (by decide), by decide⟩
theorem am_k137 : am_okM am_m137 := ⟨by decide +kernel, by decide +kernel, by decide +kernel, List.mem_of_getElem? (i := 1060) (by decide +kernel), List.mem_of_getElem? (i := 63) (by decide +kernel), by decide +kernel, by decide, fun h => absurd h (by decide), fun _ => List.mem_of_getElem? (i := 1058) (by decide +kernel), fun _ _ => List.mem_of_getElem? (i := 1059) (by decide +kernel), fun h => absurd h (by decide), by decide⟩
theorem am_k138 : am_okM am_m138 := ⟨by decide +kernel, by decide +kernel, by decide +kernel, List.mem_of_getElem? (i := 1064) (by decide +kernel), List.mem_of_getElem? (i := 63) (by decide +kernel), by decide +kernel, by decide, fun h => absurd h (by decide), fun _ => List.mem_of_getElem? (i := 1062) (by decide +kernel), fun _ _ => List.mem_of_getElem? (i := 1063) (by decide +kernel), fun h => absurd h (by decide), by decide⟩
theorem am_k139 : am_okM am_m139 := ⟨by decide +kernel, by decide +kernel, by decide +kernel, List.mem_of_getElem? (i := 1068) (by decide +kernel), List.mem_of_getElem? (i := 63) (by decide +kernel), by decide +kernel, by decide, fun h => absurd h (by decide), fun _ => List.mem_of_getElem? (i := 1067) (by decide +kernel), fun _ _ => List.mem_of_getElem? (i := 48) (by decide +kernel), fun h => absurd h (by decide), by decide⟩
theorem am_k140 : am_okM am_m140 := ⟨by decide +kernel, by decide +kernel, by decide +kernel, List.mem_of_getElem? (i := 1072) (by decide +kernel), List.mem_of_getElem? (i := 63) (by decide +kernel), by decide +kernel, by decide, fun h => absurd h (by decide), fun _ => List.mem_of_getElem? (i := 1071) (by decide +kernel), fun _ _ => List.mem_of_getElem? (i := 49) (by decide +kernel), fun h => absurd h (by decide), by decide⟩
theorem am_k141 : am_okM am_m141 := ⟨by decide +kernel, by decide +kernel, by decide +kernel, List.mem_of_getElem? (i := 1075) (by decide +kernel), List.mem_of_getElem? (i := 63) (by decide +kernel), by decide +kernel, by decide, fun _ => List.mem_of_getElem? (i := 1074) (by decide +kernel), fun h => absurd h (by decide), fun h => absurd h (by decide), fun h => absurd h (by decide), by decide⟩
theorem am_k142 : am_okM am_m142 := ⟨by decide +kernel, by decide +kernel, by decide +kernel, List.mem_of_getElem? (i := 1078) (by decide +kernel), List.mem_of_getElem? (i := 63) (by decide +kernel), by decide +kernel, by decide, fun _ => List.mem_of_getElem? (i := 1077) (by decide +kernel), fun h => absurd h (by decide), fun h => absurd h (by decide), fun h => absurd h (by decide), by decide⟩
theorem am_k143 : am_okM am_m143 := ⟨by decide +kernel, by decide +kernel, by decide +kernel, List.mem_of_getElem? (i := 1082) (by decide +kernel), List.mem_of_getElem? (i := 63) (by decide +kernel), by decide +kernel, by decide, fun h => absurd h (by decide), fun _ => List.mem_of_getElem? (i := 1081) (by decide +kernel), fun _ _ => List.mem_of_getElem? (i := 50) (by decide +kernel), fun h => absurd h (by decide), by decide⟩
theorem am_k144 : am_okM am_m144 := ⟨by decide +kernel, by decide +kernel, by decide +kernel, List.mem_of_getElem? (i := 1086) (by decide +kernel), List.mem_of_getElem? (i := 63) (by decide +kernel), by decide +kernel, by decide, fun h => absurd h (by decide), fun _ => List.mem_of_getElem? (i := 1084) (by decide +kernel), fun _ _ => List.mem_of_getElem? (i := 1085) (by decide +kernel), fun h => absurd h (by decide), by decide⟩
theorem am_k145 : am_okM am_m145 := ⟨by decide +kernel, by decide +kernel, by decide +kernel, List.mem_of_getElem? (i := 1090) (by decide +kernel), List.mem_of_getElem? (i := 63) (by decide +kernel), by decide +kernel, by decide, fun h => absurd h (by decide), fun _ => List.mem_of_getElem? (i := 1088) (by decide +kernel), fun _ _ => List.mem_of_getElem? (i := 1089) (by decide +kernel), fun h => absurd h (by decide), by decide⟩
theorem am_k146 : am_okM am_m146 := ⟨by decide +kernel, by decide +kernel, by decide +kernel, List.mem_of_getElem? (i := 1094) (by decide +kernel), List.mem_of_getElem? (i := 63) (by decide +kernel), by decide +kernel, by decide, fun h => absurd h (by decide), fun _ => List.mem_of_getElem? (i := 1093) (by decide +kernel), fun _ _ => List.mem_of_getElem? (i := 51) (by decide +kernel), fun h => absurd h (by decide), by decide⟩
theorem am_k147 : am_okM am_m147 := ⟨by decide +kernel, by decide +kernel, by decide +kernel, List.mem_of_getElem? (i := 1098) (by decide +kernel), List.mem_of_getElem? (i := 63) (by decide +kernel), by decide +kernel, by decide, fun h => absurd h (by decide), fun _ => List.mem_of_getElem? (i := 1097) (by decide +kernel), fun _ _ => List.mem_of_getElem? (i := 52) (by decide +kernel), fun h => absurd h (by decide), by decide⟩
theorem am_k148 : am_okM am_m148 := ⟨by decide +kernel, by decide +kernel, by decide +kernel, List.mem_of_getElem? (i := 1102) (by decide +kernel), List.mem_of_getElem? (i := 63) (by decide +kernel), by decide +kernel, by decide, fun h => absurd h (by decide), fun _ => List.mem_of_getElem? (i := 1101) (by decide +kernel), fun _ _ => List.mem_of_getElem? (i := 53) (by decide +kernel), fun h => absurd h (by decide), by decide⟩
theorem am_k149 : am_okM am_m149 := ⟨by decide +kernel, by decide +kernel, by decide +kernel, List.mem_of_getElem? (i := 1106) (by decide +kernel), List.mem_of_getElem? (i := 63) (by decide +kernel), by decide +kernel, by decide, fun h => absurd h (by decide), fun _ => List.mem_of_getElem? (i := 1104) (by decide +kernel), fun _ _ => List.mem_of_getElem? (i := 1105) (by decide +kernel), fun h => absurd h (by decide), by decide⟩
theorem am_k150 : am_okM am_m150 := ⟨by decide +kernel, by decide +kernel, by decide +kernel, List.mem_of_getElem? (i := 1110) (by decide +kernel), List.mem_of_getElem? (i := 63) (by decide +kernel), by decide +kernel, by decide, fun h => absurd h (by decide), fun _ => List.mem_of_getElem? (i := 1108) (by decide +kernel), fun _ _ => List.mem_of_getElem? (i := 1109) (by decide +kernel), fun h => absurd h (by decide), by decide⟩
end
section
/-! THE MACHINE IN SMALL: a step function over a frame, cells by number, references apart from whole numbers -/
abbrev am_T : Type := List (Nat ⊕ (Nat × Nat))
abbrev am_L : Type := List (Option Value)
/-- an instruction: pc, itself, length, next pc, two numbers, a constant, targets -/
abbrev am_I : Type := Nat × Instr × Nat × Nat × Nat × Nat × Int32 × List Nat
/-- pc, locals, stack, kinds of the cells, references, whole numbers -/
abbrev am_S : Type := Nat × am_L × List Value × am_T × (Nat → Nat → Value) × (Nat → Nat → Int32)
def am_us (σ : Nat → Nat → Int32) (c k : Nat) (x : Int32) : Nat → Nat → Int32 := fun c' k' => if c' = c ∧ k' = k then x else σ c' k'
def am_ur (ρ : Nat → Nat → Value) (c k : Nat) (x : Value) : Nat → Nat → Value := fun c' k' => if c' = c ∧ k' = k then x else ρ c' k'
def am_zs (σ : Nat → Nat → Int32) (c : Nat) : Nat → Nat → Int32 := fun c' k' => if c' = c then 0 else σ c' k'
def am_zr (ρ : Nat → Nat → Value) (c : Nat) : Nat → Nat → Value := fun c' k' => if c' = c then .null else ρ c' k'
def am_isI (ty : FieldType) : Bool := match ty with
  | .int => true
  | .boolean => true
  | _ => false
def am_isB (ty : FieldType) : Bool := match ty with
  | .boolean => true
  | _ => false
def am_isL (v : Option (Option Value)) : Bool := match v with
  | some (some (.long _)) => true
  | some (some (.double _)) => true
  | _ => false
def am_st1 (L : am_L) (i : Nat) (v : Value) : Option am_L := if i < L.length then (if (i != 0 && am_isL L[i - 1]?) = true then none else some (L.set i (some v))) else none
def am_st2 (L : am_L) (i : Nat) (v : Value) : Option am_L := if i + 1 < L.length then (if (i != 0 && am_isL L[i - 1]?) = true then none else some ((L.set i (some v)).set (i + 1) none)) else none
def am_c1 (v : Value) : Bool := match v with
  | .long _ => false
  | .double _ => false
  | _ => true
/-- a load from the locals -/
def am_ldI (L : am_L) (i nx : Nat) (S : List Value) (X : am_T × (Nat → Nat → Value) × (Nat → Nat → Int32)) : Option am_S := match L[i]? with
  | some (some (.int x)) => some (nx, L, .int x :: S, X)
  | _ => none
def am_ldL (L : am_L) (i nx : Nat) (S : List Value) (X : am_T × (Nat → Nat → Value) × (Nat → Nat → Int32)) : Option am_S := match L[i]? with
  | some (some (.long x)) => some (nx, L, .long x :: S, X)
  | _ => none
def am_ldA (L : am_L) (i nx : Nat) (S : List Value) (X : am_T × (Nat → Nat → Value) × (Nat → Nat → Int32)) : Option am_S := match L[i]? with
  | some (some (.ref x)) => some (nx, L, .ref x :: S, X)
  | some (some .null) => some (nx, L, .null :: S, X)
  | _ => none
def am_stI (L : am_L) (i nx : Nat) (S : List Value) (X : am_T × (Nat → Nat → Value) × (Nat → Nat → Int32)) : Option am_S := match S with
  | .int x :: S => (match am_st1 L i (.int x) with
    | some L' => some (nx, L', S, X)
    | none => none)
  | _ => none
def am_stL (L : am_L) (i nx : Nat) (S : List Value) (X : am_T × (Nat → Nat → Value) × (Nat → Nat → Int32)) : Option am_S := match S with
  | .long x :: S => (match am_st2 L i (.long x) with
    | some L' => some (nx, L', S, X)
    | none => none)
  | _ => none
def am_stA (L : am_L) (i nx : Nat) (S : List Value) (X : am_T × (Nat → Nat → Value) × (Nat → Nat → Int32)) : Option am_S := match S with
  | .ref x :: S => (match am_st1 L i (.ref x) with
    | some L' => some (nx, L', S, X)
    | none => none)
  | .null :: S => (match am_st1 L i .null with
    | some L' => some (nx, L', S, X)
    | none => none)
  | _ => none
def am_op2 (f : Int32 → Int32 → Int32) (L : am_L) (nx : Nat) (S : List Value) (X : am_T × (Nat → Nat → Value) × (Nat → Nat → Int32)) : Option am_S := match S with
  | .int y :: .int x :: S => some (nx, L, .int (f x y) :: S, X)
  | _ => none
def am_opL (f : Int64 → Int64 → Int64) (L : am_L) (nx : Nat) (S : List Value) (X : am_T × (Nat → Nat → Value) × (Nat → Nat → Int32)) : Option am_S := match S with
  | .long y :: .long x :: S => some (nx, L, .long (f x y) :: S, X)
  | _ => none
/-- one instruction that is no call, no branch and touches no cell -/
def am_ex1 (i : Instr) (nx n : Nat) (v : Int32) (L : am_L) (S : List Value) (X : am_T × (Nat → Nat → Value) × (Nat → Nat → Int32)) : Option am_S := match i with
  | .iconst _ => some (nx, L, .int v :: S, X)
  | .bipush _ => some (nx, L, .int v :: S, X)
  | .sipush _ => some (nx, L, .int v :: S, X)
  | .ldc _ => some (nx, L, .int v :: S, X)
  | .ldc_w _ => some (nx, L, .int v :: S, X)
  | .ldc2_w _ => some (nx, L, .long (Int64.ofNat n) :: S, X)
  | .lconst k => some (nx, L, .long (Int64.ofNat k) :: S, X)
  | .aconst_null => some (nx, L, .null :: S, X)
  | .iload_n k => am_ldI L k nx S X
  | .iload k => am_ldI L k nx S X
  | .lload_n k => am_ldL L k nx S X
  | .lload k => am_ldL L k nx S X
  | .aload_n k => am_ldA L k nx S X
  | .aload k => am_ldA L k nx S X
  | .istore_n k => am_stI L k nx S X
  | .istore k => am_stI L k nx S X
  | .lstore_n k => am_stL L k nx S X
  | .lstore k => am_stL L k nx S X
  | .astore_n k => am_stA L k nx S X
  | .astore k => am_stA L k nx S X
  | .iinc k _ => (match L[k]? with
    | some (some (.int x)) => (match am_st1 L k (.int (x + v)) with
      | some L' => some (nx, L', S, X)
      | none => none)
    | _ => none)
  | .iadd => am_op2 (fun x y => x + y) L nx S X
  | .isub => am_op2 (fun x y => x - y) L nx S X
  | .imul => am_op2 (fun x y => x * y) L nx S X
  | .iand => am_op2 (fun x y => x &&& y) L nx S X
  | .ior => am_op2 (fun x y => x ||| y) L nx S X
  | .ixor => am_op2 (fun x y => x ^^^ y) L nx S X
  | .ishl => am_op2 (fun x y => x <<< (y &&& 31)) L nx S X
  | .ishr => am_op2 (fun x y => x >>> (y &&& 31)) L nx S X
  | .iushr => am_op2 (fun x y => (x.toUInt32 >>> (y.toUInt32 &&& Int32.toUInt32 31)).toInt32) L nx S X
  | .idiv => (match S with
    | .int y :: .int x :: S => if y = 0 then none else some (nx, L, .int (x / y) :: S, X)
    | _ => none)
  | .irem => (match S with
    | .int y :: .int x :: S => if y = 0 then none else some (nx, L, .int (x - x / y * y) :: S, X)
    | _ => none)
  | .ineg => (match S with
    | .int x :: S => some (nx, L, .int (-x) :: S, X)
    | _ => none)
  | .lmul => am_opL (fun x y => x * y) L nx S X
  | .land => am_opL (fun x y => x &&& y) L nx S X
  | .lor => am_opL (fun x y => x ||| y) L nx S X
  | .ldiv => (match S with
    | .long y :: .long x :: S => if y = 0 then none else some (nx, L, .long (x / y) :: S, X)
    | _ => none)
  | .lshl => (match S with
    | .int y :: .long x :: S => some (nx, L, .long (x <<< (y.toInt64 &&& 63)) :: S, X)
    | _ => none)
  | .lshr => (match S with
    | .int y :: .long x :: S => some (nx, L, .long (x >>> (y.toInt64 &&& 63)) :: S, X)
    | _ => none)
  | .lcmp => (match S with
    | .long y :: .long x :: S => some (nx, L, .int (lg_cmp x y) :: S, X)
    | _ => none)
  | .i2l => (match S with
    | .int x :: S => some (nx, L, .long x.toInt64 :: S, X)
    | _ => none)
  | .l2i => (match S with
    | .long x :: S => some (nx, L, .int x.toInt32 :: S, X)
    | _ => none)
  | .dup => (match S with
    | a :: S => if am_c1 a = true then some (nx, L, a :: a :: S, X) else none
    | _ => none)
  | .dup2 => (match S with
    | a :: c :: S => if (am_c1 a && am_c1 c) = true then some (nx, L, a :: c :: a :: c :: S, X) else none
    | _ => none)
  | .pop => (match S with
    | a :: S => if am_c1 a = true then some (nx, L, S, X) else none
    | _ => none)
  | _ => none
/-- a jump -/
def am_ex2 (i : Instr) (nx n : Nat) (w : List Nat) (L : am_L) (S : List Value) (X : am_T × (Nat → Nat → Value) × (Nat → Nat → Int32)) : Option am_S := match i with
  | .goto _ => some (n, L, S, X)
  | .ifCond .eq _ => (match S with
    | .int x :: S => some (if x = 0 then n else nx, L, S, X)
    | _ => none)
  | .ifCond .ne _ => (match S with
    | .int x :: S => some (if x = 0 then nx else n, L, S, X)
    | _ => none)
  | .ifCond .lt _ => (match S with
    | .int x :: S => some (if x < 0 then n else nx, L, S, X)
    | _ => none)
  | .ifCond .ge _ => (match S with
    | .int x :: S => some (if 0 ≤ x then n else nx, L, S, X)
    | _ => none)
  | .ifCond .gt _ => (match S with
    | .int x :: S => some (if 0 < x then n else nx, L, S, X)
    | _ => none)
  | .ifCond .le _ => (match S with
    | .int x :: S => some (if x ≤ 0 then n else nx, L, S, X)
    | _ => none)
  | .if_icmp .eq _ => (match S with
    | .int y :: .int x :: S => some (if x = y then n else nx, L, S, X)
    | _ => none)
  | .if_icmp .ne _ => (match S with
    | .int y :: .int x :: S => some (if x = y then nx else n, L, S, X)
    | _ => none)
  | .if_icmp .lt _ => (match S with
    | .int y :: .int x :: S => some (if x < y then n else nx, L, S, X)
    | _ => none)
  | .if_icmp .ge _ => (match S with
    | .int y :: .int x :: S => some (if y ≤ x then n else nx, L, S, X)
    | _ => none)
  | .if_icmp .gt _ => (match S with
    | .int y :: .int x :: S => some (if y < x then n else nx, L, S, X)
    | _ => none)
  | .if_icmp .le _ => (match S with
    | .int y :: .int x :: S => some (if x ≤ y then n else nx, L, S, X)
    | _ => none)
  | .ifnull _ => (match S with
    | .ref _ :: S => some (nx, L, S, X)
    | .null :: S => some (n, L, S, X)
    | _ => none)
  | .ifnonnull _ => (match S with
    | .ref _ :: S => some (n, L, S, X)
    | .null :: S => some (nx, L, S, X)
    | _ => none)
  | .tableswitch _ lo hi _ => (match S with
    | .int x :: S => if x.toInt < lo ∨ hi < x.toInt then some (n, L, S, X) else (match w[(x.toInt - lo).toNat]? with
      | some g => some (g, L, S, X)
      | none => none)
    | _ => none)
  | _ => none
/-- what touches a cell -/
def am_ex3 (i : Instr) (nx n n2 : Nat) (L : am_L) (S : List Value) (T : am_T) (ρ : Nat → Nat → Value) (σ : Nat → Nat → Int32) : Option am_S := match i with
  | .getfield _ => (match S with
    | .ref c :: S => if T[c]? = some (.inl n) then (if am_isI (am_fty n n2) = true then some (nx, L, .int (σ c n2) :: S, T, ρ, σ) else some (nx, L, ρ c n2 :: S, T, ρ, σ)) else none
    | _ => none)
  | .putfield _ => (match S with
    | .int x :: .ref c :: S => if T[c]? = some (.inl n) then (if am_isI (am_fty n n2) = true then (if am_isB (am_fty n n2) = true then (if x = 0 ∨ x = 1 then some (nx, L, S, T, ρ, am_us σ c n2 x) else none) else some (nx, L, S, T, ρ, am_us σ c n2 x)) else none) else none
    | .ref x :: .ref c :: S => if T[c]? = some (.inl n) then (if am_isI (am_fty n n2) = true then none else some (nx, L, S, T, am_ur ρ c n2 (.ref x), σ)) else none
    | .null :: .ref c :: S => if T[c]? = some (.inl n) then (if am_isI (am_fty n n2) = true then none else some (nx, L, S, T, am_ur ρ c n2 .null, σ)) else none
    | _ => none)
  | .iaload => (match S with
    | .int x :: .ref c :: S => (match T[c]? with
      | some (.inr (t, m)) => if (t = 0 ∨ t = 9) ∧ ¬ (x < 0 ∨ m ≤ x.toNatClampNeg) then some (nx, L, .int (σ c x.toNatClampNeg) :: S, T, ρ, σ) else none
      | _ => none)
    | _ => none)
  | .baload => (match S with
    | .int x :: .ref c :: S => (match T[c]? with
      | some (.inr (t, m)) => if t = 1 ∧ ¬ (x < 0 ∨ m ≤ x.toNatClampNeg) then some (nx, L, .int (σ c x.toNatClampNeg) :: S, T, ρ, σ) else none
      | _ => none)
    | _ => none)
  | .aaload => (match S with
    | .int x :: .ref c :: S => (match T[c]? with
      | some (.inr (t, m)) => if t = 2 ∧ ¬ (x < 0 ∨ m ≤ x.toNatClampNeg) then some (nx, L, ρ c x.toNatClampNeg :: S, T, ρ, σ) else none
      | _ => none)
    | _ => none)
  | .iastore => (match S with
    | .int y :: .int x :: .ref c :: S => (match T[c]? with
      | some (.inr (t, m)) => if t = 0 ∧ ¬ (x < 0 ∨ m ≤ x.toNatClampNeg) then some (nx, L, S, T, ρ, am_us σ c x.toNatClampNeg y) else none
      | _ => none)
    | _ => none)
  | .bastore => (match S with
    | .int y :: .int x :: .ref c :: S => (match T[c]? with
      | some (.inr (t, m)) => if t = 1 ∧ ¬ (x < 0 ∨ m ≤ x.toNatClampNeg) ∧ (y = 0 ∨ y = 1) then some (nx, L, S, T, ρ, am_us σ c x.toNatClampNeg y) else none
      | _ => none)
    | _ => none)
  | .aastore => (match S with
    | .ref y :: .int x :: .ref c :: S => (match T[c]? with
      | some (.inr (t, m)) => if t = 2 ∧ ¬ (x < 0 ∨ m ≤ x.toNatClampNeg) ∧ T[y]? = some (.inl 2) then some (nx, L, S, T, am_ur ρ c x.toNatClampNeg (.ref y), σ) else none
      | _ => none)
    | _ => none)
  | .arraylength => (match S with
    | .ref c :: S => (match T[c]? with
      | some (.inr (_, m)) => some (nx, L, .int (Int32.ofNat m) :: S, T, ρ, σ)
      | _ => none)
    | _ => none)
  | .new _ => some (nx, L, .ref T.length :: S, T ++ [.inl n], am_zr ρ T.length, am_zs σ T.length)
  | .newarray _ => (match S with
    | .int x :: S => if ¬ x < 0 ∧ x.toNatClampNeg ≤ 100000 then some (nx, L, .ref T.length :: S, T ++ [.inr (n, x.toNatClampNeg)], am_zr ρ T.length, am_zs σ T.length) else none
    | _ => none)
  | .anewarray _ => (match S with
    | .int x :: S => if ¬ x < 0 ∧ x.toNatClampNeg ≤ 100000 then some (nx, L, .ref T.length :: S, T ++ [.inr (2, x.toNatClampNeg)], am_zr ρ T.length, am_zs σ T.length) else none
    | _ => none)
  | _ => none
def am_cat (S : List Value) : Nat := (S.map fun v => v.category).sum
/-- calls that are one step: Object's constructor, Math's three -/
def am_ex4 (i : Instr) (nx n n2 : Nat) (L : am_L) (S : List Value) (X : am_T × (Nat → Nat → Value) × (Nat → Nat → Int32)) : Option am_S := match i with
  | .invokespecial _ => (match S with
    | .ref _ :: S => if n2 = 9 ∧ am_cat S ≤ 8 then some (nx, L, S, X) else none
    | _ => none)
  | .invokestatic _ => (match S with
    | .int y :: S1 => if n2 = 9 then (if n = M_Math_abs then (if am_cat S1 ≤ 8 then some (nx, L, .int (if 0 ≤ y then y else 0 - y) :: S1, X) else none) else (match S1 with
      | .int x :: S => if am_cat S ≤ 8 then (if n = M_Math_max then some (nx, L, .int (if x < y then y else x) :: S, X) else if n = M_Math_min then some (nx, L, .int (if y < x then y else x) :: S, X) else none) else none
      | _ => none)) else none
    | _ => none)
  | _ => none
def am_grp (i : Instr) : Nat := match i with
  | .goto _ => 2
  | .ifCond _ _ => 2
  | .if_icmp _ _ => 2
  | .ifnull _ => 2
  | .ifnonnull _ => 2
  | .tableswitch _ _ _ _ => 2
  | .getfield _ => 3
  | .putfield _ => 3
  | .iaload => 3
  | .baload => 3
  | .aaload => 3
  | .iastore => 3
  | .bastore => 3
  | .aastore => 3
  | .arraylength => 3
  | .new _ => 3
  | .newarray _ => 3
  | .anewarray _ => 3
  | .invokespecial _ => 4
  | .invokestatic _ => 4
  | _ => 1
def am_ex (I : am_I) (st : am_S) : Option am_S := match I, st with
  | (_, i, _, nx, n, n2, v, w), (_, L, S, T, ρ, σ) => (match am_grp i with
    | 1 => am_ex1 i nx n v L S (T, ρ, σ)
    | 2 => am_ex2 i nx n w L S (T, ρ, σ)
    | 3 => am_ex3 i nx n n2 L S T ρ σ
    | _ => am_ex4 i nx n n2 L S (T, ρ, σ))
def am_fetch (k : List am_I) (pc : Nat) : Option am_I := match k with
  | [] => none
  | I :: k => if I.1 = pc then some I else am_fetch k pc
def am_step (k : List am_I) (st : am_S) : Option am_S := match am_fetch k st.1 with
  | some I => am_ex I st
  | none => none
def am_steps (k : List am_I) : Nat → am_S → Option am_S
  | 0, st => some st
  | n + 1, st => match am_step k st with
    | some st' => am_steps k n st'
    | none => none
def am_len (i : Instr) : Nat := match i with
  | .bipush _ => 2
  | .ldc _ => 2
  | .iload _ => 2
  | .lload _ => 2
  | .aload _ => 2
  | .istore _ => 2
  | .lstore _ => 2
  | .astore _ => 2
  | .newarray _ => 2
  | .sipush _ => 3
  | .ldc_w _ => 3
  | .ldc2_w _ => 3
  | .iinc _ _ => 3
  | .goto _ => 3
  | .ifCond _ _ => 3
  | .if_icmp _ _ => 3
  | .ifnull _ => 3
  | .ifnonnull _ => 3
  | .getfield _ => 3
  | .putfield _ => 3
  | .new _ => 3
  | .anewarray _ => 3
  | .invokespecial _ => 3
  | .invokevirtual _ => 3
  | .invokestatic _ => 3
  | _ => 1
/-- an instruction's own numbers agree with its code and with the words -/
def am_own (q : am_M) (pc : Nat) (i : Instr) (n n2 : Nat) (v : Int32) (w : List Nat) : Bool := match i with
  | .iconst x => decide (Int32.ofInt x = v)
  | .bipush x => decide ((Int8.ofInt x).toInt32 = v)
  | .sipush x => decide ((Int16.ofInt x).toInt32 = v)
  | .iinc _ x => decide (Int32.ofInt x = v)
  | .ldc idx => am_KW.any (fun z => z.1 == q.1 && (z.2.1 == idx && z.2.2 == v))
  | .ldc_w idx => am_KW.any (fun z => z.1 == q.1 && (z.2.1 == idx && z.2.2 == v))
  | .ldc2_w idx => am_LW.any (fun z => z.1 == q.1 && (z.2.1 == idx && z.2.2 == n))
  | .goto off => decide ((pc : Int) + off = (n : Int))
  | .ifCond _ off => decide ((pc : Int) + off = (n : Int))
  | .if_icmp _ off => decide ((pc : Int) + off = (n : Int))
  | .ifnull off => decide ((pc : Int) + off = (n : Int))
  | .ifnonnull off => decide ((pc : Int) + off = (n : Int))
  | .tableswitch d _ _ offs => decide ((pc : Int) + d = (n : Int)) && decide (offs.toList.map (fun o => (pc : Int) + o) = w.map (fun g : Nat => (g : Int)))
  | .getfield idx => am_FW.any (fun z => z.1 == q.1 && (z.2.1 == idx && (z.2.2.1 == n && z.2.2.2 == n2))) && (decide (n2 < am_N n) && decide (n < 10))
  | .putfield idx => am_FW.any (fun z => z.1 == q.1 && (z.2.1 == idx && (z.2.2.1 == n && z.2.2.2 == n2))) && (decide (n2 < am_N n) && (decide (n < 10) && (!(am_F n n2).2.2.2 || (q.2.2.2.2.2.2.2 && decide ((am_F n n2).1 = am_cn q.1)))))
  | .new idx => am_CW.any (fun z => z.1 == q.1 && (z.2.1 == idx && z.2.2 == n)) && decide (n < 10)
  | .anewarray idx => am_CW.any (fun z => z.1 == q.1 && (z.2.1 == idx && z.2.2 == 2))
  | .newarray t => decide (newarray.typeOf t = (if n = 0 then FieldType.int else FieldType.boolean)) && decide (n < 2)
  | .invokespecial idx => if n2 = 9 then am_OW.any (fun z => z.1 == q.1 && z.2 == idx) else if n2 = 1 then am_MN.any (fun z => z.1 == q.1 && (z.2.1 == idx && z.2.2 == n)) else am_MW.any (fun z => z.1 == q.1 && (z.2.1 == idx && z.2.2 == n))
  | .invokevirtual idx => am_MW.any (fun z => z.1 == q.1 && (z.2.1 == idx && z.2.2 == n))
  | .invokestatic idx => am_MW.any (fun z => z.1 == q.1 && (z.2.1 == idx && z.2.2 == n))
  | _ => true
def am_isSw (i : Instr) : Bool := match i with
  | .tableswitch _ _ _ _ => true
  | _ => false
def am_chk (q : am_M) (I : am_I) : Bool := match I with
  | (pc, i, len, nx, n, n2, v, w) => decide (decode q.2.2.1 pc = .ok (i, len)) && ((nx == pc + len) && ((am_isSw i || len == am_len i) && am_own q pc i n n2 v w))
end
section
/-! the machine in small beside the machine: what a state is, and that a step is a step -/
def am_ad (b sz c : Nat) : Nat := if c = 0 then b else sz + (c - 1)
def am_v (b sz : Nat) (v : Value) : Value := match v with
  | .ref c => .ref (am_ad b sz c)
  | .int x => .int x
  | .long x => .long x
  | .null => .null
  | .float x => .float x
  | .double x => .double x
  | .retAddr x => .retAddr x
def am_val (ρ : Nat → Nat → Value) (σ : Nat → Nat → Int32) (ci c k : Nat) : Value := if am_isI (am_fty ci k) = true then .int (σ c k) else ρ c k
def am_cell (D : va_G) (DA : Nat → ClassId) (b sz : Nat) (s : State) (ρ : Nat → Nat → Value) (σ : Nat → Nat → Int32) (H : Heap) (c : Nat) (x : Nat ⊕ (Nat × Nat)) : Prop := match x with
  | .inl ci => 0 < c ∧ ∃ q : vw_C, am_cls[ci]? = some q ∧ t_OB (am_ad b sz c) (D.1 ci) q.2.2 (D.2 ci) H (fun k => am_v b sz (am_val ρ σ ci c k))
  | .inr (t, n) => (t = 9 ∧ c = 0 ∧ va_X b n (σ 0) s H) ∨ (t < 2 ∧ 0 < c ∧ H[am_ad b sz c]? = some (arrV (DA t) n (fun k => .int (σ c k)))) ∨ (t = 2 ∧ 0 < c ∧ H[am_ad b sz c]? = some (arrV (DA 2) n (fun k => am_v b sz (ρ c k))))
def am_ok (D : va_G) (DA : Nat → ClassId) (b sz : Nat) (s : State) (X : am_T × (Nat → Nat → Value) × (Nat → Nat → Int32)) (H : Heap) : Prop :=
  b < sz ∧ (∃ n, X.1[0]? = some (.inr (9, n))) ∧ H.size + 1 = sz + X.1.length ∧ ∀ (c : Nat) (x : Nat ⊕ (Nat × Nat)), X.1[c]? = some x → am_cell D DA b sz s X.2.1 X.2.2 H c x
def am_tys (DA : Nat → ClassId) : List (ClassId × FieldType) := [(DA 0, .int), (DA 1, .boolean), (DA 2, .object "BoxNest$Box")]
def am_K (D : va_G) (DA : Nat → ClassId) (s : State) : Prop := va_K D am_cls (am_tys DA) s ∧ va_AO "BoxNest$Box" s ∧ ∀ q ∈ am_MN, va_Nw (.methodLinkNest (am_cn q.1) q.2.1 (am_y q.2.2) "BoxNest") s
def am_At (D : va_G) (DA : Nat → ClassId) (q : am_M) (p : Program) (s : State) (m : MethodId) (args : Array Value) (meth : Method) (c : Code) : Prop :=
  p.tables.exec = Jvm.exec ∧ c.code = q.2.2.1 ∧ c.maxLocals = q.2.2.2.1 ∧ s.vm.findClass (am_cn q.1) = some m.cls ∧ (∀ w ∈ am_tb, w.before args s = true) ∧ am_K D DA s ∧ (q.2.2.2.2.2.2.2 = true → meth.name = "<init>")
def am_Ls (b sz : Nat) (ls : Array Slot) (nL : Nat) (L : am_L) : Prop := L.length = nL ∧ ls.size = nL ∧ lv_wf ls ∧ ∀ (i : Nat) (v : Value), L[i]? = some (some v) → ls[i]? = some (.val (am_v b sz v))
/-- how many fields and elements the cells have -/
def am_w1 (x : Nat ⊕ (Nat × Nat)) : Nat := match x with
  | .inl ci => am_N ci
  | .inr q => q.2
def am_ns (T : am_T) : Nat := (T.map am_w1).sum
/-- from one state of the machine in small to another, whatever is below -/
def am_St (l : Launch) (D : va_G) (DA : Nat → ClassId) (b sz : Nat) (q : am_M) (st st' : am_S) : Prop :=
  st.2.2.2.1.length ≤ st'.2.2.2.1.length ∧ am_ns st.2.2.2.1 ≤ am_ns st'.2.2.2.1 ∧
  ∀ (p : Program) (e : Env) (R : Room) (s : State) (m : MethodId) (args : Array Value) (below : List Frame) (meth : Method) (c : Code) (Q : State → Prop) (ls : Array Slot) (H : Heap) (locs : List Loc) (cells slots : Nat),
    am_At D DA q p s m args meth c → 1 ≤ R.frames → 64 ≤ R.locals → cells + (st'.2.2.2.1.length - st.2.2.2.1.length) ≤ R.cells → slots + (am_ns st'.2.2.2.1 - am_ns st.2.2.2.1) ≤ R.slots →
    am_Ls b sz ls q.2.2.2.1 st.2.1 → am_ok D DA b sz s st.2.2.2 H → (∀ z ∈ locs, sz ≤ z.base) →
    (∀ (ls' : Array Slot) (H' : Heap) (locs' : List Loc), am_Ls b sz ls' q.2.2.2.1 st'.2.1 → am_ok D DA b sz s st'.2.2.2 H' → (∀ z ∈ locs', sz ≤ z.base) →
      W p l e R s m args below meth c H' locs' (cells + (st'.2.2.2.1.length - st.2.2.2.1.length)) (slots + (am_ns st'.2.2.2.1 - am_ns st.2.2.2.1)) Q (F0 m st'.1 ls' (st'.2.2.1.map (am_v b sz)))) →
    W p l e R s m args below meth c H locs cells slots Q (F0 m st.1 ls (st.2.2.1.map (am_v b sz)))
section AMS
variable {l : Launch} {D : va_G} {DA : Nat → ClassId} {b sz : Nat} {q : am_M}
theorem am_v_cat (v : Value) : (am_v b sz v).category = v.category := by cases v <;> rfl
theorem am_v_c1 {v : Value} (h : am_c1 v = true) : (am_v b sz v).category = 1 := by cases v <;> first | rfl | (cases h)
theorem am_St.trans {s1 s2 s3 : am_S} (h1 : am_St l D DA b sz q s1 s2) (h2 : am_St l D DA b sz q s2 s3) : am_St l D DA b sz q s1 s3 := by
  obtain ⟨a1, a2, a3⟩ := h1
  obtain ⟨b1, b2, b3⟩ := h2
  refine ⟨Nat.le_trans a1 b1, Nat.le_trans a2 b2, ?_⟩
  intro p e R s m args below meth c Q ls H locs cells slots hA hf hl hc hs hL hO hlo k
  refine a3 p e R s m args below meth c Q ls H locs cells slots hA hf hl (by omega) (by omega) hL hO hlo ?_
  intro ls1 H1 locs1 hL1 hO1 hlo1
  refine b3 p e R s m args below meth c Q ls1 H1 locs1 _ _ hA hf hl (by omega) (by omega) hL1 hO1 hlo1 ?_
  intro ls2 H2 locs2 hL2 hO2 hlo2
  have := k ls2 H2 locs2 hL2 hO2 hlo2
  have e1 : cells + (s2.2.2.2.1.length - s1.2.2.2.1.length) + (s3.2.2.2.1.length - s2.2.2.2.1.length) = cells + (s3.2.2.2.1.length - s1.2.2.2.1.length) := by omega
  have e2 : slots + (am_ns s2.2.2.2.1 - am_ns s1.2.2.2.1) + (am_ns s3.2.2.2.1 - am_ns s2.2.2.2.1) = slots + (am_ns s3.2.2.2.1 - am_ns s1.2.2.2.1) := by omega
  rw [e1, e2]
  exact this
/-- a step that changes neither locals nor cells -/
theorem am_st_p {pc pc' : Nat} {L : am_L} {S S' : List Value} {X : am_T × (Nat → Nat → Value) × (Nat → Nat → Int32)}
    (h : ∀ (p : Program) (e : Env) (R : Room) (s : State) (m : MethodId) (args : Array Value) (below : List Frame) (meth : Method) (c : Code) (Q : State → Prop) (ls : Array Slot) (H : Heap) (locs : List Loc) (cells slots : Nat),
      am_At D DA q p s m args meth c → 1 ≤ R.frames → 64 ≤ R.locals → cells ≤ R.cells → slots ≤ R.slots → am_Ls b sz ls q.2.2.2.1 L → am_ok D DA b sz s X H →
      W p l e R s m args below meth c H locs cells slots Q (F0 m pc' ls (S'.map (am_v b sz))) → W p l e R s m args below meth c H locs cells slots Q (F0 m pc ls (S.map (am_v b sz)))) :
    am_St l D DA b sz q (pc, L, S, X) (pc', L, S', X) := by
  refine ⟨Nat.le_refl _, Nat.le_refl _, ?_⟩
  intro p e R s m args below meth c Q ls H locs cells slots hA hf hl hc hs hL hO hlo k
  have := k ls H locs hL hO hlo
  simp only [Nat.sub_self, Nat.add_zero] at this hc hs
  exact h p e R s m args below meth c Q ls H locs cells slots hA hf hl hc hs hL hO this
/-- a step that changes locals alone -/
theorem am_st_l {pc pc' : Nat} {L L' : am_L} {S S' : List Value} {X : am_T × (Nat → Nat → Value) × (Nat → Nat → Int32)}
    (h : ∀ (p : Program) (e : Env) (R : Room) (s : State) (m : MethodId) (args : Array Value) (below : List Frame) (meth : Method) (c : Code) (Q : State → Prop) (ls : Array Slot) (H : Heap) (locs : List Loc) (cells slots : Nat),
      am_At D DA q p s m args meth c → am_Ls b sz ls q.2.2.2.1 L →
      (∀ ls' : Array Slot, am_Ls b sz ls' q.2.2.2.1 L' → W p l e R s m args below meth c H locs cells slots Q (F0 m pc' ls' (S'.map (am_v b sz)))) → W p l e R s m args below meth c H locs cells slots Q (F0 m pc ls (S.map (am_v b sz)))) :
    am_St l D DA b sz q (pc, L, S, X) (pc', L', S', X) := by
  refine ⟨Nat.le_refl _, Nat.le_refl _, ?_⟩
  intro p e R s m args below meth c Q ls H locs cells slots hA hf hl hc hs hL hO hlo k
  refine h p e R s m args below meth c Q ls H locs cells slots hA hL (fun ls' hL' => ?_)
  have := k ls' H locs hL' hO hlo
  simp only [Nat.sub_self, Nat.add_zero] at this
  exact this
/-- a step that changes cells, and makes none -/
theorem am_st_h {pc pc' : Nat} {L : am_L} {S S' : List Value} {T : am_T} {ρ ρ' : Nat → Nat → Value} {σ σ' : Nat → Nat → Int32}
    (h : ∀ (p : Program) (e : Env) (R : Room) (s : State) (m : MethodId) (args : Array Value) (below : List Frame) (meth : Method) (c : Code) (Q : State → Prop) (ls : Array Slot) (H : Heap) (locs : List Loc) (cells slots : Nat),
      am_At D DA q p s m args meth c → am_ok D DA b sz s (T, ρ, σ) H → (∀ z ∈ locs, sz ≤ z.base) →
      (∀ (H' : Heap) (locs' : List Loc), am_ok D DA b sz s (T, ρ', σ') H' → (∀ z ∈ locs', sz ≤ z.base) → W p l e R s m args below meth c H' locs' cells slots Q (F0 m pc' ls (S'.map (am_v b sz)))) → W p l e R s m args below meth c H locs cells slots Q (F0 m pc ls (S.map (am_v b sz)))) :
    am_St l D DA b sz q (pc, L, S, T, ρ, σ) (pc', L, S', T, ρ', σ') := by
  refine ⟨Nat.le_refl _, Nat.le_refl _, ?_⟩
  intro p e R s m args below meth c Q ls H locs cells slots hA hf hl hc hs hL hO hlo k
  refine h p e R s m args below meth c Q ls H locs cells slots hA hO hlo (fun H' locs' hO' hlo' => ?_)
  have := k ls H' locs' hL hO' hlo'
  simp only [Nat.sub_self, Nat.add_zero] at this
  exact this
theorem am_Ls.at {ls : Array Slot} {nL i : Nat} {L : am_L} {v : Value} (h : am_Ls b sz ls nL L) (hi : L[i]? = some (some v)) : ls[i]? = some (.val (am_v b sz v)) := h.2.2.2 i v hi
/-- the listed values of the locals -/
def am_lst (b sz : Nat) (L : am_L) : List (Nat × Value) := (List.range L.length).filterMap (fun i => match L[i]? with
  | some (some v) => some (i, am_v b sz v)
  | _ => none)
theorem am_lst_mem {L : am_L} {i : Nat} {w : Value} : (i, w) ∈ am_lst b sz L ↔ ∃ v, L[i]? = some (some v) ∧ w = am_v b sz v := by
  unfold am_lst
  rw [List.mem_filterMap]
  constructor
  · rintro ⟨j, -, hj⟩
    split at hj
    · rename_i v hv
      cases hj
      exact ⟨v, hv, rfl⟩
    · cases hj
  · rintro ⟨v, hv, rfl⟩
    refine ⟨i, List.mem_range.mpr (List.getElem?_eq_some_iff.mp hv).1, ?_⟩
    rw [hv]
theorem am_Ls.has {ls : Array Slot} {nL : Nat} {L : am_L} (h : am_Ls b sz ls nL L) : lv_has ls nL (am_lst b sz L) := by
  refine ⟨h.2.1, h.2.2.1, fun z hz => ?_⟩
  obtain ⟨i, w⟩ := z
  obtain ⟨v, hv, rfl⟩ := am_lst_mem.mp hz
  exact h.2.2.2 i v hv
theorem am_nl {L : am_L} {i j : Nat} {x : Value} (hn : ¬ (i != 0 && am_isL L[i - 1]?) = true) (hj : j + 1 = i) (hx : L[j]? = some (some x)) : x.category ≠ 2 := by
  subst hj
  simp only [Nat.add_sub_cancel, hx] at hn
  cases x <;> first | (simp [Value.category]; done) | (exfalso; exact hn (by simp [am_isL]))
theorem am_st1_spec {L L' : am_L} {i : Nat} {v : Value} (h : am_st1 L i v = some L') : i < L.length ∧ L' = L.set i (some v) ∧ ∀ (j : Nat) (x : Value), j + 1 = i → L[j]? = some (some x) → x.category ≠ 2 := by
  unfold am_st1 at h
  split at h
  · rename_i hi
    split at h
    · cases h
    · rename_i hn
      cases h
      exact ⟨hi, rfl, fun j x hj hx => am_nl hn hj hx⟩
  · cases h
theorem am_st2_spec {L L' : am_L} {i : Nat} {v : Value} (h : am_st2 L i v = some L') : i + 1 < L.length ∧ L' = (L.set i (some v)).set (i + 1) none ∧ ∀ (j : Nat) (x : Value), j + 1 = i → L[j]? = some (some x) → x.category ≠ 2 := by
  unfold am_st2 at h
  split at h
  · rename_i hi
    split at h
    · cases h
    · rename_i hn
      cases h
      exact ⟨hi, rfl, fun j x hj hx => am_nl hn hj hx⟩
  · cases h
theorem am_Ls.of1 {ls : Array Slot} {nL i : Nat} {L L' : am_L} {v : Value} (hL : L.length = nL) (hs : am_st1 L i v = some L') (h : lv_has ls nL ((i, am_v b sz v) :: (am_lst b sz L).filter (fun q => !(q.1 == i) && !(q.1 + 1 == i && q.2.category == 2)))) : am_Ls b sz ls nL L' := by
  obtain ⟨hi, rfl, hn⟩ := am_st1_spec hs
  refine ⟨by rw [List.length_set]; exact hL, h.1, h.2.1, fun j w hw => ?_⟩
  by_cases hj : j = i
  · subst hj
    rw [List.getElem?_set_self hi] at hw
    cases hw
    exact h.2.2 _ List.mem_cons_self
  · rw [List.getElem?_set_ne (Ne.symm hj)] at hw
    refine h.2.2 (j, am_v b sz w) (List.mem_cons_of_mem _ (List.mem_filter.mpr ⟨am_lst_mem.mpr ⟨w, hw, rfl⟩, ?_⟩))
    have h1 : (j == i) = false := by simpa using hj
    by_cases hj2 : j + 1 = i
    · have h2 := hn j w hj2 hw
      have h3 : ((am_v b sz w).category == 2) = false := by rw [am_v_cat]; simpa using h2
      simp [h1, h3]
    · have h3 : (j + 1 == i) = false := by simpa using hj2
      simp [h1, h3]
theorem am_Ls.of2 {ls : Array Slot} {nL i : Nat} {L L' : am_L} {v : Value} (hL : L.length = nL) (hs : am_st2 L i v = some L') (h : lv_has ls nL ((i, am_v b sz v) :: (am_lst b sz L).filter (fun q => !(q.1 == i) && (!(q.1 == i + 1) && !(q.1 + 1 == i && q.2.category == 2))))) : am_Ls b sz ls nL L' := by
  obtain ⟨hi, rfl, hn⟩ := am_st2_spec hs
  refine ⟨by rw [List.length_set, List.length_set]; exact hL, h.1, h.2.1, fun j w hw => ?_⟩
  by_cases hk : j = i + 1
  · subst hk
    rw [List.getElem?_set_self (by rw [List.length_set]; exact hi)] at hw
    cases hw
  · rw [List.getElem?_set_ne (Ne.symm hk)] at hw
    by_cases hj : j = i
    · subst hj
      rw [List.getElem?_set_self (by omega)] at hw
      cases hw
      exact h.2.2 _ List.mem_cons_self
    · rw [List.getElem?_set_ne (Ne.symm hj)] at hw
      refine h.2.2 (j, am_v b sz w) (List.mem_cons_of_mem _ (List.mem_filter.mpr ⟨am_lst_mem.mpr ⟨w, hw, rfl⟩, ?_⟩))
      have h1 : (j == i) = false := by simpa using hj
      have h4 : (j == i + 1) = false := by simpa using hk
      by_cases hj2 : j + 1 = i
      · have h2 := hn j w hj2 hw
        have h3 : ((am_v b sz w).category == 2) = false := by rw [am_v_cat]; simpa using h2
        simp [h1, h3, h4]
      · have h3 : (j + 1 == i) = false := by simpa using hj2
        simp [h1, h3, h4]
theorem am_lst_at {L : am_L} {i : Nat} {v : Value} (h : L[i]? = some (some v)) : ∃ k : Nat, (am_lst b sz L)[k]? = some (i, am_v b sz v) := List.getElem?_of_mem (am_lst_mem.mpr ⟨v, h, rfl⟩)
end AMS
end
section
/-! group 1: no cell is touched -/
section AMS
variable {l : Launch} {D : va_G} {DA : Nat → ClassId} {b sz : Nat} {q : am_M}
theorem am_anyK {α : Type} {xs : List α} {f : α → Bool} (h : xs.any f = true) : ∃ x, x ∈ xs ∧ f x = true := List.any_eq_true.mp h
theorem am_ldw {idx : Nat} {v : Int32} (h : am_KW.any (fun z => z.1 == q.1 && (z.2.1 == idx && z.2.2 == v)) = true) : Cond.constant (am_cn q.1) idx v ∈ am_tb := by
  obtain ⟨z, hz, h⟩ := am_anyK h
  simp only [Bool.and_eq_true, beq_iff_eq] at h
  obtain ⟨h1, h2, h3⟩ := h
  subst h2; subst h3
  rw [← h1]
  exact am_tb_in (am_mem am_KWe _ (List.mem_map.mpr ⟨z, hz, rfl⟩)) rfl
theorem am_ldw2 {idx n : Nat} (h : am_LW.any (fun z => z.1 == q.1 && (z.2.1 == idx && z.2.2 == n)) = true) : Cond.constantLong (am_cn q.1) idx (Int64.ofNat n) ∈ am_tb := by
  obtain ⟨z, hz, h⟩ := am_anyK h
  simp only [Bool.and_eq_true, beq_iff_eq] at h
  obtain ⟨h1, h2, h3⟩ := h
  subst h2; subst h3
  rw [← h1]
  exact am_tb_in (am_mem am_LWe _ (List.mem_map.mpr ⟨z, hz, rfl⟩)) rfl
theorem am_x_iconst {pc n : Nat} {v : Int32} {x : Int} {L : am_L} {S : List Value} {X : am_T × (Nat → Nat → Value) × (Nat → Nat → Int32)} {st : am_S} (hd : decode q.2.2.1 pc = .ok (.iconst x, 1)) (ho : Int32.ofInt x = v) (h : am_ex1 (.iconst x) (pc + 1) n v L S X = some st) : am_St l D DA b sz q (pc, L, S, X) st := by
  cases h
  exact am_st_p (by
    intro p e R s m args below meth c Q ls H locs cells slots hA hf hl hc hs hL hO k
    obtain ⟨hx, hb, hml, hown, hts, hK, hin⟩ := hA
    exact lv_iconst hx hb hd ho k)
theorem am_x_bipush {pc n : Nat} {v : Int32} {x : Int} {L : am_L} {S : List Value} {X : am_T × (Nat → Nat → Value) × (Nat → Nat → Int32)} {st : am_S} (hd : decode q.2.2.1 pc = .ok (.bipush x, 2)) (ho : (Int8.ofInt x).toInt32 = v) (h : am_ex1 (.bipush x) (pc + 2) n v L S X = some st) : am_St l D DA b sz q (pc, L, S, X) st := by
  cases h
  exact am_st_p (by
    intro p e R s m args below meth c Q ls H locs cells slots hA hf hl hc hs hL hO k
    obtain ⟨hx, hb, hml, hown, hts, hK, hin⟩ := hA
    exact lv_bipush hx hb hd ho k)
theorem am_x_sipush {pc n : Nat} {v : Int32} {x : Int} {L : am_L} {S : List Value} {X : am_T × (Nat → Nat → Value) × (Nat → Nat → Int32)} {st : am_S} (hd : decode q.2.2.1 pc = .ok (.sipush x, 3)) (ho : (Int16.ofInt x).toInt32 = v) (h : am_ex1 (.sipush x) (pc + 3) n v L S X = some st) : am_St l D DA b sz q (pc, L, S, X) st := by
  cases h
  exact am_st_p (by
    intro p e R s m args below meth c Q ls H locs cells slots hA hf hl hc hs hL hO k
    obtain ⟨hx, hb, hml, hown, hts, hK, hin⟩ := hA
    exact lv_sipush hx hb hd ho k)
theorem am_x_ldc {pc n : Nat} {v : Int32} {x : Nat} {L : am_L} {S : List Value} {X : am_T × (Nat → Nat → Value) × (Nat → Nat → Int32)} {st : am_S} (hd : decode q.2.2.1 pc = .ok (.ldc x, 2)) (ho : am_KW.any (fun z => z.1 == q.1 && (z.2.1 == x && z.2.2 == v)) = true) (h : am_ex1 (.ldc x) (pc + 2) n v L S X = some st) : am_St l D DA b sz q (pc, L, S, X) st := by
  cases h
  exact am_st_p (by
    intro p e R s m args below meth c Q ls H locs cells slots hA hf hl hc hs hL hO k
    obtain ⟨hx, hb, hml, hown, hts, hK, hin⟩ := hA
    exact lv_ldc hx hb hown (hts _ (am_ldw ho)) hd k)
theorem am_x_ldc_w {pc n : Nat} {v : Int32} {x : Nat} {L : am_L} {S : List Value} {X : am_T × (Nat → Nat → Value) × (Nat → Nat → Int32)} {st : am_S} (hd : decode q.2.2.1 pc = .ok (.ldc_w x, 3)) (ho : am_KW.any (fun z => z.1 == q.1 && (z.2.1 == x && z.2.2 == v)) = true) (h : am_ex1 (.ldc_w x) (pc + 3) n v L S X = some st) : am_St l D DA b sz q (pc, L, S, X) st := by
  cases h
  exact am_st_p (by
    intro p e R s m args below meth c Q ls H locs cells slots hA hf hl hc hs hL hO k
    obtain ⟨hx, hb, hml, hown, hts, hK, hin⟩ := hA
    exact lv_ldcw hx hb hown (hts _ (am_ldw ho)) hd k)
theorem am_x_ldc2_w {pc n : Nat} {v : Int32} {x : Nat} {L : am_L} {S : List Value} {X : am_T × (Nat → Nat → Value) × (Nat → Nat → Int32)} {st : am_S} (hd : decode q.2.2.1 pc = .ok (.ldc2_w x, 3)) (ho : am_LW.any (fun z => z.1 == q.1 && (z.2.1 == x && z.2.2 == n)) = true) (h : am_ex1 (.ldc2_w x) (pc + 3) n v L S X = some st) : am_St l D DA b sz q (pc, L, S, X) st := by
  cases h
  exact am_st_p (by
    intro p e R s m args below meth c Q ls H locs cells slots hA hf hl hc hs hL hO k
    obtain ⟨hx, hb, hml, hown, hts, hK, hin⟩ := hA
    exact lv_ldc2 hx hb hown (hts _ (am_ldw2 ho)) hd k)
theorem am_x_lconst {pc n : Nat} {v : Int32} {x : Fin 2} {L : am_L} {S : List Value} {X : am_T × (Nat → Nat → Value) × (Nat → Nat → Int32)} {st : am_S} (hd : decode q.2.2.1 pc = .ok (.lconst x, 1)) (h : am_ex1 (.lconst x) (pc + 1) n v L S X = some st) : am_St l D DA b sz q (pc, L, S, X) st := by
  cases h
  exact am_st_p (by
    intro p e R s m args below meth c Q ls H locs cells slots hA hf hl hc hs hL hO k
    obtain ⟨hx, hb, hml, hown, hts, hK, hin⟩ := hA
    exact lv_lconst hx hb hd rfl k)
theorem am_x_aconst_null {pc n : Nat} {v : Int32} {L : am_L} {S : List Value} {X : am_T × (Nat → Nat → Value) × (Nat → Nat → Int32)} {st : am_S} (hd : decode q.2.2.1 pc = .ok (.aconst_null, 1)) (h : am_ex1 (.aconst_null) (pc + 1) n v L S X = some st) : am_St l D DA b sz q (pc, L, S, X) st := by
  cases h
  exact am_st_p (by
    intro p e R s m args below meth c Q ls H locs cells slots hA hf hl hc hs hL hO k
    obtain ⟨hx, hb, hml, hown, hts, hK, hin⟩ := hA
    exact lv_null hx hb hd k)
theorem am_x_iload_n {pc n : Nat} {v : Int32} {x : Fin 4} {L : am_L} {S : List Value} {X : am_T × (Nat → Nat → Value) × (Nat → Nat → Int32)} {st : am_S} (hd : decode q.2.2.1 pc = .ok (.iload_n x, 1)) (h : am_ex1 (.iload_n x) (pc + 1) n v L S X = some st) : am_St l D DA b sz q (pc, L, S, X) st := by
  simp only [am_ex1, am_ldI] at h
  split at h
  · rename_i y hv
    cases h
    exact am_st_p (by
      intro p e R s m args below meth c Q ls H locs cells slots hA hf hl hc hs hL hO k
      obtain ⟨hx, hb, hml, hown, hts, hK, hin⟩ := hA
      exact lv_iload_n hx hb hd rfl (hL.at hv) k)
  · cases h
theorem am_x_iload {pc n : Nat} {v : Int32} {x : Nat} {L : am_L} {S : List Value} {X : am_T × (Nat → Nat → Value) × (Nat → Nat → Int32)} {st : am_S} (hd : decode q.2.2.1 pc = .ok (.iload x, 2)) (h : am_ex1 (.iload x) (pc + 2) n v L S X = some st) : am_St l D DA b sz q (pc, L, S, X) st := by
  simp only [am_ex1, am_ldI] at h
  split at h
  · rename_i y hv
    cases h
    exact am_st_p (by
      intro p e R s m args below meth c Q ls H locs cells slots hA hf hl hc hs hL hO k
      obtain ⟨hx, hb, hml, hown, hts, hK, hin⟩ := hA
      exact lv_iload hx hb hd (hL.at hv) k)
  · cases h
theorem am_x_lload_n {pc n : Nat} {v : Int32} {x : Fin 4} {L : am_L} {S : List Value} {X : am_T × (Nat → Nat → Value) × (Nat → Nat → Int32)} {st : am_S} (hd : decode q.2.2.1 pc = .ok (.lload_n x, 1)) (h : am_ex1 (.lload_n x) (pc + 1) n v L S X = some st) : am_St l D DA b sz q (pc, L, S, X) st := by
  simp only [am_ex1, am_ldL] at h
  split at h
  · rename_i y hv
    cases h
    exact am_st_p (by
      intro p e R s m args below meth c Q ls H locs cells slots hA hf hl hc hs hL hO k
      obtain ⟨hx, hb, hml, hown, hts, hK, hin⟩ := hA
      exact lv_lload_n hx hb hd rfl (hL.at hv) k)
  · cases h
theorem am_x_lload {pc n : Nat} {v : Int32} {x : Nat} {L : am_L} {S : List Value} {X : am_T × (Nat → Nat → Value) × (Nat → Nat → Int32)} {st : am_S} (hd : decode q.2.2.1 pc = .ok (.lload x, 2)) (h : am_ex1 (.lload x) (pc + 2) n v L S X = some st) : am_St l D DA b sz q (pc, L, S, X) st := by
  simp only [am_ex1, am_ldL] at h
  split at h
  · rename_i y hv
    cases h
    exact am_st_p (by
      intro p e R s m args below meth c Q ls H locs cells slots hA hf hl hc hs hL hO k
      obtain ⟨hx, hb, hml, hown, hts, hK, hin⟩ := hA
      exact lv_lload hx hb hd (hL.at hv) k)
  · cases h
theorem am_x_aload_n {pc n : Nat} {v : Int32} {x : Fin 4} {L : am_L} {S : List Value} {X : am_T × (Nat → Nat → Value) × (Nat → Nat → Int32)} {st : am_S} (hd : decode q.2.2.1 pc = .ok (.aload_n x, 1)) (h : am_ex1 (.aload_n x) (pc + 1) n v L S X = some st) : am_St l D DA b sz q (pc, L, S, X) st := by
  simp only [am_ex1, am_ldA] at h
  split at h
  · rename_i y hv
    cases h
    exact am_st_p (by
      intro p e R s m args below meth c Q ls H locs cells slots hA hf hl hc hs hL hO k
      obtain ⟨hx, hb, hml, hown, hts, hK, hin⟩ := hA
      exact lv_aload_n hx hb hd rfl (hL.at hv) k)
  · rename_i hv
    cases h
    exact am_st_p (by
      intro p e R s m args below meth c Q ls H locs cells slots hA hf hl hc hs hL hO k
      obtain ⟨hx, hb, hml, hown, hts, hK, hin⟩ := hA
      exact lv_aload_nN hx hb hd rfl (hL.at hv) k)
  · cases h
theorem am_x_aload {pc n : Nat} {v : Int32} {x : Nat} {L : am_L} {S : List Value} {X : am_T × (Nat → Nat → Value) × (Nat → Nat → Int32)} {st : am_S} (hd : decode q.2.2.1 pc = .ok (.aload x, 2)) (h : am_ex1 (.aload x) (pc + 2) n v L S X = some st) : am_St l D DA b sz q (pc, L, S, X) st := by
  simp only [am_ex1, am_ldA] at h
  split at h
  · rename_i y hv
    cases h
    exact am_st_p (by
      intro p e R s m args below meth c Q ls H locs cells slots hA hf hl hc hs hL hO k
      obtain ⟨hx, hb, hml, hown, hts, hK, hin⟩ := hA
      exact lv_aload hx hb hd (hL.at hv) k)
  · rename_i hv
    cases h
    exact am_st_p (by
      intro p e R s m args below meth c Q ls H locs cells slots hA hf hl hc hs hL hO k
      obtain ⟨hx, hb, hml, hown, hts, hK, hin⟩ := hA
      exact lv_aloadN hx hb hd (hL.at hv) k)
  · cases h
theorem am_x_istore_n {pc n : Nat} {v : Int32} {x : Fin 4} {L : am_L} {S : List Value} {X : am_T × (Nat → Nat → Value) × (Nat → Nat → Int32)} {st : am_S} (hd : decode q.2.2.1 pc = .ok (.istore_n x, 1)) (h : am_ex1 (.istore_n x) (pc + 1) n v L S X = some st) : am_St l D DA b sz q (pc, L, S, X) st := by
  simp only [am_ex1, am_stI] at h
  split at h
  · split at h
    · rename_i L2 hv
      cases h
      exact am_st_l (by
        intro p e R s m args below meth c Q ls H locs cells slots hA hL k
        obtain ⟨hx, hb, hml, hown, hts, hK, hin⟩ := hA
        exact lv_istore_n hx hb hd rfl hL.has (by rw [← hL.1]; exact (am_st1_spec hv).1) rfl (fun ls2 h2 => k ls2 (am_Ls.of1 hL.1 hv h2)))
    · cases h
  · cases h
theorem am_x_istore {pc n : Nat} {v : Int32} {x : Nat} {L : am_L} {S : List Value} {X : am_T × (Nat → Nat → Value) × (Nat → Nat → Int32)} {st : am_S} (hd : decode q.2.2.1 pc = .ok (.istore x, 2)) (h : am_ex1 (.istore x) (pc + 2) n v L S X = some st) : am_St l D DA b sz q (pc, L, S, X) st := by
  simp only [am_ex1, am_stI] at h
  split at h
  · split at h
    · rename_i L2 hv
      cases h
      exact am_st_l (by
        intro p e R s m args below meth c Q ls H locs cells slots hA hL k
        obtain ⟨hx, hb, hml, hown, hts, hK, hin⟩ := hA
        exact lv_istore hx hb hd hL.has (by rw [← hL.1]; exact (am_st1_spec hv).1) rfl (fun ls2 h2 => k ls2 (am_Ls.of1 hL.1 hv h2)))
    · cases h
  · cases h
theorem am_x_lstore_n {pc n : Nat} {v : Int32} {x : Fin 4} {L : am_L} {S : List Value} {X : am_T × (Nat → Nat → Value) × (Nat → Nat → Int32)} {st : am_S} (hd : decode q.2.2.1 pc = .ok (.lstore_n x, 1)) (h : am_ex1 (.lstore_n x) (pc + 1) n v L S X = some st) : am_St l D DA b sz q (pc, L, S, X) st := by
  simp only [am_ex1, am_stL] at h
  split at h
  · split at h
    · rename_i L2 hv
      cases h
      exact am_st_l (by
        intro p e R s m args below meth c Q ls H locs cells slots hA hL k
        obtain ⟨hx, hb, hml, hown, hts, hK, hin⟩ := hA
        exact lv_lstore_n hx hb hd rfl hL.has (by rw [← hL.1]; exact (am_st2_spec hv).1) rfl (fun ls2 h2 => k ls2 (am_Ls.of2 hL.1 hv h2)))
    · cases h
  · cases h
theorem am_x_lstore {pc n : Nat} {v : Int32} {x : Nat} {L : am_L} {S : List Value} {X : am_T × (Nat → Nat → Value) × (Nat → Nat → Int32)} {st : am_S} (hd : decode q.2.2.1 pc = .ok (.lstore x, 2)) (h : am_ex1 (.lstore x) (pc + 2) n v L S X = some st) : am_St l D DA b sz q (pc, L, S, X) st := by
  simp only [am_ex1, am_stL] at h
  split at h
  · split at h
    · rename_i L2 hv
      cases h
      exact am_st_l (by
        intro p e R s m args below meth c Q ls H locs cells slots hA hL k
        obtain ⟨hx, hb, hml, hown, hts, hK, hin⟩ := hA
        exact lv_lstore hx hb hd hL.has (by rw [← hL.1]; exact (am_st2_spec hv).1) rfl (fun ls2 h2 => k ls2 (am_Ls.of2 hL.1 hv h2)))
    · cases h
  · cases h
theorem am_x_astore_n {pc n : Nat} {v : Int32} {x : Fin 4} {L : am_L} {S : List Value} {X : am_T × (Nat → Nat → Value) × (Nat → Nat → Int32)} {st : am_S} (hd : decode q.2.2.1 pc = .ok (.astore_n x, 1)) (h : am_ex1 (.astore_n x) (pc + 1) n v L S X = some st) : am_St l D DA b sz q (pc, L, S, X) st := by
  simp only [am_ex1, am_stA] at h
  split at h
  · split at h
    · rename_i L2 hv
      cases h
      exact am_st_l (by
        intro p e R s m args below meth c Q ls H locs cells slots hA hL k
        obtain ⟨hx, hb, hml, hown, hts, hK, hin⟩ := hA
        exact lv_astore_n hx hb hd rfl hL.has (by rw [← hL.1]; exact (am_st1_spec hv).1) rfl (fun ls2 h2 => k ls2 (am_Ls.of1 hL.1 hv h2)))
    · cases h
  · split at h
    · rename_i L2 hv
      cases h
      exact am_st_l (by
        intro p e R s m args below meth c Q ls H locs cells slots hA hL k
        obtain ⟨hx, hb, hml, hown, hts, hK, hin⟩ := hA
        exact lv_astore_nN hx hb hd rfl hL.has (by rw [← hL.1]; exact (am_st1_spec hv).1) rfl (fun ls2 h2 => k ls2 (am_Ls.of1 hL.1 hv h2)))
    · cases h
  · cases h
theorem am_x_astore {pc n : Nat} {v : Int32} {x : Nat} {L : am_L} {S : List Value} {X : am_T × (Nat → Nat → Value) × (Nat → Nat → Int32)} {st : am_S} (hd : decode q.2.2.1 pc = .ok (.astore x, 2)) (h : am_ex1 (.astore x) (pc + 2) n v L S X = some st) : am_St l D DA b sz q (pc, L, S, X) st := by
  simp only [am_ex1, am_stA] at h
  split at h
  · split at h
    · rename_i L2 hv
      cases h
      exact am_st_l (by
        intro p e R s m args below meth c Q ls H locs cells slots hA hL k
        obtain ⟨hx, hb, hml, hown, hts, hK, hin⟩ := hA
        exact lv_astore hx hb hd hL.has (by rw [← hL.1]; exact (am_st1_spec hv).1) rfl (fun ls2 h2 => k ls2 (am_Ls.of1 hL.1 hv h2)))
    · cases h
  · split at h
    · rename_i L2 hv
      cases h
      exact am_st_l (by
        intro p e R s m args below meth c Q ls H locs cells slots hA hL k
        obtain ⟨hx, hb, hml, hown, hts, hK, hin⟩ := hA
        exact lv_astoreN hx hb hd hL.has (by rw [← hL.1]; exact (am_st1_spec hv).1) rfl (fun ls2 h2 => k ls2 (am_Ls.of1 hL.1 hv h2)))
    · cases h
  · cases h
theorem am_x_iinc {pc n : Nat} {v : Int32} {x : Nat} {y : Int} {L : am_L} {S : List Value} {X : am_T × (Nat → Nat → Value) × (Nat → Nat → Int32)} {st : am_S} (hd : decode q.2.2.1 pc = .ok (.iinc x y, 3)) (ho : Int32.ofInt y = v) (h : am_ex1 (.iinc x y) (pc + 3) n v L S X = some st) : am_St l D DA b sz q (pc, L, S, X) st := by
  simp only [am_ex1] at h
  split at h
  · rename_i z hz
    split at h
    · rename_i L2 hv
      cases h
      exact am_st_l (by
        intro p e R s m args below meth c Q ls H locs cells slots hA hL k
        obtain ⟨hx, hb, hml, hown, hts, hK, hin⟩ := hA
        obtain ⟨k0, hk0⟩ := am_lst_at (b := b) (sz := sz) hz
        exact lv_iinc hx hb hd hL.has hk0 (by rw [ho]) (by rw [← hL.1]; exact (am_st1_spec hv).1) rfl (fun ls2 h2 => k ls2 (am_Ls.of1 hL.1 hv h2)))
    · cases h
  · cases h
theorem am_x_iadd {pc n : Nat} {v : Int32} {L : am_L} {S : List Value} {X : am_T × (Nat → Nat → Value) × (Nat → Nat → Int32)} {st : am_S} (hd : decode q.2.2.1 pc = .ok (.iadd, 1)) (h : am_ex1 (.iadd) (pc + 1) n v L S X = some st) : am_St l D DA b sz q (pc, L, S, X) st := by
  simp only [am_ex1, am_op2] at h
  split at h
  · cases h
    exact am_st_p (by
      intro p e R s m args below meth c Q ls H locs cells slots hA hf hl hc hs hL hO k
      obtain ⟨hx, hb, hml, hown, hts, hK, hin⟩ := hA
      exact lv_iadd hx hb hd k)
  · cases h
theorem am_x_isub {pc n : Nat} {v : Int32} {L : am_L} {S : List Value} {X : am_T × (Nat → Nat → Value) × (Nat → Nat → Int32)} {st : am_S} (hd : decode q.2.2.1 pc = .ok (.isub, 1)) (h : am_ex1 (.isub) (pc + 1) n v L S X = some st) : am_St l D DA b sz q (pc, L, S, X) st := by
  simp only [am_ex1, am_op2] at h
  split at h
  · cases h
    exact am_st_p (by
      intro p e R s m args below meth c Q ls H locs cells slots hA hf hl hc hs hL hO k
      obtain ⟨hx, hb, hml, hown, hts, hK, hin⟩ := hA
      exact lv_isub hx hb hd k)
  · cases h
theorem am_x_imul {pc n : Nat} {v : Int32} {L : am_L} {S : List Value} {X : am_T × (Nat → Nat → Value) × (Nat → Nat → Int32)} {st : am_S} (hd : decode q.2.2.1 pc = .ok (.imul, 1)) (h : am_ex1 (.imul) (pc + 1) n v L S X = some st) : am_St l D DA b sz q (pc, L, S, X) st := by
  simp only [am_ex1, am_op2] at h
  split at h
  · cases h
    exact am_st_p (by
      intro p e R s m args below meth c Q ls H locs cells slots hA hf hl hc hs hL hO k
      obtain ⟨hx, hb, hml, hown, hts, hK, hin⟩ := hA
      exact lv_imul hx hb hd k)
  · cases h
theorem am_x_iand {pc n : Nat} {v : Int32} {L : am_L} {S : List Value} {X : am_T × (Nat → Nat → Value) × (Nat → Nat → Int32)} {st : am_S} (hd : decode q.2.2.1 pc = .ok (.iand, 1)) (h : am_ex1 (.iand) (pc + 1) n v L S X = some st) : am_St l D DA b sz q (pc, L, S, X) st := by
  simp only [am_ex1, am_op2] at h
  split at h
  · cases h
    exact am_st_p (by
      intro p e R s m args below meth c Q ls H locs cells slots hA hf hl hc hs hL hO k
      obtain ⟨hx, hb, hml, hown, hts, hK, hin⟩ := hA
      exact lv_iand hx hb hd k)
  · cases h
theorem am_x_ior {pc n : Nat} {v : Int32} {L : am_L} {S : List Value} {X : am_T × (Nat → Nat → Value) × (Nat → Nat → Int32)} {st : am_S} (hd : decode q.2.2.1 pc = .ok (.ior, 1)) (h : am_ex1 (.ior) (pc + 1) n v L S X = some st) : am_St l D DA b sz q (pc, L, S, X) st := by
  simp only [am_ex1, am_op2] at h
  split at h
  · cases h
    exact am_st_p (by
      intro p e R s m args below meth c Q ls H locs cells slots hA hf hl hc hs hL hO k
      obtain ⟨hx, hb, hml, hown, hts, hK, hin⟩ := hA
      exact lv_ior hx hb hd k)
  · cases h
theorem am_x_ixor {pc n : Nat} {v : Int32} {L : am_L} {S : List Value} {X : am_T × (Nat → Nat → Value) × (Nat → Nat → Int32)} {st : am_S} (hd : decode q.2.2.1 pc = .ok (.ixor, 1)) (h : am_ex1 (.ixor) (pc + 1) n v L S X = some st) : am_St l D DA b sz q (pc, L, S, X) st := by
  simp only [am_ex1, am_op2] at h
  split at h
  · cases h
    exact am_st_p (by
      intro p e R s m args below meth c Q ls H locs cells slots hA hf hl hc hs hL hO k
      obtain ⟨hx, hb, hml, hown, hts, hK, hin⟩ := hA
      exact lv_ixor hx hb hd k)
  · cases h
theorem am_x_ishl {pc n : Nat} {v : Int32} {L : am_L} {S : List Value} {X : am_T × (Nat → Nat → Value) × (Nat → Nat → Int32)} {st : am_S} (hd : decode q.2.2.1 pc = .ok (.ishl, 1)) (h : am_ex1 (.ishl) (pc + 1) n v L S X = some st) : am_St l D DA b sz q (pc, L, S, X) st := by
  simp only [am_ex1, am_op2] at h
  split at h
  · cases h
    exact am_st_p (by
      intro p e R s m args below meth c Q ls H locs cells slots hA hf hl hc hs hL hO k
      obtain ⟨hx, hb, hml, hown, hts, hK, hin⟩ := hA
      exact lv_ishl hx hb hd k)
  · cases h
theorem am_x_ishr {pc n : Nat} {v : Int32} {L : am_L} {S : List Value} {X : am_T × (Nat → Nat → Value) × (Nat → Nat → Int32)} {st : am_S} (hd : decode q.2.2.1 pc = .ok (.ishr, 1)) (h : am_ex1 (.ishr) (pc + 1) n v L S X = some st) : am_St l D DA b sz q (pc, L, S, X) st := by
  simp only [am_ex1, am_op2] at h
  split at h
  · cases h
    exact am_st_p (by
      intro p e R s m args below meth c Q ls H locs cells slots hA hf hl hc hs hL hO k
      obtain ⟨hx, hb, hml, hown, hts, hK, hin⟩ := hA
      exact lv_ishr hx hb hd k)
  · cases h
theorem am_x_iushr {pc n : Nat} {v : Int32} {L : am_L} {S : List Value} {X : am_T × (Nat → Nat → Value) × (Nat → Nat → Int32)} {st : am_S} (hd : decode q.2.2.1 pc = .ok (.iushr, 1)) (h : am_ex1 (.iushr) (pc + 1) n v L S X = some st) : am_St l D DA b sz q (pc, L, S, X) st := by
  simp only [am_ex1, am_op2] at h
  split at h
  · cases h
    exact am_st_p (by
      intro p e R s m args below meth c Q ls H locs cells slots hA hf hl hc hs hL hO k
      obtain ⟨hx, hb, hml, hown, hts, hK, hin⟩ := hA
      exact lv_iushr hx hb hd rfl k)
  · cases h
theorem am_x_lmul {pc n : Nat} {v : Int32} {L : am_L} {S : List Value} {X : am_T × (Nat → Nat → Value) × (Nat → Nat → Int32)} {st : am_S} (hd : decode q.2.2.1 pc = .ok (.lmul, 1)) (h : am_ex1 (.lmul) (pc + 1) n v L S X = some st) : am_St l D DA b sz q (pc, L, S, X) st := by
  simp only [am_ex1, am_opL] at h
  split at h
  · cases h
    exact am_st_p (by
      intro p e R s m args below meth c Q ls H locs cells slots hA hf hl hc hs hL hO k
      obtain ⟨hx, hb, hml, hown, hts, hK, hin⟩ := hA
      exact lv_lmul hx hb hd k)
  · cases h
theorem am_x_land {pc n : Nat} {v : Int32} {L : am_L} {S : List Value} {X : am_T × (Nat → Nat → Value) × (Nat → Nat → Int32)} {st : am_S} (hd : decode q.2.2.1 pc = .ok (.land, 1)) (h : am_ex1 (.land) (pc + 1) n v L S X = some st) : am_St l D DA b sz q (pc, L, S, X) st := by
  simp only [am_ex1, am_opL] at h
  split at h
  · cases h
    exact am_st_p (by
      intro p e R s m args below meth c Q ls H locs cells slots hA hf hl hc hs hL hO k
      obtain ⟨hx, hb, hml, hown, hts, hK, hin⟩ := hA
      exact lv_land hx hb hd k)
  · cases h
theorem am_x_lor {pc n : Nat} {v : Int32} {L : am_L} {S : List Value} {X : am_T × (Nat → Nat → Value) × (Nat → Nat → Int32)} {st : am_S} (hd : decode q.2.2.1 pc = .ok (.lor, 1)) (h : am_ex1 (.lor) (pc + 1) n v L S X = some st) : am_St l D DA b sz q (pc, L, S, X) st := by
  simp only [am_ex1, am_opL] at h
  split at h
  · cases h
    exact am_st_p (by
      intro p e R s m args below meth c Q ls H locs cells slots hA hf hl hc hs hL hO k
      obtain ⟨hx, hb, hml, hown, hts, hK, hin⟩ := hA
      exact lv_lor hx hb hd k)
  · cases h
theorem am_x_idiv {pc n : Nat} {v : Int32} {L : am_L} {S : List Value} {X : am_T × (Nat → Nat → Value) × (Nat → Nat → Int32)} {st : am_S} (hd : decode q.2.2.1 pc = .ok (.idiv, 1)) (h : am_ex1 (.idiv) (pc + 1) n v L S X = some st) : am_St l D DA b sz q (pc, L, S, X) st := by
  simp only [am_ex1] at h
  split at h
  · split at h
    · cases h
    · rename_i hne
      cases h
      exact am_st_p (by
        intro p e R s m args below meth c Q ls H locs cells slots hA hf hl hc hs hL hO k
        obtain ⟨hx, hb, hml, hown, hts, hK, hin⟩ := hA
        exact lv_idiv hx hb hd hne k)
  · cases h
theorem am_x_irem {pc n : Nat} {v : Int32} {L : am_L} {S : List Value} {X : am_T × (Nat → Nat → Value) × (Nat → Nat → Int32)} {st : am_S} (hd : decode q.2.2.1 pc = .ok (.irem, 1)) (h : am_ex1 (.irem) (pc + 1) n v L S X = some st) : am_St l D DA b sz q (pc, L, S, X) st := by
  simp only [am_ex1] at h
  split at h
  · split at h
    · cases h
    · rename_i hne
      cases h
      exact am_st_p (by
        intro p e R s m args below meth c Q ls H locs cells slots hA hf hl hc hs hL hO k
        obtain ⟨hx, hb, hml, hown, hts, hK, hin⟩ := hA
        exact lv_irem hx hb hd hne k)
  · cases h
theorem am_x_ldiv {pc n : Nat} {v : Int32} {L : am_L} {S : List Value} {X : am_T × (Nat → Nat → Value) × (Nat → Nat → Int32)} {st : am_S} (hd : decode q.2.2.1 pc = .ok (.ldiv, 1)) (h : am_ex1 (.ldiv) (pc + 1) n v L S X = some st) : am_St l D DA b sz q (pc, L, S, X) st := by
  simp only [am_ex1] at h
  split at h
  · split at h
    · cases h
    · rename_i hne
      cases h
      exact am_st_p (by
        intro p e R s m args below meth c Q ls H locs cells slots hA hf hl hc hs hL hO k
        obtain ⟨hx, hb, hml, hown, hts, hK, hin⟩ := hA
        exact lv_ldiv hx hb hd hne k)
  · cases h
theorem am_x_ineg {pc n : Nat} {v : Int32} {L : am_L} {S : List Value} {X : am_T × (Nat → Nat → Value) × (Nat → Nat → Int32)} {st : am_S} (hd : decode q.2.2.1 pc = .ok (.ineg, 1)) (h : am_ex1 (.ineg) (pc + 1) n v L S X = some st) : am_St l D DA b sz q (pc, L, S, X) st := by
  simp only [am_ex1] at h
  split at h
  · cases h
    exact am_st_p (by
      intro p e R s m args below meth c Q ls H locs cells slots hA hf hl hc hs hL hO k
      obtain ⟨hx, hb, hml, hown, hts, hK, hin⟩ := hA
      exact lv_ineg hx hb hd k)
  · cases h
theorem am_x_lshl {pc n : Nat} {v : Int32} {L : am_L} {S : List Value} {X : am_T × (Nat → Nat → Value) × (Nat → Nat → Int32)} {st : am_S} (hd : decode q.2.2.1 pc = .ok (.lshl, 1)) (h : am_ex1 (.lshl) (pc + 1) n v L S X = some st) : am_St l D DA b sz q (pc, L, S, X) st := by
  simp only [am_ex1] at h
  split at h
  · cases h
    exact am_st_p (by
      intro p e R s m args below meth c Q ls H locs cells slots hA hf hl hc hs hL hO k
      obtain ⟨hx, hb, hml, hown, hts, hK, hin⟩ := hA
      exact lv_lshl hx hb hd rfl k)
  · cases h
theorem am_x_lshr {pc n : Nat} {v : Int32} {L : am_L} {S : List Value} {X : am_T × (Nat → Nat → Value) × (Nat → Nat → Int32)} {st : am_S} (hd : decode q.2.2.1 pc = .ok (.lshr, 1)) (h : am_ex1 (.lshr) (pc + 1) n v L S X = some st) : am_St l D DA b sz q (pc, L, S, X) st := by
  simp only [am_ex1] at h
  split at h
  · cases h
    exact am_st_p (by
      intro p e R s m args below meth c Q ls H locs cells slots hA hf hl hc hs hL hO k
      obtain ⟨hx, hb, hml, hown, hts, hK, hin⟩ := hA
      exact lv_lshr hx hb hd rfl k)
  · cases h
theorem am_x_lcmp {pc n : Nat} {v : Int32} {L : am_L} {S : List Value} {X : am_T × (Nat → Nat → Value) × (Nat → Nat → Int32)} {st : am_S} (hd : decode q.2.2.1 pc = .ok (.lcmp, 1)) (h : am_ex1 (.lcmp) (pc + 1) n v L S X = some st) : am_St l D DA b sz q (pc, L, S, X) st := by
  simp only [am_ex1] at h
  split at h
  · cases h
    exact am_st_p (by
      intro p e R s m args below meth c Q ls H locs cells slots hA hf hl hc hs hL hO k
      obtain ⟨hx, hb, hml, hown, hts, hK, hin⟩ := hA
      exact W.lcmp hx hb hd k)
  · cases h
theorem am_x_i2l {pc n : Nat} {v : Int32} {L : am_L} {S : List Value} {X : am_T × (Nat → Nat → Value) × (Nat → Nat → Int32)} {st : am_S} (hd : decode q.2.2.1 pc = .ok (.i2l, 1)) (h : am_ex1 (.i2l) (pc + 1) n v L S X = some st) : am_St l D DA b sz q (pc, L, S, X) st := by
  simp only [am_ex1] at h
  split at h
  · cases h
    exact am_st_p (by
      intro p e R s m args below meth c Q ls H locs cells slots hA hf hl hc hs hL hO k
      obtain ⟨hx, hb, hml, hown, hts, hK, hin⟩ := hA
      exact lv_i2l hx hb hd rfl k)
  · cases h
theorem am_x_l2i {pc n : Nat} {v : Int32} {L : am_L} {S : List Value} {X : am_T × (Nat → Nat → Value) × (Nat → Nat → Int32)} {st : am_S} (hd : decode q.2.2.1 pc = .ok (.l2i, 1)) (h : am_ex1 (.l2i) (pc + 1) n v L S X = some st) : am_St l D DA b sz q (pc, L, S, X) st := by
  simp only [am_ex1] at h
  split at h
  · cases h
    exact am_st_p (by
      intro p e R s m args below meth c Q ls H locs cells slots hA hf hl hc hs hL hO k
      obtain ⟨hx, hb, hml, hown, hts, hK, hin⟩ := hA
      exact lv_l2i hx hb hd rfl k)
  · cases h
theorem am_x_dup {pc n : Nat} {v : Int32} {L : am_L} {S : List Value} {X : am_T × (Nat → Nat → Value) × (Nat → Nat → Int32)} {st : am_S} (hd : decode q.2.2.1 pc = .ok (.dup, 1)) (h : am_ex1 (.dup) (pc + 1) n v L S X = some st) : am_St l D DA b sz q (pc, L, S, X) st := by
  simp only [am_ex1] at h
  split at h
  · split at h
    · rename_i h1
      cases h
      exact am_st_p (by
        intro p e R s m args below meth c Q ls H locs cells slots hA hf hl hc hs hL hO k
        obtain ⟨hx, hb, hml, hown, hts, hK, hin⟩ := hA
        exact lv_dup hx hb hd (am_v_c1 h1) k)
    · cases h
  · cases h
theorem am_x_pop {pc n : Nat} {v : Int32} {L : am_L} {S : List Value} {X : am_T × (Nat → Nat → Value) × (Nat → Nat → Int32)} {st : am_S} (hd : decode q.2.2.1 pc = .ok (.pop, 1)) (h : am_ex1 (.pop) (pc + 1) n v L S X = some st) : am_St l D DA b sz q (pc, L, S, X) st := by
  simp only [am_ex1] at h
  split at h
  · split at h
    · rename_i h1
      cases h
      exact am_st_p (by
        intro p e R s m args below meth c Q ls H locs cells slots hA hf hl hc hs hL hO k
        obtain ⟨hx, hb, hml, hown, hts, hK, hin⟩ := hA
        exact lv_pop hx hb hd (am_v_c1 h1) k)
    · cases h
  · cases h
theorem am_x_dup2 {pc n : Nat} {v : Int32} {L : am_L} {S : List Value} {X : am_T × (Nat → Nat → Value) × (Nat → Nat → Int32)} {st : am_S} (hd : decode q.2.2.1 pc = .ok (.dup2, 1)) (h : am_ex1 (.dup2) (pc + 1) n v L S X = some st) : am_St l D DA b sz q (pc, L, S, X) st := by
  simp only [am_ex1] at h
  split at h
  · split at h
    · rename_i h1
      cases h
      exact am_st_p (by
        intro p e R s m args below meth c Q ls H locs cells slots hA hf hl hc hs hL hO k
        obtain ⟨hx, hb, hml, hown, hts, hK, hin⟩ := hA
        exact lv_dup2_11 hx hb hd (am_v_c1 (Bool.and_eq_true _ _ ▸ h1 : _ ∧ _).1) (am_v_c1 (Bool.and_eq_true _ _ ▸ h1 : _ ∧ _).2) k)
    · cases h
  · cases h
end AMS
end
section
/-! group 2: jumps -/
section AMS
variable {l : Launch} {D : va_G} {DA : Nat → ClassId} {b sz : Nat} {q : am_M}
theorem am_x_goto {pc n : Nat} {off : Int} {w : List Nat} {L : am_L} {S : List Value} {X : am_T × (Nat → Nat → Value) × (Nat → Nat → Int32)} {st : am_S} (hd : decode q.2.2.1 pc = .ok (.goto off, 3)) (ho : (pc : Int) + off = (n : Int)) (h : am_ex2 (.goto off) (pc + 3) n w L S X = some st) : am_St l D DA b sz q (pc, L, S, X) st := by
  cases h
  exact am_st_p (by
    intro p e R s m args below meth c Q ls H locs cells slots hA hf hl hc hs hL hO k
    obtain ⟨hx, hb, hml, hown, hts, hK, hin⟩ := hA
    exact lv_goto hx hb hd ho k)
theorem am_x_ifCond_eq {pc n : Nat} {off : Int} {w : List Nat} {L : am_L} {S : List Value} {X : am_T × (Nat → Nat → Value) × (Nat → Nat → Int32)} {st : am_S} (hd : decode q.2.2.1 pc = .ok (.ifCond .eq off, 3)) (ho : (pc : Int) + off = (n : Int)) (h : am_ex2 (.ifCond .eq off) (pc + 3) n w L S X = some st) : am_St l D DA b sz q (pc, L, S, X) st := by
  simp only [am_ex2] at h
  split at h
  · cases h
    exact am_st_p (by
      intro p e R s m args below meth c Q ls H locs cells slots hA hf hl hc hs hL hO k
      obtain ⟨hx, hb, hml, hown, hts, hK, hin⟩ := hA
      exact lv_if_eq hx hb hd ho (fun h9 => by rw [if_pos h9] at k; exact k) (fun h9 => by rw [if_neg h9] at k; exact k))
  · cases h
theorem am_x_if_icmp_eq {pc n : Nat} {off : Int} {w : List Nat} {L : am_L} {S : List Value} {X : am_T × (Nat → Nat → Value) × (Nat → Nat → Int32)} {st : am_S} (hd : decode q.2.2.1 pc = .ok (.if_icmp .eq off, 3)) (ho : (pc : Int) + off = (n : Int)) (h : am_ex2 (.if_icmp .eq off) (pc + 3) n w L S X = some st) : am_St l D DA b sz q (pc, L, S, X) st := by
  simp only [am_ex2] at h
  split at h
  · cases h
    exact am_st_p (by
      intro p e R s m args below meth c Q ls H locs cells slots hA hf hl hc hs hL hO k
      obtain ⟨hx, hb, hml, hown, hts, hK, hin⟩ := hA
      exact lv_icmp_eq hx hb hd ho (fun h9 => by rw [if_pos h9] at k; exact k) (fun h9 => by rw [if_neg h9] at k; exact k))
  · cases h
theorem am_x_ifCond_ne {pc n : Nat} {off : Int} {w : List Nat} {L : am_L} {S : List Value} {X : am_T × (Nat → Nat → Value) × (Nat → Nat → Int32)} {st : am_S} (hd : decode q.2.2.1 pc = .ok (.ifCond .ne off, 3)) (ho : (pc : Int) + off = (n : Int)) (h : am_ex2 (.ifCond .ne off) (pc + 3) n w L S X = some st) : am_St l D DA b sz q (pc, L, S, X) st := by
  simp only [am_ex2] at h
  split at h
  · cases h
    exact am_st_p (by
      intro p e R s m args below meth c Q ls H locs cells slots hA hf hl hc hs hL hO k
      obtain ⟨hx, hb, hml, hown, hts, hK, hin⟩ := hA
      exact lv_if_ne hx hb hd ho (fun h9 => by rw [if_neg h9] at k; exact k) (fun h9 => by rw [if_pos h9] at k; exact k))
  · cases h
theorem am_x_if_icmp_ne {pc n : Nat} {off : Int} {w : List Nat} {L : am_L} {S : List Value} {X : am_T × (Nat → Nat → Value) × (Nat → Nat → Int32)} {st : am_S} (hd : decode q.2.2.1 pc = .ok (.if_icmp .ne off, 3)) (ho : (pc : Int) + off = (n : Int)) (h : am_ex2 (.if_icmp .ne off) (pc + 3) n w L S X = some st) : am_St l D DA b sz q (pc, L, S, X) st := by
  simp only [am_ex2] at h
  split at h
  · cases h
    exact am_st_p (by
      intro p e R s m args below meth c Q ls H locs cells slots hA hf hl hc hs hL hO k
      obtain ⟨hx, hb, hml, hown, hts, hK, hin⟩ := hA
      exact lv_icmp_ne hx hb hd ho (fun h9 => by rw [if_neg h9] at k; exact k) (fun h9 => by rw [if_pos h9] at k; exact k))
  · cases h
theorem am_x_ifCond_lt {pc n : Nat} {off : Int} {w : List Nat} {L : am_L} {S : List Value} {X : am_T × (Nat → Nat → Value) × (Nat → Nat → Int32)} {st : am_S} (hd : decode q.2.2.1 pc = .ok (.ifCond .lt off, 3)) (ho : (pc : Int) + off = (n : Int)) (h : am_ex2 (.ifCond .lt off) (pc + 3) n w L S X = some st) : am_St l D DA b sz q (pc, L, S, X) st := by
  simp only [am_ex2] at h
  split at h
  · cases h
    exact am_st_p (by
      intro p e R s m args below meth c Q ls H locs cells slots hA hf hl hc hs hL hO k
      obtain ⟨hx, hb, hml, hown, hts, hK, hin⟩ := hA
      exact lv_if_lt hx hb hd ho (fun h9 => by rw [if_pos h9] at k; exact k) (fun h9 => by rw [if_neg h9] at k; exact k))
  · cases h
theorem am_x_if_icmp_lt {pc n : Nat} {off : Int} {w : List Nat} {L : am_L} {S : List Value} {X : am_T × (Nat → Nat → Value) × (Nat → Nat → Int32)} {st : am_S} (hd : decode q.2.2.1 pc = .ok (.if_icmp .lt off, 3)) (ho : (pc : Int) + off = (n : Int)) (h : am_ex2 (.if_icmp .lt off) (pc + 3) n w L S X = some st) : am_St l D DA b sz q (pc, L, S, X) st := by
  simp only [am_ex2] at h
  split at h
  · cases h
    exact am_st_p (by
      intro p e R s m args below meth c Q ls H locs cells slots hA hf hl hc hs hL hO k
      obtain ⟨hx, hb, hml, hown, hts, hK, hin⟩ := hA
      exact lv_icmp_lt hx hb hd ho (fun h9 => by rw [if_pos h9] at k; exact k) (fun h9 => by rw [if_neg h9] at k; exact k))
  · cases h
theorem am_x_ifCond_ge {pc n : Nat} {off : Int} {w : List Nat} {L : am_L} {S : List Value} {X : am_T × (Nat → Nat → Value) × (Nat → Nat → Int32)} {st : am_S} (hd : decode q.2.2.1 pc = .ok (.ifCond .ge off, 3)) (ho : (pc : Int) + off = (n : Int)) (h : am_ex2 (.ifCond .ge off) (pc + 3) n w L S X = some st) : am_St l D DA b sz q (pc, L, S, X) st := by
  simp only [am_ex2] at h
  split at h
  · cases h
    exact am_st_p (by
      intro p e R s m args below meth c Q ls H locs cells slots hA hf hl hc hs hL hO k
      obtain ⟨hx, hb, hml, hown, hts, hK, hin⟩ := hA
      exact lv_if_ge hx hb hd ho (fun h9 => by rw [if_pos h9] at k; exact k) (fun h9 => by rw [if_neg h9] at k; exact k))
  · cases h
theorem am_x_if_icmp_ge {pc n : Nat} {off : Int} {w : List Nat} {L : am_L} {S : List Value} {X : am_T × (Nat → Nat → Value) × (Nat → Nat → Int32)} {st : am_S} (hd : decode q.2.2.1 pc = .ok (.if_icmp .ge off, 3)) (ho : (pc : Int) + off = (n : Int)) (h : am_ex2 (.if_icmp .ge off) (pc + 3) n w L S X = some st) : am_St l D DA b sz q (pc, L, S, X) st := by
  simp only [am_ex2] at h
  split at h
  · cases h
    exact am_st_p (by
      intro p e R s m args below meth c Q ls H locs cells slots hA hf hl hc hs hL hO k
      obtain ⟨hx, hb, hml, hown, hts, hK, hin⟩ := hA
      exact lv_icmp_ge hx hb hd ho (fun h9 => by rw [if_pos h9] at k; exact k) (fun h9 => by rw [if_neg h9] at k; exact k))
  · cases h
theorem am_x_ifCond_gt {pc n : Nat} {off : Int} {w : List Nat} {L : am_L} {S : List Value} {X : am_T × (Nat → Nat → Value) × (Nat → Nat → Int32)} {st : am_S} (hd : decode q.2.2.1 pc = .ok (.ifCond .gt off, 3)) (ho : (pc : Int) + off = (n : Int)) (h : am_ex2 (.ifCond .gt off) (pc + 3) n w L S X = some st) : am_St l D DA b sz q (pc, L, S, X) st := by
  simp only [am_ex2] at h
  split at h
  · cases h
    exact am_st_p (by
      intro p e R s m args below meth c Q ls H locs cells slots hA hf hl hc hs hL hO k
      obtain ⟨hx, hb, hml, hown, hts, hK, hin⟩ := hA
      exact lv_if_gt hx hb hd ho (fun h9 => by rw [if_pos h9] at k; exact k) (fun h9 => by rw [if_neg h9] at k; exact k))
  · cases h
theorem am_x_if_icmp_gt {pc n : Nat} {off : Int} {w : List Nat} {L : am_L} {S : List Value} {X : am_T × (Nat → Nat → Value) × (Nat → Nat → Int32)} {st : am_S} (hd : decode q.2.2.1 pc = .ok (.if_icmp .gt off, 3)) (ho : (pc : Int) + off = (n : Int)) (h : am_ex2 (.if_icmp .gt off) (pc + 3) n w L S X = some st) : am_St l D DA b sz q (pc, L, S, X) st := by
  simp only [am_ex2] at h
  split at h
  · cases h
    exact am_st_p (by
      intro p e R s m args below meth c Q ls H locs cells slots hA hf hl hc hs hL hO k
      obtain ⟨hx, hb, hml, hown, hts, hK, hin⟩ := hA
      exact lv_icmp_gt hx hb hd ho (fun h9 => by rw [if_pos h9] at k; exact k) (fun h9 => by rw [if_neg h9] at k; exact k))
  · cases h
theorem am_x_ifCond_le {pc n : Nat} {off : Int} {w : List Nat} {L : am_L} {S : List Value} {X : am_T × (Nat → Nat → Value) × (Nat → Nat → Int32)} {st : am_S} (hd : decode q.2.2.1 pc = .ok (.ifCond .le off, 3)) (ho : (pc : Int) + off = (n : Int)) (h : am_ex2 (.ifCond .le off) (pc + 3) n w L S X = some st) : am_St l D DA b sz q (pc, L, S, X) st := by
  simp only [am_ex2] at h
  split at h
  · cases h
    exact am_st_p (by
      intro p e R s m args below meth c Q ls H locs cells slots hA hf hl hc hs hL hO k
      obtain ⟨hx, hb, hml, hown, hts, hK, hin⟩ := hA
      exact lv_if_le hx hb hd ho (fun h9 => by rw [if_pos h9] at k; exact k) (fun h9 => by rw [if_neg h9] at k; exact k))
  · cases h
theorem am_x_if_icmp_le {pc n : Nat} {off : Int} {w : List Nat} {L : am_L} {S : List Value} {X : am_T × (Nat → Nat → Value) × (Nat → Nat → Int32)} {st : am_S} (hd : decode q.2.2.1 pc = .ok (.if_icmp .le off, 3)) (ho : (pc : Int) + off = (n : Int)) (h : am_ex2 (.if_icmp .le off) (pc + 3) n w L S X = some st) : am_St l D DA b sz q (pc, L, S, X) st := by
  simp only [am_ex2] at h
  split at h
  · cases h
    exact am_st_p (by
      intro p e R s m args below meth c Q ls H locs cells slots hA hf hl hc hs hL hO k
      obtain ⟨hx, hb, hml, hown, hts, hK, hin⟩ := hA
      exact lv_icmp_le hx hb hd ho (fun h9 => by rw [if_pos h9] at k; exact k) (fun h9 => by rw [if_neg h9] at k; exact k))
  · cases h
theorem am_x_ifnull {pc n : Nat} {off : Int} {w : List Nat} {L : am_L} {S : List Value} {X : am_T × (Nat → Nat → Value) × (Nat → Nat → Int32)} {st : am_S} (hd : decode q.2.2.1 pc = .ok (.ifnull off, 3)) (ho : (pc : Int) + off = (n : Int)) (h : am_ex2 (.ifnull off) (pc + 3) n w L S X = some st) : am_St l D DA b sz q (pc, L, S, X) st := by
  simp only [am_ex2] at h
  split at h
  · cases h
    exact am_st_p (by
      intro p e R s m args below meth c Q ls H locs cells slots hA hf hl hc hs hL hO k
      obtain ⟨hx, hb, hml, hown, hts, hK, hin⟩ := hA
      exact lv_ifnull hx hb hd k)
  · cases h
    exact am_st_p (by
      intro p e R s m args below meth c Q ls H locs cells slots hA hf hl hc hs hL hO k
      obtain ⟨hx, hb, hml, hown, hts, hK, hin⟩ := hA
      exact lv_ifnullN hx hb hd ho k)
  · cases h
theorem am_x_ifnonnull {pc n : Nat} {off : Int} {w : List Nat} {L : am_L} {S : List Value} {X : am_T × (Nat → Nat → Value) × (Nat → Nat → Int32)} {st : am_S} (hd : decode q.2.2.1 pc = .ok (.ifnonnull off, 3)) (ho : (pc : Int) + off = (n : Int)) (h : am_ex2 (.ifnonnull off) (pc + 3) n w L S X = some st) : am_St l D DA b sz q (pc, L, S, X) st := by
  simp only [am_ex2] at h
  split at h
  · cases h
    exact am_st_p (by
      intro p e R s m args below meth c Q ls H locs cells slots hA hf hl hc hs hL hO k
      obtain ⟨hx, hb, hml, hown, hts, hK, hin⟩ := hA
      exact lv_ifnonnull hx hb hd ho k)
  · cases h
    exact am_st_p (by
      intro p e R s m args below meth c Q ls H locs cells slots hA hf hl hc hs hL hO k
      obtain ⟨hx, hb, hml, hown, hts, hK, hin⟩ := hA
      exact lv_ifnonnullN hx hb hd k)
  · cases h
theorem am_x_tableswitch {pc n : Nat} {d lo hi : Int} {offs : Array Int} {len : Nat} {w : List Nat} {L : am_L} {S : List Value} {X : am_T × (Nat → Nat → Value) × (Nat → Nat → Int32)} {st : am_S} (hd : decode q.2.2.1 pc = .ok (.tableswitch d lo hi offs, len)) (ho : (pc : Int) + d = (n : Int)) (ho2 : offs.toList.map (fun o => (pc : Int) + o) = w.map (fun g : Nat => (g : Int))) (h : am_ex2 (.tableswitch d lo hi offs) (pc + len) n w L S X = some st) : am_St l D DA b sz q (pc, L, S, X) st := by
  simp only [am_ex2] at h
  split at h
  · split at h
    · rename_i h9
      cases h
      exact am_st_p (by
        intro p e R s m args below meth c Q ls H locs cells slots hA hf hl hc hs hL hO k
        obtain ⟨hx, hb, hml, hown, hts, hK, hin⟩ := hA
        exact lv_tableOut hx hb hd h9 ho k)
    · rename_i x S h9
      have h1 : ¬ x.toInt < lo := fun z => h9 (Or.inl z)
      have h2 : ¬ hi < x.toInt := fun z => h9 (Or.inr z)
      split at h
      · rename_i g hg
        cases h
        have e1 : (offs.toList.map (fun o => (pc : Int) + o))[(x.toInt - lo).toNat]? = some (g : Int) := by
          rw [ho2, List.getElem?_map, hg]; rfl
        rw [List.getElem?_map] at e1
        cases ho3 : offs.toList[(x.toInt - lo).toNat]? with
        | none => rw [ho3] at e1; cases e1
        | some off =>
          rw [ho3] at e1
          have e2 : (pc : Int) + off = (g : Int) := Option.some.inj e1
          exact am_st_p (by
            intro p e R s m args below meth c Q ls H locs cells slots hA hf hl hc hs hL hO k
            obtain ⟨hx, hb, hml, hown, hts, hK, hin⟩ := hA
            exact lv_tableIn hx hb hd h1 h2 (by rw [← Array.getElem?_toList]; exact ho3) e2 k)
      · cases h
  · cases h
end AMS
end
section
/-! group 3: cells -/
section AMS
variable {l : Launch} {D : va_G} {DA : Nat → ClassId} {b sz : Nat} {q : am_M}
theorem am_ad_pos {c : Nat} (h : 0 < c) : am_ad b sz c = sz + (c - 1) := by unfold am_ad; rw [if_neg (by omega)]
theorem am_ad_inj {c c' : Nat} (hb : b < sz) (h : am_ad b sz c = am_ad b sz c') : c = c' := by
  unfold am_ad at h
  split at h <;> split at h <;> omega
/-- cells that aren't the changed one -/
theorem am_cell.kept {s : State} {ρ ρ' : Nat → Nat → Value} {σ σ' : Nat → Nat → Int32} {H H' : Heap} {c : Nat} {x : Nat ⊕ (Nat × Nat)} (h : am_cell D DA b sz s ρ σ H c x) (hr : ρ' c = ρ c) (hs : σ' c = σ c) (hH : H'[am_ad b sz c]? = H[am_ad b sz c]?) : am_cell D DA b sz s ρ' σ' H' c x := by
  cases x with
  | inl ci =>
    obtain ⟨h0, w, h1, h2⟩ := h
    refine ⟨h0, w, h1, (h2.kept hH).to (fun k _ => ?_)⟩
    simp only [am_val, hr, hs]
  | inr t =>
    obtain ⟨t, n⟩ := t
    rcases h with ⟨h1, rfl, h2⟩ | ⟨h1, h0, h2⟩ | ⟨h1, h0, h2⟩
    · refine Or.inl ⟨h1, rfl, ?_⟩
      rw [hs]
      exact h2.kept hH
    · refine Or.inr (Or.inl ⟨h1, h0, ?_⟩)
      rw [hH, h2]
      simp only [hs]
    · refine Or.inr (Or.inr ⟨h1, h0, ?_⟩)
      rw [hH, h2]
      simp only [hr]
theorem am_ok.set {s : State} {T : am_T} {ρ ρ' : Nat → Nat → Value} {σ σ' : Nat → Nat → Int32} {H H' : Heap} {c : Nat} (h : am_ok D DA b sz s (T, ρ, σ) H) (hr : ∀ c', c' ≠ c → ρ' c' = ρ c') (hs : ∀ c', c' ≠ c → σ' c' = σ c') (hsz : H'.size = H.size) (hH : ∀ a, a ≠ am_ad b sz c → H'[a]? = H[a]?) (hc : ∀ x, T[c]? = some x → am_cell D DA b sz s ρ' σ' H' c x) : am_ok D DA b sz s (T, ρ', σ') H' := by
  obtain ⟨h1, h2, h3, h4⟩ := h
  refine ⟨h1, h2, by rw [hsz]; exact h3, fun c' x hx => ?_⟩
  by_cases hcc : c' = c
  · subst hcc
    exact hc x hx
  · exact (h4 c' x hx).kept (hr c' hcc) (hs c' hcc) (hH _ (fun z => hcc (am_ad_inj h1 z)))
theorem am_us_ne {σ : Nat → Nat → Int32} {c c' k : Nat} {x : Int32} (h : c' ≠ c) : am_us σ c k x c' = σ c' := by
  funext j
  unfold am_us
  rw [if_neg (fun z => h z.1)]
theorem am_ur_ne {ρ : Nat → Nat → Value} {c c' k : Nat} {x : Value} (h : c' ≠ c) : am_ur ρ c k x c' = ρ c' := by
  funext j
  unfold am_ur
  rw [if_neg (fun z => h z.1)]
theorem am_fw {idx n n2 : Nat} (h : am_FW.any (fun z => z.1 == q.1 && (z.2.1 == idx && (z.2.2.1 == n && z.2.2.2 == n2))) = true) : Cond.fieldLink (am_cn q.1) idx (am_F n n2).1 (am_F n n2).2.1 (am_F n n2).2.2.1 ∈ am_tb := by
  obtain ⟨z, hz, h⟩ := am_anyK h
  simp only [Bool.and_eq_true, beq_iff_eq] at h
  obtain ⟨h1, h2, h3, h4⟩ := h
  subst h2; subst h3; subst h4
  rw [← h1]
  exact am_tb_in (am_mem am_FWe _ (List.mem_map.mpr ⟨z, hz, rfl⟩)) rfl
theorem am_cls_at {n : Nat} (h : n < 10) : am_cls[n]? = some (am_cn n, am_F n, am_N n) := by
  rcases hq : am_cls[n]? with _ | w
  · have : am_cls.length ≤ n := by simpa using hq
    have h2 : am_cls.length = 10 := rfl
    omega
  · rw [(am_clsOk n w hq).1]
theorem am_lay_in {n k : Nat} (h : n < 10) (hk : k < am_N n) : u_lay (am_cn n) (am_F n) k ∈ am_tb := by
  have h1 := (am_clsOk n _ (am_cls_at h)).2.1 _ (u_in_lay hk)
  refine am_tb_in h1 ?_
  unfold u_lay
  split <;> rfl
theorem am_u_in {n : Nat} (h : n < 10) : ∀ w ∈ u_ws (am_cn n) (am_F n) (am_N n), w ∈ am_tb := by
  intro w hw
  obtain ⟨k, hk, rfl⟩ := List.mem_map.mp hw
  exact am_lay_in h (List.mem_range.mp hk)
theorem am_x_getfield {pc idx n n2 : Nat} {L : am_L} {S : List Value} {T : am_T} {ρ : Nat → Nat → Value} {σ : Nat → Nat → Int32} {st : am_S} (hd : decode q.2.2.1 pc = .ok (.getfield idx, 3)) (ho : am_FW.any (fun z => z.1 == q.1 && (z.2.1 == idx && (z.2.2.1 == n && z.2.2.2 == n2))) = true) (hn2 : n2 < am_N n) (hn : n < 10) (h : am_ex3 (.getfield idx) (pc + 3) n n2 L S T ρ σ = some st) : am_St l D DA b sz q (pc, L, S, T, ρ, σ) st := by
  simp only [am_ex3] at h
  split at h
  · rename_i c S
    split at h
    · rename_i hT
      have key : am_St l D DA b sz q (pc, L, .ref c :: S, T, ρ, σ) (pc + 3, L, am_val ρ σ n c n2 :: S, T, ρ, σ) := am_st_p (by
        intro p e R s m args below meth co Q ls H locs cells slots hA hf hl hc hs hL hO k
        obtain ⟨hx, hb, hml, hown, hts, hK, hin⟩ := hA
        obtain ⟨-, w, hw, cell, q1, q2, q3, q4⟩ := hO.2.2.2 c _ hT
        have hc0 := am_cls_at hn
        have hw2 : w = (am_cn n, am_F n, am_N n) := Option.some.inj (hw.symm.trans hc0)
        subst hw2
        obtain ⟨hS, hfc, kC, hkC, hkind⟩ := hK.1.1 n _ hc0
        obtain ⟨cf, kf, fi, f, hi, hsl⟩ := hS n2 hn2
        refine W.getf hx hb hown (hts _ (am_fw ho)) hi (u_facts hfc hkC (u_lays hts (am_u_in hn) hn2) hi).1 q1 (by rw [q3]; exact fun h => by cases h) (v := am_v b sz (am_val ρ σ n c n2)) ?_ rfl rfl hd k
        rw [hsl]
        exact q4 n2 hn2)
      split at h
      · rename_i hI
        cases h
        have e1 : am_val ρ σ n c n2 = .int (σ c n2) := by unfold am_val; rw [if_pos hI]
        rw [e1] at key
        exact key
      · rename_i hI
        cases h
        have e1 : am_val ρ σ n c n2 = ρ c n2 := by unfold am_val; rw [if_neg hI]
        rw [e1] at key
        exact key
    · cases h
  · cases h
/-- a field is written -/
theorem am_put {pc idx n n2 c : Nat} {x : Value} {L : am_L} {S : List Value} {T : am_T} {ρ ρ' : Nat → Nat → Value} {σ σ' : Nat → Nat → Int32} (hd : decode q.2.2.1 pc = .ok (.putfield idx, 3)) (ho : am_FW.any (fun z => z.1 == q.1 && (z.2.1 == idx && (z.2.2.1 == n && z.2.2.2 == n2))) = true) (hn2 : n2 < am_N n) (hn : n < 10) (hfin : (!(am_F n n2).2.2.2 || (q.2.2.2.2.2.2.2 && decide ((am_F n n2).1 = am_cn q.1))) = true)
    (hT : T[c]? = some (.inl n)) (hr : ∀ c', c' ≠ c → ρ' c' = ρ c') (hs : ∀ c', c' ≠ c → σ' c' = σ c') (hv : ∀ k, k < am_N n → am_v b sz (am_val ρ' σ' n c k) = updV (fun k => am_v b sz (am_val ρ σ n c k)) n2 (am_v b sz x) k) (hnar : narrow (am_fty n n2) (am_v b sz x) = am_v b sz x) (hfit : fits (am_fty n n2) (am_v b sz x) = true) :
    am_St l D DA b sz q (pc, L, x :: .ref c :: S, T, ρ, σ) (pc + 3, L, S, T, ρ', σ') := am_st_h (by
  intro p e R s m args below meth co Q ls H locs cells slots hA hO hlo k
  obtain ⟨hx, hb, hml, hown, hts, hK, hin⟩ := hA
  obtain ⟨hc00, w, hw, cell, q1, q2, q3, q4⟩ := hO.2.2.2 c _ hT
  have hc0 := am_cls_at hn
  have hw2 : w = (am_cn n, am_F n, am_N n) := Option.some.inj (hw.symm.trans hc0)
  subst hw2
  have hcl := am_clsOk n _ hc0
  have hap := va_apart (own := am_cn n) hts (am_u_in hn) (am_fty n) hcl.2.2.1 hcl.2.2.2.1 hK.1 hc0
  obtain ⟨hS, hfc, kC, hkC, hkind⟩ := hK.1.1 n _ hc0
  obtain ⟨cf, kf, fi, f, hi, hsl⟩ := hS n2 hn2
  have hst := (u_facts hfc hkC (u_lays hts (am_u_in hn) hn2) hi).1
  have hty := hcl.2.2.1 n2 hn2
  have hbase : sz ≤ am_ad b sz c := by rw [am_ad_pos hc00]; omega
  have fin : ∀ (H' : Heap), H'[am_ad b sz c]? = some (cell.setSlot f.slot (am_v b sz x)) → H'.size = H.size → (∀ z, z ≠ am_ad b sz c → H'[z]? = H[z]?) → W p l e R s m args below meth co H' (locs ++ [⟨am_ad b sz c, f.slot⟩]) cells slots Q (F0 m (pc + 3) ls (S.map (am_v b sz))) := by
    intro H' e1 e2 e3
    refine k H' _ (hO.set hr hs e2 e3 (fun y hy => ?_)) (fun z hz => ?_)
    · have hy2 : y = .inl n := Option.some.inj (hy.symm.trans hT)
      subst hy2
      refine ⟨hc00, _, hc0, t_OB.to (V := updV (fun k => am_v b sz (am_val ρ σ n c k)) n2 (am_v b sz x)) ⟨_, e1, q2, q3, ?_⟩ (fun j hj => (hv j hj).symm)⟩
      rw [hsl]
      exact t_set q4 hap hn2 _
    · rcases List.mem_append.mp hz with hz | hz
      · exact hlo z hz
      · rw [List.mem_singleton.mp hz]; exact hbase
  by_cases hf : (am_F n n2).2.2.2 = true
  · rw [hf] at hfin
    simp only [Bool.not_true, Bool.false_or, Bool.and_eq_true, decide_eq_true_eq] at hfin
    have hlay := hts _ (am_lay_in hn hn2)
    unfold u_lay at hlay
    rw [if_pos hf] at hlay
    have hcf : m.cls = cf := by
      obtain ⟨_, _, c', _, _, _, -, -, hf', -, -, -, hown2, -⟩ := Cond.laysFinal_spec hlay
      have e1 : c' = cf := by have := hi.symm.trans hf'; simp at this; exact this.1.symm
      rw [hfin.2] at hown2
      rw [← e1]; exact Option.some.inj (hown.symm.trans hown2)
    have h6 := u_fits hfc hkC hkind (Or.inr hlay) hi hty hnar hfit
    exact W.putFinK hx hb hown (hts _ (am_fw ho)) hi hst hcf (hin hfin.1) (by rw [q2]; exact h6) q1 q3 (by rw [hsl]; exact k2_hasslot (q4 n2 hn2)) rfl rfl hd fin
  · have hlay := hts _ (am_lay_in hn hn2)
    unfold u_lay at hlay
    rw [if_neg hf] at hlay
    have h6 := u_store hfc hkC hkind hlay hi hty hnar hfit
    exact W.putK hx hb (f := f) ⟨hown, hts _ (am_fw ho), ⟨_, _, _, hi⟩, hst⟩ (by rw [q2]; exact h6) q1 q3 (by rw [hsl]; exact k2_hasslot (q4 n2 hn2)) rfl rfl hd fin)
theorem am_isI_cases {ty : FieldType} (h : am_isI ty = true) : ty = .int ∨ ty = .boolean := by cases ty <;> first | exact Or.inl rfl | exact Or.inr rfl | (cases h)
theorem am_ftyR : ∀ n, n < 10 → ∀ k, k < am_N n → am_isI (am_fty n k) = false → (∃ C, am_fty n k = .object C) ∨ ∃ t, am_fty n k = .array t := by
  have key : ∀ n, n < 10 → ∀ k, k < am_N n → am_isI (am_fty n k) = false → (match am_fty n k with | .object _ => true | .array _ => true | _ => false) = true := by decide +kernel
  intro n hn k hk h
  have := key n hn k hk h
  cases ht : am_fty n k <;> rw [ht] at this <;> first | exact Or.inl ⟨_, rfl⟩ | exact Or.inr ⟨_, rfl⟩ | (cases this)
theorem am_x_putfield {pc idx n n2 : Nat} {L : am_L} {S : List Value} {T : am_T} {ρ : Nat → Nat → Value} {σ : Nat → Nat → Int32} {st : am_S} (hd : decode q.2.2.1 pc = .ok (.putfield idx, 3)) (ho : am_FW.any (fun z => z.1 == q.1 && (z.2.1 == idx && (z.2.2.1 == n && z.2.2.2 == n2))) = true) (hn2 : n2 < am_N n) (hn : n < 10) (hfin : (!(am_F n n2).2.2.2 || (q.2.2.2.2.2.2.2 && decide ((am_F n n2).1 = am_cn q.1))) = true) (h : am_ex3 (.putfield idx) (pc + 3) n n2 L S T ρ σ = some st) : am_St l D DA b sz q (pc, L, S, T, ρ, σ) st := by
  have hvI : ∀ (c : Nat) (x : Int32), am_isI (am_fty n n2) = true → ∀ k, k < am_N n → am_v b sz (am_val ρ (am_us σ c n2 x) n c k) = updV (fun k => am_v b sz (am_val ρ σ n c k)) n2 (am_v b sz (.int x)) k := by
    intro c x hI k _
    unfold updV
    by_cases hk : k = n2
    · subst hk
      rw [if_pos rfl]
      unfold am_val am_us
      rw [if_pos hI, if_pos ⟨rfl, rfl⟩]
    · rw [if_neg hk]
      unfold am_val am_us
      rw [if_neg (fun z : c = c ∧ k = n2 => hk z.2)]
  have hvR : ∀ (c : Nat) (x : Value), am_isI (am_fty n n2) = false → ∀ k, k < am_N n → am_v b sz (am_val (am_ur ρ c n2 x) σ n c k) = updV (fun k => am_v b sz (am_val ρ σ n c k)) n2 (am_v b sz x) k := by
    intro c x hI k _
    unfold updV
    by_cases hk : k = n2
    · subst hk
      rw [if_pos rfl]
      unfold am_val am_ur
      rw [if_neg (by rw [hI]; decide), if_pos ⟨rfl, rfl⟩]
    · rw [if_neg hk]
      unfold am_val am_ur
      rw [if_neg (fun z : c = c ∧ k = n2 => hk z.2)]
  simp only [am_ex3] at h
  split at h
  · rename_i x c S
    split at h
    · rename_i hT
      split at h
      · rename_i hI
        split at h
        · rename_i hB
          split at h
          · rename_i h01
            cases h
            have hty : am_fty n n2 = .boolean := by
              cases ht : am_fty n n2 <;> rw [ht] at hB <;> first | rfl | (cases hB)
            refine am_put hd ho hn2 hn hfin hT (fun _ _ => rfl) (fun c' hc' => am_us_ne hc') (hvI c x hI) ?_ ?_
            · rw [hty]
              rcases h01 with rfl | rfl <;> rfl
            · rw [hty]
              rcases h01 with rfl | rfl <;> rfl
          · cases h
        · rename_i hB
          cases h
          have hty : am_fty n n2 = .int := by
            rcases am_isI_cases hI with h9 | h9
            · exact h9
            · exact absurd (by rw [h9]; rfl) hB
          refine am_put hd ho hn2 hn hfin hT (fun _ _ => rfl) (fun c' hc' => am_us_ne hc') (hvI c x hI) ?_ ?_
          · rw [hty]; rfl
          · rw [hty]; rfl
      · cases h
    · cases h
  · rename_i x c S
    split at h
    · rename_i hT
      split at h
      · cases h
      · rename_i hI
        cases h
        have hI2 : am_isI (am_fty n n2) = false := by simpa using hI
        refine am_put hd ho hn2 hn hfin hT (fun c' hc' => am_ur_ne hc') (fun _ _ => rfl) (hvR c _ hI2) ?_ ?_
        · rcases am_ftyR n hn n2 hn2 hI2 with ⟨C, e⟩ | ⟨t, e⟩ <;> rw [e] <;> rfl
        · rcases am_ftyR n hn n2 hn2 hI2 with ⟨C, e⟩ | ⟨t, e⟩ <;> rw [e] <;> rfl
    · cases h
  · rename_i c S
    split at h
    · rename_i hT
      split at h
      · cases h
      · rename_i hI
        cases h
        have hI2 : am_isI (am_fty n n2) = false := by simpa using hI
        refine am_put hd ho hn2 hn hfin hT (fun c' hc' => am_ur_ne hc') (fun _ _ => rfl) (hvR c _ hI2) ?_ ?_
        · rcases am_ftyR n hn n2 hn2 hI2 with ⟨C, e⟩ | ⟨t, e⟩ <;> rw [e] <;> rfl
        · rcases am_ftyR n hn n2 hn2 hI2 with ⟨C, e⟩ | ⟨t, e⟩ <;> rw [e] <;> rfl
    · cases h
  · cases h
end AMS
end
section
/-! group 3: arrays, and what makes cells -/
section AMS
variable {l : Launch} {D : va_G} {DA : Nat → ClassId} {b sz : Nat} {q : am_M}
theorem am_lay0 {s : State} (hK : am_K D DA s) : ArrOfT s (DA 0) .int := (hK.1.2 0 (DA 0, .int) rfl).1
theorem am_lay1 {s : State} (hK : am_K D DA s) : ArrOfT s (DA 1) .boolean := (hK.1.2 1 (DA 1, .boolean) rfl).1
theorem am_lay2 {s : State} (hK : am_K D DA s) : ArrOfT s (DA 2) (.object "BoxNest$Box") := (hK.1.2 2 (DA 2, .object "BoxNest$Box") rfl).1
theorem am_arrI {s : State} {T : am_T} {ρ : Nat → Nat → Value} {σ : Nat → Nat → Int32} {H : Heap} {c t m : Nat} (hK : am_K D DA s) (hO : am_ok D DA b sz s (T, ρ, σ) H) (hT : T[c]? = some (.inr (t, m))) (ht : t = 0 ∨ t = 9) : ∃ cell : Cell, H[am_ad b sz c]? = some cell ∧ s.isArrayOf cell .int ∧ cell.vm ≠ .unknown ∧ cell.slots.size = m ∧ ∀ j : Nat, j < m → cell.slots[j]? = some (.int (σ c j)) := by
  rcases hO.2.2.2 c _ hT with ⟨h1, rfl, scr, g1, g2, g3, g4, g5⟩ | ⟨h1, h0, h2⟩ | ⟨h1, h0, h2⟩
  · exact ⟨scr, g1, g2, g3, g4, g5⟩
  · have h9 : t = 0 := by omega
    subst h9
    exact ⟨_, h2, am_lay0 hK m _, (fun h => by cases h), arrV_size _ _ _, fun j hj => arrV_read _ _ hj⟩
  · omega
theorem am_x_iaload {pc n n2 : Nat} {L : am_L} {S : List Value} {T : am_T} {ρ : Nat → Nat → Value} {σ : Nat → Nat → Int32} {st : am_S} (hd : decode q.2.2.1 pc = .ok (.iaload, 1)) (h : am_ex3 .iaload (pc + 1) n n2 L S T ρ σ = some st) : am_St l D DA b sz q (pc, L, S, T, ρ, σ) st := by
  simp only [am_ex3] at h
  split at h
  · rename_i x c S
    split at h
    · rename_i t mm hT
      split at h
      · rename_i hg
        cases h
        exact am_st_p (by
          intro p e R s m args below meth co Q ls H locs cells slots hA hf hl hc hs hL hO k
          obtain ⟨hx, hb, hml, hown, hts, hK, hin⟩ := hA
          obtain ⟨cell, g1, g2, g3, g4, g5⟩ := am_arrI hK hO hT hg.1
          exact W.iald (v := .int (σ c x.toNatClampNeg)) hx hb g1 g2 g3 (by rw [g4]; exact hg.2) (g5 _ (Nat.not_le.mp fun z => hg.2 (Or.inr z))) rfl rfl hd k)
      · cases h
    · cases h
  · cases h
theorem am_x_baload {pc n n2 : Nat} {L : am_L} {S : List Value} {T : am_T} {ρ : Nat → Nat → Value} {σ : Nat → Nat → Int32} {st : am_S} (hd : decode q.2.2.1 pc = .ok (.baload, 1)) (h : am_ex3 .baload (pc + 1) n n2 L S T ρ σ = some st) : am_St l D DA b sz q (pc, L, S, T, ρ, σ) st := by
  simp only [am_ex3] at h
  split at h
  · rename_i x c S
    split at h
    · rename_i t mm hT
      split at h
      · rename_i hg
        cases h
        exact am_st_p (by
          intro p e R s m args below meth co Q ls H locs cells slots hA hf hl hc hs hL hO k
          obtain ⟨hx, hb, hml, hown, hts, hK, hin⟩ := hA
          obtain ⟨rfl, hg⟩ := hg
          rcases hO.2.2.2 c _ hT with ⟨h1, -⟩ | ⟨h1, h0, h2⟩ | ⟨h1, h0, h2⟩
          · omega
          · exact W.zald (v := .int (σ c x.toNatClampNeg)) hx hb h2 (am_lay1 hK mm _) (fun h => by cases h) (by rw [arrV_size]; exact hg) (arrV_read _ _ (Nat.not_le.mp fun z => hg (Or.inr z))) rfl rfl hd k
          · omega)
      · cases h
    · cases h
  · cases h
theorem am_x_aaload {pc n n2 : Nat} {L : am_L} {S : List Value} {T : am_T} {ρ : Nat → Nat → Value} {σ : Nat → Nat → Int32} {st : am_S} (hd : decode q.2.2.1 pc = .ok (.aaload, 1)) (h : am_ex3 .aaload (pc + 1) n n2 L S T ρ σ = some st) : am_St l D DA b sz q (pc, L, S, T, ρ, σ) st := by
  simp only [am_ex3] at h
  split at h
  · rename_i x c S
    split at h
    · rename_i t mm hT
      split at h
      · rename_i hg
        cases h
        exact am_st_p (by
          intro p e R s m args below meth co Q ls H locs cells slots hA hf hl hc hs hL hO k
          obtain ⟨hx, hb, hml, hown, hts, hK, hin⟩ := hA
          obtain ⟨rfl, hg⟩ := hg
          rcases hO.2.2.2 c _ hT with ⟨h1, -⟩ | ⟨h1, h0, h2⟩ | ⟨h1, h0, h2⟩
          · omega
          · omega
          · exact W.aald (v := am_v b sz (ρ c x.toNatClampNeg)) hx hb h2 (am_lay2 hK mm _) rfl (fun h => by cases h) (by rw [arrV_size]; exact hg) (arrV_read _ _ (Nat.not_le.mp fun z => hg (Or.inr z))) rfl rfl hd k)
      · cases h
    · cases h
  · cases h
theorem am_updI {σ : Nat → Nat → Int32} {c j : Nat} {y : Int32} : updV (fun k => Value.int (σ c k)) j (.int y) = fun k => Value.int (am_us σ c j y c k) := by
  funext k
  unfold updV am_us
  by_cases h : k = j
  · rw [if_pos h, if_pos ⟨rfl, h⟩]
  · rw [if_neg h, if_neg (fun z => h z.2)]
theorem am_updR {ρ : Nat → Nat → Value} {c j : Nat} {y : Value} : updV (fun k => am_v b sz (ρ c k)) j (am_v b sz y) = fun k => am_v b sz (am_ur ρ c j y c k) := by
  funext k
  unfold updV am_ur
  by_cases h : k = j
  · rw [if_pos h, if_pos ⟨rfl, h⟩]
  · rw [if_neg h, if_neg (fun z => h z.2)]
theorem am_locs {locs : List Loc} {c i : Nat} (h0 : 0 < c) (hlo : ∀ z ∈ locs, sz ≤ z.base) : ∀ z ∈ locs ++ [(⟨am_ad b sz c, i⟩ : Loc)], sz ≤ z.base := by
  intro z hz
  rcases List.mem_append.mp hz with hz | hz
  · exact hlo z hz
  · rw [List.mem_singleton.mp hz]
    show sz ≤ am_ad b sz c
    rw [am_ad_pos h0]
    omega
theorem am_x_iastore {pc n n2 : Nat} {L : am_L} {S : List Value} {T : am_T} {ρ : Nat → Nat → Value} {σ : Nat → Nat → Int32} {st : am_S} (hd : decode q.2.2.1 pc = .ok (.iastore, 1)) (h : am_ex3 .iastore (pc + 1) n n2 L S T ρ σ = some st) : am_St l D DA b sz q (pc, L, S, T, ρ, σ) st := by
  simp only [am_ex3] at h
  split at h
  · rename_i y x c S
    split at h
    · rename_i t mm hT
      split at h
      · rename_i hg
        cases h
        exact am_st_h (by
          intro p e R s m args below meth co Q ls H locs cells slots hA hO hlo k
          obtain ⟨hx, hb, hml, hown, hts, hK, hin⟩ := hA
          obtain ⟨rfl, hg⟩ := hg
          rcases hO.2.2.2 c _ hT with ⟨h1, -⟩ | ⟨h1, h0, h2⟩ | ⟨h1, h0, h2⟩
          · omega
          · refine W.iast hx hb h2 (am_lay0 hK mm _) (fun h => by cases h) (by rw [arrV_size]; exact hg) rfl rfl hd fun H' e1 e2 e3 => ?_
            refine k H' _ (hO.set (fun _ _ => rfl) (fun c' hc' => am_us_ne hc') e2 e3 (fun z hz => ?_)) (am_locs h0 hlo)
            have hz2 : z = .inr (0, mm) := Option.some.inj (hz.symm.trans hT)
            subst hz2
            exact Or.inr (Or.inl ⟨h1, h0, by rw [e1, arrV_store, am_updI]⟩)
          · omega)
      · cases h
    · cases h
  · cases h
theorem am_x_bastore {pc n n2 : Nat} {L : am_L} {S : List Value} {T : am_T} {ρ : Nat → Nat → Value} {σ : Nat → Nat → Int32} {st : am_S} (hd : decode q.2.2.1 pc = .ok (.bastore, 1)) (h : am_ex3 .bastore (pc + 1) n n2 L S T ρ σ = some st) : am_St l D DA b sz q (pc, L, S, T, ρ, σ) st := by
  simp only [am_ex3] at h
  split at h
  · rename_i y x c S
    split at h
    · rename_i t mm hT
      split at h
      · rename_i hg
        cases h
        exact am_st_h (by
          intro p e R s m args below meth co Q ls H locs cells slots hA hO hlo k
          obtain ⟨hx, hb, hml, hown, hts, hK, hin⟩ := hA
          obtain ⟨rfl, hg, hy⟩ := hg
          have hnar : narrow .boolean (.int y) = .int y := by rcases hy with rfl | rfl <;> rfl
          rcases hO.2.2.2 c _ hT with ⟨h1, -⟩ | ⟨h1, h0, h2⟩ | ⟨h1, h0, h2⟩
          · omega
          · refine W.zast hx hb h2 (am_lay1 hK mm _) (fun h => by cases h) (by rw [arrV_size]; exact hg) rfl rfl hd fun H' e1 e2 e3 => ?_
            refine k H' _ (hO.set (fun _ _ => rfl) (fun c' hc' => am_us_ne hc') e2 e3 (fun z hz => ?_)) (am_locs h0 hlo)
            have hz2 : z = .inr (1, mm) := Option.some.inj (hz.symm.trans hT)
            subst hz2
            exact Or.inr (Or.inl ⟨h1, h0, by rw [e1, hnar, arrV_store, am_updI]⟩)
          · omega)
      · cases h
    · cases h
  · cases h
theorem am_x_aastore {pc n n2 : Nat} {L : am_L} {S : List Value} {T : am_T} {ρ : Nat → Nat → Value} {σ : Nat → Nat → Int32} {st : am_S} (hd : decode q.2.2.1 pc = .ok (.aastore, 1)) (h : am_ex3 .aastore (pc + 1) n n2 L S T ρ σ = some st) : am_St l D DA b sz q (pc, L, S, T, ρ, σ) st := by
  simp only [am_ex3] at h
  split at h
  · rename_i y x c S
    split at h
    · rename_i t mm hT
      split at h
      · rename_i hg
        cases h
        exact am_st_h (by
          intro p e R s m args below meth co Q ls H locs cells slots hA hO hlo k
          obtain ⟨hx, hb, hml, hown, hts, hK, hin⟩ := hA
          obtain ⟨rfl, hg, hy⟩ := hg
          rcases hO.2.2.2 c _ hT with ⟨h1, -⟩ | ⟨h1, h0, h2⟩ | ⟨h1, h0, h2⟩
          · omega
          · omega
          · obtain ⟨hy0, w, hw, cellV, g1, g2, g3, -⟩ := hO.2.2.2 y _ hy
            have hlt : x.toNatClampNeg < mm := Nat.not_le.mp fun z => hg (Or.inr z)
            have hx0 : ¬ x < 0 := fun z => hg (Or.inl z)
            have hcls := (hK.1.1 2 _ (am_cls_at (n := 2) (by decide))).2
            obtain ⟨kA, comp, k1, k2, k3, -⟩ := (hK.1.2 2 (DA 2, .object "BoxNest$Box") rfl).2
            have hcomp : comp = D.1 2 := Option.some.inj (k3.symm.trans hcls.1)
            subst hcomp
            obtain ⟨kC, hkC, -⟩ := hcls.2
            refine W.aast hx hb h2 (fun z h => by cases h) (fun h => by cases h) k1 k2 rfl hkC ⟨hx0, by rw [arrV_size]; exact hlt⟩ g1 (fun z h => by rw [g3] at h; cases h) (by rw [g2]; exact hkC) (by rw [g2]; exact va_assign hcls) rfl rfl hd fun H' e1 e2 e3 => ?_
            refine k H' _ (hO.set (fun c' hc' => am_ur_ne hc') (fun _ _ => rfl) e2 e3 (fun z hz => ?_)) (am_locs h0 hlo)
            have hz2 : z = .inr (2, mm) := Option.some.inj (hz.symm.trans hT)
            subst hz2
            refine Or.inr (Or.inr ⟨h1, h0, ?_⟩)
            rw [e1, arrV_store]
            exact congrArg (fun f => some (arrV (DA 2) mm f)) (am_updR (y := .ref y)))
      · cases h
    · cases h
  · cases h
theorem am_x_arraylength {pc n n2 : Nat} {L : am_L} {S : List Value} {T : am_T} {ρ : Nat → Nat → Value} {σ : Nat → Nat → Int32} {st : am_S} (hd : decode q.2.2.1 pc = .ok (.arraylength, 1)) (h : am_ex3 .arraylength (pc + 1) n n2 L S T ρ σ = some st) : am_St l D DA b sz q (pc, L, S, T, ρ, σ) st := by
  simp only [am_ex3] at h
  split at h
  · rename_i c S
    split at h
    · rename_i t mm hT
      cases h
      exact am_st_p (by
        intro p e R s m args below meth co Q ls H locs cells slots hA hf hl hc hs hL hO k
        obtain ⟨hx, hb, hml, hown, hts, hK, hin⟩ := hA
        rcases hO.2.2.2 c _ hT with ⟨h1, rfl, scr, g1, g2, g3, g4, g5⟩ | ⟨h1, h0, h2⟩ | ⟨h1, h0, h2⟩
        · exact W.alen (n := Int32.ofNat mm) hx hb g1 g2 (by rw [g4] <;> rfl) rfl rfl hd k
        · have ht : t = 0 ∨ t = 1 := by omega
          rcases ht with rfl | rfl
          · exact W.alen (n := Int32.ofNat mm) hx hb h2 (am_lay0 hK mm _) (by rw [arrV_size] <;> rfl) rfl rfl hd k
          · exact W.alen (n := Int32.ofNat mm) hx hb h2 (am_lay1 hK mm _) (by rw [arrV_size] <;> rfl) rfl rfl hd k
        · exact W.alen (n := Int32.ofNat mm) hx hb h2 (am_lay2 hK mm _) (by rw [arrV_size] <;> rfl) rfl rfl hd k)
    · cases h
  · cases h
theorem am_ns_app (T : am_T) (x : Nat ⊕ (Nat × Nat)) : am_ns (T ++ [x]) = am_ns T + am_w1 x := by
  unfold am_ns
  simp
/-- a new cell -/
theorem am_ok.push {s : State} {T : am_T} {ρ : Nat → Nat → Value} {σ : Nat → Nat → Int32} {H H' : Heap} {x : Nat ⊕ (Nat × Nat)} (h : am_ok D DA b sz s (T, ρ, σ) H) (hz : H'.size = H.size + 1) (ho : ∀ a, a < H.size → H'[a]? = H[a]?) (hc : am_cell D DA b sz s (am_zr ρ T.length) (am_zs σ T.length) H' T.length x) : am_ok D DA b sz s (T ++ [x], am_zr ρ T.length, am_zs σ T.length) H' := by
  obtain ⟨h1, ⟨n, h2⟩, h3, h4⟩ := h
  have h3 : H.size + 1 = sz + T.length := h3
  have hT0 : 0 < T.length := (List.getElem?_eq_some_iff.mp h2).1
  refine ⟨h1, ⟨n, ?_⟩, ?_, fun c y hy => ?_⟩
  · show (T ++ [x])[0]? = _
    rw [List.getElem?_append_left hT0]; exact h2
  · show H'.size + 1 = sz + (T ++ [x]).length
    rw [List.length_append, hz]
    simp
    omega
  · have hy : (T ++ [x])[c]? = some y := hy
    by_cases hl : c < T.length
    · rw [List.getElem?_append_left hl] at hy
      refine (h4 c y hy).kept ?_ ?_ (ho _ ?_)
      · funext j; show am_zr ρ T.length c j = ρ c j; unfold am_zr; rw [if_neg (by omega)]
      · funext j; show am_zs σ T.length c j = σ c j; unfold am_zs; rw [if_neg (by omega)]
      · unfold am_ad
        split <;> omega
    · rw [List.getElem?_append_right (by omega)] at hy
      have hk : c - T.length < 1 := (List.getElem?_eq_some_iff.mp hy).1
      have hk0 : c = T.length := by omega
      subst hk0
      rw [Nat.sub_self] at hy
      cases hy
      exact hc
theorem am_T0 {s : State} {T : am_T} {ρ : Nat → Nat → Value} {σ : Nat → Nat → Int32} {H : Heap} (h : am_ok D DA b sz s (T, ρ, σ) H) : 0 < T.length ∧ am_ad b sz T.length = H.size := by
  obtain ⟨h1, ⟨n, h2⟩, h3, h4⟩ := h
  have h3 : H.size + 1 = sz + T.length := h3
  have hT0 : 0 < T.length := (List.getElem?_eq_some_iff.mp h2).1
  exact ⟨hT0, by rw [am_ad_pos hT0]; omega⟩
theorem am_new_St {pc nx : Nat} {L : am_L} {S S' : List Value} {T : am_T} {x : Nat ⊕ (Nat × Nat)} {ρ : Nat → Nat → Value} {σ : Nat → Nat → Int32}
    (h : ∀ (p : Program) (e : Env) (R : Room) (s : State) (m : MethodId) (args : Array Value) (below : List Frame) (meth : Method) (c : Code) (Q : State → Prop) (ls : Array Slot) (H : Heap) (locs : List Loc) (cells slots : Nat),
      am_At D DA q p s m args meth c → cells + 1 ≤ R.cells → slots + am_w1 x ≤ R.slots → am_ok D DA b sz s (T, ρ, σ) H →
      (∀ (H' : Heap), am_ok D DA b sz s (T ++ [x], am_zr ρ T.length, am_zs σ T.length) H' → W p l e R s m args below meth c H' locs (cells + 1) (slots + am_w1 x) Q (F0 m nx ls (.ref H.size :: S'.map (am_v b sz)))) → W p l e R s m args below meth c H locs cells slots Q (F0 m pc ls (S.map (am_v b sz)))) :
    am_St l D DA b sz q (pc, L, S, T, ρ, σ) (nx, L, .ref T.length :: S', T ++ [x], am_zr ρ T.length, am_zs σ T.length) := by
  have e1 : (T ++ [x]).length - T.length = 1 := by simp
  have e2 : am_ns (T ++ [x]) - am_ns T = am_w1 x := by rw [am_ns_app]; omega
  refine ⟨by show T.length ≤ (T ++ [x]).length; simp, by show am_ns T ≤ am_ns (T ++ [x]); rw [am_ns_app]; omega, ?_⟩
  intro p e R s m args below meth c Q ls H locs cells slots hA hf hl hc hs hL hO hlo k
  have hc : cells + ((T ++ [x]).length - T.length) ≤ R.cells := hc
  have hs : slots + (am_ns (T ++ [x]) - am_ns T) ≤ R.slots := hs
  rw [e1] at hc
  rw [e2] at hs
  refine h p e R s m args below meth c Q ls H locs cells slots hA hc hs hO (fun H' hO' => ?_)
  have hk : W p l e R s m args below meth c H' locs (cells + ((T ++ [x]).length - T.length)) (slots + (am_ns (T ++ [x]) - am_ns T)) Q (F0 m nx ls (am_v b sz (.ref T.length) :: S'.map (am_v b sz))) := k ls H' locs hL hO' hlo
  rw [e1, e2] at hk
  have e3 : am_v b sz (.ref T.length) = .ref H.size := by
    show Value.ref (am_ad b sz T.length) = _
    rw [(am_T0 hO).2]
  rw [e3] at hk
  exact hk
theorem am_cw {idx n : Nat} (h : am_CW.any (fun z => z.1 == q.1 && (z.2.1 == idx && z.2.2 == n)) = true) : Cond.classLink (am_cn q.1) idx (am_cn n) ∈ am_tb := by
  obtain ⟨z, hz, h⟩ := am_anyK h
  simp only [Bool.and_eq_true, beq_iff_eq] at h
  obtain ⟨h1, h2, h3⟩ := h
  subst h2; subst h3
  rw [← h1]
  exact am_tb_in (am_mem am_CWe _ (List.mem_map.mpr ⟨z, hz, rfl⟩)) rfl
theorem am_dflt : ∀ n, n < 10 → ∀ k, k < am_N n → defaultValue (am_fty n k) = if am_isI (am_fty n k) = true then .int 0 else .null := by decide +kernel
theorem am_x_new {pc idx n n2 : Nat} {L : am_L} {S : List Value} {T : am_T} {ρ : Nat → Nat → Value} {σ : Nat → Nat → Int32} {st : am_S} (hd : decode q.2.2.1 pc = .ok (.new idx, 3)) (ho : am_CW.any (fun z => z.1 == q.1 && (z.2.1 == idx && z.2.2 == n)) = true) (hn : n < 10) (h : am_ex3 (.new idx) (pc + 3) n n2 L S T ρ σ = some st) : am_St l D DA b sz q (pc, L, S, T, ρ, σ) st := by
  cases h
  refine am_new_St ?_
  intro p e R s m args below meth co Q ls H locs cells slots hA hc hs hO k
  obtain ⟨hx, hb, hml, hown, hts, hK, hin⟩ := hA
  have hc0 := am_cls_at hn
  have hcl := am_clsOk n _ hc0
  have hKn := hK.1.1 n _ hc0
  have hT0 := am_T0 hO
  refine W.newcK hx hb hown (hts _ (am_cw ho)) (hts _ (am_tb_in hcl.2.2.2.2.1 rfl)) (hts _ (am_tb_in hcl.2.2.2.2.2 rfl)) rfl hd hc hs hKn.2.1 rfl fun H1 kC hkC e1 z1 o1 => ?_
  refine k H1 (hO.push z1 o1 ⟨hT0.1, _, hc0, ?_⟩)
  rw [hT0.2]
  refine (u_born (am_fty n) hts (am_u_in hn) hKn hkC e1 hcl.2.2.1).to (fun j hj => ?_)
  rw [am_dflt n hn j hj]
  unfold am_val am_zr am_zs
  rw [if_pos rfl, if_pos rfl]
  split <;> rfl
theorem am_x_newarray {pc n n2 : Nat} {t : ArrayType} {L : am_L} {S : List Value} {T : am_T} {ρ : Nat → Nat → Value} {σ : Nat → Nat → Int32} {st : am_S} (hd : decode q.2.2.1 pc = .ok (.newarray t, 2)) (ht : newarray.typeOf t = (if n = 0 then FieldType.int else FieldType.boolean)) (hn : n < 2) (h : am_ex3 (.newarray t) (pc + 2) n n2 L S T ρ σ = some st) : am_St l D DA b sz q (pc, L, S, T, ρ, σ) st := by
  simp only [am_ex3] at h
  split at h
  · rename_i x S
    split at h
    · rename_i hg
      cases h
      refine am_new_St ?_
      intro p e R s m args below meth co Q ls H locs cells slots hA hc hs hO k
      obtain ⟨hx, hb, hml, hown, hts, hK, hin⟩ := hA
      have hT0 := am_T0 hO
      have hw : Cond.arrayClass (newarray.typeOf t) ∈ am_tb := by
        rw [ht]
        split
        · exact am_tb_in (List.mem_of_getElem? am_ac_int) rfl
        · exact am_tb_in (List.mem_of_getElem? am_ac_boolean) rfl
      have hty : (newarray.typeOf t = .int ∧ n = 0) ∨ (newarray.typeOf t = .boolean ∧ n = 1) := by
        rw [ht]
        split
        · rename_i h9; exact Or.inl ⟨rfl, h9⟩
        · rename_i h9; exact Or.inr ⟨rfl, by omega⟩
      have hbytes : x.toNatClampNeg * componentBytes (newarray.typeOf t) ≤ 536870912 := by
        have : componentBytes (newarray.typeOf t) ≤ 8 := by rcases hty with ⟨e, -⟩ | ⟨e, -⟩ <;> rw [e] <;> decide
        have h100 := hg.2
        calc x.toNatClampNeg * componentBytes (newarray.typeOf t) ≤ 100000 * 8 := Nat.mul_le_mul h100 this
          _ ≤ 536870912 := by decide
      refine va_newaK hx hb (hts _ hw) rfl hd rfl hg.1 rfl hbytes hc hs rfl fun H1 cA e1 z1 o1 hAr hNm => ?_
      refine k H1 (hO.push z1 o1 (Or.inr (Or.inl ⟨hn, hT0.1, ?_⟩)))
      rw [hT0.2, e1]
      have hdv : defaultValue (newarray.typeOf t) = .int 0 := by rcases hty with ⟨e, -⟩ | ⟨e, -⟩ <;> rw [e] <;> rfl
      have hcA : cA = DA n := by
        rcases hty with ⟨e, rfl⟩ | ⟨e, rfl⟩
        · rw [e] at hNm
          exact Option.some.inj (hNm.symm.trans (hK.1.2 0 (DA 0, .int) rfl).2)
        · rw [e] at hNm
          exact Option.some.inj (hNm.symm.trans (hK.1.2 1 (DA 1, .boolean) rfl).2)
      rw [hcA, hdv]
      refine congrArg (fun f => some (arrV (DA n) x.toNatClampNeg f)) ?_
      funext j
      unfold am_zs
      rw [if_pos rfl]
    · cases h
  · cases h
theorem am_x_anewarray {pc idx n n2 : Nat} {L : am_L} {S : List Value} {T : am_T} {ρ : Nat → Nat → Value} {σ : Nat → Nat → Int32} {st : am_S} (hd : decode q.2.2.1 pc = .ok (.anewarray idx, 3)) (ho : am_CW.any (fun z => z.1 == q.1 && (z.2.1 == idx && z.2.2 == 2)) = true) (h : am_ex3 (.anewarray idx) (pc + 3) n n2 L S T ρ σ = some st) : am_St l D DA b sz q (pc, L, S, T, ρ, σ) st := by
  simp only [am_ex3] at h
  split at h
  · rename_i x S
    split at h
    · rename_i hg
      cases h
      refine am_new_St ?_
      intro p e R s m args below meth co Q ls H locs cells slots hA hc hs hO k
      obtain ⟨hx, hb, hml, hown, hts, hK, hin⟩ := hA
      have hT0 := am_T0 hO
      refine W.anew hx hb hown (hts _ (am_cw ho)) hK.2.1.use rfl hd rfl hg.1 (by have := hg.2; omega) hc hs fun cA kA comp a1 a2 a3 a4 => ?_
      refine k _ (hO.push (by simp) (fun a ha => by rw [Array.getElem?_push, if_neg (Nat.ne_of_lt ha)]) (Or.inr (Or.inr ⟨rfl, hT0.1, ?_⟩)))
      have hcA : cA = DA 2 := by
        obtain ⟨kA', comp', b1, b2, b3, b4⟩ := (hK.1.2 2 (DA 2, .object "BoxNest$Box") rfl).2
        exact Option.some.inj (a1.symm.trans b4)
      rw [hT0.2, arrV_new, hcA]
      simp only [Array.getElem?_push_size]
      refine congrArg (fun f => some (arrV (DA 2) x.toNatClampNeg f)) ?_
      funext j
      unfold am_zr
      rw [if_pos rfl]
      rfl
    · cases h
  · cases h
end AMS
end
section
/-! group 4, and all groups together -/
section AMS
variable {l : Launch} {D : va_G} {DA : Nat → ClassId} {b sz : Nat} {q : am_M}
theorem am_cat_v (S : List Value) : ((S.map (am_v b sz)).map fun v => v.category).sum = am_cat S := by
  unfold am_cat
  rw [List.map_map]
  congr 1
  exact List.map_congr_left (fun v _ => am_v_cat v)
theorem am_ow {idx : Nat} (h : am_OW.any (fun z => z.1 == q.1 && z.2 == idx) = true) : Cond.methodLink (am_cn q.1) idx objectInit ∈ am_tb := by
  obtain ⟨z, hz, h⟩ := am_anyK h
  simp only [Bool.and_eq_true, beq_iff_eq] at h
  obtain ⟨h1, h2⟩ := h
  subst h2
  rw [← h1]
  exact am_tb_in (am_mem am_OWe _ (List.mem_map.mpr ⟨z, hz, rfl⟩)) rfl
theorem am_mw {idx n : Nat} (h : am_MW.any (fun z => z.1 == q.1 && (z.2.1 == idx && z.2.2 == n)) = true) : Cond.methodLink (am_cn q.1) idx (am_y n) ∈ am_tb := by
  obtain ⟨z, hz, h⟩ := am_anyK h
  simp only [Bool.and_eq_true, beq_iff_eq] at h
  obtain ⟨h1, h2, h3⟩ := h
  subst h2; subst h3
  rw [← h1]
  exact am_tb_in (am_mem am_MWe _ (List.mem_map.mpr ⟨z, hz, rfl⟩)) rfl
theorem am_x_objInit {pc idx n n2 : Nat} {L : am_L} {S : List Value} {X : am_T × (Nat → Nat → Value) × (Nat → Nat → Int32)} {st : am_S} (hd : decode q.2.2.1 pc = .ok (.invokespecial idx, 3)) (ho : n2 = 9 → am_OW.any (fun z => z.1 == q.1 && z.2 == idx) = true) (h : am_ex4 (.invokespecial idx) (pc + 3) n n2 L S X = some st) : am_St l D DA b sz q (pc, L, S, X) st := by
  simp only [am_ex4] at h
  split at h
  · rename_i c S
    split at h
    · rename_i hg
      cases h
      exact am_st_p (by
        intro p e R s m args below meth co Q ls H locs cells slots hA hf hl hc hs hL hO k
        obtain ⟨hx, hb, hml, hown, hts, hK, hin⟩ := hA
        refine W.objInit hx hb hown (hts _ (am_ow (ho hg.1))) (hts _ (am_tb_in (List.mem_of_getElem? am_oi) rfl)) (hts _ (am_tb_in (List.mem_of_getElem? am_oc) rfl)) rfl (by rw [hml]; exact hL.2.1) rfl hd hf ?_ k
        rw [am_cat_v]
        have : 2 * JFrame.monitorRoom (F0 m pc ls (List.map (am_v b sz) (Value.ref c :: S))) = 0 := rfl
        have := hg.2
        omega)
    · cases h
  · cases h
theorem am_x_math {pc idx n n2 : Nat} {L : am_L} {S : List Value} {X : am_T × (Nat → Nat → Value) × (Nat → Nat → Int32)} {st : am_S} (hd : decode q.2.2.1 pc = .ok (.invokestatic idx, 3)) (ho : am_MW.any (fun z => z.1 == q.1 && (z.2.1 == idx && z.2.2 == n)) = true) (h : am_ex4 (.invokestatic idx) (pc + 3) n n2 L S X = some st) : am_St l D DA b sz q (pc, L, S, X) st := by
  have hm := am_mw ho
  simp only [am_ex4] at h
  split at h
  · rename_i y S1
    split at h
    · split at h
      · rename_i hn
        split at h
        · rename_i hcat
          cases h
          subst hn
          exact am_st_p (by
            intro p e R s m args below meth co Q ls H locs cells slots hA hf hl hc hs hL hO k
            obtain ⟨hx, hb, hml, hown, hts, hK, hin⟩ := hA
            refine va_mabs hx hb (by rw [hml]; exact hL.2.1.symm) hown (hts _ (am_math_abs.1 ▸ hm)) (hts _ (am_tb_in (List.mem_of_getElem? am_math_abs.2.1) rfl)) (hts _ (am_tb_in (List.mem_of_getElem? am_math_abs.2.2.1) rfl)) (hts _ (am_tb_in (List.mem_of_getElem? am_math_abs.2.2.2) rfl)) hf ?_ hc hs hd k
            rw [am_cat_v]
            omega)
        · cases h
      · split at h
        · rename_i x S
          split at h
          · rename_i hcat
            split at h
            · rename_i hn
              cases h
              subst hn
              exact am_st_p (by
                intro p e R s m args below meth co Q ls H locs cells slots hA hf hl hc hs hL hO k
                obtain ⟨hx, hb, hml, hown, hts, hK, hin⟩ := hA
                refine va_mmax hx hb (by rw [hml]; exact hL.2.1.symm) hown (hts _ (am_math_max.1 ▸ hm)) (hts _ (am_tb_in (List.mem_of_getElem? am_math_max.2.1) rfl)) (hts _ (am_tb_in (List.mem_of_getElem? am_math_max.2.2.1) rfl)) (hts _ (am_tb_in (List.mem_of_getElem? am_math_max.2.2.2) rfl)) hf ?_ hc hs hd k
                rw [am_cat_v]
                omega)
            · split at h
              · rename_i hn
                cases h
                subst hn
                exact am_st_p (by
                  intro p e R s m args below meth co Q ls H locs cells slots hA hf hl hc hs hL hO k
                  obtain ⟨hx, hb, hml, hown, hts, hK, hin⟩ := hA
                  refine va_mmin hx hb (by rw [hml]; exact hL.2.1.symm) hown (hts _ (am_math_min.1 ▸ hm)) (hts _ (am_tb_in (List.mem_of_getElem? am_math_min.2.1) rfl)) (hts _ (am_tb_in (List.mem_of_getElem? am_math_min.2.2.1) rfl)) (hts _ (am_tb_in (List.mem_of_getElem? am_math_min.2.2.2) rfl)) hf ?_ hc hs hd k
                  rw [am_cat_v]
                  omega)
              · cases h
          · cases h
        · cases h
    · cases h
  · cases h
theorem am_ex_sound {I : am_I} {st st' : am_S} (hc : am_chk q I = true) (hp : I.1 = st.1) (h : am_ex I st = some st') : am_St l D DA b sz q st st' := by
  obtain ⟨pc, i, len, nx, n, n2, v, w⟩ := I
  obtain ⟨pc', L, S, T, ρ, σ⟩ := st
  have hp : pc = pc' := hp
  subst hp
  simp only [am_chk, Bool.and_eq_true, Bool.or_eq_true, decide_eq_true_eq, beq_iff_eq] at hc
  obtain ⟨hd, hnx, hlen, ho⟩ := hc
  subst hnx
  cases i with
  | aaload => obtain rfl : len = 1 := hlen.resolve_left (fun h9 => by cases h9); exact am_x_aaload (n := n) (n2 := n2) hd h
  | aastore => obtain rfl : len = 1 := hlen.resolve_left (fun h9 => by cases h9); exact am_x_aastore (n := n) (n2 := n2) hd h
  | aconst_null => obtain rfl : len = 1 := hlen.resolve_left (fun h9 => by cases h9); exact am_x_aconst_null (n := n) (v := v) hd h
  | aload a0 => obtain rfl : len = 2 := hlen.resolve_left (fun h9 => by cases h9); exact am_x_aload (n := n) (v := v) hd h
  | aload_n a0 => obtain rfl : len = 1 := hlen.resolve_left (fun h9 => by cases h9); exact am_x_aload_n (n := n) (v := v) hd h
  | anewarray a0 => obtain rfl : len = 3 := hlen.resolve_left (fun h9 => by cases h9); exact am_x_anewarray (n := n) (n2 := n2) hd ho h
  | areturn => exact absurd (show (none : Option am_S) = some st' from h) (fun h => by cases h)
  | arraylength => obtain rfl : len = 1 := hlen.resolve_left (fun h9 => by cases h9); exact am_x_arraylength (n := n) (n2 := n2) hd h
  | astore a0 => obtain rfl : len = 2 := hlen.resolve_left (fun h9 => by cases h9); exact am_x_astore (n := n) (v := v) hd h
  | astore_n a0 => obtain rfl : len = 1 := hlen.resolve_left (fun h9 => by cases h9); exact am_x_astore_n (n := n) (v := v) hd h
  | athrow => exact absurd (show (none : Option am_S) = some st' from h) (fun h => by cases h)
  | baload => obtain rfl : len = 1 := hlen.resolve_left (fun h9 => by cases h9); exact am_x_baload (n := n) (n2 := n2) hd h
  | bastore => obtain rfl : len = 1 := hlen.resolve_left (fun h9 => by cases h9); exact am_x_bastore (n := n) (n2 := n2) hd h
  | bipush a0 => obtain rfl : len = 2 := hlen.resolve_left (fun h9 => by cases h9); exact am_x_bipush (n := n) (v := v) hd (of_decide_eq_true ho) h
  | caload => exact absurd (show (none : Option am_S) = some st' from h) (fun h => by cases h)
  | castore => exact absurd (show (none : Option am_S) = some st' from h) (fun h => by cases h)
  | checkcast a0 => exact absurd (show (none : Option am_S) = some st' from h) (fun h => by cases h)
  | d2f => exact absurd (show (none : Option am_S) = some st' from h) (fun h => by cases h)
  | d2i => exact absurd (show (none : Option am_S) = some st' from h) (fun h => by cases h)
  | d2l => exact absurd (show (none : Option am_S) = some st' from h) (fun h => by cases h)
  | dadd => exact absurd (show (none : Option am_S) = some st' from h) (fun h => by cases h)
  | daload => exact absurd (show (none : Option am_S) = some st' from h) (fun h => by cases h)
  | dastore => exact absurd (show (none : Option am_S) = some st' from h) (fun h => by cases h)
  | dcmp a0 => exact absurd (show (none : Option am_S) = some st' from h) (fun h => by cases h)
  | dconst a0 => exact absurd (show (none : Option am_S) = some st' from h) (fun h => by cases h)
  | ddiv => exact absurd (show (none : Option am_S) = some st' from h) (fun h => by cases h)
  | dload a0 => exact absurd (show (none : Option am_S) = some st' from h) (fun h => by cases h)
  | dload_n a0 => exact absurd (show (none : Option am_S) = some st' from h) (fun h => by cases h)
  | dmul => exact absurd (show (none : Option am_S) = some st' from h) (fun h => by cases h)
  | dneg => exact absurd (show (none : Option am_S) = some st' from h) (fun h => by cases h)
  | drem => exact absurd (show (none : Option am_S) = some st' from h) (fun h => by cases h)
  | dreturn => exact absurd (show (none : Option am_S) = some st' from h) (fun h => by cases h)
  | dstore a0 => exact absurd (show (none : Option am_S) = some st' from h) (fun h => by cases h)
  | dstore_n a0 => exact absurd (show (none : Option am_S) = some st' from h) (fun h => by cases h)
  | dsub => exact absurd (show (none : Option am_S) = some st' from h) (fun h => by cases h)
  | dup => obtain rfl : len = 1 := hlen.resolve_left (fun h9 => by cases h9); exact am_x_dup (n := n) (v := v) hd h
  | dup_x1 => exact absurd (show (none : Option am_S) = some st' from h) (fun h => by cases h)
  | dup_x2 => exact absurd (show (none : Option am_S) = some st' from h) (fun h => by cases h)
  | dup2 => obtain rfl : len = 1 := hlen.resolve_left (fun h9 => by cases h9); exact am_x_dup2 (n := n) (v := v) hd h
  | dup2_x1 => exact absurd (show (none : Option am_S) = some st' from h) (fun h => by cases h)
  | dup2_x2 => exact absurd (show (none : Option am_S) = some st' from h) (fun h => by cases h)
  | f2d => exact absurd (show (none : Option am_S) = some st' from h) (fun h => by cases h)
  | f2i => exact absurd (show (none : Option am_S) = some st' from h) (fun h => by cases h)
  | f2l => exact absurd (show (none : Option am_S) = some st' from h) (fun h => by cases h)
  | fadd => exact absurd (show (none : Option am_S) = some st' from h) (fun h => by cases h)
  | faload => exact absurd (show (none : Option am_S) = some st' from h) (fun h => by cases h)
  | fastore => exact absurd (show (none : Option am_S) = some st' from h) (fun h => by cases h)
  | fcmp a0 => exact absurd (show (none : Option am_S) = some st' from h) (fun h => by cases h)
  | fconst a0 => exact absurd (show (none : Option am_S) = some st' from h) (fun h => by cases h)
  | fdiv => exact absurd (show (none : Option am_S) = some st' from h) (fun h => by cases h)
  | fload a0 => exact absurd (show (none : Option am_S) = some st' from h) (fun h => by cases h)
  | fload_n a0 => exact absurd (show (none : Option am_S) = some st' from h) (fun h => by cases h)
  | fmul => exact absurd (show (none : Option am_S) = some st' from h) (fun h => by cases h)
  | fneg => exact absurd (show (none : Option am_S) = some st' from h) (fun h => by cases h)
  | frem => exact absurd (show (none : Option am_S) = some st' from h) (fun h => by cases h)
  | freturn => exact absurd (show (none : Option am_S) = some st' from h) (fun h => by cases h)
  | fstore a0 => exact absurd (show (none : Option am_S) = some st' from h) (fun h => by cases h)
  | fstore_n a0 => exact absurd (show (none : Option am_S) = some st' from h) (fun h => by cases h)
  | fsub => exact absurd (show (none : Option am_S) = some st' from h) (fun h => by cases h)
  | getfield a0 =>
    obtain rfl : len = 3 := hlen.resolve_left (fun h9 => by cases h9)
    simp only [am_own, Bool.and_eq_true, decide_eq_true_eq] at ho
    exact am_x_getfield (n := n) (n2 := n2) hd ho.1 ho.2.1 ho.2.2 h
  | getstatic a0 => exact absurd (show (none : Option am_S) = some st' from h) (fun h => by cases h)
  | goto a0 => obtain rfl : len = 3 := hlen.resolve_left (fun h9 => by cases h9); exact am_x_goto (n := n) (w := w) hd (of_decide_eq_true ho) h
  | goto_w a0 => exact absurd (show (none : Option am_S) = some st' from h) (fun h => by cases h)
  | i2b => exact absurd (show (none : Option am_S) = some st' from h) (fun h => by cases h)
  | i2c => exact absurd (show (none : Option am_S) = some st' from h) (fun h => by cases h)
  | i2d => exact absurd (show (none : Option am_S) = some st' from h) (fun h => by cases h)
  | i2f => exact absurd (show (none : Option am_S) = some st' from h) (fun h => by cases h)
  | i2l => obtain rfl : len = 1 := hlen.resolve_left (fun h9 => by cases h9); exact am_x_i2l (n := n) (v := v) hd h
  | i2s => exact absurd (show (none : Option am_S) = some st' from h) (fun h => by cases h)
  | iadd => obtain rfl : len = 1 := hlen.resolve_left (fun h9 => by cases h9); exact am_x_iadd (n := n) (v := v) hd h
  | iaload => obtain rfl : len = 1 := hlen.resolve_left (fun h9 => by cases h9); exact am_x_iaload (n := n) (n2 := n2) hd h
  | iand => obtain rfl : len = 1 := hlen.resolve_left (fun h9 => by cases h9); exact am_x_iand (n := n) (v := v) hd h
  | iastore => obtain rfl : len = 1 := hlen.resolve_left (fun h9 => by cases h9); exact am_x_iastore (n := n) (n2 := n2) hd h
  | iconst a0 => obtain rfl : len = 1 := hlen.resolve_left (fun h9 => by cases h9); exact am_x_iconst (n := n) (v := v) hd (of_decide_eq_true ho) h
  | idiv => obtain rfl : len = 1 := hlen.resolve_left (fun h9 => by cases h9); exact am_x_idiv (n := n) (v := v) hd h
  | if_acmp a0 a1 => exact absurd (show (none : Option am_S) = some st' from h) (fun h => by cases h)
  | if_icmp a0 a1 =>
    obtain rfl : len = 3 := hlen.resolve_left (fun h9 => by cases h9)
    cases a0 with
    | eq => exact am_x_if_icmp_eq (n := n) (w := w) hd (of_decide_eq_true ho) h
    | ne => exact am_x_if_icmp_ne (n := n) (w := w) hd (of_decide_eq_true ho) h
    | lt => exact am_x_if_icmp_lt (n := n) (w := w) hd (of_decide_eq_true ho) h
    | ge => exact am_x_if_icmp_ge (n := n) (w := w) hd (of_decide_eq_true ho) h
    | gt => exact am_x_if_icmp_gt (n := n) (w := w) hd (of_decide_eq_true ho) h
    | le => exact am_x_if_icmp_le (n := n) (w := w) hd (of_decide_eq_true ho) h
  | ifCond a0 a1 =>
    obtain rfl : len = 3 := hlen.resolve_left (fun h9 => by cases h9)
    cases a0 with
    | eq => exact am_x_ifCond_eq (n := n) (w := w) hd (of_decide_eq_true ho) h
    | ne => exact am_x_ifCond_ne (n := n) (w := w) hd (of_decide_eq_true ho) h
    | lt => exact am_x_ifCond_lt (n := n) (w := w) hd (of_decide_eq_true ho) h
    | ge => exact am_x_ifCond_ge (n := n) (w := w) hd (of_decide_eq_true ho) h
    | gt => exact am_x_ifCond_gt (n := n) (w := w) hd (of_decide_eq_true ho) h
    | le => exact am_x_ifCond_le (n := n) (w := w) hd (of_decide_eq_true ho) h
  | ifnonnull a0 => obtain rfl : len = 3 := hlen.resolve_left (fun h9 => by cases h9); exact am_x_ifnonnull (n := n) (w := w) hd (of_decide_eq_true ho) h
  | ifnull a0 => obtain rfl : len = 3 := hlen.resolve_left (fun h9 => by cases h9); exact am_x_ifnull (n := n) (w := w) hd (of_decide_eq_true ho) h
  | iinc a0 a1 => obtain rfl : len = 3 := hlen.resolve_left (fun h9 => by cases h9); exact am_x_iinc (n := n) (v := v) hd (of_decide_eq_true ho) h
  | iload a0 => obtain rfl : len = 2 := hlen.resolve_left (fun h9 => by cases h9); exact am_x_iload (n := n) (v := v) hd h
  | iload_n a0 => obtain rfl : len = 1 := hlen.resolve_left (fun h9 => by cases h9); exact am_x_iload_n (n := n) (v := v) hd h
  | imul => obtain rfl : len = 1 := hlen.resolve_left (fun h9 => by cases h9); exact am_x_imul (n := n) (v := v) hd h
  | ineg => obtain rfl : len = 1 := hlen.resolve_left (fun h9 => by cases h9); exact am_x_ineg (n := n) (v := v) hd h
  | instanceof a0 => exact absurd (show (none : Option am_S) = some st' from h) (fun h => by cases h)
  | invokedynamic a0 => exact absurd (show (none : Option am_S) = some st' from h) (fun h => by cases h)
  | invokeinterface a0 a1 => exact absurd (show (none : Option am_S) = some st' from h) (fun h => by cases h)
  | invokespecial a0 =>
    obtain rfl : len = 3 := hlen.resolve_left (fun h9 => by cases h9)
    refine am_x_objInit (n := n) (n2 := n2) hd (fun h9 => ?_) h
    simp only [am_own] at ho
    rw [if_pos h9] at ho
    exact ho
  | invokestatic a0 => obtain rfl : len = 3 := hlen.resolve_left (fun h9 => by cases h9); exact am_x_math (n := n) (n2 := n2) hd ho h
  | invokevirtual a0 => exact absurd (show (none : Option am_S) = some st' from h) (fun h => by cases h)
  | ior => obtain rfl : len = 1 := hlen.resolve_left (fun h9 => by cases h9); exact am_x_ior (n := n) (v := v) hd h
  | irem => obtain rfl : len = 1 := hlen.resolve_left (fun h9 => by cases h9); exact am_x_irem (n := n) (v := v) hd h
  | ireturn => exact absurd (show (none : Option am_S) = some st' from h) (fun h => by cases h)
  | ishl => obtain rfl : len = 1 := hlen.resolve_left (fun h9 => by cases h9); exact am_x_ishl (n := n) (v := v) hd h
  | ishr => obtain rfl : len = 1 := hlen.resolve_left (fun h9 => by cases h9); exact am_x_ishr (n := n) (v := v) hd h
  | istore a0 => obtain rfl : len = 2 := hlen.resolve_left (fun h9 => by cases h9); exact am_x_istore (n := n) (v := v) hd h
  | istore_n a0 => obtain rfl : len = 1 := hlen.resolve_left (fun h9 => by cases h9); exact am_x_istore_n (n := n) (v := v) hd h
  | isub => obtain rfl : len = 1 := hlen.resolve_left (fun h9 => by cases h9); exact am_x_isub (n := n) (v := v) hd h
  | iushr => obtain rfl : len = 1 := hlen.resolve_left (fun h9 => by cases h9); exact am_x_iushr (n := n) (v := v) hd h
  | ixor => obtain rfl : len = 1 := hlen.resolve_left (fun h9 => by cases h9); exact am_x_ixor (n := n) (v := v) hd h
  | jsr a0 => exact absurd (show (none : Option am_S) = some st' from h) (fun h => by cases h)
  | jsr_w a0 => exact absurd (show (none : Option am_S) = some st' from h) (fun h => by cases h)
  | l2d => exact absurd (show (none : Option am_S) = some st' from h) (fun h => by cases h)
  | l2f => exact absurd (show (none : Option am_S) = some st' from h) (fun h => by cases h)
  | l2i => obtain rfl : len = 1 := hlen.resolve_left (fun h9 => by cases h9); exact am_x_l2i (n := n) (v := v) hd h
  | ladd => exact absurd (show (none : Option am_S) = some st' from h) (fun h => by cases h)
  | laload => exact absurd (show (none : Option am_S) = some st' from h) (fun h => by cases h)
  | land => obtain rfl : len = 1 := hlen.resolve_left (fun h9 => by cases h9); exact am_x_land (n := n) (v := v) hd h
  | lastore => exact absurd (show (none : Option am_S) = some st' from h) (fun h => by cases h)
  | lcmp => obtain rfl : len = 1 := hlen.resolve_left (fun h9 => by cases h9); exact am_x_lcmp (n := n) (v := v) hd h
  | lconst a0 => obtain rfl : len = 1 := hlen.resolve_left (fun h9 => by cases h9); exact am_x_lconst (n := n) (v := v) hd h
  | ldc a0 => obtain rfl : len = 2 := hlen.resolve_left (fun h9 => by cases h9); exact am_x_ldc (n := n) (v := v) hd ho h
  | ldc_w a0 => obtain rfl : len = 3 := hlen.resolve_left (fun h9 => by cases h9); exact am_x_ldc_w (n := n) (v := v) hd ho h
  | ldc2_w a0 => obtain rfl : len = 3 := hlen.resolve_left (fun h9 => by cases h9); exact am_x_ldc2_w (n := n) (v := v) hd ho h
  | ldiv => obtain rfl : len = 1 := hlen.resolve_left (fun h9 => by cases h9); exact am_x_ldiv (n := n) (v := v) hd h
  | lload a0 => obtain rfl : len = 2 := hlen.resolve_left (fun h9 => by cases h9); exact am_x_lload (n := n) (v := v) hd h
  | lload_n a0 => obtain rfl : len = 1 := hlen.resolve_left (fun h9 => by cases h9); exact am_x_lload_n (n := n) (v := v) hd h
  | lmul => obtain rfl : len = 1 := hlen.resolve_left (fun h9 => by cases h9); exact am_x_lmul (n := n) (v := v) hd h
  | lneg => exact absurd (show (none : Option am_S) = some st' from h) (fun h => by cases h)
  | lookupswitch a0 a1 => exact absurd (show (none : Option am_S) = some st' from h) (fun h => by cases h)
  | lor => obtain rfl : len = 1 := hlen.resolve_left (fun h9 => by cases h9); exact am_x_lor (n := n) (v := v) hd h
  | lrem => exact absurd (show (none : Option am_S) = some st' from h) (fun h => by cases h)
  | lreturn => exact absurd (show (none : Option am_S) = some st' from h) (fun h => by cases h)
  | lshl => obtain rfl : len = 1 := hlen.resolve_left (fun h9 => by cases h9); exact am_x_lshl (n := n) (v := v) hd h
  | lshr => obtain rfl : len = 1 := hlen.resolve_left (fun h9 => by cases h9); exact am_x_lshr (n := n) (v := v) hd h
  | lstore a0 => obtain rfl : len = 2 := hlen.resolve_left (fun h9 => by cases h9); exact am_x_lstore (n := n) (v := v) hd h
  | lstore_n a0 => obtain rfl : len = 1 := hlen.resolve_left (fun h9 => by cases h9); exact am_x_lstore_n (n := n) (v := v) hd h
  | lsub => exact absurd (show (none : Option am_S) = some st' from h) (fun h => by cases h)
  | lushr => exact absurd (show (none : Option am_S) = some st' from h) (fun h => by cases h)
  | lxor => exact absurd (show (none : Option am_S) = some st' from h) (fun h => by cases h)
  | monitorenter => exact absurd (show (none : Option am_S) = some st' from h) (fun h => by cases h)
  | monitorexit => exact absurd (show (none : Option am_S) = some st' from h) (fun h => by cases h)
  | multianewarray a0 a1 => exact absurd (show (none : Option am_S) = some st' from h) (fun h => by cases h)
  | new a0 =>
    obtain rfl : len = 3 := hlen.resolve_left (fun h9 => by cases h9)
    simp only [am_own] at ho
    rw [Bool.and_eq_true, decide_eq_true_eq] at ho
    exact am_x_new (n := n) (n2 := n2) hd ho.1 ho.2 h
  | newarray a0 =>
    obtain rfl : len = 2 := hlen.resolve_left (fun h9 => by cases h9)
    simp only [am_own, Bool.and_eq_true, decide_eq_true_eq] at ho
    exact am_x_newarray (n := n) (n2 := n2) hd ho.1 ho.2 h
  | nop => exact absurd (show (none : Option am_S) = some st' from h) (fun h => by cases h)
  | pop => obtain rfl : len = 1 := hlen.resolve_left (fun h9 => by cases h9); exact am_x_pop (n := n) (v := v) hd h
  | pop2 => exact absurd (show (none : Option am_S) = some st' from h) (fun h => by cases h)
  | putfield a0 =>
    obtain rfl : len = 3 := hlen.resolve_left (fun h9 => by cases h9)
    simp only [am_own] at ho
    rw [Bool.and_eq_true, Bool.and_eq_true, Bool.and_eq_true, decide_eq_true_eq, decide_eq_true_eq] at ho
    exact am_x_putfield (n := n) (n2 := n2) hd ho.1 ho.2.1 ho.2.2.1 ho.2.2.2 h
  | putstatic a0 => exact absurd (show (none : Option am_S) = some st' from h) (fun h => by cases h)
  | ret a0 => exact absurd (show (none : Option am_S) = some st' from h) (fun h => by cases h)
  | return_ => exact absurd (show (none : Option am_S) = some st' from h) (fun h => by cases h)
  | saload => exact absurd (show (none : Option am_S) = some st' from h) (fun h => by cases h)
  | sastore => exact absurd (show (none : Option am_S) = some st' from h) (fun h => by cases h)
  | sipush a0 => obtain rfl : len = 3 := hlen.resolve_left (fun h9 => by cases h9); exact am_x_sipush (n := n) (v := v) hd (of_decide_eq_true ho) h
  | swap => exact absurd (show (none : Option am_S) = some st' from h) (fun h => by cases h)
  | tableswitch a0 a1 a2 a3 =>
    simp only [am_own, Bool.and_eq_true, decide_eq_true_eq] at ho
    exact am_x_tableswitch (n := n) (w := w) hd ho.1 ho.2 h
end AMS
end
section
/-! from a state to a method's return: am_Go; steps, branches, calls -/
def am_rt (q : am_M) (r : Option Value) (pc : Nat) : Prop := match r with
  | none => decode q.2.2.1 pc = .ok (.return_, 1) ∧ q.2.2.2.2.1 = none
  | some (.int v) => decode q.2.2.1 pc = .ok (.ireturn, 1) ∧ ∃ ty, q.2.2.2.2.1 = some ty ∧ narrow ty (.int v) = .int v
  | _ => False
abbrev am_X : Type := am_T × (Nat → Nat → Value) × (Nat → Nat → Int32)
/-- from st, with room for d calls in one another, the method mi comes to its return with r on the stack and the cells X' -/
def am_Go (l : Launch) (D : va_G) (DA : Nat → ClassId) (b sz d mi : Nat) (st : am_S) (r : Option Value) (X' : am_X) : Prop :=
  st.2.2.2.1.length ≤ X'.1.length ∧ am_ns st.2.2.2.1 ≤ am_ns X'.1 ∧
  ∀ (q : am_M), am_ms[mi]? = some q → ∀ (p : Program) (e : Env) (R : Room) (s : State) (m : MethodId) (args : Array Value) (below : List Frame) (meth : Method) (c : Code) (Q : State → Prop) (ls : Array Slot) (H : Heap) (locs : List Loc) (cells slots : Nat),
    am_At D DA q p s m args meth c → d + 1 ≤ R.frames → (d + 1) * 64 ≤ R.locals → cells + (X'.1.length - st.2.2.2.1.length) ≤ R.cells → slots + (am_ns X'.1 - am_ns st.2.2.2.1) ≤ R.slots →
    am_Ls b sz ls q.2.2.2.1 st.2.1 → am_ok D DA b sz s st.2.2.2 H → (∀ z ∈ locs, sz ≤ z.base) →
    (∀ (pc' : Nat) (ls' : Array Slot) (H' : Heap) (locs' : List Loc), am_ok D DA b sz s X' H' → (∀ z ∈ locs', sz ≤ z.base) → am_rt q r pc' →
      W p l e R s m args below meth c H' locs' (cells + (X'.1.length - st.2.2.2.1.length)) (slots + (am_ns X'.1 - am_ns st.2.2.2.1)) Q (F0 m pc' ls' ((r.map (am_v b sz)).toList))) →
    W p l e R s m args below meth c H locs cells slots Q (F0 m st.1 ls (st.2.2.1.map (am_v b sz)))
def am_sl (As : List Value) : am_L := As.flatMap fun v => if v.category = 2 then [some v, none] else [some v]
def am_ent (nL : Nat) (As : List Value) : am_L := am_sl As ++ List.replicate (nL - (am_sl As).length) none
section AMG
variable {l : Launch} {D : va_G} {DA : Nat → ClassId} {b sz : Nat} {q : am_M}
theorem am_fetch_in {k : List am_I} {pc : Nat} {I : am_I} (h : am_fetch k pc = some I) : I ∈ k ∧ I.1 = pc := by
  induction k with
  | nil => cases h
  | cons J k ih =>
    unfold am_fetch at h
    split at h
    · rename_i hj
      cases h
      exact ⟨List.mem_cons_self, hj⟩
    · exact ⟨List.mem_cons_of_mem _ (ih h).1, (ih h).2⟩
theorem am_step_St {k : List am_I} {st st' : am_S} (hk : k.all (am_chk q) = true) (h : am_step k st = some st') : am_St l D DA b sz q st st' := by
  unfold am_step at h
  split at h
  · rename_i I hI
    obtain ⟨h1, h2⟩ := am_fetch_in hI
    exact am_ex_sound (List.all_eq_true.mp hk I h1) h2 h
  · cases h
theorem am_St.refl (st : am_S) : am_St l D DA b sz q st st := by
  refine ⟨Nat.le_refl _, Nat.le_refl _, ?_⟩
  intro p e R s m args below meth c Q ls H locs cells slots hA hf hl hc hs hL hO hlo k
  have := k ls H locs hL hO hlo
  simp only [Nat.sub_self, Nat.add_zero] at this
  exact this
theorem am_steps_St {k : List am_I} (hk : k.all (am_chk q) = true) : ∀ (n : Nat) {st st' : am_S}, am_steps k n st = some st' → am_St l D DA b sz q st st'
  | 0, st, st', h => by
    cases h
    exact am_St.refl st
  | n + 1, st, st', h => by
    unfold am_steps at h
    split at h
    · rename_i s2 h2
      exact (am_step_St hk h2).trans (am_steps_St hk n h)
    · cases h
/-- steps -/
theorem go_St {d mi : Nat} {st st' : am_S} {r : Option Value} {X' : am_X} (hq : am_ms[mi]? = some q) (h : am_St l D DA b sz q st st') (G : am_Go l D DA b sz d mi st' r X') : am_Go l D DA b sz d mi st r X' := by
  obtain ⟨a1, a2, a3⟩ := h
  obtain ⟨b1, b2, b3⟩ := G
  refine ⟨Nat.le_trans a1 b1, Nat.le_trans a2 b2, ?_⟩
  intro q' hq' p e R s m args below meth c Q ls H locs cells slots hA hf hl hc hs hL hO hlo k
  have e9 : q' = q := Option.some.inj (hq'.symm.trans hq)
  subst e9
  refine a3 p e R s m args below meth c Q ls H locs cells slots hA (by omega) (by omega) (by omega) (by omega) hL hO hlo ?_
  intro ls1 H1 locs1 hL1 hO1 hlo1
  refine b3 q' hq p e R s m args below meth c Q ls1 H1 locs1 _ _ hA hf hl (by omega) (by omega) hL1 hO1 hlo1 ?_
  intro pc' ls2 H2 locs2 hO2 hlo2 hrt
  have := k pc' ls2 H2 locs2 hO2 hlo2 hrt
  have e1 : cells + (st'.2.2.2.1.length - st.2.2.2.1.length) + (X'.1.length - st'.2.2.2.1.length) = cells + (X'.1.length - st.2.2.2.1.length) := by omega
  have e2 : slots + (am_ns st'.2.2.2.1 - am_ns st.2.2.2.1) + (am_ns X'.1 - am_ns st'.2.2.2.1) = slots + (am_ns X'.1 - am_ns st.2.2.2.1) := by omega
  rw [e1, e2]
  exact this
theorem go_steps {k : List am_I} {d mi : Nat} {st st' : am_S} {r : Option Value} {X' : am_X} (hq : am_ms[mi]? = some q) (hk : k.all (am_chk q) = true) (n : Nat) (h : am_steps k n st = some st') (G : am_Go l D DA b sz d mi st' r X') : am_Go l D DA b sz d mi st r X' := go_St hq (am_steps_St hk n h) G
/-- a jump by a condition -/
theorem go_if {c : Prop} [Decidable c] {d mi x y : Nat} {L : am_L} {S : List Value} {X X' : am_X} {r : Option Value} (h1 : c → am_Go l D DA b sz d mi (x, L, S, X) r X') (h2 : ¬ c → am_Go l D DA b sz d mi (y, L, S, X) r X') : am_Go l D DA b sz d mi (if c then x else y, L, S, X) r X' := by
  by_cases hc : c
  · rw [if_pos hc]; exact h1 hc
  · rw [if_neg hc]; exact h2 hc
/-- the return -/
theorem go_retI {k : List am_I} {d mi pc len nx n n2 : Nat} {v x : Int32} {w : List Nat} {ty : FieldType} {L : am_L} {X : am_X} (hq : am_ms[mi]? = some q) (hk : k.all (am_chk q) = true) (hf : am_fetch k pc = some (pc, .ireturn, len, nx, n, n2, v, w)) (hr : q.2.2.2.2.1 = some ty) (hn : narrow ty (.int x) = .int x) : am_Go l D DA b sz d mi (pc, L, [.int x], X) (some (.int x)) X := by
  have hc := List.all_eq_true.mp hk _ (am_fetch_in hf).1
  simp only [am_chk, Bool.and_eq_true, Bool.or_eq_true, decide_eq_true_eq, beq_iff_eq] at hc
  obtain ⟨hd, hnx, hlen, -⟩ := hc
  obtain rfl : len = 1 := hlen.resolve_left (fun h9 => by cases h9)
  refine ⟨Nat.le_refl _, Nat.le_refl _, ?_⟩
  intro q' hq' p e R s m args below meth c Q ls H locs cells slots hA hf hl hc hs hL hO hlo kk
  have e9 : q' = q := Option.some.inj (hq'.symm.trans hq)
  subst e9
  have := kk pc ls H locs hO hlo ⟨hd, ty, hr, hn⟩
  simp only [Nat.sub_self, Nat.add_zero] at this
  exact this
theorem go_retV {k : List am_I} {d mi pc len nx n n2 : Nat} {v : Int32} {w : List Nat} {L : am_L} {X : am_X} (hq : am_ms[mi]? = some q) (hk : k.all (am_chk q) = true) (hf : am_fetch k pc = some (pc, .return_, len, nx, n, n2, v, w)) (hr : q.2.2.2.2.1 = none) : am_Go l D DA b sz d mi (pc, L, [], X) none X := by
  have hc := List.all_eq_true.mp hk _ (am_fetch_in hf).1
  simp only [am_chk, Bool.and_eq_true, Bool.or_eq_true, decide_eq_true_eq, beq_iff_eq] at hc
  obtain ⟨hd, hnx, hlen, -⟩ := hc
  obtain rfl : len = 1 := hlen.resolve_left (fun h9 => by cases h9)
  refine ⟨Nat.le_refl _, Nat.le_refl _, ?_⟩
  intro q' hq' p e R s m args below meth c Q ls H locs cells slots hA hf hl hc hs hL hO hlo kk
  have e9 : q' = q := Option.some.inj (hq'.symm.trans hq)
  subst e9
  have := kk pc ls H locs hO hlo ⟨hd, hr⟩
  simp only [Nat.sub_self, Nat.add_zero] at this
  exact this
/-! a method's contract -/
theorem am_cell.moved {s t : State} {ρ : Nat → Nat → Value} {σ : Nat → Nat → Int32} {H : Heap} {c : Nat} {x : Nat ⊕ (Nat × Nat)} (hvm : s.vm.Alike t.vm) (h : am_cell D DA b sz s ρ σ H c x) : am_cell D DA b sz t ρ σ H c x := by
  cases x with
  | inl ci => exact h
  | inr z =>
    obtain ⟨t', n⟩ := z
    rcases h with ⟨h1, h2, h3⟩ | h | h
    · exact Or.inl ⟨h1, h2, h3.moved hvm⟩
    · exact Or.inr (Or.inl h)
    · exact Or.inr (Or.inr h)
theorem am_ok.moved {s t : State} {X : am_X} {H : Heap} (hvm : s.vm.Alike t.vm) (h : am_ok D DA b sz s X H) : am_ok D DA b sz t X H := ⟨h.1, h.2.1, h.2.2.1, fun c x hx => (h.2.2.2 c x hx).moved hvm⟩
theorem am_K.warm {s t : State} (hW : s.WarmedH t.vm) (h : am_K D DA s) : am_K D DA t := ⟨h.1.moved hW.alike, h.2.1.moved hW.alike, fun z hz => va_Nw.warmM hW (h.2.2 z hz)⟩
theorem am_K.same {s t : State} (hv : s.vm = t.vm) (h : am_K D DA s) : am_K D DA t := ⟨h.1.moved (by rw [hv]; exact Vm.Alike.refl _), h.2.1.moved (by rw [hv]; exact Vm.Alike.refl _), fun z hz => va_Nw.same rfl hv (h.2.2 z hz)⟩
theorem am_sl_at : ∀ (As : List Value) (i : Nat) (v : Value), (am_sl As)[i]? = some (some v) → (lg_sl (As.map (am_v b sz)))[i]? = some (.val (am_v b sz v))
  | [], i, v, h => by simp [am_sl] at h
  | a :: As, i, v, h => by
    have ih := am_sl_at As
    have e1 : am_sl (a :: As) = (if a.category = 2 then [some a, none] else [some a]) ++ am_sl As := by simp [am_sl]
    have e2 : lg_sl ((a :: As).map (am_v b sz)) = (if a.category = 2 then [.val (am_v b sz a), .second] else [.val (am_v b sz a)]) ++ lg_sl (As.map (am_v b sz)) := by simp [lg_sl, am_v_cat]
    rw [e1] at h
    rw [e2]
    by_cases hc : a.category = 2
    · rw [if_pos hc] at h ⊢
      match i, h with
      | 0, h => simp at h; subst h; rfl
      | 1, h => simp at h
      | i + 2, h =>
        have h : (am_sl As)[i]? = some (some v) := h
        exact ih i v h
    · rw [if_neg hc] at h ⊢
      match i, h with
      | 0, h => simp at h; subst h; rfl
      | i + 1, h =>
        have h : (am_sl As)[i]? = some (some v) := h
        exact ih i v h
theorem am_sl_len : ∀ (As : List Value), (lg_sl (As.map (am_v b sz))).length = (am_sl As).length
  | [] => rfl
  | a :: As => by
    have ih := am_sl_len As
    have e1 : am_sl (a :: As) = (if a.category = 2 then [some a, none] else [some a]) ++ am_sl As := by simp [am_sl]
    have e2 : lg_sl ((a :: As).map (am_v b sz)) = (if a.category = 2 then [.val (am_v b sz a), .second] else [.val (am_v b sz a)]) ++ lg_sl (As.map (am_v b sz)) := by simp [lg_sl, am_v_cat]
    rw [e1, e2, List.length_append, List.length_append, ih]
    split <;> rfl
theorem am_ent_Ls {nL : Nat} {As : List Value} (h : (am_sl As).length ≤ nL) : am_Ls b sz ((lg_sl (As.map (am_v b sz)) ++ List.replicate (nL - (lg_sl (As.map (am_v b sz))).length) Slot.unset).toArray) nL (am_ent nL As) := by
  have hl := lv_entry (As.map (am_v b sz)) (n := nL) (by rw [am_sl_len]; exact h)
  refine ⟨by unfold am_ent; rw [List.length_append, List.length_replicate]; omega, hl.1, hl.2.1, fun i v hv => ?_⟩
  unfold am_ent at hv
  by_cases hi : i < (am_sl As).length
  · rw [List.getElem?_append_left hi] at hv
    have := am_sl_at (b := b) (sz := sz) As i v hv
    rw [List.getElem?_toArray, List.getElem?_append_left (by rw [am_sl_len]; exact hi)]
    exact this
  · rw [List.getElem?_append_right (by omega), List.getElem?_replicate] at hv
    split at hv <;> cases hv
abbrev am_ws (q : am_M) : List Cond := Cond.code q.2.1 q.2.2.1 q.2.2.2.1 q.2.2.2.2.1 :: am_tb
abbrev am_rm (d : Nat) (X X' : am_X) : Room := { frames := d + 1, cells := X'.1.length - X.1.length, slots := am_ns X'.1 - am_ns X.1, locals := (d + 1) * 64 }
abbrev am_Pc (D : va_G) (DA : Nat → ClassId) (b sz : Nat) (As : List Value) (X : am_X) : Array Value → State → Prop := va_Pc (As.map (am_v b sz)) (fun U => am_ok D DA b sz U X U.heap ∧ am_K D DA U)
abbrev am_Qc (D : va_G) (DA : Nat → ClassId) (b sz : Nat) (r : Option Value) (X' : am_X) : Array Value → State → Outcome → State → Prop := fun _ _ o t => o = .returned (r.map (am_v b sz)) ∧ am_ok D DA b sz t X' t.heap
theorem am_met {d mi : Nat} {As : List Value} {X X' : am_X} {r : Option Value} (hq : am_ms[mi]? = some q) (hok : am_okM q) (hn : (am_sl As).length ≤ q.2.2.2.1) (G : am_Go l D DA b sz d mi (0, am_ent q.2.2.2.1 As, [], X) r X') :
    Met l q.2.1 (am_ws q) (am_rm d X X') (am_Pc D DA b sz As X) (am_Qc D DA b sz r X') (X'.1.length - X.1.length) (am_ns X'.1 - am_ns X.1) (fun a => sz ≤ a) := by
  refine Met.ofW (cc := q.2.2.1) (maxL := q.2.2.2.1) (ret := q.2.2.2.2.1) hok.2.2.1 rfl ?_
  intro p e s m args below meth c s₁ B hml hv
  obtain ⟨rfl, hO, hK⟩ := hv
  have hts := atoms_spec (ws := am_ws q) B.pre
  have hown : s.vm.findClass q.2.1.cls = some m.cls := findClass_of_methodNamed B.named
  have hlocks := B.notSynchronized
  have hr := B.returns
  rw [lg_entry_eq]
  have hA : am_At D DA q p s m ((As.map (am_v b sz)).toArray) meth c := ⟨B.exec, B.bytes, hml, by rw [hok.1]; exact hown, fun w hw => hts w (List.mem_cons_of_mem _ hw), hK, fun h => by
    rw [(name_of_methodNamed B.named B.method).1]
    exact (hok.2.2.2.2.2.2.2.2.2.2.1 h).1⟩
  refine G.2.2 q hq p e _ s m _ below meth c _ _ s.heap [] 0 0 hA (Nat.le_refl _) (Nat.le_refl _) (by show 0 + _ ≤ _; rw [Nat.zero_add]; exact Nat.le_refl _) (by show 0 + _ ≤ _; rw [Nat.zero_add]; exact Nat.le_refl _) (am_ent_Ls hn) hO (fun z h => by cases h) ?_
  intro pc' ls' H' locs' hO' hlo' hrt
  rw [Nat.zero_add, Nat.zero_add]
  cases r with
  | none =>
    exact W.vret B.exec B.bytes (by rw [hr]; exact hrt.2) (fun t ht hW => ⟨rfl, by rw [ht]; exact hO'.moved hW.alike⟩) hlo' hrt.1
  | some v =>
    cases v with
    | int x =>
      obtain ⟨hd, ty, hty, hnar⟩ := hrt
      exact W.zret B.exec B.bytes (by rw [hr]; exact hty) hnar (fun t ht hW => ⟨rfl, by rw [ht]; exact hO'.moved hW.alike⟩) hlo' hd
    | _ => exact absurd hrt (fun h => h)
/-- a call that was run -/
theorem am_run_W {p : Program} {e : Env} {R : Room} {s : State} {m : MethodId} {args a : Array Value} {below : List Frame} {meth : Method} {c : Code} {Q : State → Prop} {H : Heap} {locs : List Loc} {cells slots mc ms pc : Nat} {ls : Array Slot} {rest st0 : List Value} {r : Option Value} {X' : am_X} (hr : va_Run p l e R s m args below meth c H locs cells slots mc ms (F0 m pc ls st0) rest (am_Qc D DA b sz r X' a) (fun a => sz ≤ a)) (hlo : ∀ z ∈ locs, sz ≤ z.base)
    (kk : ∀ (H1 : Heap) (locs1 : List Loc), am_ok D DA b sz s X' H1 → (∀ z ∈ locs1, sz ≤ z.base) → W p l e R s m args below meth c H1 locs1 (cells + mc) (slots + ms) Q (F0 m (pc + 3) ls ((r.map (am_v b sz)).toList ++ rest))) : W p l e R s m args below meth c H locs cells slots Q (F0 m pc ls st0) := by
  intro T hT Y
  obtain ⟨v, st₀, t, T', L, h0, Y', hL, e1, e2, ⟨hv, hO⟩, st⟩ := hr T hT Y
  cases hv
  obtain ⟨t2, a1, b1⟩ := kk T'.heap (locs ++ L) (by rw [e1]; exact hO.moved (by rw [← e2]; exact Y'.warmed.alike.symm)) (fun z hz => by
    rcases List.mem_append.mp hz with h | h
    · exact hlo z h
    · exact hL z h) T' rfl Y'
  exact ⟨t2, st t2 a1, b1⟩
theorem am_blind {As : List Value} {X : am_X} : FrameBlind (am_Pc D DA b sz As X) := by
  intro a U g mk hh
  obtain ⟨h0, h1, h2⟩ := hh
  exact ⟨h0, h1.moved (t := U.calling g mk a) (Vm.Alike.refl U.vm), h2.same rfl⟩
theorem am_goodIn {qj : am_M} (hok : am_okM qj) : GoodIn am_tb (am_ws qj) := by
  intro w hw
  rcases List.mem_cons.mp hw with rfl | hw
  · have h := am_tb_in hok.2.2.2.1 rfl
    exact ⟨h, good_of_word (am_tb_good h)⟩
  · exact ⟨hw, good_of_word (am_tb_good hw)⟩
theorem am_y_eq {mj : Nat} {qj : am_M} (h : am_ms[mj]? = some qj) : am_y mj = qj.2.1 := by unfold am_y; rw [h]
end AMG
end
section
/-! calls -/
section AMG
variable {l : Launch} {D : va_G} {DA : Nat → ClassId} {b sz : Nat} {q : am_M}
theorem am_args {n : Nat} {S : List Value} : S.map (am_v b sz) = (((S.take n).reverse).map (am_v b sz)).reverse ++ (S.drop n).map (am_v b sz) := by
  rw [← List.map_reverse, List.reverse_reverse, ← List.map_append, List.take_append_drop]
theorem am_toList {r : Option Value} : (r.map (am_v b sz)).toList = r.toList.map (am_v b sz) := by cases r <;> rfl
/-- the frame of a call: what a run call gives, the caller goes on -/
theorem go_of_run {d mi mj n pc nx : Nat} {qj : am_M} {L : am_L} {S : List Value} {X X1 X' : am_X} {r1 r : Option Value} (hq : am_ms[mi]? = some q) (hj : am_ms[mj]? = some qj) (hok : am_okM qj) (hnx : nx = pc + 3) (hlen : (am_sl (S.take n).reverse).length ≤ qj.2.2.2.1)
    (G1 : am_Go l D DA b sz d mj (0, am_ent qj.2.2.2.1 (S.take n).reverse, [], X) r1 X1) (G2 : am_Go l D DA b sz (d + 1) mi (nx, L, r1.toList ++ S.drop n, X1) r X')
    (run : ∀ (p : Program) (e : Env) (R : Room) (s : State) (m : MethodId) (args : Array Value) (below : List Frame) (meth : Method) (c : Code) (ls : Array Slot) (H : Heap) (locs : List Loc) (cells slots : Nat),
      am_At D DA q p s m args meth c → d + 2 ≤ R.frames → (d + 2) * 64 ≤ R.locals → cells + (X1.1.length - X.1.length) ≤ R.cells → slots + (am_ns X1.1 - am_ns X.1) ≤ R.slots → am_Ls b sz ls q.2.2.2.1 L → am_ok D DA b sz s X H →
      Met l qj.2.1 (am_ws qj) (am_rm d X X1) (am_Pc D DA b sz (S.take n).reverse X) (am_Qc D DA b sz r1 X1) (X1.1.length - X.1.length) (am_ns X1.1 - am_ns X.1) (fun a => sz ≤ a) →
      ∃ a : Array Value, va_Run p l e R s m args below meth c H locs cells slots (X1.1.length - X.1.length) (am_ns X1.1 - am_ns X.1) (F0 m pc ls (S.map (am_v b sz))) ((S.drop n).map (am_v b sz)) (am_Qc D DA b sz r1 X1 a) (fun a => sz ≤ a)) :
    am_Go l D DA b sz (d + 1) mi (pc, L, S, X) r X' := by
  have hM := am_met hj hok hlen G1
  obtain ⟨a1, a2, -⟩ := G1
  obtain ⟨b1, b2, b3⟩ := G2
  have a1 : X.1.length ≤ X1.1.length := a1
  have a2 : am_ns X.1 ≤ am_ns X1.1 := a2
  have b1 : X1.1.length ≤ X'.1.length := b1
  have b2 : am_ns X1.1 ≤ am_ns X'.1 := b2
  subst hnx
  refine ⟨Nat.le_trans a1 b1, Nat.le_trans a2 b2, ?_⟩
  intro q' hq' p e R s m args below meth c Q ls H locs cells slots hA hf hl hc hs hL hO hlo k
  have e9 : q' = q := Option.some.inj (hq'.symm.trans hq)
  subst e9
  have hc : cells + (X'.1.length - X.1.length) ≤ R.cells := hc
  have hs : slots + (am_ns X'.1 - am_ns X.1) ≤ R.slots := hs
  obtain ⟨a, hrun⟩ := run p e R s m args below meth c ls H locs cells slots hA hf hl (by omega) (by omega) hL hO hM
  refine am_run_W hrun hlo (fun H1 locs1 hO1 hlo1 => ?_)
  have hk := b3 q' hq p e R s m args below meth c Q ls H1 locs1 (cells + (X1.1.length - X.1.length)) (slots + (am_ns X1.1 - am_ns X.1)) hA hf hl (by show cells + (X1.1.length - X.1.length) + (X'.1.length - X1.1.length) ≤ _; omega) (by show slots + (am_ns X1.1 - am_ns X.1) + (am_ns X'.1 - am_ns X1.1) ≤ _; omega) hL hO1 hlo1 ?_
  · have e1 : (r1.toList ++ S.drop n).map (am_v b sz) = (r1.map (am_v b sz)).toList ++ (S.drop n).map (am_v b sz) := by rw [List.map_append, am_toList]
    have hk : W p l e R s m args below meth c H1 locs1 _ _ Q (F0 m (pc + 3) ls ((r1.toList ++ S.drop n).map (am_v b sz))) := hk
    rw [e1] at hk
    exact hk
  · intro pc' ls2 H2 locs2 hO2 hlo2 hrt
    have := k pc' ls2 H2 locs2 hO2 hlo2 hrt
    have e1 : cells + (X1.1.length - X.1.length) + (X'.1.length - X1.1.length) = cells + (X'.1.length - X.1.length) := by omega
    have e2 : slots + (am_ns X1.1 - am_ns X.1) + (am_ns X'.1 - am_ns X1.1) = slots + (am_ns X'.1 - am_ns X.1) := by omega
    show W p l e R s m args below meth c H2 locs2 (cells + (X1.1.length - X.1.length) + (X'.1.length - X1.1.length)) (slots + (am_ns X1.1 - am_ns X.1) + (am_ns X'.1 - am_ns X1.1)) Q _
    rw [e1, e2]
    exact this
theorem am_chk_spec {k : List am_I} {pc len nx n n2 : Nat} {i : Instr} {v : Int32} {w : List Nat} (hk : k.all (am_chk q) = true) (hf : am_fetch k pc = some (pc, i, len, nx, n, n2, v, w)) (hs : am_isSw i = false) : decode q.2.2.1 pc = .ok (i, am_len i) ∧ nx = pc + am_len i ∧ am_own q pc i n n2 v w = true := by
  have hc := List.all_eq_true.mp hk _ (am_fetch_in hf).1
  simp only [am_chk, Bool.and_eq_true, Bool.or_eq_true, decide_eq_true_eq, beq_iff_eq] at hc
  obtain ⟨hd, hnx, hlen, ho⟩ := hc
  have hlen : len = am_len i := hlen.resolve_left (fun h9 => by rw [hs] at h9; cases h9)
  subst hlen
  exact ⟨hd, hnx, ho⟩
theorem am_callB {qj : am_M} {mj idx n d : Nat} {X X1 : am_X} {R : Room} {p : Program} {s : State} {m : MethodId} {args : Array Value} {meth : Method} {c : Code} (hA : am_At D DA q p s m args meth c) (hj : am_ms[mj]? = some qj) (hok : am_okM qj) (ho : am_MW.any (fun z => z.1 == q.1 && (z.2.1 == idx && z.2.2 == mj)) = true) (hf : d + 2 ≤ R.frames) (hl : (d + 2) * 64 ≤ R.locals) (hn : (if qj.2.2.2.2.2.2.1 = true then qj.2.2.2.2.2.1 else qj.2.2.2.2.2.1 - 1) = n) :
    CallB R s args (am_cn q.1) idx qj.2.1 qj.2.2.1 qj.2.2.2.1 qj.2.2.2.2.1 (am_ws qj) (am_rm d X X1) (X1.1.length - X.1.length) (am_ns X1.1 - am_ns X.1) n := by
  obtain ⟨hx, hb, hml, hown, hts, hK, hin⟩ := hA
  refine callB_of n hts (am_goodIn hok) rfl rfl rfl (hts _ (am_tb_in hok.2.2.2.2.1 rfl)) (hts _ (am_y_eq hj ▸ am_mw ho)) ⟨hok.2.1.1, hok.2.1.2, by rw [← hn]; exact hok.2.2.2.2.2.1⟩ ⟨?_, ?_⟩
  · exact hf
  · have := hok.2.2.2.2.2.2.1
    show 8 + (qj.2.2.2.1 + 11) + (d + 1) * 64 ≤ R.locals
    omega
theorem am_room {m : MethodId} {pc n : Nat} {ls : Array Slot} {S : List Value} {st : List Value} (h : am_cat (S.drop n) ≤ 8) : 2 * (F0 m pc ls st).monitorRoom + (((S.drop n).map (am_v b sz)).map fun v => v.category).sum ≤ 8 := by
  rw [am_cat_v]
  have : (F0 m pc ls st).monitorRoom = 0 := rfl
  omega
theorem go_callS {k : List am_I} {d mi mj pc len nx n2 n idx : Nat} {qj : am_M} {v : Int32} {w : List Nat} {L : am_L} {S : List Value} {X X1 X' : am_X} {r1 r : Option Value} (hq : am_ms[mi]? = some q) (hk : k.all (am_chk q) = true) (hfe : am_fetch k pc = some (pc, .invokestatic idx, len, nx, mj, n2, v, w)) (hj : am_ms[mj]? = some qj) (hok : am_okM qj) (hst : qj.2.2.2.2.2.2.1 = true) (hn : qj.2.2.2.2.2.1 = n) (hl : (S.take n).length = n) (hlen : (am_sl (S.take n).reverse).length ≤ qj.2.2.2.1) (hcat : am_cat (S.drop n) ≤ 8)
    (G1 : am_Go l D DA b sz d mj (0, am_ent qj.2.2.2.1 (S.take n).reverse, [], X) r1 X1) (G2 : am_Go l D DA b sz (d + 1) mi (nx, L, r1.toList ++ S.drop n, X1) r X') : am_Go l D DA b sz (d + 1) mi (pc, L, S, X) r X' := by
  obtain ⟨hd, hnx, ho⟩ := am_chk_spec hk hfe rfl
  refine go_of_run hq hj hok hnx hlen G1 G2 ?_
  intro p e R s m args below meth c ls H locs cells slots hA hf hlo hc hs hL hO hM
  have hB := am_callB (X := X) (X1 := X1) (n := n) hA hj hok ho hf hlo (by rw [if_pos hst]; exact hn)
  obtain ⟨hx, hb, hml, hown, hts, hK, hin⟩ := hA
  refine ⟨_, va_runS (As := (S.take n).reverse.map (am_v b sz)) (Ts := am_tb) ⟨hx, hb, hml, hown, hts⟩ hM ⟨hB, hts _ (am_tb_in (hok.2.2.2.2.2.2.2.1 hst) rfl)⟩ ⟨am_blind, fun U hU hW => ⟨rfl, by rw [hU]; exact hO.moved hW.alike, hK.warm hW⟩⟩ rfl ?_ hL.2.1 am_args (am_room hcat) hd ⟨hc, hs⟩⟩
  rw [List.length_map, List.length_reverse]
  exact hl
theorem am_recv {n c : Nat} {S : List Value} (h : (S.take n).reverse.head? = some (.ref c)) : ∃ As, (S.take n).reverse = .ref c :: As := by
  cases he : (S.take n).reverse with
  | nil => rw [he] at h; cases h
  | cons a As => rw [he] at h; cases h; exact ⟨As, rfl⟩
theorem go_callV {k : List am_I} {d mi mj pc len nx n2 n idx c0 : Nat} {qj : am_M} {v : Int32} {w : List Nat} {L : am_L} {S : List Value} {X X1 X' : am_X} {r1 r : Option Value} (hq : am_ms[mi]? = some q) (hk : k.all (am_chk q) = true) (hfe : am_fetch k pc = some (pc, .invokevirtual idx, len, nx, mj, n2, v, w)) (hj : am_ms[mj]? = some qj) (hok : am_okM qj) (hst : qj.2.2.2.2.2.2.1 = false ∧ qj.2.2.2.2.2.2.2 = false ∧ qj.1 < 10) (hn : qj.2.2.2.2.2.1 = n) (hl : (S.take n).length = n) (hlen : (am_sl (S.take n).reverse).length ≤ qj.2.2.2.1) (hcat : am_cat (S.drop n) ≤ 8) (hrc : (S.take n).reverse.head? = some (.ref c0)) (hT : X.1[c0]? = some (.inl qj.1))
    (G1 : am_Go l D DA b sz d mj (0, am_ent qj.2.2.2.1 (S.take n).reverse, [], X) r1 X1) (G2 : am_Go l D DA b sz (d + 1) mi (nx, L, r1.toList ++ S.drop n, X1) r X') : am_Go l D DA b sz (d + 1) mi (pc, L, S, X) r X' := by
  obtain ⟨hd, hnx, ho⟩ := am_chk_spec hk hfe rfl
  refine go_of_run hq hj hok hnx hlen G1 G2 ?_
  intro p e R s m args below meth c ls H locs cells slots hA hf hlo hc hs hL hO hM
  obtain ⟨As, hAs⟩ := am_recv hrc
  have hB := am_callB (X := X) (X1 := X1) (n := n - 1) hA hj hok ho hf hlo (by rw [if_neg (by rw [hst.1]; decide), hn])
  obtain ⟨hx, hb, hml, hown, hts, hK, hin⟩ := hA
  have hl2 : (S.take n).reverse.length = n := by rw [List.length_reverse]; exact hl
  rw [hAs] at hl2
  have hl3 : As.length + 1 = n := hl2
  obtain ⟨hc0, w0, hw0, cell, g1, g2, g3, -⟩ := hO.2.2.2 c0 _ hT
  have hKn := hK.1.1 qj.1 _ hw0
  have hw1 : w0.1 = am_cn qj.1 := by rw [(am_clsOk qj.1 w0 hw0).1]
  have hfc : s.vm.findClass qj.2.1.cls = some cell.cls := by
    rw [g2, ← hok.1, ← hw1]
    exact hKn.2.1
  refine ⟨_, va_runV (As := As.map (am_v b sz)) (b := am_ad b sz c0) (C := qj.2.1.cls) (Ts := am_tb) (Pc := am_Pc D DA b sz (S.take n).reverse X) ⟨hx, hb, hml, hown, hts⟩ hM ⟨hB, hts _ (am_tb_in (hok.2.2.2.2.2.2.2.2.1 hst.1) rfl), hts _ (am_tb_in (hok.2.2.2.2.2.2.2.2.2.1 hst.1 hst.2.1) rfl)⟩ ⟨am_blind, ⟨cell, g1, by rw [g3]; rfl, hfc⟩, fun U hU hW => ⟨by rw [hAs]; rfl, by rw [hU]; exact hO.moved hW.alike, hK.warm hW⟩⟩ rfl ?_ hL.2.1 ?_ (am_room hcat) hd ⟨hc, hs⟩⟩
  · rw [List.length_map]; omega
  · show S.map (am_v b sz) = _
    rw [am_args (n := n), hAs]
    simp [am_v]
theorem am_mn {idx n : Nat} (h : am_MN.any (fun z => z.1 == q.1 && (z.2.1 == idx && z.2.2 == n)) = true) : ∃ z ∈ am_MN, z = (q.1, idx, n) := by
  obtain ⟨z, hz, h⟩ := am_anyK h
  simp only [Bool.and_eq_true, beq_iff_eq] at h
  obtain ⟨h1, h2, h3⟩ := h
  exact ⟨z, hz, by rw [← h1, ← h2, ← h3]⟩
theorem go_callI {k : List am_I} {d mi mj pc len nx n2 n idx c0 : Nat} {qj : am_M} {v : Int32} {w : List Nat} {L : am_L} {S : List Value} {X X1 X' : am_X} {r1 r : Option Value} (hq : am_ms[mi]? = some q) (hk : k.all (am_chk q) = true) (hfe : am_fetch k pc = some (pc, .invokespecial idx, len, nx, mj, n2, v, w)) (hn2 : n2 ≠ 9) (hj : am_ms[mj]? = some qj) (hok : am_okM qj) (hst : qj.2.2.2.2.2.2.1 = false ∧ qj.2.2.2.2.2.2.2 = true) (hn : qj.2.2.2.2.2.1 = n) (hl : (S.take n).length = n) (hlen : (am_sl (S.take n).reverse).length ≤ qj.2.2.2.1) (hcat : am_cat (S.drop n) ≤ 8) (hrc : (S.take n).reverse.head? = some (.ref c0))
    (G1 : am_Go l D DA b sz d mj (0, am_ent qj.2.2.2.1 (S.take n).reverse, [], X) r1 X1) (G2 : am_Go l D DA b sz (d + 1) mi (nx, L, r1.toList ++ S.drop n, X1) r X') : am_Go l D DA b sz (d + 1) mi (pc, L, S, X) r X' := by
  obtain ⟨hd, hnx, ho⟩ := am_chk_spec hk hfe rfl
  refine go_of_run hq hj hok hnx hlen G1 G2 ?_
  intro p e R s m args below meth c ls H locs cells slots hA hf hlo hc hs hL hO hM
  obtain ⟨As, hAs⟩ := am_recv hrc
  have hl2 : (S.take n).reverse.length = n := by rw [List.length_reverse]; exact hl
  rw [hAs] at hl2
  have hl3 : As.length + 1 = n := hl2
  have hini := hok.2.2.2.2.2.2.2.2.2.2.1 hst.2
  have hst2 : S.map (am_v b sz) = (As.map (am_v b sz)).reverse ++ .ref (am_ad b sz c0) :: (S.drop n).map (am_v b sz) := by
    rw [am_args (n := n), hAs]
    simp [am_v]
  simp only [am_own] at ho
  rw [if_neg hn2] at ho
  by_cases h1 : n2 = 1
  · rw [if_pos h1] at ho
    obtain ⟨z, hz, rfl⟩ := am_mn ho
    obtain ⟨hx, hb, hml, hown, hts, hK, hin⟩ := hA
    have hl9 := hK.2.2 _ hz
    have hcn := va_cnB (args := args) (Ts := am_tb) (R := R) (mc := X1.1.length - X.1.length) (ms := am_ns X1.1 - am_ns X.1) (rm := am_rm d X X1) (ret := none) (bytes := qj.2.2.1) (maxL := qj.2.2.2.1) (ws := am_ws qj) (n - 1) hts (am_goodIn hok) (show am_ws qj = Cond.code qj.2.1 qj.2.2.1 qj.2.2.2.1 none :: am_tb by rw [← hini.2]) rfl rfl (am_y_eq hj ▸ hl9) (hts _ (am_tb_in hok.2.2.2.2.1 rfl)) ⟨hok.2.1.1, hok.2.1.2, by rw [hok.2.2.2.2.2.1, if_neg (by rw [hst.1]; decide), hn]⟩ ⟨hf, by
      have := hok.2.2.2.2.2.2.1
      show 8 + (qj.2.2.2.1 + 11) + (d + 1) * 64 ≤ R.locals
      omega⟩
    refine ⟨_, va_runIN (As := As.map (am_v b sz)) (b := am_ad b sz c0) (Ts := am_tb) (Pc := am_Pc D DA b sz (S.take n).reverse X) ⟨hx, hb, hml, hown, hts⟩ hM ⟨hcn, hini.1, hts _ (am_tb_in (hok.2.2.2.2.2.2.2.2.1 hst.1) rfl)⟩ ⟨am_blind, fun U hU hW => ⟨by rw [hAs]; rfl, by rw [hU]; exact hO.moved hW.alike, hK.warm hW⟩⟩ rfl ?_ hL.2.1 hst2 (am_room hcat) hd ⟨hc, hs⟩⟩
    rw [List.length_map]; omega
  · rw [if_neg h1] at ho
    have hB := am_callB (X := X) (X1 := X1) (n := n - 1) hA hj hok ho hf hlo (by rw [if_neg (by rw [hst.1]; decide), hn])
    rw [hini.2] at hB
    obtain ⟨hx, hb, hml, hown, hts, hK, hin⟩ := hA
    refine ⟨_, va_runI (As := As.map (am_v b sz)) (b := am_ad b sz c0) (Ts := am_tb) (Pc := am_Pc D DA b sz (S.take n).reverse X) ⟨hx, hb, hml, hown, hts⟩ hM ⟨hB, hini.1, hts _ (am_tb_in (hok.2.2.2.2.2.2.2.2.1 hst.1) rfl)⟩ ⟨am_blind, fun U hU hW => ⟨by rw [hAs]; rfl, by rw [hU]; exact hO.moved hW.alike, hK.warm hW⟩⟩ rfl ?_ hL.2.1 hst2 (am_room hcat) hd ⟨hc, hs⟩⟩
    rw [List.length_map]; omega
end AMG
end
section
/-! the code, instruction by instruction (written by tools/gen3.py) -/
def k_R_new : List am_I := [
  (0, .aload_n 0, 1, 1, 0, 0, 0, []),
  (1, .invokespecial 1, 3, 4, 0, 9, 0, []),
  (4, .aload_n 0, 1, 5, 0, 0, 0, []),
  (5, .bipush 20, 2, 7, 0, 0, 20, []),
  (7, .newarray .int, 2, 9, 0, 0, 0, []),
  (9, .putfield 7, 3, 12, 9, 1, 0, []),
  (12, .aload_n 0, 1, 13, 0, 0, 0, []),
  (13, .bipush 20, 2, 15, 0, 0, 20, []),
  (15, .newarray .int, 2, 17, 0, 0, 0, []),
  (17, .putfield 13, 3, 20, 9, 2, 0, []),
  (20, .aload_n 0, 1, 21, 0, 0, 0, []),
  (21, .bipush 20, 2, 23, 0, 0, 20, []),
  (23, .newarray .int, 2, 25, 0, 0, 0, []),
  (25, .putfield 16, 3, 28, 9, 3, 0, []),
  (28, .aload_n 0, 1, 29, 0, 0, 0, []),
  (29, .bipush 20, 2, 31, 0, 0, 20, []),
  (31, .newarray .int, 2, 33, 0, 0, 0, []),
  (33, .putfield 19, 3, 36, 9, 4, 0, []),
  (36, .aload_n 0, 1, 37, 0, 0, 0, []),
  (37, .bipush 20, 2, 39, 0, 0, 20, []),
  (39, .newarray .int, 2, 41, 0, 0, 0, []),
  (41, .putfield 22, 3, 44, 9, 5, 0, []),
  (44, .aload_n 0, 1, 45, 0, 0, 0, []),
  (45, .bipush 20, 2, 47, 0, 0, 20, []),
  (47, .newarray .int, 2, 49, 0, 0, 0, []),
  (49, .putfield 25, 3, 52, 9, 6, 0, []),
  (52, .aload_n 0, 1, 53, 0, 0, 0, []),
  (53, .bipush 20, 2, 55, 0, 0, 20, []),
  (55, .newarray .boolean, 2, 57, 1, 0, 0, []),
  (57, .putfield 28, 3, 60, 9, 7, 0, []),
  (60, .aload_n 0, 1, 61, 0, 0, 0, []),
  (61, .bipush 20, 2, 63, 0, 0, 20, []),
  (63, .newarray .int, 2, 65, 0, 0, 0, []),
  (65, .putfield 32, 3, 68, 9, 8, 0, []),
  (68, .aload_n 0, 1, 69, 0, 0, 0, []),
  (69, .bipush 20, 2, 71, 0, 0, 20, []),
  (71, .newarray .boolean, 2, 73, 1, 0, 0, []),
  (73, .putfield 35, 3, 76, 9, 9, 0, []),
  (76, .aload_n 0, 1, 77, 0, 0, 0, []),
  (77, .bipush 20, 2, 79, 0, 0, 20, []),
  (79, .newarray .int, 2, 81, 0, 0, 0, []),
  (81, .putfield 38, 3, 84, 9, 10, 0, []),
  (84, .aload_n 0, 1, 85, 0, 0, 0, []),
  (85, .bipush 20, 2, 87, 0, 0, 20, []),
  (87, .newarray .int, 2, 89, 0, 0, 0, []),
  (89, .putfield 41, 3, 92, 9, 11, 0, []),
  (92, .aload_n 0, 1, 93, 0, 0, 0, []),
  (93, .bipush 20, 2, 95, 0, 0, 20, []),
  (95, .newarray .int, 2, 97, 0, 0, 0, []),
  (97, .putfield 44, 3, 100, 9, 12, 0, []),
  (100, .aload_n 0, 1, 101, 0, 0, 0, []),
  (101, .bipush 20, 2, 103, 0, 0, 20, []),
  (103, .newarray .boolean, 2, 105, 1, 0, 0, []),
  (105, .putfield 47, 3, 108, 9, 13, 0, []),
  (108, .aload_n 0, 1, 109, 0, 0, 0, []),
  (109, .bipush 10, 2, 111, 0, 0, 10, []),
  (111, .putfield 50, 3, 114, 9, 14, 0, []),
  (114, .aload_n 0, 1, 115, 0, 0, 0, []),
  (115, .iconst 4, 1, 116, 0, 0, 4, []),
  (116, .putfield 54, 3, 119, 9, 15, 0, []),
  (119, .aload_n 0, 1, 120, 0, 0, 0, []),
  (120, .iconst 4, 1, 121, 0, 0, 4, []),
  (121, .putfield 57, 3, 124, 9, 16, 0, []),
  (124, .aload_n 0, 1, 125, 0, 0, 0, []),
  (125, .bipush 70, 2, 127, 0, 0, 70, []),
  (127, .putfield 60, 3, 130, 9, 17, 0, []),
  (130, .aload_n 0, 1, 131, 0, 0, 0, []),
  (131, .iconst 2, 1, 132, 0, 0, 2, []),
  (132, .putfield 63, 3, 135, 9, 18, 0, []),
  (135, .aload_n 0, 1, 136, 0, 0, 0, []),
  (136, .bipush 8, 2, 138, 0, 0, 8, []),
  (138, .putfield 66, 3, 141, 9, 19, 0, []),
  (141, .aload_n 0, 1, 142, 0, 0, 0, []),
  (142, .ldc 69, 2, 144, 0, 0, 100000, []),
  (144, .putfield 70, 3, 147, 9, 20, 0, []),
  (147, .aload_n 0, 1, 148, 0, 0, 0, []),
  (148, .ldc 69, 2, 150, 0, 0, 100000, []),
  (150, .putfield 73, 3, 153, 9, 21, 0, []),
  (153, .aload_n 0, 1, 154, 0, 0, 0, []),
  (154, .bipush 100, 2, 156, 0, 0, 100, []),
  (156, .putfield 76, 3, 159, 9, 22, 0, []),
  (159, .aload_n 0, 1, 160, 0, 0, 0, []),
  (160, .bipush 20, 2, 162, 0, 0, 20, []),
  (162, .newarray .int, 2, 164, 0, 0, 0, []),
  (164, .putfield 79, 3, 167, 9, 23, 0, []),
  (167, .aload_n 0, 1, 168, 0, 0, 0, []),
  (168, .sipush 4913, 3, 171, 0, 0, 4913, []),
  (171, .newarray .int, 2, 173, 0, 0, 0, []),
  (173, .putfield 82, 3, 176, 9, 27, 0, []),
  (176, .aload_n 0, 1, 177, 0, 0, 0, []),
  (177, .iconst (-1), 1, 178, 0, 0, (-1), []),
  (178, .putfield 85, 3, 181, 9, 28, 0, []),
  (181, .aload_n 0, 1, 182, 0, 0, 0, []),
  (182, .sipush 4096, 3, 185, 0, 0, 4096, []),
  (185, .newarray .int, 2, 187, 0, 0, 0, []),
  (187, .putfield 88, 3, 190, 9, 29, 0, []),
  (190, .aload_n 0, 1, 191, 0, 0, 0, []),
  (191, .sipush 4096, 3, 194, 0, 0, 4096, []),
  (194, .newarray .int, 2, 196, 0, 0, 0, []),
  (196, .putfield 91, 3, 199, 9, 30, 0, []),
  (199, .aload_n 0, 1, 200, 0, 0, 0, []),
  (200, .sipush 4096, 3, 203, 0, 0, 4096, []),
  (203, .newarray .int, 2, 205, 0, 0, 0, []),
  (205, .putfield 94, 3, 208, 9, 31, 0, []),
  (208, .aload_n 0, 1, 209, 0, 0, 0, []),
  (209, .sipush 4096, 3, 212, 0, 0, 4096, []),
  (212, .newarray .int, 2, 214, 0, 0, 0, []),
  (214, .putfield 97, 3, 217, 9, 32, 0, []),
  (217, .aload_n 0, 1, 218, 0, 0, 0, []),
  (218, .sipush 4096, 3, 221, 0, 0, 4096, []),
  (221, .newarray .boolean, 2, 223, 1, 0, 0, []),
  (223, .putfield 100, 3, 226, 9, 33, 0, []),
  (226, .aload_n 0, 1, 227, 0, 0, 0, []),
  (227, .bipush 20, 2, 229, 0, 0, 20, []),
  (229, .newarray .int, 2, 231, 0, 0, 0, []),
  (231, .putfield 103, 3, 234, 9, 34, 0, []),
  (234, .aload_n 0, 1, 235, 0, 0, 0, []),
  (235, .iconst (-1), 1, 236, 0, 0, (-1), []),
  (236, .putfield 106, 3, 239, 9, 37, 0, []),
  (239, .aload_n 0, 1, 240, 0, 0, 0, []),
  (240, .iconst (-1), 1, 241, 0, 0, (-1), []),
  (241, .putfield 109, 3, 244, 9, 38, 0, []),
  (244, .aload_n 0, 1, 245, 0, 0, 0, []),
  (245, .iconst (-1), 1, 246, 0, 0, (-1), []),
  (246, .putfield 112, 3, 249, 9, 39, 0, []),
  (249, .return_, 1, 250, 0, 0, 0, [])]
set_option maxRecDepth 100000 in
theorem kc_R_new : k_R_new.all (am_chk am_m97) = true := by decide +kernel
theorem q_R_new : am_ms[M_R_new]? = some am_m97 := rfl
def k_R_box : List am_I := [
  (0, .iload_n 1, 1, 1, 0, 0, 0, []),
  (1, .iconst 1, 1, 2, 0, 0, 1, []),
  (2, .bipush 12, 2, 4, 0, 0, 12, []),
  (4, .invokestatic 115, 3, 7, M_R_in, 0, 0, []),
  (7, .ifCond .eq 69, 3, 10, 76, 0, 0, []),
  (10, .iload_n 2, 1, 11, 0, 0, 0, []),
  (11, .iconst 1, 1, 12, 0, 0, 1, []),
  (12, .bipush 12, 2, 14, 0, 0, 12, []),
  (14, .invokestatic 115, 3, 17, M_R_in, 0, 0, []),
  (17, .ifCond .eq 59, 3, 20, 76, 0, 0, []),
  (20, .iload_n 3, 1, 21, 0, 0, 0, []),
  (21, .iconst 1, 1, 22, 0, 0, 1, []),
  (22, .bipush 12, 2, 24, 0, 0, 12, []),
  (24, .invokestatic 115, 3, 27, M_R_in, 0, 0, []),
  (27, .ifCond .eq 49, 3, 30, 76, 0, 0, []),
  (30, .iload 4, 2, 32, 0, 0, 0, []),
  (32, .iconst 1, 1, 33, 0, 0, 1, []),
  (33, .sipush 1000, 3, 36, 0, 0, 1000, []),
  (36, .invokestatic 115, 3, 39, M_R_in, 0, 0, []),
  (39, .ifCond .eq 37, 3, 42, 76, 0, 0, []),
  (42, .iload 5, 2, 44, 0, 0, 0, []),
  (44, .iconst 0, 1, 45, 0, 0, 0, []),
  (45, .sipush 20000, 3, 48, 0, 0, 20000, []),
  (48, .invokestatic 115, 3, 51, M_R_in, 0, 0, []),
  (51, .ifCond .eq 25, 3, 54, 76, 0, 0, []),
  (54, .iload 6, 2, 56, 0, 0, 0, []),
  (56, .iconst 0, 1, 57, 0, 0, 0, []),
  (57, .iconst 5, 1, 58, 0, 0, 5, []),
  (58, .invokestatic 115, 3, 61, M_R_in, 0, 0, []),
  (61, .ifCond .eq 15, 3, 64, 76, 0, 0, []),
  (64, .iload 8, 2, 66, 0, 0, 0, []),
  (66, .iconst 0, 1, 67, 0, 0, 0, []),
  (67, .sipush 1000, 3, 70, 0, 0, 1000, []),
  (70, .invokestatic 115, 3, 73, M_R_in, 0, 0, []),
  (73, .ifCond .ne 6, 3, 76, 79, 0, 0, []),
  (76, .bipush (-2), 2, 78, 0, 0, (-2), []),
  (78, .ireturn, 1, 79, 0, 0, 0, []),
  (79, .aload_n 0, 1, 80, 0, 0, 0, []),
  (80, .getfield 119, 3, 83, 9, 0, 0, []),
  (83, .bipush 20, 2, 85, 0, 0, 20, []),
  (85, .if_icmp .ne 6, 3, 88, 91, 0, 0, []),
  (88, .bipush (-3), 2, 90, 0, 0, (-3), []),
  (90, .ireturn, 1, 91, 0, 0, 0, []),
  (91, .aload_n 0, 1, 92, 0, 0, 0, []),
  (92, .getfield 7, 3, 95, 9, 1, 0, []),
  (95, .aload_n 0, 1, 96, 0, 0, 0, []),
  (96, .getfield 119, 3, 99, 9, 0, 0, []),
  (99, .iload_n 1, 1, 100, 0, 0, 0, []),
  (100, .iastore, 1, 101, 0, 0, 0, []),
  (101, .aload_n 0, 1, 102, 0, 0, 0, []),
  (102, .getfield 13, 3, 105, 9, 2, 0, []),
  (105, .aload_n 0, 1, 106, 0, 0, 0, []),
  (106, .getfield 119, 3, 109, 9, 0, 0, []),
  (109, .iload_n 2, 1, 110, 0, 0, 0, []),
  (110, .iastore, 1, 111, 0, 0, 0, []),
  (111, .aload_n 0, 1, 112, 0, 0, 0, []),
  (112, .getfield 16, 3, 115, 9, 3, 0, []),
  (115, .aload_n 0, 1, 116, 0, 0, 0, []),
  (116, .getfield 119, 3, 119, 9, 0, 0, []),
  (119, .iload_n 3, 1, 120, 0, 0, 0, []),
  (120, .iastore, 1, 121, 0, 0, 0, []),
  (121, .aload_n 0, 1, 122, 0, 0, 0, []),
  (122, .getfield 19, 3, 125, 9, 4, 0, []),
  (125, .aload_n 0, 1, 126, 0, 0, 0, []),
  (126, .getfield 119, 3, 129, 9, 0, 0, []),
  (129, .iload 4, 2, 131, 0, 0, 0, []),
  (131, .iastore, 1, 132, 0, 0, 0, []),
  (132, .aload_n 0, 1, 133, 0, 0, 0, []),
  (133, .getfield 22, 3, 136, 9, 5, 0, []),
  (136, .aload_n 0, 1, 137, 0, 0, 0, []),
  (137, .getfield 119, 3, 140, 9, 0, 0, []),
  (140, .iload 5, 2, 142, 0, 0, 0, []),
  (142, .iastore, 1, 143, 0, 0, 0, []),
  (143, .aload_n 0, 1, 144, 0, 0, 0, []),
  (144, .getfield 25, 3, 147, 9, 6, 0, []),
  (147, .aload_n 0, 1, 148, 0, 0, 0, []),
  (148, .getfield 119, 3, 151, 9, 0, 0, []),
  (151, .iload 6, 2, 153, 0, 0, 0, []),
  (153, .iastore, 1, 154, 0, 0, 0, []),
  (154, .aload_n 0, 1, 155, 0, 0, 0, []),
  (155, .getfield 28, 3, 158, 9, 7, 0, []),
  (158, .aload_n 0, 1, 159, 0, 0, 0, []),
  (159, .getfield 119, 3, 162, 9, 0, 0, []),
  (162, .iload 7, 2, 164, 0, 0, 0, []),
  (164, .bastore, 1, 165, 0, 0, 0, []),
  (165, .aload_n 0, 1, 166, 0, 0, 0, []),
  (166, .getfield 32, 3, 169, 9, 8, 0, []),
  (169, .aload_n 0, 1, 170, 0, 0, 0, []),
  (170, .getfield 119, 3, 173, 9, 0, 0, []),
  (173, .iload 8, 2, 175, 0, 0, 0, []),
  (175, .iastore, 1, 176, 0, 0, 0, []),
  (176, .aload_n 0, 1, 177, 0, 0, 0, []),
  (177, .dup, 1, 178, 0, 0, 0, []),
  (178, .getfield 119, 3, 181, 9, 0, 0, []),
  (181, .iconst 1, 1, 182, 0, 0, 1, []),
  (182, .iadd, 1, 183, 0, 0, 0, []),
  (183, .putfield 119, 3, 186, 9, 0, 0, []),
  (186, .aload_n 0, 1, 187, 0, 0, 0, []),
  (187, .iconst (-1), 1, 188, 0, 0, (-1), []),
  (188, .putfield 85, 3, 191, 9, 28, 0, []),
  (191, .aload_n 0, 1, 192, 0, 0, 0, []),
  (192, .getfield 119, 3, 195, 9, 0, 0, []),
  (195, .iconst 1, 1, 196, 0, 0, 1, []),
  (196, .isub, 1, 197, 0, 0, 0, []),
  (197, .ireturn, 1, 198, 0, 0, 0, [])]
set_option maxRecDepth 100000 in
theorem kc_R_box : k_R_box.all (am_chk am_m98) = true := by decide +kernel
theorem q_R_box : am_ms[M_R_box]? = some am_m98 := rfl
def k_R_in : List am_I := [
  (0, .iload_n 0, 1, 1, 0, 0, 0, []),
  (1, .iload_n 1, 1, 2, 0, 0, 0, []),
  (2, .if_icmp .lt 12, 3, 5, 14, 0, 0, []),
  (5, .iload_n 0, 1, 6, 0, 0, 0, []),
  (6, .iload_n 2, 1, 7, 0, 0, 0, []),
  (7, .if_icmp .gt 7, 3, 10, 14, 0, 0, []),
  (10, .iconst 1, 1, 11, 0, 0, 1, []),
  (11, .goto 4, 3, 14, 15, 0, 0, []),
  (14, .iconst 0, 1, 15, 0, 0, 0, []),
  (15, .ireturn, 1, 16, 0, 0, 0, [])]
set_option maxRecDepth 100000 in
theorem kc_R_in : k_R_in.all (am_chk am_m99) = true := by decide +kernel
theorem q_R_in : am_ms[M_R_in]? = some am_m99 := rfl
def k_R_truck : List am_I := [
  (0, .iload_n 1, 1, 1, 0, 0, 0, []),
  (1, .iconst 1, 1, 2, 0, 0, 1, []),
  (2, .bipush 40, 2, 4, 0, 0, 40, []),
  (4, .invokestatic 115, 3, 7, M_R_in, 0, 0, []),
  (7, .ifCond .eq 23, 3, 10, 30, 0, 0, []),
  (10, .iload_n 2, 1, 11, 0, 0, 0, []),
  (11, .iconst 1, 1, 12, 0, 0, 1, []),
  (12, .bipush 12, 2, 14, 0, 0, 12, []),
  (14, .invokestatic 115, 3, 17, M_R_in, 0, 0, []),
  (17, .ifCond .eq 13, 3, 20, 30, 0, 0, []),
  (20, .iload_n 3, 1, 21, 0, 0, 0, []),
  (21, .iconst 1, 1, 22, 0, 0, 1, []),
  (22, .bipush 12, 2, 24, 0, 0, 12, []),
  (24, .invokestatic 115, 3, 27, M_R_in, 0, 0, []),
  (27, .ifCond .ne 6, 3, 30, 33, 0, 0, []),
  (30, .bipush (-2), 2, 32, 0, 0, (-2), []),
  (32, .ireturn, 1, 33, 0, 0, 0, []),
  (33, .aload_n 0, 1, 34, 0, 0, 0, []),
  (34, .invokevirtual 122, 3, 37, M_R_placed, 0, 0, []),
  (37, .ifCond .le 6, 3, 40, 43, 0, 0, []),
  (40, .bipush (-4), 2, 42, 0, 0, (-4), []),
  (42, .ireturn, 1, 43, 0, 0, 0, []),
  (43, .aload_n 0, 1, 44, 0, 0, 0, []),
  (44, .iload_n 1, 1, 45, 0, 0, 0, []),
  (45, .putfield 50, 3, 48, 9, 14, 0, []),
  (48, .aload_n 0, 1, 49, 0, 0, 0, []),
  (49, .iload_n 2, 1, 50, 0, 0, 0, []),
  (50, .putfield 54, 3, 53, 9, 15, 0, []),
  (53, .aload_n 0, 1, 54, 0, 0, 0, []),
  (54, .iload_n 3, 1, 55, 0, 0, 0, []),
  (55, .putfield 57, 3, 58, 9, 16, 0, []),
  (58, .iconst 1, 1, 59, 0, 0, 1, []),
  (59, .ireturn, 1, 60, 0, 0, 0, [])]
set_option maxRecDepth 100000 in
theorem kc_R_truck : k_R_truck.all (am_chk am_m100) = true := by decide +kernel
theorem q_R_truck : am_ms[M_R_truck]? = some am_m100 := rfl
def k_R_placed : List am_I := [
  (0, .iconst 0, 1, 1, 0, 0, 0, []),
  (1, .istore_n 1, 1, 2, 0, 0, 0, []),
  (2, .iconst 0, 1, 3, 0, 0, 0, []),
  (3, .istore_n 2, 1, 4, 0, 0, 0, []),
  (4, .iload_n 2, 1, 5, 0, 0, 0, []),
  (5, .aload_n 0, 1, 6, 0, 0, 0, []),
  (6, .getfield 119, 3, 9, 9, 0, 0, []),
  (9, .if_icmp .ge 26, 3, 12, 35, 0, 0, []),
  (12, .iload_n 1, 1, 13, 0, 0, 0, []),
  (13, .aload_n 0, 1, 14, 0, 0, 0, []),
  (14, .getfield 35, 3, 17, 9, 9, 0, []),
  (17, .iload_n 2, 1, 18, 0, 0, 0, []),
  (18, .baload, 1, 19, 0, 0, 0, []),
  (19, .ifCond .eq 7, 3, 22, 26, 0, 0, []),
  (22, .iconst 1, 1, 23, 0, 0, 1, []),
  (23, .goto 4, 3, 26, 27, 0, 0, []),
  (26, .iconst 0, 1, 27, 0, 0, 0, []),
  (27, .iadd, 1, 28, 0, 0, 0, []),
  (28, .istore_n 1, 1, 29, 0, 0, 0, []),
  (29, .iinc 2 1, 3, 32, 0, 0, 1, []),
  (32, .goto (-28), 3, 35, 4, 0, 0, []),
  (35, .iload_n 1, 1, 36, 0, 0, 0, []),
  (36, .ireturn, 1, 37, 0, 0, 0, [])]
set_option maxRecDepth 100000 in
theorem kc_R_placed : k_R_placed.all (am_chk am_m101) = true := by decide +kernel
theorem q_R_placed : am_ms[M_R_placed]? = some am_m101 := rfl
def k_R_share : List am_I := [
  (0, .iload_n 1, 1, 1, 0, 0, 0, []),
  (1, .iconst 0, 1, 2, 0, 0, 0, []),
  (2, .bipush 100, 2, 4, 0, 0, 100, []),
  (4, .invokestatic 115, 3, 7, M_R_in, 0, 0, []),
  (7, .ifCond .ne 6, 3, 10, 13, 0, 0, []),
  (10, .bipush (-2), 2, 12, 0, 0, (-2), []),
  (12, .ireturn, 1, 13, 0, 0, 0, []),
  (13, .aload_n 0, 1, 14, 0, 0, 0, []),
  (14, .invokevirtual 122, 3, 17, M_R_placed, 0, 0, []),
  (17, .ifCond .le 6, 3, 20, 23, 0, 0, []),
  (20, .bipush (-4), 2, 22, 0, 0, (-4), []),
  (22, .ireturn, 1, 23, 0, 0, 0, []),
  (23, .aload_n 0, 1, 24, 0, 0, 0, []),
  (24, .getfield 60, 3, 27, 9, 17, 0, []),
  (27, .istore_n 2, 1, 28, 0, 0, 0, []),
  (28, .aload_n 0, 1, 29, 0, 0, 0, []),
  (29, .iload_n 1, 1, 30, 0, 0, 0, []),
  (30, .putfield 60, 3, 33, 9, 17, 0, []),
  (33, .iload_n 2, 1, 34, 0, 0, 0, []),
  (34, .ireturn, 1, 35, 0, 0, 0, [])]
set_option maxRecDepth 100000 in
theorem kc_R_share : k_R_share.all (am_chk am_m102) = true := by decide +kernel
theorem q_R_share : am_ms[M_R_share]? = some am_m102 := rfl
def k_R_axles : List am_I := [
  (0, .iload_n 1, 1, 1, 0, 0, 0, []),
  (1, .iconst 0, 1, 2, 0, 0, 0, []),
  (2, .bipush 40, 2, 4, 0, 0, 40, []),
  (4, .invokestatic 115, 3, 7, M_R_in, 0, 0, []),
  (7, .ifCond .eq 36, 3, 10, 43, 0, 0, []),
  (10, .iload_n 2, 1, 11, 0, 0, 0, []),
  (11, .iload_n 1, 1, 12, 0, 0, 0, []),
  (12, .iconst 1, 1, 13, 0, 0, 1, []),
  (13, .iadd, 1, 14, 0, 0, 0, []),
  (14, .bipush 40, 2, 16, 0, 0, 40, []),
  (16, .invokestatic 115, 3, 19, M_R_in, 0, 0, []),
  (19, .ifCond .eq 24, 3, 22, 43, 0, 0, []),
  (22, .iload_n 3, 1, 23, 0, 0, 0, []),
  (23, .iconst 0, 1, 24, 0, 0, 0, []),
  (24, .ldc 69, 2, 26, 0, 0, 100000, []),
  (26, .invokestatic 115, 3, 29, M_R_in, 0, 0, []),
  (29, .ifCond .eq 14, 3, 32, 43, 0, 0, []),
  (32, .iload 4, 2, 34, 0, 0, 0, []),
  (34, .iconst 0, 1, 35, 0, 0, 0, []),
  (35, .ldc 69, 2, 37, 0, 0, 100000, []),
  (37, .invokestatic 115, 3, 40, M_R_in, 0, 0, []),
  (40, .ifCond .ne 6, 3, 43, 46, 0, 0, []),
  (43, .bipush (-2), 2, 45, 0, 0, (-2), []),
  (45, .ireturn, 1, 46, 0, 0, 0, []),
  (46, .aload_n 0, 1, 47, 0, 0, 0, []),
  (47, .iload_n 1, 1, 48, 0, 0, 0, []),
  (48, .putfield 63, 3, 51, 9, 18, 0, []),
  (51, .aload_n 0, 1, 52, 0, 0, 0, []),
  (52, .iload_n 2, 1, 53, 0, 0, 0, []),
  (53, .putfield 66, 3, 56, 9, 19, 0, []),
  (56, .aload_n 0, 1, 57, 0, 0, 0, []),
  (57, .iload_n 3, 1, 58, 0, 0, 0, []),
  (58, .putfield 70, 3, 61, 9, 20, 0, []),
  (61, .aload_n 0, 1, 62, 0, 0, 0, []),
  (62, .iload 4, 2, 64, 0, 0, 0, []),
  (64, .putfield 73, 3, 67, 9, 21, 0, []),
  (67, .iconst 1, 1, 68, 0, 0, 1, []),
  (68, .ireturn, 1, 69, 0, 0, 0, [])]
set_option maxRecDepth 100000 in
theorem kc_R_axles : k_R_axles.all (am_chk am_m103) = true := by decide +kernel
theorem q_R_axles : am_ms[M_R_axles]? = some am_m103 := rfl
def k_R_side : List am_I := [
  (0, .iload_n 1, 1, 1, 0, 0, 0, []),
  (1, .iconst 0, 1, 2, 0, 0, 0, []),
  (2, .bipush 100, 2, 4, 0, 0, 100, []),
  (4, .invokestatic 115, 3, 7, M_R_in, 0, 0, []),
  (7, .ifCond .ne 6, 3, 10, 13, 0, 0, []),
  (10, .bipush (-2), 2, 12, 0, 0, (-2), []),
  (12, .ireturn, 1, 13, 0, 0, 0, []),
  (13, .aload_n 0, 1, 14, 0, 0, 0, []),
  (14, .getfield 76, 3, 17, 9, 22, 0, []),
  (17, .istore_n 2, 1, 18, 0, 0, 0, []),
  (18, .aload_n 0, 1, 19, 0, 0, 0, []),
  (19, .iload_n 1, 1, 20, 0, 0, 0, []),
  (20, .putfield 76, 3, 23, 9, 22, 0, []),
  (23, .iload_n 2, 1, 24, 0, 0, 0, []),
  (24, .ireturn, 1, 25, 0, 0, 0, [])]
set_option maxRecDepth 100000 in
theorem kc_R_side : k_R_side.all (am_chk am_m104) = true := by decide +kernel
theorem q_R_side : am_ms[M_R_side]? = some am_m104 := rfl
def k_R_wrong : List am_I := [
  (0, .aload_n 0, 1, 1, 0, 0, 0, []),
  (1, .iload_n 1, 1, 2, 0, 0, 0, []),
  (2, .iload_n 2, 1, 3, 0, 0, 0, []),
  (3, .iload_n 3, 1, 4, 0, 0, 0, []),
  (4, .iload 4, 2, 6, 0, 0, 0, []),
  (6, .iload 5, 2, 8, 0, 0, 0, []),
  (8, .invokevirtual 158, 3, 11, M_R_asked, 0, 0, []),
  (11, .istore 6, 2, 13, 0, 0, 0, []),
  (13, .iload 6, 2, 15, 0, 0, 0, []),
  (15, .ifCond .eq 8, 3, 18, 23, 0, 0, []),
  (18, .iload 6, 2, 20, 0, 0, 0, []),
  (20, .goto 14, 3, 23, 34, 0, 0, []),
  (23, .aload_n 0, 1, 24, 0, 0, 0, []),
  (24, .iload_n 1, 1, 25, 0, 0, 0, []),
  (25, .iload_n 2, 1, 26, 0, 0, 0, []),
  (26, .iload_n 3, 1, 27, 0, 0, 0, []),
  (27, .iload 4, 2, 29, 0, 0, 0, []),
  (29, .iload 5, 2, 31, 0, 0, 0, []),
  (31, .invokevirtual 162, 3, 34, M_R_wrongAt, 0, 0, []),
  (34, .ireturn, 1, 35, 0, 0, 0, [])]
set_option maxRecDepth 100000 in
theorem kc_R_wrong : k_R_wrong.all (am_chk am_m105) = true := by decide +kernel
theorem q_R_wrong : am_ms[M_R_wrong]? = some am_m105 := rfl
def k_R_asked : List am_I := [
  (0, .aload_n 0, 1, 1, 0, 0, 0, []),
  (1, .iload_n 1, 1, 2, 0, 0, 0, []),
  (2, .invokevirtual 154, 3, 5, M_R_isBox, 0, 0, []),
  (5, .ifCond .eq 48, 3, 8, 53, 0, 0, []),
  (8, .iload_n 2, 1, 9, 0, 0, 0, []),
  (9, .iconst 0, 1, 10, 0, 0, 0, []),
  (10, .bipush 40, 2, 12, 0, 0, 40, []),
  (12, .invokestatic 115, 3, 15, M_R_in, 0, 0, []),
  (15, .ifCond .eq 38, 3, 18, 53, 0, 0, []),
  (18, .iload_n 3, 1, 19, 0, 0, 0, []),
  (19, .iconst 0, 1, 20, 0, 0, 0, []),
  (20, .bipush 40, 2, 22, 0, 0, 40, []),
  (22, .invokestatic 115, 3, 25, M_R_in, 0, 0, []),
  (25, .ifCond .eq 28, 3, 28, 53, 0, 0, []),
  (28, .iload 4, 2, 30, 0, 0, 0, []),
  (30, .iconst 0, 1, 31, 0, 0, 0, []),
  (31, .bipush 40, 2, 33, 0, 0, 40, []),
  (33, .invokestatic 115, 3, 36, M_R_in, 0, 0, []),
  (36, .ifCond .eq 17, 3, 39, 53, 0, 0, []),
  (39, .iload 5, 2, 41, 0, 0, 0, []),
  (41, .ifCond .eq 15, 3, 44, 56, 0, 0, []),
  (44, .aload_n 0, 1, 45, 0, 0, 0, []),
  (45, .getfield 28, 3, 48, 9, 7, 0, []),
  (48, .iload_n 1, 1, 49, 0, 0, 0, []),
  (49, .baload, 1, 50, 0, 0, 0, []),
  (50, .ifCond .ne 6, 3, 53, 56, 0, 0, []),
  (53, .bipush (-2), 2, 55, 0, 0, (-2), []),
  (55, .ireturn, 1, 56, 0, 0, 0, []),
  (56, .aload_n 0, 1, 57, 0, 0, 0, []),
  (57, .getfield 35, 3, 60, 9, 9, 0, []),
  (60, .iload_n 1, 1, 61, 0, 0, 0, []),
  (61, .baload, 1, 62, 0, 0, 0, []),
  (62, .ifCond .eq 8, 3, 65, 70, 0, 0, []),
  (65, .bipush (-4), 2, 67, 0, 0, (-4), []),
  (67, .goto 4, 3, 70, 71, 0, 0, []),
  (70, .iconst 0, 1, 71, 0, 0, 0, []),
  (71, .ireturn, 1, 72, 0, 0, 0, [])]
set_option maxRecDepth 100000 in
theorem kc_R_asked : k_R_asked.all (am_chk am_m106) = true := by decide +kernel
theorem q_R_asked : am_ms[M_R_asked]? = some am_m106 := rfl
def k_R_isBox : List am_I := [
  (0, .iload_n 1, 1, 1, 0, 0, 0, []),
  (1, .iconst 0, 1, 2, 0, 0, 0, []),
  (2, .aload_n 0, 1, 3, 0, 0, 0, []),
  (3, .getfield 119, 3, 6, 9, 0, 0, []),
  (6, .iconst 1, 1, 7, 0, 0, 1, []),
  (7, .isub, 1, 8, 0, 0, 0, []),
  (8, .invokestatic 115, 3, 11, M_R_in, 0, 0, []),
  (11, .ireturn, 1, 12, 0, 0, 0, [])]
set_option maxRecDepth 100000 in
theorem kc_R_isBox : k_R_isBox.all (am_chk am_m107) = true := by decide +kernel
theorem q_R_isBox : am_ms[M_R_isBox]? = some am_m107 := rfl
def k_R_wrongAt : List am_I := [
  (0, .aload_n 0, 1, 1, 0, 0, 0, []),
  (1, .getfield 38, 3, 4, 9, 10, 0, []),
  (4, .iload_n 1, 1, 5, 0, 0, 0, []),
  (5, .iload_n 2, 1, 6, 0, 0, 0, []),
  (6, .iastore, 1, 7, 0, 0, 0, []),
  (7, .aload_n 0, 1, 8, 0, 0, 0, []),
  (8, .getfield 41, 3, 11, 9, 11, 0, []),
  (11, .iload_n 1, 1, 12, 0, 0, 0, []),
  (12, .iload_n 3, 1, 13, 0, 0, 0, []),
  (13, .iastore, 1, 14, 0, 0, 0, []),
  (14, .aload_n 0, 1, 15, 0, 0, 0, []),
  (15, .getfield 44, 3, 18, 9, 12, 0, []),
  (18, .iload_n 1, 1, 19, 0, 0, 0, []),
  (19, .iload 4, 2, 21, 0, 0, 0, []),
  (21, .iastore, 1, 22, 0, 0, 0, []),
  (22, .aload_n 0, 1, 23, 0, 0, 0, []),
  (23, .getfield 47, 3, 26, 9, 13, 0, []),
  (26, .iload_n 1, 1, 27, 0, 0, 0, []),
  (27, .iload 5, 2, 29, 0, 0, 0, []),
  (29, .bastore, 1, 30, 0, 0, 0, []),
  (30, .iload_n 2, 1, 31, 0, 0, 0, []),
  (31, .aload_n 0, 1, 32, 0, 0, 0, []),
  (32, .iload_n 1, 1, 33, 0, 0, 0, []),
  (33, .invokevirtual 126, 3, 36, M_R_longOf, 0, 0, []),
  (36, .iadd, 1, 37, 0, 0, 0, []),
  (37, .aload_n 0, 1, 38, 0, 0, 0, []),
  (38, .getfield 50, 3, 41, 9, 14, 0, []),
  (41, .if_icmp .gt 33, 3, 44, 74, 0, 0, []),
  (44, .iload_n 3, 1, 45, 0, 0, 0, []),
  (45, .aload_n 0, 1, 46, 0, 0, 0, []),
  (46, .iload_n 1, 1, 47, 0, 0, 0, []),
  (47, .invokevirtual 134, 3, 50, M_R_wideOf, 0, 0, []),
  (50, .iadd, 1, 51, 0, 0, 0, []),
  (51, .aload_n 0, 1, 52, 0, 0, 0, []),
  (52, .getfield 54, 3, 55, 9, 15, 0, []),
  (55, .if_icmp .gt 19, 3, 58, 74, 0, 0, []),
  (58, .iload 4, 2, 60, 0, 0, 0, []),
  (60, .aload_n 0, 1, 61, 0, 0, 0, []),
  (61, .getfield 16, 3, 64, 9, 3, 0, []),
  (64, .iload_n 1, 1, 65, 0, 0, 0, []),
  (65, .iaload, 1, 66, 0, 0, 0, []),
  (66, .iadd, 1, 67, 0, 0, 0, []),
  (67, .aload_n 0, 1, 68, 0, 0, 0, []),
  (68, .getfield 57, 3, 71, 9, 16, 0, []),
  (71, .if_icmp .le 7, 3, 74, 78, 0, 0, []),
  (74, .iconst 1, 1, 75, 0, 0, 1, []),
  (75, .goto 4, 3, 78, 79, 0, 0, []),
  (78, .iconst 0, 1, 79, 0, 0, 0, []),
  (79, .istore 6, 2, 81, 0, 0, 0, []),
  (81, .iconst 0, 1, 82, 0, 0, 0, []),
  (82, .istore 7, 2, 84, 0, 0, 0, []),
  (84, .iload 7, 2, 86, 0, 0, 0, []),
  (86, .aload_n 0, 1, 87, 0, 0, 0, []),
  (87, .getfield 119, 3, 90, 9, 0, 0, []),
  (90, .if_icmp .ge 63, 3, 93, 153, 0, 0, []),
  (93, .aload_n 0, 1, 94, 0, 0, 0, []),
  (94, .getfield 35, 3, 97, 9, 9, 0, []),
  (97, .iload 7, 2, 99, 0, 0, 0, []),
  (99, .baload, 1, 100, 0, 0, 0, []),
  (100, .ifCond .eq 47, 3, 103, 147, 0, 0, []),
  (103, .aload_n 0, 1, 104, 0, 0, 0, []),
  (104, .iload_n 1, 1, 105, 0, 0, 0, []),
  (105, .iload 7, 2, 107, 0, 0, 0, []),
  (107, .invokevirtual 140, 3, 110, M_R_area, 0, 0, []),
  (110, .ifCond .le 37, 3, 113, 147, 0, 0, []),
  (113, .iload 4, 2, 115, 0, 0, 0, []),
  (115, .aload_n 0, 1, 116, 0, 0, 0, []),
  (116, .getfield 16, 3, 119, 9, 3, 0, []),
  (119, .iload_n 1, 1, 120, 0, 0, 0, []),
  (120, .iaload, 1, 121, 0, 0, 0, []),
  (121, .aload_n 0, 1, 122, 0, 0, 0, []),
  (122, .getfield 44, 3, 125, 9, 12, 0, []),
  (125, .iload 7, 2, 127, 0, 0, 0, []),
  (127, .iaload, 1, 128, 0, 0, 0, []),
  (128, .aload_n 0, 1, 129, 0, 0, 0, []),
  (129, .getfield 16, 3, 132, 9, 3, 0, []),
  (132, .iload 7, 2, 134, 0, 0, 0, []),
  (134, .iaload, 1, 135, 0, 0, 0, []),
  (135, .invokestatic 130, 3, 138, M_R_common, 0, 0, []),
  (138, .ifCond .le 9, 3, 141, 147, 0, 0, []),
  (141, .iload 6, 2, 143, 0, 0, 0, []),
  (143, .iconst 2, 1, 144, 0, 0, 2, []),
  (144, .ior, 1, 145, 0, 0, 0, []),
  (145, .istore 6, 2, 147, 0, 0, 0, []),
  (147, .iinc 7 1, 3, 150, 0, 0, 1, []),
  (150, .goto (-66), 3, 153, 84, 0, 0, []),
  (153, .iload 6, 2, 155, 0, 0, 0, []),
  (155, .ifCond .eq 6, 3, 158, 161, 0, 0, []),
  (158, .iload 6, 2, 160, 0, 0, 0, []),
  (160, .ireturn, 1, 161, 0, 0, 0, []),
  (161, .iconst 0, 1, 162, 0, 0, 0, []),
  (162, .istore 7, 2, 164, 0, 0, 0, []),
  (164, .iconst 0, 1, 165, 0, 0, 0, []),
  (165, .istore 8, 2, 167, 0, 0, 0, []),
  (167, .iload 8, 2, 169, 0, 0, 0, []),
  (169, .aload_n 0, 1, 170, 0, 0, 0, []),
  (170, .getfield 119, 3, 173, 9, 0, 0, []),
  (173, .if_icmp .ge 21, 3, 176, 194, 0, 0, []),
  (176, .iload 7, 2, 178, 0, 0, 0, []),
  (178, .aload_n 0, 1, 179, 0, 0, 0, []),
  (179, .iload_n 1, 1, 180, 0, 0, 0, []),
  (180, .iload 8, 2, 182, 0, 0, 0, []),
  (182, .invokevirtual 144, 3, 185, M_R_stands, 0, 0, []),
  (185, .iadd, 1, 186, 0, 0, 0, []),
  (186, .istore 7, 2, 188, 0, 0, 0, []),
  (188, .iinc 8 1, 3, 191, 0, 0, 1, []),
  (191, .goto (-24), 3, 194, 167, 0, 0, []),
  (194, .iload 4, 2, 196, 0, 0, 0, []),
  (196, .ifCond .le 33, 3, 199, 229, 0, 0, []),
  (199, .bipush 100, 2, 201, 0, 0, 100, []),
  (201, .iload 7, 2, 203, 0, 0, 0, []),
  (203, .imul, 1, 204, 0, 0, 0, []),
  (204, .aload_n 0, 1, 205, 0, 0, 0, []),
  (205, .getfield 60, 3, 208, 9, 17, 0, []),
  (208, .aload_n 0, 1, 209, 0, 0, 0, []),
  (209, .iload_n 1, 1, 210, 0, 0, 0, []),
  (210, .invokevirtual 126, 3, 213, M_R_longOf, 0, 0, []),
  (213, .imul, 1, 214, 0, 0, 0, []),
  (214, .aload_n 0, 1, 215, 0, 0, 0, []),
  (215, .iload_n 1, 1, 216, 0, 0, 0, []),
  (216, .invokevirtual 134, 3, 219, M_R_wideOf, 0, 0, []),
  (219, .imul, 1, 220, 0, 0, 0, []),
  (220, .if_icmp .ge 9, 3, 223, 229, 0, 0, []),
  (223, .iload 6, 2, 225, 0, 0, 0, []),
  (225, .iconst 4, 1, 226, 0, 0, 4, []),
  (226, .ior, 1, 227, 0, 0, 0, []),
  (227, .istore 6, 2, 229, 0, 0, 0, []),
  (229, .iconst 0, 1, 230, 0, 0, 0, []),
  (230, .istore 8, 2, 232, 0, 0, 0, []),
  (232, .iload 8, 2, 234, 0, 0, 0, []),
  (234, .aload_n 0, 1, 235, 0, 0, 0, []),
  (235, .getfield 119, 3, 238, 9, 0, 0, []),
  (238, .if_icmp .ge 36, 3, 241, 274, 0, 0, []),
  (241, .aload_n 0, 1, 242, 0, 0, 0, []),
  (242, .getfield 35, 3, 245, 9, 9, 0, []),
  (245, .iload 8, 2, 247, 0, 0, 0, []),
  (247, .baload, 1, 248, 0, 0, 0, []),
  (248, .ifCond .eq 20, 3, 251, 268, 0, 0, []),
  (251, .aload_n 0, 1, 252, 0, 0, 0, []),
  (252, .iload_n 1, 1, 253, 0, 0, 0, []),
  (253, .iload 8, 2, 255, 0, 0, 0, []),
  (255, .invokevirtual 147, 3, 258, M_R_isInWay, 0, 0, []),
  (258, .ifCond .eq 10, 3, 261, 268, 0, 0, []),
  (261, .iload 6, 2, 263, 0, 0, 0, []),
  (263, .bipush 16, 2, 265, 0, 0, 16, []),
  (265, .ior, 1, 266, 0, 0, 0, []),
  (266, .istore 6, 2, 268, 0, 0, 0, []),
  (268, .iinc 8 1, 3, 271, 0, 0, 1, []),
  (271, .goto (-39), 3, 274, 232, 0, 0, []),
  (274, .iload 6, 2, 276, 0, 0, 0, []),
  (276, .iconst 4, 1, 277, 0, 0, 4, []),
  (277, .iand, 1, 278, 0, 0, 0, []),
  (278, .ifCond .eq 6, 3, 281, 284, 0, 0, []),
  (281, .iload 6, 2, 283, 0, 0, 0, []),
  (283, .ireturn, 1, 284, 0, 0, 0, []),
  (284, .aload_n 0, 1, 285, 0, 0, 0, []),
  (285, .getfield 35, 3, 288, 9, 9, 0, []),
  (288, .iload_n 1, 1, 289, 0, 0, 0, []),
  (289, .iconst 1, 1, 290, 0, 0, 1, []),
  (290, .bastore, 1, 291, 0, 0, 0, []),
  (291, .aload_n 0, 1, 292, 0, 0, 0, []),
  (292, .invokevirtual 151, 3, 295, M_R_makeLoads, 0, 0, []),
  (295, .aload_n 0, 1, 296, 0, 0, 0, []),
  (296, .getfield 35, 3, 299, 9, 9, 0, []),
  (299, .iload_n 1, 1, 300, 0, 0, 0, []),
  (300, .iconst 0, 1, 301, 0, 0, 0, []),
  (301, .bastore, 1, 302, 0, 0, 0, []),
  (302, .aload_n 0, 1, 303, 0, 0, 0, []),
  (303, .getfield 79, 3, 306, 9, 23, 0, []),
  (306, .iload_n 1, 1, 307, 0, 0, 0, []),
  (307, .iaload, 1, 308, 0, 0, 0, []),
  (308, .aload_n 0, 1, 309, 0, 0, 0, []),
  (309, .getfield 22, 3, 312, 9, 5, 0, []),
  (312, .iload_n 1, 1, 313, 0, 0, 0, []),
  (313, .iaload, 1, 314, 0, 0, 0, []),
  (314, .if_icmp .le 7, 3, 317, 321, 0, 0, []),
  (317, .iconst 1, 1, 318, 0, 0, 1, []),
  (318, .goto 4, 3, 321, 322, 0, 0, []),
  (321, .iconst 0, 1, 322, 0, 0, 0, []),
  (322, .istore 8, 2, 324, 0, 0, 0, []),
  (324, .iconst 0, 1, 325, 0, 0, 0, []),
  (325, .istore 9, 2, 327, 0, 0, 0, []),
  (327, .iload 9, 2, 329, 0, 0, 0, []),
  (329, .aload_n 0, 1, 330, 0, 0, 0, []),
  (330, .getfield 119, 3, 333, 9, 0, 0, []),
  (333, .if_icmp .ge 48, 3, 336, 381, 0, 0, []),
  (336, .iload 8, 2, 338, 0, 0, 0, []),
  (338, .ifCond .ne 30, 3, 341, 368, 0, 0, []),
  (341, .aload_n 0, 1, 342, 0, 0, 0, []),
  (342, .getfield 35, 3, 345, 9, 9, 0, []),
  (345, .iload 9, 2, 347, 0, 0, 0, []),
  (347, .baload, 1, 348, 0, 0, 0, []),
  (348, .ifCond .eq 24, 3, 351, 372, 0, 0, []),
  (351, .aload_n 0, 1, 352, 0, 0, 0, []),
  (352, .getfield 79, 3, 355, 9, 23, 0, []),
  (355, .iload 9, 2, 357, 0, 0, 0, []),
  (357, .iaload, 1, 358, 0, 0, 0, []),
  (358, .aload_n 0, 1, 359, 0, 0, 0, []),
  (359, .getfield 22, 3, 362, 9, 5, 0, []),
  (362, .iload 9, 2, 364, 0, 0, 0, []),
  (364, .iaload, 1, 365, 0, 0, 0, []),
  (365, .if_icmp .le 7, 3, 368, 372, 0, 0, []),
  (368, .iconst 1, 1, 369, 0, 0, 1, []),
  (369, .goto 4, 3, 372, 373, 0, 0, []),
  (372, .iconst 0, 1, 373, 0, 0, 0, []),
  (373, .istore 8, 2, 375, 0, 0, 0, []),
  (375, .iinc 9 1, 3, 378, 0, 0, 1, []),
  (378, .goto (-51), 3, 381, 327, 0, 0, []),
  (381, .iload 8, 2, 383, 0, 0, 0, []),
  (383, .ifCond .eq 11, 3, 386, 394, 0, 0, []),
  (386, .iload 6, 2, 388, 0, 0, 0, []),
  (388, .bipush 8, 2, 390, 0, 0, 8, []),
  (390, .ior, 1, 391, 0, 0, 0, []),
  (391, .goto 5, 3, 394, 396, 0, 0, []),
  (394, .iload 6, 2, 396, 0, 0, 0, []),
  (396, .ireturn, 1, 397, 0, 0, 0, [])]
set_option maxRecDepth 100000 in
theorem kc_R_wrongAt : k_R_wrongAt.all (am_chk am_m108) = true := by decide +kernel
theorem q_R_wrongAt : am_ms[M_R_wrongAt]? = some am_m108 := rfl
def k_R_longOf : List am_I := [
  (0, .aload_n 0, 1, 1, 0, 0, 0, []),
  (1, .getfield 47, 3, 4, 9, 13, 0, []),
  (4, .iload_n 1, 1, 5, 0, 0, 0, []),
  (5, .baload, 1, 6, 0, 0, 0, []),
  (6, .ifCond .eq 12, 3, 9, 18, 0, 0, []),
  (9, .aload_n 0, 1, 10, 0, 0, 0, []),
  (10, .getfield 13, 3, 13, 9, 2, 0, []),
  (13, .iload_n 1, 1, 14, 0, 0, 0, []),
  (14, .iaload, 1, 15, 0, 0, 0, []),
  (15, .goto 9, 3, 18, 24, 0, 0, []),
  (18, .aload_n 0, 1, 19, 0, 0, 0, []),
  (19, .getfield 7, 3, 22, 9, 1, 0, []),
  (22, .iload_n 1, 1, 23, 0, 0, 0, []),
  (23, .iaload, 1, 24, 0, 0, 0, []),
  (24, .ireturn, 1, 25, 0, 0, 0, [])]
set_option maxRecDepth 100000 in
theorem kc_R_longOf : k_R_longOf.all (am_chk am_m109) = true := by decide +kernel
theorem q_R_longOf : am_ms[M_R_longOf]? = some am_m109 := rfl
def k_R_wideOf : List am_I := [
  (0, .aload_n 0, 1, 1, 0, 0, 0, []),
  (1, .getfield 47, 3, 4, 9, 13, 0, []),
  (4, .iload_n 1, 1, 5, 0, 0, 0, []),
  (5, .baload, 1, 6, 0, 0, 0, []),
  (6, .ifCond .eq 12, 3, 9, 18, 0, 0, []),
  (9, .aload_n 0, 1, 10, 0, 0, 0, []),
  (10, .getfield 7, 3, 13, 9, 1, 0, []),
  (13, .iload_n 1, 1, 14, 0, 0, 0, []),
  (14, .iaload, 1, 15, 0, 0, 0, []),
  (15, .goto 9, 3, 18, 24, 0, 0, []),
  (18, .aload_n 0, 1, 19, 0, 0, 0, []),
  (19, .getfield 13, 3, 22, 9, 2, 0, []),
  (22, .iload_n 1, 1, 23, 0, 0, 0, []),
  (23, .iaload, 1, 24, 0, 0, 0, []),
  (24, .ireturn, 1, 25, 0, 0, 0, [])]
set_option maxRecDepth 100000 in
theorem kc_R_wideOf : k_R_wideOf.all (am_chk am_m110) = true := by decide +kernel
theorem q_R_wideOf : am_ms[M_R_wideOf]? = some am_m110 := rfl
def k_R_area : List am_I := [
  (0, .aload_n 0, 1, 1, 0, 0, 0, []),
  (1, .getfield 38, 3, 4, 9, 10, 0, []),
  (4, .iload_n 1, 1, 5, 0, 0, 0, []),
  (5, .iaload, 1, 6, 0, 0, 0, []),
  (6, .aload_n 0, 1, 7, 0, 0, 0, []),
  (7, .iload_n 1, 1, 8, 0, 0, 0, []),
  (8, .invokevirtual 126, 3, 11, M_R_longOf, 0, 0, []),
  (11, .aload_n 0, 1, 12, 0, 0, 0, []),
  (12, .getfield 38, 3, 15, 9, 10, 0, []),
  (15, .iload_n 2, 1, 16, 0, 0, 0, []),
  (16, .iaload, 1, 17, 0, 0, 0, []),
  (17, .aload_n 0, 1, 18, 0, 0, 0, []),
  (18, .iload_n 2, 1, 19, 0, 0, 0, []),
  (19, .invokevirtual 126, 3, 22, M_R_longOf, 0, 0, []),
  (22, .invokestatic 130, 3, 25, M_R_common, 0, 0, []),
  (25, .aload_n 0, 1, 26, 0, 0, 0, []),
  (26, .getfield 41, 3, 29, 9, 11, 0, []),
  (29, .iload_n 1, 1, 30, 0, 0, 0, []),
  (30, .iaload, 1, 31, 0, 0, 0, []),
  (31, .aload_n 0, 1, 32, 0, 0, 0, []),
  (32, .iload_n 1, 1, 33, 0, 0, 0, []),
  (33, .invokevirtual 134, 3, 36, M_R_wideOf, 0, 0, []),
  (36, .aload_n 0, 1, 37, 0, 0, 0, []),
  (37, .getfield 41, 3, 40, 9, 11, 0, []),
  (40, .iload_n 2, 1, 41, 0, 0, 0, []),
  (41, .iaload, 1, 42, 0, 0, 0, []),
  (42, .aload_n 0, 1, 43, 0, 0, 0, []),
  (43, .iload_n 2, 1, 44, 0, 0, 0, []),
  (44, .invokevirtual 134, 3, 47, M_R_wideOf, 0, 0, []),
  (47, .invokestatic 130, 3, 50, M_R_common, 0, 0, []),
  (50, .imul, 1, 51, 0, 0, 0, []),
  (51, .ireturn, 1, 52, 0, 0, 0, [])]
set_option maxRecDepth 100000 in
theorem kc_R_area : k_R_area.all (am_chk am_m111) = true := by decide +kernel
theorem q_R_area : am_ms[M_R_area]? = some am_m111 := rfl
def k_R_common : List am_I := [
  (0, .iload_n 0, 1, 1, 0, 0, 0, []),
  (1, .iload_n 2, 1, 2, 0, 0, 0, []),
  (2, .if_icmp .le 7, 3, 5, 9, 0, 0, []),
  (5, .iload_n 0, 1, 6, 0, 0, 0, []),
  (6, .goto 4, 3, 9, 10, 0, 0, []),
  (9, .iload_n 2, 1, 10, 0, 0, 0, []),
  (10, .istore 4, 2, 12, 0, 0, 0, []),
  (12, .iload_n 0, 1, 13, 0, 0, 0, []),
  (13, .iload_n 1, 1, 14, 0, 0, 0, []),
  (14, .iadd, 1, 15, 0, 0, 0, []),
  (15, .iload_n 2, 1, 16, 0, 0, 0, []),
  (16, .iload_n 3, 1, 17, 0, 0, 0, []),
  (17, .iadd, 1, 18, 0, 0, 0, []),
  (18, .if_icmp .ge 9, 3, 21, 27, 0, 0, []),
  (21, .iload_n 0, 1, 22, 0, 0, 0, []),
  (22, .iload_n 1, 1, 23, 0, 0, 0, []),
  (23, .iadd, 1, 24, 0, 0, 0, []),
  (24, .goto 6, 3, 27, 30, 0, 0, []),
  (27, .iload_n 2, 1, 28, 0, 0, 0, []),
  (28, .iload_n 3, 1, 29, 0, 0, 0, []),
  (29, .iadd, 1, 30, 0, 0, 0, []),
  (30, .istore 5, 2, 32, 0, 0, 0, []),
  (32, .iload 5, 2, 34, 0, 0, 0, []),
  (34, .iload 4, 2, 36, 0, 0, 0, []),
  (36, .if_icmp .le 11, 3, 39, 47, 0, 0, []),
  (39, .iload 5, 2, 41, 0, 0, 0, []),
  (41, .iload 4, 2, 43, 0, 0, 0, []),
  (43, .isub, 1, 44, 0, 0, 0, []),
  (44, .goto 4, 3, 47, 48, 0, 0, []),
  (47, .iconst 0, 1, 48, 0, 0, 0, []),
  (48, .ireturn, 1, 49, 0, 0, 0, [])]
set_option maxRecDepth 100000 in
theorem kc_R_common : k_R_common.all (am_chk am_m112) = true := by decide +kernel
theorem q_R_common : am_ms[M_R_common]? = some am_m112 := rfl
def k_R_stands : List am_I := [
  (0, .iload_n 1, 1, 1, 0, 0, 0, []),
  (1, .iload_n 2, 1, 2, 0, 0, 0, []),
  (2, .if_icmp .eq 35, 3, 5, 37, 0, 0, []),
  (5, .aload_n 0, 1, 6, 0, 0, 0, []),
  (6, .getfield 35, 3, 9, 9, 9, 0, []),
  (9, .iload_n 2, 1, 10, 0, 0, 0, []),
  (10, .baload, 1, 11, 0, 0, 0, []),
  (11, .ifCond .eq 26, 3, 14, 37, 0, 0, []),
  (14, .aload_n 0, 1, 15, 0, 0, 0, []),
  (15, .iload_n 2, 1, 16, 0, 0, 0, []),
  (16, .invokevirtual 137, 3, 19, M_R_topOf, 0, 0, []),
  (19, .aload_n 0, 1, 20, 0, 0, 0, []),
  (20, .getfield 44, 3, 23, 9, 12, 0, []),
  (23, .iload_n 1, 1, 24, 0, 0, 0, []),
  (24, .iaload, 1, 25, 0, 0, 0, []),
  (25, .if_icmp .ne 12, 3, 28, 37, 0, 0, []),
  (28, .aload_n 0, 1, 29, 0, 0, 0, []),
  (29, .iload_n 1, 1, 30, 0, 0, 0, []),
  (30, .iload_n 2, 1, 31, 0, 0, 0, []),
  (31, .invokevirtual 140, 3, 34, M_R_area, 0, 0, []),
  (34, .goto 4, 3, 37, 38, 0, 0, []),
  (37, .iconst 0, 1, 38, 0, 0, 0, []),
  (38, .ireturn, 1, 39, 0, 0, 0, [])]
set_option maxRecDepth 100000 in
theorem kc_R_stands : k_R_stands.all (am_chk am_m113) = true := by decide +kernel
theorem q_R_stands : am_ms[M_R_stands]? = some am_m113 := rfl
def k_R_topOf : List am_I := [
  (0, .aload_n 0, 1, 1, 0, 0, 0, []),
  (1, .getfield 44, 3, 4, 9, 12, 0, []),
  (4, .iload_n 1, 1, 5, 0, 0, 0, []),
  (5, .iaload, 1, 6, 0, 0, 0, []),
  (6, .aload_n 0, 1, 7, 0, 0, 0, []),
  (7, .getfield 16, 3, 10, 9, 3, 0, []),
  (10, .iload_n 1, 1, 11, 0, 0, 0, []),
  (11, .iaload, 1, 12, 0, 0, 0, []),
  (12, .iadd, 1, 13, 0, 0, 0, []),
  (13, .ireturn, 1, 14, 0, 0, 0, [])]
set_option maxRecDepth 100000 in
theorem kc_R_topOf : k_R_topOf.all (am_chk am_m114) = true := by decide +kernel
theorem q_R_topOf : am_ms[M_R_topOf]? = some am_m114 := rfl
def k_R_isInWay : List am_I := [
  (0, .aload_n 0, 1, 1, 0, 0, 0, []),
  (1, .getfield 25, 3, 4, 9, 6, 0, []),
  (4, .iload_n 1, 1, 5, 0, 0, 0, []),
  (5, .iaload, 1, 6, 0, 0, 0, []),
  (6, .aload_n 0, 1, 7, 0, 0, 0, []),
  (7, .getfield 25, 3, 10, 9, 6, 0, []),
  (10, .iload_n 2, 1, 11, 0, 0, 0, []),
  (11, .iaload, 1, 12, 0, 0, 0, []),
  (12, .if_icmp .ne 5, 3, 15, 17, 0, 0, []),
  (15, .iconst 0, 1, 16, 0, 0, 0, []),
  (16, .ireturn, 1, 17, 0, 0, 0, []),
  (17, .aload_n 0, 1, 18, 0, 0, 0, []),
  (18, .getfield 25, 3, 21, 9, 6, 0, []),
  (21, .iload_n 1, 1, 22, 0, 0, 0, []),
  (22, .iaload, 1, 23, 0, 0, 0, []),
  (23, .aload_n 0, 1, 24, 0, 0, 0, []),
  (24, .getfield 25, 3, 27, 9, 6, 0, []),
  (27, .iload_n 2, 1, 28, 0, 0, 0, []),
  (28, .iaload, 1, 29, 0, 0, 0, []),
  (29, .if_icmp .le 7, 3, 32, 36, 0, 0, []),
  (32, .iload_n 1, 1, 33, 0, 0, 0, []),
  (33, .goto 4, 3, 36, 37, 0, 0, []),
  (36, .iload_n 2, 1, 37, 0, 0, 0, []),
  (37, .istore_n 3, 1, 38, 0, 0, 0, []),
  (38, .iload_n 3, 1, 39, 0, 0, 0, []),
  (39, .iload_n 1, 1, 40, 0, 0, 0, []),
  (40, .if_icmp .ne 7, 3, 43, 47, 0, 0, []),
  (43, .iload_n 2, 1, 44, 0, 0, 0, []),
  (44, .goto 4, 3, 47, 48, 0, 0, []),
  (47, .iload_n 1, 1, 48, 0, 0, 0, []),
  (48, .istore 4, 2, 50, 0, 0, 0, []),
  (50, .aload_n 0, 1, 51, 0, 0, 0, []),
  (51, .getfield 41, 3, 54, 9, 11, 0, []),
  (54, .iload_n 1, 1, 55, 0, 0, 0, []),
  (55, .iaload, 1, 56, 0, 0, 0, []),
  (56, .aload_n 0, 1, 57, 0, 0, 0, []),
  (57, .iload_n 1, 1, 58, 0, 0, 0, []),
  (58, .invokevirtual 134, 3, 61, M_R_wideOf, 0, 0, []),
  (61, .aload_n 0, 1, 62, 0, 0, 0, []),
  (62, .getfield 41, 3, 65, 9, 11, 0, []),
  (65, .iload_n 2, 1, 66, 0, 0, 0, []),
  (66, .iaload, 1, 67, 0, 0, 0, []),
  (67, .aload_n 0, 1, 68, 0, 0, 0, []),
  (68, .iload_n 2, 1, 69, 0, 0, 0, []),
  (69, .invokevirtual 134, 3, 72, M_R_wideOf, 0, 0, []),
  (72, .invokestatic 130, 3, 75, M_R_common, 0, 0, []),
  (75, .ifCond .le 7, 3, 78, 82, 0, 0, []),
  (78, .iconst 1, 1, 79, 0, 0, 1, []),
  (79, .goto 4, 3, 82, 83, 0, 0, []),
  (82, .iconst 0, 1, 83, 0, 0, 0, []),
  (83, .istore 5, 2, 85, 0, 0, 0, []),
  (85, .aload_n 0, 1, 86, 0, 0, 0, []),
  (86, .getfield 44, 3, 89, 9, 12, 0, []),
  (89, .iload_n 1, 1, 90, 0, 0, 0, []),
  (90, .iaload, 1, 91, 0, 0, 0, []),
  (91, .aload_n 0, 1, 92, 0, 0, 0, []),
  (92, .getfield 16, 3, 95, 9, 3, 0, []),
  (95, .iload_n 1, 1, 96, 0, 0, 0, []),
  (96, .iaload, 1, 97, 0, 0, 0, []),
  (97, .aload_n 0, 1, 98, 0, 0, 0, []),
  (98, .getfield 44, 3, 101, 9, 12, 0, []),
  (101, .iload_n 2, 1, 102, 0, 0, 0, []),
  (102, .iaload, 1, 103, 0, 0, 0, []),
  (103, .aload_n 0, 1, 104, 0, 0, 0, []),
  (104, .getfield 16, 3, 107, 9, 3, 0, []),
  (107, .iload_n 2, 1, 108, 0, 0, 0, []),
  (108, .iaload, 1, 109, 0, 0, 0, []),
  (109, .invokestatic 130, 3, 112, M_R_common, 0, 0, []),
  (112, .ifCond .le 7, 3, 115, 119, 0, 0, []),
  (115, .iconst 1, 1, 116, 0, 0, 1, []),
  (116, .goto 4, 3, 119, 120, 0, 0, []),
  (119, .iconst 0, 1, 120, 0, 0, 0, []),
  (120, .istore 6, 2, 122, 0, 0, 0, []),
  (122, .aload_n 0, 1, 123, 0, 0, 0, []),
  (123, .getfield 38, 3, 126, 9, 10, 0, []),
  (126, .iload_n 3, 1, 127, 0, 0, 0, []),
  (127, .iaload, 1, 128, 0, 0, 0, []),
  (128, .aload_n 0, 1, 129, 0, 0, 0, []),
  (129, .getfield 38, 3, 132, 9, 10, 0, []),
  (132, .iload 4, 2, 134, 0, 0, 0, []),
  (134, .iaload, 1, 135, 0, 0, 0, []),
  (135, .aload_n 0, 1, 136, 0, 0, 0, []),
  (136, .iload 4, 2, 138, 0, 0, 0, []),
  (138, .invokevirtual 126, 3, 141, M_R_longOf, 0, 0, []),
  (141, .iadd, 1, 142, 0, 0, 0, []),
  (142, .if_icmp .lt 15, 3, 145, 157, 0, 0, []),
  (145, .iload 5, 2, 147, 0, 0, 0, []),
  (147, .ifCond .eq 10, 3, 150, 157, 0, 0, []),
  (150, .iload 6, 2, 152, 0, 0, 0, []),
  (152, .ifCond .eq 5, 3, 155, 157, 0, 0, []),
  (155, .iconst 1, 1, 156, 0, 0, 1, []),
  (156, .ireturn, 1, 157, 0, 0, 0, []),
  (157, .aload_n 0, 1, 158, 0, 0, 0, []),
  (158, .getfield 44, 3, 161, 9, 12, 0, []),
  (161, .iload_n 3, 1, 162, 0, 0, 0, []),
  (162, .iaload, 1, 163, 0, 0, 0, []),
  (163, .aload_n 0, 1, 164, 0, 0, 0, []),
  (164, .iload 4, 2, 166, 0, 0, 0, []),
  (166, .invokevirtual 137, 3, 169, M_R_topOf, 0, 0, []),
  (169, .if_icmp .lt 16, 3, 172, 185, 0, 0, []),
  (172, .aload_n 0, 1, 173, 0, 0, 0, []),
  (173, .iload_n 1, 1, 174, 0, 0, 0, []),
  (174, .iload_n 2, 1, 175, 0, 0, 0, []),
  (175, .invokevirtual 140, 3, 178, M_R_area, 0, 0, []),
  (178, .ifCond .le 7, 3, 181, 185, 0, 0, []),
  (181, .iconst 1, 1, 182, 0, 0, 1, []),
  (182, .goto 4, 3, 185, 186, 0, 0, []),
  (185, .iconst 0, 1, 186, 0, 0, 0, []),
  (186, .ireturn, 1, 187, 0, 0, 0, [])]
set_option maxRecDepth 100000 in
theorem kc_R_isInWay : k_R_isInWay.all (am_chk am_m115) = true := by decide +kernel
theorem q_R_isInWay : am_ms[M_R_isInWay]? = some am_m115 := rfl
def k_R_makeLoads : List am_I := [
  (0, .iconst 0, 1, 1, 0, 0, 0, []),
  (1, .istore_n 1, 1, 2, 0, 0, 0, []),
  (2, .iload_n 1, 1, 3, 0, 0, 0, []),
  (3, .aload_n 0, 1, 4, 0, 0, 0, []),
  (4, .getfield 119, 3, 7, 9, 0, 0, []),
  (7, .if_icmp .ge 16, 3, 10, 23, 0, 0, []),
  (10, .aload_n 0, 1, 11, 0, 0, 0, []),
  (11, .getfield 79, 3, 14, 9, 23, 0, []),
  (14, .iload_n 1, 1, 15, 0, 0, 0, []),
  (15, .iconst 0, 1, 16, 0, 0, 0, []),
  (16, .iastore, 1, 17, 0, 0, 0, []),
  (17, .iinc 1 1, 3, 20, 0, 0, 1, []),
  (20, .goto (-18), 3, 23, 2, 0, 0, []),
  (23, .iconst 0, 1, 24, 0, 0, 0, []),
  (24, .istore_n 1, 1, 25, 0, 0, 0, []),
  (25, .iconst (-1), 1, 26, 0, 0, (-1), []),
  (26, .istore_n 2, 1, 27, 0, 0, 0, []),
  (27, .iconst 0, 1, 28, 0, 0, 0, []),
  (28, .istore_n 3, 1, 29, 0, 0, 0, []),
  (29, .iload_n 3, 1, 30, 0, 0, 0, []),
  (30, .aload_n 0, 1, 31, 0, 0, 0, []),
  (31, .getfield 119, 3, 34, 9, 0, 0, []),
  (34, .if_icmp .ge 46, 3, 37, 80, 0, 0, []),
  (37, .aload_n 0, 1, 38, 0, 0, 0, []),
  (38, .getfield 35, 3, 41, 9, 9, 0, []),
  (41, .iload_n 3, 1, 42, 0, 0, 0, []),
  (42, .baload, 1, 43, 0, 0, 0, []),
  (43, .ifCond .eq 31, 3, 46, 74, 0, 0, []),
  (46, .iload_n 1, 1, 47, 0, 0, 0, []),
  (47, .iload_n 3, 1, 48, 0, 0, 0, []),
  (48, .ishr, 1, 49, 0, 0, 0, []),
  (49, .iconst 1, 1, 50, 0, 0, 1, []),
  (50, .iand, 1, 51, 0, 0, 0, []),
  (51, .ifCond .ne 23, 3, 54, 74, 0, 0, []),
  (54, .iload_n 2, 1, 55, 0, 0, 0, []),
  (55, .iconst (-1), 1, 56, 0, 0, (-1), []),
  (56, .if_icmp .eq 16, 3, 59, 72, 0, 0, []),
  (59, .aload_n 0, 1, 60, 0, 0, 0, []),
  (60, .iload_n 3, 1, 61, 0, 0, 0, []),
  (61, .invokevirtual 137, 3, 64, M_R_topOf, 0, 0, []),
  (64, .aload_n 0, 1, 65, 0, 0, 0, []),
  (65, .iload_n 2, 1, 66, 0, 0, 0, []),
  (66, .invokevirtual 137, 3, 69, M_R_topOf, 0, 0, []),
  (69, .if_icmp .le 5, 3, 72, 74, 0, 0, []),
  (72, .iload_n 3, 1, 73, 0, 0, 0, []),
  (73, .istore_n 2, 1, 74, 0, 0, 0, []),
  (74, .iinc 3 1, 3, 77, 0, 0, 1, []),
  (77, .goto (-48), 3, 80, 29, 0, 0, []),
  (80, .iload_n 2, 1, 81, 0, 0, 0, []),
  (81, .iconst (-1), 1, 82, 0, 0, (-1), []),
  (82, .if_icmp .ne 4, 3, 85, 86, 0, 0, []),
  (85, .return_, 1, 86, 0, 0, 0, []),
  (86, .iload_n 1, 1, 87, 0, 0, 0, []),
  (87, .iconst 1, 1, 88, 0, 0, 1, []),
  (88, .iload_n 2, 1, 89, 0, 0, 0, []),
  (89, .ishl, 1, 90, 0, 0, 0, []),
  (90, .ior, 1, 91, 0, 0, 0, []),
  (91, .istore_n 1, 1, 92, 0, 0, 0, []),
  (92, .iconst 0, 1, 93, 0, 0, 0, []),
  (93, .istore_n 3, 1, 94, 0, 0, 0, []),
  (94, .iconst 0, 1, 95, 0, 0, 0, []),
  (95, .istore 4, 2, 97, 0, 0, 0, []),
  (97, .iload 4, 2, 99, 0, 0, 0, []),
  (99, .aload_n 0, 1, 100, 0, 0, 0, []),
  (100, .getfield 119, 3, 103, 9, 0, 0, []),
  (103, .if_icmp .ge 19, 3, 106, 122, 0, 0, []),
  (106, .iload_n 3, 1, 107, 0, 0, 0, []),
  (107, .aload_n 0, 1, 108, 0, 0, 0, []),
  (108, .iload_n 2, 1, 109, 0, 0, 0, []),
  (109, .iload 4, 2, 111, 0, 0, 0, []),
  (111, .invokevirtual 144, 3, 114, M_R_stands, 0, 0, []),
  (114, .iadd, 1, 115, 0, 0, 0, []),
  (115, .istore_n 3, 1, 116, 0, 0, 0, []),
  (116, .iinc 4 1, 3, 119, 0, 0, 1, []),
  (119, .goto (-22), 3, 122, 97, 0, 0, []),
  (122, .iload_n 3, 1, 123, 0, 0, 0, []),
  (123, .ifCond .ne 6, 3, 126, 129, 0, 0, []),
  (126, .goto (-101), 3, 129, 25, 0, 0, []),
  (129, .aload_n 0, 1, 130, 0, 0, 0, []),
  (130, .getfield 19, 3, 133, 9, 4, 0, []),
  (133, .iload_n 2, 1, 134, 0, 0, 0, []),
  (134, .iaload, 1, 135, 0, 0, 0, []),
  (135, .aload_n 0, 1, 136, 0, 0, 0, []),
  (136, .getfield 79, 3, 139, 9, 23, 0, []),
  (139, .iload_n 2, 1, 140, 0, 0, 0, []),
  (140, .iaload, 1, 141, 0, 0, 0, []),
  (141, .iadd, 1, 142, 0, 0, 0, []),
  (142, .istore 4, 2, 144, 0, 0, 0, []),
  (144, .iload 4, 2, 146, 0, 0, 0, []),
  (146, .istore 5, 2, 148, 0, 0, 0, []),
  (148, .iconst 0, 1, 149, 0, 0, 0, []),
  (149, .istore 6, 2, 151, 0, 0, 0, []),
  (151, .iload 6, 2, 153, 0, 0, 0, []),
  (153, .aload_n 0, 1, 154, 0, 0, 0, []),
  (154, .getfield 119, 3, 157, 9, 0, 0, []),
  (157, .if_icmp .ge 46, 3, 160, 203, 0, 0, []),
  (160, .iload 4, 2, 162, 0, 0, 0, []),
  (162, .i2l, 1, 163, 0, 0, 0, []),
  (163, .aload_n 0, 1, 164, 0, 0, 0, []),
  (164, .iload_n 2, 1, 165, 0, 0, 0, []),
  (165, .iload 6, 2, 167, 0, 0, 0, []),
  (167, .invokevirtual 144, 3, 170, M_R_stands, 0, 0, []),
  (170, .i2l, 1, 171, 0, 0, 0, []),
  (171, .lmul, 1, 172, 0, 0, 0, []),
  (172, .iload_n 3, 1, 173, 0, 0, 0, []),
  (173, .i2l, 1, 174, 0, 0, 0, []),
  (174, .ldiv, 1, 175, 0, 0, 0, []),
  (175, .l2i, 1, 176, 0, 0, 0, []),
  (176, .istore 7, 2, 178, 0, 0, 0, []),
  (178, .aload_n 0, 1, 179, 0, 0, 0, []),
  (179, .getfield 79, 3, 182, 9, 23, 0, []),
  (182, .iload 6, 2, 184, 0, 0, 0, []),
  (184, .dup2, 1, 185, 0, 0, 0, []),
  (185, .iaload, 1, 186, 0, 0, 0, []),
  (186, .iload 7, 2, 188, 0, 0, 0, []),
  (188, .iadd, 1, 189, 0, 0, 0, []),
  (189, .iastore, 1, 190, 0, 0, 0, []),
  (190, .iload 5, 2, 192, 0, 0, 0, []),
  (192, .iload 7, 2, 194, 0, 0, 0, []),
  (194, .isub, 1, 195, 0, 0, 0, []),
  (195, .istore 5, 2, 197, 0, 0, 0, []),
  (197, .iinc 6 1, 3, 200, 0, 0, 1, []),
  (200, .goto (-49), 3, 203, 151, 0, 0, []),
  (203, .iconst 0, 1, 204, 0, 0, 0, []),
  (204, .istore 6, 2, 206, 0, 0, 0, []),
  (206, .iload 6, 2, 208, 0, 0, 0, []),
  (208, .aload_n 0, 1, 209, 0, 0, 0, []),
  (209, .getfield 119, 3, 212, 9, 0, 0, []),
  (212, .if_icmp .ge 41, 3, 215, 253, 0, 0, []),
  (215, .iload 5, 2, 217, 0, 0, 0, []),
  (217, .ifCond .le 36, 3, 220, 253, 0, 0, []),
  (220, .aload_n 0, 1, 221, 0, 0, 0, []),
  (221, .iload_n 2, 1, 222, 0, 0, 0, []),
  (222, .iload 6, 2, 224, 0, 0, 0, []),
  (224, .invokevirtual 144, 3, 227, M_R_stands, 0, 0, []),
  (227, .ifCond .ne 6, 3, 230, 233, 0, 0, []),
  (230, .goto 17, 3, 233, 247, 0, 0, []),
  (233, .aload_n 0, 1, 234, 0, 0, 0, []),
  (234, .getfield 79, 3, 237, 9, 23, 0, []),
  (237, .iload 6, 2, 239, 0, 0, 0, []),
  (239, .dup2, 1, 240, 0, 0, 0, []),
  (240, .iaload, 1, 241, 0, 0, 0, []),
  (241, .iconst 1, 1, 242, 0, 0, 1, []),
  (242, .iadd, 1, 243, 0, 0, 0, []),
  (243, .iastore, 1, 244, 0, 0, 0, []),
  (244, .iinc 5 (-1), 3, 247, 0, 0, (-1), []),
  (247, .iinc 6 1, 3, 250, 0, 0, 1, []),
  (250, .goto (-44), 3, 253, 206, 0, 0, []),
  (253, .goto (-228), 3, 256, 25, 0, 0, [])]
set_option maxRecDepth 100000 in
theorem kc_R_makeLoads : k_R_makeLoads.all (am_chk am_m116) = true := by decide +kernel
theorem q_R_makeLoads : am_ms[M_R_makeLoads]? = some am_m116 := rfl
def k_R_place : List am_I := [
  (0, .aload_n 0, 1, 1, 0, 0, 0, []),
  (1, .iload_n 1, 1, 2, 0, 0, 0, []),
  (2, .iload_n 2, 1, 3, 0, 0, 0, []),
  (3, .iload_n 3, 1, 4, 0, 0, 0, []),
  (4, .iload 4, 2, 6, 0, 0, 0, []),
  (6, .iload 5, 2, 8, 0, 0, 0, []),
  (8, .invokevirtual 158, 3, 11, M_R_asked, 0, 0, []),
  (11, .istore 6, 2, 13, 0, 0, 0, []),
  (13, .iload 6, 2, 15, 0, 0, 0, []),
  (15, .ifCond .eq 6, 3, 18, 21, 0, 0, []),
  (18, .iload 6, 2, 20, 0, 0, 0, []),
  (20, .ireturn, 1, 21, 0, 0, 0, []),
  (21, .aload_n 0, 1, 22, 0, 0, 0, []),
  (22, .iload_n 1, 1, 23, 0, 0, 0, []),
  (23, .iload_n 2, 1, 24, 0, 0, 0, []),
  (24, .iload_n 3, 1, 25, 0, 0, 0, []),
  (25, .iload 4, 2, 27, 0, 0, 0, []),
  (27, .iload 5, 2, 29, 0, 0, 0, []),
  (29, .invokevirtual 162, 3, 32, M_R_wrongAt, 0, 0, []),
  (32, .ifCond .eq 5, 3, 35, 37, 0, 0, []),
  (35, .iconst 0, 1, 36, 0, 0, 0, []),
  (36, .ireturn, 1, 37, 0, 0, 0, []),
  (37, .aload_n 0, 1, 38, 0, 0, 0, []),
  (38, .getfield 35, 3, 41, 9, 9, 0, []),
  (41, .iload_n 1, 1, 42, 0, 0, 0, []),
  (42, .iconst 1, 1, 43, 0, 0, 1, []),
  (43, .bastore, 1, 44, 0, 0, 0, []),
  (44, .iconst 1, 1, 45, 0, 0, 1, []),
  (45, .ireturn, 1, 46, 0, 0, 0, [])]
set_option maxRecDepth 100000 in
theorem kc_R_place : k_R_place.all (am_chk am_m117) = true := by decide +kernel
theorem q_R_place : am_ms[M_R_place]? = some am_m117 := rfl
def k_R_set : List am_I := [
  (0, .aload_n 0, 1, 1, 0, 0, 0, []),
  (1, .iload_n 1, 1, 2, 0, 0, 0, []),
  (2, .invokevirtual 154, 3, 5, M_R_isBox, 0, 0, []),
  (5, .ifCond .ne 6, 3, 8, 11, 0, 0, []),
  (8, .bipush (-2), 2, 10, 0, 0, (-2), []),
  (10, .ireturn, 1, 11, 0, 0, 0, []),
  (11, .aload_n 0, 1, 12, 0, 0, 0, []),
  (12, .getfield 35, 3, 15, 9, 9, 0, []),
  (15, .iload_n 1, 1, 16, 0, 0, 0, []),
  (16, .baload, 1, 17, 0, 0, 0, []),
  (17, .ifCond .eq 6, 3, 20, 23, 0, 0, []),
  (20, .bipush (-4), 2, 22, 0, 0, (-4), []),
  (22, .ireturn, 1, 23, 0, 0, 0, []),
  (23, .aload_n 0, 1, 24, 0, 0, 0, []),
  (24, .iload_n 1, 1, 25, 0, 0, 0, []),
  (25, .invokevirtual 168, 3, 28, M_R_sets, 0, 0, []),
  (28, .ifCond .eq 7, 3, 31, 35, 0, 0, []),
  (31, .iconst 1, 1, 32, 0, 0, 1, []),
  (32, .goto 4, 3, 35, 36, 0, 0, []),
  (35, .iconst (-1), 1, 36, 0, 0, (-1), []),
  (36, .ireturn, 1, 37, 0, 0, 0, [])]
set_option maxRecDepth 100000 in
theorem kc_R_set : k_R_set.all (am_chk am_m118) = true := by decide +kernel
theorem q_R_set : am_ms[M_R_set]? = some am_m118 := rfl
def k_R_sets : List am_I := [
  (0, .iconst 0, 1, 1, 0, 0, 0, []),
  (1, .istore_n 2, 1, 2, 0, 0, 0, []),
  (2, .iload_n 2, 1, 3, 0, 0, 0, []),
  (3, .iconst (-1), 1, 4, 0, 0, (-1), []),
  (4, .if_icmp .eq 129, 3, 7, 133, 0, 0, []),
  (7, .iconst 0, 1, 8, 0, 0, 0, []),
  (8, .istore_n 3, 1, 9, 0, 0, 0, []),
  (9, .iload_n 3, 1, 10, 0, 0, 0, []),
  (10, .iconst (-1), 1, 11, 0, 0, (-1), []),
  (11, .if_icmp .eq 112, 3, 14, 123, 0, 0, []),
  (14, .iconst 0, 1, 15, 0, 0, 0, []),
  (15, .istore 4, 2, 17, 0, 0, 0, []),
  (17, .iload 4, 2, 19, 0, 0, 0, []),
  (19, .iconst (-1), 1, 20, 0, 0, (-1), []),
  (20, .if_icmp .eq 93, 3, 23, 113, 0, 0, []),
  (23, .iconst 0, 1, 24, 0, 0, 0, []),
  (24, .istore 5, 2, 26, 0, 0, 0, []),
  (26, .iload 5, 2, 28, 0, 0, 0, []),
  (28, .aload_n 0, 1, 29, 0, 0, 0, []),
  (29, .getfield 28, 3, 32, 9, 7, 0, []),
  (32, .iload_n 1, 1, 33, 0, 0, 0, []),
  (33, .baload, 1, 34, 0, 0, 0, []),
  (34, .ifCond .eq 22, 3, 37, 56, 0, 0, []),
  (37, .aload_n 0, 1, 38, 0, 0, 0, []),
  (38, .getfield 7, 3, 41, 9, 1, 0, []),
  (41, .iload_n 1, 1, 42, 0, 0, 0, []),
  (42, .iaload, 1, 43, 0, 0, 0, []),
  (43, .aload_n 0, 1, 44, 0, 0, 0, []),
  (44, .getfield 13, 3, 47, 9, 2, 0, []),
  (47, .iload_n 1, 1, 48, 0, 0, 0, []),
  (48, .iaload, 1, 49, 0, 0, 0, []),
  (49, .if_icmp .eq 7, 3, 52, 56, 0, 0, []),
  (52, .iconst 2, 1, 53, 0, 0, 2, []),
  (53, .goto 4, 3, 56, 57, 0, 0, []),
  (56, .iconst 1, 1, 57, 0, 0, 1, []),
  (57, .if_icmp .ge 44, 3, 60, 101, 0, 0, []),
  (60, .aload_n 0, 1, 61, 0, 0, 0, []),
  (61, .iload_n 1, 1, 62, 0, 0, 0, []),
  (62, .iload_n 3, 1, 63, 0, 0, 0, []),
  (63, .iload 4, 2, 65, 0, 0, 0, []),
  (65, .iload_n 2, 1, 66, 0, 0, 0, []),
  (66, .iload 5, 2, 68, 0, 0, 0, []),
  (68, .iconst 1, 1, 69, 0, 0, 1, []),
  (69, .if_icmp .ne 7, 3, 72, 76, 0, 0, []),
  (72, .iconst 1, 1, 73, 0, 0, 1, []),
  (73, .goto 4, 3, 76, 77, 0, 0, []),
  (76, .iconst 0, 1, 77, 0, 0, 0, []),
  (77, .invokevirtual 162, 3, 80, M_R_wrongAt, 0, 0, []),
  (80, .ifCond .eq 6, 3, 83, 86, 0, 0, []),
  (83, .goto 12, 3, 86, 95, 0, 0, []),
  (86, .aload_n 0, 1, 87, 0, 0, 0, []),
  (87, .getfield 35, 3, 90, 9, 9, 0, []),
  (90, .iload_n 1, 1, 91, 0, 0, 0, []),
  (91, .iconst 1, 1, 92, 0, 0, 1, []),
  (92, .bastore, 1, 93, 0, 0, 0, []),
  (93, .iconst 1, 1, 94, 0, 0, 1, []),
  (94, .ireturn, 1, 95, 0, 0, 0, []),
  (95, .iinc 5 1, 3, 98, 0, 0, 1, []),
  (98, .goto (-72), 3, 101, 26, 0, 0, []),
  (101, .aload_n 0, 1, 102, 0, 0, 0, []),
  (102, .iconst 1, 1, 103, 0, 0, 1, []),
  (103, .iload 4, 2, 105, 0, 0, 0, []),
  (105, .invokevirtual 165, 3, 108, M_R_nextEnd, 0, 0, []),
  (108, .istore 4, 2, 110, 0, 0, 0, []),
  (110, .goto (-93), 3, 113, 17, 0, 0, []),
  (113, .aload_n 0, 1, 114, 0, 0, 0, []),
  (114, .iconst 0, 1, 115, 0, 0, 0, []),
  (115, .iload_n 3, 1, 116, 0, 0, 0, []),
  (116, .invokevirtual 165, 3, 119, M_R_nextEnd, 0, 0, []),
  (119, .istore_n 3, 1, 120, 0, 0, 0, []),
  (120, .goto (-111), 3, 123, 9, 0, 0, []),
  (123, .aload_n 0, 1, 124, 0, 0, 0, []),
  (124, .iconst 2, 1, 125, 0, 0, 2, []),
  (125, .iload_n 2, 1, 126, 0, 0, 0, []),
  (126, .invokevirtual 165, 3, 129, M_R_nextEnd, 0, 0, []),
  (129, .istore_n 2, 1, 130, 0, 0, 0, []),
  (130, .goto (-128), 3, 133, 2, 0, 0, []),
  (133, .iconst 0, 1, 134, 0, 0, 0, []),
  (134, .ireturn, 1, 135, 0, 0, 0, [])]
set_option maxRecDepth 100000 in
theorem kc_R_sets : k_R_sets.all (am_chk am_m119) = true := by decide +kernel
theorem q_R_sets : am_ms[M_R_sets]? = some am_m119 := rfl
def k_R_nextEnd : List am_I := [
  (0, .iconst (-1), 1, 1, 0, 0, (-1), []),
  (1, .istore_n 3, 1, 2, 0, 0, 0, []),
  (2, .iconst 0, 1, 3, 0, 0, 0, []),
  (3, .istore 4, 2, 5, 0, 0, 0, []),
  (5, .iload 4, 2, 7, 0, 0, 0, []),
  (7, .aload_n 0, 1, 8, 0, 0, 0, []),
  (8, .getfield 119, 3, 11, 9, 0, 0, []),
  (11, .if_icmp .ge 93, 3, 14, 104, 0, 0, []),
  (14, .aload_n 0, 1, 15, 0, 0, 0, []),
  (15, .getfield 35, 3, 18, 9, 9, 0, []),
  (18, .iload 4, 2, 20, 0, 0, 0, []),
  (20, .baload, 1, 21, 0, 0, 0, []),
  (21, .ifCond .ne 6, 3, 24, 27, 0, 0, []),
  (24, .goto 74, 3, 27, 98, 0, 0, []),
  (27, .iload_n 1, 1, 28, 0, 0, 0, []),
  (28, .ifCond .ne 20, 3, 31, 48, 0, 0, []),
  (31, .aload_n 0, 1, 32, 0, 0, 0, []),
  (32, .getfield 38, 3, 35, 9, 10, 0, []),
  (35, .iload 4, 2, 37, 0, 0, 0, []),
  (37, .iaload, 1, 38, 0, 0, 0, []),
  (38, .aload_n 0, 1, 39, 0, 0, 0, []),
  (39, .iload 4, 2, 41, 0, 0, 0, []),
  (41, .invokevirtual 126, 3, 44, M_R_longOf, 0, 0, []),
  (44, .iadd, 1, 45, 0, 0, 0, []),
  (45, .goto 31, 3, 48, 76, 0, 0, []),
  (48, .iload_n 1, 1, 49, 0, 0, 0, []),
  (49, .iconst 1, 1, 50, 0, 0, 1, []),
  (50, .if_icmp .ne 20, 3, 53, 70, 0, 0, []),
  (53, .aload_n 0, 1, 54, 0, 0, 0, []),
  (54, .getfield 41, 3, 57, 9, 11, 0, []),
  (57, .iload 4, 2, 59, 0, 0, 0, []),
  (59, .iaload, 1, 60, 0, 0, 0, []),
  (60, .aload_n 0, 1, 61, 0, 0, 0, []),
  (61, .iload 4, 2, 63, 0, 0, 0, []),
  (63, .invokevirtual 134, 3, 66, M_R_wideOf, 0, 0, []),
  (66, .iadd, 1, 67, 0, 0, 0, []),
  (67, .goto 9, 3, 70, 76, 0, 0, []),
  (70, .aload_n 0, 1, 71, 0, 0, 0, []),
  (71, .iload 4, 2, 73, 0, 0, 0, []),
  (73, .invokevirtual 137, 3, 76, M_R_topOf, 0, 0, []),
  (76, .istore 5, 2, 78, 0, 0, 0, []),
  (78, .iload 5, 2, 80, 0, 0, 0, []),
  (80, .iload_n 2, 1, 81, 0, 0, 0, []),
  (81, .if_icmp .le 17, 3, 84, 98, 0, 0, []),
  (84, .iload_n 3, 1, 85, 0, 0, 0, []),
  (85, .iconst (-1), 1, 86, 0, 0, (-1), []),
  (86, .if_icmp .eq 9, 3, 89, 95, 0, 0, []),
  (89, .iload 5, 2, 91, 0, 0, 0, []),
  (91, .iload_n 3, 1, 92, 0, 0, 0, []),
  (92, .if_icmp .ge 6, 3, 95, 98, 0, 0, []),
  (95, .iload 5, 2, 97, 0, 0, 0, []),
  (97, .istore_n 3, 1, 98, 0, 0, 0, []),
  (98, .iinc 4 1, 3, 101, 0, 0, 1, []),
  (101, .goto (-96), 3, 104, 5, 0, 0, []),
  (104, .iload_n 3, 1, 105, 0, 0, 0, []),
  (105, .ireturn, 1, 106, 0, 0, 0, [])]
set_option maxRecDepth 100000 in
theorem kc_R_nextEnd : k_R_nextEnd.all (am_chk am_m120) = true := by decide +kernel
theorem q_R_nextEnd : am_ms[M_R_nextEnd]? = some am_m120 := rfl
def k_R_take : List am_I := [
  (0, .aload_n 0, 1, 1, 0, 0, 0, []),
  (1, .iload_n 1, 1, 2, 0, 0, 0, []),
  (2, .invokevirtual 154, 3, 5, M_R_isBox, 0, 0, []),
  (5, .ifCond .ne 6, 3, 8, 11, 0, 0, []),
  (8, .bipush (-2), 2, 10, 0, 0, (-2), []),
  (10, .ireturn, 1, 11, 0, 0, 0, []),
  (11, .aload_n 0, 1, 12, 0, 0, 0, []),
  (12, .getfield 35, 3, 15, 9, 9, 0, []),
  (15, .iload_n 1, 1, 16, 0, 0, 0, []),
  (16, .baload, 1, 17, 0, 0, 0, []),
  (17, .ifCond .ne 6, 3, 20, 23, 0, 0, []),
  (20, .bipush (-4), 2, 22, 0, 0, (-4), []),
  (22, .ireturn, 1, 23, 0, 0, 0, []),
  (23, .iconst 0, 1, 24, 0, 0, 0, []),
  (24, .istore_n 2, 1, 25, 0, 0, 0, []),
  (25, .iload_n 2, 1, 26, 0, 0, 0, []),
  (26, .aload_n 0, 1, 27, 0, 0, 0, []),
  (27, .getfield 119, 3, 30, 9, 0, 0, []),
  (30, .if_icmp .ge 29, 3, 33, 59, 0, 0, []),
  (33, .aload_n 0, 1, 34, 0, 0, 0, []),
  (34, .getfield 35, 3, 37, 9, 9, 0, []),
  (37, .iload_n 2, 1, 38, 0, 0, 0, []),
  (38, .baload, 1, 39, 0, 0, 0, []),
  (39, .ifCond .eq 14, 3, 42, 53, 0, 0, []),
  (42, .aload_n 0, 1, 43, 0, 0, 0, []),
  (43, .iload_n 2, 1, 44, 0, 0, 0, []),
  (44, .iload_n 1, 1, 45, 0, 0, 0, []),
  (45, .invokevirtual 144, 3, 48, M_R_stands, 0, 0, []),
  (48, .ifCond .le 5, 3, 51, 53, 0, 0, []),
  (51, .iconst 0, 1, 52, 0, 0, 0, []),
  (52, .ireturn, 1, 53, 0, 0, 0, []),
  (53, .iinc 2 1, 3, 56, 0, 0, 1, []),
  (56, .goto (-31), 3, 59, 25, 0, 0, []),
  (59, .aload_n 0, 1, 60, 0, 0, 0, []),
  (60, .getfield 35, 3, 63, 9, 9, 0, []),
  (63, .iload_n 1, 1, 64, 0, 0, 0, []),
  (64, .iconst 0, 1, 65, 0, 0, 0, []),
  (65, .bastore, 1, 66, 0, 0, 0, []),
  (66, .iconst 1, 1, 67, 0, 0, 1, []),
  (67, .ireturn, 1, 68, 0, 0, 0, [])]
set_option maxRecDepth 100000 in
theorem kc_R_take : k_R_take.all (am_chk am_m121) = true := by decide +kernel
theorem q_R_take : am_ms[M_R_take]? = some am_m121 := rfl
def k_R_clear : List am_I := [
  (0, .aload_n 0, 1, 1, 0, 0, 0, []),
  (1, .invokevirtual 122, 3, 4, M_R_placed, 0, 0, []),
  (4, .istore_n 1, 1, 5, 0, 0, 0, []),
  (5, .iconst 0, 1, 6, 0, 0, 0, []),
  (6, .istore_n 2, 1, 7, 0, 0, 0, []),
  (7, .iload_n 2, 1, 8, 0, 0, 0, []),
  (8, .aload_n 0, 1, 9, 0, 0, 0, []),
  (9, .getfield 119, 3, 12, 9, 0, 0, []),
  (12, .if_icmp .ge 16, 3, 15, 28, 0, 0, []),
  (15, .aload_n 0, 1, 16, 0, 0, 0, []),
  (16, .getfield 35, 3, 19, 9, 9, 0, []),
  (19, .iload_n 2, 1, 20, 0, 0, 0, []),
  (20, .iconst 0, 1, 21, 0, 0, 0, []),
  (21, .bastore, 1, 22, 0, 0, 0, []),
  (22, .iinc 2 1, 3, 25, 0, 0, 1, []),
  (25, .goto (-18), 3, 28, 7, 0, 0, []),
  (28, .iload_n 1, 1, 29, 0, 0, 0, []),
  (29, .ireturn, 1, 30, 0, 0, 0, [])]
set_option maxRecDepth 100000 in
theorem kc_R_clear : k_R_clear.all (am_chk am_m122) = true := by decide +kernel
theorem q_R_clear : am_ms[M_R_clear]? = some am_m122 := rfl
def k_R_best : List am_I := [
  (0, .aload_n 0, 1, 1, 0, 0, 0, []),
  (1, .iload_n 1, 1, 2, 0, 0, 0, []),
  (2, .invokevirtual 194, 3, 5, M_R_isSet, 0, 0, []),
  (5, .ifCond .ne 6, 3, 8, 11, 0, 0, []),
  (8, .bipush (-2), 2, 10, 0, 0, (-2), []),
  (10, .ireturn, 1, 11, 0, 0, 0, []),
  (11, .iconst 0, 1, 12, 0, 0, 0, []),
  (12, .istore_n 2, 1, 13, 0, 0, 0, []),
  (13, .iconst 0, 1, 14, 0, 0, 0, []),
  (14, .istore_n 3, 1, 15, 0, 0, 0, []),
  (15, .iload_n 3, 1, 16, 0, 0, 0, []),
  (16, .aload_n 0, 1, 17, 0, 0, 0, []),
  (17, .getfield 119, 3, 20, 9, 0, 0, []),
  (20, .if_icmp .ge 35, 3, 23, 55, 0, 0, []),
  (23, .iload_n 1, 1, 24, 0, 0, 0, []),
  (24, .iload_n 3, 1, 25, 0, 0, 0, []),
  (25, .ishr, 1, 26, 0, 0, 0, []),
  (26, .iconst 1, 1, 27, 0, 0, 1, []),
  (27, .iand, 1, 28, 0, 0, 0, []),
  (28, .ifCond .ne 6, 3, 31, 34, 0, 0, []),
  (31, .goto 18, 3, 34, 49, 0, 0, []),
  (34, .aload_n 0, 1, 35, 0, 0, 0, []),
  (35, .getfield 35, 3, 38, 9, 9, 0, []),
  (38, .iload_n 3, 1, 39, 0, 0, 0, []),
  (39, .baload, 1, 40, 0, 0, 0, []),
  (40, .ifCond .eq 6, 3, 43, 46, 0, 0, []),
  (43, .bipush (-4), 2, 45, 0, 0, (-4), []),
  (45, .ireturn, 1, 46, 0, 0, 0, []),
  (46, .iinc 2 1, 3, 49, 0, 0, 1, []),
  (49, .iinc 3 1, 3, 52, 0, 0, 1, []),
  (52, .goto (-37), 3, 55, 15, 0, 0, []),
  (55, .iload_n 2, 1, 56, 0, 0, 0, []),
  (56, .iconst 5, 1, 57, 0, 0, 5, []),
  (57, .if_icmp .le 6, 3, 60, 63, 0, 0, []),
  (60, .bipush (-3), 2, 62, 0, 0, (-3), []),
  (62, .ireturn, 1, 63, 0, 0, 0, []),
  (63, .aload_n 0, 1, 64, 0, 0, 0, []),
  (64, .iconst (-1), 1, 65, 0, 0, (-1), []),
  (65, .putfield 185, 3, 68, 9, 25, 0, []),
  (68, .aload_n 0, 1, 69, 0, 0, 0, []),
  (69, .iconst 0, 1, 70, 0, 0, 0, []),
  (70, .putfield 188, 3, 73, 9, 26, 0, []),
  (73, .aload_n 0, 1, 74, 0, 0, 0, []),
  (74, .iload_n 1, 1, 75, 0, 0, 0, []),
  (75, .iload_n 1, 1, 76, 0, 0, 0, []),
  (76, .iconst 0, 1, 77, 0, 0, 0, []),
  (77, .iload_n 2, 1, 78, 0, 0, 0, []),
  (78, .invokevirtual 171, 3, 81, M_R_orders, 0, 0, []),
  (81, .aload_n 0, 1, 82, 0, 0, 0, []),
  (82, .aload_n 0, 1, 83, 0, 0, 0, []),
  (83, .getfield 191, 3, 86, 9, 24, 0, []),
  (86, .iload_n 2, 1, 87, 0, 0, 0, []),
  (87, .invokevirtual 175, 3, 90, M_R_lists, 0, 0, []),
  (90, .ireturn, 1, 91, 0, 0, 0, [])]
set_option maxRecDepth 100000 in
theorem kc_R_best : k_R_best.all (am_chk am_m123) = true := by decide +kernel
theorem q_R_best : am_ms[M_R_best]? = some am_m123 := rfl
def k_R_isSet : List am_I := [
  (0, .iload_n 1, 1, 1, 0, 0, 0, []),
  (1, .ifCond .le 19, 3, 4, 20, 0, 0, []),
  (4, .iload_n 1, 1, 5, 0, 0, 0, []),
  (5, .i2l, 1, 6, 0, 0, 0, []),
  (6, .lconst 1, 1, 7, 0, 0, 0, []),
  (7, .aload_n 0, 1, 8, 0, 0, 0, []),
  (8, .getfield 119, 3, 11, 9, 0, 0, []),
  (11, .lshl, 1, 12, 0, 0, 0, []),
  (12, .lcmp, 1, 13, 0, 0, 0, []),
  (13, .ifCond .ge 7, 3, 16, 20, 0, 0, []),
  (16, .iconst 1, 1, 17, 0, 0, 1, []),
  (17, .goto 4, 3, 20, 21, 0, 0, []),
  (20, .iconst 0, 1, 21, 0, 0, 0, []),
  (21, .ireturn, 1, 22, 0, 0, 0, [])]
set_option maxRecDepth 100000 in
theorem kc_R_isSet : k_R_isSet.all (am_chk am_m124) = true := by decide +kernel
theorem q_R_isSet : am_ms[M_R_isSet]? = some am_m124 := rfl
def k_R_orders : List am_I := [
  (0, .iload_n 2, 1, 1, 0, 0, 0, []),
  (1, .ifCond .eq 54, 3, 4, 55, 0, 0, []),
  (4, .iconst 0, 1, 5, 0, 0, 0, []),
  (5, .istore 5, 2, 7, 0, 0, 0, []),
  (7, .iload 5, 2, 9, 0, 0, 0, []),
  (9, .aload_n 0, 1, 10, 0, 0, 0, []),
  (10, .getfield 119, 3, 13, 9, 0, 0, []),
  (13, .if_icmp .ge 41, 3, 16, 54, 0, 0, []),
  (16, .iload_n 2, 1, 17, 0, 0, 0, []),
  (17, .iload 5, 2, 19, 0, 0, 0, []),
  (19, .ishr, 1, 20, 0, 0, 0, []),
  (20, .iconst 1, 1, 21, 0, 0, 1, []),
  (21, .iand, 1, 22, 0, 0, 0, []),
  (22, .iconst 1, 1, 23, 0, 0, 1, []),
  (23, .if_icmp .ne 25, 3, 26, 48, 0, 0, []),
  (26, .aload_n 0, 1, 27, 0, 0, 0, []),
  (27, .iload_n 1, 1, 28, 0, 0, 0, []),
  (28, .iload_n 2, 1, 29, 0, 0, 0, []),
  (29, .iconst 1, 1, 30, 0, 0, 1, []),
  (30, .iload 5, 2, 32, 0, 0, 0, []),
  (32, .ishl, 1, 33, 0, 0, 0, []),
  (33, .iconst (-1), 1, 34, 0, 0, (-1), []),
  (34, .ixor, 1, 35, 0, 0, 0, []),
  (35, .iand, 1, 36, 0, 0, 0, []),
  (36, .bipush 32, 2, 38, 0, 0, 32, []),
  (38, .iload_n 3, 1, 39, 0, 0, 0, []),
  (39, .imul, 1, 40, 0, 0, 0, []),
  (40, .iload 5, 2, 42, 0, 0, 0, []),
  (42, .iadd, 1, 43, 0, 0, 0, []),
  (43, .iload 4, 2, 45, 0, 0, 0, []),
  (45, .invokevirtual 171, 3, 48, M_R_orders, 0, 0, []),
  (48, .iinc 5 1, 3, 51, 0, 0, 1, []),
  (51, .goto (-44), 3, 54, 7, 0, 0, []),
  (54, .return_, 1, 55, 0, 0, 0, []),
  (55, .aload_n 0, 1, 56, 0, 0, 0, []),
  (56, .iload_n 3, 1, 57, 0, 0, 0, []),
  (57, .iload 4, 2, 59, 0, 0, 0, []),
  (59, .invokevirtual 175, 3, 62, M_R_lists, 0, 0, []),
  (62, .istore 5, 2, 64, 0, 0, 0, []),
  (64, .aload_n 0, 1, 65, 0, 0, 0, []),
  (65, .invokevirtual 178, 3, 68, M_R_farthest, 0, 0, []),
  (68, .istore 6, 2, 70, 0, 0, 0, []),
  (70, .aload_n 0, 1, 71, 0, 0, 0, []),
  (71, .iload_n 1, 1, 72, 0, 0, 0, []),
  (72, .invokevirtual 181, 3, 75, M_R_unset, 0, 0, []),
  (75, .aload_n 0, 1, 76, 0, 0, 0, []),
  (76, .getfield 185, 3, 79, 9, 25, 0, []),
  (79, .iconst (-1), 1, 80, 0, 0, (-1), []),
  (80, .if_icmp .eq 31, 3, 83, 111, 0, 0, []),
  (83, .iload 5, 2, 85, 0, 0, 0, []),
  (85, .aload_n 0, 1, 86, 0, 0, 0, []),
  (86, .getfield 185, 3, 89, 9, 25, 0, []),
  (89, .if_icmp .lt 21, 3, 92, 110, 0, 0, []),
  (92, .iload 5, 2, 94, 0, 0, 0, []),
  (94, .aload_n 0, 1, 95, 0, 0, 0, []),
  (95, .getfield 185, 3, 98, 9, 25, 0, []),
  (98, .if_icmp .ne 13, 3, 101, 111, 0, 0, []),
  (101, .iload 6, 2, 103, 0, 0, 0, []),
  (103, .aload_n 0, 1, 104, 0, 0, 0, []),
  (104, .getfield 188, 3, 107, 9, 26, 0, []),
  (107, .if_icmp .lt 4, 3, 110, 111, 0, 0, []),
  (110, .return_, 1, 111, 0, 0, 0, []),
  (111, .aload_n 0, 1, 112, 0, 0, 0, []),
  (112, .iload 5, 2, 114, 0, 0, 0, []),
  (114, .putfield 185, 3, 117, 9, 25, 0, []),
  (117, .aload_n 0, 1, 118, 0, 0, 0, []),
  (118, .iload 6, 2, 120, 0, 0, 0, []),
  (120, .putfield 188, 3, 123, 9, 26, 0, []),
  (123, .aload_n 0, 1, 124, 0, 0, 0, []),
  (124, .iload_n 3, 1, 125, 0, 0, 0, []),
  (125, .putfield 191, 3, 128, 9, 24, 0, []),
  (128, .return_, 1, 129, 0, 0, 0, [])]
set_option maxRecDepth 100000 in
theorem kc_R_orders : k_R_orders.all (am_chk am_m125) = true := by decide +kernel
theorem q_R_orders : am_ms[M_R_orders]? = some am_m125 := rfl
def k_R_lists : List am_I := [
  (0, .iconst 0, 1, 1, 0, 0, 0, []),
  (1, .istore_n 3, 1, 2, 0, 0, 0, []),
  (2, .iload_n 2, 1, 3, 0, 0, 0, []),
  (3, .iconst 1, 1, 4, 0, 0, 1, []),
  (4, .isub, 1, 5, 0, 0, 0, []),
  (5, .istore 4, 2, 7, 0, 0, 0, []),
  (7, .iload 4, 2, 9, 0, 0, 0, []),
  (9, .ifCond .lt 33, 3, 12, 42, 0, 0, []),
  (12, .iload_n 3, 1, 13, 0, 0, 0, []),
  (13, .aload_n 0, 1, 14, 0, 0, 0, []),
  (14, .iload_n 1, 1, 15, 0, 0, 0, []),
  (15, .iconst 5, 1, 16, 0, 0, 5, []),
  (16, .iload 4, 2, 18, 0, 0, 0, []),
  (18, .imul, 1, 19, 0, 0, 0, []),
  (19, .ishr, 1, 20, 0, 0, 0, []),
  (20, .bipush 31, 2, 22, 0, 0, 31, []),
  (22, .iand, 1, 23, 0, 0, 0, []),
  (23, .invokevirtual 168, 3, 26, M_R_sets, 0, 0, []),
  (26, .ifCond .eq 7, 3, 29, 33, 0, 0, []),
  (29, .iconst 1, 1, 30, 0, 0, 1, []),
  (30, .goto 4, 3, 33, 34, 0, 0, []),
  (33, .iconst 0, 1, 34, 0, 0, 0, []),
  (34, .iadd, 1, 35, 0, 0, 0, []),
  (35, .istore_n 3, 1, 36, 0, 0, 0, []),
  (36, .iinc 4 (-1), 3, 39, 0, 0, (-1), []),
  (39, .goto (-32), 3, 42, 7, 0, 0, []),
  (42, .iload_n 3, 1, 43, 0, 0, 0, []),
  (43, .ireturn, 1, 44, 0, 0, 0, [])]
set_option maxRecDepth 100000 in
theorem kc_R_lists : k_R_lists.all (am_chk am_m126) = true := by decide +kernel
theorem q_R_lists : am_ms[M_R_lists]? = some am_m126 := rfl
def k_R_farthest : List am_I := [
  (0, .iconst 0, 1, 1, 0, 0, 0, []),
  (1, .istore_n 1, 1, 2, 0, 0, 0, []),
  (2, .iconst 0, 1, 3, 0, 0, 0, []),
  (3, .istore_n 2, 1, 4, 0, 0, 0, []),
  (4, .iload_n 2, 1, 5, 0, 0, 0, []),
  (5, .aload_n 0, 1, 6, 0, 0, 0, []),
  (6, .getfield 119, 3, 9, 9, 0, 0, []),
  (9, .if_icmp .ge 51, 3, 12, 60, 0, 0, []),
  (12, .aload_n 0, 1, 13, 0, 0, 0, []),
  (13, .getfield 35, 3, 16, 9, 9, 0, []),
  (16, .iload_n 2, 1, 17, 0, 0, 0, []),
  (17, .baload, 1, 18, 0, 0, 0, []),
  (18, .ifCond .eq 34, 3, 21, 52, 0, 0, []),
  (21, .aload_n 0, 1, 22, 0, 0, 0, []),
  (22, .getfield 38, 3, 25, 9, 10, 0, []),
  (25, .iload_n 2, 1, 26, 0, 0, 0, []),
  (26, .iaload, 1, 27, 0, 0, 0, []),
  (27, .aload_n 0, 1, 28, 0, 0, 0, []),
  (28, .iload_n 2, 1, 29, 0, 0, 0, []),
  (29, .invokevirtual 126, 3, 32, M_R_longOf, 0, 0, []),
  (32, .iadd, 1, 33, 0, 0, 0, []),
  (33, .iload_n 1, 1, 34, 0, 0, 0, []),
  (34, .if_icmp .le 18, 3, 37, 52, 0, 0, []),
  (37, .aload_n 0, 1, 38, 0, 0, 0, []),
  (38, .getfield 38, 3, 41, 9, 10, 0, []),
  (41, .iload_n 2, 1, 42, 0, 0, 0, []),
  (42, .iaload, 1, 43, 0, 0, 0, []),
  (43, .aload_n 0, 1, 44, 0, 0, 0, []),
  (44, .iload_n 2, 1, 45, 0, 0, 0, []),
  (45, .invokevirtual 126, 3, 48, M_R_longOf, 0, 0, []),
  (48, .iadd, 1, 49, 0, 0, 0, []),
  (49, .goto 4, 3, 52, 53, 0, 0, []),
  (52, .iload_n 1, 1, 53, 0, 0, 0, []),
  (53, .istore_n 1, 1, 54, 0, 0, 0, []),
  (54, .iinc 2 1, 3, 57, 0, 0, 1, []),
  (57, .goto (-53), 3, 60, 4, 0, 0, []),
  (60, .iload_n 1, 1, 61, 0, 0, 0, []),
  (61, .ireturn, 1, 62, 0, 0, 0, [])]
set_option maxRecDepth 100000 in
theorem kc_R_farthest : k_R_farthest.all (am_chk am_m127) = true := by decide +kernel
theorem q_R_farthest : am_ms[M_R_farthest]? = some am_m127 := rfl
def k_R_unset : List am_I := [
  (0, .iconst 0, 1, 1, 0, 0, 0, []),
  (1, .istore_n 2, 1, 2, 0, 0, 0, []),
  (2, .iload_n 2, 1, 3, 0, 0, 0, []),
  (3, .aload_n 0, 1, 4, 0, 0, 0, []),
  (4, .getfield 119, 3, 7, 9, 0, 0, []),
  (7, .if_icmp .ge 25, 3, 10, 32, 0, 0, []),
  (10, .iload_n 1, 1, 11, 0, 0, 0, []),
  (11, .iload_n 2, 1, 12, 0, 0, 0, []),
  (12, .ishr, 1, 13, 0, 0, 0, []),
  (13, .iconst 1, 1, 14, 0, 0, 1, []),
  (14, .iand, 1, 15, 0, 0, 0, []),
  (15, .iconst 1, 1, 16, 0, 0, 1, []),
  (16, .if_icmp .ne 10, 3, 19, 26, 0, 0, []),
  (19, .aload_n 0, 1, 20, 0, 0, 0, []),
  (20, .getfield 35, 3, 23, 9, 9, 0, []),
  (23, .iload_n 2, 1, 24, 0, 0, 0, []),
  (24, .iconst 0, 1, 25, 0, 0, 0, []),
  (25, .bastore, 1, 26, 0, 0, 0, []),
  (26, .iinc 2 1, 3, 29, 0, 0, 1, []),
  (29, .goto (-27), 3, 32, 2, 0, 0, []),
  (32, .return_, 1, 33, 0, 0, 0, [])]
set_option maxRecDepth 100000 in
theorem kc_R_unset : k_R_unset.all (am_chk am_m128) = true := by decide +kernel
theorem q_R_unset : am_ms[M_R_unset]? = some am_m128 := rfl
def k_R_about : List am_I := [
  (0, .aload_n 0, 1, 1, 0, 0, 0, []),
  (1, .iload_n 1, 1, 2, 0, 0, 0, []),
  (2, .invokevirtual 154, 3, 5, M_R_isBox, 0, 0, []),
  (5, .ifCond .ne 6, 3, 8, 11, 0, 0, []),
  (8, .bipush (-9), 2, 10, 0, 0, (-9), []),
  (10, .ireturn, 1, 11, 0, 0, 0, []),
  (11, .iload_n 2, 1, 12, 0, 0, 0, []),
  (12, .tableswitch 310 0 14 #[76, 83, 90, 97, 104, 111, 118, 133, 140, 155, 175, 195, 215, 239, 261], 76, 88, 322, 0, 0, [88, 95, 102, 109, 116, 123, 130, 145, 152, 167, 187, 207, 227, 251, 273]),
  (88, .aload_n 0, 1, 89, 0, 0, 0, []),
  (89, .getfield 7, 3, 92, 9, 1, 0, []),
  (92, .iload_n 1, 1, 93, 0, 0, 0, []),
  (93, .iaload, 1, 94, 0, 0, 0, []),
  (94, .ireturn, 1, 95, 0, 0, 0, []),
  (95, .aload_n 0, 1, 96, 0, 0, 0, []),
  (96, .getfield 13, 3, 99, 9, 2, 0, []),
  (99, .iload_n 1, 1, 100, 0, 0, 0, []),
  (100, .iaload, 1, 101, 0, 0, 0, []),
  (101, .ireturn, 1, 102, 0, 0, 0, []),
  (102, .aload_n 0, 1, 103, 0, 0, 0, []),
  (103, .getfield 16, 3, 106, 9, 3, 0, []),
  (106, .iload_n 1, 1, 107, 0, 0, 0, []),
  (107, .iaload, 1, 108, 0, 0, 0, []),
  (108, .ireturn, 1, 109, 0, 0, 0, []),
  (109, .aload_n 0, 1, 110, 0, 0, 0, []),
  (110, .getfield 19, 3, 113, 9, 4, 0, []),
  (113, .iload_n 1, 1, 114, 0, 0, 0, []),
  (114, .iaload, 1, 115, 0, 0, 0, []),
  (115, .ireturn, 1, 116, 0, 0, 0, []),
  (116, .aload_n 0, 1, 117, 0, 0, 0, []),
  (117, .getfield 22, 3, 120, 9, 5, 0, []),
  (120, .iload_n 1, 1, 121, 0, 0, 0, []),
  (121, .iaload, 1, 122, 0, 0, 0, []),
  (122, .ireturn, 1, 123, 0, 0, 0, []),
  (123, .aload_n 0, 1, 124, 0, 0, 0, []),
  (124, .getfield 25, 3, 127, 9, 6, 0, []),
  (127, .iload_n 1, 1, 128, 0, 0, 0, []),
  (128, .iaload, 1, 129, 0, 0, 0, []),
  (129, .ireturn, 1, 130, 0, 0, 0, []),
  (130, .aload_n 0, 1, 131, 0, 0, 0, []),
  (131, .getfield 28, 3, 134, 9, 7, 0, []),
  (134, .iload_n 1, 1, 135, 0, 0, 0, []),
  (135, .baload, 1, 136, 0, 0, 0, []),
  (136, .ifCond .eq 7, 3, 139, 143, 0, 0, []),
  (139, .iconst 1, 1, 140, 0, 0, 1, []),
  (140, .goto 4, 3, 143, 144, 0, 0, []),
  (143, .iconst 0, 1, 144, 0, 0, 0, []),
  (144, .ireturn, 1, 145, 0, 0, 0, []),
  (145, .aload_n 0, 1, 146, 0, 0, 0, []),
  (146, .getfield 32, 3, 149, 9, 8, 0, []),
  (149, .iload_n 1, 1, 150, 0, 0, 0, []),
  (150, .iaload, 1, 151, 0, 0, 0, []),
  (151, .ireturn, 1, 152, 0, 0, 0, []),
  (152, .aload_n 0, 1, 153, 0, 0, 0, []),
  (153, .getfield 35, 3, 156, 9, 9, 0, []),
  (156, .iload_n 1, 1, 157, 0, 0, 0, []),
  (157, .baload, 1, 158, 0, 0, 0, []),
  (158, .ifCond .eq 7, 3, 161, 165, 0, 0, []),
  (161, .iconst 1, 1, 162, 0, 0, 1, []),
  (162, .goto 4, 3, 165, 166, 0, 0, []),
  (165, .iconst 0, 1, 166, 0, 0, 0, []),
  (166, .ireturn, 1, 167, 0, 0, 0, []),
  (167, .aload_n 0, 1, 168, 0, 0, 0, []),
  (168, .getfield 35, 3, 171, 9, 9, 0, []),
  (171, .iload_n 1, 1, 172, 0, 0, 0, []),
  (172, .baload, 1, 173, 0, 0, 0, []),
  (173, .ifCond .eq 12, 3, 176, 185, 0, 0, []),
  (176, .aload_n 0, 1, 177, 0, 0, 0, []),
  (177, .getfield 38, 3, 180, 9, 10, 0, []),
  (180, .iload_n 1, 1, 181, 0, 0, 0, []),
  (181, .iaload, 1, 182, 0, 0, 0, []),
  (182, .goto 4, 3, 185, 186, 0, 0, []),
  (185, .iconst (-1), 1, 186, 0, 0, (-1), []),
  (186, .ireturn, 1, 187, 0, 0, 0, []),
  (187, .aload_n 0, 1, 188, 0, 0, 0, []),
  (188, .getfield 35, 3, 191, 9, 9, 0, []),
  (191, .iload_n 1, 1, 192, 0, 0, 0, []),
  (192, .baload, 1, 193, 0, 0, 0, []),
  (193, .ifCond .eq 12, 3, 196, 205, 0, 0, []),
  (196, .aload_n 0, 1, 197, 0, 0, 0, []),
  (197, .getfield 41, 3, 200, 9, 11, 0, []),
  (200, .iload_n 1, 1, 201, 0, 0, 0, []),
  (201, .iaload, 1, 202, 0, 0, 0, []),
  (202, .goto 4, 3, 205, 206, 0, 0, []),
  (205, .iconst (-1), 1, 206, 0, 0, (-1), []),
  (206, .ireturn, 1, 207, 0, 0, 0, []),
  (207, .aload_n 0, 1, 208, 0, 0, 0, []),
  (208, .getfield 35, 3, 211, 9, 9, 0, []),
  (211, .iload_n 1, 1, 212, 0, 0, 0, []),
  (212, .baload, 1, 213, 0, 0, 0, []),
  (213, .ifCond .eq 12, 3, 216, 225, 0, 0, []),
  (216, .aload_n 0, 1, 217, 0, 0, 0, []),
  (217, .getfield 44, 3, 220, 9, 12, 0, []),
  (220, .iload_n 1, 1, 221, 0, 0, 0, []),
  (221, .iaload, 1, 222, 0, 0, 0, []),
  (222, .goto 4, 3, 225, 226, 0, 0, []),
  (225, .iconst (-1), 1, 226, 0, 0, (-1), []),
  (226, .ireturn, 1, 227, 0, 0, 0, []),
  (227, .aload_n 0, 1, 228, 0, 0, 0, []),
  (228, .getfield 35, 3, 231, 9, 9, 0, []),
  (231, .iload_n 1, 1, 232, 0, 0, 0, []),
  (232, .baload, 1, 233, 0, 0, 0, []),
  (233, .ifCond .eq 16, 3, 236, 249, 0, 0, []),
  (236, .aload_n 0, 1, 237, 0, 0, 0, []),
  (237, .getfield 47, 3, 240, 9, 13, 0, []),
  (240, .iload_n 1, 1, 241, 0, 0, 0, []),
  (241, .baload, 1, 242, 0, 0, 0, []),
  (242, .ifCond .eq 7, 3, 245, 249, 0, 0, []),
  (245, .iconst 1, 1, 246, 0, 0, 1, []),
  (246, .goto 4, 3, 249, 250, 0, 0, []),
  (249, .iconst 0, 1, 250, 0, 0, 0, []),
  (250, .ireturn, 1, 251, 0, 0, 0, []),
  (251, .aload_n 0, 1, 252, 0, 0, 0, []),
  (252, .getfield 35, 3, 255, 9, 9, 0, []),
  (255, .iload_n 1, 1, 256, 0, 0, 0, []),
  (256, .baload, 1, 257, 0, 0, 0, []),
  (257, .ifCond .ne 5, 3, 260, 262, 0, 0, []),
  (260, .iconst 0, 1, 261, 0, 0, 0, []),
  (261, .ireturn, 1, 262, 0, 0, 0, []),
  (262, .aload_n 0, 1, 263, 0, 0, 0, []),
  (263, .invokevirtual 151, 3, 266, M_R_makeLoads, 0, 0, []),
  (266, .aload_n 0, 1, 267, 0, 0, 0, []),
  (267, .getfield 79, 3, 270, 9, 23, 0, []),
  (270, .iload_n 1, 1, 271, 0, 0, 0, []),
  (271, .iaload, 1, 272, 0, 0, 0, []),
  (272, .ireturn, 1, 273, 0, 0, 0, []),
  (273, .iconst 0, 1, 274, 0, 0, 0, []),
  (274, .istore_n 3, 1, 275, 0, 0, 0, []),
  (275, .iconst 0, 1, 276, 0, 0, 0, []),
  (276, .istore 4, 2, 278, 0, 0, 0, []),
  (278, .iload 4, 2, 280, 0, 0, 0, []),
  (280, .aload_n 0, 1, 281, 0, 0, 0, []),
  (281, .getfield 119, 3, 284, 9, 0, 0, []),
  (284, .if_icmp .ge 36, 3, 287, 320, 0, 0, []),
  (287, .aload_n 0, 1, 288, 0, 0, 0, []),
  (288, .getfield 35, 3, 291, 9, 9, 0, []),
  (291, .iload_n 1, 1, 292, 0, 0, 0, []),
  (292, .baload, 1, 293, 0, 0, 0, []),
  (293, .ifCond .eq 27, 3, 296, 320, 0, 0, []),
  (296, .iload_n 3, 1, 297, 0, 0, 0, []),
  (297, .aload_n 0, 1, 298, 0, 0, 0, []),
  (298, .iload_n 1, 1, 299, 0, 0, 0, []),
  (299, .iload 4, 2, 301, 0, 0, 0, []),
  (301, .invokevirtual 144, 3, 304, M_R_stands, 0, 0, []),
  (304, .ifCond .le 7, 3, 307, 311, 0, 0, []),
  (307, .iconst 1, 1, 308, 0, 0, 1, []),
  (308, .goto 4, 3, 311, 312, 0, 0, []),
  (311, .iconst 0, 1, 312, 0, 0, 0, []),
  (312, .iadd, 1, 313, 0, 0, 0, []),
  (313, .istore_n 3, 1, 314, 0, 0, 0, []),
  (314, .iinc 4 1, 3, 317, 0, 0, 1, []),
  (317, .goto (-39), 3, 320, 278, 0, 0, []),
  (320, .iload_n 3, 1, 321, 0, 0, 0, []),
  (321, .ireturn, 1, 322, 0, 0, 0, []),
  (322, .bipush (-9), 2, 324, 0, 0, (-9), []),
  (324, .ireturn, 1, 325, 0, 0, 0, [])]
set_option maxRecDepth 100000 in
theorem kc_R_about : k_R_about.all (am_chk am_m129) = true := by decide +kernel
theorem q_R_about : am_ms[M_R_about]? = some am_m129 := rfl
def k_R_at : List am_I := [
  (0, .iconst 0, 1, 1, 0, 0, 0, []),
  (1, .istore 4, 2, 3, 0, 0, 0, []),
  (3, .iload 4, 2, 5, 0, 0, 0, []),
  (5, .aload_n 0, 1, 6, 0, 0, 0, []),
  (6, .getfield 119, 3, 9, 9, 0, 0, []),
  (9, .if_icmp .ge 113, 3, 12, 122, 0, 0, []),
  (12, .aload_n 0, 1, 13, 0, 0, 0, []),
  (13, .getfield 35, 3, 16, 9, 9, 0, []),
  (16, .iload 4, 2, 18, 0, 0, 0, []),
  (18, .baload, 1, 19, 0, 0, 0, []),
  (19, .ifCond .eq 40, 3, 22, 59, 0, 0, []),
  (22, .iload_n 1, 1, 23, 0, 0, 0, []),
  (23, .aload_n 0, 1, 24, 0, 0, 0, []),
  (24, .getfield 38, 3, 27, 9, 10, 0, []),
  (27, .iload 4, 2, 29, 0, 0, 0, []),
  (29, .iaload, 1, 30, 0, 0, 0, []),
  (30, .if_icmp .lt 29, 3, 33, 59, 0, 0, []),
  (33, .iload_n 2, 1, 34, 0, 0, 0, []),
  (34, .aload_n 0, 1, 35, 0, 0, 0, []),
  (35, .getfield 41, 3, 38, 9, 11, 0, []),
  (38, .iload 4, 2, 40, 0, 0, 0, []),
  (40, .iaload, 1, 41, 0, 0, 0, []),
  (41, .if_icmp .lt 18, 3, 44, 59, 0, 0, []),
  (44, .iload_n 3, 1, 45, 0, 0, 0, []),
  (45, .aload_n 0, 1, 46, 0, 0, 0, []),
  (46, .getfield 44, 3, 49, 9, 12, 0, []),
  (49, .iload 4, 2, 51, 0, 0, 0, []),
  (51, .iaload, 1, 52, 0, 0, 0, []),
  (52, .if_icmp .lt 7, 3, 55, 59, 0, 0, []),
  (55, .iconst 1, 1, 56, 0, 0, 1, []),
  (56, .goto 4, 3, 59, 60, 0, 0, []),
  (59, .iconst 0, 1, 60, 0, 0, 0, []),
  (60, .istore 5, 2, 62, 0, 0, 0, []),
  (62, .iload 5, 2, 64, 0, 0, 0, []),
  (64, .ifCond .eq 52, 3, 67, 116, 0, 0, []),
  (67, .iload_n 1, 1, 68, 0, 0, 0, []),
  (68, .aload_n 0, 1, 69, 0, 0, 0, []),
  (69, .getfield 38, 3, 72, 9, 10, 0, []),
  (72, .iload 4, 2, 74, 0, 0, 0, []),
  (74, .iaload, 1, 75, 0, 0, 0, []),
  (75, .aload_n 0, 1, 76, 0, 0, 0, []),
  (76, .iload 4, 2, 78, 0, 0, 0, []),
  (78, .invokevirtual 126, 3, 81, M_R_longOf, 0, 0, []),
  (81, .iadd, 1, 82, 0, 0, 0, []),
  (82, .if_icmp .ge 34, 3, 85, 116, 0, 0, []),
  (85, .iload_n 2, 1, 86, 0, 0, 0, []),
  (86, .aload_n 0, 1, 87, 0, 0, 0, []),
  (87, .getfield 41, 3, 90, 9, 11, 0, []),
  (90, .iload 4, 2, 92, 0, 0, 0, []),
  (92, .iaload, 1, 93, 0, 0, 0, []),
  (93, .aload_n 0, 1, 94, 0, 0, 0, []),
  (94, .iload 4, 2, 96, 0, 0, 0, []),
  (96, .invokevirtual 134, 3, 99, M_R_wideOf, 0, 0, []),
  (99, .iadd, 1, 100, 0, 0, 0, []),
  (100, .if_icmp .ge 16, 3, 103, 116, 0, 0, []),
  (103, .iload_n 3, 1, 104, 0, 0, 0, []),
  (104, .aload_n 0, 1, 105, 0, 0, 0, []),
  (105, .iload 4, 2, 107, 0, 0, 0, []),
  (107, .invokevirtual 137, 3, 110, M_R_topOf, 0, 0, []),
  (110, .if_icmp .ge 6, 3, 113, 116, 0, 0, []),
  (113, .iload 4, 2, 115, 0, 0, 0, []),
  (115, .ireturn, 1, 116, 0, 0, 0, []),
  (116, .iinc 4 1, 3, 119, 0, 0, 1, []),
  (119, .goto (-116), 3, 122, 3, 0, 0, []),
  (122, .iconst (-1), 1, 123, 0, 0, (-1), []),
  (123, .ireturn, 1, 124, 0, 0, 0, [])]
set_option maxRecDepth 100000 in
theorem kc_R_at : k_R_at.all (am_chk am_m130) = true := by decide +kernel
theorem q_R_at : am_ms[M_R_at]? = some am_m130 := rfl
def k_R_axle : List am_I := [
  (0, .iload_n 1, 1, 1, 0, 0, 0, []),
  (1, .iconst 0, 1, 2, 0, 0, 0, []),
  (2, .iconst 1, 1, 3, 0, 0, 1, []),
  (3, .invokestatic 115, 3, 6, M_R_in, 0, 0, []),
  (6, .ifCond .eq 22, 3, 9, 28, 0, 0, []),
  (9, .iload_n 2, 1, 10, 0, 0, 0, []),
  (10, .iconst 0, 1, 11, 0, 0, 0, []),
  (11, .bipush 6, 2, 13, 0, 0, 6, []),
  (13, .invokestatic 115, 3, 16, M_R_in, 0, 0, []),
  (16, .ifCond .eq 12, 3, 19, 28, 0, 0, []),
  (19, .iload_n 3, 1, 20, 0, 0, 0, []),
  (20, .iconst 0, 1, 21, 0, 0, 0, []),
  (21, .iconst 1, 1, 22, 0, 0, 1, []),
  (22, .invokestatic 115, 3, 25, M_R_in, 0, 0, []),
  (25, .ifCond .ne 6, 3, 28, 31, 0, 0, []),
  (28, .ldc 203, 2, 30, 0, 0, (-2000000000), []),
  (30, .ireturn, 1, 31, 0, 0, 0, []),
  (31, .aload_n 0, 1, 32, 0, 0, 0, []),
  (32, .iload_n 1, 1, 33, 0, 0, 0, []),
  (33, .iload_n 2, 1, 34, 0, 0, 0, []),
  (34, .invokevirtual 204, 3, 37, M_R_axleOf, 0, 0, []),
  (37, .istore 4, 2, 39, 0, 0, 0, []),
  (39, .iconst 2, 1, 40, 0, 0, 2, []),
  (40, .aload_n 0, 1, 41, 0, 0, 0, []),
  (41, .getfield 66, 3, 44, 9, 19, 0, []),
  (44, .aload_n 0, 1, 45, 0, 0, 0, []),
  (45, .getfield 63, 3, 48, 9, 18, 0, []),
  (48, .isub, 1, 49, 0, 0, 0, []),
  (49, .imul, 1, 50, 0, 0, 0, []),
  (50, .istore 5, 2, 52, 0, 0, 0, []),
  (52, .iload 4, 2, 54, 0, 0, 0, []),
  (54, .ifCond .ge 9, 3, 57, 63, 0, 0, []),
  (57, .iload 4, 2, 59, 0, 0, 0, []),
  (59, .ineg, 1, 60, 0, 0, 0, []),
  (60, .goto 5, 3, 63, 65, 0, 0, []),
  (63, .iload 4, 2, 65, 0, 0, 0, []),
  (65, .istore 6, 2, 67, 0, 0, 0, []),
  (67, .iload 5, 2, 69, 0, 0, 0, []),
  (69, .istore 7, 2, 71, 0, 0, 0, []),
  (71, .iload 7, 2, 73, 0, 0, 0, []),
  (73, .ifCond .eq 21, 3, 76, 94, 0, 0, []),
  (76, .iload 6, 2, 78, 0, 0, 0, []),
  (78, .iload 7, 2, 80, 0, 0, 0, []),
  (80, .irem, 1, 81, 0, 0, 0, []),
  (81, .istore 8, 2, 83, 0, 0, 0, []),
  (83, .iload 7, 2, 85, 0, 0, 0, []),
  (85, .istore 6, 2, 87, 0, 0, 0, []),
  (87, .iload 8, 2, 89, 0, 0, 0, []),
  (89, .istore 7, 2, 91, 0, 0, 0, []),
  (91, .goto (-20), 3, 94, 71, 0, 0, []),
  (94, .iload_n 3, 1, 95, 0, 0, 0, []),
  (95, .ifCond .ne 11, 3, 98, 106, 0, 0, []),
  (98, .iload 4, 2, 100, 0, 0, 0, []),
  (100, .iload 6, 2, 102, 0, 0, 0, []),
  (102, .idiv, 1, 103, 0, 0, 0, []),
  (103, .goto 8, 3, 106, 111, 0, 0, []),
  (106, .iload 5, 2, 108, 0, 0, 0, []),
  (108, .iload 6, 2, 110, 0, 0, 0, []),
  (110, .idiv, 1, 111, 0, 0, 0, []),
  (111, .ireturn, 1, 112, 0, 0, 0, [])]
set_option maxRecDepth 100000 in
theorem kc_R_axle : k_R_axle.all (am_chk am_m131) = true := by decide +kernel
theorem q_R_axle : am_ms[M_R_axle]? = some am_m131 := rfl
def k_R_axleOf : List am_I := [
  (0, .iconst 0, 1, 1, 0, 0, 0, []),
  (1, .istore_n 3, 1, 2, 0, 0, 0, []),
  (2, .iconst 0, 1, 3, 0, 0, 0, []),
  (3, .istore 4, 2, 5, 0, 0, 0, []),
  (5, .iload 4, 2, 7, 0, 0, 0, []),
  (7, .aload_n 0, 1, 8, 0, 0, 0, []),
  (8, .getfield 119, 3, 11, 9, 0, 0, []),
  (11, .if_icmp .ge 57, 3, 14, 68, 0, 0, []),
  (14, .iload_n 3, 1, 15, 0, 0, 0, []),
  (15, .aload_n 0, 1, 16, 0, 0, 0, []),
  (16, .iload 4, 2, 18, 0, 0, 0, []),
  (18, .iload_n 2, 1, 19, 0, 0, 0, []),
  (19, .invokevirtual 197, 3, 22, M_R_isLeft, 0, 0, []),
  (22, .ifCond .eq 37, 3, 25, 59, 0, 0, []),
  (25, .aload_n 0, 1, 26, 0, 0, 0, []),
  (26, .getfield 19, 3, 29, 9, 4, 0, []),
  (29, .iload 4, 2, 31, 0, 0, 0, []),
  (31, .iaload, 1, 32, 0, 0, 0, []),
  (32, .iconst 2, 1, 33, 0, 0, 2, []),
  (33, .aload_n 0, 1, 34, 0, 0, 0, []),
  (34, .getfield 38, 3, 37, 9, 10, 0, []),
  (37, .iload 4, 2, 39, 0, 0, 0, []),
  (39, .iaload, 1, 40, 0, 0, 0, []),
  (40, .imul, 1, 41, 0, 0, 0, []),
  (41, .aload_n 0, 1, 42, 0, 0, 0, []),
  (42, .iload 4, 2, 44, 0, 0, 0, []),
  (44, .invokevirtual 126, 3, 47, M_R_longOf, 0, 0, []),
  (47, .iadd, 1, 48, 0, 0, 0, []),
  (48, .iconst 2, 1, 49, 0, 0, 2, []),
  (49, .aload_n 0, 1, 50, 0, 0, 0, []),
  (50, .getfield 63, 3, 53, 9, 18, 0, []),
  (53, .imul, 1, 54, 0, 0, 0, []),
  (54, .isub, 1, 55, 0, 0, 0, []),
  (55, .imul, 1, 56, 0, 0, 0, []),
  (56, .goto 4, 3, 59, 60, 0, 0, []),
  (59, .iconst 0, 1, 60, 0, 0, 0, []),
  (60, .iadd, 1, 61, 0, 0, 0, []),
  (61, .istore_n 3, 1, 62, 0, 0, 0, []),
  (62, .iinc 4 1, 3, 65, 0, 0, 1, []),
  (65, .goto (-60), 3, 68, 5, 0, 0, []),
  (68, .iload_n 1, 1, 69, 0, 0, 0, []),
  (69, .iconst 1, 1, 70, 0, 0, 1, []),
  (70, .if_icmp .ne 7, 3, 73, 77, 0, 0, []),
  (73, .iload_n 3, 1, 74, 0, 0, 0, []),
  (74, .goto 22, 3, 77, 96, 0, 0, []),
  (77, .aload_n 0, 1, 78, 0, 0, 0, []),
  (78, .iload_n 2, 1, 79, 0, 0, 0, []),
  (79, .invokevirtual 200, 3, 82, M_R_weights, 0, 0, []),
  (82, .iconst 2, 1, 83, 0, 0, 2, []),
  (83, .imul, 1, 84, 0, 0, 0, []),
  (84, .aload_n 0, 1, 85, 0, 0, 0, []),
  (85, .getfield 66, 3, 88, 9, 19, 0, []),
  (88, .aload_n 0, 1, 89, 0, 0, 0, []),
  (89, .getfield 63, 3, 92, 9, 18, 0, []),
  (92, .isub, 1, 93, 0, 0, 0, []),
  (93, .imul, 1, 94, 0, 0, 0, []),
  (94, .iload_n 3, 1, 95, 0, 0, 0, []),
  (95, .isub, 1, 96, 0, 0, 0, []),
  (96, .ireturn, 1, 97, 0, 0, 0, [])]
set_option maxRecDepth 100000 in
theorem kc_R_axleOf : k_R_axleOf.all (am_chk am_m132) = true := by decide +kernel
theorem q_R_axleOf : am_ms[M_R_axleOf]? = some am_m132 := rfl
def k_R_isLeft : List am_I := [
  (0, .aload_n 0, 1, 1, 0, 0, 0, []),
  (1, .getfield 35, 3, 4, 9, 9, 0, []),
  (4, .iload_n 1, 1, 5, 0, 0, 0, []),
  (5, .baload, 1, 6, 0, 0, 0, []),
  (6, .ifCond .eq 17, 3, 9, 23, 0, 0, []),
  (9, .aload_n 0, 1, 10, 0, 0, 0, []),
  (10, .getfield 25, 3, 13, 9, 6, 0, []),
  (13, .iload_n 1, 1, 14, 0, 0, 0, []),
  (14, .iaload, 1, 15, 0, 0, 0, []),
  (15, .iload_n 2, 1, 16, 0, 0, 0, []),
  (16, .if_icmp .lt 7, 3, 19, 23, 0, 0, []),
  (19, .iconst 1, 1, 20, 0, 0, 1, []),
  (20, .goto 4, 3, 23, 24, 0, 0, []),
  (23, .iconst 0, 1, 24, 0, 0, 0, []),
  (24, .ireturn, 1, 25, 0, 0, 0, [])]
set_option maxRecDepth 100000 in
theorem kc_R_isLeft : k_R_isLeft.all (am_chk am_m133) = true := by decide +kernel
theorem q_R_isLeft : am_ms[M_R_isLeft]? = some am_m133 := rfl
def k_R_weights : List am_I := [
  (0, .iconst 0, 1, 1, 0, 0, 0, []),
  (1, .istore_n 2, 1, 2, 0, 0, 0, []),
  (2, .iconst 0, 1, 3, 0, 0, 0, []),
  (3, .istore_n 3, 1, 4, 0, 0, 0, []),
  (4, .iload_n 3, 1, 5, 0, 0, 0, []),
  (5, .aload_n 0, 1, 6, 0, 0, 0, []),
  (6, .getfield 119, 3, 9, 9, 0, 0, []),
  (9, .if_icmp .ge 31, 3, 12, 40, 0, 0, []),
  (12, .iload_n 2, 1, 13, 0, 0, 0, []),
  (13, .aload_n 0, 1, 14, 0, 0, 0, []),
  (14, .iload_n 3, 1, 15, 0, 0, 0, []),
  (15, .iload_n 1, 1, 16, 0, 0, 0, []),
  (16, .invokevirtual 197, 3, 19, M_R_isLeft, 0, 0, []),
  (19, .ifCond .eq 12, 3, 22, 31, 0, 0, []),
  (22, .aload_n 0, 1, 23, 0, 0, 0, []),
  (23, .getfield 19, 3, 26, 9, 4, 0, []),
  (26, .iload_n 3, 1, 27, 0, 0, 0, []),
  (27, .iaload, 1, 28, 0, 0, 0, []),
  (28, .goto 4, 3, 31, 32, 0, 0, []),
  (31, .iconst 0, 1, 32, 0, 0, 0, []),
  (32, .iadd, 1, 33, 0, 0, 0, []),
  (33, .istore_n 2, 1, 34, 0, 0, 0, []),
  (34, .iinc 3 1, 3, 37, 0, 0, 1, []),
  (37, .goto (-33), 3, 40, 4, 0, 0, []),
  (40, .iload_n 2, 1, 41, 0, 0, 0, []),
  (41, .ireturn, 1, 42, 0, 0, 0, [])]
set_option maxRecDepth 100000 in
theorem kc_R_weights : k_R_weights.all (am_chk am_m134) = true := by decide +kernel
theorem q_R_weights : am_ms[M_R_weights]? = some am_m134 := rfl
def k_R_over : List am_I := [
  (0, .iload_n 1, 1, 1, 0, 0, 0, []),
  (1, .iconst 0, 1, 2, 0, 0, 0, []),
  (2, .bipush 6, 2, 4, 0, 0, 6, []),
  (4, .invokestatic 115, 3, 7, M_R_in, 0, 0, []),
  (7, .ifCond .eq 11, 3, 10, 18, 0, 0, []),
  (10, .aload_n 0, 1, 11, 0, 0, 0, []),
  (11, .iload_n 1, 1, 12, 0, 0, 0, []),
  (12, .invokevirtual 209, 3, 15, M_R_overAt, 0, 0, []),
  (15, .goto 5, 3, 18, 20, 0, 0, []),
  (18, .bipush (-2), 2, 20, 0, 0, (-2), []),
  (20, .ireturn, 1, 21, 0, 0, 0, [])]
set_option maxRecDepth 100000 in
theorem kc_R_over : k_R_over.all (am_chk am_m135) = true := by decide +kernel
theorem q_R_over : am_ms[M_R_over]? = some am_m135 := rfl
def k_R_overAt : List am_I := [
  (0, .aload_n 0, 1, 1, 0, 0, 0, []),
  (1, .iload_n 1, 1, 2, 0, 0, 0, []),
  (2, .invokevirtual 200, 3, 5, M_R_weights, 0, 0, []),
  (5, .istore_n 2, 1, 6, 0, 0, 0, []),
  (6, .iload_n 2, 1, 7, 0, 0, 0, []),
  (7, .ifCond .ne 5, 3, 10, 12, 0, 0, []),
  (10, .iconst 0, 1, 11, 0, 0, 0, []),
  (11, .ireturn, 1, 12, 0, 0, 0, []),
  (12, .iconst 2, 1, 13, 0, 0, 2, []),
  (13, .aload_n 0, 1, 14, 0, 0, 0, []),
  (14, .getfield 66, 3, 17, 9, 19, 0, []),
  (17, .aload_n 0, 1, 18, 0, 0, 0, []),
  (18, .getfield 63, 3, 21, 9, 18, 0, []),
  (21, .isub, 1, 22, 0, 0, 0, []),
  (22, .imul, 1, 23, 0, 0, 0, []),
  (23, .istore_n 3, 1, 24, 0, 0, 0, []),
  (24, .aload_n 0, 1, 25, 0, 0, 0, []),
  (25, .iconst 0, 1, 26, 0, 0, 0, []),
  (26, .iload_n 1, 1, 27, 0, 0, 0, []),
  (27, .invokevirtual 204, 3, 30, M_R_axleOf, 0, 0, []),
  (30, .istore 4, 2, 32, 0, 0, 0, []),
  (32, .aload_n 0, 1, 33, 0, 0, 0, []),
  (33, .iconst 1, 1, 34, 0, 0, 1, []),
  (34, .iload_n 1, 1, 35, 0, 0, 0, []),
  (35, .invokevirtual 204, 3, 38, M_R_axleOf, 0, 0, []),
  (38, .istore 5, 2, 40, 0, 0, 0, []),
  (40, .iload 4, 2, 42, 0, 0, 0, []),
  (42, .ifCond .lt 18, 3, 45, 60, 0, 0, []),
  (45, .iload 4, 2, 47, 0, 0, 0, []),
  (47, .i2l, 1, 48, 0, 0, 0, []),
  (48, .aload_n 0, 1, 49, 0, 0, 0, []),
  (49, .getfield 70, 3, 52, 9, 20, 0, []),
  (52, .i2l, 1, 53, 0, 0, 0, []),
  (53, .iload_n 3, 1, 54, 0, 0, 0, []),
  (54, .i2l, 1, 55, 0, 0, 0, []),
  (55, .lmul, 1, 56, 0, 0, 0, []),
  (56, .lcmp, 1, 57, 0, 0, 0, []),
  (57, .ifCond .le 7, 3, 60, 64, 0, 0, []),
  (60, .iconst 1, 1, 61, 0, 0, 1, []),
  (61, .goto 4, 3, 64, 65, 0, 0, []),
  (64, .iconst 0, 1, 65, 0, 0, 0, []),
  (65, .istore 6, 2, 67, 0, 0, 0, []),
  (67, .iload 5, 2, 69, 0, 0, 0, []),
  (69, .ifCond .lt 18, 3, 72, 87, 0, 0, []),
  (72, .iload 5, 2, 74, 0, 0, 0, []),
  (74, .i2l, 1, 75, 0, 0, 0, []),
  (75, .aload_n 0, 1, 76, 0, 0, 0, []),
  (76, .getfield 73, 3, 79, 9, 21, 0, []),
  (79, .i2l, 1, 80, 0, 0, 0, []),
  (80, .iload_n 3, 1, 81, 0, 0, 0, []),
  (81, .i2l, 1, 82, 0, 0, 0, []),
  (82, .lmul, 1, 83, 0, 0, 0, []),
  (83, .lcmp, 1, 84, 0, 0, 0, []),
  (84, .ifCond .le 9, 3, 87, 93, 0, 0, []),
  (87, .iload 6, 2, 89, 0, 0, 0, []),
  (89, .iconst 2, 1, 90, 0, 0, 2, []),
  (90, .ior, 1, 91, 0, 0, 0, []),
  (91, .istore 6, 2, 93, 0, 0, 0, []),
  (93, .aload_n 0, 1, 94, 0, 0, 0, []),
  (94, .getfield 54, 3, 97, 9, 15, 0, []),
  (97, .ineg, 1, 98, 0, 0, 0, []),
  (98, .iload_n 2, 1, 99, 0, 0, 0, []),
  (99, .imul, 1, 100, 0, 0, 0, []),
  (100, .istore 7, 2, 102, 0, 0, 0, []),
  (102, .iconst 0, 1, 103, 0, 0, 0, []),
  (103, .istore 8, 2, 105, 0, 0, 0, []),
  (105, .iload 8, 2, 107, 0, 0, 0, []),
  (107, .aload_n 0, 1, 108, 0, 0, 0, []),
  (108, .getfield 119, 3, 111, 9, 0, 0, []),
  (111, .if_icmp .ge 52, 3, 114, 163, 0, 0, []),
  (114, .iload 7, 2, 116, 0, 0, 0, []),
  (116, .aload_n 0, 1, 117, 0, 0, 0, []),
  (117, .iload 8, 2, 119, 0, 0, 0, []),
  (119, .iload_n 1, 1, 120, 0, 0, 0, []),
  (120, .invokevirtual 197, 3, 123, M_R_isLeft, 0, 0, []),
  (123, .ifCond .eq 30, 3, 126, 153, 0, 0, []),
  (126, .aload_n 0, 1, 127, 0, 0, 0, []),
  (127, .getfield 19, 3, 130, 9, 4, 0, []),
  (130, .iload 8, 2, 132, 0, 0, 0, []),
  (132, .iaload, 1, 133, 0, 0, 0, []),
  (133, .iconst 2, 1, 134, 0, 0, 2, []),
  (134, .aload_n 0, 1, 135, 0, 0, 0, []),
  (135, .getfield 41, 3, 138, 9, 11, 0, []),
  (138, .iload 8, 2, 140, 0, 0, 0, []),
  (140, .iaload, 1, 141, 0, 0, 0, []),
  (141, .imul, 1, 142, 0, 0, 0, []),
  (142, .aload_n 0, 1, 143, 0, 0, 0, []),
  (143, .iload 8, 2, 145, 0, 0, 0, []),
  (145, .invokevirtual 134, 3, 148, M_R_wideOf, 0, 0, []),
  (148, .iadd, 1, 149, 0, 0, 0, []),
  (149, .imul, 1, 150, 0, 0, 0, []),
  (150, .goto 4, 3, 153, 154, 0, 0, []),
  (153, .iconst 0, 1, 154, 0, 0, 0, []),
  (154, .iadd, 1, 155, 0, 0, 0, []),
  (155, .istore 7, 2, 157, 0, 0, 0, []),
  (157, .iinc 8 1, 3, 160, 0, 0, 1, []),
  (160, .goto (-55), 3, 163, 105, 0, 0, []),
  (163, .iload 7, 2, 165, 0, 0, 0, []),
  (165, .ifCond .ge 9, 3, 168, 174, 0, 0, []),
  (168, .iload 7, 2, 170, 0, 0, 0, []),
  (170, .ineg, 1, 171, 0, 0, 0, []),
  (171, .goto 5, 3, 174, 176, 0, 0, []),
  (174, .iload 7, 2, 176, 0, 0, 0, []),
  (176, .istore 7, 2, 178, 0, 0, 0, []),
  (178, .ldc2_w 207, 3, 181, 100, 0, 0, []),
  (181, .iload 7, 2, 183, 0, 0, 0, []),
  (183, .i2l, 1, 184, 0, 0, 0, []),
  (184, .lmul, 1, 185, 0, 0, 0, []),
  (185, .aload_n 0, 1, 186, 0, 0, 0, []),
  (186, .getfield 76, 3, 189, 9, 22, 0, []),
  (189, .i2l, 1, 190, 0, 0, 0, []),
  (190, .aload_n 0, 1, 191, 0, 0, 0, []),
  (191, .getfield 54, 3, 194, 9, 15, 0, []),
  (194, .i2l, 1, 195, 0, 0, 0, []),
  (195, .lmul, 1, 196, 0, 0, 0, []),
  (196, .iload_n 2, 1, 197, 0, 0, 0, []),
  (197, .i2l, 1, 198, 0, 0, 0, []),
  (198, .lmul, 1, 199, 0, 0, 0, []),
  (199, .lcmp, 1, 200, 0, 0, 0, []),
  (200, .ifCond .le 9, 3, 203, 209, 0, 0, []),
  (203, .iload 6, 2, 205, 0, 0, 0, []),
  (205, .iconst 4, 1, 206, 0, 0, 4, []),
  (206, .ior, 1, 207, 0, 0, 0, []),
  (207, .istore 6, 2, 209, 0, 0, 0, []),
  (209, .iload 6, 2, 211, 0, 0, 0, []),
  (211, .ireturn, 1, 212, 0, 0, 0, [])]
set_option maxRecDepth 100000 in
theorem kc_R_overAt : k_R_overAt.all (am_chk am_m136) = true := by decide +kernel
theorem q_R_overAt : am_ms[M_R_overAt]? = some am_m136 := rfl
def k_R_fit : List am_I := [
  (0, .iconst 0, 1, 1, 0, 0, 0, []),
  (1, .istore_n 1, 1, 2, 0, 0, 0, []),
  (2, .iload_n 1, 1, 3, 0, 0, 0, []),
  (3, .bipush 7, 2, 5, 0, 0, 7, []),
  (5, .if_icmp .ge 19, 3, 8, 24, 0, 0, []),
  (8, .aload_n 0, 1, 9, 0, 0, 0, []),
  (9, .iload_n 1, 1, 10, 0, 0, 0, []),
  (10, .invokevirtual 209, 3, 13, M_R_overAt, 0, 0, []),
  (13, .ifCond .eq 5, 3, 16, 18, 0, 0, []),
  (16, .iload_n 1, 1, 17, 0, 0, 0, []),
  (17, .ireturn, 1, 18, 0, 0, 0, []),
  (18, .iinc 1 1, 3, 21, 0, 0, 1, []),
  (21, .goto (-19), 3, 24, 2, 0, 0, []),
  (24, .iconst (-1), 1, 25, 0, 0, (-1), []),
  (25, .ireturn, 1, 26, 0, 0, 0, [])]
set_option maxRecDepth 100000 in
theorem kc_R_fit : k_R_fit.all (am_chk am_m137) = true := by decide +kernel
theorem q_R_fit : am_ms[M_R_fit]? = some am_m137 := rfl
def k_R_cut : List am_I := [
  (0, .iload_n 1, 1, 1, 0, 0, 0, []),
  (1, .iconst 1, 1, 2, 0, 0, 1, []),
  (2, .bipush 16, 2, 4, 0, 0, 16, []),
  (4, .invokestatic 115, 3, 7, M_R_in, 0, 0, []),
  (7, .ifCond .eq 23, 3, 10, 30, 0, 0, []),
  (10, .iload_n 2, 1, 11, 0, 0, 0, []),
  (11, .iconst 1, 1, 12, 0, 0, 1, []),
  (12, .bipush 16, 2, 14, 0, 0, 16, []),
  (14, .invokestatic 115, 3, 17, M_R_in, 0, 0, []),
  (17, .ifCond .eq 13, 3, 20, 30, 0, 0, []),
  (20, .iload_n 3, 1, 21, 0, 0, 0, []),
  (21, .iconst 1, 1, 22, 0, 0, 1, []),
  (22, .bipush 16, 2, 24, 0, 0, 16, []),
  (24, .invokestatic 115, 3, 27, M_R_in, 0, 0, []),
  (27, .ifCond .ne 6, 3, 30, 33, 0, 0, []),
  (30, .bipush (-2), 2, 32, 0, 0, (-2), []),
  (32, .ireturn, 1, 33, 0, 0, 0, []),
  (33, .aload_n 0, 1, 34, 0, 0, 0, []),
  (34, .iload_n 1, 1, 35, 0, 0, 0, []),
  (35, .iload_n 2, 1, 36, 0, 0, 0, []),
  (36, .iload_n 3, 1, 37, 0, 0, 0, []),
  (37, .invokevirtual 227, 3, 40, M_R_makeMost, 0, 0, []),
  (40, .aload_n 0, 1, 41, 0, 0, 0, []),
  (41, .iconst 0, 1, 42, 0, 0, 0, []),
  (42, .putfield 85, 3, 45, 9, 28, 0, []),
  (45, .aload_n 0, 1, 46, 0, 0, 0, []),
  (46, .iconst 0, 1, 47, 0, 0, 0, []),
  (47, .iconst 0, 1, 48, 0, 0, 0, []),
  (48, .iconst 0, 1, 49, 0, 0, 0, []),
  (49, .iload_n 1, 1, 50, 0, 0, 0, []),
  (50, .iload_n 2, 1, 51, 0, 0, 0, []),
  (51, .iload_n 3, 1, 52, 0, 0, 0, []),
  (52, .invokevirtual 223, 3, 55, M_R_pattern, 0, 0, []),
  (55, .aload_n 0, 1, 56, 0, 0, 0, []),
  (56, .getfield 82, 3, 59, 9, 27, 0, []),
  (59, .iload_n 1, 1, 60, 0, 0, 0, []),
  (60, .iload_n 2, 1, 61, 0, 0, 0, []),
  (61, .iload_n 3, 1, 62, 0, 0, 0, []),
  (62, .invokestatic 216, 3, 65, M_R_block, 0, 0, []),
  (65, .iaload, 1, 66, 0, 0, 0, []),
  (66, .ireturn, 1, 67, 0, 0, 0, [])]
set_option maxRecDepth 100000 in
theorem kc_R_cut : k_R_cut.all (am_chk am_m138) = true := by decide +kernel
theorem q_R_cut : am_ms[M_R_cut]? = some am_m138 := rfl
def k_R_makeMost : List am_I := [
  (0, .iconst 1, 1, 1, 0, 0, 1, []),
  (1, .istore 4, 2, 3, 0, 0, 0, []),
  (3, .iload 4, 2, 5, 0, 0, 0, []),
  (5, .iload_n 1, 1, 6, 0, 0, 0, []),
  (6, .if_icmp .gt 294, 3, 9, 300, 0, 0, []),
  (9, .iconst 1, 1, 10, 0, 0, 1, []),
  (10, .istore 5, 2, 12, 0, 0, 0, []),
  (12, .iload 5, 2, 14, 0, 0, 0, []),
  (14, .iload_n 2, 1, 15, 0, 0, 0, []),
  (15, .if_icmp .gt 279, 3, 18, 294, 0, 0, []),
  (18, .iconst 1, 1, 19, 0, 0, 1, []),
  (19, .istore 6, 2, 21, 0, 0, 0, []),
  (21, .iload 6, 2, 23, 0, 0, 0, []),
  (23, .iload_n 3, 1, 24, 0, 0, 0, []),
  (24, .if_icmp .gt 264, 3, 27, 288, 0, 0, []),
  (27, .iconst 0, 1, 28, 0, 0, 0, []),
  (28, .istore 7, 2, 30, 0, 0, 0, []),
  (30, .iconst 0, 1, 31, 0, 0, 0, []),
  (31, .istore 8, 2, 33, 0, 0, 0, []),
  (33, .iload 8, 2, 35, 0, 0, 0, []),
  (35, .aload_n 0, 1, 36, 0, 0, 0, []),
  (36, .getfield 119, 3, 39, 9, 0, 0, []),
  (39, .if_icmp .ge 62, 3, 42, 101, 0, 0, []),
  (42, .aload_n 0, 1, 43, 0, 0, 0, []),
  (43, .getfield 32, 3, 46, 9, 8, 0, []),
  (46, .iload 8, 2, 48, 0, 0, 0, []),
  (48, .iaload, 1, 49, 0, 0, 0, []),
  (49, .iload 7, 2, 51, 0, 0, 0, []),
  (51, .if_icmp .le 44, 3, 54, 95, 0, 0, []),
  (54, .aload_n 0, 1, 55, 0, 0, 0, []),
  (55, .iload 8, 2, 57, 0, 0, 0, []),
  (57, .iload 4, 2, 59, 0, 0, 0, []),
  (59, .iload 5, 2, 61, 0, 0, 0, []),
  (61, .iload 6, 2, 63, 0, 0, 0, []),
  (63, .iconst 0, 1, 64, 0, 0, 0, []),
  (64, .invokevirtual 212, 3, 67, M_R_isPiece, 0, 0, []),
  (67, .ifCond .ne 19, 3, 70, 86, 0, 0, []),
  (70, .aload_n 0, 1, 71, 0, 0, 0, []),
  (71, .iload 8, 2, 73, 0, 0, 0, []),
  (73, .iload 4, 2, 75, 0, 0, 0, []),
  (75, .iload 5, 2, 77, 0, 0, 0, []),
  (77, .iload 6, 2, 79, 0, 0, 0, []),
  (79, .iconst 1, 1, 80, 0, 0, 1, []),
  (80, .invokevirtual 212, 3, 83, M_R_isPiece, 0, 0, []),
  (83, .ifCond .eq 12, 3, 86, 95, 0, 0, []),
  (86, .aload_n 0, 1, 87, 0, 0, 0, []),
  (87, .getfield 32, 3, 90, 9, 8, 0, []),
  (90, .iload 8, 2, 92, 0, 0, 0, []),
  (92, .iaload, 1, 93, 0, 0, 0, []),
  (93, .istore 7, 2, 95, 0, 0, 0, []),
  (95, .iinc 8 1, 3, 98, 0, 0, 1, []),
  (98, .goto (-65), 3, 101, 33, 0, 0, []),
  (101, .iconst 1, 1, 102, 0, 0, 1, []),
  (102, .istore 8, 2, 104, 0, 0, 0, []),
  (104, .iload 8, 2, 106, 0, 0, 0, []),
  (106, .iload 4, 2, 108, 0, 0, 0, []),
  (108, .if_icmp .ge 48, 3, 111, 156, 0, 0, []),
  (111, .iload 7, 2, 113, 0, 0, 0, []),
  (113, .aload_n 0, 1, 114, 0, 0, 0, []),
  (114, .getfield 82, 3, 117, 9, 27, 0, []),
  (117, .iload 8, 2, 119, 0, 0, 0, []),
  (119, .iload 5, 2, 121, 0, 0, 0, []),
  (121, .iload 6, 2, 123, 0, 0, 0, []),
  (123, .invokestatic 216, 3, 126, M_R_block, 0, 0, []),
  (126, .iaload, 1, 127, 0, 0, 0, []),
  (127, .aload_n 0, 1, 128, 0, 0, 0, []),
  (128, .getfield 82, 3, 131, 9, 27, 0, []),
  (131, .iload 4, 2, 133, 0, 0, 0, []),
  (133, .iload 8, 2, 135, 0, 0, 0, []),
  (135, .isub, 1, 136, 0, 0, 0, []),
  (136, .iload 5, 2, 138, 0, 0, 0, []),
  (138, .iload 6, 2, 140, 0, 0, 0, []),
  (140, .invokestatic 216, 3, 143, M_R_block, 0, 0, []),
  (143, .iaload, 1, 144, 0, 0, 0, []),
  (144, .iadd, 1, 145, 0, 0, 0, []),
  (145, .invokestatic 220, 3, 148, M_R_greater, 0, 0, []),
  (148, .istore 7, 2, 150, 0, 0, 0, []),
  (150, .iinc 8 1, 3, 153, 0, 0, 1, []),
  (153, .goto (-49), 3, 156, 104, 0, 0, []),
  (156, .iconst 1, 1, 157, 0, 0, 1, []),
  (157, .istore 8, 2, 159, 0, 0, 0, []),
  (159, .iload 8, 2, 161, 0, 0, 0, []),
  (161, .iload 5, 2, 163, 0, 0, 0, []),
  (163, .if_icmp .ge 48, 3, 166, 211, 0, 0, []),
  (166, .iload 7, 2, 168, 0, 0, 0, []),
  (168, .aload_n 0, 1, 169, 0, 0, 0, []),
  (169, .getfield 82, 3, 172, 9, 27, 0, []),
  (172, .iload 4, 2, 174, 0, 0, 0, []),
  (174, .iload 8, 2, 176, 0, 0, 0, []),
  (176, .iload 6, 2, 178, 0, 0, 0, []),
  (178, .invokestatic 216, 3, 181, M_R_block, 0, 0, []),
  (181, .iaload, 1, 182, 0, 0, 0, []),
  (182, .aload_n 0, 1, 183, 0, 0, 0, []),
  (183, .getfield 82, 3, 186, 9, 27, 0, []),
  (186, .iload 4, 2, 188, 0, 0, 0, []),
  (188, .iload 5, 2, 190, 0, 0, 0, []),
  (190, .iload 8, 2, 192, 0, 0, 0, []),
  (192, .isub, 1, 193, 0, 0, 0, []),
  (193, .iload 6, 2, 195, 0, 0, 0, []),
  (195, .invokestatic 216, 3, 198, M_R_block, 0, 0, []),
  (198, .iaload, 1, 199, 0, 0, 0, []),
  (199, .iadd, 1, 200, 0, 0, 0, []),
  (200, .invokestatic 220, 3, 203, M_R_greater, 0, 0, []),
  (203, .istore 7, 2, 205, 0, 0, 0, []),
  (205, .iinc 8 1, 3, 208, 0, 0, 1, []),
  (208, .goto (-49), 3, 211, 159, 0, 0, []),
  (211, .iconst 1, 1, 212, 0, 0, 1, []),
  (212, .istore 8, 2, 214, 0, 0, 0, []),
  (214, .iload 8, 2, 216, 0, 0, 0, []),
  (216, .iload 6, 2, 218, 0, 0, 0, []),
  (218, .if_icmp .ge 48, 3, 221, 266, 0, 0, []),
  (221, .iload 7, 2, 223, 0, 0, 0, []),
  (223, .aload_n 0, 1, 224, 0, 0, 0, []),
  (224, .getfield 82, 3, 227, 9, 27, 0, []),
  (227, .iload 4, 2, 229, 0, 0, 0, []),
  (229, .iload 5, 2, 231, 0, 0, 0, []),
  (231, .iload 8, 2, 233, 0, 0, 0, []),
  (233, .invokestatic 216, 3, 236, M_R_block, 0, 0, []),
  (236, .iaload, 1, 237, 0, 0, 0, []),
  (237, .aload_n 0, 1, 238, 0, 0, 0, []),
  (238, .getfield 82, 3, 241, 9, 27, 0, []),
  (241, .iload 4, 2, 243, 0, 0, 0, []),
  (243, .iload 5, 2, 245, 0, 0, 0, []),
  (245, .iload 6, 2, 247, 0, 0, 0, []),
  (247, .iload 8, 2, 249, 0, 0, 0, []),
  (249, .isub, 1, 250, 0, 0, 0, []),
  (250, .invokestatic 216, 3, 253, M_R_block, 0, 0, []),
  (253, .iaload, 1, 254, 0, 0, 0, []),
  (254, .iadd, 1, 255, 0, 0, 0, []),
  (255, .invokestatic 220, 3, 258, M_R_greater, 0, 0, []),
  (258, .istore 7, 2, 260, 0, 0, 0, []),
  (260, .iinc 8 1, 3, 263, 0, 0, 1, []),
  (263, .goto (-49), 3, 266, 214, 0, 0, []),
  (266, .aload_n 0, 1, 267, 0, 0, 0, []),
  (267, .getfield 82, 3, 270, 9, 27, 0, []),
  (270, .iload 4, 2, 272, 0, 0, 0, []),
  (272, .iload 5, 2, 274, 0, 0, 0, []),
  (274, .iload 6, 2, 276, 0, 0, 0, []),
  (276, .invokestatic 216, 3, 279, M_R_block, 0, 0, []),
  (279, .iload 7, 2, 281, 0, 0, 0, []),
  (281, .iastore, 1, 282, 0, 0, 0, []),
  (282, .iinc 6 1, 3, 285, 0, 0, 1, []),
  (285, .goto (-264), 3, 288, 21, 0, 0, []),
  (288, .iinc 5 1, 3, 291, 0, 0, 1, []),
  (291, .goto (-279), 3, 294, 12, 0, 0, []),
  (294, .iinc 4 1, 3, 297, 0, 0, 1, []),
  (297, .goto (-294), 3, 300, 3, 0, 0, []),
  (300, .return_, 1, 301, 0, 0, 0, [])]
set_option maxRecDepth 100000 in
theorem kc_R_makeMost : k_R_makeMost.all (am_chk am_m139) = true := by decide +kernel
theorem q_R_makeMost : am_ms[M_R_makeMost]? = some am_m139 := rfl
def k_R_isPiece : List am_I := [
  (0, .aload_n 0, 1, 1, 0, 0, 0, []),
  (1, .getfield 16, 3, 4, 9, 3, 0, []),
  (4, .iload_n 1, 1, 5, 0, 0, 0, []),
  (5, .iaload, 1, 6, 0, 0, 0, []),
  (6, .iload 4, 2, 8, 0, 0, 0, []),
  (8, .if_icmp .ne 64, 3, 11, 72, 0, 0, []),
  (11, .iload 5, 2, 13, 0, 0, 0, []),
  (13, .ifCond .eq 35, 3, 16, 48, 0, 0, []),
  (16, .aload_n 0, 1, 17, 0, 0, 0, []),
  (17, .getfield 28, 3, 20, 9, 7, 0, []),
  (20, .iload_n 1, 1, 21, 0, 0, 0, []),
  (21, .baload, 1, 22, 0, 0, 0, []),
  (22, .ifCond .eq 50, 3, 25, 72, 0, 0, []),
  (25, .aload_n 0, 1, 26, 0, 0, 0, []),
  (26, .getfield 13, 3, 29, 9, 2, 0, []),
  (29, .iload_n 1, 1, 30, 0, 0, 0, []),
  (30, .iaload, 1, 31, 0, 0, 0, []),
  (31, .iload_n 2, 1, 32, 0, 0, 0, []),
  (32, .if_icmp .ne 40, 3, 35, 72, 0, 0, []),
  (35, .aload_n 0, 1, 36, 0, 0, 0, []),
  (36, .getfield 7, 3, 39, 9, 1, 0, []),
  (39, .iload_n 1, 1, 40, 0, 0, 0, []),
  (40, .iaload, 1, 41, 0, 0, 0, []),
  (41, .iload_n 3, 1, 42, 0, 0, 0, []),
  (42, .if_icmp .ne 30, 3, 45, 72, 0, 0, []),
  (45, .goto 23, 3, 48, 68, 0, 0, []),
  (48, .aload_n 0, 1, 49, 0, 0, 0, []),
  (49, .getfield 7, 3, 52, 9, 1, 0, []),
  (52, .iload_n 1, 1, 53, 0, 0, 0, []),
  (53, .iaload, 1, 54, 0, 0, 0, []),
  (54, .iload_n 2, 1, 55, 0, 0, 0, []),
  (55, .if_icmp .ne 17, 3, 58, 72, 0, 0, []),
  (58, .aload_n 0, 1, 59, 0, 0, 0, []),
  (59, .getfield 13, 3, 62, 9, 2, 0, []),
  (62, .iload_n 1, 1, 63, 0, 0, 0, []),
  (63, .iaload, 1, 64, 0, 0, 0, []),
  (64, .iload_n 3, 1, 65, 0, 0, 0, []),
  (65, .if_icmp .ne 7, 3, 68, 72, 0, 0, []),
  (68, .iconst 1, 1, 69, 0, 0, 1, []),
  (69, .goto 4, 3, 72, 73, 0, 0, []),
  (72, .iconst 0, 1, 73, 0, 0, 0, []),
  (73, .ireturn, 1, 74, 0, 0, 0, [])]
set_option maxRecDepth 100000 in
theorem kc_R_isPiece : k_R_isPiece.all (am_chk am_m140) = true := by decide +kernel
theorem q_R_isPiece : am_ms[M_R_isPiece]? = some am_m140 := rfl
def k_R_block : List am_I := [
  (0, .bipush 17, 2, 2, 0, 0, 17, []),
  (2, .bipush 17, 2, 4, 0, 0, 17, []),
  (4, .iload_n 0, 1, 5, 0, 0, 0, []),
  (5, .imul, 1, 6, 0, 0, 0, []),
  (6, .iload_n 1, 1, 7, 0, 0, 0, []),
  (7, .iadd, 1, 8, 0, 0, 0, []),
  (8, .imul, 1, 9, 0, 0, 0, []),
  (9, .iload_n 2, 1, 10, 0, 0, 0, []),
  (10, .iadd, 1, 11, 0, 0, 0, []),
  (11, .ireturn, 1, 12, 0, 0, 0, [])]
set_option maxRecDepth 100000 in
theorem kc_R_block : k_R_block.all (am_chk am_m141) = true := by decide +kernel
theorem q_R_block : am_ms[M_R_block]? = some am_m141 := rfl
def k_R_greater : List am_I := [
  (0, .iload_n 0, 1, 1, 0, 0, 0, []),
  (1, .iload_n 1, 1, 2, 0, 0, 0, []),
  (2, .if_icmp .le 7, 3, 5, 9, 0, 0, []),
  (5, .iload_n 0, 1, 6, 0, 0, 0, []),
  (6, .goto 4, 3, 9, 10, 0, 0, []),
  (9, .iload_n 1, 1, 10, 0, 0, 0, []),
  (10, .ireturn, 1, 11, 0, 0, 0, [])]
set_option maxRecDepth 100000 in
theorem kc_R_greater : k_R_greater.all (am_chk am_m142) = true := by decide +kernel
theorem q_R_greater : am_ms[M_R_greater]? = some am_m142 := rfl
def k_R_pattern : List am_I := [
  (0, .aload_n 0, 1, 1, 0, 0, 0, []),
  (1, .getfield 82, 3, 4, 9, 27, 0, []),
  (4, .iload 4, 2, 6, 0, 0, 0, []),
  (6, .iload 5, 2, 8, 0, 0, 0, []),
  (8, .iload 6, 2, 10, 0, 0, 0, []),
  (10, .invokestatic 216, 3, 13, M_R_block, 0, 0, []),
  (13, .iaload, 1, 14, 0, 0, 0, []),
  (14, .istore 7, 2, 16, 0, 0, 0, []),
  (16, .iload 7, 2, 18, 0, 0, 0, []),
  (18, .ifCond .ne 4, 3, 21, 22, 0, 0, []),
  (21, .return_, 1, 22, 0, 0, 0, []),
  (22, .iconst 0, 1, 23, 0, 0, 0, []),
  (23, .istore 8, 2, 25, 0, 0, 0, []),
  (25, .iload 8, 2, 27, 0, 0, 0, []),
  (27, .aload_n 0, 1, 28, 0, 0, 0, []),
  (28, .getfield 119, 3, 31, 9, 0, 0, []),
  (31, .if_icmp .ge 131, 3, 34, 162, 0, 0, []),
  (34, .aload_n 0, 1, 35, 0, 0, 0, []),
  (35, .iload 8, 2, 37, 0, 0, 0, []),
  (37, .iload 4, 2, 39, 0, 0, 0, []),
  (39, .iload 5, 2, 41, 0, 0, 0, []),
  (41, .iload 6, 2, 43, 0, 0, 0, []),
  (43, .iconst 0, 1, 44, 0, 0, 0, []),
  (44, .invokevirtual 212, 3, 47, M_R_isPiece, 0, 0, []),
  (47, .istore 9, 2, 49, 0, 0, 0, []),
  (49, .aload_n 0, 1, 50, 0, 0, 0, []),
  (50, .getfield 32, 3, 53, 9, 8, 0, []),
  (53, .iload 8, 2, 55, 0, 0, 0, []),
  (55, .iaload, 1, 56, 0, 0, 0, []),
  (56, .iload 7, 2, 58, 0, 0, 0, []),
  (58, .if_icmp .ne 98, 3, 61, 156, 0, 0, []),
  (61, .iload 9, 2, 63, 0, 0, 0, []),
  (63, .ifCond .ne 22, 3, 66, 85, 0, 0, []),
  (66, .aload_n 0, 1, 67, 0, 0, 0, []),
  (67, .iload 8, 2, 69, 0, 0, 0, []),
  (69, .iload 4, 2, 71, 0, 0, 0, []),
  (71, .iload 5, 2, 73, 0, 0, 0, []),
  (73, .iload 6, 2, 75, 0, 0, 0, []),
  (75, .iconst 1, 1, 76, 0, 0, 1, []),
  (76, .invokevirtual 212, 3, 79, M_R_isPiece, 0, 0, []),
  (79, .ifCond .ne 6, 3, 82, 85, 0, 0, []),
  (82, .goto 74, 3, 85, 156, 0, 0, []),
  (85, .aload_n 0, 1, 86, 0, 0, 0, []),
  (86, .getfield 88, 3, 89, 9, 29, 0, []),
  (89, .aload_n 0, 1, 90, 0, 0, 0, []),
  (90, .getfield 85, 3, 93, 9, 28, 0, []),
  (93, .iload 8, 2, 95, 0, 0, 0, []),
  (95, .iastore, 1, 96, 0, 0, 0, []),
  (96, .aload_n 0, 1, 97, 0, 0, 0, []),
  (97, .getfield 91, 3, 100, 9, 30, 0, []),
  (100, .aload_n 0, 1, 101, 0, 0, 0, []),
  (101, .getfield 85, 3, 104, 9, 28, 0, []),
  (104, .iload_n 1, 1, 105, 0, 0, 0, []),
  (105, .iastore, 1, 106, 0, 0, 0, []),
  (106, .aload_n 0, 1, 107, 0, 0, 0, []),
  (107, .getfield 94, 3, 110, 9, 31, 0, []),
  (110, .aload_n 0, 1, 111, 0, 0, 0, []),
  (111, .getfield 85, 3, 114, 9, 28, 0, []),
  (114, .iload_n 2, 1, 115, 0, 0, 0, []),
  (115, .iastore, 1, 116, 0, 0, 0, []),
  (116, .aload_n 0, 1, 117, 0, 0, 0, []),
  (117, .getfield 97, 3, 120, 9, 32, 0, []),
  (120, .aload_n 0, 1, 121, 0, 0, 0, []),
  (121, .getfield 85, 3, 124, 9, 28, 0, []),
  (124, .iload_n 3, 1, 125, 0, 0, 0, []),
  (125, .iastore, 1, 126, 0, 0, 0, []),
  (126, .aload_n 0, 1, 127, 0, 0, 0, []),
  (127, .getfield 100, 3, 130, 9, 33, 0, []),
  (130, .aload_n 0, 1, 131, 0, 0, 0, []),
  (131, .getfield 85, 3, 134, 9, 28, 0, []),
  (134, .iload 9, 2, 136, 0, 0, 0, []),
  (136, .ifCond .ne 7, 3, 139, 143, 0, 0, []),
  (139, .iconst 1, 1, 140, 0, 0, 1, []),
  (140, .goto 4, 3, 143, 144, 0, 0, []),
  (143, .iconst 0, 1, 144, 0, 0, 0, []),
  (144, .bastore, 1, 145, 0, 0, 0, []),
  (145, .aload_n 0, 1, 146, 0, 0, 0, []),
  (146, .dup, 1, 147, 0, 0, 0, []),
  (147, .getfield 85, 3, 150, 9, 28, 0, []),
  (150, .iconst 1, 1, 151, 0, 0, 1, []),
  (151, .iadd, 1, 152, 0, 0, 0, []),
  (152, .putfield 85, 3, 155, 9, 28, 0, []),
  (155, .return_, 1, 156, 0, 0, 0, []),
  (156, .iinc 8 1, 3, 159, 0, 0, 1, []),
  (159, .goto (-134), 3, 162, 25, 0, 0, []),
  (162, .iconst 1, 1, 163, 0, 0, 1, []),
  (163, .istore 8, 2, 165, 0, 0, 0, []),
  (165, .iload 8, 2, 167, 0, 0, 0, []),
  (167, .iload 4, 2, 169, 0, 0, 0, []),
  (169, .if_icmp .ge 82, 3, 172, 251, 0, 0, []),
  (172, .aload_n 0, 1, 173, 0, 0, 0, []),
  (173, .getfield 82, 3, 176, 9, 27, 0, []),
  (176, .iload 8, 2, 178, 0, 0, 0, []),
  (178, .iload 5, 2, 180, 0, 0, 0, []),
  (180, .iload 6, 2, 182, 0, 0, 0, []),
  (182, .invokestatic 216, 3, 185, M_R_block, 0, 0, []),
  (185, .iaload, 1, 186, 0, 0, 0, []),
  (186, .aload_n 0, 1, 187, 0, 0, 0, []),
  (187, .getfield 82, 3, 190, 9, 27, 0, []),
  (190, .iload 4, 2, 192, 0, 0, 0, []),
  (192, .iload 8, 2, 194, 0, 0, 0, []),
  (194, .isub, 1, 195, 0, 0, 0, []),
  (195, .iload 5, 2, 197, 0, 0, 0, []),
  (197, .iload 6, 2, 199, 0, 0, 0, []),
  (199, .invokestatic 216, 3, 202, M_R_block, 0, 0, []),
  (202, .iaload, 1, 203, 0, 0, 0, []),
  (203, .iadd, 1, 204, 0, 0, 0, []),
  (204, .iload 7, 2, 206, 0, 0, 0, []),
  (206, .if_icmp .eq 6, 3, 209, 212, 0, 0, []),
  (209, .goto 36, 3, 212, 245, 0, 0, []),
  (212, .aload_n 0, 1, 213, 0, 0, 0, []),
  (213, .iload_n 1, 1, 214, 0, 0, 0, []),
  (214, .iload_n 2, 1, 215, 0, 0, 0, []),
  (215, .iload_n 3, 1, 216, 0, 0, 0, []),
  (216, .iload 8, 2, 218, 0, 0, 0, []),
  (218, .iload 5, 2, 220, 0, 0, 0, []),
  (220, .iload 6, 2, 222, 0, 0, 0, []),
  (222, .invokevirtual 223, 3, 225, M_R_pattern, 0, 0, []),
  (225, .aload_n 0, 1, 226, 0, 0, 0, []),
  (226, .iload_n 1, 1, 227, 0, 0, 0, []),
  (227, .iload 8, 2, 229, 0, 0, 0, []),
  (229, .iadd, 1, 230, 0, 0, 0, []),
  (230, .iload_n 2, 1, 231, 0, 0, 0, []),
  (231, .iload_n 3, 1, 232, 0, 0, 0, []),
  (232, .iload 4, 2, 234, 0, 0, 0, []),
  (234, .iload 8, 2, 236, 0, 0, 0, []),
  (236, .isub, 1, 237, 0, 0, 0, []),
  (237, .iload 5, 2, 239, 0, 0, 0, []),
  (239, .iload 6, 2, 241, 0, 0, 0, []),
  (241, .invokevirtual 223, 3, 244, M_R_pattern, 0, 0, []),
  (244, .return_, 1, 245, 0, 0, 0, []),
  (245, .iinc 8 1, 3, 248, 0, 0, 1, []),
  (248, .goto (-83), 3, 251, 165, 0, 0, []),
  (251, .iconst 1, 1, 252, 0, 0, 1, []),
  (252, .istore 8, 2, 254, 0, 0, 0, []),
  (254, .iload 8, 2, 256, 0, 0, 0, []),
  (256, .iload 5, 2, 258, 0, 0, 0, []),
  (258, .if_icmp .ge 82, 3, 261, 340, 0, 0, []),
  (261, .aload_n 0, 1, 262, 0, 0, 0, []),
  (262, .getfield 82, 3, 265, 9, 27, 0, []),
  (265, .iload 4, 2, 267, 0, 0, 0, []),
  (267, .iload 8, 2, 269, 0, 0, 0, []),
  (269, .iload 6, 2, 271, 0, 0, 0, []),
  (271, .invokestatic 216, 3, 274, M_R_block, 0, 0, []),
  (274, .iaload, 1, 275, 0, 0, 0, []),
  (275, .aload_n 0, 1, 276, 0, 0, 0, []),
  (276, .getfield 82, 3, 279, 9, 27, 0, []),
  (279, .iload 4, 2, 281, 0, 0, 0, []),
  (281, .iload 5, 2, 283, 0, 0, 0, []),
  (283, .iload 8, 2, 285, 0, 0, 0, []),
  (285, .isub, 1, 286, 0, 0, 0, []),
  (286, .iload 6, 2, 288, 0, 0, 0, []),
  (288, .invokestatic 216, 3, 291, M_R_block, 0, 0, []),
  (291, .iaload, 1, 292, 0, 0, 0, []),
  (292, .iadd, 1, 293, 0, 0, 0, []),
  (293, .iload 7, 2, 295, 0, 0, 0, []),
  (295, .if_icmp .eq 6, 3, 298, 301, 0, 0, []),
  (298, .goto 36, 3, 301, 334, 0, 0, []),
  (301, .aload_n 0, 1, 302, 0, 0, 0, []),
  (302, .iload_n 1, 1, 303, 0, 0, 0, []),
  (303, .iload_n 2, 1, 304, 0, 0, 0, []),
  (304, .iload_n 3, 1, 305, 0, 0, 0, []),
  (305, .iload 4, 2, 307, 0, 0, 0, []),
  (307, .iload 8, 2, 309, 0, 0, 0, []),
  (309, .iload 6, 2, 311, 0, 0, 0, []),
  (311, .invokevirtual 223, 3, 314, M_R_pattern, 0, 0, []),
  (314, .aload_n 0, 1, 315, 0, 0, 0, []),
  (315, .iload_n 1, 1, 316, 0, 0, 0, []),
  (316, .iload_n 2, 1, 317, 0, 0, 0, []),
  (317, .iload 8, 2, 319, 0, 0, 0, []),
  (319, .iadd, 1, 320, 0, 0, 0, []),
  (320, .iload_n 3, 1, 321, 0, 0, 0, []),
  (321, .iload 4, 2, 323, 0, 0, 0, []),
  (323, .iload 5, 2, 325, 0, 0, 0, []),
  (325, .iload 8, 2, 327, 0, 0, 0, []),
  (327, .isub, 1, 328, 0, 0, 0, []),
  (328, .iload 6, 2, 330, 0, 0, 0, []),
  (330, .invokevirtual 223, 3, 333, M_R_pattern, 0, 0, []),
  (333, .return_, 1, 334, 0, 0, 0, []),
  (334, .iinc 8 1, 3, 337, 0, 0, 1, []),
  (337, .goto (-83), 3, 340, 254, 0, 0, []),
  (340, .iconst 1, 1, 341, 0, 0, 1, []),
  (341, .istore 8, 2, 343, 0, 0, 0, []),
  (343, .aload_n 0, 1, 344, 0, 0, 0, []),
  (344, .getfield 82, 3, 347, 9, 27, 0, []),
  (347, .iload 4, 2, 349, 0, 0, 0, []),
  (349, .iload 5, 2, 351, 0, 0, 0, []),
  (351, .iload 8, 2, 353, 0, 0, 0, []),
  (353, .invokestatic 216, 3, 356, M_R_block, 0, 0, []),
  (356, .iaload, 1, 357, 0, 0, 0, []),
  (357, .aload_n 0, 1, 358, 0, 0, 0, []),
  (358, .getfield 82, 3, 361, 9, 27, 0, []),
  (361, .iload 4, 2, 363, 0, 0, 0, []),
  (363, .iload 5, 2, 365, 0, 0, 0, []),
  (365, .iload 6, 2, 367, 0, 0, 0, []),
  (367, .iload 8, 2, 369, 0, 0, 0, []),
  (369, .isub, 1, 370, 0, 0, 0, []),
  (370, .invokestatic 216, 3, 373, M_R_block, 0, 0, []),
  (373, .iaload, 1, 374, 0, 0, 0, []),
  (374, .iadd, 1, 375, 0, 0, 0, []),
  (375, .iload 7, 2, 377, 0, 0, 0, []),
  (377, .if_icmp .eq 9, 3, 380, 386, 0, 0, []),
  (380, .iinc 8 1, 3, 383, 0, 0, 1, []),
  (383, .goto (-40), 3, 386, 343, 0, 0, []),
  (386, .aload_n 0, 1, 387, 0, 0, 0, []),
  (387, .iload_n 1, 1, 388, 0, 0, 0, []),
  (388, .iload_n 2, 1, 389, 0, 0, 0, []),
  (389, .iload_n 3, 1, 390, 0, 0, 0, []),
  (390, .iload 4, 2, 392, 0, 0, 0, []),
  (392, .iload 5, 2, 394, 0, 0, 0, []),
  (394, .iload 8, 2, 396, 0, 0, 0, []),
  (396, .invokevirtual 223, 3, 399, M_R_pattern, 0, 0, []),
  (399, .aload_n 0, 1, 400, 0, 0, 0, []),
  (400, .iload_n 1, 1, 401, 0, 0, 0, []),
  (401, .iload_n 2, 1, 402, 0, 0, 0, []),
  (402, .iload_n 3, 1, 403, 0, 0, 0, []),
  (403, .iload 8, 2, 405, 0, 0, 0, []),
  (405, .iadd, 1, 406, 0, 0, 0, []),
  (406, .iload 4, 2, 408, 0, 0, 0, []),
  (408, .iload 5, 2, 410, 0, 0, 0, []),
  (410, .iload 6, 2, 412, 0, 0, 0, []),
  (412, .iload 8, 2, 414, 0, 0, 0, []),
  (414, .isub, 1, 415, 0, 0, 0, []),
  (415, .invokevirtual 223, 3, 418, M_R_pattern, 0, 0, []),
  (418, .return_, 1, 419, 0, 0, 0, [])]
set_option maxRecDepth 100000 in
theorem kc_R_pattern : k_R_pattern.all (am_chk am_m143) = true := by decide +kernel
theorem q_R_pattern : am_ms[M_R_pattern]? = some am_m143 := rfl
def k_R_piece : List am_I := [
  (0, .iload_n 1, 1, 1, 0, 0, 0, []),
  (1, .iconst 0, 1, 2, 0, 0, 0, []),
  (2, .aload_n 0, 1, 3, 0, 0, 0, []),
  (3, .getfield 85, 3, 6, 9, 28, 0, []),
  (6, .iconst 1, 1, 7, 0, 0, 1, []),
  (7, .isub, 1, 8, 0, 0, 0, []),
  (8, .invokestatic 115, 3, 11, M_R_in, 0, 0, []),
  (11, .ifCond .ne 5, 3, 14, 16, 0, 0, []),
  (14, .iconst (-1), 1, 15, 0, 0, (-1), []),
  (15, .ireturn, 1, 16, 0, 0, 0, []),
  (16, .iload_n 2, 1, 17, 0, 0, 0, []),
  (17, .tableswitch 78 0 4 #[35, 42, 49, 56, 63], 35, 52, 95, 0, 0, [52, 59, 66, 73, 80]),
  (52, .aload_n 0, 1, 53, 0, 0, 0, []),
  (53, .getfield 88, 3, 56, 9, 29, 0, []),
  (56, .iload_n 1, 1, 57, 0, 0, 0, []),
  (57, .iaload, 1, 58, 0, 0, 0, []),
  (58, .ireturn, 1, 59, 0, 0, 0, []),
  (59, .aload_n 0, 1, 60, 0, 0, 0, []),
  (60, .getfield 91, 3, 63, 9, 30, 0, []),
  (63, .iload_n 1, 1, 64, 0, 0, 0, []),
  (64, .iaload, 1, 65, 0, 0, 0, []),
  (65, .ireturn, 1, 66, 0, 0, 0, []),
  (66, .aload_n 0, 1, 67, 0, 0, 0, []),
  (67, .getfield 94, 3, 70, 9, 31, 0, []),
  (70, .iload_n 1, 1, 71, 0, 0, 0, []),
  (71, .iaload, 1, 72, 0, 0, 0, []),
  (72, .ireturn, 1, 73, 0, 0, 0, []),
  (73, .aload_n 0, 1, 74, 0, 0, 0, []),
  (74, .getfield 97, 3, 77, 9, 32, 0, []),
  (77, .iload_n 1, 1, 78, 0, 0, 0, []),
  (78, .iaload, 1, 79, 0, 0, 0, []),
  (79, .ireturn, 1, 80, 0, 0, 0, []),
  (80, .aload_n 0, 1, 81, 0, 0, 0, []),
  (81, .getfield 100, 3, 84, 9, 33, 0, []),
  (84, .iload_n 1, 1, 85, 0, 0, 0, []),
  (85, .baload, 1, 86, 0, 0, 0, []),
  (86, .ifCond .eq 7, 3, 89, 93, 0, 0, []),
  (89, .iconst 1, 1, 90, 0, 0, 1, []),
  (90, .goto 4, 3, 93, 94, 0, 0, []),
  (93, .iconst 0, 1, 94, 0, 0, 0, []),
  (94, .ireturn, 1, 95, 0, 0, 0, []),
  (95, .iconst (-1), 1, 96, 0, 0, (-1), []),
  (96, .ireturn, 1, 97, 0, 0, 0, [])]
set_option maxRecDepth 100000 in
theorem kc_R_piece : k_R_piece.all (am_chk am_m144) = true := by decide +kernel
theorem q_R_piece : am_ms[M_R_piece]? = some am_m144 := rfl
def k_R_trucks : List am_I := [
  (0, .aload_n 0, 1, 1, 0, 0, 0, []),
  (1, .iload_n 1, 1, 2, 0, 0, 0, []),
  (2, .invokevirtual 194, 3, 5, M_R_isSet, 0, 0, []),
  (5, .ifCond .ne 6, 3, 8, 11, 0, 0, []),
  (8, .bipush (-2), 2, 10, 0, 0, (-2), []),
  (10, .ireturn, 1, 11, 0, 0, 0, []),
  (11, .iconst 0, 1, 12, 0, 0, 0, []),
  (12, .istore_n 2, 1, 13, 0, 0, 0, []),
  (13, .iconst 0, 1, 14, 0, 0, 0, []),
  (14, .istore_n 3, 1, 15, 0, 0, 0, []),
  (15, .iload_n 3, 1, 16, 0, 0, 0, []),
  (16, .aload_n 0, 1, 17, 0, 0, 0, []),
  (17, .getfield 119, 3, 20, 9, 0, 0, []),
  (20, .if_icmp .ge 64, 3, 23, 84, 0, 0, []),
  (23, .iload_n 1, 1, 24, 0, 0, 0, []),
  (24, .iload_n 3, 1, 25, 0, 0, 0, []),
  (25, .ishr, 1, 26, 0, 0, 0, []),
  (26, .iconst 1, 1, 27, 0, 0, 1, []),
  (27, .iand, 1, 28, 0, 0, 0, []),
  (28, .ifCond .ne 6, 3, 31, 34, 0, 0, []),
  (31, .goto 47, 3, 34, 78, 0, 0, []),
  (34, .aload_n 0, 1, 35, 0, 0, 0, []),
  (35, .iload_n 3, 1, 36, 0, 0, 0, []),
  (36, .iconst 0, 1, 37, 0, 0, 0, []),
  (37, .invokevirtual 231, 3, 40, M_R_fitsSo, 0, 0, []),
  (40, .ifCond .ne 15, 3, 43, 55, 0, 0, []),
  (43, .aload_n 0, 1, 44, 0, 0, 0, []),
  (44, .iload_n 3, 1, 45, 0, 0, 0, []),
  (45, .iconst 1, 1, 46, 0, 0, 1, []),
  (46, .invokevirtual 231, 3, 49, M_R_fitsSo, 0, 0, []),
  (49, .ifCond .ne 6, 3, 52, 55, 0, 0, []),
  (52, .bipush (-4), 2, 54, 0, 0, (-4), []),
  (54, .ireturn, 1, 55, 0, 0, 0, []),
  (55, .iload_n 2, 1, 56, 0, 0, 0, []),
  (56, .aload_n 0, 1, 57, 0, 0, 0, []),
  (57, .getfield 7, 3, 60, 9, 1, 0, []),
  (60, .iload_n 3, 1, 61, 0, 0, 0, []),
  (61, .iaload, 1, 62, 0, 0, 0, []),
  (62, .aload_n 0, 1, 63, 0, 0, 0, []),
  (63, .getfield 13, 3, 66, 9, 2, 0, []),
  (66, .iload_n 3, 1, 67, 0, 0, 0, []),
  (67, .iaload, 1, 68, 0, 0, 0, []),
  (68, .imul, 1, 69, 0, 0, 0, []),
  (69, .aload_n 0, 1, 70, 0, 0, 0, []),
  (70, .getfield 16, 3, 73, 9, 3, 0, []),
  (73, .iload_n 3, 1, 74, 0, 0, 0, []),
  (74, .iaload, 1, 75, 0, 0, 0, []),
  (75, .imul, 1, 76, 0, 0, 0, []),
  (76, .iadd, 1, 77, 0, 0, 0, []),
  (77, .istore_n 2, 1, 78, 0, 0, 0, []),
  (78, .iinc 3 1, 3, 81, 0, 0, 1, []),
  (81, .goto (-66), 3, 84, 15, 0, 0, []),
  (84, .iconst 0, 1, 85, 0, 0, 0, []),
  (85, .istore_n 3, 1, 86, 0, 0, 0, []),
  (86, .iload_n 3, 1, 87, 0, 0, 0, []),
  (87, .aload_n 0, 1, 88, 0, 0, 0, []),
  (88, .getfield 119, 3, 91, 9, 0, 0, []),
  (91, .if_icmp .ge 82, 3, 94, 173, 0, 0, []),
  (94, .aload_n 0, 1, 95, 0, 0, 0, []),
  (95, .getfield 103, 3, 98, 9, 34, 0, []),
  (98, .iload_n 3, 1, 99, 0, 0, 0, []),
  (99, .iconst 0, 1, 100, 0, 0, 0, []),
  (100, .iastore, 1, 101, 0, 0, 0, []),
  (101, .iconst 0, 1, 102, 0, 0, 0, []),
  (102, .istore 4, 2, 104, 0, 0, 0, []),
  (104, .iload 4, 2, 106, 0, 0, 0, []),
  (106, .aload_n 0, 1, 107, 0, 0, 0, []),
  (107, .getfield 119, 3, 110, 9, 0, 0, []),
  (110, .if_icmp .ge 57, 3, 113, 167, 0, 0, []),
  (113, .iload_n 3, 1, 114, 0, 0, 0, []),
  (114, .iload 4, 2, 116, 0, 0, 0, []),
  (116, .if_icmp .eq 45, 3, 119, 161, 0, 0, []),
  (119, .iload_n 1, 1, 120, 0, 0, 0, []),
  (120, .iload_n 3, 1, 121, 0, 0, 0, []),
  (121, .ishr, 1, 122, 0, 0, 0, []),
  (122, .iconst 1, 1, 123, 0, 0, 1, []),
  (123, .iand, 1, 124, 0, 0, 0, []),
  (124, .iconst 1, 1, 125, 0, 0, 1, []),
  (125, .if_icmp .ne 36, 3, 128, 161, 0, 0, []),
  (128, .iload_n 1, 1, 129, 0, 0, 0, []),
  (129, .iload 4, 2, 131, 0, 0, 0, []),
  (131, .ishr, 1, 132, 0, 0, 0, []),
  (132, .iconst 1, 1, 133, 0, 0, 1, []),
  (133, .iand, 1, 134, 0, 0, 0, []),
  (134, .iconst 1, 1, 135, 0, 0, 1, []),
  (135, .if_icmp .ne 26, 3, 138, 161, 0, 0, []),
  (138, .aload_n 0, 1, 139, 0, 0, 0, []),
  (139, .iload_n 3, 1, 140, 0, 0, 0, []),
  (140, .iload 4, 2, 142, 0, 0, 0, []),
  (142, .invokevirtual 244, 3, 145, M_R_isApart, 0, 0, []),
  (145, .ifCond .eq 16, 3, 148, 161, 0, 0, []),
  (148, .aload_n 0, 1, 149, 0, 0, 0, []),
  (149, .getfield 103, 3, 152, 9, 34, 0, []),
  (152, .iload_n 3, 1, 153, 0, 0, 0, []),
  (153, .dup2, 1, 154, 0, 0, 0, []),
  (154, .iaload, 1, 155, 0, 0, 0, []),
  (155, .iconst 1, 1, 156, 0, 0, 1, []),
  (156, .iload 4, 2, 158, 0, 0, 0, []),
  (158, .ishl, 1, 159, 0, 0, 0, []),
  (159, .ior, 1, 160, 0, 0, 0, []),
  (160, .iastore, 1, 161, 0, 0, 0, []),
  (161, .iinc 4 1, 3, 164, 0, 0, 1, []),
  (164, .goto (-60), 3, 167, 104, 0, 0, []),
  (167, .iinc 3 1, 3, 170, 0, 0, 1, []),
  (170, .goto (-84), 3, 173, 86, 0, 0, []),
  (173, .aload_n 0, 1, 174, 0, 0, 0, []),
  (174, .iconst 0, 1, 175, 0, 0, 0, []),
  (175, .putfield 235, 3, 178, 9, 35, 0, []),
  (178, .aload_n 0, 1, 179, 0, 0, 0, []),
  (179, .iconst 0, 1, 180, 0, 0, 0, []),
  (180, .putfield 238, 3, 183, 9, 36, 0, []),
  (183, .aload_n 0, 1, 184, 0, 0, 0, []),
  (184, .aload_n 0, 1, 185, 0, 0, 0, []),
  (185, .getfield 119, 3, 188, 9, 0, 0, []),
  (188, .iconst 1, 1, 189, 0, 0, 1, []),
  (189, .isub, 1, 190, 0, 0, 0, []),
  (190, .iconst 0, 1, 191, 0, 0, 0, []),
  (191, .iconst 0, 1, 192, 0, 0, 0, []),
  (192, .iload_n 1, 1, 193, 0, 0, 0, []),
  (193, .invokevirtual 241, 3, 196, M_R_bigs, 0, 0, []),
  (196, .aload_n 0, 1, 197, 0, 0, 0, []),
  (197, .getfield 50, 3, 200, 9, 14, 0, []),
  (200, .aload_n 0, 1, 201, 0, 0, 0, []),
  (201, .getfield 54, 3, 204, 9, 15, 0, []),
  (204, .imul, 1, 205, 0, 0, 0, []),
  (205, .aload_n 0, 1, 206, 0, 0, 0, []),
  (206, .getfield 57, 3, 209, 9, 16, 0, []),
  (209, .imul, 1, 210, 0, 0, 0, []),
  (210, .istore_n 3, 1, 211, 0, 0, 0, []),
  (211, .aload_n 0, 1, 212, 0, 0, 0, []),
  (212, .iload_n 2, 1, 213, 0, 0, 0, []),
  (213, .iload_n 3, 1, 214, 0, 0, 0, []),
  (214, .iadd, 1, 215, 0, 0, 0, []),
  (215, .iconst 1, 1, 216, 0, 0, 1, []),
  (216, .isub, 1, 217, 0, 0, 0, []),
  (217, .iload_n 3, 1, 218, 0, 0, 0, []),
  (218, .idiv, 1, 219, 0, 0, 0, []),
  (219, .putfield 106, 3, 222, 9, 37, 0, []),
  (222, .aload_n 0, 1, 223, 0, 0, 0, []),
  (223, .aload_n 0, 1, 224, 0, 0, 0, []),
  (224, .getfield 235, 3, 227, 9, 35, 0, []),
  (227, .putfield 109, 3, 230, 9, 38, 0, []),
  (230, .aload_n 0, 1, 231, 0, 0, 0, []),
  (231, .aload_n 0, 1, 232, 0, 0, 0, []),
  (232, .getfield 238, 3, 235, 9, 36, 0, []),
  (235, .putfield 112, 3, 238, 9, 39, 0, []),
  (238, .aload_n 0, 1, 239, 0, 0, 0, []),
  (239, .getfield 106, 3, 242, 9, 37, 0, []),
  (242, .aload_n 0, 1, 243, 0, 0, 0, []),
  (243, .getfield 109, 3, 246, 9, 38, 0, []),
  (246, .if_icmp .le 10, 3, 249, 256, 0, 0, []),
  (249, .aload_n 0, 1, 250, 0, 0, 0, []),
  (250, .getfield 106, 3, 253, 9, 37, 0, []),
  (253, .goto 7, 3, 256, 260, 0, 0, []),
  (256, .aload_n 0, 1, 257, 0, 0, 0, []),
  (257, .getfield 109, 3, 260, 9, 38, 0, []),
  (260, .ireturn, 1, 261, 0, 0, 0, [])]
set_option maxRecDepth 100000 in
theorem kc_R_trucks : k_R_trucks.all (am_chk am_m145) = true := by decide +kernel
theorem q_R_trucks : am_ms[M_R_trucks]? = some am_m145 := rfl
def k_R_fitsSo : List am_I := [
  (0, .iload_n 2, 1, 1, 0, 0, 0, []),
  (1, .ifCond .eq 12, 3, 4, 13, 0, 0, []),
  (4, .aload_n 0, 1, 5, 0, 0, 0, []),
  (5, .getfield 13, 3, 8, 9, 2, 0, []),
  (8, .iload_n 1, 1, 9, 0, 0, 0, []),
  (9, .iaload, 1, 10, 0, 0, 0, []),
  (10, .goto 9, 3, 13, 19, 0, 0, []),
  (13, .aload_n 0, 1, 14, 0, 0, 0, []),
  (14, .getfield 7, 3, 17, 9, 1, 0, []),
  (17, .iload_n 1, 1, 18, 0, 0, 0, []),
  (18, .iaload, 1, 19, 0, 0, 0, []),
  (19, .istore_n 3, 1, 20, 0, 0, 0, []),
  (20, .iload_n 2, 1, 21, 0, 0, 0, []),
  (21, .ifCond .eq 12, 3, 24, 33, 0, 0, []),
  (24, .aload_n 0, 1, 25, 0, 0, 0, []),
  (25, .getfield 7, 3, 28, 9, 1, 0, []),
  (28, .iload_n 1, 1, 29, 0, 0, 0, []),
  (29, .iaload, 1, 30, 0, 0, 0, []),
  (30, .goto 9, 3, 33, 39, 0, 0, []),
  (33, .aload_n 0, 1, 34, 0, 0, 0, []),
  (34, .getfield 13, 3, 37, 9, 2, 0, []),
  (37, .iload_n 1, 1, 38, 0, 0, 0, []),
  (38, .iaload, 1, 39, 0, 0, 0, []),
  (39, .istore 4, 2, 41, 0, 0, 0, []),
  (41, .iload_n 2, 1, 42, 0, 0, 0, []),
  (42, .ifCond .eq 12, 3, 45, 54, 0, 0, []),
  (45, .aload_n 0, 1, 46, 0, 0, 0, []),
  (46, .getfield 28, 3, 49, 9, 7, 0, []),
  (49, .iload_n 1, 1, 50, 0, 0, 0, []),
  (50, .baload, 1, 51, 0, 0, 0, []),
  (51, .ifCond .eq 37, 3, 54, 88, 0, 0, []),
  (54, .iload_n 3, 1, 55, 0, 0, 0, []),
  (55, .aload_n 0, 1, 56, 0, 0, 0, []),
  (56, .getfield 50, 3, 59, 9, 14, 0, []),
  (59, .if_icmp .gt 29, 3, 62, 88, 0, 0, []),
  (62, .iload 4, 2, 64, 0, 0, 0, []),
  (64, .aload_n 0, 1, 65, 0, 0, 0, []),
  (65, .getfield 54, 3, 68, 9, 15, 0, []),
  (68, .if_icmp .gt 20, 3, 71, 88, 0, 0, []),
  (71, .aload_n 0, 1, 72, 0, 0, 0, []),
  (72, .getfield 16, 3, 75, 9, 3, 0, []),
  (75, .iload_n 1, 1, 76, 0, 0, 0, []),
  (76, .iaload, 1, 77, 0, 0, 0, []),
  (77, .aload_n 0, 1, 78, 0, 0, 0, []),
  (78, .getfield 57, 3, 81, 9, 16, 0, []),
  (81, .if_icmp .gt 7, 3, 84, 88, 0, 0, []),
  (84, .iconst 1, 1, 85, 0, 0, 1, []),
  (85, .goto 4, 3, 88, 89, 0, 0, []),
  (88, .iconst 0, 1, 89, 0, 0, 0, []),
  (89, .ireturn, 1, 90, 0, 0, 0, [])]
set_option maxRecDepth 100000 in
theorem kc_R_fitsSo : k_R_fitsSo.all (am_chk am_m146) = true := by decide +kernel
theorem q_R_fitsSo : am_ms[M_R_fitsSo]? = some am_m146 := rfl
def k_R_isApart : List am_I := [
  (0, .iconst 0, 1, 1, 0, 0, 0, []),
  (1, .istore_n 3, 1, 2, 0, 0, 0, []),
  (2, .iload_n 3, 1, 3, 0, 0, 0, []),
  (3, .iconst 4, 1, 4, 0, 0, 4, []),
  (4, .if_icmp .ge 202, 3, 7, 206, 0, 0, []),
  (7, .iload_n 3, 1, 8, 0, 0, 0, []),
  (8, .iconst 2, 1, 9, 0, 0, 2, []),
  (9, .irem, 1, 10, 0, 0, 0, []),
  (10, .iconst 1, 1, 11, 0, 0, 1, []),
  (11, .if_icmp .ne 7, 3, 14, 18, 0, 0, []),
  (14, .iconst 1, 1, 15, 0, 0, 1, []),
  (15, .goto 4, 3, 18, 19, 0, 0, []),
  (18, .iconst 0, 1, 19, 0, 0, 0, []),
  (19, .istore 4, 2, 21, 0, 0, 0, []),
  (21, .iload_n 3, 1, 22, 0, 0, 0, []),
  (22, .iconst 2, 1, 23, 0, 0, 2, []),
  (23, .idiv, 1, 24, 0, 0, 0, []),
  (24, .iconst 1, 1, 25, 0, 0, 1, []),
  (25, .if_icmp .ne 7, 3, 28, 32, 0, 0, []),
  (28, .iconst 1, 1, 29, 0, 0, 1, []),
  (29, .goto 4, 3, 32, 33, 0, 0, []),
  (32, .iconst 0, 1, 33, 0, 0, 0, []),
  (33, .istore 5, 2, 35, 0, 0, 0, []),
  (35, .aload_n 0, 1, 36, 0, 0, 0, []),
  (36, .iload_n 1, 1, 37, 0, 0, 0, []),
  (37, .iload 4, 2, 39, 0, 0, 0, []),
  (39, .invokevirtual 231, 3, 42, M_R_fitsSo, 0, 0, []),
  (42, .ifCond .eq 158, 3, 45, 200, 0, 0, []),
  (45, .aload_n 0, 1, 46, 0, 0, 0, []),
  (46, .iload_n 2, 1, 47, 0, 0, 0, []),
  (47, .iload 5, 2, 49, 0, 0, 0, []),
  (49, .invokevirtual 231, 3, 52, M_R_fitsSo, 0, 0, []),
  (52, .ifCond .ne 6, 3, 55, 58, 0, 0, []),
  (55, .goto 145, 3, 58, 200, 0, 0, []),
  (58, .iload 4, 2, 60, 0, 0, 0, []),
  (60, .ifCond .eq 12, 3, 63, 72, 0, 0, []),
  (63, .aload_n 0, 1, 64, 0, 0, 0, []),
  (64, .getfield 13, 3, 67, 9, 2, 0, []),
  (67, .iload_n 1, 1, 68, 0, 0, 0, []),
  (68, .iaload, 1, 69, 0, 0, 0, []),
  (69, .goto 9, 3, 72, 78, 0, 0, []),
  (72, .aload_n 0, 1, 73, 0, 0, 0, []),
  (73, .getfield 7, 3, 76, 9, 1, 0, []),
  (76, .iload_n 1, 1, 77, 0, 0, 0, []),
  (77, .iaload, 1, 78, 0, 0, 0, []),
  (78, .iload 5, 2, 80, 0, 0, 0, []),
  (80, .ifCond .eq 12, 3, 83, 92, 0, 0, []),
  (83, .aload_n 0, 1, 84, 0, 0, 0, []),
  (84, .getfield 13, 3, 87, 9, 2, 0, []),
  (87, .iload_n 2, 1, 88, 0, 0, 0, []),
  (88, .iaload, 1, 89, 0, 0, 0, []),
  (89, .goto 9, 3, 92, 98, 0, 0, []),
  (92, .aload_n 0, 1, 93, 0, 0, 0, []),
  (93, .getfield 7, 3, 96, 9, 1, 0, []),
  (96, .iload_n 2, 1, 97, 0, 0, 0, []),
  (97, .iaload, 1, 98, 0, 0, 0, []),
  (98, .iadd, 1, 99, 0, 0, 0, []),
  (99, .aload_n 0, 1, 100, 0, 0, 0, []),
  (100, .getfield 50, 3, 103, 9, 14, 0, []),
  (103, .if_icmp .le 7, 3, 106, 110, 0, 0, []),
  (106, .iconst 1, 1, 107, 0, 0, 1, []),
  (107, .goto 4, 3, 110, 111, 0, 0, []),
  (110, .iconst 0, 1, 111, 0, 0, 0, []),
  (111, .istore 6, 2, 113, 0, 0, 0, []),
  (113, .iload 6, 2, 115, 0, 0, 0, []),
  (115, .ifCond .eq 55, 3, 118, 170, 0, 0, []),
  (118, .iload 4, 2, 120, 0, 0, 0, []),
  (120, .ifCond .eq 12, 3, 123, 132, 0, 0, []),
  (123, .aload_n 0, 1, 124, 0, 0, 0, []),
  (124, .getfield 7, 3, 127, 9, 1, 0, []),
  (127, .iload_n 1, 1, 128, 0, 0, 0, []),
  (128, .iaload, 1, 129, 0, 0, 0, []),
  (129, .goto 9, 3, 132, 138, 0, 0, []),
  (132, .aload_n 0, 1, 133, 0, 0, 0, []),
  (133, .getfield 13, 3, 136, 9, 2, 0, []),
  (136, .iload_n 1, 1, 137, 0, 0, 0, []),
  (137, .iaload, 1, 138, 0, 0, 0, []),
  (138, .iload 5, 2, 140, 0, 0, 0, []),
  (140, .ifCond .eq 12, 3, 143, 152, 0, 0, []),
  (143, .aload_n 0, 1, 144, 0, 0, 0, []),
  (144, .getfield 7, 3, 147, 9, 1, 0, []),
  (147, .iload_n 2, 1, 148, 0, 0, 0, []),
  (148, .iaload, 1, 149, 0, 0, 0, []),
  (149, .goto 9, 3, 152, 158, 0, 0, []),
  (152, .aload_n 0, 1, 153, 0, 0, 0, []),
  (153, .getfield 13, 3, 156, 9, 2, 0, []),
  (156, .iload_n 2, 1, 157, 0, 0, 0, []),
  (157, .iaload, 1, 158, 0, 0, 0, []),
  (158, .iadd, 1, 159, 0, 0, 0, []),
  (159, .aload_n 0, 1, 160, 0, 0, 0, []),
  (160, .getfield 54, 3, 163, 9, 15, 0, []),
  (163, .if_icmp .le 7, 3, 166, 170, 0, 0, []),
  (166, .iconst 1, 1, 167, 0, 0, 1, []),
  (167, .goto 4, 3, 170, 171, 0, 0, []),
  (170, .iconst 0, 1, 171, 0, 0, 0, []),
  (171, .istore 6, 2, 173, 0, 0, 0, []),
  (173, .iload 6, 2, 175, 0, 0, 0, []),
  (175, .ifCond .eq 23, 3, 178, 198, 0, 0, []),
  (178, .aload_n 0, 1, 179, 0, 0, 0, []),
  (179, .getfield 16, 3, 182, 9, 3, 0, []),
  (182, .iload_n 1, 1, 183, 0, 0, 0, []),
  (183, .iaload, 1, 184, 0, 0, 0, []),
  (184, .aload_n 0, 1, 185, 0, 0, 0, []),
  (185, .getfield 16, 3, 188, 9, 3, 0, []),
  (188, .iload_n 2, 1, 189, 0, 0, 0, []),
  (189, .iaload, 1, 190, 0, 0, 0, []),
  (190, .iadd, 1, 191, 0, 0, 0, []),
  (191, .aload_n 0, 1, 192, 0, 0, 0, []),
  (192, .getfield 57, 3, 195, 9, 16, 0, []),
  (195, .if_icmp .gt 5, 3, 198, 200, 0, 0, []),
  (198, .iconst 0, 1, 199, 0, 0, 0, []),
  (199, .ireturn, 1, 200, 0, 0, 0, []),
  (200, .iinc 3 1, 3, 203, 0, 0, 1, []),
  (203, .goto (-201), 3, 206, 2, 0, 0, []),
  (206, .iconst 1, 1, 207, 0, 0, 1, []),
  (207, .ireturn, 1, 208, 0, 0, 0, [])]
set_option maxRecDepth 100000 in
theorem kc_R_isApart : k_R_isApart.all (am_chk am_m147) = true := by decide +kernel
theorem q_R_isApart : am_ms[M_R_isApart]? = some am_m147 := rfl
def k_R_bigs : List am_I := [
  (0, .iconst 0, 1, 1, 0, 0, 0, []),
  (1, .istore 5, 2, 3, 0, 0, 0, []),
  (3, .iconst 0, 1, 4, 0, 0, 0, []),
  (4, .istore 6, 2, 6, 0, 0, 0, []),
  (6, .iload 6, 2, 8, 0, 0, 0, []),
  (8, .iload_n 1, 1, 9, 0, 0, 0, []),
  (9, .if_icmp .gt 21, 3, 12, 30, 0, 0, []),
  (12, .iload 5, 2, 14, 0, 0, 0, []),
  (14, .iload 4, 2, 16, 0, 0, 0, []),
  (16, .iload 6, 2, 18, 0, 0, 0, []),
  (18, .ishr, 1, 19, 0, 0, 0, []),
  (19, .iconst 1, 1, 20, 0, 0, 1, []),
  (20, .iand, 1, 21, 0, 0, 0, []),
  (21, .iadd, 1, 22, 0, 0, 0, []),
  (22, .istore 5, 2, 24, 0, 0, 0, []),
  (24, .iinc 6 1, 3, 27, 0, 0, 1, []),
  (27, .goto (-21), 3, 30, 6, 0, 0, []),
  (30, .iload_n 3, 1, 31, 0, 0, 0, []),
  (31, .iload 5, 2, 33, 0, 0, 0, []),
  (33, .iadd, 1, 34, 0, 0, 0, []),
  (34, .aload_n 0, 1, 35, 0, 0, 0, []),
  (35, .getfield 235, 3, 38, 9, 35, 0, []),
  (38, .if_icmp .gt 4, 3, 41, 42, 0, 0, []),
  (41, .return_, 1, 42, 0, 0, 0, []),
  (42, .iload_n 1, 1, 43, 0, 0, 0, []),
  (43, .ifCond .ge 14, 3, 46, 57, 0, 0, []),
  (46, .aload_n 0, 1, 47, 0, 0, 0, []),
  (47, .iload_n 3, 1, 48, 0, 0, 0, []),
  (48, .putfield 235, 3, 51, 9, 35, 0, []),
  (51, .aload_n 0, 1, 52, 0, 0, 0, []),
  (52, .iload_n 2, 1, 53, 0, 0, 0, []),
  (53, .putfield 238, 3, 56, 9, 36, 0, []),
  (56, .return_, 1, 57, 0, 0, 0, []),
  (57, .aload_n 0, 1, 58, 0, 0, 0, []),
  (58, .iload_n 1, 1, 59, 0, 0, 0, []),
  (59, .iconst 1, 1, 60, 0, 0, 1, []),
  (60, .isub, 1, 61, 0, 0, 0, []),
  (61, .iload_n 2, 1, 62, 0, 0, 0, []),
  (62, .iload_n 3, 1, 63, 0, 0, 0, []),
  (63, .iload 4, 2, 65, 0, 0, 0, []),
  (65, .invokevirtual 241, 3, 68, M_R_bigs, 0, 0, []),
  (68, .iload 4, 2, 70, 0, 0, 0, []),
  (70, .iload_n 1, 1, 71, 0, 0, 0, []),
  (71, .ishr, 1, 72, 0, 0, 0, []),
  (72, .iconst 1, 1, 73, 0, 0, 1, []),
  (73, .iand, 1, 74, 0, 0, 0, []),
  (74, .iconst 1, 1, 75, 0, 0, 1, []),
  (75, .if_icmp .ne 27, 3, 78, 102, 0, 0, []),
  (78, .aload_n 0, 1, 79, 0, 0, 0, []),
  (79, .iload_n 1, 1, 80, 0, 0, 0, []),
  (80, .iconst 1, 1, 81, 0, 0, 1, []),
  (81, .isub, 1, 82, 0, 0, 0, []),
  (82, .iload_n 2, 1, 83, 0, 0, 0, []),
  (83, .iconst 1, 1, 84, 0, 0, 1, []),
  (84, .iload_n 1, 1, 85, 0, 0, 0, []),
  (85, .ishl, 1, 86, 0, 0, 0, []),
  (86, .ior, 1, 87, 0, 0, 0, []),
  (87, .iload_n 3, 1, 88, 0, 0, 0, []),
  (88, .iconst 1, 1, 89, 0, 0, 1, []),
  (89, .iadd, 1, 90, 0, 0, 0, []),
  (90, .iload 4, 2, 92, 0, 0, 0, []),
  (92, .aload_n 0, 1, 93, 0, 0, 0, []),
  (93, .getfield 103, 3, 96, 9, 34, 0, []),
  (96, .iload_n 1, 1, 97, 0, 0, 0, []),
  (97, .iaload, 1, 98, 0, 0, 0, []),
  (98, .iand, 1, 99, 0, 0, 0, []),
  (99, .invokevirtual 241, 3, 102, M_R_bigs, 0, 0, []),
  (102, .return_, 1, 103, 0, 0, 0, [])]
set_option maxRecDepth 100000 in
theorem kc_R_bigs : k_R_bigs.all (am_chk am_m148) = true := by decide +kernel
theorem q_R_bigs : am_ms[M_R_bigs]? = some am_m148 := rfl
def k_R_shown : List am_I := [
  (0, .iload_n 1, 1, 1, 0, 0, 0, []),
  (1, .ifCond .ne 10, 3, 4, 11, 0, 0, []),
  (4, .aload_n 0, 1, 5, 0, 0, 0, []),
  (5, .getfield 106, 3, 8, 9, 37, 0, []),
  (8, .goto 28, 3, 11, 36, 0, 0, []),
  (11, .iload_n 1, 1, 12, 0, 0, 0, []),
  (12, .iconst 1, 1, 13, 0, 0, 1, []),
  (13, .if_icmp .ne 10, 3, 16, 23, 0, 0, []),
  (16, .aload_n 0, 1, 17, 0, 0, 0, []),
  (17, .getfield 109, 3, 20, 9, 38, 0, []),
  (20, .goto 16, 3, 23, 36, 0, 0, []),
  (23, .iload_n 1, 1, 24, 0, 0, 0, []),
  (24, .iconst 2, 1, 25, 0, 0, 2, []),
  (25, .if_icmp .ne 10, 3, 28, 35, 0, 0, []),
  (28, .aload_n 0, 1, 29, 0, 0, 0, []),
  (29, .getfield 112, 3, 32, 9, 39, 0, []),
  (32, .goto 4, 3, 35, 36, 0, 0, []),
  (35, .iconst (-1), 1, 36, 0, 0, (-1), []),
  (36, .ireturn, 1, 37, 0, 0, 0, [])]
set_option maxRecDepth 100000 in
theorem kc_R_shown : k_R_shown.all (am_chk am_m149) = true := by decide +kernel
theorem q_R_shown : am_ms[M_R_shown]? = some am_m149 := rfl
def k_R_count : List am_I := [
  (0, .iconst 0, 1, 1, 0, 0, 0, []),
  (1, .istore_n 2, 1, 2, 0, 0, 0, []),
  (2, .iload_n 1, 1, 3, 0, 0, 0, []),
  (3, .tableswitch 189 0 13 #[69, 74, 79, 85, 90, 144, 149, 154, 159, 164, 169, 174, 179, 184], 69, 72, 192, 0, 0, [72, 77, 82, 88, 93, 147, 152, 157, 162, 167, 172, 177, 182, 187]),
  (72, .aload_n 0, 1, 73, 0, 0, 0, []),
  (73, .getfield 119, 3, 76, 9, 0, 0, []),
  (76, .ireturn, 1, 77, 0, 0, 0, []),
  (77, .aload_n 0, 1, 78, 0, 0, 0, []),
  (78, .invokevirtual 122, 3, 81, M_R_placed, 0, 0, []),
  (81, .ireturn, 1, 82, 0, 0, 0, []),
  (82, .aload_n 0, 1, 83, 0, 0, 0, []),
  (83, .iconst 0, 1, 84, 0, 0, 0, []),
  (84, .invokevirtual 200, 3, 87, M_R_weights, 0, 0, []),
  (87, .ireturn, 1, 88, 0, 0, 0, []),
  (88, .aload_n 0, 1, 89, 0, 0, 0, []),
  (89, .invokevirtual 178, 3, 92, M_R_farthest, 0, 0, []),
  (92, .ireturn, 1, 93, 0, 0, 0, []),
  (93, .iconst 0, 1, 94, 0, 0, 0, []),
  (94, .istore_n 3, 1, 95, 0, 0, 0, []),
  (95, .iload_n 3, 1, 96, 0, 0, 0, []),
  (96, .aload_n 0, 1, 97, 0, 0, 0, []),
  (97, .getfield 119, 3, 100, 9, 0, 0, []),
  (100, .if_icmp .ge 45, 3, 103, 145, 0, 0, []),
  (103, .iload_n 2, 1, 104, 0, 0, 0, []),
  (104, .aload_n 0, 1, 105, 0, 0, 0, []),
  (105, .getfield 35, 3, 108, 9, 9, 0, []),
  (108, .iload_n 3, 1, 109, 0, 0, 0, []),
  (109, .baload, 1, 110, 0, 0, 0, []),
  (110, .ifCond .eq 26, 3, 113, 136, 0, 0, []),
  (113, .aload_n 0, 1, 114, 0, 0, 0, []),
  (114, .getfield 7, 3, 117, 9, 1, 0, []),
  (117, .iload_n 3, 1, 118, 0, 0, 0, []),
  (118, .iaload, 1, 119, 0, 0, 0, []),
  (119, .aload_n 0, 1, 120, 0, 0, 0, []),
  (120, .getfield 13, 3, 123, 9, 2, 0, []),
  (123, .iload_n 3, 1, 124, 0, 0, 0, []),
  (124, .iaload, 1, 125, 0, 0, 0, []),
  (125, .imul, 1, 126, 0, 0, 0, []),
  (126, .aload_n 0, 1, 127, 0, 0, 0, []),
  (127, .getfield 16, 3, 130, 9, 3, 0, []),
  (130, .iload_n 3, 1, 131, 0, 0, 0, []),
  (131, .iaload, 1, 132, 0, 0, 0, []),
  (132, .imul, 1, 133, 0, 0, 0, []),
  (133, .goto 4, 3, 136, 137, 0, 0, []),
  (136, .iconst 0, 1, 137, 0, 0, 0, []),
  (137, .iadd, 1, 138, 0, 0, 0, []),
  (138, .istore_n 2, 1, 139, 0, 0, 0, []),
  (139, .iinc 3 1, 3, 142, 0, 0, 1, []),
  (142, .goto (-47), 3, 145, 95, 0, 0, []),
  (145, .iload_n 2, 1, 146, 0, 0, 0, []),
  (146, .ireturn, 1, 147, 0, 0, 0, []),
  (147, .aload_n 0, 1, 148, 0, 0, 0, []),
  (148, .getfield 50, 3, 151, 9, 14, 0, []),
  (151, .ireturn, 1, 152, 0, 0, 0, []),
  (152, .aload_n 0, 1, 153, 0, 0, 0, []),
  (153, .getfield 54, 3, 156, 9, 15, 0, []),
  (156, .ireturn, 1, 157, 0, 0, 0, []),
  (157, .aload_n 0, 1, 158, 0, 0, 0, []),
  (158, .getfield 57, 3, 161, 9, 16, 0, []),
  (161, .ireturn, 1, 162, 0, 0, 0, []),
  (162, .aload_n 0, 1, 163, 0, 0, 0, []),
  (163, .getfield 60, 3, 166, 9, 17, 0, []),
  (166, .ireturn, 1, 167, 0, 0, 0, []),
  (167, .aload_n 0, 1, 168, 0, 0, 0, []),
  (168, .getfield 63, 3, 171, 9, 18, 0, []),
  (171, .ireturn, 1, 172, 0, 0, 0, []),
  (172, .aload_n 0, 1, 173, 0, 0, 0, []),
  (173, .getfield 66, 3, 176, 9, 19, 0, []),
  (176, .ireturn, 1, 177, 0, 0, 0, []),
  (177, .aload_n 0, 1, 178, 0, 0, 0, []),
  (178, .getfield 70, 3, 181, 9, 20, 0, []),
  (181, .ireturn, 1, 182, 0, 0, 0, []),
  (182, .aload_n 0, 1, 183, 0, 0, 0, []),
  (183, .getfield 73, 3, 186, 9, 21, 0, []),
  (186, .ireturn, 1, 187, 0, 0, 0, []),
  (187, .aload_n 0, 1, 188, 0, 0, 0, []),
  (188, .getfield 76, 3, 191, 9, 22, 0, []),
  (191, .ireturn, 1, 192, 0, 0, 0, []),
  (192, .iconst (-1), 1, 193, 0, 0, (-1), []),
  (193, .ireturn, 1, 194, 0, 0, 0, [])]
set_option maxRecDepth 100000 in
theorem kc_R_count : k_R_count.all (am_chk am_m150) = true := by decide +kernel
theorem q_R_count : am_ms[M_R_count]? = some am_m150 := rfl
end
section
/-! the code, instruction by instruction (written by tools/gen3.py) -/
def k_Hold_new : List am_I := [
  (0, .aload_n 0, 1, 1, 0, 0, 0, []),
  (1, .invokespecial 3, 3, 4, 0, 9, 0, []),
  (4, .aload_n 0, 1, 5, 0, 0, 0, []),
  (5, .new 9, 3, 8, 7, 0, 0, []),
  (8, .dup, 1, 9, 0, 0, 0, []),
  (9, .invokespecial 11, 3, 12, M_Truck_new, 1, 0, []),
  (12, .putfield 12, 3, 15, 5, 0, 0, []),
  (15, .aload_n 0, 1, 16, 0, 0, 0, []),
  (16, .bipush 20, 2, 18, 0, 0, 20, []),
  (18, .anewarray 18, 3, 21, 2, 0, 0, []),
  (21, .putfield 20, 3, 24, 5, 1, 0, []),
  (24, .aload_n 0, 1, 25, 0, 0, 0, []),
  (25, .bipush 20, 2, 27, 0, 0, 20, []),
  (27, .newarray .int, 2, 29, 0, 0, 0, []),
  (29, .putfield 24, 3, 32, 5, 4, 0, []),
  (32, .aload_n 0, 1, 33, 0, 0, 0, []),
  (33, .bipush 20, 2, 35, 0, 0, 20, []),
  (35, .newarray .int, 2, 37, 0, 0, 0, []),
  (37, .putfield 28, 3, 40, 5, 5, 0, []),
  (40, .aload_n 0, 1, 41, 0, 0, 0, []),
  (41, .new 31, 3, 44, 4, 0, 0, []),
  (44, .dup, 1, 45, 0, 0, 0, []),
  (45, .invokespecial 33, 3, 48, M_Edges_new, 1, 0, []),
  (48, .putfield 34, 3, 51, 5, 6, 0, []),
  (51, .aload_n 0, 1, 52, 0, 0, 0, []),
  (52, .new 31, 3, 55, 4, 0, 0, []),
  (55, .dup, 1, 56, 0, 0, 0, []),
  (56, .invokespecial 33, 3, 59, M_Edges_new, 1, 0, []),
  (59, .putfield 38, 3, 62, 5, 7, 0, []),
  (62, .aload_n 0, 1, 63, 0, 0, 0, []),
  (63, .new 31, 3, 66, 4, 0, 0, []),
  (66, .dup, 1, 67, 0, 0, 0, []),
  (67, .invokespecial 33, 3, 70, M_Edges_new, 1, 0, []),
  (70, .putfield 41, 3, 73, 5, 8, 0, []),
  (73, .iconst 0, 1, 74, 0, 0, 0, []),
  (74, .istore_n 1, 1, 75, 0, 0, 0, []),
  (75, .iload_n 1, 1, 76, 0, 0, 0, []),
  (76, .bipush 20, 2, 78, 0, 0, 20, []),
  (78, .if_icmp .ge 22, 3, 81, 100, 0, 0, []),
  (81, .aload_n 0, 1, 82, 0, 0, 0, []),
  (82, .getfield 20, 3, 85, 5, 1, 0, []),
  (85, .iload_n 1, 1, 86, 0, 0, 0, []),
  (86, .new 18, 3, 89, 2, 0, 0, []),
  (89, .dup, 1, 90, 0, 0, 0, []),
  (90, .invokespecial 44, 3, 93, M_Box_new, 1, 0, []),
  (93, .aastore, 1, 94, 0, 0, 0, []),
  (94, .iinc 1 1, 3, 97, 0, 0, 1, []),
  (97, .goto (-22), 3, 100, 75, 0, 0, []),
  (100, .return_, 1, 101, 0, 0, 0, [])]
set_option maxRecDepth 100000 in
theorem kc_Hold_new : k_Hold_new.all (am_chk am_m1) = true := by decide +kernel
theorem q_Hold_new : am_ms[M_Hold_new]? = some am_m1 := rfl
def k_Truck_new : List am_I := [
  (0, .aload_n 0, 1, 1, 0, 0, 0, []),
  (1, .invokespecial 1, 3, 4, 0, 9, 0, []),
  (4, .aload_n 0, 1, 5, 0, 0, 0, []),
  (5, .bipush 10, 2, 7, 0, 0, 10, []),
  (7, .putfield 7, 3, 10, 7, 0, 0, []),
  (10, .aload_n 0, 1, 11, 0, 0, 0, []),
  (11, .iconst 4, 1, 12, 0, 0, 4, []),
  (12, .putfield 13, 3, 15, 7, 1, 0, []),
  (15, .aload_n 0, 1, 16, 0, 0, 0, []),
  (16, .iconst 4, 1, 17, 0, 0, 4, []),
  (17, .putfield 16, 3, 20, 7, 2, 0, []),
  (20, .aload_n 0, 1, 21, 0, 0, 0, []),
  (21, .bipush 70, 2, 23, 0, 0, 70, []),
  (23, .putfield 19, 3, 26, 7, 3, 0, []),
  (26, .aload_n 0, 1, 27, 0, 0, 0, []),
  (27, .iconst 2, 1, 28, 0, 0, 2, []),
  (28, .putfield 22, 3, 31, 7, 4, 0, []),
  (31, .aload_n 0, 1, 32, 0, 0, 0, []),
  (32, .bipush 8, 2, 34, 0, 0, 8, []),
  (34, .putfield 25, 3, 37, 7, 5, 0, []),
  (37, .aload_n 0, 1, 38, 0, 0, 0, []),
  (38, .ldc 28, 2, 40, 0, 0, 100000, []),
  (40, .putfield 29, 3, 43, 7, 6, 0, []),
  (43, .aload_n 0, 1, 44, 0, 0, 0, []),
  (44, .ldc 28, 2, 46, 0, 0, 100000, []),
  (46, .putfield 32, 3, 49, 7, 7, 0, []),
  (49, .aload_n 0, 1, 50, 0, 0, 0, []),
  (50, .bipush 100, 2, 52, 0, 0, 100, []),
  (52, .putfield 35, 3, 55, 7, 8, 0, []),
  (55, .return_, 1, 56, 0, 0, 0, [])]
set_option maxRecDepth 100000 in
theorem kc_Truck_new : k_Truck_new.all (am_chk am_m2) = true := by decide +kernel
theorem q_Truck_new : am_ms[M_Truck_new]? = some am_m2 := rfl
def k_Edges_new : List am_I := [
  (0, .aload_n 0, 1, 1, 0, 0, 0, []),
  (1, .invokespecial 3, 3, 4, 0, 9, 0, []),
  (4, .aload_n 0, 1, 5, 0, 0, 0, []),
  (5, .bipush 21, 2, 7, 0, 0, 21, []),
  (7, .newarray .int, 2, 9, 0, 0, 0, []),
  (9, .putfield 9, 3, 12, 4, 0, 0, []),
  (12, .aload_n 0, 1, 13, 0, 0, 0, []),
  (13, .bipush 21, 2, 15, 0, 0, 21, []),
  (15, .newarray .int, 2, 17, 0, 0, 0, []),
  (17, .putfield 15, 3, 20, 4, 1, 0, []),
  (20, .aload_n 0, 1, 21, 0, 0, 0, []),
  (21, .bipush 21, 2, 23, 0, 0, 21, []),
  (23, .newarray .int, 2, 25, 0, 0, 0, []),
  (25, .putfield 18, 3, 28, 4, 2, 0, []),
  (28, .return_, 1, 29, 0, 0, 0, [])]
set_option maxRecDepth 100000 in
theorem kc_Edges_new : k_Edges_new.all (am_chk am_m3) = true := by decide +kernel
theorem q_Edges_new : am_ms[M_Edges_new]? = some am_m3 := rfl
def k_Box_new : List am_I := [
  (0, .aload_n 0, 1, 1, 0, 0, 0, []),
  (1, .invokespecial 1, 3, 4, 0, 9, 0, []),
  (4, .return_, 1, 5, 0, 0, 0, [])]
set_option maxRecDepth 100000 in
theorem kc_Box_new : k_Box_new.all (am_chk am_m4) = true := by decide +kernel
theorem q_Box_new : am_ms[M_Box_new]? = some am_m4 := rfl
def k_Orders_new : List am_I := [
  (0, .aload_n 0, 1, 1, 0, 0, 0, []),
  (1, .invokespecial 3, 3, 4, 0, 9, 0, []),
  (4, .aload_n 0, 1, 5, 0, 0, 0, []),
  (5, .iconst 5, 1, 6, 0, 0, 5, []),
  (6, .newarray .int, 2, 8, 0, 0, 0, []),
  (8, .putfield 9, 3, 11, 6, 0, 0, []),
  (11, .aload_n 0, 1, 12, 0, 0, 0, []),
  (12, .iconst 5, 1, 13, 0, 0, 5, []),
  (13, .newarray .int, 2, 15, 0, 0, 0, []),
  (15, .putfield 15, 3, 18, 6, 1, 0, []),
  (18, .return_, 1, 19, 0, 0, 0, [])]
set_option maxRecDepth 100000 in
theorem kc_Orders_new : k_Orders_new.all (am_chk am_m5) = true := by decide +kernel
theorem q_Orders_new : am_ms[M_Orders_new]? = some am_m5 := rfl
def k_Hold_knows : List am_I := [
  (0, .iload_n 1, 1, 1, 0, 0, 0, []),
  (1, .ifCond .lt 15, 3, 4, 16, 0, 0, []),
  (4, .iload_n 1, 1, 5, 0, 0, 0, []),
  (5, .aload_n 0, 1, 6, 0, 0, 0, []),
  (6, .getfield 45, 3, 9, 5, 2, 0, []),
  (9, .if_icmp .ge 7, 3, 12, 16, 0, 0, []),
  (12, .iconst 1, 1, 13, 0, 0, 1, []),
  (13, .goto 4, 3, 16, 17, 0, 0, []),
  (16, .iconst 0, 1, 17, 0, 0, 0, []),
  (17, .ireturn, 1, 18, 0, 0, 0, [])]
set_option maxRecDepth 100000 in
theorem kc_Hold_knows : k_Hold_knows.all (am_chk am_m17) = true := by decide +kernel
theorem q_Hold_knows : am_ms[M_Hold_knows]? = some am_m17 := rfl
def k_Hold_has : List am_I := [
  (0, .aload_n 0, 1, 1, 0, 0, 0, []),
  (1, .getfield 49, 3, 4, 5, 3, 0, []),
  (4, .iload_n 1, 1, 5, 0, 0, 0, []),
  (5, .ishr, 1, 6, 0, 0, 0, []),
  (6, .iconst 1, 1, 7, 0, 0, 1, []),
  (7, .iand, 1, 8, 0, 0, 0, []),
  (8, .ifCond .eq 7, 3, 11, 15, 0, 0, []),
  (11, .iconst 1, 1, 12, 0, 0, 1, []),
  (12, .goto 4, 3, 15, 16, 0, 0, []),
  (15, .iconst 0, 1, 16, 0, 0, 0, []),
  (16, .ireturn, 1, 17, 0, 0, 0, [])]
set_option maxRecDepth 100000 in
theorem kc_Hold_has : k_Hold_has.all (am_chk am_m18) = true := by decide +kernel
theorem q_Hold_has : am_ms[M_Hold_has]? = some am_m18 := rfl
def k_Hold_stand : List am_I := [
  (0, .aload_n 0, 1, 1, 0, 0, 0, []),
  (1, .getfield 20, 3, 4, 5, 1, 0, []),
  (4, .iload_n 1, 1, 5, 0, 0, 0, []),
  (5, .aaload, 1, 6, 0, 0, 0, []),
  (6, .astore 6, 2, 8, 0, 0, 0, []),
  (8, .aload 6, 2, 10, 0, 0, 0, []),
  (10, .iload_n 2, 1, 11, 0, 0, 0, []),
  (11, .iload_n 3, 1, 12, 0, 0, 0, []),
  (12, .iload 4, 2, 14, 0, 0, 0, []),
  (14, .iload 5, 2, 16, 0, 0, 0, []),
  (16, .invokevirtual 89, 3, 19, M_Box_moveTo, 0, 0, []),
  (19, .aload_n 0, 1, 20, 0, 0, 0, []),
  (20, .aload_n 0, 1, 21, 0, 0, 0, []),
  (21, .aload 6, 2, 23, 0, 0, 0, []),
  (23, .getfield 93, 3, 26, 2, 8, 0, []),
  (26, .aload 6, 2, 28, 0, 0, 0, []),
  (28, .getfield 59, 3, 31, 2, 11, 0, []),
  (31, .invokevirtual 96, 3, 34, M_Hold_commonInX, 0, 0, []),
  (34, .putfield 100, 3, 37, 5, 9, 0, []),
  (37, .aload_n 0, 1, 38, 0, 0, 0, []),
  (38, .aload_n 0, 1, 39, 0, 0, 0, []),
  (39, .aload 6, 2, 41, 0, 0, 0, []),
  (41, .getfield 103, 3, 44, 2, 9, 0, []),
  (44, .aload 6, 2, 46, 0, 0, 0, []),
  (46, .getfield 106, 3, 49, 2, 12, 0, []),
  (49, .invokevirtual 109, 3, 52, M_Hold_commonInY, 0, 0, []),
  (52, .putfield 112, 3, 55, 5, 10, 0, []),
  (55, .aload_n 0, 1, 56, 0, 0, 0, []),
  (56, .aload_n 0, 1, 57, 0, 0, 0, []),
  (57, .aload 6, 2, 59, 0, 0, 0, []),
  (59, .getfield 115, 3, 62, 2, 10, 0, []),
  (62, .aload 6, 2, 64, 0, 0, 0, []),
  (64, .getfield 118, 3, 67, 2, 13, 0, []),
  (67, .invokevirtual 121, 3, 70, M_Hold_commonInZ, 0, 0, []),
  (70, .putfield 124, 3, 73, 5, 11, 0, []),
  (73, .return_, 1, 74, 0, 0, 0, [])]
set_option maxRecDepth 100000 in
theorem kc_Hold_stand : k_Hold_stand.all (am_chk am_m19) = true := by decide +kernel
theorem q_Hold_stand : am_ms[M_Hold_stand]? = some am_m19 := rfl
def k_Box_moveTo : List am_I := [
  (0, .aload_n 0, 1, 1, 0, 0, 0, []),
  (1, .iload_n 1, 1, 2, 0, 0, 0, []),
  (2, .putfield 7, 3, 5, 2, 8, 0, []),
  (5, .aload_n 0, 1, 6, 0, 0, 0, []),
  (6, .iload_n 2, 1, 7, 0, 0, 0, []),
  (7, .putfield 13, 3, 10, 2, 9, 0, []),
  (10, .aload_n 0, 1, 11, 0, 0, 0, []),
  (11, .iload_n 3, 1, 12, 0, 0, 0, []),
  (12, .putfield 16, 3, 15, 2, 10, 0, []),
  (15, .aload_n 0, 1, 16, 0, 0, 0, []),
  (16, .iload 4, 2, 18, 0, 0, 0, []),
  (18, .putfield 19, 3, 21, 2, 14, 0, []),
  (21, .aload_n 0, 1, 22, 0, 0, 0, []),
  (22, .iload_n 1, 1, 23, 0, 0, 0, []),
  (23, .iload 4, 2, 25, 0, 0, 0, []),
  (25, .ifCond .eq 10, 3, 28, 35, 0, 0, []),
  (28, .aload_n 0, 1, 29, 0, 0, 0, []),
  (29, .getfield 23, 3, 32, 2, 1, 0, []),
  (32, .goto 7, 3, 35, 39, 0, 0, []),
  (35, .aload_n 0, 1, 36, 0, 0, 0, []),
  (36, .getfield 26, 3, 39, 2, 0, 0, []),
  (39, .iadd, 1, 40, 0, 0, 0, []),
  (40, .putfield 29, 3, 43, 2, 11, 0, []),
  (43, .aload_n 0, 1, 44, 0, 0, 0, []),
  (44, .iload_n 2, 1, 45, 0, 0, 0, []),
  (45, .iload 4, 2, 47, 0, 0, 0, []),
  (47, .ifCond .eq 10, 3, 50, 57, 0, 0, []),
  (50, .aload_n 0, 1, 51, 0, 0, 0, []),
  (51, .getfield 26, 3, 54, 2, 0, 0, []),
  (54, .goto 7, 3, 57, 61, 0, 0, []),
  (57, .aload_n 0, 1, 58, 0, 0, 0, []),
  (58, .getfield 23, 3, 61, 2, 1, 0, []),
  (61, .iadd, 1, 62, 0, 0, 0, []),
  (62, .putfield 32, 3, 65, 2, 12, 0, []),
  (65, .aload_n 0, 1, 66, 0, 0, 0, []),
  (66, .iload_n 3, 1, 67, 0, 0, 0, []),
  (67, .aload_n 0, 1, 68, 0, 0, 0, []),
  (68, .getfield 35, 3, 71, 2, 2, 0, []),
  (71, .iadd, 1, 72, 0, 0, 0, []),
  (72, .putfield 38, 3, 75, 2, 13, 0, []),
  (75, .return_, 1, 76, 0, 0, 0, [])]
set_option maxRecDepth 100000 in
theorem kc_Box_moveTo : k_Box_moveTo.all (am_chk am_m20) = true := by decide +kernel
theorem q_Box_moveTo : am_ms[M_Box_moveTo]? = some am_m20 := rfl
def k_Hold_commonInX : List am_I := [
  (0, .iconst 0, 1, 1, 0, 0, 0, []),
  (1, .istore_n 3, 1, 2, 0, 0, 0, []),
  (2, .iconst 0, 1, 3, 0, 0, 0, []),
  (3, .istore 4, 2, 5, 0, 0, 0, []),
  (5, .iload 4, 2, 7, 0, 0, 0, []),
  (7, .aload_n 0, 1, 8, 0, 0, 0, []),
  (8, .getfield 45, 3, 11, 5, 2, 0, []),
  (11, .if_icmp .ge 53, 3, 14, 64, 0, 0, []),
  (14, .aload_n 0, 1, 15, 0, 0, 0, []),
  (15, .iload 4, 2, 17, 0, 0, 0, []),
  (17, .invokevirtual 52, 3, 20, M_Hold_has, 0, 0, []),
  (20, .ifCond .eq 38, 3, 23, 58, 0, 0, []),
  (23, .aload_n 0, 1, 24, 0, 0, 0, []),
  (24, .getfield 20, 3, 27, 5, 1, 0, []),
  (27, .iload 4, 2, 29, 0, 0, 0, []),
  (29, .aaload, 1, 30, 0, 0, 0, []),
  (30, .getfield 93, 3, 33, 2, 8, 0, []),
  (33, .iload_n 2, 1, 34, 0, 0, 0, []),
  (34, .if_icmp .ge 24, 3, 37, 58, 0, 0, []),
  (37, .iload_n 1, 1, 38, 0, 0, 0, []),
  (38, .aload_n 0, 1, 39, 0, 0, 0, []),
  (39, .getfield 20, 3, 42, 5, 1, 0, []),
  (42, .iload 4, 2, 44, 0, 0, 0, []),
  (44, .aaload, 1, 45, 0, 0, 0, []),
  (45, .getfield 59, 3, 48, 2, 11, 0, []),
  (48, .if_icmp .ge 10, 3, 51, 58, 0, 0, []),
  (51, .iload_n 3, 1, 52, 0, 0, 0, []),
  (52, .iconst 1, 1, 53, 0, 0, 1, []),
  (53, .iload 4, 2, 55, 0, 0, 0, []),
  (55, .ishl, 1, 56, 0, 0, 0, []),
  (56, .ior, 1, 57, 0, 0, 0, []),
  (57, .istore_n 3, 1, 58, 0, 0, 0, []),
  (58, .iinc 4 1, 3, 61, 0, 0, 1, []),
  (61, .goto (-56), 3, 64, 5, 0, 0, []),
  (64, .iload_n 3, 1, 65, 0, 0, 0, []),
  (65, .ireturn, 1, 66, 0, 0, 0, [])]
set_option maxRecDepth 100000 in
theorem kc_Hold_commonInX : k_Hold_commonInX.all (am_chk am_m21) = true := by decide +kernel
theorem q_Hold_commonInX : am_ms[M_Hold_commonInX]? = some am_m21 := rfl
def k_Hold_commonInY : List am_I := [
  (0, .iconst 0, 1, 1, 0, 0, 0, []),
  (1, .istore_n 3, 1, 2, 0, 0, 0, []),
  (2, .iconst 0, 1, 3, 0, 0, 0, []),
  (3, .istore 4, 2, 5, 0, 0, 0, []),
  (5, .iload 4, 2, 7, 0, 0, 0, []),
  (7, .aload_n 0, 1, 8, 0, 0, 0, []),
  (8, .getfield 45, 3, 11, 5, 2, 0, []),
  (11, .if_icmp .ge 53, 3, 14, 64, 0, 0, []),
  (14, .aload_n 0, 1, 15, 0, 0, 0, []),
  (15, .iload 4, 2, 17, 0, 0, 0, []),
  (17, .invokevirtual 52, 3, 20, M_Hold_has, 0, 0, []),
  (20, .ifCond .eq 38, 3, 23, 58, 0, 0, []),
  (23, .aload_n 0, 1, 24, 0, 0, 0, []),
  (24, .getfield 20, 3, 27, 5, 1, 0, []),
  (27, .iload 4, 2, 29, 0, 0, 0, []),
  (29, .aaload, 1, 30, 0, 0, 0, []),
  (30, .getfield 103, 3, 33, 2, 9, 0, []),
  (33, .iload_n 2, 1, 34, 0, 0, 0, []),
  (34, .if_icmp .ge 24, 3, 37, 58, 0, 0, []),
  (37, .iload_n 1, 1, 38, 0, 0, 0, []),
  (38, .aload_n 0, 1, 39, 0, 0, 0, []),
  (39, .getfield 20, 3, 42, 5, 1, 0, []),
  (42, .iload 4, 2, 44, 0, 0, 0, []),
  (44, .aaload, 1, 45, 0, 0, 0, []),
  (45, .getfield 106, 3, 48, 2, 12, 0, []),
  (48, .if_icmp .ge 10, 3, 51, 58, 0, 0, []),
  (51, .iload_n 3, 1, 52, 0, 0, 0, []),
  (52, .iconst 1, 1, 53, 0, 0, 1, []),
  (53, .iload 4, 2, 55, 0, 0, 0, []),
  (55, .ishl, 1, 56, 0, 0, 0, []),
  (56, .ior, 1, 57, 0, 0, 0, []),
  (57, .istore_n 3, 1, 58, 0, 0, 0, []),
  (58, .iinc 4 1, 3, 61, 0, 0, 1, []),
  (61, .goto (-56), 3, 64, 5, 0, 0, []),
  (64, .iload_n 3, 1, 65, 0, 0, 0, []),
  (65, .ireturn, 1, 66, 0, 0, 0, [])]
set_option maxRecDepth 100000 in
theorem kc_Hold_commonInY : k_Hold_commonInY.all (am_chk am_m22) = true := by decide +kernel
theorem q_Hold_commonInY : am_ms[M_Hold_commonInY]? = some am_m22 := rfl
def k_Hold_commonInZ : List am_I := [
  (0, .iconst 0, 1, 1, 0, 0, 0, []),
  (1, .istore_n 3, 1, 2, 0, 0, 0, []),
  (2, .iconst 0, 1, 3, 0, 0, 0, []),
  (3, .istore 4, 2, 5, 0, 0, 0, []),
  (5, .iload 4, 2, 7, 0, 0, 0, []),
  (7, .aload_n 0, 1, 8, 0, 0, 0, []),
  (8, .getfield 45, 3, 11, 5, 2, 0, []),
  (11, .if_icmp .ge 53, 3, 14, 64, 0, 0, []),
  (14, .aload_n 0, 1, 15, 0, 0, 0, []),
  (15, .iload 4, 2, 17, 0, 0, 0, []),
  (17, .invokevirtual 52, 3, 20, M_Hold_has, 0, 0, []),
  (20, .ifCond .eq 38, 3, 23, 58, 0, 0, []),
  (23, .aload_n 0, 1, 24, 0, 0, 0, []),
  (24, .getfield 20, 3, 27, 5, 1, 0, []),
  (27, .iload 4, 2, 29, 0, 0, 0, []),
  (29, .aaload, 1, 30, 0, 0, 0, []),
  (30, .getfield 115, 3, 33, 2, 10, 0, []),
  (33, .iload_n 2, 1, 34, 0, 0, 0, []),
  (34, .if_icmp .ge 24, 3, 37, 58, 0, 0, []),
  (37, .iload_n 1, 1, 38, 0, 0, 0, []),
  (38, .aload_n 0, 1, 39, 0, 0, 0, []),
  (39, .getfield 20, 3, 42, 5, 1, 0, []),
  (42, .iload 4, 2, 44, 0, 0, 0, []),
  (44, .aaload, 1, 45, 0, 0, 0, []),
  (45, .getfield 118, 3, 48, 2, 13, 0, []),
  (48, .if_icmp .ge 10, 3, 51, 58, 0, 0, []),
  (51, .iload_n 3, 1, 52, 0, 0, 0, []),
  (52, .iconst 1, 1, 53, 0, 0, 1, []),
  (53, .iload 4, 2, 55, 0, 0, 0, []),
  (55, .ishl, 1, 56, 0, 0, 0, []),
  (56, .ior, 1, 57, 0, 0, 0, []),
  (57, .istore_n 3, 1, 58, 0, 0, 0, []),
  (58, .iinc 4 1, 3, 61, 0, 0, 1, []),
  (61, .goto (-56), 3, 64, 5, 0, 0, []),
  (64, .iload_n 3, 1, 65, 0, 0, 0, []),
  (65, .ireturn, 1, 66, 0, 0, 0, [])]
set_option maxRecDepth 100000 in
theorem kc_Hold_commonInZ : k_Hold_commonInZ.all (am_chk am_m23) = true := by decide +kernel
theorem q_Hold_commonInZ : am_ms[M_Hold_commonInZ]? = some am_m23 := rfl
def k_Hold_faults : List am_I := [
  (0, .aload_n 0, 1, 1, 0, 0, 0, []),
  (1, .getfield 20, 3, 4, 5, 1, 0, []),
  (4, .iload_n 1, 1, 5, 0, 0, 0, []),
  (5, .aaload, 1, 6, 0, 0, 0, []),
  (6, .astore_n 2, 1, 7, 0, 0, 0, []),
  (7, .aload_n 0, 1, 8, 0, 0, 0, []),
  (8, .aload_n 2, 1, 9, 0, 0, 0, []),
  (9, .invokevirtual 127, 3, 12, M_Hold_isInside, 0, 0, []),
  (12, .ifCond .eq 7, 3, 15, 19, 0, 0, []),
  (15, .iconst 0, 1, 16, 0, 0, 0, []),
  (16, .goto 4, 3, 19, 20, 0, 0, []),
  (19, .iconst 1, 1, 20, 0, 0, 1, []),
  (20, .istore_n 3, 1, 21, 0, 0, 0, []),
  (21, .aload_n 0, 1, 22, 0, 0, 0, []),
  (22, .getfield 100, 3, 25, 5, 9, 0, []),
  (25, .aload_n 0, 1, 26, 0, 0, 0, []),
  (26, .getfield 112, 3, 29, 5, 10, 0, []),
  (29, .iand, 1, 30, 0, 0, 0, []),
  (30, .aload_n 0, 1, 31, 0, 0, 0, []),
  (31, .getfield 124, 3, 34, 5, 11, 0, []),
  (34, .iand, 1, 35, 0, 0, 0, []),
  (35, .ifCond .eq 7, 3, 38, 42, 0, 0, []),
  (38, .iload_n 3, 1, 39, 0, 0, 0, []),
  (39, .iconst 2, 1, 40, 0, 0, 2, []),
  (40, .ior, 1, 41, 0, 0, 0, []),
  (41, .istore_n 3, 1, 42, 0, 0, 0, []),
  (42, .iload_n 3, 1, 43, 0, 0, 0, []),
  (43, .ifCond .eq 5, 3, 46, 48, 0, 0, []),
  (46, .iload_n 3, 1, 47, 0, 0, 0, []),
  (47, .ireturn, 1, 48, 0, 0, 0, []),
  (48, .aload_n 0, 1, 49, 0, 0, 0, []),
  (49, .aload_n 2, 1, 50, 0, 0, 0, []),
  (50, .invokevirtual 131, 3, 53, M_Hold_isHeld, 0, 0, []),
  (53, .ifCond .ne 10, 3, 56, 63, 0, 0, []),
  (56, .iload_n 3, 1, 57, 0, 0, 0, []),
  (57, .iconst 4, 1, 58, 0, 0, 4, []),
  (58, .ior, 1, 59, 0, 0, 0, []),
  (59, .istore_n 3, 1, 60, 0, 0, 0, []),
  (60, .goto 23, 3, 63, 83, 0, 0, []),
  (63, .aload_n 0, 1, 64, 0, 0, 0, []),
  (64, .aload_n 0, 1, 65, 0, 0, 0, []),
  (65, .getfield 49, 3, 68, 5, 3, 0, []),
  (68, .iconst 1, 1, 69, 0, 0, 1, []),
  (69, .iload_n 1, 1, 70, 0, 0, 0, []),
  (70, .ishl, 1, 71, 0, 0, 0, []),
  (71, .ior, 1, 72, 0, 0, 0, []),
  (72, .invokevirtual 70, 3, 75, M_Hold_bearAll, 0, 0, []),
  (75, .ifCond .ne 8, 3, 78, 83, 0, 0, []),
  (78, .iload_n 3, 1, 79, 0, 0, 0, []),
  (79, .bipush 8, 2, 81, 0, 0, 8, []),
  (81, .ior, 1, 82, 0, 0, 0, []),
  (82, .istore_n 3, 1, 83, 0, 0, 0, []),
  (83, .aload_n 0, 1, 84, 0, 0, 0, []),
  (84, .aload_n 2, 1, 85, 0, 0, 0, []),
  (85, .invokevirtual 134, 3, 88, M_Hold_isInWay, 0, 0, []),
  (88, .ifCond .eq 10, 3, 91, 98, 0, 0, []),
  (91, .iload_n 3, 1, 92, 0, 0, 0, []),
  (92, .bipush 16, 2, 94, 0, 0, 16, []),
  (94, .ior, 1, 95, 0, 0, 0, []),
  (95, .goto 4, 3, 98, 99, 0, 0, []),
  (98, .iload_n 3, 1, 99, 0, 0, 0, []),
  (99, .ireturn, 1, 100, 0, 0, 0, [])]
set_option maxRecDepth 100000 in
theorem kc_Hold_faults : k_Hold_faults.all (am_chk am_m24) = true := by decide +kernel
theorem q_Hold_faults : am_ms[M_Hold_faults]? = some am_m24 := rfl
def k_Hold_isInside : List am_I := [
  (0, .aload_n 1, 1, 1, 0, 0, 0, []),
  (1, .getfield 59, 3, 4, 2, 11, 0, []),
  (4, .aload_n 0, 1, 5, 0, 0, 0, []),
  (5, .getfield 12, 3, 8, 5, 0, 0, []),
  (8, .getfield 87, 3, 11, 7, 0, 0, []),
  (11, .if_icmp .gt 35, 3, 14, 46, 0, 0, []),
  (14, .aload_n 1, 1, 15, 0, 0, 0, []),
  (15, .getfield 106, 3, 18, 2, 12, 0, []),
  (18, .aload_n 0, 1, 19, 0, 0, 0, []),
  (19, .getfield 12, 3, 22, 5, 0, 0, []),
  (22, .getfield 88, 3, 25, 7, 1, 0, []),
  (25, .if_icmp .gt 21, 3, 28, 46, 0, 0, []),
  (28, .aload_n 1, 1, 29, 0, 0, 0, []),
  (29, .getfield 118, 3, 32, 2, 13, 0, []),
  (32, .aload_n 0, 1, 33, 0, 0, 0, []),
  (33, .getfield 12, 3, 36, 5, 0, 0, []),
  (36, .getfield 76, 3, 39, 7, 2, 0, []),
  (39, .if_icmp .gt 7, 3, 42, 46, 0, 0, []),
  (42, .iconst 1, 1, 43, 0, 0, 1, []),
  (43, .goto 4, 3, 46, 47, 0, 0, []),
  (46, .iconst 0, 1, 47, 0, 0, 0, []),
  (47, .ireturn, 1, 48, 0, 0, 0, [])]
set_option maxRecDepth 100000 in
theorem kc_Hold_isInside : k_Hold_isInside.all (am_chk am_m25) = true := by decide +kernel
theorem q_Hold_isInside : am_ms[M_Hold_isInside]? = some am_m25 := rfl
def k_Hold_isHeld : List am_I := [
  (0, .aload_n 1, 1, 1, 0, 0, 0, []),
  (1, .getfield 115, 3, 4, 2, 10, 0, []),
  (4, .ifCond .ne 5, 3, 7, 9, 0, 0, []),
  (7, .iconst 1, 1, 8, 0, 0, 1, []),
  (8, .ireturn, 1, 9, 0, 0, 0, []),
  (9, .iconst 0, 1, 10, 0, 0, 0, []),
  (10, .istore_n 2, 1, 11, 0, 0, 0, []),
  (11, .aload_n 0, 1, 12, 0, 0, 0, []),
  (12, .getfield 100, 3, 15, 5, 9, 0, []),
  (15, .aload_n 0, 1, 16, 0, 0, 0, []),
  (16, .getfield 112, 3, 19, 5, 10, 0, []),
  (19, .iand, 1, 20, 0, 0, 0, []),
  (20, .istore_n 3, 1, 21, 0, 0, 0, []),
  (21, .iconst 0, 1, 22, 0, 0, 0, []),
  (22, .istore 4, 2, 24, 0, 0, 0, []),
  (24, .iload 4, 2, 26, 0, 0, 0, []),
  (26, .aload_n 0, 1, 27, 0, 0, 0, []),
  (27, .getfield 45, 3, 30, 5, 2, 0, []),
  (30, .if_icmp .ge 32, 3, 33, 62, 0, 0, []),
  (33, .iload_n 3, 1, 34, 0, 0, 0, []),
  (34, .iload 4, 2, 36, 0, 0, 0, []),
  (36, .ishr, 1, 37, 0, 0, 0, []),
  (37, .iconst 1, 1, 38, 0, 0, 1, []),
  (38, .iand, 1, 39, 0, 0, 0, []),
  (39, .ifCond .eq 17, 3, 42, 56, 0, 0, []),
  (42, .iload_n 2, 1, 43, 0, 0, 0, []),
  (43, .aload_n 1, 1, 44, 0, 0, 0, []),
  (44, .aload_n 0, 1, 45, 0, 0, 0, []),
  (45, .getfield 20, 3, 48, 5, 1, 0, []),
  (48, .iload 4, 2, 50, 0, 0, 0, []),
  (50, .aaload, 1, 51, 0, 0, 0, []),
  (51, .invokevirtual 66, 3, 54, M_Box_areaOn, 0, 0, []),
  (54, .iadd, 1, 55, 0, 0, 0, []),
  (55, .istore_n 2, 1, 56, 0, 0, 0, []),
  (56, .iinc 4 1, 3, 59, 0, 0, 1, []),
  (59, .goto (-35), 3, 62, 24, 0, 0, []),
  (62, .bipush 100, 2, 64, 0, 0, 100, []),
  (64, .iload_n 2, 1, 65, 0, 0, 0, []),
  (65, .imul, 1, 66, 0, 0, 0, []),
  (66, .aload_n 0, 1, 67, 0, 0, 0, []),
  (67, .getfield 12, 3, 70, 5, 0, 0, []),
  (70, .getfield 137, 3, 73, 7, 3, 0, []),
  (73, .aload_n 1, 1, 74, 0, 0, 0, []),
  (74, .getfield 84, 3, 77, 2, 0, 0, []),
  (77, .imul, 1, 78, 0, 0, 0, []),
  (78, .aload_n 1, 1, 79, 0, 0, 0, []),
  (79, .getfield 81, 3, 82, 2, 1, 0, []),
  (82, .imul, 1, 83, 0, 0, 0, []),
  (83, .if_icmp .lt 7, 3, 86, 90, 0, 0, []),
  (86, .iconst 1, 1, 87, 0, 0, 1, []),
  (87, .goto 4, 3, 90, 91, 0, 0, []),
  (90, .iconst 0, 1, 91, 0, 0, 0, []),
  (91, .ireturn, 1, 92, 0, 0, 0, [])]
set_option maxRecDepth 100000 in
theorem kc_Hold_isHeld : k_Hold_isHeld.all (am_chk am_m26) = true := by decide +kernel
theorem q_Hold_isHeld : am_ms[M_Hold_isHeld]? = some am_m26 := rfl
def k_Box_areaOn : List am_I := [
  (0, .aload_n 1, 1, 1, 0, 0, 0, []),
  (1, .getfield 38, 3, 4, 2, 13, 0, []),
  (4, .aload_n 0, 1, 5, 0, 0, 0, []),
  (5, .getfield 16, 3, 8, 2, 10, 0, []),
  (8, .if_icmp .eq 5, 3, 11, 13, 0, 0, []),
  (11, .iconst 0, 1, 12, 0, 0, 0, []),
  (12, .ireturn, 1, 13, 0, 0, 0, []),
  (13, .aload_n 0, 1, 14, 0, 0, 0, []),
  (14, .getfield 29, 3, 17, 2, 11, 0, []),
  (17, .aload_n 1, 1, 18, 0, 0, 0, []),
  (18, .getfield 29, 3, 21, 2, 11, 0, []),
  (21, .if_icmp .ge 10, 3, 24, 31, 0, 0, []),
  (24, .aload_n 0, 1, 25, 0, 0, 0, []),
  (25, .getfield 29, 3, 28, 2, 11, 0, []),
  (28, .goto 7, 3, 31, 35, 0, 0, []),
  (31, .aload_n 1, 1, 32, 0, 0, 0, []),
  (32, .getfield 29, 3, 35, 2, 11, 0, []),
  (35, .aload_n 0, 1, 36, 0, 0, 0, []),
  (36, .getfield 7, 3, 39, 2, 8, 0, []),
  (39, .aload_n 1, 1, 40, 0, 0, 0, []),
  (40, .getfield 7, 3, 43, 2, 8, 0, []),
  (43, .if_icmp .le 10, 3, 46, 53, 0, 0, []),
  (46, .aload_n 0, 1, 47, 0, 0, 0, []),
  (47, .getfield 7, 3, 50, 2, 8, 0, []),
  (50, .goto 7, 3, 53, 57, 0, 0, []),
  (53, .aload_n 1, 1, 54, 0, 0, 0, []),
  (54, .getfield 7, 3, 57, 2, 8, 0, []),
  (57, .isub, 1, 58, 0, 0, 0, []),
  (58, .istore_n 2, 1, 59, 0, 0, 0, []),
  (59, .aload_n 0, 1, 60, 0, 0, 0, []),
  (60, .getfield 32, 3, 63, 2, 12, 0, []),
  (63, .aload_n 1, 1, 64, 0, 0, 0, []),
  (64, .getfield 32, 3, 67, 2, 12, 0, []),
  (67, .if_icmp .ge 10, 3, 70, 77, 0, 0, []),
  (70, .aload_n 0, 1, 71, 0, 0, 0, []),
  (71, .getfield 32, 3, 74, 2, 12, 0, []),
  (74, .goto 7, 3, 77, 81, 0, 0, []),
  (77, .aload_n 1, 1, 78, 0, 0, 0, []),
  (78, .getfield 32, 3, 81, 2, 12, 0, []),
  (81, .aload_n 0, 1, 82, 0, 0, 0, []),
  (82, .getfield 13, 3, 85, 2, 9, 0, []),
  (85, .aload_n 1, 1, 86, 0, 0, 0, []),
  (86, .getfield 13, 3, 89, 2, 9, 0, []),
  (89, .if_icmp .le 10, 3, 92, 99, 0, 0, []),
  (92, .aload_n 0, 1, 93, 0, 0, 0, []),
  (93, .getfield 13, 3, 96, 2, 9, 0, []),
  (96, .goto 7, 3, 99, 103, 0, 0, []),
  (99, .aload_n 1, 1, 100, 0, 0, 0, []),
  (100, .getfield 13, 3, 103, 2, 9, 0, []),
  (103, .isub, 1, 104, 0, 0, 0, []),
  (104, .istore_n 3, 1, 105, 0, 0, 0, []),
  (105, .iload_n 2, 1, 106, 0, 0, 0, []),
  (106, .ifCond .le 13, 3, 109, 119, 0, 0, []),
  (109, .iload_n 3, 1, 110, 0, 0, 0, []),
  (110, .ifCond .le 9, 3, 113, 119, 0, 0, []),
  (113, .iload_n 2, 1, 114, 0, 0, 0, []),
  (114, .iload_n 3, 1, 115, 0, 0, 0, []),
  (115, .imul, 1, 116, 0, 0, 0, []),
  (116, .goto 4, 3, 119, 120, 0, 0, []),
  (119, .iconst 0, 1, 120, 0, 0, 0, []),
  (120, .ireturn, 1, 121, 0, 0, 0, [])]
set_option maxRecDepth 100000 in
theorem kc_Box_areaOn : k_Box_areaOn.all (am_chk am_m27) = true := by decide +kernel
theorem q_Box_areaOn : am_ms[M_Box_areaOn]? = some am_m27 := rfl
def k_Hold_bearAll : List am_I := [
  (0, .iconst 1, 1, 1, 0, 0, 1, []),
  (1, .istore_n 2, 1, 2, 0, 0, 0, []),
  (2, .aload_n 0, 1, 3, 0, 0, 0, []),
  (3, .getfield 24, 3, 6, 5, 4, 0, []),
  (6, .iconst 0, 1, 7, 0, 0, 0, []),
  (7, .invokestatic 143, 3, 10, M_Arrays_fill, 0, 0, []),
  (10, .bipush 12, 2, 12, 0, 0, 12, []),
  (12, .istore_n 3, 1, 13, 0, 0, 0, []),
  (13, .iload_n 3, 1, 14, 0, 0, 0, []),
  (14, .ifCond .le 87, 3, 17, 101, 0, 0, []),
  (17, .iconst 0, 1, 18, 0, 0, 0, []),
  (18, .istore 4, 2, 20, 0, 0, 0, []),
  (20, .iload 4, 2, 22, 0, 0, 0, []),
  (22, .aload_n 0, 1, 23, 0, 0, 0, []),
  (23, .getfield 45, 3, 26, 5, 2, 0, []),
  (26, .if_icmp .ge 69, 3, 29, 95, 0, 0, []),
  (29, .iload_n 1, 1, 30, 0, 0, 0, []),
  (30, .iload 4, 2, 32, 0, 0, 0, []),
  (32, .ishr, 1, 33, 0, 0, 0, []),
  (33, .iconst 1, 1, 34, 0, 0, 1, []),
  (34, .iand, 1, 35, 0, 0, 0, []),
  (35, .ifCond .eq 54, 3, 38, 89, 0, 0, []),
  (38, .aload_n 0, 1, 39, 0, 0, 0, []),
  (39, .getfield 20, 3, 42, 5, 1, 0, []),
  (42, .iload 4, 2, 44, 0, 0, 0, []),
  (44, .aaload, 1, 45, 0, 0, 0, []),
  (45, .getfield 118, 3, 48, 2, 13, 0, []),
  (48, .iload_n 3, 1, 49, 0, 0, 0, []),
  (49, .if_icmp .ne 40, 3, 52, 89, 0, 0, []),
  (52, .iload_n 2, 1, 53, 0, 0, 0, []),
  (53, .ifCond .eq 27, 3, 56, 80, 0, 0, []),
  (56, .aload_n 0, 1, 57, 0, 0, 0, []),
  (57, .getfield 24, 3, 60, 5, 4, 0, []),
  (60, .iload 4, 2, 62, 0, 0, 0, []),
  (62, .iaload, 1, 63, 0, 0, 0, []),
  (63, .aload_n 0, 1, 64, 0, 0, 0, []),
  (64, .getfield 20, 3, 67, 5, 1, 0, []),
  (67, .iload 4, 2, 69, 0, 0, 0, []),
  (69, .aaload, 1, 70, 0, 0, 0, []),
  (70, .getfield 149, 3, 73, 2, 4, 0, []),
  (73, .if_icmp .gt 7, 3, 76, 80, 0, 0, []),
  (76, .iconst 1, 1, 77, 0, 0, 1, []),
  (77, .goto 4, 3, 80, 81, 0, 0, []),
  (80, .iconst 0, 1, 81, 0, 0, 0, []),
  (81, .istore_n 2, 1, 82, 0, 0, 0, []),
  (82, .aload_n 0, 1, 83, 0, 0, 0, []),
  (83, .iload 4, 2, 85, 0, 0, 0, []),
  (85, .iload_n 1, 1, 86, 0, 0, 0, []),
  (86, .invokevirtual 152, 3, 89, M_Hold_giveLoad, 0, 0, []),
  (89, .iinc 4 1, 3, 92, 0, 0, 1, []),
  (92, .goto (-72), 3, 95, 20, 0, 0, []),
  (95, .iinc 3 (-1), 3, 98, 0, 0, (-1), []),
  (98, .goto (-85), 3, 101, 13, 0, 0, []),
  (101, .iload_n 2, 1, 102, 0, 0, 0, []),
  (102, .ireturn, 1, 103, 0, 0, 0, [])]
set_option maxRecDepth 100000 in
theorem kc_Hold_bearAll : k_Hold_bearAll.all (am_chk am_m28) = true := by decide +kernel
theorem q_Hold_bearAll : am_ms[M_Hold_bearAll]? = some am_m28 := rfl
def k_Arrays_fill : List am_I := [
  (0, .iconst 0, 1, 1, 0, 0, 0, []),
  (1, .istore_n 2, 1, 2, 0, 0, 0, []),
  (2, .aload_n 0, 1, 3, 0, 0, 0, []),
  (3, .arraylength, 1, 4, 0, 0, 0, []),
  (4, .istore_n 3, 1, 5, 0, 0, 0, []),
  (5, .iload_n 2, 1, 6, 0, 0, 0, []),
  (6, .iload_n 3, 1, 7, 0, 0, 0, []),
  (7, .if_icmp .ge 13, 3, 10, 20, 0, 0, []),
  (10, .aload_n 0, 1, 11, 0, 0, 0, []),
  (11, .iload_n 2, 1, 12, 0, 0, 0, []),
  (12, .iload_n 1, 1, 13, 0, 0, 0, []),
  (13, .iastore, 1, 14, 0, 0, 0, []),
  (14, .iinc 2 1, 3, 17, 0, 0, 1, []),
  (17, .goto (-12), 3, 20, 5, 0, 0, []),
  (20, .return_, 1, 21, 0, 0, 0, [])]
set_option maxRecDepth 100000 in
theorem kc_Arrays_fill : k_Arrays_fill.all (am_chk am_m29) = true := by decide +kernel
theorem q_Arrays_fill : am_ms[M_Arrays_fill]? = some am_m29 := rfl
def k_Hold_giveLoad : List am_I := [
  (0, .aload_n 0, 1, 1, 0, 0, 0, []),
  (1, .getfield 20, 3, 4, 5, 1, 0, []),
  (4, .iload_n 1, 1, 5, 0, 0, 0, []),
  (5, .aaload, 1, 6, 0, 0, 0, []),
  (6, .astore_n 3, 1, 7, 0, 0, 0, []),
  (7, .iconst 0, 1, 8, 0, 0, 0, []),
  (8, .istore 4, 2, 10, 0, 0, 0, []),
  (10, .iconst 0, 1, 11, 0, 0, 0, []),
  (11, .istore 5, 2, 13, 0, 0, 0, []),
  (13, .iload 5, 2, 15, 0, 0, 0, []),
  (15, .aload_n 0, 1, 16, 0, 0, 0, []),
  (16, .getfield 45, 3, 19, 5, 2, 0, []),
  (19, .if_icmp .ge 52, 3, 22, 71, 0, 0, []),
  (22, .aload_n 0, 1, 23, 0, 0, 0, []),
  (23, .getfield 28, 3, 26, 5, 5, 0, []),
  (26, .iload 5, 2, 28, 0, 0, 0, []),
  (28, .iload_n 2, 1, 29, 0, 0, 0, []),
  (29, .iload 5, 2, 31, 0, 0, 0, []),
  (31, .ishr, 1, 32, 0, 0, 0, []),
  (32, .iconst 1, 1, 33, 0, 0, 1, []),
  (33, .iand, 1, 34, 0, 0, 0, []),
  (34, .ifCond .eq 17, 3, 37, 51, 0, 0, []),
  (37, .aload_n 3, 1, 38, 0, 0, 0, []),
  (38, .aload_n 0, 1, 39, 0, 0, 0, []),
  (39, .getfield 20, 3, 42, 5, 1, 0, []),
  (42, .iload 5, 2, 44, 0, 0, 0, []),
  (44, .aaload, 1, 45, 0, 0, 0, []),
  (45, .invokevirtual 66, 3, 48, M_Box_areaOn, 0, 0, []),
  (48, .goto 4, 3, 51, 52, 0, 0, []),
  (51, .iconst 0, 1, 52, 0, 0, 0, []),
  (52, .iastore, 1, 53, 0, 0, 0, []),
  (53, .iload 4, 2, 55, 0, 0, 0, []),
  (55, .aload_n 0, 1, 56, 0, 0, 0, []),
  (56, .getfield 28, 3, 59, 5, 5, 0, []),
  (59, .iload 5, 2, 61, 0, 0, 0, []),
  (61, .iaload, 1, 62, 0, 0, 0, []),
  (62, .iadd, 1, 63, 0, 0, 0, []),
  (63, .istore 4, 2, 65, 0, 0, 0, []),
  (65, .iinc 5 1, 3, 68, 0, 0, 1, []),
  (68, .goto (-55), 3, 71, 13, 0, 0, []),
  (71, .iload 4, 2, 73, 0, 0, 0, []),
  (73, .ifCond .gt 4, 3, 76, 77, 0, 0, []),
  (76, .return_, 1, 77, 0, 0, 0, []),
  (77, .aload_n 3, 1, 78, 0, 0, 0, []),
  (78, .getfield 56, 3, 81, 2, 3, 0, []),
  (81, .aload_n 0, 1, 82, 0, 0, 0, []),
  (82, .getfield 24, 3, 85, 5, 4, 0, []),
  (85, .iload_n 1, 1, 86, 0, 0, 0, []),
  (86, .iaload, 1, 87, 0, 0, 0, []),
  (87, .iadd, 1, 88, 0, 0, 0, []),
  (88, .istore 5, 2, 90, 0, 0, 0, []),
  (90, .iload 5, 2, 92, 0, 0, 0, []),
  (92, .istore 6, 2, 94, 0, 0, 0, []),
  (94, .iconst 0, 1, 95, 0, 0, 0, []),
  (95, .istore 7, 2, 97, 0, 0, 0, []),
  (97, .iload 7, 2, 99, 0, 0, 0, []),
  (99, .aload_n 0, 1, 100, 0, 0, 0, []),
  (100, .getfield 45, 3, 103, 5, 2, 0, []),
  (103, .if_icmp .ge 43, 3, 106, 146, 0, 0, []),
  (106, .iload 5, 2, 108, 0, 0, 0, []),
  (108, .aload_n 0, 1, 109, 0, 0, 0, []),
  (109, .getfield 28, 3, 112, 5, 5, 0, []),
  (112, .iload 7, 2, 114, 0, 0, 0, []),
  (114, .iaload, 1, 115, 0, 0, 0, []),
  (115, .imul, 1, 116, 0, 0, 0, []),
  (116, .iload 4, 2, 118, 0, 0, 0, []),
  (118, .idiv, 1, 119, 0, 0, 0, []),
  (119, .istore 8, 2, 121, 0, 0, 0, []),
  (121, .aload_n 0, 1, 122, 0, 0, 0, []),
  (122, .getfield 24, 3, 125, 5, 4, 0, []),
  (125, .iload 7, 2, 127, 0, 0, 0, []),
  (127, .dup2, 1, 128, 0, 0, 0, []),
  (128, .iaload, 1, 129, 0, 0, 0, []),
  (129, .iload 8, 2, 131, 0, 0, 0, []),
  (131, .iadd, 1, 132, 0, 0, 0, []),
  (132, .iastore, 1, 133, 0, 0, 0, []),
  (133, .iload 6, 2, 135, 0, 0, 0, []),
  (135, .iload 8, 2, 137, 0, 0, 0, []),
  (137, .isub, 1, 138, 0, 0, 0, []),
  (138, .istore 6, 2, 140, 0, 0, 0, []),
  (140, .iinc 7 1, 3, 143, 0, 0, 1, []),
  (143, .goto (-46), 3, 146, 97, 0, 0, []),
  (146, .iconst 0, 1, 147, 0, 0, 0, []),
  (147, .istore 7, 2, 149, 0, 0, 0, []),
  (149, .iload 7, 2, 151, 0, 0, 0, []),
  (151, .aload_n 0, 1, 152, 0, 0, 0, []),
  (152, .getfield 45, 3, 155, 5, 2, 0, []),
  (155, .if_icmp .ge 38, 3, 158, 193, 0, 0, []),
  (158, .iload 6, 2, 160, 0, 0, 0, []),
  (160, .ifCond .le 33, 3, 163, 193, 0, 0, []),
  (163, .aload_n 0, 1, 164, 0, 0, 0, []),
  (164, .getfield 28, 3, 167, 5, 5, 0, []),
  (167, .iload 7, 2, 169, 0, 0, 0, []),
  (169, .iaload, 1, 170, 0, 0, 0, []),
  (170, .ifCond .le 17, 3, 173, 187, 0, 0, []),
  (173, .aload_n 0, 1, 174, 0, 0, 0, []),
  (174, .getfield 24, 3, 177, 5, 4, 0, []),
  (177, .iload 7, 2, 179, 0, 0, 0, []),
  (179, .dup2, 1, 180, 0, 0, 0, []),
  (180, .iaload, 1, 181, 0, 0, 0, []),
  (181, .iconst 1, 1, 182, 0, 0, 1, []),
  (182, .iadd, 1, 183, 0, 0, 0, []),
  (183, .iastore, 1, 184, 0, 0, 0, []),
  (184, .iinc 6 (-1), 3, 187, 0, 0, (-1), []),
  (187, .iinc 7 1, 3, 190, 0, 0, 1, []),
  (190, .goto (-41), 3, 193, 149, 0, 0, []),
  (193, .return_, 1, 194, 0, 0, 0, [])]
set_option maxRecDepth 100000 in
theorem kc_Hold_giveLoad : k_Hold_giveLoad.all (am_chk am_m30) = true := by decide +kernel
theorem q_Hold_giveLoad : am_ms[M_Hold_giveLoad]? = some am_m30 := rfl
def k_Hold_isInWay : List am_I := [
  (0, .aload_n 0, 1, 1, 0, 0, 0, []),
  (1, .getfield 112, 3, 4, 5, 10, 0, []),
  (4, .aload_n 0, 1, 5, 0, 0, 0, []),
  (5, .getfield 124, 3, 8, 5, 11, 0, []),
  (8, .iand, 1, 9, 0, 0, 0, []),
  (9, .istore_n 2, 1, 10, 0, 0, 0, []),
  (10, .aload_n 0, 1, 11, 0, 0, 0, []),
  (11, .getfield 100, 3, 14, 5, 9, 0, []),
  (14, .aload_n 0, 1, 15, 0, 0, 0, []),
  (15, .getfield 112, 3, 18, 5, 10, 0, []),
  (18, .iand, 1, 19, 0, 0, 0, []),
  (19, .istore_n 3, 1, 20, 0, 0, 0, []),
  (20, .iconst 0, 1, 21, 0, 0, 0, []),
  (21, .istore 4, 2, 23, 0, 0, 0, []),
  (23, .iload 4, 2, 25, 0, 0, 0, []),
  (25, .aload_n 0, 1, 26, 0, 0, 0, []),
  (26, .getfield 45, 3, 29, 5, 2, 0, []),
  (29, .if_icmp .ge 132, 3, 32, 161, 0, 0, []),
  (32, .aload_n 0, 1, 33, 0, 0, 0, []),
  (33, .getfield 20, 3, 36, 5, 1, 0, []),
  (36, .iload 4, 2, 38, 0, 0, 0, []),
  (38, .aaload, 1, 39, 0, 0, 0, []),
  (39, .astore 5, 2, 41, 0, 0, 0, []),
  (41, .iload_n 2, 1, 42, 0, 0, 0, []),
  (42, .iload_n 3, 1, 43, 0, 0, 0, []),
  (43, .ior, 1, 44, 0, 0, 0, []),
  (44, .iload 4, 2, 46, 0, 0, 0, []),
  (46, .ishr, 1, 47, 0, 0, 0, []),
  (47, .iconst 1, 1, 48, 0, 0, 1, []),
  (48, .iand, 1, 49, 0, 0, 0, []),
  (49, .ifCond .eq 106, 3, 52, 155, 0, 0, []),
  (52, .aload 5, 2, 54, 0, 0, 0, []),
  (54, .getfield 140, 3, 57, 2, 5, 0, []),
  (57, .aload_n 1, 1, 58, 0, 0, 0, []),
  (58, .getfield 140, 3, 61, 2, 5, 0, []),
  (61, .if_icmp .ne 6, 3, 64, 67, 0, 0, []),
  (64, .goto 91, 3, 67, 155, 0, 0, []),
  (67, .aload 5, 2, 69, 0, 0, 0, []),
  (69, .getfield 140, 3, 72, 2, 5, 0, []),
  (72, .aload_n 1, 1, 73, 0, 0, 0, []),
  (73, .getfield 140, 3, 76, 2, 5, 0, []),
  (76, .if_icmp .ge 8, 3, 79, 84, 0, 0, []),
  (79, .aload 5, 2, 81, 0, 0, 0, []),
  (81, .goto 4, 3, 84, 85, 0, 0, []),
  (84, .aload_n 1, 1, 85, 0, 0, 0, []),
  (85, .astore 6, 2, 87, 0, 0, 0, []),
  (87, .aload 5, 2, 89, 0, 0, 0, []),
  (89, .getfield 140, 3, 92, 2, 5, 0, []),
  (92, .aload_n 1, 1, 93, 0, 0, 0, []),
  (93, .getfield 140, 3, 96, 2, 5, 0, []),
  (96, .if_icmp .ge 7, 3, 99, 103, 0, 0, []),
  (99, .aload_n 1, 1, 100, 0, 0, 0, []),
  (100, .goto 5, 3, 103, 105, 0, 0, []),
  (103, .aload 5, 2, 105, 0, 0, 0, []),
  (105, .astore 7, 2, 107, 0, 0, 0, []),
  (107, .iload_n 2, 1, 108, 0, 0, 0, []),
  (108, .iload 4, 2, 110, 0, 0, 0, []),
  (110, .ishr, 1, 111, 0, 0, 0, []),
  (111, .iconst 1, 1, 112, 0, 0, 1, []),
  (112, .iand, 1, 113, 0, 0, 0, []),
  (113, .ifCond .eq 18, 3, 116, 131, 0, 0, []),
  (116, .aload 7, 2, 118, 0, 0, 0, []),
  (118, .getfield 93, 3, 121, 2, 8, 0, []),
  (121, .aload 6, 2, 123, 0, 0, 0, []),
  (123, .getfield 59, 3, 126, 2, 11, 0, []),
  (126, .if_icmp .lt 5, 3, 129, 131, 0, 0, []),
  (129, .iconst 1, 1, 130, 0, 0, 1, []),
  (130, .ireturn, 1, 131, 0, 0, 0, []),
  (131, .iload_n 3, 1, 132, 0, 0, 0, []),
  (132, .iload 4, 2, 134, 0, 0, 0, []),
  (134, .ishr, 1, 135, 0, 0, 0, []),
  (135, .iconst 1, 1, 136, 0, 0, 1, []),
  (136, .iand, 1, 137, 0, 0, 0, []),
  (137, .ifCond .eq 18, 3, 140, 155, 0, 0, []),
  (140, .aload 7, 2, 142, 0, 0, 0, []),
  (142, .getfield 115, 3, 145, 2, 10, 0, []),
  (145, .aload 6, 2, 147, 0, 0, 0, []),
  (147, .getfield 118, 3, 150, 2, 13, 0, []),
  (150, .if_icmp .lt 5, 3, 153, 155, 0, 0, []),
  (153, .iconst 1, 1, 154, 0, 0, 1, []),
  (154, .ireturn, 1, 155, 0, 0, 0, []),
  (155, .iinc 4 1, 3, 158, 0, 0, 1, []),
  (158, .goto (-135), 3, 161, 23, 0, 0, []),
  (161, .iconst 0, 1, 162, 0, 0, 0, []),
  (162, .ireturn, 1, 163, 0, 0, 0, [])]
set_option maxRecDepth 100000 in
theorem kc_Hold_isInWay : k_Hold_isInWay.all (am_chk am_m31) = true := by decide +kernel
theorem q_Hold_isInWay : am_ms[M_Hold_isInWay]? = some am_m31 := rfl
def k_Hold_putIn : List am_I := [
  (0, .aload_n 0, 1, 1, 0, 0, 0, []),
  (1, .dup, 1, 2, 0, 0, 0, []),
  (2, .getfield 49, 3, 5, 5, 3, 0, []),
  (5, .iconst 1, 1, 6, 0, 0, 1, []),
  (6, .iload_n 1, 1, 7, 0, 0, 0, []),
  (7, .ishl, 1, 8, 0, 0, 0, []),
  (8, .ior, 1, 9, 0, 0, 0, []),
  (9, .putfield 49, 3, 12, 5, 3, 0, []),
  (12, .return_, 1, 13, 0, 0, 0, [])]
set_option maxRecDepth 100000 in
theorem kc_Hold_putIn : k_Hold_putIn.all (am_chk am_m33) = true := by decide +kernel
theorem q_Hold_putIn : am_ms[M_Hold_putIn]? = some am_m33 := rfl
def k_Hold_setAtCorner : List am_I := [
  (0, .aload_n 0, 1, 1, 0, 0, 0, []),
  (1, .getfield 20, 3, 4, 5, 1, 0, []),
  (4, .iload_n 1, 1, 5, 0, 0, 0, []),
  (5, .aaload, 1, 6, 0, 0, 0, []),
  (6, .astore_n 2, 1, 7, 0, 0, 0, []),
  (7, .aload_n 2, 1, 8, 0, 0, 0, []),
  (8, .getfield 77, 3, 11, 2, 6, 0, []),
  (11, .ifCond .eq 18, 3, 14, 29, 0, 0, []),
  (14, .aload_n 2, 1, 15, 0, 0, 0, []),
  (15, .getfield 84, 3, 18, 2, 0, 0, []),
  (18, .aload_n 2, 1, 19, 0, 0, 0, []),
  (19, .getfield 81, 3, 22, 2, 1, 0, []),
  (22, .if_icmp .eq 7, 3, 25, 29, 0, 0, []),
  (25, .iconst 1, 1, 26, 0, 0, 1, []),
  (26, .goto 4, 3, 29, 30, 0, 0, []),
  (29, .iconst 0, 1, 30, 0, 0, 0, []),
  (30, .istore_n 3, 1, 31, 0, 0, 0, []),
  (31, .aload_n 0, 1, 32, 0, 0, 0, []),
  (32, .aload_n 2, 1, 33, 0, 0, 0, []),
  (33, .invokevirtual 156, 3, 36, M_Hold_listCorners, 0, 0, []),
  (36, .iconst 0, 1, 37, 0, 0, 0, []),
  (37, .istore 4, 2, 39, 0, 0, 0, []),
  (39, .iload 4, 2, 41, 0, 0, 0, []),
  (41, .aload_n 0, 1, 42, 0, 0, 0, []),
  (42, .getfield 41, 3, 45, 5, 8, 0, []),
  (45, .getfield 160, 3, 48, 4, 3, 0, []),
  (48, .if_icmp .ge 137, 3, 51, 185, 0, 0, []),
  (51, .aload_n 0, 1, 52, 0, 0, 0, []),
  (52, .getfield 41, 3, 55, 5, 8, 0, []),
  (55, .getfield 163, 3, 58, 4, 0, 0, []),
  (58, .iload 4, 2, 60, 0, 0, 0, []),
  (60, .iaload, 1, 61, 0, 0, 0, []),
  (61, .istore 5, 2, 63, 0, 0, 0, []),
  (63, .iload 5, 2, 65, 0, 0, 0, []),
  (65, .aload_n 2, 1, 66, 0, 0, 0, []),
  (66, .getfield 73, 3, 69, 2, 2, 0, []),
  (69, .iadd, 1, 70, 0, 0, 0, []),
  (70, .aload_n 0, 1, 71, 0, 0, 0, []),
  (71, .getfield 12, 3, 74, 5, 0, 0, []),
  (74, .getfield 76, 3, 77, 7, 2, 0, []),
  (77, .if_icmp .le 5, 3, 80, 82, 0, 0, []),
  (80, .iconst 0, 1, 81, 0, 0, 0, []),
  (81, .ireturn, 1, 82, 0, 0, 0, []),
  (82, .aload_n 0, 1, 83, 0, 0, 0, []),
  (83, .aload_n 0, 1, 84, 0, 0, 0, []),
  (84, .getfield 41, 3, 87, 5, 8, 0, []),
  (87, .getfield 166, 3, 90, 4, 1, 0, []),
  (90, .iload 4, 2, 92, 0, 0, 0, []),
  (92, .iaload, 1, 93, 0, 0, 0, []),
  (93, .putfield 124, 3, 96, 5, 11, 0, []),
  (96, .iconst 0, 1, 97, 0, 0, 0, []),
  (97, .istore 6, 2, 99, 0, 0, 0, []),
  (99, .iload 6, 2, 101, 0, 0, 0, []),
  (101, .aload_n 0, 1, 102, 0, 0, 0, []),
  (102, .getfield 34, 3, 105, 5, 6, 0, []),
  (105, .getfield 160, 3, 108, 4, 3, 0, []),
  (108, .if_icmp .ge 71, 3, 111, 179, 0, 0, []),
  (111, .iconst 0, 1, 112, 0, 0, 0, []),
  (112, .istore 7, 2, 114, 0, 0, 0, []),
  (114, .iload 7, 2, 116, 0, 0, 0, []),
  (116, .aload_n 0, 1, 117, 0, 0, 0, []),
  (117, .getfield 38, 3, 120, 5, 7, 0, []),
  (120, .getfield 160, 3, 123, 4, 3, 0, []),
  (123, .if_icmp .ge 50, 3, 126, 173, 0, 0, []),
  (126, .aload_n 0, 1, 127, 0, 0, 0, []),
  (127, .iload_n 1, 1, 128, 0, 0, 0, []),
  (128, .iload 6, 2, 130, 0, 0, 0, []),
  (130, .iload 7, 2, 132, 0, 0, 0, []),
  (132, .iload 5, 2, 134, 0, 0, 0, []),
  (134, .iconst 0, 1, 135, 0, 0, 0, []),
  (135, .invokevirtual 169, 3, 138, M_Hold_isFree, 0, 0, []),
  (138, .ifCond .ne 22, 3, 141, 160, 0, 0, []),
  (141, .iload_n 3, 1, 142, 0, 0, 0, []),
  (142, .ifCond .eq 25, 3, 145, 167, 0, 0, []),
  (145, .aload_n 0, 1, 146, 0, 0, 0, []),
  (146, .iload_n 1, 1, 147, 0, 0, 0, []),
  (147, .iload 6, 2, 149, 0, 0, 0, []),
  (149, .iload 7, 2, 151, 0, 0, 0, []),
  (151, .iload 5, 2, 153, 0, 0, 0, []),
  (153, .iconst 1, 1, 154, 0, 0, 1, []),
  (154, .invokevirtual 169, 3, 157, M_Hold_isFree, 0, 0, []),
  (157, .ifCond .eq 10, 3, 160, 167, 0, 0, []),
  (160, .aload_n 0, 1, 161, 0, 0, 0, []),
  (161, .iload_n 1, 1, 162, 0, 0, 0, []),
  (162, .invokevirtual 173, 3, 165, M_Hold_putIn, 0, 0, []),
  (165, .iconst 1, 1, 166, 0, 0, 1, []),
  (166, .ireturn, 1, 167, 0, 0, 0, []),
  (167, .iinc 7 1, 3, 170, 0, 0, 1, []),
  (170, .goto (-56), 3, 173, 114, 0, 0, []),
  (173, .iinc 6 1, 3, 176, 0, 0, 1, []),
  (176, .goto (-77), 3, 179, 99, 0, 0, []),
  (179, .iinc 4 1, 3, 182, 0, 0, 1, []),
  (182, .goto (-143), 3, 185, 39, 0, 0, []),
  (185, .iconst 0, 1, 186, 0, 0, 0, []),
  (186, .ireturn, 1, 187, 0, 0, 0, [])]
set_option maxRecDepth 100000 in
theorem kc_Hold_setAtCorner : k_Hold_setAtCorner.all (am_chk am_m35) = true := by decide +kernel
theorem q_Hold_setAtCorner : am_ms[M_Hold_setAtCorner]? = some am_m35 := rfl
def k_Hold_listCorners : List am_I := [
  (0, .lconst 1, 1, 1, 0, 0, 0, []),
  (1, .lstore_n 2, 1, 2, 0, 0, 0, []),
  (2, .lconst 1, 1, 3, 0, 0, 0, []),
  (3, .lstore 4, 2, 5, 0, 0, 0, []),
  (5, .lconst 1, 1, 6, 0, 0, 0, []),
  (6, .lstore 6, 2, 8, 0, 0, 0, []),
  (8, .iconst 0, 1, 9, 0, 0, 0, []),
  (9, .istore 8, 2, 11, 0, 0, 0, []),
  (11, .iload 8, 2, 13, 0, 0, 0, []),
  (13, .aload_n 0, 1, 14, 0, 0, 0, []),
  (14, .getfield 45, 3, 17, 5, 2, 0, []),
  (17, .if_icmp .ge 67, 3, 20, 84, 0, 0, []),
  (20, .aload_n 0, 1, 21, 0, 0, 0, []),
  (21, .iload 8, 2, 23, 0, 0, 0, []),
  (23, .invokevirtual 52, 3, 26, M_Hold_has, 0, 0, []),
  (26, .ifCond .eq 52, 3, 29, 78, 0, 0, []),
  (29, .lload_n 2, 1, 30, 0, 0, 0, []),
  (30, .lconst 1, 1, 31, 0, 0, 0, []),
  (31, .aload_n 0, 1, 32, 0, 0, 0, []),
  (32, .getfield 20, 3, 35, 5, 1, 0, []),
  (35, .iload 8, 2, 37, 0, 0, 0, []),
  (37, .aaload, 1, 38, 0, 0, 0, []),
  (38, .getfield 59, 3, 41, 2, 11, 0, []),
  (41, .lshl, 1, 42, 0, 0, 0, []),
  (42, .lor, 1, 43, 0, 0, 0, []),
  (43, .lstore_n 2, 1, 44, 0, 0, 0, []),
  (44, .lload 4, 2, 46, 0, 0, 0, []),
  (46, .lconst 1, 1, 47, 0, 0, 0, []),
  (47, .aload_n 0, 1, 48, 0, 0, 0, []),
  (48, .getfield 20, 3, 51, 5, 1, 0, []),
  (51, .iload 8, 2, 53, 0, 0, 0, []),
  (53, .aaload, 1, 54, 0, 0, 0, []),
  (54, .getfield 106, 3, 57, 2, 12, 0, []),
  (57, .lshl, 1, 58, 0, 0, 0, []),
  (58, .lor, 1, 59, 0, 0, 0, []),
  (59, .lstore 4, 2, 61, 0, 0, 0, []),
  (61, .lload 6, 2, 63, 0, 0, 0, []),
  (63, .lconst 1, 1, 64, 0, 0, 0, []),
  (64, .aload_n 0, 1, 65, 0, 0, 0, []),
  (65, .getfield 20, 3, 68, 5, 1, 0, []),
  (68, .iload 8, 2, 70, 0, 0, 0, []),
  (70, .aaload, 1, 71, 0, 0, 0, []),
  (71, .getfield 118, 3, 74, 2, 13, 0, []),
  (74, .lshl, 1, 75, 0, 0, 0, []),
  (75, .lor, 1, 76, 0, 0, 0, []),
  (76, .lstore 6, 2, 78, 0, 0, 0, []),
  (78, .iinc 8 1, 3, 81, 0, 0, 1, []),
  (81, .goto (-70), 3, 84, 11, 0, 0, []),
  (84, .aload_n 0, 1, 85, 0, 0, 0, []),
  (85, .getfield 34, 3, 88, 5, 6, 0, []),
  (88, .lload_n 2, 1, 89, 0, 0, 0, []),
  (89, .invokevirtual 177, 3, 92, M_Edges_list, 0, 0, []),
  (92, .aload_n 0, 1, 93, 0, 0, 0, []),
  (93, .getfield 38, 3, 96, 5, 7, 0, []),
  (96, .lload 4, 2, 98, 0, 0, 0, []),
  (98, .invokevirtual 177, 3, 101, M_Edges_list, 0, 0, []),
  (101, .aload_n 0, 1, 102, 0, 0, 0, []),
  (102, .getfield 41, 3, 105, 5, 8, 0, []),
  (105, .lload 6, 2, 107, 0, 0, 0, []),
  (107, .invokevirtual 177, 3, 110, M_Edges_list, 0, 0, []),
  (110, .aload_n 0, 1, 111, 0, 0, 0, []),
  (111, .aload_n 1, 1, 112, 0, 0, 0, []),
  (112, .invokevirtual 181, 3, 115, M_Hold_listCommon, 0, 0, []),
  (115, .return_, 1, 116, 0, 0, 0, [])]
set_option maxRecDepth 100000 in
theorem kc_Hold_listCorners : k_Hold_listCorners.all (am_chk am_m36) = true := by decide +kernel
theorem q_Hold_listCorners : am_ms[M_Hold_listCorners]? = some am_m36 := rfl
def k_Edges_list : List am_I := [
  (0, .aload_n 0, 1, 1, 0, 0, 0, []),
  (1, .iconst 0, 1, 2, 0, 0, 0, []),
  (2, .putfield 21, 3, 5, 4, 3, 0, []),
  (5, .iconst 0, 1, 6, 0, 0, 0, []),
  (6, .istore_n 3, 1, 7, 0, 0, 0, []),
  (7, .iload_n 3, 1, 8, 0, 0, 0, []),
  (8, .bipush 40, 2, 10, 0, 0, 40, []),
  (10, .if_icmp .gt 51, 3, 13, 61, 0, 0, []),
  (13, .aload_n 0, 1, 14, 0, 0, 0, []),
  (14, .getfield 21, 3, 17, 4, 3, 0, []),
  (17, .aload_n 0, 1, 18, 0, 0, 0, []),
  (18, .getfield 9, 3, 21, 4, 0, 0, []),
  (21, .arraylength, 1, 22, 0, 0, 0, []),
  (22, .if_icmp .ge 39, 3, 25, 61, 0, 0, []),
  (25, .lload_n 1, 1, 26, 0, 0, 0, []),
  (26, .iload_n 3, 1, 27, 0, 0, 0, []),
  (27, .lshr, 1, 28, 0, 0, 0, []),
  (28, .lconst 1, 1, 29, 0, 0, 0, []),
  (29, .land, 1, 30, 0, 0, 0, []),
  (30, .lconst 0, 1, 31, 0, 0, 0, []),
  (31, .lcmp, 1, 32, 0, 0, 0, []),
  (32, .ifCond .eq 23, 3, 35, 55, 0, 0, []),
  (35, .aload_n 0, 1, 36, 0, 0, 0, []),
  (36, .getfield 9, 3, 39, 4, 0, 0, []),
  (39, .aload_n 0, 1, 40, 0, 0, 0, []),
  (40, .getfield 21, 3, 43, 4, 3, 0, []),
  (43, .iload_n 3, 1, 44, 0, 0, 0, []),
  (44, .iastore, 1, 45, 0, 0, 0, []),
  (45, .aload_n 0, 1, 46, 0, 0, 0, []),
  (46, .dup, 1, 47, 0, 0, 0, []),
  (47, .getfield 21, 3, 50, 4, 3, 0, []),
  (50, .iconst 1, 1, 51, 0, 0, 1, []),
  (51, .iadd, 1, 52, 0, 0, 0, []),
  (52, .putfield 21, 3, 55, 4, 3, 0, []),
  (55, .iinc 3 1, 3, 58, 0, 0, 1, []),
  (58, .goto (-51), 3, 61, 7, 0, 0, []),
  (61, .return_, 1, 62, 0, 0, 0, [])]
set_option maxRecDepth 100000 in
theorem kc_Edges_list : k_Edges_list.all (am_chk am_m37) = true := by decide +kernel
theorem q_Edges_list : am_ms[M_Edges_list]? = some am_m37 := rfl
def k_Hold_listCommon : List am_I := [
  (0, .iconst 0, 1, 1, 0, 0, 0, []),
  (1, .istore_n 2, 1, 2, 0, 0, 0, []),
  (2, .iload_n 2, 1, 3, 0, 0, 0, []),
  (3, .aload_n 0, 1, 4, 0, 0, 0, []),
  (4, .getfield 34, 3, 7, 5, 6, 0, []),
  (7, .getfield 160, 3, 10, 4, 3, 0, []),
  (10, .if_icmp .ge 93, 3, 13, 103, 0, 0, []),
  (13, .aload_n 0, 1, 14, 0, 0, 0, []),
  (14, .getfield 34, 3, 17, 5, 6, 0, []),
  (17, .getfield 163, 3, 20, 4, 0, 0, []),
  (20, .iload_n 2, 1, 21, 0, 0, 0, []),
  (21, .iaload, 1, 22, 0, 0, 0, []),
  (22, .istore_n 3, 1, 23, 0, 0, 0, []),
  (23, .aload_n 0, 1, 24, 0, 0, 0, []),
  (24, .getfield 34, 3, 27, 5, 6, 0, []),
  (27, .getfield 166, 3, 30, 4, 1, 0, []),
  (30, .iload_n 2, 1, 31, 0, 0, 0, []),
  (31, .aload_n 0, 1, 32, 0, 0, 0, []),
  (32, .iload_n 3, 1, 33, 0, 0, 0, []),
  (33, .iload_n 3, 1, 34, 0, 0, 0, []),
  (34, .aload_n 1, 1, 35, 0, 0, 0, []),
  (35, .getfield 84, 3, 38, 2, 0, 0, []),
  (38, .iadd, 1, 39, 0, 0, 0, []),
  (39, .invokevirtual 96, 3, 42, M_Hold_commonInX, 0, 0, []),
  (42, .iload_n 3, 1, 43, 0, 0, 0, []),
  (43, .aload_n 1, 1, 44, 0, 0, 0, []),
  (44, .getfield 84, 3, 47, 2, 0, 0, []),
  (47, .iadd, 1, 48, 0, 0, 0, []),
  (48, .aload_n 0, 1, 49, 0, 0, 0, []),
  (49, .getfield 12, 3, 52, 5, 0, 0, []),
  (52, .getfield 87, 3, 55, 7, 0, 0, []),
  (55, .invokestatic 184, 3, 58, M_Hold_wall, 0, 0, []),
  (58, .ior, 1, 59, 0, 0, 0, []),
  (59, .iastore, 1, 60, 0, 0, 0, []),
  (60, .aload_n 0, 1, 61, 0, 0, 0, []),
  (61, .getfield 34, 3, 64, 5, 6, 0, []),
  (64, .getfield 187, 3, 67, 4, 2, 0, []),
  (67, .iload_n 2, 1, 68, 0, 0, 0, []),
  (68, .aload_n 0, 1, 69, 0, 0, 0, []),
  (69, .iload_n 3, 1, 70, 0, 0, 0, []),
  (70, .iload_n 3, 1, 71, 0, 0, 0, []),
  (71, .aload_n 1, 1, 72, 0, 0, 0, []),
  (72, .getfield 81, 3, 75, 2, 1, 0, []),
  (75, .iadd, 1, 76, 0, 0, 0, []),
  (76, .invokevirtual 96, 3, 79, M_Hold_commonInX, 0, 0, []),
  (79, .iload_n 3, 1, 80, 0, 0, 0, []),
  (80, .aload_n 1, 1, 81, 0, 0, 0, []),
  (81, .getfield 81, 3, 84, 2, 1, 0, []),
  (84, .iadd, 1, 85, 0, 0, 0, []),
  (85, .aload_n 0, 1, 86, 0, 0, 0, []),
  (86, .getfield 12, 3, 89, 5, 0, 0, []),
  (89, .getfield 87, 3, 92, 7, 0, 0, []),
  (92, .invokestatic 184, 3, 95, M_Hold_wall, 0, 0, []),
  (95, .ior, 1, 96, 0, 0, 0, []),
  (96, .iastore, 1, 97, 0, 0, 0, []),
  (97, .iinc 2 1, 3, 100, 0, 0, 1, []),
  (100, .goto (-98), 3, 103, 2, 0, 0, []),
  (103, .iconst 0, 1, 104, 0, 0, 0, []),
  (104, .istore_n 2, 1, 105, 0, 0, 0, []),
  (105, .iload_n 2, 1, 106, 0, 0, 0, []),
  (106, .aload_n 0, 1, 107, 0, 0, 0, []),
  (107, .getfield 38, 3, 110, 5, 7, 0, []),
  (110, .getfield 160, 3, 113, 4, 3, 0, []),
  (113, .if_icmp .ge 93, 3, 116, 206, 0, 0, []),
  (116, .aload_n 0, 1, 117, 0, 0, 0, []),
  (117, .getfield 38, 3, 120, 5, 7, 0, []),
  (120, .getfield 163, 3, 123, 4, 0, 0, []),
  (123, .iload_n 2, 1, 124, 0, 0, 0, []),
  (124, .iaload, 1, 125, 0, 0, 0, []),
  (125, .istore_n 3, 1, 126, 0, 0, 0, []),
  (126, .aload_n 0, 1, 127, 0, 0, 0, []),
  (127, .getfield 38, 3, 130, 5, 7, 0, []),
  (130, .getfield 166, 3, 133, 4, 1, 0, []),
  (133, .iload_n 2, 1, 134, 0, 0, 0, []),
  (134, .aload_n 0, 1, 135, 0, 0, 0, []),
  (135, .iload_n 3, 1, 136, 0, 0, 0, []),
  (136, .iload_n 3, 1, 137, 0, 0, 0, []),
  (137, .aload_n 1, 1, 138, 0, 0, 0, []),
  (138, .getfield 81, 3, 141, 2, 1, 0, []),
  (141, .iadd, 1, 142, 0, 0, 0, []),
  (142, .invokevirtual 109, 3, 145, M_Hold_commonInY, 0, 0, []),
  (145, .iload_n 3, 1, 146, 0, 0, 0, []),
  (146, .aload_n 1, 1, 147, 0, 0, 0, []),
  (147, .getfield 81, 3, 150, 2, 1, 0, []),
  (150, .iadd, 1, 151, 0, 0, 0, []),
  (151, .aload_n 0, 1, 152, 0, 0, 0, []),
  (152, .getfield 12, 3, 155, 5, 0, 0, []),
  (155, .getfield 88, 3, 158, 7, 1, 0, []),
  (158, .invokestatic 184, 3, 161, M_Hold_wall, 0, 0, []),
  (161, .ior, 1, 162, 0, 0, 0, []),
  (162, .iastore, 1, 163, 0, 0, 0, []),
  (163, .aload_n 0, 1, 164, 0, 0, 0, []),
  (164, .getfield 38, 3, 167, 5, 7, 0, []),
  (167, .getfield 187, 3, 170, 4, 2, 0, []),
  (170, .iload_n 2, 1, 171, 0, 0, 0, []),
  (171, .aload_n 0, 1, 172, 0, 0, 0, []),
  (172, .iload_n 3, 1, 173, 0, 0, 0, []),
  (173, .iload_n 3, 1, 174, 0, 0, 0, []),
  (174, .aload_n 1, 1, 175, 0, 0, 0, []),
  (175, .getfield 84, 3, 178, 2, 0, 0, []),
  (178, .iadd, 1, 179, 0, 0, 0, []),
  (179, .invokevirtual 109, 3, 182, M_Hold_commonInY, 0, 0, []),
  (182, .iload_n 3, 1, 183, 0, 0, 0, []),
  (183, .aload_n 1, 1, 184, 0, 0, 0, []),
  (184, .getfield 84, 3, 187, 2, 0, 0, []),
  (187, .iadd, 1, 188, 0, 0, 0, []),
  (188, .aload_n 0, 1, 189, 0, 0, 0, []),
  (189, .getfield 12, 3, 192, 5, 0, 0, []),
  (192, .getfield 88, 3, 195, 7, 1, 0, []),
  (195, .invokestatic 184, 3, 198, M_Hold_wall, 0, 0, []),
  (198, .ior, 1, 199, 0, 0, 0, []),
  (199, .iastore, 1, 200, 0, 0, 0, []),
  (200, .iinc 2 1, 3, 203, 0, 0, 1, []),
  (203, .goto (-98), 3, 206, 105, 0, 0, []),
  (206, .iconst 0, 1, 207, 0, 0, 0, []),
  (207, .istore_n 2, 1, 208, 0, 0, 0, []),
  (208, .iload_n 2, 1, 209, 0, 0, 0, []),
  (209, .aload_n 0, 1, 210, 0, 0, 0, []),
  (210, .getfield 41, 3, 213, 5, 8, 0, []),
  (213, .getfield 160, 3, 216, 4, 3, 0, []),
  (216, .if_icmp .ge 39, 3, 219, 255, 0, 0, []),
  (219, .aload_n 0, 1, 220, 0, 0, 0, []),
  (220, .getfield 41, 3, 223, 5, 8, 0, []),
  (223, .getfield 163, 3, 226, 4, 0, 0, []),
  (226, .iload_n 2, 1, 227, 0, 0, 0, []),
  (227, .iaload, 1, 228, 0, 0, 0, []),
  (228, .istore_n 3, 1, 229, 0, 0, 0, []),
  (229, .aload_n 0, 1, 230, 0, 0, 0, []),
  (230, .getfield 41, 3, 233, 5, 8, 0, []),
  (233, .getfield 166, 3, 236, 4, 1, 0, []),
  (236, .iload_n 2, 1, 237, 0, 0, 0, []),
  (237, .aload_n 0, 1, 238, 0, 0, 0, []),
  (238, .iload_n 3, 1, 239, 0, 0, 0, []),
  (239, .iload_n 3, 1, 240, 0, 0, 0, []),
  (240, .aload_n 1, 1, 241, 0, 0, 0, []),
  (241, .getfield 73, 3, 244, 2, 2, 0, []),
  (244, .iadd, 1, 245, 0, 0, 0, []),
  (245, .invokevirtual 121, 3, 248, M_Hold_commonInZ, 0, 0, []),
  (248, .iastore, 1, 249, 0, 0, 0, []),
  (249, .iinc 2 1, 3, 252, 0, 0, 1, []),
  (252, .goto (-44), 3, 255, 208, 0, 0, []),
  (255, .return_, 1, 256, 0, 0, 0, [])]
set_option maxRecDepth 100000 in
theorem kc_Hold_listCommon : k_Hold_listCommon.all (am_chk am_m38) = true := by decide +kernel
theorem q_Hold_listCommon : am_ms[M_Hold_listCommon]? = some am_m38 := rfl
def k_Hold_wall : List am_I := [
  (0, .iload_n 0, 1, 1, 0, 0, 0, []),
  (1, .iload_n 1, 1, 2, 0, 0, 0, []),
  (2, .if_icmp .le 8, 3, 5, 10, 0, 0, []),
  (5, .ldc 190, 2, 7, 0, 0, 1073741824, []),
  (7, .goto 4, 3, 10, 11, 0, 0, []),
  (10, .iconst 0, 1, 11, 0, 0, 0, []),
  (11, .ireturn, 1, 12, 0, 0, 0, [])]
set_option maxRecDepth 100000 in
theorem kc_Hold_wall : k_Hold_wall.all (am_chk am_m39) = true := by decide +kernel
theorem q_Hold_wall : am_ms[M_Hold_wall]? = some am_m39 := rfl
def k_Hold_isFree : List am_I := [
  (0, .aload_n 0, 1, 1, 0, 0, 0, []),
  (1, .iload 5, 2, 3, 0, 0, 0, []),
  (3, .ifCond .eq 15, 3, 6, 18, 0, 0, []),
  (6, .aload_n 0, 1, 7, 0, 0, 0, []),
  (7, .getfield 34, 3, 10, 5, 6, 0, []),
  (10, .getfield 187, 3, 13, 4, 2, 0, []),
  (13, .iload_n 2, 1, 14, 0, 0, 0, []),
  (14, .iaload, 1, 15, 0, 0, 0, []),
  (15, .goto 12, 3, 18, 27, 0, 0, []),
  (18, .aload_n 0, 1, 19, 0, 0, 0, []),
  (19, .getfield 34, 3, 22, 5, 6, 0, []),
  (22, .getfield 166, 3, 25, 4, 1, 0, []),
  (25, .iload_n 2, 1, 26, 0, 0, 0, []),
  (26, .iaload, 1, 27, 0, 0, 0, []),
  (27, .putfield 100, 3, 30, 5, 9, 0, []),
  (30, .aload_n 0, 1, 31, 0, 0, 0, []),
  (31, .iload 5, 2, 33, 0, 0, 0, []),
  (33, .ifCond .eq 15, 3, 36, 48, 0, 0, []),
  (36, .aload_n 0, 1, 37, 0, 0, 0, []),
  (37, .getfield 38, 3, 40, 5, 7, 0, []),
  (40, .getfield 187, 3, 43, 4, 2, 0, []),
  (43, .iload_n 3, 1, 44, 0, 0, 0, []),
  (44, .iaload, 1, 45, 0, 0, 0, []),
  (45, .goto 12, 3, 48, 57, 0, 0, []),
  (48, .aload_n 0, 1, 49, 0, 0, 0, []),
  (49, .getfield 38, 3, 52, 5, 7, 0, []),
  (52, .getfield 166, 3, 55, 4, 1, 0, []),
  (55, .iload_n 3, 1, 56, 0, 0, 0, []),
  (56, .iaload, 1, 57, 0, 0, 0, []),
  (57, .putfield 112, 3, 60, 5, 10, 0, []),
  (60, .aload_n 0, 1, 61, 0, 0, 0, []),
  (61, .getfield 100, 3, 64, 5, 9, 0, []),
  (64, .aload_n 0, 1, 65, 0, 0, 0, []),
  (65, .getfield 112, 3, 68, 5, 10, 0, []),
  (68, .ior, 1, 69, 0, 0, 0, []),
  (69, .ldc 190, 2, 71, 0, 0, 1073741824, []),
  (71, .iand, 1, 72, 0, 0, 0, []),
  (72, .ifCond .ne 20, 3, 75, 92, 0, 0, []),
  (75, .aload_n 0, 1, 76, 0, 0, 0, []),
  (76, .getfield 100, 3, 79, 5, 9, 0, []),
  (79, .aload_n 0, 1, 80, 0, 0, 0, []),
  (80, .getfield 112, 3, 83, 5, 10, 0, []),
  (83, .iand, 1, 84, 0, 0, 0, []),
  (84, .aload_n 0, 1, 85, 0, 0, 0, []),
  (85, .getfield 124, 3, 88, 5, 11, 0, []),
  (88, .iand, 1, 89, 0, 0, 0, []),
  (89, .ifCond .eq 5, 3, 92, 94, 0, 0, []),
  (92, .iconst 0, 1, 93, 0, 0, 0, []),
  (93, .ireturn, 1, 94, 0, 0, 0, []),
  (94, .aload_n 0, 1, 95, 0, 0, 0, []),
  (95, .getfield 20, 3, 98, 5, 1, 0, []),
  (98, .iload_n 1, 1, 99, 0, 0, 0, []),
  (99, .aaload, 1, 100, 0, 0, 0, []),
  (100, .astore 6, 2, 102, 0, 0, 0, []),
  (102, .aload 6, 2, 104, 0, 0, 0, []),
  (104, .aload_n 0, 1, 105, 0, 0, 0, []),
  (105, .getfield 34, 3, 108, 5, 6, 0, []),
  (108, .getfield 163, 3, 111, 4, 0, 0, []),
  (111, .iload_n 2, 1, 112, 0, 0, 0, []),
  (112, .iaload, 1, 113, 0, 0, 0, []),
  (113, .aload_n 0, 1, 114, 0, 0, 0, []),
  (114, .getfield 38, 3, 117, 5, 7, 0, []),
  (117, .getfield 163, 3, 120, 4, 0, 0, []),
  (120, .iload_n 3, 1, 121, 0, 0, 0, []),
  (121, .iaload, 1, 122, 0, 0, 0, []),
  (122, .iload 4, 2, 124, 0, 0, 0, []),
  (124, .iload 5, 2, 126, 0, 0, 0, []),
  (126, .invokevirtual 89, 3, 129, M_Box_moveTo, 0, 0, []),
  (129, .aload_n 0, 1, 130, 0, 0, 0, []),
  (130, .aload 6, 2, 132, 0, 0, 0, []),
  (132, .invokevirtual 131, 3, 135, M_Hold_isHeld, 0, 0, []),
  (135, .ifCond .eq 31, 3, 138, 166, 0, 0, []),
  (138, .aload_n 0, 1, 139, 0, 0, 0, []),
  (139, .aload 6, 2, 141, 0, 0, 0, []),
  (141, .invokevirtual 134, 3, 144, M_Hold_isInWay, 0, 0, []),
  (144, .ifCond .ne 22, 3, 147, 166, 0, 0, []),
  (147, .aload_n 0, 1, 148, 0, 0, 0, []),
  (148, .aload_n 0, 1, 149, 0, 0, 0, []),
  (149, .getfield 49, 3, 152, 5, 3, 0, []),
  (152, .iconst 1, 1, 153, 0, 0, 1, []),
  (153, .iload_n 1, 1, 154, 0, 0, 0, []),
  (154, .ishl, 1, 155, 0, 0, 0, []),
  (155, .ior, 1, 156, 0, 0, 0, []),
  (156, .invokevirtual 70, 3, 159, M_Hold_bearAll, 0, 0, []),
  (159, .ifCond .eq 7, 3, 162, 166, 0, 0, []),
  (162, .iconst 1, 1, 163, 0, 0, 1, []),
  (163, .goto 4, 3, 166, 167, 0, 0, []),
  (166, .iconst 0, 1, 167, 0, 0, 0, []),
  (167, .ireturn, 1, 168, 0, 0, 0, [])]
set_option maxRecDepth 100000 in
theorem kc_Hold_isFree : k_Hold_isFree.all (am_chk am_m40) = true := by decide +kernel
theorem q_Hold_isFree : am_ms[M_Hold_isFree]? = some am_m40 := rfl
def k_Hold_carries : List am_I := [
  (0, .iconst 0, 1, 1, 0, 0, 0, []),
  (1, .istore_n 2, 1, 2, 0, 0, 0, []),
  (2, .iload_n 2, 1, 3, 0, 0, 0, []),
  (3, .aload_n 0, 1, 4, 0, 0, 0, []),
  (4, .getfield 45, 3, 7, 5, 2, 0, []),
  (7, .if_icmp .ge 37, 3, 10, 44, 0, 0, []),
  (10, .aload_n 0, 1, 11, 0, 0, 0, []),
  (11, .iload_n 2, 1, 12, 0, 0, 0, []),
  (12, .invokevirtual 52, 3, 15, M_Hold_has, 0, 0, []),
  (15, .ifCond .eq 23, 3, 18, 38, 0, 0, []),
  (18, .aload_n 0, 1, 19, 0, 0, 0, []),
  (19, .getfield 20, 3, 22, 5, 1, 0, []),
  (22, .iload_n 2, 1, 23, 0, 0, 0, []),
  (23, .aaload, 1, 24, 0, 0, 0, []),
  (24, .aload_n 0, 1, 25, 0, 0, 0, []),
  (25, .getfield 20, 3, 28, 5, 1, 0, []),
  (28, .iload_n 1, 1, 29, 0, 0, 0, []),
  (29, .aaload, 1, 30, 0, 0, 0, []),
  (30, .invokevirtual 66, 3, 33, M_Box_areaOn, 0, 0, []),
  (33, .ifCond .le 5, 3, 36, 38, 0, 0, []),
  (36, .iconst 1, 1, 37, 0, 0, 1, []),
  (37, .ireturn, 1, 38, 0, 0, 0, []),
  (38, .iinc 2 1, 3, 41, 0, 0, 1, []),
  (41, .goto (-39), 3, 44, 2, 0, 0, []),
  (44, .iconst 0, 1, 45, 0, 0, 0, []),
  (45, .ireturn, 1, 46, 0, 0, 0, [])]
set_option maxRecDepth 100000 in
theorem kc_Hold_carries : k_Hold_carries.all (am_chk am_m42) = true := by decide +kernel
theorem q_Hold_carries : am_ms[M_Hold_carries]? = some am_m42 := rfl
def k_Hold_putOut : List am_I := [
  (0, .aload_n 0, 1, 1, 0, 0, 0, []),
  (1, .dup, 1, 2, 0, 0, 0, []),
  (2, .getfield 49, 3, 5, 5, 3, 0, []),
  (5, .iconst 1, 1, 6, 0, 0, 1, []),
  (6, .iload_n 1, 1, 7, 0, 0, 0, []),
  (7, .ishl, 1, 8, 0, 0, 0, []),
  (8, .iconst (-1), 1, 9, 0, 0, (-1), []),
  (9, .ixor, 1, 10, 0, 0, 0, []),
  (10, .iand, 1, 11, 0, 0, 0, []),
  (11, .putfield 49, 3, 14, 5, 3, 0, []),
  (14, .return_, 1, 15, 0, 0, 0, [])]
set_option maxRecDepth 100000 in
theorem kc_Hold_putOut : k_Hold_putOut.all (am_chk am_m43) = true := by decide +kernel
theorem q_Hold_putOut : am_ms[M_Hold_putOut]? = some am_m43 := rfl
def k_Integer_bitCount : List am_I := [
  (0, .iload_n 0, 1, 1, 0, 0, 0, []),
  (1, .iload_n 0, 1, 2, 0, 0, 0, []),
  (2, .iconst 1, 1, 3, 0, 0, 1, []),
  (3, .iushr, 1, 4, 0, 0, 0, []),
  (4, .ldc_w 265, 3, 7, 0, 0, 1431655765, []),
  (7, .iand, 1, 8, 0, 0, 0, []),
  (8, .isub, 1, 9, 0, 0, 0, []),
  (9, .istore_n 0, 1, 10, 0, 0, 0, []),
  (10, .iload_n 0, 1, 11, 0, 0, 0, []),
  (11, .ldc_w 266, 3, 14, 0, 0, 858993459, []),
  (14, .iand, 1, 15, 0, 0, 0, []),
  (15, .iload_n 0, 1, 16, 0, 0, 0, []),
  (16, .iconst 2, 1, 17, 0, 0, 2, []),
  (17, .iushr, 1, 18, 0, 0, 0, []),
  (18, .ldc_w 266, 3, 21, 0, 0, 858993459, []),
  (21, .iand, 1, 22, 0, 0, 0, []),
  (22, .iadd, 1, 23, 0, 0, 0, []),
  (23, .istore_n 0, 1, 24, 0, 0, 0, []),
  (24, .iload_n 0, 1, 25, 0, 0, 0, []),
  (25, .iload_n 0, 1, 26, 0, 0, 0, []),
  (26, .iconst 4, 1, 27, 0, 0, 4, []),
  (27, .iushr, 1, 28, 0, 0, 0, []),
  (28, .iadd, 1, 29, 0, 0, 0, []),
  (29, .ldc_w 267, 3, 32, 0, 0, 252645135, []),
  (32, .iand, 1, 33, 0, 0, 0, []),
  (33, .istore_n 0, 1, 34, 0, 0, 0, []),
  (34, .iload_n 0, 1, 35, 0, 0, 0, []),
  (35, .iload_n 0, 1, 36, 0, 0, 0, []),
  (36, .bipush 8, 2, 38, 0, 0, 8, []),
  (38, .iushr, 1, 39, 0, 0, 0, []),
  (39, .iadd, 1, 40, 0, 0, 0, []),
  (40, .istore_n 0, 1, 41, 0, 0, 0, []),
  (41, .iload_n 0, 1, 42, 0, 0, 0, []),
  (42, .iload_n 0, 1, 43, 0, 0, 0, []),
  (43, .bipush 16, 2, 45, 0, 0, 16, []),
  (45, .iushr, 1, 46, 0, 0, 0, []),
  (46, .iadd, 1, 47, 0, 0, 0, []),
  (47, .istore_n 0, 1, 48, 0, 0, 0, []),
  (48, .iload_n 0, 1, 49, 0, 0, 0, []),
  (49, .bipush 63, 2, 51, 0, 0, 63, []),
  (51, .iand, 1, 52, 0, 0, 0, []),
  (52, .ireturn, 1, 53, 0, 0, 0, [])]
set_option maxRecDepth 100000 in
theorem kc_Integer_bitCount : k_Integer_bitCount.all (am_chk am_m45) = true := by decide +kernel
theorem q_Integer_bitCount : am_ms[M_Integer_bitCount]? = some am_m45 := rfl
def k_Orders_begin : List am_I := [
  (0, .aload_n 0, 1, 1, 0, 0, 0, []),
  (1, .iconst 0, 1, 2, 0, 0, 0, []),
  (2, .putfield 18, 3, 5, 6, 2, 0, []),
  (5, .aload_n 0, 1, 6, 0, 0, 0, []),
  (6, .iconst (-1), 1, 7, 0, 0, (-1), []),
  (7, .putfield 22, 3, 10, 6, 3, 0, []),
  (10, .aload_n 0, 1, 11, 0, 0, 0, []),
  (11, .iconst 0, 1, 12, 0, 0, 0, []),
  (12, .putfield 25, 3, 15, 6, 4, 0, []),
  (15, .return_, 1, 16, 0, 0, 0, [])]
set_option maxRecDepth 100000 in
theorem kc_Orders_begin : k_Orders_begin.all (am_chk am_m48) = true := by decide +kernel
theorem q_Orders_begin : am_ms[M_Orders_begin]? = some am_m48 := rfl
def k_Hold_reach : List am_I := [
  (0, .iconst 0, 1, 1, 0, 0, 0, []),
  (1, .istore_n 1, 1, 2, 0, 0, 0, []),
  (2, .iconst 0, 1, 3, 0, 0, 0, []),
  (3, .istore_n 2, 1, 4, 0, 0, 0, []),
  (4, .iload_n 2, 1, 5, 0, 0, 0, []),
  (5, .aload_n 0, 1, 6, 0, 0, 0, []),
  (6, .getfield 45, 3, 9, 5, 2, 0, []),
  (9, .if_icmp .ge 40, 3, 12, 49, 0, 0, []),
  (12, .aload_n 0, 1, 13, 0, 0, 0, []),
  (13, .iload_n 2, 1, 14, 0, 0, 0, []),
  (14, .invokevirtual 52, 3, 17, M_Hold_has, 0, 0, []),
  (17, .ifCond .eq 26, 3, 20, 43, 0, 0, []),
  (20, .aload_n 0, 1, 21, 0, 0, 0, []),
  (21, .getfield 20, 3, 24, 5, 1, 0, []),
  (24, .iload_n 2, 1, 25, 0, 0, 0, []),
  (25, .aaload, 1, 26, 0, 0, 0, []),
  (26, .getfield 59, 3, 29, 2, 11, 0, []),
  (29, .iload_n 1, 1, 30, 0, 0, 0, []),
  (30, .if_icmp .le 13, 3, 33, 43, 0, 0, []),
  (33, .aload_n 0, 1, 34, 0, 0, 0, []),
  (34, .getfield 20, 3, 37, 5, 1, 0, []),
  (37, .iload_n 2, 1, 38, 0, 0, 0, []),
  (38, .aaload, 1, 39, 0, 0, 0, []),
  (39, .getfield 59, 3, 42, 2, 11, 0, []),
  (42, .istore_n 1, 1, 43, 0, 0, 0, []),
  (43, .iinc 2 1, 3, 46, 0, 0, 1, []),
  (46, .goto (-42), 3, 49, 4, 0, 0, []),
  (49, .iload_n 1, 1, 50, 0, 0, 0, []),
  (50, .ireturn, 1, 51, 0, 0, 0, [])]
set_option maxRecDepth 100000 in
theorem kc_Hold_reach : k_Hold_reach.all (am_chk am_m50) = true := by decide +kernel
theorem q_Hold_reach : am_ms[M_Hold_reach]? = some am_m50 := rfl
def k_Orders_cannotWin : List am_I := [
  (0, .iload_n 1, 1, 1, 0, 0, 0, []),
  (1, .aload_n 0, 1, 2, 0, 0, 0, []),
  (2, .getfield 22, 3, 5, 6, 3, 0, []),
  (5, .if_icmp .lt 19, 3, 8, 24, 0, 0, []),
  (8, .iload_n 1, 1, 9, 0, 0, 0, []),
  (9, .aload_n 0, 1, 10, 0, 0, 0, []),
  (10, .getfield 22, 3, 13, 6, 3, 0, []),
  (13, .if_icmp .ne 15, 3, 16, 28, 0, 0, []),
  (16, .iload_n 2, 1, 17, 0, 0, 0, []),
  (17, .aload_n 0, 1, 18, 0, 0, 0, []),
  (18, .getfield 25, 3, 21, 6, 4, 0, []),
  (21, .if_icmp .lt 7, 3, 24, 28, 0, 0, []),
  (24, .iconst 1, 1, 25, 0, 0, 1, []),
  (25, .goto 4, 3, 28, 29, 0, 0, []),
  (28, .iconst 0, 1, 29, 0, 0, 0, []),
  (29, .ireturn, 1, 30, 0, 0, 0, [])]
set_option maxRecDepth 100000 in
theorem kc_Orders_cannotWin : k_Orders_cannotWin.all (am_chk am_m51) = true := by decide +kernel
theorem q_Orders_cannotWin : am_ms[M_Orders_cannotWin]? = some am_m51 := rfl
def k_Orders_keep : List am_I := [
  (0, .aload_n 0, 1, 1, 0, 0, 0, []),
  (1, .iload_n 1, 1, 2, 0, 0, 0, []),
  (2, .putfield 18, 3, 5, 6, 2, 0, []),
  (5, .aload_n 0, 1, 6, 0, 0, 0, []),
  (6, .iload_n 2, 1, 7, 0, 0, 0, []),
  (7, .putfield 22, 3, 10, 6, 3, 0, []),
  (10, .aload_n 0, 1, 11, 0, 0, 0, []),
  (11, .iload_n 3, 1, 12, 0, 0, 0, []),
  (12, .putfield 25, 3, 15, 6, 4, 0, []),
  (15, .iconst 0, 1, 16, 0, 0, 0, []),
  (16, .istore 4, 2, 18, 0, 0, 0, []),
  (18, .iload 4, 2, 20, 0, 0, 0, []),
  (20, .iload_n 1, 1, 21, 0, 0, 0, []),
  (21, .if_icmp .ge 23, 3, 24, 44, 0, 0, []),
  (24, .aload_n 0, 1, 25, 0, 0, 0, []),
  (25, .getfield 15, 3, 28, 6, 1, 0, []),
  (28, .iload 4, 2, 30, 0, 0, 0, []),
  (30, .aload_n 0, 1, 31, 0, 0, 0, []),
  (31, .getfield 9, 3, 34, 6, 0, 0, []),
  (34, .iload 4, 2, 36, 0, 0, 0, []),
  (36, .iaload, 1, 37, 0, 0, 0, []),
  (37, .iastore, 1, 38, 0, 0, 0, []),
  (38, .iinc 4 1, 3, 41, 0, 0, 1, []),
  (41, .goto (-23), 3, 44, 18, 0, 0, []),
  (44, .return_, 1, 45, 0, 0, 0, [])]
set_option maxRecDepth 100000 in
theorem kc_Orders_keep : k_Orders_keep.all (am_chk am_m52) = true := by decide +kernel
theorem q_Orders_keep : am_ms[M_Orders_keep]? = some am_m52 := rfl
def k_Hold_loadOf : List am_I := [
  (0, .aload_n 0, 1, 1, 0, 0, 0, []),
  (1, .aload_n 0, 1, 2, 0, 0, 0, []),
  (2, .getfield 49, 3, 5, 5, 3, 0, []),
  (5, .invokevirtual 70, 3, 8, M_Hold_bearAll, 0, 0, []),
  (8, .pop, 1, 9, 0, 0, 0, []),
  (9, .aload_n 0, 1, 10, 0, 0, 0, []),
  (10, .getfield 24, 3, 13, 5, 4, 0, []),
  (13, .iload_n 1, 1, 14, 0, 0, 0, []),
  (14, .iaload, 1, 15, 0, 0, 0, []),
  (15, .ireturn, 1, 16, 0, 0, 0, [])]
set_option maxRecDepth 100000 in
theorem kc_Hold_loadOf : k_Hold_loadOf.all (am_chk am_m55) = true := by decide +kernel
theorem q_Hold_loadOf : am_ms[M_Hold_loadOf]? = some am_m55 := rfl
def k_Hold_supportsOf : List am_I := [
  (0, .iconst 0, 1, 1, 0, 0, 0, []),
  (1, .istore_n 2, 1, 2, 0, 0, 0, []),
  (2, .iconst 0, 1, 3, 0, 0, 0, []),
  (3, .istore_n 3, 1, 4, 0, 0, 0, []),
  (4, .iload_n 3, 1, 5, 0, 0, 0, []),
  (5, .aload_n 0, 1, 6, 0, 0, 0, []),
  (6, .getfield 45, 3, 9, 5, 2, 0, []),
  (9, .if_icmp .ge 38, 3, 12, 47, 0, 0, []),
  (12, .aload_n 0, 1, 13, 0, 0, 0, []),
  (13, .iload_n 3, 1, 14, 0, 0, 0, []),
  (14, .invokevirtual 52, 3, 17, M_Hold_has, 0, 0, []),
  (17, .ifCond .eq 24, 3, 20, 41, 0, 0, []),
  (20, .aload_n 0, 1, 21, 0, 0, 0, []),
  (21, .getfield 20, 3, 24, 5, 1, 0, []),
  (24, .iload_n 1, 1, 25, 0, 0, 0, []),
  (25, .aaload, 1, 26, 0, 0, 0, []),
  (26, .aload_n 0, 1, 27, 0, 0, 0, []),
  (27, .getfield 20, 3, 30, 5, 1, 0, []),
  (30, .iload_n 3, 1, 31, 0, 0, 0, []),
  (31, .aaload, 1, 32, 0, 0, 0, []),
  (32, .invokevirtual 66, 3, 35, M_Box_areaOn, 0, 0, []),
  (35, .ifCond .le 6, 3, 38, 41, 0, 0, []),
  (38, .iinc 2 1, 3, 41, 0, 0, 1, []),
  (41, .iinc 3 1, 3, 44, 0, 0, 1, []),
  (44, .goto (-40), 3, 47, 4, 0, 0, []),
  (47, .iload_n 2, 1, 48, 0, 0, 0, []),
  (48, .ireturn, 1, 49, 0, 0, 0, [])]
set_option maxRecDepth 100000 in
theorem kc_Hold_supportsOf : k_Hold_supportsOf.all (am_chk am_m56) = true := by decide +kernel
theorem q_Hold_supportsOf : am_ms[M_Hold_supportsOf]? = some am_m56 := rfl
def k_Box_fills : List am_I := [
  (0, .iload_n 1, 1, 1, 0, 0, 0, []),
  (1, .aload_n 0, 1, 2, 0, 0, 0, []),
  (2, .getfield 7, 3, 5, 2, 8, 0, []),
  (5, .if_icmp .lt 47, 3, 8, 52, 0, 0, []),
  (8, .iload_n 1, 1, 9, 0, 0, 0, []),
  (9, .aload_n 0, 1, 10, 0, 0, 0, []),
  (10, .getfield 29, 3, 13, 2, 11, 0, []),
  (13, .if_icmp .ge 39, 3, 16, 52, 0, 0, []),
  (16, .iload_n 2, 1, 17, 0, 0, 0, []),
  (17, .aload_n 0, 1, 18, 0, 0, 0, []),
  (18, .getfield 13, 3, 21, 2, 9, 0, []),
  (21, .if_icmp .lt 31, 3, 24, 52, 0, 0, []),
  (24, .iload_n 2, 1, 25, 0, 0, 0, []),
  (25, .aload_n 0, 1, 26, 0, 0, 0, []),
  (26, .getfield 32, 3, 29, 2, 12, 0, []),
  (29, .if_icmp .ge 23, 3, 32, 52, 0, 0, []),
  (32, .iload_n 3, 1, 33, 0, 0, 0, []),
  (33, .aload_n 0, 1, 34, 0, 0, 0, []),
  (34, .getfield 16, 3, 37, 2, 10, 0, []),
  (37, .if_icmp .lt 15, 3, 40, 52, 0, 0, []),
  (40, .iload_n 3, 1, 41, 0, 0, 0, []),
  (41, .aload_n 0, 1, 42, 0, 0, 0, []),
  (42, .getfield 38, 3, 45, 2, 13, 0, []),
  (45, .if_icmp .ge 7, 3, 48, 52, 0, 0, []),
  (48, .iconst 1, 1, 49, 0, 0, 1, []),
  (49, .goto 4, 3, 52, 53, 0, 0, []),
  (52, .iconst 0, 1, 53, 0, 0, 0, []),
  (53, .ireturn, 1, 54, 0, 0, 0, [])]
set_option maxRecDepth 100000 in
theorem kc_Box_fills : k_Box_fills.all (am_chk am_m58) = true := by decide +kernel
theorem q_Box_fills : am_ms[M_Box_fills]? = some am_m58 := rfl
def k_Hold_fitsEmpty : List am_I := [
  (0, .aload_n 0, 1, 1, 0, 0, 0, []),
  (1, .getfield 20, 3, 4, 5, 1, 0, []),
  (4, .iload_n 1, 1, 5, 0, 0, 0, []),
  (5, .aaload, 1, 6, 0, 0, 0, []),
  (6, .astore_n 3, 1, 7, 0, 0, 0, []),
  (7, .aload_n 3, 1, 8, 0, 0, 0, []),
  (8, .getfield 73, 3, 11, 2, 2, 0, []),
  (11, .aload_n 0, 1, 12, 0, 0, 0, []),
  (12, .getfield 12, 3, 15, 5, 0, 0, []),
  (15, .getfield 76, 3, 18, 7, 2, 0, []),
  (18, .if_icmp .gt 14, 3, 21, 32, 0, 0, []),
  (21, .iload_n 2, 1, 22, 0, 0, 0, []),
  (22, .ifCond .eq 12, 3, 25, 34, 0, 0, []),
  (25, .aload_n 3, 1, 26, 0, 0, 0, []),
  (26, .getfield 77, 3, 29, 2, 6, 0, []),
  (29, .ifCond .ne 5, 3, 32, 34, 0, 0, []),
  (32, .iconst 0, 1, 33, 0, 0, 0, []),
  (33, .ireturn, 1, 34, 0, 0, 0, []),
  (34, .iload_n 2, 1, 35, 0, 0, 0, []),
  (35, .ifCond .eq 10, 3, 38, 45, 0, 0, []),
  (38, .aload_n 3, 1, 39, 0, 0, 0, []),
  (39, .getfield 81, 3, 42, 2, 1, 0, []),
  (42, .goto 7, 3, 45, 49, 0, 0, []),
  (45, .aload_n 3, 1, 46, 0, 0, 0, []),
  (46, .getfield 84, 3, 49, 2, 0, 0, []),
  (49, .istore 4, 2, 51, 0, 0, 0, []),
  (51, .iload_n 2, 1, 52, 0, 0, 0, []),
  (52, .ifCond .eq 10, 3, 55, 62, 0, 0, []),
  (55, .aload_n 3, 1, 56, 0, 0, 0, []),
  (56, .getfield 84, 3, 59, 2, 0, 0, []),
  (59, .goto 7, 3, 62, 66, 0, 0, []),
  (62, .aload_n 3, 1, 63, 0, 0, 0, []),
  (63, .getfield 81, 3, 66, 2, 1, 0, []),
  (66, .istore 5, 2, 68, 0, 0, 0, []),
  (68, .iload 4, 2, 70, 0, 0, 0, []),
  (70, .aload_n 0, 1, 71, 0, 0, 0, []),
  (71, .getfield 12, 3, 74, 5, 0, 0, []),
  (74, .getfield 87, 3, 77, 7, 0, 0, []),
  (77, .if_icmp .gt 19, 3, 80, 96, 0, 0, []),
  (80, .iload 5, 2, 82, 0, 0, 0, []),
  (82, .aload_n 0, 1, 83, 0, 0, 0, []),
  (83, .getfield 12, 3, 86, 5, 0, 0, []),
  (86, .getfield 88, 3, 89, 7, 1, 0, []),
  (89, .if_icmp .gt 7, 3, 92, 96, 0, 0, []),
  (92, .iconst 1, 1, 93, 0, 0, 1, []),
  (93, .goto 4, 3, 96, 97, 0, 0, []),
  (96, .iconst 0, 1, 97, 0, 0, 0, []),
  (97, .ireturn, 1, 98, 0, 0, 0, [])]
set_option maxRecDepth 100000 in
theorem kc_Hold_fitsEmpty : k_Hold_fitsEmpty.all (am_chk am_m85) = true := by decide +kernel
theorem q_Hold_fitsEmpty : am_ms[M_Hold_fitsEmpty]? = some am_m85 := rfl
def k_Box_volume : List am_I := [
  (0, .aload_n 0, 1, 1, 0, 0, 0, []),
  (1, .getfield 26, 3, 4, 2, 0, 0, []),
  (4, .aload_n 0, 1, 5, 0, 0, 0, []),
  (5, .getfield 23, 3, 8, 2, 1, 0, []),
  (8, .imul, 1, 9, 0, 0, 0, []),
  (9, .aload_n 0, 1, 10, 0, 0, 0, []),
  (10, .getfield 35, 3, 13, 2, 2, 0, []),
  (13, .imul, 1, 14, 0, 0, 0, []),
  (14, .ireturn, 1, 15, 0, 0, 0, [])]
set_option maxRecDepth 100000 in
theorem kc_Box_volume : k_Box_volume.all (am_chk am_m87) = true := by decide +kernel
theorem q_Box_volume : am_ms[M_Box_volume]? = some am_m87 := rfl
def k_Hold_weightIn : List am_I := [
  (0, .iconst 0, 1, 1, 0, 0, 0, []),
  (1, .istore_n 1, 1, 2, 0, 0, 0, []),
  (2, .iconst 0, 1, 3, 0, 0, 0, []),
  (3, .istore_n 2, 1, 4, 0, 0, 0, []),
  (4, .iload_n 2, 1, 5, 0, 0, 0, []),
  (5, .aload_n 0, 1, 6, 0, 0, 0, []),
  (6, .getfield 45, 3, 9, 5, 2, 0, []),
  (9, .if_icmp .ge 29, 3, 12, 38, 0, 0, []),
  (12, .aload_n 0, 1, 13, 0, 0, 0, []),
  (13, .iload_n 2, 1, 14, 0, 0, 0, []),
  (14, .invokevirtual 52, 3, 17, M_Hold_has, 0, 0, []),
  (17, .ifCond .eq 15, 3, 20, 32, 0, 0, []),
  (20, .iload_n 1, 1, 21, 0, 0, 0, []),
  (21, .aload_n 0, 1, 22, 0, 0, 0, []),
  (22, .getfield 20, 3, 25, 5, 1, 0, []),
  (25, .iload_n 2, 1, 26, 0, 0, 0, []),
  (26, .aaload, 1, 27, 0, 0, 0, []),
  (27, .getfield 56, 3, 30, 2, 3, 0, []),
  (30, .iadd, 1, 31, 0, 0, 0, []),
  (31, .istore_n 1, 1, 32, 0, 0, 0, []),
  (32, .iinc 2 1, 3, 35, 0, 0, 1, []),
  (35, .goto (-31), 3, 38, 4, 0, 0, []),
  (38, .iload_n 1, 1, 39, 0, 0, 0, []),
  (39, .ireturn, 1, 40, 0, 0, 0, [])]
set_option maxRecDepth 100000 in
theorem kc_Hold_weightIn : k_Hold_weightIn.all (am_chk am_m95) = true := by decide +kernel
theorem q_Hold_weightIn : am_ms[M_Hold_weightIn]? = some am_m95 := rfl
def k_Hold_cellsFilled : List am_I := [
  (0, .iconst 0, 1, 1, 0, 0, 0, []),
  (1, .istore_n 1, 1, 2, 0, 0, 0, []),
  (2, .iconst 0, 1, 3, 0, 0, 0, []),
  (3, .istore_n 2, 1, 4, 0, 0, 0, []),
  (4, .iload_n 2, 1, 5, 0, 0, 0, []),
  (5, .aload_n 0, 1, 6, 0, 0, 0, []),
  (6, .getfield 45, 3, 9, 5, 2, 0, []),
  (9, .if_icmp .ge 29, 3, 12, 38, 0, 0, []),
  (12, .aload_n 0, 1, 13, 0, 0, 0, []),
  (13, .iload_n 2, 1, 14, 0, 0, 0, []),
  (14, .invokevirtual 52, 3, 17, M_Hold_has, 0, 0, []),
  (17, .ifCond .eq 15, 3, 20, 32, 0, 0, []),
  (20, .iload_n 1, 1, 21, 0, 0, 0, []),
  (21, .aload_n 0, 1, 22, 0, 0, 0, []),
  (22, .getfield 20, 3, 25, 5, 1, 0, []),
  (25, .iload_n 2, 1, 26, 0, 0, 0, []),
  (26, .aaload, 1, 27, 0, 0, 0, []),
  (27, .invokevirtual 62, 3, 30, M_Box_volume, 0, 0, []),
  (30, .iadd, 1, 31, 0, 0, 0, []),
  (31, .istore_n 1, 1, 32, 0, 0, 0, []),
  (32, .iinc 2 1, 3, 35, 0, 0, 1, []),
  (35, .goto (-31), 3, 38, 4, 0, 0, []),
  (38, .iload_n 1, 1, 39, 0, 0, 0, []),
  (39, .ireturn, 1, 40, 0, 0, 0, [])]
set_option maxRecDepth 100000 in
theorem kc_Hold_cellsFilled : k_Hold_cellsFilled.all (am_chk am_m96) = true := by decide +kernel
theorem q_Hold_cellsFilled : am_ms[M_Hold_cellsFilled]? = some am_m96 := rfl
end
section
/-! the code, instruction by instruction (written by tools/gen3.py) -/
def k_B_new : List am_I := [
  (0, .aload_n 0, 1, 1, 0, 0, 0, []),
  (1, .invokespecial 1, 3, 4, 0, 9, 0, []),
  (4, .aload_n 0, 1, 5, 0, 0, 0, []),
  (5, .new 7, 3, 8, 5, 0, 0, []),
  (8, .dup, 1, 9, 0, 0, 0, []),
  (9, .invokespecial 9, 3, 12, M_Hold_new, 0, 0, []),
  (12, .putfield 10, 3, 15, 8, 0, 0, []),
  (15, .aload_n 0, 1, 16, 0, 0, 0, []),
  (16, .new 16, 3, 19, 6, 0, 0, []),
  (19, .dup, 1, 20, 0, 0, 0, []),
  (20, .invokespecial 18, 3, 23, M_Orders_new, 1, 0, []),
  (23, .putfield 19, 3, 26, 8, 1, 0, []),
  (26, .aload_n 0, 1, 27, 0, 0, 0, []),
  (27, .new 23, 3, 30, 0, 0, 0, []),
  (30, .dup, 1, 31, 0, 0, 0, []),
  (31, .invokespecial 25, 3, 34, M_Balance_new, 1, 0, []),
  (34, .putfield 26, 3, 37, 8, 2, 0, []),
  (37, .aload_n 0, 1, 38, 0, 0, 0, []),
  (38, .new 30, 3, 41, 1, 0, 0, []),
  (41, .dup, 1, 42, 0, 0, 0, []),
  (42, .invokespecial 32, 3, 45, M_Bounds_new, 1, 0, []),
  (45, .putfield 33, 3, 48, 8, 3, 0, []),
  (48, .aload_n 0, 1, 49, 0, 0, 0, []),
  (49, .aconst_null, 1, 50, 0, 0, 0, []),
  (50, .putfield 37, 3, 53, 8, 4, 0, []),
  (53, .return_, 1, 54, 0, 0, 0, [])]
set_option maxRecDepth 100000 in
theorem kc_B_new : k_B_new.all (am_chk am_m0) = true := by decide +kernel
theorem q_B_new : am_ms[M_B_new]? = some am_m0 := rfl
def k_Balance_new : List am_I := [
  (0, .aload_n 0, 1, 1, 0, 0, 0, []),
  (1, .invokespecial 1, 3, 4, 0, 9, 0, []),
  (4, .return_, 1, 5, 0, 0, 0, [])]
set_option maxRecDepth 100000 in
theorem kc_Balance_new : k_Balance_new.all (am_chk am_m6) = true := by decide +kernel
theorem q_Balance_new : am_ms[M_Balance_new]? = some am_m6 := rfl
def k_Bounds_new : List am_I := [
  (0, .aload_n 0, 1, 1, 0, 0, 0, []),
  (1, .invokespecial 3, 3, 4, 0, 9, 0, []),
  (4, .aload_n 0, 1, 5, 0, 0, 0, []),
  (5, .bipush 20, 2, 7, 0, 0, 20, []),
  (7, .newarray .int, 2, 9, 0, 0, 0, []),
  (9, .putfield 9, 3, 12, 1, 4, 0, []),
  (12, .aload_n 0, 1, 13, 0, 0, 0, []),
  (13, .bipush 20, 2, 15, 0, 0, 20, []),
  (15, .newarray .int, 2, 17, 0, 0, 0, []),
  (17, .putfield 15, 3, 20, 1, 5, 0, []),
  (20, .aload_n 0, 1, 21, 0, 0, 0, []),
  (21, .bipush 20, 2, 23, 0, 0, 20, []),
  (23, .newarray .int, 2, 25, 0, 0, 0, []),
  (25, .putfield 18, 3, 28, 1, 6, 0, []),
  (28, .return_, 1, 29, 0, 0, 0, [])]
set_option maxRecDepth 100000 in
theorem kc_Bounds_new : k_Bounds_new.all (am_chk am_m7) = true := by decide +kernel
theorem q_Bounds_new : am_ms[M_Bounds_new]? = some am_m7 := rfl
def k_B_box : List am_I := [
  (0, .iload_n 1, 1, 1, 0, 0, 0, []),
  (1, .iconst 1, 1, 2, 0, 0, 1, []),
  (2, .bipush 12, 2, 4, 0, 0, 12, []),
  (4, .invokestatic 41, 3, 7, M_B_within, 0, 0, []),
  (7, .ifCond .eq 69, 3, 10, 76, 0, 0, []),
  (10, .iload_n 2, 1, 11, 0, 0, 0, []),
  (11, .iconst 1, 1, 12, 0, 0, 1, []),
  (12, .bipush 12, 2, 14, 0, 0, 12, []),
  (14, .invokestatic 41, 3, 17, M_B_within, 0, 0, []),
  (17, .ifCond .eq 59, 3, 20, 76, 0, 0, []),
  (20, .iload_n 3, 1, 21, 0, 0, 0, []),
  (21, .iconst 1, 1, 22, 0, 0, 1, []),
  (22, .bipush 12, 2, 24, 0, 0, 12, []),
  (24, .invokestatic 41, 3, 27, M_B_within, 0, 0, []),
  (27, .ifCond .eq 49, 3, 30, 76, 0, 0, []),
  (30, .iload 4, 2, 32, 0, 0, 0, []),
  (32, .iconst 1, 1, 33, 0, 0, 1, []),
  (33, .sipush 1000, 3, 36, 0, 0, 1000, []),
  (36, .invokestatic 41, 3, 39, M_B_within, 0, 0, []),
  (39, .ifCond .eq 37, 3, 42, 76, 0, 0, []),
  (42, .iload 5, 2, 44, 0, 0, 0, []),
  (44, .iconst 0, 1, 45, 0, 0, 0, []),
  (45, .sipush 20000, 3, 48, 0, 0, 20000, []),
  (48, .invokestatic 41, 3, 51, M_B_within, 0, 0, []),
  (51, .ifCond .eq 25, 3, 54, 76, 0, 0, []),
  (54, .iload 6, 2, 56, 0, 0, 0, []),
  (56, .iconst 0, 1, 57, 0, 0, 0, []),
  (57, .iconst 5, 1, 58, 0, 0, 5, []),
  (58, .invokestatic 41, 3, 61, M_B_within, 0, 0, []),
  (61, .ifCond .eq 15, 3, 64, 76, 0, 0, []),
  (64, .iload 8, 2, 66, 0, 0, 0, []),
  (66, .iconst 0, 1, 67, 0, 0, 0, []),
  (67, .sipush 1000, 3, 70, 0, 0, 1000, []),
  (70, .invokestatic 41, 3, 73, M_B_within, 0, 0, []),
  (73, .ifCond .ne 6, 3, 76, 79, 0, 0, []),
  (76, .bipush (-2), 2, 78, 0, 0, (-2), []),
  (78, .ireturn, 1, 79, 0, 0, 0, []),
  (79, .aload_n 0, 1, 80, 0, 0, 0, []),
  (80, .getfield 10, 3, 83, 8, 0, 0, []),
  (83, .getfield 45, 3, 86, 5, 2, 0, []),
  (86, .bipush 20, 2, 88, 0, 0, 20, []),
  (88, .if_icmp .lt 6, 3, 91, 94, 0, 0, []),
  (91, .bipush (-3), 2, 93, 0, 0, (-3), []),
  (93, .ireturn, 1, 94, 0, 0, 0, []),
  (94, .aload_n 0, 1, 95, 0, 0, 0, []),
  (95, .getfield 10, 3, 98, 8, 0, 0, []),
  (98, .getfield 49, 3, 101, 5, 1, 0, []),
  (101, .aload_n 0, 1, 102, 0, 0, 0, []),
  (102, .getfield 10, 3, 105, 8, 0, 0, []),
  (105, .getfield 45, 3, 108, 5, 2, 0, []),
  (108, .aaload, 1, 109, 0, 0, 0, []),
  (109, .astore 9, 2, 111, 0, 0, 0, []),
  (111, .aload 9, 2, 113, 0, 0, 0, []),
  (113, .iload_n 1, 1, 114, 0, 0, 0, []),
  (114, .putfield 53, 3, 117, 2, 0, 0, []),
  (117, .aload 9, 2, 119, 0, 0, 0, []),
  (119, .iload_n 2, 1, 120, 0, 0, 0, []),
  (120, .putfield 58, 3, 123, 2, 1, 0, []),
  (123, .aload 9, 2, 125, 0, 0, 0, []),
  (125, .iload_n 3, 1, 126, 0, 0, 0, []),
  (126, .putfield 61, 3, 129, 2, 2, 0, []),
  (129, .aload 9, 2, 131, 0, 0, 0, []),
  (131, .iload 4, 2, 133, 0, 0, 0, []),
  (133, .putfield 64, 3, 136, 2, 3, 0, []),
  (136, .aload 9, 2, 138, 0, 0, 0, []),
  (138, .iload 5, 2, 140, 0, 0, 0, []),
  (140, .putfield 67, 3, 143, 2, 4, 0, []),
  (143, .aload 9, 2, 145, 0, 0, 0, []),
  (145, .iload 6, 2, 147, 0, 0, 0, []),
  (147, .putfield 70, 3, 150, 2, 5, 0, []),
  (150, .aload 9, 2, 152, 0, 0, 0, []),
  (152, .iload 7, 2, 154, 0, 0, 0, []),
  (154, .putfield 73, 3, 157, 2, 6, 0, []),
  (157, .aload 9, 2, 159, 0, 0, 0, []),
  (159, .iload 8, 2, 161, 0, 0, 0, []),
  (161, .putfield 77, 3, 164, 2, 7, 0, []),
  (164, .aload_n 0, 1, 165, 0, 0, 0, []),
  (165, .getfield 10, 3, 168, 8, 0, 0, []),
  (168, .dup, 1, 169, 0, 0, 0, []),
  (169, .getfield 45, 3, 172, 5, 2, 0, []),
  (172, .iconst 1, 1, 173, 0, 0, 1, []),
  (173, .iadd, 1, 174, 0, 0, 0, []),
  (174, .putfield 45, 3, 177, 5, 2, 0, []),
  (177, .aload_n 0, 1, 178, 0, 0, 0, []),
  (178, .getfield 37, 3, 181, 8, 4, 0, []),
  (181, .ifnull 10, 3, 184, 191, 0, 0, []),
  (184, .aload_n 0, 1, 185, 0, 0, 0, []),
  (185, .getfield 37, 3, 188, 8, 4, 0, []),
  (188, .invokevirtual 80, 3, 191, M_Cutter_forget, 0, 0, []),
  (191, .aload_n 0, 1, 192, 0, 0, 0, []),
  (192, .getfield 10, 3, 195, 8, 0, 0, []),
  (195, .getfield 45, 3, 198, 5, 2, 0, []),
  (198, .iconst 1, 1, 199, 0, 0, 1, []),
  (199, .isub, 1, 200, 0, 0, 0, []),
  (200, .ireturn, 1, 201, 0, 0, 0, [])]
set_option maxRecDepth 100000 in
theorem kc_B_box : k_B_box.all (am_chk am_m8) = true := by decide +kernel
theorem q_B_box : am_ms[M_B_box]? = some am_m8 := rfl
def k_B_within : List am_I := [
  (0, .iload_n 0, 1, 1, 0, 0, 0, []),
  (1, .iload_n 1, 1, 2, 0, 0, 0, []),
  (2, .if_icmp .lt 12, 3, 5, 14, 0, 0, []),
  (5, .iload_n 0, 1, 6, 0, 0, 0, []),
  (6, .iload_n 2, 1, 7, 0, 0, 0, []),
  (7, .if_icmp .gt 7, 3, 10, 14, 0, 0, []),
  (10, .iconst 1, 1, 11, 0, 0, 1, []),
  (11, .goto 4, 3, 14, 15, 0, 0, []),
  (14, .iconst 0, 1, 15, 0, 0, 0, []),
  (15, .ireturn, 1, 16, 0, 0, 0, [])]
set_option maxRecDepth 100000 in
theorem kc_B_within : k_B_within.all (am_chk am_m9) = true := by decide +kernel
theorem q_B_within : am_ms[M_B_within]? = some am_m9 := rfl
def k_Cutter_forget : List am_I := [
  (0, .aload_n 0, 1, 1, 0, 0, 0, []),
  (1, .iconst (-1), 1, 2, 0, 0, (-1), []),
  (2, .putfield 18, 3, 5, 3, 2, 0, []),
  (5, .aload_n 0, 1, 6, 0, 0, 0, []),
  (6, .iconst (-1), 1, 7, 0, 0, (-1), []),
  (7, .putfield 22, 3, 10, 3, 3, 0, []),
  (10, .aload_n 0, 1, 11, 0, 0, 0, []),
  (11, .iconst (-1), 1, 12, 0, 0, (-1), []),
  (12, .putfield 25, 3, 15, 3, 4, 0, []),
  (15, .return_, 1, 16, 0, 0, 0, [])]
set_option maxRecDepth 100000 in
theorem kc_Cutter_forget : k_Cutter_forget.all (am_chk am_m10) = true := by decide +kernel
theorem q_Cutter_forget : am_ms[M_Cutter_forget]? = some am_m10 := rfl
def k_B_truck : List am_I := [
  (0, .iload_n 1, 1, 1, 0, 0, 0, []),
  (1, .iconst 1, 1, 2, 0, 0, 1, []),
  (2, .bipush 40, 2, 4, 0, 0, 40, []),
  (4, .invokestatic 41, 3, 7, M_B_within, 0, 0, []),
  (7, .ifCond .eq 23, 3, 10, 30, 0, 0, []),
  (10, .iload_n 2, 1, 11, 0, 0, 0, []),
  (11, .iconst 1, 1, 12, 0, 0, 1, []),
  (12, .bipush 12, 2, 14, 0, 0, 12, []),
  (14, .invokestatic 41, 3, 17, M_B_within, 0, 0, []),
  (17, .ifCond .eq 13, 3, 20, 30, 0, 0, []),
  (20, .iload_n 3, 1, 21, 0, 0, 0, []),
  (21, .iconst 1, 1, 22, 0, 0, 1, []),
  (22, .bipush 12, 2, 24, 0, 0, 12, []),
  (24, .invokestatic 41, 3, 27, M_B_within, 0, 0, []),
  (27, .ifCond .ne 6, 3, 30, 33, 0, 0, []),
  (30, .bipush (-2), 2, 32, 0, 0, (-2), []),
  (32, .ireturn, 1, 33, 0, 0, 0, []),
  (33, .aload_n 0, 1, 34, 0, 0, 0, []),
  (34, .getfield 10, 3, 37, 8, 0, 0, []),
  (37, .getfield 85, 3, 40, 5, 3, 0, []),
  (40, .ifCond .eq 6, 3, 43, 46, 0, 0, []),
  (43, .bipush (-4), 2, 45, 0, 0, (-4), []),
  (45, .ireturn, 1, 46, 0, 0, 0, []),
  (46, .aload_n 0, 1, 47, 0, 0, 0, []),
  (47, .getfield 10, 3, 50, 8, 0, 0, []),
  (50, .getfield 88, 3, 53, 5, 0, 0, []),
  (53, .iload_n 1, 1, 54, 0, 0, 0, []),
  (54, .putfield 92, 3, 57, 7, 0, 0, []),
  (57, .aload_n 0, 1, 58, 0, 0, 0, []),
  (58, .getfield 10, 3, 61, 8, 0, 0, []),
  (61, .getfield 88, 3, 64, 5, 0, 0, []),
  (64, .iload_n 2, 1, 65, 0, 0, 0, []),
  (65, .putfield 95, 3, 68, 7, 1, 0, []),
  (68, .aload_n 0, 1, 69, 0, 0, 0, []),
  (69, .getfield 10, 3, 72, 8, 0, 0, []),
  (72, .getfield 88, 3, 75, 5, 0, 0, []),
  (75, .iload_n 3, 1, 76, 0, 0, 0, []),
  (76, .putfield 96, 3, 79, 7, 2, 0, []),
  (79, .iconst 1, 1, 80, 0, 0, 1, []),
  (80, .ireturn, 1, 81, 0, 0, 0, [])]
set_option maxRecDepth 100000 in
theorem kc_B_truck : k_B_truck.all (am_chk am_m11) = true := by decide +kernel
theorem q_B_truck : am_ms[M_B_truck]? = some am_m11 := rfl
def k_B_share : List am_I := [
  (0, .iload_n 1, 1, 1, 0, 0, 0, []),
  (1, .iconst 0, 1, 2, 0, 0, 0, []),
  (2, .bipush 100, 2, 4, 0, 0, 100, []),
  (4, .invokestatic 41, 3, 7, M_B_within, 0, 0, []),
  (7, .ifCond .ne 6, 3, 10, 13, 0, 0, []),
  (10, .bipush (-2), 2, 12, 0, 0, (-2), []),
  (12, .ireturn, 1, 13, 0, 0, 0, []),
  (13, .aload_n 0, 1, 14, 0, 0, 0, []),
  (14, .getfield 10, 3, 17, 8, 0, 0, []),
  (17, .getfield 85, 3, 20, 5, 3, 0, []),
  (20, .ifCond .eq 6, 3, 23, 26, 0, 0, []),
  (23, .bipush (-4), 2, 25, 0, 0, (-4), []),
  (25, .ireturn, 1, 26, 0, 0, 0, []),
  (26, .aload_n 0, 1, 27, 0, 0, 0, []),
  (27, .getfield 10, 3, 30, 8, 0, 0, []),
  (30, .getfield 88, 3, 33, 5, 0, 0, []),
  (33, .getfield 97, 3, 36, 7, 3, 0, []),
  (36, .istore_n 2, 1, 37, 0, 0, 0, []),
  (37, .aload_n 0, 1, 38, 0, 0, 0, []),
  (38, .getfield 10, 3, 41, 8, 0, 0, []),
  (41, .getfield 88, 3, 44, 5, 0, 0, []),
  (44, .iload_n 1, 1, 45, 0, 0, 0, []),
  (45, .putfield 97, 3, 48, 7, 3, 0, []),
  (48, .iload_n 2, 1, 49, 0, 0, 0, []),
  (49, .ireturn, 1, 50, 0, 0, 0, [])]
set_option maxRecDepth 100000 in
theorem kc_B_share : k_B_share.all (am_chk am_m12) = true := by decide +kernel
theorem q_B_share : am_ms[M_B_share]? = some am_m12 := rfl
def k_B_axles : List am_I := [
  (0, .iload_n 1, 1, 1, 0, 0, 0, []),
  (1, .iconst 0, 1, 2, 0, 0, 0, []),
  (2, .bipush 40, 2, 4, 0, 0, 40, []),
  (4, .invokestatic 41, 3, 7, M_B_within, 0, 0, []),
  (7, .ifCond .eq 39, 3, 10, 46, 0, 0, []),
  (10, .iload_n 2, 1, 11, 0, 0, 0, []),
  (11, .iconst 0, 1, 12, 0, 0, 0, []),
  (12, .bipush 40, 2, 14, 0, 0, 40, []),
  (14, .invokestatic 41, 3, 17, M_B_within, 0, 0, []),
  (17, .ifCond .eq 29, 3, 20, 46, 0, 0, []),
  (20, .iload_n 1, 1, 21, 0, 0, 0, []),
  (21, .iload_n 2, 1, 22, 0, 0, 0, []),
  (22, .if_icmp .ge 24, 3, 25, 46, 0, 0, []),
  (25, .iload_n 3, 1, 26, 0, 0, 0, []),
  (26, .iconst 0, 1, 27, 0, 0, 0, []),
  (27, .ldc 100, 2, 29, 0, 0, 100000, []),
  (29, .invokestatic 41, 3, 32, M_B_within, 0, 0, []),
  (32, .ifCond .eq 14, 3, 35, 46, 0, 0, []),
  (35, .iload 4, 2, 37, 0, 0, 0, []),
  (37, .iconst 0, 1, 38, 0, 0, 0, []),
  (38, .ldc 100, 2, 40, 0, 0, 100000, []),
  (40, .invokestatic 41, 3, 43, M_B_within, 0, 0, []),
  (43, .ifCond .ne 6, 3, 46, 49, 0, 0, []),
  (46, .bipush (-2), 2, 48, 0, 0, (-2), []),
  (48, .ireturn, 1, 49, 0, 0, 0, []),
  (49, .aload_n 0, 1, 50, 0, 0, 0, []),
  (50, .getfield 10, 3, 53, 8, 0, 0, []),
  (53, .getfield 88, 3, 56, 5, 0, 0, []),
  (56, .iload_n 1, 1, 57, 0, 0, 0, []),
  (57, .putfield 101, 3, 60, 7, 4, 0, []),
  (60, .aload_n 0, 1, 61, 0, 0, 0, []),
  (61, .getfield 10, 3, 64, 8, 0, 0, []),
  (64, .getfield 88, 3, 67, 5, 0, 0, []),
  (67, .iload_n 2, 1, 68, 0, 0, 0, []),
  (68, .putfield 104, 3, 71, 7, 5, 0, []),
  (71, .aload_n 0, 1, 72, 0, 0, 0, []),
  (72, .getfield 10, 3, 75, 8, 0, 0, []),
  (75, .getfield 88, 3, 78, 5, 0, 0, []),
  (78, .iload_n 3, 1, 79, 0, 0, 0, []),
  (79, .putfield 107, 3, 82, 7, 6, 0, []),
  (82, .aload_n 0, 1, 83, 0, 0, 0, []),
  (83, .getfield 10, 3, 86, 8, 0, 0, []),
  (86, .getfield 88, 3, 89, 5, 0, 0, []),
  (89, .iload 4, 2, 91, 0, 0, 0, []),
  (91, .putfield 110, 3, 94, 7, 7, 0, []),
  (94, .iconst 1, 1, 95, 0, 0, 1, []),
  (95, .ireturn, 1, 96, 0, 0, 0, [])]
set_option maxRecDepth 100000 in
theorem kc_B_axles : k_B_axles.all (am_chk am_m13) = true := by decide +kernel
theorem q_B_axles : am_ms[M_B_axles]? = some am_m13 := rfl
def k_B_side : List am_I := [
  (0, .iload_n 1, 1, 1, 0, 0, 0, []),
  (1, .iconst 0, 1, 2, 0, 0, 0, []),
  (2, .bipush 100, 2, 4, 0, 0, 100, []),
  (4, .invokestatic 41, 3, 7, M_B_within, 0, 0, []),
  (7, .ifCond .ne 6, 3, 10, 13, 0, 0, []),
  (10, .bipush (-2), 2, 12, 0, 0, (-2), []),
  (12, .ireturn, 1, 13, 0, 0, 0, []),
  (13, .aload_n 0, 1, 14, 0, 0, 0, []),
  (14, .getfield 10, 3, 17, 8, 0, 0, []),
  (17, .getfield 88, 3, 20, 5, 0, 0, []),
  (20, .getfield 113, 3, 23, 7, 8, 0, []),
  (23, .istore_n 2, 1, 24, 0, 0, 0, []),
  (24, .aload_n 0, 1, 25, 0, 0, 0, []),
  (25, .getfield 10, 3, 28, 8, 0, 0, []),
  (28, .getfield 88, 3, 31, 5, 0, 0, []),
  (31, .iload_n 1, 1, 32, 0, 0, 0, []),
  (32, .putfield 113, 3, 35, 7, 8, 0, []),
  (35, .iload_n 2, 1, 36, 0, 0, 0, []),
  (36, .ireturn, 1, 37, 0, 0, 0, [])]
set_option maxRecDepth 100000 in
theorem kc_B_side : k_B_side.all (am_chk am_m14) = true := by decide +kernel
theorem q_B_side : am_ms[M_B_side]? = some am_m14 := rfl
def k_B_wrong : List am_I := [
  (0, .aload_n 0, 1, 1, 0, 0, 0, []),
  (1, .iload_n 1, 1, 2, 0, 0, 0, []),
  (2, .iload_n 2, 1, 3, 0, 0, 0, []),
  (3, .iload_n 3, 1, 4, 0, 0, 0, []),
  (4, .iload 4, 2, 6, 0, 0, 0, []),
  (6, .iload 5, 2, 8, 0, 0, 0, []),
  (8, .invokevirtual 116, 3, 11, M_B_refusal, 0, 0, []),
  (11, .istore 6, 2, 13, 0, 0, 0, []),
  (13, .iload 6, 2, 15, 0, 0, 0, []),
  (15, .ifCond .eq 6, 3, 18, 21, 0, 0, []),
  (18, .iload 6, 2, 20, 0, 0, 0, []),
  (20, .ireturn, 1, 21, 0, 0, 0, []),
  (21, .aload_n 0, 1, 22, 0, 0, 0, []),
  (22, .getfield 10, 3, 25, 8, 0, 0, []),
  (25, .iload_n 1, 1, 26, 0, 0, 0, []),
  (26, .iload_n 2, 1, 27, 0, 0, 0, []),
  (27, .iload_n 3, 1, 28, 0, 0, 0, []),
  (28, .iload 4, 2, 30, 0, 0, 0, []),
  (30, .iload 5, 2, 32, 0, 0, 0, []),
  (32, .invokevirtual 120, 3, 35, M_Hold_stand, 0, 0, []),
  (35, .aload_n 0, 1, 36, 0, 0, 0, []),
  (36, .getfield 10, 3, 39, 8, 0, 0, []),
  (39, .iload_n 1, 1, 40, 0, 0, 0, []),
  (40, .invokevirtual 124, 3, 43, M_Hold_faults, 0, 0, []),
  (43, .ireturn, 1, 44, 0, 0, 0, [])]
set_option maxRecDepth 100000 in
theorem kc_B_wrong : k_B_wrong.all (am_chk am_m15) = true := by decide +kernel
theorem q_B_wrong : am_ms[M_B_wrong]? = some am_m15 := rfl
def k_B_refusal : List am_I := [
  (0, .aload_n 0, 1, 1, 0, 0, 0, []),
  (1, .getfield 10, 3, 4, 8, 0, 0, []),
  (4, .iload_n 1, 1, 5, 0, 0, 0, []),
  (5, .invokevirtual 132, 3, 8, M_Hold_knows, 0, 0, []),
  (8, .ifCond .eq 34, 3, 11, 42, 0, 0, []),
  (11, .iload_n 2, 1, 12, 0, 0, 0, []),
  (12, .iconst 0, 1, 13, 0, 0, 0, []),
  (13, .bipush 40, 2, 15, 0, 0, 40, []),
  (15, .invokestatic 41, 3, 18, M_B_within, 0, 0, []),
  (18, .ifCond .eq 24, 3, 21, 42, 0, 0, []),
  (21, .iload_n 3, 1, 22, 0, 0, 0, []),
  (22, .iconst 0, 1, 23, 0, 0, 0, []),
  (23, .bipush 40, 2, 25, 0, 0, 40, []),
  (25, .invokestatic 41, 3, 28, M_B_within, 0, 0, []),
  (28, .ifCond .eq 14, 3, 31, 42, 0, 0, []),
  (31, .iload 4, 2, 33, 0, 0, 0, []),
  (33, .iconst 0, 1, 34, 0, 0, 0, []),
  (34, .bipush 40, 2, 36, 0, 0, 40, []),
  (36, .invokestatic 41, 3, 39, M_B_within, 0, 0, []),
  (39, .ifCond .ne 6, 3, 42, 45, 0, 0, []),
  (42, .bipush (-2), 2, 44, 0, 0, (-2), []),
  (44, .ireturn, 1, 45, 0, 0, 0, []),
  (45, .iload 5, 2, 47, 0, 0, 0, []),
  (47, .ifCond .eq 21, 3, 50, 68, 0, 0, []),
  (50, .aload_n 0, 1, 51, 0, 0, 0, []),
  (51, .getfield 10, 3, 54, 8, 0, 0, []),
  (54, .getfield 49, 3, 57, 5, 1, 0, []),
  (57, .iload_n 1, 1, 58, 0, 0, 0, []),
  (58, .aaload, 1, 59, 0, 0, 0, []),
  (59, .getfield 73, 3, 62, 2, 6, 0, []),
  (62, .ifCond .ne 6, 3, 65, 68, 0, 0, []),
  (65, .bipush (-2), 2, 67, 0, 0, (-2), []),
  (67, .ireturn, 1, 68, 0, 0, 0, []),
  (68, .aload_n 0, 1, 69, 0, 0, 0, []),
  (69, .getfield 10, 3, 72, 8, 0, 0, []),
  (72, .iload_n 1, 1, 73, 0, 0, 0, []),
  (73, .invokevirtual 136, 3, 76, M_Hold_has, 0, 0, []),
  (76, .ifCond .eq 8, 3, 79, 84, 0, 0, []),
  (79, .bipush (-4), 2, 81, 0, 0, (-4), []),
  (81, .goto 4, 3, 84, 85, 0, 0, []),
  (84, .iconst 0, 1, 85, 0, 0, 0, []),
  (85, .ireturn, 1, 86, 0, 0, 0, [])]
set_option maxRecDepth 100000 in
theorem kc_B_refusal : k_B_refusal.all (am_chk am_m16) = true := by decide +kernel
theorem q_B_refusal : am_ms[M_B_refusal]? = some am_m16 := rfl
def k_B_place : List am_I := [
  (0, .aload_n 0, 1, 1, 0, 0, 0, []),
  (1, .iload_n 1, 1, 2, 0, 0, 0, []),
  (2, .iload_n 2, 1, 3, 0, 0, 0, []),
  (3, .iload_n 3, 1, 4, 0, 0, 0, []),
  (4, .iload 4, 2, 6, 0, 0, 0, []),
  (6, .iload 5, 2, 8, 0, 0, 0, []),
  (8, .invokevirtual 116, 3, 11, M_B_refusal, 0, 0, []),
  (11, .istore 6, 2, 13, 0, 0, 0, []),
  (13, .iload 6, 2, 15, 0, 0, 0, []),
  (15, .ifCond .eq 6, 3, 18, 21, 0, 0, []),
  (18, .iload 6, 2, 20, 0, 0, 0, []),
  (20, .ireturn, 1, 21, 0, 0, 0, []),
  (21, .aload_n 0, 1, 22, 0, 0, 0, []),
  (22, .getfield 10, 3, 25, 8, 0, 0, []),
  (25, .iload_n 1, 1, 26, 0, 0, 0, []),
  (26, .iload_n 2, 1, 27, 0, 0, 0, []),
  (27, .iload_n 3, 1, 28, 0, 0, 0, []),
  (28, .iload 4, 2, 30, 0, 0, 0, []),
  (30, .iload 5, 2, 32, 0, 0, 0, []),
  (32, .invokevirtual 120, 3, 35, M_Hold_stand, 0, 0, []),
  (35, .aload_n 0, 1, 36, 0, 0, 0, []),
  (36, .getfield 10, 3, 39, 8, 0, 0, []),
  (39, .iload_n 1, 1, 40, 0, 0, 0, []),
  (40, .invokevirtual 124, 3, 43, M_Hold_faults, 0, 0, []),
  (43, .ifCond .eq 5, 3, 46, 48, 0, 0, []),
  (46, .iconst 0, 1, 47, 0, 0, 0, []),
  (47, .ireturn, 1, 48, 0, 0, 0, []),
  (48, .aload_n 0, 1, 49, 0, 0, 0, []),
  (49, .getfield 10, 3, 52, 8, 0, 0, []),
  (52, .iload_n 1, 1, 53, 0, 0, 0, []),
  (53, .invokevirtual 128, 3, 56, M_Hold_putIn, 0, 0, []),
  (56, .iconst 1, 1, 57, 0, 0, 1, []),
  (57, .ireturn, 1, 58, 0, 0, 0, [])]
set_option maxRecDepth 100000 in
theorem kc_B_place : k_B_place.all (am_chk am_m32) = true := by decide +kernel
theorem q_B_place : am_ms[M_B_place]? = some am_m32 := rfl
def k_B_set : List am_I := [
  (0, .aload_n 0, 1, 1, 0, 0, 0, []),
  (1, .getfield 10, 3, 4, 8, 0, 0, []),
  (4, .iload_n 1, 1, 5, 0, 0, 0, []),
  (5, .invokevirtual 132, 3, 8, M_Hold_knows, 0, 0, []),
  (8, .ifCond .ne 6, 3, 11, 14, 0, 0, []),
  (11, .bipush (-2), 2, 13, 0, 0, (-2), []),
  (13, .ireturn, 1, 14, 0, 0, 0, []),
  (14, .aload_n 0, 1, 15, 0, 0, 0, []),
  (15, .getfield 10, 3, 18, 8, 0, 0, []),
  (18, .iload_n 1, 1, 19, 0, 0, 0, []),
  (19, .invokevirtual 136, 3, 22, M_Hold_has, 0, 0, []),
  (22, .ifCond .eq 6, 3, 25, 28, 0, 0, []),
  (25, .bipush (-4), 2, 27, 0, 0, (-4), []),
  (27, .ireturn, 1, 28, 0, 0, 0, []),
  (28, .aload_n 0, 1, 29, 0, 0, 0, []),
  (29, .getfield 10, 3, 32, 8, 0, 0, []),
  (32, .iload_n 1, 1, 33, 0, 0, 0, []),
  (33, .invokevirtual 139, 3, 36, M_Hold_setAtCorner, 0, 0, []),
  (36, .ifCond .eq 7, 3, 39, 43, 0, 0, []),
  (39, .iconst 1, 1, 40, 0, 0, 1, []),
  (40, .goto 4, 3, 43, 44, 0, 0, []),
  (43, .iconst (-1), 1, 44, 0, 0, (-1), []),
  (44, .ireturn, 1, 45, 0, 0, 0, [])]
set_option maxRecDepth 100000 in
theorem kc_B_set : k_B_set.all (am_chk am_m34) = true := by decide +kernel
theorem q_B_set : am_ms[M_B_set]? = some am_m34 := rfl
def k_B_take : List am_I := [
  (0, .aload_n 0, 1, 1, 0, 0, 0, []),
  (1, .getfield 10, 3, 4, 8, 0, 0, []),
  (4, .iload_n 1, 1, 5, 0, 0, 0, []),
  (5, .invokevirtual 132, 3, 8, M_Hold_knows, 0, 0, []),
  (8, .ifCond .ne 6, 3, 11, 14, 0, 0, []),
  (11, .bipush (-2), 2, 13, 0, 0, (-2), []),
  (13, .ireturn, 1, 14, 0, 0, 0, []),
  (14, .aload_n 0, 1, 15, 0, 0, 0, []),
  (15, .getfield 10, 3, 18, 8, 0, 0, []),
  (18, .iload_n 1, 1, 19, 0, 0, 0, []),
  (19, .invokevirtual 136, 3, 22, M_Hold_has, 0, 0, []),
  (22, .ifCond .ne 6, 3, 25, 28, 0, 0, []),
  (25, .bipush (-4), 2, 27, 0, 0, (-4), []),
  (27, .ireturn, 1, 28, 0, 0, 0, []),
  (28, .aload_n 0, 1, 29, 0, 0, 0, []),
  (29, .getfield 10, 3, 32, 8, 0, 0, []),
  (32, .iload_n 1, 1, 33, 0, 0, 0, []),
  (33, .invokevirtual 142, 3, 36, M_Hold_carries, 0, 0, []),
  (36, .ifCond .eq 5, 3, 39, 41, 0, 0, []),
  (39, .iconst 0, 1, 40, 0, 0, 0, []),
  (40, .ireturn, 1, 41, 0, 0, 0, []),
  (41, .aload_n 0, 1, 42, 0, 0, 0, []),
  (42, .getfield 10, 3, 45, 8, 0, 0, []),
  (45, .iload_n 1, 1, 46, 0, 0, 0, []),
  (46, .invokevirtual 145, 3, 49, M_Hold_putOut, 0, 0, []),
  (49, .iconst 1, 1, 50, 0, 0, 1, []),
  (50, .ireturn, 1, 51, 0, 0, 0, [])]
set_option maxRecDepth 100000 in
theorem kc_B_take : k_B_take.all (am_chk am_m41) = true := by decide +kernel
theorem q_B_take : am_ms[M_B_take]? = some am_m41 := rfl
def k_B_clear : List am_I := [
  (0, .aload_n 0, 1, 1, 0, 0, 0, []),
  (1, .getfield 10, 3, 4, 8, 0, 0, []),
  (4, .getfield 85, 3, 7, 5, 3, 0, []),
  (7, .invokestatic 148, 3, 10, M_Integer_bitCount, 0, 0, []),
  (10, .istore_n 1, 1, 11, 0, 0, 0, []),
  (11, .aload_n 0, 1, 12, 0, 0, 0, []),
  (12, .getfield 10, 3, 15, 8, 0, 0, []),
  (15, .iconst 0, 1, 16, 0, 0, 0, []),
  (16, .putfield 85, 3, 19, 5, 3, 0, []),
  (19, .iload_n 1, 1, 20, 0, 0, 0, []),
  (20, .ireturn, 1, 21, 0, 0, 0, [])]
set_option maxRecDepth 100000 in
theorem kc_B_clear : k_B_clear.all (am_chk am_m44) = true := by decide +kernel
theorem q_B_clear : am_ms[M_B_clear]? = some am_m44 := rfl
def k_B_best : List am_I := [
  (0, .aload_n 0, 1, 1, 0, 0, 0, []),
  (1, .iload_n 1, 1, 2, 0, 0, 0, []),
  (2, .invokevirtual 153, 3, 5, M_B_isSet, 0, 0, []),
  (5, .ifCond .ne 6, 3, 8, 11, 0, 0, []),
  (8, .bipush (-2), 2, 10, 0, 0, (-2), []),
  (10, .ireturn, 1, 11, 0, 0, 0, []),
  (11, .iload_n 1, 1, 12, 0, 0, 0, []),
  (12, .aload_n 0, 1, 13, 0, 0, 0, []),
  (13, .getfield 10, 3, 16, 8, 0, 0, []),
  (16, .getfield 85, 3, 19, 5, 3, 0, []),
  (19, .iand, 1, 20, 0, 0, 0, []),
  (20, .ifCond .eq 6, 3, 23, 26, 0, 0, []),
  (23, .bipush (-4), 2, 25, 0, 0, (-4), []),
  (25, .ireturn, 1, 26, 0, 0, 0, []),
  (26, .iload_n 1, 1, 27, 0, 0, 0, []),
  (27, .invokestatic 148, 3, 30, M_Integer_bitCount, 0, 0, []),
  (30, .iconst 5, 1, 31, 0, 0, 5, []),
  (31, .if_icmp .le 6, 3, 34, 37, 0, 0, []),
  (34, .bipush (-3), 2, 36, 0, 0, (-3), []),
  (36, .ireturn, 1, 37, 0, 0, 0, []),
  (37, .aload_n 0, 1, 38, 0, 0, 0, []),
  (38, .getfield 19, 3, 41, 8, 1, 0, []),
  (41, .invokevirtual 156, 3, 44, M_Orders_begin, 0, 0, []),
  (44, .aload_n 0, 1, 45, 0, 0, 0, []),
  (45, .iload_n 1, 1, 46, 0, 0, 0, []),
  (46, .iconst 0, 1, 47, 0, 0, 0, []),
  (47, .iconst 0, 1, 48, 0, 0, 0, []),
  (48, .invokevirtual 159, 3, 51, M_B_tryOrders, 0, 0, []),
  (51, .aload_n 0, 1, 52, 0, 0, 0, []),
  (52, .invokevirtual 163, 3, 55, M_B_setBest, 0, 0, []),
  (55, .ireturn, 1, 56, 0, 0, 0, [])]
set_option maxRecDepth 100000 in
theorem kc_B_best : k_B_best.all (am_chk am_m46) = true := by decide +kernel
theorem q_B_best : am_ms[M_B_best]? = some am_m46 := rfl
def k_B_isSet : List am_I := [
  (0, .iload_n 1, 1, 1, 0, 0, 0, []),
  (1, .ifCond .le 19, 3, 4, 20, 0, 0, []),
  (4, .iload_n 1, 1, 5, 0, 0, 0, []),
  (5, .aload_n 0, 1, 6, 0, 0, 0, []),
  (6, .getfield 10, 3, 9, 8, 0, 0, []),
  (9, .getfield 45, 3, 12, 5, 2, 0, []),
  (12, .ishr, 1, 13, 0, 0, 0, []),
  (13, .ifCond .ne 7, 3, 16, 20, 0, 0, []),
  (16, .iconst 1, 1, 17, 0, 0, 1, []),
  (17, .goto 4, 3, 20, 21, 0, 0, []),
  (20, .iconst 0, 1, 21, 0, 0, 0, []),
  (21, .ireturn, 1, 22, 0, 0, 0, [])]
set_option maxRecDepth 100000 in
theorem kc_B_isSet : k_B_isSet.all (am_chk am_m47) = true := by decide +kernel
theorem q_B_isSet : am_ms[M_B_isSet]? = some am_m47 := rfl
def k_B_tryOrders : List am_I := [
  (0, .aload_n 0, 1, 1, 0, 0, 0, []),
  (1, .getfield 10, 3, 4, 8, 0, 0, []),
  (4, .invokevirtual 248, 3, 7, M_Hold_reach, 0, 0, []),
  (7, .istore 4, 2, 9, 0, 0, 0, []),
  (9, .aload_n 0, 1, 10, 0, 0, 0, []),
  (10, .getfield 19, 3, 13, 8, 1, 0, []),
  (13, .iload_n 3, 1, 14, 0, 0, 0, []),
  (14, .iload_n 1, 1, 15, 0, 0, 0, []),
  (15, .invokestatic 148, 3, 18, M_Integer_bitCount, 0, 0, []),
  (18, .iadd, 1, 19, 0, 0, 0, []),
  (19, .iload 4, 2, 21, 0, 0, 0, []),
  (21, .invokevirtual 254, 3, 24, M_Orders_cannotWin, 0, 0, []),
  (24, .ifCond .eq 4, 3, 27, 28, 0, 0, []),
  (27, .return_, 1, 28, 0, 0, 0, []),
  (28, .iload_n 1, 1, 29, 0, 0, 0, []),
  (29, .ifCond .eq 8, 3, 32, 37, 0, 0, []),
  (32, .iload_n 2, 1, 33, 0, 0, 0, []),
  (33, .iconst 5, 1, 34, 0, 0, 5, []),
  (34, .if_icmp .lt 15, 3, 37, 49, 0, 0, []),
  (37, .aload_n 0, 1, 38, 0, 0, 0, []),
  (38, .getfield 19, 3, 41, 8, 1, 0, []),
  (41, .iload_n 2, 1, 42, 0, 0, 0, []),
  (42, .iload_n 3, 1, 43, 0, 0, 0, []),
  (43, .iload 4, 2, 45, 0, 0, 0, []),
  (45, .invokevirtual 258, 3, 48, M_Orders_keep, 0, 0, []),
  (48, .return_, 1, 49, 0, 0, 0, []),
  (49, .iconst 0, 1, 50, 0, 0, 0, []),
  (50, .istore 5, 2, 52, 0, 0, 0, []),
  (52, .iload 5, 2, 54, 0, 0, 0, []),
  (54, .aload_n 0, 1, 55, 0, 0, 0, []),
  (55, .getfield 10, 3, 58, 8, 0, 0, []),
  (58, .getfield 45, 3, 61, 5, 2, 0, []),
  (61, .if_icmp .ge 81, 3, 64, 142, 0, 0, []),
  (64, .iload_n 1, 1, 65, 0, 0, 0, []),
  (65, .iload 5, 2, 67, 0, 0, 0, []),
  (67, .ishr, 1, 68, 0, 0, 0, []),
  (68, .iconst 1, 1, 69, 0, 0, 1, []),
  (69, .iand, 1, 70, 0, 0, 0, []),
  (70, .ifCond .eq 66, 3, 73, 136, 0, 0, []),
  (73, .aload_n 0, 1, 74, 0, 0, 0, []),
  (74, .getfield 19, 3, 77, 8, 1, 0, []),
  (77, .getfield 261, 3, 80, 6, 0, 0, []),
  (80, .iload_n 2, 1, 81, 0, 0, 0, []),
  (81, .iload 5, 2, 83, 0, 0, 0, []),
  (83, .iastore, 1, 84, 0, 0, 0, []),
  (84, .aload_n 0, 1, 85, 0, 0, 0, []),
  (85, .getfield 10, 3, 88, 8, 0, 0, []),
  (88, .iload 5, 2, 90, 0, 0, 0, []),
  (90, .invokevirtual 139, 3, 93, M_Hold_setAtCorner, 0, 0, []),
  (93, .istore 6, 2, 95, 0, 0, 0, []),
  (95, .aload_n 0, 1, 96, 0, 0, 0, []),
  (96, .iload_n 1, 1, 97, 0, 0, 0, []),
  (97, .iconst 1, 1, 98, 0, 0, 1, []),
  (98, .iload 5, 2, 100, 0, 0, 0, []),
  (100, .ishl, 1, 101, 0, 0, 0, []),
  (101, .iconst (-1), 1, 102, 0, 0, (-1), []),
  (102, .ixor, 1, 103, 0, 0, 0, []),
  (103, .iand, 1, 104, 0, 0, 0, []),
  (104, .iload_n 2, 1, 105, 0, 0, 0, []),
  (105, .iconst 1, 1, 106, 0, 0, 1, []),
  (106, .iadd, 1, 107, 0, 0, 0, []),
  (107, .iload 6, 2, 109, 0, 0, 0, []),
  (109, .ifCond .eq 9, 3, 112, 118, 0, 0, []),
  (112, .iload_n 3, 1, 113, 0, 0, 0, []),
  (113, .iconst 1, 1, 114, 0, 0, 1, []),
  (114, .iadd, 1, 115, 0, 0, 0, []),
  (115, .goto 4, 3, 118, 119, 0, 0, []),
  (118, .iload_n 3, 1, 119, 0, 0, 0, []),
  (119, .invokevirtual 159, 3, 122, M_B_tryOrders, 0, 0, []),
  (122, .iload 6, 2, 124, 0, 0, 0, []),
  (124, .ifCond .eq 12, 3, 127, 136, 0, 0, []),
  (127, .aload_n 0, 1, 128, 0, 0, 0, []),
  (128, .getfield 10, 3, 131, 8, 0, 0, []),
  (131, .iload 5, 2, 133, 0, 0, 0, []),
  (133, .invokevirtual 145, 3, 136, M_Hold_putOut, 0, 0, []),
  (136, .iinc 5 1, 3, 139, 0, 0, 1, []),
  (139, .goto (-87), 3, 142, 52, 0, 0, []),
  (142, .return_, 1, 143, 0, 0, 0, [])]
set_option maxRecDepth 100000 in
theorem kc_B_tryOrders : k_B_tryOrders.all (am_chk am_m49) = true := by decide +kernel
theorem q_B_tryOrders : am_ms[M_B_tryOrders]? = some am_m49 := rfl
def k_B_setBest : List am_I := [
  (0, .iconst 0, 1, 1, 0, 0, 0, []),
  (1, .istore_n 1, 1, 2, 0, 0, 0, []),
  (2, .iconst 0, 1, 3, 0, 0, 0, []),
  (3, .istore_n 2, 1, 4, 0, 0, 0, []),
  (4, .iload_n 2, 1, 5, 0, 0, 0, []),
  (5, .aload_n 0, 1, 6, 0, 0, 0, []),
  (6, .getfield 19, 3, 9, 8, 1, 0, []),
  (9, .getfield 265, 3, 12, 6, 2, 0, []),
  (12, .if_icmp .ge 31, 3, 15, 43, 0, 0, []),
  (15, .aload_n 0, 1, 16, 0, 0, 0, []),
  (16, .getfield 10, 3, 19, 8, 0, 0, []),
  (19, .aload_n 0, 1, 20, 0, 0, 0, []),
  (20, .getfield 19, 3, 23, 8, 1, 0, []),
  (23, .getfield 268, 3, 26, 6, 1, 0, []),
  (26, .iload_n 2, 1, 27, 0, 0, 0, []),
  (27, .iaload, 1, 28, 0, 0, 0, []),
  (28, .invokevirtual 139, 3, 31, M_Hold_setAtCorner, 0, 0, []),
  (31, .ifCond .eq 6, 3, 34, 37, 0, 0, []),
  (34, .iinc 1 1, 3, 37, 0, 0, 1, []),
  (37, .iinc 2 1, 3, 40, 0, 0, 1, []),
  (40, .goto (-36), 3, 43, 4, 0, 0, []),
  (43, .iload_n 1, 1, 44, 0, 0, 0, []),
  (44, .ireturn, 1, 45, 0, 0, 0, [])]
set_option maxRecDepth 100000 in
theorem kc_B_setBest : k_B_setBest.all (am_chk am_m53) = true := by decide +kernel
theorem q_B_setBest : am_ms[M_B_setBest]? = some am_m53 := rfl
def k_B_about : List am_I := [
  (0, .aload_n 0, 1, 1, 0, 0, 0, []),
  (1, .getfield 10, 3, 4, 8, 0, 0, []),
  (4, .iload_n 1, 1, 5, 0, 0, 0, []),
  (5, .invokevirtual 132, 3, 8, M_Hold_knows, 0, 0, []),
  (8, .ifCond .ne 6, 3, 11, 14, 0, 0, []),
  (11, .bipush (-9), 2, 13, 0, 0, (-9), []),
  (13, .ireturn, 1, 14, 0, 0, 0, []),
  (14, .aload_n 0, 1, 15, 0, 0, 0, []),
  (15, .getfield 10, 3, 18, 8, 0, 0, []),
  (18, .getfield 49, 3, 21, 5, 1, 0, []),
  (21, .iload_n 1, 1, 22, 0, 0, 0, []),
  (22, .aaload, 1, 23, 0, 0, 0, []),
  (23, .astore_n 3, 1, 24, 0, 0, 0, []),
  (24, .aload_n 0, 1, 25, 0, 0, 0, []),
  (25, .getfield 10, 3, 28, 8, 0, 0, []),
  (28, .iload_n 1, 1, 29, 0, 0, 0, []),
  (29, .invokevirtual 136, 3, 32, M_Hold_has, 0, 0, []),
  (32, .istore 4, 2, 34, 0, 0, 0, []),
  (34, .iload_n 2, 1, 35, 0, 0, 0, []),
  (35, .tableswitch 228 0 14 #[73, 78, 83, 88, 93, 98, 103, 116, 121, 132, 146, 160, 174, 192, 210], 73, 108, 263, 0, 0, [108, 113, 118, 123, 128, 133, 138, 151, 156, 167, 181, 195, 209, 227, 245]),
  (108, .aload_n 3, 1, 109, 0, 0, 0, []),
  (109, .getfield 53, 3, 112, 2, 0, 0, []),
  (112, .ireturn, 1, 113, 0, 0, 0, []),
  (113, .aload_n 3, 1, 114, 0, 0, 0, []),
  (114, .getfield 58, 3, 117, 2, 1, 0, []),
  (117, .ireturn, 1, 118, 0, 0, 0, []),
  (118, .aload_n 3, 1, 119, 0, 0, 0, []),
  (119, .getfield 61, 3, 122, 2, 2, 0, []),
  (122, .ireturn, 1, 123, 0, 0, 0, []),
  (123, .aload_n 3, 1, 124, 0, 0, 0, []),
  (124, .getfield 64, 3, 127, 2, 3, 0, []),
  (127, .ireturn, 1, 128, 0, 0, 0, []),
  (128, .aload_n 3, 1, 129, 0, 0, 0, []),
  (129, .getfield 67, 3, 132, 2, 4, 0, []),
  (132, .ireturn, 1, 133, 0, 0, 0, []),
  (133, .aload_n 3, 1, 134, 0, 0, 0, []),
  (134, .getfield 70, 3, 137, 2, 5, 0, []),
  (137, .ireturn, 1, 138, 0, 0, 0, []),
  (138, .aload_n 3, 1, 139, 0, 0, 0, []),
  (139, .getfield 73, 3, 142, 2, 6, 0, []),
  (142, .ifCond .eq 7, 3, 145, 149, 0, 0, []),
  (145, .iconst 1, 1, 146, 0, 0, 1, []),
  (146, .goto 4, 3, 149, 150, 0, 0, []),
  (149, .iconst 0, 1, 150, 0, 0, 0, []),
  (150, .ireturn, 1, 151, 0, 0, 0, []),
  (151, .aload_n 3, 1, 152, 0, 0, 0, []),
  (152, .getfield 77, 3, 155, 2, 7, 0, []),
  (155, .ireturn, 1, 156, 0, 0, 0, []),
  (156, .iload 4, 2, 158, 0, 0, 0, []),
  (158, .ifCond .eq 7, 3, 161, 165, 0, 0, []),
  (161, .iconst 1, 1, 162, 0, 0, 1, []),
  (162, .goto 4, 3, 165, 166, 0, 0, []),
  (165, .iconst 0, 1, 166, 0, 0, 0, []),
  (166, .ireturn, 1, 167, 0, 0, 0, []),
  (167, .iload 4, 2, 169, 0, 0, 0, []),
  (169, .ifCond .eq 10, 3, 172, 179, 0, 0, []),
  (172, .aload_n 3, 1, 173, 0, 0, 0, []),
  (173, .getfield 167, 3, 176, 2, 8, 0, []),
  (176, .goto 4, 3, 179, 180, 0, 0, []),
  (179, .iconst (-1), 1, 180, 0, 0, (-1), []),
  (180, .ireturn, 1, 181, 0, 0, 0, []),
  (181, .iload 4, 2, 183, 0, 0, 0, []),
  (183, .ifCond .eq 10, 3, 186, 193, 0, 0, []),
  (186, .aload_n 3, 1, 187, 0, 0, 0, []),
  (187, .getfield 170, 3, 190, 2, 9, 0, []),
  (190, .goto 4, 3, 193, 194, 0, 0, []),
  (193, .iconst (-1), 1, 194, 0, 0, (-1), []),
  (194, .ireturn, 1, 195, 0, 0, 0, []),
  (195, .iload 4, 2, 197, 0, 0, 0, []),
  (197, .ifCond .eq 10, 3, 200, 207, 0, 0, []),
  (200, .aload_n 3, 1, 201, 0, 0, 0, []),
  (201, .getfield 173, 3, 204, 2, 10, 0, []),
  (204, .goto 4, 3, 207, 208, 0, 0, []),
  (207, .iconst (-1), 1, 208, 0, 0, (-1), []),
  (208, .ireturn, 1, 209, 0, 0, 0, []),
  (209, .iload 4, 2, 211, 0, 0, 0, []),
  (211, .ifCond .eq 14, 3, 214, 225, 0, 0, []),
  (214, .aload_n 3, 1, 215, 0, 0, 0, []),
  (215, .getfield 176, 3, 218, 2, 14, 0, []),
  (218, .ifCond .eq 7, 3, 221, 225, 0, 0, []),
  (221, .iconst 1, 1, 222, 0, 0, 1, []),
  (222, .goto 4, 3, 225, 226, 0, 0, []),
  (225, .iconst 0, 1, 226, 0, 0, 0, []),
  (226, .ireturn, 1, 227, 0, 0, 0, []),
  (227, .iload 4, 2, 229, 0, 0, 0, []),
  (229, .ifCond .eq 14, 3, 232, 243, 0, 0, []),
  (232, .aload_n 0, 1, 233, 0, 0, 0, []),
  (233, .getfield 10, 3, 236, 8, 0, 0, []),
  (236, .iload_n 1, 1, 237, 0, 0, 0, []),
  (237, .invokevirtual 179, 3, 240, M_Hold_loadOf, 0, 0, []),
  (240, .goto 4, 3, 243, 244, 0, 0, []),
  (243, .iconst 0, 1, 244, 0, 0, 0, []),
  (244, .ireturn, 1, 245, 0, 0, 0, []),
  (245, .iload 4, 2, 247, 0, 0, 0, []),
  (247, .ifCond .eq 14, 3, 250, 261, 0, 0, []),
  (250, .aload_n 0, 1, 251, 0, 0, 0, []),
  (251, .getfield 10, 3, 254, 8, 0, 0, []),
  (254, .iload_n 1, 1, 255, 0, 0, 0, []),
  (255, .invokevirtual 182, 3, 258, M_Hold_supportsOf, 0, 0, []),
  (258, .goto 4, 3, 261, 262, 0, 0, []),
  (261, .iconst 0, 1, 262, 0, 0, 0, []),
  (262, .ireturn, 1, 263, 0, 0, 0, []),
  (263, .bipush (-9), 2, 265, 0, 0, (-9), []),
  (265, .ireturn, 1, 266, 0, 0, 0, [])]
set_option maxRecDepth 100000 in
theorem kc_B_about : k_B_about.all (am_chk am_m54) = true := by decide +kernel
theorem q_B_about : am_ms[M_B_about]? = some am_m54 := rfl
def k_B_at : List am_I := [
  (0, .iconst 0, 1, 1, 0, 0, 0, []),
  (1, .istore 4, 2, 3, 0, 0, 0, []),
  (3, .iload 4, 2, 5, 0, 0, 0, []),
  (5, .aload_n 0, 1, 6, 0, 0, 0, []),
  (6, .getfield 10, 3, 9, 8, 0, 0, []),
  (9, .getfield 45, 3, 12, 5, 2, 0, []),
  (12, .if_icmp .ge 43, 3, 15, 55, 0, 0, []),
  (15, .aload_n 0, 1, 16, 0, 0, 0, []),
  (16, .getfield 10, 3, 19, 8, 0, 0, []),
  (19, .iload 4, 2, 21, 0, 0, 0, []),
  (21, .invokevirtual 136, 3, 24, M_Hold_has, 0, 0, []),
  (24, .ifCond .eq 25, 3, 27, 49, 0, 0, []),
  (27, .aload_n 0, 1, 28, 0, 0, 0, []),
  (28, .getfield 10, 3, 31, 8, 0, 0, []),
  (31, .getfield 49, 3, 34, 5, 1, 0, []),
  (34, .iload 4, 2, 36, 0, 0, 0, []),
  (36, .aaload, 1, 37, 0, 0, 0, []),
  (37, .iload_n 1, 1, 38, 0, 0, 0, []),
  (38, .iload_n 2, 1, 39, 0, 0, 0, []),
  (39, .iload_n 3, 1, 40, 0, 0, 0, []),
  (40, .invokevirtual 185, 3, 43, M_Box_fills, 0, 0, []),
  (43, .ifCond .eq 6, 3, 46, 49, 0, 0, []),
  (46, .iload 4, 2, 48, 0, 0, 0, []),
  (48, .ireturn, 1, 49, 0, 0, 0, []),
  (49, .iinc 4 1, 3, 52, 0, 0, 1, []),
  (52, .goto (-49), 3, 55, 3, 0, 0, []),
  (55, .iconst (-1), 1, 56, 0, 0, (-1), []),
  (56, .ireturn, 1, 57, 0, 0, 0, [])]
set_option maxRecDepth 100000 in
theorem kc_B_at : k_B_at.all (am_chk am_m57) = true := by decide +kernel
theorem q_B_at : am_ms[M_B_at]? = some am_m57 := rfl
def k_B_axle : List am_I := [
  (0, .iload_n 1, 1, 1, 0, 0, 0, []),
  (1, .iconst 0, 1, 2, 0, 0, 0, []),
  (2, .iconst 1, 1, 3, 0, 0, 1, []),
  (3, .invokestatic 41, 3, 6, M_B_within, 0, 0, []),
  (6, .ifCond .eq 22, 3, 9, 28, 0, 0, []),
  (9, .iload_n 2, 1, 10, 0, 0, 0, []),
  (10, .iconst 0, 1, 11, 0, 0, 0, []),
  (11, .bipush 6, 2, 13, 0, 0, 6, []),
  (13, .invokestatic 41, 3, 16, M_B_within, 0, 0, []),
  (16, .ifCond .eq 12, 3, 19, 28, 0, 0, []),
  (19, .iload_n 3, 1, 20, 0, 0, 0, []),
  (20, .iconst 0, 1, 21, 0, 0, 0, []),
  (21, .iconst 1, 1, 22, 0, 0, 1, []),
  (22, .invokestatic 41, 3, 25, M_B_within, 0, 0, []),
  (25, .ifCond .ne 6, 3, 28, 31, 0, 0, []),
  (28, .ldc 188, 2, 30, 0, 0, (-2000000000), []),
  (30, .ireturn, 1, 31, 0, 0, 0, []),
  (31, .aload_n 0, 1, 32, 0, 0, 0, []),
  (32, .getfield 26, 3, 35, 8, 2, 0, []),
  (35, .aload_n 0, 1, 36, 0, 0, 0, []),
  (36, .getfield 10, 3, 39, 8, 0, 0, []),
  (39, .iload_n 2, 1, 40, 0, 0, 0, []),
  (40, .invokevirtual 189, 3, 43, M_Balance_sum, 0, 0, []),
  (43, .iload_n 1, 1, 44, 0, 0, 0, []),
  (44, .ifCond .ne 13, 3, 47, 57, 0, 0, []),
  (47, .aload_n 0, 1, 48, 0, 0, 0, []),
  (48, .getfield 26, 3, 51, 8, 2, 0, []),
  (51, .invokevirtual 193, 3, 54, M_Balance_front, 0, 0, []),
  (54, .goto 10, 3, 57, 64, 0, 0, []),
  (57, .aload_n 0, 1, 58, 0, 0, 0, []),
  (58, .getfield 26, 3, 61, 8, 2, 0, []),
  (61, .invokevirtual 196, 3, 64, M_Balance_rear, 0, 0, []),
  (64, .istore 4, 2, 66, 0, 0, 0, []),
  (66, .iload 4, 2, 68, 0, 0, 0, []),
  (68, .invokestatic 199, 3, 71, M_Math_abs, 9, 0, []),
  (71, .aload_n 0, 1, 72, 0, 0, 0, []),
  (72, .getfield 26, 3, 75, 8, 2, 0, []),
  (75, .getfield 204, 3, 78, 0, 3, 0, []),
  (78, .invokestatic 207, 3, 81, M_B_commonDivisor, 0, 0, []),
  (81, .istore 5, 2, 83, 0, 0, 0, []),
  (83, .iload 5, 2, 85, 0, 0, 0, []),
  (85, .iconst 1, 1, 86, 0, 0, 1, []),
  (86, .if_icmp .ge 6, 3, 89, 92, 0, 0, []),
  (89, .ldc 188, 2, 91, 0, 0, (-2000000000), []),
  (91, .ireturn, 1, 92, 0, 0, 0, []),
  (92, .iload_n 3, 1, 93, 0, 0, 0, []),
  (93, .ifCond .ne 11, 3, 96, 104, 0, 0, []),
  (96, .iload 4, 2, 98, 0, 0, 0, []),
  (98, .iload 5, 2, 100, 0, 0, 0, []),
  (100, .idiv, 1, 101, 0, 0, 0, []),
  (101, .goto 13, 3, 104, 114, 0, 0, []),
  (104, .aload_n 0, 1, 105, 0, 0, 0, []),
  (105, .getfield 26, 3, 108, 8, 2, 0, []),
  (108, .getfield 204, 3, 111, 0, 3, 0, []),
  (111, .iload 5, 2, 113, 0, 0, 0, []),
  (113, .idiv, 1, 114, 0, 0, 0, []),
  (114, .ireturn, 1, 115, 0, 0, 0, [])]
set_option maxRecDepth 100000 in
theorem kc_B_axle : k_B_axle.all (am_chk am_m59) = true := by decide +kernel
theorem q_B_axle : am_ms[M_B_axle]? = some am_m59 := rfl
def k_Balance_sum : List am_I := [
  (0, .aload_n 1, 1, 1, 0, 0, 0, []),
  (1, .getfield 7, 3, 4, 5, 0, 0, []),
  (4, .astore_n 3, 1, 5, 0, 0, 0, []),
  (5, .aload_n 0, 1, 6, 0, 0, 0, []),
  (6, .iconst 0, 1, 7, 0, 0, 0, []),
  (7, .putfield 13, 3, 10, 0, 0, 0, []),
  (10, .aload_n 0, 1, 11, 0, 0, 0, []),
  (11, .iconst 0, 1, 12, 0, 0, 0, []),
  (12, .putfield 19, 3, 15, 0, 1, 0, []),
  (15, .aload_n 0, 1, 16, 0, 0, 0, []),
  (16, .iconst 0, 1, 17, 0, 0, 0, []),
  (17, .putfield 22, 3, 20, 0, 2, 0, []),
  (20, .aload_n 0, 1, 21, 0, 0, 0, []),
  (21, .iconst 2, 1, 22, 0, 0, 2, []),
  (22, .aload_n 3, 1, 23, 0, 0, 0, []),
  (23, .getfield 25, 3, 26, 7, 5, 0, []),
  (26, .aload_n 3, 1, 27, 0, 0, 0, []),
  (27, .getfield 30, 3, 30, 7, 4, 0, []),
  (30, .isub, 1, 31, 0, 0, 0, []),
  (31, .imul, 1, 32, 0, 0, 0, []),
  (32, .putfield 33, 3, 35, 0, 3, 0, []),
  (35, .iconst 0, 1, 36, 0, 0, 0, []),
  (36, .istore 4, 2, 38, 0, 0, 0, []),
  (38, .iload 4, 2, 40, 0, 0, 0, []),
  (40, .aload_n 1, 1, 41, 0, 0, 0, []),
  (41, .getfield 36, 3, 44, 5, 2, 0, []),
  (44, .if_icmp .ge 109, 3, 47, 153, 0, 0, []),
  (47, .aload_n 1, 1, 48, 0, 0, 0, []),
  (48, .getfield 39, 3, 51, 5, 1, 0, []),
  (51, .iload 4, 2, 53, 0, 0, 0, []),
  (53, .aaload, 1, 54, 0, 0, 0, []),
  (54, .astore 5, 2, 56, 0, 0, 0, []),
  (56, .aload_n 1, 1, 57, 0, 0, 0, []),
  (57, .iload 4, 2, 59, 0, 0, 0, []),
  (59, .invokevirtual 43, 3, 62, M_Hold_has, 0, 0, []),
  (62, .ifCond .eq 85, 3, 65, 147, 0, 0, []),
  (65, .aload 5, 2, 67, 0, 0, 0, []),
  (67, .getfield 47, 3, 70, 2, 5, 0, []),
  (70, .iload_n 2, 1, 71, 0, 0, 0, []),
  (71, .if_icmp .lt 76, 3, 74, 147, 0, 0, []),
  (74, .aload_n 0, 1, 75, 0, 0, 0, []),
  (75, .dup, 1, 76, 0, 0, 0, []),
  (76, .getfield 13, 3, 79, 0, 0, 0, []),
  (79, .aload 5, 2, 81, 0, 0, 0, []),
  (81, .getfield 52, 3, 84, 2, 3, 0, []),
  (84, .iadd, 1, 85, 0, 0, 0, []),
  (85, .putfield 13, 3, 88, 0, 0, 0, []),
  (88, .aload_n 0, 1, 89, 0, 0, 0, []),
  (89, .dup, 1, 90, 0, 0, 0, []),
  (90, .getfield 19, 3, 93, 0, 1, 0, []),
  (93, .aload 5, 2, 95, 0, 0, 0, []),
  (95, .getfield 52, 3, 98, 2, 3, 0, []),
  (98, .aload 5, 2, 100, 0, 0, 0, []),
  (100, .getfield 53, 3, 103, 2, 8, 0, []),
  (103, .aload 5, 2, 105, 0, 0, 0, []),
  (105, .getfield 56, 3, 108, 2, 11, 0, []),
  (108, .iadd, 1, 109, 0, 0, 0, []),
  (109, .iconst 2, 1, 110, 0, 0, 2, []),
  (110, .aload_n 3, 1, 111, 0, 0, 0, []),
  (111, .getfield 30, 3, 114, 7, 4, 0, []),
  (114, .imul, 1, 115, 0, 0, 0, []),
  (115, .isub, 1, 116, 0, 0, 0, []),
  (116, .imul, 1, 117, 0, 0, 0, []),
  (117, .iadd, 1, 118, 0, 0, 0, []),
  (118, .putfield 19, 3, 121, 0, 1, 0, []),
  (121, .aload_n 0, 1, 122, 0, 0, 0, []),
  (122, .dup, 1, 123, 0, 0, 0, []),
  (123, .getfield 22, 3, 126, 0, 2, 0, []),
  (126, .aload 5, 2, 128, 0, 0, 0, []),
  (128, .getfield 52, 3, 131, 2, 3, 0, []),
  (131, .aload 5, 2, 133, 0, 0, 0, []),
  (133, .getfield 59, 3, 136, 2, 9, 0, []),
  (136, .aload 5, 2, 138, 0, 0, 0, []),
  (138, .getfield 62, 3, 141, 2, 12, 0, []),
  (141, .iadd, 1, 142, 0, 0, 0, []),
  (142, .imul, 1, 143, 0, 0, 0, []),
  (143, .iadd, 1, 144, 0, 0, 0, []),
  (144, .putfield 22, 3, 147, 0, 2, 0, []),
  (147, .iinc 4 1, 3, 150, 0, 0, 1, []),
  (150, .goto (-112), 3, 153, 38, 0, 0, []),
  (153, .return_, 1, 154, 0, 0, 0, [])]
set_option maxRecDepth 100000 in
theorem kc_Balance_sum : k_Balance_sum.all (am_chk am_m60) = true := by decide +kernel
theorem q_Balance_sum : am_ms[M_Balance_sum]? = some am_m60 := rfl
def k_Balance_front : List am_I := [
  (0, .aload_n 0, 1, 1, 0, 0, 0, []),
  (1, .getfield 13, 3, 4, 0, 0, 0, []),
  (4, .aload_n 0, 1, 5, 0, 0, 0, []),
  (5, .getfield 33, 3, 8, 0, 3, 0, []),
  (8, .imul, 1, 9, 0, 0, 0, []),
  (9, .aload_n 0, 1, 10, 0, 0, 0, []),
  (10, .getfield 19, 3, 13, 0, 1, 0, []),
  (13, .isub, 1, 14, 0, 0, 0, []),
  (14, .ireturn, 1, 15, 0, 0, 0, [])]
set_option maxRecDepth 100000 in
theorem kc_Balance_front : k_Balance_front.all (am_chk am_m61) = true := by decide +kernel
theorem q_Balance_front : am_ms[M_Balance_front]? = some am_m61 := rfl
def k_Balance_rear : List am_I := [
  (0, .aload_n 0, 1, 1, 0, 0, 0, []),
  (1, .getfield 19, 3, 4, 0, 1, 0, []),
  (4, .ireturn, 1, 5, 0, 0, 0, [])]
set_option maxRecDepth 100000 in
theorem kc_Balance_rear : k_Balance_rear.all (am_chk am_m62) = true := by decide +kernel
theorem q_Balance_rear : am_ms[M_Balance_rear]? = some am_m62 := rfl
def k_B_commonDivisor : List am_I := [
  (0, .iload_n 0, 1, 1, 0, 0, 0, []),
  (1, .istore_n 2, 1, 2, 0, 0, 0, []),
  (2, .iload_n 1, 1, 3, 0, 0, 0, []),
  (3, .istore_n 3, 1, 4, 0, 0, 0, []),
  (4, .iconst 0, 1, 5, 0, 0, 0, []),
  (5, .istore 4, 2, 7, 0, 0, 0, []),
  (7, .iload 4, 2, 9, 0, 0, 0, []),
  (9, .bipush 64, 2, 11, 0, 0, 64, []),
  (11, .if_icmp .ge 23, 3, 14, 34, 0, 0, []),
  (14, .iload_n 3, 1, 15, 0, 0, 0, []),
  (15, .ifCond .le 19, 3, 18, 34, 0, 0, []),
  (18, .iload_n 2, 1, 19, 0, 0, 0, []),
  (19, .iload_n 3, 1, 20, 0, 0, 0, []),
  (20, .irem, 1, 21, 0, 0, 0, []),
  (21, .istore 5, 2, 23, 0, 0, 0, []),
  (23, .iload_n 3, 1, 24, 0, 0, 0, []),
  (24, .istore_n 2, 1, 25, 0, 0, 0, []),
  (25, .iload 5, 2, 27, 0, 0, 0, []),
  (27, .istore_n 3, 1, 28, 0, 0, 0, []),
  (28, .iinc 4 1, 3, 31, 0, 0, 1, []),
  (31, .goto (-24), 3, 34, 7, 0, 0, []),
  (34, .iload_n 2, 1, 35, 0, 0, 0, []),
  (35, .ireturn, 1, 36, 0, 0, 0, [])]
set_option maxRecDepth 100000 in
theorem kc_B_commonDivisor : k_B_commonDivisor.all (am_chk am_m64) = true := by decide +kernel
theorem q_B_commonDivisor : am_ms[M_B_commonDivisor]? = some am_m64 := rfl
def k_B_over : List am_I := [
  (0, .iload_n 1, 1, 1, 0, 0, 0, []),
  (1, .iconst 0, 1, 2, 0, 0, 0, []),
  (2, .bipush 6, 2, 4, 0, 0, 6, []),
  (4, .invokestatic 41, 3, 7, M_B_within, 0, 0, []),
  (7, .ifCond .ne 6, 3, 10, 13, 0, 0, []),
  (10, .bipush (-2), 2, 12, 0, 0, (-2), []),
  (12, .ireturn, 1, 13, 0, 0, 0, []),
  (13, .aload_n 0, 1, 14, 0, 0, 0, []),
  (14, .iload_n 1, 1, 15, 0, 0, 0, []),
  (15, .invokevirtual 211, 3, 18, M_B_overAt, 0, 0, []),
  (18, .ireturn, 1, 19, 0, 0, 0, [])]
set_option maxRecDepth 100000 in
theorem kc_B_over : k_B_over.all (am_chk am_m65) = true := by decide +kernel
theorem q_B_over : am_ms[M_B_over]? = some am_m65 := rfl
def k_B_overAt : List am_I := [
  (0, .aload_n 0, 1, 1, 0, 0, 0, []),
  (1, .getfield 26, 3, 4, 8, 2, 0, []),
  (4, .aload_n 0, 1, 5, 0, 0, 0, []),
  (5, .getfield 10, 3, 8, 8, 0, 0, []),
  (8, .iload_n 1, 1, 9, 0, 0, 0, []),
  (9, .invokevirtual 189, 3, 12, M_Balance_sum, 0, 0, []),
  (12, .aload_n 0, 1, 13, 0, 0, 0, []),
  (13, .getfield 26, 3, 16, 8, 2, 0, []),
  (16, .aload_n 0, 1, 17, 0, 0, 0, []),
  (17, .getfield 10, 3, 20, 8, 0, 0, []),
  (20, .getfield 88, 3, 23, 5, 0, 0, []),
  (23, .invokevirtual 271, 3, 26, M_Balance_overBits, 0, 0, []),
  (26, .ireturn, 1, 27, 0, 0, 0, [])]
set_option maxRecDepth 100000 in
theorem kc_B_overAt : k_B_overAt.all (am_chk am_m66) = true := by decide +kernel
theorem q_B_overAt : am_ms[M_B_overAt]? = some am_m66 := rfl
def k_Balance_overBits : List am_I := [
  (0, .iconst 0, 1, 1, 0, 0, 0, []),
  (1, .istore_n 2, 1, 2, 0, 0, 0, []),
  (2, .aload_n 0, 1, 3, 0, 0, 0, []),
  (3, .invokevirtual 65, 3, 6, M_Balance_front, 0, 0, []),
  (6, .ifCond .lt 19, 3, 9, 25, 0, 0, []),
  (9, .aload_n 0, 1, 10, 0, 0, 0, []),
  (10, .invokevirtual 65, 3, 13, M_Balance_front, 0, 0, []),
  (13, .aload_n 1, 1, 14, 0, 0, 0, []),
  (14, .getfield 69, 3, 17, 7, 6, 0, []),
  (17, .aload_n 0, 1, 18, 0, 0, 0, []),
  (18, .getfield 33, 3, 21, 0, 3, 0, []),
  (21, .imul, 1, 22, 0, 0, 0, []),
  (22, .if_icmp .le 7, 3, 25, 29, 0, 0, []),
  (25, .iload_n 2, 1, 26, 0, 0, 0, []),
  (26, .iconst 1, 1, 27, 0, 0, 1, []),
  (27, .ior, 1, 28, 0, 0, 0, []),
  (28, .istore_n 2, 1, 29, 0, 0, 0, []),
  (29, .aload_n 0, 1, 30, 0, 0, 0, []),
  (30, .invokevirtual 72, 3, 33, M_Balance_rear, 0, 0, []),
  (33, .ifCond .lt 19, 3, 36, 52, 0, 0, []),
  (36, .aload_n 0, 1, 37, 0, 0, 0, []),
  (37, .invokevirtual 72, 3, 40, M_Balance_rear, 0, 0, []),
  (40, .aload_n 1, 1, 41, 0, 0, 0, []),
  (41, .getfield 75, 3, 44, 7, 7, 0, []),
  (44, .aload_n 0, 1, 45, 0, 0, 0, []),
  (45, .getfield 33, 3, 48, 0, 3, 0, []),
  (48, .imul, 1, 49, 0, 0, 0, []),
  (49, .if_icmp .le 7, 3, 52, 56, 0, 0, []),
  (52, .iload_n 2, 1, 53, 0, 0, 0, []),
  (53, .iconst 2, 1, 54, 0, 0, 2, []),
  (54, .ior, 1, 55, 0, 0, 0, []),
  (55, .istore_n 2, 1, 56, 0, 0, 0, []),
  (56, .aload_n 0, 1, 57, 0, 0, 0, []),
  (57, .getfield 22, 3, 60, 0, 2, 0, []),
  (60, .aload_n 0, 1, 61, 0, 0, 0, []),
  (61, .getfield 13, 3, 64, 0, 0, 0, []),
  (64, .aload_n 1, 1, 65, 0, 0, 0, []),
  (65, .getfield 78, 3, 68, 7, 1, 0, []),
  (68, .imul, 1, 69, 0, 0, 0, []),
  (69, .isub, 1, 70, 0, 0, 0, []),
  (70, .invokestatic 81, 3, 73, M_Math_abs, 9, 0, []),
  (73, .istore_n 3, 1, 74, 0, 0, 0, []),
  (74, .bipush 100, 2, 76, 0, 0, 100, []),
  (76, .iload_n 3, 1, 77, 0, 0, 0, []),
  (77, .imul, 1, 78, 0, 0, 0, []),
  (78, .aload_n 1, 1, 79, 0, 0, 0, []),
  (79, .getfield 87, 3, 82, 7, 8, 0, []),
  (82, .aload_n 1, 1, 83, 0, 0, 0, []),
  (83, .getfield 78, 3, 86, 7, 1, 0, []),
  (86, .imul, 1, 87, 0, 0, 0, []),
  (87, .aload_n 0, 1, 88, 0, 0, 0, []),
  (88, .getfield 13, 3, 91, 0, 0, 0, []),
  (91, .imul, 1, 92, 0, 0, 0, []),
  (92, .if_icmp .le 7, 3, 95, 99, 0, 0, []),
  (95, .iload_n 2, 1, 96, 0, 0, 0, []),
  (96, .iconst 4, 1, 97, 0, 0, 4, []),
  (97, .ior, 1, 98, 0, 0, 0, []),
  (98, .istore_n 2, 1, 99, 0, 0, 0, []),
  (99, .iload_n 2, 1, 100, 0, 0, 0, []),
  (100, .ireturn, 1, 101, 0, 0, 0, [])]
set_option maxRecDepth 100000 in
theorem kc_Balance_overBits : k_Balance_overBits.all (am_chk am_m67) = true := by decide +kernel
theorem q_Balance_overBits : am_ms[M_Balance_overBits]? = some am_m67 := rfl
def k_B_fit : List am_I := [
  (0, .iconst 0, 1, 1, 0, 0, 0, []),
  (1, .istore_n 1, 1, 2, 0, 0, 0, []),
  (2, .iload_n 1, 1, 3, 0, 0, 0, []),
  (3, .bipush 6, 2, 5, 0, 0, 6, []),
  (5, .if_icmp .gt 19, 3, 8, 24, 0, 0, []),
  (8, .aload_n 0, 1, 9, 0, 0, 0, []),
  (9, .iload_n 1, 1, 10, 0, 0, 0, []),
  (10, .invokevirtual 211, 3, 13, M_B_overAt, 0, 0, []),
  (13, .ifCond .eq 5, 3, 16, 18, 0, 0, []),
  (16, .iload_n 1, 1, 17, 0, 0, 0, []),
  (17, .ireturn, 1, 18, 0, 0, 0, []),
  (18, .iinc 1 1, 3, 21, 0, 0, 1, []),
  (21, .goto (-19), 3, 24, 2, 0, 0, []),
  (24, .iconst (-1), 1, 25, 0, 0, (-1), []),
  (25, .ireturn, 1, 26, 0, 0, 0, [])]
set_option maxRecDepth 100000 in
theorem kc_B_fit : k_B_fit.all (am_chk am_m68) = true := by decide +kernel
theorem q_B_fit : am_ms[M_B_fit]? = some am_m68 := rfl
def k_B_cut : List am_I := [
  (0, .iload_n 1, 1, 1, 0, 0, 0, []),
  (1, .iconst 1, 1, 2, 0, 0, 1, []),
  (2, .bipush 16, 2, 4, 0, 0, 16, []),
  (4, .invokestatic 41, 3, 7, M_B_within, 0, 0, []),
  (7, .ifCond .eq 23, 3, 10, 30, 0, 0, []),
  (10, .iload_n 2, 1, 11, 0, 0, 0, []),
  (11, .iconst 1, 1, 12, 0, 0, 1, []),
  (12, .bipush 16, 2, 14, 0, 0, 16, []),
  (14, .invokestatic 41, 3, 17, M_B_within, 0, 0, []),
  (17, .ifCond .eq 13, 3, 20, 30, 0, 0, []),
  (20, .iload_n 3, 1, 21, 0, 0, 0, []),
  (21, .iconst 1, 1, 22, 0, 0, 1, []),
  (22, .bipush 16, 2, 24, 0, 0, 16, []),
  (24, .invokestatic 41, 3, 27, M_B_within, 0, 0, []),
  (27, .ifCond .ne 6, 3, 30, 33, 0, 0, []),
  (30, .bipush (-2), 2, 32, 0, 0, (-2), []),
  (32, .ireturn, 1, 33, 0, 0, 0, []),
  (33, .aload_n 0, 1, 34, 0, 0, 0, []),
  (34, .getfield 37, 3, 37, 8, 4, 0, []),
  (37, .ifnonnull 14, 3, 40, 51, 0, 0, []),
  (40, .aload_n 0, 1, 41, 0, 0, 0, []),
  (41, .new 81, 3, 44, 3, 0, 0, []),
  (44, .dup, 1, 45, 0, 0, 0, []),
  (45, .invokespecial 214, 3, 48, M_Cutter_new, 1, 0, []),
  (48, .putfield 37, 3, 51, 8, 4, 0, []),
  (51, .aload_n 0, 1, 52, 0, 0, 0, []),
  (52, .getfield 37, 3, 55, 8, 4, 0, []),
  (55, .aload_n 0, 1, 56, 0, 0, 0, []),
  (56, .getfield 10, 3, 59, 8, 0, 0, []),
  (59, .iload_n 1, 1, 60, 0, 0, 0, []),
  (60, .iload_n 2, 1, 61, 0, 0, 0, []),
  (61, .iload_n 3, 1, 62, 0, 0, 0, []),
  (62, .invokevirtual 215, 3, 65, M_Cutter_mostWorth, 0, 0, []),
  (65, .ireturn, 1, 66, 0, 0, 0, [])]
set_option maxRecDepth 100000 in
theorem kc_B_cut : k_B_cut.all (am_chk am_m69) = true := by decide +kernel
theorem q_B_cut : am_ms[M_B_cut]? = some am_m69 := rfl
def k_Cutter_new : List am_I := [
  (0, .aload_n 0, 1, 1, 0, 0, 0, []),
  (1, .invokespecial 3, 3, 4, 0, 9, 0, []),
  (4, .aload_n 0, 1, 5, 0, 0, 0, []),
  (5, .sipush 4096, 3, 8, 0, 0, 4096, []),
  (8, .newarray .int, 2, 10, 0, 0, 0, []),
  (10, .putfield 11, 3, 13, 3, 0, 0, []),
  (13, .aload_n 0, 1, 14, 0, 0, 0, []),
  (14, .sipush 4096, 3, 17, 0, 0, 4096, []),
  (17, .newarray .int, 2, 19, 0, 0, 0, []),
  (19, .putfield 15, 3, 22, 3, 1, 0, []),
  (22, .aload_n 0, 1, 23, 0, 0, 0, []),
  (23, .iconst (-1), 1, 24, 0, 0, (-1), []),
  (24, .putfield 18, 3, 27, 3, 2, 0, []),
  (27, .aload_n 0, 1, 28, 0, 0, 0, []),
  (28, .iconst (-1), 1, 29, 0, 0, (-1), []),
  (29, .putfield 22, 3, 32, 3, 3, 0, []),
  (32, .aload_n 0, 1, 33, 0, 0, 0, []),
  (33, .iconst (-1), 1, 34, 0, 0, (-1), []),
  (34, .putfield 25, 3, 37, 3, 4, 0, []),
  (37, .return_, 1, 38, 0, 0, 0, [])]
set_option maxRecDepth 100000 in
theorem kc_Cutter_new : k_Cutter_new.all (am_chk am_m70) = true := by decide +kernel
theorem q_Cutter_new : am_ms[M_Cutter_new]? = some am_m70 := rfl
def k_Cutter_mostWorth : List am_I := [
  (0, .aload_n 0, 1, 1, 0, 0, 0, []),
  (1, .iload_n 2, 1, 2, 0, 0, 0, []),
  (2, .iload_n 3, 1, 3, 0, 0, 0, []),
  (3, .iload 4, 2, 5, 0, 0, 0, []),
  (5, .invokestatic 28, 3, 8, M_Cutter_blockOf, 0, 0, []),
  (8, .putfield 22, 3, 11, 3, 3, 0, []),
  (11, .aload_n 0, 1, 12, 0, 0, 0, []),
  (12, .iconst (-1), 1, 13, 0, 0, (-1), []),
  (13, .putfield 25, 3, 16, 3, 4, 0, []),
  (16, .aload_n 0, 1, 17, 0, 0, 0, []),
  (17, .getfield 18, 3, 20, 3, 2, 0, []),
  (20, .iconst (-1), 1, 21, 0, 0, (-1), []),
  (21, .if_icmp .ne 10, 3, 24, 31, 0, 0, []),
  (24, .aload_n 0, 1, 25, 0, 0, 0, []),
  (25, .getfield 22, 3, 28, 3, 3, 0, []),
  (28, .goto 14, 3, 31, 42, 0, 0, []),
  (31, .aload_n 0, 1, 32, 0, 0, 0, []),
  (32, .getfield 18, 3, 35, 3, 2, 0, []),
  (35, .aload_n 0, 1, 36, 0, 0, 0, []),
  (36, .getfield 22, 3, 39, 3, 3, 0, []),
  (39, .invokestatic 32, 3, 42, M_Cutter_greaterOf, 0, 0, []),
  (42, .istore 5, 2, 44, 0, 0, 0, []),
  (44, .iload 5, 2, 46, 0, 0, 0, []),
  (46, .aload_n 0, 1, 47, 0, 0, 0, []),
  (47, .getfield 18, 3, 50, 3, 2, 0, []),
  (50, .if_icmp .eq 16, 3, 53, 66, 0, 0, []),
  (53, .aload_n 0, 1, 54, 0, 0, 0, []),
  (54, .aload_n 1, 1, 55, 0, 0, 0, []),
  (55, .iload 5, 2, 57, 0, 0, 0, []),
  (57, .invokevirtual 36, 3, 60, M_Cutter_fillWorths, 0, 0, []),
  (60, .aload_n 0, 1, 61, 0, 0, 0, []),
  (61, .iload 5, 2, 63, 0, 0, 0, []),
  (63, .putfield 18, 3, 66, 3, 2, 0, []),
  (66, .aload_n 0, 1, 67, 0, 0, 0, []),
  (67, .getfield 11, 3, 70, 3, 0, 0, []),
  (70, .aload_n 0, 1, 71, 0, 0, 0, []),
  (71, .getfield 22, 3, 74, 3, 3, 0, []),
  (74, .iaload, 1, 75, 0, 0, 0, []),
  (75, .ireturn, 1, 76, 0, 0, 0, [])]
set_option maxRecDepth 100000 in
theorem kc_Cutter_mostWorth : k_Cutter_mostWorth.all (am_chk am_m71) = true := by decide +kernel
theorem q_Cutter_mostWorth : am_ms[M_Cutter_mostWorth]? = some am_m71 := rfl
def k_Cutter_blockOf : List am_I := [
  (0, .iload_n 0, 1, 1, 0, 0, 0, []),
  (1, .iconst 1, 1, 2, 0, 0, 1, []),
  (2, .isub, 1, 3, 0, 0, 0, []),
  (3, .bipush 8, 2, 5, 0, 0, 8, []),
  (5, .ishl, 1, 6, 0, 0, 0, []),
  (6, .iload_n 1, 1, 7, 0, 0, 0, []),
  (7, .iconst 1, 1, 8, 0, 0, 1, []),
  (8, .isub, 1, 9, 0, 0, 0, []),
  (9, .iconst 4, 1, 10, 0, 0, 4, []),
  (10, .ishl, 1, 11, 0, 0, 0, []),
  (11, .ior, 1, 12, 0, 0, 0, []),
  (12, .iload_n 2, 1, 13, 0, 0, 0, []),
  (13, .iconst 1, 1, 14, 0, 0, 1, []),
  (14, .isub, 1, 15, 0, 0, 0, []),
  (15, .ior, 1, 16, 0, 0, 0, []),
  (16, .ireturn, 1, 17, 0, 0, 0, [])]
set_option maxRecDepth 100000 in
theorem kc_Cutter_blockOf : k_Cutter_blockOf.all (am_chk am_m72) = true := by decide +kernel
theorem q_Cutter_blockOf : am_ms[M_Cutter_blockOf]? = some am_m72 := rfl
def k_Cutter_greaterOf : List am_I := [
  (0, .iconst 0, 1, 1, 0, 0, 0, []),
  (1, .istore_n 2, 1, 2, 0, 0, 0, []),
  (2, .bipush 8, 2, 4, 0, 0, 8, []),
  (4, .istore_n 3, 1, 5, 0, 0, 0, []),
  (5, .iload_n 3, 1, 6, 0, 0, 0, []),
  (6, .ifCond .lt 33, 3, 9, 39, 0, 0, []),
  (9, .iload_n 0, 1, 10, 0, 0, 0, []),
  (10, .iload_n 3, 1, 11, 0, 0, 0, []),
  (11, .ishr, 1, 12, 0, 0, 0, []),
  (12, .bipush 15, 2, 14, 0, 0, 15, []),
  (14, .iand, 1, 15, 0, 0, 0, []),
  (15, .iload_n 1, 1, 16, 0, 0, 0, []),
  (16, .iload_n 3, 1, 17, 0, 0, 0, []),
  (17, .ishr, 1, 18, 0, 0, 0, []),
  (18, .bipush 15, 2, 20, 0, 0, 15, []),
  (20, .iand, 1, 21, 0, 0, 0, []),
  (21, .invokestatic 44, 3, 24, M_Math_max, 9, 0, []),
  (24, .istore 4, 2, 26, 0, 0, 0, []),
  (26, .iload_n 2, 1, 27, 0, 0, 0, []),
  (27, .iload 4, 2, 29, 0, 0, 0, []),
  (29, .iload_n 3, 1, 30, 0, 0, 0, []),
  (30, .ishl, 1, 31, 0, 0, 0, []),
  (31, .ior, 1, 32, 0, 0, 0, []),
  (32, .istore_n 2, 1, 33, 0, 0, 0, []),
  (33, .iinc 3 (-4), 3, 36, 0, 0, (-4), []),
  (36, .goto (-31), 3, 39, 5, 0, 0, []),
  (39, .iload_n 2, 1, 40, 0, 0, 0, []),
  (40, .ireturn, 1, 41, 0, 0, 0, [])]
set_option maxRecDepth 100000 in
theorem kc_Cutter_greaterOf : k_Cutter_greaterOf.all (am_chk am_m73) = true := by decide +kernel
theorem q_Cutter_greaterOf : am_ms[M_Cutter_greaterOf]? = some am_m73 := rfl
def k_Cutter_fillWorths : List am_I := [
  (0, .aload_n 0, 1, 1, 0, 0, 0, []),
  (1, .getfield 11, 3, 4, 3, 0, 0, []),
  (4, .iconst 0, 1, 5, 0, 0, 0, []),
  (5, .invokestatic 49, 3, 8, M_Arrays_fill, 0, 0, []),
  (8, .iconst 0, 1, 9, 0, 0, 0, []),
  (9, .istore_n 3, 1, 10, 0, 0, 0, []),
  (10, .iload_n 3, 1, 11, 0, 0, 0, []),
  (11, .aload_n 1, 1, 12, 0, 0, 0, []),
  (12, .getfield 55, 3, 15, 5, 2, 0, []),
  (15, .if_icmp .ge 79, 3, 18, 94, 0, 0, []),
  (18, .aload_n 1, 1, 19, 0, 0, 0, []),
  (19, .getfield 60, 3, 22, 5, 1, 0, []),
  (22, .iload_n 3, 1, 23, 0, 0, 0, []),
  (23, .aaload, 1, 24, 0, 0, 0, []),
  (24, .astore 4, 2, 26, 0, 0, 0, []),
  (26, .aload_n 0, 1, 27, 0, 0, 0, []),
  (27, .aload 4, 2, 29, 0, 0, 0, []),
  (29, .getfield 64, 3, 32, 2, 0, 0, []),
  (32, .aload 4, 2, 34, 0, 0, 0, []),
  (34, .getfield 69, 3, 37, 2, 1, 0, []),
  (37, .aload 4, 2, 39, 0, 0, 0, []),
  (39, .getfield 72, 3, 42, 2, 2, 0, []),
  (42, .invokestatic 28, 3, 45, M_Cutter_blockOf, 0, 0, []),
  (45, .aload 4, 2, 47, 0, 0, 0, []),
  (47, .getfield 75, 3, 50, 2, 7, 0, []),
  (50, .invokevirtual 78, 3, 53, M_Cutter_offer, 0, 0, []),
  (53, .aload 4, 2, 55, 0, 0, 0, []),
  (55, .getfield 82, 3, 58, 2, 6, 0, []),
  (58, .ifCond .eq 30, 3, 61, 88, 0, 0, []),
  (61, .aload_n 0, 1, 62, 0, 0, 0, []),
  (62, .aload 4, 2, 64, 0, 0, 0, []),
  (64, .getfield 69, 3, 67, 2, 1, 0, []),
  (67, .aload 4, 2, 69, 0, 0, 0, []),
  (69, .getfield 64, 3, 72, 2, 0, 0, []),
  (72, .aload 4, 2, 74, 0, 0, 0, []),
  (74, .getfield 72, 3, 77, 2, 2, 0, []),
  (77, .invokestatic 28, 3, 80, M_Cutter_blockOf, 0, 0, []),
  (80, .aload 4, 2, 82, 0, 0, 0, []),
  (82, .getfield 75, 3, 85, 2, 7, 0, []),
  (85, .invokevirtual 78, 3, 88, M_Cutter_offer, 0, 0, []),
  (88, .iinc 3 1, 3, 91, 0, 0, 1, []),
  (91, .goto (-81), 3, 94, 10, 0, 0, []),
  (94, .iconst 0, 1, 95, 0, 0, 0, []),
  (95, .istore_n 3, 1, 96, 0, 0, 0, []),
  (96, .iload_n 3, 1, 97, 0, 0, 0, []),
  (97, .iload_n 2, 1, 98, 0, 0, 0, []),
  (98, .bipush 8, 2, 100, 0, 0, 8, []),
  (100, .ishr, 1, 101, 0, 0, 0, []),
  (101, .if_icmp .gt 73, 3, 104, 174, 0, 0, []),
  (104, .iconst 0, 1, 105, 0, 0, 0, []),
  (105, .istore 4, 2, 107, 0, 0, 0, []),
  (107, .iload 4, 2, 109, 0, 0, 0, []),
  (109, .iload_n 2, 1, 110, 0, 0, 0, []),
  (110, .iconst 4, 1, 111, 0, 0, 4, []),
  (111, .ishr, 1, 112, 0, 0, 0, []),
  (112, .bipush 15, 2, 114, 0, 0, 15, []),
  (114, .iand, 1, 115, 0, 0, 0, []),
  (115, .if_icmp .gt 53, 3, 118, 168, 0, 0, []),
  (118, .iconst 0, 1, 119, 0, 0, 0, []),
  (119, .istore 5, 2, 121, 0, 0, 0, []),
  (121, .iload 5, 2, 123, 0, 0, 0, []),
  (123, .iload_n 2, 1, 124, 0, 0, 0, []),
  (124, .bipush 15, 2, 126, 0, 0, 15, []),
  (126, .iand, 1, 127, 0, 0, 0, []),
  (127, .if_icmp .gt 35, 3, 130, 162, 0, 0, []),
  (130, .iload_n 3, 1, 131, 0, 0, 0, []),
  (131, .bipush 8, 2, 133, 0, 0, 8, []),
  (133, .ishl, 1, 134, 0, 0, 0, []),
  (134, .iload 4, 2, 136, 0, 0, 0, []),
  (136, .iconst 4, 1, 137, 0, 0, 4, []),
  (137, .ishl, 1, 138, 0, 0, 0, []),
  (138, .ior, 1, 139, 0, 0, 0, []),
  (139, .iload 5, 2, 141, 0, 0, 0, []),
  (141, .ior, 1, 142, 0, 0, 0, []),
  (142, .istore 6, 2, 144, 0, 0, 0, []),
  (144, .aload_n 0, 1, 145, 0, 0, 0, []),
  (145, .iload 6, 2, 147, 0, 0, 0, []),
  (147, .aload_n 0, 1, 148, 0, 0, 0, []),
  (148, .iload 6, 2, 150, 0, 0, 0, []),
  (150, .invokevirtual 86, 3, 153, M_Cutter_worthCut, 0, 0, []),
  (153, .invokevirtual 78, 3, 156, M_Cutter_offer, 0, 0, []),
  (156, .iinc 5 1, 3, 159, 0, 0, 1, []),
  (159, .goto (-38), 3, 162, 121, 0, 0, []),
  (162, .iinc 4 1, 3, 165, 0, 0, 1, []),
  (165, .goto (-58), 3, 168, 107, 0, 0, []),
  (168, .iinc 3 1, 3, 171, 0, 0, 1, []),
  (171, .goto (-75), 3, 174, 96, 0, 0, []),
  (174, .return_, 1, 175, 0, 0, 0, [])]
set_option maxRecDepth 100000 in
theorem kc_Cutter_fillWorths : k_Cutter_fillWorths.all (am_chk am_m75) = true := by decide +kernel
theorem q_Cutter_fillWorths : am_ms[M_Cutter_fillWorths]? = some am_m75 := rfl
def k_Cutter_offer : List am_I := [
  (0, .iload_n 2, 1, 1, 0, 0, 0, []),
  (1, .aload_n 0, 1, 2, 0, 0, 0, []),
  (2, .getfield 11, 3, 5, 3, 0, 0, []),
  (5, .iload_n 1, 1, 6, 0, 0, 0, []),
  (6, .iaload, 1, 7, 0, 0, 0, []),
  (7, .if_icmp .le 10, 3, 10, 17, 0, 0, []),
  (10, .aload_n 0, 1, 11, 0, 0, 0, []),
  (11, .getfield 11, 3, 14, 3, 0, 0, []),
  (14, .iload_n 1, 1, 15, 0, 0, 0, []),
  (15, .iload_n 2, 1, 16, 0, 0, 0, []),
  (16, .iastore, 1, 17, 0, 0, 0, []),
  (17, .return_, 1, 18, 0, 0, 0, [])]
set_option maxRecDepth 100000 in
theorem kc_Cutter_offer : k_Cutter_offer.all (am_chk am_m76) = true := by decide +kernel
theorem q_Cutter_offer : am_ms[M_Cutter_offer]? = some am_m76 := rfl
def k_Cutter_worthCut : List am_I := [
  (0, .iconst 0, 1, 1, 0, 0, 0, []),
  (1, .istore_n 2, 1, 2, 0, 0, 0, []),
  (2, .bipush 8, 2, 4, 0, 0, 8, []),
  (4, .istore_n 3, 1, 5, 0, 0, 0, []),
  (5, .iload_n 3, 1, 6, 0, 0, 0, []),
  (6, .ifCond .lt 72, 3, 9, 78, 0, 0, []),
  (9, .iload_n 1, 1, 10, 0, 0, 0, []),
  (10, .iload_n 3, 1, 11, 0, 0, 0, []),
  (11, .ishr, 1, 12, 0, 0, 0, []),
  (12, .bipush 15, 2, 14, 0, 0, 15, []),
  (14, .iand, 1, 15, 0, 0, 0, []),
  (15, .iconst 1, 1, 16, 0, 0, 1, []),
  (16, .iadd, 1, 17, 0, 0, 0, []),
  (17, .istore 4, 2, 19, 0, 0, 0, []),
  (19, .iconst 1, 1, 20, 0, 0, 1, []),
  (20, .istore 5, 2, 22, 0, 0, 0, []),
  (22, .iconst 2, 1, 23, 0, 0, 2, []),
  (23, .iload 5, 2, 25, 0, 0, 0, []),
  (25, .imul, 1, 26, 0, 0, 0, []),
  (26, .iload 4, 2, 28, 0, 0, 0, []),
  (28, .if_icmp .gt 44, 3, 31, 72, 0, 0, []),
  (31, .aload_n 0, 1, 32, 0, 0, 0, []),
  (32, .getfield 11, 3, 35, 3, 0, 0, []),
  (35, .iload_n 1, 1, 36, 0, 0, 0, []),
  (36, .iload 5, 2, 38, 0, 0, 0, []),
  (38, .iload_n 3, 1, 39, 0, 0, 0, []),
  (39, .invokestatic 90, 3, 42, M_Cutter_aheadOf, 0, 0, []),
  (42, .iaload, 1, 43, 0, 0, 0, []),
  (43, .aload_n 0, 1, 44, 0, 0, 0, []),
  (44, .getfield 11, 3, 47, 3, 0, 0, []),
  (47, .iload_n 1, 1, 48, 0, 0, 0, []),
  (48, .iload 5, 2, 50, 0, 0, 0, []),
  (50, .iload_n 3, 1, 51, 0, 0, 0, []),
  (51, .ishl, 1, 52, 0, 0, 0, []),
  (52, .isub, 1, 53, 0, 0, 0, []),
  (53, .iaload, 1, 54, 0, 0, 0, []),
  (54, .iadd, 1, 55, 0, 0, 0, []),
  (55, .istore 6, 2, 57, 0, 0, 0, []),
  (57, .iload 6, 2, 59, 0, 0, 0, []),
  (59, .iload_n 2, 1, 60, 0, 0, 0, []),
  (60, .if_icmp .le 6, 3, 63, 66, 0, 0, []),
  (63, .iload 6, 2, 65, 0, 0, 0, []),
  (65, .istore_n 2, 1, 66, 0, 0, 0, []),
  (66, .iinc 5 1, 3, 69, 0, 0, 1, []),
  (69, .goto (-47), 3, 72, 22, 0, 0, []),
  (72, .iinc 3 (-4), 3, 75, 0, 0, (-4), []),
  (75, .goto (-70), 3, 78, 5, 0, 0, []),
  (78, .iload_n 2, 1, 79, 0, 0, 0, []),
  (79, .ireturn, 1, 80, 0, 0, 0, [])]
set_option maxRecDepth 100000 in
theorem kc_Cutter_worthCut : k_Cutter_worthCut.all (am_chk am_m77) = true := by decide +kernel
theorem q_Cutter_worthCut : am_ms[M_Cutter_worthCut]? = some am_m77 := rfl
def k_Cutter_aheadOf : List am_I := [
  (0, .iload_n 0, 1, 1, 0, 0, 0, []),
  (1, .bipush 15, 2, 3, 0, 0, 15, []),
  (3, .iload_n 2, 1, 4, 0, 0, 0, []),
  (4, .ishl, 1, 5, 0, 0, 0, []),
  (5, .iconst (-1), 1, 6, 0, 0, (-1), []),
  (6, .ixor, 1, 7, 0, 0, 0, []),
  (7, .iand, 1, 8, 0, 0, 0, []),
  (8, .iload_n 1, 1, 9, 0, 0, 0, []),
  (9, .iconst 1, 1, 10, 0, 0, 1, []),
  (10, .isub, 1, 11, 0, 0, 0, []),
  (11, .iload_n 2, 1, 12, 0, 0, 0, []),
  (12, .ishl, 1, 13, 0, 0, 0, []),
  (13, .ior, 1, 14, 0, 0, 0, []),
  (14, .ireturn, 1, 15, 0, 0, 0, [])]
set_option maxRecDepth 100000 in
theorem kc_Cutter_aheadOf : k_Cutter_aheadOf.all (am_chk am_m78) = true := by decide +kernel
theorem q_Cutter_aheadOf : am_ms[M_Cutter_aheadOf]? = some am_m78 := rfl
def k_B_piece : List am_I := [
  (0, .aload_n 0, 1, 1, 0, 0, 0, []),
  (1, .getfield 37, 3, 4, 8, 4, 0, []),
  (4, .ifnonnull 5, 3, 7, 9, 0, 0, []),
  (7, .iconst (-1), 1, 8, 0, 0, (-1), []),
  (8, .ireturn, 1, 9, 0, 0, 0, []),
  (9, .aload_n 0, 1, 10, 0, 0, 0, []),
  (10, .getfield 37, 3, 13, 8, 4, 0, []),
  (13, .aload_n 0, 1, 14, 0, 0, 0, []),
  (14, .getfield 10, 3, 17, 8, 0, 0, []),
  (17, .iload_n 1, 1, 18, 0, 0, 0, []),
  (18, .iload_n 2, 1, 19, 0, 0, 0, []),
  (19, .invokevirtual 219, 3, 22, M_Cutter_tell, 0, 0, []),
  (22, .ireturn, 1, 23, 0, 0, 0, [])]
set_option maxRecDepth 100000 in
theorem kc_B_piece : k_B_piece.all (am_chk am_m79) = true := by decide +kernel
theorem q_B_piece : am_ms[M_B_piece]? = some am_m79 := rfl
def k_Cutter_tell : List am_I := [
  (0, .aload_n 0, 1, 1, 0, 0, 0, []),
  (1, .getfield 22, 3, 4, 3, 3, 0, []),
  (4, .iconst (-1), 1, 5, 0, 0, (-1), []),
  (5, .if_icmp .ne 5, 3, 8, 10, 0, 0, []),
  (8, .iconst (-1), 1, 9, 0, 0, (-1), []),
  (9, .ireturn, 1, 10, 0, 0, 0, []),
  (10, .aload_n 0, 1, 11, 0, 0, 0, []),
  (11, .getfield 25, 3, 14, 3, 4, 0, []),
  (14, .iconst (-1), 1, 15, 0, 0, (-1), []),
  (15, .if_icmp .ne 19, 3, 18, 34, 0, 0, []),
  (18, .aload_n 0, 1, 19, 0, 0, 0, []),
  (19, .iconst 0, 1, 20, 0, 0, 0, []),
  (20, .putfield 25, 3, 23, 3, 4, 0, []),
  (23, .aload_n 0, 1, 24, 0, 0, 0, []),
  (24, .aload_n 1, 1, 25, 0, 0, 0, []),
  (25, .aload_n 0, 1, 26, 0, 0, 0, []),
  (26, .getfield 22, 3, 29, 3, 3, 0, []),
  (29, .iconst 0, 1, 30, 0, 0, 0, []),
  (30, .iconst 0, 1, 31, 0, 0, 0, []),
  (31, .invokevirtual 40, 3, 34, M_Cutter_layOut, 0, 0, []),
  (34, .iload_n 2, 1, 35, 0, 0, 0, []),
  (35, .ifCond .lt 11, 3, 38, 46, 0, 0, []),
  (38, .iload_n 2, 1, 39, 0, 0, 0, []),
  (39, .aload_n 0, 1, 40, 0, 0, 0, []),
  (40, .getfield 25, 3, 43, 3, 4, 0, []),
  (43, .if_icmp .lt 5, 3, 46, 48, 0, 0, []),
  (46, .iconst (-1), 1, 47, 0, 0, (-1), []),
  (47, .ireturn, 1, 48, 0, 0, 0, []),
  (48, .aload_n 0, 1, 49, 0, 0, 0, []),
  (49, .getfield 15, 3, 52, 3, 1, 0, []),
  (52, .iload_n 2, 1, 53, 0, 0, 0, []),
  (53, .iaload, 1, 54, 0, 0, 0, []),
  (54, .istore 4, 2, 56, 0, 0, 0, []),
  (56, .iload_n 3, 1, 57, 0, 0, 0, []),
  (57, .tableswitch 72 0 4 #[35, 41, 50, 58, 64], 35, 92, 129, 0, 0, [92, 98, 107, 115, 121]),
  (92, .iload 4, 2, 94, 0, 0, 0, []),
  (94, .bipush 13, 2, 96, 0, 0, 13, []),
  (96, .ishr, 1, 97, 0, 0, 0, []),
  (97, .ireturn, 1, 98, 0, 0, 0, []),
  (98, .iload 4, 2, 100, 0, 0, 0, []),
  (100, .bipush 8, 2, 102, 0, 0, 8, []),
  (102, .ishr, 1, 103, 0, 0, 0, []),
  (103, .bipush 15, 2, 105, 0, 0, 15, []),
  (105, .iand, 1, 106, 0, 0, 0, []),
  (106, .ireturn, 1, 107, 0, 0, 0, []),
  (107, .iload 4, 2, 109, 0, 0, 0, []),
  (109, .iconst 4, 1, 110, 0, 0, 4, []),
  (110, .ishr, 1, 111, 0, 0, 0, []),
  (111, .bipush 15, 2, 113, 0, 0, 15, []),
  (113, .iand, 1, 114, 0, 0, 0, []),
  (114, .ireturn, 1, 115, 0, 0, 0, []),
  (115, .iload 4, 2, 117, 0, 0, 0, []),
  (117, .bipush 15, 2, 119, 0, 0, 15, []),
  (119, .iand, 1, 120, 0, 0, 0, []),
  (120, .ireturn, 1, 121, 0, 0, 0, []),
  (121, .iload 4, 2, 123, 0, 0, 0, []),
  (123, .bipush 12, 2, 125, 0, 0, 12, []),
  (125, .ishr, 1, 126, 0, 0, 0, []),
  (126, .iconst 1, 1, 127, 0, 0, 1, []),
  (127, .iand, 1, 128, 0, 0, 0, []),
  (128, .ireturn, 1, 129, 0, 0, 0, []),
  (129, .iconst (-1), 1, 130, 0, 0, (-1), []),
  (130, .ireturn, 1, 131, 0, 0, 0, [])]
set_option maxRecDepth 100000 in
theorem kc_Cutter_tell : k_Cutter_tell.all (am_chk am_m80) = true := by decide +kernel
theorem q_Cutter_tell : am_ms[M_Cutter_tell]? = some am_m80 := rfl
def k_Cutter_layOut : List am_I := [
  (0, .iload_n 2, 1, 1, 0, 0, 0, []),
  (1, .istore 5, 2, 3, 0, 0, 0, []),
  (3, .iload_n 3, 1, 4, 0, 0, 0, []),
  (4, .istore 6, 2, 6, 0, 0, 0, []),
  (6, .iconst 0, 1, 7, 0, 0, 0, []),
  (7, .istore 7, 2, 9, 0, 0, 0, []),
  (9, .iload 7, 2, 11, 0, 0, 0, []),
  (11, .bipush 48, 2, 13, 0, 0, 48, []),
  (13, .if_icmp .ge 107, 3, 16, 120, 0, 0, []),
  (16, .iload 4, 2, 18, 0, 0, 0, []),
  (18, .bipush 16, 2, 20, 0, 0, 16, []),
  (20, .if_icmp .ge 100, 3, 23, 120, 0, 0, []),
  (23, .aload_n 0, 1, 24, 0, 0, 0, []),
  (24, .getfield 11, 3, 27, 3, 0, 0, []),
  (27, .iload 5, 2, 29, 0, 0, 0, []),
  (29, .iaload, 1, 30, 0, 0, 0, []),
  (30, .ifCond .eq 15, 3, 33, 45, 0, 0, []),
  (33, .aload_n 0, 1, 34, 0, 0, 0, []),
  (34, .aload_n 1, 1, 35, 0, 0, 0, []),
  (35, .iload 5, 2, 37, 0, 0, 0, []),
  (37, .iload 6, 2, 39, 0, 0, 0, []),
  (39, .invokevirtual 93, 3, 42, M_Cutter_layPiece, 0, 0, []),
  (42, .ifCond .eq 4, 3, 45, 46, 0, 0, []),
  (45, .return_, 1, 46, 0, 0, 0, []),
  (46, .aload_n 0, 1, 47, 0, 0, 0, []),
  (47, .iload 5, 2, 49, 0, 0, 0, []),
  (49, .invokevirtual 97, 3, 52, M_Cutter_firstCut, 0, 0, []),
  (52, .istore 8, 2, 54, 0, 0, 0, []),
  (54, .iload 8, 2, 56, 0, 0, 0, []),
  (56, .bipush 15, 2, 58, 0, 0, 15, []),
  (58, .iand, 1, 59, 0, 0, 0, []),
  (59, .istore 9, 2, 61, 0, 0, 0, []),
  (61, .iload 8, 2, 63, 0, 0, 0, []),
  (63, .iconst 4, 1, 64, 0, 0, 4, []),
  (64, .ishr, 1, 65, 0, 0, 0, []),
  (65, .istore 10, 2, 67, 0, 0, 0, []),
  (67, .iload 10, 2, 69, 0, 0, 0, []),
  (69, .iconst 1, 1, 70, 0, 0, 1, []),
  (70, .if_icmp .ge 4, 3, 73, 74, 0, 0, []),
  (73, .return_, 1, 74, 0, 0, 0, []),
  (74, .aload_n 0, 1, 75, 0, 0, 0, []),
  (75, .aload_n 1, 1, 76, 0, 0, 0, []),
  (76, .iload 5, 2, 78, 0, 0, 0, []),
  (78, .iload 10, 2, 80, 0, 0, 0, []),
  (80, .iload 9, 2, 82, 0, 0, 0, []),
  (82, .invokestatic 90, 3, 85, M_Cutter_aheadOf, 0, 0, []),
  (85, .iload 6, 2, 87, 0, 0, 0, []),
  (87, .iload 4, 2, 89, 0, 0, 0, []),
  (89, .iconst 1, 1, 90, 0, 0, 1, []),
  (90, .iadd, 1, 91, 0, 0, 0, []),
  (91, .invokevirtual 40, 3, 94, M_Cutter_layOut, 0, 0, []),
  (94, .iload 5, 2, 96, 0, 0, 0, []),
  (96, .iload 10, 2, 98, 0, 0, 0, []),
  (98, .iload 9, 2, 100, 0, 0, 0, []),
  (100, .ishl, 1, 101, 0, 0, 0, []),
  (101, .isub, 1, 102, 0, 0, 0, []),
  (102, .istore 5, 2, 104, 0, 0, 0, []),
  (104, .iload 6, 2, 106, 0, 0, 0, []),
  (106, .iload 10, 2, 108, 0, 0, 0, []),
  (108, .iload 9, 2, 110, 0, 0, 0, []),
  (110, .ishl, 1, 111, 0, 0, 0, []),
  (111, .iadd, 1, 112, 0, 0, 0, []),
  (112, .istore 6, 2, 114, 0, 0, 0, []),
  (114, .iinc 7 1, 3, 117, 0, 0, 1, []),
  (117, .goto (-108), 3, 120, 9, 0, 0, []),
  (120, .return_, 1, 121, 0, 0, 0, [])]
set_option maxRecDepth 100000 in
theorem kc_Cutter_layOut : k_Cutter_layOut.all (am_chk am_m81) = true := by decide +kernel
theorem q_Cutter_layOut : am_ms[M_Cutter_layOut]? = some am_m81 := rfl
def k_Cutter_layPiece : List am_I := [
  (0, .iconst 0, 1, 1, 0, 0, 0, []),
  (1, .istore 4, 2, 3, 0, 0, 0, []),
  (3, .iload 4, 2, 5, 0, 0, 0, []),
  (5, .aload_n 1, 1, 6, 0, 0, 0, []),
  (6, .getfield 55, 3, 9, 5, 2, 0, []),
  (9, .if_icmp .ge 158, 3, 12, 167, 0, 0, []),
  (12, .aload_n 1, 1, 13, 0, 0, 0, []),
  (13, .getfield 60, 3, 16, 5, 1, 0, []),
  (16, .iload 4, 2, 18, 0, 0, 0, []),
  (18, .aaload, 1, 19, 0, 0, 0, []),
  (19, .astore 5, 2, 21, 0, 0, 0, []),
  (21, .aload 5, 2, 23, 0, 0, 0, []),
  (23, .getfield 75, 3, 26, 2, 7, 0, []),
  (26, .aload_n 0, 1, 27, 0, 0, 0, []),
  (27, .getfield 11, 3, 30, 3, 0, 0, []),
  (30, .iload_n 2, 1, 31, 0, 0, 0, []),
  (31, .iaload, 1, 32, 0, 0, 0, []),
  (32, .if_icmp .eq 6, 3, 35, 38, 0, 0, []),
  (35, .goto 126, 3, 38, 161, 0, 0, []),
  (38, .aload 5, 2, 40, 0, 0, 0, []),
  (40, .getfield 64, 3, 43, 2, 0, 0, []),
  (43, .aload 5, 2, 45, 0, 0, 0, []),
  (45, .getfield 69, 3, 48, 2, 1, 0, []),
  (48, .aload 5, 2, 50, 0, 0, 0, []),
  (50, .getfield 72, 3, 53, 2, 2, 0, []),
  (53, .invokestatic 28, 3, 56, M_Cutter_blockOf, 0, 0, []),
  (56, .iload_n 2, 1, 57, 0, 0, 0, []),
  (57, .if_icmp .ne 7, 3, 60, 64, 0, 0, []),
  (60, .iconst 1, 1, 61, 0, 0, 1, []),
  (61, .goto 4, 3, 64, 65, 0, 0, []),
  (64, .iconst 0, 1, 65, 0, 0, 0, []),
  (65, .istore 6, 2, 67, 0, 0, 0, []),
  (67, .iload 6, 2, 69, 0, 0, 0, []),
  (69, .ifCond .ne 33, 3, 72, 102, 0, 0, []),
  (72, .aload 5, 2, 74, 0, 0, 0, []),
  (74, .getfield 82, 3, 77, 2, 6, 0, []),
  (77, .ifCond .eq 84, 3, 80, 161, 0, 0, []),
  (80, .aload 5, 2, 82, 0, 0, 0, []),
  (82, .getfield 69, 3, 85, 2, 1, 0, []),
  (85, .aload 5, 2, 87, 0, 0, 0, []),
  (87, .getfield 64, 3, 90, 2, 0, 0, []),
  (90, .aload 5, 2, 92, 0, 0, 0, []),
  (92, .getfield 72, 3, 95, 2, 2, 0, []),
  (95, .invokestatic 28, 3, 98, M_Cutter_blockOf, 0, 0, []),
  (98, .iload_n 2, 1, 99, 0, 0, 0, []),
  (99, .if_icmp .ne 62, 3, 102, 161, 0, 0, []),
  (102, .aload_n 0, 1, 103, 0, 0, 0, []),
  (103, .getfield 25, 3, 106, 3, 4, 0, []),
  (106, .ifCond .lt 53, 3, 109, 159, 0, 0, []),
  (109, .aload_n 0, 1, 110, 0, 0, 0, []),
  (110, .getfield 25, 3, 113, 3, 4, 0, []),
  (113, .sipush 4096, 3, 116, 0, 0, 4096, []),
  (116, .if_icmp .ge 43, 3, 119, 159, 0, 0, []),
  (119, .aload_n 0, 1, 120, 0, 0, 0, []),
  (120, .getfield 15, 3, 123, 3, 1, 0, []),
  (123, .aload_n 0, 1, 124, 0, 0, 0, []),
  (124, .getfield 25, 3, 127, 3, 4, 0, []),
  (127, .iload 4, 2, 129, 0, 0, 0, []),
  (129, .bipush 13, 2, 131, 0, 0, 13, []),
  (131, .ishl, 1, 132, 0, 0, 0, []),
  (132, .iload 6, 2, 134, 0, 0, 0, []),
  (134, .ifCond .eq 7, 3, 137, 141, 0, 0, []),
  (137, .iconst 0, 1, 138, 0, 0, 0, []),
  (138, .goto 4, 3, 141, 142, 0, 0, []),
  (141, .iconst 1, 1, 142, 0, 0, 1, []),
  (142, .bipush 12, 2, 144, 0, 0, 12, []),
  (144, .ishl, 1, 145, 0, 0, 0, []),
  (145, .ior, 1, 146, 0, 0, 0, []),
  (146, .iload_n 3, 1, 147, 0, 0, 0, []),
  (147, .ior, 1, 148, 0, 0, 0, []),
  (148, .iastore, 1, 149, 0, 0, 0, []),
  (149, .aload_n 0, 1, 150, 0, 0, 0, []),
  (150, .dup, 1, 151, 0, 0, 0, []),
  (151, .getfield 25, 3, 154, 3, 4, 0, []),
  (154, .iconst 1, 1, 155, 0, 0, 1, []),
  (155, .iadd, 1, 156, 0, 0, 0, []),
  (156, .putfield 25, 3, 159, 3, 4, 0, []),
  (159, .iconst 1, 1, 160, 0, 0, 1, []),
  (160, .ireturn, 1, 161, 0, 0, 0, []),
  (161, .iinc 4 1, 3, 164, 0, 0, 1, []),
  (164, .goto (-161), 3, 167, 3, 0, 0, []),
  (167, .iconst 0, 1, 168, 0, 0, 0, []),
  (168, .ireturn, 1, 169, 0, 0, 0, [])]
set_option maxRecDepth 100000 in
theorem kc_Cutter_layPiece : k_Cutter_layPiece.all (am_chk am_m82) = true := by decide +kernel
theorem q_Cutter_layPiece : am_ms[M_Cutter_layPiece]? = some am_m82 := rfl
def k_Cutter_firstCut : List am_I := [
  (0, .bipush 8, 2, 2, 0, 0, 8, []),
  (2, .istore_n 2, 1, 3, 0, 0, 0, []),
  (3, .iload_n 2, 1, 4, 0, 0, 0, []),
  (4, .ifCond .lt 75, 3, 7, 79, 0, 0, []),
  (7, .iload_n 1, 1, 8, 0, 0, 0, []),
  (8, .iload_n 2, 1, 9, 0, 0, 0, []),
  (9, .ishr, 1, 10, 0, 0, 0, []),
  (10, .bipush 15, 2, 12, 0, 0, 15, []),
  (12, .iand, 1, 13, 0, 0, 0, []),
  (13, .iconst 1, 1, 14, 0, 0, 1, []),
  (14, .iadd, 1, 15, 0, 0, 0, []),
  (15, .istore_n 3, 1, 16, 0, 0, 0, []),
  (16, .iconst 1, 1, 17, 0, 0, 1, []),
  (17, .istore 4, 2, 19, 0, 0, 0, []),
  (19, .iconst 2, 1, 20, 0, 0, 2, []),
  (20, .iload 4, 2, 22, 0, 0, 0, []),
  (22, .imul, 1, 23, 0, 0, 0, []),
  (23, .iload_n 3, 1, 24, 0, 0, 0, []),
  (24, .if_icmp .gt 49, 3, 27, 73, 0, 0, []),
  (27, .aload_n 0, 1, 28, 0, 0, 0, []),
  (28, .getfield 11, 3, 31, 3, 0, 0, []),
  (31, .iload_n 1, 1, 32, 0, 0, 0, []),
  (32, .iload 4, 2, 34, 0, 0, 0, []),
  (34, .iload_n 2, 1, 35, 0, 0, 0, []),
  (35, .invokestatic 90, 3, 38, M_Cutter_aheadOf, 0, 0, []),
  (38, .iaload, 1, 39, 0, 0, 0, []),
  (39, .aload_n 0, 1, 40, 0, 0, 0, []),
  (40, .getfield 11, 3, 43, 3, 0, 0, []),
  (43, .iload_n 1, 1, 44, 0, 0, 0, []),
  (44, .iload 4, 2, 46, 0, 0, 0, []),
  (46, .iload_n 2, 1, 47, 0, 0, 0, []),
  (47, .ishl, 1, 48, 0, 0, 0, []),
  (48, .isub, 1, 49, 0, 0, 0, []),
  (49, .iaload, 1, 50, 0, 0, 0, []),
  (50, .iadd, 1, 51, 0, 0, 0, []),
  (51, .aload_n 0, 1, 52, 0, 0, 0, []),
  (52, .getfield 11, 3, 55, 3, 0, 0, []),
  (55, .iload_n 1, 1, 56, 0, 0, 0, []),
  (56, .iaload, 1, 57, 0, 0, 0, []),
  (57, .if_icmp .ne 10, 3, 60, 67, 0, 0, []),
  (60, .iload 4, 2, 62, 0, 0, 0, []),
  (62, .iconst 4, 1, 63, 0, 0, 4, []),
  (63, .ishl, 1, 64, 0, 0, 0, []),
  (64, .iload_n 2, 1, 65, 0, 0, 0, []),
  (65, .ior, 1, 66, 0, 0, 0, []),
  (66, .ireturn, 1, 67, 0, 0, 0, []),
  (67, .iinc 4 1, 3, 70, 0, 0, 1, []),
  (70, .goto (-51), 3, 73, 19, 0, 0, []),
  (73, .iinc 2 (-4), 3, 76, 0, 0, (-4), []),
  (76, .goto (-73), 3, 79, 3, 0, 0, []),
  (79, .iconst 0, 1, 80, 0, 0, 0, []),
  (80, .ireturn, 1, 81, 0, 0, 0, [])]
set_option maxRecDepth 100000 in
theorem kc_Cutter_firstCut : k_Cutter_firstCut.all (am_chk am_m83) = true := by decide +kernel
theorem q_Cutter_firstCut : am_ms[M_Cutter_firstCut]? = some am_m83 := rfl
def k_B_trucks : List am_I := [
  (0, .aload_n 0, 1, 1, 0, 0, 0, []),
  (1, .iload_n 1, 1, 2, 0, 0, 0, []),
  (2, .invokevirtual 153, 3, 5, M_B_isSet, 0, 0, []),
  (5, .ifCond .ne 6, 3, 8, 11, 0, 0, []),
  (8, .bipush (-2), 2, 10, 0, 0, (-2), []),
  (10, .ireturn, 1, 11, 0, 0, 0, []),
  (11, .iconst 0, 1, 12, 0, 0, 0, []),
  (12, .istore_n 2, 1, 13, 0, 0, 0, []),
  (13, .iload_n 2, 1, 14, 0, 0, 0, []),
  (14, .aload_n 0, 1, 15, 0, 0, 0, []),
  (15, .getfield 10, 3, 18, 8, 0, 0, []),
  (18, .getfield 45, 3, 21, 5, 2, 0, []),
  (21, .if_icmp .ge 44, 3, 24, 65, 0, 0, []),
  (24, .iload_n 1, 1, 25, 0, 0, 0, []),
  (25, .iload_n 2, 1, 26, 0, 0, 0, []),
  (26, .ishr, 1, 27, 0, 0, 0, []),
  (27, .iconst 1, 1, 28, 0, 0, 1, []),
  (28, .iand, 1, 29, 0, 0, 0, []),
  (29, .ifCond .eq 30, 3, 32, 59, 0, 0, []),
  (32, .aload_n 0, 1, 33, 0, 0, 0, []),
  (33, .getfield 10, 3, 36, 8, 0, 0, []),
  (36, .iload_n 2, 1, 37, 0, 0, 0, []),
  (37, .iconst 0, 1, 38, 0, 0, 0, []),
  (38, .invokevirtual 223, 3, 41, M_Hold_fitsEmpty, 0, 0, []),
  (41, .ifCond .ne 18, 3, 44, 59, 0, 0, []),
  (44, .aload_n 0, 1, 45, 0, 0, 0, []),
  (45, .getfield 10, 3, 48, 8, 0, 0, []),
  (48, .iload_n 2, 1, 49, 0, 0, 0, []),
  (49, .iconst 1, 1, 50, 0, 0, 1, []),
  (50, .invokevirtual 223, 3, 53, M_Hold_fitsEmpty, 0, 0, []),
  (53, .ifCond .ne 6, 3, 56, 59, 0, 0, []),
  (56, .bipush (-4), 2, 58, 0, 0, (-4), []),
  (58, .ireturn, 1, 59, 0, 0, 0, []),
  (59, .iinc 2 1, 3, 62, 0, 0, 1, []),
  (62, .goto (-49), 3, 65, 13, 0, 0, []),
  (65, .aload_n 0, 1, 66, 0, 0, 0, []),
  (66, .getfield 33, 3, 69, 8, 3, 0, []),
  (69, .aload_n 0, 1, 70, 0, 0, 0, []),
  (70, .getfield 10, 3, 73, 8, 0, 0, []),
  (73, .iload_n 1, 1, 74, 0, 0, 0, []),
  (74, .invokevirtual 227, 3, 77, M_Bounds_judge, 0, 0, []),
  (77, .aload_n 0, 1, 78, 0, 0, 0, []),
  (78, .getfield 33, 3, 81, 8, 3, 0, []),
  (81, .getfield 230, 3, 84, 1, 1, 0, []),
  (84, .aload_n 0, 1, 85, 0, 0, 0, []),
  (85, .getfield 33, 3, 88, 8, 3, 0, []),
  (88, .getfield 233, 3, 91, 1, 2, 0, []),
  (91, .invokestatic 236, 3, 94, M_Math_max, 9, 0, []),
  (94, .ireturn, 1, 95, 0, 0, 0, [])]
set_option maxRecDepth 100000 in
theorem kc_B_trucks : k_B_trucks.all (am_chk am_m84) = true := by decide +kernel
theorem q_B_trucks : am_ms[M_B_trucks]? = some am_m84 := rfl
def k_Bounds_judge : List am_I := [
  (0, .aload_n 1, 1, 1, 0, 0, 0, []),
  (1, .getfield 21, 3, 4, 5, 0, 0, []),
  (4, .getfield 27, 3, 7, 7, 0, 0, []),
  (7, .aload_n 1, 1, 8, 0, 0, 0, []),
  (8, .getfield 21, 3, 11, 5, 0, 0, []),
  (11, .getfield 33, 3, 14, 7, 1, 0, []),
  (14, .imul, 1, 15, 0, 0, 0, []),
  (15, .aload_n 1, 1, 16, 0, 0, 0, []),
  (16, .getfield 21, 3, 19, 5, 0, 0, []),
  (19, .getfield 36, 3, 22, 7, 2, 0, []),
  (22, .imul, 1, 23, 0, 0, 0, []),
  (23, .istore_n 3, 1, 24, 0, 0, 0, []),
  (24, .iconst 0, 1, 25, 0, 0, 0, []),
  (25, .istore 4, 2, 27, 0, 0, 0, []),
  (27, .iconst 0, 1, 28, 0, 0, 0, []),
  (28, .istore 5, 2, 30, 0, 0, 0, []),
  (30, .iload 5, 2, 32, 0, 0, 0, []),
  (32, .aload_n 1, 1, 33, 0, 0, 0, []),
  (33, .getfield 39, 3, 36, 5, 2, 0, []),
  (36, .if_icmp .ge 40, 3, 39, 76, 0, 0, []),
  (39, .iload_n 2, 1, 40, 0, 0, 0, []),
  (40, .iload 5, 2, 42, 0, 0, 0, []),
  (42, .ishr, 1, 43, 0, 0, 0, []),
  (43, .iconst 1, 1, 44, 0, 0, 1, []),
  (44, .iand, 1, 45, 0, 0, 0, []),
  (45, .ifCond .eq 25, 3, 48, 70, 0, 0, []),
  (48, .iload 4, 2, 50, 0, 0, 0, []),
  (50, .aload_n 1, 1, 51, 0, 0, 0, []),
  (51, .getfield 42, 3, 54, 5, 1, 0, []),
  (54, .iload 5, 2, 56, 0, 0, 0, []),
  (56, .aaload, 1, 57, 0, 0, 0, []),
  (57, .invokevirtual 46, 3, 60, M_Box_volume, 0, 0, []),
  (60, .iadd, 1, 61, 0, 0, 0, []),
  (61, .istore 4, 2, 63, 0, 0, 0, []),
  (63, .aload_n 0, 1, 64, 0, 0, 0, []),
  (64, .aload_n 1, 1, 65, 0, 0, 0, []),
  (65, .iload 5, 2, 67, 0, 0, 0, []),
  (67, .invokevirtual 52, 3, 70, M_Bounds_measure, 0, 0, []),
  (70, .iinc 5 1, 3, 73, 0, 0, 1, []),
  (73, .goto (-43), 3, 76, 30, 0, 0, []),
  (76, .aload_n 0, 1, 77, 0, 0, 0, []),
  (77, .iconst 1, 1, 78, 0, 0, 1, []),
  (78, .putfield 56, 3, 81, 1, 0, 0, []),
  (81, .aload_n 0, 1, 82, 0, 0, 0, []),
  (82, .iload_n 3, 1, 83, 0, 0, 0, []),
  (83, .iconst 1, 1, 84, 0, 0, 1, []),
  (84, .if_icmp .ge 7, 3, 87, 91, 0, 0, []),
  (87, .iconst 0, 1, 88, 0, 0, 0, []),
  (88, .goto 11, 3, 91, 99, 0, 0, []),
  (91, .iload 4, 2, 93, 0, 0, 0, []),
  (93, .iload_n 3, 1, 94, 0, 0, 0, []),
  (94, .iadd, 1, 95, 0, 0, 0, []),
  (95, .iconst 1, 1, 96, 0, 0, 1, []),
  (96, .isub, 1, 97, 0, 0, 0, []),
  (97, .iload_n 3, 1, 98, 0, 0, 0, []),
  (98, .idiv, 1, 99, 0, 0, 0, []),
  (99, .putfield 60, 3, 102, 1, 1, 0, []),
  (102, .aload_n 0, 1, 103, 0, 0, 0, []),
  (103, .iconst 0, 1, 104, 0, 0, 0, []),
  (104, .putfield 63, 3, 107, 1, 2, 0, []),
  (107, .aload_n 0, 1, 108, 0, 0, 0, []),
  (108, .iconst 0, 1, 109, 0, 0, 0, []),
  (109, .putfield 66, 3, 112, 1, 3, 0, []),
  (112, .aload_n 0, 1, 113, 0, 0, 0, []),
  (113, .aload_n 1, 1, 114, 0, 0, 0, []),
  (114, .iload_n 2, 1, 115, 0, 0, 0, []),
  (115, .invokevirtual 69, 3, 118, M_Bounds_findApart, 0, 0, []),
  (118, .aload_n 0, 1, 119, 0, 0, 0, []),
  (119, .iload_n 2, 1, 120, 0, 0, 0, []),
  (120, .iconst 0, 1, 121, 0, 0, 0, []),
  (121, .aload_n 1, 1, 122, 0, 0, 0, []),
  (122, .getfield 39, 3, 125, 5, 2, 0, []),
  (125, .invokevirtual 72, 3, 128, M_Bounds_findBig, 0, 0, []),
  (128, .return_, 1, 129, 0, 0, 0, [])]
set_option maxRecDepth 100000 in
theorem kc_Bounds_judge : k_Bounds_judge.all (am_chk am_m86) = true := by decide +kernel
theorem q_Bounds_judge : am_ms[M_Bounds_judge]? = some am_m86 := rfl
def k_Bounds_measure : List am_I := [
  (0, .aload_n 1, 1, 1, 0, 0, 0, []),
  (1, .getfield 42, 3, 4, 5, 1, 0, []),
  (4, .iload_n 2, 1, 5, 0, 0, 0, []),
  (5, .aaload, 1, 6, 0, 0, 0, []),
  (6, .astore_n 3, 1, 7, 0, 0, 0, []),
  (7, .aload_n 1, 1, 8, 0, 0, 0, []),
  (8, .iload_n 2, 1, 9, 0, 0, 0, []),
  (9, .iconst 0, 1, 10, 0, 0, 0, []),
  (10, .invokevirtual 76, 3, 13, M_Hold_fitsEmpty, 0, 0, []),
  (13, .istore 4, 2, 15, 0, 0, 0, []),
  (15, .aload_n 1, 1, 16, 0, 0, 0, []),
  (16, .iload_n 2, 1, 17, 0, 0, 0, []),
  (17, .iconst 1, 1, 18, 0, 0, 1, []),
  (18, .invokevirtual 76, 3, 21, M_Hold_fitsEmpty, 0, 0, []),
  (21, .istore 5, 2, 23, 0, 0, 0, []),
  (23, .aload_n 0, 1, 24, 0, 0, 0, []),
  (24, .getfield 9, 3, 27, 1, 4, 0, []),
  (27, .iload_n 2, 1, 28, 0, 0, 0, []),
  (28, .iload 4, 2, 30, 0, 0, 0, []),
  (30, .ifCond .eq 10, 3, 33, 40, 0, 0, []),
  (33, .aload_n 3, 1, 34, 0, 0, 0, []),
  (34, .getfield 80, 3, 37, 2, 0, 0, []),
  (37, .goto 7, 3, 40, 44, 0, 0, []),
  (40, .aload_n 3, 1, 41, 0, 0, 0, []),
  (41, .getfield 81, 3, 44, 2, 1, 0, []),
  (44, .iastore, 1, 45, 0, 0, 0, []),
  (45, .aload_n 0, 1, 46, 0, 0, 0, []),
  (46, .getfield 15, 3, 49, 1, 5, 0, []),
  (49, .iload_n 2, 1, 50, 0, 0, 0, []),
  (50, .iload 4, 2, 52, 0, 0, 0, []),
  (52, .ifCond .eq 10, 3, 55, 62, 0, 0, []),
  (55, .aload_n 3, 1, 56, 0, 0, 0, []),
  (56, .getfield 81, 3, 59, 2, 1, 0, []),
  (59, .goto 7, 3, 62, 66, 0, 0, []),
  (62, .aload_n 3, 1, 63, 0, 0, 0, []),
  (63, .getfield 80, 3, 66, 2, 0, 0, []),
  (66, .iastore, 1, 67, 0, 0, 0, []),
  (67, .iload 4, 2, 69, 0, 0, 0, []),
  (69, .ifCond .eq 37, 3, 72, 106, 0, 0, []),
  (72, .iload 5, 2, 74, 0, 0, 0, []),
  (74, .ifCond .eq 32, 3, 77, 106, 0, 0, []),
  (77, .aload_n 0, 1, 78, 0, 0, 0, []),
  (78, .getfield 9, 3, 81, 1, 4, 0, []),
  (81, .iload_n 2, 1, 82, 0, 0, 0, []),
  (82, .aload_n 3, 1, 83, 0, 0, 0, []),
  (83, .getfield 80, 3, 86, 2, 0, 0, []),
  (86, .aload_n 3, 1, 87, 0, 0, 0, []),
  (87, .getfield 81, 3, 90, 2, 1, 0, []),
  (90, .invokestatic 82, 3, 93, M_Math_min, 9, 0, []),
  (93, .iastore, 1, 94, 0, 0, 0, []),
  (94, .aload_n 0, 1, 95, 0, 0, 0, []),
  (95, .getfield 15, 3, 98, 1, 5, 0, []),
  (98, .iload_n 2, 1, 99, 0, 0, 0, []),
  (99, .aload_n 0, 1, 100, 0, 0, 0, []),
  (100, .getfield 9, 3, 103, 1, 4, 0, []),
  (103, .iload_n 2, 1, 104, 0, 0, 0, []),
  (104, .iaload, 1, 105, 0, 0, 0, []),
  (105, .iastore, 1, 106, 0, 0, 0, []),
  (106, .return_, 1, 107, 0, 0, 0, [])]
set_option maxRecDepth 100000 in
theorem kc_Bounds_measure : k_Bounds_measure.all (am_chk am_m88) = true := by decide +kernel
theorem q_Bounds_measure : am_ms[M_Bounds_measure]? = some am_m88 := rfl
def k_Bounds_findApart : List am_I := [
  (0, .iconst 0, 1, 1, 0, 0, 0, []),
  (1, .istore_n 3, 1, 2, 0, 0, 0, []),
  (2, .iload_n 3, 1, 3, 0, 0, 0, []),
  (3, .aload_n 1, 1, 4, 0, 0, 0, []),
  (4, .getfield 39, 3, 7, 5, 2, 0, []),
  (7, .if_icmp .ge 81, 3, 10, 88, 0, 0, []),
  (10, .aload_n 0, 1, 11, 0, 0, 0, []),
  (11, .getfield 18, 3, 14, 1, 6, 0, []),
  (14, .iload_n 3, 1, 15, 0, 0, 0, []),
  (15, .iconst 0, 1, 16, 0, 0, 0, []),
  (16, .iastore, 1, 17, 0, 0, 0, []),
  (17, .iconst 0, 1, 18, 0, 0, 0, []),
  (18, .istore 4, 2, 20, 0, 0, 0, []),
  (20, .iload 4, 2, 22, 0, 0, 0, []),
  (22, .aload_n 1, 1, 23, 0, 0, 0, []),
  (23, .getfield 39, 3, 26, 5, 2, 0, []),
  (26, .if_icmp .ge 56, 3, 29, 82, 0, 0, []),
  (29, .iload 4, 2, 31, 0, 0, 0, []),
  (31, .iload_n 3, 1, 32, 0, 0, 0, []),
  (32, .if_icmp .eq 44, 3, 35, 76, 0, 0, []),
  (35, .iload_n 2, 1, 36, 0, 0, 0, []),
  (36, .iload_n 3, 1, 37, 0, 0, 0, []),
  (37, .ishr, 1, 38, 0, 0, 0, []),
  (38, .iconst 1, 1, 39, 0, 0, 1, []),
  (39, .iand, 1, 40, 0, 0, 0, []),
  (40, .ifCond .eq 36, 3, 43, 76, 0, 0, []),
  (43, .iload_n 2, 1, 44, 0, 0, 0, []),
  (44, .iload 4, 2, 46, 0, 0, 0, []),
  (46, .ishr, 1, 47, 0, 0, 0, []),
  (47, .iconst 1, 1, 48, 0, 0, 1, []),
  (48, .iand, 1, 49, 0, 0, 0, []),
  (49, .ifCond .eq 27, 3, 52, 76, 0, 0, []),
  (52, .aload_n 0, 1, 53, 0, 0, 0, []),
  (53, .aload_n 1, 1, 54, 0, 0, 0, []),
  (54, .iload_n 3, 1, 55, 0, 0, 0, []),
  (55, .iload 4, 2, 57, 0, 0, 0, []),
  (57, .invokevirtual 88, 3, 60, M_Bounds_areApart, 0, 0, []),
  (60, .ifCond .eq 16, 3, 63, 76, 0, 0, []),
  (63, .aload_n 0, 1, 64, 0, 0, 0, []),
  (64, .getfield 18, 3, 67, 1, 6, 0, []),
  (67, .iload_n 3, 1, 68, 0, 0, 0, []),
  (68, .dup2, 1, 69, 0, 0, 0, []),
  (69, .iaload, 1, 70, 0, 0, 0, []),
  (70, .iconst 1, 1, 71, 0, 0, 1, []),
  (71, .iload 4, 2, 73, 0, 0, 0, []),
  (73, .ishl, 1, 74, 0, 0, 0, []),
  (74, .ior, 1, 75, 0, 0, 0, []),
  (75, .iastore, 1, 76, 0, 0, 0, []),
  (76, .iinc 4 1, 3, 79, 0, 0, 1, []),
  (79, .goto (-59), 3, 82, 20, 0, 0, []),
  (82, .iinc 3 1, 3, 85, 0, 0, 1, []),
  (85, .goto (-83), 3, 88, 2, 0, 0, []),
  (88, .return_, 1, 89, 0, 0, 0, [])]
set_option maxRecDepth 100000 in
theorem kc_Bounds_findApart : k_Bounds_findApart.all (am_chk am_m90) = true := by decide +kernel
theorem q_Bounds_findApart : am_ms[M_Bounds_findApart]? = some am_m90 := rfl
def k_Bounds_areApart : List am_I := [
  (0, .aload_n 1, 1, 1, 0, 0, 0, []),
  (1, .getfield 21, 3, 4, 5, 0, 0, []),
  (4, .astore 4, 2, 6, 0, 0, 0, []),
  (6, .aload_n 0, 1, 7, 0, 0, 0, []),
  (7, .getfield 9, 3, 10, 1, 4, 0, []),
  (10, .iload_n 2, 1, 11, 0, 0, 0, []),
  (11, .iaload, 1, 12, 0, 0, 0, []),
  (12, .aload_n 0, 1, 13, 0, 0, 0, []),
  (13, .getfield 9, 3, 16, 1, 4, 0, []),
  (16, .iload_n 3, 1, 17, 0, 0, 0, []),
  (17, .iaload, 1, 18, 0, 0, 0, []),
  (18, .iadd, 1, 19, 0, 0, 0, []),
  (19, .aload 4, 2, 21, 0, 0, 0, []),
  (21, .getfield 27, 3, 24, 7, 0, 0, []),
  (24, .if_icmp .le 55, 3, 27, 79, 0, 0, []),
  (27, .aload_n 0, 1, 28, 0, 0, 0, []),
  (28, .getfield 15, 3, 31, 1, 5, 0, []),
  (31, .iload_n 2, 1, 32, 0, 0, 0, []),
  (32, .iaload, 1, 33, 0, 0, 0, []),
  (33, .aload_n 0, 1, 34, 0, 0, 0, []),
  (34, .getfield 15, 3, 37, 1, 5, 0, []),
  (37, .iload_n 3, 1, 38, 0, 0, 0, []),
  (38, .iaload, 1, 39, 0, 0, 0, []),
  (39, .iadd, 1, 40, 0, 0, 0, []),
  (40, .aload 4, 2, 42, 0, 0, 0, []),
  (42, .getfield 33, 3, 45, 7, 1, 0, []),
  (45, .if_icmp .le 34, 3, 48, 79, 0, 0, []),
  (48, .aload_n 1, 1, 49, 0, 0, 0, []),
  (49, .getfield 42, 3, 52, 5, 1, 0, []),
  (52, .iload_n 2, 1, 53, 0, 0, 0, []),
  (53, .aaload, 1, 54, 0, 0, 0, []),
  (54, .getfield 92, 3, 57, 2, 2, 0, []),
  (57, .aload_n 1, 1, 58, 0, 0, 0, []),
  (58, .getfield 42, 3, 61, 5, 1, 0, []),
  (61, .iload_n 3, 1, 62, 0, 0, 0, []),
  (62, .aaload, 1, 63, 0, 0, 0, []),
  (63, .getfield 92, 3, 66, 2, 2, 0, []),
  (66, .iadd, 1, 67, 0, 0, 0, []),
  (67, .aload 4, 2, 69, 0, 0, 0, []),
  (69, .getfield 36, 3, 72, 7, 2, 0, []),
  (72, .if_icmp .le 7, 3, 75, 79, 0, 0, []),
  (75, .iconst 1, 1, 76, 0, 0, 1, []),
  (76, .goto 4, 3, 79, 80, 0, 0, []),
  (79, .iconst 0, 1, 80, 0, 0, 0, []),
  (80, .ireturn, 1, 81, 0, 0, 0, [])]
set_option maxRecDepth 100000 in
theorem kc_Bounds_areApart : k_Bounds_areApart.all (am_chk am_m91) = true := by decide +kernel
theorem q_Bounds_areApart : am_ms[M_Bounds_areApart]? = some am_m91 := rfl
def k_Bounds_findBig : List am_I := [
  (0, .iload_n 2, 1, 1, 0, 0, 0, []),
  (1, .invokestatic 93, 3, 4, M_Integer_bitCount, 0, 0, []),
  (4, .istore 4, 2, 6, 0, 0, 0, []),
  (6, .iload 4, 2, 8, 0, 0, 0, []),
  (8, .iload_n 1, 1, 9, 0, 0, 0, []),
  (9, .invokestatic 93, 3, 12, M_Integer_bitCount, 0, 0, []),
  (12, .iadd, 1, 13, 0, 0, 0, []),
  (13, .aload_n 0, 1, 14, 0, 0, 0, []),
  (14, .getfield 63, 3, 17, 1, 2, 0, []),
  (17, .if_icmp .gt 4, 3, 20, 21, 0, 0, []),
  (20, .return_, 1, 21, 0, 0, 0, []),
  (21, .iload_n 3, 1, 22, 0, 0, 0, []),
  (22, .iconst 1, 1, 23, 0, 0, 1, []),
  (23, .isub, 1, 24, 0, 0, 0, []),
  (24, .istore 5, 2, 26, 0, 0, 0, []),
  (26, .iload 5, 2, 28, 0, 0, 0, []),
  (28, .ifCond .lt 18, 3, 31, 46, 0, 0, []),
  (31, .iload_n 1, 1, 32, 0, 0, 0, []),
  (32, .iload 5, 2, 34, 0, 0, 0, []),
  (34, .ishr, 1, 35, 0, 0, 0, []),
  (35, .iconst 1, 1, 36, 0, 0, 1, []),
  (36, .iand, 1, 37, 0, 0, 0, []),
  (37, .ifCond .ne 9, 3, 40, 46, 0, 0, []),
  (40, .iinc 5 (-1), 3, 43, 0, 0, (-1), []),
  (43, .goto (-17), 3, 46, 26, 0, 0, []),
  (46, .iload 5, 2, 48, 0, 0, 0, []),
  (48, .ifCond .ge 15, 3, 51, 63, 0, 0, []),
  (51, .aload_n 0, 1, 52, 0, 0, 0, []),
  (52, .iload 4, 2, 54, 0, 0, 0, []),
  (54, .putfield 63, 3, 57, 1, 2, 0, []),
  (57, .aload_n 0, 1, 58, 0, 0, 0, []),
  (58, .iload_n 2, 1, 59, 0, 0, 0, []),
  (59, .putfield 66, 3, 62, 1, 3, 0, []),
  (62, .return_, 1, 63, 0, 0, 0, []),
  (63, .aload_n 0, 1, 64, 0, 0, 0, []),
  (64, .iload_n 1, 1, 65, 0, 0, 0, []),
  (65, .iconst 1, 1, 66, 0, 0, 1, []),
  (66, .iload 5, 2, 68, 0, 0, 0, []),
  (68, .ishl, 1, 69, 0, 0, 0, []),
  (69, .iconst (-1), 1, 70, 0, 0, (-1), []),
  (70, .ixor, 1, 71, 0, 0, 0, []),
  (71, .iand, 1, 72, 0, 0, 0, []),
  (72, .iload_n 2, 1, 73, 0, 0, 0, []),
  (73, .iload 5, 2, 75, 0, 0, 0, []),
  (75, .invokevirtual 72, 3, 78, M_Bounds_findBig, 0, 0, []),
  (78, .aload_n 0, 1, 79, 0, 0, 0, []),
  (79, .iload_n 1, 1, 80, 0, 0, 0, []),
  (80, .aload_n 0, 1, 81, 0, 0, 0, []),
  (81, .getfield 18, 3, 84, 1, 6, 0, []),
  (84, .iload 5, 2, 86, 0, 0, 0, []),
  (86, .iaload, 1, 87, 0, 0, 0, []),
  (87, .iand, 1, 88, 0, 0, 0, []),
  (88, .iload_n 2, 1, 89, 0, 0, 0, []),
  (89, .iconst 1, 1, 90, 0, 0, 1, []),
  (90, .iload 5, 2, 92, 0, 0, 0, []),
  (92, .ishl, 1, 93, 0, 0, 0, []),
  (93, .ior, 1, 94, 0, 0, 0, []),
  (94, .iload 5, 2, 96, 0, 0, 0, []),
  (96, .invokevirtual 72, 3, 99, M_Bounds_findBig, 0, 0, []),
  (99, .return_, 1, 100, 0, 0, 0, [])]
set_option maxRecDepth 100000 in
theorem kc_Bounds_findBig : k_Bounds_findBig.all (am_chk am_m92) = true := by decide +kernel
theorem q_Bounds_findBig : am_ms[M_Bounds_findBig]? = some am_m92 := rfl
def k_B_shown : List am_I := [
  (0, .aload_n 0, 1, 1, 0, 0, 0, []),
  (1, .getfield 33, 3, 4, 8, 3, 0, []),
  (4, .getfield 239, 3, 7, 1, 0, 0, []),
  (7, .ifCond .ne 5, 3, 10, 12, 0, 0, []),
  (10, .iconst (-1), 1, 11, 0, 0, (-1), []),
  (11, .ireturn, 1, 12, 0, 0, 0, []),
  (12, .iload_n 1, 1, 13, 0, 0, 0, []),
  (13, .tableswitch 51 0 2 #[27, 35, 43], 27, 40, 64, 0, 0, [40, 48, 56]),
  (40, .aload_n 0, 1, 41, 0, 0, 0, []),
  (41, .getfield 33, 3, 44, 8, 3, 0, []),
  (44, .getfield 230, 3, 47, 1, 1, 0, []),
  (47, .ireturn, 1, 48, 0, 0, 0, []),
  (48, .aload_n 0, 1, 49, 0, 0, 0, []),
  (49, .getfield 33, 3, 52, 8, 3, 0, []),
  (52, .getfield 233, 3, 55, 1, 2, 0, []),
  (55, .ireturn, 1, 56, 0, 0, 0, []),
  (56, .aload_n 0, 1, 57, 0, 0, 0, []),
  (57, .getfield 33, 3, 60, 8, 3, 0, []),
  (60, .getfield 242, 3, 63, 1, 3, 0, []),
  (63, .ireturn, 1, 64, 0, 0, 0, []),
  (64, .iconst (-1), 1, 65, 0, 0, (-1), []),
  (65, .ireturn, 1, 66, 0, 0, 0, [])]
set_option maxRecDepth 100000 in
theorem kc_B_shown : k_B_shown.all (am_chk am_m93) = true := by decide +kernel
theorem q_B_shown : am_ms[M_B_shown]? = some am_m93 := rfl
def k_B_count : List am_I := [
  (0, .aload_n 0, 1, 1, 0, 0, 0, []),
  (1, .getfield 10, 3, 4, 8, 0, 0, []),
  (4, .getfield 88, 3, 7, 5, 0, 0, []),
  (7, .astore_n 2, 1, 8, 0, 0, 0, []),
  (8, .iload_n 1, 1, 9, 0, 0, 0, []),
  (9, .tableswitch 159 0 13 #[71, 79, 90, 98, 106, 114, 119, 124, 129, 134, 139, 144, 149, 154], 71, 80, 168, 0, 0, [80, 88, 99, 107, 115, 123, 128, 133, 138, 143, 148, 153, 158, 163]),
  (80, .aload_n 0, 1, 81, 0, 0, 0, []),
  (81, .getfield 10, 3, 84, 8, 0, 0, []),
  (84, .getfield 45, 3, 87, 5, 2, 0, []),
  (87, .ireturn, 1, 88, 0, 0, 0, []),
  (88, .aload_n 0, 1, 89, 0, 0, 0, []),
  (89, .getfield 10, 3, 92, 8, 0, 0, []),
  (92, .getfield 85, 3, 95, 5, 3, 0, []),
  (95, .invokestatic 148, 3, 98, M_Integer_bitCount, 0, 0, []),
  (98, .ireturn, 1, 99, 0, 0, 0, []),
  (99, .aload_n 0, 1, 100, 0, 0, 0, []),
  (100, .getfield 10, 3, 103, 8, 0, 0, []),
  (103, .invokevirtual 245, 3, 106, M_Hold_weightIn, 0, 0, []),
  (106, .ireturn, 1, 107, 0, 0, 0, []),
  (107, .aload_n 0, 1, 108, 0, 0, 0, []),
  (108, .getfield 10, 3, 111, 8, 0, 0, []),
  (111, .invokevirtual 248, 3, 114, M_Hold_reach, 0, 0, []),
  (114, .ireturn, 1, 115, 0, 0, 0, []),
  (115, .aload_n 0, 1, 116, 0, 0, 0, []),
  (116, .getfield 10, 3, 119, 8, 0, 0, []),
  (119, .invokevirtual 251, 3, 122, M_Hold_cellsFilled, 0, 0, []),
  (122, .ireturn, 1, 123, 0, 0, 0, []),
  (123, .aload_n 2, 1, 124, 0, 0, 0, []),
  (124, .getfield 92, 3, 127, 7, 0, 0, []),
  (127, .ireturn, 1, 128, 0, 0, 0, []),
  (128, .aload_n 2, 1, 129, 0, 0, 0, []),
  (129, .getfield 95, 3, 132, 7, 1, 0, []),
  (132, .ireturn, 1, 133, 0, 0, 0, []),
  (133, .aload_n 2, 1, 134, 0, 0, 0, []),
  (134, .getfield 96, 3, 137, 7, 2, 0, []),
  (137, .ireturn, 1, 138, 0, 0, 0, []),
  (138, .aload_n 2, 1, 139, 0, 0, 0, []),
  (139, .getfield 97, 3, 142, 7, 3, 0, []),
  (142, .ireturn, 1, 143, 0, 0, 0, []),
  (143, .aload_n 2, 1, 144, 0, 0, 0, []),
  (144, .getfield 101, 3, 147, 7, 4, 0, []),
  (147, .ireturn, 1, 148, 0, 0, 0, []),
  (148, .aload_n 2, 1, 149, 0, 0, 0, []),
  (149, .getfield 104, 3, 152, 7, 5, 0, []),
  (152, .ireturn, 1, 153, 0, 0, 0, []),
  (153, .aload_n 2, 1, 154, 0, 0, 0, []),
  (154, .getfield 107, 3, 157, 7, 6, 0, []),
  (157, .ireturn, 1, 158, 0, 0, 0, []),
  (158, .aload_n 2, 1, 159, 0, 0, 0, []),
  (159, .getfield 110, 3, 162, 7, 7, 0, []),
  (162, .ireturn, 1, 163, 0, 0, 0, []),
  (163, .aload_n 2, 1, 164, 0, 0, 0, []),
  (164, .getfield 113, 3, 167, 7, 8, 0, []),
  (167, .ireturn, 1, 168, 0, 0, 0, []),
  (168, .iconst (-1), 1, 169, 0, 0, (-1), []),
  (169, .ireturn, 1, 170, 0, 0, 0, [])]
set_option maxRecDepth 100000 in
theorem kc_B_count : k_B_count.all (am_chk am_m94) = true := by decide +kernel
theorem q_B_count : am_ms[M_B_count]? = some am_m94 := rfl
end
section
/-! the law's code, instruction by instruction (written by tools/gen3.py) -/
def k_L_law_0 : List am_I := [
  (0, .new 7, 3, 3, 8, 0, 0, []),
  (3, .dup, 1, 4, 0, 0, 0, []),
  (4, .invokespecial 9, 3, 7, M_B_new, 0, 0, []),
  (7, .astore_n 1, 1, 8, 0, 0, 0, []),
  (8, .new 10, 3, 11, 9, 0, 0, []),
  (11, .dup, 1, 12, 0, 0, 0, []),
  (12, .invokespecial 12, 3, 15, M_R_new, 0, 0, []),
  (15, .astore_n 2, 1, 16, 0, 0, 0, []),
  (16, .iconst 0, 1, 17, 0, 0, 0, []),
  (17, .istore_n 3, 1, 18, 0, 0, 0, []),
  (18, .iload_n 3, 1, 19, 0, 0, 0, []),
  (19, .aload_n 0, 1, 20, 0, 0, 0, []),
  (20, .arraylength, 1, 21, 0, 0, 0, []),
  (21, .bipush 9, 2, 23, 0, 0, 9, []),
  (23, .isub, 1, 24, 0, 0, 0, []),
  (24, .if_icmp .gt 911, 3, 27, 935, 0, 0, []),
  (27, .aload_n 0, 1, 28, 0, 0, 0, []),
  (28, .iload_n 3, 1, 29, 0, 0, 0, []),
  (29, .iaload, 1, 30, 0, 0, 0, []),
  (30, .bipush 31, 2, 32, 0, 0, 31, []),
  (32, .iand, 1, 33, 0, 0, 0, []),
  (33, .tableswitch 896 0 20 #[99, 214, 257, 280, 333, 356, 435, 514, 537, 560, 573, 596, 629, 672, 715, 738, 751, 794, 827, 850, 873], 99, 132, 929, 0, 0, [132, 247, 290, 313, 366, 389, 468, 547, 570, 593, 606, 629, 662, 705, 748, 771, 784, 827, 860, 883, 906]),
  (132, .aload_n 1, 1, 133, 0, 0, 0, []),
  (133, .aload_n 0, 1, 134, 0, 0, 0, []),
  (134, .iload_n 3, 1, 135, 0, 0, 0, []),
  (135, .iconst 1, 1, 136, 0, 0, 1, []),
  (136, .iadd, 1, 137, 0, 0, 0, []),
  (137, .iaload, 1, 138, 0, 0, 0, []),
  (138, .aload_n 0, 1, 139, 0, 0, 0, []),
  (139, .iload_n 3, 1, 140, 0, 0, 0, []),
  (140, .iconst 2, 1, 141, 0, 0, 2, []),
  (141, .iadd, 1, 142, 0, 0, 0, []),
  (142, .iaload, 1, 143, 0, 0, 0, []),
  (143, .aload_n 0, 1, 144, 0, 0, 0, []),
  (144, .iload_n 3, 1, 145, 0, 0, 0, []),
  (145, .iconst 3, 1, 146, 0, 0, 3, []),
  (146, .iadd, 1, 147, 0, 0, 0, []),
  (147, .iaload, 1, 148, 0, 0, 0, []),
  (148, .aload_n 0, 1, 149, 0, 0, 0, []),
  (149, .iload_n 3, 1, 150, 0, 0, 0, []),
  (150, .iconst 4, 1, 151, 0, 0, 4, []),
  (151, .iadd, 1, 152, 0, 0, 0, []),
  (152, .iaload, 1, 153, 0, 0, 0, []),
  (153, .aload_n 0, 1, 154, 0, 0, 0, []),
  (154, .iload_n 3, 1, 155, 0, 0, 0, [])]
set_option maxRecDepth 100000 in
theorem kc_L_law_0 : k_L_law_0.all (am_chk am_m151) = true := by decide +kernel
def k_L_law_1 : List am_I := [
  (155, .iconst 5, 1, 156, 0, 0, 5, []),
  (156, .iadd, 1, 157, 0, 0, 0, []),
  (157, .iaload, 1, 158, 0, 0, 0, []),
  (158, .aload_n 0, 1, 159, 0, 0, 0, []),
  (159, .iload_n 3, 1, 160, 0, 0, 0, []),
  (160, .bipush 6, 2, 162, 0, 0, 6, []),
  (162, .iadd, 1, 163, 0, 0, 0, []),
  (163, .iaload, 1, 164, 0, 0, 0, []),
  (164, .aload_n 0, 1, 165, 0, 0, 0, []),
  (165, .iload_n 3, 1, 166, 0, 0, 0, []),
  (166, .bipush 7, 2, 168, 0, 0, 7, []),
  (168, .iadd, 1, 169, 0, 0, 0, []),
  (169, .iaload, 1, 170, 0, 0, 0, []),
  (170, .ifCond .eq 7, 3, 173, 177, 0, 0, []),
  (173, .iconst 1, 1, 174, 0, 0, 1, []),
  (174, .goto 4, 3, 177, 178, 0, 0, []),
  (177, .iconst 0, 1, 178, 0, 0, 0, []),
  (178, .aload_n 0, 1, 179, 0, 0, 0, []),
  (179, .iload_n 3, 1, 180, 0, 0, 0, []),
  (180, .bipush 8, 2, 182, 0, 0, 8, []),
  (182, .iadd, 1, 183, 0, 0, 0, []),
  (183, .iaload, 1, 184, 0, 0, 0, []),
  (184, .invokevirtual 13, 3, 187, M_B_box, 0, 0, []),
  (187, .aload_n 2, 1, 188, 0, 0, 0, []),
  (188, .aload_n 0, 1, 189, 0, 0, 0, []),
  (189, .iload_n 3, 1, 190, 0, 0, 0, []),
  (190, .iconst 1, 1, 191, 0, 0, 1, []),
  (191, .iadd, 1, 192, 0, 0, 0, []),
  (192, .iaload, 1, 193, 0, 0, 0, []),
  (193, .aload_n 0, 1, 194, 0, 0, 0, []),
  (194, .iload_n 3, 1, 195, 0, 0, 0, []),
  (195, .iconst 2, 1, 196, 0, 0, 2, []),
  (196, .iadd, 1, 197, 0, 0, 0, []),
  (197, .iaload, 1, 198, 0, 0, 0, []),
  (198, .aload_n 0, 1, 199, 0, 0, 0, []),
  (199, .iload_n 3, 1, 200, 0, 0, 0, []),
  (200, .iconst 3, 1, 201, 0, 0, 3, []),
  (201, .iadd, 1, 202, 0, 0, 0, []),
  (202, .iaload, 1, 203, 0, 0, 0, []),
  (203, .aload_n 0, 1, 204, 0, 0, 0, []),
  (204, .iload_n 3, 1, 205, 0, 0, 0, []),
  (205, .iconst 4, 1, 206, 0, 0, 4, []),
  (206, .iadd, 1, 207, 0, 0, 0, []),
  (207, .iaload, 1, 208, 0, 0, 0, []),
  (208, .aload_n 0, 1, 209, 0, 0, 0, [])]
set_option maxRecDepth 100000 in
theorem kc_L_law_1 : k_L_law_1.all (am_chk am_m151) = true := by decide +kernel
def k_L_law_2 : List am_I := [
  (209, .iload_n 3, 1, 210, 0, 0, 0, []),
  (210, .iconst 5, 1, 211, 0, 0, 5, []),
  (211, .iadd, 1, 212, 0, 0, 0, []),
  (212, .iaload, 1, 213, 0, 0, 0, []),
  (213, .aload_n 0, 1, 214, 0, 0, 0, []),
  (214, .iload_n 3, 1, 215, 0, 0, 0, []),
  (215, .bipush 6, 2, 217, 0, 0, 6, []),
  (217, .iadd, 1, 218, 0, 0, 0, []),
  (218, .iaload, 1, 219, 0, 0, 0, []),
  (219, .aload_n 0, 1, 220, 0, 0, 0, []),
  (220, .iload_n 3, 1, 221, 0, 0, 0, []),
  (221, .bipush 7, 2, 223, 0, 0, 7, []),
  (223, .iadd, 1, 224, 0, 0, 0, []),
  (224, .iaload, 1, 225, 0, 0, 0, []),
  (225, .ifCond .eq 7, 3, 228, 232, 0, 0, []),
  (228, .iconst 1, 1, 229, 0, 0, 1, []),
  (229, .goto 4, 3, 232, 233, 0, 0, []),
  (232, .iconst 0, 1, 233, 0, 0, 0, []),
  (233, .aload_n 0, 1, 234, 0, 0, 0, []),
  (234, .iload_n 3, 1, 235, 0, 0, 0, []),
  (235, .bipush 8, 2, 237, 0, 0, 8, []),
  (237, .iadd, 1, 238, 0, 0, 0, []),
  (238, .iaload, 1, 239, 0, 0, 0, []),
  (239, .invokevirtual 17, 3, 242, M_R_box, 0, 0, []),
  (242, .if_icmp .eq 687, 3, 245, 929, 0, 0, []),
  (245, .iconst 0, 1, 246, 0, 0, 0, []),
  (246, .ireturn, 1, 247, 0, 0, 0, []),
  (247, .aload_n 1, 1, 248, 0, 0, 0, []),
  (248, .aload_n 0, 1, 249, 0, 0, 0, []),
  (249, .iload_n 3, 1, 250, 0, 0, 0, []),
  (250, .iconst 1, 1, 251, 0, 0, 1, []),
  (251, .iadd, 1, 252, 0, 0, 0, []),
  (252, .iaload, 1, 253, 0, 0, 0, []),
  (253, .aload_n 0, 1, 254, 0, 0, 0, []),
  (254, .iload_n 3, 1, 255, 0, 0, 0, []),
  (255, .iconst 2, 1, 256, 0, 0, 2, []),
  (256, .iadd, 1, 257, 0, 0, 0, []),
  (257, .iaload, 1, 258, 0, 0, 0, []),
  (258, .aload_n 0, 1, 259, 0, 0, 0, []),
  (259, .iload_n 3, 1, 260, 0, 0, 0, []),
  (260, .iconst 3, 1, 261, 0, 0, 3, []),
  (261, .iadd, 1, 262, 0, 0, 0, []),
  (262, .iaload, 1, 263, 0, 0, 0, []),
  (263, .invokevirtual 18, 3, 266, M_B_truck, 0, 0, []),
  (266, .aload_n 2, 1, 267, 0, 0, 0, [])]
set_option maxRecDepth 100000 in
theorem kc_L_law_2 : k_L_law_2.all (am_chk am_m151) = true := by decide +kernel
def k_L_law_3 : List am_I := [
  (267, .aload_n 0, 1, 268, 0, 0, 0, []),
  (268, .iload_n 3, 1, 269, 0, 0, 0, []),
  (269, .iconst 1, 1, 270, 0, 0, 1, []),
  (270, .iadd, 1, 271, 0, 0, 0, []),
  (271, .iaload, 1, 272, 0, 0, 0, []),
  (272, .aload_n 0, 1, 273, 0, 0, 0, []),
  (273, .iload_n 3, 1, 274, 0, 0, 0, []),
  (274, .iconst 2, 1, 275, 0, 0, 2, []),
  (275, .iadd, 1, 276, 0, 0, 0, []),
  (276, .iaload, 1, 277, 0, 0, 0, []),
  (277, .aload_n 0, 1, 278, 0, 0, 0, []),
  (278, .iload_n 3, 1, 279, 0, 0, 0, []),
  (279, .iconst 3, 1, 280, 0, 0, 3, []),
  (280, .iadd, 1, 281, 0, 0, 0, []),
  (281, .iaload, 1, 282, 0, 0, 0, []),
  (282, .invokevirtual 22, 3, 285, M_R_truck, 0, 0, []),
  (285, .if_icmp .eq 644, 3, 288, 929, 0, 0, []),
  (288, .iconst 0, 1, 289, 0, 0, 0, []),
  (289, .ireturn, 1, 290, 0, 0, 0, []),
  (290, .aload_n 1, 1, 291, 0, 0, 0, []),
  (291, .aload_n 0, 1, 292, 0, 0, 0, []),
  (292, .iload_n 3, 1, 293, 0, 0, 0, []),
  (293, .iconst 1, 1, 294, 0, 0, 1, []),
  (294, .iadd, 1, 295, 0, 0, 0, []),
  (295, .iaload, 1, 296, 0, 0, 0, []),
  (296, .invokevirtual 23, 3, 299, M_B_share, 0, 0, []),
  (299, .aload_n 2, 1, 300, 0, 0, 0, []),
  (300, .aload_n 0, 1, 301, 0, 0, 0, []),
  (301, .iload_n 3, 1, 302, 0, 0, 0, []),
  (302, .iconst 1, 1, 303, 0, 0, 1, []),
  (303, .iadd, 1, 304, 0, 0, 0, []),
  (304, .iaload, 1, 305, 0, 0, 0, []),
  (305, .invokevirtual 27, 3, 308, M_R_share, 0, 0, []),
  (308, .if_icmp .eq 621, 3, 311, 929, 0, 0, []),
  (311, .iconst 0, 1, 312, 0, 0, 0, []),
  (312, .ireturn, 1, 313, 0, 0, 0, []),
  (313, .aload_n 1, 1, 314, 0, 0, 0, []),
  (314, .aload_n 0, 1, 315, 0, 0, 0, []),
  (315, .iload_n 3, 1, 316, 0, 0, 0, []),
  (316, .iconst 1, 1, 317, 0, 0, 1, []),
  (317, .iadd, 1, 318, 0, 0, 0, []),
  (318, .iaload, 1, 319, 0, 0, 0, []),
  (319, .aload_n 0, 1, 320, 0, 0, 0, []),
  (320, .iload_n 3, 1, 321, 0, 0, 0, []),
  (321, .iconst 2, 1, 322, 0, 0, 2, [])]
set_option maxRecDepth 100000 in
theorem kc_L_law_3 : k_L_law_3.all (am_chk am_m151) = true := by decide +kernel
end
section
/-! the law's code, instruction by instruction (written by tools/gen3.py) -/
def k_L_law_4 : List am_I := [
  (322, .iadd, 1, 323, 0, 0, 0, []),
  (323, .iaload, 1, 324, 0, 0, 0, []),
  (324, .aload_n 0, 1, 325, 0, 0, 0, []),
  (325, .iload_n 3, 1, 326, 0, 0, 0, []),
  (326, .iconst 3, 1, 327, 0, 0, 3, []),
  (327, .iadd, 1, 328, 0, 0, 0, []),
  (328, .iaload, 1, 329, 0, 0, 0, []),
  (329, .aload_n 0, 1, 330, 0, 0, 0, []),
  (330, .iload_n 3, 1, 331, 0, 0, 0, []),
  (331, .iconst 4, 1, 332, 0, 0, 4, []),
  (332, .iadd, 1, 333, 0, 0, 0, []),
  (333, .iaload, 1, 334, 0, 0, 0, []),
  (334, .invokevirtual 28, 3, 337, M_B_axles, 0, 0, []),
  (337, .aload_n 2, 1, 338, 0, 0, 0, []),
  (338, .aload_n 0, 1, 339, 0, 0, 0, []),
  (339, .iload_n 3, 1, 340, 0, 0, 0, []),
  (340, .iconst 1, 1, 341, 0, 0, 1, []),
  (341, .iadd, 1, 342, 0, 0, 0, []),
  (342, .iaload, 1, 343, 0, 0, 0, []),
  (343, .aload_n 0, 1, 344, 0, 0, 0, []),
  (344, .iload_n 3, 1, 345, 0, 0, 0, []),
  (345, .iconst 2, 1, 346, 0, 0, 2, []),
  (346, .iadd, 1, 347, 0, 0, 0, []),
  (347, .iaload, 1, 348, 0, 0, 0, []),
  (348, .aload_n 0, 1, 349, 0, 0, 0, []),
  (349, .iload_n 3, 1, 350, 0, 0, 0, []),
  (350, .iconst 3, 1, 351, 0, 0, 3, []),
  (351, .iadd, 1, 352, 0, 0, 0, []),
  (352, .iaload, 1, 353, 0, 0, 0, []),
  (353, .aload_n 0, 1, 354, 0, 0, 0, []),
  (354, .iload_n 3, 1, 355, 0, 0, 0, []),
  (355, .iconst 4, 1, 356, 0, 0, 4, []),
  (356, .iadd, 1, 357, 0, 0, 0, []),
  (357, .iaload, 1, 358, 0, 0, 0, []),
  (358, .invokevirtual 32, 3, 361, M_R_axles, 0, 0, []),
  (361, .if_icmp .eq 568, 3, 364, 929, 0, 0, []),
  (364, .iconst 0, 1, 365, 0, 0, 0, []),
  (365, .ireturn, 1, 366, 0, 0, 0, []),
  (366, .aload_n 1, 1, 367, 0, 0, 0, []),
  (367, .aload_n 0, 1, 368, 0, 0, 0, []),
  (368, .iload_n 3, 1, 369, 0, 0, 0, []),
  (369, .iconst 1, 1, 370, 0, 0, 1, []),
  (370, .iadd, 1, 371, 0, 0, 0, []),
  (371, .iaload, 1, 372, 0, 0, 0, []),
  (372, .invokevirtual 33, 3, 375, M_B_side, 0, 0, [])]
set_option maxRecDepth 100000 in
theorem kc_L_law_4 : k_L_law_4.all (am_chk am_m151) = true := by decide +kernel
def k_L_law_5 : List am_I := [
  (375, .aload_n 2, 1, 376, 0, 0, 0, []),
  (376, .aload_n 0, 1, 377, 0, 0, 0, []),
  (377, .iload_n 3, 1, 378, 0, 0, 0, []),
  (378, .iconst 1, 1, 379, 0, 0, 1, []),
  (379, .iadd, 1, 380, 0, 0, 0, []),
  (380, .iaload, 1, 381, 0, 0, 0, []),
  (381, .invokevirtual 36, 3, 384, M_R_side, 0, 0, []),
  (384, .if_icmp .eq 545, 3, 387, 929, 0, 0, []),
  (387, .iconst 0, 1, 388, 0, 0, 0, []),
  (388, .ireturn, 1, 389, 0, 0, 0, []),
  (389, .aload_n 1, 1, 390, 0, 0, 0, []),
  (390, .aload_n 0, 1, 391, 0, 0, 0, []),
  (391, .iload_n 3, 1, 392, 0, 0, 0, []),
  (392, .iconst 1, 1, 393, 0, 0, 1, []),
  (393, .iadd, 1, 394, 0, 0, 0, []),
  (394, .iaload, 1, 395, 0, 0, 0, []),
  (395, .aload_n 0, 1, 396, 0, 0, 0, []),
  (396, .iload_n 3, 1, 397, 0, 0, 0, []),
  (397, .iconst 2, 1, 398, 0, 0, 2, []),
  (398, .iadd, 1, 399, 0, 0, 0, []),
  (399, .iaload, 1, 400, 0, 0, 0, []),
  (400, .aload_n 0, 1, 401, 0, 0, 0, []),
  (401, .iload_n 3, 1, 402, 0, 0, 0, []),
  (402, .iconst 3, 1, 403, 0, 0, 3, []),
  (403, .iadd, 1, 404, 0, 0, 0, []),
  (404, .iaload, 1, 405, 0, 0, 0, []),
  (405, .aload_n 0, 1, 406, 0, 0, 0, []),
  (406, .iload_n 3, 1, 407, 0, 0, 0, []),
  (407, .iconst 4, 1, 408, 0, 0, 4, []),
  (408, .iadd, 1, 409, 0, 0, 0, []),
  (409, .iaload, 1, 410, 0, 0, 0, []),
  (410, .aload_n 0, 1, 411, 0, 0, 0, []),
  (411, .iload_n 3, 1, 412, 0, 0, 0, []),
  (412, .iconst 5, 1, 413, 0, 0, 5, []),
  (413, .iadd, 1, 414, 0, 0, 0, []),
  (414, .iaload, 1, 415, 0, 0, 0, []),
  (415, .ifCond .eq 7, 3, 418, 422, 0, 0, []),
  (418, .iconst 1, 1, 419, 0, 0, 1, []),
  (419, .goto 4, 3, 422, 423, 0, 0, []),
  (422, .iconst 0, 1, 423, 0, 0, 0, []),
  (423, .invokevirtual 37, 3, 426, M_B_wrong, 0, 0, []),
  (426, .aload_n 2, 1, 427, 0, 0, 0, []),
  (427, .aload_n 0, 1, 428, 0, 0, 0, []),
  (428, .iload_n 3, 1, 429, 0, 0, 0, []),
  (429, .iconst 1, 1, 430, 0, 0, 1, [])]
set_option maxRecDepth 100000 in
theorem kc_L_law_5 : k_L_law_5.all (am_chk am_m151) = true := by decide +kernel
def k_L_law_6 : List am_I := [
  (430, .iadd, 1, 431, 0, 0, 0, []),
  (431, .iaload, 1, 432, 0, 0, 0, []),
  (432, .aload_n 0, 1, 433, 0, 0, 0, []),
  (433, .iload_n 3, 1, 434, 0, 0, 0, []),
  (434, .iconst 2, 1, 435, 0, 0, 2, []),
  (435, .iadd, 1, 436, 0, 0, 0, []),
  (436, .iaload, 1, 437, 0, 0, 0, []),
  (437, .aload_n 0, 1, 438, 0, 0, 0, []),
  (438, .iload_n 3, 1, 439, 0, 0, 0, []),
  (439, .iconst 3, 1, 440, 0, 0, 3, []),
  (440, .iadd, 1, 441, 0, 0, 0, []),
  (441, .iaload, 1, 442, 0, 0, 0, []),
  (442, .aload_n 0, 1, 443, 0, 0, 0, []),
  (443, .iload_n 3, 1, 444, 0, 0, 0, []),
  (444, .iconst 4, 1, 445, 0, 0, 4, []),
  (445, .iadd, 1, 446, 0, 0, 0, []),
  (446, .iaload, 1, 447, 0, 0, 0, []),
  (447, .aload_n 0, 1, 448, 0, 0, 0, []),
  (448, .iload_n 3, 1, 449, 0, 0, 0, []),
  (449, .iconst 5, 1, 450, 0, 0, 5, []),
  (450, .iadd, 1, 451, 0, 0, 0, []),
  (451, .iaload, 1, 452, 0, 0, 0, []),
  (452, .ifCond .eq 7, 3, 455, 459, 0, 0, []),
  (455, .iconst 1, 1, 456, 0, 0, 1, []),
  (456, .goto 4, 3, 459, 460, 0, 0, []),
  (459, .iconst 0, 1, 460, 0, 0, 0, []),
  (460, .invokevirtual 41, 3, 463, M_R_wrong, 0, 0, []),
  (463, .if_icmp .eq 466, 3, 466, 929, 0, 0, []),
  (466, .iconst 0, 1, 467, 0, 0, 0, []),
  (467, .ireturn, 1, 468, 0, 0, 0, []),
  (468, .aload_n 1, 1, 469, 0, 0, 0, []),
  (469, .aload_n 0, 1, 470, 0, 0, 0, []),
  (470, .iload_n 3, 1, 471, 0, 0, 0, []),
  (471, .iconst 1, 1, 472, 0, 0, 1, []),
  (472, .iadd, 1, 473, 0, 0, 0, []),
  (473, .iaload, 1, 474, 0, 0, 0, []),
  (474, .aload_n 0, 1, 475, 0, 0, 0, []),
  (475, .iload_n 3, 1, 476, 0, 0, 0, []),
  (476, .iconst 2, 1, 477, 0, 0, 2, []),
  (477, .iadd, 1, 478, 0, 0, 0, []),
  (478, .iaload, 1, 479, 0, 0, 0, []),
  (479, .aload_n 0, 1, 480, 0, 0, 0, []),
  (480, .iload_n 3, 1, 481, 0, 0, 0, []),
  (481, .iconst 3, 1, 482, 0, 0, 3, []),
  (482, .iadd, 1, 483, 0, 0, 0, [])]
set_option maxRecDepth 100000 in
theorem kc_L_law_6 : k_L_law_6.all (am_chk am_m151) = true := by decide +kernel
def k_L_law_7 : List am_I := [
  (483, .iaload, 1, 484, 0, 0, 0, []),
  (484, .aload_n 0, 1, 485, 0, 0, 0, []),
  (485, .iload_n 3, 1, 486, 0, 0, 0, []),
  (486, .iconst 4, 1, 487, 0, 0, 4, []),
  (487, .iadd, 1, 488, 0, 0, 0, []),
  (488, .iaload, 1, 489, 0, 0, 0, []),
  (489, .aload_n 0, 1, 490, 0, 0, 0, []),
  (490, .iload_n 3, 1, 491, 0, 0, 0, []),
  (491, .iconst 5, 1, 492, 0, 0, 5, []),
  (492, .iadd, 1, 493, 0, 0, 0, []),
  (493, .iaload, 1, 494, 0, 0, 0, []),
  (494, .ifCond .eq 7, 3, 497, 501, 0, 0, []),
  (497, .iconst 1, 1, 498, 0, 0, 1, []),
  (498, .goto 4, 3, 501, 502, 0, 0, []),
  (501, .iconst 0, 1, 502, 0, 0, 0, []),
  (502, .invokevirtual 42, 3, 505, M_B_place, 0, 0, []),
  (505, .aload_n 2, 1, 506, 0, 0, 0, []),
  (506, .aload_n 0, 1, 507, 0, 0, 0, []),
  (507, .iload_n 3, 1, 508, 0, 0, 0, []),
  (508, .iconst 1, 1, 509, 0, 0, 1, []),
  (509, .iadd, 1, 510, 0, 0, 0, []),
  (510, .iaload, 1, 511, 0, 0, 0, []),
  (511, .aload_n 0, 1, 512, 0, 0, 0, []),
  (512, .iload_n 3, 1, 513, 0, 0, 0, []),
  (513, .iconst 2, 1, 514, 0, 0, 2, []),
  (514, .iadd, 1, 515, 0, 0, 0, []),
  (515, .iaload, 1, 516, 0, 0, 0, []),
  (516, .aload_n 0, 1, 517, 0, 0, 0, []),
  (517, .iload_n 3, 1, 518, 0, 0, 0, []),
  (518, .iconst 3, 1, 519, 0, 0, 3, []),
  (519, .iadd, 1, 520, 0, 0, 0, []),
  (520, .iaload, 1, 521, 0, 0, 0, []),
  (521, .aload_n 0, 1, 522, 0, 0, 0, []),
  (522, .iload_n 3, 1, 523, 0, 0, 0, []),
  (523, .iconst 4, 1, 524, 0, 0, 4, []),
  (524, .iadd, 1, 525, 0, 0, 0, []),
  (525, .iaload, 1, 526, 0, 0, 0, []),
  (526, .aload_n 0, 1, 527, 0, 0, 0, []),
  (527, .iload_n 3, 1, 528, 0, 0, 0, []),
  (528, .iconst 5, 1, 529, 0, 0, 5, []),
  (529, .iadd, 1, 530, 0, 0, 0, []),
  (530, .iaload, 1, 531, 0, 0, 0, []),
  (531, .ifCond .eq 7, 3, 534, 538, 0, 0, []),
  (534, .iconst 1, 1, 535, 0, 0, 1, []),
  (535, .goto 4, 3, 538, 539, 0, 0, [])]
set_option maxRecDepth 100000 in
theorem kc_L_law_7 : k_L_law_7.all (am_chk am_m151) = true := by decide +kernel
end
section
/-! the law's code, instruction by instruction (written by tools/gen3.py) -/
def k_L_law_8 : List am_I := [
  (538, .iconst 0, 1, 539, 0, 0, 0, []),
  (539, .invokevirtual 45, 3, 542, M_R_place, 0, 0, []),
  (542, .if_icmp .eq 387, 3, 545, 929, 0, 0, []),
  (545, .iconst 0, 1, 546, 0, 0, 0, []),
  (546, .ireturn, 1, 547, 0, 0, 0, []),
  (547, .aload_n 1, 1, 548, 0, 0, 0, []),
  (548, .aload_n 0, 1, 549, 0, 0, 0, []),
  (549, .iload_n 3, 1, 550, 0, 0, 0, []),
  (550, .iconst 1, 1, 551, 0, 0, 1, []),
  (551, .iadd, 1, 552, 0, 0, 0, []),
  (552, .iaload, 1, 553, 0, 0, 0, []),
  (553, .invokevirtual 46, 3, 556, M_B_set, 0, 0, []),
  (556, .aload_n 2, 1, 557, 0, 0, 0, []),
  (557, .aload_n 0, 1, 558, 0, 0, 0, []),
  (558, .iload_n 3, 1, 559, 0, 0, 0, []),
  (559, .iconst 1, 1, 560, 0, 0, 1, []),
  (560, .iadd, 1, 561, 0, 0, 0, []),
  (561, .iaload, 1, 562, 0, 0, 0, []),
  (562, .invokevirtual 49, 3, 565, M_R_set, 0, 0, []),
  (565, .if_icmp .eq 364, 3, 568, 929, 0, 0, []),
  (568, .iconst 0, 1, 569, 0, 0, 0, []),
  (569, .ireturn, 1, 570, 0, 0, 0, []),
  (570, .aload_n 1, 1, 571, 0, 0, 0, []),
  (571, .aload_n 0, 1, 572, 0, 0, 0, []),
  (572, .iload_n 3, 1, 573, 0, 0, 0, []),
  (573, .iconst 1, 1, 574, 0, 0, 1, []),
  (574, .iadd, 1, 575, 0, 0, 0, []),
  (575, .iaload, 1, 576, 0, 0, 0, []),
  (576, .invokevirtual 50, 3, 579, M_B_take, 0, 0, []),
  (579, .aload_n 2, 1, 580, 0, 0, 0, []),
  (580, .aload_n 0, 1, 581, 0, 0, 0, []),
  (581, .iload_n 3, 1, 582, 0, 0, 0, []),
  (582, .iconst 1, 1, 583, 0, 0, 1, []),
  (583, .iadd, 1, 584, 0, 0, 0, []),
  (584, .iaload, 1, 585, 0, 0, 0, []),
  (585, .invokevirtual 53, 3, 588, M_R_take, 0, 0, []),
  (588, .if_icmp .eq 341, 3, 591, 929, 0, 0, []),
  (591, .iconst 0, 1, 592, 0, 0, 0, []),
  (592, .ireturn, 1, 593, 0, 0, 0, []),
  (593, .aload_n 1, 1, 594, 0, 0, 0, []),
  (594, .invokevirtual 54, 3, 597, M_B_clear, 0, 0, []),
  (597, .aload_n 2, 1, 598, 0, 0, 0, []),
  (598, .invokevirtual 58, 3, 601, M_R_clear, 0, 0, []),
  (601, .if_icmp .eq 328, 3, 604, 929, 0, 0, []),
  (604, .iconst 0, 1, 605, 0, 0, 0, [])]
set_option maxRecDepth 100000 in
theorem kc_L_law_8 : k_L_law_8.all (am_chk am_m151) = true := by decide +kernel
def k_L_law_9 : List am_I := [
  (605, .ireturn, 1, 606, 0, 0, 0, []),
  (606, .aload_n 1, 1, 607, 0, 0, 0, []),
  (607, .aload_n 0, 1, 608, 0, 0, 0, []),
  (608, .iload_n 3, 1, 609, 0, 0, 0, []),
  (609, .iconst 1, 1, 610, 0, 0, 1, []),
  (610, .iadd, 1, 611, 0, 0, 0, []),
  (611, .iaload, 1, 612, 0, 0, 0, []),
  (612, .invokevirtual 59, 3, 615, M_B_best, 0, 0, []),
  (615, .aload_n 2, 1, 616, 0, 0, 0, []),
  (616, .aload_n 0, 1, 617, 0, 0, 0, []),
  (617, .iload_n 3, 1, 618, 0, 0, 0, []),
  (618, .iconst 1, 1, 619, 0, 0, 1, []),
  (619, .iadd, 1, 620, 0, 0, 0, []),
  (620, .iaload, 1, 621, 0, 0, 0, []),
  (621, .invokevirtual 62, 3, 624, M_R_best, 0, 0, []),
  (624, .if_icmp .eq 305, 3, 627, 929, 0, 0, []),
  (627, .iconst 0, 1, 628, 0, 0, 0, []),
  (628, .ireturn, 1, 629, 0, 0, 0, []),
  (629, .aload_n 1, 1, 630, 0, 0, 0, []),
  (630, .aload_n 0, 1, 631, 0, 0, 0, []),
  (631, .iload_n 3, 1, 632, 0, 0, 0, []),
  (632, .iconst 1, 1, 633, 0, 0, 1, []),
  (633, .iadd, 1, 634, 0, 0, 0, []),
  (634, .iaload, 1, 635, 0, 0, 0, []),
  (635, .aload_n 0, 1, 636, 0, 0, 0, []),
  (636, .iload_n 3, 1, 637, 0, 0, 0, []),
  (637, .iconst 2, 1, 638, 0, 0, 2, []),
  (638, .iadd, 1, 639, 0, 0, 0, []),
  (639, .iaload, 1, 640, 0, 0, 0, []),
  (640, .invokevirtual 63, 3, 643, M_B_about, 0, 0, []),
  (643, .aload_n 2, 1, 644, 0, 0, 0, []),
  (644, .aload_n 0, 1, 645, 0, 0, 0, []),
  (645, .iload_n 3, 1, 646, 0, 0, 0, []),
  (646, .iconst 1, 1, 647, 0, 0, 1, []),
  (647, .iadd, 1, 648, 0, 0, 0, []),
  (648, .iaload, 1, 649, 0, 0, 0, []),
  (649, .aload_n 0, 1, 650, 0, 0, 0, []),
  (650, .iload_n 3, 1, 651, 0, 0, 0, []),
  (651, .iconst 2, 1, 652, 0, 0, 2, []),
  (652, .iadd, 1, 653, 0, 0, 0, []),
  (653, .iaload, 1, 654, 0, 0, 0, []),
  (654, .invokevirtual 67, 3, 657, M_R_about, 0, 0, []),
  (657, .if_icmp .eq 272, 3, 660, 929, 0, 0, []),
  (660, .iconst 0, 1, 661, 0, 0, 0, []),
  (661, .ireturn, 1, 662, 0, 0, 0, [])]
set_option maxRecDepth 100000 in
theorem kc_L_law_9 : k_L_law_9.all (am_chk am_m151) = true := by decide +kernel
def k_L_law_10 : List am_I := [
  (662, .aload_n 1, 1, 663, 0, 0, 0, []),
  (663, .aload_n 0, 1, 664, 0, 0, 0, []),
  (664, .iload_n 3, 1, 665, 0, 0, 0, []),
  (665, .iconst 1, 1, 666, 0, 0, 1, []),
  (666, .iadd, 1, 667, 0, 0, 0, []),
  (667, .iaload, 1, 668, 0, 0, 0, []),
  (668, .aload_n 0, 1, 669, 0, 0, 0, []),
  (669, .iload_n 3, 1, 670, 0, 0, 0, []),
  (670, .iconst 2, 1, 671, 0, 0, 2, []),
  (671, .iadd, 1, 672, 0, 0, 0, []),
  (672, .iaload, 1, 673, 0, 0, 0, []),
  (673, .aload_n 0, 1, 674, 0, 0, 0, []),
  (674, .iload_n 3, 1, 675, 0, 0, 0, []),
  (675, .iconst 3, 1, 676, 0, 0, 3, []),
  (676, .iadd, 1, 677, 0, 0, 0, []),
  (677, .iaload, 1, 678, 0, 0, 0, []),
  (678, .invokevirtual 68, 3, 681, M_B_at, 0, 0, []),
  (681, .aload_n 2, 1, 682, 0, 0, 0, []),
  (682, .aload_n 0, 1, 683, 0, 0, 0, []),
  (683, .iload_n 3, 1, 684, 0, 0, 0, []),
  (684, .iconst 1, 1, 685, 0, 0, 1, []),
  (685, .iadd, 1, 686, 0, 0, 0, []),
  (686, .iaload, 1, 687, 0, 0, 0, []),
  (687, .aload_n 0, 1, 688, 0, 0, 0, []),
  (688, .iload_n 3, 1, 689, 0, 0, 0, []),
  (689, .iconst 2, 1, 690, 0, 0, 2, []),
  (690, .iadd, 1, 691, 0, 0, 0, []),
  (691, .iaload, 1, 692, 0, 0, 0, []),
  (692, .aload_n 0, 1, 693, 0, 0, 0, []),
  (693, .iload_n 3, 1, 694, 0, 0, 0, []),
  (694, .iconst 3, 1, 695, 0, 0, 3, []),
  (695, .iadd, 1, 696, 0, 0, 0, []),
  (696, .iaload, 1, 697, 0, 0, 0, []),
  (697, .invokevirtual 71, 3, 700, M_R_at, 0, 0, []),
  (700, .if_icmp .eq 229, 3, 703, 929, 0, 0, []),
  (703, .iconst 0, 1, 704, 0, 0, 0, []),
  (704, .ireturn, 1, 705, 0, 0, 0, []),
  (705, .aload_n 1, 1, 706, 0, 0, 0, []),
  (706, .aload_n 0, 1, 707, 0, 0, 0, []),
  (707, .iload_n 3, 1, 708, 0, 0, 0, []),
  (708, .iconst 1, 1, 709, 0, 0, 1, []),
  (709, .iadd, 1, 710, 0, 0, 0, []),
  (710, .iaload, 1, 711, 0, 0, 0, []),
  (711, .aload_n 0, 1, 712, 0, 0, 0, []),
  (712, .iload_n 3, 1, 713, 0, 0, 0, [])]
set_option maxRecDepth 100000 in
theorem kc_L_law_10 : k_L_law_10.all (am_chk am_m151) = true := by decide +kernel
def k_L_law_11 : List am_I := [
  (713, .iconst 2, 1, 714, 0, 0, 2, []),
  (714, .iadd, 1, 715, 0, 0, 0, []),
  (715, .iaload, 1, 716, 0, 0, 0, []),
  (716, .aload_n 0, 1, 717, 0, 0, 0, []),
  (717, .iload_n 3, 1, 718, 0, 0, 0, []),
  (718, .iconst 3, 1, 719, 0, 0, 3, []),
  (719, .iadd, 1, 720, 0, 0, 0, []),
  (720, .iaload, 1, 721, 0, 0, 0, []),
  (721, .invokevirtual 72, 3, 724, M_B_axle, 0, 0, []),
  (724, .aload_n 2, 1, 725, 0, 0, 0, []),
  (725, .aload_n 0, 1, 726, 0, 0, 0, []),
  (726, .iload_n 3, 1, 727, 0, 0, 0, []),
  (727, .iconst 1, 1, 728, 0, 0, 1, []),
  (728, .iadd, 1, 729, 0, 0, 0, []),
  (729, .iaload, 1, 730, 0, 0, 0, []),
  (730, .aload_n 0, 1, 731, 0, 0, 0, []),
  (731, .iload_n 3, 1, 732, 0, 0, 0, []),
  (732, .iconst 2, 1, 733, 0, 0, 2, []),
  (733, .iadd, 1, 734, 0, 0, 0, []),
  (734, .iaload, 1, 735, 0, 0, 0, []),
  (735, .aload_n 0, 1, 736, 0, 0, 0, []),
  (736, .iload_n 3, 1, 737, 0, 0, 0, []),
  (737, .iconst 3, 1, 738, 0, 0, 3, []),
  (738, .iadd, 1, 739, 0, 0, 0, []),
  (739, .iaload, 1, 740, 0, 0, 0, []),
  (740, .invokevirtual 75, 3, 743, M_R_axle, 0, 0, []),
  (743, .if_icmp .eq 186, 3, 746, 929, 0, 0, []),
  (746, .iconst 0, 1, 747, 0, 0, 0, []),
  (747, .ireturn, 1, 748, 0, 0, 0, []),
  (748, .aload_n 1, 1, 749, 0, 0, 0, []),
  (749, .aload_n 0, 1, 750, 0, 0, 0, []),
  (750, .iload_n 3, 1, 751, 0, 0, 0, []),
  (751, .iconst 1, 1, 752, 0, 0, 1, []),
  (752, .iadd, 1, 753, 0, 0, 0, []),
  (753, .iaload, 1, 754, 0, 0, 0, []),
  (754, .invokevirtual 76, 3, 757, M_B_over, 0, 0, []),
  (757, .aload_n 2, 1, 758, 0, 0, 0, []),
  (758, .aload_n 0, 1, 759, 0, 0, 0, []),
  (759, .iload_n 3, 1, 760, 0, 0, 0, []),
  (760, .iconst 1, 1, 761, 0, 0, 1, []),
  (761, .iadd, 1, 762, 0, 0, 0, []),
  (762, .iaload, 1, 763, 0, 0, 0, []),
  (763, .invokevirtual 79, 3, 766, M_R_over, 0, 0, []),
  (766, .if_icmp .eq 163, 3, 769, 929, 0, 0, []),
  (769, .iconst 0, 1, 770, 0, 0, 0, [])]
set_option maxRecDepth 100000 in
theorem kc_L_law_11 : k_L_law_11.all (am_chk am_m151) = true := by decide +kernel
end
section
/-! the law's code, instruction by instruction (written by tools/gen3.py) -/
def k_L_law_12 : List am_I := [
  (770, .ireturn, 1, 771, 0, 0, 0, []),
  (771, .aload_n 1, 1, 772, 0, 0, 0, []),
  (772, .invokevirtual 80, 3, 775, M_B_fit, 0, 0, []),
  (775, .aload_n 2, 1, 776, 0, 0, 0, []),
  (776, .invokevirtual 83, 3, 779, M_R_fit, 0, 0, []),
  (779, .if_icmp .eq 150, 3, 782, 929, 0, 0, []),
  (782, .iconst 0, 1, 783, 0, 0, 0, []),
  (783, .ireturn, 1, 784, 0, 0, 0, []),
  (784, .aload_n 1, 1, 785, 0, 0, 0, []),
  (785, .aload_n 0, 1, 786, 0, 0, 0, []),
  (786, .iload_n 3, 1, 787, 0, 0, 0, []),
  (787, .iconst 1, 1, 788, 0, 0, 1, []),
  (788, .iadd, 1, 789, 0, 0, 0, []),
  (789, .iaload, 1, 790, 0, 0, 0, []),
  (790, .aload_n 0, 1, 791, 0, 0, 0, []),
  (791, .iload_n 3, 1, 792, 0, 0, 0, []),
  (792, .iconst 2, 1, 793, 0, 0, 2, []),
  (793, .iadd, 1, 794, 0, 0, 0, []),
  (794, .iaload, 1, 795, 0, 0, 0, []),
  (795, .aload_n 0, 1, 796, 0, 0, 0, []),
  (796, .iload_n 3, 1, 797, 0, 0, 0, []),
  (797, .iconst 3, 1, 798, 0, 0, 3, []),
  (798, .iadd, 1, 799, 0, 0, 0, []),
  (799, .iaload, 1, 800, 0, 0, 0, []),
  (800, .invokevirtual 84, 3, 803, M_B_cut, 0, 0, []),
  (803, .aload_n 2, 1, 804, 0, 0, 0, []),
  (804, .aload_n 0, 1, 805, 0, 0, 0, []),
  (805, .iload_n 3, 1, 806, 0, 0, 0, []),
  (806, .iconst 1, 1, 807, 0, 0, 1, []),
  (807, .iadd, 1, 808, 0, 0, 0, []),
  (808, .iaload, 1, 809, 0, 0, 0, []),
  (809, .aload_n 0, 1, 810, 0, 0, 0, []),
  (810, .iload_n 3, 1, 811, 0, 0, 0, []),
  (811, .iconst 2, 1, 812, 0, 0, 2, []),
  (812, .iadd, 1, 813, 0, 0, 0, []),
  (813, .iaload, 1, 814, 0, 0, 0, []),
  (814, .aload_n 0, 1, 815, 0, 0, 0, []),
  (815, .iload_n 3, 1, 816, 0, 0, 0, []),
  (816, .iconst 3, 1, 817, 0, 0, 3, []),
  (817, .iadd, 1, 818, 0, 0, 0, []),
  (818, .iaload, 1, 819, 0, 0, 0, []),
  (819, .invokevirtual 87, 3, 822, M_R_cut, 0, 0, []),
  (822, .if_icmp .eq 107, 3, 825, 929, 0, 0, []),
  (825, .iconst 0, 1, 826, 0, 0, 0, []),
  (826, .ireturn, 1, 827, 0, 0, 0, [])]
set_option maxRecDepth 100000 in
theorem kc_L_law_12 : k_L_law_12.all (am_chk am_m151) = true := by decide +kernel
def k_L_law_13 : List am_I := [
  (827, .aload_n 1, 1, 828, 0, 0, 0, []),
  (828, .aload_n 0, 1, 829, 0, 0, 0, []),
  (829, .iload_n 3, 1, 830, 0, 0, 0, []),
  (830, .iconst 1, 1, 831, 0, 0, 1, []),
  (831, .iadd, 1, 832, 0, 0, 0, []),
  (832, .iaload, 1, 833, 0, 0, 0, []),
  (833, .aload_n 0, 1, 834, 0, 0, 0, []),
  (834, .iload_n 3, 1, 835, 0, 0, 0, []),
  (835, .iconst 2, 1, 836, 0, 0, 2, []),
  (836, .iadd, 1, 837, 0, 0, 0, []),
  (837, .iaload, 1, 838, 0, 0, 0, []),
  (838, .invokevirtual 88, 3, 841, M_B_piece, 0, 0, []),
  (841, .aload_n 2, 1, 842, 0, 0, 0, []),
  (842, .aload_n 0, 1, 843, 0, 0, 0, []),
  (843, .iload_n 3, 1, 844, 0, 0, 0, []),
  (844, .iconst 1, 1, 845, 0, 0, 1, []),
  (845, .iadd, 1, 846, 0, 0, 0, []),
  (846, .iaload, 1, 847, 0, 0, 0, []),
  (847, .aload_n 0, 1, 848, 0, 0, 0, []),
  (848, .iload_n 3, 1, 849, 0, 0, 0, []),
  (849, .iconst 2, 1, 850, 0, 0, 2, []),
  (850, .iadd, 1, 851, 0, 0, 0, []),
  (851, .iaload, 1, 852, 0, 0, 0, []),
  (852, .invokevirtual 91, 3, 855, M_R_piece, 0, 0, []),
  (855, .if_icmp .eq 74, 3, 858, 929, 0, 0, []),
  (858, .iconst 0, 1, 859, 0, 0, 0, []),
  (859, .ireturn, 1, 860, 0, 0, 0, []),
  (860, .aload_n 1, 1, 861, 0, 0, 0, []),
  (861, .aload_n 0, 1, 862, 0, 0, 0, []),
  (862, .iload_n 3, 1, 863, 0, 0, 0, []),
  (863, .iconst 1, 1, 864, 0, 0, 1, []),
  (864, .iadd, 1, 865, 0, 0, 0, []),
  (865, .iaload, 1, 866, 0, 0, 0, []),
  (866, .invokevirtual 92, 3, 869, M_B_trucks, 0, 0, []),
  (869, .aload_n 2, 1, 870, 0, 0, 0, []),
  (870, .aload_n 0, 1, 871, 0, 0, 0, []),
  (871, .iload_n 3, 1, 872, 0, 0, 0, []),
  (872, .iconst 1, 1, 873, 0, 0, 1, []),
  (873, .iadd, 1, 874, 0, 0, 0, []),
  (874, .iaload, 1, 875, 0, 0, 0, []),
  (875, .invokevirtual 95, 3, 878, M_R_trucks, 0, 0, []),
  (878, .if_icmp .eq 51, 3, 881, 929, 0, 0, []),
  (881, .iconst 0, 1, 882, 0, 0, 0, []),
  (882, .ireturn, 1, 883, 0, 0, 0, []),
  (883, .aload_n 1, 1, 884, 0, 0, 0, [])]
set_option maxRecDepth 100000 in
theorem kc_L_law_13 : k_L_law_13.all (am_chk am_m151) = true := by decide +kernel
def k_L_law_14 : List am_I := [
  (884, .aload_n 0, 1, 885, 0, 0, 0, []),
  (885, .iload_n 3, 1, 886, 0, 0, 0, []),
  (886, .iconst 1, 1, 887, 0, 0, 1, []),
  (887, .iadd, 1, 888, 0, 0, 0, []),
  (888, .iaload, 1, 889, 0, 0, 0, []),
  (889, .invokevirtual 96, 3, 892, M_B_shown, 0, 0, []),
  (892, .aload_n 2, 1, 893, 0, 0, 0, []),
  (893, .aload_n 0, 1, 894, 0, 0, 0, []),
  (894, .iload_n 3, 1, 895, 0, 0, 0, []),
  (895, .iconst 1, 1, 896, 0, 0, 1, []),
  (896, .iadd, 1, 897, 0, 0, 0, []),
  (897, .iaload, 1, 898, 0, 0, 0, []),
  (898, .invokevirtual 99, 3, 901, M_R_shown, 0, 0, []),
  (901, .if_icmp .eq 28, 3, 904, 929, 0, 0, []),
  (904, .iconst 0, 1, 905, 0, 0, 0, []),
  (905, .ireturn, 1, 906, 0, 0, 0, []),
  (906, .aload_n 1, 1, 907, 0, 0, 0, []),
  (907, .aload_n 0, 1, 908, 0, 0, 0, []),
  (908, .iload_n 3, 1, 909, 0, 0, 0, []),
  (909, .iconst 1, 1, 910, 0, 0, 1, []),
  (910, .iadd, 1, 911, 0, 0, 0, []),
  (911, .iaload, 1, 912, 0, 0, 0, []),
  (912, .invokevirtual 100, 3, 915, M_B_count, 0, 0, []),
  (915, .aload_n 2, 1, 916, 0, 0, 0, []),
  (916, .aload_n 0, 1, 917, 0, 0, 0, []),
  (917, .iload_n 3, 1, 918, 0, 0, 0, []),
  (918, .iconst 1, 1, 919, 0, 0, 1, []),
  (919, .iadd, 1, 920, 0, 0, 0, []),
  (920, .iaload, 1, 921, 0, 0, 0, []),
  (921, .invokevirtual 103, 3, 924, M_R_count, 0, 0, []),
  (924, .if_icmp .eq 5, 3, 927, 929, 0, 0, []),
  (927, .iconst 0, 1, 928, 0, 0, 0, []),
  (928, .ireturn, 1, 929, 0, 0, 0, []),
  (929, .iinc 3 9, 3, 932, 0, 0, 9, []),
  (932, .goto (-914), 3, 935, 18, 0, 0, []),
  (935, .iconst 1, 1, 936, 0, 0, 1, []),
  (936, .ireturn, 1, 937, 0, 0, 0, [])]
set_option maxRecDepth 100000 in
theorem kc_L_law_14 : k_L_law_14.all (am_chk am_m151) = true := by decide +kernel
def k_L_law : List am_I := k_L_law_0 ++ (k_L_law_1 ++ (k_L_law_2 ++ (k_L_law_3 ++ (k_L_law_4 ++ (k_L_law_5 ++ (k_L_law_6 ++ (k_L_law_7 ++ (k_L_law_8 ++ (k_L_law_9 ++ (k_L_law_10 ++ (k_L_law_11 ++ (k_L_law_12 ++ (k_L_law_13 ++ (k_L_law_14))))))))))))))
theorem kc_L_law : k_L_law.all (am_chk am_m151) = true := by
  unfold k_L_law
  simp only [List.all_append, kc_L_law_0, kc_L_law_1, kc_L_law_2, kc_L_law_3, kc_L_law_4, kc_L_law_5, kc_L_law_6, kc_L_law_7, kc_L_law_8, kc_L_law_9, kc_L_law_10, kc_L_law_11, kc_L_law_12, kc_L_law_13, kc_L_law_14, Bool.and_self]
theorem q_L_law : am_ms[M_L_law]? = some am_m151 := rfl
end
section
/-! the claim out of one am_Go of the law -/
theorem am_start {s : State} {args : Array Value} (hts : ∀ w ∈ lw_tbl, w.before args s = true) : ∃ (D : va_G) (DA : Nat → ClassId), am_K D DA s := by
  have h1 : ∀ ci : Nat, ∃ z : ClassId × (Nat → Nat), ∀ q : vw_C, am_cls[ci]? = some q → u_Kn s q.1 q.2.1 q.2.2 z.1 z.2 := by
    intro ci
    cases hq : am_cls[ci]? with
    | none => exact ⟨(0, fun _ => 0), fun q h => by cases h⟩
    | some w =>
      obtain ⟨-, h2, -, -, h5, -⟩ := am_clsOk ci w hq
      obtain ⟨cC, iS, h⟩ := u_known hts h2 (hts _ h5)
      exact ⟨(cC, iS), fun q h9 => by cases h9; exact h⟩
  obtain ⟨f, hf⟩ := Classical.axiomOfChoice h1
  obtain ⟨c0, k0, p0, a1, a2, a3⟩ := Cond.arrayClass_spec (hts _ (List.mem_of_getElem? am_ac_int))
  obtain ⟨c1, k1, p1, b1, b2, b3⟩ := Cond.arrayClass_spec (hts _ (List.mem_of_getElem? am_ac_boolean))
  obtain ⟨p2, c2, k2, d1, -, d2, d3, d4⟩ := Cond.arrayOver_spec (hts _ (List.mem_of_getElem? am_ao))
  refine ⟨(fun ci => (f ci).1, fun ci => (f ci).2), fun t => if t = 0 then c0 else if t = 1 then c1 else c2, ⟨fun c q h => hf c q h, fun k z hz => ?_⟩, hts _ (List.mem_of_getElem? am_ao), fun z hz => va_Nw.of rfl (hts _ (am_mem am_MNe _ (List.mem_map.mpr ⟨z, hz, rfl⟩)))⟩
  match k, hz with
  | 0, hz =>
    cases hz
    exact ⟨fun n z => ⟨fun k h => (by cases h), k0, a2, p0, a3⟩, a1⟩
  | 1, hz =>
    cases hz
    exact ⟨fun n z => ⟨fun k h => (by cases h), k1, b2, p1, b3⟩, b1⟩
  | 2, hz =>
    cases hz
    exact ⟨fun n z => ⟨fun k h => (by cases h), k2, d2, p2, d3⟩, k2, p2, d2, d3, d1, d4⟩
  | n + 3, hz => cases hz
/-- the law's start: the script alone -/
def am_X0 (L : Nat) (xs : Nat → Int32) : am_X := ([.inr (9, L)], fun _ _ => .null, fun c k => if c = 0 then xs k else 0)
def am_Law : Prop := ∀ (l : Launch) (D : va_G) (DA : Nat → ClassId) (b sz L : Nat) (xs : Nat → Int32), L ≤ 4608 → ∃ (d : Nat) (X' : am_X), d ≤ 1000 ∧ X'.1.length ≤ 600001 ∧ am_ns X'.1 ≤ L + 7302250 ∧ am_Go l D DA b sz d M_L_law (0, [some (.ref 0), none, none, none], [], am_X0 L xs) (some (.int 1)) X'
theorem whole_of_go (hgo : am_Law) {p : Program} {e : Env} {s : State} {m : MethodId} {below : List Frame} {meth : Method} {c : Code} (l : Launch) {b L : Nat} {xs : Nat → Int32} (hL : L ≤ 4608) (hx : p.tables.exec = Jvm.exec) (hb : c.code = code) (hr : meth.sig.returnType = ret) (hml : c.maxLocals = 4) (hown : s.vm.findClass "BoxNestLaw" = some m.cls) (hts : ∀ w ∈ lw_tbl, w.before #[Value.ref b] s = true) (hX : va_X b L xs s s.heap) (hbl : b < s.heap.size) (hlocks : meth.locks = false)
    {Z : State → Prop} (hret : ∀ (pc : Nat) (H : Heap) (ls : Array Slot), decode code pc = .ok (.ireturn, 1) → W p l e room_1 s m #[Value.ref b] below meth c H [] 600000 7302250 Z (F0 m pc ls [.int 1])) :
    W p l e room_1 s m #[Value.ref b] below meth c s.heap [] 0 0 Z (entryFrame m ([Value.ref b] : List Value).toArray 4) := by
  obtain ⟨D, DA, hK⟩ := am_start hts
  obtain ⟨d, X', hd, h1, h2, G⟩ := hgo l D DA b s.heap.size L xs hL
  have hA : am_At D DA am_m151 p s m #[Value.ref b] meth c := ⟨hx, hb, hml, hown, fun w hw => hts w (am_tb_lw hw), hK, fun h => by cases h⟩
  rw [lg_entry_eq]
  have hr1 : room_1.frames = 2048 := rfl
  have hr2 : room_1.locals = 84000 := rfl
  have hr3 : room_1.cells = 600000 := rfl
  have hr4 : room_1.slots = 7302250 := rfl
  have e1 : (am_X0 L xs).1.length = 1 := rfl
  have e2 : am_ns (am_X0 L xs).1 = L := by simp [am_ns, am_X0, am_w1]
  refine G.2.2 am_m151 q_L_law p e room_1 s m _ below meth c Z _ s.heap [] 0 0 hA (by rw [hr1]; omega) (by rw [hr2]; omega) (by rw [hr3]; show 0 + (X'.1.length - (am_X0 L xs).1.length) ≤ _; rw [e1]; omega) (by rw [hr4]; show 0 + (am_ns X'.1 - am_ns (am_X0 L xs).1) ≤ _; rw [e2]; omega) (am_ent_Ls (b := b) (sz := s.heap.size) (As := [.ref 0]) (nL := 4) (by decide)) ⟨hbl, ⟨L, rfl⟩, rfl, fun c0 x hx0 => ?_⟩ (fun z h => by cases h) ?_
  · match c0, hx0 with
    | 0, hx0 =>
      cases hx0
      refine Or.inl ⟨rfl, rfl, ?_⟩
      exact hX
    | n + 1, hx0 => cases hx0
  · intro pc' ls' H' locs' hO' hlo' hrt
    refine va_forget hlo' ?_
    refine W.widen (k := 600000) (n := 7302250) (by show 0 + (X'.1.length - (am_X0 L xs).1.length) ≤ _; rw [e1]; omega) (by show 0 + (am_ns X'.1 - am_ns (am_X0 L xs).1) ≤ _; rw [e2]; omega) ?_
    exact hret pc' H' ls' hrt.1
end
