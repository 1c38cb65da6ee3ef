section
-- ===== PART A: goes FIRST, ahead of the names: the tables' words, and 'selects' of the private methods out of them =====
/-- a private method of a class that the tables say can be made, by its rows of tables_1 -/
def lw_okq (q : MethodName × Nat) : Prop := (q.1.cls ≠ "java/lang/invoke/MethodHandle" ∧ q.1.cls ≠ "java/lang/invoke/VarHandle") ∧ Cond.instantiable q.1.cls q.2 ∈ tables_1 ∧ Cond.privateMethod q.1 ∈ tables_1 ∧ Cond.instanceMethod q.1 ∈ tables_1
theorem lw_p0 : lw_okq (⟨"BoxNest", "refusal", "(IIIIZ)I"⟩, 5) := ⟨⟨by decide +kernel, by decide +kernel⟩, List.mem_of_getElem? (i := 15) (by decide +kernel), List.mem_of_getElem? (i := 371) (by decide +kernel), List.mem_of_getElem? (i := 372) (by decide +kernel)⟩
theorem lw_p1 : lw_okq (⟨"BoxNest$Hold", "commonInX", "(II)I"⟩, 12) := ⟨⟨by decide +kernel, by decide +kernel⟩, List.mem_of_getElem? (i := 23) (by decide +kernel), List.mem_of_getElem? (i := 391) (by decide +kernel), List.mem_of_getElem? (i := 392) (by decide +kernel)⟩
theorem lw_p2 : lw_okq (⟨"BoxNest$Hold", "commonInY", "(II)I"⟩, 12) := ⟨⟨by decide +kernel, by decide +kernel⟩, List.mem_of_getElem? (i := 23) (by decide +kernel), List.mem_of_getElem? (i := 396) (by decide +kernel), List.mem_of_getElem? (i := 397) (by decide +kernel)⟩
theorem lw_p3 : lw_okq (⟨"BoxNest$Hold", "commonInZ", "(II)I"⟩, 12) := ⟨⟨by decide +kernel, by decide +kernel⟩, List.mem_of_getElem? (i := 23) (by decide +kernel), List.mem_of_getElem? (i := 400) (by decide +kernel), List.mem_of_getElem? (i := 401) (by decide +kernel)⟩
theorem lw_p4 : lw_okq (⟨"BoxNest$Hold", "isInside", "(LBoxNest$Box;)Z"⟩, 12) := ⟨⟨by decide +kernel, by decide +kernel⟩, List.mem_of_getElem? (i := 23) (by decide +kernel), List.mem_of_getElem? (i := 408) (by decide +kernel), List.mem_of_getElem? (i := 409) (by decide +kernel)⟩
theorem lw_p5 : lw_okq (⟨"BoxNest$Hold", "isHeld", "(LBoxNest$Box;)Z"⟩, 12) := ⟨⟨by decide +kernel, by decide +kernel⟩, List.mem_of_getElem? (i := 23) (by decide +kernel), List.mem_of_getElem? (i := 412) (by decide +kernel), List.mem_of_getElem? (i := 413) (by decide +kernel)⟩
theorem lw_p6 : lw_okq (⟨"BoxNest$Hold", "bearAll", "(I)Z"⟩, 12) := ⟨⟨by decide +kernel, by decide +kernel⟩, List.mem_of_getElem? (i := 23) (by decide +kernel), List.mem_of_getElem? (i := 420) (by decide +kernel), List.mem_of_getElem? (i := 421) (by decide +kernel)⟩
theorem lw_p7 : lw_okq (⟨"BoxNest$Hold", "giveLoad", "(II)V"⟩, 12) := ⟨⟨by decide +kernel, by decide +kernel⟩, List.mem_of_getElem? (i := 23) (by decide +kernel), List.mem_of_getElem? (i := 427) (by decide +kernel), List.mem_of_getElem? (i := 428) (by decide +kernel)⟩
theorem lw_p8 : lw_okq (⟨"BoxNest$Hold", "isInWay", "(LBoxNest$Box;)Z"⟩, 12) := ⟨⟨by decide +kernel, by decide +kernel⟩, List.mem_of_getElem? (i := 23) (by decide +kernel), List.mem_of_getElem? (i := 431) (by decide +kernel), List.mem_of_getElem? (i := 432) (by decide +kernel)⟩
theorem lw_p9 : lw_okq (⟨"BoxNest$Hold", "listCorners", "(LBoxNest$Box;)V"⟩, 12) := ⟨⟨by decide +kernel, by decide +kernel⟩, List.mem_of_getElem? (i := 23) (by decide +kernel), List.mem_of_getElem? (i := 451) (by decide +kernel), List.mem_of_getElem? (i := 452) (by decide +kernel)⟩
theorem lw_p10 : lw_okq (⟨"BoxNest$Hold", "listCommon", "(LBoxNest$Box;)V"⟩, 12) := ⟨⟨by decide +kernel, by decide +kernel⟩, List.mem_of_getElem? (i := 23) (by decide +kernel), List.mem_of_getElem? (i := 459) (by decide +kernel), List.mem_of_getElem? (i := 460) (by decide +kernel)⟩
theorem lw_p11 : lw_okq (⟨"BoxNest$Hold", "isFree", "(IIIIZ)Z"⟩, 12) := ⟨⟨by decide +kernel, by decide +kernel⟩, List.mem_of_getElem? (i := 23) (by decide +kernel), List.mem_of_getElem? (i := 467) (by decide +kernel), List.mem_of_getElem? (i := 468) (by decide +kernel)⟩
theorem lw_p12 : lw_okq (⟨"BoxNest", "isSet", "(I)Z"⟩, 5) := ⟨⟨by decide +kernel, by decide +kernel⟩, List.mem_of_getElem? (i := 15) (by decide +kernel), List.mem_of_getElem? (i := 498) (by decide +kernel), List.mem_of_getElem? (i := 499) (by decide +kernel)⟩
theorem lw_p13 : lw_okq (⟨"BoxNest", "tryOrders", "(III)V"⟩, 5) := ⟨⟨by decide +kernel, by decide +kernel⟩, List.mem_of_getElem? (i := 15) (by decide +kernel), List.mem_of_getElem? (i := 506) (by decide +kernel), List.mem_of_getElem? (i := 507) (by decide +kernel)⟩
theorem lw_p14 : lw_okq (⟨"BoxNest", "setBest", "()I"⟩, 5) := ⟨⟨by decide +kernel, by decide +kernel⟩, List.mem_of_getElem? (i := 15) (by decide +kernel), List.mem_of_getElem? (i := 522) (by decide +kernel), List.mem_of_getElem? (i := 523) (by decide +kernel)⟩
theorem lw_p15 : lw_okq (⟨"BoxNest", "overAt", "(I)I"⟩, 5) := ⟨⟨by decide +kernel, by decide +kernel⟩, List.mem_of_getElem? (i := 15) (by decide +kernel), List.mem_of_getElem? (i := 574) (by decide +kernel), List.mem_of_getElem? (i := 575) (by decide +kernel)⟩
def lw_privs_1 : List (MethodName × Nat) := [(⟨"BoxNest", "refusal", "(IIIIZ)I"⟩, 5), (⟨"BoxNest$Hold", "commonInX", "(II)I"⟩, 12), (⟨"BoxNest$Hold", "commonInY", "(II)I"⟩, 12), (⟨"BoxNest$Hold", "commonInZ", "(II)I"⟩, 12), (⟨"BoxNest$Hold", "isInside", "(LBoxNest$Box;)Z"⟩, 12), (⟨"BoxNest$Hold", "isHeld", "(LBoxNest$Box;)Z"⟩, 12), (⟨"BoxNest$Hold", "bearAll", "(I)Z"⟩, 12), (⟨"BoxNest$Hold", "giveLoad", "(II)V"⟩, 12), (⟨"BoxNest$Hold", "isInWay", "(LBoxNest$Box;)Z"⟩, 12), (⟨"BoxNest$Hold", "listCorners", "(LBoxNest$Box;)V"⟩, 12), (⟨"BoxNest$Hold", "listCommon", "(LBoxNest$Box;)V"⟩, 12), (⟨"BoxNest$Hold", "isFree", "(IIIIZ)Z"⟩, 12), (⟨"BoxNest", "isSet", "(I)Z"⟩, 5), (⟨"BoxNest", "tryOrders", "(III)V"⟩, 5), (⟨"BoxNest", "setBest", "()I"⟩, 5), (⟨"BoxNest", "overAt", "(I)I"⟩, 5)]
theorem lw_r1 : ∀ q ∈ lw_privs_1, lw_okq q := List.forall_mem_cons.mpr ⟨lw_p0, List.forall_mem_cons.mpr ⟨lw_p1, List.forall_mem_cons.mpr ⟨lw_p2, List.forall_mem_cons.mpr ⟨lw_p3, List.forall_mem_cons.mpr ⟨lw_p4, List.forall_mem_cons.mpr ⟨lw_p5, List.forall_mem_cons.mpr ⟨lw_p6, List.forall_mem_cons.mpr ⟨lw_p7, List.forall_mem_cons.mpr ⟨lw_p8, List.forall_mem_cons.mpr ⟨lw_p9, List.forall_mem_cons.mpr ⟨lw_p10, List.forall_mem_cons.mpr ⟨lw_p11, List.forall_mem_cons.mpr ⟨lw_p12, List.forall_mem_cons.mpr ⟨lw_p13, List.forall_mem_cons.mpr ⟨lw_p14, List.forall_mem_cons.mpr ⟨lw_p15, fun _ h => absurd h List.not_mem_nil⟩⟩⟩⟩⟩⟩⟩⟩⟩⟩⟩⟩⟩⟩⟩⟩
theorem lw_p16 : lw_okq (⟨"BoxNest$Cutter", "fillWorths", "(LBoxNest$Hold;I)V"⟩, 5) := ⟨⟨by decide +kernel, by decide +kernel⟩, List.mem_of_getElem? (i := 593) (by decide +kernel), List.mem_of_getElem? (i := 628) (by decide +kernel), List.mem_of_getElem? (i := 629) (by decide +kernel)⟩
theorem lw_p17 : lw_okq (⟨"BoxNest$Cutter", "offer", "(II)V"⟩, 5) := ⟨⟨by decide +kernel, by decide +kernel⟩, List.mem_of_getElem? (i := 593) (by decide +kernel), List.mem_of_getElem? (i := 633) (by decide +kernel), List.mem_of_getElem? (i := 634) (by decide +kernel)⟩
theorem lw_p18 : lw_okq (⟨"BoxNest$Cutter", "worthCut", "(I)I"⟩, 5) := ⟨⟨by decide +kernel, by decide +kernel⟩, List.mem_of_getElem? (i := 593) (by decide +kernel), List.mem_of_getElem? (i := 637) (by decide +kernel), List.mem_of_getElem? (i := 638) (by decide +kernel)⟩
theorem lw_p19 : lw_okq (⟨"BoxNest$Cutter", "layOut", "(LBoxNest$Hold;III)V"⟩, 5) := ⟨⟨by decide +kernel, by decide +kernel⟩, List.mem_of_getElem? (i := 593) (by decide +kernel), List.mem_of_getElem? (i := 652) (by decide +kernel), List.mem_of_getElem? (i := 653) (by decide +kernel)⟩
theorem lw_p20 : lw_okq (⟨"BoxNest$Cutter", "layPiece", "(LBoxNest$Hold;II)Z"⟩, 5) := ⟨⟨by decide +kernel, by decide +kernel⟩, List.mem_of_getElem? (i := 593) (by decide +kernel), List.mem_of_getElem? (i := 656) (by decide +kernel), List.mem_of_getElem? (i := 657) (by decide +kernel)⟩
theorem lw_p21 : lw_okq (⟨"BoxNest$Cutter", "firstCut", "(I)I"⟩, 5) := ⟨⟨by decide +kernel, by decide +kernel⟩, List.mem_of_getElem? (i := 593) (by decide +kernel), List.mem_of_getElem? (i := 660) (by decide +kernel), List.mem_of_getElem? (i := 661) (by decide +kernel)⟩
theorem lw_p22 : lw_okq (⟨"BoxNest$Bounds", "measure", "(LBoxNest$Hold;I)V"⟩, 7) := ⟨⟨by decide +kernel, by decide +kernel⟩, List.mem_of_getElem? (i := 291) (by decide +kernel), List.mem_of_getElem? (i := 680) (by decide +kernel), List.mem_of_getElem? (i := 681) (by decide +kernel)⟩
theorem lw_p23 : lw_okq (⟨"BoxNest$Bounds", "findApart", "(LBoxNest$Hold;I)V"⟩, 7) := ⟨⟨by decide +kernel, by decide +kernel⟩, List.mem_of_getElem? (i := 291) (by decide +kernel), List.mem_of_getElem? (i := 688) (by decide +kernel), List.mem_of_getElem? (i := 689) (by decide +kernel)⟩
theorem lw_p24 : lw_okq (⟨"BoxNest$Bounds", "areApart", "(LBoxNest$Hold;II)Z"⟩, 7) := ⟨⟨by decide +kernel, by decide +kernel⟩, List.mem_of_getElem? (i := 291) (by decide +kernel), List.mem_of_getElem? (i := 692) (by decide +kernel), List.mem_of_getElem? (i := 693) (by decide +kernel)⟩
theorem lw_p25 : lw_okq (⟨"BoxNest$Bounds", "findBig", "(III)V"⟩, 7) := ⟨⟨by decide +kernel, by decide +kernel⟩, List.mem_of_getElem? (i := 291) (by decide +kernel), List.mem_of_getElem? (i := 696) (by decide +kernel), List.mem_of_getElem? (i := 697) (by decide +kernel)⟩
theorem lw_p26 : lw_okq (⟨"BoxNestModel", "placed", "()I"⟩, 40) := ⟨⟨by decide +kernel, by decide +kernel⟩, List.mem_of_getElem? (i := 719) (by decide +kernel), List.mem_of_getElem? (i := 859) (by decide +kernel), List.mem_of_getElem? (i := 860) (by decide +kernel)⟩
theorem lw_p27 : lw_okq (⟨"BoxNestModel", "asked", "(IIIIZ)I"⟩, 40) := ⟨⟨by decide +kernel, by decide +kernel⟩, List.mem_of_getElem? (i := 719) (by decide +kernel), List.mem_of_getElem? (i := 879) (by decide +kernel), List.mem_of_getElem? (i := 880) (by decide +kernel)⟩
theorem lw_p28 : lw_okq (⟨"BoxNestModel", "isBox", "(I)Z"⟩, 40) := ⟨⟨by decide +kernel, by decide +kernel⟩, List.mem_of_getElem? (i := 719) (by decide +kernel), List.mem_of_getElem? (i := 883) (by decide +kernel), List.mem_of_getElem? (i := 884) (by decide +kernel)⟩
theorem lw_p29 : lw_okq (⟨"BoxNestModel", "wrongAt", "(IIIIZ)I"⟩, 40) := ⟨⟨by decide +kernel, by decide +kernel⟩, List.mem_of_getElem? (i := 719) (by decide +kernel), List.mem_of_getElem? (i := 887) (by decide +kernel), List.mem_of_getElem? (i := 888) (by decide +kernel)⟩
theorem lw_p30 : lw_okq (⟨"BoxNestModel", "longOf", "(I)I"⟩, 40) := ⟨⟨by decide +kernel, by decide +kernel⟩, List.mem_of_getElem? (i := 719) (by decide +kernel), List.mem_of_getElem? (i := 891) (by decide +kernel), List.mem_of_getElem? (i := 892) (by decide +kernel)⟩
theorem lw_p31 : lw_okq (⟨"BoxNestModel", "wideOf", "(I)I"⟩, 40) := ⟨⟨by decide +kernel, by decide +kernel⟩, List.mem_of_getElem? (i := 719) (by decide +kernel), List.mem_of_getElem? (i := 895) (by decide +kernel), List.mem_of_getElem? (i := 896) (by decide +kernel)⟩
def lw_privs_2 : List (MethodName × Nat) := [(⟨"BoxNest$Cutter", "fillWorths", "(LBoxNest$Hold;I)V"⟩, 5), (⟨"BoxNest$Cutter", "offer", "(II)V"⟩, 5), (⟨"BoxNest$Cutter", "worthCut", "(I)I"⟩, 5), (⟨"BoxNest$Cutter", "layOut", "(LBoxNest$Hold;III)V"⟩, 5), (⟨"BoxNest$Cutter", "layPiece", "(LBoxNest$Hold;II)Z"⟩, 5), (⟨"BoxNest$Cutter", "firstCut", "(I)I"⟩, 5), (⟨"BoxNest$Bounds", "measure", "(LBoxNest$Hold;I)V"⟩, 7), (⟨"BoxNest$Bounds", "findApart", "(LBoxNest$Hold;I)V"⟩, 7), (⟨"BoxNest$Bounds", "areApart", "(LBoxNest$Hold;II)Z"⟩, 7), (⟨"BoxNest$Bounds", "findBig", "(III)V"⟩, 7), (⟨"BoxNestModel", "placed", "()I"⟩, 40), (⟨"BoxNestModel", "asked", "(IIIIZ)I"⟩, 40), (⟨"BoxNestModel", "isBox", "(I)Z"⟩, 40), (⟨"BoxNestModel", "wrongAt", "(IIIIZ)I"⟩, 40), (⟨"BoxNestModel", "longOf", "(I)I"⟩, 40), (⟨"BoxNestModel", "wideOf", "(I)I"⟩, 40)]
theorem lw_r2 : ∀ q ∈ lw_privs_2, lw_okq q := List.forall_mem_cons.mpr ⟨lw_p16, List.forall_mem_cons.mpr ⟨lw_p17, List.forall_mem_cons.mpr ⟨lw_p18, List.forall_mem_cons.mpr ⟨lw_p19, List.forall_mem_cons.mpr ⟨lw_p20, List.forall_mem_cons.mpr ⟨lw_p21, List.forall_mem_cons.mpr ⟨lw_p22, List.forall_mem_cons.mpr ⟨lw_p23, List.forall_mem_cons.mpr ⟨lw_p24, List.forall_mem_cons.mpr ⟨lw_p25, List.forall_mem_cons.mpr ⟨lw_p26, List.forall_mem_cons.mpr ⟨lw_p27, List.forall_mem_cons.mpr ⟨lw_p28, List.forall_mem_cons.mpr ⟨lw_p29, List.forall_mem_cons.mpr ⟨lw_p30, List.forall_mem_cons.mpr ⟨lw_p31, fun _ h => absurd h List.not_mem_nil⟩⟩⟩⟩⟩⟩⟩⟩⟩⟩⟩⟩⟩⟩⟩⟩
theorem lw_p32 : lw_okq (⟨"BoxNestModel", "area", "(II)I"⟩, 40) := ⟨⟨by decide +kernel, by decide +kernel⟩, List.mem_of_getElem? (i := 719) (by decide +kernel), List.mem_of_getElem? (i := 899) (by decide +kernel), List.mem_of_getElem? (i := 900) (by decide +kernel)⟩
theorem lw_p33 : lw_okq (⟨"BoxNestModel", "stands", "(II)I"⟩, 40) := ⟨⟨by decide +kernel, by decide +kernel⟩, List.mem_of_getElem? (i := 719) (by decide +kernel), List.mem_of_getElem? (i := 906) (by decide +kernel), List.mem_of_getElem? (i := 907) (by decide +kernel)⟩
theorem lw_p34 : lw_okq (⟨"BoxNestModel", "topOf", "(I)I"⟩, 40) := ⟨⟨by decide +kernel, by decide +kernel⟩, List.mem_of_getElem? (i := 719) (by decide +kernel), List.mem_of_getElem? (i := 910) (by decide +kernel), List.mem_of_getElem? (i := 911) (by decide +kernel)⟩
theorem lw_p35 : lw_okq (⟨"BoxNestModel", "isInWay", "(II)Z"⟩, 40) := ⟨⟨by decide +kernel, by decide +kernel⟩, List.mem_of_getElem? (i := 719) (by decide +kernel), List.mem_of_getElem? (i := 914) (by decide +kernel), List.mem_of_getElem? (i := 915) (by decide +kernel)⟩
theorem lw_p36 : lw_okq (⟨"BoxNestModel", "makeLoads", "()V"⟩, 40) := ⟨⟨by decide +kernel, by decide +kernel⟩, List.mem_of_getElem? (i := 719) (by decide +kernel), List.mem_of_getElem? (i := 918) (by decide +kernel), List.mem_of_getElem? (i := 919) (by decide +kernel)⟩
theorem lw_p37 : lw_okq (⟨"BoxNestModel", "sets", "(I)Z"⟩, 40) := ⟨⟨by decide +kernel, by decide +kernel⟩, List.mem_of_getElem? (i := 719) (by decide +kernel), List.mem_of_getElem? (i := 930) (by decide +kernel), List.mem_of_getElem? (i := 931) (by decide +kernel)⟩
theorem lw_p38 : lw_okq (⟨"BoxNestModel", "nextEnd", "(II)I"⟩, 40) := ⟨⟨by decide +kernel, by decide +kernel⟩, List.mem_of_getElem? (i := 719) (by decide +kernel), List.mem_of_getElem? (i := 934) (by decide +kernel), List.mem_of_getElem? (i := 935) (by decide +kernel)⟩
theorem lw_p39 : lw_okq (⟨"BoxNestModel", "isSet", "(I)Z"⟩, 40) := ⟨⟨by decide +kernel, by decide +kernel⟩, List.mem_of_getElem? (i := 719) (by decide +kernel), List.mem_of_getElem? (i := 950) (by decide +kernel), List.mem_of_getElem? (i := 951) (by decide +kernel)⟩
theorem lw_p40 : lw_okq (⟨"BoxNestModel", "orders", "(IIII)V"⟩, 40) := ⟨⟨by decide +kernel, by decide +kernel⟩, List.mem_of_getElem? (i := 719) (by decide +kernel), List.mem_of_getElem? (i := 954) (by decide +kernel), List.mem_of_getElem? (i := 955) (by decide +kernel)⟩
theorem lw_p41 : lw_okq (⟨"BoxNestModel", "lists", "(II)I"⟩, 40) := ⟨⟨by decide +kernel, by decide +kernel⟩, List.mem_of_getElem? (i := 719) (by decide +kernel), List.mem_of_getElem? (i := 958) (by decide +kernel), List.mem_of_getElem? (i := 959) (by decide +kernel)⟩
theorem lw_p42 : lw_okq (⟨"BoxNestModel", "farthest", "()I"⟩, 40) := ⟨⟨by decide +kernel, by decide +kernel⟩, List.mem_of_getElem? (i := 719) (by decide +kernel), List.mem_of_getElem? (i := 962) (by decide +kernel), List.mem_of_getElem? (i := 963) (by decide +kernel)⟩
theorem lw_p43 : lw_okq (⟨"BoxNestModel", "unset", "(I)V"⟩, 40) := ⟨⟨by decide +kernel, by decide +kernel⟩, List.mem_of_getElem? (i := 719) (by decide +kernel), List.mem_of_getElem? (i := 966) (by decide +kernel), List.mem_of_getElem? (i := 967) (by decide +kernel)⟩
theorem lw_p44 : lw_okq (⟨"BoxNestModel", "axleOf", "(II)I"⟩, 40) := ⟨⟨by decide +kernel, by decide +kernel⟩, List.mem_of_getElem? (i := 719) (by decide +kernel), List.mem_of_getElem? (i := 983) (by decide +kernel), List.mem_of_getElem? (i := 984) (by decide +kernel)⟩
theorem lw_p45 : lw_okq (⟨"BoxNestModel", "isLeft", "(II)Z"⟩, 40) := ⟨⟨by decide +kernel, by decide +kernel⟩, List.mem_of_getElem? (i := 719) (by decide +kernel), List.mem_of_getElem? (i := 987) (by decide +kernel), List.mem_of_getElem? (i := 988) (by decide +kernel)⟩
theorem lw_p46 : lw_okq (⟨"BoxNestModel", "weights", "(I)I"⟩, 40) := ⟨⟨by decide +kernel, by decide +kernel⟩, List.mem_of_getElem? (i := 719) (by decide +kernel), List.mem_of_getElem? (i := 991) (by decide +kernel), List.mem_of_getElem? (i := 992) (by decide +kernel)⟩
theorem lw_p47 : lw_okq (⟨"BoxNestModel", "overAt", "(I)I"⟩, 40) := ⟨⟨by decide +kernel, by decide +kernel⟩, List.mem_of_getElem? (i := 719) (by decide +kernel), List.mem_of_getElem? (i := 999) (by decide +kernel), List.mem_of_getElem? (i := 1000) (by decide +kernel)⟩
def lw_privs_3 : List (MethodName × Nat) := [(⟨"BoxNestModel", "area", "(II)I"⟩, 40), (⟨"BoxNestModel", "stands", "(II)I"⟩, 40), (⟨"BoxNestModel", "topOf", "(I)I"⟩, 40), (⟨"BoxNestModel", "isInWay", "(II)Z"⟩, 40), (⟨"BoxNestModel", "makeLoads", "()V"⟩, 40), (⟨"BoxNestModel", "sets", "(I)Z"⟩, 40), (⟨"BoxNestModel", "nextEnd", "(II)I"⟩, 40), (⟨"BoxNestModel", "isSet", "(I)Z"⟩, 40), (⟨"BoxNestModel", "orders", "(IIII)V"⟩, 40), (⟨"BoxNestModel", "lists", "(II)I"⟩, 40), (⟨"BoxNestModel", "farthest", "()I"⟩, 40), (⟨"BoxNestModel", "unset", "(I)V"⟩, 40), (⟨"BoxNestModel", "axleOf", "(II)I"⟩, 40), (⟨"BoxNestModel", "isLeft", "(II)Z"⟩, 40), (⟨"BoxNestModel", "weights", "(I)I"⟩, 40), (⟨"BoxNestModel", "overAt", "(I)I"⟩, 40)]
theorem lw_r3 : ∀ q ∈ lw_privs_3, lw_okq q := List.forall_mem_cons.mpr ⟨lw_p32, List.forall_mem_cons.mpr ⟨lw_p33, List.forall_mem_cons.mpr ⟨lw_p34, List.forall_mem_cons.mpr ⟨lw_p35, List.forall_mem_cons.mpr ⟨lw_p36, List.forall_mem_cons.mpr ⟨lw_p37, List.forall_mem_cons.mpr ⟨lw_p38, List.forall_mem_cons.mpr ⟨lw_p39, List.forall_mem_cons.mpr ⟨lw_p40, List.forall_mem_cons.mpr ⟨lw_p41, List.forall_mem_cons.mpr ⟨lw_p42, List.forall_mem_cons.mpr ⟨lw_p43, List.forall_mem_cons.mpr ⟨lw_p44, List.forall_mem_cons.mpr ⟨lw_p45, List.forall_mem_cons.mpr ⟨lw_p46, List.forall_mem_cons.mpr ⟨lw_p47, fun _ h => absurd h List.not_mem_nil⟩⟩⟩⟩⟩⟩⟩⟩⟩⟩⟩⟩⟩⟩⟩⟩
theorem lw_p48 : lw_okq (⟨"BoxNestModel", "makeMost", "(III)V"⟩, 40) := ⟨⟨by decide +kernel, by decide +kernel⟩, List.mem_of_getElem? (i := 719) (by decide +kernel), List.mem_of_getElem? (i := 1012) (by decide +kernel), List.mem_of_getElem? (i := 1013) (by decide +kernel)⟩
theorem lw_p49 : lw_okq (⟨"BoxNestModel", "isPiece", "(IIIIZ)Z"⟩, 40) := ⟨⟨by decide +kernel, by decide +kernel⟩, List.mem_of_getElem? (i := 719) (by decide +kernel), List.mem_of_getElem? (i := 1016) (by decide +kernel), List.mem_of_getElem? (i := 1017) (by decide +kernel)⟩
theorem lw_p50 : lw_okq (⟨"BoxNestModel", "pattern", "(IIIIII)V"⟩, 40) := ⟨⟨by decide +kernel, by decide +kernel⟩, List.mem_of_getElem? (i := 719) (by decide +kernel), List.mem_of_getElem? (i := 1026) (by decide +kernel), List.mem_of_getElem? (i := 1027) (by decide +kernel)⟩
theorem lw_p51 : lw_okq (⟨"BoxNestModel", "fitsSo", "(IZ)Z"⟩, 40) := ⟨⟨by decide +kernel, by decide +kernel⟩, List.mem_of_getElem? (i := 719) (by decide +kernel), List.mem_of_getElem? (i := 1038) (by decide +kernel), List.mem_of_getElem? (i := 1039) (by decide +kernel)⟩
theorem lw_p52 : lw_okq (⟨"BoxNestModel", "isApart", "(II)Z"⟩, 40) := ⟨⟨by decide +kernel, by decide +kernel⟩, List.mem_of_getElem? (i := 719) (by decide +kernel), List.mem_of_getElem? (i := 1042) (by decide +kernel), List.mem_of_getElem? (i := 1043) (by decide +kernel)⟩
theorem lw_p53 : lw_okq (⟨"BoxNestModel", "bigs", "(IIII)V"⟩, 40) := ⟨⟨by decide +kernel, by decide +kernel⟩, List.mem_of_getElem? (i := 719) (by decide +kernel), List.mem_of_getElem? (i := 1046) (by decide +kernel), List.mem_of_getElem? (i := 1047) (by decide +kernel)⟩
def lw_privs_4 : List (MethodName × Nat) := [(⟨"BoxNestModel", "makeMost", "(III)V"⟩, 40), (⟨"BoxNestModel", "isPiece", "(IIIIZ)Z"⟩, 40), (⟨"BoxNestModel", "pattern", "(IIIIII)V"⟩, 40), (⟨"BoxNestModel", "fitsSo", "(IZ)Z"⟩, 40), (⟨"BoxNestModel", "isApart", "(II)Z"⟩, 40), (⟨"BoxNestModel", "bigs", "(IIII)V"⟩, 40)]
theorem lw_r4 : ∀ q ∈ lw_privs_4, lw_okq q := List.forall_mem_cons.mpr ⟨lw_p48, List.forall_mem_cons.mpr ⟨lw_p49, List.forall_mem_cons.mpr ⟨lw_p50, List.forall_mem_cons.mpr ⟨lw_p51, List.forall_mem_cons.mpr ⟨lw_p52, List.forall_mem_cons.mpr ⟨lw_p53, fun _ h => absurd h List.not_mem_nil⟩⟩⟩⟩⟩⟩
def lw_privs : List (MethodName × Nat) := lw_privs_1 ++ (lw_privs_2 ++ (lw_privs_3 ++ (lw_privs_4)))
def lw_tbl : List Cond := k2_sels lw_privs ++ tables_1
theorem lw_privs_ok : ∀ q ∈ lw_privs, lw_okq q := by
  show ∀ q ∈ lw_privs_1 ++ (lw_privs_2 ++ (lw_privs_3 ++ (lw_privs_4))), lw_okq q
  exact List.forall_mem_append.mpr ⟨lw_r1, List.forall_mem_append.mpr ⟨lw_r2, List.forall_mem_append.mpr ⟨lw_r3, lw_r4⟩⟩⟩
end
section
/-! classes, fields, methods by number; the words that speak of them, by their places in lw_tbl (written by tools/gen2.py) -/
def am_cn : Nat → String := fun k => match k with
  | 0 => "BoxNest$Balance"
  | 1 => "BoxNest$Bounds"
  | 2 => "BoxNest$Box"
  | 3 => "BoxNest$Cutter"
  | 4 => "BoxNest$Edges"
  | 5 => "BoxNest$Hold"
  | 6 => "BoxNest$Orders"
  | 7 => "BoxNest$Truck"
  | 8 => "BoxNest"
  | 9 => "BoxNestModel"
  | 10 => "BoxNestLaw"
  | 11 => "java/lang/Integer"
  | 12 => "java/lang/Math"
  | 13 => "java/util/Arrays"
  | _ => ""
def am_F0 : u_T := fun k => match k with
  | 0 => ("BoxNest$Balance", "weight", "I", false)
  | 1 => ("BoxNest$Balance", "lever", "I", false)
  | 2 => ("BoxNest$Balance", "sideLever", "I", false)
  | _ => ("BoxNest$Balance", "below", "I", false)
def am_t0 : Nat → FieldType := fun k => match k with
  | 0 => .int
  | 1 => .int
  | 2 => .int
  | _ => .int
def am_F1 : u_T := fun k => match k with
  | 0 => ("BoxNest$Bounds", "judged", "Z", false)
  | 1 => ("BoxNest$Bounds", "byVolume", "I", false)
  | 2 => ("BoxNest$Bounds", "byBig", "I", false)
  | 3 => ("BoxNest$Bounds", "bigOnes", "I", false)
  | 4 => ("BoxNest$Bounds", "leastLength", "[I", true)
  | 5 => ("BoxNest$Bounds", "leastWidth", "[I", true)
  | _ => ("BoxNest$Bounds", "apart", "[I", true)
def am_t1 : Nat → FieldType := fun k => match k with
  | 0 => .boolean
  | 1 => .int
  | 2 => .int
  | 3 => .int
  | 4 => .array .int
  | 5 => .array .int
  | _ => .array .int
def am_F2 : u_T := fun k => match k with
  | 0 => ("BoxNest$Box", "length", "I", false)
  | 1 => ("BoxNest$Box", "width", "I", false)
  | 2 => ("BoxNest$Box", "height", "I", false)
  | 3 => ("BoxNest$Box", "weight", "I", false)
  | 4 => ("BoxNest$Box", "bears", "I", false)
  | 5 => ("BoxNest$Box", "drop", "I", false)
  | 6 => ("BoxNest$Box", "turns", "Z", false)
  | 7 => ("BoxNest$Box", "worth", "I", false)
  | 8 => ("BoxNest$Box", "x", "I", false)
  | 9 => ("BoxNest$Box", "y", "I", false)
  | 10 => ("BoxNest$Box", "z", "I", false)
  | 11 => ("BoxNest$Box", "endX", "I", false)
  | 12 => ("BoxNest$Box", "endY", "I", false)
  | 13 => ("BoxNest$Box", "top", "I", false)
  | _ => ("BoxNest$Box", "turned", "Z", false)
def am_t2 : Nat → FieldType := fun k => match k with
  | 0 => .int
  | 1 => .int
  | 2 => .int
  | 3 => .int
  | 4 => .int
  | 5 => .int
  | 6 => .boolean
  | 7 => .int
  | 8 => .int
  | 9 => .int
  | 10 => .int
  | 11 => .int
  | 12 => .int
  | 13 => .int
  | _ => .boolean
def am_F3 : u_T := fun k => match k with
  | 0 => ("BoxNest$Cutter", "worths", "[I", true)
  | 1 => ("BoxNest$Cutter", "pattern", "[I", true)
  | 2 => ("BoxNest$Cutter", "known", "I", false)
  | 3 => ("BoxNest$Cutter", "latest", "I", false)
  | _ => ("BoxNest$Cutter", "pieces", "I", false)
def am_t3 : Nat → FieldType := fun k => match k with
  | 0 => .array .int
  | 1 => .array .int
  | 2 => .int
  | 3 => .int
  | _ => .int
def am_F4 : u_T := fun k => match k with
  | 0 => ("BoxNest$Edges", "place", "[I", true)
  | 1 => ("BoxNest$Edges", "straight", "[I", true)
  | 2 => ("BoxNest$Edges", "turned", "[I", true)
  | _ => ("BoxNest$Edges", "size", "I", false)
def am_t4 : Nat → FieldType := fun k => match k with
  | 0 => .array .int
  | 1 => .array .int
  | 2 => .array .int
  | _ => .int
def am_F5 : u_T := fun k => match k with
  | 0 => ("BoxNest$Hold", "truck", "LBoxNest$Truck;", true)
  | 1 => ("BoxNest$Hold", "boxes", "[LBoxNest$Box;", true)
  | 2 => ("BoxNest$Hold", "told", "I", false)
  | 3 => ("BoxNest$Hold", "in", "I", false)
  | 4 => ("BoxNest$Hold", "loads", "[I", true)
  | 5 => ("BoxNest$Hold", "areas", "[I", true)
  | 6 => ("BoxNest$Hold", "alongX", "LBoxNest$Edges;", true)
  | 7 => ("BoxNest$Hold", "alongY", "LBoxNest$Edges;", true)
  | 8 => ("BoxNest$Hold", "alongZ", "LBoxNest$Edges;", true)
  | 9 => ("BoxNest$Hold", "commonX", "I", false)
  | 10 => ("BoxNest$Hold", "commonY", "I", false)
  | _ => ("BoxNest$Hold", "commonZ", "I", false)
def am_t5 : Nat → FieldType := fun k => match k with
  | 0 => .object "BoxNest$Truck"
  | 1 => .array (.object "BoxNest$Box")
  | 2 => .int
  | 3 => .int
  | 4 => .array .int
  | 5 => .array .int
  | 6 => .object "BoxNest$Edges"
  | 7 => .object "BoxNest$Edges"
  | 8 => .object "BoxNest$Edges"
  | 9 => .int
  | 10 => .int
  | _ => .int
def am_F6 : u_T := fun k => match k with
  | 0 => ("BoxNest$Orders", "row", "[I", true)
  | 1 => ("BoxNest$Orders", "bestRow", "[I", true)
  | 2 => ("BoxNest$Orders", "bestSize", "I", false)
  | 3 => ("BoxNest$Orders", "bestPlaced", "I", false)
  | _ => ("BoxNest$Orders", "bestReach", "I", false)
def am_t6 : Nat → FieldType := fun k => match k with
  | 0 => .array .int
  | 1 => .array .int
  | 2 => .int
  | 3 => .int
  | _ => .int
def am_F7 : u_T := fun k => match k with
  | 0 => ("BoxNest$Truck", "length", "I", false)
  | 1 => ("BoxNest$Truck", "width", "I", false)
  | 2 => ("BoxNest$Truck", "height", "I", false)
  | 3 => ("BoxNest$Truck", "share", "I", false)
  | 4 => ("BoxNest$Truck", "first", "I", false)
  | 5 => ("BoxNest$Truck", "second", "I", false)
  | 6 => ("BoxNest$Truck", "frontLimit", "I", false)
  | 7 => ("BoxNest$Truck", "rearLimit", "I", false)
  | _ => ("BoxNest$Truck", "sideLimit", "I", false)
def am_t7 : Nat → FieldType := fun k => match k with
  | 0 => .int
  | 1 => .int
  | 2 => .int
  | 3 => .int
  | 4 => .int
  | 5 => .int
  | 6 => .int
  | 7 => .int
  | _ => .int
def am_F8 : u_T := fun k => match k with
  | 0 => ("BoxNest", "hold", "LBoxNest$Hold;", true)
  | 1 => ("BoxNest", "orders", "LBoxNest$Orders;", true)
  | 2 => ("BoxNest", "balance", "LBoxNest$Balance;", true)
  | 3 => ("BoxNest", "bounds", "LBoxNest$Bounds;", true)
  | _ => ("BoxNest", "cutter", "LBoxNest$Cutter;", false)
def am_t8 : Nat → FieldType := fun k => match k with
  | 0 => .object "BoxNest$Hold"
  | 1 => .object "BoxNest$Orders"
  | 2 => .object "BoxNest$Balance"
  | 3 => .object "BoxNest$Bounds"
  | _ => .object "BoxNest$Cutter"
def am_F9 : u_T := fun k => match k with
  | 0 => ("BoxNestModel", "boxes", "I", false)
  | 1 => ("BoxNestModel", "length", "[I", true)
  | 2 => ("BoxNestModel", "width", "[I", true)
  | 3 => ("BoxNestModel", "height", "[I", true)
  | 4 => ("BoxNestModel", "weight", "[I", true)
  | 5 => ("BoxNestModel", "bears", "[I", true)
  | 6 => ("BoxNestModel", "drop", "[I", true)
  | 7 => ("BoxNestModel", "turns", "[Z", true)
  | 8 => ("BoxNestModel", "value", "[I", true)
  | 9 => ("BoxNestModel", "isIn", "[Z", true)
  | 10 => ("BoxNestModel", "px", "[I", true)
  | 11 => ("BoxNestModel", "py", "[I", true)
  | 12 => ("BoxNestModel", "pz", "[I", true)
  | 13 => ("BoxNestModel", "turned", "[Z", true)
  | 14 => ("BoxNestModel", "truckLength", "I", false)
  | 15 => ("BoxNestModel", "truckWidth", "I", false)
  | 16 => ("BoxNestModel", "truckHeight", "I", false)
  | 17 => ("BoxNestModel", "shares", "I", false)
  | 18 => ("BoxNestModel", "firstAxle", "I", false)
  | 19 => ("BoxNestModel", "secondAxle", "I", false)
  | 20 => ("BoxNestModel", "frontLimit", "I", false)
  | 21 => ("BoxNestModel", "rearLimit", "I", false)
  | 22 => ("BoxNestModel", "sides", "I", false)
  | 23 => ("BoxNestModel", "load", "[I", true)
  | 24 => ("BoxNestModel", "bestOrder", "I", false)
  | 25 => ("BoxNestModel", "bestIn", "I", false)
  | 26 => ("BoxNestModel", "bestEnd", "I", false)
  | 27 => ("BoxNestModel", "most", "[I", true)
  | 28 => ("BoxNestModel", "pieces", "I", false)
  | 29 => ("BoxNestModel", "pieceBox", "[I", true)
  | 30 => ("BoxNestModel", "pieceX", "[I", true)
  | 31 => ("BoxNestModel", "pieceY", "[I", true)
  | 32 => ("BoxNestModel", "pieceZ", "[I", true)
  | 33 => ("BoxNestModel", "pieceTurned", "[Z", true)
  | 34 => ("BoxNestModel", "apart", "[I", true)
  | 35 => ("BoxNestModel", "bigMost", "I", false)
  | 36 => ("BoxNestModel", "bigSet", "I", false)
  | 37 => ("BoxNestModel", "toldVolumes", "I", false)
  | 38 => ("BoxNestModel", "toldBig", "I", false)
  | _ => ("BoxNestModel", "toldSet", "I", false)
def am_t9 : Nat → FieldType := fun k => match k with
  | 0 => .int
  | 1 => .array .int
  | 2 => .array .int
  | 3 => .array .int
  | 4 => .array .int
  | 5 => .array .int
  | 6 => .array .int
  | 7 => .array .boolean
  | 8 => .array .int
  | 9 => .array .boolean
  | 10 => .array .int
  | 11 => .array .int
  | 12 => .array .int
  | 13 => .array .boolean
  | 14 => .int
  | 15 => .int
  | 16 => .int
  | 17 => .int
  | 18 => .int
  | 19 => .int
  | 20 => .int
  | 21 => .int
  | 22 => .int
  | 23 => .array .int
  | 24 => .int
  | 25 => .int
  | 26 => .int
  | 27 => .array .int
  | 28 => .int
  | 29 => .array .int
  | 30 => .array .int
  | 31 => .array .int
  | 32 => .array .int
  | 33 => .array .boolean
  | 34 => .array .int
  | 35 => .int
  | 36 => .int
  | 37 => .int
  | 38 => .int
  | _ => .int
def am_cls : List vw_C := [("BoxNest$Balance", am_F0, 4), ("BoxNest$Bounds", am_F1, 7), ("BoxNest$Box", am_F2, 15), ("BoxNest$Cutter", am_F3, 5), ("BoxNest$Edges", am_F4, 4), ("BoxNest$Hold", am_F5, 12), ("BoxNest$Orders", am_F6, 5), ("BoxNest$Truck", am_F7, 9), ("BoxNest", am_F8, 5), ("BoxNestModel", am_F9, 40)]
def am_F : Nat → u_T := fun ci => match ci with
  | 0 => am_F0
  | 1 => am_F1
  | 2 => am_F2
  | 3 => am_F3
  | 4 => am_F4
  | 5 => am_F5
  | 6 => am_F6
  | 7 => am_F7
  | 8 => am_F8
  | _ => am_F9
def am_fty : Nat → Nat → FieldType := fun ci => match ci with
  | 0 => am_t0
  | 1 => am_t1
  | 2 => am_t2
  | 3 => am_t3
  | 4 => am_t4
  | 5 => am_t5
  | 6 => am_t6
  | 7 => am_t7
  | 8 => am_t8
  | _ => am_t9
def am_N : Nat → Nat := fun ci => match ci with
  | 0 => 4
  | 1 => 7
  | 2 => 15
  | 3 => 5
  | 4 => 4
  | 5 => 12
  | 6 => 5
  | 7 => 9
  | 8 => 5
  | _ => 40
theorem am_u0 : u_ws "BoxNest$Balance" am_F0 4 = ([335, 337, 339, 341] : List Nat).filterMap (fun i => lw_tbl[i]?) := by decide +kernel
theorem am_ty0 : ∀ k, k < 4 → parseFieldDescriptor (am_F0 k).2.2.1 = some (am_t0 k) := by decide +kernel
theorem am_nm0 : ∀ a, a < 4 → ∀ b, b < 4 → a ≠ b → (am_F0 a).2.1 ≠ (am_F0 b).2.1 := by decide +kernel
theorem am_in0 : lw_tbl[325]? = some (Cond.instantiable "BoxNest$Balance" 4) ∧ lw_tbl[61]? = some (Cond.initialized "BoxNest$Balance") := by decide +kernel
theorem am_u1 : u_ws "BoxNest$Bounds" am_F1 7 = ([361, 363, 365, 367, 369, 371, 373] : List Nat).filterMap (fun i => lw_tbl[i]?) := by decide +kernel
theorem am_ty1 : ∀ k, k < 7 → parseFieldDescriptor (am_F1 k).2.2.1 = some (am_t1 k) := by decide +kernel
theorem am_nm1 : ∀ a, a < 7 → ∀ b, b < 7 → a ≠ b → (am_F1 a).2.1 ≠ (am_F1 b).2.1 := by decide +kernel
theorem am_in1 : lw_tbl[345]? = some (Cond.instantiable "BoxNest$Bounds" 7) ∧ lw_tbl[62]? = some (Cond.initialized "BoxNest$Bounds") := by decide +kernel
theorem am_u2 : u_ws "BoxNest$Box" am_F2 15 = ([219, 221, 223, 225, 227, 229, 231, 233, 235, 237, 239, 241, 243, 245, 247] : List Nat).filterMap (fun i => lw_tbl[i]?) := by decide +kernel
theorem am_ty2 : ∀ k, k < 15 → parseFieldDescriptor (am_F2 k).2.2.1 = some (am_t2 k) := by decide +kernel
theorem am_nm2 : ∀ a, a < 15 → ∀ b, b < 15 → a ≠ b → (am_F2 a).2.1 ≠ (am_F2 b).2.1 := by decide +kernel
theorem am_in2 : lw_tbl[165]? = some (Cond.instantiable "BoxNest$Box" 15) ∧ lw_tbl[59]? = some (Cond.initialized "BoxNest$Box") := by decide +kernel
theorem am_u3 : u_ws "BoxNest$Cutter" am_F3 5 = ([657, 659, 661, 663, 665] : List Nat).filterMap (fun i => lw_tbl[i]?) := by decide +kernel
theorem am_ty3 : ∀ k, k < 5 → parseFieldDescriptor (am_F3 k).2.2.1 = some (am_t3 k) := by decide +kernel
theorem am_nm3 : ∀ a, a < 5 → ∀ b, b < 5 → a ≠ b → (am_F3 a).2.1 ≠ (am_F3 b).2.1 := by decide +kernel
theorem am_in3 : lw_tbl[647]? = some (Cond.instantiable "BoxNest$Cutter" 5) ∧ lw_tbl[67]? = some (Cond.initialized "BoxNest$Cutter") := by decide +kernel
theorem am_u4 : u_ws "BoxNest$Edges" am_F4 4 = ([155, 157, 159, 161] : List Nat).filterMap (fun i => lw_tbl[i]?) := by decide +kernel
theorem am_ty4 : ∀ k, k < 4 → parseFieldDescriptor (am_F4 k).2.2.1 = some (am_t4 k) := by decide +kernel
theorem am_nm4 : ∀ a, a < 4 → ∀ b, b < 4 → a ≠ b → (am_F4 a).2.1 ≠ (am_F4 b).2.1 := by decide +kernel
theorem am_in4 : lw_tbl[142]? = some (Cond.instantiable "BoxNest$Edges" 4) ∧ lw_tbl[58]? = some (Cond.initialized "BoxNest$Edges") := by decide +kernel
theorem am_u5 : u_ws "BoxNest$Hold" am_F5 12 = ([274, 276, 278, 280, 282, 284, 286, 288, 290, 292, 294, 296] : List Nat).filterMap (fun i => lw_tbl[i]?) := by decide +kernel
theorem am_ty5 : ∀ k, k < 12 → parseFieldDescriptor (am_F5 k).2.2.1 = some (am_t5 k) := by decide +kernel
theorem am_nm5 : ∀ a, a < 12 → ∀ b, b < 12 → a ≠ b → (am_F5 a).2.1 ≠ (am_F5 b).2.1 := by decide +kernel
theorem am_in5 : lw_tbl[77]? = some (Cond.instantiable "BoxNest$Hold" 12) ∧ lw_tbl[56]? = some (Cond.initialized "BoxNest$Hold") := by decide +kernel
theorem am_u6 : u_ws "BoxNest$Orders" am_F6 5 = ([313, 315, 317, 319, 321] : List Nat).filterMap (fun i => lw_tbl[i]?) := by decide +kernel
theorem am_ty6 : ∀ k, k < 5 → parseFieldDescriptor (am_F6 k).2.2.1 = some (am_t6 k) := by decide +kernel
theorem am_nm6 : ∀ a, a < 5 → ∀ b, b < 5 → a ≠ b → (am_F6 a).2.1 ≠ (am_F6 b).2.1 := by decide +kernel
theorem am_in6 : lw_tbl[300]? = some (Cond.instantiable "BoxNest$Orders" 5) ∧ lw_tbl[60]? = some (Cond.initialized "BoxNest$Orders") := by decide +kernel
theorem am_u7 : u_ws "BoxNest$Truck" am_F7 9 = ([120, 122, 124, 126, 128, 130, 132, 134, 136] : List Nat).filterMap (fun i => lw_tbl[i]?) := by decide +kernel
theorem am_ty7 : ∀ k, k < 9 → parseFieldDescriptor (am_F7 k).2.2.1 = some (am_t7 k) := by decide +kernel
theorem am_nm7 : ∀ a, a < 9 → ∀ b, b < 9 → a ≠ b → (am_F7 a).2.1 ≠ (am_F7 b).2.1 := by decide +kernel
theorem am_in7 : lw_tbl[83]? = some (Cond.instantiable "BoxNest$Truck" 9) ∧ lw_tbl[57]? = some (Cond.initialized "BoxNest$Truck") := by decide +kernel
theorem am_u8 : u_ws "BoxNest" am_F8 5 = ([381, 383, 385, 387, 389] : List Nat).filterMap (fun i => lw_tbl[i]?) := by decide +kernel
theorem am_ty8 : ∀ k, k < 5 → parseFieldDescriptor (am_F8 k).2.2.1 = some (am_t8 k) := by decide +kernel
theorem am_nm8 : ∀ a, a < 5 → ∀ b, b < 5 → a ≠ b → (am_F8 a).2.1 ≠ (am_F8 b).2.1 := by decide +kernel
theorem am_in8 : lw_tbl[69]? = some (Cond.instantiable "BoxNest" 5) ∧ lw_tbl[55]? = some (Cond.initialized "BoxNest") := by decide +kernel
theorem am_u9 : u_ws "BoxNestModel" am_F9 40 = ([819, 821, 823, 825, 827, 829, 831, 833, 835, 837, 839, 841, 843, 845, 847, 849, 851, 853, 855, 857, 859, 861, 863, 865, 867, 869, 871, 873, 875, 877, 879, 881, 883, 885, 887, 889, 891, 893, 895, 897] : List Nat).filterMap (fun i => lw_tbl[i]?) := by decide +kernel
theorem am_ty9 : ∀ k, k < 40 → parseFieldDescriptor (am_F9 k).2.2.1 = some (am_t9 k) := by decide +kernel
theorem am_nm9 : ∀ a, a < 40 → ∀ b, b < 40 → a ≠ b → (am_F9 a).2.1 ≠ (am_F9 b).2.1 := by decide +kernel
theorem am_in9 : lw_tbl[773]? = some (Cond.instantiable "BoxNestModel" 40) ∧ lw_tbl[63]? = some (Cond.initialized "BoxNestModel") := by decide +kernel
theorem am_mem {ws : List Cond} {ps : List Nat} (h : ws = ps.filterMap (fun i => lw_tbl[i]?)) : ∀ w ∈ ws, w ∈ lw_tbl := by
  intro w hw
  rw [h] at hw
  obtain ⟨i, -, hi⟩ := List.mem_filterMap.mp hw
  exact List.mem_of_getElem? hi
/-- what is known of a class of the table -/
def am_okC (ci : Nat) (q : vw_C) : Prop := q = (am_cn ci, am_F ci, am_N ci) ∧ (∀ w ∈ u_ws q.1 q.2.1 q.2.2, w ∈ lw_tbl) ∧ (∀ k, k < q.2.2 → parseFieldDescriptor (q.2.1 k).2.2.1 = some (am_fty ci k)) ∧ (∀ a, a < q.2.2 → ∀ b, b < q.2.2 → a ≠ b → (q.2.1 a).2.1 ≠ (q.2.1 b).2.1) ∧ Cond.instantiable q.1 q.2.2 ∈ lw_tbl ∧ Cond.initialized q.1 ∈ lw_tbl
theorem am_clsOk : ∀ (ci : Nat) (q : vw_C), am_cls[ci]? = some q → am_okC ci q
  | 0, q, h => by cases h; exact ⟨rfl, am_mem am_u0, am_ty0, am_nm0, List.mem_of_getElem? am_in0.1, List.mem_of_getElem? am_in0.2⟩
  | 1, q, h => by cases h; exact ⟨rfl, am_mem am_u1, am_ty1, am_nm1, List.mem_of_getElem? am_in1.1, List.mem_of_getElem? am_in1.2⟩
  | 2, q, h => by cases h; exact ⟨rfl, am_mem am_u2, am_ty2, am_nm2, List.mem_of_getElem? am_in2.1, List.mem_of_getElem? am_in2.2⟩
  | 3, q, h => by cases h; exact ⟨rfl, am_mem am_u3, am_ty3, am_nm3, List.mem_of_getElem? am_in3.1, List.mem_of_getElem? am_in3.2⟩
  | 4, q, h => by cases h; exact ⟨rfl, am_mem am_u4, am_ty4, am_nm4, List.mem_of_getElem? am_in4.1, List.mem_of_getElem? am_in4.2⟩
  | 5, q, h => by cases h; exact ⟨rfl, am_mem am_u5, am_ty5, am_nm5, List.mem_of_getElem? am_in5.1, List.mem_of_getElem? am_in5.2⟩
  | 6, q, h => by cases h; exact ⟨rfl, am_mem am_u6, am_ty6, am_nm6, List.mem_of_getElem? am_in6.1, List.mem_of_getElem? am_in6.2⟩
  | 7, q, h => by cases h; exact ⟨rfl, am_mem am_u7, am_ty7, am_nm7, List.mem_of_getElem? am_in7.1, List.mem_of_getElem? am_in7.2⟩
  | 8, q, h => by cases h; exact ⟨rfl, am_mem am_u8, am_ty8, am_nm8, List.mem_of_getElem? am_in8.1, List.mem_of_getElem? am_in8.2⟩
  | 9, q, h => by cases h; exact ⟨rfl, am_mem am_u9, am_ty9, am_nm9, List.mem_of_getElem? am_in9.1, List.mem_of_getElem? am_in9.2⟩
  | n + 10, q, h => by cases h
/-- a method: class number, name, code, locals, what it answers, arguments (with the object), static, constructor -/
abbrev am_M : Type := Nat × MethodName × ByteArray × Nat × Option FieldType × Nat × Bool × Bool
abbrev M_B_new : Nat := 0
abbrev M_Hold_new : Nat := 1
abbrev M_Truck_new : Nat := 2
abbrev M_Edges_new : Nat := 3
abbrev M_Box_new : Nat := 4
abbrev M_Orders_new : Nat := 5
abbrev M_Balance_new : Nat := 6
abbrev M_Bounds_new : Nat := 7
abbrev M_B_box : Nat := 8
abbrev M_B_within : Nat := 9
abbrev M_Cutter_forget : Nat := 10
abbrev M_B_truck : Nat := 11
abbrev M_B_share : Nat := 12
abbrev M_B_axles : Nat := 13
abbrev M_B_side : Nat := 14
abbrev M_B_wrong : Nat := 15
abbrev M_B_refusal : Nat := 16
abbrev M_Hold_knows : Nat := 17
abbrev M_Hold_has : Nat := 18
abbrev M_Hold_stand : Nat := 19
abbrev M_Box_moveTo : Nat := 20
abbrev M_Hold_commonInX : Nat := 21
abbrev M_Hold_commonInY : Nat := 22
abbrev M_Hold_commonInZ : Nat := 23
abbrev M_Hold_faults : Nat := 24
abbrev M_Hold_isInside : Nat := 25
abbrev M_Hold_isHeld : Nat := 26
abbrev M_Box_areaOn : Nat := 27
abbrev M_Hold_bearAll : Nat := 28
abbrev M_Arrays_fill : Nat := 29
abbrev M_Hold_giveLoad : Nat := 30
abbrev M_Hold_isInWay : Nat := 31
abbrev M_B_place : Nat := 32
abbrev M_Hold_putIn : Nat := 33
abbrev M_B_set : Nat := 34
abbrev M_Hold_setAtCorner : Nat := 35
abbrev M_Hold_listCorners : Nat := 36
abbrev M_Edges_list : Nat := 37
abbrev M_Hold_listCommon : Nat := 38
abbrev M_Hold_wall : Nat := 39
abbrev M_Hold_isFree : Nat := 40
abbrev M_B_take : Nat := 41
abbrev M_Hold_carries : Nat := 42
abbrev M_Hold_putOut : Nat := 43
abbrev M_B_clear : Nat := 44
abbrev M_Integer_bitCount : Nat := 45
abbrev M_B_best : Nat := 46
abbrev M_B_isSet : Nat := 47
abbrev M_Orders_begin : Nat := 48
abbrev M_B_tryOrders : Nat := 49
abbrev M_Hold_reach : Nat := 50
abbrev M_Orders_cannotWin : Nat := 51
abbrev M_Orders_keep : Nat := 52
abbrev M_B_setBest : Nat := 53
abbrev M_B_about : Nat := 54
abbrev M_Hold_loadOf : Nat := 55
abbrev M_Hold_supportsOf : Nat := 56
abbrev M_B_at : Nat := 57
abbrev M_Box_fills : Nat := 58
abbrev M_B_axle : Nat := 59
abbrev M_Balance_sum : Nat := 60
abbrev M_Balance_front : Nat := 61
abbrev M_Balance_rear : Nat := 62
abbrev M_Math_abs : Nat := 63
abbrev M_B_commonDivisor : Nat := 64
abbrev M_B_over : Nat := 65
abbrev M_B_overAt : Nat := 66
abbrev M_Balance_overBits : Nat := 67
abbrev M_B_fit : Nat := 68
abbrev M_B_cut : Nat := 69
abbrev M_Cutter_new : Nat := 70
abbrev M_Cutter_mostWorth : Nat := 71
abbrev M_Cutter_blockOf : Nat := 72
abbrev M_Cutter_greaterOf : Nat := 73
abbrev M_Math_max : Nat := 74
abbrev M_Cutter_fillWorths : Nat := 75
abbrev M_Cutter_offer : Nat := 76
abbrev M_Cutter_worthCut : Nat := 77
abbrev M_Cutter_aheadOf : Nat := 78
abbrev M_B_piece : Nat := 79
abbrev M_Cutter_tell : Nat := 80
abbrev M_Cutter_layOut : Nat := 81
abbrev M_Cutter_layPiece : Nat := 82
abbrev M_Cutter_firstCut : Nat := 83
abbrev M_B_trucks : Nat := 84
abbrev M_Hold_fitsEmpty : Nat := 85
abbrev M_Bounds_judge : Nat := 86
abbrev M_Box_volume : Nat := 87
abbrev M_Bounds_measure : Nat := 88
abbrev M_Math_min : Nat := 89
abbrev M_Bounds_findApart : Nat := 90
abbrev M_Bounds_areApart : Nat := 91
abbrev M_Bounds_findBig : Nat := 92
abbrev M_B_shown : Nat := 93
abbrev M_B_count : Nat := 94
abbrev M_Hold_weightIn : Nat := 95
abbrev M_Hold_cellsFilled : Nat := 96
abbrev M_R_new : Nat := 97
abbrev M_R_box : Nat := 98
abbrev M_R_in : Nat := 99
abbrev M_R_truck : Nat := 100
abbrev M_R_placed : Nat := 101
abbrev M_R_share : Nat := 102
abbrev M_R_axles : Nat := 103
abbrev M_R_side : Nat := 104
abbrev M_R_wrong : Nat := 105
abbrev M_R_asked : Nat := 106
abbrev M_R_isBox : Nat := 107
abbrev M_R_wrongAt : Nat := 108
abbrev M_R_longOf : Nat := 109
abbrev M_R_wideOf : Nat := 110
abbrev M_R_area : Nat := 111
abbrev M_R_common : Nat := 112
abbrev M_R_stands : Nat := 113
abbrev M_R_topOf : Nat := 114
abbrev M_R_isInWay : Nat := 115
abbrev M_R_makeLoads : Nat := 116
abbrev M_R_place : Nat := 117
abbrev M_R_set : Nat := 118
abbrev M_R_sets : Nat := 119
abbrev M_R_nextEnd : Nat := 120
abbrev M_R_take : Nat := 121
abbrev M_R_clear : Nat := 122
abbrev M_R_best : Nat := 123
abbrev M_R_isSet : Nat := 124
abbrev M_R_orders : Nat := 125
abbrev M_R_lists : Nat := 126
abbrev M_R_farthest : Nat := 127
abbrev M_R_unset : Nat := 128
abbrev M_R_about : Nat := 129
abbrev M_R_at : Nat := 130
abbrev M_R_axle : Nat := 131
abbrev M_R_axleOf : Nat := 132
abbrev M_R_isLeft : Nat := 133
abbrev M_R_weights : Nat := 134
abbrev M_R_over : Nat := 135
abbrev M_R_overAt : Nat := 136
abbrev M_R_fit : Nat := 137
abbrev M_R_cut : Nat := 138
abbrev M_R_makeMost : Nat := 139
abbrev M_R_isPiece : Nat := 140
abbrev M_R_block : Nat := 141
abbrev M_R_greater : Nat := 142
abbrev M_R_pattern : Nat := 143
abbrev M_R_piece : Nat := 144
abbrev M_R_trucks : Nat := 145
abbrev M_R_fitsSo : Nat := 146
abbrev M_R_isApart : Nat := 147
abbrev M_R_bigs : Nat := 148
abbrev M_R_shown : Nat := 149
abbrev M_R_count : Nat := 150
abbrev M_L_law : Nat := 151
def am_m0 : am_M := (8, ⟨"BoxNest", "<init>", "()V"⟩, prog_1_method_1_code, 1, none, 1, false, true)
def am_m1 : am_M := (5, ⟨"BoxNest$Hold", "<init>", "()V"⟩, prog_7_method_1_code, 2, none, 1, false, true)
def am_m2 : am_M := (7, ⟨"BoxNest$Truck", "<init>", "()V"⟩, prog_9_method_1_code, 1, none, 1, false, true)
def am_m3 : am_M := (4, ⟨"BoxNest$Edges", "<init>", "()V"⟩, prog_6_method_1_code, 1, none, 1, false, true)
def am_m4 : am_M := (2, ⟨"BoxNest$Box", "<init>", "()V"⟩, prog_4_method_1_code, 1, none, 1, false, true)
def am_m5 : am_M := (6, ⟨"BoxNest$Orders", "<init>", "()V"⟩, prog_8_method_1_code, 1, none, 1, false, true)
def am_m6 : am_M := (0, ⟨"BoxNest$Balance", "<init>", "()V"⟩, prog_2_method_1_code, 1, none, 1, false, true)
def am_m7 : am_M := (1, ⟨"BoxNest$Bounds", "<init>", "()V"⟩, prog_3_method_1_code, 1, none, 1, false, true)
def am_m8 : am_M := (8, ⟨"BoxNest", "box", "(IIIIIIZI)I"⟩, prog_1_method_2_code, 10, (some .int), 9, false, false)
def am_m9 : am_M := (8, ⟨"BoxNest", "within", "(III)Z"⟩, prog_1_method_23_code, 3, (some .boolean), 3, true, false)
def am_m10 : am_M := (3, ⟨"BoxNest$Cutter", "forget", "()V"⟩, prog_5_method_2_code, 1, none, 1, false, false)
def am_m11 : am_M := (8, ⟨"BoxNest", "truck", "(III)I"⟩, prog_1_method_3_code, 4, (some .int), 4, false, false)
def am_m12 : am_M := (8, ⟨"BoxNest", "share", "(I)I"⟩, prog_1_method_4_code, 3, (some .int), 2, false, false)
def am_m13 : am_M := (8, ⟨"BoxNest", "axles", "(IIII)I"⟩, prog_1_method_5_code, 5, (some .int), 5, false, false)
def am_m14 : am_M := (8, ⟨"BoxNest", "side", "(I)I"⟩, prog_1_method_6_code, 3, (some .int), 2, false, false)
def am_m15 : am_M := (8, ⟨"BoxNest", "wrong", "(IIIIZ)I"⟩, prog_1_method_7_code, 7, (some .int), 6, false, false)
def am_m16 : am_M := (8, ⟨"BoxNest", "refusal", "(IIIIZ)I"⟩, prog_1_method_25_code, 6, (some .int), 6, false, false)
def am_m17 : am_M := (5, ⟨"BoxNest$Hold", "knows", "(I)Z"⟩, prog_7_method_2_code, 2, (some .boolean), 2, false, false)
def am_m18 : am_M := (5, ⟨"BoxNest$Hold", "has", "(I)Z"⟩, prog_7_method_3_code, 2, (some .boolean), 2, false, false)
def am_m19 : am_M := (5, ⟨"BoxNest$Hold", "stand", "(IIIIZ)V"⟩, prog_7_method_13_code, 7, none, 6, false, false)
def am_m20 : am_M := (2, ⟨"BoxNest$Box", "moveTo", "(IIIZ)V"⟩, prog_4_method_2_code, 5, none, 5, false, false)
def am_m21 : am_M := (5, ⟨"BoxNest$Hold", "commonInX", "(II)I"⟩, prog_7_method_15_code, 5, (some .int), 3, false, false)
def am_m22 : am_M := (5, ⟨"BoxNest$Hold", "commonInY", "(II)I"⟩, prog_7_method_16_code, 5, (some .int), 3, false, false)
def am_m23 : am_M := (5, ⟨"BoxNest$Hold", "commonInZ", "(II)I"⟩, prog_7_method_17_code, 5, (some .int), 3, false, false)
def am_m24 : am_M := (5, ⟨"BoxNest$Hold", "faults", "(I)I"⟩, prog_7_method_14_code, 4, (some .int), 2, false, false)
def am_m25 : am_M := (5, ⟨"BoxNest$Hold", "isInside", "(LBoxNest$Box;)Z"⟩, prog_7_method_18_code, 2, (some .boolean), 2, false, false)
def am_m26 : am_M := (5, ⟨"BoxNest$Hold", "isHeld", "(LBoxNest$Box;)Z"⟩, prog_7_method_19_code, 5, (some .boolean), 2, false, false)
def am_m27 : am_M := (2, ⟨"BoxNest$Box", "areaOn", "(LBoxNest$Box;)I"⟩, prog_4_method_4_code, 4, (some .int), 2, false, false)
def am_m28 : am_M := (5, ⟨"BoxNest$Hold", "bearAll", "(I)Z"⟩, prog_7_method_21_code, 5, (some .boolean), 2, false, false)
def am_m29 : am_M := (13, ⟨"java/util/Arrays", "fill", "([II)V"⟩, prog_14_method_103_code, 4, none, 2, true, false)
def am_m30 : am_M := (5, ⟨"BoxNest$Hold", "giveLoad", "(II)V"⟩, prog_7_method_22_code, 9, none, 3, false, false)
def am_m31 : am_M := (5, ⟨"BoxNest$Hold", "isInWay", "(LBoxNest$Box;)Z"⟩, prog_7_method_20_code, 8, (some .boolean), 2, false, false)
def am_m32 : am_M := (8, ⟨"BoxNest", "place", "(IIIIZ)I"⟩, prog_1_method_8_code, 7, (some .int), 6, false, false)
def am_m33 : am_M := (5, ⟨"BoxNest$Hold", "putIn", "(I)V"⟩, prog_7_method_4_code, 2, none, 2, false, false)
def am_m34 : am_M := (8, ⟨"BoxNest", "set", "(I)I"⟩, prog_1_method_9_code, 2, (some .int), 2, false, false)
def am_m35 : am_M := (5, ⟨"BoxNest$Hold", "setAtCorner", "(I)Z"⟩, prog_7_method_23_code, 8, (some .boolean), 2, false, false)
def am_m36 : am_M := (5, ⟨"BoxNest$Hold", "listCorners", "(LBoxNest$Box;)V"⟩, prog_7_method_24_code, 9, none, 2, false, false)
def am_m37 : am_M := (4, ⟨"BoxNest$Edges", "list", "(J)V"⟩, prog_6_method_2_code, 4, none, 2, false, false)
def am_m38 : am_M := (5, ⟨"BoxNest$Hold", "listCommon", "(LBoxNest$Box;)V"⟩, prog_7_method_25_code, 4, none, 2, false, false)
def am_m39 : am_M := (5, ⟨"BoxNest$Hold", "wall", "(II)I"⟩, prog_7_method_26_code, 2, (some .int), 2, true, false)
def am_m40 : am_M := (5, ⟨"BoxNest$Hold", "isFree", "(IIIIZ)Z"⟩, prog_7_method_27_code, 7, (some .boolean), 6, false, false)
def am_m41 : am_M := (8, ⟨"BoxNest", "take", "(I)I"⟩, prog_1_method_10_code, 2, (some .int), 2, false, false)
def am_m42 : am_M := (5, ⟨"BoxNest$Hold", "carries", "(I)Z"⟩, prog_7_method_9_code, 3, (some .boolean), 2, false, false)
def am_m43 : am_M := (5, ⟨"BoxNest$Hold", "putOut", "(I)V"⟩, prog_7_method_5_code, 2, none, 2, false, false)
def am_m44 : am_M := (8, ⟨"BoxNest", "clear", "()I"⟩, prog_1_method_11_code, 2, (some .int), 1, false, false)
def am_m45 : am_M := (11, ⟨"java/lang/Integer", "bitCount", "(I)I"⟩, prog_12_method_49_code, 1, (some .int), 1, true, false)
def am_m46 : am_M := (8, ⟨"BoxNest", "best", "(I)I"⟩, prog_1_method_12_code, 2, (some .int), 2, false, false)
def am_m47 : am_M := (8, ⟨"BoxNest", "isSet", "(I)Z"⟩, prog_1_method_24_code, 2, (some .boolean), 2, false, false)
def am_m48 : am_M := (6, ⟨"BoxNest$Orders", "begin", "()V"⟩, prog_8_method_2_code, 1, none, 1, false, false)
def am_m49 : am_M := (8, ⟨"BoxNest", "tryOrders", "(III)V"⟩, prog_1_method_26_code, 7, none, 4, false, false)
def am_m50 : am_M := (5, ⟨"BoxNest$Hold", "reach", "()I"⟩, prog_7_method_7_code, 3, (some .int), 1, false, false)
def am_m51 : am_M := (6, ⟨"BoxNest$Orders", "cannotWin", "(II)Z"⟩, prog_8_method_3_code, 3, (some .boolean), 3, false, false)
def am_m52 : am_M := (6, ⟨"BoxNest$Orders", "keep", "(III)V"⟩, prog_8_method_4_code, 5, none, 4, false, false)
def am_m53 : am_M := (8, ⟨"BoxNest", "setBest", "()I"⟩, prog_1_method_27_code, 3, (some .int), 1, false, false)
def am_m54 : am_M := (8, ⟨"BoxNest", "about", "(II)I"⟩, prog_1_method_13_code, 5, (some .int), 3, false, false)
def am_m55 : am_M := (5, ⟨"BoxNest$Hold", "loadOf", "(I)I"⟩, prog_7_method_11_code, 2, (some .int), 2, false, false)
def am_m56 : am_M := (5, ⟨"BoxNest$Hold", "supportsOf", "(I)I"⟩, prog_7_method_10_code, 4, (some .int), 2, false, false)
def am_m57 : am_M := (8, ⟨"BoxNest", "at", "(III)I"⟩, prog_1_method_14_code, 5, (some .int), 4, false, false)
def am_m58 : am_M := (2, ⟨"BoxNest$Box", "fills", "(III)Z"⟩, prog_4_method_3_code, 4, (some .boolean), 4, false, false)
def am_m59 : am_M := (8, ⟨"BoxNest", "axle", "(III)I"⟩, prog_1_method_15_code, 6, (some .int), 4, false, false)
def am_m60 : am_M := (0, ⟨"BoxNest$Balance", "sum", "(LBoxNest$Hold;I)V"⟩, prog_2_method_2_code, 6, none, 3, false, false)
def am_m61 : am_M := (0, ⟨"BoxNest$Balance", "front", "()I"⟩, prog_2_method_3_code, 1, (some .int), 1, false, false)
def am_m62 : am_M := (0, ⟨"BoxNest$Balance", "rear", "()I"⟩, prog_2_method_4_code, 1, (some .int), 1, false, false)
def am_m63 : am_M := (12, ⟨"java/lang/Math", "abs", "(I)I"⟩, prog_13_method_59_code, 1, (some .int), 1, true, false)
def am_m64 : am_M := (8, ⟨"BoxNest", "commonDivisor", "(II)I"⟩, prog_1_method_29_code, 6, (some .int), 2, true, false)
def am_m65 : am_M := (8, ⟨"BoxNest", "over", "(I)I"⟩, prog_1_method_16_code, 2, (some .int), 2, false, false)
def am_m66 : am_M := (8, ⟨"BoxNest", "overAt", "(I)I"⟩, prog_1_method_28_code, 2, (some .int), 2, false, false)
def am_m67 : am_M := (0, ⟨"BoxNest$Balance", "overBits", "(LBoxNest$Truck;)I"⟩, prog_2_method_5_code, 4, (some .int), 2, false, false)
def am_m68 : am_M := (8, ⟨"BoxNest", "fit", "()I"⟩, prog_1_method_17_code, 2, (some .int), 1, false, false)
def am_m69 : am_M := (8, ⟨"BoxNest", "cut", "(III)I"⟩, prog_1_method_18_code, 4, (some .int), 4, false, false)
def am_m70 : am_M := (3, ⟨"BoxNest$Cutter", "<init>", "()V"⟩, prog_5_method_1_code, 1, none, 1, false, true)
def am_m71 : am_M := (3, ⟨"BoxNest$Cutter", "mostWorth", "(LBoxNest$Hold;III)I"⟩, prog_5_method_3_code, 6, (some .int), 5, false, false)
def am_m72 : am_M := (3, ⟨"BoxNest$Cutter", "blockOf", "(III)I"⟩, prog_5_method_5_code, 3, (some .int), 3, true, false)
def am_m73 : am_M := (3, ⟨"BoxNest$Cutter", "greaterOf", "(II)I"⟩, prog_5_method_6_code, 5, (some .int), 2, true, false)
def am_m74 : am_M := (12, ⟨"java/lang/Math", "max", "(II)I"⟩, prog_13_method_65_code, 2, (some .int), 2, true, false)
def am_m75 : am_M := (3, ⟨"BoxNest$Cutter", "fillWorths", "(LBoxNest$Hold;I)V"⟩, prog_5_method_7_code, 7, none, 3, false, false)
def am_m76 : am_M := (3, ⟨"BoxNest$Cutter", "offer", "(II)V"⟩, prog_5_method_8_code, 3, none, 3, false, false)
def am_m77 : am_M := (3, ⟨"BoxNest$Cutter", "worthCut", "(I)I"⟩, prog_5_method_9_code, 7, (some .int), 2, false, false)
def am_m78 : am_M := (3, ⟨"BoxNest$Cutter", "aheadOf", "(III)I"⟩, prog_5_method_10_code, 3, (some .int), 3, true, false)
def am_m79 : am_M := (8, ⟨"BoxNest", "piece", "(II)I"⟩, prog_1_method_19_code, 3, (some .int), 3, false, false)
def am_m80 : am_M := (3, ⟨"BoxNest$Cutter", "tell", "(LBoxNest$Hold;II)I"⟩, prog_5_method_4_code, 5, (some .int), 4, false, false)
def am_m81 : am_M := (3, ⟨"BoxNest$Cutter", "layOut", "(LBoxNest$Hold;III)V"⟩, prog_5_method_11_code, 11, none, 5, false, false)
def am_m82 : am_M := (3, ⟨"BoxNest$Cutter", "layPiece", "(LBoxNest$Hold;II)Z"⟩, prog_5_method_12_code, 7, (some .boolean), 4, false, false)
def am_m83 : am_M := (3, ⟨"BoxNest$Cutter", "firstCut", "(I)I"⟩, prog_5_method_13_code, 5, (some .int), 2, false, false)
def am_m84 : am_M := (8, ⟨"BoxNest", "trucks", "(I)I"⟩, prog_1_method_20_code, 3, (some .int), 2, false, false)
def am_m85 : am_M := (5, ⟨"BoxNest$Hold", "fitsEmpty", "(IZ)Z"⟩, prog_7_method_12_code, 6, (some .boolean), 3, false, false)
def am_m86 : am_M := (1, ⟨"BoxNest$Bounds", "judge", "(LBoxNest$Hold;I)V"⟩, prog_3_method_2_code, 6, none, 3, false, false)
def am_m87 : am_M := (2, ⟨"BoxNest$Box", "volume", "()I"⟩, prog_4_method_5_code, 1, (some .int), 1, false, false)
def am_m88 : am_M := (1, ⟨"BoxNest$Bounds", "measure", "(LBoxNest$Hold;I)V"⟩, prog_3_method_3_code, 6, none, 3, false, false)
def am_m89 : am_M := (12, ⟨"java/lang/Math", "min", "(II)I"⟩, prog_13_method_69_code, 2, (some .int), 2, true, false)
def am_m90 : am_M := (1, ⟨"BoxNest$Bounds", "findApart", "(LBoxNest$Hold;I)V"⟩, prog_3_method_4_code, 5, none, 3, false, false)
def am_m91 : am_M := (1, ⟨"BoxNest$Bounds", "areApart", "(LBoxNest$Hold;II)Z"⟩, prog_3_method_5_code, 5, (some .boolean), 4, false, false)
def am_m92 : am_M := (1, ⟨"BoxNest$Bounds", "findBig", "(III)V"⟩, prog_3_method_6_code, 6, none, 4, false, false)
def am_m93 : am_M := (8, ⟨"BoxNest", "shown", "(I)I"⟩, prog_1_method_21_code, 2, (some .int), 2, false, false)
def am_m94 : am_M := (8, ⟨"BoxNest", "count", "(I)I"⟩, prog_1_method_22_code, 3, (some .int), 2, false, false)
def am_m95 : am_M := (5, ⟨"BoxNest$Hold", "weightIn", "()I"⟩, prog_7_method_6_code, 3, (some .int), 1, false, false)
def am_m96 : am_M := (5, ⟨"BoxNest$Hold", "cellsFilled", "()I"⟩, prog_7_method_8_code, 3, (some .int), 1, false, false)
def am_m97 : am_M := (9, ⟨"BoxNestModel", "<init>", "()V"⟩, prog_11_method_1_code, 1, none, 1, false, true)
def am_m98 : am_M := (9, ⟨"BoxNestModel", "box", "(IIIIIIZI)I"⟩, prog_11_method_3_code, 9, (some .int), 9, false, false)
def am_m99 : am_M := (9, ⟨"BoxNestModel", "in", "(III)Z"⟩, prog_11_method_2_code, 3, (some .boolean), 3, true, false)
def am_m100 : am_M := (9, ⟨"BoxNestModel", "truck", "(III)I"⟩, prog_11_method_5_code, 4, (some .int), 4, false, false)
def am_m101 : am_M := (9, ⟨"BoxNestModel", "placed", "()I"⟩, prog_11_method_4_code, 3, (some .int), 1, false, false)
def am_m102 : am_M := (9, ⟨"BoxNestModel", "share", "(I)I"⟩, prog_11_method_6_code, 3, (some .int), 2, false, false)
def am_m103 : am_M := (9, ⟨"BoxNestModel", "axles", "(IIII)I"⟩, prog_11_method_7_code, 5, (some .int), 5, false, false)
def am_m104 : am_M := (9, ⟨"BoxNestModel", "side", "(I)I"⟩, prog_11_method_8_code, 3, (some .int), 2, false, false)
def am_m105 : am_M := (9, ⟨"BoxNestModel", "wrong", "(IIIIZ)I"⟩, prog_11_method_20_code, 7, (some .int), 6, false, false)
def am_m106 : am_M := (9, ⟨"BoxNestModel", "asked", "(IIIIZ)I"⟩, prog_11_method_19_code, 6, (some .int), 6, false, false)
def am_m107 : am_M := (9, ⟨"BoxNestModel", "isBox", "(I)Z"⟩, prog_11_method_9_code, 2, (some .boolean), 2, false, false)
def am_m108 : am_M := (9, ⟨"BoxNestModel", "wrongAt", "(IIIIZ)I"⟩, prog_11_method_18_code, 10, (some .int), 6, false, false)
def am_m109 : am_M := (9, ⟨"BoxNestModel", "longOf", "(I)I"⟩, prog_11_method_10_code, 2, (some .int), 2, false, false)
def am_m110 : am_M := (9, ⟨"BoxNestModel", "wideOf", "(I)I"⟩, prog_11_method_11_code, 2, (some .int), 2, false, false)
def am_m111 : am_M := (9, ⟨"BoxNestModel", "area", "(II)I"⟩, prog_11_method_14_code, 3, (some .int), 3, false, false)
def am_m112 : am_M := (9, ⟨"BoxNestModel", "common", "(IIII)I"⟩, prog_11_method_13_code, 6, (some .int), 4, true, false)
def am_m113 : am_M := (9, ⟨"BoxNestModel", "stands", "(II)I"⟩, prog_11_method_15_code, 3, (some .int), 3, false, false)
def am_m114 : am_M := (9, ⟨"BoxNestModel", "topOf", "(I)I"⟩, prog_11_method_12_code, 2, (some .int), 2, false, false)
def am_m115 : am_M := (9, ⟨"BoxNestModel", "isInWay", "(II)Z"⟩, prog_11_method_17_code, 7, (some .boolean), 3, false, false)
def am_m116 : am_M := (9, ⟨"BoxNestModel", "makeLoads", "()V"⟩, prog_11_method_16_code, 8, none, 1, false, false)
def am_m117 : am_M := (9, ⟨"BoxNestModel", "place", "(IIIIZ)I"⟩, prog_11_method_21_code, 7, (some .int), 6, false, false)
def am_m118 : am_M := (9, ⟨"BoxNestModel", "set", "(I)I"⟩, prog_11_method_24_code, 2, (some .int), 2, false, false)
def am_m119 : am_M := (9, ⟨"BoxNestModel", "sets", "(I)Z"⟩, prog_11_method_23_code, 6, (some .boolean), 2, false, false)
def am_m120 : am_M := (9, ⟨"BoxNestModel", "nextEnd", "(II)I"⟩, prog_11_method_22_code, 6, (some .int), 3, false, false)
def am_m121 : am_M := (9, ⟨"BoxNestModel", "take", "(I)I"⟩, prog_11_method_25_code, 3, (some .int), 2, false, false)
def am_m122 : am_M := (9, ⟨"BoxNestModel", "clear", "()I"⟩, prog_11_method_26_code, 3, (some .int), 1, false, false)
def am_m123 : am_M := (9, ⟨"BoxNestModel", "best", "(I)I"⟩, prog_11_method_32_code, 4, (some .int), 2, false, false)
def am_m124 : am_M := (9, ⟨"BoxNestModel", "isSet", "(I)Z"⟩, prog_11_method_28_code, 2, (some .boolean), 2, false, false)
def am_m125 : am_M := (9, ⟨"BoxNestModel", "orders", "(IIII)V"⟩, prog_11_method_31_code, 7, none, 5, false, false)
def am_m126 : am_M := (9, ⟨"BoxNestModel", "lists", "(II)I"⟩, prog_11_method_29_code, 5, (some .int), 3, false, false)
def am_m127 : am_M := (9, ⟨"BoxNestModel", "farthest", "()I"⟩, prog_11_method_27_code, 3, (some .int), 1, false, false)
def am_m128 : am_M := (9, ⟨"BoxNestModel", "unset", "(I)V"⟩, prog_11_method_30_code, 3, none, 2, false, false)
def am_m129 : am_M := (9, ⟨"BoxNestModel", "about", "(II)I"⟩, prog_11_method_33_code, 5, (some .int), 3, false, false)
def am_m130 : am_M := (9, ⟨"BoxNestModel", "at", "(III)I"⟩, prog_11_method_34_code, 6, (some .int), 4, false, false)
def am_m131 : am_M := (9, ⟨"BoxNestModel", "axle", "(III)I"⟩, prog_11_method_38_code, 9, (some .int), 4, false, false)
def am_m132 : am_M := (9, ⟨"BoxNestModel", "axleOf", "(II)I"⟩, prog_11_method_37_code, 5, (some .int), 3, false, false)
def am_m133 : am_M := (9, ⟨"BoxNestModel", "isLeft", "(II)Z"⟩, prog_11_method_35_code, 3, (some .boolean), 3, false, false)
def am_m134 : am_M := (9, ⟨"BoxNestModel", "weights", "(I)I"⟩, prog_11_method_36_code, 4, (some .int), 2, false, false)
def am_m135 : am_M := (9, ⟨"BoxNestModel", "over", "(I)I"⟩, prog_11_method_40_code, 2, (some .int), 2, false, false)
def am_m136 : am_M := (9, ⟨"BoxNestModel", "overAt", "(I)I"⟩, prog_11_method_39_code, 9, (some .int), 2, false, false)
def am_m137 : am_M := (9, ⟨"BoxNestModel", "fit", "()I"⟩, prog_11_method_41_code, 2, (some .int), 1, false, false)
def am_m138 : am_M := (9, ⟨"BoxNestModel", "cut", "(III)I"⟩, prog_11_method_47_code, 4, (some .int), 4, false, false)
def am_m139 : am_M := (9, ⟨"BoxNestModel", "makeMost", "(III)V"⟩, prog_11_method_44_code, 9, none, 4, false, false)
def am_m140 : am_M := (9, ⟨"BoxNestModel", "isPiece", "(IIIIZ)Z"⟩, prog_11_method_43_code, 6, (some .boolean), 6, false, false)
def am_m141 : am_M := (9, ⟨"BoxNestModel", "block", "(III)I"⟩, prog_11_method_42_code, 3, (some .int), 3, true, false)
def am_m142 : am_M := (9, ⟨"BoxNestModel", "greater", "(II)I"⟩, prog_11_method_45_code, 2, (some .int), 2, true, false)
def am_m143 : am_M := (9, ⟨"BoxNestModel", "pattern", "(IIIIII)V"⟩, prog_11_method_46_code, 10, none, 7, false, false)
def am_m144 : am_M := (9, ⟨"BoxNestModel", "piece", "(II)I"⟩, prog_11_method_48_code, 3, (some .int), 3, false, false)
def am_m145 : am_M := (9, ⟨"BoxNestModel", "trucks", "(I)I"⟩, prog_11_method_52_code, 5, (some .int), 2, false, false)
def am_m146 : am_M := (9, ⟨"BoxNestModel", "fitsSo", "(IZ)Z"⟩, prog_11_method_49_code, 5, (some .boolean), 3, false, false)
def am_m147 : am_M := (9, ⟨"BoxNestModel", "isApart", "(II)Z"⟩, prog_11_method_50_code, 7, (some .boolean), 3, false, false)
def am_m148 : am_M := (9, ⟨"BoxNestModel", "bigs", "(IIII)V"⟩, prog_11_method_51_code, 7, none, 5, false, false)
def am_m149 : am_M := (9, ⟨"BoxNestModel", "shown", "(I)I"⟩, prog_11_method_53_code, 2, (some .int), 2, false, false)
def am_m150 : am_M := (9, ⟨"BoxNestModel", "count", "(I)I"⟩, prog_11_method_54_code, 4, (some .int), 2, false, false)
def am_m151 : am_M := (10, ⟨"BoxNestLaw", "law", "([I)Z"⟩, code, 4, (some .boolean), 1, true, false)
def am_ms : List am_M := [am_m0, am_m1, am_m2, am_m3, am_m4, am_m5, am_m6, am_m7, am_m8, am_m9, am_m10, am_m11, am_m12, am_m13, am_m14, am_m15, am_m16, am_m17, am_m18, am_m19, am_m20, am_m21, am_m22, am_m23, am_m24, am_m25, am_m26, am_m27, am_m28, am_m29, am_m30, am_m31, am_m32, am_m33, am_m34, am_m35, am_m36, am_m37, am_m38, am_m39, am_m40, am_m41, am_m42, am_m43, am_m44, am_m45, am_m46, am_m47, am_m48, am_m49, am_m50, am_m51, am_m52, am_m53, am_m54, am_m55, am_m56, am_m57, am_m58, am_m59, am_m60, am_m61, am_m62, am_m63, am_m64, am_m65, am_m66, am_m67, am_m68, am_m69, am_m70, am_m71, am_m72, am_m73, am_m74, am_m75, am_m76, am_m77, am_m78, am_m79, am_m80, am_m81, am_m82, am_m83, am_m84, am_m85, am_m86, am_m87, am_m88, am_m89, am_m90, am_m91, am_m92, am_m93, am_m94, am_m95, am_m96, am_m97, am_m98, am_m99, am_m100, am_m101, am_m102, am_m103, am_m104, am_m105, am_m106, am_m107, am_m108, am_m109, am_m110, am_m111, am_m112, am_m113, am_m114, am_m115, am_m116, am_m117, am_m118, am_m119, am_m120, am_m121, am_m122, am_m123, am_m124, am_m125, am_m126, am_m127, am_m128, am_m129, am_m130, am_m131, am_m132, am_m133, am_m134, am_m135, am_m136, am_m137, am_m138, am_m139, am_m140, am_m141, am_m142, am_m143, am_m144, am_m145, am_m146, am_m147, am_m148, am_m149, am_m150, am_m151]
def am_y (mi : Nat) : MethodName := match am_ms[mi]? with | some q => q.2.1 | none => ⟨"", "", ""⟩
def am_FW : List (Nat × Nat × Nat × Nat) := [(7, 7, 7, 0), (1, 27, 7, 0), (8, 92, 7, 0), (5, 87, 7, 0), (7, 13, 7, 1), (1, 33, 7, 1), (8, 95, 7, 1), (0, 78, 7, 1), (5, 88, 7, 1), (7, 16, 7, 2), (1, 36, 7, 2), (8, 96, 7, 2), (5, 76, 7, 2), (7, 19, 7, 3), (8, 97, 7, 3), (5, 137, 7, 3), (7, 22, 7, 4), (0, 30, 7, 4), (8, 101, 7, 4), (7, 25, 7, 5), (0, 25, 7, 5), (8, 104, 7, 5), (7, 29, 7, 6), (0, 69, 7, 6), (8, 107, 7, 6), (7, 32, 7, 7), (0, 75, 7, 7), (8, 110, 7, 7), (7, 35, 7, 8), (0, 87, 7, 8), (8, 113, 7, 8), (4, 9, 4, 0), (5, 163, 4, 0), (4, 15, 4, 1), (5, 166, 4, 1), (4, 18, 4, 2), (5, 187, 4, 2), (4, 21, 4, 3), (5, 160, 4, 3), (2, 26, 2, 0), (8, 53, 2, 0), (1, 80, 2, 0), (3, 64, 2, 0), (5, 84, 2, 0), (2, 23, 2, 1), (8, 58, 2, 1), (1, 81, 2, 1), (3, 69, 2, 1), (5, 81, 2, 1), (2, 35, 2, 2), (8, 61, 2, 2), (1, 92, 2, 2), (3, 72, 2, 2), (5, 73, 2, 2), (0, 52, 2, 3), (8, 64, 2, 3), (5, 56, 2, 3), (8, 67, 2, 4), (5, 149, 2, 4), (0, 47, 2, 5), (8, 70, 2, 5), (5, 140, 2, 5), (8, 73, 2, 6), (3, 82, 2, 6), (5, 77, 2, 6), (8, 77, 2, 7), (3, 75, 2, 7), (2, 7, 2, 8), (0, 53, 2, 8), (5, 93, 2, 8), (8, 167, 2, 8), (2, 13, 2, 9), (0, 59, 2, 9), (5, 103, 2, 9), (8, 170, 2, 9), (2, 16, 2, 10), (5, 115, 2, 10), (8, 173, 2, 10), (2, 29, 2, 11), (0, 56, 2, 11), (5, 59, 2, 11), (2, 32, 2, 12), (0, 62, 2, 12), (5, 106, 2, 12), (2, 38, 2, 13), (5, 118, 2, 13), (2, 19, 2, 14), (8, 176, 2, 14), (5, 12, 5, 0), (0, 7, 5, 0), (1, 21, 5, 0), (8, 88, 5, 0), (5, 20, 5, 1), (0, 39, 5, 1), (1, 42, 5, 1), (8, 49, 5, 1), (3, 60, 5, 1), (5, 45, 5, 2), (1, 39, 5, 2), (0, 36, 5, 2), (8, 45, 5, 2), (3, 55, 5, 2), (5, 49, 5, 3), (8, 85, 5, 3), (5, 24, 5, 4), (5, 28, 5, 5), (5, 34, 5, 6), (5, 38, 5, 7), (5, 41, 5, 8), (5, 100, 5, 9), (5, 112, 5, 10), (5, 124, 5, 11), (6, 9, 6, 0), (8, 261, 6, 0), (6, 15, 6, 1), (8, 268, 6, 1), (6, 18, 6, 2), (8, 265, 6, 2), (6, 22, 6, 3), (6, 25, 6, 4), (0, 13, 0, 0), (0, 19, 0, 1), (0, 22, 0, 2), (0, 33, 0, 3), (8, 204, 0, 3), (1, 56, 1, 0), (8, 239, 1, 0), (1, 60, 1, 1), (8, 230, 1, 1), (1, 63, 1, 2), (8, 233, 1, 2), (1, 66, 1, 3), (8, 242, 1, 3), (1, 9, 1, 4), (1, 15, 1, 5), (1, 18, 1, 6), (8, 10, 8, 0), (8, 19, 8, 1), (8, 26, 8, 2), (8, 33, 8, 3), (8, 37, 8, 4), (3, 11, 3, 0), (3, 15, 3, 1), (3, 18, 3, 2), (3, 22, 3, 3), (3, 25, 3, 4), (9, 119, 9, 0), (9, 7, 9, 1), (9, 13, 9, 2), (9, 16, 9, 3), (9, 19, 9, 4), (9, 22, 9, 5), (9, 25, 9, 6), (9, 28, 9, 7), (9, 32, 9, 8), (9, 35, 9, 9), (9, 38, 9, 10), (9, 41, 9, 11), (9, 44, 9, 12), (9, 47, 9, 13), (9, 50, 9, 14), (9, 54, 9, 15), (9, 57, 9, 16), (9, 60, 9, 17), (9, 63, 9, 18), (9, 66, 9, 19), (9, 70, 9, 20), (9, 73, 9, 21), (9, 76, 9, 22), (9, 79, 9, 23), (9, 191, 9, 24), (9, 185, 9, 25), (9, 188, 9, 26), (9, 82, 9, 27), (9, 85, 9, 28), (9, 88, 9, 29), (9, 91, 9, 30), (9, 94, 9, 31), (9, 97, 9, 32), (9, 100, 9, 33), (9, 103, 9, 34), (9, 235, 9, 35), (9, 238, 9, 36), (9, 106, 9, 37), (9, 109, 9, 38), (9, 112, 9, 39)]
theorem am_FWe : am_FW.map (fun q => Cond.fieldLink (am_cn q.1) q.2.1 (am_F q.2.2.1 q.2.2.2).1 (am_F q.2.2.1 q.2.2.2).2.1 (am_F q.2.2.1 q.2.2.2).2.2.1) = ([89, 90, 91, 92, 93, 94, 95, 96, 97, 98, 99, 100, 101, 102, 103, 104, 105, 106, 107, 108, 109, 110, 111, 112, 113, 114, 115, 116, 117, 118, 119, 147, 148, 149, 150, 151, 152, 153, 154, 170, 171, 172, 173, 174, 175, 176, 177, 178, 179, 180, 181, 182, 183, 184, 185, 186, 187, 188, 189, 190, 191, 192, 193, 194, 195, 196, 197, 198, 199, 200, 201, 202, 203, 204, 205, 206, 207, 208, 209, 210, 211, 212, 213, 214, 215, 216, 217, 218, 250, 251, 252, 253, 254, 255, 256, 257, 258, 259, 260, 261, 262, 263, 264, 265, 266, 267, 268, 269, 270, 271, 272, 273, 305, 306, 307, 308, 309, 310, 311, 312, 330, 331, 332, 333, 334, 350, 351, 352, 353, 354, 355, 356, 357, 358, 359, 360, 376, 377, 378, 379, 380, 652, 653, 654, 655, 656, 779, 780, 781, 782, 783, 784, 785, 786, 787, 788, 789, 790, 791, 792, 793, 794, 795, 796, 797, 798, 799, 800, 801, 802, 803, 804, 805, 806, 807, 808, 809, 810, 811, 812, 813, 814, 815, 816, 817, 818] : List Nat).filterMap (fun i => lw_tbl[i]?) := by decide +kernel
def am_MW : List (Nat × Nat × Nat) := [(10, 9, 0), (8, 9, 1), (10, 13, 8), (8, 41, 9), (8, 80, 10), (10, 18, 11), (10, 23, 12), (10, 28, 13), (10, 33, 14), (10, 37, 15), (8, 116, 16), (8, 132, 17), (8, 136, 18), (8, 120, 19), (5, 89, 20), (5, 96, 21), (5, 52, 18), (5, 109, 22), (5, 121, 23), (8, 124, 24), (5, 127, 25), (5, 131, 26), (5, 66, 27), (5, 70, 28), (5, 143, 29), (5, 152, 30), (5, 134, 31), (10, 42, 32), (8, 128, 33), (10, 46, 34), (8, 139, 35), (5, 156, 36), (5, 177, 37), (5, 181, 38), (5, 184, 39), (5, 169, 40), (5, 173, 33), (10, 50, 41), (8, 142, 42), (8, 145, 43), (10, 54, 44), (8, 148, 45), (10, 59, 46), (8, 153, 47), (8, 156, 48), (8, 159, 49), (8, 248, 50), (8, 254, 51), (8, 258, 52), (8, 163, 53), (10, 63, 54), (8, 179, 55), (8, 182, 56), (10, 68, 57), (8, 185, 58), (10, 72, 59), (8, 189, 60), (0, 43, 18), (8, 193, 61), (8, 196, 62), (8, 199, 63), (8, 207, 64), (10, 76, 65), (8, 211, 66), (8, 271, 67), (0, 65, 61), (0, 72, 62), (0, 81, 63), (10, 80, 68), (10, 84, 69), (8, 215, 71), (3, 28, 72), (3, 32, 73), (3, 44, 74), (3, 36, 75), (3, 49, 29), (3, 78, 76), (3, 86, 77), (3, 90, 78), (10, 88, 79), (8, 219, 80), (3, 40, 81), (3, 93, 82), (3, 97, 83), (10, 92, 84), (8, 223, 85), (8, 227, 86), (1, 46, 87), (1, 52, 88), (1, 76, 85), (1, 82, 89), (1, 69, 90), (1, 88, 91), (1, 72, 92), (1, 93, 45), (8, 236, 74), (10, 96, 93), (10, 100, 94), (8, 245, 95), (8, 251, 96), (5, 62, 87), (10, 12, 97), (10, 17, 98), (9, 115, 99), (10, 22, 100), (9, 122, 101), (10, 27, 102), (10, 32, 103), (10, 36, 104), (10, 41, 105), (9, 158, 106), (9, 154, 107), (9, 162, 108), (9, 126, 109), (9, 134, 110), (9, 140, 111), (9, 130, 112), (9, 144, 113), (9, 137, 114), (9, 147, 115), (9, 151, 116), (10, 45, 117), (10, 49, 118), (9, 168, 119), (9, 165, 120), (10, 53, 121), (10, 58, 122), (10, 62, 123), (9, 194, 124), (9, 171, 125), (9, 175, 126), (9, 178, 127), (9, 181, 128), (10, 67, 129), (10, 71, 130), (10, 75, 131), (9, 204, 132), (9, 197, 133), (9, 200, 134), (10, 79, 135), (9, 209, 136), (10, 83, 137), (10, 87, 138), (9, 227, 139), (9, 212, 140), (9, 216, 141), (9, 220, 142), (9, 223, 143), (10, 91, 144), (10, 95, 145), (9, 231, 146), (9, 244, 147), (9, 241, 148), (10, 99, 149), (10, 103, 150)]
theorem am_MWe : am_MW.map (fun q => Cond.methodLink (am_cn q.1) q.2.1 (am_y q.2.2)) = ([70, 78, 392, 396, 399, 403, 407, 411, 416, 420, 424, 428, 432, 436, 440, 444, 448, 449, 453, 457, 461, 465, 469, 473, 477, 480, 484, 488, 492, 496, 500, 504, 508, 512, 516, 520, 524, 525, 529, 533, 537, 541, 547, 551, 555, 559, 563, 567, 571, 575, 579, 583, 587, 591, 595, 599, 604, 608, 609, 613, 617, 620, 623, 627, 631, 635, 636, 637, 638, 642, 668, 672, 675, 678, 681, 685, 686, 690, 694, 697, 701, 705, 709, 713, 717, 721, 725, 729, 733, 737, 738, 741, 745, 749, 753, 754, 755, 759, 763, 767, 771, 774, 901, 905, 908, 912, 916, 920, 924, 928, 932, 936, 940, 944, 948, 952, 956, 959, 963, 967, 971, 975, 979, 983, 987, 991, 995, 999, 1003, 1007, 1011, 1015, 1019, 1023, 1027, 1031, 1036, 1040, 1044, 1048, 1052, 1057, 1061, 1065, 1069, 1073, 1076, 1079, 1083, 1087, 1091, 1095, 1099, 1103, 1107] : List Nat).filterMap (fun i => lw_tbl[i]?) := by decide +kernel
def am_MN : List (Nat × Nat × Nat) := [(5, 11, 2), (5, 33, 3), (5, 44, 4), (8, 18, 5), (8, 25, 6), (8, 32, 7), (8, 214, 70)]
theorem am_MNe : am_MN.map (fun q => Cond.methodLinkNest (am_cn q.1) q.2.1 (am_y q.2.2) "BoxNest") = ([84, 143, 166, 301, 326, 346, 648] : List Nat).filterMap (fun i => lw_tbl[i]?) := by decide +kernel
def am_OW : List (Nat × Nat) := [(8, 1), (5, 3), (7, 1), (4, 3), (2, 1), (6, 3), (0, 1), (1, 3), (3, 3), (9, 1)]
theorem am_OWe : am_OW.map (fun q => Cond.methodLink (am_cn q.1) q.2 objectInit) = ([73, 81, 87, 146, 169, 304, 329, 349, 651, 777] : List Nat).filterMap (fun i => lw_tbl[i]?) := by decide +kernel
def am_CW : List (Nat × Nat × Nat) := [(10, 7, 8), (8, 7, 5), (5, 9, 7), (5, 18, 2), (5, 31, 4), (8, 16, 6), (8, 23, 0), (8, 30, 1), (8, 81, 3), (10, 10, 9)]
theorem am_CWe : am_CW.map (fun q => Cond.classLink (am_cn q.1) q.2.1 (am_cn q.2.2)) = ([68, 76, 82, 139, 141, 299, 324, 344, 646, 772] : List Nat).filterMap (fun i => lw_tbl[i]?) := by decide +kernel
def am_KW : List (Nat × Nat × Int32) := [(7, 28, 100000), (8, 100, 100000), (5, 190, 1073741824), (11, 265, 1431655765), (11, 266, 858993459), (11, 267, 252645135), (8, 188, -2000000000), (9, 69, 100000), (9, 203, -2000000000)]
theorem am_KWe : am_KW.map (fun q => Cond.constant (am_cn q.1) q.2.1 q.2.2) = ([88, 415, 519, 544, 545, 546, 603, 778, 1035] : List Nat).filterMap (fun i => lw_tbl[i]?) := by decide +kernel
def am_LW : List (Nat × Nat × Nat) := [(9, 207, 100)]
theorem am_LWe : am_LW.map (fun q => Cond.constantLong (am_cn q.1) q.2.1 (Int64.ofNat q.2.2)) = ([1056] : List Nat).filterMap (fun i => lw_tbl[i]?) := by decide +kernel
theorem am_oi : lw_tbl[74]? = some (Cond.instanceMethod objectInit) := by decide +kernel
theorem am_oc : lw_tbl[75]? = some (Cond.code objectInit ⟨#[0xb1]⟩ 1 none) := by decide +kernel
theorem am_ac_int : lw_tbl[164]? = some (Cond.arrayClass .int) := by decide +kernel
theorem am_ac_boolean : lw_tbl[900]? = some (Cond.arrayClass .boolean) := by decide +kernel
theorem am_ao : lw_tbl[140]? = some (Cond.arrayOver (.object "BoxNest$Box")) := by decide +kernel
def am_tb : List Cond := lw_tbl.filter goodWord
theorem am_tb_in {w : Cond} (h : w ∈ lw_tbl) (hg : goodWord w = true) : w ∈ am_tb := List.mem_filter.mpr ⟨h, hg⟩
theorem am_tb_lw {w : Cond} (h : w ∈ am_tb) : w ∈ lw_tbl := (List.mem_filter.mp h).1
theorem am_tb_good {w : Cond} (h : w ∈ am_tb) : goodWord w = true := (List.mem_filter.mp h).2
theorem am_math_max : am_y 74 = Lib.Math.max.name ∧ lw_tbl[679]? = some (Cond.static Lib.Math.max.name) ∧ lw_tbl[66]? = some (Cond.initialized "java/lang/Math") ∧ lw_tbl[680]? = some (Cond.code Lib.Math.max.name Lib.Math.max.code 2 (some .int)) := by decide +kernel
theorem am_math_min : am_y 89 = Lib.Math.min.name ∧ lw_tbl[739]? = some (Cond.static Lib.Math.min.name) ∧ lw_tbl[66]? = some (Cond.initialized "java/lang/Math") ∧ lw_tbl[740]? = some (Cond.code Lib.Math.min.name Lib.Math.min.code 2 (some .int)) := by decide +kernel
theorem am_math_abs : am_y 63 = Lib.Math.abs.name ∧ lw_tbl[618]? = some (Cond.static Lib.Math.abs.name) ∧ lw_tbl[66]? = some (Cond.initialized "java/lang/Math") ∧ lw_tbl[619]? = some (Cond.code Lib.Math.abs.name Lib.Math.abs.code 1 (some .int)) := by decide +kernel
/-- what is known of a method that is called -/
def am_okM (q : am_M) : Prop := am_cn q.1 = q.2.1.cls ∧ (q.2.1.cls ≠ "java/lang/invoke/MethodHandle" ∧ q.2.1.cls ≠ "java/lang/invoke/VarHandle") ∧ plainName q.2.1.cls = true ∧ Cond.code q.2.1 q.2.2.1 q.2.2.2.1 q.2.2.2.2.1 ∈ lw_tbl ∧ Cond.initialized q.2.1.cls ∈ lw_tbl ∧
  (parseMethodDescriptor q.2.1.desc).map (fun d => d.parameters.length) = some (if q.2.2.2.2.2.2.1 = true then q.2.2.2.2.2.1 else q.2.2.2.2.2.1 - 1) ∧ q.2.2.2.1 ≤ 40 ∧ (q.2.2.2.2.2.2.1 = true → Cond.static q.2.1 ∈ lw_tbl) ∧ (q.2.2.2.2.2.2.1 = false → Cond.instanceMethod q.2.1 ∈ lw_tbl) ∧ (q.2.2.2.2.2.2.1 = false → q.2.2.2.2.2.2.2 = false → Cond.selects q.2.1.cls q.2.1 q.2.1 ∈ lw_tbl) ∧ (q.2.2.2.2.2.2.2 = true → q.2.1.name = "<init>" ∧ q.2.2.2.2.1 = none) ∧ (q.2.2.2.2.2.2.1 = false → 1 ≤ q.2.2.2.2.2.1)
end
section
/-! what is known of each method that is called (written by tools/gen2.py) -/
theorem am_k0 : am_okM am_m0 := ⟨by decide +kernel, by decide +kernel, by decide +kernel, List.mem_of_getElem? (i := 72) (by decide +kernel), List.mem_of_getElem? (i := 55) (by decide +kernel), by decide +kernel, by decide, fun h => absurd h (by decide), fun _ => List.mem_of_getElem? (i := 71) (by decide +kernel), fun _ h => absurd h (by decide), fun _ => ⟨rfl, rfl⟩, by decide⟩
theorem am_k1 : am_okM am_m1 := ⟨by decide +kernel, by decide +kernel, by decide +kernel, List.mem_of_getElem? (i := 80) (by decide +kernel), List.mem_of_getElem? (i := 56) (by decide +kernel), by decide +kernel, by decide, fun h => absurd h (by decide), fun _ => List.mem_of_getElem? (i := 79) (by decide +kernel), fun _ h => absurd h (by decide), fun _ => ⟨rfl, rfl⟩, by decide⟩
theorem am_k2 : am_okM am_m2 := ⟨by decide +kernel, by decide +kernel, by decide +kernel, List.mem_of_getElem? (i := 86) (by decide +kernel), List.mem_of_getElem? (i := 57) (by decide +kernel), by decide +kernel, by decide, fun h => absurd h (by decide), fun _ => List.mem_of_getElem? (i := 85) (by decide +kernel), fun _ h => absurd h (by decide), fun _ => ⟨rfl, rfl⟩, by decide⟩
theorem am_k3 : am_okM am_m3 := ⟨by decide +kernel, by decide +kernel, by decide +kernel, List.mem_of_getElem? (i := 145) (by decide +kernel), List.mem_of_getElem? (i := 58) (by decide +kernel), by decide +kernel, by decide, fun h => absurd h (by decide), fun _ => List.mem_of_getElem? (i := 144) (by decide +kernel), fun _ h => absurd h (by decide), fun _ => ⟨rfl, rfl⟩, by decide⟩
theorem am_k4 : am_okM am_m4 := ⟨by decide +kernel, by decide +kernel, by decide +kernel, List.mem_of_getElem? (i := 168) (by decide +kernel), List.mem_of_getElem? (i := 59) (by decide +kernel), by decide +kernel, by decide, fun h => absurd h (by decide), fun _ => List.mem_of_getElem? (i := 167) (by decide +kernel), fun _ h => absurd h (by decide), fun _ => ⟨rfl, rfl⟩, by decide⟩
theorem am_k5 : am_okM am_m5 := ⟨by decide +kernel, by decide +kernel, by decide +kernel, List.mem_of_getElem? (i := 303) (by decide +kernel), List.mem_of_getElem? (i := 60) (by decide +kernel), by decide +kernel, by decide, fun h => absurd h (by decide), fun _ => List.mem_of_getElem? (i := 302) (by decide +kernel), fun _ h => absurd h (by decide), fun _ => ⟨rfl, rfl⟩, by decide⟩
theorem am_k6 : am_okM am_m6 := ⟨by decide +kernel, by decide +kernel, by decide +kernel, List.mem_of_getElem? (i := 328) (by decide +kernel), List.mem_of_getElem? (i := 61) (by decide +kernel), by decide +kernel, by decide, fun h => absurd h (by decide), fun _ => List.mem_of_getElem? (i := 327) (by decide +kernel), fun _ h => absurd h (by decide), fun _ => ⟨rfl, rfl⟩, by decide⟩
theorem am_k7 : am_okM am_m7 := ⟨by decide +kernel, by decide +kernel, by decide +kernel, List.mem_of_getElem? (i := 348) (by decide +kernel), List.mem_of_getElem? (i := 62) (by decide +kernel), by decide +kernel, by decide, fun h => absurd h (by decide), fun _ => List.mem_of_getElem? (i := 347) (by decide +kernel), fun _ h => absurd h (by decide), fun _ => ⟨rfl, rfl⟩, by decide⟩
theorem am_k8 : am_okM am_m8 := ⟨by decide +kernel, by decide +kernel, by decide +kernel, List.mem_of_getElem? (i := 395) (by decide +kernel), List.mem_of_getElem? (i := 55) (by decide +kernel), by decide +kernel, by decide, fun h => absurd h (by decide), fun _ => List.mem_of_getElem? (i := 393) (by decide +kernel), fun _ _ => List.mem_of_getElem? (i := 394) (by decide +kernel), fun h => absurd h (by decide), by decide⟩
theorem am_k9 : am_okM am_m9 := ⟨by decide +kernel, by decide +kernel, by decide +kernel, List.mem_of_getElem? (i := 398) (by decide +kernel), List.mem_of_getElem? (i := 55) (by decide +kernel), by decide +kernel, by decide, fun _ => List.mem_of_getElem? (i := 397) (by decide +kernel), fun h => absurd h (by decide), fun h => absurd h (by decide), fun h => absurd h (by decide), by decide⟩
theorem am_k10 : am_okM am_m10 := ⟨by decide +kernel, by decide +kernel, by decide +kernel, List.mem_of_getElem? (i := 402) (by decide +kernel), List.mem_of_getElem? (i := 67) (by decide +kernel), by decide +kernel, by decide, fun h => absurd h (by decide), fun _ => List.mem_of_getElem? (i := 400) (by decide +kernel), fun _ _ => List.mem_of_getElem? (i := 401) (by decide +kernel), fun h => absurd h (by decide), by decide⟩
theorem am_k11 : am_okM am_m11 := ⟨by decide +kernel, by decide +kernel, by decide +kernel, List.mem_of_getElem? (i := 406) (by decide +kernel), List.mem_of_getElem? (i := 55) (by decide +kernel), by decide +kernel, by decide, fun h => absurd h (by decide), fun _ => List.mem_of_getElem? (i := 404) (by decide +kernel), fun _ _ => List.mem_of_getElem? (i := 405) (by decide +kernel), fun h => absurd h (by decide), by decide⟩
theorem am_k12 : am_okM am_m12 := ⟨by decide +kernel, by decide +kernel, by decide +kernel, List.mem_of_getElem? (i := 410) (by decide +kernel), List.mem_of_getElem? (i := 55) (by decide +kernel), by decide +kernel, by decide, fun h => absurd h (by decide), fun _ => List.mem_of_getElem? (i := 408) (by decide +kernel), fun _ _ => List.mem_of_getElem? (i := 409) (by decide +kernel), fun h => absurd h (by decide), by decide⟩
theorem am_k13 : am_okM am_m13 := ⟨by decide +kernel, by decide +kernel, by decide +kernel, List.mem_of_getElem? (i := 414) (by decide +kernel), List.mem_of_getElem? (i := 55) (by decide +kernel), by decide +kernel, by decide, fun h => absurd h (by decide), fun _ => List.mem_of_getElem? (i := 412) (by decide +kernel), fun _ _ => List.mem_of_getElem? (i := 413) (by decide +kernel), fun h => absurd h (by decide), by decide⟩
theorem am_k14 : am_okM am_m14 := ⟨by decide +kernel, by decide +kernel, by decide +kernel, List.mem_of_getElem? (i := 419) (by decide +kernel), List.mem_of_getElem? (i := 55) (by decide +kernel), by decide +kernel, by decide, fun h => absurd h (by decide), fun _ => List.mem_of_getElem? (i := 417) (by decide +kernel), fun _ _ => List.mem_of_getElem? (i := 418) (by decide +kernel), fun h => absurd h (by decide), by decide⟩
theorem am_k15 : am_okM am_m15 := ⟨by decide +kernel, by decide +kernel, by decide +kernel, List.mem_of_getElem? (i := 423) (by decide +kernel), List.mem_of_getElem? (i := 55) (by decide +kernel), by decide +kernel, by decide, fun h => absurd h (by decide), fun _ => List.mem_of_getElem? (i := 421) (by decide +kernel), fun _ _ => List.mem_of_getElem? (i := 422) (by decide +kernel), fun h => absurd h (by decide), by decide⟩
theorem am_k16 : am_okM am_m16 := ⟨by decide +kernel, by decide +kernel, by decide +kernel, List.mem_of_getElem? (i := 427) (by decide +kernel), List.mem_of_getElem? (i := 55) (by decide +kernel), by decide +kernel, by decide, fun h => absurd h (by decide), fun _ => List.mem_of_getElem? (i := 426) (by decide +kernel), fun _ _ => List.mem_of_getElem? (i := 0) (by decide +kernel), fun h => absurd h (by decide), by decide⟩
theorem am_k17 : am_okM am_m17 := ⟨by decide +kernel, by decide +kernel, by decide +kernel, List.mem_of_getElem? (i := 431) (by decide +kernel), List.mem_of_getElem? (i := 56) (by decide +kernel), by decide +kernel, by decide, fun h => absurd h (by decide), fun _ => List.mem_of_getElem? (i := 429) (by decide +kernel), fun _ _ => List.mem_of_getElem? (i := 430) (by decide +kernel), fun h => absurd h (by decide), by decide⟩
theorem am_k18 : am_okM am_m18 := ⟨by decide +kernel, by decide +kernel, by decide +kernel, List.mem_of_getElem? (i := 435) (by decide +kernel), List.mem_of_getElem? (i := 56) (by decide +kernel), by decide +kernel, by decide, fun h => absurd h (by decide), fun _ => List.mem_of_getElem? (i := 433) (by decide +kernel), fun _ _ => List.mem_of_getElem? (i := 434) (by decide +kernel), fun h => absurd h (by decide), by decide⟩
theorem am_k19 : am_okM am_m19 := ⟨by decide +kernel, by decide +kernel, by decide +kernel, List.mem_of_getElem? (i := 439) (by decide +kernel), List.mem_of_getElem? (i := 56) (by decide +kernel), by decide +kernel, by decide, fun h => absurd h (by decide), fun _ => List.mem_of_getElem? (i := 437) (by decide +kernel), fun _ _ => List.mem_of_getElem? (i := 438) (by decide +kernel), fun h => absurd h (by decide), by decide⟩
theorem am_k20 : am_okM am_m20 := ⟨by decide +kernel, by decide +kernel, by decide +kernel, List.mem_of_getElem? (i := 443) (by decide +kernel), List.mem_of_getElem? (i := 59) (by decide +kernel), by decide +kernel, by decide, fun h => absurd h (by decide), fun _ => List.mem_of_getElem? (i := 441) (by decide +kernel), fun _ _ => List.mem_of_getElem? (i := 442) (by decide +kernel), fun h => absurd h (by decide), by decide⟩
theorem am_k21 : am_okM am_m21 := ⟨by decide +kernel, by decide +kernel, by decide +kernel, List.mem_of_getElem? (i := 447) (by decide +kernel), List.mem_of_getElem? (i := 56) (by decide +kernel), by decide +kernel, by decide, fun h => absurd h (by decide), fun _ => List.mem_of_getElem? (i := 446) (by decide +kernel), fun _ _ => List.mem_of_getElem? (i := 1) (by decide +kernel), fun h => absurd h (by decide), by decide⟩
theorem am_k22 : am_okM am_m22 := ⟨by decide +kernel, by decide +kernel, by decide +kernel, List.mem_of_getElem? (i := 452) (by decide +kernel), List.mem_of_getElem? (i := 56) (by decide +kernel), by decide +kernel, by decide, fun h => absurd h (by decide), fun _ => List.mem_of_getElem? (i := 451) (by decide +kernel), fun _ _ => List.mem_of_getElem? (i := 2) (by decide +kernel), fun h => absurd h (by decide), by decide⟩
theorem am_k23 : am_okM am_m23 := ⟨by decide +kernel, by decide +kernel, by decide +kernel, List.mem_of_getElem? (i := 456) (by decide +kernel), List.mem_of_getElem? (i := 56) (by decide +kernel), by decide +kernel, by decide, fun h => absurd h (by decide), fun _ => List.mem_of_getElem? (i := 455) (by decide +kernel), fun _ _ => List.mem_of_getElem? (i := 3) (by decide +kernel), fun h => absurd h (by decide), by decide⟩
theorem am_k24 : am_okM am_m24 := ⟨by decide +kernel, by decide +kernel, by decide +kernel, List.mem_of_getElem? (i := 460) (by decide +kernel), List.mem_of_getElem? (i := 56) (by decide +kernel), by decide +kernel, by decide, fun h => absurd h (by decide), fun _ => List.mem_of_getElem? (i := 458) (by decide +kernel), fun _ _ => List.mem_of_getElem? (i := 459) (by decide +kernel), fun h => absurd h (by decide), by decide⟩
theorem am_k25 : am_okM am_m25 := ⟨by decide +kernel, by decide +kernel, by decide +kernel, List.mem_of_getElem? (i := 464) (by decide +kernel), List.mem_of_getElem? (i := 56) (by decide +kernel), by decide +kernel, by decide, fun h => absurd h (by decide), fun _ => List.mem_of_getElem? (i := 463) (by decide +kernel), fun _ _ => List.mem_of_getElem? (i := 4) (by decide +kernel), fun h => absurd h (by decide), by decide⟩
theorem am_k26 : am_okM am_m26 := ⟨by decide +kernel, by decide +kernel, by decide +kernel, List.mem_of_getElem? (i := 468) (by decide +kernel), List.mem_of_getElem? (i := 56) (by decide +kernel), by decide +kernel, by decide, fun h => absurd h (by decide), fun _ => List.mem_of_getElem? (i := 467) (by decide +kernel), fun _ _ => List.mem_of_getElem? (i := 5) (by decide +kernel), fun h => absurd h (by decide), by decide⟩
theorem am_k27 : am_okM am_m27 := ⟨by decide +kernel, by decide +kernel, by decide +kernel, List.mem_of_getElem? (i := 472) (by decide +kernel), List.mem_of_getElem? (i := 59) (by decide +kernel), by decide +kernel, by decide, fun h => absurd h (by decide), fun _ => List.mem_of_getElem? (i := 470) (by decide +kernel), fun _ _ => List.mem_of_getElem? (i := 471) (by decide +kernel), fun h => absurd h (by decide), by decide⟩
theorem am_k28 : am_okM am_m28 := ⟨by decide +kernel, by decide +kernel, by decide +kernel, List.mem_of_getElem? (i := 476) (by decide +kernel), List.mem_of_getElem? (i := 56) (by decide +kernel), by decide +kernel, by decide, fun h => absurd h (by decide), fun _ => List.mem_of_getElem? (i := 475) (by decide +kernel), fun _ _ => List.mem_of_getElem? (i := 6) (by decide +kernel), fun h => absurd h (by decide), by decide⟩
theorem am_k29 : am_okM am_m29 := ⟨by decide +kernel, by decide +kernel, by decide +kernel, List.mem_of_getElem? (i := 479) (by decide +kernel), List.mem_of_getElem? (i := 64) (by decide +kernel), by decide +kernel, by decide, fun _ => List.mem_of_getElem? (i := 478) (by decide +kernel), fun h => absurd h (by decide), fun h => absurd h (by decide), fun h => absurd h (by decide), by decide⟩
theorem am_k30 : am_okM am_m30 := ⟨by decide +kernel, by decide +kernel, by decide +kernel, List.mem_of_getElem? (i := 483) (by decide +kernel), List.mem_of_getElem? (i := 56) (by decide +kernel), by decide +kernel, by decide, fun h => absurd h (by decide), fun _ => List.mem_of_getElem? (i := 482) (by decide +kernel), fun _ _ => List.mem_of_getElem? (i := 7) (by decide +kernel), fun h => absurd h (by decide), by decide⟩
theorem am_k31 : am_okM am_m31 := ⟨by decide +kernel, by decide +kernel, by decide +kernel, List.mem_of_getElem? (i := 487) (by decide +kernel), List.mem_of_getElem? (i := 56) (by decide +kernel), by decide +kernel, by decide, fun h => absurd h (by decide), fun _ => List.mem_of_getElem? (i := 486) (by decide +kernel), fun _ _ => List.mem_of_getElem? (i := 8) (by decide +kernel), fun h => absurd h (by decide), by decide⟩
theorem am_k32 : am_okM am_m32 := ⟨by decide +kernel, by decide +kernel, by decide +kernel, List.mem_of_getElem? (i := 491) (by decide +kernel), List.mem_of_getElem? (i := 55) (by decide +kernel), by decide +kernel, by decide, fun h => absurd h (by decide), fun _ => List.mem_of_getElem? (i := 489) (by decide +kernel), fun _ _ => List.mem_of_getElem? (i := 490) (by decide +kernel), fun h => absurd h (by decide), by decide⟩
theorem am_k33 : am_okM am_m33 := ⟨by decide +kernel, by decide +kernel, by decide +kernel, List.mem_of_getElem? (i := 495) (by decide +kernel), List.mem_of_getElem? (i := 56) (by decide +kernel), by decide +kernel, by decide, fun h => absurd h (by decide), fun _ => List.mem_of_getElem? (i := 493) (by decide +kernel), fun _ _ => List.mem_of_getElem? (i := 494) (by decide +kernel), fun h => absurd h (by decide), by decide⟩
theorem am_k34 : am_okM am_m34 := ⟨by decide +kernel, by decide +kernel, by decide +kernel, List.mem_of_getElem? (i := 499) (by decide +kernel), List.mem_of_getElem? (i := 55) (by decide +kernel), by decide +kernel, by decide, fun h => absurd h (by decide), fun _ => List.mem_of_getElem? (i := 497) (by decide +kernel), fun _ _ => List.mem_of_getElem? (i := 498) (by decide +kernel), fun h => absurd h (by decide), by decide⟩
theorem am_k35 : am_okM am_m35 := ⟨by decide +kernel, by decide +kernel, by decide +kernel, List.mem_of_getElem? (i := 503) (by decide +kernel), List.mem_of_getElem? (i := 56) (by decide +kernel), by decide +kernel, by decide, fun h => absurd h (by decide), fun _ => List.mem_of_getElem? (i := 501) (by decide +kernel), fun _ _ => List.mem_of_getElem? (i := 502) (by decide +kernel), fun h => absurd h (by decide), by decide⟩
theorem am_k36 : am_okM am_m36 := ⟨by decide +kernel, by decide +kernel, by decide +kernel, List.mem_of_getElem? (i := 507) (by decide +kernel), List.mem_of_getElem? (i := 56) (by decide +kernel), by decide +kernel, by decide, fun h => absurd h (by decide), fun _ => List.mem_of_getElem? (i := 506) (by decide +kernel), fun _ _ => List.mem_of_getElem? (i := 9) (by decide +kernel), fun h => absurd h (by decide), by decide⟩
theorem am_k37 : am_okM am_m37 := ⟨by decide +kernel, by decide +kernel, by decide +kernel, List.mem_of_getElem? (i := 511) (by decide +kernel), List.mem_of_getElem? (i := 58) (by decide +kernel), by decide +kernel, by decide, fun h => absurd h (by decide), fun _ => List.mem_of_getElem? (i := 509) (by decide +kernel), fun _ _ => List.mem_of_getElem? (i := 510) (by decide +kernel), fun h => absurd h (by decide), by decide⟩
theorem am_k38 : am_okM am_m38 := ⟨by decide +kernel, by decide +kernel, by decide +kernel, List.mem_of_getElem? (i := 515) (by decide +kernel), List.mem_of_getElem? (i := 56) (by decide +kernel), by decide +kernel, by decide, fun h => absurd h (by decide), fun _ => List.mem_of_getElem? (i := 514) (by decide +kernel), fun _ _ => List.mem_of_getElem? (i := 10) (by decide +kernel), fun h => absurd h (by decide), by decide⟩
theorem am_k39 : am_okM am_m39 := ⟨by decide +kernel, by decide +kernel, by decide +kernel, List.mem_of_getElem? (i := 518) (by decide +kernel), List.mem_of_getElem? (i := 56) (by decide +kernel), by decide +kernel, by decide, fun _ => List.mem_of_getElem? (i := 517) (by decide +kernel), fun h => absurd h (by decide), fun h => absurd h (by decide), fun h => absurd h (by decide), by decide⟩
theorem am_k40 : am_okM am_m40 := ⟨by decide +kernel, by decide +kernel, by decide +kernel, List.mem_of_getElem? (i := 523) (by decide +kernel), List.mem_of_getElem? (i := 56) (by decide +kernel), by decide +kernel, by decide, fun h => absurd h (by decide), fun _ => List.mem_of_getElem? (i := 522) (by decide +kernel), fun _ _ => List.mem_of_getElem? (i := 11) (by decide +kernel), fun h => absurd h (by decide), by decide⟩
theorem am_k41 : am_okM am_m41 := ⟨by decide +kernel, by decide +kernel, by decide +kernel, List.mem_of_getElem? (i := 528) (by decide +kernel), List.mem_of_getElem? (i := 55) (by decide +kernel), by decide +kernel, by decide, fun h => absurd h (by decide), fun _ => List.mem_of_getElem? (i := 526) (by decide +kernel), fun _ _ => List.mem_of_getElem? (i := 527) (by decide +kernel), fun h => absurd h (by decide), by decide⟩
theorem am_k42 : am_okM am_m42 := ⟨by decide +kernel, by decide +kernel, by decide +kernel, List.mem_of_getElem? (i := 532) (by decide +kernel), List.mem_of_getElem? (i := 56) (by decide +kernel), by decide +kernel, by decide, fun h => absurd h (by decide), fun _ => List.mem_of_getElem? (i := 530) (by decide +kernel), fun _ _ => List.mem_of_getElem? (i := 531) (by decide +kernel), fun h => absurd h (by decide), by decide⟩
theorem am_k43 : am_okM am_m43 := ⟨by decide +kernel, by decide +kernel, by decide +kernel, List.mem_of_getElem? (i := 536) (by decide +kernel), List.mem_of_getElem? (i := 56) (by decide +kernel), by decide +kernel, by decide, fun h => absurd h (by decide), fun _ => List.mem_of_getElem? (i := 534) (by decide +kernel), fun _ _ => List.mem_of_getElem? (i := 535) (by decide +kernel), fun h => absurd h (by decide), by decide⟩
theorem am_k44 : am_okM am_m44 := ⟨by decide +kernel, by decide +kernel, by decide +kernel, List.mem_of_getElem? (i := 540) (by decide +kernel), List.mem_of_getElem? (i := 55) (by decide +kernel), by decide +kernel, by decide, fun h => absurd h (by decide), fun _ => List.mem_of_getElem? (i := 538) (by decide +kernel), fun _ _ => List.mem_of_getElem? (i := 539) (by decide +kernel), fun h => absurd h (by decide), by decide⟩
theorem am_k45 : am_okM am_m45 := ⟨by decide +kernel, by decide +kernel, by decide +kernel, List.mem_of_getElem? (i := 543) (by decide +kernel), List.mem_of_getElem? (i := 65) (by decide +kernel), by decide +kernel, by decide, fun _ => List.mem_of_getElem? (i := 542) (by decide +kernel), fun h => absurd h (by decide), fun h => absurd h (by decide), fun h => absurd h (by decide), by decide⟩
theorem am_k46 : am_okM am_m46 := ⟨by decide +kernel, by decide +kernel, by decide +kernel, List.mem_of_getElem? (i := 550) (by decide +kernel), List.mem_of_getElem? (i := 55) (by decide +kernel), by decide +kernel, by decide, fun h => absurd h (by decide), fun _ => List.mem_of_getElem? (i := 548) (by decide +kernel), fun _ _ => List.mem_of_getElem? (i := 549) (by decide +kernel), fun h => absurd h (by decide), by decide⟩
theorem am_k47 : am_okM am_m47 := ⟨by decide +kernel, by decide +kernel, by decide +kernel, List.mem_of_getElem? (i := 554) (by decide +kernel), List.mem_of_getElem? (i := 55) (by decide +kernel), by decide +kernel, by decide, fun h => absurd h (by decide), fun _ => List.mem_of_getElem? (i := 553) (by decide +kernel), fun _ _ => List.mem_of_getElem? (i := 12) (by decide +kernel), fun h => absurd h (by decide), by decide⟩
theorem am_k48 : am_okM am_m48 := ⟨by decide +kernel, by decide +kernel, by decide +kernel, List.mem_of_getElem? (i := 558) (by decide +kernel), List.mem_of_getElem? (i := 60) (by decide +kernel), by decide +kernel, by decide, fun h => absurd h (by decide), fun _ => List.mem_of_getElem? (i := 556) (by decide +kernel), fun _ _ => List.mem_of_getElem? (i := 557) (by decide +kernel), fun h => absurd h (by decide), by decide⟩
theorem am_k49 : am_okM am_m49 := ⟨by decide +kernel, by decide +kernel, by decide +kernel, List.mem_of_getElem? (i := 562) (by decide +kernel), List.mem_of_getElem? (i := 55) (by decide +kernel), by decide +kernel, by decide, fun h => absurd h (by decide), fun _ => List.mem_of_getElem? (i := 561) (by decide +kernel), fun _ _ => List.mem_of_getElem? (i := 13) (by decide +kernel), fun h => absurd h (by decide), by decide⟩
theorem am_k50 : am_okM am_m50 := ⟨by decide +kernel, by decide +kernel, by decide +kernel, List.mem_of_getElem? (i := 566) (by decide +kernel), List.mem_of_getElem? (i := 56) (by decide +kernel), by decide +kernel, by decide, fun h => absurd h (by decide), fun _ => List.mem_of_getElem? (i := 564) (by decide +kernel), fun _ _ => List.mem_of_getElem? (i := 565) (by decide +kernel), fun h => absurd h (by decide), by decide⟩
theorem am_k51 : am_okM am_m51 := ⟨by decide +kernel, by decide +kernel, by decide +kernel, List.mem_of_getElem? (i := 570) (by decide +kernel), List.mem_of_getElem? (i := 60) (by decide +kernel), by decide +kernel, by decide, fun h => absurd h (by decide), fun _ => List.mem_of_getElem? (i := 568) (by decide +kernel), fun _ _ => List.mem_of_getElem? (i := 569) (by decide +kernel), fun h => absurd h (by decide), by decide⟩
theorem am_k52 : am_okM am_m52 := ⟨by decide +kernel, by decide +kernel, by decide +kernel, List.mem_of_getElem? (i := 574) (by decide +kernel), List.mem_of_getElem? (i := 60) (by decide +kernel), by decide +kernel, by decide, fun h => absurd h (by decide), fun _ => List.mem_of_getElem? (i := 572) (by decide +kernel), fun _ _ => List.mem_of_getElem? (i := 573) (by decide +kernel), fun h => absurd h (by decide), by decide⟩
theorem am_k53 : am_okM am_m53 := ⟨by decide +kernel, by decide +kernel, by decide +kernel, List.mem_of_getElem? (i := 578) (by decide +kernel), List.mem_of_getElem? (i := 55) (by decide +kernel), by decide +kernel, by decide, fun h => absurd h (by decide), fun _ => List.mem_of_getElem? (i := 577) (by decide +kernel), fun _ _ => List.mem_of_getElem? (i := 14) (by decide +kernel), fun h => absurd h (by decide), by decide⟩
theorem am_k54 : am_okM am_m54 := ⟨by decide +kernel, by decide +kernel, by decide +kernel, List.mem_of_getElem? (i := 582) (by decide +kernel), List.mem_of_getElem? (i := 55) (by decide +kernel), by decide +kernel, by decide, fun h => absurd h (by decide), fun _ => List.mem_of_getElem? (i := 580) (by decide +kernel), fun _ _ => List.mem_of_getElem? (i := 581) (by decide +kernel), fun h => absurd h (by decide), by decide⟩
theorem am_k55 : am_okM am_m55 := ⟨by decide +kernel, by decide +kernel, by decide +kernel, List.mem_of_getElem? (i := 586) (by decide +kernel), List.mem_of_getElem? (i := 56) (by decide +kernel), by decide +kernel, by decide, fun h => absurd h (by decide), fun _ => List.mem_of_getElem? (i := 584) (by decide +kernel), fun _ _ => List.mem_of_getElem? (i := 585) (by decide +kernel), fun h => absurd h (by decide), by decide⟩
theorem am_k56 : am_okM am_m56 := ⟨by decide +kernel, by decide +kernel, by decide +kernel, List.mem_of_getElem? (i := 590) (by decide +kernel), List.mem_of_getElem? (i := 56) (by decide +kernel), by decide +kernel, by decide, fun h => absurd h (by decide), fun _ => List.mem_of_getElem? (i := 588) (by decide +kernel), fun _ _ => List.mem_of_getElem? (i := 589) (by decide +kernel), fun h => absurd h (by decide), by decide⟩
theorem am_k57 : am_okM am_m57 := ⟨by decide +kernel, by decide +kernel, by decide +kernel, List.mem_of_getElem? (i := 594) (by decide +kernel), List.mem_of_getElem? (i := 55) (by decide +kernel), by decide +kernel, by decide, fun h => absurd h (by decide), fun _ => List.mem_of_getElem? (i := 592) (by decide +kernel), fun _ _ => List.mem_of_getElem? (i := 593) (by decide +kernel), fun h => absurd h (by decide), by decide⟩
theorem am_k58 : am_okM am_m58 := ⟨by decide +kernel, by decide +kernel, by decide +kernel, List.mem_of_getElem? (i := 598) (by decide +kernel), List.mem_of_getElem? (i := 59) (by decide +kernel), by decide +kernel, by decide, fun h => absurd h (by decide), fun _ => List.mem_of_getElem? (i := 596) (by decide +kernel), fun _ _ => List.mem_of_getElem? (i := 597) (by decide +kernel), fun h => absurd h (by decide), by decide⟩
theorem am_k59 : am_okM am_m59 := ⟨by decide +kernel, by decide +kernel, by decide +kernel, List.mem_of_getElem? (i := 602) (by decide +kernel), List.mem_of_getElem? (i := 55) (by decide +kernel), by decide +kernel, by decide, fun h => absurd h (by decide), fun _ => List.mem_of_getElem? (i := 600) (by decide +kernel), fun _ _ => List.mem_of_getElem? (i := 601) (by decide +kernel), fun h => absurd h (by decide), by decide⟩
theorem am_k60 : am_okM am_m60 := ⟨by decide +kernel, by decide +kernel, by decide +kernel, List.mem_of_getElem? (i := 607) (by decide +kernel), List.mem_of_getElem? (i := 61) (by decide +kernel), by decide +kernel, by decide, fun h => absurd h (by decide), fun _ => List.mem_of_getElem? (i := 605) (by decide +kernel), fun _ _ => List.mem_of_getElem? (i := 606) (by decide +kernel), fun h => absurd h (by decide), by decide⟩
theorem am_k61 : am_okM am_m61 := ⟨by decide +kernel, by decide +kernel, by decide +kernel, List.mem_of_getElem? (i := 612) (by decide +kernel), List.mem_of_getElem? (i := 61) (by decide +kernel), by decide +kernel, by decide, fun h => absurd h (by decide), fun _ => List.mem_of_getElem? (i := 610) (by decide +kernel), fun _ _ => List.mem_of_getElem? (i := 611) (by decide +kernel), fun h => absurd h (by decide), by decide⟩
theorem am_k62 : am_okM am_m62 := ⟨by decide +kernel, by decide +kernel, by decide +kernel, List.mem_of_getElem? (i := 616) (by decide +kernel), List.mem_of_getElem? (i := 61) (by decide +kernel), by decide +kernel, by decide, fun h => absurd h (by decide), fun _ => List.mem_of_getElem? (i := 614) (by decide +kernel), fun _ _ => List.mem_of_getElem? (i := 615) (by decide +kernel), fun h => absurd h (by decide), by decide⟩
theorem am_k64 : am_okM am_m64 := ⟨by decide +kernel, by decide +kernel, by decide +kernel, List.mem_of_getElem? (i := 622) (by decide +kernel), List.mem_of_getElem? (i := 55) (by decide +kernel), by decide +kernel, by decide, fun _ => List.mem_of_getElem? (i := 621) (by decide +kernel), fun h => absurd h (by decide), fun h => absurd h (by decide), fun h => absurd h (by decide), by decide⟩
theorem am_k65 : am_okM am_m65 := ⟨by decide +kernel, by decide +kernel, by decide +kernel, List.mem_of_getElem? (i := 626) (by decide +kernel), List.mem_of_getElem? (i := 55) (by decide +kernel), by decide +kernel, by decide, fun h => absurd h (by decide), fun _ => List.mem_of_getElem? (i := 624) (by decide +kernel), fun _ _ => List.mem_of_getElem? (i := 625) (by decide +kernel), fun h => absurd h (by decide), by decide⟩
theorem am_k66 : am_okM am_m66 := ⟨by decide +kernel, by decide +kernel, by decide +kernel, List.mem_of_getElem? (i := 630) (by decide +kernel), List.mem_of_getElem? (i := 55) (by decide +kernel), by decide +kernel, by decide, fun h => absurd h (by decide), fun _ => List.mem_of_getElem? (i := 629) (by decide +kernel), fun _ _ => List.mem_of_getElem? (i := 15) (by decide +kernel), fun h => absurd h (by decide), by decide⟩
theorem am_k67 : am_okM am_m67 := ⟨by decide +kernel, by decide +kernel, by decide +kernel, List.mem_of_getElem? (i := 634) (by decide +kernel), List.mem_of_getElem? (i := 61) (by decide +kernel), by decide +kernel, by decide, fun h => absurd h (by decide), fun _ => List.mem_of_getElem? (i := 632) (by decide +kernel), fun _ _ => List.mem_of_getElem? (i := 633) (by decide +kernel), fun h => absurd h (by decide), by decide⟩
theorem am_k68 : am_okM am_m68 := ⟨by decide +kernel, by decide +kernel, by decide +kernel, List.mem_of_getElem? (i := 641) (by decide +kernel), List.mem_of_getElem? (i := 55) (by decide +kernel), by decide +kernel, by decide, fun h => absurd h (by decide), fun _ => List.mem_of_getElem? (i := 639) (by decide +kernel), fun _ _ => List.mem_of_getElem? (i := 640) (by decide +kernel), fun h => absurd h (by decide), by decide⟩
theorem am_k69 : am_okM am_m69 := ⟨by decide +kernel, by decide +kernel, by decide +kernel, List.mem_of_getElem? (i := 645) (by decide +kernel), List.mem_of_getElem? (i := 55) (by decide +kernel), by decide +kernel, by decide, fun h => absurd h (by decide), fun _ => List.mem_of_getElem? (i := 643) (by decide +kernel), fun _ _ => List.mem_of_getElem? (i := 644) (by decide +kernel), fun h => absurd h (by decide), by decide⟩
theorem am_k70 : am_okM am_m70 := ⟨by decide +kernel, by decide +kernel, by decide +kernel, List.mem_of_getElem? (i := 650) (by decide +kernel), List.mem_of_getElem? (i := 67) (by decide +kernel), by decide +kernel, by decide, fun h => absurd h (by decide), fun _ => List.mem_of_getElem? (i := 649) (by decide +kernel), fun _ h => absurd h (by decide), fun _ => ⟨rfl, rfl⟩, by decide⟩
theorem am_k71 : am_okM am_m71 := ⟨by decide +kernel, by decide +kernel, by decide +kernel, List.mem_of_getElem? (i := 671) (by decide +kernel), List.mem_of_getElem? (i := 67) (by decide +kernel), by decide +kernel, by decide, fun h => absurd h (by decide), fun _ => List.mem_of_getElem? (i := 669) (by decide +kernel), fun _ _ => List.mem_of_getElem? (i := 670) (by decide +kernel), fun h => absurd h (by decide), by decide⟩
theorem am_k72 : am_okM am_m72 := ⟨by decide +kernel, by decide +kernel, by decide +kernel, List.mem_of_getElem? (i := 674) (by decide +kernel), List.mem_of_getElem? (i := 67) (by decide +kernel), by decide +kernel, by decide, fun _ => List.mem_of_getElem? (i := 673) (by decide +kernel), fun h => absurd h (by decide), fun h => absurd h (by decide), fun h => absurd h (by decide), by decide⟩
theorem am_k73 : am_okM am_m73 := ⟨by decide +kernel, by decide +kernel, by decide +kernel, List.mem_of_getElem? (i := 677) (by decide +kernel), List.mem_of_getElem? (i := 67) (by decide +kernel), by decide +kernel, by decide, fun _ => List.mem_of_getElem? (i := 676) (by decide +kernel), fun h => absurd h (by decide), fun h => absurd h (by decide), fun h => absurd h (by decide), by decide⟩
theorem am_k75 : am_okM am_m75 := ⟨by decide +kernel, by decide +kernel, by decide +kernel, List.mem_of_getElem? (i := 684) (by decide +kernel), List.mem_of_getElem? (i := 67) (by decide +kernel), by decide +kernel, by decide, fun h => absurd h (by decide), fun _ => List.mem_of_getElem? (i := 683) (by decide +kernel), fun _ _ => List.mem_of_getElem? (i := 16) (by decide +kernel), fun h => absurd h (by decide), by decide⟩
theorem am_k76 : am_okM am_m76 := ⟨by decide +kernel, by decide +kernel, by decide +kernel, List.mem_of_getElem? (i := 689) (by decide +kernel), List.mem_of_getElem? (i := 67) (by decide +kernel), by decide +kernel, by decide, fun h => absurd h (by decide), fun _ => List.mem_of_getElem? (i := 688) (by decide +kernel), fun _ _ => List.mem_of_getElem? (i := 17) (by decide +kernel), fun h => absurd h (by decide), by decide⟩
theorem am_k77 : am_okM am_m77 := ⟨by decide +kernel, by decide +kernel, by decide +kernel, List.mem_of_getElem? (i := 693) (by decide +kernel), List.mem_of_getElem? (i := 67) (by decide +kernel), by decide +kernel, by decide, fun h => absurd h (by decide), fun _ => List.mem_of_getElem? (i := 692) (by decide +kernel), fun _ _ => List.mem_of_getElem? (i := 18) (by decide +kernel), fun h => absurd h (by decide), by decide⟩
theorem am_k78 : am_okM am_m78 := ⟨by decide +kernel, by decide +kernel, by decide +kernel, List.mem_of_getElem? (i := 696) (by decide +kernel), List.mem_of_getElem? (i := 67) (by decide +kernel), by decide +kernel, by decide, fun _ => List.mem_of_getElem? (i := 695) (by decide +kernel), fun h => absurd h (by decide), fun h => absurd h (by decide), fun h => absurd h (by decide), by decide⟩
theorem am_k79 : am_okM am_m79 := ⟨by decide +kernel, by decide +kernel, by decide +kernel, List.mem_of_getElem? (i := 700) (by decide +kernel), List.mem_of_getElem? (i := 55) (by decide +kernel), by decide +kernel, by decide, fun h => absurd h (by decide), fun _ => List.mem_of_getElem? (i := 698) (by decide +kernel), fun _ _ => List.mem_of_getElem? (i := 699) (by decide +kernel), fun h => absurd h (by decide), by decide⟩
theorem am_k80 : am_okM am_m80 := ⟨by decide +kernel, by decide +kernel, by decide +kernel, List.mem_of_getElem? (i := 704) (by decide +kernel), List.mem_of_getElem? (i := 67) (by decide +kernel), by decide +kernel, by decide, fun h => absurd h (by decide), fun _ => List.mem_of_getElem? (i := 702) (by decide +kernel), fun _ _ => List.mem_of_getElem? (i := 703) (by decide +kernel), fun h => absurd h (by decide), by decide⟩
theorem am_k81 : am_okM am_m81 := ⟨by decide +kernel, by decide +kernel, by decide +kernel, List.mem_of_getElem? (i := 708) (by decide +kernel), List.mem_of_getElem? (i := 67) (by decide +kernel), by decide +kernel, by decide, fun h => absurd h (by decide), fun _ => List.mem_of_getElem? (i := 707) (by decide +kernel), fun _ _ => List.mem_of_getElem? (i := 19) (by decide +kernel), fun h => absurd h (by decide), by decide⟩
theorem am_k82 : am_okM am_m82 := ⟨by decide +kernel, by decide +kernel, by decide +kernel, List.mem_of_getElem? (i := 712) (by decide +kernel), List.mem_of_getElem? (i := 67) (by decide +kernel), by decide +kernel, by decide, fun h => absurd h (by decide), fun _ => List.mem_of_getElem? (i := 711) (by decide +kernel), fun _ _ => List.mem_of_getElem? (i := 20) (by decide +kernel), fun h => absurd h (by decide), by decide⟩
theorem am_k83 : am_okM am_m83 := ⟨by decide +kernel, by decide +kernel, by decide +kernel, List.mem_of_getElem? (i := 716) (by decide +kernel), List.mem_of_getElem? (i := 67) (by decide +kernel), by decide +kernel, by decide, fun h => absurd h (by decide), fun _ => List.mem_of_getElem? (i := 715) (by decide +kernel), fun _ _ => List.mem_of_getElem? (i := 21) (by decide +kernel), fun h => absurd h (by decide), by decide⟩
theorem am_k84 : am_okM am_m84 := ⟨by decide +kernel, by decide +kernel, by decide +kernel, List.mem_of_getElem? (i := 720) (by decide +kernel), List.mem_of_getElem? (i := 55) (by decide +kernel), by decide +kernel, by decide, fun h => absurd h (by decide), fun _ => List.mem_of_getElem? (i := 718) (by decide +kernel), fun _ _ => List.mem_of_getElem? (i := 719) (by decide +kernel), fun h => absurd h (by decide), by decide⟩
theorem am_k85 : am_okM am_m85 := ⟨by decide +kernel, by decide +kernel, by decide +kernel, List.mem_of_getElem? (i := 724) (by decide +kernel), List.mem_of_getElem? (i := 56) (by decide +kernel), by decide +kernel, by decide, fun h => absurd h (by decide), fun _ => List.mem_of_getElem? (i := 722) (by decide +kernel), fun _ _ => List.mem_of_getElem? (i := 723) (by decide +kernel), fun h => absurd h (by decide), by decide⟩
theorem am_k86 : am_okM am_m86 := ⟨by decide +kernel, by decide +kernel, by decide +kernel, List.mem_of_getElem? (i := 728) (by decide +kernel), List.mem_of_getElem? (i := 62) (by decide +kernel), by decide +kernel, by decide, fun h => absurd h (by decide), fun _ => List.mem_of_getElem? (i := 726) (by decide +kernel), fun _ _ => List.mem_of_getElem? (i := 727) (by decide +kernel), fun h => absurd h (by decide), by decide⟩
theorem am_k87 : am_okM am_m87 := ⟨by decide +kernel, by decide +kernel, by decide +kernel, List.mem_of_getElem? (i := 732) (by decide +kernel), List.mem_of_getElem? (i := 59) (by decide +kernel), by decide +kernel, by decide, fun h => absurd h (by decide), fun _ => List.mem_of_getElem? (i := 730) (by decide +kernel), fun _ _ => List.mem_of_getElem? (i := 731) (by decide +kernel), fun h => absurd h (by decide), by decide⟩
theorem am_k88 : am_okM am_m88 := ⟨by decide +kernel, by decide +kernel, by decide +kernel, List.mem_of_getElem? (i := 736) (by decide +kernel), List.mem_of_getElem? (i := 62) (by decide +kernel), by decide +kernel, by decide, fun h => absurd h (by decide), fun _ => List.mem_of_getElem? (i := 735) (by decide +kernel), fun _ _ => List.mem_of_getElem? (i := 22) (by decide +kernel), fun h => absurd h (by decide), by decide⟩
theorem am_k90 : am_okM am_m90 := ⟨by decide +kernel, by decide +kernel, by decide +kernel, List.mem_of_getElem? (i := 744) (by decide +kernel), List.mem_of_getElem? (i := 62) (by decide +kernel), by decide +kernel, by decide, fun h => absurd h (by decide), fun _ => List.mem_of_getElem? (i := 743) (by decide +kernel), fun _ _ => List.mem_of_getElem? (i := 23) (by decide +kernel), fun h => absurd h (by decide), by decide⟩
theorem am_k91 : am_okM am_m91 := ⟨by decide +kernel, by decide +kernel, by decide +kernel, List.mem_of_getElem? (i := 748) (by decide +kernel), List.mem_of_getElem? (i := 62) (by decide +kernel), by decide +kernel, by decide, fun h => absurd h (by decide), fun _ => List.mem_of_getElem? (i := 747) (by decide +kernel), fun _ _ => List.mem_of_getElem? (i := 24) (by decide +kernel), fun h => absurd h (by decide), by decide⟩
theorem am_k92 : am_okM am_m92 := ⟨by decide +kernel, by decide +kernel, by decide +kernel, List.mem_of_getElem? (i := 752) (by decide +kernel), List.mem_of_getElem? (i := 62) (by decide +kernel), by decide +kernel, by decide, fun h => absurd h (by decide), fun _ => List.mem_of_getElem? (i := 751) (by decide +kernel), fun _ _ => List.mem_of_getElem? (i := 25) (by decide +kernel), fun h => absurd h (by decide), by decide⟩
theorem am_k93 : am_okM am_m93 := ⟨by decide +kernel, by decide +kernel, by decide +kernel, List.mem_of_getElem? (i := 758) (by decide +kernel), List.mem_of_getElem? (i := 55) (by decide +kernel), by decide +kernel, by decide, fun h => absurd h (by decide), fun _ => List.mem_of_getElem? (i := 756) (by decide +kernel), fun _ _ => List.mem_of_getElem? (i := 757) (by decide +kernel), fun h => absurd h (by decide), by decide⟩
theorem am_k94 : am_okM am_m94 := ⟨by decide +kernel, by decide +kernel, by decide +kernel, List.mem_of_getElem? (i := 762) (by decide +kernel), List.mem_of_getElem? (i := 55) (by decide +kernel), by decide +kernel, by decide, fun h => absurd h (by decide), fun _ => List.mem_of_getElem? (i := 760) (by decide +kernel), fun _ _ => List.mem_of_getElem? (i := 761) (by decide +kernel), fun h => absurd h (by decide), by decide⟩
theorem am_k95 : am_okM am_m95 := ⟨by decide +kernel, by decide +kernel, by decide +kernel, List.mem_of_getElem? (i := 766) (by decide +kernel), List.mem_of_getElem? (i := 56) (by decide +kernel), by decide +kernel, by decide, fun h => absurd h (by decide), fun _ => List.mem_of_getElem? (i := 764) (by decide +kernel), fun _ _ => List.mem_of_getElem? (i := 765) (by decide +kernel), fun h => absurd h (by decide), by decide⟩
theorem am_k96 : am_okM am_m96 := ⟨by decide +kernel, by decide +kernel, by decide +kernel, List.mem_of_getElem? (i := 770) (by decide +kernel), List.mem_of_getElem? (i := 56) (by decide +kernel), by decide +kernel, by decide, fun h => absurd h (by decide), fun _ => List.mem_of_getElem? (i := 768) (by decide +kernel), fun _ _ => List.mem_of_getElem? (i := 769) (by decide +kernel), fun h => absurd h (by decide), by decide⟩
theorem am_k97 : am_okM am_m97 := ⟨by decide +kernel, by decide +kernel, by decide +kernel, List.mem_of_getElem? (i := 776) (by decide +kernel), List.mem_of_getElem? (i := 63) (by decide +kernel), by decide +kernel, by decide, fun h => absurd h (by decide), fun _ => List.mem_of_getElem? (i := 775) (by decide +kernel), fun _ h => absurd h (by decide), fun _ => ⟨rfl, rfl⟩, by decide⟩
theorem am_k98 : am_okM am_m98 := ⟨by decide +kernel, by decide +kernel, by decide +kernel, List.mem_of_getElem? (i := 904) (by decide +kernel), List.mem_of_getElem? (i := 63) (by decide +kernel), by decide +kernel, by decide, fun h => absurd h (by decide), fun _ => List.mem_of_getElem? (i := 902) (by decide +kernel), fun _ _ => List.mem_of_getElem? (i := 903) (by decide +kernel), fun h => absurd h (by decide), by decide⟩
theorem am_k99 : am_okM am_m99 := ⟨by decide +kernel, by decide +kernel, by decide +kernel, List.mem_of_getElem? (i := 907) (by decide +kernel), List.mem_of_getElem? (i := 63) (by decide +kernel), by decide +kernel, by decide, fun _ => List.mem_of_getElem? (i := 906) (by decide +kernel), fun h => absurd h (by decide), fun h => absurd h (by decide), fun h => absurd h (by decide), by decide⟩
theorem am_k100 : am_okM am_m100 := ⟨by decide +kernel, by decide +kernel, by decide +kernel, List.mem_of_getElem? (i := 911) (by decide +kernel), List.mem_of_getElem? (i := 63) (by decide +kernel), by decide +kernel, by decide, fun h => absurd h (by decide), fun _ => List.mem_of_getElem? (i := 909) (by decide +kernel), fun _ _ => List.mem_of_getElem? (i := 910) (by decide +kernel), fun h => absurd h (by decide), by decide⟩
theorem am_k101 : am_okM am_m101 := ⟨by decide +kernel, by decide +kernel, by decide +kernel, List.mem_of_getElem? (i := 915) (by decide +kernel), List.mem_of_getElem? (i := 63) (by decide +kernel), by decide +kernel, by decide, fun h => absurd h (by decide), fun _ => List.mem_of_getElem? (i := 914) (by decide +kernel), fun _ _ => List.mem_of_getElem? (i := 26) (by decide +kernel), fun h => absurd h (by decide), by decide⟩
theorem am_k102 : am_okM am_m102 := ⟨by decide +kernel, by decide +kernel, by decide +kernel, List.mem_of_getElem? (i := 919) (by decide +kernel), List.mem_of_getElem? (i := 63) (by decide +kernel), by decide +kernel, by decide, fun h => absurd h (by decide), fun _ => List.mem_of_getElem? (i := 917) (by decide +kernel), fun _ _ => List.mem_of_getElem? (i := 918) (by decide +kernel), fun h => absurd h (by decide), by decide⟩
theorem am_k103 : am_okM am_m103 := ⟨by decide +kernel, by decide +kernel, by decide +kernel, List.mem_of_getElem? (i := 923) (by decide +kernel), List.mem_of_getElem? (i := 63) (by decide +kernel), by decide +kernel, by decide, fun h => absurd h (by decide), fun _ => List.mem_of_getElem? (i := 921) (by decide +kernel), fun _ _ => List.mem_of_getElem? (i := 922) (by decide +kernel), fun h => absurd h (by decide), by decide⟩
theorem am_k104 : am_okM am_m104 := ⟨by decide +kernel, by decide +kernel, by decide +kernel, List.mem_of_getElem? (i := 927) (by decide +kernel), List.mem_of_getElem? (i := 63) (by decide +kernel), by decide +kernel, by decide, fun h => absurd h (by decide), fun _ => List.mem_of_getElem? (i := 925) (by decide +kernel), fun _ _ => List.mem_of_getElem? (i := 926) (by decide +kernel), fun h => absurd h (by decide), by decide⟩
theorem am_k105 : am_okM am_m105 := ⟨by decide +kernel, by decide +kernel, by decide +kernel, List.mem_of_getElem? (i := 931) (by decide +kernel), List.mem_of_getElem? (i := 63) (by decide +kernel), by decide +kernel, by decide, fun h => absurd h (by decide), fun _ => List.mem_of_getElem? (i := 929) (by decide +kernel), fun _ _ => List.mem_of_getElem? (i := 930) (by decide +kernel), fun h => absurd h (by decide), by decide⟩
theorem am_k106 : am_okM am_m106 := ⟨by decide +kernel, by decide +kernel, by decide +kernel, List.mem_of_getElem? (i := 935) (by decide +kernel), List.mem_of_getElem? (i := 63) (by decide +kernel), by decide +kernel, by decide, fun h => absurd h (by decide), fun _ => List.mem_of_getElem? (i := 934) (by decide +kernel), fun _ _ => List.mem_of_getElem? (i := 27) (by decide +kernel), fun h => absurd h (by decide), by decide⟩
theorem am_k107 : am_okM am_m107 := ⟨by decide +kernel, by decide +kernel, by decide +kernel, List.mem_of_getElem? (i := 939) (by decide +kernel), List.mem_of_getElem? (i := 63) (by decide +kernel), by decide +kernel, by decide, fun h => absurd h (by decide), fun _ => List.mem_of_getElem? (i := 938) (by decide +kernel), fun _ _ => List.mem_of_getElem? (i := 28) (by decide +kernel), fun h => absurd h (by decide), by decide⟩
theorem am_k108 : am_okM am_m108 := ⟨by decide +kernel, by decide +kernel, by decide +kernel, List.mem_of_getElem? (i := 943) (by decide +kernel), List.mem_of_getElem? (i := 63) (by decide +kernel), by decide +kernel, by decide, fun h => absurd h (by decide), fun _ => List.mem_of_getElem? (i := 942) (by decide +kernel), fun _ _ => List.mem_of_getElem? (i := 29) (by decide +kernel), fun h => absurd h (by decide), by decide⟩
theorem am_k109 : am_okM am_m109 := ⟨by decide +kernel, by decide +kernel, by decide +kernel, List.mem_of_getElem? (i := 947) (by decide +kernel), List.mem_of_getElem? (i := 63) (by decide +kernel), by decide +kernel, by decide, fun h => absurd h (by decide), fun _ => List.mem_of_getElem? (i := 946) (by decide +kernel), fun _ _ => List.mem_of_getElem? (i := 30) (by decide +kernel), fun h => absurd h (by decide), by decide⟩
theorem am_k110 : am_okM am_m110 := ⟨by decide +kernel, by decide +kernel, by decide +kernel, List.mem_of_getElem? (i := 951) (by decide +kernel), List.mem_of_getElem? (i := 63) (by decide +kernel), by decide +kernel, by decide, fun h => absurd h (by decide), fun _ => List.mem_of_getElem? (i := 950) (by decide +kernel), fun _ _ => List.mem_of_getElem? (i := 31) (by decide +kernel), fun h => absurd h (by decide), by decide⟩
theorem am_k111 : am_okM am_m111 := ⟨by decide +kernel, by decide +kernel, by decide +kernel, List.mem_of_getElem? (i := 955) (by decide +kernel), List.mem_of_getElem? (i := 63) (by decide +kernel), by decide +kernel, by decide, fun h => absurd h (by decide), fun _ => List.mem_of_getElem? (i := 954) (by decide +kernel), fun _ _ => List.mem_of_getElem? (i := 32) (by decide +kernel), fun h => absurd h (by decide), by decide⟩
theorem am_k112 : am_okM am_m112 := ⟨by decide +kernel, by decide +kernel, by decide +kernel, List.mem_of_getElem? (i := 958) (by decide +kernel), List.mem_of_getElem? (i := 63) (by decide +kernel), by decide +kernel, by decide, fun _ => List.mem_of_getElem? (i := 957) (by decide +kernel), fun h => absurd h (by decide), fun h => absurd h (by decide), fun h => absurd h (by decide), by decide⟩
theorem am_k113 : am_okM am_m113 := ⟨by decide +kernel, by decide +kernel, by decide +kernel, List.mem_of_getElem? (i := 962) (by decide +kernel), List.mem_of_getElem? (i := 63) (by decide +kernel), by decide +kernel, by decide, fun h => absurd h (by decide), fun _ => List.mem_of_getElem? (i := 961) (by decide +kernel), fun _ _ => List.mem_of_getElem? (i := 33) (by decide +kernel), fun h => absurd h (by decide), by decide⟩
theorem am_k114 : am_okM am_m114 := ⟨by decide +kernel, by decide +kernel, by decide +kernel, List.mem_of_getElem? (i := 966) (by decide +kernel), List.mem_of_getElem? (i := 63) (by decide +kernel), by decide +kernel, by decide, fun h => absurd h (by decide), fun _ => List.mem_of_getElem? (i := 965) (by decide +kernel), fun _ _ => List.mem_of_getElem? (i := 34) (by decide +kernel), fun h => absurd h (by decide), by decide⟩
theorem am_k115 : am_okM am_m115 := ⟨by decide +kernel, by decide +kernel, by decide +kernel, List.mem_of_getElem? (i := 970) (by decide +kernel), List.mem_of_getElem? (i := 63) (by decide +kernel), by decide +kernel, by decide, fun h => absurd h (by decide), fun _ => List.mem_of_getElem? (i := 969) (by decide +kernel), fun _ _ => List.mem_of_getElem? (i := 35) (by decide +kernel), fun h => absurd h (by decide), by decide⟩
theorem am_k116 : am_okM am_m116 := ⟨by decide +kernel, by decide +kernel, by decide +kernel, List.mem_of_getElem? (i := 974) (by decide +kernel), List.mem_of_getElem? (i := 63) (by decide +kernel), by decide +kernel, by decide, fun h => absurd h (by decide), fun _ => List.mem_of_getElem? (i := 973) (by decide +kernel), fun _ _ => List.mem_of_getElem? (i := 36) (by decide +kernel), fun h => absurd h (by decide), by decide⟩
theorem am_k117 : am_okM am_m117 := ⟨by decide +kernel, by decide +kernel, by decide +kernel, List.mem_of_getElem? (i := 978) (by decide +kernel), List.mem_of_getElem? (i := 63) (by decide +kernel), by decide +kernel, by decide, fun h => absurd h (by decide), fun _ => List.mem_of_getElem? (i := 976) (by decide +kernel), fun _ _ => List.mem_of_getElem? (i := 977) (by decide +kernel), fun h => absurd h (by decide), by decide⟩
theorem am_k118 : am_okM am_m118 := ⟨by decide +kernel, by decide +kernel, by decide +kernel, List.mem_of_getElem? (i := 982) (by decide +kernel), List.mem_of_getElem? (i := 63) (by decide +kernel), by decide +kernel, by decide, fun h => absurd h (by decide), fun _ => List.mem_of_getElem? (i := 980) (by decide +kernel), fun _ _ => List.mem_of_getElem? (i := 981) (by decide +kernel), fun h => absurd h (by decide), by decide⟩
theorem am_k119 : am_okM am_m119 := ⟨by decide +kernel, by decide +kernel, by decide +kernel, List.mem_of_getElem? (i := 986) (by decide +kernel), List.mem_of_getElem? (i := 63) (by decide +kernel), by decide +kernel, by decide, fun h => absurd h (by decide), fun _ => List.mem_of_getElem? (i := 985) (by decide +kernel), fun _ _ => List.mem_of_getElem? (i := 37) (by decide +kernel), fun h => absurd h (by decide), by decide⟩
theorem am_k120 : am_okM am_m120 := ⟨by decide +kernel, by decide +kernel, by decide +kernel, List.mem_of_getElem? (i := 990) (by decide +kernel), List.mem_of_getElem? (i := 63) (by decide +kernel), by decide +kernel, by decide, fun h => absurd h (by decide), fun _ => List.mem_of_getElem? (i := 989) (by decide +kernel), fun _ _ => List.mem_of_getElem? (i := 38) (by decide +kernel), fun h => absurd h (by decide), by decide⟩
theorem am_k121 : am_okM am_m121 := ⟨by decide +kernel, by decide +kernel, by decide +kernel, List.mem_of_getElem? (i := 994) (by decide +kernel), List.mem_of_getElem? (i := 63) (by decide +kernel), by decide +kernel, by decide, fun h => absurd h (by decide), fun _ => List.mem_of_getElem? (i := 992) (by decide +kernel), fun _ _ => List.mem_of_getElem? (i := 993) (by decide +kernel), fun h => absurd h (by decide), by decide⟩
theorem am_k122 : am_okM am_m122 := ⟨by decide +kernel, by decide +kernel, by decide +kernel, List.mem_of_getElem? (i := 998) (by decide +kernel), List.mem_of_getElem? (i := 63) (by decide +kernel), by decide +kernel, by decide, fun h => absurd h (by decide), fun _ => List.mem_of_getElem? (i := 996) (by decide +kernel), fun _ _ => List.mem_of_getElem? (i := 997) (by decide +kernel), fun h => absurd h (by decide), by decide⟩
theorem am_k123 : am_okM am_m123 := ⟨by decide +kernel, by decide +kernel, by decide +kernel, List.mem_of_getElem? (i := 1002) (by decide +kernel), List.mem_of_getElem? (i := 63) (by decide +kernel), by decide +kernel, by decide, fun h => absurd h (by decide), fun _ => List.mem_of_getElem? (i := 1000) (by decide +kernel), fun _ _ => List.mem_of_getElem? (i := 1001) (by decide +kernel), fun h => absurd h (by decide), by decide⟩
theorem am_k124 : am_okM am_m124 := ⟨by decide +kernel, by decide +kernel, by decide +kernel, List.mem_of_getElem? (i := 1006) (by decide +kernel), List.mem_of_getElem? (i := 63) (by decide +kernel), by decide +kernel, by decide, fun h => absurd h (by decide), fun _ => List.mem_of_getElem? (i := 1005) (by decide +kernel), fun _ _ => List.mem_of_getElem? (i := 39) (by decide +kernel), fun h => absurd h (by decide), by decide⟩
theorem am_k125 : am_okM am_m125 := ⟨by decide +kernel, by decide +kernel, by decide +kernel, List.mem_of_getElem? (i := 1010) (by decide +kernel), List.mem_of_getElem? (i := 63) (by decide +kernel), by decide +kernel, by decide, fun h => absurd h (by decide), fun _ => List.mem_of_getElem? (i := 1009) (by decide +kernel), fun _ _ => List.mem_of_getElem? (i := 40) (by decide +kernel), fun h => absurd h (by decide), by decide⟩
theorem am_k126 : am_okM am_m126 := ⟨by decide +kernel, by decide +kernel, by decide +kernel, List.mem_of_getElem? (i := 1014) (by decide +kernel), List.mem_of_getElem? (i := 63) (by decide +kernel), by decide +kernel, by decide, fun h => absurd h (by decide), fun _ => List.mem_of_getElem? (i := 1013) (by decide +kernel), fun _ _ => List.mem_of_getElem? (i := 41) (by decide +kernel), fun h => absurd h (by decide), by decide⟩
theorem am_k127 : am_okM am_m127 := ⟨by decide +kernel, by decide +kernel, by decide +kernel, List.mem_of_getElem? (i := 1018) (by decide +kernel), List.mem_of_getElem? (i := 63) (by decide +kernel), by decide +kernel, by decide, fun h => absurd h (by decide), fun _ => List.mem_of_getElem? (i := 1017) (by decide +kernel), fun _ _ => List.mem_of_getElem? (i := 42) (by decide +kernel), fun h => absurd h (by decide), by decide⟩
theorem am_k128 : am_okM am_m128 := ⟨by decide +kernel, by decide +kernel, by decide +kernel, List.mem_of_getElem? (i := 1022) (by decide +kernel), List.mem_of_getElem? (i := 63) (by decide +kernel), by decide +kernel, by decide, fun h => absurd h (by decide), fun _ => List.mem_of_getElem? (i := 1021) (by decide +kernel), fun _ _ => List.mem_of_getElem? (i := 43) (by decide +kernel), fun h => absurd h (by decide), by decide⟩
theorem am_k129 : am_okM am_m129 := ⟨by decide +kernel, by decide +kernel, by decide +kernel, List.mem_of_getElem? (i := 1026) (by decide +kernel), List.mem_of_getElem? (i := 63) (by decide +kernel), by decide +kernel, by decide, fun h => absurd h (by decide), fun _ => List.mem_of_getElem? (i := 1024) (by decide +kernel), fun _ _ => List.mem_of_getElem? (i := 1025) (by decide +kernel), fun h => absurd h (by decide), by decide⟩
theorem am_k130 : am_okM am_m130 := ⟨by decide +kernel, by decide +kernel, by decide +kernel, List.mem_of_getElem? (i := 1030) (by decide +kernel), List.mem_of_getElem? (i := 63) (by decide +kernel), by decide +kernel, by decide, fun h => absurd h (by decide), fun _ => List.mem_of_getElem? (i := 1028) (by decide +kernel), fun _ _ => List.mem_of_getElem? (i := 1029) (by decide +kernel), fun h => absurd h (by decide), by decide⟩
theorem am_k131 : am_okM am_m131 := ⟨by decide +kernel, by decide +kernel, by decide +kernel, List.mem_of_getElem? (i := 1034) (by decide +kernel), List.mem_of_getElem? (i := 63) (by decide +kernel), by decide +kernel, by decide, fun h => absurd h (by decide), fun _ => List.mem_of_getElem? (i := 1032) (by decide +kernel), fun _ _ => List.mem_of_getElem? (i := 1033) (by decide +kernel), fun h => absurd h (by decide), by decide⟩
theorem am_k132 : am_okM am_m132 := ⟨by decide +kernel, by decide +kernel, by decide +kernel, List.mem_of_getElem? (i := 1039) (by decide +kernel), List.mem_of_getElem? (i := 63) (by decide +kernel), by decide +kernel, by decide, fun h => absurd h (by decide), fun _ => List.mem_of_getElem? (i := 1038) (by decide +kernel), fun _ _ => List.mem_of_getElem? (i := 44) (by decide +kernel), fun h => absurd h (by decide), by decide⟩
theorem am_k133 : am_okM am_m133 := ⟨by decide +kernel, by decide +kernel, by decide +kernel, List.mem_of_getElem? (i := 1043) (by decide +kernel), List.mem_of_getElem? (i := 63) (by decide +kernel), by decide +kernel, by decide, fun h => absurd h (by decide), fun _ => List.mem_of_getElem? (i := 1042) (by decide +kernel), fun _ _ => List.mem_of_getElem? (i := 45) (by decide +kernel), fun h => absurd h (by decide), by decide⟩
theorem am_k134 : am_okM am_m134 := ⟨by decide +kernel, by decide +kernel, by decide +kernel, List.mem_of_getElem? (i := 1047) (by decide +kernel), List.mem_of_getElem? (i := 63) (by decide +kernel), by decide +kernel, by decide, fun h => absurd h (by decide), fun _ => List.mem_of_getElem? (i := 1046) (by decide +kernel), fun _ _ => List.mem_of_getElem? (i := 46) (by decide +kernel), fun h => absurd h (by decide), by decide⟩
theorem am_k135 : am_okM am_m135 := ⟨by decide +kernel, by decide +kernel, by decide +kernel, List.mem_of_getElem? (i := 1051) (by decide +kernel), List.mem_of_getElem? (i := 63) (by decide +kernel), by decide +kernel, by decide, fun h => absurd h (by decide), fun _ => List.mem_of_getElem? (i := 1049) (by decide +kernel), fun _ _ => List.mem_of_getElem? (i := 1050) (by decide +kernel), fun h => absurd h (by decide), by decide⟩
theorem am_k136 : am_okM am_m136 := ⟨by decide +kernel, by decide +kernel, by decide +kernel, List.mem_of_getElem? (i := 1055) (by decide +kernel), List.mem_of_getElem? (i := 63) (by decide +kernel), by decide +kernel, by decide, fun h => absurd h (by decide), fun _ => List.mem_of_getElem? (i := 1054) (by decide +kernel), fun _ _ => List.mem_of_getElem? (i := 47) (by decide +kernel), fun h => absurd h (by decide), by decide⟩
theorem am_k137 : am_okM am_m137 := ⟨by decide +kernel, by decide +kernel, by decide +kernel, List.mem_of_getElem? (i := 1060) (by decide +kernel), List.mem_of_getElem? (i := 63) (by decide +kernel), by decide +kernel, by decide, fun h => absurd h (by decide), fun _ => List.mem_of_getElem? (i := 1058) (by decide +kernel), fun _ _ => List.mem_of_getElem? (i := 1059) (by decide +kernel), fun h => absurd h (by decide), by decide⟩
theorem am_k138 : am_okM am_m138 := ⟨by decide +kernel, by decide +kernel, by decide +kernel, List.mem_of_getElem? (i := 1064) (by decide +kernel), List.mem_of_getElem? (i := 63) (by decide +kernel), by decide +kernel, by decide, fun h => absurd h (by decide), fun _ => List.mem_of_getElem? (i := 1062) (by decide +kernel), fun _ _ => List.mem_of_getElem? (i := 1063) (by decide +kernel), fun h => absurd h (by decide), by decide⟩
theorem am_k139 : am_okM am_m139 := ⟨by decide +kernel, by decide +kernel, by decide +kernel, List.mem_of_getElem? (i := 1068) (by decide +kernel), List.mem_of_getElem? (i := 63) (by decide +kernel), by decide +kernel, by decide, fun h => absurd h (by decide), fun _ => List.mem_of_getElem? (i := 1067) (by decide +kernel), fun _ _ => List.mem_of_getElem? (i := 48) (by decide +kernel), fun h => absurd h (by decide), by decide⟩
theorem am_k140 : am_okM am_m140 := ⟨by decide +kernel, by decide +kernel, by decide +kernel, List.mem_of_getElem? (i := 1072) (by decide +kernel), List.mem_of_getElem? (i := 63) (by decide +kernel), by decide +kernel, by decide, fun h => absurd h (by decide), fun _ => List.mem_of_getElem? (i := 1071) (by decide +kernel), fun _ _ => List.mem_of_getElem? (i := 49) (by decide +kernel), fun h => absurd h (by decide), by decide⟩
theorem am_k141 : am_okM am_m141 := ⟨by decide +kernel, by decide +kernel, by decide +kernel, List.mem_of_getElem? (i := 1075) (by decide +kernel), List.mem_of_getElem? (i := 63) (by decide +kernel), by decide +kernel, by decide, fun _ => List.mem_of_getElem? (i := 1074) (by decide +kernel), fun h => absurd h (by decide), fun h => absurd h (by decide), fun h => absurd h (by decide), by decide⟩
theorem am_k142 : am_okM am_m142 := ⟨by decide +kernel, by decide +kernel, by decide +kernel, List.mem_of_getElem? (i := 1078) (by decide +kernel), List.mem_of_getElem? (i := 63) (by decide +kernel), by decide +kernel, by decide, fun _ => List.mem_of_getElem? (i := 1077) (by decide +kernel), fun h => absurd h (by decide), fun h => absurd h (by decide), fun h => absurd h (by decide), by decide⟩
theorem am_k143 : am_okM am_m143 := ⟨by decide +kernel, by decide +kernel, by decide +kernel, List.mem_of_getElem? (i := 1082) (by decide +kernel), List.mem_of_getElem? (i := 63) (by decide +kernel), by decide +kernel, by decide, fun h => absurd h (by decide), fun _ => List.mem_of_getElem? (i := 1081) (by decide +kernel), fun _ _ => List.mem_of_getElem? (i := 50) (by decide +kernel), fun h => absurd h (by decide), by decide⟩
theorem am_k144 : am_okM am_m144 := ⟨by decide +kernel, by decide +kernel, by decide +kernel, List.mem_of_getElem? (i := 1086) (by decide +kernel), List.mem_of_getElem? (i := 63) (by decide +kernel), by decide +kernel, by decide, fun h => absurd h (by decide), fun _ => List.mem_of_getElem? (i := 1084) (by decide +kernel), fun _ _ => List.mem_of_getElem? (i := 1085) (by decide +kernel), fun h => absurd h (by decide), by decide⟩
theorem am_k145 : am_okM am_m145 := ⟨by decide +kernel, by decide +kernel, by decide +kernel, List.mem_of_getElem? (i := 1090) (by decide +kernel), List.mem_of_getElem? (i := 63) (by decide +kernel), by decide +kernel, by decide, fun h => absurd h (by decide), fun _ => List.mem_of_getElem? (i := 1088) (by decide +kernel), fun _ _ => List.mem_of_getElem? (i := 1089) (by decide +kernel), fun h => absurd h (by decide), by decide⟩
theorem am_k146 : am_okM am_m146 := ⟨by decide +kernel, by decide +kernel, by decide +kernel, List.mem_of_getElem? (i := 1094) (by decide +kernel), List.mem_of_getElem? (i := 63) (by decide +kernel), by decide +kernel, by decide, fun h => absurd h (by decide), fun _ => List.mem_of_getElem? (i := 1093) (by decide +kernel), fun _ _ => List.mem_of_getElem? (i := 51) (by decide +kernel), fun h => absurd h (by decide), by decide⟩
theorem am_k147 : am_okM am_m147 := ⟨by decide +kernel, by decide +kernel, by decide +kernel, List.mem_of_getElem? (i := 1098) (by decide +kernel), List.mem_of_getElem? (i := 63) (by decide +kernel), by decide +kernel, by decide, fun h => absurd h (by decide), fun _ => List.mem_of_getElem? (i := 1097) (by decide +kernel), fun _ _ => List.mem_of_getElem? (i := 52) (by decide +kernel), fun h => absurd h (by decide), by decide⟩
theorem am_k148 : am_okM am_m148 := ⟨by decide +kernel, by decide +kernel, by decide +kernel, List.mem_of_getElem? (i := 1102) (by decide +kernel), List.mem_of_getElem? (i := 63) (by decide +kernel), by decide +kernel, by decide, fun h => absurd h (by decide), fun _ => List.mem_of_getElem? (i := 1101) (by decide +kernel), fun _ _ => List.mem_of_getElem? (i := 53) (by decide +kernel), fun h => absurd h (by decide), by decide⟩
theorem am_k149 : am_okM am_m149 := ⟨by decide +kernel, by decide +kernel, by decide +kernel, List.mem_of_getElem? (i := 1106) (by decide +kernel), List.mem_of_getElem? (i := 63) (by decide +kernel), by decide +kernel, by decide, fun h => absurd h (by decide), fun _ => List.mem_of_getElem? (i := 1104) (by decide +kernel), fun _ _ => List.mem_of_getElem? (i := 1105) (by decide +kernel), fun h => absurd h (by decide), by decide⟩
theorem am_k150 : am_okM am_m150 := ⟨by decide +kernel, by decide +kernel, by decide +kernel, List.mem_of_getElem? (i := 1110) (by decide +kernel), List.mem_of_getElem? (i := 63) (by decide +kernel), by decide +kernel, by decide, fun h => absurd h (by decide), fun _ => List.mem_of_getElem? (i := 1108) (by decide +kernel), fun _ _ => List.mem_of_getElem? (i := 1109) (by decide +kernel), fun h => absurd h (by decide), by decide⟩
end
section
/-! THE MACHINE IN SMALL: a step function over a frame, cells by number, references apart from whole numbers -/
abbrev am_T : Type := List (Nat ⊕ (Nat × Nat))
abbrev am_L : Type := List (Option Value)
/-- an instruction: pc, itself, length, next pc, two numbers, a constant, targets -/
abbrev am_I : Type := Nat × Instr × Nat × Nat × Nat × Nat × Int32 × List Nat
/-- pc, locals, stack, kinds of the cells, references, whole numbers -/
abbrev am_S : Type := Nat × am_L × List Value × am_T × (Nat → Nat → Value) × (Nat → Nat → Int32)
def am_us (σ : Nat → Nat → Int32) (c k : Nat) (x : Int32) : Nat → Nat → Int32 := fun c' k' => if c' = c ∧ k' = k then x else σ c' k'
def am_ur (ρ : Nat → Nat → Value) (c k : Nat) (x : Value) : Nat → Nat → Value := fun c' k' => if c' = c ∧ k' = k then x else ρ c' k'
def am_zs (σ : Nat → Nat → Int32) (c : Nat) : Nat → Nat → Int32 := fun c' k' => if c' = c then 0 else σ c' k'
def am_zr (ρ : Nat → Nat → Value) (c : Nat) : Nat → Nat → Value := fun c' k' => if c' = c then .null else ρ c' k'
def am_isI (ty : FieldType) : Bool := match ty with
  | .int => true
  | .boolean => true
  | _ => false
def am_isB (ty : FieldType) : Bool := match ty with
  | .boolean => true
  | _ => false
def am_isL (v : Option (Option Value)) : Bool := match v with
  | some (some (.long _)) => true
  | some (some (.double _)) => true
  | _ => false
def am_st1 (L : am_L) (i : Nat) (v : Value) : Option am_L := if i < L.length then (if (i != 0 && am_isL L[i - 1]?) = true then none else some (L.set i (some v))) else none
def am_st2 (L : am_L) (i : Nat) (v : Value) : Option am_L := if i + 1 < L.length then (if (i != 0 && am_isL L[i - 1]?) = true then none else some ((L.set i (some v)).set (i + 1) none)) else none
def am_c1 (v : Value) : Bool := match v with
  | .long _ => false
  | .double _ => false
  | _ => true
/-- a load from the locals -/
def am_ldI (L : am_L) (i nx : Nat) (S : List Value) (X : am_T × (Nat → Nat → Value) × (Nat → Nat → Int32)) : Option am_S := match L[i]? with
  | some (some (.int x)) => some (nx, L, .int x :: S, X)
  | _ => none
def am_ldL (L : am_L) (i nx : Nat) (S : List Value) (X : am_T × (Nat → Nat → Value) × (Nat → Nat → Int32)) : Option am_S := match L[i]? with
  | some (some (.long x)) => some (nx, L, .long x :: S, X)
  | _ => none
def am_ldA (L : am_L) (i nx : Nat) (S : List Value) (X : am_T × (Nat → Nat → Value) × (Nat → Nat → Int32)) : Option am_S := match L[i]? with
  | some (some (.ref x)) => some (nx, L, .ref x :: S, X)
  | some (some .null) => some (nx, L, .null :: S, X)
  | _ => none
def am_stI (L : am_L) (i nx : Nat) (S : List Value) (X : am_T × (Nat → Nat → Value) × (Nat → Nat → Int32)) : Option am_S := match S with
  | .int x :: S => (match am_st1 L i (.int x) with
    | some L' => some (nx, L', S, X)
    | none => none)
  | _ => none
def am_stL (L : am_L) (i nx : Nat) (S : List Value) (X : am_T × (Nat → Nat → Value) × (Nat → Nat → Int32)) : Option am_S := match S with
  | .long x :: S => (match am_st2 L i (.long x) with
    | some L' => some (nx, L', S, X)
    | none => none)
  | _ => none
def am_stA (L : am_L) (i nx : Nat) (S : List Value) (X : am_T × (Nat → Nat → Value) × (Nat → Nat → Int32)) : Option am_S := match S with
  | .ref x :: S => (match am_st1 L i (.ref x) with
    | some L' => some (nx, L', S, X)
    | none => none)
  | .null :: S => (match am_st1 L i .null with
    | some L' => some (nx, L', S, X)
    | none => none)
  | _ => none
def am_op2 (f : Int32 → Int32 → Int32) (L : am_L) (nx : Nat) (S : List Value) (X : am_T × (Nat → Nat → Value) × (Nat → Nat → Int32)) : Option am_S := match S with
  | .int y :: .int x :: S => some (nx, L, .int (f x y) :: S, X)
  | _ => none
def am_opL (f : Int64 → Int64 → Int64) (L : am_L) (nx : Nat) (S : List Value) (X : am_T × (Nat → Nat → Value) × (Nat → Nat → Int32)) : Option am_S := match S with
  | .long y :: .long x :: S => some (nx, L, .long (f x y) :: S, X)
  | _ => none
/-- one instruction that is no call, no branch and touches no cell -/
def am_ex1 (i : Instr) (nx n : Nat) (v : Int32) (L : am_L) (S : List Value) (X : am_T × (Nat → Nat → Value) × (Nat → Nat → Int32)) : Option am_S := match i with
  | .iconst _ => some (nx, L, .int v :: S, X)
  | .bipush _ => some (nx, L, .int v :: S, X)
  | .sipush _ => some (nx, L, .int v :: S, X)
  | .ldc _ => some (nx, L, .int v :: S, X)
  | .ldc_w _ => some (nx, L, .int v :: S, X)
  | .ldc2_w _ => some (nx, L, .long (Int64.ofNat n) :: S, X)
  | .lconst k => some (nx, L, .long (Int64.ofNat k) :: S, X)
  | .aconst_null => some (nx, L, .null :: S, X)
  | .iload_n k => am_ldI L k nx S X
  | .iload k => am_ldI L k nx S X
  | .lload_n k => am_ldL L k nx S X
  | .lload k => am_ldL L k nx S X
  | .aload_n k => am_ldA L k nx S X
  | .aload k => am_ldA L k nx S X
  | .istore_n k => am_stI L k nx S X
  | .istore k => am_stI L k nx S X
  | .lstore_n k => am_stL L k nx S X
  | .lstore k => am_stL L k nx S X
  | .astore_n k => am_stA L k nx S X
  | .astore k => am_stA L k nx S X
  | .iinc k _ => (match L[k]? with
    | some (some (.int x)) => (match am_st1 L k (.int (x + v)) with
      | some L' => some (nx, L', S, X)
      | none => none)
    | _ => none)
  | .iadd => am_op2 (fun x y => x + y) L nx S X
  | .isub => am_op2 (fun x y => x - y) L nx S X
  | .imul => am_op2 (fun x y => x * y) L nx S X
  | .iand => am_op2 (fun x y => x &&& y) L nx S X
  | .ior => am_op2 (fun x y => x ||| y) L nx S X
  | .ixor => am_op2 (fun x y => x ^^^ y) L nx S X
  | .ishl => am_op2 (fun x y => x <<< (y &&& 31)) L nx S X
  | .ishr => am_op2 (fun x y => x >>> (y &&& 31)) L nx S X
  | .iushr => am_op2 (fun x y => (x.toUInt32 >>> (y.toUInt32 &&& Int32.toUInt32 31)).toInt32) L nx S X
  | .idiv => (match S with
    | .int y :: .int x :: S => if y = 0 then none else some (nx, L, .int (x / y) :: S, X)
    | _ => none)
  | .irem => (match S with
    | .int y :: .int x :: S => if y = 0 then none else some (nx, L, .int (x - x / y * y) :: S, X)
    | _ => none)
  | .ineg => (match S with
    | .int x :: S => some (nx, L, .int (-x) :: S, X)
    | _ => none)
  | .lmul => am_opL (fun x y => x * y) L nx S X
  | .land => am_opL (fun x y => x &&& y) L nx S X
  | .lor => am_opL (fun x y => x ||| y) L nx S X
  | .ldiv => (match S with
    | .long y :: .long x :: S => if y = 0 then none else some (nx, L, .long (x / y) :: S, X)
    | _ => none)
  | .lshl => (match S with
    | .int y :: .long x :: S => some (nx, L, .long (x <<< (y.toInt64 &&& 63)) :: S, X)
    | _ => none)
  | .lshr => (match S with
    | .int y :: .long x :: S => some (nx, L, .long (x >>> (y.toInt64 &&& 63)) :: S, X)
    | _ => none)
  | .lcmp => (match S with
    | .long y :: .long x :: S => some (nx, L, .int (lg_cmp x y) :: S, X)
    | _ => none)
  | .i2l => (match S with
    | .int x :: S => some (nx, L, .long x.toInt64 :: S, X)
    | _ => none)
  | .l2i => (match S with
    | .long x :: S => some (nx, L, .int x.toInt32 :: S, X)
    | _ => none)
  | .dup => (match S with
    | a :: S => if am_c1 a = true then some (nx, L, a :: a :: S, X) else none
    | _ => none)
  | .dup2 => (match S with
    | a :: c :: S => if (am_c1 a && am_c1 c) = true then some (nx, L, a :: c :: a :: c :: S, X) else none
    | _ => none)
  | .pop => (match S with
    | a :: S => if am_c1 a = true then some (nx, L, S, X) else none
    | _ => none)
  | _ => none
/-- a jump -/
def am_ex2 (i : Instr) (nx n : Nat) (w : List Nat) (L : am_L) (S : List Value) (X : am_T × (Nat → Nat → Value) × (Nat → Nat → Int32)) : Option am_S := match i with
  | .goto _ => some (n, L, S, X)
  | .ifCond .eq _ => (match S with
    | .int x :: S => some (if x = 0 then n else nx, L, S, X)
    | _ => none)
  | .ifCond .ne _ => (match S with
    | .int x :: S => some (if x = 0 then nx else n, L, S, X)
    | _ => none)
  | .ifCond .lt _ => (match S with
    | .int x :: S => some (if x < 0 then n else nx, L, S, X)
    | _ => none)
  | .ifCond .ge _ => (match S with
    | .int x :: S => some (if 0 ≤ x then n else nx, L, S, X)
    | _ => none)
  | .ifCond .gt _ => (match S with
    | .int x :: S => some (if 0 < x then n else nx, L, S, X)
    | _ => none)
  | .ifCond .le _ => (match S with
    | .int x :: S => some (if x ≤ 0 then n else nx, L, S, X)
    | _ => none)
  | .if_icmp .eq _ => (match S with
    | .int y :: .int x :: S => some (if x = y then n else nx, L, S, X)
    | _ => none)
  | .if_icmp .ne _ => (match S with
    | .int y :: .int x :: S => some (if x = y then nx else n, L, S, X)
    | _ => none)
  | .if_icmp .lt _ => (match S with
    | .int y :: .int x :: S => some (if x < y then n else nx, L, S, X)
    | _ => none)
  | .if_icmp .ge _ => (match S with
    | .int y :: .int x :: S => some (if y ≤ x then n else nx, L, S, X)
    | _ => none)
  | .if_icmp .gt _ => (match S with
    | .int y :: .int x :: S => some (if y < x then n else nx, L, S, X)
    | _ => none)
  | .if_icmp .le _ => (match S with
    | .int y :: .int x :: S => some (if x ≤ y then n else nx, L, S, X)
    | _ => none)
  | .ifnull _ => (match S with
    | .ref _ :: S => some (nx, L, S, X)
    | .null :: S => some (n, L, S, X)
    | _ => none)
  | .ifnonnull _ => (match S with
    | .ref _ :: S => some (n, L, S, X)
    | .null :: S => some (nx, L, S, X)
    | _ => none)
  | .tableswitch _ lo hi _ => (match S with
    | .int x :: S => if x.toInt < lo ∨ hi < x.toInt then some (n, L, S, X) else (match w[(x.toInt - lo).toNat]? with
      | some g => some (g, L, S, X)
      | none => none)
    | _ => none)
  | _ => none
/-- what touches a cell -/
def am_ex3 (i : Instr) (nx n n2 : Nat) (L : am_L) (S : List Value) (T : am_T) (ρ : Nat → Nat → Value) (σ : Nat → Nat → Int32) : Option am_S := match i with
  | .getfield _ => (match S with
    | .ref c :: S => if T[c]? = some (.inl n) then (if am_isI (am_fty n n2) = true then some (nx, L, .int (σ c n2) :: S, T, ρ, σ) else some (nx, L, ρ c n2 :: S, T, ρ, σ)) else none
    | _ => none)
  | .putfield _ => (match S with
    | .int x :: .ref c :: S => if T[c]? = some (.inl n) then (if am_isI (am_fty n n2) = true then (if am_isB (am_fty n n2) = true then (if x = 0 ∨ x = 1 then some (nx, L, S, T, ρ, am_us σ c n2 x) else none) else some (nx, L, S, T, ρ, am_us σ c n2 x)) else none) else none
    | .ref x :: .ref c :: S => if T[c]? = some (.inl n) then (if am_isI (am_fty n n2) = true then none else some (nx, L, S, T, am_ur ρ c n2 (.ref x), σ)) else none
    | .null :: .ref c :: S => if T[c]? = some (.inl n) then (if am_isI (am_fty n n2) = true then none else some (nx, L, S, T, am_ur ρ c n2 .null, σ)) else none
    | _ => none)
  | .iaload => (match S with
    | .int x :: .ref c :: S => (match T[c]? with
      | some (.inr (t, m)) => if (t = 0 ∨ t = 9) ∧ ¬ (x < 0 ∨ m ≤ x.toNatClampNeg) then some (nx, L, .int (σ c x.toNatClampNeg) :: S, T, ρ, σ) else none
      | _ => none)
    | _ => none)
  | .baload => (match S with
    | .int x :: .ref c :: S => (match T[c]? with
      | some (.inr (t, m)) => if t = 1 ∧ ¬ (x < 0 ∨ m ≤ x.toNatClampNeg) then some (nx, L, .int (σ c x.toNatClampNeg) :: S, T, ρ, σ) else none
      | _ => none)
    | _ => none)
  | .aaload => (match S with
    | .int x :: .ref c :: S => (match T[c]? with
      | some (.inr (t, m)) => if t = 2 ∧ ¬ (x < 0 ∨ m ≤ x.toNatClampNeg) then some (nx, L, ρ c x.toNatClampNeg :: S, T, ρ, σ) else none
      | _ => none)
    | _ => none)
  | .iastore => (match S with
    | .int y :: .int x :: .ref c :: S => (match T[c]? with
      | some (.inr (t, m)) => if t = 0 ∧ ¬ (x < 0 ∨ m ≤ x.toNatClampNeg) then some (nx, L, S, T, ρ, am_us σ c x.toNatClampNeg y) else none
      | _ => none)
    | _ => none)
  | .bastore => (match S with
    | .int y :: .int x :: .ref c :: S => (match T[c]? with
      | some (.inr (t, m)) => if t = 1 ∧ ¬ (x < 0 ∨ m ≤ x.toNatClampNeg) ∧ (y = 0 ∨ y = 1) then some (nx, L, S, T, ρ, am_us σ c x.toNatClampNeg y) else none
      | _ => none)
    | _ => none)
  | .aastore => (match S with
    | .ref y :: .int x :: .ref c :: S => (match T[c]? with
      | some (.inr (t, m)) => if t = 2 ∧ ¬ (x < 0 ∨ m ≤ x.toNatClampNeg) ∧ T[y]? = some (.inl 2) then some (nx, L, S, T, am_ur ρ c x.toNatClampNeg (.ref y), σ) else none
      | _ => none)
    | _ => none)
  | .arraylength => (match S with
    | .ref c :: S => (match T[c]? with
      | some (.inr (_, m)) => some (nx, L, .int (Int32.ofNat m) :: S, T, ρ, σ)
      | _ => none)
    | _ => none)
  | .new _ => some (nx, L, .ref T.length :: S, T ++ [.inl n], am_zr ρ T.length, am_zs σ T.length)
  | .newarray _ => (match S with
    | .int x :: S => if ¬ x < 0 ∧ x.toNatClampNeg ≤ 100000 then some (nx, L, .ref T.length :: S, T ++ [.inr (n, x.toNatClampNeg)], am_zr ρ T.length, am_zs σ T.length) else none
    | _ => none)
  | .anewarray _ => (match S with
    | .int x :: S => if ¬ x < 0 ∧ x.toNatClampNeg ≤ 100000 then some (nx, L, .ref T.length :: S, T ++ [.inr (2, x.toNatClampNeg)], am_zr ρ T.length, am_zs σ T.length) else none
    | _ => none)
  | _ => none
def am_cat (S : List Value) : Nat := (S.map fun v => v.category).sum
/-- calls that are one step: Object's constructor, Math's three -/
def am_ex4 (i : Instr) (nx n n2 : Nat) (L : am_L) (S : List Value) (X : am_T × (Nat → Nat → Value) × (Nat → Nat → Int32)) : Option am_S := match i with
  | .invokespecial _ => (match S with
    | .ref _ :: S => if n2 = 9 ∧ am_cat S ≤ 8 then some (nx, L, S, X) else none
    | _ => none)
  | .invokestatic _ => (match S with
    | .int y :: S1 => if n2 = 9 then (if n = M_Math_abs then (if am_cat S1 ≤ 8 then some (nx, L, .int (if 0 ≤ y then y else 0 - y) :: S1, X) else none) else (match S1 with
      | .int x :: S => if am_cat S ≤ 8 then (if n = M_Math_max then some (nx, L, .int (if x < y then y else x) :: S, X) else if n = M_Math_min then some (nx, L, .int (if y < x then y else x) :: S, X) else none) else none
      | _ => none)) else none
    | _ => none)
  | _ => none
def am_grp (i : Instr) : Nat := match i with
  | .goto _ => 2
  | .ifCond _ _ => 2
  | .if_icmp _ _ => 2
  | .ifnull _ => 2
  | .ifnonnull _ => 2
  | .tableswitch _ _ _ _ => 2
  | .getfield _ => 3
  | .putfield _ => 3
  | .iaload => 3
  | .baload => 3
  | .aaload => 3
  | .iastore => 3
  | .bastore => 3
  | .aastore => 3
  | .arraylength => 3
  | .new _ => 3
  | .newarray _ => 3
  | .anewarray _ => 3
  | .invokespecial _ => 4
  | .invokestatic _ => 4
  | _ => 1
def am_ex (I : am_I) (st : am_S) : Option am_S := match I, st with
  | (_, i, _, nx, n, n2, v, w), (_, L, S, T, ρ, σ) => (match am_grp i with
    | 1 => am_ex1 i nx n v L S (T, ρ, σ)
    | 2 => am_ex2 i nx n w L S (T, ρ, σ)
    | 3 => am_ex3 i nx n n2 L S T ρ σ
    | _ => am_ex4 i nx n n2 L S (T, ρ, σ))
def am_fetch (k : List am_I) (pc : Nat) : Option am_I := match k with
  | [] => none
  | I :: k => if I.1 = pc then some I else am_fetch k pc
def am_step (k : List am_I) (st : am_S) : Option am_S := match am_fetch k st.1 with
  | some I => am_ex I st
  | none => none
def am_steps (k : List am_I) : Nat → am_S → Option am_S
  | 0, st => some st
  | n + 1, st => match am_step k st with
    | some st' => am_steps k n st'
    | none => none
def am_len (i : Instr) : Nat := match i with
  | .bipush _ => 2
  | .ldc _ => 2
  | .iload _ => 2
  | .lload _ => 2
  | .aload _ => 2
  | .istore _ => 2
  | .lstore _ => 2
  | .astore _ => 2
  | .newarray _ => 2
  | .sipush _ => 3
  | .ldc_w _ => 3
  | .ldc2_w _ => 3
  | .iinc _ _ => 3
  | .goto _ => 3
  | .ifCond _ _ => 3
  | .if_icmp _ _ => 3
  | .ifnull _ => 3
  | .ifnonnull _ => 3
  | .getfield _ => 3
  | .putfield _ => 3
  | .new _ => 3
  | .anewarray _ => 3
  | .invokespecial _ => 3
  | .invokevirtual _ => 3
  | .invokestatic _ => 3
  | _ => 1
/-- an instruction's own numbers agree with its code and with the words -/
def am_own (q : am_M) (pc : Nat) (i : Instr) (n n2 : Nat) (v : Int32) (w : List Nat) : Bool := match i with
  | .iconst x => decide (Int32.ofInt x = v)
  | .bipush x => decide ((Int8.ofInt x).toInt32 = v)
  | .sipush x => decide ((Int16.ofInt x).toInt32 = v)
  | .iinc _ x => decide (Int32.ofInt x = v)
  | .ldc idx => am_KW.any (fun z => z.1 == q.1 && (z.2.1 == idx && z.2.2 == v))
  | .ldc_w idx => am_KW.any (fun z => z.1 == q.1 && (z.2.1 == idx && z.2.2 == v))
  | .ldc2_w idx => am_LW.any (fun z => z.1 == q.1 && (z.2.1 == idx && z.2.2 == n))
  | .goto off => decide ((pc : Int) + off = (n : Int))
  | .ifCond _ off => decide ((pc : Int) + off = (n : Int))
  | .if_icmp _ off => decide ((pc : Int) + off = (n : Int))
  | .ifnull off => decide ((pc : Int) + off = (n : Int))
  | .ifnonnull off => decide ((pc : Int) + off = (n : Int))
  | .tableswitch d _ _ offs => decide ((pc : Int) + d = (n : Int)) && decide (offs.toList.map (fun o => (pc : Int) + o) = w.map (fun g : Nat => (g : Int)))
  | .getfield idx => am_FW.any (fun z => z.1 == q.1 && (z.2.1 == idx && (z.2.2.1 == n && z.2.2.2 == n2))) && (decide (n2 < am_N n) && decide (n < 10))
  | .putfield idx => am_FW.any (fun z => z.1 == q.1 && (z.2.1 == idx && (z.2.2.1 == n && z.2.2.2 == n2))) && (decide (n2 < am_N n) && (decide (n < 10) && (!(am_F n n2).2.2.2 || (q.2.2.2.2.2.2.2 && decide ((am_F n n2).1 = am_cn q.1)))))
  | .new idx => am_CW.any (fun z => z.1 == q.1 && (z.2.1 == idx && z.2.2 == n)) && decide (n < 10)
  | .anewarray idx => am_CW.any (fun z => z.1 == q.1 && (z.2.1 == idx && z.2.2 == 2))
  | .newarray t => decide (newarray.typeOf t = (if n = 0 then FieldType.int else FieldType.boolean)) && decide (n < 2)
  | .invokespecial idx => if n2 = 9 then am_OW.any (fun z => z.1 == q.1 && z.2 == idx) else if n2 = 1 then am_MN.any (fun z => z.1 == q.1 && (z.2.1 == idx && z.2.2 == n)) else am_MW.any (fun z => z.1 == q.1 && (z.2.1 == idx && z.2.2 == n))
  | .invokevirtual idx => am_MW.any (fun z => z.1 == q.1 && (z.2.1 == idx && z.2.2 == n))
  | .invokestatic idx => am_MW.any (fun z => z.1 == q.1 && (z.2.1 == idx && z.2.2 == n))
  | _ => true
def am_isSw (i : Instr) : Bool := match i with
  | .tableswitch _ _ _ _ => true
  | _ => false
def am_chk (q : am_M) (I : am_I) : Bool := match I with
  | (pc, i, len, nx, n, n2, v, w) => decide (decode q.2.2.1 pc = .ok (i, len)) && ((nx == pc + len) && ((am_isSw i || len == am_len i) && am_own q pc i n n2 v w))
end
section
/-! the machine in small beside the machine: what a state is, and that a step is a step -/
def am_ad (b sz c : Nat) : Nat := if c = 0 then b else sz + (c - 1)
def am_v (b sz : Nat) (v : Value) : Value := match v with
  | .ref c => .ref (am_ad b sz c)
  | .int x => .int x
  | .long x => .long x
  | .null => .null
  | .float x => .float x
  | .double x => .double x
  | .retAddr x => .retAddr x
def am_val (ρ : Nat → Nat → Value) (σ : Nat → Nat → Int32) (ci c k : Nat) : Value := if am_isI (am_fty ci k) = true then .int (σ c k) else ρ c k
def am_cell (D : va_G) (DA : Nat → ClassId) (b sz : Nat) (s : State) (ρ : Nat → Nat → Value) (σ : Nat → Nat → Int32) (H : Heap) (c : Nat) (x : Nat ⊕ (Nat × Nat)) : Prop := match x with
  | .inl ci => 0 < c ∧ ∃ q : vw_C, am_cls[ci]? = some q ∧ t_OB (am_ad b sz c) (D.1 ci) q.2.2 (D.2 ci) H (fun k => am_v b sz (am_val ρ σ ci c k))
  | .inr (t, n) => (t = 9 ∧ c = 0 ∧ va_X b n (σ 0) s H) ∨ (t < 2 ∧ 0 < c ∧ H[am_ad b sz c]? = some (arrV (DA t) n (fun k => .int (σ c k)))) ∨ (t = 2 ∧ 0 < c ∧ H[am_ad b sz c]? = some (arrV (DA 2) n (fun k => am_v b sz (ρ c k))))
def am_ok (D : va_G) (DA : Nat → ClassId) (b sz : Nat) (s : State) (X : am_T × (Nat → Nat → Value) × (Nat → Nat → Int32)) (H : Heap) : Prop :=
  b < sz ∧ (∃ n, X.1[0]? = some (.inr (9, n))) ∧ H.size + 1 = sz + X.1.length ∧ ∀ (c : Nat) (x : Nat ⊕ (Nat × Nat)), X.1[c]? = some x → am_cell D DA b sz s X.2.1 X.2.2 H c x
def am_tys (DA : Nat → ClassId) : List (ClassId × FieldType) := [(DA 0, .int), (DA 1, .boolean), (DA 2, .object "BoxNest$Box")]
def am_K (D : va_G) (DA : Nat → ClassId) (s : State) : Prop := va_K D am_cls (am_tys DA) s ∧ va_AO "BoxNest$Box" s ∧ ∀ q ∈ am_MN, va_Nw (.methodLinkNest (am_cn q.1) q.2.1 (am_y q.2.2) "BoxNest") s
def am_At (D : va_G) (DA : Nat → ClassId) (q : am_M) (p : Program) (s : State) (m : MethodId) (args : Array Value) (meth : Method) (c : Code) : Prop :=
  p.tables.exec = Jvm.exec ∧ c.code = q.2.2.1 ∧ c.maxLocals = q.2.2.2.1 ∧ s.vm.findClass (am_cn q.1) = some m.cls ∧ (∀ w ∈ am_tb, w.before args s = true) ∧ am_K D DA s ∧ (q.2.2.2.2.2.2.2 = true → meth.name = "<init>")
def am_Ls (b sz : Nat) (ls : Array Slot) (nL : Nat) (L : am_L) : Prop := L.length = nL ∧ ls.size = nL ∧ lv_wf ls ∧ ∀ (i : Nat) (v : Value), L[i]? = some (some v) → ls[i]? = some (.val (am_v b sz v))
/-- how many fields and elements the cells have -/
def am_w1 (x : Nat ⊕ (Nat × Nat)) : Nat := match x with
  | .inl ci => am_N ci
  | .inr q => q.2
def am_ns (T : am_T) : Nat := (T.map am_w1).sum
/-- from one state of the machine in small to another, whatever is below -/
def am_St (l : Launch) (D : va_G) (DA : Nat → ClassId) (b sz : Nat) (q : am_M) (st st' : am_S) : Prop :=
  st.2.2.2.1.length ≤ st'.2.2.2.1.length ∧ am_ns st.2.2.2.1 ≤ am_ns st'.2.2.2.1 ∧
  ∀ (p : Program) (e : Env) (R : Room) (s : State) (m : MethodId) (args : Array Value) (below : List Frame) (meth : Method) (c : Code) (Q : State → Prop) (ls : Array Slot) (H : Heap) (locs : List Loc) (cells slots : Nat),
    am_At D DA q p s m args meth c → 1 ≤ R.frames → 64 ≤ R.locals → cells + (st'.2.2.2.1.length - st.2.2.2.1.length) ≤ R.cells → slots + (am_ns st'.2.2.2.1 - am_ns st.2.2.2.1) ≤ R.slots →
    am_Ls b sz ls q.2.2.2.1 st.2.1 → am_ok D DA b sz s st.2.2.2 H → (∀ z ∈ locs, sz ≤ z.base) →
    (∀ (ls' : Array Slot) (H' : Heap) (locs' : List Loc), am_Ls b sz ls' q.2.2.2.1 st'.2.1 → am_ok D DA b sz s st'.2.2.2 H' → (∀ z ∈ locs', sz ≤ z.base) →
      W p l e R s m args below meth c H' locs' (cells + (st'.2.2.2.1.length - st.2.2.2.1.length)) (slots + (am_ns st'.2.2.2.1 - am_ns st.2.2.2.1)) Q (F0 m st'.1 ls' (st'.2.2.1.map (am_v b sz)))) →
    W p l e R s m args below meth c H locs cells slots Q (F0 m st.1 ls (st.2.2.1.map (am_v b sz)))
section AMS
variable {l : Launch} {D : va_G} {DA : Nat → ClassId} {b sz : Nat} {q : am_M}
theorem am_v_cat (v : Value) : (am_v b sz v).category = v.category := by cases v <;> rfl
theorem am_v_c1 {v : Value} (h : am_c1 v = true) : (am_v b sz v).category = 1 := by cases v <;> first | rfl | (cases h)
theorem am_St.trans {s1 s2 s3 : am_S} (h1 : am_St l D DA b sz q s1 s2) (h2 : am_St l D DA b sz q s2 s3) : am_St l D DA b sz q s1 s3 := by
  obtain ⟨a1, a2, a3⟩ := h1
  obtain ⟨b1, b2, b3⟩ := h2
  refine ⟨Nat.le_trans a1 b1, Nat.le_trans a2 b2, ?_⟩
  intro p e R s m args below meth c Q ls H locs cells slots hA hf hl hc hs hL hO hlo k
  refine a3 p e R s m args below meth c Q ls H locs cells slots hA hf hl (by omega) (by omega) hL hO hlo ?_
  intro ls1 H1 locs1 hL1 hO1 hlo1
  refine b3 p e R s m args below meth c Q ls1 H1 locs1 _ _ hA hf hl (by omega) (by omega) hL1 hO1 hlo1 ?_
  intro ls2 H2 locs2 hL2 hO2 hlo2
  have := k ls2 H2 locs2 hL2 hO2 hlo2
  have e1 : cells + (s2.2.2.2.1.length - s1.2.2.2.1.length) + (s3.2.2.2.1.length - s2.2.2.2.1.length) = cells + (s3.2.2.2.1.length - s1.2.2.2.1.length) := by omega
  have e2 : slots + (am_ns s2.2.2.2.1 - am_ns s1.2.2.2.1) + (am_ns s3.2.2.2.1 - am_ns s2.2.2.2.1) = slots + (am_ns s3.2.2.2.1 - am_ns s1.2.2.2.1) := by omega
  rw [e1, e2]
  exact this
/-- a step that changes neither locals nor cells -/
theorem am_st_p {pc pc' : Nat} {L : am_L} {S S' : List Value} {X : am_T × (Nat → Nat → Value) × (Nat → Nat → Int32)}
    (h : ∀ (p : Program) (e : Env) (R : Room) (s : State) (m : MethodId) (args : Array Value) (below : List Frame) (meth : Method) (c : Code) (Q : State → Prop) (ls : Array Slot) (H : Heap) (locs : List Loc) (cells slots : Nat),
      am_At D DA q p s m args meth c → 1 ≤ R.frames → 64 ≤ R.locals → cells ≤ R.cells → slots ≤ R.slots → am_Ls b sz ls q.2.2.2.1 L → am_ok D DA b sz s X H →
      W p l e R s m args below meth c H locs cells slots Q (F0 m pc' ls (S'.map (am_v b sz))) → W p l e R s m args below meth c H locs cells slots Q (F0 m pc ls (S.map (am_v b sz)))) :
    am_St l D DA b sz q (pc, L, S, X) (pc', L, S', X) := by
  refine ⟨Nat.le_refl _, Nat.le_refl _, ?_⟩
  intro p e R s m args below meth c Q ls H locs cells slots hA hf hl hc hs hL hO hlo k
  have := k ls H locs hL hO hlo
  simp only [Nat.sub_self, Nat.add_zero] at this hc hs
  exact h p e R s m args below meth c Q ls H locs cells slots hA hf hl hc hs hL hO this
/-- a step that changes locals alone -/
theorem am_st_l {pc pc' : Nat} {L L' : am_L} {S S' : List Value} {X : am_T × (Nat → Nat → Value) × (Nat → Nat → Int32)}
    (h : ∀ (p : Program) (e : Env) (R : Room) (s : State) (m : MethodId) (args : Array Value) (below : List Frame) (meth : Method) (c : Code) (Q : State → Prop) (ls : Array Slot) (H : Heap) (locs : List Loc) (cells slots : Nat),
      am_At D DA q p s m args meth c → am_Ls b sz ls q.2.2.2.1 L →
      (∀ ls' : Array Slot, am_Ls b sz ls' q.2.2.2.1 L' → W p l e R s m args below meth c H locs cells slots Q (F0 m pc' ls' (S'.map (am_v b sz)))) → W p l e R s m args below meth c H locs cells slots Q (F0 m pc ls (S.map (am_v b sz)))) :
    am_St l D DA b sz q (pc, L, S, X) (pc', L', S', X) := by
  refine ⟨Nat.le_refl _, Nat.le_refl _, ?_⟩
  intro p e R s m args below meth c Q ls H locs cells slots hA hf hl hc hs hL hO hlo k
  refine h p e R s m args below meth c Q ls H locs cells slots hA hL (fun ls' hL' => ?_)
  have := k ls' H locs hL' hO hlo
  simp only [Nat.sub_self, Nat.add_zero] at this
  exact this
/-- a step that changes cells, and makes none -/
theorem am_st_h {pc pc' : Nat} {L : am_L} {S S' : List Value} {T : am_T} {ρ ρ' : Nat → Nat → Value} {σ σ' : Nat → Nat → Int32}
    (h : ∀ (p : Program) (e : Env) (R : Room) (s : State) (m : MethodId) (args : Array Value) (below : List Frame) (meth : Method) (c : Code) (Q : State → Prop) (ls : Array Slot) (H : Heap) (locs : List Loc) (cells slots : Nat),
      am_At D DA q p s m args meth c → am_ok D DA b sz s (T, ρ, σ) H → (∀ z ∈ locs, sz ≤ z.base) →
      (∀ (H' : Heap) (locs' : List Loc), am_ok D DA b sz s (T, ρ', σ') H' → (∀ z ∈ locs', sz ≤ z.base) → W p l e R s m args below meth c H' locs' cells slots Q (F0 m pc' ls (S'.map (am_v b sz)))) → W p l e R s m args below meth c H locs cells slots Q (F0 m pc ls (S.map (am_v b sz)))) :
    am_St l D DA b sz q (pc, L, S, T, ρ, σ) (pc', L, S', T, ρ', σ') := by
  refine ⟨Nat.le_refl _, Nat.le_refl _, ?_⟩
  intro p e R s m args below meth c Q ls H locs cells slots hA hf hl hc hs hL hO hlo k
  refine h p e R s m args below meth c Q ls H locs cells slots hA hO hlo (fun H' locs' hO' hlo' => ?_)
  have := k ls H' locs' hL hO' hlo'
  simp only [Nat.sub_self, Nat.add_zero] at this
  exact this
theorem am_Ls.at {ls : Array Slot} {nL i : Nat} {L : am_L} {v : Value} (h : am_Ls b sz ls nL L) (hi : L[i]? = some (some v)) : ls[i]? = some (.val (am_v b sz v)) := h.2.2.2 i v hi
/-- the listed values of the locals -/
def am_lst (b sz : Nat) (L : am_L) : List (Nat × Value) := (List.range L.length).filterMap (fun i => match L[i]? with
  | some (some v) => some (i, am_v b sz v)
  | _ => none)
theorem am_lst_mem {L : am_L} {i : Nat} {w : Value} : (i, w) ∈ am_lst b sz L ↔ ∃ v, L[i]? = some (some v) ∧ w = am_v b sz v := by
  unfold am_lst
  rw [List.mem_filterMap]
  constructor
  · rintro ⟨j, -, hj⟩
    split at hj
    · rename_i v hv
      cases hj
      exact ⟨v, hv, rfl⟩
    · cases hj
  · rintro ⟨v, hv, rfl⟩
    refine ⟨i, List.mem_range.mpr (List.getElem?_eq_some_iff.mp hv).1, ?_⟩
    rw [hv]
theorem am_Ls.has {ls : Array Slot} {nL : Nat} {L : am_L} (h : am_Ls b sz ls nL L) : lv_has ls nL (am_lst b sz L) := by
  refine ⟨h.2.1, h.2.2.1, fun z hz => ?_⟩
  obtain ⟨i, w⟩ := z
  obtain ⟨v, hv, rfl⟩ := am_lst_mem.mp hz
  exact h.2.2.2 i v hv
theorem am_nl {L : am_L} {i j : Nat} {x : Value} (hn : ¬ (i != 0 && am_isL L[i - 1]?) = true) (hj : j + 1 = i) (hx : L[j]? = some (some x)) : x.category ≠ 2 := by
  subst hj
  simp only [Nat.add_sub_cancel, hx] at hn
  cases x <;> first | (simp [Value.category]; done) | (exfalso; exact hn (by simp [am_isL]))
theorem am_st1_spec {L L' : am_L} {i : Nat} {v : Value} (h : am_st1 L i v = some L') : i < L.length ∧ L' = L.set i (some v) ∧ ∀ (j : Nat) (x : Value), j + 1 = i → L[j]? = some (some x) → x.category ≠ 2 := by
  unfold am_st1 at h
  split at h
  · rename_i hi
    split at h
    · cases h
    · rename_i hn
      cases h
      exact ⟨hi, rfl, fun j x hj hx => am_nl hn hj hx⟩
  · cases h
theorem am_st2_spec {L L' : am_L} {i : Nat} {v : Value} (h : am_st2 L i v = some L') : i + 1 < L.length ∧ L' = (L.set i (some v)).set (i + 1) none ∧ ∀ (j : Nat) (x : Value), j + 1 = i → L[j]? = some (some x) → x.category ≠ 2 := by
  unfold am_st2 at h
  split at h
  · rename_i hi
    split at h
    · cases h
    · rename_i hn
      cases h
      exact ⟨hi, rfl, fun j x hj hx => am_nl hn hj hx⟩
  · cases h
theorem am_Ls.of1 {ls : Array Slot} {nL i : Nat} {L L' : am_L} {v : Value} (hL : L.length = nL) (hs : am_st1 L i v = some L') (h : lv_has ls nL ((i, am_v b sz v) :: (am_lst b sz L).filter (fun q => !(q.1 == i) && !(q.1 + 1 == i && q.2.category == 2)))) : am_Ls b sz ls nL L' := by
  obtain ⟨hi, rfl, hn⟩ := am_st1_spec hs
  refine ⟨by rw [List.length_set]; exact hL, h.1, h.2.1, fun j w hw => ?_⟩
  by_cases hj : j = i
  · subst hj
    rw [List.getElem?_set_self hi] at hw
    cases hw
    exact h.2.2 _ List.mem_cons_self
  · rw [List.getElem?_set_ne (Ne.symm hj)] at hw
    refine h.2.2 (j, am_v b sz w) (List.mem_cons_of_mem _ (List.mem_filter.mpr ⟨am_lst_mem.mpr ⟨w, hw, rfl⟩, ?_⟩))
    have h1 : (j == i) = false := by simpa using hj
    by_cases hj2 : j + 1 = i
    · have h2 := hn j w hj2 hw
      have h3 : ((am_v b sz w).category == 2) = false := by rw [am_v_cat]; simpa using h2
      simp [h1, h3]
    · have h3 : (j + 1 == i) = false := by simpa using hj2
      simp [h1, h3]
theorem am_Ls.of2 {ls : Array Slot} {nL i : Nat} {L L' : am_L} {v : Value} (hL : L.length = nL) (hs : am_st2 L i v = some L') (h : lv_has ls nL ((i, am_v b sz v) :: (am_lst b sz L).filter (fun q => !(q.1 == i) && (!(q.1 == i + 1) && !(q.1 + 1 == i && q.2.category == 2))))) : am_Ls b sz ls nL L' := by
  obtain ⟨hi, rfl, hn⟩ := am_st2_spec hs
  refine ⟨by rw [List.length_set, List.length_set]; exact hL, h.1, h.2.1, fun j w hw => ?_⟩
  by_cases hk : j = i + 1
  · subst hk
    rw [List.getElem?_set_self (by rw [List.length_set]; exact hi)] at hw
    cases hw
  · rw [List.getElem?_set_ne (Ne.symm hk)] at hw
    by_cases hj : j = i
    · subst hj
      rw [List.getElem?_set_self (by omega)] at hw
      cases hw
      exact h.2.2 _ List.mem_cons_self
    · rw [List.getElem?_set_ne (Ne.symm hj)] at hw
      refine h.2.2 (j, am_v b sz w) (List.mem_cons_of_mem _ (List.mem_filter.mpr ⟨am_lst_mem.mpr ⟨w, hw, rfl⟩, ?_⟩))
      have h1 : (j == i) = false := by simpa using hj
      have h4 : (j == i + 1) = false := by simpa using hk
      by_cases hj2 : j + 1 = i
      · have h2 := hn j w hj2 hw
        have h3 : ((am_v b sz w).category == 2) = false := by rw [am_v_cat]; simpa using h2
        simp [h1, h3, h4]
      · have h3 : (j + 1 == i) = false := by simpa using hj2
        simp [h1, h3, h4]
theorem am_lst_at {L : am_L} {i : Nat} {v : Value} (h : L[i]? = some (some v)) : ∃ k : Nat, (am_lst b sz L)[k]? = some (i, am_v b sz v) := List.getElem?_of_mem (am_lst_mem.mpr ⟨v, h, rfl⟩)
end AMS
end
section
/-! group 1: no cell is touched -/
section AMS
variable {l : Launch} {D : va_G} {DA : Nat → ClassId} {b sz : Nat} {q : am_M}
theorem am_anyK {α : Type} {xs : List α} {f : α → Bool} (h : xs.any f = true) : ∃ x, x ∈ xs ∧ f x = true := List.any_eq_true.mp h
theorem am_ldw {idx : Nat} {v : Int32} (h : am_KW.any (fun z => z.1 == q.1 && (z.2.1 == idx && z.2.2 == v)) = true) : Cond.constant (am_cn q.1) idx v ∈ am_tb := by
  obtain ⟨z, hz, h⟩ := am_anyK h
  simp only [Bool.and_eq_true, beq_iff_eq] at h
  obtain ⟨h1, h2, h3⟩ := h
  subst h2; subst h3
  rw [← h1]
  exact am_tb_in (am_mem am_KWe _ (List.mem_map.mpr ⟨z, hz, rfl⟩)) rfl
theorem am_ldw2 {idx n : Nat} (h : am_LW.any (fun z => z.1 == q.1 && (z.2.1 == idx && z.2.2 == n)) = true) : Cond.constantLong (am_cn q.1) idx (Int64.ofNat n) ∈ am_tb := by
  obtain ⟨z, hz, h⟩ := am_anyK h
  simp only [Bool.and_eq_true, beq_iff_eq] at h
  obtain ⟨h1, h2, h3⟩ := h
  subst h2; subst h3
  rw [← h1]
  exact am_tb_in (am_mem am_LWe _ (List.mem_map.mpr ⟨z, hz, rfl⟩)) rfl
theorem am_x_iconst {pc n : Nat} {v : Int32} {x : Int} {L : am_L} {S : List Value} {X : am_T × (Nat → Nat → Value) × (Nat → Nat → Int32)} {st : am_S} (hd : decode q.2.2.1 pc = .ok (.iconst x, 1)) (ho : Int32.ofInt x = v) (h : am_ex1 (.iconst x) (pc + 1) n v L S X = some st) : am_St l D DA b sz q (pc, L, S, X) st := by
  cases h
  exact am_st_p (by
    intro p e R s m args below meth c Q ls H locs cells slots hA hf hl hc hs hL hO k
    obtain ⟨hx, hb, hml, hown, hts, hK, hin⟩ := hA
    exact lv_iconst hx hb hd ho k)
theorem am_x_bipush {pc n : Nat} {v : Int32} {x : Int} {L : am_L} {S : List Value} {X : am_T × (Nat → Nat → Value) × (Nat → Nat → Int32)} {st : am_S} (hd : decode q.2.2.1 pc = .ok (.bipush x, 2)) (ho : (Int8.ofInt x).toInt32 = v) (h : am_ex1 (.bipush x) (pc + 2) n v L S X = some st) : am_St l D DA b sz q (pc, L, S, X) st := by
  cases h
  exact am_st_p (by
    intro p e R s m args below meth c Q ls H locs cells slots hA hf hl hc hs hL hO k
    obtain ⟨hx, hb, hml, hown, hts, hK, hin⟩ := hA
    exact lv_bipush hx hb hd ho k)
theorem am_x_sipush {pc n : Nat} {v : Int32} {x : Int} {L : am_L} {S : List Value} {X : am_T × (Nat → Nat → Value) × (Nat → Nat → Int32)} {st : am_S} (hd : decode q.2.2.1 pc = .ok (.sipush x, 3)) (ho : (Int16.ofInt x).toInt32 = v) (h : am_ex1 (.sipush x) (pc + 3) n v L S X = some st) : am_St l D DA b sz q (pc, L, S, X) st := by
  cases h
  exact am_st_p (by
    intro p e R s m args below meth c Q ls H locs cells slots hA hf hl hc hs hL hO k
    obtain ⟨hx, hb, hml, hown, hts, hK, hin⟩ := hA
    exact lv_sipush hx hb hd ho k)
theorem am_x_ldc {pc n : Nat} {v : Int32} {x : Nat} {L : am_L} {S : List Value} {X : am_T × (Nat → Nat → Value) × (Nat → Nat → Int32)} {st : am_S} (hd : decode q.2.2.1 pc = .ok (.ldc x, 2)) (ho : am_KW.any (fun z => z.1 == q.1 && (z.2.1 == x && z.2.2 == v)) = true) (h : am_ex1 (.ldc x) (pc + 2) n v L S X = some st) : am_St l D DA b sz q (pc, L, S, X) st := by
  cases h
  exact am_st_p (by
    intro p e R s m args below meth c Q ls H locs cells slots hA hf hl hc hs hL hO k
    obtain ⟨hx, hb, hml, hown, hts, hK, hin⟩ := hA
    exact lv_ldc hx hb hown (hts _ (am_ldw ho)) hd k)
theorem am_x_ldc_w {pc n : Nat} {v : Int32} {x : Nat} {L : am_L} {S : List Value} {X : am_T × (Nat → Nat → Value) × (Nat → Nat → Int32)} {st : am_S} (hd : decode q.2.2.1 pc = .ok (.ldc_w x, 3)) (ho : am_KW.any (fun z => z.1 == q.1 && (z.2.1 == x && z.2.2 == v)) = true) (h : am_ex1 (.ldc_w x) (pc + 3) n v L S X = some st) : am_St l D DA b sz q (pc, L, S, X) st := by
  cases h
  exact am_st_p (by
    intro p e R s m args below meth c Q ls H locs cells slots hA hf hl hc hs hL hO k
    obtain ⟨hx, hb, hml, hown, hts, hK, hin⟩ := hA
    exact lv_ldcw hx hb hown (hts _ (am_ldw ho)) hd k)
theorem am_x_ldc2_w {pc n : Nat} {v : Int32} {x : Nat} {L : am_L} {S : List Value} {X : am_T × (Nat → Nat → Value) × (Nat → Nat → Int32)} {st : am_S} (hd : decode q.2.2.1 pc = .ok (.ldc2_w x, 3)) (ho : am_LW.any (fun z => z.1 == q.1 && (z.2.1 == x && z.2.2 == n)) = true) (h : am_ex1 (.ldc2_w x) (pc + 3) n v L S X = some st) : am_St l D DA b sz q (pc, L, S, X) st := by
  cases h
  exact am_st_p (by
    intro p e R s m args below meth c Q ls H locs cells slots hA hf hl hc hs hL hO k
    obtain ⟨hx, hb, hml, hown, hts, hK, hin⟩ := hA
    exact lv_ldc2 hx hb hown (hts _ (am_ldw2 ho)) hd k)
theorem am_x_lconst {pc n : Nat} {v : Int32} {x : Fin 2} {L : am_L} {S : List Value} {X : am_T × (Nat → Nat → Value) × (Nat → Nat → Int32)} {st : am_S} (hd : decode q.2.2.1 pc = .ok (.lconst x, 1)) (h : am_ex1 (.lconst x) (pc + 1) n v L S X = some st) : am_St l D DA b sz q (pc, L, S, X) st := by
  cases h
  exact am_st_p (by
    intro p e R s m args below meth c Q ls H locs cells slots hA hf hl hc hs hL hO k
    obtain ⟨hx, hb, hml, hown, hts, hK, hin⟩ := hA
    exact lv_lconst hx hb hd rfl k)
theorem am_x_aconst_null {pc n : Nat} {v : Int32} {L : am_L} {S : List Value} {X : am_T × (Nat → Nat → Value) × (Nat → Nat → Int32)} {st : am_S} (hd : decode q.2.2.1 pc = .ok (.aconst_null, 1)) (h : am_ex1 (.aconst_null) (pc + 1) n v L S X = some st) : am_St l D DA b sz q (pc, L, S, X) st := by
  cases h
  exact am_st_p (by
    intro p e R s m args below meth c Q ls H locs cells slots hA hf hl hc hs hL hO k
    obtain ⟨hx, hb, hml, hown, hts, hK, hin⟩ := hA
    exact lv_null hx hb hd k)
theorem am_x_iload_n {pc n : Nat} {v : Int32} {x : Fin 4} {L : am_L} {S : List Value} {X : am_T × (Nat → Nat → Value) × (Nat → Nat → Int32)} {st : am_S} (hd : decode q.2.2.1 pc = .ok (.iload_n x, 1)) (h : am_ex1 (.iload_n x) (pc + 1) n v L S X = some st) : am_St l D DA b sz q (pc, L, S, X) st := by
  simp only [am_ex1, am_ldI] at h
  split at h
  · rename_i y hv
    cases h
    exact am_st_p (by
      intro p e R s m args below meth c Q ls H locs cells slots hA hf hl hc hs hL hO k
      obtain ⟨hx, hb, hml, hown, hts, hK, hin⟩ := hA
      exact lv_iload_n hx hb hd rfl (hL.at hv) k)
  · cases h
theorem am_x_iload {pc n : Nat} {v : Int32} {x : Nat} {L : am_L} {S : List Value} {X : am_T × (Nat → Nat → Value) × (Nat → Nat → Int32)} {st : am_S} (hd : decode q.2.2.1 pc = .ok (.iload x, 2)) (h : am_ex1 (.iload x) (pc + 2) n v L S X = some st) : am_St l D DA b sz q (pc, L, S, X) st := by
  simp only [am_ex1, am_ldI] at h
  split at h
  · rename_i y hv
    cases h
    exact am_st_p (by
      intro p e R s m args below meth c Q ls H locs cells slots hA hf hl hc hs hL hO k
      obtain ⟨hx, hb, hml, hown, hts, hK, hin⟩ := hA
      exact lv_iload hx hb hd (hL.at hv) k)
  · cases h
theorem am_x_lload_n {pc n : Nat} {v : Int32} {x : Fin 4} {L : am_L} {S : List Value} {X : am_T × (Nat → Nat → Value) × (Nat → Nat → Int32)} {st : am_S} (hd : decode q.2.2.1 pc = .ok (.lload_n x, 1)) (h : am_ex1 (.lload_n x) (pc + 1) n v L S X = some st) : am_St l D DA b sz q (pc, L, S, X) st := by
  simp only [am_ex1, am_ldL] at h
  split at h
  · rename_i y hv
    cases h
    exact am_st_p (by
      intro p e R s m args below meth c Q ls H locs cells slots hA hf hl hc hs hL hO k
      obtain ⟨hx, hb, hml, hown, hts, hK, hin⟩ := hA
      exact lv_lload_n hx hb hd rfl (hL.at hv) k)
  · cases h
theorem am_x_lload {pc n : Nat} {v : Int32} {x : Nat} {L : am_L} {S : List Value} {X : am_T × (Nat → Nat → Value) × (Nat → Nat → Int32)} {st : am_S} (hd : decode q.2.2.1 pc = .ok (.lload x, 2)) (h : am_ex1 (.lload x) (pc + 2) n v L S X = some st) : am_St l D DA b sz q (pc, L, S, X) st := by
  simp only [am_ex1, am_ldL] at h
  split at h
  · rename_i y hv
    cases h
    exact am_st_p (by
      intro p e R s m args below meth c Q ls H locs cells slots hA hf hl hc hs hL hO k
      obtain ⟨hx, hb, hml, hown, hts, hK, hin⟩ := hA
      exact lv_lload hx hb hd (hL.at hv) k)
  · cases h
theorem am_x_aload_n {pc n : Nat} {v : Int32} {x : Fin 4} {L : am_L} {S : List Value} {X : am_T × (Nat → Nat → Value) × (Nat → Nat → Int32)} {st : am_S} (hd : decode q.2.2.1 pc = .ok (.aload_n x, 1)) (h : am_ex1 (.aload_n x) (pc + 1) n v L S X = some st) : am_St l D DA b sz q (pc, L, S, X) st := by
  simp only [am_ex1, am_ldA] at h
  split at h
  · rename_i y hv
    cases h
    exact am_st_p (by
      intro p e R s m args below meth c Q ls H locs cells slots hA hf hl hc hs hL hO k
      obtain ⟨hx, hb, hml, hown, hts, hK, hin⟩ := hA
      exact lv_aload_n hx hb hd rfl (hL.at hv) k)
  · rename_i hv
    cases h
    exact am_st_p (by
      intro p e R s m args below meth c Q ls H locs cells slots hA hf hl hc hs hL hO k
      obtain ⟨hx, hb, hml, hown, hts, hK, hin⟩ := hA
      exact lv_aload_nN hx hb hd rfl (hL.at hv) k)
  · cases h
theorem am_x_aload {pc n : Nat} {v : Int32} {x : Nat} {L : am_L} {S : List Value} {X : am_T × (Nat → Nat → Value) × (Nat → Nat → Int32)} {st : am_S} (hd : decode q.2.2.1 pc = .ok (.aload x, 2)) (h : am_ex1 (.aload x) (pc + 2) n v L S X = some st) : am_St l D DA b sz q (pc, L, S, X) st := by
  simp only [am_ex1, am_ldA] at h
  split at h
  · rename_i y hv
    cases h
    exact am_st_p (by
      intro p e R s m args below meth c Q ls H locs cells slots hA hf hl hc hs hL hO k
      obtain ⟨hx, hb, hml, hown, hts, hK, hin⟩ := hA
      exact lv_aload hx hb hd (hL.at hv) k)
  · rename_i hv
    cases h
    exact am_st_p (by
      intro p e R s m args below meth c Q ls H locs cells slots hA hf hl hc hs hL hO k
      obtain ⟨hx, hb, hml, hown, hts, hK, hin⟩ := hA
      exact lv_aloadN hx hb hd (hL.at hv) k)
  · cases h
theorem am_x_istore_n {pc n : Nat} {v : Int32} {x : Fin 4} {L : am_L} {S : List Value} {X : am_T × (Nat → Nat → Value) × (Nat → Nat → Int32)} {st : am_S} (hd : decode q.2.2.1 pc = .ok (.istore_n x, 1)) (h : am_ex1 (.istore_n x) (pc + 1) n v L S X = some st) : am_St l D DA b sz q (pc, L, S, X) st := by
  simp only [am_ex1, am_stI] at h
  split at h
  · split at h
    · rename_i L2 hv
      cases h
      exact am_st_l (by
        intro p e R s m args below meth c Q ls H locs cells slots hA hL k
        obtain ⟨hx, hb, hml, hown, hts, hK, hin⟩ := hA
        exact lv_istore_n hx hb hd rfl hL.has (by rw [← hL.1]; exact (am_st1_spec hv).1) rfl (fun ls2 h2 => k ls2 (am_Ls.of1 hL.1 hv h2)))
    · cases h
  · cases h
theorem am_x_istore {pc n : Nat} {v : Int32} {x : Nat} {L : am_L} {S : List Value} {X : am_T × (Nat → Nat → Value) × (Nat → Nat → Int32)} {st : am_S} (hd : decode q.2.2.1 pc = .ok (.istore x, 2)) (h : am_ex1 (.istore x) (pc + 2) n v L S X = some st) : am_St l D DA b sz q (pc, L, S, X) st := by
  simp only [am_ex1, am_stI] at h
  split at h
  · split at h
    · rename_i L2 hv
      cases h
      exact am_st_l (by
        intro p e R s m args below meth c Q ls H locs cells slots hA hL k
        obtain ⟨hx, hb, hml, hown, hts, hK, hin⟩ := hA
        exact lv_istore hx hb hd hL.has (by rw [← hL.1]; exact (am_st1_spec hv).1) rfl (fun ls2 h2 => k ls2 (am_Ls.of1 hL.1 hv h2)))
    · cases h
  · cases h
theorem am_x_lstore_n {pc n : Nat} {v : Int32} {x : Fin 4} {L : am_L} {S : List Value} {X : am_T × (Nat → Nat → Value) × (Nat → Nat → Int32)} {st : am_S} (hd : decode q.2.2.1 pc = .ok (.lstore_n x, 1)) (h : am_ex1 (.lstore_n x) (pc + 1) n v L S X = some st) : am_St l D DA b sz q (pc, L, S, X) st := by
  simp only [am_ex1, am_stL] at h
  split at h
  · split at h
    · rename_i L2 hv
      cases h
      exact am_st_l (by
        intro p e R s m args below meth c Q ls H locs cells slots hA hL k
        obtain ⟨hx, hb, hml, hown, hts, hK, hin⟩ := hA
        exact lv_lstore_n hx hb hd rfl hL.has (by rw [← hL.1]; exact (am_st2_spec hv).1) rfl (fun ls2 h2 => k ls2 (am_Ls.of2 hL.1 hv h2)))
    · cases h
  · cases h
theorem am_x_lstore {pc n : Nat} {v : Int32} {x : Nat} {L : am_L} {S : List Value} {X : am_T × (Nat → Nat → Value) × (Nat → Nat → Int32)} {st : am_S} (hd : decode q.2.2.1 pc = .ok (.lstore x, 2)) (h : am_ex1 (.lstore x) (pc + 2) n v L S X = some st) : am_St l D DA b sz q (pc, L, S, X) st := by
  simp only [am_ex1, am_stL] at h
  split at h
  · split at h
    · rename_i L2 hv
      cases h
      exact am_st_l (by
        intro p e R s m args below meth c Q ls H locs cells slots hA hL k
        obtain ⟨hx, hb, hml, hown, hts, hK, hin⟩ := hA
        exact lv_lstore hx hb hd hL.has (by rw [← hL.1]; exact (am_st2_spec hv).1) rfl (fun ls2 h2 => k ls2 (am_Ls.of2 hL.1 hv h2)))
    · cases h
  · cases h
theorem am_x_astore_n {pc n : Nat} {v : Int32} {x : Fin 4} {L : am_L} {S : List Value} {X : am_T × (Nat → Nat → Value) × (Nat → Nat → Int32)} {st : am_S} (hd : decode q.2.2.1 pc = .ok (.astore_n x, 1)) (h : am_ex1 (.astore_n x) (pc + 1) n v L S X = some st) : am_St l D DA b sz q (pc, L, S, X) st := by
  simp only [am_ex1, am_stA] at h
  split at h
  · split at h
    · rename_i L2 hv
      cases h
      exact am_st_l (by
        intro p e R s m args below meth c Q ls H locs cells slots hA hL k
        obtain ⟨hx, hb, hml, hown, hts, hK, hin⟩ := hA
        exact lv_astore_n hx hb hd rfl hL.has (by rw [← hL.1]; exact (am_st1_spec hv).1) rfl (fun ls2 h2 => k ls2 (am_Ls.of1 hL.1 hv h2)))
    · cases h
  · split at h
    · rename_i L2 hv
      cases h
      exact am_st_l (by
        intro p e R s m args below meth c Q ls H locs cells slots hA hL k
        obtain ⟨hx, hb, hml, hown, hts, hK, hin⟩ := hA
        exact lv_astore_nN hx hb hd rfl hL.has (by rw [← hL.1]; exact (am_st1_spec hv).1) rfl (fun ls2 h2 => k ls2 (am_Ls.of1 hL.1 hv h2)))
    · cases h
  · cases h
theorem am_x_astore {pc n : Nat} {v : Int32} {x : Nat} {L : am_L} {S : List Value} {X : am_T × (Nat → Nat → Value) × (Nat → Nat → Int32)} {st : am_S} (hd : decode q.2.2.1 pc = .ok (.astore x, 2)) (h : am_ex1 (.astore x) (pc + 2) n v L S X = some st) : am_St l D DA b sz q (pc, L, S, X) st := by
  simp only [am_ex1, am_stA] at h
  split at h
  · split at h
    · rename_i L2 hv
      cases h
      exact am_st_l (by
        intro p e R s m args below meth c Q ls H locs cells slots hA hL k
        obtain ⟨hx, hb, hml, hown, hts, hK, hin⟩ := hA
        exact lv_astore hx hb hd hL.has (by rw [← hL.1]; exact (am_st1_spec hv).1) rfl (fun ls2 h2 => k ls2 (am_Ls.of1 hL.1 hv h2)))
    · cases h
  · split at h
    · rename_i L2 hv
      cases h
      exact am_st_l (by
        intro p e R s m args below meth c Q ls H locs cells slots hA hL k
        obtain ⟨hx, hb, hml, hown, hts, hK, hin⟩ := hA
        exact lv_astoreN hx hb hd hL.has (by rw [← hL.1]; exact (am_st1_spec hv).1) rfl (fun ls2 h2 => k ls2 (am_Ls.of1 hL.1 hv h2)))
    · cases h
  · cases h
theorem am_x_iinc {pc n : Nat} {v : Int32} {x : Nat} {y : Int} {L : am_L} {S : List Value} {X : am_T × (Nat → Nat → Value) × (Nat → Nat → Int32)} {st : am_S} (hd : decode q.2.2.1 pc = .ok (.iinc x y, 3)) (ho : Int32.ofInt y = v) (h : am_ex1 (.iinc x y) (pc + 3) n v L S X = some st) : am_St l D DA b sz q (pc, L, S, X) st := by
  simp only [am_ex1] at h
  split at h
  · rename_i z hz
    split at h
    · rename_i L2 hv
      cases h
      exact am_st_l (by
        intro p e R s m args below meth c Q ls H locs cells slots hA hL k
        obtain ⟨hx, hb, hml, hown, hts, hK, hin⟩ := hA
        obtain ⟨k0, hk0⟩ := am_lst_at (b := b) (sz := sz) hz
        exact lv_iinc hx hb hd hL.has hk0 (by rw [ho]) (by rw [← hL.1]; exact (am_st1_spec hv).1) rfl (fun ls2 h2 => k ls2 (am_Ls.of1 hL.1 hv h2)))
    · cases h
  · cases h
theorem am_x_iadd {pc n : Nat} {v : Int32} {L : am_L} {S : List Value} {X : am_T × (Nat → Nat → Value) × (Nat → Nat → Int32)} {st : am_S} (hd : decode q.2.2.1 pc = .ok (.iadd, 1)) (h : am_ex1 (.iadd) (pc + 1) n v L S X = some st) : am_St l D DA b sz q (pc, L, S, X) st := by
  simp only [am_ex1, am_op2] at h
  split at h
  · cases h
    exact am_st_p (by
      intro p e R s m args below meth c Q ls H locs cells slots hA hf hl hc hs hL hO k
      obtain ⟨hx, hb, hml, hown, hts, hK, hin⟩ := hA
      exact lv_iadd hx hb hd k)
  · cases h
theorem am_x_isub {pc n : Nat} {v : Int32} {L : am_L} {S : List Value} {X : am_T × (Nat → Nat → Value) × (Nat → Nat → Int32)} {st : am_S} (hd : decode q.2.2.1 pc = .ok (.isub, 1)) (h : am_ex1 (.isub) (pc + 1) n v L S X = some st) : am_St l D DA b sz q (pc, L, S, X) st := by
  simp only [am_ex1, am_op2] at h
  split at h
  · cases h
    exact am_st_p (by
      intro p e R s m args below meth c Q ls H locs cells slots hA hf hl hc hs hL hO k
      obtain ⟨hx, hb, hml, hown, hts, hK, hin⟩ := hA
      exact lv_isub hx hb hd k)
  · cases h
theorem am_x_imul {pc n : Nat} {v : Int32} {L : am_L} {S : List Value} {X : am_T × (Nat → Nat → Value) × (Nat → Nat → Int32)} {st : am_S} (hd : decode q.2.2.1 pc = .ok (.imul, 1)) (h : am_ex1 (.imul) (pc + 1) n v L S X = some st) : am_St l D DA b sz q (pc, L, S, X) st := by
  simp only [am_ex1, am_op2] at h
  split at h
  · cases h
    exact am_st_p (by
      intro p e R s m args below meth c Q ls H locs cells slots hA hf hl hc hs hL hO k
      obtain ⟨hx, hb, hml, hown, hts, hK, hin⟩ := hA
      exact lv_imul hx hb hd k)
  · cases h
theorem am_x_iand {pc n : Nat} {v : Int32} {L : am_L} {S : List Value} {X : am_T × (Nat → Nat → Value) × (Nat → Nat → Int32)} {st : am_S} (hd : decode q.2.2.1 pc = .ok (.iand, 1)) (h : am_ex1 (.iand) (pc + 1) n v L S X = some st) : am_St l D DA b sz q (pc, L, S, X) st := by
  simp only [am_ex1, am_op2] at h
  split at h
  · cases h
    exact am_st_p (by
      intro p e R s m args below meth c Q ls H locs cells slots hA hf hl hc hs hL hO k
      obtain ⟨hx, hb, hml, hown, hts, hK, hin⟩ := hA
      exact lv_iand hx hb hd k)
  · cases h
theorem am_x_ior {pc n : Nat} {v : Int32} {L : am_L} {S : List Value} {X : am_T × (Nat → Nat → Value) × (Nat → Nat → Int32)} {st : am_S} (hd : decode q.2.2.1 pc = .ok (.ior, 1)) (h : am_ex1 (.ior) (pc + 1) n v L S X = some st) : am_St l D DA b sz q (pc, L, S, X) st := by
  simp only [am_ex1, am_op2] at h
  split at h
  · cases h
    exact am_st_p (by
      intro p e R s m args below meth c Q ls H locs cells slots hA hf hl hc hs hL hO k
      obtain ⟨hx, hb, hml, hown, hts, hK, hin⟩ := hA
      exact lv_ior hx hb hd k)
  · cases h
theorem am_x_ixor {pc n : Nat} {v : Int32} {L : am_L} {S : List Value} {X : am_T × (Nat → Nat → Value) × (Nat → Nat → Int32)} {st : am_S} (hd : decode q.2.2.1 pc = .ok (.ixor, 1)) (h : am_ex1 (.ixor) (pc + 1) n v L S X = some st) : am_St l D DA b sz q (pc, L, S, X) st := by
  simp only [am_ex1, am_op2] at h
  split at h
  · cases h
    exact am_st_p (by
      intro p e R s m args below meth c Q ls H locs cells slots hA hf hl hc hs hL hO k
      obtain ⟨hx, hb, hml, hown, hts, hK, hin⟩ := hA
      exact lv_ixor hx hb hd k)
  · cases h
theorem am_x_ishl {pc n : Nat} {v : Int32} {L : am_L} {S : List Value} {X : am_T × (Nat → Nat → Value) × (Nat → Nat → Int32)} {st : am_S} (hd : decode q.2.2.1 pc = .ok (.ishl, 1)) (h : am_ex1 (.ishl) (pc + 1) n v L S X = some st) : am_St l D DA b sz q (pc, L, S, X) st := by
  simp only [am_ex1, am_op2] at h
  split at h
  · cases h
    exact am_st_p (by
      intro p e R s m args below meth c Q ls H locs cells slots hA hf hl hc hs hL hO k
      obtain ⟨hx, hb, hml, hown, hts, hK, hin⟩ := hA
      exact lv_ishl hx hb hd k)
  · cases h
theorem am_x_ishr {pc n : Nat} {v : Int32} {L : am_L} {S : List Value} {X : am_T × (Nat → Nat → Value) × (Nat → Nat → Int32)} {st : am_S} (hd : decode q.2.2.1 pc = .ok (.ishr, 1)) (h : am_ex1 (.ishr) (pc + 1) n v L S X = some st) : am_St l D DA b sz q (pc, L, S, X) st := by
  simp only [am_ex1, am_op2] at h
  split at h
  · cases h
    exact am_st_p (by
      intro p e R s m args below meth c Q ls H locs cells slots hA hf hl hc hs hL hO k
      obtain ⟨hx, hb, hml, hown, hts, hK, hin⟩ := hA
      exact lv_ishr hx hb hd k)
  · cases h
theorem am_x_iushr {pc n : Nat} {v : Int32} {L : am_L} {S : List Value} {X : am_T × (Nat → Nat → Value) × (Nat → Nat → Int32)} {st : am_S} (hd : decode q.2.2.1 pc = .ok (.iushr, 1)) (h : am_ex1 (.iushr) (pc + 1) n v L S X = some st) : am_St l D DA b sz q (pc, L, S, X) st := by
  simp only [am_ex1, am_op2] at h
  split at h
  · cases h
    exact am_st_p (by
      intro p e R s m args below meth c Q ls H locs cells slots hA hf hl hc hs hL hO k
      obtain ⟨hx, hb, hml, hown, hts, hK, hin⟩ := hA
      exact lv_iushr hx hb hd rfl k)
  · cases h
theorem am_x_lmul {pc n : Nat} {v : Int32} {L : am_L} {S : List Value} {X : am_T × (Nat → Nat → Value) × (Nat → Nat → Int32)} {st : am_S} (hd : decode q.2.2.1 pc = .ok (.lmul, 1)) (h : am_ex1 (.lmul) (pc + 1) n v L S X = some st) : am_St l D DA b sz q (pc, L, S, X) st := by
  simp only [am_ex1, am_opL] at h
  split at h
  · cases h
    exact am_st_p (by
      intro p e R s m args below meth c Q ls H locs cells slots hA hf hl hc hs hL hO k
      obtain ⟨hx, hb, hml, hown, hts, hK, hin⟩ := hA
      exact lv_lmul hx hb hd k)
  · cases h
theorem am_x_land {pc n : Nat} {v : Int32} {L : am_L} {S : List Value} {X : am_T × (Nat → Nat → Value) × (Nat → Nat → Int32)} {st : am_S} (hd : decode q.2.2.1 pc = .ok (.land, 1)) (h : am_ex1 (.land) (pc + 1) n v L S X = some st) : am_St l D DA b sz q (pc, L, S, X) st := by
  simp only [am_ex1, am_opL] at h
  split at h
  · cases h
    exact am_st_p (by
      intro p e R s m args below meth c Q ls H locs cells slots hA hf hl hc hs hL hO k
      obtain ⟨hx, hb, hml, hown, hts, hK, hin⟩ := hA
      exact lv_land hx hb hd k)
  · cases h
theorem am_x_lor {pc n : Nat} {v : Int32} {L : am_L} {S : List Value} {X : am_T × (Nat → Nat → Value) × (Nat → Nat → Int32)} {st : am_S} (hd : decode q.2.2.1 pc = .ok (.lor, 1)) (h : am_ex1 (.lor) (pc + 1) n v L S X = some st) : am_St l D DA b sz q (pc, L, S, X) st := by
  simp only [am_ex1, am_opL] at h
  split at h
  · cases h
    exact am_st_p (by
      intro p e R s m args below meth c Q ls H locs cells slots hA hf hl hc hs hL hO k
      obtain ⟨hx, hb, hml, hown, hts, hK, hin⟩ := hA
      exact lv_lor hx hb hd k)
  · cases h
theorem am_x_idiv {pc n : Nat} {v : Int32} {L : am_L} {S : List Value} {X : am_T × (Nat → Nat → Value) × (Nat → Nat → Int32)} {st : am_S} (hd : decode q.2.2.1 pc = .ok (.idiv, 1)) (h : am_ex1 (.idiv) (pc + 1) n v L S X = some st) : am_St l D DA b sz q (pc, L, S, X) st := by
  simp only [am_ex1] at h
  split at h
  · split at h
    · cases h
    · rename_i hne
      cases h
      exact am_st_p (by
        intro p e R s m args below meth c Q ls H locs cells slots hA hf hl hc hs hL hO k
        obtain ⟨hx, hb, hml, hown, hts, hK, hin⟩ := hA
        exact lv_idiv hx hb hd hne k)
  · cases h
theorem am_x_irem {pc n : Nat} {v : Int32} {L : am_L} {S : List Value} {X : am_T × (Nat → Nat → Value) × (Nat → Nat → Int32)} {st : am_S} (hd : decode q.2.2.1 pc = .ok (.irem, 1)) (h : am_ex1 (.irem) (pc + 1) n v L S X = some st) : am_St l D DA b sz q (pc, L, S, X) st := by
  simp only [am_ex1] at h
  split at h
  · split at h
    · cases h
    · rename_i hne
      cases h
      exact am_st_p (by
        intro p e R s m args below meth c Q ls H locs cells slots hA hf hl hc hs hL hO k
        obtain ⟨hx, hb, hml, hown, hts, hK, hin⟩ := hA
        exact lv_irem hx hb hd hne k)
  · cases h
theorem am_x_ldiv {pc n : Nat} {v : Int32} {L : am_L} {S : List Value} {X : am_T × (Nat → Nat → Value) × (Nat → Nat → Int32)} {st : am_S} (hd : decode q.2.2.1 pc = .ok (.ldiv, 1)) (h : am_ex1 (.ldiv) (pc + 1) n v L S X = some st) : am_St l D DA b sz q (pc, L, S, X) st := by
  simp only [am_ex1] at h
  split at h
  · split at h
    · cases h
    · rename_i hne
      cases h
      exact am_st_p (by
        intro p e R s m args below meth c Q ls H locs cells slots hA hf hl hc hs hL hO k
        obtain ⟨hx, hb, hml, hown, hts, hK, hin⟩ := hA
        exact lv_ldiv hx hb hd hne k)
  · cases h
theorem am_x_ineg {pc n : Nat} {v : Int32} {L : am_L} {S : List Value} {X : am_T × (Nat → Nat → Value) × (Nat → Nat → Int32)} {st : am_S} (hd : decode q.2.2.1 pc = .ok (.ineg, 1)) (h : am_ex1 (.ineg) (pc + 1) n v L S X = some st) : am_St l D DA b sz q (pc, L, S, X) st := by
  simp only [am_ex1] at h
  split at h
  · cases h
    exact am_st_p (by
      intro p e R s m args below meth c Q ls H locs cells slots hA hf hl hc hs hL hO k
      obtain ⟨hx, hb, hml, hown, hts, hK, hin⟩ := hA
      exact lv_ineg hx hb hd k)
  · cases h
theorem am_x_lshl {pc n : Nat} {v : Int32} {L : am_L} {S : List Value} {X : am_T × (Nat → Nat → Value) × (Nat → Nat → Int32)} {st : am_S} (hd : decode q.2.2.1 pc = .ok (.lshl, 1)) (h : am_ex1 (.lshl) (pc + 1) n v L S X = some st) : am_St l D DA b sz q (pc, L, S, X) st := by
  simp only [am_ex1] at h
  split at h
  · cases h
    exact am_st_p (by
      intro p e R s m args below meth c Q ls H locs cells slots hA hf hl hc hs hL hO k
      obtain ⟨hx, hb, hml, hown, hts, hK, hin⟩ := hA
      exact lv_lshl hx hb hd rfl k)
  · cases h
theorem am_x_lshr {pc n : Nat} {v : Int32} {L : am_L} {S : List Value} {X : am_T × (Nat → Nat → Value) × (Nat → Nat → Int32)} {st : am_S} (hd : decode q.2.2.1 pc = .ok (.lshr, 1)) (h : am_ex1 (.lshr) (pc + 1) n v L S X = some st) : am_St l D DA b sz q (pc, L, S, X) st := by
  simp only [am_ex1] at h
  split at h
  · cases h
    exact am_st_p (by
      intro p e R s m args below meth c Q ls H locs cells slots hA hf hl hc hs hL hO k
      obtain ⟨hx, hb, hml, hown, hts, hK, hin⟩ := hA
      exact lv_lshr hx hb hd rfl k)
  · cases h
theorem am_x_lcmp {pc n : Nat} {v : Int32} {L : am_L} {S : List Value} {X : am_T × (Nat → Nat → Value) × (Nat → Nat → Int32)} {st : am_S} (hd : decode q.2.2.1 pc = .ok (.lcmp, 1)) (h : am_ex1 (.lcmp) (pc + 1) n v L S X = some st) : am_St l D DA b sz q (pc, L, S, X) st := by
  simp only [am_ex1] at h
  split at h
  · cases h
    exact am_st_p (by
      intro p e R s m args below meth c Q ls H locs cells slots hA hf hl hc hs hL hO k
      obtain ⟨hx, hb, hml, hown, hts, hK, hin⟩ := hA
      exact W.lcmp hx hb hd k)
  · cases h
theorem am_x_i2l {pc n : Nat} {v : Int32} {L : am_L} {S : List Value} {X : am_T × (Nat → Nat → Value) × (Nat → Nat → Int32)} {st : am_S} (hd : decode q.2.2.1 pc = .ok (.i2l, 1)) (h : am_ex1 (.i2l) (pc + 1) n v L S X = some st) : am_St l D DA b sz q (pc, L, S, X) st := by
  simp only [am_ex1] at h
  split at h
  · cases h
    exact am_st_p (by
      intro p e R s m args below meth c Q ls H locs cells slots hA hf hl hc hs hL hO k
      obtain ⟨hx, hb, hml, hown, hts, hK, hin⟩ := hA
      exact lv_i2l hx hb hd rfl k)
  · cases h
theorem am_x_l2i {pc n : Nat} {v : Int32} {L : am_L} {S : List Value} {X : am_T × (Nat → Nat → Value) × (Nat → Nat → Int32)} {st : am_S} (hd : decode q.2.2.1 pc = .ok (.l2i, 1)) (h : am_ex1 (.l2i) (pc + 1) n v L S X = some st) : am_St l D DA b sz q (pc, L, S, X) st := by
  simp only [am_ex1] at h
  split at h
  · cases h
    exact am_st_p (by
      intro p e R s m args below meth c Q ls H locs cells slots hA hf hl hc hs hL hO k
      obtain ⟨hx, hb, hml, hown, hts, hK, hin⟩ := hA
      exact lv_l2i hx hb hd rfl k)
  · cases h
theorem am_x_dup {pc n : Nat} {v : Int32} {L : am_L} {S : List Value} {X : am_T × (Nat → Nat → Value) × (Nat → Nat → Int32)} {st : am_S} (hd : decode q.2.2.1 pc = .ok (.dup, 1)) (h : am_ex1 (.dup) (pc + 1) n v L S X = some st) : am_St l D DA b sz q (pc, L, S, X) st := by
  simp only [am_ex1] at h
  split at h
  · split at h
    · rename_i h1
      cases h
      exact am_st_p (by
        intro p e R s m args below meth c Q ls H locs cells slots hA hf hl hc hs hL hO k
        obtain ⟨hx, hb, hml, hown, hts, hK, hin⟩ := hA
        exact lv_dup hx hb hd (am_v_c1 h1) k)
    · cases h
  · cases h
theorem am_x_pop {pc n : Nat} {v : Int32} {L : am_L} {S : List Value} {X : am_T × (Nat → Nat → Value) × (Nat → Nat → Int32)} {st : am_S} (hd : decode q.2.2.1 pc = .ok (.pop, 1)) (h : am_ex1 (.pop) (pc + 1) n v L S X = some st) : am_St l D DA b sz q (pc, L, S, X) st := by
  simp only [am_ex1] at h
  split at h
  · split at h
    · rename_i h1
      cases h
      exact am_st_p (by
        intro p e R s m args below meth c Q ls H locs cells slots hA hf hl hc hs hL hO k
        obtain ⟨hx, hb, hml, hown, hts, hK, hin⟩ := hA
        exact lv_pop hx hb hd (am_v_c1 h1) k)
    · cases h
  · cases h
theorem am_x_dup2 {pc n : Nat} {v : Int32} {L : am_L} {S : List Value} {X : am_T × (Nat → Nat → Value) × (Nat → Nat → Int32)} {st : am_S} (hd : decode q.2.2.1 pc = .ok (.dup2, 1)) (h : am_ex1 (.dup2) (pc + 1) n v L S X = some st) : am_St l D DA b sz q (pc, L, S, X) st := by
  simp only [am_ex1] at h
  split at h
  · split at h
    · rename_i h1
      cases h
      exact am_st_p (by
        intro p e R s m args below meth c Q ls H locs cells slots hA hf hl hc hs hL hO k
        obtain ⟨hx, hb, hml, hown, hts, hK, hin⟩ := hA
        exact lv_dup2_11 hx hb hd (am_v_c1 (Bool.and_eq_true _ _ ▸ h1 : _ ∧ _).1) (am_v_c1 (Bool.and_eq_true _ _ ▸ h1 : _ ∧ _).2) k)
    · cases h
  · cases h
end AMS
end
section
/-! group 2: jumps -/
section AMS
variable {l : Launch} {D : va_G} {DA : Nat → ClassId} {b sz : Nat} {q : am_M}
theorem am_x_goto {pc n : Nat} {off : Int} {w : List Nat} {L : am_L} {S : List Value} {X : am_T × (Nat → Nat → Value) × (Nat → Nat → Int32)} {st : am_S} (hd : decode q.2.2.1 pc = .ok (.goto off, 3)) (ho : (pc : Int) + off = (n : Int)) (h : am_ex2 (.goto off) (pc + 3) n w L S X = some st) : am_St l D DA b sz q (pc, L, S, X) st := by
  cases h
  exact am_st_p (by
    intro p e R s m args below meth c Q ls H locs cells slots hA hf hl hc hs hL hO k
    obtain ⟨hx, hb, hml, hown, hts, hK, hin⟩ := hA
    exact lv_goto hx hb hd ho k)
theorem am_x_ifCond_eq {pc n : Nat} {off : Int} {w : List Nat} {L : am_L} {S : List Value} {X : am_T × (Nat → Nat → Value) × (Nat → Nat → Int32)} {st : am_S} (hd : decode q.2.2.1 pc = .ok (.ifCond .eq off, 3)) (ho : (pc : Int) + off = (n : Int)) (h : am_ex2 (.ifCond .eq off) (pc + 3) n w L S X = some st) : am_St l D DA b sz q (pc, L, S, X) st := by
  simp only [am_ex2] at h
  split at h
  · cases h
    exact am_st_p (by
      intro p e R s m args below meth c Q ls H locs cells slots hA hf hl hc hs hL hO k
      obtain ⟨hx, hb, hml, hown, hts, hK, hin⟩ := hA
      exact lv_if_eq hx hb hd ho (fun h9 => by rw [if_pos h9] at k; exact k) (fun h9 => by rw [if_neg h9] at k; exact k))
  · cases h
theorem am_x_if_icmp_eq {pc n : Nat} {off : Int} {w : List Nat} {L : am_L} {S : List Value} {X : am_T × (Nat → Nat → Value) × (Nat → Nat → Int32)} {st : am_S} (hd : decode q.2.2.1 pc = .ok (.if_icmp .eq off, 3)) (ho : (pc : Int) + off = (n : Int)) (h : am_ex2 (.if_icmp .eq off) (pc + 3) n w L S X = some st) : am_St l D DA b sz q (pc, L, S, X) st := by
  simp only [am_ex2] at h
  split at h
  · cases h
    exact am_st_p (by
      intro p e R s m args below meth c Q ls H locs cells slots hA hf hl hc hs hL hO k
      obtain ⟨hx, hb, hml, hown, hts, hK, hin⟩ := hA
      exact lv_icmp_eq hx hb hd ho (fun h9 => by rw [if_pos h9] at k; exact k) (fun h9 => by rw [if_neg h9] at k; exact k))
  · cases h
theorem am_x_ifCond_ne {pc n : Nat} {off : Int} {w : List Nat} {L : am_L} {S : List Value} {X : am_T × (Nat → Nat → Value) × (Nat → Nat → Int32)} {st : am_S} (hd : decode q.2.2.1 pc = .ok (.ifCond .ne off, 3)) (ho : (pc : Int) + off = (n : Int)) (h : am_ex2 (.ifCond .ne off) (pc + 3) n w L S X = some st) : am_St l D DA b sz q (pc, L, S, X) st := by
  simp only [am_ex2] at h
  split at h
  · cases h
    exact am_st_p (by
      intro p e R s m args below meth c Q ls H locs cells slots hA hf hl hc hs hL hO k
      obtain ⟨hx, hb, hml, hown, hts, hK, hin⟩ := hA
      exact lv_if_ne hx hb hd ho (fun h9 => by rw [if_neg h9] at k; exact k) (fun h9 => by rw [if_pos h9] at k; exact k))
  · cases h
theorem am_x_if_icmp_ne {pc n : Nat} {off : Int} {w : List Nat} {L : am_L} {S : List Value} {X : am_T × (Nat → Nat → Value) × (Nat → Nat → Int32)} {st : am_S} (hd : decode q.2.2.1 pc = .ok (.if_icmp .ne off, 3)) (ho : (pc : Int) + off = (n : Int)) (h : am_ex2 (.if_icmp .ne off) (pc + 3) n w L S X = some st) : am_St l D DA b sz q (pc, L, S, X) st := by
  simp only [am_ex2] at h
  split at h
  · cases h
    exact am_st_p (by
      intro p e R s m args below meth c Q ls H locs cells slots hA hf hl hc hs hL hO k
      obtain ⟨hx, hb, hml, hown, hts, hK, hin⟩ := hA
      exact lv_icmp_ne hx hb hd ho (fun h9 => by rw [if_neg h9] at k; exact k) (fun h9 => by rw [if_pos h9] at k; exact k))
  · cases h
theorem am_x_ifCond_lt {pc n : Nat} {off : Int} {w : List Nat} {L : am_L} {S : List Value} {X : am_T × (Nat → Nat → Value) × (Nat → Nat → Int32)} {st : am_S} (hd : decode q.2.2.1 pc = .ok (.ifCond .lt off, 3)) (ho : (pc : Int) + off = (n : Int)) (h : am_ex2 (.ifCond .lt off) (pc + 3) n w L S X = some st) : am_St l D DA b sz q (pc, L, S, X) st := by
  simp only [am_ex2] at h
  split at h
  · cases h
    exact am_st_p (by
      intro p e R s m args below meth c Q ls H locs cells slots hA hf hl hc hs hL hO k
      obtain ⟨hx, hb, hml, hown, hts, hK, hin⟩ := hA
      exact lv_if_lt hx hb hd ho (fun h9 => by rw [if_pos h9] at k; exact k) (fun h9 => by rw [if_neg h9] at k; exact k))
  · cases h
theorem am_x_if_icmp_lt {pc n : Nat} {off : Int} {w : List Nat} {L : am_L} {S : List Value} {X : am_T × (Nat → Nat → Value) × (Nat → Nat → Int32)} {st : am_S} (hd : decode q.2.2.1 pc = .ok (.if_icmp .lt off, 3)) (ho : (pc : Int) + off = (n : Int)) (h : am_ex2 (.if_icmp .lt off) (pc + 3) n w L S X = some st) : am_St l D DA b sz q (pc, L, S, X) st := by
  simp only [am_ex2] at h
  split at h
  · cases h
    exact am_st_p (by
      intro p e R s m args below meth c Q ls H locs cells slots hA hf hl hc hs hL hO k
      obtain ⟨hx, hb, hml, hown, hts, hK, hin⟩ := hA
      exact lv_icmp_lt hx hb hd ho (fun h9 => by rw [if_pos h9] at k; exact k) (fun h9 => by rw [if_neg h9] at k; exact k))
  · cases h
theorem am_x_ifCond_ge {pc n : Nat} {off : Int} {w : List Nat} {L : am_L} {S : List Value} {X : am_T × (Nat → Nat → Value) × (Nat → Nat → Int32)} {st : am_S} (hd : decode q.2.2.1 pc = .ok (.ifCond .ge off, 3)) (ho : (pc : Int) + off = (n : Int)) (h : am_ex2 (.ifCond .ge off) (pc + 3) n w L S X = some st) : am_St l D DA b sz q (pc, L, S, X) st := by
  simp only [am_ex2] at h
  split at h
  · cases h
    exact am_st_p (by
      intro p e R s m args below meth c Q ls H locs cells slots hA hf hl hc hs hL hO k
      obtain ⟨hx, hb, hml, hown, hts, hK, hin⟩ := hA
      exact lv_if_ge hx hb hd ho (fun h9 => by rw [if_pos h9] at k; exact k) (fun h9 => by rw [if_neg h9] at k; exact k))
  · cases h
theorem am_x_if_icmp_ge {pc n : Nat} {off : Int} {w : List Nat} {L : am_L} {S : List Value} {X : am_T × (Nat → Nat → Value) × (Nat → Nat → Int32)} {st : am_S} (hd : decode q.2.2.1 pc = .ok (.if_icmp .ge off, 3)) (ho : (pc : Int) + off = (n : Int)) (h : am_ex2 (.if_icmp .ge off) (pc + 3) n w L S X = some st) : am_St l D DA b sz q (pc, L, S, X) st := by
  simp only [am_ex2] at h
  split at h
  · cases h
    exact am_st_p (by
      intro p e R s m args below meth c Q ls H locs cells slots hA hf hl hc hs hL hO k
      obtain ⟨hx, hb, hml, hown, hts, hK, hin⟩ := hA
      exact lv_icmp_ge hx hb hd ho (fun h9 => by rw [if_pos h9] at k; exact k) (fun h9 => by rw [if_neg h9] at k; exact k))
  · cases h
theorem am_x_ifCond_gt {pc n : Nat} {off : Int} {w : List Nat} {L : am_L} {S : List Value} {X : am_T × (Nat → Nat → Value) × (Nat → Nat → Int32)} {st : am_S} (hd : decode q.2.2.1 pc = .ok (.ifCond .gt off, 3)) (ho : (pc : Int) + off = (n : Int)) (h : am_ex2 (.ifCond .gt off) (pc + 3) n w L S X = some st) : am_St l D DA b sz q (pc, L, S, X) st := by
  simp only [am_ex2] at h
  split at h
  · cases h
    exact am_st_p (by
      intro p e R s m args below meth c Q ls H locs cells slots hA hf hl hc hs hL hO k
      obtain ⟨hx, hb, hml, hown, hts, hK, hin⟩ := hA
      exact lv_if_gt hx hb hd ho (fun h9 => by rw [if_pos h9] at k; exact k) (fun h9 => by rw [if_neg h9] at k; exact k))
  · cases h
theorem am_x_if_icmp_gt {pc n : Nat} {off : Int} {w : List Nat} {L : am_L} {S : List Value} {X : am_T × (Nat → Nat → Value) × (Nat → Nat → Int32)} {st : am_S} (hd : decode q.2.2.1 pc = .ok (.if_icmp .gt off, 3)) (ho : (pc : Int) + off = (n : Int)) (h : am_ex2 (.if_icmp .gt off) (pc + 3) n w L S X = some st) : am_St l D DA b sz q (pc, L, S, X) st := by
  simp only [am_ex2] at h
  split at h
  · cases h
    exact am_st_p (by
      intro p e R s m args below meth c Q ls H locs cells slots hA hf hl hc hs hL hO k
      obtain ⟨hx, hb, hml, hown, hts, hK, hin⟩ := hA
      exact lv_icmp_gt hx hb hd ho (fun h9 => by rw [if_pos h9] at k; exact k) (fun h9 => by rw [if_neg h9] at k; exact k))
  · cases h
theorem am_x_ifCond_le {pc n : Nat} {off : Int} {w : List Nat} {L : am_L} {S : List Value} {X : am_T × (Nat → Nat → Value) × (Nat → Nat → Int32)} {st : am_S} (hd : decode q.2.2.1 pc = .ok (.ifCond .le off, 3)) (ho : (pc : Int) + off = (n : Int)) (h : am_ex2 (.ifCond .le off) (pc + 3) n w L S X = some st) : am_St l D DA b sz q (pc, L, S, X) st := by
  simp only [am_ex2] at h
  split at h
  · cases h
    exact am_st_p (by
      intro p e R s m args below meth c Q ls H locs cells slots hA hf hl hc hs hL hO k
      obtain ⟨hx, hb, hml, hown, hts, hK, hin⟩ := hA
      exact lv_if_le hx hb hd ho (fun h9 => by rw [if_pos h9] at k; exact k) (fun h9 => by rw [if_neg h9] at k; exact k))
  · cases h
theorem am_x_if_icmp_le {pc n : Nat} {off : Int} {w : List Nat} {L : am_L} {S : List Value} {X : am_T × (Nat → Nat → Value) × (Nat → Nat → Int32)} {st : am_S} (hd : decode q.2.2.1 pc = .ok (.if_icmp .le off, 3)) (ho : (pc : Int) + off = (n : Int)) (h : am_ex2 (.if_icmp .le off) (pc + 3) n w L S X = some st) : am_St l D DA b sz q (pc, L, S, X) st := by
  simp only [am_ex2] at h
  split at h
  · cases h
    exact am_st_p (by
      intro p e R s m args below meth c Q ls H locs cells slots hA hf hl hc hs hL hO k
      obtain ⟨hx, hb, hml, hown, hts, hK, hin⟩ := hA
      exact lv_icmp_le hx hb hd ho (fun h9 => by rw [if_pos h9] at k; exact k) (fun h9 => by rw [if_neg h9] at k; exact k))
  · cases h
theorem am_x_ifnull {pc n : Nat} {off : Int} {w : List Nat} {L : am_L} {S : List Value} {X : am_T × (Nat → Nat → Value) × (Nat → Nat → Int32)} {st : am_S} (hd : decode q.2.2.1 pc = .ok (.ifnull off, 3)) (ho : (pc : Int) + off = (n : Int)) (h : am_ex2 (.ifnull off) (pc + 3) n w L S X = some st) : am_St l D DA b sz q (pc, L, S, X) st := by
  simp only [am_ex2] at h
  split at h
  · cases h
    exact am_st_p (by
      intro p e R s m args below meth c Q ls H locs cells slots hA hf hl hc hs hL hO k
      obtain ⟨hx, hb, hml, hown, hts, hK, hin⟩ := hA
      exact lv_ifnull hx hb hd k)
  · cases h
    exact am_st_p (by
      intro p e R s m args below meth c Q ls H locs cells slots hA hf hl hc hs hL hO k
      obtain ⟨hx, hb, hml, hown, hts, hK, hin⟩ := hA
      exact lv_ifnullN hx hb hd ho k)
  · cases h
theorem am_x_ifnonnull {pc n : Nat} {off : Int} {w : List Nat} {L : am_L} {S : List Value} {X : am_T × (Nat → Nat → Value) × (Nat → Nat → Int32)} {st : am_S} (hd : decode q.2.2.1 pc = .ok (.ifnonnull off, 3)) (ho : (pc : Int) + off = (n : Int)) (h : am_ex2 (.ifnonnull off) (pc + 3) n w L S X = some st) : am_St l D DA b sz q (pc, L, S, X) st := by
  simp only [am_ex2] at h
  split at h
  · cases h
    exact am_st_p (by
      intro p e R s m args below meth c Q ls H locs cells slots hA hf hl hc hs hL hO k
      obtain ⟨hx, hb, hml, hown, hts, hK, hin⟩ := hA
      exact lv_ifnonnull hx hb hd ho k)
  · cases h
    exact am_st_p (by
      intro p e R s m args below meth c Q ls H locs cells slots hA hf hl hc hs hL hO k
      obtain ⟨hx, hb, hml, hown, hts, hK, hin⟩ := hA
      exact lv_ifnonnullN hx hb hd k)
  · cases h
theorem am_x_tableswitch {pc n : Nat} {d lo hi : Int} {offs : Array Int} {len : Nat} {w : List Nat} {L : am_L} {S : List Value} {X : am_T × (Nat → Nat → Value) × (Nat → Nat → Int32)} {st : am_S} (hd : decode q.2.2.1 pc = .ok (.tableswitch d lo hi offs, len)) (ho : (pc : Int) + d = (n : Int)) (ho2 : offs.toList.map (fun o => (pc : Int) + o) = w.map (fun g : Nat => (g : Int))) (h : am_ex2 (.tableswitch d lo hi offs) (pc + len) n w L S X = some st) : am_St l D DA b sz q (pc, L, S, X) st := by
  simp only [am_ex2] at h
  split at h
  · split at h
    · rename_i h9
      cases h
      exact am_st_p (by
        intro p e R s m args below meth c Q ls H locs cells slots hA hf hl hc hs hL hO k
        obtain ⟨hx, hb, hml, hown, hts, hK, hin⟩ := hA
        exact lv_tableOut hx hb hd h9 ho k)
    · rename_i x S h9
      have h1 : ¬ x.toInt < lo := fun z => h9 (Or.inl z)
      have h2 : ¬ hi < x.toInt := fun z => h9 (Or.inr z)
      split at h
      · rename_i g hg
        cases h
        have e1 : (offs.toList.map (fun o => (pc : Int) + o))[(x.toInt - lo).toNat]? = some (g : Int) := by
          rw [ho2, List.getElem?_map, hg]; rfl
        rw [List.getElem?_map] at e1
        cases ho3 : offs.toList[(x.toInt - lo).toNat]? with
        | none => rw [ho3] at e1; cases e1
        | some off =>
          rw [ho3] at e1
          have e2 : (pc : Int) + off = (g : Int) := Option.some.inj e1
          exact am_st_p (by
            intro p e R s m args below meth c Q ls H locs cells slots hA hf hl hc hs hL hO k
            obtain ⟨hx, hb, hml, hown, hts, hK, hin⟩ := hA
            exact lv_tableIn hx hb hd h1 h2 (by rw [← Array.getElem?_toList]; exact ho3) e2 k)
      · cases h
  · cases h
end AMS
end
section
/-! group 3: cells -/
section AMS
variable {l : Launch} {D : va_G} {DA : Nat → ClassId} {b sz : Nat} {q : am_M}
theorem am_ad_pos {c : Nat} (h : 0 < c) : am_ad b sz c = sz + (c - 1) := by unfold am_ad; rw [if_neg (by omega)]
theorem am_ad_inj {c c' : Nat} (hb : b < sz) (h : am_ad b sz c = am_ad b sz c') : c = c' := by
  unfold am_ad at h
  split at h <;> split at h <;> omega
/-- cells that aren't the changed one -/
theorem am_cell.kept {s : State} {ρ ρ' : Nat → Nat → Value} {σ σ' : Nat → Nat → Int32} {H H' : Heap} {c : Nat} {x : Nat ⊕ (Nat × Nat)} (h : am_cell D DA b sz s ρ σ H c x) (hr : ρ' c = ρ c) (hs : σ' c = σ c) (hH : H'[am_ad b sz c]? = H[am_ad b sz c]?) : am_cell D DA b sz s ρ' σ' H' c x := by
  cases x with
  | inl ci =>
    obtain ⟨h0, w, h1, h2⟩ := h
    refine ⟨h0, w, h1, (h2.kept hH).to (fun k _ => ?_)⟩
    simp only [am_val, hr, hs]
  | inr t =>
    obtain ⟨t, n⟩ := t
    rcases h with ⟨h1, rfl, h2⟩ | ⟨h1, h0, h2⟩ | ⟨h1, h0, h2⟩
    · refine Or.inl ⟨h1, rfl, ?_⟩
      rw [hs]
      exact h2.kept hH
    · refine Or.inr (Or.inl ⟨h1, h0, ?_⟩)
      rw [hH, h2]
      simp only [hs]
    · refine Or.inr (Or.inr ⟨h1, h0, ?_⟩)
      rw [hH, h2]
      simp only [hr]
theorem am_ok.set {s : State} {T : am_T} {ρ ρ' : Nat → Nat → Value} {σ σ' : Nat → Nat → Int32} {H H' : Heap} {c : Nat} (h : am_ok D DA b sz s (T, ρ, σ) H) (hr : ∀ c', c' ≠ c → ρ' c' = ρ c') (hs : ∀ c', c' ≠ c → σ' c' = σ c') (hsz : H'.size = H.size) (hH : ∀ a, a ≠ am_ad b sz c → H'[a]? = H[a]?) (hc : ∀ x, T[c]? = some x → am_cell D DA b sz s ρ' σ' H' c x) : am_ok D DA b sz s (T, ρ', σ') H' := by
  obtain ⟨h1, h2, h3, h4⟩ := h
  refine ⟨h1, h2, by rw [hsz]; exact h3, fun c' x hx => ?_⟩
  by_cases hcc : c' = c
  · subst hcc
    exact hc x hx
  · exact (h4 c' x hx).kept (hr c' hcc) (hs c' hcc) (hH _ (fun z => hcc (am_ad_inj h1 z)))
theorem am_us_ne {σ : Nat → Nat → Int32} {c c' k : Nat} {x : Int32} (h : c' ≠ c) : am_us σ c k x c' = σ c' := by
  funext j
  unfold am_us
  rw [if_neg (fun z => h z.1)]
theorem am_ur_ne {ρ : Nat → Nat → Value} {c c' k : Nat} {x : Value} (h : c' ≠ c) : am_ur ρ c k x c' = ρ c' := by
  funext j
  unfold am_ur
  rw [if_neg (fun z => h z.1)]
theorem am_fw {idx n n2 : Nat} (h : am_FW.any (fun z => z.1 == q.1 && (z.2.1 == idx && (z.2.2.1 == n && z.2.2.2 == n2))) = true) : Cond.fieldLink (am_cn q.1) idx (am_F n n2).1 (am_F n n2).2.1 (am_F n n2).2.2.1 ∈ am_tb := by
  obtain ⟨z, hz, h⟩ := am_anyK h
  simp only [Bool.and_eq_true, beq_iff_eq] at h
  obtain ⟨h1, h2, h3, h4⟩ := h
  subst h2; subst h3; subst h4
  rw [← h1]
  exact am_tb_in (am_mem am_FWe _ (List.mem_map.mpr ⟨z, hz, rfl⟩)) rfl
theorem am_cls_at {n : Nat} (h : n < 10) : am_cls[n]? = some (am_cn n, am_F n, am_N n) := by
  rcases hq : am_cls[n]? with _ | w
  · have : am_cls.length ≤ n := by simpa using hq
    have h2 : am_cls.length = 10 := rfl
    omega
  · rw [(am_clsOk n w hq).1]
theorem am_lay_in {n k : Nat} (h : n < 10) (hk : k < am_N n) : u_lay (am_cn n) (am_F n) k ∈ am_tb := by
  have h1 := (am_clsOk n _ (am_cls_at h)).2.1 _ (u_in_lay hk)
  refine am_tb_in h1 ?_
  unfold u_lay
  split <;> rfl
theorem am_u_in {n : Nat} (h : n < 10) : ∀ w ∈ u_ws (am_cn n) (am_F n) (am_N n), w ∈ am_tb := by
  intro w hw
  obtain ⟨k, hk, rfl⟩ := List.mem_map.mp hw
  exact am_lay_in h (List.mem_range.mp hk)
theorem am_x_getfield {pc idx n n2 : Nat} {L : am_L} {S : List Value} {T : am_T} {ρ : Nat → Nat → Value} {σ : Nat → Nat → Int32} {st : am_S} (hd : decode q.2.2.1 pc = .ok (.getfield idx, 3)) (ho : am_FW.any (fun z => z.1 == q.1 && (z.2.1 == idx && (z.2.2.1 == n && z.2.2.2 == n2))) = true) (hn2 : n2 < am_N n) (hn : n < 10) (h : am_ex3 (.getfield idx) (pc + 3) n n2 L S T ρ σ = some st) : am_St l D DA b sz q (pc, L, S, T, ρ, σ) st := by
  simp only [am_ex3] at h
  split at h
  · rename_i c S
    split at h
    · rename_i hT
      have key : am_St l D DA b sz q (pc, L, .ref c :: S, T, ρ, σ) (pc + 3, L, am_val ρ σ n c n2 :: S, T, ρ, σ) := am_st_p (by
        intro p e R s m args below meth co Q ls H locs cells slots hA hf hl hc hs hL hO k
        obtain ⟨hx, hb, hml, hown, hts, hK, hin⟩ := hA
        obtain ⟨-, w, hw, cell, q1, q2, q3, q4⟩ := hO.2.2.2 c _ hT
        have hc0 := am_cls_at hn
        have hw2 : w = (am_cn n, am_F n, am_N n) := Option.some.inj (hw.symm.trans hc0)
        subst hw2
        obtain ⟨hS, hfc, kC, hkC, hkind⟩ := hK.1.1 n _ hc0
        obtain ⟨cf, kf, fi, f, hi, hsl⟩ := hS n2 hn2
        refine W.getf hx hb hown (hts _ (am_fw ho)) hi (u_facts hfc hkC (u_lays hts (am_u_in hn) hn2) hi).1 q1 (by rw [q3]; exact fun h => by cases h) (v := am_v b sz (am_val ρ σ n c n2)) ?_ rfl rfl hd k
        rw [hsl]
        exact q4 n2 hn2)
      split at h
      · rename_i hI
        cases h
        have e1 : am_val ρ σ n c n2 = .int (σ c n2) := by unfold am_val; rw [if_pos hI]
        rw [e1] at key
        exact key
      · rename_i hI
        cases h
        have e1 : am_val ρ σ n c n2 = ρ c n2 := by unfold am_val; rw [if_neg hI]
        rw [e1] at key
        exact key
    · cases h
  · cases h
/-- a field is written -/
theorem am_put {pc idx n n2 c : Nat} {x : Value} {L : am_L} {S : List Value} {T : am_T} {ρ ρ' : Nat → Nat → Value} {σ σ' : Nat → Nat → Int32} (hd : decode q.2.2.1 pc = .ok (.putfield idx, 3)) (ho : am_FW.any (fun z => z.1 == q.1 && (z.2.1 == idx && (z.2.2.1 == n && z.2.2.2 == n2))) = true) (hn2 : n2 < am_N n) (hn : n < 10) (hfin : (!(am_F n n2).2.2.2 || (q.2.2.2.2.2.2.2 && decide ((am_F n n2).1 = am_cn q.1))) = true)
    (hT : T[c]? = some (.inl n)) (hr : ∀ c', c' ≠ c → ρ' c' = ρ c') (hs : ∀ c', c' ≠ c → σ' c' = σ c') (hv : ∀ k, k < am_N n → am_v b sz (am_val ρ' σ' n c k) = updV (fun k => am_v b sz (am_val ρ σ n c k)) n2 (am_v b sz x) k) (hnar : narrow (am_fty n n2) (am_v b sz x) = am_v b sz x) (hfit : fits (am_fty n n2) (am_v b sz x) = true) :
    am_St l D DA b sz q (pc, L, x :: .ref c :: S, T, ρ, σ) (pc + 3, L, S, T, ρ', σ') := am_st_h (by
  intro p e R s m args below meth co Q ls H locs cells slots hA hO hlo k
  obtain ⟨hx, hb, hml, hown, hts, hK, hin⟩ := hA
  obtain ⟨hc00, w, hw, cell, q1, q2, q3, q4⟩ := hO.2.2.2 c _ hT
  have hc0 := am_cls_at hn
  have hw2 : w = (am_cn n, am_F n, am_N n) := Option.some.inj (hw.symm.trans hc0)
  subst hw2
  have hcl := am_clsOk n _ hc0
  have hap := va_apart (own := am_cn n) hts (am_u_in hn) (am_fty n) hcl.2.2.1 hcl.2.2.2.1 hK.1 hc0
  obtain ⟨hS, hfc, kC, hkC, hkind⟩ := hK.1.1 n _ hc0
  obtain ⟨cf, kf, fi, f, hi, hsl⟩ := hS n2 hn2
  have hst := (u_facts hfc hkC (u_lays hts (am_u_in hn) hn2) hi).1
  have hty := hcl.2.2.1 n2 hn2
  have hbase : sz ≤ am_ad b sz c := by rw [am_ad_pos hc00]; omega
  have fin : ∀ (H' : Heap), H'[am_ad b sz c]? = some (cell.setSlot f.slot (am_v b sz x)) → H'.size = H.size → (∀ z, z ≠ am_ad b sz c → H'[z]? = H[z]?) → W p l e R s m args below meth co H' (locs ++ [⟨am_ad b sz c, f.slot⟩]) cells slots Q (F0 m (pc + 3) ls (S.map (am_v b sz))) := by
    intro H' e1 e2 e3
    refine k H' _ (hO.set hr hs e2 e3 (fun y hy => ?_)) (fun z hz => ?_)
    · have hy2 : y = .inl n := Option.some.inj (hy.symm.trans hT)
      subst hy2
      refine ⟨hc00, _, hc0, t_OB.to (V := updV (fun k => am_v b sz (am_val ρ σ n c k)) n2 (am_v b sz x)) ⟨_, e1, q2, q3, ?_⟩ (fun j hj => (hv j hj).symm)⟩
      rw [hsl]
      exact t_set q4 hap hn2 _
    · rcases List.mem_append.mp hz with hz | hz
      · exact hlo z hz
      · rw [List.mem_singleton.mp hz]; exact hbase
  by_cases hf : (am_F n n2).2.2.2 = true
  · rw [hf] at hfin
    simp only [Bool.not_true, Bool.false_or, Bool.and_eq_true, decide_eq_true_eq] at hfin
    have hlay := hts _ (am_lay_in hn hn2)
    unfold u_lay at hlay
    rw [if_pos hf] at hlay
    have hcf : m.cls = cf := by
      obtain ⟨_, _, c', _, _, _, -, -, hf', -, -, -, hown2, -⟩ := Cond.laysFinal_spec hlay
      have e1 : c' = cf := by have := hi.symm.trans hf'; simp at this; exact this.1.symm
      rw [hfin.2] at hown2
      rw [← e1]; exact Option.some.inj (hown.symm.trans hown2)
    have h6 := u_fits hfc hkC hkind (Or.inr hlay) hi hty hnar hfit
    exact W.putFinK hx hb hown (hts _ (am_fw ho)) hi hst hcf (hin hfin.1) (by rw [q2]; exact h6) q1 q3 (by rw [hsl]; exact k2_hasslot (q4 n2 hn2)) rfl rfl hd fin
  · have hlay := hts _ (am_lay_in hn hn2)
    unfold u_lay at hlay
    rw [if_neg hf] at hlay
    have h6 := u_store hfc hkC hkind hlay hi hty hnar hfit
    exact W.putK hx hb (f := f) ⟨hown, hts _ (am_fw ho), ⟨_, _, _, hi⟩, hst⟩ (by rw [q2]; exact h6) q1 q3 (by rw [hsl]; exact k2_hasslot (q4 n2 hn2)) rfl rfl hd fin)
theorem am_isI_cases {ty : FieldType} (h : am_isI ty = true) : ty = .int ∨ ty = .boolean := by cases ty <;> first | exact Or.inl rfl | exact Or.inr rfl | (cases h)
theorem am_ftyR : ∀ n, n < 10 → ∀ k, k < am_N n → am_isI (am_fty n k) = false → (∃ C, am_fty n k = .object C) ∨ ∃ t, am_fty n k = .array t := by
  have key : ∀ n, n < 10 → ∀ k, k < am_N n → am_isI (am_fty n k) = false → (match am_fty n k with | .object _ => true | .array _ => true | _ => false) = true := by decide +kernel
  intro n hn k hk h
  have := key n hn k hk h
  cases ht : am_fty n k <;> rw [ht] at this <;> first | exact Or.inl ⟨_, rfl⟩ | exact Or.inr ⟨_, rfl⟩ | (cases this)
theorem am_x_putfield {pc idx n n2 : Nat} {L : am_L} {S : List Value} {T : am_T} {ρ : Nat → Nat → Value} {σ : Nat → Nat → Int32} {st : am_S} (hd : decode q.2.2.1 pc = .ok (.putfield idx, 3)) (ho : am_FW.any (fun z => z.1 == q.1 && (z.2.1 == idx && (z.2.2.1 == n && z.2.2.2 == n2))) = true) (hn2 : n2 < am_N n) (hn : n < 10) (hfin : (!(am_F n n2).2.2.2 || (q.2.2.2.2.2.2.2 && decide ((am_F n n2).1 = am_cn q.1))) = true) (h : am_ex3 (.putfield idx) (pc + 3) n n2 L S T ρ σ = some st) : am_St l D DA b sz q (pc, L, S, T, ρ, σ) st := by
  have hvI : ∀ (c : Nat) (x : Int32), am_isI (am_fty n n2) = true → ∀ k, k < am_N n → am_v b sz (am_val ρ (am_us σ c n2 x) n c k) = updV (fun k => am_v b sz (am_val ρ σ n c k)) n2 (am_v b sz (.int x)) k := by
    intro c x hI k _
    unfold updV
    by_cases hk : k = n2
    · subst hk
      rw [if_pos rfl]
      unfold am_val am_us
      rw [if_pos hI, if_pos ⟨rfl, rfl⟩]
    · rw [if_neg hk]
      unfold am_val am_us
      rw [if_neg (fun z : c = c ∧ k = n2 => hk z.2)]
  have hvR : ∀ (c : Nat) (x : Value), am_isI (am_fty n n2) = false → ∀ k, k < am_N n → am_v b sz (am_val (am_ur ρ c n2 x) σ n c k) = updV (fun k => am_v b sz (am_val ρ σ n c k)) n2 (am_v b sz x) k := by
    intro c x hI k _
    unfold updV
    by_cases hk : k = n2
    · subst hk
      rw [if_pos rfl]
      unfold am_val am_ur
      rw [if_neg (by rw [hI]; decide), if_pos ⟨rfl, rfl⟩]
    · rw [if_neg hk]
      unfold am_val am_ur
      rw [if_neg (fun z : c = c ∧ k = n2 => hk z.2)]
  simp only [am_ex3] at h
  split at h
  · rename_i x c S
    split at h
    · rename_i hT
      split at h
      · rename_i hI
        split at h
        · rename_i hB
          split at h
          · rename_i h01
            cases h
            have hty : am_fty n n2 = .boolean := by
              cases ht : am_fty n n2 <;> rw [ht] at hB <;> first | rfl | (cases hB)
            refine am_put hd ho hn2 hn hfin hT (fun _ _ => rfl) (fun c' hc' => am_us_ne hc') (hvI c x hI) ?_ ?_
            · rw [hty]
              rcases h01 with rfl | rfl <;> rfl
            · rw [hty]
              rcases h01 with rfl | rfl <;> rfl
          · cases h
        · rename_i hB
          cases h
          have hty : am_fty n n2 = .int := by
            rcases am_isI_cases hI with h9 | h9
            · exact h9
            · exact absurd (by rw [h9]; rfl) hB
          refine am_put hd ho hn2 hn hfin hT (fun _ _ => rfl) (fun c' hc' => am_us_ne hc') (hvI c x hI) ?_ ?_
          · rw [hty]; rfl
          · rw [hty]; rfl
      · cases h
    · cases h
  · rename_i x c S
    split at h
    · rename_i hT
      split at h
      · cases h
      · rename_i hI
        cases h
        have hI2 : am_isI (am_fty n n2) = false := by simpa using hI
        refine am_put hd ho hn2 hn hfin hT (fun c' hc' => am_ur_ne hc') (fun _ _ => rfl) (hvR c _ hI2) ?_ ?_
        · rcases am_ftyR n hn n2 hn2 hI2 with ⟨C, e⟩ | ⟨t, e⟩ <;> rw [e] <;> rfl
        · rcases am_ftyR n hn n2 hn2 hI2 with ⟨C, e⟩ | ⟨t, e⟩ <;> rw [e] <;> rfl
    · cases h
  · rename_i c S
    split at h
    · rename_i hT
      split at h
      · cases h
      · rename_i hI
        cases h
        have hI2 : am_isI (am_fty n n2) = false := by simpa using hI
        refine am_put hd ho hn2 hn hfin hT (fun c' hc' => am_ur_ne hc') (fun _ _ => rfl) (hvR c _ hI2) ?_ ?_
        · rcases am_ftyR n hn n2 hn2 hI2 with ⟨C, e⟩ | ⟨t, e⟩ <;> rw [e] <;> rfl
        · rcases am_ftyR n hn n2 hn2 hI2 with ⟨C, e⟩ | ⟨t, e⟩ <;> rw [e] <;> rfl
    · cases h
  · cases h
end AMS
end
section
/-! group 3: arrays, and what makes cells -/
section AMS
variable {l : Launch} {D : va_G} {DA : Nat → ClassId} {b sz : Nat} {q : am_M}
theorem am_lay0 {s : State} (hK : am_K D DA s) : ArrOfT s (DA 0) .int := (hK.1.2 0 (DA 0, .int) rfl).1
theorem am_lay1 {s : State} (hK : am_K D DA s) : ArrOfT s (DA 1) .boolean := (hK.1.2 1 (DA 1, .boolean) rfl).1
theorem am_lay2 {s : State} (hK : am_K D DA s) : ArrOfT s (DA 2) (.object "BoxNest$Box") := (hK.1.2 2 (DA 2, .object "BoxNest$Box") rfl).1
theorem am_arrI {s : State} {T : am_T} {ρ : Nat → Nat → Value} {σ : Nat → Nat → Int32} {H : Heap} {c t m : Nat} (hK : am_K D DA s) (hO : am_ok D DA b sz s (T, ρ, σ) H) (hT : T[c]? = some (.inr (t, m))) (ht : t = 0 ∨ t = 9) : ∃ cell : Cell, H[am_ad b sz c]? = some cell ∧ s.isArrayOf cell .int ∧ cell.vm ≠ .unknown ∧ cell.slots.size = m ∧ ∀ j : Nat, j < m → cell.slots[j]? = some (.int (σ c j)) := by
  rcases hO.2.2.2 c _ hT with ⟨h1, rfl, scr, g1, g2, g3, g4, g5⟩ | ⟨h1, h0, h2⟩ | ⟨h1, h0, h2⟩
  · exact ⟨scr, g1, g2, g3, g4, g5⟩
  · have h9 : t = 0 := by omega
    subst h9
    exact ⟨_, h2, am_lay0 hK m _, (fun h => by cases h), arrV_size _ _ _, fun j hj => arrV_read _ _ hj⟩
  · omega
theorem am_x_iaload {pc n n2 : Nat} {L : am_L} {S : List Value} {T : am_T} {ρ : Nat → Nat → Value} {σ : Nat → Nat → Int32} {st : am_S} (hd : decode q.2.2.1 pc = .ok (.iaload, 1)) (h : am_ex3 .iaload (pc + 1) n n2 L S T ρ σ = some st) : am_St l D DA b sz q (pc, L, S, T, ρ, σ) st := by
  simp only [am_ex3] at h
  split at h
  · rename_i x c S
    split at h
    · rename_i t mm hT
      split at h
      · rename_i hg
        cases h
        exact am_st_p (by
          intro p e R s m args below meth co Q ls H locs cells slots hA hf hl hc hs hL hO k
          obtain ⟨hx, hb, hml, hown, hts, hK, hin⟩ := hA
          obtain ⟨cell, g1, g2, g3, g4, g5⟩ := am_arrI hK hO hT hg.1
          exact W.iald (v := .int (σ c x.toNatClampNeg)) hx hb g1 g2 g3 (by rw [g4]; exact hg.2) (g5 _ (Nat.not_le.mp fun z => hg.2 (Or.inr z))) rfl rfl hd k)
      · cases h
    · cases h
  · cases h
theorem am_x_baload {pc n n2 : Nat} {L : am_L} {S : List Value} {T : am_T} {ρ : Nat → Nat → Value} {σ : Nat → Nat → Int32} {st : am_S} (hd : decode q.2.2.1 pc = .ok (.baload, 1)) (h : am_ex3 .baload (pc + 1) n n2 L S T ρ σ = some st) : am_St l D DA b sz q (pc, L, S, T, ρ, σ) st := by
  simp only [am_ex3] at h
  split at h
  · rename_i x c S
    split at h
    · rename_i t mm hT
      split at h
      · rename_i hg
        cases h
        exact am_st_p (by
          intro p e R s m args below meth co Q ls H locs cells slots hA hf hl hc hs hL hO k
          obtain ⟨hx, hb, hml, hown, hts, hK, hin⟩ := hA
          obtain ⟨rfl, hg⟩ := hg
          rcases hO.2.2.2 c _ hT with ⟨h1, -⟩ | ⟨h1, h0, h2⟩ | ⟨h1, h0, h2⟩
          · omega
          · exact W.zald (v := .int (σ c x.toNatClampNeg)) hx hb h2 (am_lay1 hK mm _) (fun h => by cases h) (by rw [arrV_size]; exact hg) (arrV_read _ _ (Nat.not_le.mp fun z => hg (Or.inr z))) rfl rfl hd k
          · omega)
      · cases h
    · cases h
  · cases h
theorem am_x_aaload {pc n n2 : Nat} {L : am_L} {S : List Value} {T : am_T} {ρ : Nat → Nat → Value} {σ : Nat → Nat → Int32} {st : am_S} (hd : decode q.2.2.1 pc = .ok (.aaload, 1)) (h : am_ex3 .aaload (pc + 1) n n2 L S T ρ σ = some st) : am_St l D DA b sz q (pc, L, S, T, ρ, σ) st := by
  simp only [am_ex3] at h
  split at h
  · rename_i x c S
    split at h
    · rename_i t mm hT
      split at h
      · rename_i hg
        cases h
        exact am_st_p (by
          intro p e R s m args below meth co Q ls H locs cells slots hA hf hl hc hs hL hO k
          obtain ⟨hx, hb, hml, hown, hts, hK, hin⟩ := hA
          obtain ⟨rfl, hg⟩ := hg
          rcases hO.2.2.2 c _ hT with ⟨h1, -⟩ | ⟨h1, h0, h2⟩ | ⟨h1, h0, h2⟩
          · omega
          · omega
          · exact W.aald (v := am_v b sz (ρ c x.toNatClampNeg)) hx hb h2 (am_lay2 hK mm _) rfl (fun h => by cases h) (by rw [arrV_size]; exact hg) (arrV_read _ _ (Nat.not_le.mp fun z => hg (Or.inr z))) rfl rfl hd k)
      · cases h
    · cases h
  · cases h
theorem am_updI {σ : Nat → Nat → Int32} {c j : Nat} {y : Int32} : updV (fun k => Value.int (σ c k)) j (.int y) = fun k => Value.int (am_us σ c j y c k) := by
  funext k
  unfold updV am_us
  by_cases h : k = j
  · rw [if_pos h, if_pos ⟨rfl, h⟩]
  · rw [if_neg h, if_neg (fun z => h z.2)]
theorem am_updR {ρ : Nat → Nat → Value} {c j : Nat} {y : Value} : updV (fun k => am_v b sz (ρ c k)) j (am_v b sz y) = fun k => am_v b sz (am_ur ρ c j y c k) := by
  funext k
  unfold updV am_ur
  by_cases h : k = j
  · rw [if_pos h, if_pos ⟨rfl, h⟩]
  · rw [if_neg h, if_neg (fun z => h z.2)]
theorem am_locs {locs : List Loc} {c i : Nat} (h0 : 0 < c) (hlo : ∀ z ∈ locs, sz ≤ z.base) : ∀ z ∈ locs ++ [(⟨am_ad b sz c, i⟩ : Loc)], sz ≤ z.base := by
  intro z hz
  rcases List.mem_append.mp hz with hz | hz
  · exact hlo z hz
  · rw [List.mem_singleton.mp hz]
    show sz ≤ am_ad b sz c
    rw [am_ad_pos h0]
    omega
theorem am_x_iastore {pc n n2 : Nat} {L : am_L} {S : List Value} {T : am_T} {ρ : Nat → Nat → Value} {σ : Nat → Nat → Int32} {st : am_S} (hd : decode q.2.2.1 pc = .ok (.iastore, 1)) (h : am_ex3 .iastore (pc + 1) n n2 L S T ρ σ = some st) : am_St l D DA b sz q (pc, L, S, T, ρ, σ) st := by
  simp only [am_ex3] at h
  split at h
  · rename_i y x c S
    split at h
    · rename_i t mm hT
      split at h
      · rename_i hg
        cases h
        exact am_st_h (by
          intro p e R s m args below meth co Q ls H locs cells slots hA hO hlo k
          obtain ⟨hx, hb, hml, hown, hts, hK, hin⟩ := hA
          obtain ⟨rfl, hg⟩ := hg
          rcases hO.2.2.2 c _ hT with ⟨h1, -⟩ | ⟨h1, h0, h2⟩ | ⟨h1, h0, h2⟩
          · omega
          · refine W.iast hx hb h2 (am_lay0 hK mm _) (fun h => by cases h) (by rw [arrV_size]; exact hg) rfl rfl hd fun H' e1 e2 e3 => ?_
            refine k H' _ (hO.set (fun _ _ => rfl) (fun c' hc' => am_us_ne hc') e2 e3 (fun z hz => ?_)) (am_locs h0 hlo)
            have hz2 : z = .inr (0, mm) := Option.some.inj (hz.symm.trans hT)
            subst hz2
            exact Or.inr (Or.inl ⟨h1, h0, by rw [e1, arrV_store, am_updI]⟩)
          · omega)
      · cases h
    · cases h
  · cases h
theorem am_x_bastore {pc n n2 : Nat} {L : am_L} {S : List Value} {T : am_T} {ρ : Nat → Nat → Value} {σ : Nat → Nat → Int32} {st : am_S} (hd : decode q.2.2.1 pc = .ok (.bastore, 1)) (h : am_ex3 .bastore (pc + 1) n n2 L S T ρ σ = some st) : am_St l D DA b sz q (pc, L, S, T, ρ, σ) st := by
  simp only [am_ex3] at h
  split at h
  · rename_i y x c S
    split at h
    · rename_i t mm hT
      split at h
      · rename_i hg
        cases h
        exact am_st_h (by
          intro p e R s m args below meth co Q ls H locs cells slots hA hO hlo k
          obtain ⟨hx, hb, hml, hown, hts, hK, hin⟩ := hA
          obtain ⟨rfl, hg, hy⟩ := hg
          have hnar : narrow .boolean (.int y) = .int y := by rcases hy with rfl | rfl <;> rfl
          rcases hO.2.2.2 c _ hT with ⟨h1, -⟩ | ⟨h1, h0, h2⟩ | ⟨h1, h0, h2⟩
          · omega
          · refine W.zast hx hb h2 (am_lay1 hK mm _) (fun h => by cases h) (by rw [arrV_size]; exact hg) rfl rfl hd fun H' e1 e2 e3 => ?_
            refine k H' _ (hO.set (fun _ _ => rfl) (fun c' hc' => am_us_ne hc') e2 e3 (fun z hz => ?_)) (am_locs h0 hlo)
            have hz2 : z = .inr (1, mm) := Option.some.inj (hz.symm.trans hT)
            subst hz2
            exact Or.inr (Or.inl ⟨h1, h0, by rw [e1, hnar, arrV_store, am_updI]⟩)
          · omega)
      · cases h
    · cases h
  · cases h
theorem am_x_aastore {pc n n2 : Nat} {L : am_L} {S : List Value} {T : am_T} {ρ : Nat → Nat → Value} {σ : Nat → Nat → Int32} {st : am_S} (hd : decode q.2.2.1 pc = .ok (.aastore, 1)) (h : am_ex3 .aastore (pc + 1) n n2 L S T ρ σ = some st) : am_St l D DA b sz q (pc, L, S, T, ρ, σ) st := by
  simp only [am_ex3] at h
  split at h
  · rename_i y x c S
    split at h
    · rename_i t mm hT
      split at h
      · rename_i hg
        cases h
        exact am_st_h (by
          intro p e R s m args below meth co Q ls H locs cells slots hA hO hlo k
          obtain ⟨hx, hb, hml, hown, hts, hK, hin⟩ := hA
          obtain ⟨rfl, hg, hy⟩ := hg
          rcases hO.2.2.2 c _ hT with ⟨h1, -⟩ | ⟨h1, h0, h2⟩ | ⟨h1, h0, h2⟩
          · omega
          · omega
          · obtain ⟨hy0, w, hw, cellV, g1, g2, g3, -⟩ := hO.2.2.2 y _ hy
            have hlt : x.toNatClampNeg < mm := Nat.not_le.mp fun z => hg (Or.inr z)
            have hx0 : ¬ x < 0 := fun z => hg (Or.inl z)
            have hcls := (hK.1.1 2 _ (am_cls_at (n := 2) (by decide))).2
            obtain ⟨kA, comp, k1, k2, k3, -⟩ := (hK.1.2 2 (DA 2, .object "BoxNest$Box") rfl).2
            have hcomp : comp = D.1 2 := Option.some.inj (k3.symm.trans hcls.1)
            subst hcomp
            obtain ⟨kC, hkC, -⟩ := hcls.2
            refine W.aast hx hb h2 (fun z h => by cases h) (fun h => by cases h) k1 k2 rfl hkC ⟨hx0, by rw [arrV_size]; exact hlt⟩ g1 (fun z h => by rw [g3] at h; cases h) (by rw [g2]; exact hkC) (by rw [g2]; exact va_assign hcls) rfl rfl hd fun H' e1 e2 e3 => ?_
            refine k H' _ (hO.set (fun c' hc' => am_ur_ne hc') (fun _ _ => rfl) e2 e3 (fun z hz => ?_)) (am_locs h0 hlo)
            have hz2 : z = .inr (2, mm) := Option.some.inj (hz.symm.trans hT)
            subst hz2
            refine Or.inr (Or.inr ⟨h1, h0, ?_⟩)
            rw [e1, arrV_store]
            exact congrArg (fun f => some (arrV (DA 2) mm f)) (am_updR (y := .ref y)))
      · cases h
    · cases h
  · cases h
theorem am_x_arraylength {pc n n2 : Nat} {L : am_L} {S : List Value} {T : am_T} {ρ : Nat → Nat → Value} {σ : Nat → Nat → Int32} {st : am_S} (hd : decode q.2.2.1 pc = .ok (.arraylength, 1)) (h : am_ex3 .arraylength (pc + 1) n n2 L S T ρ σ = some st) : am_St l D DA b sz q (pc, L, S, T, ρ, σ) st := by
  simp only [am_ex3] at h
  split at h
  · rename_i c S
    split at h
    · rename_i t mm hT
      cases h
      exact am_st_p (by
        intro p e R s m args below meth co Q ls H locs cells slots hA hf hl hc hs hL hO k
        obtain ⟨hx, hb, hml, hown, hts, hK, hin⟩ := hA
        rcases hO.2.2.2 c _ hT with ⟨h1, rfl, scr, g1, g2, g3, g4, g5⟩ | ⟨h1, h0, h2⟩ | ⟨h1, h0, h2⟩
        · exact W.alen (n := Int32.ofNat mm) hx hb g1 g2 (by rw [g4] <;> rfl) rfl rfl hd k
        · have ht : t = 0 ∨ t = 1 := by omega
          rcases ht with rfl | rfl
          · exact W.alen (n := Int32.ofNat mm) hx hb h2 (am_lay0 hK mm _) (by rw [arrV_size] <;> rfl) rfl rfl hd k
          · exact W.alen (n := Int32.ofNat mm) hx hb h2 (am_lay1 hK mm _) (by rw [arrV_size] <;> rfl) rfl rfl hd k
        · exact W.alen (n := Int32.ofNat mm) hx hb h2 (am_lay2 hK mm _) (by rw [arrV_size] <;> rfl) rfl rfl hd k)
    · cases h
  · cases h
theorem am_ns_app (T : am_T) (x : Nat ⊕ (Nat × Nat)) : am_ns (T ++ [x]) = am_ns T + am_w1 x := by
  unfold am_ns
  simp
/-- a new cell -/
theorem am_ok.push {s : State} {T : am_T} {ρ : Nat → Nat → Value} {σ : Nat → Nat → Int32} {H H' : Heap} {x : Nat ⊕ (Nat × Nat)} (h : am_ok D DA b sz s (T, ρ, σ) H) (hz : H'.size = H.size + 1) (ho : ∀ a, a < H.size → H'[a]? = H[a]?) (hc : am_cell D DA b sz s (am_zr ρ T.length) (am_zs σ T.length) H' T.length x) : am_ok D DA b sz s (T ++ [x], am_zr ρ T.length, am_zs σ T.length) H' := by
  obtain ⟨h1, ⟨n, h2⟩, h3, h4⟩ := h
  have h3 : H.size + 1 = sz + T.length := h3
  have hT0 : 0 < T.length := (List.getElem?_eq_some_iff.mp h2).1
  refine ⟨h1, ⟨n, ?_⟩, ?_, fun c y hy => ?_⟩
  · show (T ++ [x])[0]? = _
    rw [List.getElem?_append_left hT0]; exact h2
  · show H'.size + 1 = sz + (T ++ [x]).length
    rw [List.length_append, hz]
    simp
    omega
  · have hy : (T ++ [x])[c]? = some y := hy
    by_cases hl : c < T.length
    · rw [List.getElem?_append_left hl] at hy
      refine (h4 c y hy).kept ?_ ?_ (ho _ ?_)
      · funext j; show am_zr ρ T.length c j = ρ c j; unfold am_zr; rw [if_neg (by omega)]
      · funext j; show am_zs σ T.length c j = σ c j; unfold am_zs; rw [if_neg (by omega)]
      · unfold am_ad
        split <;> omega
    · rw [List.getElem?_append_right (by omega)] at hy
      have hk : c - T.length < 1 := (List.getElem?_eq_some_iff.mp hy).1
      have hk0 : c = T.length := by omega
      subst hk0
      rw [Nat.sub_self] at hy
      cases hy
      exact hc
theorem am_T0 {s : State} {T : am_T} {ρ : Nat → Nat → Value} {σ : Nat → Nat → Int32} {H : Heap} (h : am_ok D DA b sz s (T, ρ, σ) H) : 0 < T.length ∧ am_ad b sz T.length = H.size := by
  obtain ⟨h1, ⟨n, h2⟩, h3, h4⟩ := h
  have h3 : H.size + 1 = sz + T.length := h3
  have hT0 : 0 < T.length := (List.getElem?_eq_some_iff.mp h2).1
  exact ⟨hT0, by rw [am_ad_pos hT0]; omega⟩
theorem am_new_St {pc nx : Nat} {L : am_L} {S S' : List Value} {T : am_T} {x : Nat ⊕ (Nat × Nat)} {ρ : Nat → Nat → Value} {σ : Nat → Nat → Int32}
    (h : ∀ (p : Program) (e : Env) (R : Room) (s : State) (m : MethodId) (args : Array Value) (below : List Frame) (meth : Method) (c : Code) (Q : State → Prop) (ls : Array Slot) (H : Heap) (locs : List Loc) (cells slots : Nat),
      am_At D DA q p s m args meth c → cells + 1 ≤ R.cells → slots + am_w1 x ≤ R.slots → am_ok D DA b sz s (T, ρ, σ) H →
      (∀ (H' : Heap), am_ok D DA b sz s (T ++ [x], am_zr ρ T.length, am_zs σ T.length) H' → W p l e R s m args below meth c H' locs (cells + 1) (slots + am_w1 x) Q (F0 m nx ls (.ref H.size :: S'.map (am_v b sz)))) → W p l e R s m args below meth c H locs cells slots Q (F0 m pc ls (S.map (am_v b sz)))) :
    am_St l D DA b sz q (pc, L, S, T, ρ, σ) (nx, L, .ref T.length :: S', T ++ [x], am_zr ρ T.length, am_zs σ T.length) := by
  have e1 : (T ++ [x]).length - T.length = 1 := by simp
  have e2 : am_ns (T ++ [x]) - am_ns T = am_w1 x := by rw [am_ns_app]; omega
  refine ⟨by show T.length ≤ (T ++ [x]).length; simp, by show am_ns T ≤ am_ns (T ++ [x]); rw [am_ns_app]; omega, ?_⟩
  intro p e R s m args below meth c Q ls H locs cells slots hA hf hl hc hs hL hO hlo k
  have hc : cells + ((T ++ [x]).length - T.length) ≤ R.cells := hc
  have hs : slots + (am_ns (T ++ [x]) - am_ns T) ≤ R.slots := hs
  rw [e1] at hc
  rw [e2] at hs
  refine h p e R s m args below meth c Q ls H locs cells slots hA hc hs hO (fun H' hO' => ?_)
  have hk : W p l e R s m args below meth c H' locs (cells + ((T ++ [x]).length - T.length)) (slots + (am_ns (T ++ [x]) - am_ns T)) Q (F0 m nx ls (am_v b sz (.ref T.length) :: S'.map (am_v b sz))) := k ls H' locs hL hO' hlo
  rw [e1, e2] at hk
  have e3 : am_v b sz (.ref T.length) = .ref H.size := by
    show Value.ref (am_ad b sz T.length) = _
    rw [(am_T0 hO).2]
  rw [e3] at hk
  exact hk
theorem am_cw {idx n : Nat} (h : am_CW.any (fun z => z.1 == q.1 && (z.2.1 == idx && z.2.2 == n)) = true) : Cond.classLink (am_cn q.1) idx (am_cn n) ∈ am_tb := by
  obtain ⟨z, hz, h⟩ := am_anyK h
  simp only [Bool.and_eq_true, beq_iff_eq] at h
  obtain ⟨h1, h2, h3⟩ := h
  subst h2; subst h3
  rw [← h1]
  exact am_tb_in (am_mem am_CWe _ (List.mem_map.mpr ⟨z, hz, rfl⟩)) rfl
theorem am_dflt : ∀ n, n < 10 → ∀ k, k < am_N n → defaultValue (am_fty n k) = if am_isI (am_fty n k) = true then .int 0 else .null := by decide +kernel
theorem am_x_new {pc idx n n2 : Nat} {L : am_L} {S : List Value} {T : am_T} {ρ : Nat → Nat → Value} {σ : Nat → Nat → Int32} {st : am_S} (hd : decode q.2.2.1 pc = .ok (.new idx, 3)) (ho : am_CW.any (fun z => z.1 == q.1 && (z.2.1 == idx && z.2.2 == n)) = true) (hn : n < 10) (h : am_ex3 (.new idx) (pc + 3) n n2 L S T ρ σ = some st) : am_St l D DA b sz q (pc, L, S, T, ρ, σ) st := by
  cases h
  refine am_new_St ?_
  intro p e R s m args below meth co Q ls H locs cells slots hA hc hs hO k
  obtain ⟨hx, hb, hml, hown, hts, hK, hin⟩ := hA
  have hc0 := am_cls_at hn
  have hcl := am_clsOk n _ hc0
  have hKn := hK.1.1 n _ hc0
  have hT0 := am_T0 hO
  refine W.newcK hx hb hown (hts _ (am_cw ho)) (hts _ (am_tb_in hcl.2.2.2.2.1 rfl)) (hts _ (am_tb_in hcl.2.2.2.2.2 rfl)) rfl hd hc hs hKn.2.1 rfl fun H1 kC hkC e1 z1 o1 => ?_
  refine k H1 (hO.push z1 o1 ⟨hT0.1, _, hc0, ?_⟩)
  rw [hT0.2]
  refine (u_born (am_fty n) hts (am_u_in hn) hKn hkC e1 hcl.2.2.1).to (fun j hj => ?_)
  rw [am_dflt n hn j hj]
  unfold am_val am_zr am_zs
  rw [if_pos rfl, if_pos rfl]
  split <;> rfl
theorem am_x_newarray {pc n n2 : Nat} {t : ArrayType} {L : am_L} {S : List Value} {T : am_T} {ρ : Nat → Nat → Value} {σ : Nat → Nat → Int32} {st : am_S} (hd : decode q.2.2.1 pc = .ok (.newarray t, 2)) (ht : newarray.typeOf t = (if n = 0 then FieldType.int else FieldType.boolean)) (hn : n < 2) (h : am_ex3 (.newarray t) (pc + 2) n n2 L S T ρ σ = some st) : am_St l D DA b sz q (pc, L, S, T, ρ, σ) st := by
  simp only [am_ex3] at h
  split at h
  · rename_i x S
    split at h
    · rename_i hg
      cases h
      refine am_new_St ?_
      intro p e R s m args below meth co Q ls H locs cells slots hA hc hs hO k
      obtain ⟨hx, hb, hml, hown, hts, hK, hin⟩ := hA
      have hT0 := am_T0 hO
      have hw : Cond.arrayClass (newarray.typeOf t) ∈ am_tb := by
        rw [ht]
        split
        · exact am_tb_in (List.mem_of_getElem? am_ac_int) rfl
        · exact am_tb_in (List.mem_of_getElem? am_ac_boolean) rfl
      have hty : (newarray.typeOf t = .int ∧ n = 0) ∨ (newarray.typeOf t = .boolean ∧ n = 1) := by
        rw [ht]
        split
        · rename_i h9; exact Or.inl ⟨rfl, h9⟩
        · rename_i h9; exact Or.inr ⟨rfl, by omega⟩
      have hbytes : x.toNatClampNeg * componentBytes (newarray.typeOf t) ≤ 536870912 := by
        have : componentBytes (newarray.typeOf t) ≤ 8 := by rcases hty with ⟨e, -⟩ | ⟨e, -⟩ <;> rw [e] <;> decide
        have h100 := hg.2
        calc x.toNatClampNeg * componentBytes (newarray.typeOf t) ≤ 100000 * 8 := Nat.mul_le_mul h100 this
          _ ≤ 536870912 := by decide
      refine va_newaK hx hb (hts _ hw) rfl hd rfl hg.1 rfl hbytes hc hs rfl fun H1 cA e1 z1 o1 hAr hNm => ?_
      refine k H1 (hO.push z1 o1 (Or.inr (Or.inl ⟨hn, hT0.1, ?_⟩)))
      rw [hT0.2, e1]
      have hdv : defaultValue (newarray.typeOf t) = .int 0 := by rcases hty with ⟨e, -⟩ | ⟨e, -⟩ <;> rw [e] <;> rfl
      have hcA : cA = DA n := by
        rcases hty with ⟨e, rfl⟩ | ⟨e, rfl⟩
        · rw [e] at hNm
          exact Option.some.inj (hNm.symm.trans (hK.1.2 0 (DA 0, .int) rfl).2)
        · rw [e] at hNm
          exact Option.some.inj (hNm.symm.trans (hK.1.2 1 (DA 1, .boolean) rfl).2)
      rw [hcA, hdv]
      refine congrArg (fun f => some (arrV (DA n) x.toNatClampNeg f)) ?_
      funext j
      unfold am_zs
      rw [if_pos rfl]
    · cases h
  · cases h
theorem am_x_anewarray {pc idx n n2 : Nat} {L : am_L} {S : List Value} {T : am_T} {ρ : Nat → Nat → Value} {σ : Nat → Nat → Int32} {st : am_S} (hd : decode q.2.2.1 pc = .ok (.anewarray idx, 3)) (ho : am_CW.any (fun z => z.1 == q.1 && (z.2.1 == idx && z.2.2 == 2)) = true) (h : am_ex3 (.anewarray idx) (pc + 3) n n2 L S T ρ σ = some st) : am_St l D DA b sz q (pc, L, S, T, ρ, σ) st := by
  simp only [am_ex3] at h
  split at h
  · rename_i x S
    split at h
    · rename_i hg
      cases h
      refine am_new_St ?_
      intro p e R s m args below meth co Q ls H locs cells slots hA hc hs hO k
      obtain ⟨hx, hb, hml, hown, hts, hK, hin⟩ := hA
      have hT0 := am_T0 hO
      refine W.anew hx hb hown (hts _ (am_cw ho)) hK.2.1.use rfl hd rfl hg.1 (by have := hg.2; omega) hc hs fun cA kA comp a1 a2 a3 a4 => ?_
      refine k _ (hO.push (by simp) (fun a ha => by rw [Array.getElem?_push, if_neg (Nat.ne_of_lt ha)]) (Or.inr (Or.inr ⟨rfl, hT0.1, ?_⟩)))
      have hcA : cA = DA 2 := by
        obtain ⟨kA', comp', b1, b2, b3, b4⟩ := (hK.1.2 2 (DA 2, .object "BoxNest$Box") rfl).2
        exact Option.some.inj (a1.symm.trans b4)
      rw [hT0.2, arrV_new, hcA]
      simp only [Array.getElem?_push_size]
      refine congrArg (fun f => some (arrV (DA 2) x.toNatClampNeg f)) ?_
      funext j
      unfold am_zr
      rw [if_pos rfl]
      rfl
    · cases h
  · cases h
end AMS
end
section
/-! group 4, and all groups together -/
section AMS
variable {l : Launch} {D : va_G} {DA : Nat → ClassId} {b sz : Nat} {q : am_M}
theorem am_cat_v (S : List Value) : ((S.map (am_v b sz)).map fun v => v.category).sum = am_cat S := by
  unfold am_cat
  rw [List.map_map]
  congr 1
  exact List.map_congr_left (fun v _ => am_v_cat v)
theorem am_ow {idx : Nat} (h : am_OW.any (fun z => z.1 == q.1 && z.2 == idx) = true) : Cond.methodLink (am_cn q.1) idx objectInit ∈ am_tb := by
  obtain ⟨z, hz, h⟩ := am_anyK h
  simp only [Bool.and_eq_true, beq_iff_eq] at h
  obtain ⟨h1, h2⟩ := h
  subst h2
  rw [← h1]
  exact am_tb_in (am_mem am_OWe _ (List.mem_map.mpr ⟨z, hz, rfl⟩)) rfl
theorem am_mw {idx n : Nat} (h : am_MW.any (fun z => z.1 == q.1 && (z.2.1 == idx && z.2.2 == n)) = true) : Cond.methodLink (am_cn q.1) idx (am_y n) ∈ am_tb := by
  obtain ⟨z, hz, h⟩ := am_anyK h
  simp only [Bool.and_eq_true, beq_iff_eq] at h
  obtain ⟨h1, h2, h3⟩ := h
  subst h2; subst h3
  rw [← h1]
  exact am_tb_in (am_mem am_MWe _ (List.mem_map.mpr ⟨z, hz, rfl⟩)) rfl
theorem am_x_objInit {pc idx n n2 : Nat} {L : am_L} {S : List Value} {X : am_T × (Nat → Nat → Value) × (Nat → Nat → Int32)} {st : am_S} (hd : decode q.2.2.1 pc = .ok (.invokespecial idx, 3)) (ho : n2 = 9 → am_OW.any (fun z => z.1 == q.1 && z.2 == idx) = true) (h : am_ex4 (.invokespecial idx) (pc + 3) n n2 L S X = some st) : am_St l D DA b sz q (pc, L, S, X) st := by
  simp only [am_ex4] at h
  split at h
  · rename_i c S
    split at h
    · rename_i hg
      cases h
      exact am_st_p (by
        intro p e R s m args below meth co Q ls H locs cells slots hA hf hl hc hs hL hO k
        obtain ⟨hx, hb, hml, hown, hts, hK, hin⟩ := hA
        refine W.objInit hx hb hown (hts _ (am_ow (ho hg.1))) (hts _ (am_tb_in (List.mem_of_getElem? am_oi) rfl)) (hts _ (am_tb_in (List.mem_of_getElem? am_oc) rfl)) rfl (by rw [hml]; exact hL.2.1) rfl hd hf ?_ k
        rw [am_cat_v]
        have : 2 * JFrame.monitorRoom (F0 m pc ls (List.map (am_v b sz) (Value.ref c :: S))) = 0 := rfl
        have := hg.2
        omega)
    · cases h
  · cases h
theorem am_x_math {pc idx n n2 : Nat} {L : am_L} {S : List Value} {X : am_T × (Nat → Nat → Value) × (Nat → Nat → Int32)} {st : am_S} (hd : decode q.2.2.1 pc = .ok (.invokestatic idx, 3)) (ho : am_MW.any (fun z => z.1 == q.1 && (z.2.1 == idx && z.2.2 == n)) = true) (h : am_ex4 (.invokestatic idx) (pc + 3) n n2 L S X = some st) : am_St l D DA b sz q (pc, L, S, X) st := by
  have hm := am_mw ho
  simp only [am_ex4] at h
  split at h
  · rename_i y S1
    split at h
    · split at h
      · rename_i hn
        split at h
        · rename_i hcat
          cases h
          subst hn
          exact am_st_p (by
            intro p e R s m args below meth co Q ls H locs cells slots hA hf hl hc hs hL hO k
            obtain ⟨hx, hb, hml, hown, hts, hK, hin⟩ := hA
            refine va_mabs hx hb (by rw [hml]; exact hL.2.1.symm) hown (hts _ (am_math_abs.1 ▸ hm)) (hts _ (am_tb_in (List.mem_of_getElem? am_math_abs.2.1) rfl)) (hts _ (am_tb_in (List.mem_of_getElem? am_math_abs.2.2.1) rfl)) (hts _ (am_tb_in (List.mem_of_getElem? am_math_abs.2.2.2) rfl)) hf ?_ hc hs hd k
            rw [am_cat_v]
            omega)
        · cases h
      · split at h
        · rename_i x S
          split at h
          · rename_i hcat
            split at h
            · rename_i hn
              cases h
              subst hn
              exact am_st_p (by
                intro p e R s m args below meth co Q ls H locs cells slots hA hf hl hc hs hL hO k
                obtain ⟨hx, hb, hml, hown, hts, hK, hin⟩ := hA
                refine va_mmax hx hb (by rw [hml]; exact hL.2.1.symm) hown (hts _ (am_math_max.1 ▸ hm)) (hts _ (am_tb_in (List.mem_of_getElem? am_math_max.2.1) rfl)) (hts _ (am_tb_in (List.mem_of_getElem? am_math_max.2.2.1) rfl)) (hts _ (am_tb_in (List.mem_of_getElem? am_math_max.2.2.2) rfl)) hf ?_ hc hs hd k
                rw [am_cat_v]
                omega)
            · split at h
              · rename_i hn
                cases h
                subst hn
                exact am_st_p (by
                  intro p e R s m args below meth co Q ls H locs cells slots hA hf hl hc hs hL hO k
                  obtain ⟨hx, hb, hml, hown, hts, hK, hin⟩ := hA
                  refine va_mmin hx hb (by rw [hml]; exact hL.2.1.symm) hown (hts _ (am_math_min.1 ▸ hm)) (hts _ (am_tb_in (List.mem_of_getElem? am_math_min.2.1) rfl)) (hts _ (am_tb_in (List.mem_of_getElem? am_math_min.2.2.1) rfl)) (hts _ (am_tb_in (List.mem_of_getElem? am_math_min.2.2.2) rfl)) hf ?_ hc hs hd k
                  rw [am_cat_v]
                  omega)
              · cases h
          · cases h
        · cases h
    · cases h
  · cases h
theorem am_ex_sound {I : am_I} {st st' : am_S} (hc : am_chk q I = true) (hp : I.1 = st.1) (h : am_ex I st = some st') : am_St l D DA b sz q st st' := by
  obtain ⟨pc, i, len, nx, n, n2, v, w⟩ := I
  obtain ⟨pc', L, S, T, ρ, σ⟩ := st
  have hp : pc = pc' := hp
  subst hp
  simp only [am_chk, Bool.and_eq_true, Bool.or_eq_true, decide_eq_true_eq, beq_iff_eq] at hc
  obtain ⟨hd, hnx, hlen, ho⟩ := hc
  subst hnx
  cases i with
  | aaload => obtain rfl : len = 1 := hlen.resolve_left (fun h9 => by cases h9); exact am_x_aaload (n := n) (n2 := n2) hd h
  | aastore => obtain rfl : len = 1 := hlen.resolve_left (fun h9 => by cases h9); exact am_x_aastore (n := n) (n2 := n2) hd h
  | aconst_null => obtain rfl : len = 1 := hlen.resolve_left (fun h9 => by cases h9); exact am_x_aconst_null (n := n) (v := v) hd h
  | aload a0 => obtain rfl : len = 2 := hlen.resolve_left (fun h9 => by cases h9); exact am_x_aload (n := n) (v := v) hd h
  | aload_n a0 => obtain rfl : len = 1 := hlen.resolve_left (fun h9 => by cases h9); exact am_x_aload_n (n := n) (v := v) hd h
  | anewarray a0 => obtain rfl : len = 3 := hlen.resolve_left (fun h9 => by cases h9); exact am_x_anewarray (n := n) (n2 := n2) hd ho h
  | areturn => exact absurd (show (none : Option am_S) = some st' from h) (fun h => by cases h)
  | arraylength => obtain rfl : len = 1 := hlen.resolve_left (fun h9 => by cases h9); exact am_x_arraylength (n := n) (n2 := n2) hd h
  | astore a0 => obtain rfl : len = 2 := hlen.resolve_left (fun h9 => by cases h9); exact am_x_astore (n := n) (v := v) hd h
  | astore_n a0 => obtain rfl : len = 1 := hlen.resolve_left (fun h9 => by cases h9); exact am_x_astore_n (n := n) (v := v) hd h
  | athrow => exact absurd (show (none : Option am_S) = some st' from h) (fun h => by cases h)
  | baload => obtain rfl : len = 1 := hlen.resolve_left (fun h9 => by cases h9); exact am_x_baload (n := n) (n2 := n2) hd h
  | bastore => obtain rfl : len = 1 := hlen.resolve_left (fun h9 => by cases h9); exact am_x_bastore (n := n) (n2 := n2) hd h
  | bipush a0 => obtain rfl : len = 2 := hlen.resolve_left (fun h9 => by cases h9); exact am_x_bipush (n := n) (v := v) hd (of_decide_eq_true ho) h
  | caload => exact absurd (show (none : Option am_S) = some st' from h) (fun h => by cases h)
  | castore => exact absurd (show (none : Option am_S) = some st' from h) (fun h => by cases h)
  | checkcast a0 => exact absurd (show (none : Option am_S) = some st' from h) (fun h => by cases h)
  | d2f => exact absurd (show (none : Option am_S) = some st' from h) (fun h => by cases h)
  | d2i => exact absurd (show (none : Option am_S) = some st' from h) (fun h => by cases h)
  | d2l => exact absurd (show (none : Option am_S) = some st' from h) (fun h => by cases h)
  | dadd => exact absurd (show (none : Option am_S) = some st' from h) (fun h => by cases h)
  | daload => exact absurd (show (none : Option am_S) = some st' from h) (fun h => by cases h)
  | dastore => exact absurd (show (none : Option am_S) = some st' from h) (fun h => by cases h)
  | dcmp a0 => exact absurd (show (none : Option am_S) = some st' from h) (fun h => by cases h)
  | dconst a0 => exact absurd (show (none : Option am_S) = some st' from h) (fun h => by cases h)
  | ddiv => exact absurd (show (none : Option am_S) = some st' from h) (fun h => by cases h)
  | dload a0 => exact absurd (show (none : Option am_S) = some st' from h) (fun h => by cases h)
  | dload_n a0 => exact absurd (show (none : Option am_S) = some st' from h) (fun h => by cases h)
  | dmul => exact absurd (show (none : Option am_S) = some st' from h) (fun h => by cases h)
  | dneg => exact absurd (show (none : Option am_S) = some st' from h) (fun h => by cases h)
  | drem => exact absurd (show (none : Option am_S) = some st' from h) (fun h => by cases h)
  | dreturn => exact absurd (show (none : Option am_S) = some st' from h) (fun h => by cases h)
  | dstore a0 => exact absurd (show (none : Option am_S) = some st' from h) (fun h => by cases h)
  | dstore_n a0 => exact absurd (show (none : Option am_S) = some st' from h) (fun h => by cases h)
  | dsub => exact absurd (show (none : Option am_S) = some st' from h) (fun h => by cases h)
  | dup => obtain rfl : len = 1 := hlen.resolve_left (fun h9 => by cases h9); exact am_x_dup (n := n) (v := v) hd h
  | dup_x1 => exact absurd (show (none : Option am_S) = some st' from h) (fun h => by cases h)
  | dup_x2 => exact absurd (show (none : Option am_S) = some st' from h) (fun h => by cases h)
  | dup2 => obtain rfl : len = 1 := hlen.resolve_left (fun h9 => by cases h9); exact am_x_dup2 (n := n) (v := v) hd h
  | dup2_x1 => exact absurd (show (none : Option am_S) = some st' from h) (fun h => by cases h)
  | dup2_x2 => exact absurd (show (none : Option am_S) = some st' from h) (fun h => by cases h)
  | f2d => exact absurd (show (none : Option am_S) = some st' from h) (fun h => by cases h)
  | f2i => exact absurd (show (none : Option am_S) = some st' from h) (fun h => by cases h)
  | f2l => exact absurd (show (none : Option am_S) = some st' from h) (fun h => by cases h)
  | fadd => exact absurd (show (none : Option am_S) = some st' from h) (fun h => by cases h)
  | faload => exact absurd (show (none : Option am_S) = some st' from h) (fun h => by cases h)
  | fastore => exact absurd (show (none : Option am_S) = some st' from h) (fun h => by cases h)
  | fcmp a0 => exact absurd (show (none : Option am_S) = some st' from h) (fun h => by cases h)
  | fconst a0 => exact absurd (show (none : Option am_S) = some st' from h) (fun h => by cases h)
  | fdiv => exact absurd (show (none : Option am_S) = some st' from h) (fun h => by cases h)
  | fload a0 => exact absurd (show (none : Option am_S) = some st' from h) (fun h => by cases h)
  | fload_n a0 => exact absurd (show (none : Option am_S) = some st' from h) (fun h => by cases h)
  | fmul => exact absurd (show (none : Option am_S) = some st' from h) (fun h => by cases h)
  | fneg => exact absurd (show (none : Option am_S) = some st' from h) (fun h => by cases h)
  | frem => exact absurd (show (none : Option am_S) = some st' from h) (fun h => by cases h)
  | freturn => exact absurd (show (none : Option am_S) = some st' from h) (fun h => by cases h)
  | fstore a0 => exact absurd (show (none : Option am_S) = some st' from h) (fun h => by cases h)
  | fstore_n a0 => exact absurd (show (none : Option am_S) = some st' from h) (fun h => by cases h)
  | fsub => exact absurd (show (none : Option am_S) = some st' from h) (fun h => by cases h)
  | getfield a0 =>
    obtain rfl : len = 3 := hlen.resolve_left (fun h9 => by cases h9)
    simp only [am_own, Bool.and_eq_true, decide_eq_true_eq] at ho
    exact am_x_getfield (n := n) (n2 := n2) hd ho.1 ho.2.1 ho.2.2 h
  | getstatic a0 => exact absurd (show (none : Option am_S) = some st' from h) (fun h => by cases h)
  | goto a0 => obtain rfl : len = 3 := hlen.resolve_left (fun h9 => by cases h9); exact am_x_goto (n := n) (w := w) hd (of_decide_eq_true ho) h
  | goto_w a0 => exact absurd (show (none : Option am_S) = some st' from h) (fun h => by cases h)
  | i2b => exact absurd (show (none : Option am_S) = some st' from h) (fun h => by cases h)
  | i2c => exact absurd (show (none : Option am_S) = some st' from h) (fun h => by cases h)
  | i2d => exact absurd (show (none : Option am_S) = some st' from h) (fun h => by cases h)
  | i2f => exact absurd (show (none : Option am_S) = some st' from h) (fun h => by cases h)
  | i2l => obtain rfl : len = 1 := hlen.resolve_left (fun h9 => by cases h9); exact am_x_i2l (n := n) (v := v) hd h
  | i2s => exact absurd (show (none : Option am_S) = some st' from h) (fun h => by cases h)
  | iadd => obtain rfl : len = 1 := hlen.resolve_left (fun h9 => by cases h9); exact am_x_iadd (n := n) (v := v) hd h
  | iaload => obtain rfl : len = 1 := hlen.resolve_left (fun h9 => by cases h9); exact am_x_iaload (n := n) (n2 := n2) hd h
  | iand => obtain rfl : len = 1 := hlen.resolve_left (fun h9 => by cases h9); exact am_x_iand (n := n) (v := v) hd h
  | iastore => obtain rfl : len = 1 := hlen.resolve_left (fun h9 => by cases h9); exact am_x_iastore (n := n) (n2 := n2) hd h
  | iconst a0 => obtain rfl : len = 1 := hlen.resolve_left (fun h9 => by cases h9); exact am_x_iconst (n := n) (v := v) hd (of_decide_eq_true ho) h
  | idiv => obtain rfl : len = 1 := hlen.resolve_left (fun h9 => by cases h9); exact am_x_idiv (n := n) (v := v) hd h
  | if_acmp a0 a1 => exact absurd (show (none : Option am_S) = some st' from h) (fun h => by cases h)
  | if_icmp a0 a1 =>
    obtain rfl : len = 3 := hlen.resolve_left (fun h9 => by cases h9)
    cases a0 with
    | eq => exact am_x_if_icmp_eq (n := n) (w := w) hd (of_decide_eq_true ho) h
    | ne => exact am_x_if_icmp_ne (n := n) (w := w) hd (of_decide_eq_true ho) h
    | lt => exact am_x_if_icmp_lt (n := n) (w := w) hd (of_decide_eq_true ho) h
    | ge => exact am_x_if_icmp_ge (n := n) (w := w) hd (of_decide_eq_true ho) h
    | gt => exact am_x_if_icmp_gt (n := n) (w := w) hd (of_decide_eq_true ho) h
    | le => exact am_x_if_icmp_le (n := n) (w := w) hd (of_decide_eq_true ho) h
  | ifCond a0 a1 =>
    obtain rfl : len = 3 := hlen.resolve_left (fun h9 => by cases h9)
    cases a0 with
    | eq => exact am_x_ifCond_eq (n := n) (w := w) hd (of_decide_eq_true ho) h
    | ne => exact am_x_ifCond_ne (n := n) (w := w) hd (of_decide_eq_true ho) h
    | lt => exact am_x_ifCond_lt (n := n) (w := w) hd (of_decide_eq_true ho) h
    | ge => exact am_x_ifCond_ge (n := n) (w := w) hd (of_decide_eq_true ho) h
    | gt => exact am_x_ifCond_gt (n := n) (w := w) hd (of_decide_eq_true ho) h
    | le => exact am_x_ifCond_le (n := n) (w := w) hd (of_decide_eq_true ho) h
  | ifnonnull a0 => obtain rfl : len = 3 := hlen.resolve_left (fun h9 => by cases h9); exact am_x_ifnonnull (n := n) (w := w) hd (of_decide_eq_true ho) h
  | ifnull a0 => obtain rfl : len = 3 := hlen.resolve_left (fun h9 => by cases h9); exact am_x_ifnull (n := n) (w := w) hd (of_decide_eq_true ho) h
  | iinc a0 a1 => obtain rfl : len = 3 := hlen.resolve_left (fun h9 => by cases h9); exact am_x_iinc (n := n) (v := v) hd (of_decide_eq_true ho) h
  | iload a0 => obtain rfl : len = 2 := hlen.resolve_left (fun h9 => by cases h9); exact am_x_iload (n := n) (v := v) hd h
  | iload_n a0 => obtain rfl : len = 1 := hlen.resolve_left (fun h9 => by cases h9); exact am_x_iload_n (n := n) (v := v) hd h
  | imul => obtain rfl : len = 1 := hlen.resolve_left (fun h9 => by cases h9); exact am_x_imul (n := n) (v := v) hd h
  | ineg => obtain rfl : len = 1 := hlen.resolve_left (fun h9 => by cases h9); exact am_x_ineg (n := n) (v := v) hd h
  | instanceof a0 => exact absurd (show (none : Option am_S) = some st' from h) (fun h => by cases h)
  | invokedynamic a0 => exact absurd (show (none : Option am_S) = some st' from h) (fun h => by cases h)
  | invokeinterface a0 a1 => exact absurd (show (none : Option am_S) = some st' from h) (fun h => by cases h)
  | invokespecial a0 =>
    obtain rfl : len = 3 := hlen.resolve_left (fun h9 => by cases h9)
    refine am_x_objInit (n := n) (n2 := n2) hd (fun h9 => ?_) h
    simp only [am_own] at ho
    rw [if_pos h9] at ho
    exact ho
  | invokestatic a0 => obtain rfl : len = 3 := hlen.resolve_left (fun h9 => by cases h9); exact am_x_math (n := n) (n2 := n2) hd ho h
  | invokevirtual a0 => exact absurd (show (none : Option am_S) = some st' from h) (fun h => by cases h)
  | ior => obtain rfl : len = 1 := hlen.resolve_left (fun h9 => by cases h9); exact am_x_ior (n := n) (v := v) hd h
  | irem => obtain rfl : len = 1 := hlen.resolve_left (fun h9 => by cases h9); exact am_x_irem (n := n) (v := v) hd h
  | ireturn => exact absurd (show (none : Option am_S) = some st' from h) (fun h => by cases h)
  | ishl => obtain rfl : len = 1 := hlen.resolve_left (fun h9 => by cases h9); exact am_x_ishl (n := n) (v := v) hd h
  | ishr => obtain rfl : len = 1 := hlen.resolve_left (fun h9 => by cases h9); exact am_x_ishr (n := n) (v := v) hd h
  | istore a0 => obtain rfl : len = 2 := hlen.resolve_left (fun h9 => by cases h9); exact am_x_istore (n := n) (v := v) hd h
  | istore_n a0 => obtain rfl : len = 1 := hlen.resolve_left (fun h9 => by cases h9); exact am_x_istore_n (n := n) (v := v) hd h
  | isub => obtain rfl : len = 1 := hlen.resolve_left (fun h9 => by cases h9); exact am_x_isub (n := n) (v := v) hd h
  | iushr => obtain rfl : len = 1 := hlen.resolve_left (fun h9 => by cases h9); exact am_x_iushr (n := n) (v := v) hd h
  | ixor => obtain rfl : len = 1 := hlen.resolve_left (fun h9 => by cases h9); exact am_x_ixor (n := n) (v := v) hd h
  | jsr a0 => exact absurd (show (none : Option am_S) = some st' from h) (fun h => by cases h)
  | jsr_w a0 => exact absurd (show (none : Option am_S) = some st' from h) (fun h => by cases h)
  | l2d => exact absurd (show (none : Option am_S) = some st' from h) (fun h => by cases h)
  | l2f => exact absurd (show (none : Option am_S) = some st' from h) (fun h => by cases h)
  | l2i => obtain rfl : len = 1 := hlen.resolve_left (fun h9 => by cases h9); exact am_x_l2i (n := n) (v := v) hd h
  | ladd => exact absurd (show (none : Option am_S) = some st' from h) (fun h => by cases h)
  | laload => exact absurd (show (none : Option am_S) = some st' from h) (fun h => by cases h)
  | land => obtain rfl : len = 1 := hlen.resolve_left (fun h9 => by cases h9); exact am_x_land (n := n) (v := v) hd h
  | lastore => exact absurd (show (none : Option am_S) = some st' from h) (fun h => by cases h)
  | lcmp => obtain rfl : len = 1 := hlen.resolve_left (fun h9 => by cases h9); exact am_x_lcmp (n := n) (v := v) hd h
  | lconst a0 => obtain rfl : len = 1 := hlen.resolve_left (fun h9 => by cases h9); exact am_x_lconst (n := n) (v := v) hd h
  | ldc a0 => obtain rfl : len = 2 := hlen.resolve_left (fun h9 => by cases h9); exact am_x_ldc (n := n) (v := v) hd ho h
  | ldc_w a0 => obtain rfl : len = 3 := hlen.resolve_left (fun h9 => by cases h9); exact am_x_ldc_w (n := n) (v := v) hd ho h
  | ldc2_w a0 => obtain rfl : len = 3 := hlen.resolve_left (fun h9 => by cases h9); exact am_x_ldc2_w (n := n) (v := v) hd ho h
  | ldiv => obtain rfl : len = 1 := hlen.resolve_left (fun h9 => by cases h9); exact am_x_ldiv (n := n) (v := v) hd h
  | lload a0 => obtain rfl : len = 2 := hlen.resolve_left (fun h9 => by cases h9); exact am_x_lload (n := n) (v := v) hd h
  | lload_n a0 => obtain rfl : len = 1 := hlen.resolve_left (fun h9 => by cases h9); exact am_x_lload_n (n := n) (v := v) hd h
  | lmul => obtain rfl : len = 1 := hlen.resolve_left (fun h9 => by cases h9); exact am_x_lmul (n := n) (v := v) hd h
  | lneg => exact absurd (show (none : Option am_S) = some st' from h) (fun h => by cases h)
  | lookupswitch a0 a1 => exact absurd (show (none : Option am_S) = some st' from h) (fun h => by cases h)
  | lor => obtain rfl : len = 1 := hlen.resolve_left (fun h9 => by cases h9); exact am_x_lor (n := n) (v := v) hd h
  | lrem => exact absurd (show (none : Option am_S) = some st' from h) (fun h => by cases h)
  | lreturn => exact absurd (show (none : Option am_S) = some st' from h) (fun h => by cases h)
  | lshl => obtain rfl : len = 1 := hlen.resolve_left (fun h9 => by cases h9); exact am_x_lshl (n := n) (v := v) hd h
  | lshr => obtain rfl : len = 1 := hlen.resolve_left (fun h9 => by cases h9); exact am_x_lshr (n := n) (v := v) hd h
  | lstore a0 => obtain rfl : len = 2 := hlen.resolve_left (fun h9 => by cases h9); exact am_x_lstore (n := n) (v := v) hd h
  | lstore_n a0 => obtain rfl : len = 1 := hlen.resolve_left (fun h9 => by cases h9); exact am_x_lstore_n (n := n) (v := v) hd h
  | lsub => exact absurd (show (none : Option am_S) = some st' from h) (fun h => by cases h)
  | lushr => exact absurd (show (none : Option am_S) = some st' from h) (fun h => by cases h)
  | lxor => exact absurd (show (none : Option am_S) = some st' from h) (fun h => by cases h)
  | monitorenter => exact absurd (show (none : Option am_S) = some st' from h) (fun h => by cases h)
  | monitorexit => exact absurd (show (none : Option am_S) = some st' from h) (fun h => by cases h)
  | multianewarray a0 a1 => exact absurd (show (none : Option am_S) = some st' from h) (fun h => by cases h)
  | new a0 =>
    obtain rfl : len = 3 := hlen.resolve_left (fun h9 => by cases h9)
    simp only [am_own] at ho
    rw [Bool.and_eq_true, decide_eq_true_eq] at ho
    exact am_x_new (n := n) (n2 := n2) hd ho.1 ho.2 h
  | newarray a0 =>
    obtain rfl : len = 2 := hlen.resolve_left (fun h9 => by cases h9)
    simp only [am_own, Bool.and_eq_true, decide_eq_true_eq] at ho
    exact am_x_newarray (n := n) (n2 := n2) hd ho.1 ho.2 h
  | nop => exact absurd (show (none : Option am_S) = some st' from h) (fun h => by cases h)
  | pop => obtain rfl : len = 1 := hlen.resolve_left (fun h9 => by cases h9); exact am_x_pop (n := n) (v := v) hd h
  | pop2 => exact absurd (show (none : Option am_S) = some st' from h) (fun h => by cases h)
  | putfield a0 =>
    obtain rfl : len = 3 := hlen.resolve_left (fun h9 => by cases h9)
    simp only [am_own] at ho
    rw [Bool.and_eq_true, Bool.and_eq_true, Bool.and_eq_true, decide_eq_true_eq, decide_eq_true_eq] at ho
    exact am_x_putfield (n := n) (n2 := n2) hd ho.1 ho.2.1 ho.2.2.1 ho.2.2.2 h
  | putstatic a0 => exact absurd (show (none : Option am_S) = some st' from h) (fun h => by cases h)
  | ret a0 => exact absurd (show (none : Option am_S) = some st' from h) (fun h => by cases h)
  | return_ => exact absurd (show (none : Option am_S) = some st' from h) (fun h => by cases h)
  | saload => exact absurd (show (none : Option am_S) = some st' from h) (fun h => by cases h)
  | sastore => exact absurd (show (none : Option am_S) = some st' from h) (fun h => by cases h)
  | sipush a0 => obtain rfl : len = 3 := hlen.resolve_left (fun h9 => by cases h9); exact am_x_sipush (n := n) (v := v) hd (of_decide_eq_true ho) h
  | swap => exact absurd (show (none : Option am_S) = some st' from h) (fun h => by cases h)
  | tableswitch a0 a1 a2 a3 =>
    simp only [am_own, Bool.and_eq_true, decide_eq_true_eq] at ho
    exact am_x_tableswitch (n := n) (w := w) hd ho.1 ho.2 h
end AMS
end
section
/-! from a state to a method's return: am_Go; steps, branches, calls -/
def am_rt (q : am_M) (r : Option Value) (pc : Nat) : Prop := match r with
  | none => decode q.2.2.1 pc = .ok (.return_, 1) ∧ q.2.2.2.2.1 = none
  | some (.int v) => decode q.2.2.1 pc = .ok (.ireturn, 1) ∧ ∃ ty, q.2.2.2.2.1 = some ty ∧ narrow ty (.int v) = .int v
  | _ => False
abbrev am_X : Type := am_T × (Nat → Nat → Value) × (Nat → Nat → Int32)
/-- from st, with room for d calls in one another, the method mi comes to its return with r on the stack and the cells X' -/
def am_Go (l : Launch) (D : va_G) (DA : Nat → ClassId) (b sz d mi : Nat) (st : am_S) (r : Option Value) (X' : am_X) : Prop :=
  st.2.2.2.1.length ≤ X'.1.length ∧ am_ns st.2.2.2.1 ≤ am_ns X'.1 ∧
  ∀ (q : am_M), am_ms[mi]? = some q → ∀ (p : Program) (e : Env) (R : Room) (s : State) (m : MethodId) (args : Array Value) (below : List Frame) (meth : Method) (c : Code) (Q : State → Prop) (ls : Array Slot) (H : Heap) (locs : List Loc) (cells slots : Nat),
    am_At D DA q p s m args meth c → d + 1 ≤ R.frames → (d + 1) * 64 ≤ R.locals → cells + (X'.1.length - st.2.2.2.1.length) ≤ R.cells → slots + (am_ns X'.1 - am_ns st.2.2.2.1) ≤ R.slots →
    am_Ls b sz ls q.2.2.2.1 st.2.1 → am_ok D DA b sz s st.2.2.2 H → (∀ z ∈ locs, sz ≤ z.base) →
    (∀ (pc' : Nat) (ls' : Array Slot) (H' : Heap) (locs' : List Loc), am_ok D DA b sz s X' H' → (∀ z ∈ locs', sz ≤ z.base) → am_rt q r pc' →
      W p l e R s m args below meth c H' locs' (cells + (X'.1.length - st.2.2.2.1.length)) (slots + (am_ns X'.1 - am_ns st.2.2.2.1)) Q (F0 m pc' ls' ((r.map (am_v b sz)).toList))) →
    W p l e R s m args below meth c H locs cells slots Q (F0 m st.1 ls (st.2.2.1.map (am_v b sz)))
def am_sl (As : List Value) : am_L := As.flatMap fun v => if v.category = 2 then [some v, none] else [some v]
def am_ent (nL : Nat) (As : List Value) : am_L := am_sl As ++ List.replicate (nL - (am_sl As).length) none
section AMG
variable {l : Launch} {D : va_G} {DA : Nat → ClassId} {b sz : Nat} {q : am_M}
theorem am_fetch_in {k : List am_I} {pc : Nat} {I : am_I} (h : am_fetch k pc = some I) : I ∈ k ∧ I.1 = pc := by
  induction k with
  | nil => cases h
  | cons J k ih =>
    unfold am_fetch at h
    split at h
    · rename_i hj
      cases h
      exact ⟨List.mem_cons_self, hj⟩
    · exact ⟨List.mem_cons_of_mem _ (ih h).1, (ih h).2⟩
theorem am_step_St {k : List am_I} {st st' : am_S} (hk : k.all (am_chk q) = true) (h : am_step k st = some st') : am_St l D DA b sz q st st' := by
  unfold am_step at h
  split at h
  · rename_i I hI
    obtain ⟨h1, h2⟩ := am_fetch_in hI
    exact am_ex_sound (List.all_eq_true.mp hk I h1) h2 h
  · cases h
theorem am_St.refl (st : am_S) : am_St l D DA b sz q st st := by
  refine ⟨Nat.le_refl _, Nat.le_refl _, ?_⟩
  intro p e R s m args below meth c Q ls H locs cells slots hA hf hl hc hs hL hO hlo k
  have := k ls H locs hL hO hlo
  simp only [Nat.sub_self, Nat.add_zero] at this
  exact this
theorem am_steps_St {k : List am_I} (hk : k.all (am_chk q) = true) : ∀ (n : Nat) {st st' : am_S}, am_steps k n st = some st' → am_St l D DA b sz q st st'
  | 0, st, st', h => by
    cases h
    exact am_St.refl st
  | n + 1, st, st', h => by
    unfold am_steps at h
    split at h
    · rename_i s2 h2
      exact (am_step_St hk h2).trans (am_steps_St hk n h)
    · cases h
/-- steps -/
theorem go_St {d mi : Nat} {st st' : am_S} {r : Option Value} {X' : am_X} (hq : am_ms[mi]? = some q) (h : am_St l D DA b sz q st st') (G : am_Go l D DA b sz d mi st' r X') : am_Go l D DA b sz d mi st r X' := by
  obtain ⟨a1, a2, a3⟩ := h
  obtain ⟨b1, b2, b3⟩ := G
  refine ⟨Nat.le_trans a1 b1, Nat.le_trans a2 b2, ?_⟩
  intro q' hq' p e R s m args below meth c Q ls H locs cells slots hA hf hl hc hs hL hO hlo k
  have e9 : q' = q := Option.some.inj (hq'.symm.trans hq)
  subst e9
  refine a3 p e R s m args below meth c Q ls H locs cells slots hA (by omega) (by omega) (by omega) (by omega) hL hO hlo ?_
  intro ls1 H1 locs1 hL1 hO1 hlo1
  refine b3 q' hq p e R s m args below meth c Q ls1 H1 locs1 _ _ hA hf hl (by omega) (by omega) hL1 hO1 hlo1 ?_
  intro pc' ls2 H2 locs2 hO2 hlo2 hrt
  have := k pc' ls2 H2 locs2 hO2 hlo2 hrt
  have e1 : cells + (st'.2.2.2.1.length - st.2.2.2.1.length) + (X'.1.length - st'.2.2.2.1.length) = cells + (X'.1.length - st.2.2.2.1.length) := by omega
  have e2 : slots + (am_ns st'.2.2.2.1 - am_ns st.2.2.2.1) + (am_ns X'.1 - am_ns st'.2.2.2.1) = slots + (am_ns X'.1 - am_ns st.2.2.2.1) := by omega
  rw [e1, e2]
  exact this
theorem go_steps {k : List am_I} {d mi : Nat} {st st' : am_S} {r : Option Value} {X' : am_X} (hq : am_ms[mi]? = some q) (hk : k.all (am_chk q) = true) (n : Nat) (h : am_steps k n st = some st') (G : am_Go l D DA b sz d mi st' r X') : am_Go l D DA b sz d mi st r X' := go_St hq (am_steps_St hk n h) G
/-- a jump by a condition -/
theorem go_if {c : Prop} [Decidable c] {d mi x y : Nat} {L : am_L} {S : List Value} {X X' : am_X} {r : Option Value} (h1 : c → am_Go l D DA b sz d mi (x, L, S, X) r X') (h2 : ¬ c → am_Go l D DA b sz d mi (y, L, S, X) r X') : am_Go l D DA b sz d mi (if c then x else y, L, S, X) r X' := by
  by_cases hc : c
  · rw [if_pos hc]; exact h1 hc
  · rw [if_neg hc]; exact h2 hc
/-- the return -/
theorem go_retI {k : List am_I} {d mi pc len nx n n2 : Nat} {v x : Int32} {w : List Nat} {ty : FieldType} {L : am_L} {X : am_X} (hq : am_ms[mi]? = some q) (hk : k.all (am_chk q) = true) (hf : am_fetch k pc = some (pc, .ireturn, len, nx, n, n2, v, w)) (hr : q.2.2.2.2.1 = some ty) (hn : narrow ty (.int x) = .int x) : am_Go l D DA b sz d mi (pc, L, [.int x], X) (some (.int x)) X := by
  have hc := List.all_eq_true.mp hk _ (am_fetch_in hf).1
  simp only [am_chk, Bool.and_eq_true, Bool.or_eq_true, decide_eq_true_eq, beq_iff_eq] at hc
  obtain ⟨hd, hnx, hlen, -⟩ := hc
  obtain rfl : len = 1 := hlen.resolve_left (fun h9 => by cases h9)
  refine ⟨Nat.le_refl _, Nat.le_refl _, ?_⟩
  intro q' hq' p e R s m args below meth c Q ls H locs cells slots hA hf hl hc hs hL hO hlo kk
  have e9 : q' = q := Option.some.inj (hq'.symm.trans hq)
  subst e9
  have := kk pc ls H locs hO hlo ⟨hd, ty, hr, hn⟩
  simp only [Nat.sub_self, Nat.add_zero] at this
  exact this
theorem go_retV {k : List am_I} {d mi pc len nx n n2 : Nat} {v : Int32} {w : List Nat} {L : am_L} {X : am_X} (hq : am_ms[mi]? = some q) (hk : k.all (am_chk q) = true) (hf : am_fetch k pc = some (pc, .return_, len, nx, n, n2, v, w)) (hr : q.2.2.2.2.1 = none) : am_Go l D DA b sz d mi (pc, L, [], X) none X := by
  have hc := List.all_eq_true.mp hk _ (am_fetch_in hf).1
  simp only [am_chk, Bool.and_eq_true, Bool.or_eq_true, decide_eq_true_eq, beq_iff_eq] at hc
  obtain ⟨hd, hnx, hlen, -⟩ := hc
  obtain rfl : len = 1 := hlen.resolve_left (fun h9 => by cases h9)
  refine ⟨Nat.le_refl _, Nat.le_refl _, ?_⟩
  intro q' hq' p e R s m args below meth c Q ls H locs cells slots hA hf hl hc hs hL hO hlo kk
  have e9 : q' = q := Option.some.inj (hq'.symm.trans hq)
  subst e9
  have := kk pc ls H locs hO hlo ⟨hd, hr⟩
  simp only [Nat.sub_self, Nat.add_zero] at this
  exact this
/-! a method's contract -/
theorem am_cell.moved {s t : State} {ρ : Nat → Nat → Value} {σ : Nat → Nat → Int32} {H : Heap} {c : Nat} {x : Nat ⊕ (Nat × Nat)} (hvm : s.vm.Alike t.vm) (h : am_cell D DA b sz s ρ σ H c x) : am_cell D DA b sz t ρ σ H c x := by
  cases x with
  | inl ci => exact h
  | inr z =>
    obtain ⟨t', n⟩ := z
    rcases h with ⟨h1, h2, h3⟩ | h | h
    · exact Or.inl ⟨h1, h2, h3.moved hvm⟩
    · exact Or.inr (Or.inl h)
    · exact Or.inr (Or.inr h)
theorem am_ok.moved {s t : State} {X : am_X} {H : Heap} (hvm : s.vm.Alike t.vm) (h : am_ok D DA b sz s X H) : am_ok D DA b sz t X H := ⟨h.1, h.2.1, h.2.2.1, fun c x hx => (h.2.2.2 c x hx).moved hvm⟩
theorem am_K.warm {s t : State} (hW : s.WarmedH t.vm) (h : am_K D DA s) : am_K D DA t := ⟨h.1.moved hW.alike, h.2.1.moved hW.alike, fun z hz => va_Nw.warmM hW (h.2.2 z hz)⟩
theorem am_K.same {s t : State} (hv : s.vm = t.vm) (h : am_K D DA s) : am_K D DA t := ⟨h.1.moved (by rw [hv]; exact Vm.Alike.refl _), h.2.1.moved (by rw [hv]; exact Vm.Alike.refl _), fun z hz => va_Nw.same rfl hv (h.2.2 z hz)⟩
theorem am_sl_at : ∀ (As : List Value) (i : Nat) (v : Value), (am_sl As)[i]? = some (some v) → (lg_sl (As.map (am_v b sz)))[i]? = some (.val (am_v b sz v))
  | [], i, v, h => by simp [am_sl] at h
  | a :: As, i, v, h => by
    have ih := am_sl_at As
    have e1 : am_sl (a :: As) = (if a.category = 2 then [some a, none] else [some a]) ++ am_sl As := by simp [am_sl]
    have e2 : lg_sl ((a :: As).map (am_v b sz)) = (if a.category = 2 then [.val (am_v b sz a), .second] else [.val (am_v b sz a)]) ++ lg_sl (As.map (am_v b sz)) := by simp [lg_sl, am_v_cat]
    rw [e1] at h
    rw [e2]
    by_cases hc : a.category = 2
    · rw [if_pos hc] at h ⊢
      match i, h with
      | 0, h => simp at h; subst h; rfl
      | 1, h => simp at h
      | i + 2, h =>
        have h : (am_sl As)[i]? = some (some v) := h
        exact ih i v h
    · rw [if_neg hc] at h ⊢
      match i, h with
      | 0, h => simp at h; subst h; rfl
      | i + 1, h =>
        have h : (am_sl As)[i]? = some (some v) := h
        exact ih i v h
theorem am_sl_len : ∀ (As : List Value), (lg_sl (As.map (am_v b sz))).length = (am_sl As).length
  | [] => rfl
  | a :: As => by
    have ih := am_sl_len As
    have e1 : am_sl (a :: As) = (if a.category = 2 then [some a, none] else [some a]) ++ am_sl As := by simp [am_sl]
    have e2 : lg_sl ((a :: As).map (am_v b sz)) = (if a.category = 2 then [.val (am_v b sz a), .second] else [.val (am_v b sz a)]) ++ lg_sl (As.map (am_v b sz)) := by simp [lg_sl, am_v_cat]
    rw [e1, e2, List.length_append, List.length_append, ih]
    split <;> rfl
theorem am_ent_Ls {nL : Nat} {As : List Value} (h : (am_sl As).length ≤ nL) : am_Ls b sz ((lg_sl (As.map (am_v b sz)) ++ List.replicate (nL - (lg_sl (As.map (am_v b sz))).length) Slot.unset).toArray) nL (am_ent nL As) := by
  have hl := lv_entry (As.map (am_v b sz)) (n := nL) (by rw [am_sl_len]; exact h)
  refine ⟨by unfold am_ent; rw [List.length_append, List.length_replicate]; omega, hl.1, hl.2.1, fun i v hv => ?_⟩
  unfold am_ent at hv
  by_cases hi : i < (am_sl As).length
  · rw [List.getElem?_append_left hi] at hv
    have := am_sl_at (b := b) (sz := sz) As i v hv
    rw [List.getElem?_toArray, List.getElem?_append_left (by rw [am_sl_len]; exact hi)]
    exact this
  · rw [List.getElem?_append_right (by omega), List.getElem?_replicate] at hv
    split at hv <;> cases hv
abbrev am_ws (q : am_M) : List Cond := Cond.code q.2.1 q.2.2.1 q.2.2.2.1 q.2.2.2.2.1 :: am_tb
abbrev am_rm (d : Nat) (X X' : am_X) : Room := { frames := d + 1, cells := X'.1.length - X.1.length, slots := am_ns X'.1 - am_ns X.1, locals := (d + 1) * 64 }
abbrev am_Pc (D : va_G) (DA : Nat → ClassId) (b sz : Nat) (As : List Value) (X : am_X) : Array Value → State → Prop := va_Pc (As.map (am_v b sz)) (fun U => am_ok D DA b sz U X U.heap ∧ am_K D DA U)
abbrev am_Qc (D : va_G) (DA : Nat → ClassId) (b sz : Nat) (r : Option Value) (X' : am_X) : Array Value → State → Outcome → State → Prop := fun _ _ o t => o = .returned (r.map (am_v b sz)) ∧ am_ok D DA b sz t X' t.heap
theorem am_met {d mi : Nat} {As : List Value} {X X' : am_X} {r : Option Value} (hq : am_ms[mi]? = some q) (hok : am_okM q) (hn : (am_sl As).length ≤ q.2.2.2.1) (G : am_Go l D DA b sz d mi (0, am_ent q.2.2.2.1 As, [], X) r X') :
    Met l q.2.1 (am_ws q) (am_rm d X X') (am_Pc D DA b sz As X) (am_Qc D DA b sz r X') (X'.1.length - X.1.length) (am_ns X'.1 - am_ns X.1) (fun a => sz ≤ a) := by
  refine Met.ofW (cc := q.2.2.1) (maxL := q.2.2.2.1) (ret := q.2.2.2.2.1) hok.2.2.1 rfl ?_
  intro p e s m args below meth c s₁ B hml hv
  obtain ⟨rfl, hO, hK⟩ := hv
  have hts := atoms_spec (ws := am_ws q) B.pre
  have hown : s.vm.findClass q.2.1.cls = some m.cls := findClass_of_methodNamed B.named
  have hlocks := B.notSynchronized
  have hr := B.returns
  rw [lg_entry_eq]
  have hA : am_At D DA q p s m ((As.map (am_v b sz)).toArray) meth c := ⟨B.exec, B.bytes, hml, by rw [hok.1]; exact hown, fun w hw => hts w (List.mem_cons_of_mem _ hw), hK, fun h => by
    rw [(name_of_methodNamed B.named B.method).1]
    exact (hok.2.2.2.2.2.2.2.2.2.2.1 h).1⟩
  refine G.2.2 q hq p e _ s m _ below meth c _ _ s.heap [] 0 0 hA (Nat.le_refl _) (Nat.le_refl _) (by show 0 + _ ≤ _; rw [Nat.zero_add]; exact Nat.le_refl _) (by show 0 + _ ≤ _; rw [Nat.zero_add]; exact Nat.le_refl _) (am_ent_Ls hn) hO (fun z h => by cases h) ?_
  intro pc' ls' H' locs' hO' hlo' hrt
  rw [Nat.zero_add, Nat.zero_add]
  cases r with
  | none =>
    exact W.vret B.exec B.bytes (by rw [hr]; exact hrt.2) (fun t ht hW => ⟨rfl, by rw [ht]; exact hO'.moved hW.alike⟩) hlo' hrt.1
  | some v =>
    cases v with
    | int x =>
      obtain ⟨hd, ty, hty, hnar⟩ := hrt
      exact W.zret B.exec B.bytes (by rw [hr]; exact hty) hnar (fun t ht hW => ⟨rfl, by rw [ht]; exact hO'.moved hW.alike⟩) hlo' hd
    | _ => exact absurd hrt (fun h => h)
/-- a call that was run -/
theorem am_run_W {p : Program} {e : Env} {R : Room} {s : State} {m : MethodId} {args a : Array Value} {below : List Frame} {meth : Method} {c : Code} {Q : State → Prop} {H : Heap} {locs : List Loc} {cells slots mc ms pc : Nat} {ls : Array Slot} {rest st0 : List Value} {r : Option Value} {X' : am_X} (hr : va_Run p l e R s m args below meth c H locs cells slots mc ms (F0 m pc ls st0) rest (am_Qc D DA b sz r X' a) (fun a => sz ≤ a)) (hlo : ∀ z ∈ locs, sz ≤ z.base)
    (kk : ∀ (H1 : Heap) (locs1 : List Loc), am_ok D DA b sz s X' H1 → (∀ z ∈ locs1, sz ≤ z.base) → W p l e R s m args below meth c H1 locs1 (cells + mc) (slots + ms) Q (F0 m (pc + 3) ls ((r.map (am_v b sz)).toList ++ rest))) : W p l e R s m args below meth c H locs cells slots Q (F0 m pc ls st0) := by
  intro T hT Y
  obtain ⟨v, st₀, t, T', L, h0, Y', hL, e1, e2, ⟨hv, hO⟩, st⟩ := hr T hT Y
  cases hv
  obtain ⟨t2, a1, b1⟩ := kk T'.heap (locs ++ L) (by rw [e1]; exact hO.moved (by rw [← e2]; exact Y'.warmed.alike.symm)) (fun z hz => by
    rcases List.mem_append.mp hz with h | h
    · exact hlo z h
    · exact hL z h) T' rfl Y'
  exact ⟨t2, st t2 a1, b1⟩
theorem am_blind {As : List Value} {X : am_X} : FrameBlind (am_Pc D DA b sz As X) := by
  intro a U g mk hh
  obtain ⟨h0, h1, h2⟩ := hh
  exact ⟨h0, h1.moved (t := U.calling g mk a) (Vm.Alike.refl U.vm), h2.same rfl⟩
theorem am_goodIn {qj : am_M} (hok : am_okM qj) : GoodIn am_tb (am_ws qj) := by
  intro w hw
  rcases List.mem_cons.mp hw with rfl | hw
  · have h := am_tb_in hok.2.2.2.1 rfl
    exact ⟨h, good_of_word (am_tb_good h)⟩
  · exact ⟨hw, good_of_word (am_tb_good hw)⟩
theorem am_y_eq {mj : Nat} {qj : am_M} (h : am_ms[mj]? = some qj) : am_y mj = qj.2.1 := by unfold am_y; rw [h]
end AMG
end
section
/-! calls -/
section AMG
variable {l : Launch} {D : va_G} {DA : Nat → ClassId} {b sz : Nat} {q : am_M}
theorem am_args {n : Nat} {S : List Value} : S.map (am_v b sz) = (((S.take n).reverse).map (am_v b sz)).reverse ++ (S.drop n).map (am_v b sz) := by
  rw [← List.map_reverse, List.reverse_reverse, ← List.map_append, List.take_append_drop]
theorem am_toList {r : Option Value} : (r.map (am_v b sz)).toList = r.toList.map (am_v b sz) := by cases r <;> rfl
/-- the frame of a call: what a run call gives, the caller goes on -/
theorem go_of_run {d mi mj n pc nx : Nat} {qj : am_M} {L : am_L} {S : List Value} {X X1 X' : am_X} {r1 r : Option Value} (hq : am_ms[mi]? = some q) (hj : am_ms[mj]? = some qj) (hok : am_okM qj) (hnx : nx = pc + 3) (hlen : (am_sl (S.take n).reverse).length ≤ qj.2.2.2.1)
    (G1 : am_Go l D DA b sz d mj (0, am_ent qj.2.2.2.1 (S.take n).reverse, [], X) r1 X1) (G2 : am_Go l D DA b sz (d + 1) mi (nx, L, r1.toList ++ S.drop n, X1) r X')
    (run : ∀ (p : Program) (e : Env) (R : Room) (s : State) (m : MethodId) (args : Array Value) (below : List Frame) (meth : Method) (c : Code) (ls : Array Slot) (H : Heap) (locs : List Loc) (cells slots : Nat),
      am_At D DA q p s m args meth c → d + 2 ≤ R.frames → (d + 2) * 64 ≤ R.locals → cells + (X1.1.length - X.1.length) ≤ R.cells → slots + (am_ns X1.1 - am_ns X.1) ≤ R.slots → am_Ls b sz ls q.2.2.2.1 L → am_ok D DA b sz s X H →
      Met l qj.2.1 (am_ws qj) (am_rm d X X1) (am_Pc D DA b sz (S.take n).reverse X) (am_Qc D DA b sz r1 X1) (X1.1.length - X.1.length) (am_ns X1.1 - am_ns X.1) (fun a => sz ≤ a) →
      ∃ a : Array Value, va_Run p l e R s m args below meth c H locs cells slots (X1.1.length - X.1.length) (am_ns X1.1 - am_ns X.1) (F0 m pc ls (S.map (am_v b sz))) ((S.drop n).map (am_v b sz)) (am_Qc D DA b sz r1 X1 a) (fun a => sz ≤ a)) :
    am_Go l D DA b sz (d + 1) mi (pc, L, S, X) r X' := by
  have hM := am_met hj hok hlen G1
  obtain ⟨a1, a2, -⟩ := G1
  obtain ⟨b1, b2, b3⟩ := G2
  have a1 : X.1.length ≤ X1.1.length := a1
  have a2 : am_ns X.1 ≤ am_ns X1.1 := a2
  have b1 : X1.1.length ≤ X'.1.length := b1
  have b2 : am_ns X1.1 ≤ am_ns X'.1 := b2
  subst hnx
  refine ⟨Nat.le_trans a1 b1, Nat.le_trans a2 b2, ?_⟩
  intro q' hq' p e R s m args below meth c Q ls H locs cells slots hA hf hl hc hs hL hO hlo k
  have e9 : q' = q := Option.some.inj (hq'.symm.trans hq)
  subst e9
  have hc : cells + (X'.1.length - X.1.length) ≤ R.cells := hc
  have hs : slots + (am_ns X'.1 - am_ns X.1) ≤ R.slots := hs
  obtain ⟨a, hrun⟩ := run p e R s m args below meth c ls H locs cells slots hA hf hl (by omega) (by omega) hL hO hM
  refine am_run_W hrun hlo (fun H1 locs1 hO1 hlo1 => ?_)
  have hk := b3 q' hq p e R s m args below meth c Q ls H1 locs1 (cells + (X1.1.length - X.1.length)) (slots + (am_ns X1.1 - am_ns X.1)) hA hf hl (by show cells + (X1.1.length - X.1.length) + (X'.1.length - X1.1.length) ≤ _; omega) (by show slots + (am_ns X1.1 - am_ns X.1) + (am_ns X'.1 - am_ns X1.1) ≤ _; omega) hL hO1 hlo1 ?_
  · have e1 : (r1.toList ++ S.drop n).map (am_v b sz) = (r1.map (am_v b sz)).toList ++ (S.drop n).map (am_v b sz) := by rw [List.map_append, am_toList]
    have hk : W p l e R s m args below meth c H1 locs1 _ _ Q (F0 m (pc + 3) ls ((r1.toList ++ S.drop n).map (am_v b sz))) := hk
    rw [e1] at hk
    exact hk
  · intro pc' ls2 H2 locs2 hO2 hlo2 hrt
    have := k pc' ls2 H2 locs2 hO2 hlo2 hrt
    have e1 : cells + (X1.1.length - X.1.length) + (X'.1.length - X1.1.length) = cells + (X'.1.length - X.1.length) := by omega
    have e2 : slots + (am_ns X1.1 - am_ns X.1) + (am_ns X'.1 - am_ns X1.1) = slots + (am_ns X'.1 - am_ns X.1) := by omega
    show W p l e R s m args below meth c H2 locs2 (cells + (X1.1.length - X.1.length) + (X'.1.length - X1.1.length)) (slots + (am_ns X1.1 - am_ns X.1) + (am_ns X'.1 - am_ns X1.1)) Q _
    rw [e1, e2]
    exact this
theorem am_chk_spec {k : List am_I} {pc len nx n n2 : Nat} {i : Instr} {v : Int32} {w : List Nat} (hk : k.all (am_chk q) = true) (hf : am_fetch k pc = some (pc, i, len, nx, n, n2, v, w)) (hs : am_isSw i = false) : decode q.2.2.1 pc = .ok (i, am_len i) ∧ nx = pc + am_len i ∧ am_own q pc i n n2 v w = true := by
  have hc := List.all_eq_true.mp hk _ (am_fetch_in hf).1
  simp only [am_chk, Bool.and_eq_true, Bool.or_eq_true, decide_eq_true_eq, beq_iff_eq] at hc
  obtain ⟨hd, hnx, hlen, ho⟩ := hc
  have hlen : len = am_len i := hlen.resolve_left (fun h9 => by rw [hs] at h9; cases h9)
  subst hlen
  exact ⟨hd, hnx, ho⟩
theorem am_callB {qj : am_M} {mj idx n d : Nat} {X X1 : am_X} {R : Room} {p : Program} {s : State} {m : MethodId} {args : Array Value} {meth : Method} {c : Code} (hA : am_At D DA q p s m args meth c) (hj : am_ms[mj]? = some qj) (hok : am_okM qj) (ho : am_MW.any (fun z => z.1 == q.1 && (z.2.1 == idx && z.2.2 == mj)) = true) (hf : d + 2 ≤ R.frames) (hl : (d + 2) * 64 ≤ R.locals) (hn : (if qj.2.2.2.2.2.2.1 = true then qj.2.2.2.2.2.1 else qj.2.2.2.2.2.1 - 1) = n) :
    CallB R s args (am_cn q.1) idx qj.2.1 qj.2.2.1 qj.2.2.2.1 qj.2.2.2.2.1 (am_ws qj) (am_rm d X X1) (X1.1.length - X.1.length) (am_ns X1.1 - am_ns X.1) n := by
  obtain ⟨hx, hb, hml, hown, hts, hK, hin⟩ := hA
  refine callB_of n hts (am_goodIn hok) rfl rfl rfl (hts _ (am_tb_in hok.2.2.2.2.1 rfl)) (hts _ (am_y_eq hj ▸ am_mw ho)) ⟨hok.2.1.1, hok.2.1.2, by rw [← hn]; exact hok.2.2.2.2.2.1⟩ ⟨?_, ?_⟩
  · exact hf
  · have := hok.2.2.2.2.2.2.1
    show 8 + (qj.2.2.2.1 + 11) + (d + 1) * 64 ≤ R.locals
    omega
theorem am_room {m : MethodId} {pc n : Nat} {ls : Array Slot} {S : List Value} {st : List Value} (h : am_cat (S.drop n) ≤ 8) : 2 * (F0 m pc ls st).monitorRoom + (((S.drop n).map (am_v b sz)).map fun v => v.category).sum ≤ 8 := by
  rw [am_cat_v]
  have : (F0 m pc ls st).monitorRoom = 0 := rfl
  omega
theorem go_callS {k : List am_I} {d mi mj pc len nx n2 n idx : Nat} {qj : am_M} {v : Int32} {w : List Nat} {L : am_L} {S : List Value} {X X1 X' : am_X} {r1 r : Option Value} (hq : am_ms[mi]? = some q) (hk : k.all (am_chk q) = true) (hfe : am_fetch k pc = some (pc, .invokestatic idx, len, nx, mj, n2, v, w)) (hj : am_ms[mj]? = some qj) (hok : am_okM qj) (hst : qj.2.2.2.2.2.2.1 = true) (hn : qj.2.2.2.2.2.1 = n) (hl : (S.take n).length = n) (hlen : (am_sl (S.take n).reverse).length ≤ qj.2.2.2.1) (hcat : am_cat (S.drop n) ≤ 8)
    (G1 : am_Go l D DA b sz d mj (0, am_ent qj.2.2.2.1 (S.take n).reverse, [], X) r1 X1) (G2 : am_Go l D DA b sz (d + 1) mi (nx, L, r1.toList ++ S.drop n, X1) r X') : am_Go l D DA b sz (d + 1) mi (pc, L, S, X) r X' := by
  obtain ⟨hd, hnx, ho⟩ := am_chk_spec hk hfe rfl
  refine go_of_run hq hj hok hnx hlen G1 G2 ?_
  intro p e R s m args below meth c ls H locs cells slots hA hf hlo hc hs hL hO hM
  have hB := am_callB (X := X) (X1 := X1) (n := n) hA hj hok ho hf hlo (by rw [if_pos hst]; exact hn)
  obtain ⟨hx, hb, hml, hown, hts, hK, hin⟩ := hA
  refine ⟨_, va_runS (As := (S.take n).reverse.map (am_v b sz)) (Ts := am_tb) ⟨hx, hb, hml, hown, hts⟩ hM ⟨hB, hts _ (am_tb_in (hok.2.2.2.2.2.2.2.1 hst) rfl)⟩ ⟨am_blind, fun U hU hW => ⟨rfl, by rw [hU]; exact hO.moved hW.alike, hK.warm hW⟩⟩ rfl ?_ hL.2.1 am_args (am_room hcat) hd ⟨hc, hs⟩⟩
  rw [List.length_map, List.length_reverse]
  exact hl
theorem am_recv {n c : Nat} {S : List Value} (h : (S.take n).reverse.head? = some (.ref c)) : ∃ As, (S.take n).reverse = .ref c :: As := by
  cases he : (S.take n).reverse with
  | nil => rw [he] at h; cases h
  | cons a As => rw [he] at h; cases h; exact ⟨As, rfl⟩
theorem go_callV {k : List am_I} {d mi mj pc len nx n2 n idx c0 : Nat} {qj : am_M} {v : Int32} {w : List Nat} {L : am_L} {S : List Value} {X X1 X' : am_X} {r1 r : Option Value} (hq : am_ms[mi]? = some q) (hk : k.all (am_chk q) = true) (hfe : am_fetch k pc = some (pc, .invokevirtual idx, len, nx, mj, n2, v, w)) (hj : am_ms[mj]? = some qj) (hok : am_okM qj) (hst : qj.2.2.2.2.2.2.1 = false ∧ qj.2.2.2.2.2.2.2 = false ∧ qj.1 < 10) (hn : qj.2.2.2.2.2.1 = n) (hl : (S.take n).length = n) (hlen : (am_sl (S.take n).reverse).length ≤ qj.2.2.2.1) (hcat : am_cat (S.drop n) ≤ 8) (hrc : (S.take n).reverse.head? = some (.ref c0)) (hT : X.1[c0]? = some (.inl qj.1))
    (G1 : am_Go l D DA b sz d mj (0, am_ent qj.2.2.2.1 (S.take n).reverse, [], X) r1 X1) (G2 : am_Go l D DA b sz (d + 1) mi (nx, L, r1.toList ++ S.drop n, X1) r X') : am_Go l D DA b sz (d + 1) mi (pc, L, S, X) r X' := by
  obtain ⟨hd, hnx, ho⟩ := am_chk_spec hk hfe rfl
  refine go_of_run hq hj hok hnx hlen G1 G2 ?_
  intro p e R s m args below meth c ls H locs cells slots hA hf hlo hc hs hL hO hM
  obtain ⟨As, hAs⟩ := am_recv hrc
  have hB := am_callB (X := X) (X1 := X1) (n := n - 1) hA hj hok ho hf hlo (by rw [if_neg (by rw [hst.1]; decide), hn])
  obtain ⟨hx, hb, hml, hown, hts, hK, hin⟩ := hA
  have hl2 : (S.take n).reverse.length = n := by rw [List.length_reverse]; exact hl
  rw [hAs] at hl2
  have hl3 : As.length + 1 = n := hl2
  obtain ⟨hc0, w0, hw0, cell, g1, g2, g3, -⟩ := hO.2.2.2 c0 _ hT
  have hKn := hK.1.1 qj.1 _ hw0
  have hw1 : w0.1 = am_cn qj.1 := by rw [(am_clsOk qj.1 w0 hw0).1]
  have hfc : s.vm.findClass qj.2.1.cls = some cell.cls := by
    rw [g2, ← hok.1, ← hw1]
    exact hKn.2.1
  refine ⟨_, va_runV (As := As.map (am_v b sz)) (b := am_ad b sz c0) (C := qj.2.1.cls) (Ts := am_tb) (Pc := am_Pc D DA b sz (S.take n).reverse X) ⟨hx, hb, hml, hown, hts⟩ hM ⟨hB, hts _ (am_tb_in (hok.2.2.2.2.2.2.2.2.1 hst.1) rfl), hts _ (am_tb_in (hok.2.2.2.2.2.2.2.2.2.1 hst.1 hst.2.1) rfl)⟩ ⟨am_blind, ⟨cell, g1, by rw [g3]; rfl, hfc⟩, fun U hU hW => ⟨by rw [hAs]; rfl, by rw [hU]; exact hO.moved hW.alike, hK.warm hW⟩⟩ rfl ?_ hL.2.1 ?_ (am_room hcat) hd ⟨hc, hs⟩⟩
  · rw [List.length_map]; omega
  · show S.map (am_v b sz) = _
    rw [am_args (n := n), hAs]
    simp [am_v]
theorem am_mn {idx n : Nat} (h : am_MN.any (fun z => z.1 == q.1 && (z.2.1 == idx && z.2.2 == n)) = true) : ∃ z ∈ am_MN, z = (q.1, idx, n) := by
  obtain ⟨z, hz, h⟩ := am_anyK h
  simp only [Bool.and_eq_true, beq_iff_eq] at h
  obtain ⟨h1, h2, h3⟩ := h
  exact ⟨z, hz, by rw [← h1, ← h2, ← h3]⟩
theorem go_callI {k : List am_I} {d mi mj pc len nx n2 n idx c0 : Nat} {qj : am_M} {v : Int32} {w : List Nat} {L : am_L} {S : List Value} {X X1 X' : am_X} {r1 r : Option Value} (hq : am_ms[mi]? = some q) (hk : k.all (am_chk q) = true) (hfe : am_fetch k pc = some (pc, .invokespecial idx, len, nx, mj, n2, v, w)) (hn2 : n2 ≠ 9) (hj : am_ms[mj]? = some qj) (hok : am_okM qj) (hst : qj.2.2.2.2.2.2.1 = false ∧ qj.2.2.2.2.2.2.2 = true) (hn : qj.2.2.2.2.2.1 = n) (hl : (S.take n).length = n) (hlen : (am_sl (S.take n).reverse).length ≤ qj.2.2.2.1) (hcat : am_cat (S.drop n) ≤ 8) (hrc : (S.take n).reverse.head? = some (.ref c0))
    (G1 : am_Go l D DA b sz d mj (0, am_ent qj.2.2.2.1 (S.take n).reverse, [], X) r1 X1) (G2 : am_Go l D DA b sz (d + 1) mi (nx, L, r1.toList ++ S.drop n, X1) r X') : am_Go l D DA b sz (d + 1) mi (pc, L, S, X) r X' := by
  obtain ⟨hd, hnx, ho⟩ := am_chk_spec hk hfe rfl
  refine go_of_run hq hj hok hnx hlen G1 G2 ?_
  intro p e R s m args below meth c ls H locs cells slots hA hf hlo hc hs hL hO hM
  obtain ⟨As, hAs⟩ := am_recv hrc
  have hl2 : (S.take n).reverse.length = n := by rw [List.length_reverse]; exact hl
  rw [hAs] at hl2
  have hl3 : As.length + 1 = n := hl2
  have hini := hok.2.2.2.2.2.2.2.2.2.2.1 hst.2
  have hst2 : S.map (am_v b sz) = (As.map (am_v b sz)).reverse ++ .ref (am_ad b sz c0) :: (S.drop n).map (am_v b sz) := by
    rw [am_args (n := n), hAs]
    simp [am_v]
  simp only [am_own] at ho
  rw [if_neg hn2] at ho
  by_cases h1 : n2 = 1
  · rw [if_pos h1] at ho
    obtain ⟨z, hz, rfl⟩ := am_mn ho
    obtain ⟨hx, hb, hml, hown, hts, hK, hin⟩ := hA
    have hl9 := hK.2.2 _ hz
    have hcn := va_cnB (args := args) (Ts := am_tb) (R := R) (mc := X1.1.length - X.1.length) (ms := am_ns X1.1 - am_ns X.1) (rm := am_rm d X X1) (ret := none) (bytes := qj.2.2.1) (maxL := qj.2.2.2.1) (ws := am_ws qj) (n - 1) hts (am_goodIn hok) (show am_ws qj = Cond.code qj.2.1 qj.2.2.1 qj.2.2.2.1 none :: am_tb by rw [← hini.2]) rfl rfl (am_y_eq hj ▸ hl9) (hts _ (am_tb_in hok.2.2.2.2.1 rfl)) ⟨hok.2.1.1, hok.2.1.2, by rw [hok.2.2.2.2.2.1, if_neg (by rw [hst.1]; decide), hn]⟩ ⟨hf, by
      have := hok.2.2.2.2.2.2.1
      show 8 + (qj.2.2.2.1 + 11) + (d + 1) * 64 ≤ R.locals
      omega⟩
    refine ⟨_, va_runIN (As := As.map (am_v b sz)) (b := am_ad b sz c0) (Ts := am_tb) (Pc := am_Pc D DA b sz (S.take n).reverse X) ⟨hx, hb, hml, hown, hts⟩ hM ⟨hcn, hini.1, hts _ (am_tb_in (hok.2.2.2.2.2.2.2.2.1 hst.1) rfl)⟩ ⟨am_blind, fun U hU hW => ⟨by rw [hAs]; rfl, by rw [hU]; exact hO.moved hW.alike, hK.warm hW⟩⟩ rfl ?_ hL.2.1 hst2 (am_room hcat) hd ⟨hc, hs⟩⟩
    rw [List.length_map]; omega
  · rw [if_neg h1] at ho
    have hB := am_callB (X := X) (X1 := X1) (n := n - 1) hA hj hok ho hf hlo (by rw [if_neg (by rw [hst.1]; decide), hn])
    rw [hini.2] at hB
    obtain ⟨hx, hb, hml, hown, hts, hK, hin⟩ := hA
    refine ⟨_, va_runI (As := As.map (am_v b sz)) (b := am_ad b sz c0) (Ts := am_tb) (Pc := am_Pc D DA b sz (S.take n).reverse X) ⟨hx, hb, hml, hown, hts⟩ hM ⟨hB, hini.1, hts _ (am_tb_in (hok.2.2.2.2.2.2.2.2.1 hst.1) rfl)⟩ ⟨am_blind, fun U hU hW => ⟨by rw [hAs]; rfl, by rw [hU]; exact hO.moved hW.alike, hK.warm hW⟩⟩ rfl ?_ hL.2.1 hst2 (am_room hcat) hd ⟨hc, hs⟩⟩
    rw [List.length_map]; omega
end AMG
end
