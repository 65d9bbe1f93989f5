-- ===== PART A: goes FIRST, ahead of the names: the tables' words, and 'selects' of the private methods out of them =====
/-- a private method of a class that the tables say can be made, by its rows of tables_1 -/
def lw_okq (q : MethodName × Nat) : Prop := (q.1.cls ≠ "java/lang/invoke/MethodHandle" ∧ q.1.cls ≠ "java/lang/invoke/VarHandle") ∧ Cond.instantiable q.1.cls q.2 ∈ tables_1 ∧ Cond.privateMethod q.1 ∈ tables_1 ∧ Cond.instanceMethod q.1 ∈ tables_1
theorem lw_p0 : lw_okq (⟨"SlotMesh$Text", "nextToken", "()V"⟩, 6) := ⟨⟨by decide +kernel, by decide +kernel⟩, List.mem_of_getElem? (i := 78) (by decide +kernel), List.mem_of_getElem? (i := 207) (by decide +kernel), List.mem_of_getElem? (i := 208) (by decide +kernel)⟩
theorem lw_p1 : lw_okq (⟨"SlotMesh$Text", "readClause", "(LSlotMesh$Mesh;)Z"⟩, 6) := ⟨⟨by decide +kernel, by decide +kernel⟩, List.mem_of_getElem? (i := 78) (by decide +kernel), List.mem_of_getElem? (i := 217) (by decide +kernel), List.mem_of_getElem? (i := 218) (by decide +kernel)⟩
theorem lw_p2 : lw_okq (⟨"SlotMesh$Text", "isWord", "(Ljava/lang/String;)Z"⟩, 6) := ⟨⟨by decide +kernel, by decide +kernel⟩, List.mem_of_getElem? (i := 78) (by decide +kernel), List.mem_of_getElem? (i := 222) (by decide +kernel), List.mem_of_getElem? (i := 223) (by decide +kernel)⟩
theorem lw_p3 : lw_okq (⟨"SlotMesh$Text", "readMesh", "(LSlotMesh$Mesh;)Z"⟩, 6) := ⟨⟨by decide +kernel, by decide +kernel⟩, List.mem_of_getElem? (i := 78) (by decide +kernel), List.mem_of_getElem? (i := 274) (by decide +kernel), List.mem_of_getElem? (i := 275) (by decide +kernel)⟩
theorem lw_p4 : lw_okq (⟨"SlotMesh$Text", "readNumber", "(II)Z"⟩, 6) := ⟨⟨by decide +kernel, by decide +kernel⟩, List.mem_of_getElem? (i := 78) (by decide +kernel), List.mem_of_getElem? (i := 278) (by decide +kernel), List.mem_of_getElem? (i := 279) (by decide +kernel)⟩
theorem lw_p5 : lw_okq (⟨"SlotMesh$Text", "readLink", "(LSlotMesh$Mesh;)Z"⟩, 6) := ⟨⟨by decide +kernel, by decide +kernel⟩, List.mem_of_getElem? (i := 78) (by decide +kernel), List.mem_of_getElem? (i := 284) (by decide +kernel), List.mem_of_getElem? (i := 285) (by decide +kernel)⟩
theorem lw_p6 : lw_okq (⟨"SlotMesh$Text", "readOfStation", "([IIII)Z"⟩, 6) := ⟨⟨by decide +kernel, by decide +kernel⟩, List.mem_of_getElem? (i := 78) (by decide +kernel), List.mem_of_getElem? (i := 293) (by decide +kernel), List.mem_of_getElem? (i := 294) (by decide +kernel)⟩
theorem lw_p7 : lw_okq (⟨"SlotMesh$Mesh", "ask", "(I)I"⟩, 11) := ⟨⟨by decide +kernel, by decide +kernel⟩, List.mem_of_getElem? (i := 24) (by decide +kernel), List.mem_of_getElem? (i := 389) (by decide +kernel), List.mem_of_getElem? (i := 390) (by decide +kernel)⟩
theorem lw_p8 : lw_okq (⟨"SlotMesh$Mesh", "drawLot", "(I)I"⟩, 11) := ⟨⟨by decide +kernel, by decide +kernel⟩, List.mem_of_getElem? (i := 24) (by decide +kernel), List.mem_of_getElem? (i := 393) (by decide +kernel), List.mem_of_getElem? (i := 394) (by decide +kernel)⟩
theorem lw_p9 : lw_okq (⟨"SlotMesh$Mesh", "settle", "(III)I"⟩, 11) := ⟨⟨by decide +kernel, by decide +kernel⟩, List.mem_of_getElem? (i := 24) (by decide +kernel), List.mem_of_getElem? (i := 402) (by decide +kernel), List.mem_of_getElem? (i := 403) (by decide +kernel)⟩
theorem lw_p10 : lw_okq (⟨"SlotMesh$Mesh", "changeShares", "(II)V"⟩, 11) := ⟨⟨by decide +kernel, by decide +kernel⟩, List.mem_of_getElem? (i := 24) (by decide +kernel), List.mem_of_getElem? (i := 406) (by decide +kernel), List.mem_of_getElem? (i := 407) (by decide +kernel)⟩
theorem lw_p11 : lw_okq (⟨"SlotMesh$Mesh", "leastFree", "(I)I"⟩, 11) := ⟨⟨by decide +kernel, by decide +kernel⟩, List.mem_of_getElem? (i := 24) (by decide +kernel), List.mem_of_getElem? (i := 495) (by decide +kernel), List.mem_of_getElem? (i := 496) (by decide +kernel)⟩
theorem lw_p12 : lw_okq (⟨"SlotMesh", "numbersOfAll", "()I"⟩, 7) := ⟨⟨by decide +kernel, by decide +kernel⟩, List.mem_of_getElem? (i := 16) (by decide +kernel), List.mem_of_getElem? (i := 589) (by decide +kernel), List.mem_of_getElem? (i := 590) (by decide +kernel)⟩
theorem lw_p13 : lw_okq (⟨"SlotMeshModel", "anew", "(IIII)V"⟩, 20) := ⟨⟨by decide +kernel, by decide +kernel⟩, List.mem_of_getElem? (i := 597) (by decide +kernel), List.mem_of_getElem? (i := 603) (by decide +kernel), List.mem_of_getElem? (i := 604) (by decide +kernel)⟩
theorem lw_p14 : lw_okq (⟨"SlotMeshModel", "reads", "(Z)Z"⟩, 20) := ⟨⟨by decide +kernel, by decide +kernel⟩, List.mem_of_getElem? (i := 597) (by decide +kernel), List.mem_of_getElem? (i := 684) (by decide +kernel), List.mem_of_getElem? (i := 685) (by decide +kernel)⟩
theorem lw_p15 : lw_okq (⟨"SlotMeshModel", "nextToken", "()V"⟩, 20) := ⟨⟨by decide +kernel, by decide +kernel⟩, List.mem_of_getElem? (i := 597) (by decide +kernel), List.mem_of_getElem? (i := 688) (by decide +kernel), List.mem_of_getElem? (i := 689) (by decide +kernel)⟩
def lw_privs_1 : List (MethodName × Nat) := [(⟨"SlotMesh$Text", "nextToken", "()V"⟩, 6), (⟨"SlotMesh$Text", "readClause", "(LSlotMesh$Mesh;)Z"⟩, 6), (⟨"SlotMesh$Text", "isWord", "(Ljava/lang/String;)Z"⟩, 6), (⟨"SlotMesh$Text", "readMesh", "(LSlotMesh$Mesh;)Z"⟩, 6), (⟨"SlotMesh$Text", "readNumber", "(II)Z"⟩, 6), (⟨"SlotMesh$Text", "readLink", "(LSlotMesh$Mesh;)Z"⟩, 6), (⟨"SlotMesh$Text", "readOfStation", "([IIII)Z"⟩, 6), (⟨"SlotMesh$Mesh", "ask", "(I)I"⟩, 11), (⟨"SlotMesh$Mesh", "drawLot", "(I)I"⟩, 11), (⟨"SlotMesh$Mesh", "settle", "(III)I"⟩, 11), (⟨"SlotMesh$Mesh", "changeShares", "(II)V"⟩, 11), (⟨"SlotMesh$Mesh", "leastFree", "(I)I"⟩, 11), (⟨"SlotMesh", "numbersOfAll", "()I"⟩, 7), (⟨"SlotMeshModel", "anew", "(IIII)V"⟩, 20), (⟨"SlotMeshModel", "reads", "(Z)Z"⟩, 20), (⟨"SlotMeshModel", "nextToken", "()V"⟩, 20)]
theorem lw_r1 : ∀ q ∈ lw_privs_1, lw_okq q := List.forall_mem_cons.mpr ⟨lw_p0, List.forall_mem_cons.mpr ⟨lw_p1, List.forall_mem_cons.mpr ⟨lw_p2, List.forall_mem_cons.mpr ⟨lw_p3, List.forall_mem_cons.mpr ⟨lw_p4, List.forall_mem_cons.mpr ⟨lw_p5, List.forall_mem_cons.mpr ⟨lw_p6, List.forall_mem_cons.mpr ⟨lw_p7, List.forall_mem_cons.mpr ⟨lw_p8, List.forall_mem_cons.mpr ⟨lw_p9, List.forall_mem_cons.mpr ⟨lw_p10, List.forall_mem_cons.mpr ⟨lw_p11, List.forall_mem_cons.mpr ⟨lw_p12, List.forall_mem_cons.mpr ⟨lw_p13, List.forall_mem_cons.mpr ⟨lw_p14, List.forall_mem_cons.mpr ⟨lw_p15, fun _ h => absurd h List.not_mem_nil⟩⟩⟩⟩⟩⟩⟩⟩⟩⟩⟩⟩⟩⟩⟩⟩
theorem lw_p16 : lw_okq (⟨"SlotMeshModel", "readsClause", "()Z"⟩, 20) := ⟨⟨by decide +kernel, by decide +kernel⟩, List.mem_of_getElem? (i := 597) (by decide +kernel), List.mem_of_getElem? (i := 702) (by decide +kernel), List.mem_of_getElem? (i := 703) (by decide +kernel)⟩
theorem lw_p17 : lw_okq (⟨"SlotMeshModel", "wordHere", "()I"⟩, 20) := ⟨⟨by decide +kernel, by decide +kernel⟩, List.mem_of_getElem? (i := 597) (by decide +kernel), List.mem_of_getElem? (i := 706) (by decide +kernel), List.mem_of_getElem? (i := 707) (by decide +kernel)⟩
theorem lw_p18 : lw_okq (⟨"SlotMeshModel", "readsRest", "(I)Z"⟩, 20) := ⟨⟨by decide +kernel, by decide +kernel⟩, List.mem_of_getElem? (i := 597) (by decide +kernel), List.mem_of_getElem? (i := 710) (by decide +kernel), List.mem_of_getElem? (i := 711) (by decide +kernel)⟩
theorem lw_p19 : lw_okq (⟨"SlotMeshModel", "number", "(IIII)Z"⟩, 20) := ⟨⟨by decide +kernel, by decide +kernel⟩, List.mem_of_getElem? (i := 597) (by decide +kernel), List.mem_of_getElem? (i := 714) (by decide +kernel), List.mem_of_getElem? (i := 715) (by decide +kernel)⟩
theorem lw_p20 : lw_okq (⟨"SlotMeshModel", "does", "(I)V"⟩, 20) := ⟨⟨by decide +kernel, by decide +kernel⟩, List.mem_of_getElem? (i := 597) (by decide +kernel), List.mem_of_getElem? (i := 718) (by decide +kernel), List.mem_of_getElem? (i := 719) (by decide +kernel)⟩
theorem lw_p21 : lw_okq (⟨"SlotMeshModel", "joins", "(III)V"⟩, 20) := ⟨⟨by decide +kernel, by decide +kernel⟩, List.mem_of_getElem? (i := 597) (by decide +kernel), List.mem_of_getElem? (i := 722) (by decide +kernel), List.mem_of_getElem? (i := 723) (by decide +kernel)⟩
theorem lw_p22 : lw_okq (⟨"SlotMeshModel", "isStation", "(I)Z"⟩, 20) := ⟨⟨by decide +kernel, by decide +kernel⟩, List.mem_of_getElem? (i := 597) (by decide +kernel), List.mem_of_getElem? (i := 734) (by decide +kernel), List.mem_of_getElem? (i := 735) (by decide +kernel)⟩
theorem lw_p23 : lw_okq (⟨"SlotMeshModel", "near", "(II)I"⟩, 20) := ⟨⟨by decide +kernel, by decide +kernel⟩, List.mem_of_getElem? (i := 597) (by decide +kernel), List.mem_of_getElem? (i := 738) (by decide +kernel), List.mem_of_getElem? (i := 739) (by decide +kernel)⟩
theorem lw_p24 : lw_okq (⟨"SlotMeshModel", "isCovered", "(II)Z"⟩, 20) := ⟨⟨by decide +kernel, by decide +kernel⟩, List.mem_of_getElem? (i := 597) (by decide +kernel), List.mem_of_getElem? (i := 745) (by decide +kernel), List.mem_of_getElem? (i := 746) (by decide +kernel)⟩
theorem lw_p25 : lw_okq (⟨"SlotMeshModel", "isSlot", "(I)Z"⟩, 20) := ⟨⟨by decide +kernel, by decide +kernel⟩, List.mem_of_getElem? (i := 597) (by decide +kernel), List.mem_of_getElem? (i := 756) (by decide +kernel), List.mem_of_getElem? (i := 757) (by decide +kernel)⟩
theorem lw_p26 : lw_okq (⟨"SlotMeshModel", "holders", "(II)I"⟩, 20) := ⟨⟨by decide +kernel, by decide +kernel⟩, List.mem_of_getElem? (i := 597) (by decide +kernel), List.mem_of_getElem? (i := 760) (by decide +kernel), List.mem_of_getElem? (i := 761) (by decide +kernel)⟩
theorem lw_p27 : lw_okq (⟨"SlotMeshModel", "contenders", "(II)I"⟩, 20) := ⟨⟨by decide +kernel, by decide +kernel⟩, List.mem_of_getElem? (i := 597) (by decide +kernel), List.mem_of_getElem? (i := 764) (by decide +kernel), List.mem_of_getElem? (i := 765) (by decide +kernel)⟩
theorem lw_p28 : lw_okq (⟨"SlotMeshModel", "clashesBy", "(II)I"⟩, 20) := ⟨⟨by decide +kernel, by decide +kernel⟩, List.mem_of_getElem? (i := 597) (by decide +kernel), List.mem_of_getElem? (i := 768) (by decide +kernel), List.mem_of_getElem? (i := 769) (by decide +kernel)⟩
theorem lw_p29 : lw_okq (⟨"SlotMeshModel", "keepPast", "()V"⟩, 20) := ⟨⟨by decide +kernel, by decide +kernel⟩, List.mem_of_getElem? (i := 597) (by decide +kernel), List.mem_of_getElem? (i := 776) (by decide +kernel), List.mem_of_getElem? (i := 777) (by decide +kernel)⟩
theorem lw_p30 : lw_okq (⟨"SlotMeshModel", "copyRow", "(II)V"⟩, 20) := ⟨⟨by decide +kernel, by decide +kernel⟩, List.mem_of_getElem? (i := 597) (by decide +kernel), List.mem_of_getElem? (i := 780) (by decide +kernel), List.mem_of_getElem? (i := 781) (by decide +kernel)⟩
theorem lw_p31 : lw_okq (⟨"SlotMeshModel", "cycleOf", "(II)V"⟩, 20) := ⟨⟨by decide +kernel, by decide +kernel⟩, List.mem_of_getElem? (i := 597) (by decide +kernel), List.mem_of_getElem? (i := 784) (by decide +kernel), List.mem_of_getElem? (i := 785) (by decide +kernel)⟩
def lw_privs_2 : List (MethodName × Nat) := [(⟨"SlotMeshModel", "readsClause", "()Z"⟩, 20), (⟨"SlotMeshModel", "wordHere", "()I"⟩, 20), (⟨"SlotMeshModel", "readsRest", "(I)Z"⟩, 20), (⟨"SlotMeshModel", "number", "(IIII)Z"⟩, 20), (⟨"SlotMeshModel", "does", "(I)V"⟩, 20), (⟨"SlotMeshModel", "joins", "(III)V"⟩, 20), (⟨"SlotMeshModel", "isStation", "(I)Z"⟩, 20), (⟨"SlotMeshModel", "near", "(II)I"⟩, 20), (⟨"SlotMeshModel", "isCovered", "(II)Z"⟩, 20), (⟨"SlotMeshModel", "isSlot", "(I)Z"⟩, 20), (⟨"SlotMeshModel", "holders", "(II)I"⟩, 20), (⟨"SlotMeshModel", "contenders", "(II)I"⟩, 20), (⟨"SlotMeshModel", "clashesBy", "(II)I"⟩, 20), (⟨"SlotMeshModel", "keepPast", "()V"⟩, 20), (⟨"SlotMeshModel", "copyRow", "(II)V"⟩, 20), (⟨"SlotMeshModel", "cycleOf", "(II)V"⟩, 20)]
theorem lw_r2 : ∀ q ∈ lw_privs_2, lw_okq q := List.forall_mem_cons.mpr ⟨lw_p16, List.forall_mem_cons.mpr ⟨lw_p17, List.forall_mem_cons.mpr ⟨lw_p18, List.forall_mem_cons.mpr ⟨lw_p19, List.forall_mem_cons.mpr ⟨lw_p20, List.forall_mem_cons.mpr ⟨lw_p21, List.forall_mem_cons.mpr ⟨lw_p22, List.forall_mem_cons.mpr ⟨lw_p23, List.forall_mem_cons.mpr ⟨lw_p24, List.forall_mem_cons.mpr ⟨lw_p25, List.forall_mem_cons.mpr ⟨lw_p26, List.forall_mem_cons.mpr ⟨lw_p27, List.forall_mem_cons.mpr ⟨lw_p28, List.forall_mem_cons.mpr ⟨lw_p29, List.forall_mem_cons.mpr ⟨lw_p30, List.forall_mem_cons.mpr ⟨lw_p31, fun _ h => absurd h List.not_mem_nil⟩⟩⟩⟩⟩⟩⟩⟩⟩⟩⟩⟩⟩⟩⟩⟩
theorem lw_p32 : lw_okq (⟨"SlotMeshModel", "asking", "(II)I"⟩, 20) := ⟨⟨by decide +kernel, by decide +kernel⟩, List.mem_of_getElem? (i := 597) (by decide +kernel), List.mem_of_getElem? (i := 788) (by decide +kernel), List.mem_of_getElem? (i := 789) (by decide +kernel)⟩
theorem lw_p33 : lw_okq (⟨"SlotMeshModel", "lot", "(II)I"⟩, 20) := ⟨⟨by decide +kernel, by decide +kernel⟩, List.mem_of_getElem? (i := 597) (by decide +kernel), List.mem_of_getElem? (i := 792) (by decide +kernel), List.mem_of_getElem? (i := 793) (by decide +kernel)⟩
theorem lw_p34 : lw_okq (⟨"SlotMeshModel", "hearing", "(IIII)I"⟩, 20) := ⟨⟨by decide +kernel, by decide +kernel⟩, List.mem_of_getElem? (i := 597) (by decide +kernel), List.mem_of_getElem? (i := 797) (by decide +kernel), List.mem_of_getElem? (i := 798) (by decide +kernel)⟩
theorem lw_p35 : lw_okq (⟨"SlotMeshModel", "settles", "(IIII)I"⟩, 20) := ⟨⟨by decide +kernel, by decide +kernel⟩, List.mem_of_getElem? (i := 597) (by decide +kernel), List.mem_of_getElem? (i := 801) (by decide +kernel), List.mem_of_getElem? (i := 802) (by decide +kernel)⟩
theorem lw_p36 : lw_okq (⟨"SlotMeshModel", "first", "(I)I"⟩, 20) := ⟨⟨by decide +kernel, by decide +kernel⟩, List.mem_of_getElem? (i := 597) (by decide +kernel), List.mem_of_getElem? (i := 805) (by decide +kernel), List.mem_of_getElem? (i := 806) (by decide +kernel)⟩
theorem lw_p37 : lw_okq (⟨"SlotMeshModel", "shares", "(III)V"⟩, 20) := ⟨⟨by decide +kernel, by decide +kernel⟩, List.mem_of_getElem? (i := 597) (by decide +kernel), List.mem_of_getElem? (i := 809) (by decide +kernel), List.mem_of_getElem? (i := 810) (by decide +kernel)⟩
theorem lw_p38 : lw_okq (⟨"SlotMeshModel", "nearTo", "(II)I"⟩, 20) := ⟨⟨by decide +kernel, by decide +kernel⟩, List.mem_of_getElem? (i := 597) (by decide +kernel), List.mem_of_getElem? (i := 813) (by decide +kernel), List.mem_of_getElem? (i := 814) (by decide +kernel)⟩
theorem lw_p39 : lw_okq (⟨"SlotMeshModel", "frameOf", "(I)V"⟩, 20) := ⟨⟨by decide +kernel, by decide +kernel⟩, List.mem_of_getElem? (i := 597) (by decide +kernel), List.mem_of_getElem? (i := 822) (by decide +kernel), List.mem_of_getElem? (i := 823) (by decide +kernel)⟩
theorem lw_p40 : lw_okq (⟨"SlotMeshModel", "covered", "(I)I"⟩, 20) := ⟨⟨by decide +kernel, by decide +kernel⟩, List.mem_of_getElem? (i := 597) (by decide +kernel), List.mem_of_getElem? (i := 826) (by decide +kernel), List.mem_of_getElem? (i := 827) (by decide +kernel)⟩
theorem lw_p41 : lw_okq (⟨"SlotMeshModel", "areTwo", "(II)Z"⟩, 20) := ⟨⟨by decide +kernel, by decide +kernel⟩, List.mem_of_getElem? (i := 597) (by decide +kernel), List.mem_of_getElem? (i := 838) (by decide +kernel), List.mem_of_getElem? (i := 839) (by decide +kernel)⟩
theorem lw_p42 : lw_okq (⟨"SlotMeshModel", "clashes", "(I)I"⟩, 20) := ⟨⟨by decide +kernel, by decide +kernel⟩, List.mem_of_getElem? (i := 597) (by decide +kernel), List.mem_of_getElem? (i := 842) (by decide +kernel), List.mem_of_getElem? (i := 843) (by decide +kernel)⟩
theorem lw_p43 : lw_okq (⟨"SlotMeshModel", "isDone", "(I)Z"⟩, 20) := ⟨⟨by decide +kernel, by decide +kernel⟩, List.mem_of_getElem? (i := 597) (by decide +kernel), List.mem_of_getElem? (i := 871) (by decide +kernel), List.mem_of_getElem? (i := 872) (by decide +kernel)⟩
theorem lw_p44 : lw_okq (⟨"SlotMeshModel", "links", "()I"⟩, 20) := ⟨⟨by decide +kernel, by decide +kernel⟩, List.mem_of_getElem? (i := 597) (by decide +kernel), List.mem_of_getElem? (i := 929) (by decide +kernel), List.mem_of_getElem? (i := 930) (by decide +kernel)⟩
theorem lw_p45 : lw_okq (⟨"SlotMeshModel", "allNumbers", "()I"⟩, 20) := ⟨⟨by decide +kernel, by decide +kernel⟩, List.mem_of_getElem? (i := 597) (by decide +kernel), List.mem_of_getElem? (i := 933) (by decide +kernel), List.mem_of_getElem? (i := 934) (by decide +kernel)⟩
def lw_privs_3 : List (MethodName × Nat) := [(⟨"SlotMeshModel", "asking", "(II)I"⟩, 20), (⟨"SlotMeshModel", "lot", "(II)I"⟩, 20), (⟨"SlotMeshModel", "hearing", "(IIII)I"⟩, 20), (⟨"SlotMeshModel", "settles", "(IIII)I"⟩, 20), (⟨"SlotMeshModel", "first", "(I)I"⟩, 20), (⟨"SlotMeshModel", "shares", "(III)V"⟩, 20), (⟨"SlotMeshModel", "nearTo", "(II)I"⟩, 20), (⟨"SlotMeshModel", "frameOf", "(I)V"⟩, 20), (⟨"SlotMeshModel", "covered", "(I)I"⟩, 20), (⟨"SlotMeshModel", "areTwo", "(II)Z"⟩, 20), (⟨"SlotMeshModel", "clashes", "(I)I"⟩, 20), (⟨"SlotMeshModel", "isDone", "(I)Z"⟩, 20), (⟨"SlotMeshModel", "links", "()I"⟩, 20), (⟨"SlotMeshModel", "allNumbers", "()I"⟩, 20)]
theorem lw_r3 : ∀ q ∈ lw_privs_3, lw_okq q := List.forall_mem_cons.mpr ⟨lw_p32, List.forall_mem_cons.mpr ⟨lw_p33, List.forall_mem_cons.mpr ⟨lw_p34, List.forall_mem_cons.mpr ⟨lw_p35, List.forall_mem_cons.mpr ⟨lw_p36, List.forall_mem_cons.mpr ⟨lw_p37, List.forall_mem_cons.mpr ⟨lw_p38, List.forall_mem_cons.mpr ⟨lw_p39, List.forall_mem_cons.mpr ⟨lw_p40, List.forall_mem_cons.mpr ⟨lw_p41, List.forall_mem_cons.mpr ⟨lw_p42, List.forall_mem_cons.mpr ⟨lw_p43, List.forall_mem_cons.mpr ⟨lw_p44, List.forall_mem_cons.mpr ⟨lw_p45, fun _ h => absurd h List.not_mem_nil⟩⟩⟩⟩⟩⟩⟩⟩⟩⟩⟩⟩⟩⟩
def lw_privs : List (MethodName × Nat) := lw_privs_1 ++ (lw_privs_2 ++ (lw_privs_3))
def lw_tbl : List Cond := k2_sels lw_privs ++ tables_1
theorem lw_privs_ok : ∀ q ∈ lw_privs, lw_okq q := by
  show ∀ q ∈ lw_privs_1 ++ (lw_privs_2 ++ (lw_privs_3)), lw_okq q
  exact List.forall_mem_append.mpr ⟨lw_r1, List.forall_mem_append.mpr ⟨lw_r2, lw_r3⟩⟩
def RX0 : String := "SlotMesh$Mesh"
def TX0 : u_T := fun k => match k with
  | 0 => ("SlotMesh$Mesh", "stations", "I", false)
  | 1 => ("SlotMesh$Mesh", "slots", "I", false)
  | 2 => ("SlotMesh$Mesh", "cycles", "I", false)
  | 3 => ("SlotMesh$Mesh", "lots", "I", false)
  | 4 => ("SlotMesh$Mesh", "cycled", "Z", false)
  | 5 => ("SlotMesh$Mesh", "wants", "[I", true)
  | 6 => ("SlotMesh$Mesh", "shares", "[I", true)
  | 7 => ("SlotMesh$Mesh", "links", "[I", true)
  | 8 => ("SlotMesh$Mesh", "holds", "[I", true)
  | 9 => ("SlotMesh$Mesh", "phases", "[I", true)
  | _ => ("SlotMesh$Mesh", "drawn", "[I", true)
def tyX0 : Nat → FieldType := fun k => match k with
  | 0 => .int
  | 1 => .int
  | 2 => .int
  | 3 => .int
  | 4 => .boolean
  | 5 => .array .int
  | 6 => .array .int
  | 7 => .array .int
  | 8 => .array .int
  | 9 => .array .int
  | _ => .array .int
abbrev wsX00 : List Cond := u_ws RX0 TX0 11
theorem nmX0 : ∀ a, a < 11 → ∀ b, b < 11 → a ≠ b → (TX0 a).2.1 ≠ (TX0 b).2.1 := by decide +kernel
theorem tyX0_ok : ∀ k, k < 11 → parseFieldDescriptor (TX0 k).2.2.1 = some (tyX0 k) := by decide +kernel
def RX1 : String := "SlotMesh$Past"
def TX1 : u_T := fun k => match k with
  | 0 => ("SlotMesh$Past", "ring", "[LSlotMesh$Mesh;", true)
  | 1 => ("SlotMesh$Past", "next", "I", false)
  | _ => ("SlotMesh$Past", "count", "I", false)
def tyX1 : Nat → FieldType := fun k => match k with
  | 0 => .array (.object "SlotMesh$Mesh")
  | 1 => .int
  | _ => .int
abbrev wsX10 : List Cond := u_ws RX1 TX1 3
theorem nmX1 : ∀ a, a < 3 → ∀ b, b < 3 → a ≠ b → (TX1 a).2.1 ≠ (TX1 b).2.1 := by decide +kernel
theorem tyX1_ok : ∀ k, k < 3 → parseFieldDescriptor (TX1 k).2.2.1 = some (tyX1 k) := by decide +kernel
def RX2 : String := "SlotMesh$Tally"
def TX2 : u_T := fun k => match k with
  | 0 => ("SlotMesh$Tally", "numbers", "[I", true)
  | 1 => ("SlotMesh$Tally", "size", "I", false)
  | _ => ("SlotMesh$Tally", "missing", "Z", false)
def tyX2 : Nat → FieldType := fun k => match k with
  | 0 => .array .int
  | 1 => .int
  | _ => .boolean
abbrev wsX20 : List Cond := u_ws RX2 TX2 3
theorem nmX2 : ∀ a, a < 3 → ∀ b, b < 3 → a ≠ b → (TX2 a).2.1 ≠ (TX2 b).2.1 := by decide +kernel
theorem tyX2_ok : ∀ k, k < 3 → parseFieldDescriptor (TX2 k).2.2.1 = some (tyX2 k) := by decide +kernel
def RX3 : String := "SlotMesh$Text"
def TX3 : u_T := fun k => match k with
  | 0 => ("SlotMesh$Text", "letters", "[I", true)
  | 1 => ("SlotMesh$Text", "length", "I", false)
  | 2 => ("SlotMesh$Text", "start", "I", false)
  | 3 => ("SlotMesh$Text", "end", "I", false)
  | 4 => ("SlotMesh$Text", "value", "I", false)
  | _ => ("SlotMesh$Text", "clauses", "I", false)
def tyX3 : Nat → FieldType := fun k => match k with
  | 0 => .array .int
  | 1 => .int
  | 2 => .int
  | 3 => .int
  | 4 => .int
  | _ => .int
abbrev wsX30 : List Cond := u_ws RX3 TX3 6
theorem nmX3 : ∀ a, a < 6 → ∀ b, b < 6 → a ≠ b → (TX3 a).2.1 ≠ (TX3 b).2.1 := by decide +kernel
theorem tyX3_ok : ∀ k, k < 6 → parseFieldDescriptor (TX3 k).2.2.1 = some (tyX3 k) := by decide +kernel
def RX4 : String := "SlotMesh"
def TX4 : u_T := fun k => match k with
  | 0 => ("SlotMesh", "now", "LSlotMesh$Mesh;", true)
  | 1 => ("SlotMesh", "trial", "LSlotMesh$Mesh;", true)
  | 2 => ("SlotMesh", "text", "LSlotMesh$Text;", true)
  | 3 => ("SlotMesh", "past", "LSlotMesh$Past;", true)
  | 4 => ("SlotMesh", "keeps", "[LSlotMesh$Mesh;", true)
  | 5 => ("SlotMesh", "kept", "[Z", true)
  | _ => ("SlotMesh", "tallies", "[LSlotMesh$Tally;", true)
def tyX4 : Nat → FieldType := fun k => match k with
  | 0 => .object "SlotMesh$Mesh"
  | 1 => .object "SlotMesh$Mesh"
  | 2 => .object "SlotMesh$Text"
  | 3 => .object "SlotMesh$Past"
  | 4 => .array (.object "SlotMesh$Mesh")
  | 5 => .array .boolean
  | _ => .array (.object "SlotMesh$Tally")
abbrev wsX40 : List Cond := u_ws RX4 TX4 7
theorem nmX4 : ∀ a, a < 7 → ∀ b, b < 7 → a ≠ b → (TX4 a).2.1 ≠ (TX4 b).2.1 := by decide +kernel
theorem tyX4_ok : ∀ k, k < 7 → parseFieldDescriptor (TX4 k).2.2.1 = some (tyX4 k) := by decide +kernel
def RX5 : String := "SlotMeshModel"
def TX5 : u_T := fun k => match k with
  | 0 => ("SlotMeshModel", "row", "[I", true)
  | 1 => ("SlotMeshModel", "stations", "I", false)
  | 2 => ("SlotMeshModel", "slots", "I", false)
  | 3 => ("SlotMeshModel", "cycles", "I", false)
  | 4 => ("SlotMeshModel", "wants", "[I", true)
  | 5 => ("SlotMeshModel", "undos", "I", false)
  | 6 => ("SlotMeshModel", "isKept", "[Z", true)
  | 7 => ("SlotMeshModel", "text", "[I", true)
  | 8 => ("SlotMeshModel", "length", "I", false)
  | 9 => ("SlotMeshModel", "sizes", "[I", true)
  | 10 => ("SlotMeshModel", "values", "[I", true)
  | 11 => ("SlotMeshModel", "first", "I", false)
  | 12 => ("SlotMeshModel", "behind", "I", false)
  | 13 => ("SlotMeshModel", "readStations", "I", false)
  | 14 => ("SlotMeshModel", "clauses", "I", false)
  | 15 => ("SlotMeshModel", "doing", "Z", false)
  | 16 => ("SlotMeshModel", "numbers", "[I", true)
  | 17 => ("SlotMeshModel", "words", "[I", true)
  | 18 => ("SlotMeshModel", "lots", "[I", true)
  | _ => ("SlotMeshModel", "given", "[I", true)
def tyX5 : Nat → FieldType := fun k => match k with
  | 0 => .array .int
  | 1 => .int
  | 2 => .int
  | 3 => .int
  | 4 => .array .int
  | 5 => .int
  | 6 => .array .boolean
  | 7 => .array .int
  | 8 => .int
  | 9 => .array .int
  | 10 => .array .int
  | 11 => .int
  | 12 => .int
  | 13 => .int
  | 14 => .int
  | 15 => .boolean
  | 16 => .array .int
  | 17 => .array .int
  | 18 => .array .int
  | _ => .array .int
abbrev wsX50 : List Cond := u_ws RX5 TX5 20
theorem nmX5 : ∀ a, a < 20 → ∀ b, b < 20 → a ≠ b → (TX5 a).2.1 ≠ (TX5 b).2.1 := by decide +kernel
theorem tyX5_ok : ∀ k, k < 20 → parseFieldDescriptor (TX5 k).2.2.1 = some (tyX5 k) := by decide +kernel
abbrev vwCl : List vw_C := [(RX0, TX0, 11), (RX1, TX1, 3), (RX2, TX2, 3), (RX3, TX3, 6), (RX4, TX4, 7), (RX5, TX5, 20)]
def am_cn (i : Nat) : String := match i with
  | 0 => RX0
  | 1 => RX1
  | 2 => RX2
  | 3 => RX3
  | 4 => RX4
  | _ => RX5
def am_T (i : Nat) : u_T := match i with
  | 0 => TX0
  | 1 => TX1
  | 2 => TX2
  | 3 => TX3
  | 4 => TX4
  | _ => TX5
def am_ty (i : Nat) : Nat → FieldType := match i with
  | 0 => tyX0
  | 1 => tyX1
  | 2 => tyX2
  | 3 => tyX3
  | 4 => tyX4
  | _ => tyX5
def am_N (i : Nat) : Nat := match i with
  | 0 => 11
  | 1 => 3
  | 2 => 3
  | 3 => 6
  | 4 => 7
  | _ => 20
def am_df (i : Nat) : List Value := match i with
  | 0 => [.int 0, .int 0, .int 0, .int 0, .int 0, .null, .null, .null, .null, .null, .null]
  | 1 => [.null, .int 0, .int 0]
  | 2 => [.null, .int 0, .int 0]
  | 3 => [.null, .int 0, .int 0, .int 0, .int 0, .int 0]
  | 4 => [.null, .null, .null, .null, .null, .null, .null]
  | _ => [.null, .int 0, .int 0, .int 0, .null, .int 0, .null, .null, .int 0, .null, .null, .int 0, .int 0, .int 0, .int 0, .int 0, .null, .null, .null, .null]
theorem am_cl_at : ∀ i, i < 6 → vwCl[i]? = some (am_cn i, am_T i, am_N i) := by
  intro i hi
  match i, hi with
  | 0, _ => exact rfl
  | 1, _ => exact rfl
  | 2, _ => exact rfl
  | 3, _ => exact rfl
  | 4, _ => exact rfl
  | 5, _ => exact rfl
  | i + 6, h => omega
theorem am_nm : ∀ i, i < 6 → ∀ a, a < am_N i → ∀ b, b < am_N i → a ≠ b → (am_T i a).2.1 ≠ (am_T i b).2.1 := by
  intro i hi
  match i, hi with
  | 0, _ => exact nmX0
  | 1, _ => exact nmX1
  | 2, _ => exact nmX2
  | 3, _ => exact nmX3
  | 4, _ => exact nmX4
  | 5, _ => exact nmX5
  | i + 6, h => omega
theorem am_tyk : ∀ i, i < 6 → ∀ k, k < am_N i → parseFieldDescriptor (am_T i k).2.2.1 = some (am_ty i k) := by
  intro i hi
  match i, hi with
  | 0, _ => exact tyX0_ok
  | 1, _ => exact tyX1_ok
  | 2, _ => exact tyX2_ok
  | 3, _ => exact tyX3_ok
  | 4, _ => exact tyX4_ok
  | 5, _ => exact tyX5_ok
  | i + 6, h => omega
theorem am_inp (ws : List Cond) (ps : List Nat) (hp : ws = ps.filterMap (fun i => lw_tbl[i]?)) : ∀ w ∈ ws, w ∈ lw_tbl := by
  intro w hw
  rw [hp] at hw
  obtain ⟨i, -, hi⟩ := List.mem_filterMap.mp hw
  exact List.mem_of_getElem? hi
theorem am_in0 : ∀ w ∈ u_ws RX0 TX0 11, w ∈ lw_tbl := am_inp _ [99, 101, 103, 105, 107, 109, 111, 113, 115, 117, 119] (by decide +kernel)
theorem am_in1 : ∀ w ∈ u_ws RX1 TX1 3, w ∈ lw_tbl := am_inp _ [160, 162, 164] (by decide +kernel)
theorem am_in2 : ∀ w ∈ u_ws RX2 TX2 3, w ∈ lw_tbl := am_inp _ [186, 188, 190] (by decide +kernel)
theorem am_in3 : ∀ w ∈ u_ws RX3 TX3 6, w ∈ lw_tbl := am_inp _ [135, 137, 139, 141, 143, 145] (by decide +kernel)
theorem am_in4 : ∀ w ∈ u_ws RX4 TX4 7, w ∈ lw_tbl := am_inp _ [201, 203, 205, 207, 209, 211, 213] (by decide +kernel)
theorem am_in5 : ∀ w ∈ u_ws RX5 TX5 20, w ∈ lw_tbl := am_inp _ [672, 674, 676, 678, 680, 682, 684, 686, 688, 690, 692, 694, 696, 698, 700, 702, 704, 706, 708, 710] (by decide +kernel)
theorem am_inn : ∀ i, i < 6 → ∀ w ∈ u_ws (am_cn i) (am_T i) (am_N i), w ∈ lw_tbl := by
  intro i hi
  match i, hi with
  | 0, _ => exact am_in0
  | 1, _ => exact am_in1
  | 2, _ => exact am_in2
  | 3, _ => exact am_in3
  | 4, _ => exact am_in4
  | 5, _ => exact am_in5
  | i + 6, h => omega
def am_cst : List Cond := [.constant "java/lang/Integer" 265 (1431655765), .constant "java/lang/Integer" 266 (858993459), .constant "java/lang/Integer" 267 (252645135), .constant "SlotMesh$Mesh" 111 (53125), .constant "SlotMesh" 191 (50000), .constantLong "SlotMeshModel" 55 (255), .constantLong "SlotMeshModel" 64 (97), .constantLong "SlotMeshModel" 66 (122), .constantLong "SlotMeshModel" 68 (48), .constantLong "SlotMeshModel" 70 (57), .constant "SlotMeshModel" 158 (53125), .constantLong "SlotMeshModel" 190 (12), .constantLong "SlotMeshModel" 204 (4), .constantLong "SlotMeshModel" 209 (2), .constantLong "SlotMeshModel" 218 (3), .constantLong "SlotMeshModel" 211 (-999), .constantLong "SlotMeshModel" 213 (999), .constant "SlotMeshModel" 223 (50000)]
theorem am_cst_in : ∀ w ∈ am_cst, w ∈ lw_tbl := am_inp _ [386, 387, 388, 442, 576, 717, 740, 741, 745, 746, 841, 866, 911, 939, 940, 944, 945, 954] (by decide +kernel)
def am_nw : List Cond := [.methodLinkNest "SlotMesh" 9 ⟨"SlotMesh$Mesh", "<init>", "()V"⟩ "SlotMesh", .methodLinkNest "SlotMesh" 21 ⟨"SlotMesh$Text", "<init>", "()V"⟩ "SlotMesh", .methodLinkNest "SlotMesh$Past" 17 ⟨"SlotMesh$Mesh", "<init>", "()V"⟩ "SlotMesh", .methodLinkNest "SlotMesh" 51 ⟨"SlotMesh$Tally", "<init>", "()V"⟩ "SlotMesh", .methodLinkNest "SlotMesh$Mesh" 69 ⟨"SlotMesh", "has", "(II)Z"⟩ "SlotMesh"]
theorem am_nw_in : ∀ w ∈ am_nw, w ∈ lw_tbl := am_inp _ [71, 125, 156, 177, 376] (by decide +kernel)
def am_si (i : Nat) : Nat := [39, 48, 53, 67].getD i 0
def am_stx (i : Nat) : String := ["mesh", "link", "want", "share"].getD i ""
def am_ot : List Cond := [.instanceMethod objectInit, .code objectInit ⟨#[0xb1]⟩ 1 none, .static Lib.Math.max.name, .initialized "java/lang/Math", .code Lib.Math.max.name Lib.Math.max.code 2 (some .int), .static Lib.Math.min.name, .code Lib.Math.min.name Lib.Math.min.code 2 (some .int), .native arraycopyName, .static arraycopyName, .initialized "java/lang/System", .arrayClass .int, .arrayClass .boolean, .instantiable RX0 11]
theorem am_ot_in : ∀ w ∈ am_ot, w ∈ lw_tbl := am_inp _ [67, 68, 456, 60, 457, 427, 428, 247, 246, 54, 122, 193, 70] (by decide +kernel)
