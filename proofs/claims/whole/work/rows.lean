section
-- ===== PART A: goes FIRST, ahead of the names: the tables' words, and 'selects' of the private methods out of them =====
/-- a private method of a class that the tables say can be made, by its rows of tables_1 -/
def lw_okq (q : MethodName × Nat) : Prop := (q.1.cls ≠ "java/lang/invoke/MethodHandle" ∧ q.1.cls ≠ "java/lang/invoke/VarHandle") ∧ Cond.instantiable q.1.cls q.2 ∈ tables_1 ∧ Cond.privateMethod q.1 ∈ tables_1 ∧ Cond.instanceMethod q.1 ∈ tables_1
theorem lw_p0 : lw_okq (⟨"SlotMesh$Text", "nextToken", "()V"⟩, 6) := ⟨⟨by decide +kernel, by decide +kernel⟩, List.mem_of_getElem? (i := 78) (by decide +kernel), List.mem_of_getElem? (i := 207) (by decide +kernel), List.mem_of_getElem? (i := 208) (by decide +kernel)⟩
theorem lw_p1 : lw_okq (⟨"SlotMesh$Text", "readClause", "(LSlotMesh$Mesh;)Z"⟩, 6) := ⟨⟨by decide +kernel, by decide +kernel⟩, List.mem_of_getElem? (i := 78) (by decide +kernel), List.mem_of_getElem? (i := 217) (by decide +kernel), List.mem_of_getElem? (i := 218) (by decide +kernel)⟩
theorem lw_p2 : lw_okq (⟨"SlotMesh$Text", "isWord", "(Ljava/lang/String;)Z"⟩, 6) := ⟨⟨by decide +kernel, by decide +kernel⟩, List.mem_of_getElem? (i := 78) (by decide +kernel), List.mem_of_getElem? (i := 222) (by decide +kernel), List.mem_of_getElem? (i := 223) (by decide +kernel)⟩
theorem lw_p3 : lw_okq (⟨"SlotMesh$Text", "readMesh", "(LSlotMesh$Mesh;)Z"⟩, 6) := ⟨⟨by decide +kernel, by decide +kernel⟩, List.mem_of_getElem? (i := 78) (by decide +kernel), List.mem_of_getElem? (i := 274) (by decide +kernel), List.mem_of_getElem? (i := 275) (by decide +kernel)⟩
theorem lw_p4 : lw_okq (⟨"SlotMesh$Text", "readNumber", "(II)Z"⟩, 6) := ⟨⟨by decide +kernel, by decide +kernel⟩, List.mem_of_getElem? (i := 78) (by decide +kernel), List.mem_of_getElem? (i := 278) (by decide +kernel), List.mem_of_getElem? (i := 279) (by decide +kernel)⟩
theorem lw_p5 : lw_okq (⟨"SlotMesh$Text", "readLink", "(LSlotMesh$Mesh;)Z"⟩, 6) := ⟨⟨by decide +kernel, by decide +kernel⟩, List.mem_of_getElem? (i := 78) (by decide +kernel), List.mem_of_getElem? (i := 284) (by decide +kernel), List.mem_of_getElem? (i := 285) (by decide +kernel)⟩
theorem lw_p6 : lw_okq (⟨"SlotMesh$Text", "readOfStation", "([IIII)Z"⟩, 6) := ⟨⟨by decide +kernel, by decide +kernel⟩, List.mem_of_getElem? (i := 78) (by decide +kernel), List.mem_of_getElem? (i := 293) (by decide +kernel), List.mem_of_getElem? (i := 294) (by decide +kernel)⟩
theorem lw_p7 : lw_okq (⟨"SlotMesh$Mesh", "ask", "(I)I"⟩, 11) := ⟨⟨by decide +kernel, by decide +kernel⟩, List.mem_of_getElem? (i := 24) (by decide +kernel), List.mem_of_getElem? (i := 389) (by decide +kernel), List.mem_of_getElem? (i := 390) (by decide +kernel)⟩
theorem lw_p8 : lw_okq (⟨"SlotMesh$Mesh", "drawLot", "(I)I"⟩, 11) := ⟨⟨by decide +kernel, by decide +kernel⟩, List.mem_of_getElem? (i := 24) (by decide +kernel), List.mem_of_getElem? (i := 393) (by decide +kernel), List.mem_of_getElem? (i := 394) (by decide +kernel)⟩
theorem lw_p9 : lw_okq (⟨"SlotMesh$Mesh", "settle", "(III)I"⟩, 11) := ⟨⟨by decide +kernel, by decide +kernel⟩, List.mem_of_getElem? (i := 24) (by decide +kernel), List.mem_of_getElem? (i := 402) (by decide +kernel), List.mem_of_getElem? (i := 403) (by decide +kernel)⟩
theorem lw_p10 : lw_okq (⟨"SlotMesh$Mesh", "changeShares", "(II)V"⟩, 11) := ⟨⟨by decide +kernel, by decide +kernel⟩, List.mem_of_getElem? (i := 24) (by decide +kernel), List.mem_of_getElem? (i := 406) (by decide +kernel), List.mem_of_getElem? (i := 407) (by decide +kernel)⟩
theorem lw_p11 : lw_okq (⟨"SlotMesh$Mesh", "leastFree", "(I)I"⟩, 11) := ⟨⟨by decide +kernel, by decide +kernel⟩, List.mem_of_getElem? (i := 24) (by decide +kernel), List.mem_of_getElem? (i := 495) (by decide +kernel), List.mem_of_getElem? (i := 496) (by decide +kernel)⟩
theorem lw_p12 : lw_okq (⟨"SlotMesh", "numbersOfAll", "()I"⟩, 7) := ⟨⟨by decide +kernel, by decide +kernel⟩, List.mem_of_getElem? (i := 16) (by decide +kernel), List.mem_of_getElem? (i := 589) (by decide +kernel), List.mem_of_getElem? (i := 590) (by decide +kernel)⟩
theorem lw_p13 : lw_okq (⟨"SlotMeshModel", "anew", "(IIII)V"⟩, 20) := ⟨⟨by decide +kernel, by decide +kernel⟩, List.mem_of_getElem? (i := 597) (by decide +kernel), List.mem_of_getElem? (i := 603) (by decide +kernel), List.mem_of_getElem? (i := 604) (by decide +kernel)⟩
theorem lw_p14 : lw_okq (⟨"SlotMeshModel", "reads", "(Z)Z"⟩, 20) := ⟨⟨by decide +kernel, by decide +kernel⟩, List.mem_of_getElem? (i := 597) (by decide +kernel), List.mem_of_getElem? (i := 684) (by decide +kernel), List.mem_of_getElem? (i := 685) (by decide +kernel)⟩
theorem lw_p15 : lw_okq (⟨"SlotMeshModel", "nextToken", "()V"⟩, 20) := ⟨⟨by decide +kernel, by decide +kernel⟩, List.mem_of_getElem? (i := 597) (by decide +kernel), List.mem_of_getElem? (i := 688) (by decide +kernel), List.mem_of_getElem? (i := 689) (by decide +kernel)⟩
def lw_privs_1 : List (MethodName × Nat) := [(⟨"SlotMesh$Text", "nextToken", "()V"⟩, 6), (⟨"SlotMesh$Text", "readClause", "(LSlotMesh$Mesh;)Z"⟩, 6), (⟨"SlotMesh$Text", "isWord", "(Ljava/lang/String;)Z"⟩, 6), (⟨"SlotMesh$Text", "readMesh", "(LSlotMesh$Mesh;)Z"⟩, 6), (⟨"SlotMesh$Text", "readNumber", "(II)Z"⟩, 6), (⟨"SlotMesh$Text", "readLink", "(LSlotMesh$Mesh;)Z"⟩, 6), (⟨"SlotMesh$Text", "readOfStation", "([IIII)Z"⟩, 6), (⟨"SlotMesh$Mesh", "ask", "(I)I"⟩, 11), (⟨"SlotMesh$Mesh", "drawLot", "(I)I"⟩, 11), (⟨"SlotMesh$Mesh", "settle", "(III)I"⟩, 11), (⟨"SlotMesh$Mesh", "changeShares", "(II)V"⟩, 11), (⟨"SlotMesh$Mesh", "leastFree", "(I)I"⟩, 11), (⟨"SlotMesh", "numbersOfAll", "()I"⟩, 7), (⟨"SlotMeshModel", "anew", "(IIII)V"⟩, 20), (⟨"SlotMeshModel", "reads", "(Z)Z"⟩, 20), (⟨"SlotMeshModel", "nextToken", "()V"⟩, 20)]
theorem lw_r1 : ∀ q ∈ lw_privs_1, lw_okq q := List.forall_mem_cons.mpr ⟨lw_p0, List.forall_mem_cons.mpr ⟨lw_p1, List.forall_mem_cons.mpr ⟨lw_p2, List.forall_mem_cons.mpr ⟨lw_p3, List.forall_mem_cons.mpr ⟨lw_p4, List.forall_mem_cons.mpr ⟨lw_p5, List.forall_mem_cons.mpr ⟨lw_p6, List.forall_mem_cons.mpr ⟨lw_p7, List.forall_mem_cons.mpr ⟨lw_p8, List.forall_mem_cons.mpr ⟨lw_p9, List.forall_mem_cons.mpr ⟨lw_p10, List.forall_mem_cons.mpr ⟨lw_p11, List.forall_mem_cons.mpr ⟨lw_p12, List.forall_mem_cons.mpr ⟨lw_p13, List.forall_mem_cons.mpr ⟨lw_p14, List.forall_mem_cons.mpr ⟨lw_p15, fun _ h => absurd h List.not_mem_nil⟩⟩⟩⟩⟩⟩⟩⟩⟩⟩⟩⟩⟩⟩⟩⟩
theorem lw_p16 : lw_okq (⟨"SlotMeshModel", "readsClause", "()Z"⟩, 20) := ⟨⟨by decide +kernel, by decide +kernel⟩, List.mem_of_getElem? (i := 597) (by decide +kernel), List.mem_of_getElem? (i := 702) (by decide +kernel), List.mem_of_getElem? (i := 703) (by decide +kernel)⟩
theorem lw_p17 : lw_okq (⟨"SlotMeshModel", "wordHere", "()I"⟩, 20) := ⟨⟨by decide +kernel, by decide +kernel⟩, List.mem_of_getElem? (i := 597) (by decide +kernel), List.mem_of_getElem? (i := 706) (by decide +kernel), List.mem_of_getElem? (i := 707) (by decide +kernel)⟩
theorem lw_p18 : lw_okq (⟨"SlotMeshModel", "readsRest", "(I)Z"⟩, 20) := ⟨⟨by decide +kernel, by decide +kernel⟩, List.mem_of_getElem? (i := 597) (by decide +kernel), List.mem_of_getElem? (i := 710) (by decide +kernel), List.mem_of_getElem? (i := 711) (by decide +kernel)⟩
theorem lw_p19 : lw_okq (⟨"SlotMeshModel", "number", "(IIII)Z"⟩, 20) := ⟨⟨by decide +kernel, by decide +kernel⟩, List.mem_of_getElem? (i := 597) (by decide +kernel), List.mem_of_getElem? (i := 714) (by decide +kernel), List.mem_of_getElem? (i := 715) (by decide +kernel)⟩
theorem lw_p20 : lw_okq (⟨"SlotMeshModel", "does", "(I)V"⟩, 20) := ⟨⟨by decide +kernel, by decide +kernel⟩, List.mem_of_getElem? (i := 597) (by decide +kernel), List.mem_of_getElem? (i := 718) (by decide +kernel), List.mem_of_getElem? (i := 719) (by decide +kernel)⟩
theorem lw_p21 : lw_okq (⟨"SlotMeshModel", "joins", "(III)V"⟩, 20) := ⟨⟨by decide +kernel, by decide +kernel⟩, List.mem_of_getElem? (i := 597) (by decide +kernel), List.mem_of_getElem? (i := 722) (by decide +kernel), List.mem_of_getElem? (i := 723) (by decide +kernel)⟩
theorem lw_p22 : lw_okq (⟨"SlotMeshModel", "isStation", "(I)Z"⟩, 20) := ⟨⟨by decide +kernel, by decide +kernel⟩, List.mem_of_getElem? (i := 597) (by decide +kernel), List.mem_of_getElem? (i := 734) (by decide +kernel), List.mem_of_getElem? (i := 735) (by decide +kernel)⟩
theorem lw_p23 : lw_okq (⟨"SlotMeshModel", "near", "(II)I"⟩, 20) := ⟨⟨by decide +kernel, by decide +kernel⟩, List.mem_of_getElem? (i := 597) (by decide +kernel), List.mem_of_getElem? (i := 738) (by decide +kernel), List.mem_of_getElem? (i := 739) (by decide +kernel)⟩
theorem lw_p24 : lw_okq (⟨"SlotMeshModel", "isCovered", "(II)Z"⟩, 20) := ⟨⟨by decide +kernel, by decide +kernel⟩, List.mem_of_getElem? (i := 597) (by decide +kernel), List.mem_of_getElem? (i := 745) (by decide +kernel), List.mem_of_getElem? (i := 746) (by decide +kernel)⟩
theorem lw_p25 : lw_okq (⟨"SlotMeshModel", "isSlot", "(I)Z"⟩, 20) := ⟨⟨by decide +kernel, by decide +kernel⟩, List.mem_of_getElem? (i := 597) (by decide +kernel), List.mem_of_getElem? (i := 756) (by decide +kernel), List.mem_of_getElem? (i := 757) (by decide +kernel)⟩
theorem lw_p26 : lw_okq (⟨"SlotMeshModel", "holders", "(II)I"⟩, 20) := ⟨⟨by decide +kernel, by decide +kernel⟩, List.mem_of_getElem? (i := 597) (by decide +kernel), List.mem_of_getElem? (i := 760) (by decide +kernel), List.mem_of_getElem? (i := 761) (by decide +kernel)⟩
theorem lw_p27 : lw_okq (⟨"SlotMeshModel", "contenders", "(II)I"⟩, 20) := ⟨⟨by decide +kernel, by decide +kernel⟩, List.mem_of_getElem? (i := 597) (by decide +kernel), List.mem_of_getElem? (i := 764) (by decide +kernel), List.mem_of_getElem? (i := 765) (by decide +kernel)⟩
theorem lw_p28 : lw_okq (⟨"SlotMeshModel", "clashesBy", "(II)I"⟩, 20) := ⟨⟨by decide +kernel, by decide +kernel⟩, List.mem_of_getElem? (i := 597) (by decide +kernel), List.mem_of_getElem? (i := 768) (by decide +kernel), List.mem_of_getElem? (i := 769) (by decide +kernel)⟩
theorem lw_p29 : lw_okq (⟨"SlotMeshModel", "keepPast", "()V"⟩, 20) := ⟨⟨by decide +kernel, by decide +kernel⟩, List.mem_of_getElem? (i := 597) (by decide +kernel), List.mem_of_getElem? (i := 776) (by decide +kernel), List.mem_of_getElem? (i := 777) (by decide +kernel)⟩
theorem lw_p30 : lw_okq (⟨"SlotMeshModel", "copyRow", "(II)V"⟩, 20) := ⟨⟨by decide +kernel, by decide +kernel⟩, List.mem_of_getElem? (i := 597) (by decide +kernel), List.mem_of_getElem? (i := 780) (by decide +kernel), List.mem_of_getElem? (i := 781) (by decide +kernel)⟩
theorem lw_p31 : lw_okq (⟨"SlotMeshModel", "cycleOf", "(II)V"⟩, 20) := ⟨⟨by decide +kernel, by decide +kernel⟩, List.mem_of_getElem? (i := 597) (by decide +kernel), List.mem_of_getElem? (i := 784) (by decide +kernel), List.mem_of_getElem? (i := 785) (by decide +kernel)⟩
def lw_privs_2 : List (MethodName × Nat) := [(⟨"SlotMeshModel", "readsClause", "()Z"⟩, 20), (⟨"SlotMeshModel", "wordHere", "()I"⟩, 20), (⟨"SlotMeshModel", "readsRest", "(I)Z"⟩, 20), (⟨"SlotMeshModel", "number", "(IIII)Z"⟩, 20), (⟨"SlotMeshModel", "does", "(I)V"⟩, 20), (⟨"SlotMeshModel", "joins", "(III)V"⟩, 20), (⟨"SlotMeshModel", "isStation", "(I)Z"⟩, 20), (⟨"SlotMeshModel", "near", "(II)I"⟩, 20), (⟨"SlotMeshModel", "isCovered", "(II)Z"⟩, 20), (⟨"SlotMeshModel", "isSlot", "(I)Z"⟩, 20), (⟨"SlotMeshModel", "holders", "(II)I"⟩, 20), (⟨"SlotMeshModel", "contenders", "(II)I"⟩, 20), (⟨"SlotMeshModel", "clashesBy", "(II)I"⟩, 20), (⟨"SlotMeshModel", "keepPast", "()V"⟩, 20), (⟨"SlotMeshModel", "copyRow", "(II)V"⟩, 20), (⟨"SlotMeshModel", "cycleOf", "(II)V"⟩, 20)]
theorem lw_r2 : ∀ q ∈ lw_privs_2, lw_okq q := List.forall_mem_cons.mpr ⟨lw_p16, List.forall_mem_cons.mpr ⟨lw_p17, List.forall_mem_cons.mpr ⟨lw_p18, List.forall_mem_cons.mpr ⟨lw_p19, List.forall_mem_cons.mpr ⟨lw_p20, List.forall_mem_cons.mpr ⟨lw_p21, List.forall_mem_cons.mpr ⟨lw_p22, List.forall_mem_cons.mpr ⟨lw_p23, List.forall_mem_cons.mpr ⟨lw_p24, List.forall_mem_cons.mpr ⟨lw_p25, List.forall_mem_cons.mpr ⟨lw_p26, List.forall_mem_cons.mpr ⟨lw_p27, List.forall_mem_cons.mpr ⟨lw_p28, List.forall_mem_cons.mpr ⟨lw_p29, List.forall_mem_cons.mpr ⟨lw_p30, List.forall_mem_cons.mpr ⟨lw_p31, fun _ h => absurd h List.not_mem_nil⟩⟩⟩⟩⟩⟩⟩⟩⟩⟩⟩⟩⟩⟩⟩⟩
theorem lw_p32 : lw_okq (⟨"SlotMeshModel", "asking", "(II)I"⟩, 20) := ⟨⟨by decide +kernel, by decide +kernel⟩, List.mem_of_getElem? (i := 597) (by decide +kernel), List.mem_of_getElem? (i := 788) (by decide +kernel), List.mem_of_getElem? (i := 789) (by decide +kernel)⟩
theorem lw_p33 : lw_okq (⟨"SlotMeshModel", "lot", "(II)I"⟩, 20) := ⟨⟨by decide +kernel, by decide +kernel⟩, List.mem_of_getElem? (i := 597) (by decide +kernel), List.mem_of_getElem? (i := 792) (by decide +kernel), List.mem_of_getElem? (i := 793) (by decide +kernel)⟩
theorem lw_p34 : lw_okq (⟨"SlotMeshModel", "hearing", "(IIII)I"⟩, 20) := ⟨⟨by decide +kernel, by decide +kernel⟩, List.mem_of_getElem? (i := 597) (by decide +kernel), List.mem_of_getElem? (i := 797) (by decide +kernel), List.mem_of_getElem? (i := 798) (by decide +kernel)⟩
theorem lw_p35 : lw_okq (⟨"SlotMeshModel", "settles", "(IIII)I"⟩, 20) := ⟨⟨by decide +kernel, by decide +kernel⟩, List.mem_of_getElem? (i := 597) (by decide +kernel), List.mem_of_getElem? (i := 801) (by decide +kernel), List.mem_of_getElem? (i := 802) (by decide +kernel)⟩
theorem lw_p36 : lw_okq (⟨"SlotMeshModel", "first", "(I)I"⟩, 20) := ⟨⟨by decide +kernel, by decide +kernel⟩, List.mem_of_getElem? (i := 597) (by decide +kernel), List.mem_of_getElem? (i := 805) (by decide +kernel), List.mem_of_getElem? (i := 806) (by decide +kernel)⟩
theorem lw_p37 : lw_okq (⟨"SlotMeshModel", "shares", "(III)V"⟩, 20) := ⟨⟨by decide +kernel, by decide +kernel⟩, List.mem_of_getElem? (i := 597) (by decide +kernel), List.mem_of_getElem? (i := 809) (by decide +kernel), List.mem_of_getElem? (i := 810) (by decide +kernel)⟩
theorem lw_p38 : lw_okq (⟨"SlotMeshModel", "nearTo", "(II)I"⟩, 20) := ⟨⟨by decide +kernel, by decide +kernel⟩, List.mem_of_getElem? (i := 597) (by decide +kernel), List.mem_of_getElem? (i := 813) (by decide +kernel), List.mem_of_getElem? (i := 814) (by decide +kernel)⟩
theorem lw_p39 : lw_okq (⟨"SlotMeshModel", "frameOf", "(I)V"⟩, 20) := ⟨⟨by decide +kernel, by decide +kernel⟩, List.mem_of_getElem? (i := 597) (by decide +kernel), List.mem_of_getElem? (i := 822) (by decide +kernel), List.mem_of_getElem? (i := 823) (by decide +kernel)⟩
theorem lw_p40 : lw_okq (⟨"SlotMeshModel", "covered", "(I)I"⟩, 20) := ⟨⟨by decide +kernel, by decide +kernel⟩, List.mem_of_getElem? (i := 597) (by decide +kernel), List.mem_of_getElem? (i := 826) (by decide +kernel), List.mem_of_getElem? (i := 827) (by decide +kernel)⟩
theorem lw_p41 : lw_okq (⟨"SlotMeshModel", "areTwo", "(II)Z"⟩, 20) := ⟨⟨by decide +kernel, by decide +kernel⟩, List.mem_of_getElem? (i := 597) (by decide +kernel), List.mem_of_getElem? (i := 838) (by decide +kernel), List.mem_of_getElem? (i := 839) (by decide +kernel)⟩
theorem lw_p42 : lw_okq (⟨"SlotMeshModel", "clashes", "(I)I"⟩, 20) := ⟨⟨by decide +kernel, by decide +kernel⟩, List.mem_of_getElem? (i := 597) (by decide +kernel), List.mem_of_getElem? (i := 842) (by decide +kernel), List.mem_of_getElem? (i := 843) (by decide +kernel)⟩
theorem lw_p43 : lw_okq (⟨"SlotMeshModel", "isDone", "(I)Z"⟩, 20) := ⟨⟨by decide +kernel, by decide +kernel⟩, List.mem_of_getElem? (i := 597) (by decide +kernel), List.mem_of_getElem? (i := 871) (by decide +kernel), List.mem_of_getElem? (i := 872) (by decide +kernel)⟩
theorem lw_p44 : lw_okq (⟨"SlotMeshModel", "links", "()I"⟩, 20) := ⟨⟨by decide +kernel, by decide +kernel⟩, List.mem_of_getElem? (i := 597) (by decide +kernel), List.mem_of_getElem? (i := 929) (by decide +kernel), List.mem_of_getElem? (i := 930) (by decide +kernel)⟩
theorem lw_p45 : lw_okq (⟨"SlotMeshModel", "allNumbers", "()I"⟩, 20) := ⟨⟨by decide +kernel, by decide +kernel⟩, List.mem_of_getElem? (i := 597) (by decide +kernel), List.mem_of_getElem? (i := 933) (by decide +kernel), List.mem_of_getElem? (i := 934) (by decide +kernel)⟩
def lw_privs_3 : List (MethodName × Nat) := [(⟨"SlotMeshModel", "asking", "(II)I"⟩, 20), (⟨"SlotMeshModel", "lot", "(II)I"⟩, 20), (⟨"SlotMeshModel", "hearing", "(IIII)I"⟩, 20), (⟨"SlotMeshModel", "settles", "(IIII)I"⟩, 20), (⟨"SlotMeshModel", "first", "(I)I"⟩, 20), (⟨"SlotMeshModel", "shares", "(III)V"⟩, 20), (⟨"SlotMeshModel", "nearTo", "(II)I"⟩, 20), (⟨"SlotMeshModel", "frameOf", "(I)V"⟩, 20), (⟨"SlotMeshModel", "covered", "(I)I"⟩, 20), (⟨"SlotMeshModel", "areTwo", "(II)Z"⟩, 20), (⟨"SlotMeshModel", "clashes", "(I)I"⟩, 20), (⟨"SlotMeshModel", "isDone", "(I)Z"⟩, 20), (⟨"SlotMeshModel", "links", "()I"⟩, 20), (⟨"SlotMeshModel", "allNumbers", "()I"⟩, 20)]
theorem lw_r3 : ∀ q ∈ lw_privs_3, lw_okq q := List.forall_mem_cons.mpr ⟨lw_p32, List.forall_mem_cons.mpr ⟨lw_p33, List.forall_mem_cons.mpr ⟨lw_p34, List.forall_mem_cons.mpr ⟨lw_p35, List.forall_mem_cons.mpr ⟨lw_p36, List.forall_mem_cons.mpr ⟨lw_p37, List.forall_mem_cons.mpr ⟨lw_p38, List.forall_mem_cons.mpr ⟨lw_p39, List.forall_mem_cons.mpr ⟨lw_p40, List.forall_mem_cons.mpr ⟨lw_p41, List.forall_mem_cons.mpr ⟨lw_p42, List.forall_mem_cons.mpr ⟨lw_p43, List.forall_mem_cons.mpr ⟨lw_p44, List.forall_mem_cons.mpr ⟨lw_p45, fun _ h => absurd h List.not_mem_nil⟩⟩⟩⟩⟩⟩⟩⟩⟩⟩⟩⟩⟩⟩
def lw_privs : List (MethodName × Nat) := lw_privs_1 ++ (lw_privs_2 ++ (lw_privs_3))
def lw_tbl : List Cond := k2_sels lw_privs ++ tables_1
theorem lw_privs_ok : ∀ q ∈ lw_privs, lw_okq q := by
  show ∀ q ∈ lw_privs_1 ++ (lw_privs_2 ++ (lw_privs_3)), lw_okq q
  exact List.forall_mem_append.mpr ⟨lw_r1, List.forall_mem_append.mpr ⟨lw_r2, lw_r3⟩⟩
def RX0 : String := "SlotMesh$Mesh"
def TX0 : u_T := fun k => match k with
  | 0 => ("SlotMesh$Mesh", "stations", "I", false)
  | 1 => ("SlotMesh$Mesh", "slots", "I", false)
  | 2 => ("SlotMesh$Mesh", "cycles", "I", false)
  | 3 => ("SlotMesh$Mesh", "lots", "I", false)
  | 4 => ("SlotMesh$Mesh", "cycled", "Z", false)
  | 5 => ("SlotMesh$Mesh", "wants", "[I", true)
  | 6 => ("SlotMesh$Mesh", "shares", "[I", true)
  | 7 => ("SlotMesh$Mesh", "links", "[I", true)
  | 8 => ("SlotMesh$Mesh", "holds", "[I", true)
  | 9 => ("SlotMesh$Mesh", "phases", "[I", true)
  | _ => ("SlotMesh$Mesh", "drawn", "[I", true)
def tyX0 : Nat → FieldType := fun k => match k with
  | 0 => .int
  | 1 => .int
  | 2 => .int
  | 3 => .int
  | 4 => .boolean
  | 5 => .array .int
  | 6 => .array .int
  | 7 => .array .int
  | 8 => .array .int
  | 9 => .array .int
  | _ => .array .int
abbrev wsX00 : List Cond := u_ws RX0 TX0 11
theorem nmX0 : ∀ a, a < 11 → ∀ b, b < 11 → a ≠ b → (TX0 a).2.1 ≠ (TX0 b).2.1 := by decide +kernel
theorem tyX0_ok : ∀ k, k < 11 → parseFieldDescriptor (TX0 k).2.2.1 = some (tyX0 k) := by decide +kernel
def RX1 : String := "SlotMesh$Past"
def TX1 : u_T := fun k => match k with
  | 0 => ("SlotMesh$Past", "ring", "[LSlotMesh$Mesh;", true)
  | 1 => ("SlotMesh$Past", "next", "I", false)
  | _ => ("SlotMesh$Past", "count", "I", false)
def tyX1 : Nat → FieldType := fun k => match k with
  | 0 => .array (.object "SlotMesh$Mesh")
  | 1 => .int
  | _ => .int
abbrev wsX10 : List Cond := u_ws RX1 TX1 3
theorem nmX1 : ∀ a, a < 3 → ∀ b, b < 3 → a ≠ b → (TX1 a).2.1 ≠ (TX1 b).2.1 := by decide +kernel
theorem tyX1_ok : ∀ k, k < 3 → parseFieldDescriptor (TX1 k).2.2.1 = some (tyX1 k) := by decide +kernel
def RX2 : String := "SlotMesh$Tally"
def TX2 : u_T := fun k => match k with
  | 0 => ("SlotMesh$Tally", "numbers", "[I", true)
  | 1 => ("SlotMesh$Tally", "size", "I", false)
  | _ => ("SlotMesh$Tally", "missing", "Z", false)
def tyX2 : Nat → FieldType := fun k => match k with
  | 0 => .array .int
  | 1 => .int
  | _ => .boolean
abbrev wsX20 : List Cond := u_ws RX2 TX2 3
theorem nmX2 : ∀ a, a < 3 → ∀ b, b < 3 → a ≠ b → (TX2 a).2.1 ≠ (TX2 b).2.1 := by decide +kernel
theorem tyX2_ok : ∀ k, k < 3 → parseFieldDescriptor (TX2 k).2.2.1 = some (tyX2 k) := by decide +kernel
def RX3 : String := "SlotMesh$Text"
def TX3 : u_T := fun k => match k with
  | 0 => ("SlotMesh$Text", "letters", "[I", true)
  | 1 => ("SlotMesh$Text", "length", "I", false)
  | 2 => ("SlotMesh$Text", "start", "I", false)
  | 3 => ("SlotMesh$Text", "end", "I", false)
  | 4 => ("SlotMesh$Text", "value", "I", false)
  | _ => ("SlotMesh$Text", "clauses", "I", false)
def tyX3 : Nat → FieldType := fun k => match k with
  | 0 => .array .int
  | 1 => .int
  | 2 => .int
  | 3 => .int
  | 4 => .int
  | _ => .int
abbrev wsX30 : List Cond := u_ws RX3 TX3 6
theorem nmX3 : ∀ a, a < 6 → ∀ b, b < 6 → a ≠ b → (TX3 a).2.1 ≠ (TX3 b).2.1 := by decide +kernel
theorem tyX3_ok : ∀ k, k < 6 → parseFieldDescriptor (TX3 k).2.2.1 = some (tyX3 k) := by decide +kernel
def RX4 : String := "SlotMesh"
def TX4 : u_T := fun k => match k with
  | 0 => ("SlotMesh", "now", "LSlotMesh$Mesh;", true)
  | 1 => ("SlotMesh", "trial", "LSlotMesh$Mesh;", true)
  | 2 => ("SlotMesh", "text", "LSlotMesh$Text;", true)
  | 3 => ("SlotMesh", "past", "LSlotMesh$Past;", true)
  | 4 => ("SlotMesh", "keeps", "[LSlotMesh$Mesh;", true)
  | 5 => ("SlotMesh", "kept", "[Z", true)
  | _ => ("SlotMesh", "tallies", "[LSlotMesh$Tally;", true)
def tyX4 : Nat → FieldType := fun k => match k with
  | 0 => .object "SlotMesh$Mesh"
  | 1 => .object "SlotMesh$Mesh"
  | 2 => .object "SlotMesh$Text"
  | 3 => .object "SlotMesh$Past"
  | 4 => .array (.object "SlotMesh$Mesh")
  | 5 => .array .boolean
  | _ => .array (.object "SlotMesh$Tally")
abbrev wsX40 : List Cond := u_ws RX4 TX4 7
theorem nmX4 : ∀ a, a < 7 → ∀ b, b < 7 → a ≠ b → (TX4 a).2.1 ≠ (TX4 b).2.1 := by decide +kernel
theorem tyX4_ok : ∀ k, k < 7 → parseFieldDescriptor (TX4 k).2.2.1 = some (tyX4 k) := by decide +kernel
def RX5 : String := "SlotMeshModel"
def TX5 : u_T := fun k => match k with
  | 0 => ("SlotMeshModel", "row", "[I", true)
  | 1 => ("SlotMeshModel", "stations", "I", false)
  | 2 => ("SlotMeshModel", "slots", "I", false)
  | 3 => ("SlotMeshModel", "cycles", "I", false)
  | 4 => ("SlotMeshModel", "wants", "[I", true)
  | 5 => ("SlotMeshModel", "undos", "I", false)
  | 6 => ("SlotMeshModel", "isKept", "[Z", true)
  | 7 => ("SlotMeshModel", "text", "[I", true)
  | 8 => ("SlotMeshModel", "length", "I", false)
  | 9 => ("SlotMeshModel", "sizes", "[I", true)
  | 10 => ("SlotMeshModel", "values", "[I", true)
  | 11 => ("SlotMeshModel", "first", "I", false)
  | 12 => ("SlotMeshModel", "behind", "I", false)
  | 13 => ("SlotMeshModel", "readStations", "I", false)
  | 14 => ("SlotMeshModel", "clauses", "I", false)
  | 15 => ("SlotMeshModel", "doing", "Z", false)
  | 16 => ("SlotMeshModel", "numbers", "[I", true)
  | 17 => ("SlotMeshModel", "words", "[I", true)
  | 18 => ("SlotMeshModel", "lots", "[I", true)
  | _ => ("SlotMeshModel", "given", "[I", true)
def tyX5 : Nat → FieldType := fun k => match k with
  | 0 => .array .int
  | 1 => .int
  | 2 => .int
  | 3 => .int
  | 4 => .array .int
  | 5 => .int
  | 6 => .array .boolean
  | 7 => .array .int
  | 8 => .int
  | 9 => .array .int
  | 10 => .array .int
  | 11 => .int
  | 12 => .int
  | 13 => .int
  | 14 => .int
  | 15 => .boolean
  | 16 => .array .int
  | 17 => .array .int
  | 18 => .array .int
  | _ => .array .int
abbrev wsX50 : List Cond := u_ws RX5 TX5 20
theorem nmX5 : ∀ a, a < 20 → ∀ b, b < 20 → a ≠ b → (TX5 a).2.1 ≠ (TX5 b).2.1 := by decide +kernel
theorem tyX5_ok : ∀ k, k < 20 → parseFieldDescriptor (TX5 k).2.2.1 = some (tyX5 k) := by decide +kernel
abbrev vwCl : List vw_C := [(RX0, TX0, 11), (RX1, TX1, 3), (RX2, TX2, 3), (RX3, TX3, 6), (RX4, TX4, 7), (RX5, TX5, 20)]
def am_cn (i : Nat) : String := match i with
  | 0 => RX0
  | 1 => RX1
  | 2 => RX2
  | 3 => RX3
  | 4 => RX4
  | _ => RX5
def am_T (i : Nat) : u_T := match i with
  | 0 => TX0
  | 1 => TX1
  | 2 => TX2
  | 3 => TX3
  | 4 => TX4
  | _ => TX5
def am_ty (i : Nat) : Nat → FieldType := match i with
  | 0 => tyX0
  | 1 => tyX1
  | 2 => tyX2
  | 3 => tyX3
  | 4 => tyX4
  | _ => tyX5
def am_N (i : Nat) : Nat := match i with
  | 0 => 11
  | 1 => 3
  | 2 => 3
  | 3 => 6
  | 4 => 7
  | _ => 20
def am_df (i : Nat) : List Value := match i with
  | 0 => [.int 0, .int 0, .int 0, .int 0, .int 0, .null, .null, .null, .null, .null, .null]
  | 1 => [.null, .int 0, .int 0]
  | 2 => [.null, .int 0, .int 0]
  | 3 => [.null, .int 0, .int 0, .int 0, .int 0, .int 0]
  | 4 => [.null, .null, .null, .null, .null, .null, .null]
  | _ => [.null, .int 0, .int 0, .int 0, .null, .int 0, .null, .null, .int 0, .null, .null, .int 0, .int 0, .int 0, .int 0, .int 0, .null, .null, .null, .null]
theorem am_cl_at : ∀ i, i < 6 → vwCl[i]? = some (am_cn i, am_T i, am_N i) := by
  intro i hi
  match i, hi with
  | 0, _ => exact rfl
  | 1, _ => exact rfl
  | 2, _ => exact rfl
  | 3, _ => exact rfl
  | 4, _ => exact rfl
  | 5, _ => exact rfl
  | i + 6, h => omega
theorem am_nm : ∀ i, i < 6 → ∀ a, a < am_N i → ∀ b, b < am_N i → a ≠ b → (am_T i a).2.1 ≠ (am_T i b).2.1 := by
  intro i hi
  match i, hi with
  | 0, _ => exact nmX0
  | 1, _ => exact nmX1
  | 2, _ => exact nmX2
  | 3, _ => exact nmX3
  | 4, _ => exact nmX4
  | 5, _ => exact nmX5
  | i + 6, h => omega
theorem am_tyk : ∀ i, i < 6 → ∀ k, k < am_N i → parseFieldDescriptor (am_T i k).2.2.1 = some (am_ty i k) := by
  intro i hi
  match i, hi with
  | 0, _ => exact tyX0_ok
  | 1, _ => exact tyX1_ok
  | 2, _ => exact tyX2_ok
  | 3, _ => exact tyX3_ok
  | 4, _ => exact tyX4_ok
  | 5, _ => exact tyX5_ok
  | i + 6, h => omega
theorem am_inp (ws : List Cond) (ps : List Nat) (hp : ws = ps.filterMap (fun i => lw_tbl[i]?)) : ∀ w ∈ ws, w ∈ lw_tbl := by
  intro w hw
  rw [hp] at hw
  obtain ⟨i, -, hi⟩ := List.mem_filterMap.mp hw
  exact List.mem_of_getElem? hi
theorem am_in0 : ∀ w ∈ u_ws RX0 TX0 11, w ∈ lw_tbl := am_inp _ [99, 101, 103, 105, 107, 109, 111, 113, 115, 117, 119] (by decide +kernel)
theorem am_in1 : ∀ w ∈ u_ws RX1 TX1 3, w ∈ lw_tbl := am_inp _ [160, 162, 164] (by decide +kernel)
theorem am_in2 : ∀ w ∈ u_ws RX2 TX2 3, w ∈ lw_tbl := am_inp _ [186, 188, 190] (by decide +kernel)
theorem am_in3 : ∀ w ∈ u_ws RX3 TX3 6, w ∈ lw_tbl := am_inp _ [135, 137, 139, 141, 143, 145] (by decide +kernel)
theorem am_in4 : ∀ w ∈ u_ws RX4 TX4 7, w ∈ lw_tbl := am_inp _ [201, 203, 205, 207, 209, 211, 213] (by decide +kernel)
theorem am_in5 : ∀ w ∈ u_ws RX5 TX5 20, w ∈ lw_tbl := am_inp _ [672, 674, 676, 678, 680, 682, 684, 686, 688, 690, 692, 694, 696, 698, 700, 702, 704, 706, 708, 710] (by decide +kernel)
theorem am_inn : ∀ i, i < 6 → ∀ w ∈ u_ws (am_cn i) (am_T i) (am_N i), w ∈ lw_tbl := by
  intro i hi
  match i, hi with
  | 0, _ => exact am_in0
  | 1, _ => exact am_in1
  | 2, _ => exact am_in2
  | 3, _ => exact am_in3
  | 4, _ => exact am_in4
  | 5, _ => exact am_in5
  | i + 6, h => omega
def am_cst : List Cond := [.constant "java/lang/Integer" 265 (1431655765), .constant "java/lang/Integer" 266 (858993459), .constant "java/lang/Integer" 267 (252645135), .constant "SlotMesh$Mesh" 111 (53125), .constant "SlotMesh" 191 (50000), .constantLong "SlotMeshModel" 55 (255), .constantLong "SlotMeshModel" 64 (97), .constantLong "SlotMeshModel" 66 (122), .constantLong "SlotMeshModel" 68 (48), .constantLong "SlotMeshModel" 70 (57), .constant "SlotMeshModel" 158 (53125), .constantLong "SlotMeshModel" 190 (12), .constantLong "SlotMeshModel" 204 (4), .constantLong "SlotMeshModel" 209 (2), .constantLong "SlotMeshModel" 218 (3), .constantLong "SlotMeshModel" 211 (-999), .constantLong "SlotMeshModel" 213 (999), .constant "SlotMeshModel" 223 (50000)]
theorem am_cst_in : ∀ w ∈ am_cst, w ∈ lw_tbl := am_inp _ [386, 387, 388, 442, 576, 717, 740, 741, 745, 746, 841, 866, 911, 939, 940, 944, 945, 954] (by decide +kernel)
def am_nw : List Cond := [.methodLinkNest "SlotMesh" 9 ⟨"SlotMesh$Mesh", "<init>", "()V"⟩ "SlotMesh", .methodLinkNest "SlotMesh" 21 ⟨"SlotMesh$Text", "<init>", "()V"⟩ "SlotMesh", .methodLinkNest "SlotMesh$Past" 17 ⟨"SlotMesh$Mesh", "<init>", "()V"⟩ "SlotMesh", .methodLinkNest "SlotMesh" 51 ⟨"SlotMesh$Tally", "<init>", "()V"⟩ "SlotMesh", .methodLinkNest "SlotMesh$Mesh" 69 ⟨"SlotMesh", "has", "(II)Z"⟩ "SlotMesh"]
theorem am_nw_in : ∀ w ∈ am_nw, w ∈ lw_tbl := am_inp _ [71, 125, 156, 177, 376] (by decide +kernel)
def am_si (i : Nat) : Nat := [39, 48, 53, 67].getD i 0
def am_stx (i : Nat) : String := ["mesh", "link", "want", "share"].getD i ""
def am_ot : List Cond := [.instanceMethod objectInit, .code objectInit ⟨#[0xb1]⟩ 1 none, .static Lib.Math.max.name, .initialized "java/lang/Math", .code Lib.Math.max.name Lib.Math.max.code 2 (some .int), .static Lib.Math.min.name, .code Lib.Math.min.name Lib.Math.min.code 2 (some .int), .native arraycopyName, .static arraycopyName, .initialized "java/lang/System", .arrayClass .int, .arrayClass .boolean, .instantiable RX0 11]
theorem am_ot_in : ∀ w ∈ am_ot, w ∈ lw_tbl := am_inp _ [67, 68, 456, 60, 457, 427, 428, 247, 246, 54, 122, 193, 70] (by decide +kernel)
end
section
/-! THE ABSTRACT MACHINE: a small machine of our own over logical addresses; one step of it as a predicate transformer (am_i), chunks of steps between cut points (am_U). What it has to do with the real machine stands in the parts behind. -/
abbrev am_C : Type := (FieldType × vp_A) ⊕ (Nat × List Value)
abbrev am_H : Type := Nat × Nat × (Nat → am_C)
abbrev am_I : Type := Nat × Instr × Nat × List Nat × Int32
def am_b {α : Type} (o : Option α) (P : α → Prop) : Prop := match o with
  | some x => P x
  | none => False
theorem am_b_some {α : Type} {x : α} {P : α → Prop} : am_b (some x) P ↔ P x := Iff.rfl
theorem am_b_of {α : Type} {o : Option α} {x : α} {P : α → Prop} (e : o = some x) (h : P x) : am_b o P := by rw [e]; exact h
theorem am_b_inv {α : Type} {o : Option α} {P : α → Prop} (h : am_b o P) : ∃ x, o = some x ∧ P x := by
  cases o with
  | none => exact h.elim
  | some x => exact ⟨x, rfl, h⟩
def am_fetch : List am_I → Nat → Option (Instr × Nat × List Nat × Int32)
  | [], _ => none
  | (p, x) :: l, pc => match Nat.beq p pc with
    | true => some x
    | false => am_fetch l pc
def am_nth : List Value → Nat → Value
  | [], _ => .null
  | v :: _, 0 => v
  | _ :: l, n + 1 => am_nth l n
def am_set : List Value → Nat → Value → List Value
  | [], _, _ => []
  | _ :: l, 0, x => x :: l
  | v :: l, n + 1, x => v :: am_set l n x
def am_x : List Nat → Nat → Nat
  | [], _ => 0
  | a :: _, 0 => a
  | _ :: l, n + 1 => am_x l n
def am_mem (a : Nat) : List Nat → Bool
  | [] => false
  | b :: l => match Nat.beq a b with
    | true => true
    | false => am_mem a l
def am_pop : Nat → List Value → List Value → Option (List Value × List Value)
  | 0, acc, st => some (acc, st)
  | n + 1, acc, v :: st => am_pop n (v :: acc) st
  | _ + 1, _, [] => none
/-- no long among the locals -/
def am_nl : List Value → Bool
  | [] => true
  | v :: l => match v with
    | .long _ => false
    | .double _ => false
    | _ => am_nl l
-- the heap: how many cells, how many slots, the cells
def am_look (h : am_H) (k : Nat) : Option am_C := if k < h.1 then some (h.2.2 k) else none
def am_put (h : am_H) (k : Nat) (c : am_C) : am_H := (h.1, h.2.1, va_up h.2.2 k c)
def am_push (h : am_H) (n : Nat) (c : am_C) : am_H := (h.1 + 1, h.2.1 + n, va_up h.2.2 h.1 c)
def am_fld (h : am_H) (a ci k : Nat) : Option Value := match am_look h a with
  | some (.inr (c, fs)) => if c = ci then fs[k]? else none
  | _ => none
def am_gI (h : am_H) (a ci k : Nat) : Option Int32 := match am_fld h a ci k with
  | some (.int x) => some x
  | _ => none
def am_gR (h : am_H) (a ci k : Nat) : Option Nat := match am_fld h a ci k with
  | some (.ref x) => some x
  | _ => none
def am_pF (h : am_H) (a ci k : Nat) (v : Value) : Option am_H := match am_look h a with
  | some (.inr (c, fs)) => if c = ci ∧ k < fs.length then some (am_put h a (.inr (c, fs.set k v))) else none
  | _ => none
def am_ii (h : am_H) (a : Nat) : Option (FieldType × Nat × (Nat → Int32)) := match am_look h a with
  | some (.inl (ty, n, .inl f)) => some (ty, n, f)
  | _ => none
def am_rr (h : am_H) (a : Nat) : Option (FieldType × Nat × (Nat → Option Nat)) := match am_look h a with
  | some (.inl (ty, n, .inr (.inr (.inr (.inr f))))) => some (ty, n, f)
  | _ => none
def am_lI (h : am_H) (ty : FieldType) (a : Nat) (i : Int32) : Option Int32 := match am_ii h a with
  | some (t, n, f) => if t = ty ∧ ¬ (i < 0 ∨ n ≤ i.toNatClampNeg) then some (f i.toNatClampNeg) else none
  | none => none
def am_sI (h : am_H) (ty : FieldType) (a : Nat) (i x : Int32) : Option am_H := match am_ii h a with
  | some (t, n, f) => if t = ty ∧ ¬ (i < 0 ∨ n ≤ i.toNatClampNeg) then some (am_put h a (.inl (ty, n, .inl (upd f i.toNatClampNeg x)))) else none
  | none => none
def am_lA (h : am_H) (C : String) (a : Nat) (i : Int32) : Option Nat := match am_rr h a with
  | some (t, n, f) => if t = .object C ∧ ¬ (i < 0 ∨ n ≤ i.toNatClampNeg) then f i.toNatClampNeg else none
  | none => none
/-- the number of the class of an object -/
def am_cls (h : am_H) (a : Nat) : Option Nat := match am_look h a with
  | some (.inr (c, _)) => some c
  | _ => none
def am_sA (h : am_H) (C : String) (ci a : Nat) (i : Int32) (v : Nat) : Option am_H := match am_rr h a with
  | some (t, n, f) => if (t = .object C ∧ am_cls h v = some ci) ∧ ¬ (i < 0 ∨ n ≤ i.toNatClampNeg) then some (am_put h a (.inl (.object C, n, .inr (.inr (.inr (.inr (va_up f i.toNatClampNeg (some v)))))))) else none
  | none => none
def am_len (h : am_H) (a : Nat) : Option Int32 := match am_look h a with
  | some (.inl (.int, x)) => some (nI x.1)
  | _ => none
def am_cp (h : am_H) (a0 : Nat) (sp : Int32) (a : Nat) (dp n : Int32) : Option am_H := match am_ii h a0, am_ii h a with
  | some (t0, n0, f), some (t1, n1, g) => if (t0 = .int ∧ t1 = .int) ∧ ¬ sp < 0 ∧ ¬ dp < 0 ∧ ¬ n < 0 ∧ sp.toNatClampNeg + n.toNatClampNeg ≤ n0 ∧ dp.toNatClampNeg + n.toNatClampNeg ≤ n1 then some (am_put h a (.inl (.int, n1, .inl (va_cpy f g sp.toNatClampNeg dp.toNatClampNeg n.toNatClampNeg)))) else none
  | _, _ => none
/-- the types of arrays of numbers, by number -/
def am_aty (k : Nat) : FieldType := match k with
  | 0 => .int
  | _ => .boolean
/-- the class's text constants: their bytes -/
def am_sbs : List (List Int32) := [[109, 101, 115, 104], [108, 105, 110, 107], [119, 97, 110, 116], [115, 104, 97, 114, 101]]
def am_sls : List Nat := [4, 4, 4, 5]
def am_sl (i : Nat) : Nat := am_sls.getD i 0
def am_sb (i j : Nat) : Int32 := (am_sbs.getD i []).getD j 0
-- what lies on the stack
def am_1 (st : List Value) (f : Int32 → List Value → Prop) : Prop := match st with
  | .int x :: s => f x s
  | _ => False
def am_2 (st : List Value) (f : Int32 → Int32 → List Value → Prop) : Prop := match st with
  | .int y :: .int x :: s => f x y s
  | _ => False
def am_l2 (st : List Value) (f : Int64 → Int64 → List Value → Prop) : Prop := match st with
  | .long y :: .long x :: s => f x y s
  | _ => False
def am_r (st : List Value) (f : Nat → List Value → Prop) : Prop := match st with
  | .ref a :: s => f a s
  | _ => False
def am_ri (st : List Value) (f : Nat → Int32 → List Value → Prop) : Prop := match st with
  | .int i :: .ref a :: s => f a i s
  | _ => False
def am_rr2 (st : List Value) (f : Nat → Nat → List Value → Prop) : Prop := match st with
  | .ref v :: .ref a :: s => f a v s
  | _ => False
def am_rii (st : List Value) (f : Nat → Int32 → Int32 → List Value → Prop) : Prop := match st with
  | .int x :: .int i :: .ref a :: s => f a i x s
  | _ => False
def am_rir (st : List Value) (f : Nat → Int32 → Nat → List Value → Prop) : Prop := match st with
  | .ref v :: .int i :: .ref a :: s => f a i v s
  | _ => False
def am_cpS (st : List Value) (f : Nat → Int32 → Nat → Int32 → Int32 → List Value → Prop) : Prop := match st with
  | .int n :: .int dp :: .ref a :: .int sp :: .ref a0 :: s => f a0 sp a dp n s
  | _ => False
/-- one value of one word -/
def am_any (st : List Value) (f : Value → List Value → Prop) : Prop := match st with
  | .int x :: s => f (.int x) s
  | .ref a :: s => f (.ref a) s
  | _ => False
def am_any2 (st : List Value) (f : Value → Value → List Value → Prop) : Prop := match st with
  | .int x :: .int y :: s => f (.int x) (.int y) s
  | .int x :: .ref y :: s => f (.int x) (.ref y) s
  | _ => False
def am_ldi (ls : List Value) (i : Nat) (f : Int32 → Prop) : Prop := match am_nth ls i with
  | .int x => f x
  | _ => False
def am_ldl (ls : List Value) (i : Nat) (f : Int64 → Prop) : Prop := match am_nth ls i with
  | .long x => f x
  | _ => False
def am_ldr (ls : List Value) (i : Nat) (f : Nat → Prop) : Prop := match am_nth ls i with
  | .ref x => f x
  | _ => False
def am_if (b : Bool) (P : Prop) : Prop := match b with
  | true => P
  | false => False
theorem am_if_inv {b : Bool} {P : Prop} (h : am_if b P) : b = true ∧ P := by
  cases b with
  | true => exact ⟨rfl, h⟩
  | false => exact h.elim
/-- an answer fits its type -/
def am_fit (ty : FieldType) (x : Int32) : Prop := narrow ty (.int x) = .int x
/-- the switch: labels and targets in pairs, the first of all the default -/
def am_sw (x : Int32) (d : Nat) (K : Nat → Prop) : List Nat → Prop
  | a :: t :: l => (x = nI a → K t) ∧ (¬ x = nI a → am_sw x d K l)
  | _ => K d
-- a call: its number, how many words it takes, what it answers (0 nothing, 1 an int, 2 nothing and it makes cells)
def am_call (C : Nat → List Value → am_H → Option Int32 → am_H → Prop) (Al : am_H → Nat → Nat → Prop) (mcs : Nat → Nat × Nat) (K : Nat → List Value → List Value → am_H → Prop) (nx : Nat) (aux : List Nat) (ls st : List Value) (h : am_H) : Prop := match am_pop (am_x aux 2) [] st with
  | none => False
  | some (args, rest) => match Nat.ble rest.length 4 with
    | false => False
    | true => match am_x aux 3 with
      | 0 => ∃ h', C (am_x aux 1) args h none h' ∧ K nx ls rest h'
      | 1 => ∃ x h', C (am_x aux 1) args h (some x) h' ∧ K nx ls (.int x :: rest) h'
      | _ => ∃ h', (C (am_x aux 1) args h none h' ∧ Al h (mcs (am_x aux 1)).1 (mcs (am_x aux 1)).2) ∧ K nx ls rest h'
-- one instruction: nx the next place, aux what the tables say of it, imm its number
def am_i (L : Nat) (xs : Nat → Int32) (cn : Nat → String) (df : Nat → List Value) (ret : FieldType) (C : Nat → List Value → am_H → Option Int32 → am_H → Prop) (Al : am_H → Nat → Nat → Prop) (mcs : Nat → Nat × Nat) (Rt : Option Int32 → am_H → Prop) (K : Nat → List Value → List Value → am_H → Prop) (i : Instr) (nx : Nat) (aux : List Nat) (imm : Int32) (ls st : List Value) (h : am_H) : Prop := match i with
  | .iconst _ => K nx ls (.int imm :: st) h
  | .bipush _ => K nx ls (.int imm :: st) h
  | .sipush _ => K nx ls (.int imm :: st) h
  | .ldc_w _ => K nx ls (.int imm :: st) h
  | .ldc _ => match aux with
    | [] => K nx ls (.int imm :: st) h
    | a :: _ => K nx ls (.ref a :: st) h
  | .lconst _ => K nx ls (.long imm.toInt64 :: st) h
  | .ldc2_w _ => K nx ls (.long imm.toInt64 :: st) h
  | .iload_n _ => am_ldi ls (am_x aux 0) (fun x => K nx ls (.int x :: st) h)
  | .iload _ => am_ldi ls (am_x aux 0) (fun x => K nx ls (.int x :: st) h)
  | .lload_n _ => am_ldl ls (am_x aux 0) (fun x => K nx ls (.long x :: st) h)
  | .lload _ => am_ldl ls (am_x aux 0) (fun x => K nx ls (.long x :: st) h)
  | .aload_n _ => am_ldr ls (am_x aux 0) (fun x => K nx ls (.ref x :: st) h)
  | .istore_n _ => am_if (am_nl ls) (am_1 st (fun x s => K nx (am_set ls (am_x aux 0) (.int x)) s h))
  | .istore _ => am_if (am_nl ls) (am_1 st (fun x s => K nx (am_set ls (am_x aux 0) (.int x)) s h))
  | .astore_n _ => am_if (am_nl ls) (am_r st (fun x s => K nx (am_set ls (am_x aux 0) (.ref x)) s h))
  | .iinc _ _ => am_if (am_nl ls) (am_ldi ls (am_x aux 0) (fun x => K nx (am_set ls (am_x aux 0) (.int (x + imm))) st h))
  | .iadd => am_2 st (fun x y s => K nx ls (.int (x + y) :: s) h)
  | .isub => am_2 st (fun x y s => K nx ls (.int (x - y) :: s) h)
  | .imul => am_2 st (fun x y s => K nx ls (.int (x * y) :: s) h)
  | .iand => am_2 st (fun x y s => K nx ls (.int (x &&& y) :: s) h)
  | .ior => am_2 st (fun x y s => K nx ls (.int (x ||| y) :: s) h)
  | .ixor => am_2 st (fun x y s => K nx ls (.int (x ^^^ y) :: s) h)
  | .idiv => am_2 st (fun x y s => (¬ y = 0) ∧ K nx ls (.int (x / y) :: s) h)
  | .irem => am_2 st (fun x y s => (¬ y = 0) ∧ K nx ls (.int (x - x / y * y) :: s) h)
  | .ineg => am_1 st (fun x s => K nx ls (.int (-x) :: s) h)
  | .ishl => am_2 st (fun x y s => K nx ls (.int (x <<< (y &&& 31)) :: s) h)
  | .ishr => am_2 st (fun x y s => K nx ls (.int (x >>> (y &&& 31)) :: s) h)
  | .iushr => am_2 st (fun x y s => K nx ls (.int (x.toUInt32 >>> (y.toUInt32 &&& Int32.toUInt32 31)).toInt32 :: s) h)
  | .i2l => am_1 st (fun x s => K nx ls (.long x.toInt64 :: s) h)
  | .i2c => am_1 st (fun x s => K nx ls (.int (x.toUInt32 % 65536).toInt32 :: s) h)
  | .lcmp => am_l2 st (fun x y s => K nx ls (.int (lg_cmp x y) :: s) h)
  | .dup => am_any st (fun v s => K nx ls (v :: v :: s) h)
  | .dup2 => am_any2 st (fun v w s => K nx ls (v :: w :: v :: w :: s) h)
  | .pop => am_any st (fun _ s => K nx ls s h)
  | .goto _ => K (am_x aux 0) ls st h
  | .ifCond .eq _ => am_1 st (fun x s => if x = 0 then K (am_x aux 0) ls s h else K nx ls s h)
  | .ifCond .ne _ => am_1 st (fun x s => if x = 0 then K nx ls s h else K (am_x aux 0) ls s h)
  | .ifCond .lt _ => am_1 st (fun x s => if x < 0 then K (am_x aux 0) ls s h else K nx ls s h)
  | .ifCond .ge _ => am_1 st (fun x s => if x < 0 then K nx ls s h else K (am_x aux 0) ls s h)
  | .ifCond .gt _ => am_1 st (fun x s => if 0 < x then K (am_x aux 0) ls s h else K nx ls s h)
  | .ifCond .le _ => am_1 st (fun x s => if 0 < x then K nx ls s h else K (am_x aux 0) ls s h)
  | .if_icmp .eq _ => am_2 st (fun x y s => if x = y then K (am_x aux 0) ls s h else K nx ls s h)
  | .if_icmp .ne _ => am_2 st (fun x y s => if x = y then K nx ls s h else K (am_x aux 0) ls s h)
  | .if_icmp .lt _ => am_2 st (fun x y s => if x < y then K (am_x aux 0) ls s h else K nx ls s h)
  | .if_icmp .ge _ => am_2 st (fun x y s => if x < y then K nx ls s h else K (am_x aux 0) ls s h)
  | .if_icmp .gt _ => am_2 st (fun x y s => if y < x then K (am_x aux 0) ls s h else K nx ls s h)
  | .if_icmp .le _ => am_2 st (fun x y s => if y < x then K nx ls s h else K (am_x aux 0) ls s h)
  | .tableswitch _ _ _ _ => am_1 st (fun x s => am_sw x (am_x aux 0) (fun t => K t ls s h) aux.tail)
  | .getfield _ => match am_x aux 2 with
    | 0 => am_r st (fun a s => am_b (am_gI h a (am_x aux 0) (am_x aux 1)) (fun x => K nx ls (.int x :: s) h))
    | 1 => am_r st (fun a s => am_b (am_gR h a (am_x aux 0) (am_x aux 1)) (fun x => K nx ls (.ref x :: s) h))
    | 3 => am_r st (fun a s => am_if (Nat.ble 1000001 a && Nat.ble a 1000004) (K nx ls (.ref (a + 10) :: s) h))
    | _ => am_r st (fun a s => am_if (Nat.ble 1000001 a && Nat.ble a 1000004) (K nx ls (.int 0 :: s) h))
  | .putfield _ => match am_x aux 2 with
    | 0 => am_ri st (fun a x s => am_b (am_pF h a (am_x aux 0) (am_x aux 1) (.int x)) (fun h' => K nx ls s h'))
    | 1 => am_rr2 st (fun a v s => am_b (am_pF h a (am_x aux 0) (am_x aux 1) (.ref v)) (fun h' => K nx ls s h'))
    | _ => am_ri st (fun a x s => (x = 0 ∨ x = 1) ∧ am_b (am_pF h a (am_x aux 0) (am_x aux 1) (.int x)) (fun h' => K nx ls s h'))
  | .getstatic _ => match am_x aux 0 with
    | 0 => K nx ls (.int imm :: st) h
    | _ => K nx ls (.retAddr 0 :: st) h
  | .iaload => match aux with
    | [] => am_ri st (fun a j s => am_b (am_lI h .int a j) (fun x => K nx ls (.int x :: s) h))
    | _ => am_ri st (fun a j s => am_if (Nat.beq a 1000000) ((¬ (j < 0 ∨ L ≤ j.toNatClampNeg)) ∧ K nx ls (.int (xs j.toNatClampNeg) :: s) h))
  | .baload => match aux with
    | [] => am_ri st (fun a j s => am_b (am_lI h .boolean a j) (fun x => K nx ls (.int x :: s) h))
    | _ => am_ri st (fun a j s => am_if (Nat.ble 1000011 a && Nat.ble a 1000014) ((¬ (j < 0 ∨ am_sl (a - 1000011) ≤ j.toNatClampNeg)) ∧ K nx ls (.int (am_sb (a - 1000011) j.toNatClampNeg) :: s) h))
  | .aaload => am_ri st (fun a j s => am_b (am_lA h (cn (am_x aux 0)) a j) (fun x => K nx ls (.ref x :: s) h))
  | .iastore => am_rii st (fun a j x s => am_b (am_sI h .int a j x) (fun h' => K nx ls s h'))
  | .bastore => am_rii st (fun a j x s => (x = 0 ∨ x = 1) ∧ am_b (am_sI h .boolean a j x) (fun h' => K nx ls s h'))
  | .aastore => am_rir st (fun a j v s => am_b (am_sA h (cn (am_x aux 0)) (am_x aux 0) a j v) (fun h' => K nx ls s h'))
  | .arraylength => match aux with
    | [] => am_r st (fun a s => am_b (am_len h a) (fun x => K nx ls (.int x :: s) h))
    | [_] => am_r st (fun a s => am_if (Nat.beq a 1000000) (K nx ls (.int (nI L) :: s) h))
    | _ => am_r st (fun a s => am_if (Nat.ble 1000011 a && Nat.ble a 1000014) (K nx ls (.int (nI (am_sl (a - 1000011))) :: s) h))
  | .newarray _ => am_1 st (fun n s => ((¬ n < 0) ∧ n.toNatClampNeg ≤ 1000) ∧ Al h 1 n.toNatClampNeg ∧ K nx ls (.ref h.1 :: s) (am_push h n.toNatClampNeg (.inl (am_aty (am_x aux 0), n.toNatClampNeg, .inl (fun _ => 0)))))
  | .anewarray _ => am_1 st (fun n s => ((¬ n < 0) ∧ n.toNatClampNeg ≤ 1000) ∧ Al h 1 n.toNatClampNeg ∧ K nx ls (.ref h.1 :: s) (am_push h n.toNatClampNeg (.inl (.object (cn (am_x aux 0)), n.toNatClampNeg, .inr (.inr (.inr (.inr (fun _ => none))))))))
  | .new _ => Al h 1 (df (am_x aux 0)).length ∧ K nx ls (.ref h.1 :: st) (am_push h (df (am_x aux 0)).length (.inr (am_x aux 0, df (am_x aux 0))))
  | .invokevirtual _ => am_call C Al mcs K nx aux ls st h
  | .invokespecial _ => match am_x aux 0 with
    | 0 => am_r st (fun _ s => am_if (Nat.ble s.length 4) (K nx ls s h))
    | _ => am_call C Al mcs K nx aux ls st h
  | .invokestatic _ => match am_x aux 0 with
    | 2 => am_2 st (fun x y s => am_if (Nat.ble s.length 4) (K nx ls (.int (if x < y then y else x) :: s) h))
    | 3 => am_2 st (fun x y s => am_if (Nat.ble s.length 4) (K nx ls (.int (if y < x then y else x) :: s) h))
    | 4 => am_cpS st (fun a0 sp a dp n s => am_if (Nat.ble s.length 4) (am_b (am_cp h a0 sp a dp n) (fun h' => K nx ls s h')))
    | _ => am_call C Al mcs K nx aux ls st h
  | .ireturn => match st with
    | [.int x] => am_fit ret x ∧ Rt (some x) h
    | _ => False
  | .return_ => match st with
    | [] => Rt none h
    | _ => False
  | _ => False
def am_s (L : Nat) (xs : Nat → Int32) (cn : Nat → String) (df : Nat → List Value) (code : List am_I) (ret : FieldType) (C : Nat → List Value → am_H → Option Int32 → am_H → Prop) (Al : am_H → Nat → Nat → Prop) (mcs : Nat → Nat × Nat) (Rt : Option Int32 → am_H → Prop) (K : Nat → List Value → List Value → am_H → Prop) (pc : Nat) (ls st : List Value) (h : am_H) : Prop := match am_fetch code pc with
  | none => False
  | some (i, n, aux, imm) => am_i L xs cn df ret C Al mcs Rt K i (pc + n) aux imm ls st h
/-- the cut points: a place, and which locals live there (the others are forgotten) -/
def am_find (a : Nat) : List (Nat × List Nat) → Option (List Nat)
  | [] => none
  | (b, x) :: l => match Nat.beq a b with
    | true => some x
    | false => am_find a l
def am_keep (lv : List Nat) : Nat → List Value → List Value
  | _, [] => []
  | i, v :: l => (match am_mem i lv with
    | true => v
    | false => .null) :: am_keep lv (i + 1) l
def am_U (L : Nat) (xs : Nat → Int32) (cn : Nat → String) (df : Nat → List Value) (code : List am_I) (ret : FieldType) (C : Nat → List Value → am_H → Option Int32 → am_H → Prop) (Al : am_H → Nat → Nat → Prop) (mcs : Nat → Nat × Nat) (Rt : Option Int32 → am_H → Prop) (K : Nat → List Value → List Value → am_H → Prop) (cuts : List (Nat × List Nat)) : Nat → Nat → List Value → List Value → am_H → Prop
  | 0, pc, ls, st, h => K pc ls st h
  | n + 1, pc, ls, st, h => am_s L xs cn df code ret C Al mcs Rt (fun pc' ls' st' h' => match am_find pc' cuts with
    | some lv => K pc' (am_keep lv 0 ls') st' h'
    | none => am_U L xs cn df code ret C Al mcs Rt K cuts n pc' ls' st' h') pc ls st h
end
section
abbrev tb_T : Type := (MethodName × ByteArray × Nat × Option FieldType) × FieldType × List am_I × (Nat × Nat × Nat × Nat) × (Nat × Nat × Nat × List Nat)
def k_X0_init : List am_I := [(0, .aload_n 0, 1, [0], 0), (1, .invokespecial 3, 3, [0, 0, 1, 0, 0, 74], 0), (4, .aload_n 0, 1, [0], 0), (5, .bipush 8, 2, [], 8), (7, .newarray .int, 2, [0], 0), (9, .putfield 9, 3, [0, 5, 1, 86], 0), (12, .aload_n 0, 1, [0], 0), (13, .bipush 8, 2, [], 8), (15, .newarray .int, 2, [0], 0), (17, .putfield 15, 3, [0, 6, 1, 89], 0), (20, .aload_n 0, 1, [0], 0), (21, .bipush 8, 2, [], 8), (23, .newarray .int, 2, [0], 0), (25, .putfield 18, 3, [0, 7, 1, 92], 0), (28, .aload_n 0, 1, [0], 0), (29, .bipush 8, 2, [], 8), (31, .newarray .int, 2, [0], 0), (33, .putfield 21, 3, [0, 8, 1, 94], 0), (36, .aload_n 0, 1, [0], 0), (37, .iconst 5, 1, [], 5), (38, .newarray .int, 2, [0], 0), (40, .putfield 24, 3, [0, 9, 1, 96], 0), (43, .aload_n 0, 1, [0], 0), (44, .bipush 8, 2, [], 8), (46, .newarray .int, 2, [0], 0), (48, .putfield 27, 3, [0, 10, 1, 98], 0), (51, .return_, 1, [], 0)]
abbrev m_X0_init : Nat := 0
def tb_X0_init : tb_T := ((⟨"SlotMesh$Mesh", "<init>", "()V"⟩, prog_2_method_1_code, 1, none), .int, k_X0_init, (1, 30, 6, 45), (2, 0, 0, [73, 72, 48]))
def k_X0_begin : List am_I := [(0, .aload_n 0, 1, [0], 0), (1, .iload_n 1, 1, [1], 0), (2, .putfield 30, 3, [0, 0, 0, 75], 0), (5, .aload_n 0, 1, [0], 0), (6, .iload_n 2, 1, [2], 0), (7, .putfield 34, 3, [0, 1, 0, 78], 0), (10, .aload_n 0, 1, [0], 0), (11, .iload_n 3, 1, [3], 0), (12, .putfield 37, 3, [0, 2, 0, 80], 0), (15, .aload_n 0, 1, [0], 0), (16, .iload 4, 2, [4], 0), (18, .putfield 40, 3, [0, 3, 0, 82], 0), (21, .aload_n 0, 1, [0], 0), (22, .getfield 9, 3, [0, 5, 1, 86], 0), (25, .iconst 1, 1, [], 1), (26, .invokestatic 43, 3, [1, 167, 2, 0, 0, 173], 0), (29, .aload_n 0, 1, [0], 0), (30, .getfield 15, 3, [0, 6, 1, 89], 0), (33, .bipush 8, 2, [], 8), (35, .invokestatic 43, 3, [1, 167, 2, 0, 0, 173], 0), (38, .aload_n 0, 1, [0], 0), (39, .getfield 18, 3, [0, 7, 1, 92], 0), (42, .iconst 0, 1, [], 0), (43, .invokestatic 43, 3, [1, 167, 2, 0, 0, 173], 0), (46, .return_, 1, [], 0)]
abbrev m_X0_begin : Nat := 1
def tb_X0_begin : tb_T := ((⟨"SlotMesh$Mesh", "begin", "(IIII)V"⟩, prog_2_method_2_code, 5, none), .int, k_X0_begin, (1, 23, 0, 0), (1, 0, 4, [172, 170, 48, 171]))
def k_X0_forgetCycles : List am_I := [(0, .aload_n 0, 1, [0], 0), (1, .iconst 0, 1, [], 0), (2, .putfield 49, 3, [0, 4, 2, 84], 0), (5, .aload_n 0, 1, [0], 0), (6, .getfield 21, 3, [0, 8, 1, 94], 0), (9, .iconst 0, 1, [], 0), (10, .invokestatic 43, 3, [1, 167, 2, 0, 0, 173], 0), (13, .return_, 1, [], 0)]
abbrev m_X0_forgetCycles : Nat := 2
def tb_X0_forgetCycles : tb_T := ((⟨"SlotMesh$Mesh", "forgetCycles", "()V"⟩, prog_2_method_3_code, 1, none), .int, k_X0_forgetCycles, (1, 23, 0, 0), (1, 0, 0, [351, 349, 48, 350]))
def k_X0_copyFrom : List am_I := [(0, .aload_n 0, 1, [0], 0), (1, .aload_n 1, 1, [1], 0), (2, .getfield 30, 3, [0, 0, 0, 75], 0), (5, .putfield 30, 3, [0, 0, 0, 75], 0), (8, .aload_n 0, 1, [0], 0), (9, .aload_n 1, 1, [1], 0), (10, .getfield 34, 3, [0, 1, 0, 78], 0), (13, .putfield 34, 3, [0, 1, 0, 78], 0), (16, .aload_n 0, 1, [0], 0), (17, .aload_n 1, 1, [1], 0), (18, .getfield 37, 3, [0, 2, 0, 80], 0), (21, .putfield 37, 3, [0, 2, 0, 80], 0), (24, .aload_n 0, 1, [0], 0), (25, .aload_n 1, 1, [1], 0), (26, .getfield 40, 3, [0, 3, 0, 82], 0), (29, .putfield 40, 3, [0, 3, 0, 82], 0), (32, .aload_n 0, 1, [0], 0), (33, .aload_n 1, 1, [1], 0), (34, .getfield 49, 3, [0, 4, 0, 84], 0), (37, .putfield 49, 3, [0, 4, 2, 84], 0), (40, .aload_n 1, 1, [1], 0), (41, .getfield 9, 3, [0, 5, 1, 86], 0), (44, .iconst 0, 1, [], 0), (45, .aload_n 0, 1, [0], 0), (46, .getfield 9, 3, [0, 5, 1, 86], 0), (49, .iconst 0, 1, [], 0), (50, .bipush 8, 2, [], 8), (52, .invokestatic 53, 3, [4, 0, 5, 0, 0, 245], 0), (55, .aload_n 1, 1, [1], 0), (56, .getfield 15, 3, [0, 6, 1, 89], 0), (59, .iconst 0, 1, [], 0), (60, .aload_n 0, 1, [0], 0), (61, .getfield 15, 3, [0, 6, 1, 89], 0), (64, .iconst 0, 1, [], 0), (65, .bipush 8, 2, [], 8), (67, .invokestatic 53, 3, [4, 0, 5, 0, 0, 245], 0), (70, .aload_n 1, 1, [1], 0), (71, .getfield 18, 3, [0, 7, 1, 92], 0), (74, .iconst 0, 1, [], 0), (75, .aload_n 0, 1, [0], 0), (76, .getfield 18, 3, [0, 7, 1, 92], 0), (79, .iconst 0, 1, [], 0), (80, .bipush 8, 2, [], 8), (82, .invokestatic 53, 3, [4, 0, 5, 0, 0, 245], 0), (85, .aload_n 1, 1, [1], 0), (86, .getfield 21, 3, [0, 8, 1, 94], 0), (89, .iconst 0, 1, [], 0), (90, .aload_n 0, 1, [0], 0), (91, .getfield 21, 3, [0, 8, 1, 94], 0), (94, .iconst 0, 1, [], 0), (95, .bipush 8, 2, [], 8), (97, .invokestatic 53, 3, [4, 0, 5, 0, 0, 245], 0), (100, .aload_n 1, 1, [1], 0), (101, .getfield 24, 3, [0, 9, 1, 96], 0), (104, .iconst 0, 1, [], 0), (105, .aload_n 0, 1, [0], 0), (106, .getfield 24, 3, [0, 9, 1, 96], 0), (109, .iconst 0, 1, [], 0), (110, .iconst 5, 1, [], 5), (111, .invokestatic 53, 3, [4, 0, 5, 0, 0, 245], 0), (114, .return_, 1, [], 0)]
abbrev m_X0_copyFrom : Nat := 3
def tb_X0_copyFrom : tb_T := ((⟨"SlotMesh$Mesh", "copyFrom", "(LSlotMesh$Mesh;)V"⟩, prog_2_method_4_code, 2, none), .int, k_X0_copyFrom, (1, 100, 0, 0), (1, 0, 1, [244, 242, 48, 243]))
def k_X0_isStation : List am_I := [(0, .iload_n 1, 1, [1], 0), (1, .ifCond .lt 15, 3, [16], 0), (4, .iload_n 1, 1, [1], 0), (5, .aload_n 0, 1, [0], 0), (6, .getfield 30, 3, [0, 0, 0, 75], 0), (9, .if_icmp .ge 7, 3, [16], 0), (12, .iconst 1, 1, [], 1), (13, .goto 4, 3, [17], 0), (16, .iconst 0, 1, [], 0), (17, .ireturn, 1, [], 0)]
abbrev m_X0_isStation : Nat := 4
def tb_X0_isStation : tb_T := ((⟨"SlotMesh$Mesh", "isStation", "(I)Z"⟩, prog_2_method_5_code, 2, (some .boolean)), .boolean, k_X0_isStation, (0, 0, 0, 0), (1, 0, 1, [371, 369, 48, 370]))
def k_X0_isSlot : List am_I := [(0, .iload_n 1, 1, [1], 0), (1, .ifCond .lt 15, 3, [16], 0), (4, .iload_n 1, 1, [1], 0), (5, .aload_n 0, 1, [0], 0), (6, .getfield 34, 3, [0, 1, 0, 78], 0), (9, .if_icmp .ge 7, 3, [16], 0), (12, .iconst 1, 1, [], 1), (13, .goto 4, 3, [17], 0), (16, .iconst 0, 1, [], 0), (17, .ireturn, 1, [], 0)]
abbrev m_X0_isSlot : Nat := 5
def tb_X0_isSlot : tb_T := ((⟨"SlotMesh$Mesh", "isSlot", "(I)Z"⟩, prog_2_method_6_code, 2, (some .boolean)), .boolean, k_X0_isSlot, (0, 0, 0, 0), (1, 0, 1, [397, 395, 48, 396]))
def k_X0_isPair : List am_I := [(0, .aload_n 0, 1, [0], 0), (1, .iload_n 1, 1, [1], 0), (2, .invokevirtual 59, 3, [1, 4, 2, 1, 0, 481], 0), (5, .ifCond .eq 20, 3, [25], 0), (8, .aload_n 0, 1, [0], 0), (9, .iload_n 2, 1, [2], 0), (10, .invokevirtual 59, 3, [1, 4, 2, 1, 0, 481], 0), (13, .ifCond .eq 12, 3, [25], 0), (16, .iload_n 1, 1, [1], 0), (17, .iload_n 2, 1, [2], 0), (18, .if_icmp .eq 7, 3, [25], 0), (21, .iconst 1, 1, [], 1), (22, .goto 4, 3, [26], 0), (25, .iconst 0, 1, [], 0), (26, .ireturn, 1, [], 0)]
abbrev m_X0_isPair : Nat := 6
def tb_X0_isPair : tb_T := ((⟨"SlotMesh$Mesh", "isPair", "(II)Z"⟩, prog_2_method_7_code, 3, (some .boolean)), .boolean, k_X0_isPair, (1, 21, 0, 0), (1, 0, 2, [480, 478, 48, 479]))
def k_X0_link : List am_I := [(0, .aload_n 0, 1, [0], 0), (1, .getfield 18, 3, [0, 7, 1, 92], 0), (4, .iload_n 1, 1, [1], 0), (5, .dup2, 1, [], 0), (6, .iaload, 1, [], 0), (7, .iconst 1, 1, [], 1), (8, .iload_n 2, 1, [2], 0), (9, .ishl, 1, [], 0), (10, .ior, 1, [], 0), (11, .iastore, 1, [], 0), (12, .aload_n 0, 1, [0], 0), (13, .getfield 18, 3, [0, 7, 1, 92], 0), (16, .iload_n 2, 1, [2], 0), (17, .dup2, 1, [], 0), (18, .iaload, 1, [], 0), (19, .iconst 1, 1, [], 1), (20, .iload_n 1, 1, [1], 0), (21, .ishl, 1, [], 0), (22, .ior, 1, [], 0), (23, .iastore, 1, [], 0), (24, .return_, 1, [], 0)]
abbrev m_X0_link : Nat := 7
def tb_X0_link : tb_T := ((⟨"SlotMesh$Mesh", "link", "(II)V"⟩, prog_2_method_8_code, 3, none), .int, k_X0_link, (0, 0, 0, 0), (1, 0, 2, [336, 334, 48, 335]))
def k_X0_cut : List am_I := [(0, .aload_n 0, 1, [0], 0), (1, .getfield 18, 3, [0, 7, 1, 92], 0), (4, .iload_n 1, 1, [1], 0), (5, .dup2, 1, [], 0), (6, .iaload, 1, [], 0), (7, .iconst 1, 1, [], 1), (8, .iload_n 2, 1, [2], 0), (9, .ishl, 1, [], 0), (10, .iconst (-1), 1, [], -1), (11, .ixor, 1, [], 0), (12, .iand, 1, [], 0), (13, .iastore, 1, [], 0), (14, .aload_n 0, 1, [0], 0), (15, .getfield 18, 3, [0, 7, 1, 92], 0), (18, .iload_n 2, 1, [2], 0), (19, .dup2, 1, [], 0), (20, .iaload, 1, [], 0), (21, .iconst 1, 1, [], 1), (22, .iload_n 1, 1, [1], 0), (23, .ishl, 1, [], 0), (24, .iconst (-1), 1, [], -1), (25, .ixor, 1, [], 0), (26, .iand, 1, [], 0), (27, .iastore, 1, [], 0), (28, .return_, 1, [], 0)]
abbrev m_X0_cut : Nat := 8
def tb_X0_cut : tb_T := ((⟨"SlotMesh$Mesh", "cut", "(II)V"⟩, prog_2_method_9_code, 3, none), .int, k_X0_cut, (0, 0, 0, 0), (1, 0, 2, [495, 493, 48, 494]))
def k_X0_linkCount : List am_I := [(0, .iconst 0, 1, [], 0), (1, .istore_n 1, 1, [1], 0), (2, .iconst 0, 1, [], 0), (3, .istore_n 2, 1, [2], 0), (4, .iload_n 2, 1, [2], 0), (5, .aload_n 0, 1, [0], 0), (6, .getfield 30, 3, [0, 0, 0, 75], 0), (9, .if_icmp .ge 21, 3, [30], 0), (12, .iload_n 1, 1, [1], 0), (13, .aload_n 0, 1, [0], 0), (14, .getfield 18, 3, [0, 7, 1, 92], 0), (17, .iload_n 2, 1, [2], 0), (18, .iaload, 1, [], 0), (19, .invokestatic 63, 3, [1, 160, 1, 1, 0, 383], 0), (22, .iadd, 1, [], 0), (23, .istore_n 1, 1, [1], 0), (24, .iinc 2 1, 3, [2], 1), (27, .goto (-23), 3, [4], 0), (30, .iload_n 1, 1, [1], 0), (31, .iconst 2, 1, [], 2), (32, .idiv, 1, [], 0), (33, .ireturn, 1, [], 0)]
abbrev m_X0_linkCount : Nat := 9
def tb_X0_linkCount : tb_T := ((⟨"SlotMesh$Mesh", "linkCount", "()I"⟩, prog_2_method_10_code, 3, (some .int)), .int, k_X0_linkCount, (1, 20, 0, 0), (1, 0, 0, [633, 631, 48, 632]))
def k_X0_near : List am_I := [(0, .aload_n 0, 1, [0], 0), (1, .getfield 18, 3, [0, 7, 1, 92], 0), (4, .iload_n 1, 1, [1], 0), (5, .iaload, 1, [], 0), (6, .istore_n 2, 1, [2], 0), (7, .iconst 0, 1, [], 0), (8, .istore_n 3, 1, [3], 0), (9, .iload_n 3, 1, [3], 0), (10, .aload_n 0, 1, [0], 0), (11, .getfield 30, 3, [0, 0, 0, 75], 0), (14, .if_icmp .ge 31, 3, [45], 0), (17, .aload_n 0, 1, [0], 0), (18, .getfield 18, 3, [0, 7, 1, 92], 0), (21, .iload_n 1, 1, [1], 0), (22, .iaload, 1, [], 0), (23, .iload_n 3, 1, [3], 0), (24, .invokestatic 69, 3, [1, 91, 2, 1, 1, 376], 0), (27, .ifCond .eq 12, 3, [39], 0), (30, .iload_n 2, 1, [2], 0), (31, .aload_n 0, 1, [0], 0), (32, .getfield 18, 3, [0, 7, 1, 92], 0), (35, .iload_n 3, 1, [3], 0), (36, .iaload, 1, [], 0), (37, .ior, 1, [], 0), (38, .istore_n 2, 1, [2], 0), (39, .iinc 3 1, 3, [3], 1), (42, .goto (-33), 3, [9], 0), (45, .iload_n 2, 1, [2], 0), (46, .iconst 1, 1, [], 1), (47, .iload_n 1, 1, [1], 0), (48, .ishl, 1, [], 0), (49, .iconst (-1), 1, [], -1), (50, .ixor, 1, [], 0), (51, .iand, 1, [], 0), (52, .ireturn, 1, [], 0)]
abbrev m_X0_near : Nat := 10
def tb_X0_near : tb_T := ((⟨"SlotMesh$Mesh", "near", "(I)I"⟩, prog_2_method_11_code, 4, (some .int)), .int, k_X0_near, (1, 21, 0, 0), (1, 0, 1, [375, 373, 48, 374]))
def k_X0_hearing : List am_I := [(0, .iconst 0, 1, [], 0), (1, .istore_n 3, 1, [3], 0), (2, .iconst 0, 1, [], 0), (3, .istore 4, 2, [4], 0), (5, .iload 4, 2, [4], 0), (7, .aload_n 0, 1, [0], 0), (8, .getfield 30, 3, [0, 0, 0, 75], 0), (11, .if_icmp .ge 32, 3, [43], 0), (14, .aload_n 0, 1, [0], 0), (15, .getfield 18, 3, [0, 7, 1, 92], 0), (18, .iload 4, 2, [4], 0), (20, .iaload, 1, [], 0), (21, .iload_n 1, 1, [1], 0), (22, .iand, 1, [], 0), (23, .invokestatic 63, 3, [1, 160, 1, 1, 0, 383], 0), (26, .iload_n 2, 1, [2], 0), (27, .if_icmp .lt 10, 3, [37], 0), (30, .iload_n 3, 1, [3], 0), (31, .iconst 1, 1, [], 1), (32, .iload 4, 2, [4], 0), (34, .ishl, 1, [], 0), (35, .ior, 1, [], 0), (36, .istore_n 3, 1, [3], 0), (37, .iinc 4 1, 3, [4], 1), (40, .goto (-35), 3, [5], 0), (43, .iload_n 3, 1, [3], 0), (44, .ireturn, 1, [], 0)]
abbrev m_X0_hearing : Nat := 11
def tb_X0_hearing : tb_T := ((⟨"SlotMesh$Mesh", "hearing", "(II)I"⟩, prog_2_method_12_code, 5, (some .int)), .int, k_X0_hearing, (1, 20, 0, 0), (1, 0, 2, [446, 444, 48, 445]))
def k_X0_nearToAny : List am_I := [(0, .iconst 0, 1, [], 0), (1, .istore_n 2, 1, [2], 0), (2, .iconst 0, 1, [], 0), (3, .istore_n 3, 1, [3], 0), (4, .iload_n 3, 1, [3], 0), (5, .aload_n 0, 1, [0], 0), (6, .getfield 30, 3, [0, 0, 0, 75], 0), (9, .if_icmp .ge 25, 3, [34], 0), (12, .aload_n 0, 1, [0], 0), (13, .iload_n 3, 1, [3], 0), (14, .invokevirtual 73, 3, [1, 10, 2, 1, 0, 412], 0), (17, .iload_n 1, 1, [1], 0), (18, .iand, 1, [], 0), (19, .ifCond .eq 9, 3, [28], 0), (22, .iload_n 2, 1, [2], 0), (23, .iconst 1, 1, [], 1), (24, .iload_n 3, 1, [3], 0), (25, .ishl, 1, [], 0), (26, .ior, 1, [], 0), (27, .istore_n 2, 1, [2], 0), (28, .iinc 3 1, 3, [3], 1), (31, .goto (-27), 3, [4], 0), (34, .iload_n 2, 1, [2], 0), (35, .ireturn, 1, [], 0)]
abbrev m_X0_nearToAny : Nat := 12
def tb_X0_nearToAny : tb_T := ((⟨"SlotMesh$Mesh", "nearToAny", "(I)I"⟩, prog_2_method_13_code, 4, (some .int)), .int, k_X0_nearToAny, (2, 44, 0, 0), (1, 0, 1, [411, 409, 48, 410]))
def k_X0_holders : List am_I := [(0, .iconst 0, 1, [], 0), (1, .istore_n 2, 1, [2], 0), (2, .iconst 0, 1, [], 0), (3, .istore_n 3, 1, [3], 0), (4, .iload_n 3, 1, [3], 0), (5, .aload_n 0, 1, [0], 0), (6, .getfield 30, 3, [0, 0, 0, 75], 0), (9, .if_icmp .ge 28, 3, [37], 0), (12, .aload_n 0, 1, [0], 0), (13, .getfield 21, 3, [0, 8, 1, 94], 0), (16, .iload_n 3, 1, [3], 0), (17, .iaload, 1, [], 0), (18, .iload_n 1, 1, [1], 0), (19, .invokestatic 69, 3, [1, 91, 2, 1, 1, 376], 0), (22, .ifCond .eq 9, 3, [31], 0), (25, .iload_n 2, 1, [2], 0), (26, .iconst 1, 1, [], 1), (27, .iload_n 3, 1, [3], 0), (28, .ishl, 1, [], 0), (29, .ior, 1, [], 0), (30, .istore_n 2, 1, [2], 0), (31, .iinc 3 1, 3, [3], 1), (34, .goto (-30), 3, [4], 0), (37, .iload_n 2, 1, [2], 0), (38, .ireturn, 1, [], 0)]
abbrev m_X0_holders : Nat := 13
def tb_X0_holders : tb_T := ((⟨"SlotMesh$Mesh", "holders", "(I)I"⟩, prog_2_method_14_code, 4, (some .int)), .int, k_X0_holders, (1, 21, 0, 0), (1, 0, 1, [401, 399, 48, 400]))
def k_X0_covered : List am_I := [(0, .iconst 0, 1, [], 0), (1, .istore_n 1, 1, [1], 0), (2, .iconst 0, 1, [], 0), (3, .istore_n 2, 1, [2], 0), (4, .iload_n 2, 1, [2], 0), (5, .aload_n 0, 1, [0], 0), (6, .getfield 30, 3, [0, 0, 0, 75], 0), (9, .if_icmp .ge 33, 3, [42], 0), (12, .aload_n 0, 1, [0], 0), (13, .getfield 21, 3, [0, 8, 1, 94], 0), (16, .iload_n 2, 1, [2], 0), (17, .iaload, 1, [], 0), (18, .invokestatic 63, 3, [1, 160, 1, 1, 0, 383], 0), (21, .aload_n 0, 1, [0], 0), (22, .getfield 9, 3, [0, 5, 1, 86], 0), (25, .iload_n 2, 1, [2], 0), (26, .iaload, 1, [], 0), (27, .if_icmp .lt 9, 3, [36], 0), (30, .iload_n 1, 1, [1], 0), (31, .iconst 1, 1, [], 1), (32, .iload_n 2, 1, [2], 0), (33, .ishl, 1, [], 0), (34, .ior, 1, [], 0), (35, .istore_n 1, 1, [1], 0), (36, .iinc 2 1, 3, [2], 1), (39, .goto (-35), 3, [4], 0), (42, .iload_n 1, 1, [1], 0), (43, .ireturn, 1, [], 0)]
abbrev m_X0_covered : Nat := 14
def tb_X0_covered : tb_T := ((⟨"SlotMesh$Mesh", "covered", "()I"⟩, prog_2_method_15_code, 3, (some .int)), .int, k_X0_covered, (1, 20, 0, 0), (1, 0, 0, [382, 380, 48, 381]))
def k_X0_isDone : List am_I := [(0, .aload_n 0, 1, [0], 0), (1, .invokevirtual 76, 3, [1, 14, 1, 1, 0, 407], 0), (4, .invokestatic 63, 3, [1, 160, 1, 1, 0, 383], 0), (7, .aload_n 0, 1, [0], 0), (8, .getfield 30, 3, [0, 0, 0, 75], 0), (11, .if_icmp .ne 7, 3, [18], 0), (14, .iconst 1, 1, [], 1), (15, .goto 4, 3, [19], 0), (18, .iconst 0, 1, [], 0), (19, .ireturn, 1, [], 0)]
abbrev m_X0_isDone : Nat := 15
def tb_X0_isDone : tb_T := ((⟨"SlotMesh$Mesh", "isDone", "()Z"⟩, prog_2_method_16_code, 1, (some .boolean)), .boolean, k_X0_isDone, (2, 42, 0, 0), (1, 0, 0, [527, 525, 48, 526]))
def k_X0_clashes : List am_I := [(0, .aload_n 0, 1, [0], 0), (1, .iconst 1, 1, [], 1), (2, .aload_n 0, 1, [0], 0), (3, .getfield 34, 3, [0, 1, 0, 78], 0), (6, .ishl, 1, [], 0), (7, .iconst 1, 1, [], 1), (8, .isub, 1, [], 0), (9, .invokevirtual 80, 3, [1, 17, 2, 1, 0, 487], 0), (12, .ireturn, 1, [], 0)]
abbrev m_X0_clashes : Nat := 16
def tb_X0_clashes : tb_T := ((⟨"SlotMesh$Mesh", "clashes", "()I"⟩, prog_2_method_17_code, 1, (some .int)), .int, k_X0_clashes, (3, 69, 0, 0), (1, 0, 0, [486, 484, 48, 485]))
def k_X0_clashesBy : List am_I := [(0, .iconst 0, 1, [], 0), (1, .istore_n 2, 1, [2], 0), (2, .iconst 0, 1, [], 0), (3, .istore_n 3, 1, [3], 0), (4, .iload_n 3, 1, [3], 0), (5, .aload_n 0, 1, [0], 0), (6, .getfield 30, 3, [0, 0, 0, 75], 0), (9, .if_icmp .ge 68, 3, [77], 0), (12, .aload_n 0, 1, [0], 0), (13, .iload_n 3, 1, [3], 0), (14, .invokevirtual 73, 3, [1, 10, 2, 1, 0, 412], 0), (17, .istore 4, 2, [4], 0), (19, .iload_n 3, 1, [3], 0), (20, .iconst 1, 1, [], 1), (21, .iadd, 1, [], 0), (22, .istore 5, 2, [5], 0), (24, .iload 5, 2, [5], 0), (26, .aload_n 0, 1, [0], 0), (27, .getfield 30, 3, [0, 0, 0, 75], 0), (30, .if_icmp .ge 41, 3, [71], 0), (33, .iload 4, 2, [4], 0), (35, .iload 5, 2, [5], 0), (37, .invokestatic 69, 3, [1, 91, 2, 1, 1, 376], 0), (40, .ifCond .eq 25, 3, [65], 0), (43, .iload_n 2, 1, [2], 0), (44, .aload_n 0, 1, [0], 0), (45, .getfield 21, 3, [0, 8, 1, 94], 0), (48, .iload_n 3, 1, [3], 0), (49, .iaload, 1, [], 0), (50, .aload_n 0, 1, [0], 0), (51, .getfield 21, 3, [0, 8, 1, 94], 0), (54, .iload 5, 2, [5], 0), (56, .iaload, 1, [], 0), (57, .iand, 1, [], 0), (58, .iload_n 1, 1, [1], 0), (59, .iand, 1, [], 0), (60, .invokestatic 63, 3, [1, 160, 1, 1, 0, 383], 0), (63, .iadd, 1, [], 0), (64, .istore_n 2, 1, [2], 0), (65, .iinc 5 1, 3, [5], 1), (68, .goto (-44), 3, [24], 0), (71, .iinc 3 1, 3, [3], 1), (74, .goto (-70), 3, [4], 0), (77, .iload_n 2, 1, [2], 0), (78, .ireturn, 1, [], 0)]
abbrev m_X0_clashesBy : Nat := 17
def tb_X0_clashesBy : tb_T := ((⟨"SlotMesh$Mesh", "clashesBy", "(I)I"⟩, prog_2_method_18_code, 6, (some .int)), .int, k_X0_clashesBy, (2, 44, 0, 0), (1, 0, 1, [416, 414, 48, 415]))
def k_X0_contenders : List am_I := [(0, .aload_n 0, 1, [0], 0), (1, .iload_n 1, 1, [1], 0), (2, .invokevirtual 83, 3, [1, 13, 2, 1, 0, 406], 0), (5, .istore_n 2, 1, [2], 0), (6, .aload_n 0, 1, [0], 0), (7, .invokevirtual 76, 3, [1, 14, 1, 1, 0, 407], 0), (10, .iload_n 2, 1, [2], 0), (11, .ior, 1, [], 0), (12, .aload_n 0, 1, [0], 0), (13, .iload_n 2, 1, [2], 0), (14, .invokevirtual 86, 3, [1, 12, 2, 1, 0, 408], 0), (17, .ior, 1, [], 0), (18, .iconst (-1), 1, [], -1), (19, .ixor, 1, [], 0), (20, .iconst 1, 1, [], 1), (21, .aload_n 0, 1, [0], 0), (22, .getfield 30, 3, [0, 0, 0, 75], 0), (25, .ishl, 1, [], 0), (26, .iconst 1, 1, [], 1), (27, .isub, 1, [], 0), (28, .iand, 1, [], 0), (29, .ireturn, 1, [], 0)]
abbrev m_X0_contenders : Nat := 18
def tb_X0_contenders : tb_T := ((⟨"SlotMesh$Mesh", "contenders", "(I)I"⟩, prog_2_method_19_code, 3, (some .int)), .int, k_X0_contenders, (3, 67, 0, 0), (1, 0, 1, [405, 403, 48, 404]))
def k_X0_runFrame : List am_I := [(0, .iconst 0, 1, [], 0), (1, .istore_n 1, 1, [1], 0), (2, .iload_n 1, 1, [1], 0), (3, .aload_n 0, 1, [0], 0), (4, .getfield 34, 3, [0, 1, 0, 78], 0), (7, .if_icmp .ge 30, 3, [37], 0), (10, .iconst 0, 1, [], 0), (11, .istore_n 2, 1, [2], 0), (12, .iload_n 2, 1, [2], 0), (13, .aload_n 0, 1, [0], 0), (14, .getfield 37, 3, [0, 2, 0, 80], 0), (17, .if_icmp .ge 14, 3, [31], 0), (20, .aload_n 0, 1, [0], 0), (21, .iload_n 1, 1, [1], 0), (22, .invokevirtual 89, 3, [1, 20, 2, 0, 0, 467], 0), (25, .iinc 2 1, 3, [2], 1), (28, .goto (-16), 3, [12], 0), (31, .iinc 1 1, 3, [1], 1), (34, .goto (-32), 3, [2], 0), (37, .return_, 1, [], 0)]
abbrev m_X0_runFrame : Nat := 19
def tb_X0_runFrame : tb_T := ((⟨"SlotMesh$Mesh", "runFrame", "()V"⟩, prog_2_method_20_code, 3, none), .int, k_X0_runFrame, (5, 118, 0, 0), (1, 0, 0, [466, 464, 48, 465]))
def k_X0_runCycle : List am_I := [(0, .aload_n 0, 1, [0], 0), (1, .aload_n 0, 1, [0], 0), (2, .iload_n 1, 1, [1], 0), (3, .invokevirtual 93, 3, [1, 18, 2, 1, 0, 433], 0), (6, .invokevirtual 96, 3, [1, 22, 2, 1, 0, 434], 0), (9, .istore_n 2, 1, [2], 0), (10, .aload_n 0, 1, [0], 0), (11, .iload_n 2, 1, [2], 0), (12, .iconst 2, 1, [], 2), (13, .invokevirtual 99, 3, [1, 11, 3, 1, 0, 443], 0), (16, .iload_n 2, 1, [2], 0), (17, .iconst (-1), 1, [], -1), (18, .ixor, 1, [], 0), (19, .iand, 1, [], 0), (20, .istore_n 3, 1, [3], 0), (21, .iload_n 2, 1, [2], 0), (22, .aload_n 0, 1, [0], 0), (23, .iload_n 3, 1, [3], 0), (24, .iconst 1, 1, [], 1), (25, .invokevirtual 99, 3, [1, 11, 3, 1, 0, 443], 0), (28, .iconst (-1), 1, [], -1), (29, .ixor, 1, [], 0), (30, .iand, 1, [], 0), (31, .istore 4, 2, [4], 0), (33, .aload_n 0, 1, [0], 0), (34, .iload 4, 2, [4], 0), (36, .iconst 1, 1, [], 1), (37, .invokevirtual 99, 3, [1, 11, 3, 1, 0, 443], 0), (40, .iload_n 2, 1, [2], 0), (41, .iconst (-1), 1, [], -1), (42, .ixor, 1, [], 0), (43, .iand, 1, [], 0), (44, .istore 5, 2, [5], 0), (46, .aload_n 0, 1, [0], 0), (47, .iload_n 1, 1, [1], 0), (48, .iload 4, 2, [4], 0), (50, .iload 5, 2, [5], 0), (52, .invokevirtual 103, 3, [1, 23, 4, 1, 0, 447], 0), (55, .istore 6, 2, [6], 0), (57, .aload_n 0, 1, [0], 0), (58, .iload_n 2, 1, [2], 0), (59, .iload 6, 2, [6], 0), (61, .invokevirtual 107, 3, [1, 24, 3, 0, 0, 451], 0), (64, .aload_n 0, 1, [0], 0), (65, .iconst 1, 1, [], 1), (66, .putfield 49, 3, [0, 4, 2, 84], 0), (69, .aload_n 0, 1, [0], 0), (70, .getfield 24, 3, [0, 9, 1, 96], 0), (73, .iconst 0, 1, [], 0), (74, .iload_n 2, 1, [2], 0), (75, .iastore, 1, [], 0), (76, .aload_n 0, 1, [0], 0), (77, .getfield 24, 3, [0, 9, 1, 96], 0), (80, .iconst 1, 1, [], 1), (81, .iload_n 3, 1, [3], 0), (82, .iastore, 1, [], 0), (83, .aload_n 0, 1, [0], 0), (84, .getfield 24, 3, [0, 9, 1, 96], 0), (87, .iconst 2, 1, [], 2), (88, .iload 4, 2, [4], 0), (90, .iastore, 1, [], 0), (91, .aload_n 0, 1, [0], 0), (92, .getfield 24, 3, [0, 9, 1, 96], 0), (95, .iconst 3, 1, [], 3), (96, .iload 5, 2, [5], 0), (98, .iastore, 1, [], 0), (99, .aload_n 0, 1, [0], 0), (100, .getfield 24, 3, [0, 9, 1, 96], 0), (103, .iconst 4, 1, [], 4), (104, .iload 6, 2, [6], 0), (106, .iastore, 1, [], 0), (107, .return_, 1, [], 0)]
abbrev m_X0_runCycle : Nat := 20
def tb_X0_runCycle : tb_T := ((⟨"SlotMesh$Mesh", "runCycle", "(I)V"⟩, prog_2_method_21_code, 7, none), .int, k_X0_runCycle, (4, 92, 0, 0), (1, 0, 1, [432, 430, 48, 431]))
def k_X0_drawLot : List am_I := [(0, .aload_n 0, 1, [0], 0), (1, .aload_n 0, 1, [0], 0), (2, .getfield 40, 3, [0, 3, 0, 82], 0), (5, .sipush 171, 3, [], 171), (8, .imul, 1, [], 0), (9, .sipush 11213, 3, [], 11213), (12, .iadd, 1, [], 0), (13, .ldc 111, 2, [], 53125), (15, .irem, 1, [], 0), (16, .putfield 40, 3, [0, 3, 0, 82], 0), (19, .iload_n 1, 1, [1], 0), (20, .iconst 1, 1, [], 1), (21, .if_icmp .ge 7, 3, [28], 0), (24, .iconst 0, 1, [], 0), (25, .goto 12, 3, [37], 0), (28, .aload_n 0, 1, [0], 0), (29, .getfield 40, 3, [0, 3, 0, 82], 0), (32, .bipush 64, 2, [], 64), (34, .idiv, 1, [], 0), (35, .iload_n 1, 1, [1], 0), (36, .irem, 1, [], 0), (37, .ireturn, 1, [], 0)]
abbrev m_X0_drawLot : Nat := 21
def tb_X0_drawLot : tb_T := ((⟨"SlotMesh$Mesh", "drawLot", "(I)I"⟩, prog_2_method_22_code, 2, (some .int)), .int, k_X0_drawLot, (0, 0, 0, 0), (1, 0, 1, [441, 440, 48, 8]))
def k_X0_ask : List am_I := [(0, .iconst 0, 1, [], 0), (1, .istore_n 2, 1, [2], 0), (2, .iconst 0, 1, [], 0), (3, .istore_n 3, 1, [3], 0), (4, .iload_n 3, 1, [3], 0), (5, .aload_n 0, 1, [0], 0), (6, .getfield 30, 3, [0, 0, 0, 75], 0), (9, .if_icmp .ge 38, 3, [47], 0), (12, .iload_n 1, 1, [1], 0), (13, .iload_n 3, 1, [3], 0), (14, .invokestatic 69, 3, [1, 91, 2, 1, 1, 376], 0), (17, .ifCond .eq 24, 3, [41], 0), (20, .aload_n 0, 1, [0], 0), (21, .bipush 16, 2, [], 16), (23, .invokevirtual 112, 3, [1, 21, 2, 1, 0, 438], 0), (26, .aload_n 0, 1, [0], 0), (27, .getfield 15, 3, [0, 6, 1, 89], 0), (30, .iload_n 3, 1, [3], 0), (31, .iaload, 1, [], 0), (32, .if_icmp .ge 9, 3, [41], 0), (35, .iload_n 2, 1, [2], 0), (36, .iconst 1, 1, [], 1), (37, .iload_n 3, 1, [3], 0), (38, .ishl, 1, [], 0), (39, .ior, 1, [], 0), (40, .istore_n 2, 1, [2], 0), (41, .iinc 3 1, 3, [3], 1), (44, .goto (-40), 3, [4], 0), (47, .iload_n 2, 1, [2], 0), (48, .ireturn, 1, [], 0)]
abbrev m_X0_ask : Nat := 22
def tb_X0_ask : tb_T := ((⟨"SlotMesh$Mesh", "ask", "(I)I"⟩, prog_2_method_23_code, 4, (some .int)), .int, k_X0_ask, (1, 21, 0, 0), (1, 0, 1, [437, 436, 48, 7]))
def k_X0_settle : List am_I := [(0, .iconst 0, 1, [], 0), (1, .istore 4, 2, [4], 0), (3, .iload 4, 2, [4], 0), (5, .aload_n 0, 1, [0], 0), (6, .getfield 30, 3, [0, 0, 0, 75], 0), (9, .if_icmp .ge 35, 3, [44], 0), (12, .aload_n 0, 1, [0], 0), (13, .getfield 27, 3, [0, 10, 1, 98], 0), (16, .iload 4, 2, [4], 0), (18, .iload_n 2, 1, [2], 0), (19, .iload 4, 2, [4], 0), (21, .invokestatic 69, 3, [1, 91, 2, 1, 1, 376], 0), (24, .ifCond .eq 12, 3, [36], 0), (27, .aload_n 0, 1, [0], 0), (28, .bipush 8, 2, [], 8), (30, .invokevirtual 112, 3, [1, 21, 2, 1, 0, 438], 0), (33, .goto 4, 3, [37], 0), (36, .iconst (-1), 1, [], -1), (37, .iastore, 1, [], 0), (38, .iinc 4 1, 3, [4], 1), (41, .goto (-38), 3, [3], 0), (44, .iconst 0, 1, [], 0), (45, .istore 4, 2, [4], 0), (47, .bipush 7, 2, [], 7), (49, .istore 5, 2, [5], 0), (51, .iload 5, 2, [5], 0), (53, .ifCond .lt 88, 3, [141], 0), (56, .iconst 0, 1, [], 0), (57, .istore 6, 2, [6], 0), (59, .iload 6, 2, [6], 0), (61, .aload_n 0, 1, [0], 0), (62, .getfield 30, 3, [0, 0, 0, 75], 0), (65, .if_icmp .ge 70, 3, [135], 0), (68, .aload_n 0, 1, [0], 0), (69, .getfield 27, 3, [0, 10, 1, 98], 0), (72, .iload 6, 2, [6], 0), (74, .iaload, 1, [], 0), (75, .iload 5, 2, [5], 0), (77, .if_icmp .ne 52, 3, [129], 0), (80, .aload_n 0, 1, [0], 0), (81, .getfield 18, 3, [0, 7, 1, 92], 0), (84, .iload 6, 2, [6], 0), (86, .iaload, 1, [], 0), (87, .iload_n 3, 1, [3], 0), (88, .iand, 1, [], 0), (89, .ifCond .eq 40, 3, [129], 0), (92, .aload_n 0, 1, [0], 0), (93, .iload 6, 2, [6], 0), (95, .invokevirtual 73, 3, [1, 10, 2, 1, 0, 412], 0), (98, .aload_n 0, 1, [0], 0), (99, .iload_n 1, 1, [1], 0), (100, .invokevirtual 83, 3, [1, 13, 2, 1, 0, 406], 0), (103, .iand, 1, [], 0), (104, .ifCond .ne 25, 3, [129], 0), (107, .aload_n 0, 1, [0], 0), (108, .getfield 21, 3, [0, 8, 1, 94], 0), (111, .iload 6, 2, [6], 0), (113, .dup2, 1, [], 0), (114, .iaload, 1, [], 0), (115, .iconst 1, 1, [], 1), (116, .iload_n 1, 1, [1], 0), (117, .ishl, 1, [], 0), (118, .ior, 1, [], 0), (119, .iastore, 1, [], 0), (120, .iload 4, 2, [4], 0), (122, .iconst 1, 1, [], 1), (123, .iload 6, 2, [6], 0), (125, .ishl, 1, [], 0), (126, .ior, 1, [], 0), (127, .istore 4, 2, [4], 0), (129, .iinc 6 1, 3, [6], 1), (132, .goto (-73), 3, [59], 0), (135, .iinc 5 (-1), 3, [5], -1), (138, .goto (-87), 3, [51], 0), (141, .iload 4, 2, [4], 0), (143, .ireturn, 1, [], 0)]
abbrev m_X0_settle : Nat := 23
def tb_X0_settle : tb_T := ((⟨"SlotMesh$Mesh", "settle", "(III)I"⟩, prog_2_method_24_code, 7, (some .int)), .int, k_X0_settle, (2, 44, 0, 0), (1, 0, 3, [450, 449, 48, 9]))
def k_X0_changeShares : List am_I := [(0, .aload_n 0, 1, [0], 0), (1, .iload_n 2, 1, [2], 0), (2, .invokevirtual 86, 3, [1, 12, 2, 1, 0, 408], 0), (5, .istore_n 3, 1, [3], 0), (6, .aload_n 0, 1, [0], 0), (7, .iload_n 3, 1, [3], 0), (8, .iconst 1, 1, [], 1), (9, .invokevirtual 99, 3, [1, 11, 3, 1, 0, 443], 0), (12, .iload_n 3, 1, [3], 0), (13, .iload_n 2, 1, [2], 0), (14, .ior, 1, [], 0), (15, .iconst (-1), 1, [], -1), (16, .ixor, 1, [], 0), (17, .iand, 1, [], 0), (18, .istore 4, 2, [4], 0), (20, .iconst 0, 1, [], 0), (21, .istore 5, 2, [5], 0), (23, .iload 5, 2, [5], 0), (25, .aload_n 0, 1, [0], 0), (26, .getfield 30, 3, [0, 0, 0, 75], 0), (29, .if_icmp .ge 81, 3, [110], 0), (32, .iload_n 1, 1, [1], 0), (33, .iload 5, 2, [5], 0), (35, .invokestatic 69, 3, [1, 91, 2, 1, 1, 376], 0), (38, .ifCond .eq 35, 3, [73], 0), (41, .iload_n 2, 1, [2], 0), (42, .iload 5, 2, [5], 0), (44, .invokestatic 69, 3, [1, 91, 2, 1, 1, 376], 0), (47, .ifCond .ne 57, 3, [104], 0), (50, .aload_n 0, 1, [0], 0), (51, .getfield 15, 3, [0, 6, 1, 89], 0), (54, .iload 5, 2, [5], 0), (56, .iconst 1, 1, [], 1), (57, .aload_n 0, 1, [0], 0), (58, .getfield 15, 3, [0, 6, 1, 89], 0), (61, .iload 5, 2, [5], 0), (63, .iaload, 1, [], 0), (64, .iconst 2, 1, [], 2), (65, .idiv, 1, [], 0), (66, .invokestatic 115, 3, [2, 0, 2, 1, 0, 455], 0), (69, .iastore, 1, [], 0), (70, .goto 34, 3, [104], 0), (73, .iload 4, 2, [4], 0), (75, .iload 5, 2, [5], 0), (77, .invokestatic 69, 3, [1, 91, 2, 1, 1, 376], 0), (80, .ifCond .eq 24, 3, [104], 0), (83, .aload_n 0, 1, [0], 0), (84, .getfield 15, 3, [0, 6, 1, 89], 0), (87, .iload 5, 2, [5], 0), (89, .bipush 16, 2, [], 16), (91, .aload_n 0, 1, [0], 0), (92, .getfield 15, 3, [0, 6, 1, 89], 0), (95, .iload 5, 2, [5], 0), (97, .iaload, 1, [], 0), (98, .iconst 2, 1, [], 2), (99, .imul, 1, [], 0), (100, .invokestatic 120, 3, [3, 0, 2, 1, 0, 458], 0), (103, .iastore, 1, [], 0), (104, .iinc 5 1, 3, [5], 1), (107, .goto (-84), 3, [23], 0), (110, .return_, 1, [], 0)]
abbrev m_X0_changeShares : Nat := 24
def tb_X0_changeShares : tb_T := ((⟨"SlotMesh$Mesh", "changeShares", "(II)V"⟩, prog_2_method_25_code, 6, none), .int, k_X0_changeShares, (3, 67, 0, 0), (1, 0, 2, [454, 453, 48, 10]))
def k_X0_dealOneSlotEach : List am_I := [(0, .aload_n 0, 1, [0], 0), (1, .getfield 21, 3, [0, 8, 1, 94], 0), (4, .iconst 0, 1, [], 0), (5, .invokestatic 43, 3, [1, 167, 2, 0, 0, 173], 0), (8, .iconst 0, 1, [], 0), (9, .istore_n 1, 1, [1], 0), (10, .iconst 0, 1, [], 0), (11, .istore_n 2, 1, [2], 0), (12, .iload_n 2, 1, [2], 0), (13, .aload_n 0, 1, [0], 0), (14, .getfield 30, 3, [0, 0, 0, 75], 0), (17, .if_icmp .ge 41, 3, [58], 0), (20, .aload_n 0, 1, [0], 0), (21, .getfield 9, 3, [0, 5, 1, 86], 0), (24, .iload_n 2, 1, [2], 0), (25, .iaload, 1, [], 0), (26, .ifCond .le 26, 3, [52], 0), (29, .aload_n 0, 1, [0], 0), (30, .iload_n 2, 1, [2], 0), (31, .invokevirtual 123, 3, [1, 26, 2, 1, 0, 540], 0), (34, .istore_n 3, 1, [3], 0), (35, .aload_n 0, 1, [0], 0), (36, .getfield 21, 3, [0, 8, 1, 94], 0), (39, .iload_n 2, 1, [2], 0), (40, .iconst 1, 1, [], 1), (41, .iload_n 3, 1, [3], 0), (42, .ishl, 1, [], 0), (43, .iastore, 1, [], 0), (44, .iload_n 1, 1, [1], 0), (45, .iload_n 3, 1, [3], 0), (46, .iconst 1, 1, [], 1), (47, .iadd, 1, [], 0), (48, .invokestatic 115, 3, [2, 0, 2, 1, 0, 455], 0), (51, .istore_n 1, 1, [1], 0), (52, .iinc 2 1, 3, [2], 1), (55, .goto (-43), 3, [12], 0), (58, .iload_n 1, 1, [1], 0), (59, .ireturn, 1, [], 0)]
abbrev m_X0_dealOneSlotEach : Nat := 25
def tb_X0_dealOneSlotEach : tb_T := ((⟨"SlotMesh$Mesh", "dealOneSlotEach", "()I"⟩, prog_2_method_26_code, 4, (some .int)), .int, k_X0_dealOneSlotEach, (3, 68, 0, 0), (1, 0, 0, [539, 537, 48, 538]))
def k_X0_leastFree : List am_I := [(0, .aload_n 0, 1, [0], 0), (1, .iload_n 1, 1, [1], 0), (2, .invokevirtual 73, 3, [1, 10, 2, 1, 0, 412], 0), (5, .istore_n 2, 1, [2], 0), (6, .iconst 0, 1, [], 0), (7, .istore_n 3, 1, [3], 0), (8, .iconst 0, 1, [], 0), (9, .istore 4, 2, [4], 0), (11, .iload 4, 2, [4], 0), (13, .aload_n 0, 1, [0], 0), (14, .getfield 30, 3, [0, 0, 0, 75], 0), (17, .if_icmp .ge 28, 3, [45], 0), (20, .iload_n 2, 1, [2], 0), (21, .iload 4, 2, [4], 0), (23, .invokestatic 69, 3, [1, 91, 2, 1, 1, 376], 0), (26, .ifCond .eq 13, 3, [39], 0), (29, .iload_n 3, 1, [3], 0), (30, .aload_n 0, 1, [0], 0), (31, .getfield 21, 3, [0, 8, 1, 94], 0), (34, .iload 4, 2, [4], 0), (36, .iaload, 1, [], 0), (37, .ior, 1, [], 0), (38, .istore_n 3, 1, [3], 0), (39, .iinc 4 1, 3, [4], 1), (42, .goto (-31), 3, [11], 0), (45, .iconst 0, 1, [], 0), (46, .istore 4, 2, [4], 0), (48, .iload 4, 2, [4], 0), (50, .bipush 8, 2, [], 8), (52, .if_icmp .ge 18, 3, [70], 0), (55, .iload_n 3, 1, [3], 0), (56, .iload 4, 2, [4], 0), (58, .invokestatic 69, 3, [1, 91, 2, 1, 1, 376], 0), (61, .ifCond .eq 9, 3, [70], 0), (64, .iinc 4 1, 3, [4], 1), (67, .goto (-19), 3, [48], 0), (70, .iload 4, 2, [4], 0), (72, .ireturn, 1, [], 0)]
abbrev m_X0_leastFree : Nat := 26
def tb_X0_leastFree : tb_T := ((⟨"SlotMesh$Mesh", "leastFree", "(I)I"⟩, prog_2_method_27_code, 5, (some .int)), .int, k_X0_leastFree, (2, 44, 0, 0), (1, 0, 1, [543, 542, 48, 11]))
def k_X1_init : List am_I := [(0, .aload_n 0, 1, [0], 0), (1, .invokespecial 3, 3, [0, 0, 1, 0, 0, 153], 0), (4, .aload_n 0, 1, [0], 0), (5, .bipush 8, 2, [], 8), (7, .anewarray 9, 3, [0, 154], 0), (10, .putfield 11, 3, [1, 0, 1, 157], 0), (13, .iconst 0, 1, [], 0), (14, .istore_n 1, 1, [1], 0), (15, .iload_n 1, 1, [1], 0), (16, .bipush 8, 2, [], 8), (18, .if_icmp .ge 22, 3, [40], 0), (21, .aload_n 0, 1, [0], 0), (22, .getfield 11, 3, [1, 0, 1, 157], 0), (25, .iload_n 1, 1, [1], 0), (26, .new 9, 3, [0, 154, 70, 48], 0), (29, .dup, 1, [], 0), (30, .invokespecial 17, 3, [1, 0, 1, 2, 1, 156], 0), (33, .aastore, 1, [0], 0), (34, .iinc 1 1, 3, [1], 1), (37, .goto (-22), 3, [15], 0), (40, .return_, 1, [], 0)]
abbrev m_X1_init : Nat := 27
def tb_X1_init : tb_T := ((⟨"SlotMesh$Past", "<init>", "()V"⟩, prog_3_method_1_code, 2, none), .int, k_X1_init, (2, 50, 57, 456), (2, 1, 0, [152, 151, 50]))
def k_X1_size : List am_I := [(0, .aload_n 0, 1, [0], 0), (1, .getfield 18, 3, [1, 2, 0, 159], 0), (4, .ireturn, 1, [], 0)]
abbrev m_X1_size : Nat := 28
def tb_X1_size : tb_T := ((⟨"SlotMesh$Past", "size", "()I"⟩, prog_3_method_2_code, 1, (some .int)), .int, k_X1_size, (0, 0, 0, 0), (1, 1, 0, [503, 501, 50, 502]))
def k_X1_forget : List am_I := [(0, .aload_n 0, 1, [0], 0), (1, .iconst 0, 1, [], 0), (2, .putfield 18, 3, [1, 2, 0, 159], 0), (5, .return_, 1, [], 0)]
abbrev m_X1_forget : Nat := 29
def tb_X1_forget : tb_T := ((⟨"SlotMesh$Past", "forget", "()V"⟩, prog_3_method_3_code, 1, none), .int, k_X1_forget, (0, 0, 0, 0), (1, 1, 0, [355, 353, 50, 354]))
def k_X1_remember : List am_I := [(0, .aload_n 0, 1, [0], 0), (1, .getfield 11, 3, [1, 0, 1, 157], 0), (4, .aload_n 0, 1, [0], 0), (5, .getfield 22, 3, [1, 1, 0, 158], 0), (8, .aaload, 1, [0], 0), (9, .aload_n 1, 1, [1], 0), (10, .invokevirtual 25, 3, [1, 3, 2, 0, 0, 425], 0), (13, .aload_n 0, 1, [0], 0), (14, .aload_n 0, 1, [0], 0), (15, .getfield 22, 3, [1, 1, 0, 158], 0), (18, .iconst 1, 1, [], 1), (19, .iadd, 1, [], 0), (20, .bipush 8, 2, [], 8), (22, .irem, 1, [], 0), (23, .putfield 22, 3, [1, 1, 0, 158], 0), (26, .aload_n 0, 1, [0], 0), (27, .bipush 8, 2, [], 8), (29, .aload_n 0, 1, [0], 0), (30, .getfield 18, 3, [1, 2, 0, 159], 0), (33, .iconst 1, 1, [], 1), (34, .iadd, 1, [], 0), (35, .invokestatic 29, 3, [3, 0, 2, 1, 0, 426], 0), (38, .putfield 18, 3, [1, 2, 0, 159], 0), (41, .return_, 1, [], 0)]
abbrev m_X1_remember : Nat := 30
def tb_X1_remember : tb_T := ((⟨"SlotMesh$Past", "remember", "(LSlotMesh$Mesh;)V"⟩, prog_3_method_4_code, 2, none), .int, k_X1_remember, (2, 121, 0, 0), (1, 1, 1, [424, 422, 50, 423]))
def k_X1_recall : List am_I := [(0, .aload_n 0, 1, [0], 0), (1, .getfield 18, 3, [1, 2, 0, 159], 0), (4, .ifCond .le 42, 3, [46], 0), (7, .aload_n 0, 1, [0], 0), (8, .aload_n 0, 1, [0], 0), (9, .getfield 22, 3, [1, 1, 0, 158], 0), (12, .bipush 8, 2, [], 8), (14, .iadd, 1, [], 0), (15, .iconst 1, 1, [], 1), (16, .isub, 1, [], 0), (17, .bipush 8, 2, [], 8), (19, .irem, 1, [], 0), (20, .putfield 22, 3, [1, 1, 0, 158], 0), (23, .aload_n 0, 1, [0], 0), (24, .dup, 1, [], 0), (25, .getfield 18, 3, [1, 2, 0, 159], 0), (28, .iconst 1, 1, [], 1), (29, .isub, 1, [], 0), (30, .putfield 18, 3, [1, 2, 0, 159], 0), (33, .aload_n 1, 1, [1], 0), (34, .aload_n 0, 1, [0], 0), (35, .getfield 11, 3, [1, 0, 1, 157], 0), (38, .aload_n 0, 1, [0], 0), (39, .getfield 22, 3, [1, 1, 0, 158], 0), (42, .aaload, 1, [0], 0), (43, .invokevirtual 25, 3, [1, 3, 2, 0, 0, 425], 0), (46, .return_, 1, [], 0)]
abbrev m_X1_recall : Nat := 31
def tb_X1_recall : tb_T := ((⟨"SlotMesh$Past", "recall", "(LSlotMesh$Mesh;)V"⟩, prog_3_method_5_code, 2, none), .int, k_X1_recall, (2, 121, 0, 0), (1, 1, 1, [507, 505, 50, 506]))
def k_X2_init : List am_I := [(0, .aload_n 0, 1, [0], 0), (1, .invokespecial 3, 3, [0, 0, 1, 0, 0, 180], 0), (4, .aload_n 0, 1, [0], 0), (5, .bipush 8, 2, [], 8), (7, .newarray .int, 2, [0], 0), (9, .putfield 9, 3, [2, 0, 1, 181], 0), (12, .aload_n 0, 1, [0], 0), (13, .iconst 1, 1, [], 1), (14, .putfield 15, 3, [2, 2, 2, 184], 0), (17, .return_, 1, [], 0)]
abbrev m_X2_init : Nat := 32
def tb_X2_init : tb_T := ((⟨"SlotMesh$Tally", "<init>", "()V"⟩, prog_4_method_1_code, 1, none), .int, k_X2_init, (1, 30, 1, 8), (2, 2, 0, [179, 178, 52]))
def k_X2_begin : List am_I := [(0, .aload_n 0, 1, [0], 0), (1, .iconst 0, 1, [], 0), (2, .putfield 15, 3, [2, 2, 2, 184], 0), (5, .aload_n 0, 1, [0], 0), (6, .iload_n 1, 1, [1], 0), (7, .putfield 19, 3, [2, 1, 0, 182], 0), (10, .aload_n 0, 1, [0], 0), (11, .getfield 9, 3, [2, 0, 1, 181], 0), (14, .iconst 0, 1, [], 0), (15, .iload_n 2, 1, [2], 0), (16, .iastore, 1, [], 0), (17, .aload_n 0, 1, [0], 0), (18, .getfield 9, 3, [2, 0, 1, 181], 0), (21, .iconst 1, 1, [], 1), (22, .iload_n 3, 1, [3], 0), (23, .iastore, 1, [], 0), (24, .aload_n 0, 1, [0], 0), (25, .getfield 9, 3, [2, 0, 1, 181], 0), (28, .iconst 2, 1, [], 2), (29, .iload 4, 2, [4], 0), (31, .iastore, 1, [], 0), (32, .return_, 1, [], 0)]
abbrev m_X2_begin : Nat := 33
def tb_X2_begin : tb_T := ((⟨"SlotMesh$Tally", "begin", "(IIII)V"⟩, prog_4_method_2_code, 5, none), .int, k_X2_begin, (0, 0, 0, 0), (1, 2, 4, [562, 560, 52, 561]))
def k_X2_lose : List am_I := [(0, .aload_n 0, 1, [0], 0), (1, .iconst 1, 1, [], 1), (2, .putfield 15, 3, [2, 2, 2, 184], 0), (5, .aload_n 0, 1, [0], 0), (6, .iconst 0, 1, [], 0), (7, .putfield 19, 3, [2, 1, 0, 182], 0), (10, .return_, 1, [], 0)]
abbrev m_X2_lose : Nat := 34
def tb_X2_lose : tb_T := ((⟨"SlotMesh$Tally", "lose", "()V"⟩, prog_4_method_3_code, 1, none), .int, k_X2_lose, (0, 0, 0, 0), (1, 2, 0, [359, 357, 52, 358]))
def k_X2_addAll : List am_I := [(0, .aload_n 1, 1, [1], 0), (1, .getfield 19, 3, [2, 1, 0, 182], 0), (4, .istore_n 2, 1, [2], 0), (5, .aload_n 0, 1, [0], 0), (6, .getfield 19, 3, [2, 1, 0, 182], 0), (9, .iload_n 2, 1, [2], 0), (10, .iadd, 1, [], 0), (11, .bipush 8, 2, [], 8), (13, .if_icmp .gt 30, 3, [43], 0), (16, .aload_n 1, 1, [1], 0), (17, .getfield 9, 3, [2, 0, 1, 181], 0), (20, .iconst 0, 1, [], 0), (21, .aload_n 0, 1, [0], 0), (22, .getfield 9, 3, [2, 0, 1, 181], 0), (25, .aload_n 0, 1, [0], 0), (26, .getfield 19, 3, [2, 1, 0, 182], 0), (29, .iload_n 2, 1, [2], 0), (30, .invokestatic 23, 3, [4, 0, 5, 0, 0, 571], 0), (33, .aload_n 0, 1, [0], 0), (34, .dup, 1, [], 0), (35, .getfield 19, 3, [2, 1, 0, 182], 0), (38, .iload_n 2, 1, [2], 0), (39, .iadd, 1, [], 0), (40, .putfield 19, 3, [2, 1, 0, 182], 0), (43, .return_, 1, [], 0)]
abbrev m_X2_addAll : Nat := 35
def tb_X2_addAll : tb_T := ((⟨"SlotMesh$Tally", "addAll", "(LSlotMesh$Tally;)V"⟩, prog_4_method_4_code, 3, none), .int, k_X2_addAll, (1, 100, 0, 0), (1, 2, 1, [570, 568, 52, 569]))
def k_X2_takeLast : List am_I := [(0, .aload_n 0, 1, [0], 0), (1, .getfield 19, 3, [2, 1, 0, 182], 0), (4, .ifCond .le 13, 3, [17], 0), (7, .aload_n 0, 1, [0], 0), (8, .dup, 1, [], 0), (9, .getfield 19, 3, [2, 1, 0, 182], 0), (12, .iconst 1, 1, [], 1), (13, .isub, 1, [], 0), (14, .putfield 19, 3, [2, 1, 0, 182], 0), (17, .aload_n 0, 1, [0], 0), (18, .getfield 9, 3, [2, 0, 1, 181], 0), (21, .aload_n 0, 1, [0], 0), (22, .getfield 19, 3, [2, 1, 0, 182], 0), (25, .iaload, 1, [], 0), (26, .ireturn, 1, [], 0)]
abbrev m_X2_takeLast : Nat := 36
def tb_X2_takeLast : tb_T := ((⟨"SlotMesh$Tally", "takeLast", "()I"⟩, prog_4_method_5_code, 1, (some .int)), .int, k_X2_takeLast, (0, 0, 0, 0), (1, 2, 0, [602, 600, 52, 601]))
def k_X2_sum : List am_I := [(0, .iconst 0, 1, [], 0), (1, .istore_n 1, 1, [1], 0), (2, .iconst 0, 1, [], 0), (3, .istore_n 2, 1, [2], 0), (4, .iload_n 2, 1, [2], 0), (5, .aload_n 0, 1, [0], 0), (6, .getfield 19, 3, [2, 1, 0, 182], 0), (9, .if_icmp .ge 18, 3, [27], 0), (12, .iload_n 1, 1, [1], 0), (13, .aload_n 0, 1, [0], 0), (14, .getfield 9, 3, [2, 0, 1, 181], 0), (17, .iload_n 2, 1, [2], 0), (18, .iaload, 1, [], 0), (19, .iadd, 1, [], 0), (20, .istore_n 1, 1, [1], 0), (21, .iinc 2 1, 3, [2], 1), (24, .goto (-20), 3, [4], 0), (27, .iload_n 1, 1, [1], 0), (28, .ireturn, 1, [], 0)]
abbrev m_X2_sum : Nat := 37
def tb_X2_sum : tb_T := ((⟨"SlotMesh$Tally", "sum", "()I"⟩, prog_4_method_6_code, 3, (some .int)), .int, k_X2_sum, (0, 0, 0, 0), (1, 2, 0, [580, 578, 52, 579]))
def k_X2_greatest : List am_I := [(0, .aload_n 0, 1, [0], 0), (1, .getfield 9, 3, [2, 0, 1, 181], 0), (4, .iconst 0, 1, [], 0), (5, .iaload, 1, [], 0), (6, .istore_n 1, 1, [1], 0), (7, .iconst 1, 1, [], 1), (8, .istore_n 2, 1, [2], 0), (9, .iload_n 2, 1, [2], 0), (10, .aload_n 0, 1, [0], 0), (11, .getfield 19, 3, [2, 1, 0, 182], 0), (14, .if_icmp .ge 20, 3, [34], 0), (17, .iload_n 1, 1, [1], 0), (18, .aload_n 0, 1, [0], 0), (19, .getfield 9, 3, [2, 0, 1, 181], 0), (22, .iload_n 2, 1, [2], 0), (23, .iaload, 1, [], 0), (24, .invokestatic 29, 3, [2, 0, 2, 1, 0, 585], 0), (27, .istore_n 1, 1, [1], 0), (28, .iinc 2 1, 3, [2], 1), (31, .goto (-22), 3, [9], 0), (34, .iload_n 1, 1, [1], 0), (35, .ireturn, 1, [], 0)]
abbrev m_X2_greatest : Nat := 38
def tb_X2_greatest : tb_T := ((⟨"SlotMesh$Tally", "greatest", "()I"⟩, prog_4_method_7_code, 3, (some .int)), .int, k_X2_greatest, (1, 30, 0, 0), (1, 2, 0, [584, 582, 52, 583]))
def k_X2_least : List am_I := [(0, .aload_n 0, 1, [0], 0), (1, .getfield 9, 3, [2, 0, 1, 181], 0), (4, .iconst 0, 1, [], 0), (5, .iaload, 1, [], 0), (6, .istore_n 1, 1, [1], 0), (7, .iconst 1, 1, [], 1), (8, .istore_n 2, 1, [2], 0), (9, .iload_n 2, 1, [2], 0), (10, .aload_n 0, 1, [0], 0), (11, .getfield 19, 3, [2, 1, 0, 182], 0), (14, .if_icmp .ge 20, 3, [34], 0), (17, .iload_n 1, 1, [1], 0), (18, .aload_n 0, 1, [0], 0), (19, .getfield 9, 3, [2, 0, 1, 181], 0), (22, .iload_n 2, 1, [2], 0), (23, .iaload, 1, [], 0), (24, .invokestatic 35, 3, [3, 0, 2, 1, 0, 590], 0), (27, .istore_n 1, 1, [1], 0), (28, .iinc 2 1, 3, [2], 1), (31, .goto (-22), 3, [9], 0), (34, .iload_n 1, 1, [1], 0), (35, .ireturn, 1, [], 0)]
abbrev m_X2_least : Nat := 39
def tb_X2_least : tb_T := ((⟨"SlotMesh$Tally", "least", "()I"⟩, prog_4_method_8_code, 3, (some .int)), .int, k_X2_least, (1, 30, 0, 0), (1, 2, 0, [589, 587, 52, 588]))
def k_X2_swing : List am_I := [(0, .iconst 0, 1, [], 0), (1, .istore_n 1, 1, [1], 0), (2, .iconst 0, 1, [], 0), (3, .istore_n 2, 1, [2], 0), (4, .iload_n 2, 1, [2], 0), (5, .aload_n 0, 1, [0], 0), (6, .getfield 19, 3, [2, 1, 0, 182], 0), (9, .if_icmp .ge 37, 3, [46], 0), (12, .iload_n 2, 1, [2], 0), (13, .iconst 2, 1, [], 2), (14, .irem, 1, [], 0), (15, .ifCond .ne 9, 3, [24], 0), (18, .iload_n 2, 1, [2], 0), (19, .iconst 1, 1, [], 1), (20, .iadd, 1, [], 0), (21, .goto 7, 3, [28], 0), (24, .iload_n 2, 1, [2], 0), (25, .iconst 1, 1, [], 1), (26, .iadd, 1, [], 0), (27, .ineg, 1, [], 0), (28, .istore_n 3, 1, [3], 0), (29, .iload_n 1, 1, [1], 0), (30, .iload_n 3, 1, [3], 0), (31, .aload_n 0, 1, [0], 0), (32, .getfield 9, 3, [2, 0, 1, 181], 0), (35, .iload_n 2, 1, [2], 0), (36, .iaload, 1, [], 0), (37, .imul, 1, [], 0), (38, .iadd, 1, [], 0), (39, .istore_n 1, 1, [1], 0), (40, .iinc 2 1, 3, [2], 1), (43, .goto (-39), 3, [4], 0), (46, .iload_n 1, 1, [1], 0), (47, .ireturn, 1, [], 0)]
abbrev m_X2_swing : Nat := 40
def tb_X2_swing : tb_T := ((⟨"SlotMesh$Tally", "swing", "()I"⟩, prog_4_method_9_code, 4, (some .int)), .int, k_X2_swing, (0, 0, 0, 0), (1, 2, 0, [594, 592, 52, 593]))
def k_X2_negate : List am_I := [(0, .iconst 0, 1, [], 0), (1, .istore_n 1, 1, [1], 0), (2, .iload_n 1, 1, [1], 0), (3, .aload_n 0, 1, [0], 0), (4, .getfield 19, 3, [2, 1, 0, 182], 0), (7, .if_icmp .ge 22, 3, [29], 0), (10, .aload_n 0, 1, [0], 0), (11, .getfield 9, 3, [2, 0, 1, 181], 0), (14, .iload_n 1, 1, [1], 0), (15, .aload_n 0, 1, [0], 0), (16, .getfield 9, 3, [2, 0, 1, 181], 0), (19, .iload_n 1, 1, [1], 0), (20, .iaload, 1, [], 0), (21, .ineg, 1, [], 0), (22, .iastore, 1, [], 0), (23, .iinc 1 1, 3, [1], 1), (26, .goto (-24), 3, [2], 0), (29, .return_, 1, [], 0)]
abbrev m_X2_negate : Nat := 41
def tb_X2_negate : tb_T := ((⟨"SlotMesh$Tally", "negate", "()V"⟩, prog_4_method_10_code, 2, none), .int, k_X2_negate, (0, 0, 0, 0), (1, 2, 0, [610, 608, 52, 609]))
def k_X2_twice : List am_I := [(0, .iconst 0, 1, [], 0), (1, .istore_n 1, 1, [1], 0), (2, .iload_n 1, 1, [1], 0), (3, .aload_n 0, 1, [0], 0), (4, .getfield 19, 3, [2, 1, 0, 182], 0), (7, .if_icmp .ge 26, 3, [33], 0), (10, .aload_n 0, 1, [0], 0), (11, .getfield 9, 3, [2, 0, 1, 181], 0), (14, .iload_n 1, 1, [1], 0), (15, .iconst 2, 1, [], 2), (16, .aload_n 0, 1, [0], 0), (17, .getfield 9, 3, [2, 0, 1, 181], 0), (20, .iload_n 1, 1, [1], 0), (21, .iaload, 1, [], 0), (22, .imul, 1, [], 0), (23, .invokestatic 38, 3, [1, 44, 1, 1, 0, 615], 0), (26, .iastore, 1, [], 0), (27, .iinc 1 1, 3, [1], 1), (30, .goto (-28), 3, [2], 0), (33, .return_, 1, [], 0)]
abbrev m_X2_twice : Nat := 42
def tb_X2_twice : tb_T := ((⟨"SlotMesh$Tally", "twice", "()V"⟩, prog_4_method_11_code, 2, none), .int, k_X2_twice, (2, 50, 0, 0), (1, 2, 0, [614, 612, 52, 613]))
def k_X2_sumUp : List am_I := [(0, .iconst 0, 1, [], 0), (1, .istore_n 1, 1, [1], 0), (2, .iconst 0, 1, [], 0), (3, .istore_n 2, 1, [2], 0), (4, .iload_n 2, 1, [2], 0), (5, .aload_n 0, 1, [0], 0), (6, .getfield 19, 3, [2, 1, 0, 182], 0), (9, .if_icmp .ge 28, 3, [37], 0), (12, .iload_n 1, 1, [1], 0), (13, .aload_n 0, 1, [0], 0), (14, .getfield 9, 3, [2, 0, 1, 181], 0), (17, .iload_n 2, 1, [2], 0), (18, .iaload, 1, [], 0), (19, .iadd, 1, [], 0), (20, .istore_n 1, 1, [1], 0), (21, .aload_n 0, 1, [0], 0), (22, .getfield 9, 3, [2, 0, 1, 181], 0), (25, .iload_n 2, 1, [2], 0), (26, .iload_n 1, 1, [1], 0), (27, .invokestatic 38, 3, [1, 44, 1, 1, 0, 615], 0), (30, .iastore, 1, [], 0), (31, .iinc 2 1, 3, [2], 1), (34, .goto (-30), 3, [4], 0), (37, .return_, 1, [], 0)]
abbrev m_X2_sumUp : Nat := 43
def tb_X2_sumUp : tb_T := ((⟨"SlotMesh$Tally", "sumUp", "()V"⟩, prog_4_method_12_code, 3, none), .int, k_X2_sumUp, (2, 50, 0, 0), (1, 2, 0, [621, 619, 52, 620]))
def k_X2_held : List am_I := [(0, .sipush (-999), 3, [], -999), (3, .sipush 999, 3, [], 999), (6, .iload_n 0, 1, [0], 0), (7, .invokestatic 35, 3, [3, 0, 2, 1, 0, 590], 0), (10, .invokestatic 29, 3, [2, 0, 2, 1, 0, 585], 0), (13, .ireturn, 1, [], 0)]
abbrev m_X2_held : Nat := 44
def tb_X2_held : tb_T := ((⟨"SlotMesh$Tally", "held", "(I)I"⟩, prog_4_method_13_code, 1, (some .int)), .int, k_X2_held, (1, 30, 0, 0), (0, 2, 1, [617, 616, 52]))
def k_X3_init : List am_I := [(0, .aload_n 0, 1, [0], 0), (1, .invokespecial 3, 3, [0, 0, 1, 0, 0, 128], 0), (4, .aload_n 0, 1, [0], 0), (5, .sipush 200, 3, [], 200), (8, .newarray .int, 2, [0], 0), (10, .putfield 9, 3, [3, 0, 1, 129], 0), (13, .return_, 1, [], 0)]
abbrev m_X3_init : Nat := 45
def tb_X3_init : tb_T := ((⟨"SlotMesh$Text", "<init>", "()V"⟩, prog_5_method_1_code, 1, none), .int, k_X3_init, (1, 30, 1, 200), (2, 3, 0, [127, 126, 49]))
def k_X3_length : List am_I := [(0, .aload_n 0, 1, [0], 0), (1, .getfield 15, 3, [3, 1, 0, 130], 0), (4, .ireturn, 1, [], 0)]
abbrev m_X3_length : Nat := 46
def tb_X3_length : tb_T := ((⟨"SlotMesh$Text", "length", "()I"⟩, prog_5_method_2_code, 1, (some .int)), .int, k_X3_length, (0, 0, 0, 0), (1, 3, 0, [641, 639, 49, 640]))
def k_X3_isFull : List am_I := [(0, .aload_n 0, 1, [0], 0), (1, .getfield 15, 3, [3, 1, 0, 130], 0), (4, .sipush 200, 3, [], 200), (7, .if_icmp .lt 7, 3, [14], 0), (10, .iconst 1, 1, [], 1), (11, .goto 4, 3, [15], 0), (14, .iconst 0, 1, [], 0), (15, .ireturn, 1, [], 0)]
abbrev m_X3_isFull : Nat := 47
def tb_X3_isFull : tb_T := ((⟨"SlotMesh$Text", "isFull", "()Z"⟩, prog_5_method_3_code, 1, (some .boolean)), .boolean, k_X3_isFull, (0, 0, 0, 0), (1, 3, 0, [223, 221, 49, 222]))
def k_X3_add : List am_I := [(0, .aload_n 0, 1, [0], 0), (1, .invokevirtual 19, 3, [1, 47, 1, 1, 0, 228], 0), (4, .ifCond .ne 23, 3, [27], 0), (7, .aload_n 0, 1, [0], 0), (8, .getfield 9, 3, [3, 0, 1, 129], 0), (11, .aload_n 0, 1, [0], 0), (12, .getfield 15, 3, [3, 1, 0, 130], 0), (15, .iload_n 1, 1, [1], 0), (16, .iastore, 1, [], 0), (17, .aload_n 0, 1, [0], 0), (18, .dup, 1, [], 0), (19, .getfield 15, 3, [3, 1, 0, 130], 0), (22, .iconst 1, 1, [], 1), (23, .iadd, 1, [], 0), (24, .putfield 15, 3, [3, 1, 0, 130], 0), (27, .aload_n 0, 1, [0], 0), (28, .getfield 15, 3, [3, 1, 0, 130], 0), (31, .ireturn, 1, [], 0)]
abbrev m_X3_add : Nat := 48
def tb_X3_add : tb_T := ((⟨"SlotMesh$Text", "add", "(I)I"⟩, prog_5_method_4_code, 2, (some .int)), .int, k_X3_add, (1, 20, 0, 0), (1, 3, 1, [227, 225, 49, 226]))
def k_X3_clear : List am_I := [(0, .aload_n 0, 1, [0], 0), (1, .getfield 15, 3, [3, 1, 0, 130], 0), (4, .istore_n 1, 1, [1], 0), (5, .aload_n 0, 1, [0], 0), (6, .iconst 0, 1, [], 0), (7, .putfield 15, 3, [3, 1, 0, 130], 0), (10, .iload_n 1, 1, [1], 0), (11, .ireturn, 1, [], 0)]
abbrev m_X3_clear : Nat := 49
def tb_X3_clear : tb_T := ((⟨"SlotMesh$Text", "clear", "()I"⟩, prog_5_method_5_code, 2, (some .int)), .int, k_X3_clear, (0, 0, 0, 0), (1, 3, 0, [236, 234, 49, 235]))
def k_X3_clausesRead : List am_I := [(0, .aload_n 0, 1, [0], 0), (1, .getfield 23, 3, [3, 5, 0, 134], 0), (4, .ireturn, 1, [], 0)]
abbrev m_X3_clausesRead : Nat := 50
def tb_X3_clausesRead : tb_T := ((⟨"SlotMesh$Text", "clausesRead", "()I"⟩, prog_5_method_6_code, 1, (some .int)), .int, k_X3_clausesRead, (0, 0, 0, 0), (1, 3, 0, [363, 361, 49, 362]))
def k_X3_readInto : List am_I := [(0, .aload_n 0, 1, [0], 0), (1, .iconst 0, 1, [], 0), (2, .putfield 26, 3, [3, 3, 0, 132], 0), (5, .aload_n 0, 1, [0], 0), (6, .iconst 0, 1, [], 0), (7, .putfield 23, 3, [3, 5, 0, 134], 0), (10, .aload_n 0, 1, [0], 0), (11, .getfield 23, 3, [3, 5, 0, 134], 0), (14, .bipush 24, 2, [], 24), (16, .if_icmp .ge 66, 3, [82], 0), (19, .aload_n 0, 1, [0], 0), (20, .invokevirtual 29, 3, [1, 57, 1, 0, 0, 252], 0), (23, .aload_n 0, 1, [0], 0), (24, .aload_n 1, 1, [1], 0), (25, .invokevirtual 32, 3, [1, 52, 2, 1, 0, 262], 0), (28, .ifCond .ne 8, 3, [36], 0), (31, .aload_n 0, 1, [0], 0), (32, .getfield 36, 3, [3, 2, 0, 131], 0), (35, .ireturn, 1, [], 0), (36, .aload_n 0, 1, [0], 0), (37, .dup, 1, [], 0), (38, .getfield 23, 3, [3, 5, 0, 134], 0), (41, .iconst 1, 1, [], 1), (42, .iadd, 1, [], 0), (43, .putfield 23, 3, [3, 5, 0, 134], 0), (46, .aload_n 0, 1, [0], 0), (47, .invokevirtual 29, 3, [1, 57, 1, 0, 0, 252], 0), (50, .aload_n 0, 1, [0], 0), (51, .getfield 36, 3, [3, 2, 0, 131], 0), (54, .aload_n 0, 1, [0], 0), (55, .getfield 15, 3, [3, 1, 0, 130], 0), (58, .if_icmp .ne 5, 3, [63], 0), (61, .iconst (-1), 1, [], -1), (62, .ireturn, 1, [], 0), (63, .aload_n 0, 1, [0], 0), (64, .getfield 9, 3, [3, 0, 1, 129], 0), (67, .aload_n 0, 1, [0], 0), (68, .getfield 36, 3, [3, 2, 0, 131], 0), (71, .iaload, 1, [], 0), (72, .bipush 59, 2, [], 59), (74, .if_icmp .eq (-64), 3, [10], 0), (77, .aload_n 0, 1, [0], 0), (78, .getfield 36, 3, [3, 2, 0, 131], 0), (81, .ireturn, 1, [], 0), (82, .aload_n 0, 1, [0], 0), (83, .getfield 36, 3, [3, 2, 0, 131], 0), (86, .ireturn, 1, [], 0)]
abbrev m_X3_readInto : Nat := 51
def tb_X3_readInto : tb_T := ((⟨"SlotMesh$Text", "readInto", "(LSlotMesh$Mesh;)I"⟩, prog_5_method_7_code, 2, (some .int)), .int, k_X3_readInto, (6, 128, 0, 0), (1, 3, 1, [251, 249, 49, 250]))
def k_X3_readClause : List am_I := [(0, .aload_n 0, 1, [0], 0), (1, .ldc 39, 2, [1000001], 0), (3, .invokevirtual 41, 3, [1, 58, 2, 1, 0, 267], 0), (6, .ifCond .eq 9, 3, [15], 0), (9, .aload_n 0, 1, [0], 0), (10, .aload_n 1, 1, [1], 0), (11, .invokevirtual 45, 3, [1, 53, 2, 1, 0, 319], 0), (14, .ireturn, 1, [], 0), (15, .aload_n 0, 1, [0], 0), (16, .ldc 48, 2, [1000002], 0), (18, .invokevirtual 41, 3, [1, 58, 2, 1, 0, 267], 0), (21, .ifCond .eq 9, 3, [30], 0), (24, .aload_n 0, 1, [0], 0), (25, .aload_n 1, 1, [1], 0), (26, .invokevirtual 50, 3, [1, 54, 2, 1, 0, 329], 0), (29, .ireturn, 1, [], 0), (30, .aload_n 0, 1, [0], 0), (31, .ldc 53, 2, [1000003], 0), (33, .invokevirtual 41, 3, [1, 58, 2, 1, 0, 267], 0), (36, .ifCond .eq 18, 3, [54], 0), (39, .aload_n 0, 1, [0], 0), (40, .aload_n 1, 1, [1], 0), (41, .getfield 55, 3, [0, 5, 1, 88], 0), (44, .aload_n 1, 1, [1], 0), (45, .getfield 60, 3, [0, 0, 0, 76], 0), (48, .iconst 0, 1, [], 0), (49, .iconst 4, 1, [], 4), (50, .invokevirtual 63, 3, [1, 55, 5, 1, 0, 338], 0), (53, .ireturn, 1, [], 0), (54, .aload_n 0, 1, [0], 0), (55, .ldc 67, 2, [1000004], 0), (57, .invokevirtual 41, 3, [1, 58, 2, 1, 0, 267], 0), (60, .ifCond .eq 19, 3, [79], 0), (63, .aload_n 0, 1, [0], 0), (64, .aload_n 1, 1, [1], 0), (65, .getfield 69, 3, [0, 6, 1, 91], 0), (68, .aload_n 1, 1, [1], 0), (69, .getfield 60, 3, [0, 0, 0, 76], 0), (72, .iconst 1, 1, [], 1), (73, .bipush 16, 2, [], 16), (75, .invokevirtual 63, 3, [1, 55, 5, 1, 0, 338], 0), (78, .ireturn, 1, [], 0), (79, .iconst 0, 1, [], 0), (80, .ireturn, 1, [], 0)]
abbrev m_X3_readClause : Nat := 52
def tb_X3_readClause : tb_T := ((⟨"SlotMesh$Text", "readClause", "(LSlotMesh$Mesh;)Z"⟩, prog_5_method_8_code, 2, (some .boolean)), .boolean, k_X3_readClause, (5, 107, 0, 0), (1, 3, 1, [265, 264, 49, 1]))
def k_X3_readMesh : List am_I := [(0, .aload_n 0, 1, [0], 0), (1, .iconst 2, 1, [], 2), (2, .bipush 8, 2, [], 8), (4, .invokevirtual 72, 3, [1, 56, 3, 1, 0, 323], 0), (7, .ifCond .ne 5, 3, [12], 0), (10, .iconst 0, 1, [], 0), (11, .ireturn, 1, [], 0), (12, .aload_n 0, 1, [0], 0), (13, .getfield 76, 3, [3, 4, 0, 133], 0), (16, .istore_n 2, 1, [2], 0), (17, .aload_n 0, 1, [0], 0), (18, .iconst 1, 1, [], 1), (19, .iconst 4, 1, [], 4), (20, .invokevirtual 72, 3, [1, 56, 3, 1, 0, 323], 0), (23, .ifCond .ne 5, 3, [28], 0), (26, .iconst 0, 1, [], 0), (27, .ireturn, 1, [], 0), (28, .aload_n 0, 1, [0], 0), (29, .getfield 76, 3, [3, 4, 0, 133], 0), (32, .istore_n 3, 1, [3], 0), (33, .aload_n 0, 1, [0], 0), (34, .iconst 1, 1, [], 1), (35, .iconst 5, 1, [], 5), (36, .invokevirtual 72, 3, [1, 56, 3, 1, 0, 323], 0), (39, .ifCond .ne 5, 3, [44], 0), (42, .iconst 0, 1, [], 0), (43, .ireturn, 1, [], 0), (44, .aload_n 0, 1, [0], 0), (45, .getfield 76, 3, [3, 4, 0, 133], 0), (48, .istore 4, 2, [4], 0), (50, .aload_n 0, 1, [0], 0), (51, .iconst 1, 1, [], 1), (52, .sipush 999, 3, [], 999), (55, .invokevirtual 72, 3, [1, 56, 3, 1, 0, 323], 0), (58, .ifCond .ne 5, 3, [63], 0), (61, .iconst 0, 1, [], 0), (62, .ireturn, 1, [], 0), (63, .aload_n 1, 1, [1], 0), (64, .iload_n 2, 1, [2], 0), (65, .iload_n 3, 1, [3], 0), (66, .iload 4, 2, [4], 0), (68, .aload_n 0, 1, [0], 0), (69, .getfield 76, 3, [3, 4, 0, 133], 0), (72, .invokevirtual 79, 3, [1, 1, 5, 0, 0, 327], 0), (75, .iconst 1, 1, [], 1), (76, .ireturn, 1, [], 0)]
abbrev m_X3_readMesh : Nat := 53
def tb_X3_readMesh : tb_T := ((⟨"SlotMesh$Text", "readMesh", "(LSlotMesh$Mesh;)Z"⟩, prog_5_method_9_code, 5, (some .boolean)), .boolean, k_X3_readMesh, (3, 63, 0, 0), (1, 3, 1, [322, 321, 49, 3]))
def k_X3_readLink : List am_I := [(0, .aload_n 0, 1, [0], 0), (1, .iconst 0, 1, [], 0), (2, .aload_n 1, 1, [1], 0), (3, .getfield 60, 3, [0, 0, 0, 76], 0), (6, .iconst 1, 1, [], 1), (7, .isub, 1, [], 0), (8, .invokevirtual 72, 3, [1, 56, 3, 1, 0, 323], 0), (11, .ifCond .ne 5, 3, [16], 0), (14, .iconst 0, 1, [], 0), (15, .ireturn, 1, [], 0), (16, .aload_n 0, 1, [0], 0), (17, .getfield 76, 3, [3, 4, 0, 133], 0), (20, .istore_n 2, 1, [2], 0), (21, .aload_n 0, 1, [0], 0), (22, .iconst 0, 1, [], 0), (23, .aload_n 1, 1, [1], 0), (24, .getfield 60, 3, [0, 0, 0, 76], 0), (27, .iconst 1, 1, [], 1), (28, .isub, 1, [], 0), (29, .invokevirtual 72, 3, [1, 56, 3, 1, 0, 323], 0), (32, .ifCond .eq 11, 3, [43], 0), (35, .aload_n 0, 1, [0], 0), (36, .getfield 76, 3, [3, 4, 0, 133], 0), (39, .iload_n 2, 1, [2], 0), (40, .if_icmp .ne 5, 3, [45], 0), (43, .iconst 0, 1, [], 0), (44, .ireturn, 1, [], 0), (45, .aload_n 1, 1, [1], 0), (46, .iload_n 2, 1, [2], 0), (47, .aload_n 0, 1, [0], 0), (48, .getfield 76, 3, [3, 4, 0, 133], 0), (51, .invokevirtual 83, 3, [1, 7, 3, 0, 0, 333], 0), (54, .iconst 1, 1, [], 1), (55, .ireturn, 1, [], 0)]
abbrev m_X3_readLink : Nat := 54
def tb_X3_readLink : tb_T := ((⟨"SlotMesh$Text", "readLink", "(LSlotMesh$Mesh;)Z"⟩, prog_5_method_10_code, 3, (some .boolean)), .boolean, k_X3_readLink, (3, 63, 0, 0), (1, 3, 1, [332, 331, 49, 5]))
def k_X3_readOfStation : List am_I := [(0, .aload_n 0, 1, [0], 0), (1, .iconst 0, 1, [], 0), (2, .iload_n 2, 1, [2], 0), (3, .iconst 1, 1, [], 1), (4, .isub, 1, [], 0), (5, .invokevirtual 72, 3, [1, 56, 3, 1, 0, 323], 0), (8, .ifCond .ne 5, 3, [13], 0), (11, .iconst 0, 1, [], 0), (12, .ireturn, 1, [], 0), (13, .aload_n 0, 1, [0], 0), (14, .getfield 76, 3, [3, 4, 0, 133], 0), (17, .istore 5, 2, [5], 0), (19, .aload_n 0, 1, [0], 0), (20, .iload_n 3, 1, [3], 0), (21, .iload 4, 2, [4], 0), (23, .invokevirtual 72, 3, [1, 56, 3, 1, 0, 323], 0), (26, .ifCond .ne 5, 3, [31], 0), (29, .iconst 0, 1, [], 0), (30, .ireturn, 1, [], 0), (31, .aload_n 1, 1, [1], 0), (32, .iload 5, 2, [5], 0), (34, .aload_n 0, 1, [0], 0), (35, .getfield 76, 3, [3, 4, 0, 133], 0), (38, .iastore, 1, [], 0), (39, .iconst 1, 1, [], 1), (40, .ireturn, 1, [], 0)]
abbrev m_X3_readOfStation : Nat := 55
def tb_X3_readOfStation : tb_T := ((⟨"SlotMesh$Text", "readOfStation", "([IIII)Z"⟩, prog_5_method_11_code, 6, (some .boolean)), .boolean, k_X3_readOfStation, (3, 63, 0, 0), (1, 3, 4, [341, 340, 49, 6]))
def k_X3_readNumber : List am_I := [(0, .aload_n 0, 1, [0], 0), (1, .invokevirtual 29, 3, [1, 57, 1, 0, 0, 252], 0), (4, .aload_n 0, 1, [0], 0), (5, .getfield 36, 3, [3, 2, 0, 131], 0), (8, .aload_n 0, 1, [0], 0), (9, .getfield 15, 3, [3, 1, 0, 130], 0), (12, .if_icmp .eq 31, 3, [43], 0), (15, .aload_n 0, 1, [0], 0), (16, .getfield 9, 3, [3, 0, 1, 129], 0), (19, .aload_n 0, 1, [0], 0), (20, .getfield 36, 3, [3, 2, 0, 131], 0), (23, .iaload, 1, [], 0), (24, .invokestatic 86, 3, [1, 60, 1, 1, 0, 259], 0), (27, .ifCond .eq 16, 3, [43], 0), (30, .aload_n 0, 1, [0], 0), (31, .getfield 26, 3, [3, 3, 0, 132], 0), (34, .aload_n 0, 1, [0], 0), (35, .getfield 36, 3, [3, 2, 0, 131], 0), (38, .isub, 1, [], 0), (39, .iconst 3, 1, [], 3), (40, .if_icmp .le 5, 3, [45], 0), (43, .iconst 0, 1, [], 0), (44, .ireturn, 1, [], 0), (45, .aload_n 0, 1, [0], 0), (46, .iconst 0, 1, [], 0), (47, .putfield 76, 3, [3, 4, 0, 133], 0), (50, .aload_n 0, 1, [0], 0), (51, .getfield 36, 3, [3, 2, 0, 131], 0), (54, .istore_n 3, 1, [3], 0), (55, .iload_n 3, 1, [3], 0), (56, .aload_n 0, 1, [0], 0), (57, .getfield 26, 3, [3, 3, 0, 132], 0), (60, .if_icmp .ge 30, 3, [90], 0), (63, .aload_n 0, 1, [0], 0), (64, .aload_n 0, 1, [0], 0), (65, .getfield 76, 3, [3, 4, 0, 133], 0), (68, .bipush 10, 2, [], 10), (70, .imul, 1, [], 0), (71, .aload_n 0, 1, [0], 0), (72, .getfield 9, 3, [3, 0, 1, 129], 0), (75, .iload_n 3, 1, [3], 0), (76, .iaload, 1, [], 0), (77, .iadd, 1, [], 0), (78, .bipush 48, 2, [], 48), (80, .isub, 1, [], 0), (81, .putfield 76, 3, [3, 4, 0, 133], 0), (84, .iinc 3 1, 3, [3], 1), (87, .goto (-32), 3, [55], 0), (90, .aload_n 0, 1, [0], 0), (91, .getfield 76, 3, [3, 4, 0, 133], 0), (94, .iload_n 1, 1, [1], 0), (95, .if_icmp .lt 15, 3, [110], 0), (98, .aload_n 0, 1, [0], 0), (99, .getfield 76, 3, [3, 4, 0, 133], 0), (102, .iload_n 2, 1, [2], 0), (103, .if_icmp .gt 7, 3, [110], 0), (106, .iconst 1, 1, [], 1), (107, .goto 4, 3, [111], 0), (110, .iconst 0, 1, [], 0), (111, .ireturn, 1, [], 0)]
abbrev m_X3_readNumber : Nat := 56
def tb_X3_readNumber : tb_T := ((⟨"SlotMesh$Text", "readNumber", "(II)Z"⟩, prog_5_method_12_code, 4, (some .boolean)), .boolean, k_X3_readNumber, (2, 40, 0, 0), (1, 3, 2, [326, 325, 49, 4]))
def k_X3_nextToken : List am_I := [(0, .aload_n 0, 1, [0], 0), (1, .aload_n 0, 1, [0], 0), (2, .getfield 26, 3, [3, 3, 0, 132], 0), (5, .putfield 36, 3, [3, 2, 0, 131], 0), (8, .aload_n 0, 1, [0], 0), (9, .getfield 36, 3, [3, 2, 0, 131], 0), (12, .aload_n 0, 1, [0], 0), (13, .getfield 15, 3, [3, 1, 0, 130], 0), (16, .if_icmp .ge 30, 3, [46], 0), (19, .aload_n 0, 1, [0], 0), (20, .getfield 9, 3, [3, 0, 1, 129], 0), (23, .aload_n 0, 1, [0], 0), (24, .getfield 36, 3, [3, 2, 0, 131], 0), (27, .iaload, 1, [], 0), (28, .bipush 32, 2, [], 32), (30, .if_icmp .ne 16, 3, [46], 0), (33, .aload_n 0, 1, [0], 0), (34, .dup, 1, [], 0), (35, .getfield 36, 3, [3, 2, 0, 131], 0), (38, .iconst 1, 1, [], 1), (39, .iadd, 1, [], 0), (40, .putfield 36, 3, [3, 2, 0, 131], 0), (43, .goto (-35), 3, [8], 0), (46, .aload_n 0, 1, [0], 0), (47, .aload_n 0, 1, [0], 0), (48, .getfield 36, 3, [3, 2, 0, 131], 0), (51, .putfield 26, 3, [3, 3, 0, 132], 0), (54, .aload_n 0, 1, [0], 0), (55, .getfield 36, 3, [3, 2, 0, 131], 0), (58, .aload_n 0, 1, [0], 0), (59, .getfield 15, 3, [3, 1, 0, 130], 0), (62, .if_icmp .ne 4, 3, [66], 0), (65, .return_, 1, [], 0), (66, .aload_n 0, 1, [0], 0), (67, .dup, 1, [], 0), (68, .getfield 26, 3, [3, 3, 0, 132], 0), (71, .iconst 1, 1, [], 1), (72, .iadd, 1, [], 0), (73, .putfield 26, 3, [3, 3, 0, 132], 0), (76, .aload_n 0, 1, [0], 0), (77, .getfield 9, 3, [3, 0, 1, 129], 0), (80, .aload_n 0, 1, [0], 0), (81, .getfield 36, 3, [3, 2, 0, 131], 0), (84, .iaload, 1, [], 0), (85, .invokestatic 90, 3, [1, 59, 1, 1, 0, 256], 0), (88, .ifCond .eq 42, 3, [130], 0), (91, .aload_n 0, 1, [0], 0), (92, .getfield 26, 3, [3, 3, 0, 132], 0), (95, .aload_n 0, 1, [0], 0), (96, .getfield 15, 3, [3, 1, 0, 130], 0), (99, .if_icmp .ge 85, 3, [184], 0), (102, .aload_n 0, 1, [0], 0), (103, .getfield 9, 3, [3, 0, 1, 129], 0), (106, .aload_n 0, 1, [0], 0), (107, .getfield 26, 3, [3, 3, 0, 132], 0), (110, .iaload, 1, [], 0), (111, .invokestatic 90, 3, [1, 59, 1, 1, 0, 256], 0), (114, .ifCond .eq 70, 3, [184], 0), (117, .aload_n 0, 1, [0], 0), (118, .dup, 1, [], 0), (119, .getfield 26, 3, [3, 3, 0, 132], 0), (122, .iconst 1, 1, [], 1), (123, .iadd, 1, [], 0), (124, .putfield 26, 3, [3, 3, 0, 132], 0), (127, .goto (-36), 3, [91], 0), (130, .aload_n 0, 1, [0], 0), (131, .getfield 9, 3, [3, 0, 1, 129], 0), (134, .aload_n 0, 1, [0], 0), (135, .getfield 36, 3, [3, 2, 0, 131], 0), (138, .iaload, 1, [], 0), (139, .invokestatic 86, 3, [1, 60, 1, 1, 0, 259], 0), (142, .ifCond .eq 42, 3, [184], 0), (145, .aload_n 0, 1, [0], 0), (146, .getfield 26, 3, [3, 3, 0, 132], 0), (149, .aload_n 0, 1, [0], 0), (150, .getfield 15, 3, [3, 1, 0, 130], 0), (153, .if_icmp .ge 31, 3, [184], 0), (156, .aload_n 0, 1, [0], 0), (157, .getfield 9, 3, [3, 0, 1, 129], 0), (160, .aload_n 0, 1, [0], 0), (161, .getfield 26, 3, [3, 3, 0, 132], 0), (164, .iaload, 1, [], 0), (165, .invokestatic 86, 3, [1, 60, 1, 1, 0, 259], 0), (168, .ifCond .eq 16, 3, [184], 0), (171, .aload_n 0, 1, [0], 0), (172, .dup, 1, [], 0), (173, .getfield 26, 3, [3, 3, 0, 132], 0), (176, .iconst 1, 1, [], 1), (177, .iadd, 1, [], 0), (178, .putfield 26, 3, [3, 3, 0, 132], 0), (181, .goto (-36), 3, [145], 0), (184, .return_, 1, [], 0)]
abbrev m_X3_nextToken : Nat := 57
def tb_X3_nextToken : tb_T := ((⟨"SlotMesh$Text", "nextToken", "()V"⟩, prog_5_method_13_code, 1, none), .int, k_X3_nextToken, (1, 20, 0, 0), (1, 3, 0, [255, 254, 49, 0]))
def k_X3_isWord : List am_I := [(0, .aload_n 0, 1, [0], 0), (1, .getfield 26, 3, [3, 3, 0, 132], 0), (4, .aload_n 0, 1, [0], 0), (5, .getfield 36, 3, [3, 2, 0, 131], 0), (8, .isub, 1, [], 0), (9, .aload_n 1, 1, [1], 0), (10, .invokevirtual 93, 3, [1, 161, 1, 1, 0, 271], 0), (13, .if_icmp .eq 5, 3, [18], 0), (16, .iconst 0, 1, [], 0), (17, .ireturn, 1, [], 0), (18, .iconst 0, 1, [], 0), (19, .istore_n 2, 1, [2], 0), (20, .iload_n 2, 1, [2], 0), (21, .aload_n 1, 1, [1], 0), (22, .invokevirtual 93, 3, [1, 161, 1, 1, 0, 271], 0), (25, .if_icmp .ge 30, 3, [55], 0), (28, .aload_n 0, 1, [0], 0), (29, .getfield 9, 3, [3, 0, 1, 129], 0), (32, .aload_n 0, 1, [0], 0), (33, .getfield 36, 3, [3, 2, 0, 131], 0), (36, .iload_n 2, 1, [2], 0), (37, .iadd, 1, [], 0), (38, .iaload, 1, [], 0), (39, .aload_n 1, 1, [1], 0), (40, .iload_n 2, 1, [2], 0), (41, .invokevirtual 98, 3, [1, 162, 2, 1, 0, 281], 0), (44, .if_icmp .eq 5, 3, [49], 0), (47, .iconst 0, 1, [], 0), (48, .ireturn, 1, [], 0), (49, .iinc 2 1, 3, [2], 1), (52, .goto (-32), 3, [20], 0), (55, .iconst 1, 1, [], 1), (56, .ireturn, 1, [], 0)]
abbrev m_X3_isWord : Nat := 58
def tb_X3_isWord : tb_T := ((⟨"SlotMesh$Text", "isWord", "(Ljava/lang/String;)Z"⟩, prog_5_method_14_code, 3, (some .boolean)), .boolean, k_X3_isWord, (4, 85, 0, 0), (1, 3, 1, [270, 269, 49, 2]))
def k_X3_isSmall : List am_I := [(0, .iload_n 0, 1, [0], 0), (1, .bipush 97, 2, [], 97), (3, .if_icmp .lt 13, 3, [16], 0), (6, .iload_n 0, 1, [0], 0), (7, .bipush 122, 2, [], 122), (9, .if_icmp .gt 7, 3, [16], 0), (12, .iconst 1, 1, [], 1), (13, .goto 4, 3, [17], 0), (16, .iconst 0, 1, [], 0), (17, .ireturn, 1, [], 0)]
abbrev m_X3_isSmall : Nat := 59
def tb_X3_isSmall : tb_T := ((⟨"SlotMesh$Text", "isSmall", "(I)Z"⟩, prog_5_method_15_code, 1, (some .boolean)), .boolean, k_X3_isSmall, (0, 0, 0, 0), (0, 3, 1, [258, 257, 49]))
def k_X3_isDigit : List am_I := [(0, .iload_n 0, 1, [0], 0), (1, .bipush 48, 2, [], 48), (3, .if_icmp .lt 13, 3, [16], 0), (6, .iload_n 0, 1, [0], 0), (7, .bipush 57, 2, [], 57), (9, .if_icmp .gt 7, 3, [16], 0), (12, .iconst 1, 1, [], 1), (13, .goto 4, 3, [17], 0), (16, .iconst 0, 1, [], 0), (17, .ireturn, 1, [], 0)]
abbrev m_X3_isDigit : Nat := 60
def tb_X3_isDigit : tb_T := ((⟨"SlotMesh$Text", "isDigit", "(I)Z"⟩, prog_5_method_16_code, 1, (some .boolean)), .boolean, k_X3_isDigit, (0, 0, 0, 0), (0, 3, 1, [261, 260, 49]))
def k_X4_init : List am_I := [(0, .aload_n 0, 1, [0], 0), (1, .invokespecial 1, 3, [0, 0, 1, 0, 0, 66], 0), (4, .aload_n 0, 1, [0], 0), (5, .new 7, 3, [0, 69, 70, 48], 0), (8, .dup, 1, [], 0), (9, .invokespecial 9, 3, [1, 0, 1, 2, 1, 71], 0), (12, .putfield 10, 3, [4, 0, 1, 194], 0), (15, .aload_n 0, 1, [0], 0), (16, .new 7, 3, [0, 69, 70, 48], 0), (19, .dup, 1, [], 0), (20, .invokespecial 9, 3, [1, 0, 1, 2, 1, 71], 0), (23, .putfield 16, 3, [4, 1, 1, 195], 0), (26, .aload_n 0, 1, [0], 0), (27, .new 19, 3, [3, 123, 124, 49], 0), (30, .dup, 1, [], 0), (31, .invokespecial 21, 3, [1, 45, 1, 2, 1, 125], 0), (34, .putfield 22, 3, [4, 2, 1, 196], 0), (37, .aload_n 0, 1, [0], 0), (38, .new 26, 3, [1, 148, 149, 50], 0), (41, .dup, 1, [], 0), (42, .invokespecial 28, 3, [1, 27, 1, 2, 0, 150], 0), (45, .putfield 29, 3, [4, 3, 1, 197], 0), (48, .aload_n 0, 1, [0], 0), (49, .iconst 2, 1, [], 2), (50, .anewarray 7, 3, [0, 69], 0), (53, .putfield 33, 3, [4, 4, 1, 198], 0), (56, .aload_n 0, 1, [0], 0), (57, .iconst 2, 1, [], 2), (58, .newarray .boolean, 2, [1], 0), (60, .putfield 37, 3, [4, 5, 1, 199], 0), (63, .aload_n 0, 1, [0], 0), (64, .iconst 3, 1, [], 3), (65, .anewarray 41, 3, [2, 167], 0), (68, .putfield 43, 3, [4, 6, 1, 200], 0), (71, .aload_n 0, 1, [0], 0), (72, .getfield 10, 3, [4, 0, 1, 194], 0), (75, .iconst 3, 1, [], 3), (76, .iconst 2, 1, [], 2), (77, .iconst 2, 1, [], 2), (78, .iconst 1, 1, [], 1), (79, .invokevirtual 47, 3, [1, 1, 5, 0, 0, 169], 0), (82, .iconst 0, 1, [], 0), (83, .istore_n 1, 1, [1], 0), (84, .iload_n 1, 1, [1], 0), (85, .iconst 2, 1, [], 2), (86, .if_icmp .ge 22, 3, [108], 0), (89, .aload_n 0, 1, [0], 0), (90, .getfield 33, 3, [4, 4, 1, 198], 0), (93, .iload_n 1, 1, [1], 0), (94, .new 7, 3, [0, 69, 70, 48], 0), (97, .dup, 1, [], 0), (98, .invokespecial 9, 3, [1, 0, 1, 2, 1, 71], 0), (101, .aastore, 1, [0], 0), (102, .iinc 1 1, 3, [1], 1), (105, .goto (-21), 3, [84], 0), (108, .iconst 0, 1, [], 0), (109, .istore_n 1, 1, [1], 0), (110, .iload_n 1, 1, [1], 0), (111, .iconst 3, 1, [], 3), (112, .if_icmp .ge 22, 3, [134], 0), (115, .aload_n 0, 1, [0], 0), (116, .getfield 43, 3, [4, 6, 1, 200], 0), (119, .iload_n 1, 1, [1], 0), (120, .new 41, 3, [2, 167, 176, 52], 0), (123, .dup, 1, [], 0), (124, .invokespecial 51, 3, [1, 32, 1, 2, 1, 177], 0), (127, .aastore, 1, [2], 0), (128, .iinc 1 1, 3, [1], 1), (131, .goto (-21), 3, [110], 0), (134, .return_, 1, [], 0)]
abbrev m_X4_init : Nat := 61
def tb_X4_init : tb_T := ((⟨"SlotMesh", "<init>", "()V"⟩, prog_1_method_1_code, 2, none), .int, k_X4_init, (3, 71, 97, 929), (2, 4, 0, [65, 64, 47]))
def k_X4_write : List am_I := [(0, .iload_n 1, 1, [1], 0), (1, .ifCond .lt 10, 3, [11], 0), (4, .iload_n 1, 1, [1], 0), (5, .sipush 255, 3, [], 255), (8, .if_icmp .le 6, 3, [14], 0), (11, .bipush (-3), 2, [], -3), (13, .ireturn, 1, [], 0), (14, .aload_n 0, 1, [0], 0), (15, .getfield 22, 3, [4, 2, 1, 196], 0), (18, .invokevirtual 52, 3, [1, 47, 1, 1, 0, 220], 0), (21, .ifCond .eq 6, 3, [27], 0), (24, .bipush (-5), 2, [], -5), (26, .ireturn, 1, [], 0), (27, .aload_n 0, 1, [0], 0), (28, .getfield 22, 3, [4, 2, 1, 196], 0), (31, .iload_n 1, 1, [1], 0), (32, .invokevirtual 56, 3, [1, 48, 2, 1, 0, 224], 0), (35, .ireturn, 1, [], 0)]
abbrev m_X4_write : Nat := 62
def tb_X4_write : tb_T := ((⟨"SlotMesh", "write", "(I)I"⟩, prog_1_method_2_code, 2, (some .int)), .int, k_X4_write, (2, 41, 0, 0), (1, 4, 1, [219, 217, 47, 218]))
def k_X4_erase : List am_I := [(0, .aload_n 0, 1, [0], 0), (1, .getfield 22, 3, [4, 2, 1, 196], 0), (4, .invokevirtual 60, 3, [1, 49, 1, 1, 0, 233], 0), (7, .ireturn, 1, [], 0)]
abbrev m_X4_erase : Nat := 63
def tb_X4_erase : tb_T := ((⟨"SlotMesh", "erase", "()I"⟩, prog_1_method_3_code, 1, (some .int)), .int, k_X4_erase, (1, 21, 0, 0), (1, 4, 0, [232, 230, 47, 231]))
def k_X4_fault : List am_I := [(0, .aload_n 0, 1, [0], 0), (1, .getfield 16, 3, [4, 1, 1, 195], 0), (4, .aload_n 0, 1, [0], 0), (5, .getfield 10, 3, [4, 0, 1, 194], 0), (8, .invokevirtual 64, 3, [1, 3, 2, 0, 0, 241], 0), (11, .aload_n 0, 1, [0], 0), (12, .getfield 22, 3, [4, 2, 1, 196], 0), (15, .aload_n 0, 1, [0], 0), (16, .getfield 16, 3, [4, 1, 1, 195], 0), (19, .invokevirtual 68, 3, [1, 51, 2, 1, 0, 248], 0), (22, .ireturn, 1, [], 0)]
abbrev m_X4_fault : Nat := 64
def tb_X4_fault : tb_T := ((⟨"SlotMesh", "fault", "()I"⟩, prog_1_method_4_code, 1, (some .int)), .int, k_X4_fault, (7, 149, 0, 0), (1, 4, 0, [240, 238, 47, 239]))
def k_X4_mesh : List am_I := [(0, .aload_n 0, 1, [0], 0), (1, .getfield 16, 3, [4, 1, 1, 195], 0), (4, .aload_n 0, 1, [0], 0), (5, .getfield 10, 3, [4, 0, 1, 194], 0), (8, .invokevirtual 64, 3, [1, 3, 2, 0, 0, 241], 0), (11, .aload_n 0, 1, [0], 0), (12, .getfield 22, 3, [4, 2, 1, 196], 0), (15, .aload_n 0, 1, [0], 0), (16, .getfield 16, 3, [4, 1, 1, 195], 0), (19, .invokevirtual 68, 3, [1, 51, 2, 1, 0, 248], 0), (22, .iconst (-1), 1, [], -1), (23, .if_icmp .eq 6, 3, [29], 0), (26, .bipush (-4), 2, [], -4), (28, .ireturn, 1, [], 0), (29, .aload_n 0, 1, [0], 0), (30, .getfield 10, 3, [4, 0, 1, 194], 0), (33, .aload_n 0, 1, [0], 0), (34, .getfield 16, 3, [4, 1, 1, 195], 0), (37, .invokevirtual 64, 3, [1, 3, 2, 0, 0, 241], 0), (40, .aload_n 0, 1, [0], 0), (41, .getfield 10, 3, [4, 0, 1, 194], 0), (44, .invokevirtual 72, 3, [1, 2, 1, 0, 0, 348], 0), (47, .aload_n 0, 1, [0], 0), (48, .getfield 29, 3, [4, 3, 1, 197], 0), (51, .invokevirtual 75, 3, [1, 29, 1, 0, 0, 352], 0), (54, .iconst 0, 1, [], 0), (55, .istore_n 1, 1, [1], 0), (56, .iload_n 1, 1, [1], 0), (57, .iconst 2, 1, [], 2), (58, .if_icmp .ge 16, 3, [74], 0), (61, .aload_n 0, 1, [0], 0), (62, .getfield 37, 3, [4, 5, 1, 199], 0), (65, .iload_n 1, 1, [1], 0), (66, .iconst 0, 1, [], 0), (67, .bastore, 1, [], 0), (68, .iinc 1 1, 3, [1], 1), (71, .goto (-15), 3, [56], 0), (74, .iconst 0, 1, [], 0), (75, .istore_n 1, 1, [1], 0), (76, .iload_n 1, 1, [1], 0), (77, .iconst 3, 1, [], 3), (78, .if_icmp .ge 18, 3, [96], 0), (81, .aload_n 0, 1, [0], 0), (82, .getfield 43, 3, [4, 6, 1, 200], 0), (85, .iload_n 1, 1, [1], 0), (86, .aaload, 1, [2], 0), (87, .invokevirtual 78, 3, [1, 34, 1, 0, 0, 356], 0), (90, .iinc 1 1, 3, [1], 1), (93, .goto (-17), 3, [76], 0), (96, .aload_n 0, 1, [0], 0), (97, .getfield 22, 3, [4, 2, 1, 196], 0), (100, .invokevirtual 60, 3, [1, 49, 1, 1, 0, 233], 0), (103, .pop, 1, [], 0), (104, .aload_n 0, 1, [0], 0), (105, .getfield 22, 3, [4, 2, 1, 196], 0), (108, .invokevirtual 81, 3, [1, 50, 1, 1, 0, 360], 0), (111, .ireturn, 1, [], 0)]
abbrev m_X4_mesh : Nat := 65
def tb_X4_mesh : tb_T := ((⟨"SlotMesh", "mesh", "()I"⟩, prog_1_method_5_code, 2, (some .int)), .int, k_X4_mesh, (7, 149, 0, 0), (1, 4, 0, [347, 345, 47, 346]))
def k_X4_station : List am_I := [(0, .aload_n 0, 1, [0], 0), (1, .getfield 10, 3, [4, 0, 1, 194], 0), (4, .iload_n 1, 1, [1], 0), (5, .invokevirtual 84, 3, [1, 4, 2, 1, 0, 368], 0), (8, .ifCond .ne 6, 3, [14], 0), (11, .bipush (-2), 2, [], -2), (13, .ireturn, 1, [], 0), (14, .iload_n 2, 1, [2], 0), (15, .tableswitch 106 0 5 #[37, 47, 57, 67, 76, 86], 37, [121, 0, 52, 1, 62, 2, 72, 3, 82, 4, 91, 5, 101], 0), (52, .aload_n 0, 1, [0], 0), (53, .getfield 10, 3, [4, 0, 1, 194], 0), (56, .getfield 88, 3, [0, 5, 1, 87], 0), (59, .iload_n 1, 1, [1], 0), (60, .iaload, 1, [], 0), (61, .ireturn, 1, [], 0), (62, .aload_n 0, 1, [0], 0), (63, .getfield 10, 3, [4, 0, 1, 194], 0), (66, .getfield 92, 3, [0, 6, 1, 90], 0), (69, .iload_n 1, 1, [1], 0), (70, .iaload, 1, [], 0), (71, .ireturn, 1, [], 0), (72, .aload_n 0, 1, [0], 0), (73, .getfield 10, 3, [4, 0, 1, 194], 0), (76, .getfield 95, 3, [0, 7, 1, 93], 0), (79, .iload_n 1, 1, [1], 0), (80, .iaload, 1, [], 0), (81, .ireturn, 1, [], 0), (82, .aload_n 0, 1, [0], 0), (83, .getfield 10, 3, [4, 0, 1, 194], 0), (86, .iload_n 1, 1, [1], 0), (87, .invokevirtual 98, 3, [1, 10, 2, 1, 0, 372], 0), (90, .ireturn, 1, [], 0), (91, .aload_n 0, 1, [0], 0), (92, .getfield 10, 3, [4, 0, 1, 194], 0), (95, .getfield 101, 3, [0, 8, 1, 95], 0), (98, .iload_n 1, 1, [1], 0), (99, .iaload, 1, [], 0), (100, .ireturn, 1, [], 0), (101, .aload_n 0, 1, [0], 0), (102, .getfield 10, 3, [4, 0, 1, 194], 0), (105, .invokevirtual 104, 3, [1, 14, 1, 1, 0, 379], 0), (108, .iload_n 1, 1, [1], 0), (109, .invokestatic 107, 3, [1, 91, 2, 1, 0, 389], 0), (112, .ifCond .eq 7, 3, [119], 0), (115, .iconst 1, 1, [], 1), (116, .goto 4, 3, [120], 0), (119, .iconst 0, 1, [], 0), (120, .ireturn, 1, [], 0), (121, .bipush (-3), 2, [], -3), (123, .ireturn, 1, [], 0)]
abbrev m_X4_station : Nat := 66
def tb_X4_station : tb_T := ((⟨"SlotMesh", "station", "(II)I"⟩, prog_1_method_6_code, 3, (some .int)), .int, k_X4_station, (2, 44, 0, 0), (1, 4, 2, [367, 365, 47, 366]))
def k_X4_slot : List am_I := [(0, .aload_n 0, 1, [0], 0), (1, .getfield 10, 3, [4, 0, 1, 194], 0), (4, .iload_n 1, 1, [1], 0), (5, .invokevirtual 111, 3, [1, 5, 2, 1, 0, 394], 0), (8, .ifCond .ne 6, 3, [14], 0), (11, .bipush (-2), 2, [], -2), (13, .ireturn, 1, [], 0), (14, .iload_n 2, 1, [2], 0), (15, .tableswitch 54 0 2 #[25, 34, 43], 25, [69, 0, 40, 1, 49, 2, 58], 0), (40, .aload_n 0, 1, [0], 0), (41, .getfield 10, 3, [4, 0, 1, 194], 0), (44, .iload_n 1, 1, [1], 0), (45, .invokevirtual 114, 3, [1, 13, 2, 1, 0, 398], 0), (48, .ireturn, 1, [], 0), (49, .aload_n 0, 1, [0], 0), (50, .getfield 10, 3, [4, 0, 1, 194], 0), (53, .iload_n 1, 1, [1], 0), (54, .invokevirtual 117, 3, [1, 18, 2, 1, 0, 402], 0), (57, .ireturn, 1, [], 0), (58, .aload_n 0, 1, [0], 0), (59, .getfield 10, 3, [4, 0, 1, 194], 0), (62, .iconst 1, 1, [], 1), (63, .iload_n 1, 1, [1], 0), (64, .ishl, 1, [], 0), (65, .invokevirtual 120, 3, [1, 17, 2, 1, 0, 413], 0), (68, .ireturn, 1, [], 0), (69, .bipush (-3), 2, [], -3), (71, .ireturn, 1, [], 0)]
abbrev m_X4_slot : Nat := 67
def tb_X4_slot : tb_T := ((⟨"SlotMesh", "slot", "(II)I"⟩, prog_1_method_7_code, 3, (some .int)), .int, k_X4_slot, (4, 89, 0, 0), (1, 4, 2, [393, 391, 47, 392]))
def k_X4_cycle : List am_I := [(0, .aload_n 0, 1, [0], 0), (1, .getfield 10, 3, [4, 0, 1, 194], 0), (4, .iload_n 1, 1, [1], 0), (5, .invokevirtual 111, 3, [1, 5, 2, 1, 0, 394], 0), (8, .ifCond .ne 6, 3, [14], 0), (11, .bipush (-2), 2, [], -2), (13, .ireturn, 1, [], 0), (14, .aload_n 0, 1, [0], 0), (15, .getfield 29, 3, [4, 3, 1, 197], 0), (18, .aload_n 0, 1, [0], 0), (19, .getfield 10, 3, [4, 0, 1, 194], 0), (22, .invokevirtual 123, 3, [1, 30, 2, 0, 0, 421], 0), (25, .aload_n 0, 1, [0], 0), (26, .getfield 10, 3, [4, 0, 1, 194], 0), (29, .iload_n 1, 1, [1], 0), (30, .invokevirtual 126, 3, [1, 20, 2, 0, 0, 429], 0), (33, .aload_n 0, 1, [0], 0), (34, .getfield 10, 3, [4, 0, 1, 194], 0), (37, .getfield 130, 3, [0, 9, 1, 97], 0), (40, .iconst 4, 1, [], 4), (41, .iaload, 1, [], 0), (42, .ireturn, 1, [], 0)]
abbrev m_X4_cycle : Nat := 68
def tb_X4_cycle : tb_T := ((⟨"SlotMesh", "cycle", "(I)I"⟩, prog_1_method_8_code, 2, (some .int)), .int, k_X4_cycle, (5, 142, 0, 0), (1, 4, 1, [420, 418, 47, 419]))
def k_X4_frame : List am_I := [(0, .iload_n 1, 1, [1], 0), (1, .iconst 1, 1, [], 1), (2, .if_icmp .lt 9, 3, [11], 0), (5, .iload_n 1, 1, [1], 0), (6, .bipush 12, 2, [], 12), (8, .if_icmp .le 6, 3, [14], 0), (11, .bipush (-3), 2, [], -3), (13, .ireturn, 1, [], 0), (14, .aload_n 0, 1, [0], 0), (15, .getfield 29, 3, [4, 3, 1, 197], 0), (18, .aload_n 0, 1, [0], 0), (19, .getfield 10, 3, [4, 0, 1, 194], 0), (22, .invokevirtual 123, 3, [1, 30, 2, 0, 0, 421], 0), (25, .iconst 0, 1, [], 0), (26, .istore_n 2, 1, [2], 0), (27, .iload_n 2, 1, [2], 0), (28, .iload_n 1, 1, [1], 0), (29, .if_icmp .ge 16, 3, [45], 0), (32, .aload_n 0, 1, [0], 0), (33, .getfield 10, 3, [4, 0, 1, 194], 0), (36, .invokevirtual 133, 3, [1, 19, 1, 0, 0, 463], 0), (39, .iinc 2 1, 3, [2], 1), (42, .goto (-15), 3, [27], 0), (45, .aload_n 0, 1, [0], 0), (46, .getfield 10, 3, [4, 0, 1, 194], 0), (49, .invokevirtual 104, 3, [1, 14, 1, 1, 0, 379], 0), (52, .invokestatic 136, 3, [1, 160, 1, 1, 0, 468], 0), (55, .ireturn, 1, [], 0)]
abbrev m_X4_frame : Nat := 69
def tb_X4_frame : tb_T := ((⟨"SlotMesh", "frame", "(I)I"⟩, prog_1_method_9_code, 3, (some .int)), .int, k_X4_frame, (6, 142, 0, 0), (1, 4, 1, [462, 460, 47, 461]))
def k_X4_give : List am_I := [(0, .aload_n 0, 1, [0], 0), (1, .getfield 10, 3, [4, 0, 1, 194], 0), (4, .iload_n 1, 1, [1], 0), (5, .invokevirtual 84, 3, [1, 4, 2, 1, 0, 368], 0), (8, .ifCond .eq 14, 3, [22], 0), (11, .aload_n 0, 1, [0], 0), (12, .getfield 10, 3, [4, 0, 1, 194], 0), (15, .iload_n 2, 1, [2], 0), (16, .invokevirtual 111, 3, [1, 5, 2, 1, 0, 394], 0), (19, .ifCond .ne 6, 3, [25], 0), (22, .bipush (-2), 2, [], -2), (24, .ireturn, 1, [], 0), (25, .aload_n 0, 1, [0], 0), (26, .getfield 10, 3, [4, 0, 1, 194], 0), (29, .getfield 101, 3, [0, 8, 1, 95], 0), (32, .iload_n 1, 1, [1], 0), (33, .iaload, 1, [], 0), (34, .iload_n 2, 1, [2], 0), (35, .invokestatic 107, 3, [1, 91, 2, 1, 0, 389], 0), (38, .ifCond .ne 6, 3, [44], 0), (41, .bipush (-4), 2, [], -4), (43, .ireturn, 1, [], 0), (44, .aload_n 0, 1, [0], 0), (45, .getfield 29, 3, [4, 3, 1, 197], 0), (48, .aload_n 0, 1, [0], 0), (49, .getfield 10, 3, [4, 0, 1, 194], 0), (52, .invokevirtual 123, 3, [1, 30, 2, 0, 0, 421], 0), (55, .aload_n 0, 1, [0], 0), (56, .getfield 10, 3, [4, 0, 1, 194], 0), (59, .getfield 101, 3, [0, 8, 1, 95], 0), (62, .iload_n 1, 1, [1], 0), (63, .dup2, 1, [], 0), (64, .iaload, 1, [], 0), (65, .iconst 1, 1, [], 1), (66, .iload_n 2, 1, [2], 0), (67, .ishl, 1, [], 0), (68, .iconst (-1), 1, [], -1), (69, .ixor, 1, [], 0), (70, .iand, 1, [], 0), (71, .iastore, 1, [], 0), (72, .aload_n 0, 1, [0], 0), (73, .getfield 10, 3, [4, 0, 1, 194], 0), (76, .getfield 101, 3, [0, 8, 1, 95], 0), (79, .iload_n 1, 1, [1], 0), (80, .iaload, 1, [], 0), (81, .invokestatic 136, 3, [1, 160, 1, 1, 0, 468], 0), (84, .ireturn, 1, [], 0)]
abbrev m_X4_give : Nat := 70
def tb_X4_give : tb_T := ((⟨"SlotMesh", "give", "(II)I"⟩, prog_1_method_10_code, 3, (some .int)), .int, k_X4_give, (3, 142, 0, 0), (1, 4, 2, [472, 470, 47, 471]))
def k_X4_join : List am_I := [(0, .aload_n 0, 1, [0], 0), (1, .getfield 10, 3, [4, 0, 1, 194], 0), (4, .iload_n 1, 1, [1], 0), (5, .iload_n 2, 1, [2], 0), (6, .invokevirtual 141, 3, [1, 6, 3, 1, 0, 477], 0), (9, .ifCond .ne 6, 3, [15], 0), (12, .bipush (-2), 2, [], -2), (14, .ireturn, 1, [], 0), (15, .aload_n 0, 1, [0], 0), (16, .getfield 10, 3, [4, 0, 1, 194], 0), (19, .getfield 95, 3, [0, 7, 1, 93], 0), (22, .iload_n 1, 1, [1], 0), (23, .iaload, 1, [], 0), (24, .iload_n 2, 1, [2], 0), (25, .invokestatic 107, 3, [1, 91, 2, 1, 0, 389], 0), (28, .ifCond .eq 6, 3, [34], 0), (31, .bipush (-4), 2, [], -4), (33, .ireturn, 1, [], 0), (34, .aload_n 0, 1, [0], 0), (35, .getfield 29, 3, [4, 3, 1, 197], 0), (38, .aload_n 0, 1, [0], 0), (39, .getfield 10, 3, [4, 0, 1, 194], 0), (42, .invokevirtual 123, 3, [1, 30, 2, 0, 0, 421], 0), (45, .aload_n 0, 1, [0], 0), (46, .getfield 10, 3, [4, 0, 1, 194], 0), (49, .iload_n 1, 1, [1], 0), (50, .iload_n 2, 1, [2], 0), (51, .invokevirtual 144, 3, [1, 7, 3, 0, 0, 482], 0), (54, .aload_n 0, 1, [0], 0), (55, .getfield 10, 3, [4, 0, 1, 194], 0), (58, .invokevirtual 148, 3, [1, 16, 1, 1, 0, 483], 0), (61, .ireturn, 1, [], 0)]
abbrev m_X4_join : Nat := 71
def tb_X4_join : tb_T := ((⟨"SlotMesh", "join", "(II)I"⟩, prog_1_method_11_code, 3, (some .int)), .int, k_X4_join, (4, 142, 0, 0), (1, 4, 2, [476, 474, 47, 475]))
def k_X4_part : List am_I := [(0, .aload_n 0, 1, [0], 0), (1, .getfield 10, 3, [4, 0, 1, 194], 0), (4, .iload_n 1, 1, [1], 0), (5, .iload_n 2, 1, [2], 0), (6, .invokevirtual 141, 3, [1, 6, 3, 1, 0, 477], 0), (9, .ifCond .ne 6, 3, [15], 0), (12, .bipush (-2), 2, [], -2), (14, .ireturn, 1, [], 0), (15, .aload_n 0, 1, [0], 0), (16, .getfield 10, 3, [4, 0, 1, 194], 0), (19, .getfield 95, 3, [0, 7, 1, 93], 0), (22, .iload_n 1, 1, [1], 0), (23, .iaload, 1, [], 0), (24, .iload_n 2, 1, [2], 0), (25, .invokestatic 107, 3, [1, 91, 2, 1, 0, 389], 0), (28, .ifCond .ne 6, 3, [34], 0), (31, .bipush (-4), 2, [], -4), (33, .ireturn, 1, [], 0), (34, .aload_n 0, 1, [0], 0), (35, .getfield 29, 3, [4, 3, 1, 197], 0), (38, .aload_n 0, 1, [0], 0), (39, .getfield 10, 3, [4, 0, 1, 194], 0), (42, .invokevirtual 123, 3, [1, 30, 2, 0, 0, 421], 0), (45, .aload_n 0, 1, [0], 0), (46, .getfield 10, 3, [4, 0, 1, 194], 0), (49, .iload_n 1, 1, [1], 0), (50, .iload_n 2, 1, [2], 0), (51, .invokevirtual 151, 3, [1, 8, 3, 0, 0, 492], 0), (54, .aload_n 0, 1, [0], 0), (55, .getfield 10, 3, [4, 0, 1, 194], 0), (58, .invokevirtual 148, 3, [1, 16, 1, 1, 0, 483], 0), (61, .ireturn, 1, [], 0)]
abbrev m_X4_part : Nat := 72
def tb_X4_part : tb_T := ((⟨"SlotMesh", "part", "(II)I"⟩, prog_1_method_12_code, 3, (some .int)), .int, k_X4_part, (4, 142, 0, 0), (1, 4, 2, [491, 489, 47, 490]))
def k_X4_undo : List am_I := [(0, .aload_n 0, 1, [0], 0), (1, .getfield 29, 3, [4, 3, 1, 197], 0), (4, .invokevirtual 154, 3, [1, 28, 1, 1, 0, 500], 0), (7, .ifCond .ne 6, 3, [13], 0), (10, .bipush (-4), 2, [], -4), (12, .ireturn, 1, [], 0), (13, .aload_n 0, 1, [0], 0), (14, .getfield 29, 3, [4, 3, 1, 197], 0), (17, .aload_n 0, 1, [0], 0), (18, .getfield 10, 3, [4, 0, 1, 194], 0), (21, .invokevirtual 157, 3, [1, 31, 2, 0, 0, 504], 0), (24, .aload_n 0, 1, [0], 0), (25, .getfield 29, 3, [4, 3, 1, 197], 0), (28, .invokevirtual 154, 3, [1, 28, 1, 1, 0, 500], 0), (31, .ireturn, 1, [], 0)]
abbrev m_X4_undo : Nat := 73
def tb_X4_undo : tb_T := ((⟨"SlotMesh", "undo", "()I"⟩, prog_1_method_13_code, 1, (some .int)), .int, k_X4_undo, (3, 142, 0, 0), (1, 4, 0, [499, 497, 47, 498]))
def k_X4_keep : List am_I := [(0, .iload_n 1, 1, [1], 0), (1, .ifCond .lt 8, 3, [9], 0), (4, .iload_n 1, 1, [1], 0), (5, .iconst 2, 1, [], 2), (6, .if_icmp .lt 6, 3, [12], 0), (9, .bipush (-2), 2, [], -2), (11, .ireturn, 1, [], 0), (12, .aload_n 0, 1, [0], 0), (13, .getfield 33, 3, [4, 4, 1, 198], 0), (16, .iload_n 1, 1, [1], 0), (17, .aaload, 1, [0], 0), (18, .aload_n 0, 1, [0], 0), (19, .getfield 10, 3, [4, 0, 1, 194], 0), (22, .invokevirtual 64, 3, [1, 3, 2, 0, 0, 241], 0), (25, .aload_n 0, 1, [0], 0), (26, .getfield 37, 3, [4, 5, 1, 199], 0), (29, .iload_n 1, 1, [1], 0), (30, .iconst 1, 1, [], 1), (31, .bastore, 1, [], 0), (32, .aload_n 0, 1, [0], 0), (33, .getfield 10, 3, [4, 0, 1, 194], 0), (36, .invokevirtual 104, 3, [1, 14, 1, 1, 0, 379], 0), (39, .invokestatic 136, 3, [1, 160, 1, 1, 0, 468], 0), (42, .ireturn, 1, [], 0)]
abbrev m_X4_keep : Nat := 74
def tb_X4_keep : tb_T := ((⟨"SlotMesh", "keep", "(I)I"⟩, prog_1_method_14_code, 2, (some .int)), .int, k_X4_keep, (2, 121, 0, 0), (1, 4, 1, [511, 509, 47, 510]))
def k_X4_back : List am_I := [(0, .iload_n 1, 1, [1], 0), (1, .ifCond .lt 8, 3, [9], 0), (4, .iload_n 1, 1, [1], 0), (5, .iconst 2, 1, [], 2), (6, .if_icmp .lt 6, 3, [12], 0), (9, .bipush (-2), 2, [], -2), (11, .ireturn, 1, [], 0), (12, .aload_n 0, 1, [0], 0), (13, .getfield 37, 3, [4, 5, 1, 199], 0), (16, .iload_n 1, 1, [1], 0), (17, .baload, 1, [], 0), (18, .ifCond .ne 6, 3, [24], 0), (21, .bipush (-4), 2, [], -4), (23, .ireturn, 1, [], 0), (24, .aload_n 0, 1, [0], 0), (25, .getfield 10, 3, [4, 0, 1, 194], 0), (28, .aload_n 0, 1, [0], 0), (29, .getfield 33, 3, [4, 4, 1, 198], 0), (32, .iload_n 1, 1, [1], 0), (33, .aaload, 1, [0], 0), (34, .invokevirtual 64, 3, [1, 3, 2, 0, 0, 241], 0), (37, .aload_n 0, 1, [0], 0), (38, .getfield 29, 3, [4, 3, 1, 197], 0), (41, .invokevirtual 75, 3, [1, 29, 1, 0, 0, 352], 0), (44, .aload_n 0, 1, [0], 0), (45, .getfield 10, 3, [4, 0, 1, 194], 0), (48, .invokevirtual 104, 3, [1, 14, 1, 1, 0, 379], 0), (51, .invokestatic 136, 3, [1, 160, 1, 1, 0, 468], 0), (54, .ireturn, 1, [], 0)]
abbrev m_X4_back : Nat := 75
def tb_X4_back : tb_T := ((⟨"SlotMesh", "back", "(I)I"⟩, prog_1_method_15_code, 2, (some .int)), .int, k_X4_back, (2, 121, 0, 0), (1, 4, 1, [515, 513, 47, 514]))
def k_X4_phase : List am_I := [(0, .iload_n 1, 1, [1], 0), (1, .ifCond .lt 8, 3, [9], 0), (4, .iload_n 1, 1, [1], 0), (5, .iconst 5, 1, [], 5), (6, .if_icmp .lt 6, 3, [12], 0), (9, .bipush (-3), 2, [], -3), (11, .ireturn, 1, [], 0), (12, .aload_n 0, 1, [0], 0), (13, .getfield 10, 3, [4, 0, 1, 194], 0), (16, .getfield 160, 3, [0, 4, 0, 85], 0), (19, .ifCond .eq 15, 3, [34], 0), (22, .aload_n 0, 1, [0], 0), (23, .getfield 10, 3, [4, 0, 1, 194], 0), (26, .getfield 130, 3, [0, 9, 1, 97], 0), (29, .iload_n 1, 1, [1], 0), (30, .iaload, 1, [], 0), (31, .goto 5, 3, [36], 0), (34, .bipush (-4), 2, [], -4), (36, .ireturn, 1, [], 0)]
abbrev m_X4_phase : Nat := 76
def tb_X4_phase : tb_T := ((⟨"SlotMesh", "phase", "(I)I"⟩, prog_1_method_16_code, 2, (some .int)), .int, k_X4_phase, (0, 0, 0, 0), (1, 4, 1, [519, 517, 47, 518]))
def k_X4_after : List am_I := [(0, .aload_n 0, 1, [0], 0), (1, .getfield 16, 3, [4, 1, 1, 195], 0), (4, .aload_n 0, 1, [0], 0), (5, .getfield 10, 3, [4, 0, 1, 194], 0), (8, .invokevirtual 64, 3, [1, 3, 2, 0, 0, 241], 0), (11, .iconst 0, 1, [], 0), (12, .istore_n 1, 1, [1], 0), (13, .iload_n 1, 1, [1], 0), (14, .bipush 12, 2, [], 12), (16, .if_icmp .ge 28, 3, [44], 0), (19, .aload_n 0, 1, [0], 0), (20, .getfield 16, 3, [4, 1, 1, 195], 0), (23, .invokevirtual 164, 3, [1, 15, 1, 1, 0, 524], 0), (26, .ifCond .eq 5, 3, [31], 0), (29, .iload_n 1, 1, [1], 0), (30, .ireturn, 1, [], 0), (31, .aload_n 0, 1, [0], 0), (32, .getfield 16, 3, [4, 1, 1, 195], 0), (35, .invokevirtual 133, 3, [1, 19, 1, 0, 0, 463], 0), (38, .iinc 1 1, 3, [1], 1), (41, .goto (-28), 3, [13], 0), (44, .aload_n 0, 1, [0], 0), (45, .getfield 16, 3, [4, 1, 1, 195], 0), (48, .invokevirtual 164, 3, [1, 15, 1, 1, 0, 524], 0), (51, .ifCond .eq 8, 3, [59], 0), (54, .bipush 12, 2, [], 12), (56, .goto 4, 3, [60], 0), (59, .iconst (-1), 1, [], -1), (60, .ireturn, 1, [], 0)]
abbrev m_X4_after : Nat := 77
def tb_X4_after : tb_T := ((⟨"SlotMesh", "after", "()I"⟩, prog_1_method_17_code, 2, (some .int)), .int, k_X4_after, (6, 140, 0, 0), (1, 4, 0, [523, 521, 47, 522]))
def k_X4_spoils : List am_I := [(0, .aload_n 0, 1, [0], 0), (1, .getfield 10, 3, [4, 0, 1, 194], 0), (4, .iload_n 1, 1, [1], 0), (5, .iload_n 2, 1, [2], 0), (6, .invokevirtual 141, 3, [1, 6, 3, 1, 0, 477], 0), (9, .ifCond .ne 6, 3, [15], 0), (12, .bipush (-2), 2, [], -2), (14, .ireturn, 1, [], 0), (15, .aload_n 0, 1, [0], 0), (16, .getfield 10, 3, [4, 0, 1, 194], 0), (19, .getfield 95, 3, [0, 7, 1, 93], 0), (22, .iload_n 1, 1, [1], 0), (23, .iaload, 1, [], 0), (24, .iload_n 2, 1, [2], 0), (25, .invokestatic 107, 3, [1, 91, 2, 1, 0, 389], 0), (28, .ifCond .eq 6, 3, [34], 0), (31, .bipush (-4), 2, [], -4), (33, .ireturn, 1, [], 0), (34, .aload_n 0, 1, [0], 0), (35, .getfield 16, 3, [4, 1, 1, 195], 0), (38, .aload_n 0, 1, [0], 0), (39, .getfield 10, 3, [4, 0, 1, 194], 0), (42, .invokevirtual 64, 3, [1, 3, 2, 0, 0, 241], 0), (45, .aload_n 0, 1, [0], 0), (46, .getfield 16, 3, [4, 1, 1, 195], 0), (49, .iload_n 1, 1, [1], 0), (50, .iload_n 2, 1, [2], 0), (51, .invokevirtual 144, 3, [1, 7, 3, 0, 0, 482], 0), (54, .aload_n 0, 1, [0], 0), (55, .getfield 16, 3, [4, 1, 1, 195], 0), (58, .invokevirtual 148, 3, [1, 16, 1, 1, 0, 483], 0), (61, .aload_n 0, 1, [0], 0), (62, .getfield 10, 3, [4, 0, 1, 194], 0), (65, .invokevirtual 148, 3, [1, 16, 1, 1, 0, 483], 0), (68, .isub, 1, [], 0), (69, .ireturn, 1, [], 0)]
abbrev m_X4_spoils : Nat := 78
def tb_X4_spoils : tb_T := ((⟨"SlotMesh", "spoils", "(II)I"⟩, prog_1_method_18_code, 3, (some .int)), .int, k_X4_spoils, (4, 121, 0, 0), (1, 4, 2, [531, 529, 47, 530]))
def k_X4_fewest : List am_I := [(0, .aload_n 0, 1, [0], 0), (1, .getfield 16, 3, [4, 1, 1, 195], 0), (4, .aload_n 0, 1, [0], 0), (5, .getfield 10, 3, [4, 0, 1, 194], 0), (8, .invokevirtual 64, 3, [1, 3, 2, 0, 0, 241], 0), (11, .aload_n 0, 1, [0], 0), (12, .getfield 16, 3, [4, 1, 1, 195], 0), (15, .invokevirtual 167, 3, [1, 25, 1, 1, 0, 536], 0), (18, .ireturn, 1, [], 0)]
abbrev m_X4_fewest : Nat := 79
def tb_X4_fewest : tb_T := ((⟨"SlotMesh", "fewest", "()I"⟩, prog_1_method_19_code, 1, (some .int)), .int, k_X4_fewest, (4, 121, 0, 0), (1, 4, 0, [535, 533, 47, 534]))
def k_X4_hops : List am_I := [(0, .aload_n 0, 1, [0], 0), (1, .getfield 10, 3, [4, 0, 1, 194], 0), (4, .iload_n 1, 1, [1], 0), (5, .iload_n 2, 1, [2], 0), (6, .invokevirtual 141, 3, [1, 6, 3, 1, 0, 477], 0), (9, .ifCond .ne 6, 3, [15], 0), (12, .bipush (-2), 2, [], -2), (14, .ireturn, 1, [], 0), (15, .iconst 1, 1, [], 1), (16, .iload_n 1, 1, [1], 0), (17, .ishl, 1, [], 0), (18, .istore_n 3, 1, [3], 0), (19, .iconst 1, 1, [], 1), (20, .istore 4, 2, [4], 0), (22, .iload 4, 2, [4], 0), (24, .bipush 8, 2, [], 8), (26, .if_icmp .ge 32, 3, [58], 0), (29, .iload_n 3, 1, [3], 0), (30, .aload_n 0, 1, [0], 0), (31, .getfield 10, 3, [4, 0, 1, 194], 0), (34, .iload_n 3, 1, [3], 0), (35, .iconst 1, 1, [], 1), (36, .invokevirtual 170, 3, [1, 11, 3, 1, 0, 548], 0), (39, .ior, 1, [], 0), (40, .istore_n 3, 1, [3], 0), (41, .iload_n 3, 1, [3], 0), (42, .iload_n 2, 1, [2], 0), (43, .invokestatic 107, 3, [1, 91, 2, 1, 0, 389], 0), (46, .ifCond .eq 6, 3, [52], 0), (49, .iload 4, 2, [4], 0), (51, .ireturn, 1, [], 0), (52, .iinc 4 1, 3, [4], 1), (55, .goto (-33), 3, [22], 0), (58, .iconst (-1), 1, [], -1), (59, .ireturn, 1, [], 0)]
abbrev m_X4_hops : Nat := 80
def tb_X4_hops : tb_T := ((⟨"SlotMesh", "hops", "(II)I"⟩, prog_1_method_20_code, 5, (some .int)), .int, k_X4_hops, (2, 44, 0, 0), (1, 4, 2, [547, 545, 47, 546]))
def k_X4_tally : List am_I := [(0, .iload_n 1, 1, [1], 0), (1, .invokestatic 174, 3, [1, 89, 1, 1, 0, 553], 0), (4, .ifCond .ne 6, 3, [10], 0), (7, .bipush (-2), 2, [], -2), (9, .ireturn, 1, [], 0), (10, .iload_n 2, 1, [2], 0), (11, .ifCond .lt 31, 3, [42], 0), (14, .iload_n 2, 1, [2], 0), (15, .iconst 3, 1, [], 3), (16, .if_icmp .gt 26, 3, [42], 0), (19, .iload_n 3, 1, [3], 0), (20, .invokestatic 177, 3, [1, 90, 1, 1, 0, 556], 0), (23, .ifCond .eq 19, 3, [42], 0), (26, .iload 4, 2, [4], 0), (28, .invokestatic 177, 3, [1, 90, 1, 1, 0, 556], 0), (31, .ifCond .eq 11, 3, [42], 0), (34, .iload 5, 2, [5], 0), (36, .invokestatic 177, 3, [1, 90, 1, 1, 0, 556], 0), (39, .ifCond .ne 6, 3, [45], 0), (42, .bipush (-3), 2, [], -3), (44, .ireturn, 1, [], 0), (45, .aload_n 0, 1, [0], 0), (46, .getfield 43, 3, [4, 6, 1, 200], 0), (49, .iload_n 1, 1, [1], 0), (50, .aaload, 1, [2], 0), (51, .iload_n 2, 1, [2], 0), (52, .iload_n 3, 1, [3], 0), (53, .iload 4, 2, [4], 0), (55, .iload 5, 2, [5], 0), (57, .invokevirtual 180, 3, [1, 33, 5, 0, 0, 559], 0), (60, .aload_n 0, 1, [0], 0), (61, .getfield 43, 3, [4, 6, 1, 200], 0), (64, .iload_n 1, 1, [1], 0), (65, .aaload, 1, [2], 0), (66, .getfield 181, 3, [2, 1, 0, 183], 0), (69, .ireturn, 1, [], 0)]
abbrev m_X4_tally : Nat := 81
def tb_X4_tally : tb_T := ((⟨"SlotMesh", "tally", "(IIIII)I"⟩, prog_1_method_21_code, 6, (some .int)), .int, k_X4_tally, (1, 24, 0, 0), (1, 4, 5, [552, 550, 47, 551]))
def k_X4_append : List am_I := [(0, .iload_n 1, 1, [1], 0), (1, .invokestatic 174, 3, [1, 89, 1, 1, 0, 553], 0), (4, .ifCond .eq 10, 3, [14], 0), (7, .iload_n 2, 1, [2], 0), (8, .invokestatic 174, 3, [1, 89, 1, 1, 0, 553], 0), (11, .ifCond .ne 6, 3, [17], 0), (14, .bipush (-2), 2, [], -2), (16, .ireturn, 1, [], 0), (17, .aload_n 0, 1, [0], 0), (18, .getfield 43, 3, [4, 6, 1, 200], 0), (21, .iload_n 1, 1, [1], 0), (22, .aaload, 1, [2], 0), (23, .getfield 184, 3, [2, 2, 0, 185], 0), (26, .ifCond .ne 15, 3, [41], 0), (29, .aload_n 0, 1, [0], 0), (30, .getfield 43, 3, [4, 6, 1, 200], 0), (33, .iload_n 2, 1, [2], 0), (34, .aaload, 1, [2], 0), (35, .getfield 184, 3, [2, 2, 0, 185], 0), (38, .ifCond .eq 6, 3, [44], 0), (41, .bipush (-11), 2, [], -11), (43, .ireturn, 1, [], 0), (44, .aload_n 0, 1, [0], 0), (45, .getfield 43, 3, [4, 6, 1, 200], 0), (48, .iload_n 1, 1, [1], 0), (49, .aaload, 1, [2], 0), (50, .getfield 181, 3, [2, 1, 0, 183], 0), (53, .aload_n 0, 1, [0], 0), (54, .getfield 43, 3, [4, 6, 1, 200], 0), (57, .iload_n 2, 1, [2], 0), (58, .aaload, 1, [2], 0), (59, .getfield 181, 3, [2, 1, 0, 183], 0), (62, .iadd, 1, [], 0), (63, .bipush 8, 2, [], 8), (65, .if_icmp .le 6, 3, [71], 0), (68, .bipush (-13), 2, [], -13), (70, .ireturn, 1, [], 0), (71, .aload_n 0, 1, [0], 0), (72, .getfield 43, 3, [4, 6, 1, 200], 0), (75, .iload_n 1, 1, [1], 0), (76, .aaload, 1, [2], 0), (77, .aload_n 0, 1, [0], 0), (78, .getfield 43, 3, [4, 6, 1, 200], 0), (81, .iload_n 2, 1, [2], 0), (82, .aaload, 1, [2], 0), (83, .invokevirtual 187, 3, [1, 35, 2, 0, 0, 567], 0), (86, .aload_n 0, 1, [0], 0), (87, .getfield 43, 3, [4, 6, 1, 200], 0), (90, .iload_n 1, 1, [1], 0), (91, .aaload, 1, [2], 0), (92, .getfield 181, 3, [2, 1, 0, 183], 0), (95, .ireturn, 1, [], 0)]
abbrev m_X4_append : Nat := 82
def tb_X4_append : tb_T := ((⟨"SlotMesh", "append", "(II)I"⟩, prog_1_method_22_code, 3, (some .int)), .int, k_X4_append, (2, 122, 0, 0), (1, 4, 2, [566, 564, 47, 565]))
def k_X4_reckon : List am_I := [(0, .iload_n 1, 1, [1], 0), (1, .invokestatic 174, 3, [1, 89, 1, 1, 0, 553], 0), (4, .ifCond .ne 6, 3, [10], 0), (7, .bipush (-2), 2, [], -2), (9, .ireturn, 1, [], 0), (10, .iload_n 2, 1, [2], 0), (11, .ifCond .lt 8, 3, [19], 0), (14, .iload_n 2, 1, [2], 0), (15, .iconst 3, 1, [], 3), (16, .if_icmp .le 6, 3, [22], 0), (19, .bipush (-3), 2, [], -3), (21, .ireturn, 1, [], 0), (22, .aload_n 0, 1, [0], 0), (23, .getfield 43, 3, [4, 6, 1, 200], 0), (26, .iload_n 1, 1, [1], 0), (27, .aaload, 1, [2], 0), (28, .astore_n 3, 1, [3], 0), (29, .aload_n 3, 1, [3], 0), (30, .getfield 184, 3, [2, 2, 0, 185], 0), (33, .ifCond .eq 6, 3, [39], 0), (36, .bipush (-11), 2, [], -11), (38, .ireturn, 1, [], 0), (39, .iload_n 2, 1, [2], 0), (40, .tableswitch 76 0 2 #[28, 36, 56], 28, [116, 0, 68, 1, 76, 2, 96], 0), (68, .ldc 191, 2, [], 50000), (70, .aload_n 3, 1, [3], 0), (71, .invokevirtual 192, 3, [1, 37, 1, 1, 0, 577], 0), (74, .iadd, 1, [], 0), (75, .ireturn, 1, [], 0), (76, .aload_n 3, 1, [3], 0), (77, .getfield 181, 3, [2, 1, 0, 183], 0), (80, .ifCond .ne 8, 3, [88], 0), (83, .bipush (-12), 2, [], -12), (85, .goto 10, 3, [95], 0), (88, .ldc 191, 2, [], 50000), (90, .aload_n 3, 1, [3], 0), (91, .invokevirtual 195, 3, [1, 38, 1, 1, 0, 581], 0), (94, .iadd, 1, [], 0), (95, .ireturn, 1, [], 0), (96, .aload_n 3, 1, [3], 0), (97, .getfield 181, 3, [2, 1, 0, 183], 0), (100, .ifCond .ne 8, 3, [108], 0), (103, .bipush (-12), 2, [], -12), (105, .goto 10, 3, [115], 0), (108, .ldc 191, 2, [], 50000), (110, .aload_n 3, 1, [3], 0), (111, .invokevirtual 198, 3, [1, 39, 1, 1, 0, 586], 0), (114, .iadd, 1, [], 0), (115, .ireturn, 1, [], 0), (116, .ldc 191, 2, [], 50000), (118, .aload_n 3, 1, [3], 0), (119, .invokevirtual 201, 3, [1, 40, 1, 1, 0, 591], 0), (122, .iadd, 1, [], 0), (123, .ireturn, 1, [], 0)]
abbrev m_X4_reckon : Nat := 83
def tb_X4_reckon : tb_T := ((⟨"SlotMesh", "reckon", "(II)I"⟩, prog_1_method_23_code, 4, (some .int)), .int, k_X4_reckon, (2, 52, 0, 0), (1, 4, 2, [575, 573, 47, 574]))
def k_X4_pop : List am_I := [(0, .iload_n 1, 1, [1], 0), (1, .invokestatic 174, 3, [1, 89, 1, 1, 0, 553], 0), (4, .ifCond .ne 6, 3, [10], 0), (7, .bipush (-2), 2, [], -2), (9, .ireturn, 1, [], 0), (10, .aload_n 0, 1, [0], 0), (11, .getfield 43, 3, [4, 6, 1, 200], 0), (14, .iload_n 1, 1, [1], 0), (15, .aaload, 1, [2], 0), (16, .getfield 184, 3, [2, 2, 0, 185], 0), (19, .ifCond .eq 6, 3, [25], 0), (22, .bipush (-11), 2, [], -11), (24, .ireturn, 1, [], 0), (25, .aload_n 0, 1, [0], 0), (26, .getfield 43, 3, [4, 6, 1, 200], 0), (29, .iload_n 1, 1, [1], 0), (30, .aaload, 1, [2], 0), (31, .getfield 181, 3, [2, 1, 0, 183], 0), (34, .ifCond .ne 6, 3, [40], 0), (37, .bipush (-12), 2, [], -12), (39, .ireturn, 1, [], 0), (40, .ldc 191, 2, [], 50000), (42, .aload_n 0, 1, [0], 0), (43, .getfield 43, 3, [4, 6, 1, 200], 0), (46, .iload_n 1, 1, [1], 0), (47, .aaload, 1, [2], 0), (48, .invokevirtual 204, 3, [1, 36, 1, 1, 0, 599], 0), (51, .iadd, 1, [], 0), (52, .ireturn, 1, [], 0)]
abbrev m_X4_pop : Nat := 84
def tb_X4_pop : tb_T := ((⟨"SlotMesh", "pop", "(I)I"⟩, prog_1_method_24_code, 2, (some .int)), .int, k_X4_pop, (1, 20, 0, 0), (1, 4, 1, [598, 596, 47, 597]))
def k_X4_each : List am_I := [(0, .iload_n 1, 1, [1], 0), (1, .invokestatic 174, 3, [1, 89, 1, 1, 0, 553], 0), (4, .ifCond .ne 6, 3, [10], 0), (7, .bipush (-2), 2, [], -2), (9, .ireturn, 1, [], 0), (10, .iload_n 2, 1, [2], 0), (11, .ifCond .lt 8, 3, [19], 0), (14, .iload_n 2, 1, [2], 0), (15, .iconst 2, 1, [], 2), (16, .if_icmp .le 6, 3, [22], 0), (19, .bipush (-3), 2, [], -3), (21, .ireturn, 1, [], 0), (22, .aload_n 0, 1, [0], 0), (23, .getfield 43, 3, [4, 6, 1, 200], 0), (26, .iload_n 1, 1, [1], 0), (27, .aaload, 1, [2], 0), (28, .astore_n 3, 1, [3], 0), (29, .aload_n 3, 1, [3], 0), (30, .getfield 184, 3, [2, 2, 0, 185], 0), (33, .ifCond .eq 6, 3, [39], 0), (36, .bipush (-11), 2, [], -11), (38, .ireturn, 1, [], 0), (39, .iload_n 2, 1, [2], 0), (40, .ifCond .ne 10, 3, [50], 0), (43, .aload_n 3, 1, [3], 0), (44, .invokevirtual 207, 3, [1, 41, 1, 0, 0, 607], 0), (47, .goto 19, 3, [66], 0), (50, .iload_n 2, 1, [2], 0), (51, .iconst 1, 1, [], 1), (52, .if_icmp .ne 10, 3, [62], 0), (55, .aload_n 3, 1, [3], 0), (56, .invokevirtual 210, 3, [1, 42, 1, 0, 0, 611], 0), (59, .goto 7, 3, [66], 0), (62, .aload_n 3, 1, [3], 0), (63, .invokevirtual 213, 3, [1, 43, 1, 0, 0, 618], 0), (66, .aload_n 3, 1, [3], 0), (67, .getfield 181, 3, [2, 1, 0, 183], 0), (70, .ireturn, 1, [], 0)]
abbrev m_X4_each : Nat := 85
def tb_X4_each : tb_T := ((⟨"SlotMesh", "each", "(II)I"⟩, prog_1_method_25_code, 4, (some .int)), .int, k_X4_each, (3, 72, 0, 0), (1, 4, 2, [606, 604, 47, 605]))
def k_X4_drop : List am_I := [(0, .iload_n 1, 1, [1], 0), (1, .invokestatic 174, 3, [1, 89, 1, 1, 0, 553], 0), (4, .ifCond .ne 6, 3, [10], 0), (7, .bipush (-2), 2, [], -2), (9, .ireturn, 1, [], 0), (10, .aload_n 0, 1, [0], 0), (11, .getfield 43, 3, [4, 6, 1, 200], 0), (14, .iload_n 1, 1, [1], 0), (15, .aaload, 1, [2], 0), (16, .getfield 184, 3, [2, 2, 0, 185], 0), (19, .ifCond .eq 6, 3, [25], 0), (22, .bipush (-11), 2, [], -11), (24, .ireturn, 1, [], 0), (25, .aload_n 0, 1, [0], 0), (26, .getfield 43, 3, [4, 6, 1, 200], 0), (29, .iload_n 1, 1, [1], 0), (30, .aaload, 1, [2], 0), (31, .getfield 181, 3, [2, 1, 0, 183], 0), (34, .istore_n 2, 1, [2], 0), (35, .aload_n 0, 1, [0], 0), (36, .getfield 43, 3, [4, 6, 1, 200], 0), (39, .iload_n 1, 1, [1], 0), (40, .aaload, 1, [2], 0), (41, .invokevirtual 78, 3, [1, 34, 1, 0, 0, 356], 0), (44, .iload_n 2, 1, [2], 0), (45, .ireturn, 1, [], 0)]
abbrev m_X4_drop : Nat := 86
def tb_X4_drop : tb_T := ((⟨"SlotMesh", "drop", "(I)I"⟩, prog_1_method_26_code, 3, (some .int)), .int, k_X4_drop, (1, 20, 0, 0), (1, 4, 1, [625, 623, 47, 624]))
def k_X4_told : List am_I := [(0, .iload_n 1, 1, [1], 0), (1, .tableswitch 152 0 10 #[59, 67, 75, 83, 91, 99, 107, 123, 131, 136, 144], 59, [153, 0, 60, 1, 68, 2, 76, 3, 84, 4, 92, 5, 100, 6, 108, 7, 124, 8, 132, 9, 137, 10, 145], 0), (60, .aload_n 0, 1, [0], 0), (61, .getfield 10, 3, [4, 0, 1, 194], 0), (64, .getfield 216, 3, [0, 0, 0, 77], 0), (67, .ireturn, 1, [], 0), (68, .aload_n 0, 1, [0], 0), (69, .getfield 10, 3, [4, 0, 1, 194], 0), (72, .getfield 219, 3, [0, 1, 0, 79], 0), (75, .ireturn, 1, [], 0), (76, .aload_n 0, 1, [0], 0), (77, .getfield 10, 3, [4, 0, 1, 194], 0), (80, .getfield 222, 3, [0, 2, 0, 81], 0), (83, .ireturn, 1, [], 0), (84, .aload_n 0, 1, [0], 0), (85, .getfield 10, 3, [4, 0, 1, 194], 0), (88, .invokevirtual 225, 3, [1, 9, 1, 1, 0, 630], 0), (91, .ireturn, 1, [], 0), (92, .aload_n 0, 1, [0], 0), (93, .getfield 10, 3, [4, 0, 1, 194], 0), (96, .invokevirtual 148, 3, [1, 16, 1, 1, 0, 483], 0), (99, .ireturn, 1, [], 0), (100, .aload_n 0, 1, [0], 0), (101, .getfield 10, 3, [4, 0, 1, 194], 0), (104, .invokevirtual 104, 3, [1, 14, 1, 1, 0, 379], 0), (107, .ireturn, 1, [], 0), (108, .aload_n 0, 1, [0], 0), (109, .getfield 10, 3, [4, 0, 1, 194], 0), (112, .invokevirtual 164, 3, [1, 15, 1, 1, 0, 524], 0), (115, .ifCond .eq 7, 3, [122], 0), (118, .iconst 1, 1, [], 1), (119, .goto 4, 3, [123], 0), (122, .iconst 0, 1, [], 0), (123, .ireturn, 1, [], 0), (124, .aload_n 0, 1, [0], 0), (125, .getfield 10, 3, [4, 0, 1, 194], 0), (128, .getfield 228, 3, [0, 3, 0, 83], 0), (131, .ireturn, 1, [], 0), (132, .aload_n 0, 1, [0], 0), (133, .invokevirtual 231, 3, [1, 88, 1, 1, 0, 634], 0), (136, .ireturn, 1, [], 0), (137, .aload_n 0, 1, [0], 0), (138, .getfield 29, 3, [4, 3, 1, 197], 0), (141, .invokevirtual 154, 3, [1, 28, 1, 1, 0, 500], 0), (144, .ireturn, 1, [], 0), (145, .aload_n 0, 1, [0], 0), (146, .getfield 22, 3, [4, 2, 1, 196], 0), (149, .invokevirtual 234, 3, [1, 46, 1, 1, 0, 638], 0), (152, .ireturn, 1, [], 0), (153, .bipush (-3), 2, [], -3), (155, .ireturn, 1, [], 0)]
abbrev m_X4_told : Nat := 87
def tb_X4_told : tb_T := ((⟨"SlotMesh", "told", "(I)I"⟩, prog_1_method_27_code, 2, (some .int)), .int, k_X4_told, (4, 89, 0, 0), (1, 4, 1, [629, 627, 47, 628]))
def k_X4_numbersOfAll : List am_I := [(0, .iconst 0, 1, [], 0), (1, .istore_n 1, 1, [1], 0), (2, .iconst 0, 1, [], 0), (3, .istore_n 2, 1, [2], 0), (4, .iload_n 2, 1, [2], 0), (5, .iconst 3, 1, [], 3), (6, .if_icmp .ge 21, 3, [27], 0), (9, .iload_n 1, 1, [1], 0), (10, .aload_n 0, 1, [0], 0), (11, .getfield 43, 3, [4, 6, 1, 200], 0), (14, .iload_n 2, 1, [2], 0), (15, .aaload, 1, [2], 0), (16, .getfield 181, 3, [2, 1, 0, 183], 0), (19, .iadd, 1, [], 0), (20, .istore_n 1, 1, [1], 0), (21, .iinc 2 1, 3, [2], 1), (24, .goto (-20), 3, [4], 0), (27, .iload_n 1, 1, [1], 0), (28, .ireturn, 1, [], 0)]
abbrev m_X4_numbersOfAll : Nat := 88
def tb_X4_numbersOfAll : tb_T := ((⟨"SlotMesh", "numbersOfAll", "()I"⟩, prog_1_method_28_code, 3, (some .int)), .int, k_X4_numbersOfAll, (0, 0, 0, 0), (1, 4, 0, [637, 636, 47, 12]))
def k_X4_isTally : List am_I := [(0, .iload_n 0, 1, [0], 0), (1, .ifCond .lt 12, 3, [13], 0), (4, .iload_n 0, 1, [0], 0), (5, .iconst 3, 1, [], 3), (6, .if_icmp .ge 7, 3, [13], 0), (9, .iconst 1, 1, [], 1), (10, .goto 4, 3, [14], 0), (13, .iconst 0, 1, [], 0), (14, .ireturn, 1, [], 0)]
abbrev m_X4_isTally : Nat := 89
def tb_X4_isTally : tb_T := ((⟨"SlotMesh", "isTally", "(I)Z"⟩, prog_1_method_29_code, 1, (some .boolean)), .boolean, k_X4_isTally, (0, 0, 0, 0), (0, 4, 1, [555, 554, 47]))
def k_X4_isNumber : List am_I := [(0, .iload_n 0, 1, [0], 0), (1, .sipush (-999), 3, [], -999), (4, .if_icmp .lt 14, 3, [18], 0), (7, .iload_n 0, 1, [0], 0), (8, .sipush 999, 3, [], 999), (11, .if_icmp .gt 7, 3, [18], 0), (14, .iconst 1, 1, [], 1), (15, .goto 4, 3, [19], 0), (18, .iconst 0, 1, [], 0), (19, .ireturn, 1, [], 0)]
abbrev m_X4_isNumber : Nat := 90
def tb_X4_isNumber : tb_T := ((⟨"SlotMesh", "isNumber", "(I)Z"⟩, prog_1_method_30_code, 1, (some .boolean)), .boolean, k_X4_isNumber, (0, 0, 0, 0), (0, 4, 1, [558, 557, 47]))
def k_X4_has : List am_I := [(0, .iload_n 0, 1, [0], 0), (1, .iload_n 1, 1, [1], 0), (2, .ishr, 1, [], 0), (3, .iconst 1, 1, [], 1), (4, .iand, 1, [], 0), (5, .ifCond .eq 7, 3, [12], 0), (8, .iconst 1, 1, [], 1), (9, .goto 4, 3, [13], 0), (12, .iconst 0, 1, [], 0), (13, .ireturn, 1, [], 0)]
abbrev m_X4_has : Nat := 91
def tb_X4_has : tb_T := ((⟨"SlotMesh", "has", "(II)Z"⟩, prog_1_method_31_code, 2, (some .boolean)), .boolean, k_X4_has, (0, 0, 0, 0), (0, 4, 2, [378, 377, 47]))
def k_X5_init : List am_I := [(0, .aload_n 0, 1, [0], 0), (1, .invokespecial 1, 3, [0, 0, 1, 0, 0, 647], 0), (4, .aload_n 0, 1, [0], 0), (5, .sipush 372, 3, [], 372), (8, .newarray .int, 2, [0], 0), (10, .putfield 7, 3, [5, 0, 1, 652], 0), (13, .aload_n 0, 1, [0], 0), (14, .bipush 8, 2, [], 8), (16, .newarray .int, 2, [0], 0), (18, .putfield 13, 3, [5, 4, 1, 656], 0), (21, .aload_n 0, 1, [0], 0), (22, .iconst 2, 1, [], 2), (23, .newarray .boolean, 2, [1], 0), (25, .putfield 16, 3, [5, 6, 1, 658], 0), (28, .aload_n 0, 1, [0], 0), (29, .sipush 200, 3, [], 200), (32, .newarray .int, 2, [0], 0), (34, .putfield 20, 3, [5, 7, 1, 659], 0), (37, .aload_n 0, 1, [0], 0), (38, .iconst 3, 1, [], 3), (39, .newarray .int, 2, [0], 0), (41, .dup, 1, [], 0), (42, .iconst 0, 1, [], 0), (43, .iconst (-1), 1, [], -1), (44, .iastore, 1, [], 0), (45, .dup, 1, [], 0), (46, .iconst 1, 1, [], 1), (47, .iconst (-1), 1, [], -1), (48, .iastore, 1, [], 0), (49, .dup, 1, [], 0), (50, .iconst 2, 1, [], 2), (51, .iconst (-1), 1, [], -1), (52, .iastore, 1, [], 0), (53, .putfield 23, 3, [5, 9, 1, 661], 0), (56, .aload_n 0, 1, [0], 0), (57, .bipush 24, 2, [], 24), (59, .newarray .int, 2, [0], 0), (61, .putfield 26, 3, [5, 10, 1, 662], 0), (64, .aload_n 0, 1, [0], 0), (65, .iconst 4, 1, [], 4), (66, .newarray .int, 2, [0], 0), (68, .putfield 29, 3, [5, 16, 1, 668], 0), (71, .aload_n 0, 1, [0], 0), (72, .bipush 20, 2, [], 20), (74, .newarray .int, 2, [0], 0), (76, .dup, 1, [], 0), (77, .iconst 0, 1, [], 0), (78, .bipush 109, 2, [], 109), (80, .iastore, 1, [], 0), (81, .dup, 1, [], 0), (82, .iconst 1, 1, [], 1), (83, .bipush 101, 2, [], 101), (85, .iastore, 1, [], 0), (86, .dup, 1, [], 0), (87, .iconst 2, 1, [], 2), (88, .bipush 115, 2, [], 115), (90, .iastore, 1, [], 0), (91, .dup, 1, [], 0), (92, .iconst 3, 1, [], 3), (93, .bipush 104, 2, [], 104), (95, .iastore, 1, [], 0), (96, .dup, 1, [], 0), (97, .iconst 4, 1, [], 4), (98, .iconst 0, 1, [], 0), (99, .iastore, 1, [], 0), (100, .dup, 1, [], 0), (101, .iconst 5, 1, [], 5), (102, .bipush 108, 2, [], 108), (104, .iastore, 1, [], 0), (105, .dup, 1, [], 0), (106, .bipush 6, 2, [], 6), (108, .bipush 105, 2, [], 105), (110, .iastore, 1, [], 0), (111, .dup, 1, [], 0), (112, .bipush 7, 2, [], 7), (114, .bipush 110, 2, [], 110), (116, .iastore, 1, [], 0), (117, .dup, 1, [], 0), (118, .bipush 8, 2, [], 8), (120, .bipush 107, 2, [], 107), (122, .iastore, 1, [], 0), (123, .dup, 1, [], 0), (124, .bipush 9, 2, [], 9), (126, .iconst 0, 1, [], 0), (127, .iastore, 1, [], 0), (128, .dup, 1, [], 0), (129, .bipush 10, 2, [], 10), (131, .bipush 119, 2, [], 119), (133, .iastore, 1, [], 0), (134, .dup, 1, [], 0), (135, .bipush 11, 2, [], 11), (137, .bipush 97, 2, [], 97), (139, .iastore, 1, [], 0), (140, .dup, 1, [], 0), (141, .bipush 12, 2, [], 12), (143, .bipush 110, 2, [], 110), (145, .iastore, 1, [], 0), (146, .dup, 1, [], 0), (147, .bipush 13, 2, [], 13), (149, .bipush 116, 2, [], 116), (151, .iastore, 1, [], 0), (152, .dup, 1, [], 0), (153, .bipush 14, 2, [], 14), (155, .iconst 0, 1, [], 0), (156, .iastore, 1, [], 0), (157, .dup, 1, [], 0), (158, .bipush 15, 2, [], 15), (160, .bipush 115, 2, [], 115), (162, .iastore, 1, [], 0), (163, .dup, 1, [], 0), (164, .bipush 16, 2, [], 16), (166, .bipush 104, 2, [], 104), (168, .iastore, 1, [], 0), (169, .dup, 1, [], 0), (170, .bipush 17, 2, [], 17), (172, .bipush 97, 2, [], 97), (174, .iastore, 1, [], 0), (175, .dup, 1, [], 0), (176, .bipush 18, 2, [], 18), (178, .bipush 114, 2, [], 114), (180, .iastore, 1, [], 0), (181, .dup, 1, [], 0), (182, .bipush 19, 2, [], 19), (184, .bipush 101, 2, [], 101), (186, .iastore, 1, [], 0), (187, .putfield 32, 3, [5, 17, 1, 669], 0), (190, .aload_n 0, 1, [0], 0), (191, .bipush 8, 2, [], 8), (193, .newarray .int, 2, [0], 0), (195, .putfield 35, 3, [5, 18, 1, 670], 0), (198, .aload_n 0, 1, [0], 0), (199, .bipush 8, 2, [], 8), (201, .newarray .int, 2, [0], 0), (203, .putfield 38, 3, [5, 19, 1, 671], 0), (206, .aload_n 0, 1, [0], 0), (207, .iconst 3, 1, [], 3), (208, .iconst 2, 1, [], 2), (209, .iconst 2, 1, [], 2), (210, .iconst 1, 1, [], 1), (211, .invokevirtual 41, 3, [1, 97, 5, 0, 0, 648], 0), (214, .return_, 1, [], 0)]
abbrev m_X5_init : Nat := 92
def tb_X5_init : tb_T := ((⟨"SlotMeshModel", "<init>", "()V"⟩, prog_7_method_1_code, 1, none), .int, k_X5_init, (1, 30, 10, 649), (2, 5, 0, [646, 645, 53]))
def k_X5_in : List am_I := [(0, .lload_n 0, 1, [0], 0), (1, .lload_n 2, 1, [2], 0), (2, .lcmp, 1, [], 0), (3, .ifCond .lt 14, 3, [17], 0), (6, .lload_n 0, 1, [0], 0), (7, .lload 4, 2, [4], 0), (9, .lcmp, 1, [], 0), (10, .ifCond .gt 7, 3, [17], 0), (13, .iconst 1, 1, [], 1), (14, .goto 4, 3, [18], 0), (17, .iconst 0, 1, [], 0), (18, .ireturn, 1, [], 0)]
abbrev m_X5_in : Nat := 93
def tb_X5_in : tb_T := ((⟨"SlotMeshModel", "in", "(JJJ)Z"⟩, prog_7_method_2_code, 6, (some .boolean)), .boolean, k_X5_in, (0, 0, 0, 0), (0, 5, 3, [720, 719, 53]))
def k_X5_has : List am_I := [(0, .iload_n 0, 1, [0], 0), (1, .iload_n 1, 1, [1], 0), (2, .ishr, 1, [], 0), (3, .iconst 1, 1, [], 1), (4, .iand, 1, [], 0), (5, .iconst 1, 1, [], 1), (6, .if_icmp .ne 7, 3, [13], 0), (9, .iconst 1, 1, [], 1), (10, .goto 4, 3, [14], 0), (13, .iconst 0, 1, [], 0), (14, .ireturn, 1, [], 0)]
abbrev m_X5_has : Nat := 94
def tb_X5_has : tb_T := ((⟨"SlotMeshModel", "has", "(II)Z"⟩, prog_7_method_3_code, 2, (some .boolean)), .boolean, k_X5_has, (0, 0, 0, 0), (0, 5, 2, [789, 788, 53]))
def k_X5_ones : List am_I := [(0, .iconst 0, 1, [], 0), (1, .istore_n 1, 1, [1], 0), (2, .iconst 0, 1, [], 0), (3, .istore_n 2, 1, [2], 0), (4, .iload_n 2, 1, [2], 0), (5, .bipush 8, 2, [], 8), (7, .if_icmp .ge 17, 3, [24], 0), (10, .iload_n 1, 1, [1], 0), (11, .iload_n 0, 1, [0], 0), (12, .iload_n 2, 1, [2], 0), (13, .ishr, 1, [], 0), (14, .iconst 1, 1, [], 1), (15, .iand, 1, [], 0), (16, .iadd, 1, [], 0), (17, .istore_n 1, 1, [1], 0), (18, .iinc 2 1, 3, [2], 1), (21, .goto (-17), 3, [4], 0), (24, .iload_n 1, 1, [1], 0), (25, .ireturn, 1, [], 0)]
abbrev m_X5_ones : Nat := 95
def tb_X5_ones : tb_T := ((⟨"SlotMeshModel", "ones", "(I)I"⟩, prog_7_method_4_code, 3, (some .int)), .int, k_X5_ones, (0, 0, 0, 0), (0, 5, 1, [796, 795, 53]))
def k_X5_copyRow : List am_I := [(0, .iconst 0, 1, [], 0), (1, .istore_n 3, 1, [3], 0), (2, .iload_n 3, 1, [3], 0), (3, .bipush 31, 2, [], 31), (5, .if_icmp .ge 25, 3, [30], 0), (8, .aload_n 0, 1, [0], 0), (9, .getfield 7, 3, [5, 0, 1, 652], 0), (12, .iload_n 2, 1, [2], 0), (13, .iload_n 3, 1, [3], 0), (14, .iadd, 1, [], 0), (15, .aload_n 0, 1, [0], 0), (16, .getfield 7, 3, [5, 0, 1, 652], 0), (19, .iload_n 1, 1, [1], 0), (20, .iload_n 3, 1, [3], 0), (21, .iadd, 1, [], 0), (22, .iaload, 1, [], 0), (23, .iastore, 1, [], 0), (24, .iinc 3 1, 3, [3], 1), (27, .goto (-25), 3, [2], 0), (30, .return_, 1, [], 0)]
abbrev m_X5_copyRow : Nat := 96
def tb_X5_copyRow : tb_T := ((⟨"SlotMeshModel", "copyRow", "(II)V"⟩, prog_7_method_5_code, 4, none), .int, k_X5_copyRow, (0, 0, 0, 0), (1, 5, 2, [828, 827, 53, 30]))
def k_X5_anew : List am_I := [(0, .aload_n 0, 1, [0], 0), (1, .iload_n 1, 1, [1], 0), (2, .putfield 45, 3, [5, 1, 0, 653], 0), (5, .aload_n 0, 1, [0], 0), (6, .iload_n 2, 1, [2], 0), (7, .putfield 49, 3, [5, 2, 0, 654], 0), (10, .aload_n 0, 1, [0], 0), (11, .iload_n 3, 1, [3], 0), (12, .putfield 52, 3, [5, 3, 0, 655], 0), (15, .aload_n 0, 1, [0], 0), (16, .getfield 7, 3, [5, 0, 1, 652], 0), (19, .iconst 0, 1, [], 0), (20, .iload 4, 2, [4], 0), (22, .iastore, 1, [], 0), (23, .iconst 0, 1, [], 0), (24, .istore 5, 2, [5], 0), (26, .iload 5, 2, [5], 0), (28, .bipush 8, 2, [], 8), (30, .if_icmp .ge 50, 3, [80], 0), (33, .aload_n 0, 1, [0], 0), (34, .getfield 13, 3, [5, 4, 1, 656], 0), (37, .iload 5, 2, [5], 0), (39, .iconst 1, 1, [], 1), (40, .iastore, 1, [], 0), (41, .aload_n 0, 1, [0], 0), (42, .getfield 7, 3, [5, 0, 1, 652], 0), (45, .iconst 1, 1, [], 1), (46, .iload 5, 2, [5], 0), (48, .iadd, 1, [], 0), (49, .bipush 8, 2, [], 8), (51, .iastore, 1, [], 0), (52, .aload_n 0, 1, [0], 0), (53, .getfield 7, 3, [5, 0, 1, 652], 0), (56, .bipush 9, 2, [], 9), (58, .iload 5, 2, [5], 0), (60, .iadd, 1, [], 0), (61, .iconst 0, 1, [], 0), (62, .iastore, 1, [], 0), (63, .aload_n 0, 1, [0], 0), (64, .getfield 7, 3, [5, 0, 1, 652], 0), (67, .bipush 17, 2, [], 17), (69, .iload 5, 2, [5], 0), (71, .iadd, 1, [], 0), (72, .iconst 0, 1, [], 0), (73, .iastore, 1, [], 0), (74, .iinc 5 1, 3, [5], 1), (77, .goto (-51), 3, [26], 0), (80, .return_, 1, [], 0)]
abbrev m_X5_anew : Nat := 97
def tb_X5_anew : tb_T := ((⟨"SlotMeshModel", "anew", "(IIII)V"⟩, prog_7_method_6_code, 6, none), .int, k_X5_anew, (0, 0, 0, 0), (1, 5, 4, [651, 650, 53, 13]))
def k_X5_write : List am_I := [(0, .iload_n 1, 1, [1], 0), (1, .i2l, 1, [], 0), (2, .lconst 0, 1, [], 0), (3, .ldc2_w 55, 3, [], 255), (6, .invokestatic 57, 3, [1, 93, 3, 1, 0, 718], 0), (9, .ifCond .ne 6, 3, [15], 0), (12, .bipush (-3), 2, [], -3), (14, .ireturn, 1, [], 0), (15, .aload_n 0, 1, [0], 0), (16, .getfield 61, 3, [5, 8, 0, 660], 0), (19, .sipush 200, 3, [], 200), (22, .if_icmp .ne 6, 3, [28], 0), (25, .bipush (-5), 2, [], -5), (27, .ireturn, 1, [], 0), (28, .aload_n 0, 1, [0], 0), (29, .getfield 20, 3, [5, 7, 1, 659], 0), (32, .aload_n 0, 1, [0], 0), (33, .getfield 61, 3, [5, 8, 0, 660], 0), (36, .iload_n 1, 1, [1], 0), (37, .iastore, 1, [], 0), (38, .aload_n 0, 1, [0], 0), (39, .dup, 1, [], 0), (40, .getfield 61, 3, [5, 8, 0, 660], 0), (43, .iconst 1, 1, [], 1), (44, .iadd, 1, [], 0), (45, .putfield 61, 3, [5, 8, 0, 660], 0), (48, .aload_n 0, 1, [0], 0), (49, .getfield 61, 3, [5, 8, 0, 660], 0), (52, .ireturn, 1, [], 0)]
abbrev m_X5_write : Nat := 98
def tb_X5_write : tb_T := ((⟨"SlotMeshModel", "write", "(I)I"⟩, prog_7_method_7_code, 2, (some .int)), .int, k_X5_write, (1, 25, 0, 0), (1, 5, 1, [716, 714, 53, 715]))
def k_X5_erase : List am_I := [(0, .aload_n 0, 1, [0], 0), (1, .getfield 61, 3, [5, 8, 0, 660], 0), (4, .istore_n 1, 1, [1], 0), (5, .aload_n 0, 1, [0], 0), (6, .iconst 0, 1, [], 0), (7, .putfield 61, 3, [5, 8, 0, 660], 0), (10, .iload_n 1, 1, [1], 0), (11, .ireturn, 1, [], 0)]
abbrev m_X5_erase : Nat := 99
def tb_X5_erase : tb_T := ((⟨"SlotMeshModel", "erase", "()I"⟩, prog_7_method_8_code, 2, (some .int)), .int, k_X5_erase, (0, 0, 0, 0), (1, 5, 0, [724, 722, 53, 723]))
def k_X5_isSmall : List am_I := [(0, .iload_n 0, 1, [0], 0), (1, .i2l, 1, [], 0), (2, .ldc2_w 64, 3, [], 97), (5, .ldc2_w 66, 3, [], 122), (8, .invokestatic 57, 3, [1, 93, 3, 1, 0, 718], 0), (11, .ireturn, 1, [], 0)]
abbrev m_X5_isSmall : Nat := 100
def tb_X5_isSmall : tb_T := ((⟨"SlotMeshModel", "isSmall", "(I)Z"⟩, prog_7_method_9_code, 1, (some .boolean)), .boolean, k_X5_isSmall, (1, 25, 0, 0), (0, 5, 1, [739, 738, 53]))
def k_X5_isDigit : List am_I := [(0, .iload_n 0, 1, [0], 0), (1, .i2l, 1, [], 0), (2, .ldc2_w 68, 3, [], 48), (5, .ldc2_w 70, 3, [], 57), (8, .invokestatic 57, 3, [1, 93, 3, 1, 0, 718], 0), (11, .ireturn, 1, [], 0)]
abbrev m_X5_isDigit : Nat := 101
def tb_X5_isDigit : tb_T := ((⟨"SlotMeshModel", "isDigit", "(I)Z"⟩, prog_7_method_10_code, 1, (some .boolean)), .boolean, k_X5_isDigit, (1, 25, 0, 0), (0, 5, 1, [744, 743, 53]))
def k_X5_nextToken : List am_I := [(0, .aload_n 0, 1, [0], 0), (1, .aload_n 0, 1, [0], 0), (2, .getfield 72, 3, [5, 12, 0, 664], 0), (5, .putfield 75, 3, [5, 11, 0, 663], 0), (8, .aload_n 0, 1, [0], 0), (9, .getfield 75, 3, [5, 11, 0, 663], 0), (12, .aload_n 0, 1, [0], 0), (13, .getfield 61, 3, [5, 8, 0, 660], 0), (16, .if_icmp .ge 30, 3, [46], 0), (19, .aload_n 0, 1, [0], 0), (20, .getfield 20, 3, [5, 7, 1, 659], 0), (23, .aload_n 0, 1, [0], 0), (24, .getfield 75, 3, [5, 11, 0, 663], 0), (27, .iaload, 1, [], 0), (28, .bipush 32, 2, [], 32), (30, .if_icmp .ne 16, 3, [46], 0), (33, .aload_n 0, 1, [0], 0), (34, .dup, 1, [], 0), (35, .getfield 75, 3, [5, 11, 0, 663], 0), (38, .iconst 1, 1, [], 1), (39, .iadd, 1, [], 0), (40, .putfield 75, 3, [5, 11, 0, 663], 0), (43, .goto (-35), 3, [8], 0), (46, .aload_n 0, 1, [0], 0), (47, .aload_n 0, 1, [0], 0), (48, .getfield 75, 3, [5, 11, 0, 663], 0), (51, .aload_n 0, 1, [0], 0), (52, .getfield 61, 3, [5, 8, 0, 660], 0), (55, .if_icmp .ge 12, 3, [67], 0), (58, .aload_n 0, 1, [0], 0), (59, .getfield 75, 3, [5, 11, 0, 663], 0), (62, .iconst 1, 1, [], 1), (63, .iadd, 1, [], 0), (64, .goto 7, 3, [71], 0), (67, .aload_n 0, 1, [0], 0), (68, .getfield 75, 3, [5, 11, 0, 663], 0), (71, .putfield 72, 3, [5, 12, 0, 664], 0), (74, .aload_n 0, 1, [0], 0), (75, .getfield 75, 3, [5, 11, 0, 663], 0), (78, .aload_n 0, 1, [0], 0), (79, .getfield 61, 3, [5, 8, 0, 660], 0), (82, .if_icmp .ge 57, 3, [139], 0), (85, .aload_n 0, 1, [0], 0), (86, .getfield 20, 3, [5, 7, 1, 659], 0), (89, .aload_n 0, 1, [0], 0), (90, .getfield 75, 3, [5, 11, 0, 663], 0), (93, .iaload, 1, [], 0), (94, .invokestatic 78, 3, [1, 100, 1, 1, 0, 737], 0), (97, .ifCond .eq 42, 3, [139], 0), (100, .aload_n 0, 1, [0], 0), (101, .getfield 72, 3, [5, 12, 0, 664], 0), (104, .aload_n 0, 1, [0], 0), (105, .getfield 61, 3, [5, 8, 0, 660], 0), (108, .if_icmp .ge 96, 3, [204], 0), (111, .aload_n 0, 1, [0], 0), (112, .getfield 20, 3, [5, 7, 1, 659], 0), (115, .aload_n 0, 1, [0], 0), (116, .getfield 72, 3, [5, 12, 0, 664], 0), (119, .iaload, 1, [], 0), (120, .invokestatic 78, 3, [1, 100, 1, 1, 0, 737], 0), (123, .ifCond .eq 81, 3, [204], 0), (126, .aload_n 0, 1, [0], 0), (127, .dup, 1, [], 0), (128, .getfield 72, 3, [5, 12, 0, 664], 0), (131, .iconst 1, 1, [], 1), (132, .iadd, 1, [], 0), (133, .putfield 72, 3, [5, 12, 0, 664], 0), (136, .goto (-36), 3, [100], 0), (139, .aload_n 0, 1, [0], 0), (140, .getfield 75, 3, [5, 11, 0, 663], 0), (143, .aload_n 0, 1, [0], 0), (144, .getfield 61, 3, [5, 8, 0, 660], 0), (147, .if_icmp .ge 57, 3, [204], 0), (150, .aload_n 0, 1, [0], 0), (151, .getfield 20, 3, [5, 7, 1, 659], 0), (154, .aload_n 0, 1, [0], 0), (155, .getfield 75, 3, [5, 11, 0, 663], 0), (158, .iaload, 1, [], 0), (159, .invokestatic 82, 3, [1, 101, 1, 1, 0, 742], 0), (162, .ifCond .eq 42, 3, [204], 0), (165, .aload_n 0, 1, [0], 0), (166, .getfield 72, 3, [5, 12, 0, 664], 0), (169, .aload_n 0, 1, [0], 0), (170, .getfield 61, 3, [5, 8, 0, 660], 0), (173, .if_icmp .ge 31, 3, [204], 0), (176, .aload_n 0, 1, [0], 0), (177, .getfield 20, 3, [5, 7, 1, 659], 0), (180, .aload_n 0, 1, [0], 0), (181, .getfield 72, 3, [5, 12, 0, 664], 0), (184, .iaload, 1, [], 0), (185, .invokestatic 82, 3, [1, 101, 1, 1, 0, 742], 0), (188, .ifCond .eq 16, 3, [204], 0), (191, .aload_n 0, 1, [0], 0), (192, .dup, 1, [], 0), (193, .getfield 72, 3, [5, 12, 0, 664], 0), (196, .iconst 1, 1, [], 1), (197, .iadd, 1, [], 0), (198, .putfield 72, 3, [5, 12, 0, 664], 0), (201, .goto (-36), 3, [165], 0), (204, .return_, 1, [], 0)]
abbrev m_X5_nextToken : Nat := 102
def tb_X5_nextToken : tb_T := ((⟨"SlotMeshModel", "nextToken", "()V"⟩, prog_7_method_11_code, 1, none), .int, k_X5_nextToken, (2, 45, 0, 0), (1, 5, 0, [736, 735, 53, 15]))
def k_X5_wordHere : List am_I := [(0, .iconst 0, 1, [], 0), (1, .istore_n 1, 1, [1], 0), (2, .iload_n 1, 1, [1], 0), (3, .iconst 3, 1, [], 3), (4, .if_icmp .gt 110, 3, [114], 0), (7, .aload_n 0, 1, [0], 0), (8, .getfield 72, 3, [5, 12, 0, 664], 0), (11, .aload_n 0, 1, [0], 0), (12, .getfield 75, 3, [5, 11, 0, 663], 0), (15, .if_icmp .le 21, 3, [36], 0), (18, .aload_n 0, 1, [0], 0), (19, .getfield 72, 3, [5, 12, 0, 664], 0), (22, .aload_n 0, 1, [0], 0), (23, .getfield 75, 3, [5, 11, 0, 663], 0), (26, .isub, 1, [], 0), (27, .bipush 6, 2, [], 6), (29, .if_icmp .ge 7, 3, [36], 0), (32, .iconst 1, 1, [], 1), (33, .goto 4, 3, [37], 0), (36, .iconst 0, 1, [], 0), (37, .istore_n 2, 1, [2], 0), (38, .iconst 0, 1, [], 0), (39, .istore_n 3, 1, [3], 0), (40, .iload_n 3, 1, [3], 0), (41, .iconst 5, 1, [], 5), (42, .if_icmp .ge 60, 3, [102], 0), (45, .iload_n 2, 1, [2], 0), (46, .ifCond .eq 56, 3, [102], 0), (49, .aload_n 0, 1, [0], 0), (50, .getfield 32, 3, [5, 17, 1, 669], 0), (53, .iconst 5, 1, [], 5), (54, .iload_n 1, 1, [1], 0), (55, .imul, 1, [], 0), (56, .iload_n 3, 1, [3], 0), (57, .iadd, 1, [], 0), (58, .iaload, 1, [], 0), (59, .aload_n 0, 1, [0], 0), (60, .getfield 75, 3, [5, 11, 0, 663], 0), (63, .iload_n 3, 1, [3], 0), (64, .iadd, 1, [], 0), (65, .aload_n 0, 1, [0], 0), (66, .getfield 72, 3, [5, 12, 0, 664], 0), (69, .if_icmp .ge 17, 3, [86], 0), (72, .aload_n 0, 1, [0], 0), (73, .getfield 20, 3, [5, 7, 1, 659], 0), (76, .aload_n 0, 1, [0], 0), (77, .getfield 75, 3, [5, 11, 0, 663], 0), (80, .iload_n 3, 1, [3], 0), (81, .iadd, 1, [], 0), (82, .iaload, 1, [], 0), (83, .goto 4, 3, [87], 0), (86, .iconst 0, 1, [], 0), (87, .if_icmp .ne 7, 3, [94], 0), (90, .iconst 1, 1, [], 1), (91, .goto 4, 3, [95], 0), (94, .iconst 0, 1, [], 0), (95, .istore_n 2, 1, [2], 0), (96, .iinc 3 1, 3, [3], 1), (99, .goto (-59), 3, [40], 0), (102, .iload_n 2, 1, [2], 0), (103, .ifCond .eq 5, 3, [108], 0), (106, .iload_n 1, 1, [1], 0), (107, .ireturn, 1, [], 0), (108, .iinc 1 1, 3, [1], 1), (111, .goto (-109), 3, [2], 0), (114, .iconst (-1), 1, [], -1), (115, .ireturn, 1, [], 0)]
abbrev m_X5_wordHere : Nat := 103
def tb_X5_wordHere : tb_T := ((⟨"SlotMeshModel", "wordHere", "()I"⟩, prog_7_method_12_code, 4, (some .int)), .int, k_X5_wordHere, (0, 0, 0, 0), (1, 5, 0, [754, 753, 53, 17]))
def k_X5_number : List am_I := [(0, .aload_n 0, 1, [0], 0), (1, .getfield 75, 3, [5, 11, 0, 663], 0), (4, .aload_n 0, 1, [0], 0), (5, .getfield 61, 3, [5, 8, 0, 660], 0), (8, .if_icmp .eq 31, 3, [39], 0), (11, .aload_n 0, 1, [0], 0), (12, .getfield 20, 3, [5, 7, 1, 659], 0), (15, .aload_n 0, 1, [0], 0), (16, .getfield 75, 3, [5, 11, 0, 663], 0), (19, .iaload, 1, [], 0), (20, .invokestatic 82, 3, [1, 101, 1, 1, 0, 742], 0), (23, .ifCond .eq 16, 3, [39], 0), (26, .aload_n 0, 1, [0], 0), (27, .getfield 72, 3, [5, 12, 0, 664], 0), (30, .aload_n 0, 1, [0], 0), (31, .getfield 75, 3, [5, 11, 0, 663], 0), (34, .isub, 1, [], 0), (35, .iconst 3, 1, [], 3), (36, .if_icmp .le 5, 3, [41], 0), (39, .iconst 0, 1, [], 0), (40, .ireturn, 1, [], 0), (41, .iconst 0, 1, [], 0), (42, .istore 5, 2, [5], 0), (44, .aload_n 0, 1, [0], 0), (45, .getfield 75, 3, [5, 11, 0, 663], 0), (48, .istore 6, 2, [6], 0), (50, .iload 6, 2, [6], 0), (52, .aload_n 0, 1, [0], 0), (53, .getfield 72, 3, [5, 12, 0, 664], 0), (56, .if_icmp .ge 27, 3, [83], 0), (59, .bipush 10, 2, [], 10), (61, .iload 5, 2, [5], 0), (63, .imul, 1, [], 0), (64, .aload_n 0, 1, [0], 0), (65, .getfield 20, 3, [5, 7, 1, 659], 0), (68, .iload 6, 2, [6], 0), (70, .iaload, 1, [], 0), (71, .iadd, 1, [], 0), (72, .bipush 48, 2, [], 48), (74, .isub, 1, [], 0), (75, .istore 5, 2, [5], 0), (77, .iinc 6 1, 3, [6], 1), (80, .goto (-30), 3, [50], 0), (83, .iload 5, 2, [5], 0), (85, .i2l, 1, [], 0), (86, .iload_n 2, 1, [2], 0), (87, .i2l, 1, [], 0), (88, .iload_n 3, 1, [3], 0), (89, .i2l, 1, [], 0), (90, .invokestatic 57, 3, [1, 93, 3, 1, 0, 718], 0), (93, .ifCond .eq 14, 3, [107], 0), (96, .iload 5, 2, [5], 0), (98, .iload 4, 2, [4], 0), (100, .if_icmp .eq 7, 3, [107], 0), (103, .iconst 1, 1, [], 1), (104, .goto 4, 3, [108], 0), (107, .iconst 0, 1, [], 0), (108, .istore 6, 2, [6], 0), (110, .iload 6, 2, [6], 0), (112, .ifCond .eq 15, 3, [127], 0), (115, .aload_n 0, 1, [0], 0), (116, .getfield 29, 3, [5, 16, 1, 668], 0), (119, .iload_n 1, 1, [1], 0), (120, .iload 5, 2, [5], 0), (122, .iastore, 1, [], 0), (123, .aload_n 0, 1, [0], 0), (124, .invokevirtual 85, 3, [1, 102, 1, 0, 0, 733], 0), (127, .iload 6, 2, [6], 0), (129, .ireturn, 1, [], 0)]
abbrev m_X5_number : Nat := 104
def tb_X5_number : tb_T := ((⟨"SlotMeshModel", "number", "(IIII)Z"⟩, prog_7_method_13_code, 7, (some .boolean)), .boolean, k_X5_number, (3, 65, 0, 0), (1, 5, 4, [762, 761, 53, 19]))
def k_X5_readsRest : List am_I := [(0, .iload_n 1, 1, [1], 0), (1, .tableswitch 156 0 2 #[27, 80, 123], 27, [157, 0, 28, 1, 81, 2, 124], 0), (28, .aload_n 0, 1, [0], 0), (29, .iconst 0, 1, [], 0), (30, .iconst 2, 1, [], 2), (31, .bipush 8, 2, [], 8), (33, .iconst (-1), 1, [], -1), (34, .invokevirtual 88, 3, [1, 104, 5, 1, 0, 759], 0), (37, .ifCond .eq 42, 3, [79], 0), (40, .aload_n 0, 1, [0], 0), (41, .iconst 1, 1, [], 1), (42, .iconst 1, 1, [], 1), (43, .iconst 4, 1, [], 4), (44, .iconst (-1), 1, [], -1), (45, .invokevirtual 88, 3, [1, 104, 5, 1, 0, 759], 0), (48, .ifCond .eq 31, 3, [79], 0), (51, .aload_n 0, 1, [0], 0), (52, .iconst 2, 1, [], 2), (53, .iconst 1, 1, [], 1), (54, .iconst 5, 1, [], 5), (55, .iconst (-1), 1, [], -1), (56, .invokevirtual 88, 3, [1, 104, 5, 1, 0, 759], 0), (59, .ifCond .eq 20, 3, [79], 0), (62, .aload_n 0, 1, [0], 0), (63, .iconst 3, 1, [], 3), (64, .iconst 1, 1, [], 1), (65, .sipush 999, 3, [], 999), (68, .iconst (-1), 1, [], -1), (69, .invokevirtual 88, 3, [1, 104, 5, 1, 0, 759], 0), (72, .ifCond .eq 7, 3, [79], 0), (75, .iconst 1, 1, [], 1), (76, .goto 4, 3, [80], 0), (79, .iconst 0, 1, [], 0), (80, .ireturn, 1, [], 0), (81, .aload_n 0, 1, [0], 0), (82, .iconst 0, 1, [], 0), (83, .iconst 0, 1, [], 0), (84, .aload_n 0, 1, [0], 0), (85, .getfield 92, 3, [5, 13, 0, 665], 0), (88, .iconst 1, 1, [], 1), (89, .isub, 1, [], 0), (90, .iconst (-1), 1, [], -1), (91, .invokevirtual 88, 3, [1, 104, 5, 1, 0, 759], 0), (94, .ifCond .eq 28, 3, [122], 0), (97, .aload_n 0, 1, [0], 0), (98, .iconst 1, 1, [], 1), (99, .iconst 0, 1, [], 0), (100, .aload_n 0, 1, [0], 0), (101, .getfield 92, 3, [5, 13, 0, 665], 0), (104, .iconst 1, 1, [], 1), (105, .isub, 1, [], 0), (106, .aload_n 0, 1, [0], 0), (107, .getfield 29, 3, [5, 16, 1, 668], 0), (110, .iconst 0, 1, [], 0), (111, .iaload, 1, [], 0), (112, .invokevirtual 88, 3, [1, 104, 5, 1, 0, 759], 0), (115, .ifCond .eq 7, 3, [122], 0), (118, .iconst 1, 1, [], 1), (119, .goto 4, 3, [123], 0), (122, .iconst 0, 1, [], 0), (123, .ireturn, 1, [], 0), (124, .aload_n 0, 1, [0], 0), (125, .iconst 0, 1, [], 0), (126, .iconst 0, 1, [], 0), (127, .aload_n 0, 1, [0], 0), (128, .getfield 92, 3, [5, 13, 0, 665], 0), (131, .iconst 1, 1, [], 1), (132, .isub, 1, [], 0), (133, .iconst (-1), 1, [], -1), (134, .invokevirtual 88, 3, [1, 104, 5, 1, 0, 759], 0), (137, .ifCond .eq 18, 3, [155], 0), (140, .aload_n 0, 1, [0], 0), (141, .iconst 1, 1, [], 1), (142, .iconst 0, 1, [], 0), (143, .iconst 4, 1, [], 4), (144, .iconst (-1), 1, [], -1), (145, .invokevirtual 88, 3, [1, 104, 5, 1, 0, 759], 0), (148, .ifCond .eq 7, 3, [155], 0), (151, .iconst 1, 1, [], 1), (152, .goto 4, 3, [156], 0), (155, .iconst 0, 1, [], 0), (156, .ireturn, 1, [], 0), (157, .aload_n 0, 1, [0], 0), (158, .iconst 0, 1, [], 0), (159, .iconst 0, 1, [], 0), (160, .aload_n 0, 1, [0], 0), (161, .getfield 92, 3, [5, 13, 0, 665], 0), (164, .iconst 1, 1, [], 1), (165, .isub, 1, [], 0), (166, .iconst (-1), 1, [], -1), (167, .invokevirtual 88, 3, [1, 104, 5, 1, 0, 759], 0), (170, .ifCond .eq 19, 3, [189], 0), (173, .aload_n 0, 1, [0], 0), (174, .iconst 1, 1, [], 1), (175, .iconst 1, 1, [], 1), (176, .bipush 16, 2, [], 16), (178, .iconst (-1), 1, [], -1), (179, .invokevirtual 88, 3, [1, 104, 5, 1, 0, 759], 0), (182, .ifCond .eq 7, 3, [189], 0), (185, .iconst 1, 1, [], 1), (186, .goto 4, 3, [190], 0), (189, .iconst 0, 1, [], 0), (190, .ireturn, 1, [], 0)]
abbrev m_X5_readsRest : Nat := 105
def tb_X5_readsRest : tb_T := ((⟨"SlotMeshModel", "readsRest", "(I)Z"⟩, prog_7_method_14_code, 2, (some .boolean)), .boolean, k_X5_readsRest, (4, 91, 0, 0), (1, 5, 1, [758, 757, 53, 18]))
def k_X5_joins : List am_I := [(0, .aload_n 0, 1, [0], 0), (1, .getfield 7, 3, [5, 0, 1, 652], 0), (4, .iload_n 1, 1, [1], 0), (5, .bipush 17, 2, [], 17), (7, .iadd, 1, [], 0), (8, .iload_n 2, 1, [2], 0), (9, .iadd, 1, [], 0), (10, .dup2, 1, [], 0), (11, .iaload, 1, [], 0), (12, .iconst 1, 1, [], 1), (13, .iload_n 3, 1, [3], 0), (14, .ishl, 1, [], 0), (15, .ior, 1, [], 0), (16, .iastore, 1, [], 0), (17, .aload_n 0, 1, [0], 0), (18, .getfield 7, 3, [5, 0, 1, 652], 0), (21, .iload_n 1, 1, [1], 0), (22, .bipush 17, 2, [], 17), (24, .iadd, 1, [], 0), (25, .iload_n 3, 1, [3], 0), (26, .iadd, 1, [], 0), (27, .dup2, 1, [], 0), (28, .iaload, 1, [], 0), (29, .iconst 1, 1, [], 1), (30, .iload_n 2, 1, [2], 0), (31, .ishl, 1, [], 0), (32, .ior, 1, [], 0), (33, .iastore, 1, [], 0), (34, .return_, 1, [], 0)]
abbrev m_X5_joins : Nat := 106
def tb_X5_joins : tb_T := ((⟨"SlotMeshModel", "joins", "(III)V"⟩, prog_7_method_15_code, 4, none), .int, k_X5_joins, (0, 0, 0, 0), (1, 5, 3, [770, 769, 53, 21]))
def k_X5_does : List am_I := [(0, .iload_n 1, 1, [1], 0), (1, .tableswitch 98 0 2 #[27, 58, 78], 27, [99, 0, 28, 1, 59, 2, 79], 0), (28, .aload_n 0, 1, [0], 0), (29, .aload_n 0, 1, [0], 0), (30, .getfield 29, 3, [5, 16, 1, 668], 0), (33, .iconst 0, 1, [], 0), (34, .iaload, 1, [], 0), (35, .aload_n 0, 1, [0], 0), (36, .getfield 29, 3, [5, 16, 1, 668], 0), (39, .iconst 1, 1, [], 1), (40, .iaload, 1, [], 0), (41, .aload_n 0, 1, [0], 0), (42, .getfield 29, 3, [5, 16, 1, 668], 0), (45, .iconst 2, 1, [], 2), (46, .iaload, 1, [], 0), (47, .aload_n 0, 1, [0], 0), (48, .getfield 29, 3, [5, 16, 1, 668], 0), (51, .iconst 3, 1, [], 3), (52, .iaload, 1, [], 0), (53, .invokevirtual 41, 3, [1, 97, 5, 0, 0, 648], 0), (56, .goto 62, 3, [118], 0), (59, .aload_n 0, 1, [0], 0), (60, .iconst 0, 1, [], 0), (61, .aload_n 0, 1, [0], 0), (62, .getfield 29, 3, [5, 16, 1, 668], 0), (65, .iconst 0, 1, [], 0), (66, .iaload, 1, [], 0), (67, .aload_n 0, 1, [0], 0), (68, .getfield 29, 3, [5, 16, 1, 668], 0), (71, .iconst 1, 1, [], 1), (72, .iaload, 1, [], 0), (73, .invokevirtual 95, 3, [1, 106, 4, 0, 0, 767], 0), (76, .goto 42, 3, [118], 0), (79, .aload_n 0, 1, [0], 0), (80, .getfield 13, 3, [5, 4, 1, 656], 0), (83, .aload_n 0, 1, [0], 0), (84, .getfield 29, 3, [5, 16, 1, 668], 0), (87, .iconst 0, 1, [], 0), (88, .iaload, 1, [], 0), (89, .aload_n 0, 1, [0], 0), (90, .getfield 29, 3, [5, 16, 1, 668], 0), (93, .iconst 1, 1, [], 1), (94, .iaload, 1, [], 0), (95, .iastore, 1, [], 0), (96, .goto 22, 3, [118], 0), (99, .aload_n 0, 1, [0], 0), (100, .getfield 7, 3, [5, 0, 1, 652], 0), (103, .iconst 1, 1, [], 1), (104, .aload_n 0, 1, [0], 0), (105, .getfield 29, 3, [5, 16, 1, 668], 0), (108, .iconst 0, 1, [], 0), (109, .iaload, 1, [], 0), (110, .iadd, 1, [], 0), (111, .aload_n 0, 1, [0], 0), (112, .getfield 29, 3, [5, 16, 1, 668], 0), (115, .iconst 1, 1, [], 1), (116, .iaload, 1, [], 0), (117, .iastore, 1, [], 0), (118, .return_, 1, [], 0)]
abbrev m_X5_does : Nat := 107
def tb_X5_does : tb_T := ((⟨"SlotMeshModel", "does", "(I)V"⟩, prog_7_method_16_code, 2, none), .int, k_X5_does, (1, 25, 0, 0), (1, 5, 1, [766, 765, 53, 20]))
def k_X5_readsClause : List am_I := [(0, .aload_n 0, 1, [0], 0), (1, .invokevirtual 99, 3, [1, 103, 1, 1, 0, 751], 0), (4, .istore_n 1, 1, [1], 0), (5, .iload_n 1, 1, [1], 0), (6, .iconst (-1), 1, [], -1), (7, .if_icmp .ne 5, 3, [12], 0), (10, .iconst 0, 1, [], 0), (11, .ireturn, 1, [], 0), (12, .aload_n 0, 1, [0], 0), (13, .invokevirtual 85, 3, [1, 102, 1, 0, 0, 733], 0), (16, .aload_n 0, 1, [0], 0), (17, .iload_n 1, 1, [1], 0), (18, .invokevirtual 103, 3, [1, 105, 2, 1, 0, 755], 0), (21, .ifCond .ne 5, 3, [26], 0), (24, .iconst 0, 1, [], 0), (25, .ireturn, 1, [], 0), (26, .aload_n 0, 1, [0], 0), (27, .iload_n 1, 1, [1], 0), (28, .ifCond .ne 12, 3, [40], 0), (31, .aload_n 0, 1, [0], 0), (32, .getfield 29, 3, [5, 16, 1, 668], 0), (35, .iconst 0, 1, [], 0), (36, .iaload, 1, [], 0), (37, .goto 7, 3, [44], 0), (40, .aload_n 0, 1, [0], 0), (41, .getfield 92, 3, [5, 13, 0, 665], 0), (44, .putfield 92, 3, [5, 13, 0, 665], 0), (47, .aload_n 0, 1, [0], 0), (48, .getfield 106, 3, [5, 15, 0, 667], 0), (51, .ifCond .eq 8, 3, [59], 0), (54, .aload_n 0, 1, [0], 0), (55, .iload_n 1, 1, [1], 0), (56, .invokevirtual 110, 3, [1, 107, 2, 0, 0, 763], 0), (59, .iconst 1, 1, [], 1), (60, .ireturn, 1, [], 0)]
abbrev m_X5_readsClause : Nat := 108
def tb_X5_readsClause : tb_T := ((⟨"SlotMeshModel", "readsClause", "()Z"⟩, prog_7_method_17_code, 2, (some .boolean)), .boolean, k_X5_readsClause, (5, 112, 0, 0), (1, 5, 0, [750, 749, 53, 16]))
def k_X5_reads : List am_I := [(0, .aload_n 0, 1, [0], 0), (1, .iload_n 1, 1, [1], 0), (2, .putfield 106, 3, [5, 15, 2, 667], 0), (5, .aload_n 0, 1, [0], 0), (6, .iconst 0, 1, [], 0), (7, .putfield 72, 3, [5, 12, 0, 664], 0), (10, .aload_n 0, 1, [0], 0), (11, .iconst 1, 1, [], 1), (12, .putfield 114, 3, [5, 14, 0, 666], 0), (15, .aload_n 0, 1, [0], 0), (16, .aload_n 0, 1, [0], 0), (17, .getfield 45, 3, [5, 1, 0, 653], 0), (20, .putfield 92, 3, [5, 13, 0, 665], 0), (23, .aload_n 0, 1, [0], 0), (24, .invokevirtual 85, 3, [1, 102, 1, 0, 0, 733], 0), (27, .aload_n 0, 1, [0], 0), (28, .invokevirtual 117, 3, [1, 108, 1, 1, 0, 747], 0), (31, .istore_n 2, 1, [2], 0), (32, .iload_n 2, 1, [2], 0), (33, .ifCond .eq 69, 3, [102], 0), (36, .aload_n 0, 1, [0], 0), (37, .getfield 75, 3, [5, 11, 0, 663], 0), (40, .aload_n 0, 1, [0], 0), (41, .getfield 61, 3, [5, 8, 0, 660], 0), (44, .if_icmp .ge 58, 3, [102], 0), (47, .aload_n 0, 1, [0], 0), (48, .getfield 114, 3, [5, 14, 0, 666], 0), (51, .bipush 24, 2, [], 24), (53, .if_icmp .ge 21, 3, [74], 0), (56, .aload_n 0, 1, [0], 0), (57, .getfield 20, 3, [5, 7, 1, 659], 0), (60, .aload_n 0, 1, [0], 0), (61, .getfield 75, 3, [5, 11, 0, 663], 0), (64, .iaload, 1, [], 0), (65, .bipush 59, 2, [], 59), (67, .if_icmp .ne 7, 3, [74], 0), (70, .iconst 1, 1, [], 1), (71, .goto 4, 3, [75], 0), (74, .iconst 0, 1, [], 0), (75, .istore_n 2, 1, [2], 0), (76, .iload_n 2, 1, [2], 0), (77, .ifCond .eq (-45), 3, [32], 0), (80, .aload_n 0, 1, [0], 0), (81, .invokevirtual 85, 3, [1, 102, 1, 0, 0, 733], 0), (84, .aload_n 0, 1, [0], 0), (85, .invokevirtual 117, 3, [1, 108, 1, 1, 0, 747], 0), (88, .istore_n 2, 1, [2], 0), (89, .aload_n 0, 1, [0], 0), (90, .dup, 1, [], 0), (91, .getfield 114, 3, [5, 14, 0, 666], 0), (94, .iconst 1, 1, [], 1), (95, .iadd, 1, [], 0), (96, .putfield 114, 3, [5, 14, 0, 666], 0), (99, .goto (-67), 3, [32], 0), (102, .iload_n 2, 1, [2], 0), (103, .ireturn, 1, [], 0)]
abbrev m_X5_reads : Nat := 109
def tb_X5_reads : tb_T := ((⟨"SlotMeshModel", "reads", "(Z)Z"⟩, prog_7_method_18_code, 3, (some .boolean)), .boolean, k_X5_reads, (6, 133, 0, 0), (1, 5, 1, [732, 731, 53, 14]))
def k_X5_fault : List am_I := [(0, .aload_n 0, 1, [0], 0), (1, .iconst 0, 1, [], 0), (2, .invokevirtual 121, 3, [1, 109, 2, 1, 0, 729], 0), (5, .ifCond .eq 7, 3, [12], 0), (8, .iconst (-1), 1, [], -1), (9, .goto 7, 3, [16], 0), (12, .aload_n 0, 1, [0], 0), (13, .getfield 75, 3, [5, 11, 0, 663], 0), (16, .ireturn, 1, [], 0)]
abbrev m_X5_fault : Nat := 110
def tb_X5_fault : tb_T := ((⟨"SlotMeshModel", "fault", "()I"⟩, prog_7_method_19_code, 1, (some .int)), .int, k_X5_fault, (7, 155, 0, 0), (1, 5, 0, [728, 726, 53, 727]))
def k_X5_mesh : List am_I := [(0, .aload_n 0, 1, [0], 0), (1, .iconst 0, 1, [], 0), (2, .invokevirtual 121, 3, [1, 109, 2, 1, 0, 729], 0), (5, .ifCond .ne 6, 3, [11], 0), (8, .bipush (-4), 2, [], -4), (10, .ireturn, 1, [], 0), (11, .aload_n 0, 1, [0], 0), (12, .iconst 1, 1, [], 1), (13, .invokevirtual 121, 3, [1, 109, 2, 1, 0, 729], 0), (16, .pop, 1, [], 0), (17, .iconst 0, 1, [], 0), (18, .istore_n 1, 1, [1], 0), (19, .iload_n 1, 1, [1], 0), (20, .bipush 8, 2, [], 8), (22, .if_icmp .ge 19, 3, [41], 0), (25, .aload_n 0, 1, [0], 0), (26, .getfield 7, 3, [5, 0, 1, 652], 0), (29, .bipush 9, 2, [], 9), (31, .iload_n 1, 1, [1], 0), (32, .iadd, 1, [], 0), (33, .iconst 0, 1, [], 0), (34, .iastore, 1, [], 0), (35, .iinc 1 1, 3, [1], 1), (38, .goto (-19), 3, [19], 0), (41, .iconst 0, 1, [], 0), (42, .istore_n 1, 1, [1], 0), (43, .iload_n 1, 1, [1], 0), (44, .iconst 5, 1, [], 5), (45, .if_icmp .ge 19, 3, [64], 0), (48, .aload_n 0, 1, [0], 0), (49, .getfield 7, 3, [5, 0, 1, 652], 0), (52, .bipush 25, 2, [], 25), (54, .iload_n 1, 1, [1], 0), (55, .iadd, 1, [], 0), (56, .iconst 0, 1, [], 0), (57, .iastore, 1, [], 0), (58, .iinc 1 1, 3, [1], 1), (61, .goto (-18), 3, [43], 0), (64, .aload_n 0, 1, [0], 0), (65, .getfield 7, 3, [5, 0, 1, 652], 0), (68, .bipush 30, 2, [], 30), (70, .iconst 0, 1, [], 0), (71, .iastore, 1, [], 0), (72, .aload_n 0, 1, [0], 0), (73, .iconst 0, 1, [], 0), (74, .putfield 61, 3, [5, 8, 0, 660], 0), (77, .aload_n 0, 1, [0], 0), (78, .iconst 0, 1, [], 0), (79, .putfield 125, 3, [5, 5, 0, 657], 0), (82, .aload_n 0, 1, [0], 0), (83, .getfield 16, 3, [5, 6, 1, 658], 0), (86, .iconst 0, 1, [], 0), (87, .iconst 0, 1, [], 0), (88, .bastore, 1, [], 0), (89, .aload_n 0, 1, [0], 0), (90, .getfield 16, 3, [5, 6, 1, 658], 0), (93, .iconst 1, 1, [], 1), (94, .iconst 0, 1, [], 0), (95, .bastore, 1, [], 0), (96, .iconst 0, 1, [], 0), (97, .istore_n 1, 1, [1], 0), (98, .iload_n 1, 1, [1], 0), (99, .iconst 3, 1, [], 3), (100, .if_icmp .ge 16, 3, [116], 0), (103, .aload_n 0, 1, [0], 0), (104, .getfield 23, 3, [5, 9, 1, 661], 0), (107, .iload_n 1, 1, [1], 0), (108, .iconst (-1), 1, [], -1), (109, .iastore, 1, [], 0), (110, .iinc 1 1, 3, [1], 1), (113, .goto (-15), 3, [98], 0), (116, .aload_n 0, 1, [0], 0), (117, .getfield 114, 3, [5, 14, 0, 666], 0), (120, .ireturn, 1, [], 0)]
abbrev m_X5_mesh : Nat := 111
def tb_X5_mesh : tb_T := ((⟨"SlotMeshModel", "mesh", "()I"⟩, prog_7_method_20_code, 2, (some .int)), .int, k_X5_mesh, (7, 155, 0, 0), (1, 5, 0, [774, 772, 53, 773]))
def k_X5_isStation : List am_I := [(0, .iload_n 1, 1, [1], 0), (1, .i2l, 1, [], 0), (2, .lconst 0, 1, [], 0), (3, .aload_n 0, 1, [0], 0), (4, .getfield 45, 3, [5, 1, 0, 653], 0), (7, .iconst 1, 1, [], 1), (8, .isub, 1, [], 0), (9, .i2l, 1, [], 0), (10, .invokestatic 57, 3, [1, 93, 3, 1, 0, 718], 0), (13, .ireturn, 1, [], 0)]
abbrev m_X5_isStation : Nat := 112
def tb_X5_isStation : tb_T := ((⟨"SlotMeshModel", "isStation", "(I)Z"⟩, prog_7_method_21_code, 2, (some .boolean)), .boolean, k_X5_isStation, (1, 25, 0, 0), (1, 5, 1, [782, 781, 53, 22]))
def k_X5_isSlot : List am_I := [(0, .iload_n 1, 1, [1], 0), (1, .i2l, 1, [], 0), (2, .lconst 0, 1, [], 0), (3, .aload_n 0, 1, [0], 0), (4, .getfield 49, 3, [5, 2, 0, 654], 0), (7, .iconst 1, 1, [], 1), (8, .isub, 1, [], 0), (9, .i2l, 1, [], 0), (10, .invokestatic 57, 3, [1, 93, 3, 1, 0, 718], 0), (13, .ireturn, 1, [], 0)]
abbrev m_X5_isSlot : Nat := 113
def tb_X5_isSlot : tb_T := ((⟨"SlotMeshModel", "isSlot", "(I)Z"⟩, prog_7_method_22_code, 2, (some .boolean)), .boolean, k_X5_isSlot, (1, 25, 0, 0), (1, 5, 1, [804, 803, 53, 25]))
def k_X5_near : List am_I := [(0, .aload_n 0, 1, [0], 0), (1, .getfield 7, 3, [5, 0, 1, 652], 0), (4, .iload_n 1, 1, [1], 0), (5, .bipush 17, 2, [], 17), (7, .iadd, 1, [], 0), (8, .iload_n 2, 1, [2], 0), (9, .iadd, 1, [], 0), (10, .iaload, 1, [], 0), (11, .istore_n 3, 1, [3], 0), (12, .iload_n 3, 1, [3], 0), (13, .istore 4, 2, [4], 0), (15, .iconst 0, 1, [], 0), (16, .istore 5, 2, [5], 0), (18, .iload 5, 2, [5], 0), (20, .aload_n 0, 1, [0], 0), (21, .getfield 45, 3, [5, 1, 0, 653], 0), (24, .if_icmp .ge 39, 3, [63], 0), (27, .iload 4, 2, [4], 0), (29, .iload_n 3, 1, [3], 0), (30, .iload 5, 2, [5], 0), (32, .invokestatic 128, 3, [1, 94, 2, 1, 0, 787], 0), (35, .ifCond .eq 18, 3, [53], 0), (38, .aload_n 0, 1, [0], 0), (39, .getfield 7, 3, [5, 0, 1, 652], 0), (42, .iload_n 1, 1, [1], 0), (43, .bipush 17, 2, [], 17), (45, .iadd, 1, [], 0), (46, .iload 5, 2, [5], 0), (48, .iadd, 1, [], 0), (49, .iaload, 1, [], 0), (50, .goto 4, 3, [54], 0), (53, .iconst 0, 1, [], 0), (54, .ior, 1, [], 0), (55, .istore 4, 2, [4], 0), (57, .iinc 5 1, 3, [5], 1), (60, .goto (-42), 3, [18], 0), (63, .iload 4, 2, [4], 0), (65, .iconst 1, 1, [], 1), (66, .iload_n 2, 1, [2], 0), (67, .ishl, 1, [], 0), (68, .iconst (-1), 1, [], -1), (69, .ixor, 1, [], 0), (70, .iand, 1, [], 0), (71, .ireturn, 1, [], 0)]
abbrev m_X5_near : Nat := 114
def tb_X5_near : tb_T := ((⟨"SlotMeshModel", "near", "(II)I"⟩, prog_7_method_23_code, 6, (some .int)), .int, k_X5_near, (1, 21, 0, 0), (1, 5, 2, [786, 785, 53, 23]))
def k_X5_holders : List am_I := [(0, .iconst 0, 1, [], 0), (1, .istore_n 3, 1, [3], 0), (2, .iconst 0, 1, [], 0), (3, .istore 4, 2, [4], 0), (5, .iload 4, 2, [4], 0), (7, .aload_n 0, 1, [0], 0), (8, .getfield 45, 3, [5, 1, 0, 653], 0), (11, .if_icmp .ge 39, 3, [50], 0), (14, .iload_n 3, 1, [3], 0), (15, .aload_n 0, 1, [0], 0), (16, .getfield 7, 3, [5, 0, 1, 652], 0), (19, .iload_n 1, 1, [1], 0), (20, .bipush 9, 2, [], 9), (22, .iadd, 1, [], 0), (23, .iload 4, 2, [4], 0), (25, .iadd, 1, [], 0), (26, .iaload, 1, [], 0), (27, .iload_n 2, 1, [2], 0), (28, .invokestatic 128, 3, [1, 94, 2, 1, 0, 787], 0), (31, .ifCond .eq 10, 3, [41], 0), (34, .iconst 1, 1, [], 1), (35, .iload 4, 2, [4], 0), (37, .ishl, 1, [], 0), (38, .goto 4, 3, [42], 0), (41, .iconst 0, 1, [], 0), (42, .ior, 1, [], 0), (43, .istore_n 3, 1, [3], 0), (44, .iinc 4 1, 3, [4], 1), (47, .goto (-42), 3, [5], 0), (50, .iload_n 3, 1, [3], 0), (51, .ireturn, 1, [], 0)]
abbrev m_X5_holders : Nat := 115
def tb_X5_holders : tb_T := ((⟨"SlotMeshModel", "holders", "(II)I"⟩, prog_7_method_24_code, 5, (some .int)), .int, k_X5_holders, (1, 21, 0, 0), (1, 5, 2, [808, 807, 53, 26]))
def k_X5_isCovered : List am_I := [(0, .aload_n 0, 1, [0], 0), (1, .getfield 7, 3, [5, 0, 1, 652], 0), (4, .iload_n 1, 1, [1], 0), (5, .bipush 9, 2, [], 9), (7, .iadd, 1, [], 0), (8, .iload_n 2, 1, [2], 0), (9, .iadd, 1, [], 0), (10, .iaload, 1, [], 0), (11, .invokestatic 132, 3, [1, 95, 1, 1, 0, 794], 0), (14, .aload_n 0, 1, [0], 0), (15, .getfield 13, 3, [5, 4, 1, 656], 0), (18, .iload_n 2, 1, [2], 0), (19, .iaload, 1, [], 0), (20, .if_icmp .lt 7, 3, [27], 0), (23, .iconst 1, 1, [], 1), (24, .goto 4, 3, [28], 0), (27, .iconst 0, 1, [], 0), (28, .ireturn, 1, [], 0)]
abbrev m_X5_isCovered : Nat := 116
def tb_X5_isCovered : tb_T := ((⟨"SlotMeshModel", "isCovered", "(II)Z"⟩, prog_7_method_25_code, 3, (some .boolean)), .boolean, k_X5_isCovered, (1, 22, 0, 0), (1, 5, 2, [793, 792, 53, 24]))
def k_X5_covered : List am_I := [(0, .iconst 0, 1, [], 0), (1, .istore_n 2, 1, [2], 0), (2, .iconst 0, 1, [], 0), (3, .istore_n 3, 1, [3], 0), (4, .iload_n 3, 1, [3], 0), (5, .aload_n 0, 1, [0], 0), (6, .getfield 45, 3, [5, 1, 0, 653], 0), (9, .if_icmp .ge 28, 3, [37], 0), (12, .iload_n 2, 1, [2], 0), (13, .aload_n 0, 1, [0], 0), (14, .iload_n 1, 1, [1], 0), (15, .iload_n 3, 1, [3], 0), (16, .invokevirtual 136, 3, [1, 116, 3, 1, 0, 790], 0), (19, .ifCond .eq 9, 3, [28], 0), (22, .iconst 1, 1, [], 1), (23, .iload_n 3, 1, [3], 0), (24, .ishl, 1, [], 0), (25, .goto 4, 3, [29], 0), (28, .iconst 0, 1, [], 0), (29, .ior, 1, [], 0), (30, .istore_n 2, 1, [2], 0), (31, .iinc 3 1, 3, [3], 1), (34, .goto (-30), 3, [4], 0), (37, .iload_n 2, 1, [2], 0), (38, .ireturn, 1, [], 0)]
abbrev m_X5_covered : Nat := 117
def tb_X5_covered : tb_T := ((⟨"SlotMeshModel", "covered", "(I)I"⟩, prog_7_method_26_code, 4, (some .int)), .int, k_X5_covered, (2, 44, 0, 0), (1, 5, 1, [874, 873, 53, 40]))
def k_X5_contenders : List am_I := [(0, .aload_n 0, 1, [0], 0), (1, .iload_n 1, 1, [1], 0), (2, .iload_n 2, 1, [2], 0), (3, .invokevirtual 139, 3, [1, 115, 3, 1, 0, 805], 0), (6, .istore_n 3, 1, [3], 0), (7, .iconst 0, 1, [], 0), (8, .istore 4, 2, [4], 0), (10, .iconst 0, 1, [], 0), (11, .istore 5, 2, [5], 0), (13, .iload 5, 2, [5], 0), (15, .aload_n 0, 1, [0], 0), (16, .getfield 45, 3, [5, 1, 0, 653], 0), (19, .if_icmp .ge 53, 3, [72], 0), (22, .iload 4, 2, [4], 0), (24, .aload_n 0, 1, [0], 0), (25, .iload_n 1, 1, [1], 0), (26, .iload 5, 2, [5], 0), (28, .invokevirtual 136, 3, [1, 116, 3, 1, 0, 790], 0), (31, .ifCond .ne 31, 3, [62], 0), (34, .iload_n 3, 1, [3], 0), (35, .iload 5, 2, [5], 0), (37, .invokestatic 128, 3, [1, 94, 2, 1, 0, 787], 0), (40, .ifCond .ne 22, 3, [62], 0), (43, .aload_n 0, 1, [0], 0), (44, .iload_n 1, 1, [1], 0), (45, .iload 5, 2, [5], 0), (47, .invokevirtual 143, 3, [1, 114, 3, 1, 0, 783], 0), (50, .iload_n 3, 1, [3], 0), (51, .iand, 1, [], 0), (52, .ifCond .ne 10, 3, [62], 0), (55, .iconst 1, 1, [], 1), (56, .iload 5, 2, [5], 0), (58, .ishl, 1, [], 0), (59, .goto 4, 3, [63], 0), (62, .iconst 0, 1, [], 0), (63, .ior, 1, [], 0), (64, .istore 4, 2, [4], 0), (66, .iinc 5 1, 3, [5], 1), (69, .goto (-56), 3, [13], 0), (72, .iload 4, 2, [4], 0), (74, .ireturn, 1, [], 0)]
abbrev m_X5_contenders : Nat := 118
def tb_X5_contenders : tb_T := ((⟨"SlotMeshModel", "contenders", "(II)I"⟩, prog_7_method_27_code, 6, (some .int)), .int, k_X5_contenders, (2, 46, 0, 0), (1, 5, 2, [812, 811, 53, 27]))
def k_X5_clashesBy : List am_I := [(0, .aload_n 0, 1, [0], 0), (1, .iload_n 1, 1, [1], 0), (2, .iload_n 2, 1, [2], 0), (3, .invokevirtual 139, 3, [1, 115, 3, 1, 0, 805], 0), (6, .istore_n 3, 1, [3], 0), (7, .iconst 0, 1, [], 0), (8, .istore 4, 2, [4], 0), (10, .iconst 0, 1, [], 0), (11, .istore 5, 2, [5], 0), (13, .iload 5, 2, [5], 0), (15, .aload_n 0, 1, [0], 0), (16, .getfield 45, 3, [5, 1, 0, 653], 0), (19, .if_icmp .ge 39, 3, [58], 0), (22, .iload 4, 2, [4], 0), (24, .iload_n 3, 1, [3], 0), (25, .iload 5, 2, [5], 0), (27, .invokestatic 128, 3, [1, 94, 2, 1, 0, 787], 0), (30, .ifCond .eq 18, 3, [48], 0), (33, .aload_n 0, 1, [0], 0), (34, .iload_n 1, 1, [1], 0), (35, .iload 5, 2, [5], 0), (37, .invokevirtual 143, 3, [1, 114, 3, 1, 0, 783], 0), (40, .iload_n 3, 1, [3], 0), (41, .iand, 1, [], 0), (42, .invokestatic 132, 3, [1, 95, 1, 1, 0, 794], 0), (45, .goto 4, 3, [49], 0), (48, .iconst 0, 1, [], 0), (49, .iadd, 1, [], 0), (50, .istore 4, 2, [4], 0), (52, .iinc 5 1, 3, [5], 1), (55, .goto (-42), 3, [13], 0), (58, .iload 4, 2, [4], 0), (60, .iconst 2, 1, [], 2), (61, .idiv, 1, [], 0), (62, .ireturn, 1, [], 0)]
abbrev m_X5_clashesBy : Nat := 119
def tb_X5_clashesBy : tb_T := ((⟨"SlotMeshModel", "clashesBy", "(II)I"⟩, prog_7_method_28_code, 6, (some .int)), .int, k_X5_clashesBy, (2, 46, 0, 0), (1, 5, 2, [816, 815, 53, 28]))
def k_X5_clashes : List am_I := [(0, .iconst 0, 1, [], 0), (1, .istore_n 2, 1, [2], 0), (2, .iconst 0, 1, [], 0), (3, .istore_n 3, 1, [3], 0), (4, .iload_n 3, 1, [3], 0), (5, .aload_n 0, 1, [0], 0), (6, .getfield 49, 3, [5, 2, 0, 654], 0), (9, .if_icmp .ge 18, 3, [27], 0), (12, .iload_n 2, 1, [2], 0), (13, .aload_n 0, 1, [0], 0), (14, .iload_n 1, 1, [1], 0), (15, .iload_n 3, 1, [3], 0), (16, .invokevirtual 146, 3, [1, 119, 3, 1, 0, 813], 0), (19, .iadd, 1, [], 0), (20, .istore_n 2, 1, [2], 0), (21, .iinc 3 1, 3, [3], 1), (24, .goto (-20), 3, [4], 0), (27, .iload_n 2, 1, [2], 0), (28, .ireturn, 1, [], 0)]
abbrev m_X5_clashes : Nat := 120
def tb_X5_clashes : tb_T := ((⟨"SlotMeshModel", "clashes", "(I)I"⟩, prog_7_method_29_code, 4, (some .int)), .int, k_X5_clashes, (3, 71, 0, 0), (1, 5, 1, [890, 889, 53, 42]))
def k_X5_station : List am_I := [(0, .aload_n 0, 1, [0], 0), (1, .iload_n 1, 1, [1], 0), (2, .invokevirtual 149, 3, [1, 112, 2, 1, 0, 779], 0), (5, .ifCond .ne 6, 3, [11], 0), (8, .bipush (-2), 2, [], -2), (10, .ireturn, 1, [], 0), (11, .iload_n 2, 1, [2], 0), (12, .tableswitch 98 0 5 #[40, 47, 56, 66, 73, 83], 40, [110, 0, 52, 1, 59, 2, 68, 3, 78, 4, 85, 5, 95], 0), (52, .aload_n 0, 1, [0], 0), (53, .getfield 13, 3, [5, 4, 1, 656], 0), (56, .iload_n 1, 1, [1], 0), (57, .iaload, 1, [], 0), (58, .ireturn, 1, [], 0), (59, .aload_n 0, 1, [0], 0), (60, .getfield 7, 3, [5, 0, 1, 652], 0), (63, .iconst 1, 1, [], 1), (64, .iload_n 1, 1, [1], 0), (65, .iadd, 1, [], 0), (66, .iaload, 1, [], 0), (67, .ireturn, 1, [], 0), (68, .aload_n 0, 1, [0], 0), (69, .getfield 7, 3, [5, 0, 1, 652], 0), (72, .bipush 17, 2, [], 17), (74, .iload_n 1, 1, [1], 0), (75, .iadd, 1, [], 0), (76, .iaload, 1, [], 0), (77, .ireturn, 1, [], 0), (78, .aload_n 0, 1, [0], 0), (79, .iconst 0, 1, [], 0), (80, .iload_n 1, 1, [1], 0), (81, .invokevirtual 143, 3, [1, 114, 3, 1, 0, 783], 0), (84, .ireturn, 1, [], 0), (85, .aload_n 0, 1, [0], 0), (86, .getfield 7, 3, [5, 0, 1, 652], 0), (89, .bipush 9, 2, [], 9), (91, .iload_n 1, 1, [1], 0), (92, .iadd, 1, [], 0), (93, .iaload, 1, [], 0), (94, .ireturn, 1, [], 0), (95, .aload_n 0, 1, [0], 0), (96, .iconst 0, 1, [], 0), (97, .iload_n 1, 1, [1], 0), (98, .invokevirtual 136, 3, [1, 116, 3, 1, 0, 790], 0), (101, .ifCond .eq 7, 3, [108], 0), (104, .iconst 1, 1, [], 1), (105, .goto 4, 3, [109], 0), (108, .iconst 0, 1, [], 0), (109, .ireturn, 1, [], 0), (110, .bipush (-3), 2, [], -3), (112, .ireturn, 1, [], 0)]
abbrev m_X5_station : Nat := 121
def tb_X5_station : tb_T := ((⟨"SlotMeshModel", "station", "(II)I"⟩, prog_7_method_30_code, 3, (some .int)), .int, k_X5_station, (2, 46, 0, 0), (1, 5, 2, [778, 776, 53, 777]))
def k_X5_slot : List am_I := [(0, .aload_n 0, 1, [0], 0), (1, .iload_n 1, 1, [1], 0), (2, .invokevirtual 152, 3, [1, 113, 2, 1, 0, 801], 0), (5, .ifCond .ne 6, 3, [11], 0), (8, .bipush (-2), 2, [], -2), (10, .ireturn, 1, [], 0), (11, .iload_n 2, 1, [2], 0), (12, .ifCond .ne 12, 3, [24], 0), (15, .aload_n 0, 1, [0], 0), (16, .iconst 0, 1, [], 0), (17, .iload_n 1, 1, [1], 0), (18, .invokevirtual 139, 3, [1, 115, 3, 1, 0, 805], 0), (21, .goto 33, 3, [54], 0), (24, .iload_n 2, 1, [2], 0), (25, .iconst 1, 1, [], 1), (26, .if_icmp .ne 12, 3, [38], 0), (29, .aload_n 0, 1, [0], 0), (30, .iconst 0, 1, [], 0), (31, .iload_n 1, 1, [1], 0), (32, .invokevirtual 155, 3, [1, 118, 3, 1, 0, 809], 0), (35, .goto 19, 3, [54], 0), (38, .iload_n 2, 1, [2], 0), (39, .iconst 2, 1, [], 2), (40, .if_icmp .ne 12, 3, [52], 0), (43, .aload_n 0, 1, [0], 0), (44, .iconst 0, 1, [], 0), (45, .iload_n 1, 1, [1], 0), (46, .invokevirtual 146, 3, [1, 119, 3, 1, 0, 813], 0), (49, .goto 5, 3, [54], 0), (52, .bipush (-3), 2, [], -3), (54, .ireturn, 1, [], 0)]
abbrev m_X5_slot : Nat := 122
def tb_X5_slot : tb_T := ((⟨"SlotMeshModel", "slot", "(II)I"⟩, prog_7_method_31_code, 3, (some .int)), .int, k_X5_slot, (3, 71, 0, 0), (1, 5, 2, [800, 798, 53, 799]))
def k_X5_lot : List am_I := [(0, .aload_n 0, 1, [0], 0), (1, .getfield 7, 3, [5, 0, 1, 652], 0), (4, .iload_n 1, 1, [1], 0), (5, .iconst 0, 1, [], 0), (6, .iadd, 1, [], 0), (7, .aload_n 0, 1, [0], 0), (8, .getfield 7, 3, [5, 0, 1, 652], 0), (11, .iload_n 1, 1, [1], 0), (12, .iconst 0, 1, [], 0), (13, .iadd, 1, [], 0), (14, .iaload, 1, [], 0), (15, .sipush 171, 3, [], 171), (18, .imul, 1, [], 0), (19, .sipush 11213, 3, [], 11213), (22, .iadd, 1, [], 0), (23, .ldc 158, 2, [], 53125), (25, .irem, 1, [], 0), (26, .iastore, 1, [], 0), (27, .aload_n 0, 1, [0], 0), (28, .getfield 7, 3, [5, 0, 1, 652], 0), (31, .iload_n 1, 1, [1], 0), (32, .iconst 0, 1, [], 0), (33, .iadd, 1, [], 0), (34, .iaload, 1, [], 0), (35, .bipush 64, 2, [], 64), (37, .idiv, 1, [], 0), (38, .iload_n 2, 1, [2], 0), (39, .irem, 1, [], 0), (40, .ireturn, 1, [], 0)]
abbrev m_X5_lot : Nat := 123
def tb_X5_lot : tb_T := ((⟨"SlotMeshModel", "lot", "(II)I"⟩, prog_7_method_32_code, 3, (some .int)), .int, k_X5_lot, (0, 0, 0, 0), (1, 5, 2, [840, 839, 53, 33]))
def k_X5_asking : List am_I := [(0, .aload_n 0, 1, [0], 0), (1, .iload_n 1, 1, [1], 0), (2, .iload_n 2, 1, [2], 0), (3, .invokevirtual 155, 3, [1, 118, 3, 1, 0, 809], 0), (6, .istore_n 3, 1, [3], 0), (7, .iconst 0, 1, [], 0), (8, .istore 4, 2, [4], 0), (10, .iconst 0, 1, [], 0), (11, .istore 5, 2, [5], 0), (13, .iload 5, 2, [5], 0), (15, .aload_n 0, 1, [0], 0), (16, .getfield 45, 3, [5, 1, 0, 653], 0), (19, .if_icmp .ge 48, 3, [67], 0), (22, .iload_n 3, 1, [3], 0), (23, .iload 5, 2, [5], 0), (25, .invokestatic 128, 3, [1, 94, 2, 1, 0, 787], 0), (28, .ifCond .eq 33, 3, [61], 0), (31, .aload_n 0, 1, [0], 0), (32, .iload_n 1, 1, [1], 0), (33, .bipush 16, 2, [], 16), (35, .invokevirtual 159, 3, [1, 123, 3, 1, 0, 837], 0), (38, .aload_n 0, 1, [0], 0), (39, .getfield 7, 3, [5, 0, 1, 652], 0), (42, .iload_n 1, 1, [1], 0), (43, .iconst 1, 1, [], 1), (44, .iadd, 1, [], 0), (45, .iload 5, 2, [5], 0), (47, .iadd, 1, [], 0), (48, .iaload, 1, [], 0), (49, .if_icmp .ge 12, 3, [61], 0), (52, .iload 4, 2, [4], 0), (54, .iconst 1, 1, [], 1), (55, .iload 5, 2, [5], 0), (57, .ishl, 1, [], 0), (58, .ior, 1, [], 0), (59, .istore 4, 2, [4], 0), (61, .iinc 5 1, 3, [5], 1), (64, .goto (-51), 3, [13], 0), (67, .iload 4, 2, [4], 0), (69, .ireturn, 1, [], 0)]
abbrev m_X5_asking : Nat := 124
def tb_X5_asking : tb_T := ((⟨"SlotMeshModel", "asking", "(II)I"⟩, prog_7_method_33_code, 6, (some .int)), .int, k_X5_asking, (3, 71, 0, 0), (1, 5, 2, [836, 835, 53, 32]))
def k_X5_hearing : List am_I := [(0, .iconst 0, 1, [], 0), (1, .istore 5, 2, [5], 0), (3, .iconst 0, 1, [], 0), (4, .istore 6, 2, [6], 0), (6, .iload 6, 2, [6], 0), (8, .aload_n 0, 1, [0], 0), (9, .getfield 45, 3, [5, 1, 0, 653], 0), (12, .if_icmp .ge 53, 3, [65], 0), (15, .iload 5, 2, [5], 0), (17, .iload_n 2, 1, [2], 0), (18, .iload 6, 2, [6], 0), (20, .invokestatic 128, 3, [1, 94, 2, 1, 0, 787], 0), (23, .ifCond .eq 32, 3, [55], 0), (26, .aload_n 0, 1, [0], 0), (27, .getfield 7, 3, [5, 0, 1, 652], 0), (30, .iload_n 1, 1, [1], 0), (31, .bipush 17, 2, [], 17), (33, .iadd, 1, [], 0), (34, .iload 6, 2, [6], 0), (36, .iadd, 1, [], 0), (37, .iaload, 1, [], 0), (38, .iload_n 3, 1, [3], 0), (39, .iand, 1, [], 0), (40, .invokestatic 132, 3, [1, 95, 1, 1, 0, 794], 0), (43, .iload 4, 2, [4], 0), (45, .if_icmp .lt 10, 3, [55], 0), (48, .iconst 1, 1, [], 1), (49, .iload 6, 2, [6], 0), (51, .ishl, 1, [], 0), (52, .goto 4, 3, [56], 0), (55, .iconst 0, 1, [], 0), (56, .ior, 1, [], 0), (57, .istore 5, 2, [5], 0), (59, .iinc 6 1, 3, [6], 1), (62, .goto (-56), 3, [6], 0), (65, .iload 5, 2, [5], 0), (67, .ireturn, 1, [], 0)]
abbrev m_X5_hearing : Nat := 125
def tb_X5_hearing : tb_T := ((⟨"SlotMeshModel", "hearing", "(IIII)I"⟩, prog_7_method_34_code, 7, (some .int)), .int, k_X5_hearing, (1, 22, 0, 0), (1, 5, 4, [845, 844, 53, 34]))
def k_X5_first : List am_I := [(0, .iconst (-1), 1, [], -1), (1, .istore_n 2, 1, [2], 0), (2, .iconst 0, 1, [], 0), (3, .istore_n 3, 1, [3], 0), (4, .iload_n 3, 1, [3], 0), (5, .aload_n 0, 1, [0], 0), (6, .getfield 45, 3, [5, 1, 0, 653], 0), (9, .if_icmp .ge 43, 3, [52], 0), (12, .iload_n 1, 1, [1], 0), (13, .iload_n 3, 1, [3], 0), (14, .invokestatic 128, 3, [1, 94, 2, 1, 0, 787], 0), (17, .ifCond .eq 27, 3, [44], 0), (20, .iload_n 2, 1, [2], 0), (21, .iconst (-1), 1, [], -1), (22, .if_icmp .eq 18, 3, [40], 0), (25, .aload_n 0, 1, [0], 0), (26, .getfield 35, 3, [5, 18, 1, 670], 0), (29, .iload_n 3, 1, [3], 0), (30, .iaload, 1, [], 0), (31, .aload_n 0, 1, [0], 0), (32, .getfield 35, 3, [5, 18, 1, 670], 0), (35, .iload_n 2, 1, [2], 0), (36, .iaload, 1, [], 0), (37, .if_icmp .le 7, 3, [44], 0), (40, .iload_n 3, 1, [3], 0), (41, .goto 4, 3, [45], 0), (44, .iload_n 2, 1, [2], 0), (45, .istore_n 2, 1, [2], 0), (46, .iinc 3 1, 3, [3], 1), (49, .goto (-45), 3, [4], 0), (52, .iload_n 2, 1, [2], 0), (53, .ireturn, 1, [], 0)]
abbrev m_X5_first : Nat := 126
def tb_X5_first : tb_T := ((⟨"SlotMeshModel", "first", "(I)I"⟩, prog_7_method_35_code, 4, (some .int)), .int, k_X5_first, (1, 21, 0, 0), (1, 5, 1, [853, 852, 53, 36]))
def k_X5_settles : List am_I := [(0, .iconst 0, 1, [], 0), (1, .istore 5, 2, [5], 0), (3, .iload 5, 2, [5], 0), (5, .aload_n 0, 1, [0], 0), (6, .getfield 45, 3, [5, 1, 0, 653], 0), (9, .if_icmp .ge 36, 3, [45], 0), (12, .aload_n 0, 1, [0], 0), (13, .getfield 35, 3, [5, 18, 1, 670], 0), (16, .iload 5, 2, [5], 0), (18, .iload_n 3, 1, [3], 0), (19, .iload 5, 2, [5], 0), (21, .invokestatic 128, 3, [1, 94, 2, 1, 0, 787], 0), (24, .ifCond .eq 13, 3, [37], 0), (27, .aload_n 0, 1, [0], 0), (28, .iload_n 1, 1, [1], 0), (29, .bipush 8, 2, [], 8), (31, .invokevirtual 159, 3, [1, 123, 3, 1, 0, 837], 0), (34, .goto 4, 3, [38], 0), (37, .iconst 0, 1, [], 0), (38, .iastore, 1, [], 0), (39, .iinc 5 1, 3, [5], 1), (42, .goto (-39), 3, [3], 0), (45, .iload_n 3, 1, [3], 0), (46, .istore 5, 2, [5], 0), (48, .iconst 0, 1, [], 0), (49, .istore 6, 2, [6], 0), (51, .iload 5, 2, [5], 0), (53, .ifCond .eq 87, 3, [140], 0), (56, .aload_n 0, 1, [0], 0), (57, .iload 5, 2, [5], 0), (59, .invokevirtual 162, 3, [1, 126, 2, 1, 0, 850], 0), (62, .istore 7, 2, [7], 0), (64, .iload 5, 2, [5], 0), (66, .iconst 1, 1, [], 1), (67, .iload 7, 2, [7], 0), (69, .ishl, 1, [], 0), (70, .iconst (-1), 1, [], -1), (71, .ixor, 1, [], 0), (72, .iand, 1, [], 0), (73, .istore 5, 2, [5], 0), (75, .aload_n 0, 1, [0], 0), (76, .getfield 7, 3, [5, 0, 1, 652], 0), (79, .iload_n 1, 1, [1], 0), (80, .bipush 17, 2, [], 17), (82, .iadd, 1, [], 0), (83, .iload 7, 2, [7], 0), (85, .iadd, 1, [], 0), (86, .iaload, 1, [], 0), (87, .iload 4, 2, [4], 0), (89, .iand, 1, [], 0), (90, .ifCond .eq 47, 3, [137], 0), (93, .aload_n 0, 1, [0], 0), (94, .iload_n 1, 1, [1], 0), (95, .iload 7, 2, [7], 0), (97, .invokevirtual 143, 3, [1, 114, 3, 1, 0, 783], 0), (100, .aload_n 0, 1, [0], 0), (101, .iload_n 1, 1, [1], 0), (102, .iload_n 2, 1, [2], 0), (103, .invokevirtual 139, 3, [1, 115, 3, 1, 0, 805], 0), (106, .iand, 1, [], 0), (107, .ifCond .ne 30, 3, [137], 0), (110, .aload_n 0, 1, [0], 0), (111, .getfield 7, 3, [5, 0, 1, 652], 0), (114, .iload_n 1, 1, [1], 0), (115, .bipush 9, 2, [], 9), (117, .iadd, 1, [], 0), (118, .iload 7, 2, [7], 0), (120, .iadd, 1, [], 0), (121, .dup2, 1, [], 0), (122, .iaload, 1, [], 0), (123, .iconst 1, 1, [], 1), (124, .iload_n 2, 1, [2], 0), (125, .ishl, 1, [], 0), (126, .ior, 1, [], 0), (127, .iastore, 1, [], 0), (128, .iload 6, 2, [6], 0), (130, .iconst 1, 1, [], 1), (131, .iload 7, 2, [7], 0), (133, .ishl, 1, [], 0), (134, .ior, 1, [], 0), (135, .istore 6, 2, [6], 0), (137, .goto (-86), 3, [51], 0), (140, .iload 6, 2, [6], 0), (142, .ireturn, 1, [], 0)]
abbrev m_X5_settles : Nat := 127
def tb_X5_settles : tb_T := ((⟨"SlotMeshModel", "settles", "(IIII)I"⟩, prog_7_method_36_code, 8, (some .int)), .int, k_X5_settles, (2, 46, 0, 0), (1, 5, 4, [849, 848, 53, 35]))
def k_X5_nearTo : List am_I := [(0, .iconst 0, 1, [], 0), (1, .istore_n 3, 1, [3], 0), (2, .iconst 0, 1, [], 0), (3, .istore 4, 2, [4], 0), (5, .iload 4, 2, [4], 0), (7, .aload_n 0, 1, [0], 0), (8, .getfield 45, 3, [5, 1, 0, 653], 0), (11, .if_icmp .ge 32, 3, [43], 0), (14, .iload_n 3, 1, [3], 0), (15, .aload_n 0, 1, [0], 0), (16, .iload_n 1, 1, [1], 0), (17, .iload 4, 2, [4], 0), (19, .invokevirtual 143, 3, [1, 114, 3, 1, 0, 783], 0), (22, .iload_n 2, 1, [2], 0), (23, .iand, 1, [], 0), (24, .ifCond .eq 10, 3, [34], 0), (27, .iconst 1, 1, [], 1), (28, .iload 4, 2, [4], 0), (30, .ishl, 1, [], 0), (31, .goto 4, 3, [35], 0), (34, .iconst 0, 1, [], 0), (35, .ior, 1, [], 0), (36, .istore_n 3, 1, [3], 0), (37, .iinc 4 1, 3, [4], 1), (40, .goto (-35), 3, [5], 0), (43, .iload_n 3, 1, [3], 0), (44, .ireturn, 1, [], 0)]
abbrev m_X5_nearTo : Nat := 128
def tb_X5_nearTo : tb_T := ((⟨"SlotMeshModel", "nearTo", "(II)I"⟩, prog_7_method_37_code, 5, (some .int)), .int, k_X5_nearTo, (2, 46, 0, 0), (1, 5, 2, [861, 860, 53, 38]))
def k_X5_shares : List am_I := [(0, .aload_n 0, 1, [0], 0), (1, .iload_n 1, 1, [1], 0), (2, .iload_n 3, 1, [3], 0), (3, .invokevirtual 164, 3, [1, 128, 3, 1, 0, 858], 0), (6, .istore 4, 2, [4], 0), (8, .iconst 0, 1, [], 0), (9, .istore 5, 2, [5], 0), (11, .iload 5, 2, [5], 0), (13, .aload_n 0, 1, [0], 0), (14, .getfield 45, 3, [5, 1, 0, 653], 0), (17, .if_icmp .ge 125, 3, [142], 0), (20, .aload_n 0, 1, [0], 0), (21, .getfield 7, 3, [5, 0, 1, 652], 0), (24, .iload_n 1, 1, [1], 0), (25, .iconst 1, 1, [], 1), (26, .iadd, 1, [], 0), (27, .iload 5, 2, [5], 0), (29, .iadd, 1, [], 0), (30, .iaload, 1, [], 0), (31, .istore 6, 2, [6], 0), (33, .iload_n 2, 1, [2], 0), (34, .iload 5, 2, [5], 0), (36, .invokestatic 128, 3, [1, 94, 2, 1, 0, 787], 0), (39, .ifCond .eq 36, 3, [75], 0), (42, .iload_n 3, 1, [3], 0), (43, .iload 5, 2, [5], 0), (45, .invokestatic 128, 3, [1, 94, 2, 1, 0, 787], 0), (48, .ifCond .eq 8, 3, [56], 0), (51, .iload 6, 2, [6], 0), (53, .goto 17, 3, [70], 0), (56, .iload 6, 2, [6], 0), (58, .iconst 2, 1, [], 2), (59, .if_icmp .ge 7, 3, [66], 0), (62, .iconst 1, 1, [], 1), (63, .goto 7, 3, [70], 0), (66, .iload 6, 2, [6], 0), (68, .iconst 2, 1, [], 2), (69, .idiv, 1, [], 0), (70, .istore 6, 2, [6], 0), (72, .goto 51, 3, [123], 0), (75, .iload 4, 2, [4], 0), (77, .iload_n 3, 1, [3], 0), (78, .ior, 1, [], 0), (79, .iload 5, 2, [5], 0), (81, .invokestatic 128, 3, [1, 94, 2, 1, 0, 787], 0), (84, .ifCond .ne 39, 3, [123], 0), (87, .aload_n 0, 1, [0], 0), (88, .getfield 7, 3, [5, 0, 1, 652], 0), (91, .iload_n 1, 1, [1], 0), (92, .bipush 17, 2, [], 17), (94, .iadd, 1, [], 0), (95, .iload 5, 2, [5], 0), (97, .iadd, 1, [], 0), (98, .iaload, 1, [], 0), (99, .iload 4, 2, [4], 0), (101, .iand, 1, [], 0), (102, .ifCond .eq 21, 3, [123], 0), (105, .iload 6, 2, [6], 0), (107, .bipush 8, 2, [], 8), (109, .if_icmp .le 8, 3, [117], 0), (112, .bipush 16, 2, [], 16), (114, .goto 7, 3, [121], 0), (117, .iconst 2, 1, [], 2), (118, .iload 6, 2, [6], 0), (120, .imul, 1, [], 0), (121, .istore 6, 2, [6], 0), (123, .aload_n 0, 1, [0], 0), (124, .getfield 7, 3, [5, 0, 1, 652], 0), (127, .iload_n 1, 1, [1], 0), (128, .iconst 1, 1, [], 1), (129, .iadd, 1, [], 0), (130, .iload 5, 2, [5], 0), (132, .iadd, 1, [], 0), (133, .iload 6, 2, [6], 0), (135, .iastore, 1, [], 0), (136, .iinc 5 1, 3, [5], 1), (139, .goto (-128), 3, [11], 0), (142, .return_, 1, [], 0)]
abbrev m_X5_shares : Nat := 129
def tb_X5_shares : tb_T := ((⟨"SlotMeshModel", "shares", "(III)V"⟩, prog_7_method_38_code, 7, none), .int, k_X5_shares, (3, 70, 0, 0), (1, 5, 3, [857, 856, 53, 37]))
def k_X5_cycleOf : List am_I := [(0, .iconst 1, 1, [], 1), (1, .aload_n 0, 1, [0], 0), (2, .getfield 45, 3, [5, 1, 0, 653], 0), (5, .ishl, 1, [], 0), (6, .iconst 1, 1, [], 1), (7, .isub, 1, [], 0), (8, .istore_n 3, 1, [3], 0), (9, .aload_n 0, 1, [0], 0), (10, .iload_n 1, 1, [1], 0), (11, .iload_n 2, 1, [2], 0), (12, .invokevirtual 167, 3, [1, 124, 3, 1, 0, 833], 0), (15, .istore 4, 2, [4], 0), (17, .aload_n 0, 1, [0], 0), (18, .iload_n 1, 1, [1], 0), (19, .iload_n 3, 1, [3], 0), (20, .iload 4, 2, [4], 0), (22, .iconst (-1), 1, [], -1), (23, .ixor, 1, [], 0), (24, .iand, 1, [], 0), (25, .iload 4, 2, [4], 0), (27, .iconst 2, 1, [], 2), (28, .invokevirtual 170, 3, [1, 125, 5, 1, 0, 842], 0), (31, .istore 5, 2, [5], 0), (33, .iload 4, 2, [4], 0), (35, .aload_n 0, 1, [0], 0), (36, .iload_n 1, 1, [1], 0), (37, .iload 4, 2, [4], 0), (39, .iload 5, 2, [5], 0), (41, .iconst 1, 1, [], 1), (42, .invokevirtual 170, 3, [1, 125, 5, 1, 0, 842], 0), (45, .iconst (-1), 1, [], -1), (46, .ixor, 1, [], 0), (47, .iand, 1, [], 0), (48, .istore 6, 2, [6], 0), (50, .aload_n 0, 1, [0], 0), (51, .iload_n 1, 1, [1], 0), (52, .iload_n 3, 1, [3], 0), (53, .iload 4, 2, [4], 0), (55, .iconst (-1), 1, [], -1), (56, .ixor, 1, [], 0), (57, .iand, 1, [], 0), (58, .iload 6, 2, [6], 0), (60, .iconst 1, 1, [], 1), (61, .invokevirtual 170, 3, [1, 125, 5, 1, 0, 842], 0), (64, .istore 7, 2, [7], 0), (66, .aload_n 0, 1, [0], 0), (67, .iload_n 1, 1, [1], 0), (68, .iload_n 2, 1, [2], 0), (69, .iload 6, 2, [6], 0), (71, .iload 7, 2, [7], 0), (73, .invokevirtual 174, 3, [1, 127, 5, 1, 0, 846], 0), (76, .istore 8, 2, [8], 0), (78, .aload_n 0, 1, [0], 0), (79, .iload_n 1, 1, [1], 0), (80, .iload 4, 2, [4], 0), (82, .iload 8, 2, [8], 0), (84, .invokevirtual 177, 3, [1, 129, 4, 0, 0, 854], 0), (87, .aload_n 0, 1, [0], 0), (88, .getfield 7, 3, [5, 0, 1, 652], 0), (91, .iload_n 1, 1, [1], 0), (92, .bipush 25, 2, [], 25), (94, .iadd, 1, [], 0), (95, .iload 4, 2, [4], 0), (97, .iastore, 1, [], 0), (98, .aload_n 0, 1, [0], 0), (99, .getfield 7, 3, [5, 0, 1, 652], 0), (102, .iload_n 1, 1, [1], 0), (103, .bipush 25, 2, [], 25), (105, .iadd, 1, [], 0), (106, .iconst 1, 1, [], 1), (107, .iadd, 1, [], 0), (108, .iload 5, 2, [5], 0), (110, .iastore, 1, [], 0), (111, .aload_n 0, 1, [0], 0), (112, .getfield 7, 3, [5, 0, 1, 652], 0), (115, .iload_n 1, 1, [1], 0), (116, .bipush 25, 2, [], 25), (118, .iadd, 1, [], 0), (119, .iconst 2, 1, [], 2), (120, .iadd, 1, [], 0), (121, .iload 6, 2, [6], 0), (123, .iastore, 1, [], 0), (124, .aload_n 0, 1, [0], 0), (125, .getfield 7, 3, [5, 0, 1, 652], 0), (128, .iload_n 1, 1, [1], 0), (129, .bipush 25, 2, [], 25), (131, .iadd, 1, [], 0), (132, .iconst 3, 1, [], 3), (133, .iadd, 1, [], 0), (134, .iload 7, 2, [7], 0), (136, .iastore, 1, [], 0), (137, .aload_n 0, 1, [0], 0), (138, .getfield 7, 3, [5, 0, 1, 652], 0), (141, .iload_n 1, 1, [1], 0), (142, .bipush 25, 2, [], 25), (144, .iadd, 1, [], 0), (145, .iconst 4, 1, [], 4), (146, .iadd, 1, [], 0), (147, .iload 8, 2, [8], 0), (149, .iastore, 1, [], 0), (150, .aload_n 0, 1, [0], 0), (151, .getfield 7, 3, [5, 0, 1, 652], 0), (154, .iload_n 1, 1, [1], 0), (155, .bipush 30, 2, [], 30), (157, .iadd, 1, [], 0), (158, .iconst 1, 1, [], 1), (159, .iastore, 1, [], 0), (160, .return_, 1, [], 0)]
abbrev m_X5_cycleOf : Nat := 130
def tb_X5_cycleOf : tb_T := ((⟨"SlotMeshModel", "cycleOf", "(II)V"⟩, prog_7_method_39_code, 9, none), .int, k_X5_cycleOf, (4, 96, 0, 0), (1, 5, 2, [832, 831, 53, 31]))
def k_X5_frameOf : List am_I := [(0, .iconst 0, 1, [], 0), (1, .istore_n 2, 1, [2], 0), (2, .iload_n 2, 1, [2], 0), (3, .aload_n 0, 1, [0], 0), (4, .getfield 49, 3, [5, 2, 0, 654], 0), (7, .aload_n 0, 1, [0], 0), (8, .getfield 52, 3, [5, 3, 0, 655], 0), (11, .imul, 1, [], 0), (12, .if_icmp .ge 20, 3, [32], 0), (15, .aload_n 0, 1, [0], 0), (16, .iload_n 1, 1, [1], 0), (17, .iload_n 2, 1, [2], 0), (18, .aload_n 0, 1, [0], 0), (19, .getfield 52, 3, [5, 3, 0, 655], 0), (22, .idiv, 1, [], 0), (23, .invokevirtual 180, 3, [1, 130, 3, 0, 0, 829], 0), (26, .iinc 2 1, 3, [2], 1), (29, .goto (-27), 3, [2], 0), (32, .return_, 1, [], 0)]
abbrev m_X5_frameOf : Nat := 131
def tb_X5_frameOf : tb_T := ((⟨"SlotMeshModel", "frameOf", "(I)V"⟩, prog_7_method_40_code, 3, none), .int, k_X5_frameOf, (5, 124, 0, 0), (1, 5, 1, [870, 869, 53, 39]))
def k_X5_keepPast : List am_I := [(0, .iconst 0, 1, [], 0), (1, .istore_n 1, 1, [1], 0), (2, .iload_n 1, 1, [1], 0), (3, .sipush 217, 3, [], 217), (6, .if_icmp .ge 36, 3, [42], 0), (9, .aload_n 0, 1, [0], 0), (10, .getfield 125, 3, [5, 5, 0, 657], 0), (13, .bipush 8, 2, [], 8), (15, .if_icmp .ne 27, 3, [42], 0), (18, .aload_n 0, 1, [0], 0), (19, .getfield 7, 3, [5, 0, 1, 652], 0), (22, .bipush 31, 2, [], 31), (24, .iload_n 1, 1, [1], 0), (25, .iadd, 1, [], 0), (26, .aload_n 0, 1, [0], 0), (27, .getfield 7, 3, [5, 0, 1, 652], 0), (30, .bipush 62, 2, [], 62), (32, .iload_n 1, 1, [1], 0), (33, .iadd, 1, [], 0), (34, .iaload, 1, [], 0), (35, .iastore, 1, [], 0), (36, .iinc 1 1, 3, [1], 1), (39, .goto (-37), 3, [2], 0), (42, .aload_n 0, 1, [0], 0), (43, .dup, 1, [], 0), (44, .getfield 125, 3, [5, 5, 0, 657], 0), (47, .aload_n 0, 1, [0], 0), (48, .getfield 125, 3, [5, 5, 0, 657], 0), (51, .bipush 8, 2, [], 8), (53, .if_icmp .ne 7, 3, [60], 0), (56, .iconst 1, 1, [], 1), (57, .goto 4, 3, [61], 0), (60, .iconst 0, 1, [], 0), (61, .isub, 1, [], 0), (62, .putfield 125, 3, [5, 5, 0, 657], 0), (65, .aload_n 0, 1, [0], 0), (66, .iconst 0, 1, [], 0), (67, .bipush 31, 2, [], 31), (69, .bipush 31, 2, [], 31), (71, .aload_n 0, 1, [0], 0), (72, .getfield 125, 3, [5, 5, 0, 657], 0), (75, .imul, 1, [], 0), (76, .iadd, 1, [], 0), (77, .invokevirtual 184, 3, [1, 96, 3, 0, 0, 825], 0), (80, .aload_n 0, 1, [0], 0), (81, .dup, 1, [], 0), (82, .getfield 125, 3, [5, 5, 0, 657], 0), (85, .iconst 1, 1, [], 1), (86, .iadd, 1, [], 0), (87, .putfield 125, 3, [5, 5, 0, 657], 0), (90, .return_, 1, [], 0)]
abbrev m_X5_keepPast : Nat := 132
def tb_X5_keepPast : tb_T := ((⟨"SlotMeshModel", "keepPast", "()V"⟩, prog_7_method_41_code, 2, none), .int, k_X5_keepPast, (1, 23, 0, 0), (1, 5, 0, [824, 823, 53, 29]))
def k_X5_cycle : List am_I := [(0, .aload_n 0, 1, [0], 0), (1, .iload_n 1, 1, [1], 0), (2, .invokevirtual 152, 3, [1, 113, 2, 1, 0, 801], 0), (5, .ifCond .ne 6, 3, [11], 0), (8, .bipush (-2), 2, [], -2), (10, .ireturn, 1, [], 0), (11, .aload_n 0, 1, [0], 0), (12, .invokevirtual 187, 3, [1, 132, 1, 0, 0, 821], 0), (15, .aload_n 0, 1, [0], 0), (16, .iconst 0, 1, [], 0), (17, .iload_n 1, 1, [1], 0), (18, .invokevirtual 180, 3, [1, 130, 3, 0, 0, 829], 0), (21, .aload_n 0, 1, [0], 0), (22, .getfield 7, 3, [5, 0, 1, 652], 0), (25, .bipush 29, 2, [], 29), (27, .iaload, 1, [], 0), (28, .ireturn, 1, [], 0)]
abbrev m_X5_cycle : Nat := 133
def tb_X5_cycle : tb_T := ((⟨"SlotMeshModel", "cycle", "(I)I"⟩, prog_7_method_42_code, 2, (some .int)), .int, k_X5_cycle, (5, 124, 0, 0), (1, 5, 1, [820, 818, 53, 819]))
def k_X5_frame : List am_I := [(0, .iload_n 1, 1, [1], 0), (1, .i2l, 1, [], 0), (2, .lconst 1, 1, [], 1), (3, .ldc2_w 190, 3, [], 12), (6, .invokestatic 57, 3, [1, 93, 3, 1, 0, 718], 0), (9, .ifCond .ne 6, 3, [15], 0), (12, .bipush (-3), 2, [], -3), (14, .ireturn, 1, [], 0), (15, .aload_n 0, 1, [0], 0), (16, .invokevirtual 187, 3, [1, 132, 1, 0, 0, 821], 0), (19, .iconst 0, 1, [], 0), (20, .istore_n 2, 1, [2], 0), (21, .iload_n 2, 1, [2], 0), (22, .iload_n 1, 1, [1], 0), (23, .if_icmp .ge 14, 3, [37], 0), (26, .aload_n 0, 1, [0], 0), (27, .iconst 0, 1, [], 0), (28, .invokevirtual 192, 3, [1, 131, 2, 0, 0, 867], 0), (31, .iinc 2 1, 3, [2], 1), (34, .goto (-13), 3, [21], 0), (37, .aload_n 0, 1, [0], 0), (38, .iconst 0, 1, [], 0), (39, .invokevirtual 195, 3, [1, 117, 2, 1, 0, 871], 0), (42, .invokestatic 132, 3, [1, 95, 1, 1, 0, 794], 0), (45, .ireturn, 1, [], 0)]
abbrev m_X5_frame : Nat := 134
def tb_X5_frame : tb_T := ((⟨"SlotMeshModel", "frame", "(I)I"⟩, prog_7_method_43_code, 3, (some .int)), .int, k_X5_frame, (6, 146, 0, 0), (1, 5, 1, [865, 863, 53, 864]))
def k_X5_give : List am_I := [(0, .aload_n 0, 1, [0], 0), (1, .iload_n 1, 1, [1], 0), (2, .invokevirtual 149, 3, [1, 112, 2, 1, 0, 779], 0), (5, .ifCond .eq 11, 3, [16], 0), (8, .aload_n 0, 1, [0], 0), (9, .iload_n 2, 1, [2], 0), (10, .invokevirtual 152, 3, [1, 113, 2, 1, 0, 801], 0), (13, .ifCond .ne 6, 3, [19], 0), (16, .bipush (-2), 2, [], -2), (18, .ireturn, 1, [], 0), (19, .aload_n 0, 1, [0], 0), (20, .getfield 7, 3, [5, 0, 1, 652], 0), (23, .bipush 9, 2, [], 9), (25, .iload_n 1, 1, [1], 0), (26, .iadd, 1, [], 0), (27, .iaload, 1, [], 0), (28, .iload_n 2, 1, [2], 0), (29, .invokestatic 128, 3, [1, 94, 2, 1, 0, 787], 0), (32, .ifCond .ne 6, 3, [38], 0), (35, .bipush (-4), 2, [], -4), (37, .ireturn, 1, [], 0), (38, .aload_n 0, 1, [0], 0), (39, .invokevirtual 187, 3, [1, 132, 1, 0, 0, 821], 0), (42, .aload_n 0, 1, [0], 0), (43, .getfield 7, 3, [5, 0, 1, 652], 0), (46, .bipush 9, 2, [], 9), (48, .iload_n 1, 1, [1], 0), (49, .iadd, 1, [], 0), (50, .dup2, 1, [], 0), (51, .iaload, 1, [], 0), (52, .iconst 1, 1, [], 1), (53, .iload_n 2, 1, [2], 0), (54, .ishl, 1, [], 0), (55, .iconst (-1), 1, [], -1), (56, .ixor, 1, [], 0), (57, .iand, 1, [], 0), (58, .iastore, 1, [], 0), (59, .aload_n 0, 1, [0], 0), (60, .getfield 7, 3, [5, 0, 1, 652], 0), (63, .bipush 9, 2, [], 9), (65, .iload_n 1, 1, [1], 0), (66, .iadd, 1, [], 0), (67, .iaload, 1, [], 0), (68, .invokestatic 132, 3, [1, 95, 1, 1, 0, 794], 0), (71, .ireturn, 1, [], 0)]
abbrev m_X5_give : Nat := 135
def tb_X5_give : tb_T := ((⟨"SlotMeshModel", "give", "(II)I"⟩, prog_7_method_44_code, 3, (some .int)), .int, k_X5_give, (2, 46, 0, 0), (1, 5, 2, [878, 876, 53, 877]))
def k_X5_areTwo : List am_I := [(0, .aload_n 0, 1, [0], 0), (1, .iload_n 1, 1, [1], 0), (2, .invokevirtual 149, 3, [1, 112, 2, 1, 0, 779], 0), (5, .ifCond .eq 20, 3, [25], 0), (8, .aload_n 0, 1, [0], 0), (9, .iload_n 2, 1, [2], 0), (10, .invokevirtual 149, 3, [1, 112, 2, 1, 0, 779], 0), (13, .ifCond .eq 12, 3, [25], 0), (16, .iload_n 1, 1, [1], 0), (17, .iload_n 2, 1, [2], 0), (18, .if_icmp .eq 7, 3, [25], 0), (21, .iconst 1, 1, [], 1), (22, .goto 4, 3, [26], 0), (25, .iconst 0, 1, [], 0), (26, .ireturn, 1, [], 0)]
abbrev m_X5_areTwo : Nat := 136
def tb_X5_areTwo : tb_T := ((⟨"SlotMeshModel", "areTwo", "(II)Z"⟩, prog_7_method_45_code, 3, (some .boolean)), .boolean, k_X5_areTwo, (2, 46, 0, 0), (1, 5, 2, [886, 885, 53, 41]))
def k_X5_join : List am_I := [(0, .aload_n 0, 1, [0], 0), (1, .iload_n 1, 1, [1], 0), (2, .iload_n 2, 1, [2], 0), (3, .invokevirtual 198, 3, [1, 136, 3, 1, 0, 883], 0), (6, .ifCond .ne 6, 3, [12], 0), (9, .bipush (-2), 2, [], -2), (11, .ireturn, 1, [], 0), (12, .aload_n 0, 1, [0], 0), (13, .getfield 7, 3, [5, 0, 1, 652], 0), (16, .bipush 17, 2, [], 17), (18, .iload_n 1, 1, [1], 0), (19, .iadd, 1, [], 0), (20, .iaload, 1, [], 0), (21, .iload_n 2, 1, [2], 0), (22, .invokestatic 128, 3, [1, 94, 2, 1, 0, 787], 0), (25, .ifCond .eq 6, 3, [31], 0), (28, .bipush (-4), 2, [], -4), (30, .ireturn, 1, [], 0), (31, .aload_n 0, 1, [0], 0), (32, .invokevirtual 187, 3, [1, 132, 1, 0, 0, 821], 0), (35, .aload_n 0, 1, [0], 0), (36, .iconst 0, 1, [], 0), (37, .iload_n 1, 1, [1], 0), (38, .iload_n 2, 1, [2], 0), (39, .invokevirtual 95, 3, [1, 106, 4, 0, 0, 767], 0), (42, .aload_n 0, 1, [0], 0), (43, .iconst 0, 1, [], 0), (44, .invokevirtual 201, 3, [1, 120, 2, 1, 0, 887], 0), (47, .ireturn, 1, [], 0)]
abbrev m_X5_join : Nat := 137
def tb_X5_join : tb_T := ((⟨"SlotMeshModel", "join", "(II)I"⟩, prog_7_method_46_code, 3, (some .int)), .int, k_X5_join, (4, 94, 0, 0), (1, 5, 2, [882, 880, 53, 881]))
def k_X5_part : List am_I := [(0, .aload_n 0, 1, [0], 0), (1, .iload_n 1, 1, [1], 0), (2, .iload_n 2, 1, [2], 0), (3, .invokevirtual 198, 3, [1, 136, 3, 1, 0, 883], 0), (6, .ifCond .ne 6, 3, [12], 0), (9, .bipush (-2), 2, [], -2), (11, .ireturn, 1, [], 0), (12, .aload_n 0, 1, [0], 0), (13, .getfield 7, 3, [5, 0, 1, 652], 0), (16, .bipush 17, 2, [], 17), (18, .iload_n 1, 1, [1], 0), (19, .iadd, 1, [], 0), (20, .iaload, 1, [], 0), (21, .iload_n 2, 1, [2], 0), (22, .invokestatic 128, 3, [1, 94, 2, 1, 0, 787], 0), (25, .ifCond .ne 6, 3, [31], 0), (28, .bipush (-4), 2, [], -4), (30, .ireturn, 1, [], 0), (31, .aload_n 0, 1, [0], 0), (32, .invokevirtual 187, 3, [1, 132, 1, 0, 0, 821], 0), (35, .aload_n 0, 1, [0], 0), (36, .getfield 7, 3, [5, 0, 1, 652], 0), (39, .bipush 17, 2, [], 17), (41, .iload_n 1, 1, [1], 0), (42, .iadd, 1, [], 0), (43, .dup2, 1, [], 0), (44, .iaload, 1, [], 0), (45, .iconst 1, 1, [], 1), (46, .iload_n 2, 1, [2], 0), (47, .ishl, 1, [], 0), (48, .iconst (-1), 1, [], -1), (49, .ixor, 1, [], 0), (50, .iand, 1, [], 0), (51, .iastore, 1, [], 0), (52, .aload_n 0, 1, [0], 0), (53, .getfield 7, 3, [5, 0, 1, 652], 0), (56, .bipush 17, 2, [], 17), (58, .iload_n 2, 1, [2], 0), (59, .iadd, 1, [], 0), (60, .dup2, 1, [], 0), (61, .iaload, 1, [], 0), (62, .iconst 1, 1, [], 1), (63, .iload_n 1, 1, [1], 0), (64, .ishl, 1, [], 0), (65, .iconst (-1), 1, [], -1), (66, .ixor, 1, [], 0), (67, .iand, 1, [], 0), (68, .iastore, 1, [], 0), (69, .aload_n 0, 1, [0], 0), (70, .iconst 0, 1, [], 0), (71, .invokevirtual 201, 3, [1, 120, 2, 1, 0, 887], 0), (74, .ireturn, 1, [], 0)]
abbrev m_X5_part : Nat := 138
def tb_X5_part : tb_T := ((⟨"SlotMeshModel", "part", "(II)I"⟩, prog_7_method_47_code, 3, (some .int)), .int, k_X5_part, (4, 94, 0, 0), (1, 5, 2, [894, 892, 53, 893]))
def k_X5_undo : List am_I := [(0, .aload_n 0, 1, [0], 0), (1, .getfield 125, 3, [5, 5, 0, 657], 0), (4, .ifCond .ne 6, 3, [10], 0), (7, .bipush (-4), 2, [], -4), (9, .ireturn, 1, [], 0), (10, .aload_n 0, 1, [0], 0), (11, .dup, 1, [], 0), (12, .getfield 125, 3, [5, 5, 0, 657], 0), (15, .iconst 1, 1, [], 1), (16, .isub, 1, [], 0), (17, .putfield 125, 3, [5, 5, 0, 657], 0), (20, .aload_n 0, 1, [0], 0), (21, .bipush 31, 2, [], 31), (23, .bipush 31, 2, [], 31), (25, .aload_n 0, 1, [0], 0), (26, .getfield 125, 3, [5, 5, 0, 657], 0), (29, .imul, 1, [], 0), (30, .iadd, 1, [], 0), (31, .iconst 0, 1, [], 0), (32, .invokevirtual 184, 3, [1, 96, 3, 0, 0, 825], 0), (35, .aload_n 0, 1, [0], 0), (36, .getfield 125, 3, [5, 5, 0, 657], 0), (39, .ireturn, 1, [], 0)]
abbrev m_X5_undo : Nat := 139
def tb_X5_undo : tb_T := ((⟨"SlotMeshModel", "undo", "()I"⟩, prog_7_method_48_code, 1, (some .int)), .int, k_X5_undo, (1, 23, 0, 0), (1, 5, 0, [898, 896, 53, 897]))
def k_X5_keep : List am_I := [(0, .iload_n 1, 1, [1], 0), (1, .i2l, 1, [], 0), (2, .lconst 0, 1, [], 0), (3, .lconst 1, 1, [], 1), (4, .invokestatic 57, 3, [1, 93, 3, 1, 0, 718], 0), (7, .ifCond .ne 6, 3, [13], 0), (10, .bipush (-2), 2, [], -2), (12, .ireturn, 1, [], 0), (13, .aload_n 0, 1, [0], 0), (14, .iconst 0, 1, [], 0), (15, .sipush 279, 3, [], 279), (18, .bipush 31, 2, [], 31), (20, .iload_n 1, 1, [1], 0), (21, .imul, 1, [], 0), (22, .iadd, 1, [], 0), (23, .invokevirtual 184, 3, [1, 96, 3, 0, 0, 825], 0), (26, .aload_n 0, 1, [0], 0), (27, .getfield 16, 3, [5, 6, 1, 658], 0), (30, .iload_n 1, 1, [1], 0), (31, .iconst 1, 1, [], 1), (32, .bastore, 1, [], 0), (33, .aload_n 0, 1, [0], 0), (34, .iconst 0, 1, [], 0), (35, .invokevirtual 195, 3, [1, 117, 2, 1, 0, 871], 0), (38, .invokestatic 132, 3, [1, 95, 1, 1, 0, 794], 0), (41, .ireturn, 1, [], 0)]
abbrev m_X5_keep : Nat := 140
def tb_X5_keep : tb_T := ((⟨"SlotMeshModel", "keep", "(I)I"⟩, prog_7_method_49_code, 2, (some .int)), .int, k_X5_keep, (3, 67, 0, 0), (1, 5, 1, [902, 900, 53, 901]))
def k_X5_back : List am_I := [(0, .iload_n 1, 1, [1], 0), (1, .i2l, 1, [], 0), (2, .lconst 0, 1, [], 0), (3, .lconst 1, 1, [], 1), (4, .invokestatic 57, 3, [1, 93, 3, 1, 0, 718], 0), (7, .ifCond .ne 6, 3, [13], 0), (10, .bipush (-2), 2, [], -2), (12, .ireturn, 1, [], 0), (13, .aload_n 0, 1, [0], 0), (14, .getfield 16, 3, [5, 6, 1, 658], 0), (17, .iload_n 1, 1, [1], 0), (18, .baload, 1, [], 0), (19, .ifCond .ne 6, 3, [25], 0), (22, .bipush (-4), 2, [], -4), (24, .ireturn, 1, [], 0), (25, .aload_n 0, 1, [0], 0), (26, .sipush 279, 3, [], 279), (29, .bipush 31, 2, [], 31), (31, .iload_n 1, 1, [1], 0), (32, .imul, 1, [], 0), (33, .iadd, 1, [], 0), (34, .iconst 0, 1, [], 0), (35, .invokevirtual 184, 3, [1, 96, 3, 0, 0, 825], 0), (38, .aload_n 0, 1, [0], 0), (39, .iconst 0, 1, [], 0), (40, .putfield 125, 3, [5, 5, 0, 657], 0), (43, .aload_n 0, 1, [0], 0), (44, .iconst 0, 1, [], 0), (45, .invokevirtual 195, 3, [1, 117, 2, 1, 0, 871], 0), (48, .invokestatic 132, 3, [1, 95, 1, 1, 0, 794], 0), (51, .ireturn, 1, [], 0)]
abbrev m_X5_back : Nat := 141
def tb_X5_back : tb_T := ((⟨"SlotMeshModel", "back", "(I)I"⟩, prog_7_method_50_code, 2, (some .int)), .int, k_X5_back, (3, 67, 0, 0), (1, 5, 1, [906, 904, 53, 905]))
def k_X5_phase : List am_I := [(0, .iload_n 1, 1, [1], 0), (1, .i2l, 1, [], 0), (2, .lconst 0, 1, [], 0), (3, .ldc2_w 204, 3, [], 4), (6, .invokestatic 57, 3, [1, 93, 3, 1, 0, 718], 0), (9, .ifCond .ne 8, 3, [17], 0), (12, .bipush (-3), 2, [], -3), (14, .goto 27, 3, [41], 0), (17, .aload_n 0, 1, [0], 0), (18, .getfield 7, 3, [5, 0, 1, 652], 0), (21, .bipush 30, 2, [], 30), (23, .iaload, 1, [], 0), (24, .ifCond .ne 8, 3, [32], 0), (27, .bipush (-4), 2, [], -4), (29, .goto 12, 3, [41], 0), (32, .aload_n 0, 1, [0], 0), (33, .getfield 7, 3, [5, 0, 1, 652], 0), (36, .bipush 25, 2, [], 25), (38, .iload_n 1, 1, [1], 0), (39, .iadd, 1, [], 0), (40, .iaload, 1, [], 0), (41, .ireturn, 1, [], 0)]
abbrev m_X5_phase : Nat := 142
def tb_X5_phase : tb_T := ((⟨"SlotMeshModel", "phase", "(I)I"⟩, prog_7_method_51_code, 2, (some .int)), .int, k_X5_phase, (1, 25, 0, 0), (1, 5, 1, [910, 908, 53, 909]))
def k_X5_isDone : List am_I := [(0, .aload_n 0, 1, [0], 0), (1, .iload_n 1, 1, [1], 0), (2, .invokevirtual 195, 3, [1, 117, 2, 1, 0, 871], 0), (5, .iconst 1, 1, [], 1), (6, .aload_n 0, 1, [0], 0), (7, .getfield 45, 3, [5, 1, 0, 653], 0), (10, .ishl, 1, [], 0), (11, .iconst 1, 1, [], 1), (12, .isub, 1, [], 0), (13, .if_icmp .ne 7, 3, [20], 0), (16, .iconst 1, 1, [], 1), (17, .goto 4, 3, [21], 0), (20, .iconst 0, 1, [], 0), (21, .ireturn, 1, [], 0)]
abbrev m_X5_isDone : Nat := 143
def tb_X5_isDone : tb_T := ((⟨"SlotMeshModel", "isDone", "(I)Z"⟩, prog_7_method_52_code, 2, (some .boolean)), .boolean, k_X5_isDone, (3, 67, 0, 0), (1, 5, 1, [919, 918, 53, 43]))
def k_X5_after : List am_I := [(0, .aload_n 0, 1, [0], 0), (1, .iconst 0, 1, [], 0), (2, .sipush 341, 3, [], 341), (5, .invokevirtual 184, 3, [1, 96, 3, 0, 0, 825], 0), (8, .iconst 0, 1, [], 0), (9, .istore_n 1, 1, [1], 0), (10, .iload_n 1, 1, [1], 0), (11, .bipush 12, 2, [], 12), (13, .if_icmp .ge 26, 3, [39], 0), (16, .aload_n 0, 1, [0], 0), (17, .sipush 341, 3, [], 341), (20, .invokevirtual 206, 3, [1, 143, 2, 1, 0, 916], 0), (23, .ifCond .ne 16, 3, [39], 0), (26, .aload_n 0, 1, [0], 0), (27, .sipush 341, 3, [], 341), (30, .invokevirtual 192, 3, [1, 131, 2, 0, 0, 867], 0), (33, .iinc 1 1, 3, [1], 1), (36, .goto (-26), 3, [10], 0), (39, .aload_n 0, 1, [0], 0), (40, .sipush 341, 3, [], 341), (43, .invokevirtual 206, 3, [1, 143, 2, 1, 0, 916], 0), (46, .ifCond .eq 7, 3, [53], 0), (49, .iload_n 1, 1, [1], 0), (50, .goto 4, 3, [54], 0), (53, .iconst (-1), 1, [], -1), (54, .ireturn, 1, [], 0)]
abbrev m_X5_after : Nat := 144
def tb_X5_after : tb_T := ((⟨"SlotMeshModel", "after", "()I"⟩, prog_7_method_53_code, 2, (some .int)), .int, k_X5_after, (6, 146, 0, 0), (1, 5, 0, [915, 913, 53, 914]))
def k_X5_spoils : List am_I := [(0, .aload_n 0, 1, [0], 0), (1, .iload_n 1, 1, [1], 0), (2, .iload_n 2, 1, [2], 0), (3, .invokevirtual 198, 3, [1, 136, 3, 1, 0, 883], 0), (6, .ifCond .ne 6, 3, [12], 0), (9, .bipush (-2), 2, [], -2), (11, .ireturn, 1, [], 0), (12, .aload_n 0, 1, [0], 0), (13, .getfield 7, 3, [5, 0, 1, 652], 0), (16, .bipush 17, 2, [], 17), (18, .iload_n 1, 1, [1], 0), (19, .iadd, 1, [], 0), (20, .iaload, 1, [], 0), (21, .iload_n 2, 1, [2], 0), (22, .invokestatic 128, 3, [1, 94, 2, 1, 0, 787], 0), (25, .ifCond .eq 6, 3, [31], 0), (28, .bipush (-4), 2, [], -4), (30, .ireturn, 1, [], 0), (31, .aload_n 0, 1, [0], 0), (32, .iconst 0, 1, [], 0), (33, .sipush 341, 3, [], 341), (36, .invokevirtual 184, 3, [1, 96, 3, 0, 0, 825], 0), (39, .aload_n 0, 1, [0], 0), (40, .sipush 341, 3, [], 341), (43, .iload_n 1, 1, [1], 0), (44, .iload_n 2, 1, [2], 0), (45, .invokevirtual 95, 3, [1, 106, 4, 0, 0, 767], 0), (48, .aload_n 0, 1, [0], 0), (49, .sipush 341, 3, [], 341), (52, .invokevirtual 201, 3, [1, 120, 2, 1, 0, 887], 0), (55, .aload_n 0, 1, [0], 0), (56, .iconst 0, 1, [], 0), (57, .invokevirtual 201, 3, [1, 120, 2, 1, 0, 887], 0), (60, .isub, 1, [], 0), (61, .ireturn, 1, [], 0)]
abbrev m_X5_spoils : Nat := 145
def tb_X5_spoils : tb_T := ((⟨"SlotMeshModel", "spoils", "(II)I"⟩, prog_7_method_54_code, 3, (some .int)), .int, k_X5_spoils, (4, 94, 0, 0), (1, 5, 2, [923, 921, 53, 922]))
def k_X5_fewest : List am_I := [(0, .iconst 0, 1, [], 0), (1, .istore_n 1, 1, [1], 0), (2, .iconst 0, 1, [], 0), (3, .istore_n 2, 1, [2], 0), (4, .iload_n 2, 1, [2], 0), (5, .aload_n 0, 1, [0], 0), (6, .getfield 45, 3, [5, 1, 0, 653], 0), (9, .if_icmp .ge 116, 3, [125], 0), (12, .iconst 0, 1, [], 0), (13, .istore_n 3, 1, [3], 0), (14, .iconst 0, 1, [], 0), (15, .istore 4, 2, [4], 0), (17, .iload 4, 2, [4], 0), (19, .iload_n 2, 1, [2], 0), (20, .if_icmp .ge 49, 3, [69], 0), (23, .iload_n 3, 1, [3], 0), (24, .aload_n 0, 1, [0], 0), (25, .getfield 13, 3, [5, 4, 1, 656], 0), (28, .iload 4, 2, [4], 0), (30, .iaload, 1, [], 0), (31, .ifCond .le 29, 3, [60], 0), (34, .aload_n 0, 1, [0], 0), (35, .iconst 0, 1, [], 0), (36, .iload_n 2, 1, [2], 0), (37, .invokevirtual 143, 3, [1, 114, 3, 1, 0, 783], 0), (40, .iload 4, 2, [4], 0), (42, .invokestatic 128, 3, [1, 94, 2, 1, 0, 787], 0), (45, .ifCond .eq 15, 3, [60], 0), (48, .iconst 1, 1, [], 1), (49, .aload_n 0, 1, [0], 0), (50, .getfield 38, 3, [5, 19, 1, 671], 0), (53, .iload 4, 2, [4], 0), (55, .iaload, 1, [], 0), (56, .ishl, 1, [], 0), (57, .goto 4, 3, [61], 0), (60, .iconst 0, 1, [], 0), (61, .ior, 1, [], 0), (62, .istore_n 3, 1, [3], 0), (63, .iinc 4 1, 3, [4], 1), (66, .goto (-49), 3, [17], 0), (69, .iconst 0, 1, [], 0), (70, .istore 4, 2, [4], 0), (72, .iload_n 3, 1, [3], 0), (73, .iload 4, 2, [4], 0), (75, .invokestatic 128, 3, [1, 94, 2, 1, 0, 787], 0), (78, .ifCond .eq 9, 3, [87], 0), (81, .iinc 4 1, 3, [4], 1), (84, .goto (-12), 3, [72], 0), (87, .aload_n 0, 1, [0], 0), (88, .getfield 38, 3, [5, 19, 1, 671], 0), (91, .iload_n 2, 1, [2], 0), (92, .iload 4, 2, [4], 0), (94, .iastore, 1, [], 0), (95, .aload_n 0, 1, [0], 0), (96, .getfield 13, 3, [5, 4, 1, 656], 0), (99, .iload_n 2, 1, [2], 0), (100, .iaload, 1, [], 0), (101, .ifCond .le 16, 3, [117], 0), (104, .iload 4, 2, [4], 0), (106, .iload_n 1, 1, [1], 0), (107, .if_icmp .lt 10, 3, [117], 0), (110, .iload 4, 2, [4], 0), (112, .iconst 1, 1, [], 1), (113, .iadd, 1, [], 0), (114, .goto 4, 3, [118], 0), (117, .iload_n 1, 1, [1], 0), (118, .istore_n 1, 1, [1], 0), (119, .iinc 2 1, 3, [2], 1), (122, .goto (-118), 3, [4], 0), (125, .iload_n 1, 1, [1], 0), (126, .ireturn, 1, [], 0)]
abbrev m_X5_fewest : Nat := 146
def tb_X5_fewest : tb_T := ((⟨"SlotMeshModel", "fewest", "()I"⟩, prog_7_method_55_code, 5, (some .int)), .int, k_X5_fewest, (2, 46, 0, 0), (1, 5, 0, [927, 925, 53, 926]))
def k_X5_hops : List am_I := [(0, .aload_n 0, 1, [0], 0), (1, .iload_n 1, 1, [1], 0), (2, .iload_n 2, 1, [2], 0), (3, .invokevirtual 198, 3, [1, 136, 3, 1, 0, 883], 0), (6, .ifCond .ne 6, 3, [12], 0), (9, .bipush (-2), 2, [], -2), (11, .ireturn, 1, [], 0), (12, .iconst 1, 1, [], 1), (13, .iload_n 1, 1, [1], 0), (14, .ishl, 1, [], 0), (15, .istore_n 3, 1, [3], 0), (16, .iconst 1, 1, [], 1), (17, .istore 4, 2, [4], 0), (19, .iload 4, 2, [4], 0), (21, .aload_n 0, 1, [0], 0), (22, .getfield 45, 3, [5, 1, 0, 653], 0), (25, .if_icmp .ge 38, 3, [63], 0), (28, .iload_n 3, 1, [3], 0), (29, .aload_n 0, 1, [0], 0), (30, .iconst 0, 1, [], 0), (31, .iconst 1, 1, [], 1), (32, .aload_n 0, 1, [0], 0), (33, .getfield 45, 3, [5, 1, 0, 653], 0), (36, .ishl, 1, [], 0), (37, .iconst 1, 1, [], 1), (38, .isub, 1, [], 0), (39, .iload_n 3, 1, [3], 0), (40, .iconst 1, 1, [], 1), (41, .invokevirtual 170, 3, [1, 125, 5, 1, 0, 842], 0), (44, .ior, 1, [], 0), (45, .istore_n 3, 1, [3], 0), (46, .iload_n 3, 1, [3], 0), (47, .iload_n 2, 1, [2], 0), (48, .invokestatic 128, 3, [1, 94, 2, 1, 0, 787], 0), (51, .ifCond .eq 6, 3, [57], 0), (54, .iload 4, 2, [4], 0), (56, .ireturn, 1, [], 0), (57, .iinc 4 1, 3, [4], 1), (60, .goto (-41), 3, [19], 0), (63, .iconst (-1), 1, [], -1), (64, .ireturn, 1, [], 0)]
abbrev m_X5_hops : Nat := 147
def tb_X5_hops : tb_T := ((⟨"SlotMeshModel", "hops", "(II)I"⟩, prog_7_method_56_code, 5, (some .int)), .int, k_X5_hops, (3, 68, 0, 0), (1, 5, 2, [931, 929, 53, 930]))
def k_X5_isTally : List am_I := [(0, .iload_n 0, 1, [0], 0), (1, .i2l, 1, [], 0), (2, .lconst 0, 1, [], 0), (3, .ldc2_w 209, 3, [], 2), (6, .invokestatic 57, 3, [1, 93, 3, 1, 0, 718], 0), (9, .ireturn, 1, [], 0)]
abbrev m_X5_isTally : Nat := 148
def tb_X5_isTally : tb_T := ((⟨"SlotMeshModel", "isTally", "(I)Z"⟩, prog_7_method_57_code, 1, (some .boolean)), .boolean, k_X5_isTally, (1, 25, 0, 0), (0, 5, 1, [938, 937, 53]))
def k_X5_isNumber : List am_I := [(0, .iload_n 0, 1, [0], 0), (1, .i2l, 1, [], 0), (2, .ldc2_w 211, 3, [], -999), (5, .ldc2_w 213, 3, [], 999), (8, .invokestatic 57, 3, [1, 93, 3, 1, 0, 718], 0), (11, .ireturn, 1, [], 0)]
abbrev m_X5_isNumber : Nat := 149
def tb_X5_isNumber : tb_T := ((⟨"SlotMeshModel", "isNumber", "(I)Z"⟩, prog_7_method_58_code, 1, (some .boolean)), .boolean, k_X5_isNumber, (1, 25, 0, 0), (0, 5, 1, [943, 942, 53]))
def k_X5_tally : List am_I := [(0, .iload_n 1, 1, [1], 0), (1, .invokestatic 215, 3, [1, 148, 1, 1, 0, 936], 0), (4, .ifCond .ne 6, 3, [10], 0), (7, .bipush (-2), 2, [], -2), (9, .ireturn, 1, [], 0), (10, .iload_n 2, 1, [2], 0), (11, .i2l, 1, [], 0), (12, .lconst 0, 1, [], 0), (13, .ldc2_w 218, 3, [], 3), (16, .invokestatic 57, 3, [1, 93, 3, 1, 0, 718], 0), (19, .ifCond .eq 26, 3, [45], 0), (22, .iload_n 3, 1, [3], 0), (23, .invokestatic 220, 3, [1, 149, 1, 1, 0, 941], 0), (26, .ifCond .eq 19, 3, [45], 0), (29, .iload 4, 2, [4], 0), (31, .invokestatic 220, 3, [1, 149, 1, 1, 0, 941], 0), (34, .ifCond .eq 11, 3, [45], 0), (37, .iload 5, 2, [5], 0), (39, .invokestatic 220, 3, [1, 149, 1, 1, 0, 941], 0), (42, .ifCond .ne 6, 3, [48], 0), (45, .bipush (-3), 2, [], -3), (47, .ireturn, 1, [], 0), (48, .aload_n 0, 1, [0], 0), (49, .getfield 23, 3, [5, 9, 1, 661], 0), (52, .iload_n 1, 1, [1], 0), (53, .iload_n 2, 1, [2], 0), (54, .iastore, 1, [], 0), (55, .aload_n 0, 1, [0], 0), (56, .getfield 26, 3, [5, 10, 1, 662], 0), (59, .bipush 8, 2, [], 8), (61, .iload_n 1, 1, [1], 0), (62, .imul, 1, [], 0), (63, .iload_n 3, 1, [3], 0), (64, .iastore, 1, [], 0), (65, .aload_n 0, 1, [0], 0), (66, .getfield 26, 3, [5, 10, 1, 662], 0), (69, .bipush 8, 2, [], 8), (71, .iload_n 1, 1, [1], 0), (72, .imul, 1, [], 0), (73, .iconst 1, 1, [], 1), (74, .iadd, 1, [], 0), (75, .iload 4, 2, [4], 0), (77, .iastore, 1, [], 0), (78, .aload_n 0, 1, [0], 0), (79, .getfield 26, 3, [5, 10, 1, 662], 0), (82, .bipush 8, 2, [], 8), (84, .iload_n 1, 1, [1], 0), (85, .imul, 1, [], 0), (86, .iconst 2, 1, [], 2), (87, .iadd, 1, [], 0), (88, .iload 5, 2, [5], 0), (90, .iastore, 1, [], 0), (91, .iload_n 2, 1, [2], 0), (92, .ireturn, 1, [], 0)]
abbrev m_X5_tally : Nat := 150
def tb_X5_tally : tb_T := ((⟨"SlotMeshModel", "tally", "(IIIII)I"⟩, prog_7_method_59_code, 6, (some .int)), .int, k_X5_tally, (2, 45, 0, 0), (1, 5, 5, [935, 933, 53, 934]))
def k_X5_append : List am_I := [(0, .iload_n 1, 1, [1], 0), (1, .invokestatic 215, 3, [1, 148, 1, 1, 0, 936], 0), (4, .ifCond .eq 10, 3, [14], 0), (7, .iload_n 2, 1, [2], 0), (8, .invokestatic 215, 3, [1, 148, 1, 1, 0, 936], 0), (11, .ifCond .ne 6, 3, [17], 0), (14, .bipush (-2), 2, [], -2), (16, .ireturn, 1, [], 0), (17, .aload_n 0, 1, [0], 0), (18, .getfield 23, 3, [5, 9, 1, 661], 0), (21, .iload_n 1, 1, [1], 0), (22, .iaload, 1, [], 0), (23, .ifCond .lt 12, 3, [35], 0), (26, .aload_n 0, 1, [0], 0), (27, .getfield 23, 3, [5, 9, 1, 661], 0), (30, .iload_n 2, 1, [2], 0), (31, .iaload, 1, [], 0), (32, .ifCond .ge 6, 3, [38], 0), (35, .bipush (-11), 2, [], -11), (37, .ireturn, 1, [], 0), (38, .aload_n 0, 1, [0], 0), (39, .getfield 23, 3, [5, 9, 1, 661], 0), (42, .iload_n 2, 1, [2], 0), (43, .iaload, 1, [], 0), (44, .istore_n 3, 1, [3], 0), (45, .aload_n 0, 1, [0], 0), (46, .getfield 23, 3, [5, 9, 1, 661], 0), (49, .iload_n 1, 1, [1], 0), (50, .iaload, 1, [], 0), (51, .iload_n 3, 1, [3], 0), (52, .iadd, 1, [], 0), (53, .bipush 8, 2, [], 8), (55, .if_icmp .le 6, 3, [61], 0), (58, .bipush (-13), 2, [], -13), (60, .ireturn, 1, [], 0), (61, .iconst 0, 1, [], 0), (62, .istore 4, 2, [4], 0), (64, .iload 4, 2, [4], 0), (66, .iload_n 3, 1, [3], 0), (67, .if_icmp .ge 47, 3, [114], 0), (70, .aload_n 0, 1, [0], 0), (71, .getfield 26, 3, [5, 10, 1, 662], 0), (74, .bipush 8, 2, [], 8), (76, .iload_n 1, 1, [1], 0), (77, .imul, 1, [], 0), (78, .aload_n 0, 1, [0], 0), (79, .getfield 23, 3, [5, 9, 1, 661], 0), (82, .iload_n 1, 1, [1], 0), (83, .iaload, 1, [], 0), (84, .iadd, 1, [], 0), (85, .aload_n 0, 1, [0], 0), (86, .getfield 26, 3, [5, 10, 1, 662], 0), (89, .bipush 8, 2, [], 8), (91, .iload_n 2, 1, [2], 0), (92, .imul, 1, [], 0), (93, .iload 4, 2, [4], 0), (95, .iadd, 1, [], 0), (96, .iaload, 1, [], 0), (97, .iastore, 1, [], 0), (98, .aload_n 0, 1, [0], 0), (99, .getfield 23, 3, [5, 9, 1, 661], 0), (102, .iload_n 1, 1, [1], 0), (103, .dup2, 1, [], 0), (104, .iaload, 1, [], 0), (105, .iconst 1, 1, [], 1), (106, .iadd, 1, [], 0), (107, .iastore, 1, [], 0), (108, .iinc 4 1, 3, [4], 1), (111, .goto (-47), 3, [64], 0), (114, .aload_n 0, 1, [0], 0), (115, .getfield 23, 3, [5, 9, 1, 661], 0), (118, .iload_n 1, 1, [1], 0), (119, .iaload, 1, [], 0), (120, .ireturn, 1, [], 0)]
abbrev m_X5_append : Nat := 151
def tb_X5_append : tb_T := ((⟨"SlotMeshModel", "append", "(II)I"⟩, prog_7_method_60_code, 5, (some .int)), .int, k_X5_append, (2, 45, 0, 0), (1, 5, 2, [949, 947, 53, 948]))
def k_X5_reckon : List am_I := [(0, .iload_n 1, 1, [1], 0), (1, .invokestatic 215, 3, [1, 148, 1, 1, 0, 936], 0), (4, .ifCond .ne 6, 3, [10], 0), (7, .bipush (-2), 2, [], -2), (9, .ireturn, 1, [], 0), (10, .iload_n 2, 1, [2], 0), (11, .i2l, 1, [], 0), (12, .lconst 0, 1, [], 0), (13, .ldc2_w 218, 3, [], 3), (16, .invokestatic 57, 3, [1, 93, 3, 1, 0, 718], 0), (19, .ifCond .ne 6, 3, [25], 0), (22, .bipush (-3), 2, [], -3), (24, .ireturn, 1, [], 0), (25, .aload_n 0, 1, [0], 0), (26, .getfield 23, 3, [5, 9, 1, 661], 0), (29, .iload_n 1, 1, [1], 0), (30, .iaload, 1, [], 0), (31, .ifCond .ge 6, 3, [37], 0), (34, .bipush (-11), 2, [], -11), (36, .ireturn, 1, [], 0), (37, .aload_n 0, 1, [0], 0), (38, .getfield 23, 3, [5, 9, 1, 661], 0), (41, .iload_n 1, 1, [1], 0), (42, .iaload, 1, [], 0), (43, .ifCond .ne 18, 3, [61], 0), (46, .iload_n 2, 1, [2], 0), (47, .i2l, 1, [], 0), (48, .lconst 1, 1, [], 1), (49, .ldc2_w 209, 3, [], 2), (52, .invokestatic 57, 3, [1, 93, 3, 1, 0, 718], 0), (55, .ifCond .eq 6, 3, [61], 0), (58, .bipush (-12), 2, [], -12), (60, .ireturn, 1, [], 0), (61, .iconst 0, 1, [], 0), (62, .istore_n 3, 1, [3], 0), (63, .sipush (-1000), 3, [], -1000), (66, .istore 4, 2, [4], 0), (68, .sipush 1000, 3, [], 1000), (71, .istore 5, 2, [5], 0), (73, .iconst 0, 1, [], 0), (74, .istore 6, 2, [6], 0), (76, .iconst 0, 1, [], 0), (77, .istore 7, 2, [7], 0), (79, .iload 7, 2, [7], 0), (81, .aload_n 0, 1, [0], 0), (82, .getfield 23, 3, [5, 9, 1, 661], 0), (85, .iload_n 1, 1, [1], 0), (86, .iaload, 1, [], 0), (87, .if_icmp .ge 90, 3, [177], 0), (90, .aload_n 0, 1, [0], 0), (91, .getfield 26, 3, [5, 10, 1, 662], 0), (94, .bipush 8, 2, [], 8), (96, .iload_n 1, 1, [1], 0), (97, .imul, 1, [], 0), (98, .iload 7, 2, [7], 0), (100, .iadd, 1, [], 0), (101, .iaload, 1, [], 0), (102, .istore 8, 2, [8], 0), (104, .iload_n 3, 1, [3], 0), (105, .iload 8, 2, [8], 0), (107, .iadd, 1, [], 0), (108, .istore_n 3, 1, [3], 0), (109, .iload 8, 2, [8], 0), (111, .iload 4, 2, [4], 0), (113, .if_icmp .le 8, 3, [121], 0), (116, .iload 8, 2, [8], 0), (118, .goto 5, 3, [123], 0), (121, .iload 4, 2, [4], 0), (123, .istore 4, 2, [4], 0), (125, .iload 8, 2, [8], 0), (127, .iload 5, 2, [5], 0), (129, .if_icmp .ge 8, 3, [137], 0), (132, .iload 8, 2, [8], 0), (134, .goto 5, 3, [139], 0), (137, .iload 5, 2, [5], 0), (139, .istore 5, 2, [5], 0), (141, .iload 6, 2, [6], 0), (143, .iload 7, 2, [7], 0), (145, .iconst 2, 1, [], 2), (146, .irem, 1, [], 0), (147, .ifCond .ne 13, 3, [160], 0), (150, .iload 7, 2, [7], 0), (152, .iconst 1, 1, [], 1), (153, .iadd, 1, [], 0), (154, .iload 8, 2, [8], 0), (156, .imul, 1, [], 0), (157, .goto 11, 3, [168], 0), (160, .iload 7, 2, [7], 0), (162, .iconst 1, 1, [], 1), (163, .iadd, 1, [], 0), (164, .ineg, 1, [], 0), (165, .iload 8, 2, [8], 0), (167, .imul, 1, [], 0), (168, .iadd, 1, [], 0), (169, .istore 6, 2, [6], 0), (171, .iinc 7 1, 3, [7], 1), (174, .goto (-95), 3, [79], 0), (177, .ldc 223, 2, [], 50000), (179, .iload_n 2, 1, [2], 0), (180, .ifCond .ne 7, 3, [187], 0), (183, .iload_n 3, 1, [3], 0), (184, .goto 25, 3, [209], 0), (187, .iload_n 2, 1, [2], 0), (188, .iconst 1, 1, [], 1), (189, .if_icmp .ne 8, 3, [197], 0), (192, .iload 4, 2, [4], 0), (194, .goto 15, 3, [209], 0), (197, .iload_n 2, 1, [2], 0), (198, .iconst 2, 1, [], 2), (199, .if_icmp .ne 8, 3, [207], 0), (202, .iload 5, 2, [5], 0), (204, .goto 5, 3, [209], 0), (207, .iload 6, 2, [6], 0), (209, .iadd, 1, [], 0), (210, .ireturn, 1, [], 0)]
abbrev m_X5_reckon : Nat := 152
def tb_X5_reckon : tb_T := ((⟨"SlotMeshModel", "reckon", "(II)I"⟩, prog_7_method_61_code, 9, (some .int)), .int, k_X5_reckon, (2, 45, 0, 0), (1, 5, 2, [953, 951, 53, 952]))
def k_X5_pop : List am_I := [(0, .iload_n 1, 1, [1], 0), (1, .invokestatic 215, 3, [1, 148, 1, 1, 0, 936], 0), (4, .ifCond .ne 6, 3, [10], 0), (7, .bipush (-2), 2, [], -2), (9, .ireturn, 1, [], 0), (10, .aload_n 0, 1, [0], 0), (11, .getfield 23, 3, [5, 9, 1, 661], 0), (14, .iload_n 1, 1, [1], 0), (15, .iaload, 1, [], 0), (16, .iconst 1, 1, [], 1), (17, .if_icmp .ge 20, 3, [37], 0), (20, .aload_n 0, 1, [0], 0), (21, .getfield 23, 3, [5, 9, 1, 661], 0), (24, .iload_n 1, 1, [1], 0), (25, .iaload, 1, [], 0), (26, .ifCond .ge 8, 3, [34], 0), (29, .bipush (-11), 2, [], -11), (31, .goto 5, 3, [36], 0), (34, .bipush (-12), 2, [], -12), (36, .ireturn, 1, [], 0), (37, .aload_n 0, 1, [0], 0), (38, .getfield 23, 3, [5, 9, 1, 661], 0), (41, .iload_n 1, 1, [1], 0), (42, .dup2, 1, [], 0), (43, .iaload, 1, [], 0), (44, .iconst 1, 1, [], 1), (45, .isub, 1, [], 0), (46, .iastore, 1, [], 0), (47, .aload_n 0, 1, [0], 0), (48, .getfield 26, 3, [5, 10, 1, 662], 0), (51, .bipush 8, 2, [], 8), (53, .iload_n 1, 1, [1], 0), (54, .imul, 1, [], 0), (55, .aload_n 0, 1, [0], 0), (56, .getfield 23, 3, [5, 9, 1, 661], 0), (59, .iload_n 1, 1, [1], 0), (60, .iaload, 1, [], 0), (61, .iadd, 1, [], 0), (62, .iaload, 1, [], 0), (63, .ldc 223, 2, [], 50000), (65, .iadd, 1, [], 0), (66, .ireturn, 1, [], 0)]
abbrev m_X5_pop : Nat := 153
def tb_X5_pop : tb_T := ((⟨"SlotMeshModel", "pop", "(I)I"⟩, prog_7_method_62_code, 2, (some .int)), .int, k_X5_pop, (2, 45, 0, 0), (1, 5, 1, [958, 956, 53, 957]))
def k_X5_held : List am_I := [(0, .iload_n 0, 1, [0], 0), (1, .sipush 999, 3, [], 999), (4, .if_icmp .le 9, 3, [13], 0), (7, .sipush 999, 3, [], 999), (10, .goto 17, 3, [27], 0), (13, .iload_n 0, 1, [0], 0), (14, .sipush (-999), 3, [], -999), (17, .if_icmp .ge 9, 3, [26], 0), (20, .sipush (-999), 3, [], -999), (23, .goto 4, 3, [27], 0), (26, .iload_n 0, 1, [0], 0), (27, .ireturn, 1, [], 0)]
abbrev m_X5_held : Nat := 154
def tb_X5_held : tb_T := ((⟨"SlotMeshModel", "held", "(I)I"⟩, prog_7_method_63_code, 1, (some .int)), .int, k_X5_held, (0, 0, 0, 0), (0, 5, 1, [965, 964, 53]))
def k_X5_each : List am_I := [(0, .iload_n 1, 1, [1], 0), (1, .invokestatic 215, 3, [1, 148, 1, 1, 0, 936], 0), (4, .ifCond .ne 6, 3, [10], 0), (7, .bipush (-2), 2, [], -2), (9, .ireturn, 1, [], 0), (10, .iload_n 2, 1, [2], 0), (11, .i2l, 1, [], 0), (12, .lconst 0, 1, [], 0), (13, .ldc2_w 209, 3, [], 2), (16, .invokestatic 57, 3, [1, 93, 3, 1, 0, 718], 0), (19, .ifCond .ne 6, 3, [25], 0), (22, .bipush (-3), 2, [], -3), (24, .ireturn, 1, [], 0), (25, .aload_n 0, 1, [0], 0), (26, .getfield 23, 3, [5, 9, 1, 661], 0), (29, .iload_n 1, 1, [1], 0), (30, .iaload, 1, [], 0), (31, .ifCond .ge 6, 3, [37], 0), (34, .bipush (-11), 2, [], -11), (36, .ireturn, 1, [], 0), (37, .iconst 0, 1, [], 0), (38, .istore_n 3, 1, [3], 0), (39, .bipush 8, 2, [], 8), (41, .iload_n 1, 1, [1], 0), (42, .imul, 1, [], 0), (43, .istore 4, 2, [4], 0), (45, .iload 4, 2, [4], 0), (47, .bipush 8, 2, [], 8), (49, .iload_n 1, 1, [1], 0), (50, .imul, 1, [], 0), (51, .aload_n 0, 1, [0], 0), (52, .getfield 23, 3, [5, 9, 1, 661], 0), (55, .iload_n 1, 1, [1], 0), (56, .iaload, 1, [], 0), (57, .iadd, 1, [], 0), (58, .if_icmp .ge 56, 3, [114], 0), (61, .aload_n 0, 1, [0], 0), (62, .getfield 26, 3, [5, 10, 1, 662], 0), (65, .iload 4, 2, [4], 0), (67, .iaload, 1, [], 0), (68, .istore 5, 2, [5], 0), (70, .iload_n 3, 1, [3], 0), (71, .iload 5, 2, [5], 0), (73, .iadd, 1, [], 0), (74, .istore_n 3, 1, [3], 0), (75, .aload_n 0, 1, [0], 0), (76, .getfield 26, 3, [5, 10, 1, 662], 0), (79, .iload 4, 2, [4], 0), (81, .iload_n 2, 1, [2], 0), (82, .ifCond .ne 9, 3, [91], 0), (85, .iload 5, 2, [5], 0), (87, .ineg, 1, [], 0), (88, .goto 19, 3, [107], 0), (91, .iload_n 2, 1, [2], 0), (92, .iconst 1, 1, [], 1), (93, .if_icmp .ne 10, 3, [103], 0), (96, .iconst 2, 1, [], 2), (97, .iload 5, 2, [5], 0), (99, .imul, 1, [], 0), (100, .goto 4, 3, [104], 0), (103, .iload_n 3, 1, [3], 0), (104, .invokestatic 224, 3, [1, 154, 1, 1, 0, 963], 0), (107, .iastore, 1, [], 0), (108, .iinc 4 1, 3, [4], 1), (111, .goto (-66), 3, [45], 0), (114, .aload_n 0, 1, [0], 0), (115, .getfield 23, 3, [5, 9, 1, 661], 0), (118, .iload_n 1, 1, [1], 0), (119, .iaload, 1, [], 0), (120, .ireturn, 1, [], 0)]
abbrev m_X5_each : Nat := 155
def tb_X5_each : tb_T := ((⟨"SlotMeshModel", "each", "(II)I"⟩, prog_7_method_64_code, 6, (some .int)), .int, k_X5_each, (2, 45, 0, 0), (1, 5, 2, [962, 960, 53, 961]))
def k_X5_drop : List am_I := [(0, .iload_n 1, 1, [1], 0), (1, .invokestatic 215, 3, [1, 148, 1, 1, 0, 936], 0), (4, .ifCond .ne 6, 3, [10], 0), (7, .bipush (-2), 2, [], -2), (9, .ireturn, 1, [], 0), (10, .aload_n 0, 1, [0], 0), (11, .getfield 23, 3, [5, 9, 1, 661], 0), (14, .iload_n 1, 1, [1], 0), (15, .iaload, 1, [], 0), (16, .istore_n 2, 1, [2], 0), (17, .aload_n 0, 1, [0], 0), (18, .getfield 23, 3, [5, 9, 1, 661], 0), (21, .iload_n 1, 1, [1], 0), (22, .iconst (-1), 1, [], -1), (23, .iastore, 1, [], 0), (24, .iload_n 2, 1, [2], 0), (25, .ifCond .ge 8, 3, [33], 0), (28, .bipush (-11), 2, [], -11), (30, .goto 4, 3, [34], 0), (33, .iload_n 2, 1, [2], 0), (34, .ireturn, 1, [], 0)]
abbrev m_X5_drop : Nat := 156
def tb_X5_drop : tb_T := ((⟨"SlotMeshModel", "drop", "(I)I"⟩, prog_7_method_65_code, 3, (some .int)), .int, k_X5_drop, (2, 45, 0, 0), (1, 5, 1, [969, 967, 53, 968]))
def k_X5_links : List am_I := [(0, .iconst 0, 1, [], 0), (1, .istore_n 1, 1, [1], 0), (2, .iconst 0, 1, [], 0), (3, .istore_n 2, 1, [2], 0), (4, .iload_n 2, 1, [2], 0), (5, .aload_n 0, 1, [0], 0), (6, .getfield 45, 3, [5, 1, 0, 653], 0), (9, .if_icmp .ge 24, 3, [33], 0), (12, .iload_n 1, 1, [1], 0), (13, .aload_n 0, 1, [0], 0), (14, .getfield 7, 3, [5, 0, 1, 652], 0), (17, .bipush 17, 2, [], 17), (19, .iload_n 2, 1, [2], 0), (20, .iadd, 1, [], 0), (21, .iaload, 1, [], 0), (22, .invokestatic 132, 3, [1, 95, 1, 1, 0, 794], 0), (25, .iadd, 1, [], 0), (26, .istore_n 1, 1, [1], 0), (27, .iinc 2 1, 3, [2], 1), (30, .goto (-26), 3, [4], 0), (33, .iload_n 1, 1, [1], 0), (34, .iconst 2, 1, [], 2), (35, .idiv, 1, [], 0), (36, .ireturn, 1, [], 0)]
abbrev m_X5_links : Nat := 157
def tb_X5_links : tb_T := ((⟨"SlotMeshModel", "links", "()I"⟩, prog_7_method_66_code, 3, (some .int)), .int, k_X5_links, (1, 22, 0, 0), (1, 5, 0, [977, 976, 53, 44]))
def k_X5_allNumbers : List am_I := [(0, .iconst 0, 1, [], 0), (1, .istore_n 1, 1, [1], 0), (2, .iconst 0, 1, [], 0), (3, .istore_n 2, 1, [2], 0), (4, .iload_n 2, 1, [2], 0), (5, .iconst 3, 1, [], 3), (6, .if_icmp .ge 31, 3, [37], 0), (9, .iload_n 1, 1, [1], 0), (10, .aload_n 0, 1, [0], 0), (11, .getfield 23, 3, [5, 9, 1, 661], 0), (14, .iload_n 2, 1, [2], 0), (15, .iaload, 1, [], 0), (16, .ifCond .ge 7, 3, [23], 0), (19, .iconst 0, 1, [], 0), (20, .goto 9, 3, [29], 0), (23, .aload_n 0, 1, [0], 0), (24, .getfield 23, 3, [5, 9, 1, 661], 0), (27, .iload_n 2, 1, [2], 0), (28, .iaload, 1, [], 0), (29, .iadd, 1, [], 0), (30, .istore_n 1, 1, [1], 0), (31, .iinc 2 1, 3, [2], 1), (34, .goto (-30), 3, [4], 0), (37, .iload_n 1, 1, [1], 0), (38, .ireturn, 1, [], 0)]
abbrev m_X5_allNumbers : Nat := 158
def tb_X5_allNumbers : tb_T := ((⟨"SlotMeshModel", "allNumbers", "()I"⟩, prog_7_method_67_code, 3, (some .int)), .int, k_X5_allNumbers, (0, 0, 0, 0), (1, 5, 0, [981, 980, 53, 45]))
def k_X5_told : List am_I := [(0, .iload_n 1, 1, [1], 0), (1, .tableswitch 127 0 10 #[59, 64, 69, 74, 79, 85, 91, 105, 112, 117, 122], 59, [128, 0, 60, 1, 65, 2, 70, 3, 75, 4, 80, 5, 86, 6, 92, 7, 106, 8, 113, 9, 118, 10, 123], 0), (60, .aload_n 0, 1, [0], 0), (61, .getfield 45, 3, [5, 1, 0, 653], 0), (64, .ireturn, 1, [], 0), (65, .aload_n 0, 1, [0], 0), (66, .getfield 49, 3, [5, 2, 0, 654], 0), (69, .ireturn, 1, [], 0), (70, .aload_n 0, 1, [0], 0), (71, .getfield 52, 3, [5, 3, 0, 655], 0), (74, .ireturn, 1, [], 0), (75, .aload_n 0, 1, [0], 0), (76, .invokevirtual 227, 3, [1, 157, 1, 1, 0, 974], 0), (79, .ireturn, 1, [], 0), (80, .aload_n 0, 1, [0], 0), (81, .iconst 0, 1, [], 0), (82, .invokevirtual 201, 3, [1, 120, 2, 1, 0, 887], 0), (85, .ireturn, 1, [], 0), (86, .aload_n 0, 1, [0], 0), (87, .iconst 0, 1, [], 0), (88, .invokevirtual 195, 3, [1, 117, 2, 1, 0, 871], 0), (91, .ireturn, 1, [], 0), (92, .aload_n 0, 1, [0], 0), (93, .iconst 0, 1, [], 0), (94, .invokevirtual 206, 3, [1, 143, 2, 1, 0, 916], 0), (97, .ifCond .eq 7, 3, [104], 0), (100, .iconst 1, 1, [], 1), (101, .goto 4, 3, [105], 0), (104, .iconst 0, 1, [], 0), (105, .ireturn, 1, [], 0), (106, .aload_n 0, 1, [0], 0), (107, .getfield 7, 3, [5, 0, 1, 652], 0), (110, .iconst 0, 1, [], 0), (111, .iaload, 1, [], 0), (112, .ireturn, 1, [], 0), (113, .aload_n 0, 1, [0], 0), (114, .invokevirtual 230, 3, [1, 158, 1, 1, 0, 978], 0), (117, .ireturn, 1, [], 0), (118, .aload_n 0, 1, [0], 0), (119, .getfield 125, 3, [5, 5, 0, 657], 0), (122, .ireturn, 1, [], 0), (123, .aload_n 0, 1, [0], 0), (124, .getfield 61, 3, [5, 8, 0, 660], 0), (127, .ireturn, 1, [], 0), (128, .bipush (-3), 2, [], -3), (130, .ireturn, 1, [], 0)]
abbrev m_X5_told : Nat := 159
def tb_X5_told : tb_T := ((⟨"SlotMeshModel", "told", "(I)I"⟩, prog_7_method_68_code, 2, (some .int)), .int, k_X5_told, (4, 94, 0, 0), (1, 5, 1, [973, 971, 53, 972]))
def k_J6_bitCount_0f7a4 : List am_I := [(0, .iload_n 0, 1, [0], 0), (1, .iload_n 0, 1, [0], 0), (2, .iconst 1, 1, [], 1), (3, .iushr, 1, [], 0), (4, .ldc_w 265, 3, [], 1431655765), (7, .iand, 1, [], 0), (8, .isub, 1, [], 0), (9, .istore_n 0, 1, [0], 0), (10, .iload_n 0, 1, [0], 0), (11, .ldc_w 266, 3, [], 858993459), (14, .iand, 1, [], 0), (15, .iload_n 0, 1, [0], 0), (16, .iconst 2, 1, [], 2), (17, .iushr, 1, [], 0), (18, .ldc_w 266, 3, [], 858993459), (21, .iand, 1, [], 0), (22, .iadd, 1, [], 0), (23, .istore_n 0, 1, [0], 0), (24, .iload_n 0, 1, [0], 0), (25, .iload_n 0, 1, [0], 0), (26, .iconst 4, 1, [], 4), (27, .iushr, 1, [], 0), (28, .iadd, 1, [], 0), (29, .ldc_w 267, 3, [], 252645135), (32, .iand, 1, [], 0), (33, .istore_n 0, 1, [0], 0), (34, .iload_n 0, 1, [0], 0), (35, .iload_n 0, 1, [0], 0), (36, .bipush 8, 2, [], 8), (38, .iushr, 1, [], 0), (39, .iadd, 1, [], 0), (40, .istore_n 0, 1, [0], 0), (41, .iload_n 0, 1, [0], 0), (42, .iload_n 0, 1, [0], 0), (43, .bipush 16, 2, [], 16), (45, .iushr, 1, [], 0), (46, .iadd, 1, [], 0), (47, .istore_n 0, 1, [0], 0), (48, .iload_n 0, 1, [0], 0), (49, .bipush 63, 2, [], 63), (51, .iand, 1, [], 0), (52, .ireturn, 1, [], 0)]
abbrev m_J6_bitCount_0f7a4 : Nat := 160
def tb_J6_bitCount_0f7a4 : tb_T := ((⟨"java/lang/Integer", "bitCount", "(I)I"⟩, prog_8_method_49_code, 1, (some .int)), .int, k_J6_bitCount_0f7a4, (0, 0, 0, 0), (0, 99, 1, [385, 384, 59]))
def k_J0_length_8abf5 : List am_I := [(0, .aload_n 0, 1, [0], 0), (1, .getfield 9, 3, [0, 0, 3, 982], 0), (4, .arraylength, 1, [1, 1], 0), (5, .aload_n 0, 1, [0], 0), (6, .invokevirtual 335, 3, [1, 163, 1, 1, 0, 275], 0), (9, .ishr, 1, [], 0), (10, .ireturn, 1, [], 0)]
abbrev m_J0_length_8abf5 : Nat := 161
def tb_J0_length_8abf5 : tb_T := ((⟨"java/lang/String", "length", "()I"⟩, prog_10_method_54_code, 1, (some .int)), .int, k_J0_length_8abf5, (1, 20, 0, 0), (1, 99, 0, [274, 272, 55, 273]))
def k_J0_charAt_5068e : List am_I := [(0, .aload_n 0, 1, [0], 0), (1, .invokevirtual 492, 3, [1, 164, 1, 1, 0, 285], 0), (4, .ifCond .eq 12, 3, [16], 0), (7, .aload_n 0, 1, [0], 0), (8, .getfield 9, 3, [0, 0, 3, 982], 0), (11, .iload_n 1, 1, [1], 0), (12, .invokestatic 495, 3, [1, 166, 2, 1, 0, 289], 0), (15, .ireturn, 1, [], 0), (16, .aload_n 0, 1, [0], 0), (17, .getfield 9, 3, [0, 0, 3, 982], 0), (20, .iload_n 1, 1, [1], 0), (24, .ireturn, 1, [], 0)]
abbrev m_J0_charAt_5068e : Nat := 162
def tb_J0_charAt_5068e : tb_T := ((⟨"java/lang/String", "charAt", "(I)C"⟩, prog_10_method_56_code, 2, (some .char)), .char, k_J0_charAt_5068e, (3, 64, 0, 0), (1, 99, 1, [284, 282, 55, 283]))
def k_J0_coder_7d493 : List am_I := [(0, .getstatic 38, 3, [0, 0, 279], 1), (3, .ifCond .eq 10, 3, [13], 0), (6, .aload_n 0, 1, [0], 0), (7, .getfield 15, 3, [0, 0, 4, 983], 0), (10, .goto 4, 3, [14], 0), (13, .iconst 1, 1, [], 1), (14, .ireturn, 1, [], 0)]
abbrev m_J0_coder_7d493 : Nat := 163
def tb_J0_coder_7d493 : tb_T := ((⟨"java/lang/String", "coder", "()B"⟩, prog_10_method_152_code, 1, (some .byte)), .byte, k_J0_coder_7d493, (0, 0, 0, 0), (1, 99, 0, [278, 276, 55, 277]))
def k_J0_isLatin1_aae02 : List am_I := [(0, .getstatic 38, 3, [0, 0, 279], 1), (3, .ifCond .eq 14, 3, [17], 0), (6, .aload_n 0, 1, [0], 0), (7, .getfield 15, 3, [0, 0, 4, 983], 0), (10, .ifCond .ne 7, 3, [17], 0), (13, .iconst 1, 1, [], 1), (14, .goto 4, 3, [18], 0), (17, .iconst 0, 1, [], 0), (18, .ireturn, 1, [], 0)]
abbrev m_J0_isLatin1_aae02 : Nat := 164
def tb_J0_isLatin1_aae02 : tb_T := ((⟨"java/lang/String", "isLatin1", "()Z"⟩, prog_10_method_154_code, 1, (some .boolean)), .boolean, k_J0_isLatin1_aae02, (0, 0, 0, 0), (1, 99, 0, [288, 286, 55, 287]))
def k_J0_checkIndex_df160 : List am_I := [(0, .iload_n 0, 1, [0], 0), (1, .iload_n 1, 1, [1], 0), (2, .getstatic 1053, 3, [1, 1000020, 295], 0), (5, .invokestatic 1059, 3, [1, 168, 3, 1, 0, 297], 0), (8, .pop, 1, [], 0), (9, .return_, 1, [], 0)]
abbrev m_J0_checkIndex_df160 : Nat := 165
def tb_J0_checkIndex_df160 : tb_T := ((⟨"java/lang/String", "checkIndex", "(II)V"⟩, prog_10_method_155_code, 2, none), .int, k_J0_checkIndex_df160, (1, 22, 0, 0), (0, 99, 2, [294, 293, 55]))
def k_J1_charAt_3b067 : List am_I := [(0, .iload_n 1, 1, [1], 0), (1, .aload_n 0, 1, [0], 0), (2, .arraylength, 1, [1, 1], 0), (3, .invokestatic 9, 3, [1, 165, 2, 0, 0, 292], 0), (6, .aload_n 0, 1, [0], 0), (7, .iload_n 1, 1, [1], 0), (8, .baload, 1, [1], 0), (9, .sipush 255, 3, [], 255), (12, .iand, 1, [], 0), (13, .i2c, 1, [], 0), (14, .ireturn, 1, [], 0)]
abbrev m_J1_charAt_3b067 : Nat := 166
def tb_J1_charAt_3b067 : tb_T := ((⟨"java/lang/StringLatin1", "charAt", "([BI)C"⟩, prog_11_method_2_code, 2, (some .char)), .char, k_J1_charAt_3b067, (2, 43, 0, 0), (0, 99, 2, [291, 290, 56]))
def k_J7_fill_53178 : List am_I := [(0, .iconst 0, 1, [], 0), (1, .istore_n 2, 1, [2], 0), (2, .aload_n 0, 1, [0], 0), (3, .arraylength, 1, [], 0), (4, .istore_n 3, 1, [3], 0), (5, .iload_n 2, 1, [2], 0), (6, .iload_n 3, 1, [3], 0), (7, .if_icmp .ge 13, 3, [20], 0), (10, .aload_n 0, 1, [0], 0), (11, .iload_n 2, 1, [2], 0), (12, .iload_n 1, 1, [1], 0), (13, .iastore, 1, [], 0), (14, .iinc 2 1, 3, [2], 1), (17, .goto (-12), 3, [5], 0), (20, .return_, 1, [], 0)]
abbrev m_J7_fill_53178 : Nat := 167
def tb_J7_fill_53178 : tb_T := ((⟨"java/util/Arrays", "fill", "([II)V"⟩, prog_14_method_103_code, 4, none), .int, k_J7_fill_53178, (0, 0, 0, 0), (0, 99, 2, [175, 174, 51]))
def k_J3_checkIndex_8e157 : List am_I := [(0, .iload_n 0, 1, [0], 0), (1, .ifCond .lt 8, 3, [9], 0), (4, .iload_n 0, 1, [0], 0), (5, .iload_n 1, 1, [1], 0), (6, .if_icmp .lt 10, 3, [16], 0), (9, .aload_n 2, 1, [2], 0), (10, .iload_n 0, 1, [0], 0), (11, .iload_n 1, 1, [1], 0), (15, .athrow, 1, [], 0), (16, .iload_n 0, 1, [0], 0), (17, .ireturn, 1, [], 0)]
abbrev m_J3_checkIndex_8e157 : Nat := 168
def tb_J3_checkIndex_8e157 : tb_T := ((⟨"jdk/internal/util/Preconditions", "checkIndex", "(IILjava/util/function/BiFunction;)I"⟩, prog_15_method_11_code, 3, (some .int)), .int, k_J3_checkIndex_8e157, (0, 0, 0, 0), (0, 99, 3, [299, 298, 57]))
def k_L_law : List am_I := [(0, .new 7, 3, [4, 61, 62, 47], 0), (3, .dup, 1, [], 0), (4, .invokespecial 9, 3, [1, 61, 1, 2, 0, 63], 0), (7, .astore_n 1, 1, [1], 0), (8, .new 10, 3, [5, 642, 643, 53], 0), (11, .dup, 1, [], 0), (12, .invokespecial 12, 3, [1, 92, 1, 2, 0, 644], 0), (15, .astore_n 2, 1, [2], 0), (16, .iconst 0, 1, [], 0), (17, .istore_n 3, 1, [3], 0), (18, .iload_n 3, 1, [3], 0), (19, .aload_n 0, 1, [0], 0), (20, .arraylength, 1, [1], 0), (21, .bipush 6, 2, [], 6), (23, .isub, 1, [], 0), (24, .if_icmp .gt 812, 3, [836], 0), (27, .aload_n 0, 1, [0], 0), (28, .iload_n 3, 1, [3], 0), (29, .iaload, 1, [1], 0), (30, .bipush 31, 2, [], 31), (32, .iand, 1, [], 0), (33, .tableswitch 797 0 25 #[119, 142, 155, 168, 181, 214, 247, 270, 293, 326, 359, 392, 405, 428, 451, 474, 487, 520, 533, 566, 629, 662, 695, 718, 751, 774], 119, [830, 0, 152, 1, 175, 2, 188, 3, 201, 4, 214, 5, 247, 6, 280, 7, 303, 8, 326, 9, 359, 10, 392, 11, 425, 12, 438, 13, 461, 14, 484, 15, 507, 16, 520, 17, 553, 18, 566, 19, 599, 20, 662, 21, 695, 22, 728, 23, 751, 24, 784, 25, 807], 0), (152, .aload_n 1, 1, [1], 0), (153, .aload_n 0, 1, [0], 0), (154, .iload_n 3, 1, [3], 0), (155, .iconst 1, 1, [], 1), (156, .iadd, 1, [], 0), (157, .iaload, 1, [1], 0), (158, .invokevirtual 13, 3, [1, 62, 2, 1, 0, 216], 0), (161, .aload_n 2, 1, [2], 0), (162, .aload_n 0, 1, [0], 0), (163, .iload_n 3, 1, [3], 0), (164, .iconst 1, 1, [], 1), (165, .iadd, 1, [], 0), (166, .iaload, 1, [1], 0), (167, .invokevirtual 17, 3, [1, 98, 2, 1, 0, 713], 0), (170, .if_icmp .eq 660, 3, [830], 0), (173, .iconst 0, 1, [], 0), (174, .ireturn, 1, [], 0), (175, .aload_n 1, 1, [1], 0), (176, .invokevirtual 18, 3, [1, 63, 1, 1, 0, 229], 0), (179, .aload_n 2, 1, [2], 0), (180, .invokevirtual 22, 3, [1, 99, 1, 1, 0, 721], 0), (183, .if_icmp .eq 647, 3, [830], 0), (186, .iconst 0, 1, [], 0), (187, .ireturn, 1, [], 0), (188, .aload_n 1, 1, [1], 0), (189, .invokevirtual 23, 3, [1, 64, 1, 1, 0, 237], 0), (192, .aload_n 2, 1, [2], 0), (193, .invokevirtual 26, 3, [1, 110, 1, 1, 0, 725], 0), (196, .if_icmp .eq 634, 3, [830], 0), (199, .iconst 0, 1, [], 0), (200, .ireturn, 1, [], 0), (201, .aload_n 1, 1, [1], 0), (202, .invokevirtual 27, 3, [1, 65, 1, 1, 0, 344], 0), (205, .aload_n 2, 1, [2], 0), (206, .invokevirtual 30, 3, [1, 111, 1, 1, 0, 771], 0), (209, .if_icmp .eq 621, 3, [830], 0), (212, .iconst 0, 1, [], 0), (213, .ireturn, 1, [], 0), (214, .aload_n 1, 1, [1], 0), (215, .aload_n 0, 1, [0], 0), (216, .iload_n 3, 1, [3], 0), (217, .iconst 1, 1, [], 1), (218, .iadd, 1, [], 0), (219, .iaload, 1, [1], 0), (220, .aload_n 0, 1, [0], 0), (221, .iload_n 3, 1, [3], 0), (222, .iconst 2, 1, [], 2), (223, .iadd, 1, [], 0), (224, .iaload, 1, [1], 0), (225, .invokevirtual 31, 3, [1, 66, 3, 1, 0, 364], 0), (228, .aload_n 2, 1, [2], 0), (229, .aload_n 0, 1, [0], 0), (230, .iload_n 3, 1, [3], 0), (231, .iconst 1, 1, [], 1), (232, .iadd, 1, [], 0), (233, .iaload, 1, [1], 0), (234, .aload_n 0, 1, [0], 0), (235, .iload_n 3, 1, [3], 0), (236, .iconst 2, 1, [], 2), (237, .iadd, 1, [], 0), (238, .iaload, 1, [1], 0), (239, .invokevirtual 35, 3, [1, 121, 3, 1, 0, 775], 0), (242, .if_icmp .eq 588, 3, [830], 0), (245, .iconst 0, 1, [], 0), (246, .ireturn, 1, [], 0), (247, .aload_n 1, 1, [1], 0), (248, .aload_n 0, 1, [0], 0), (249, .iload_n 3, 1, [3], 0), (250, .iconst 1, 1, [], 1), (251, .iadd, 1, [], 0), (252, .iaload, 1, [1], 0), (253, .aload_n 0, 1, [0], 0), (254, .iload_n 3, 1, [3], 0), (255, .iconst 2, 1, [], 2), (256, .iadd, 1, [], 0), (257, .iaload, 1, [1], 0), (258, .invokevirtual 36, 3, [1, 67, 3, 1, 0, 390], 0), (261, .aload_n 2, 1, [2], 0), (262, .aload_n 0, 1, [0], 0), (263, .iload_n 3, 1, [3], 0), (264, .iconst 1, 1, [], 1), (265, .iadd, 1, [], 0), (266, .iaload, 1, [1], 0), (267, .aload_n 0, 1, [0], 0), (268, .iload_n 3, 1, [3], 0), (269, .iconst 2, 1, [], 2), (270, .iadd, 1, [], 0), (271, .iaload, 1, [1], 0), (272, .invokevirtual 39, 3, [1, 122, 3, 1, 0, 797], 0), (275, .if_icmp .eq 555, 3, [830], 0), (278, .iconst 0, 1, [], 0), (279, .ireturn, 1, [], 0), (280, .aload_n 1, 1, [1], 0), (281, .aload_n 0, 1, [0], 0), (282, .iload_n 3, 1, [3], 0), (283, .iconst 1, 1, [], 1), (284, .iadd, 1, [], 0), (285, .iaload, 1, [1], 0), (286, .invokevirtual 40, 3, [1, 68, 2, 1, 0, 417], 0), (289, .aload_n 2, 1, [2], 0), (290, .aload_n 0, 1, [0], 0), (291, .iload_n 3, 1, [3], 0), (292, .iconst 1, 1, [], 1), (293, .iadd, 1, [], 0), (294, .iaload, 1, [1], 0), (295, .invokevirtual 43, 3, [1, 133, 2, 1, 0, 817], 0), (298, .if_icmp .eq 532, 3, [830], 0), (301, .iconst 0, 1, [], 0), (302, .ireturn, 1, [], 0), (303, .aload_n 1, 1, [1], 0), (304, .aload_n 0, 1, [0], 0), (305, .iload_n 3, 1, [3], 0), (306, .iconst 1, 1, [], 1), (307, .iadd, 1, [], 0), (308, .iaload, 1, [1], 0), (309, .invokevirtual 44, 3, [1, 69, 2, 1, 0, 459], 0), (312, .aload_n 2, 1, [2], 0), (313, .aload_n 0, 1, [0], 0), (314, .iload_n 3, 1, [3], 0), (315, .iconst 1, 1, [], 1), (316, .iadd, 1, [], 0), (317, .iaload, 1, [1], 0), (318, .invokevirtual 47, 3, [1, 134, 2, 1, 0, 862], 0), (321, .if_icmp .eq 509, 3, [830], 0), (324, .iconst 0, 1, [], 0), (325, .ireturn, 1, [], 0), (326, .aload_n 1, 1, [1], 0), (327, .aload_n 0, 1, [0], 0), (328, .iload_n 3, 1, [3], 0), (329, .iconst 1, 1, [], 1), (330, .iadd, 1, [], 0), (331, .iaload, 1, [1], 0), (332, .aload_n 0, 1, [0], 0), (333, .iload_n 3, 1, [3], 0), (334, .iconst 2, 1, [], 2), (335, .iadd, 1, [], 0), (336, .iaload, 1, [1], 0), (337, .invokevirtual 48, 3, [1, 70, 3, 1, 0, 469], 0), (340, .aload_n 2, 1, [2], 0), (341, .aload_n 0, 1, [0], 0), (342, .iload_n 3, 1, [3], 0), (343, .iconst 1, 1, [], 1), (344, .iadd, 1, [], 0), (345, .iaload, 1, [1], 0), (346, .aload_n 0, 1, [0], 0), (347, .iload_n 3, 1, [3], 0), (348, .iconst 2, 1, [], 2), (349, .iadd, 1, [], 0), (350, .iaload, 1, [1], 0), (351, .invokevirtual 51, 3, [1, 135, 3, 1, 0, 875], 0), (354, .if_icmp .eq 476, 3, [830], 0), (357, .iconst 0, 1, [], 0), (358, .ireturn, 1, [], 0), (359, .aload_n 1, 1, [1], 0), (360, .aload_n 0, 1, [0], 0), (361, .iload_n 3, 1, [3], 0), (362, .iconst 1, 1, [], 1), (363, .iadd, 1, [], 0), (364, .iaload, 1, [1], 0), (365, .aload_n 0, 1, [0], 0), (366, .iload_n 3, 1, [3], 0), (367, .iconst 2, 1, [], 2), (368, .iadd, 1, [], 0), (369, .iaload, 1, [1], 0), (370, .invokevirtual 52, 3, [1, 71, 3, 1, 0, 473], 0), (373, .aload_n 2, 1, [2], 0), (374, .aload_n 0, 1, [0], 0), (375, .iload_n 3, 1, [3], 0), (376, .iconst 1, 1, [], 1), (377, .iadd, 1, [], 0), (378, .iaload, 1, [1], 0), (379, .aload_n 0, 1, [0], 0), (380, .iload_n 3, 1, [3], 0), (381, .iconst 2, 1, [], 2), (382, .iadd, 1, [], 0), (383, .iaload, 1, [1], 0), (384, .invokevirtual 55, 3, [1, 137, 3, 1, 0, 879], 0), (387, .if_icmp .eq 443, 3, [830], 0), (390, .iconst 0, 1, [], 0), (391, .ireturn, 1, [], 0), (392, .aload_n 1, 1, [1], 0), (393, .aload_n 0, 1, [0], 0), (394, .iload_n 3, 1, [3], 0), (395, .iconst 1, 1, [], 1), (396, .iadd, 1, [], 0), (397, .iaload, 1, [1], 0), (398, .aload_n 0, 1, [0], 0), (399, .iload_n 3, 1, [3], 0), (400, .iconst 2, 1, [], 2), (401, .iadd, 1, [], 0), (402, .iaload, 1, [1], 0), (403, .invokevirtual 56, 3, [1, 72, 3, 1, 0, 488], 0), (406, .aload_n 2, 1, [2], 0), (407, .aload_n 0, 1, [0], 0), (408, .iload_n 3, 1, [3], 0), (409, .iconst 1, 1, [], 1), (410, .iadd, 1, [], 0), (411, .iaload, 1, [1], 0), (412, .aload_n 0, 1, [0], 0), (413, .iload_n 3, 1, [3], 0), (414, .iconst 2, 1, [], 2), (415, .iadd, 1, [], 0), (416, .iaload, 1, [1], 0), (417, .invokevirtual 59, 3, [1, 138, 3, 1, 0, 891], 0), (420, .if_icmp .eq 410, 3, [830], 0), (423, .iconst 0, 1, [], 0), (424, .ireturn, 1, [], 0), (425, .aload_n 1, 1, [1], 0), (426, .invokevirtual 60, 3, [1, 73, 1, 1, 0, 496], 0), (429, .aload_n 2, 1, [2], 0), (430, .invokevirtual 63, 3, [1, 139, 1, 1, 0, 895], 0), (433, .if_icmp .eq 397, 3, [830], 0), (436, .iconst 0, 1, [], 0), (437, .ireturn, 1, [], 0), (438, .aload_n 1, 1, [1], 0), (439, .aload_n 0, 1, [0], 0), (440, .iload_n 3, 1, [3], 0), (441, .iconst 1, 1, [], 1), (442, .iadd, 1, [], 0), (443, .iaload, 1, [1], 0), (444, .invokevirtual 64, 3, [1, 74, 2, 1, 0, 508], 0), (447, .aload_n 2, 1, [2], 0), (448, .aload_n 0, 1, [0], 0), (449, .iload_n 3, 1, [3], 0), (450, .iconst 1, 1, [], 1), (451, .iadd, 1, [], 0), (452, .iaload, 1, [1], 0), (453, .invokevirtual 67, 3, [1, 140, 2, 1, 0, 899], 0), (456, .if_icmp .eq 374, 3, [830], 0), (459, .iconst 0, 1, [], 0), (460, .ireturn, 1, [], 0), (461, .aload_n 1, 1, [1], 0), (462, .aload_n 0, 1, [0], 0), (463, .iload_n 3, 1, [3], 0), (464, .iconst 1, 1, [], 1), (465, .iadd, 1, [], 0), (466, .iaload, 1, [1], 0), (467, .invokevirtual 68, 3, [1, 75, 2, 1, 0, 512], 0), (470, .aload_n 2, 1, [2], 0), (471, .aload_n 0, 1, [0], 0), (472, .iload_n 3, 1, [3], 0), (473, .iconst 1, 1, [], 1), (474, .iadd, 1, [], 0), (475, .iaload, 1, [1], 0), (476, .invokevirtual 71, 3, [1, 141, 2, 1, 0, 903], 0), (479, .if_icmp .eq 351, 3, [830], 0), (482, .iconst 0, 1, [], 0), (483, .ireturn, 1, [], 0), (484, .aload_n 1, 1, [1], 0), (485, .aload_n 0, 1, [0], 0), (486, .iload_n 3, 1, [3], 0), (487, .iconst 1, 1, [], 1), (488, .iadd, 1, [], 0), (489, .iaload, 1, [1], 0), (490, .invokevirtual 72, 3, [1, 76, 2, 1, 0, 516], 0), (493, .aload_n 2, 1, [2], 0), (494, .aload_n 0, 1, [0], 0), (495, .iload_n 3, 1, [3], 0), (496, .iconst 1, 1, [], 1), (497, .iadd, 1, [], 0), (498, .iaload, 1, [1], 0), (499, .invokevirtual 75, 3, [1, 142, 2, 1, 0, 907], 0), (502, .if_icmp .eq 328, 3, [830], 0), (505, .iconst 0, 1, [], 0), (506, .ireturn, 1, [], 0), (507, .aload_n 1, 1, [1], 0), (508, .invokevirtual 76, 3, [1, 77, 1, 1, 0, 520], 0), (511, .aload_n 2, 1, [2], 0), (512, .invokevirtual 79, 3, [1, 144, 1, 1, 0, 912], 0), (515, .if_icmp .eq 315, 3, [830], 0), (518, .iconst 0, 1, [], 0), (519, .ireturn, 1, [], 0), (520, .aload_n 1, 1, [1], 0), (521, .aload_n 0, 1, [0], 0), (522, .iload_n 3, 1, [3], 0), (523, .iconst 1, 1, [], 1), (524, .iadd, 1, [], 0), (525, .iaload, 1, [1], 0), (526, .aload_n 0, 1, [0], 0), (527, .iload_n 3, 1, [3], 0), (528, .iconst 2, 1, [], 2), (529, .iadd, 1, [], 0), (530, .iaload, 1, [1], 0), (531, .invokevirtual 80, 3, [1, 78, 3, 1, 0, 528], 0), (534, .aload_n 2, 1, [2], 0), (535, .aload_n 0, 1, [0], 0), (536, .iload_n 3, 1, [3], 0), (537, .iconst 1, 1, [], 1), (538, .iadd, 1, [], 0), (539, .iaload, 1, [1], 0), (540, .aload_n 0, 1, [0], 0), (541, .iload_n 3, 1, [3], 0), (542, .iconst 2, 1, [], 2), (543, .iadd, 1, [], 0), (544, .iaload, 1, [1], 0), (545, .invokevirtual 83, 3, [1, 145, 3, 1, 0, 920], 0), (548, .if_icmp .eq 282, 3, [830], 0), (551, .iconst 0, 1, [], 0), (552, .ireturn, 1, [], 0), (553, .aload_n 1, 1, [1], 0), (554, .invokevirtual 84, 3, [1, 79, 1, 1, 0, 532], 0), (557, .aload_n 2, 1, [2], 0), (558, .invokevirtual 87, 3, [1, 146, 1, 1, 0, 924], 0), (561, .if_icmp .eq 269, 3, [830], 0), (564, .iconst 0, 1, [], 0), (565, .ireturn, 1, [], 0), (566, .aload_n 1, 1, [1], 0), (567, .aload_n 0, 1, [0], 0), (568, .iload_n 3, 1, [3], 0), (569, .iconst 1, 1, [], 1), (570, .iadd, 1, [], 0), (571, .iaload, 1, [1], 0), (572, .aload_n 0, 1, [0], 0), (573, .iload_n 3, 1, [3], 0), (574, .iconst 2, 1, [], 2), (575, .iadd, 1, [], 0), (576, .iaload, 1, [1], 0), (577, .invokevirtual 88, 3, [1, 80, 3, 1, 0, 544], 0), (580, .aload_n 2, 1, [2], 0), (581, .aload_n 0, 1, [0], 0), (582, .iload_n 3, 1, [3], 0), (583, .iconst 1, 1, [], 1), (584, .iadd, 1, [], 0), (585, .iaload, 1, [1], 0), (586, .aload_n 0, 1, [0], 0), (587, .iload_n 3, 1, [3], 0), (588, .iconst 2, 1, [], 2), (589, .iadd, 1, [], 0), (590, .iaload, 1, [1], 0), (591, .invokevirtual 91, 3, [1, 147, 3, 1, 0, 928], 0), (594, .if_icmp .eq 236, 3, [830], 0), (597, .iconst 0, 1, [], 0), (598, .ireturn, 1, [], 0), (599, .aload_n 1, 1, [1], 0), (600, .aload_n 0, 1, [0], 0), (601, .iload_n 3, 1, [3], 0), (602, .iconst 1, 1, [], 1), (603, .iadd, 1, [], 0), (604, .iaload, 1, [1], 0), (605, .aload_n 0, 1, [0], 0), (606, .iload_n 3, 1, [3], 0), (607, .iconst 2, 1, [], 2), (608, .iadd, 1, [], 0), (609, .iaload, 1, [1], 0), (610, .aload_n 0, 1, [0], 0), (611, .iload_n 3, 1, [3], 0), (612, .iconst 3, 1, [], 3), (613, .iadd, 1, [], 0), (614, .iaload, 1, [1], 0), (615, .aload_n 0, 1, [0], 0), (616, .iload_n 3, 1, [3], 0), (617, .iconst 4, 1, [], 4), (618, .iadd, 1, [], 0), (619, .iaload, 1, [1], 0), (620, .aload_n 0, 1, [0], 0), (621, .iload_n 3, 1, [3], 0), (622, .iconst 5, 1, [], 5), (623, .iadd, 1, [], 0), (624, .iaload, 1, [1], 0), (625, .invokevirtual 92, 3, [1, 81, 6, 1, 0, 549], 0), (628, .aload_n 2, 1, [2], 0), (629, .aload_n 0, 1, [0], 0), (630, .iload_n 3, 1, [3], 0), (631, .iconst 1, 1, [], 1), (632, .iadd, 1, [], 0), (633, .iaload, 1, [1], 0), (634, .aload_n 0, 1, [0], 0), (635, .iload_n 3, 1, [3], 0), (636, .iconst 2, 1, [], 2), (637, .iadd, 1, [], 0), (638, .iaload, 1, [1], 0), (639, .aload_n 0, 1, [0], 0), (640, .iload_n 3, 1, [3], 0), (641, .iconst 3, 1, [], 3), (642, .iadd, 1, [], 0), (643, .iaload, 1, [1], 0), (644, .aload_n 0, 1, [0], 0), (645, .iload_n 3, 1, [3], 0), (646, .iconst 4, 1, [], 4), (647, .iadd, 1, [], 0), (648, .iaload, 1, [1], 0), (649, .aload_n 0, 1, [0], 0), (650, .iload_n 3, 1, [3], 0), (651, .iconst 5, 1, [], 5), (652, .iadd, 1, [], 0), (653, .iaload, 1, [1], 0), (654, .invokevirtual 96, 3, [1, 150, 6, 1, 0, 932], 0), (657, .if_icmp .eq 173, 3, [830], 0), (660, .iconst 0, 1, [], 0), (661, .ireturn, 1, [], 0), (662, .aload_n 1, 1, [1], 0), (663, .aload_n 0, 1, [0], 0), (664, .iload_n 3, 1, [3], 0), (665, .iconst 1, 1, [], 1), (666, .iadd, 1, [], 0), (667, .iaload, 1, [1], 0), (668, .aload_n 0, 1, [0], 0), (669, .iload_n 3, 1, [3], 0), (670, .iconst 2, 1, [], 2), (671, .iadd, 1, [], 0), (672, .iaload, 1, [1], 0), (673, .invokevirtual 97, 3, [1, 82, 3, 1, 0, 563], 0), (676, .aload_n 2, 1, [2], 0), (677, .aload_n 0, 1, [0], 0), (678, .iload_n 3, 1, [3], 0), (679, .iconst 1, 1, [], 1), (680, .iadd, 1, [], 0), (681, .iaload, 1, [1], 0), (682, .aload_n 0, 1, [0], 0), (683, .iload_n 3, 1, [3], 0), (684, .iconst 2, 1, [], 2), (685, .iadd, 1, [], 0), (686, .iaload, 1, [1], 0), (687, .invokevirtual 100, 3, [1, 151, 3, 1, 0, 946], 0), (690, .if_icmp .eq 140, 3, [830], 0), (693, .iconst 0, 1, [], 0), (694, .ireturn, 1, [], 0), (695, .aload_n 1, 1, [1], 0), (696, .aload_n 0, 1, [0], 0), (697, .iload_n 3, 1, [3], 0), (698, .iconst 1, 1, [], 1), (699, .iadd, 1, [], 0), (700, .iaload, 1, [1], 0), (701, .aload_n 0, 1, [0], 0), (702, .iload_n 3, 1, [3], 0), (703, .iconst 2, 1, [], 2), (704, .iadd, 1, [], 0), (705, .iaload, 1, [1], 0), (706, .invokevirtual 101, 3, [1, 83, 3, 1, 0, 572], 0), (709, .aload_n 2, 1, [2], 0), (710, .aload_n 0, 1, [0], 0), (711, .iload_n 3, 1, [3], 0), (712, .iconst 1, 1, [], 1), (713, .iadd, 1, [], 0), (714, .iaload, 1, [1], 0), (715, .aload_n 0, 1, [0], 0), (716, .iload_n 3, 1, [3], 0), (717, .iconst 2, 1, [], 2), (718, .iadd, 1, [], 0), (719, .iaload, 1, [1], 0), (720, .invokevirtual 104, 3, [1, 152, 3, 1, 0, 950], 0), (723, .if_icmp .eq 107, 3, [830], 0), (726, .iconst 0, 1, [], 0), (727, .ireturn, 1, [], 0), (728, .aload_n 1, 1, [1], 0), (729, .aload_n 0, 1, [0], 0), (730, .iload_n 3, 1, [3], 0), (731, .iconst 1, 1, [], 1), (732, .iadd, 1, [], 0), (733, .iaload, 1, [1], 0), (734, .invokevirtual 105, 3, [1, 84, 2, 1, 0, 595], 0), (737, .aload_n 2, 1, [2], 0), (738, .aload_n 0, 1, [0], 0), (739, .iload_n 3, 1, [3], 0), (740, .iconst 1, 1, [], 1), (741, .iadd, 1, [], 0), (742, .iaload, 1, [1], 0), (743, .invokevirtual 108, 3, [1, 153, 2, 1, 0, 955], 0), (746, .if_icmp .eq 84, 3, [830], 0), (749, .iconst 0, 1, [], 0), (750, .ireturn, 1, [], 0), (751, .aload_n 1, 1, [1], 0), (752, .aload_n 0, 1, [0], 0), (753, .iload_n 3, 1, [3], 0), (754, .iconst 1, 1, [], 1), (755, .iadd, 1, [], 0), (756, .iaload, 1, [1], 0), (757, .aload_n 0, 1, [0], 0), (758, .iload_n 3, 1, [3], 0), (759, .iconst 2, 1, [], 2), (760, .iadd, 1, [], 0), (761, .iaload, 1, [1], 0), (762, .invokevirtual 109, 3, [1, 85, 3, 1, 0, 603], 0), (765, .aload_n 2, 1, [2], 0), (766, .aload_n 0, 1, [0], 0), (767, .iload_n 3, 1, [3], 0), (768, .iconst 1, 1, [], 1), (769, .iadd, 1, [], 0), (770, .iaload, 1, [1], 0), (771, .aload_n 0, 1, [0], 0), (772, .iload_n 3, 1, [3], 0), (773, .iconst 2, 1, [], 2), (774, .iadd, 1, [], 0), (775, .iaload, 1, [1], 0), (776, .invokevirtual 112, 3, [1, 155, 3, 1, 0, 959], 0), (779, .if_icmp .eq 51, 3, [830], 0), (782, .iconst 0, 1, [], 0), (783, .ireturn, 1, [], 0), (784, .aload_n 1, 1, [1], 0), (785, .aload_n 0, 1, [0], 0), (786, .iload_n 3, 1, [3], 0), (787, .iconst 1, 1, [], 1), (788, .iadd, 1, [], 0), (789, .iaload, 1, [1], 0), (790, .invokevirtual 113, 3, [1, 86, 2, 1, 0, 622], 0), (793, .aload_n 2, 1, [2], 0), (794, .aload_n 0, 1, [0], 0), (795, .iload_n 3, 1, [3], 0), (796, .iconst 1, 1, [], 1), (797, .iadd, 1, [], 0), (798, .iaload, 1, [1], 0), (799, .invokevirtual 116, 3, [1, 156, 2, 1, 0, 966], 0), (802, .if_icmp .eq 28, 3, [830], 0), (805, .iconst 0, 1, [], 0), (806, .ireturn, 1, [], 0), (807, .aload_n 1, 1, [1], 0), (808, .aload_n 0, 1, [0], 0), (809, .iload_n 3, 1, [3], 0), (810, .iconst 1, 1, [], 1), (811, .iadd, 1, [], 0), (812, .iaload, 1, [1], 0), (813, .invokevirtual 117, 3, [1, 87, 2, 1, 0, 626], 0), (816, .aload_n 2, 1, [2], 0), (817, .aload_n 0, 1, [0], 0), (818, .iload_n 3, 1, [3], 0), (819, .iconst 1, 1, [], 1), (820, .iadd, 1, [], 0), (821, .iaload, 1, [1], 0), (822, .invokevirtual 120, 3, [1, 159, 2, 1, 0, 970], 0), (825, .if_icmp .eq 5, 3, [830], 0), (828, .iconst 0, 1, [], 0), (829, .ireturn, 1, [], 0), (830, .iinc 3 6, 3, [3], 6), (833, .goto (-815), 3, [18], 0), (836, .iconst 1, 1, [], 1), (837, .ireturn, 1, [], 0)]
abbrev m_L_law : Nat := 169
def tb_L_law : tb_T := ((⟨"SlotMeshLaw", "law", "([I)Z"⟩, code, 4, (some .boolean)), .boolean, k_L_law, (8, 176, 109, 1605), (9, 99, 1, []))
def tb_L : List tb_T := [tb_X0_init, tb_X0_begin, tb_X0_forgetCycles, tb_X0_copyFrom, tb_X0_isStation, tb_X0_isSlot, tb_X0_isPair, tb_X0_link, tb_X0_cut, tb_X0_linkCount, tb_X0_near, tb_X0_hearing, tb_X0_nearToAny, tb_X0_holders, tb_X0_covered, tb_X0_isDone, tb_X0_clashes, tb_X0_clashesBy, tb_X0_contenders, tb_X0_runFrame, tb_X0_runCycle, tb_X0_drawLot, tb_X0_ask, tb_X0_settle, tb_X0_changeShares, tb_X0_dealOneSlotEach, tb_X0_leastFree, tb_X1_init, tb_X1_size, tb_X1_forget, tb_X1_remember, tb_X1_recall, tb_X2_init, tb_X2_begin, tb_X2_lose, tb_X2_addAll, tb_X2_takeLast, tb_X2_sum, tb_X2_greatest, tb_X2_least, tb_X2_swing, tb_X2_negate, tb_X2_twice, tb_X2_sumUp, tb_X2_held, tb_X3_init, tb_X3_length, tb_X3_isFull, tb_X3_add, tb_X3_clear, tb_X3_clausesRead, tb_X3_readInto, tb_X3_readClause, tb_X3_readMesh, tb_X3_readLink, tb_X3_readOfStation, tb_X3_readNumber, tb_X3_nextToken, tb_X3_isWord, tb_X3_isSmall, tb_X3_isDigit, tb_X4_init, tb_X4_write, tb_X4_erase, tb_X4_fault, tb_X4_mesh, tb_X4_station, tb_X4_slot, tb_X4_cycle, tb_X4_frame, tb_X4_give, tb_X4_join, tb_X4_part, tb_X4_undo, tb_X4_keep, tb_X4_back, tb_X4_phase, tb_X4_after, tb_X4_spoils, tb_X4_fewest, tb_X4_hops, tb_X4_tally, tb_X4_append, tb_X4_reckon, tb_X4_pop, tb_X4_each, tb_X4_drop, tb_X4_told, tb_X4_numbersOfAll, tb_X4_isTally, tb_X4_isNumber, tb_X4_has, tb_X5_init, tb_X5_in, tb_X5_has, tb_X5_ones, tb_X5_copyRow, tb_X5_anew, tb_X5_write, tb_X5_erase, tb_X5_isSmall, tb_X5_isDigit, tb_X5_nextToken, tb_X5_wordHere, tb_X5_number, tb_X5_readsRest, tb_X5_joins, tb_X5_does, tb_X5_readsClause, tb_X5_reads, tb_X5_fault, tb_X5_mesh, tb_X5_isStation, tb_X5_isSlot, tb_X5_near, tb_X5_holders, tb_X5_isCovered, tb_X5_covered, tb_X5_contenders, tb_X5_clashesBy, tb_X5_clashes, tb_X5_station, tb_X5_slot, tb_X5_lot, tb_X5_asking, tb_X5_hearing, tb_X5_first, tb_X5_settles, tb_X5_nearTo, tb_X5_shares, tb_X5_cycleOf, tb_X5_frameOf, tb_X5_keepPast, tb_X5_cycle, tb_X5_frame, tb_X5_give, tb_X5_areTwo, tb_X5_join, tb_X5_part, tb_X5_undo, tb_X5_keep, tb_X5_back, tb_X5_phase, tb_X5_isDone, tb_X5_after, tb_X5_spoils, tb_X5_fewest, tb_X5_hops, tb_X5_isTally, tb_X5_isNumber, tb_X5_tally, tb_X5_append, tb_X5_reckon, tb_X5_pop, tb_X5_held, tb_X5_each, tb_X5_drop, tb_X5_links, tb_X5_allNumbers, tb_X5_told, tb_J6_bitCount_0f7a4, tb_J0_length_8abf5, tb_J0_charAt_5068e, tb_J0_coder_7d493, tb_J0_isLatin1_aae02, tb_J0_checkIndex_df160, tb_J1_charAt_3b067, tb_J7_fill_53178, tb_J3_checkIndex_8e157, tb_L_law]
def tb (k : Nat) : tb_T := tb_L.getD k tb_X0_init
abbrev tm_y (k : Nat) : MethodName := (tb k).1.1
abbrev tm_b (k : Nat) : ByteArray := (tb k).1.2.1
abbrev tm_ml (k : Nat) : Nat := (tb k).1.2.2.1
abbrev tm_ret (k : Nat) : Option FieldType := (tb k).1.2.2.2
abbrev tm_rt (k : Nat) : FieldType := (tb k).2.1
abbrev tm_k (k : Nat) : List am_I := (tb k).2.2.1
abbrev tm_fr (k : Nat) : Nat := (tb k).2.2.2.1.1
abbrev tm_lo (k : Nat) : Nat := (tb k).2.2.2.1.2.1
abbrev tm_mc (k : Nat) : Nat := (tb k).2.2.2.1.2.2.1
abbrev tm_ms (k : Nat) : Nat := (tb k).2.2.2.1.2.2.2
abbrev tm_kd (k : Nat) : Nat := (tb k).2.2.2.2.1
abbrev tm_ci (k : Nat) : Nat := (tb k).2.2.2.2.2.1
abbrev tm_n (k : Nat) : Nat := (tb k).2.2.2.2.2.2.1
abbrev tm_ps (k : Nat) : List Nat := (tb k).2.2.2.2.2.2.2
def tm_mcs (k : Nat) : Nat × Nat := (tm_mc k, tm_ms k)
end
section
/-! THE REAL WORLD OF AN ABSTRACT HEAP: logical cell k lies at base + k; what a value, a cell, a heap is in the real machine -/
/-- what is fixed for a run: class numbers and slots, array classes, where our cells begin, where special cells lie, a value of which nothing is known -/
abbrev am_G : Type := va_G × (FieldType → ClassId) × Nat × (Nat → Nat) × Value
def am_al (g : am_G) (k : Nat) : Nat := if k < 1000000 then g.2.2.1 + k else g.2.2.2.1 (k - 1000000)
def am_v (g : am_G) (v : Value) : Value := match v with
  | .ref k => .ref (am_al g k)
  | .retAddr _ => g.2.2.2.2
  | v => v
theorem am_v_int (g : am_G) (x : Int32) : am_v g (.int x) = .int x := rfl
theorem am_v_long (g : am_G) (x : Int64) : am_v g (.long x) = .long x := rfl
theorem am_v_ref (g : am_G) (k : Nat) : am_v g (.ref k) = .ref (am_al g k) := rfl
theorem am_v_null (g : am_G) : am_v g .null = .null := rfl
theorem am_al_lt {g : am_G} {k : Nat} (h : k < 1000000) : am_al g k = g.2.2.1 + k := if_pos h
def am_av (g : am_G) (a : vp_A) : vp_A := match a with
  | (n, .inr (.inr (.inr (.inr f)))) => (n, .inr (.inr (.inr (.inr (fun j => (f j).map (am_al g))))))
  | a => a
def am_rc (g : am_G) (c : am_C) : va_E := match c with
  | .inl (ty, a) => .inl (g.2.1 ty, am_av g a)
  | .inr (ci, fs) => .inr (ci, fs.map (am_v g))
def am_ws (g : am_G) (h : am_H) : va_W := (List.range h.1).map (fun k => (g.2.2.1 + k, am_rc g (h.2.2 k)))
theorem am_ws_len (g : am_G) (h : am_H) : (am_ws g h).length = h.1 := by simp [am_ws]
theorem am_ws_at {g : am_G} {h : am_H} {k : Nat} (hk : k < h.1) : (am_ws g h)[k]? = some (g.2.2.1 + k, am_rc g (h.2.2 k)) := by simp [am_ws, hk]
theorem am_ws_inv {g : am_G} {h : am_H} {k : Nat} {q : Nat × va_E} (e : (am_ws g h)[k]? = some q) : k < h.1 ∧ q = (g.2.2.1 + k, am_rc g (h.2.2 k)) := by
  have hk : k < h.1 := by
    have := (List.getElem?_eq_some_iff.mp e).1
    rwa [am_ws_len] at this
  rw [am_ws_at hk] at e
  exact ⟨hk, (Option.some.inj e).symm⟩
theorem am_ws_set {g : am_G} {h : am_H} {k : Nat} {c : am_C} (hk : k < h.1) : (am_ws g h).set k (g.2.2.1 + k, am_rc g c) = am_ws g (am_put h k c) := by
  apply List.ext_getElem?
  intro j
  by_cases hj : j < h.1
  · rw [am_ws_at (h := am_put h k c) (by exact hj), List.getElem?_set]
    by_cases e : k = j
    · subst e
      rw [if_pos rfl, if_pos (by rw [am_ws_len]; exact hk)]
      simp [am_put, va_up]
    · rw [if_neg e, am_ws_at hj]
      have e2 : ¬ j = k := fun z => e z.symm
      simp [am_put, va_up, e2]
  · rw [List.getElem?_eq_none (by rw [List.length_set, am_ws_len]; omega), List.getElem?_eq_none (by rw [am_ws_len]; show h.1 ≤ j; omega)]
theorem am_ws_push {g : am_G} {h : am_H} {n : Nat} {c : am_C} : am_ws g h ++ [(g.2.2.1 + h.1, am_rc g c)] = am_ws g (am_push h n c) := by
  apply List.ext_getElem?
  intro j
  rcases Nat.lt_trichotomy j h.1 with hj | hj | hj
  · rw [List.getElem?_append_left (by rw [am_ws_len]; exact hj), am_ws_at hj, am_ws_at (h := am_push h n c) (by show j < h.1 + 1; omega)]
    have e : ¬ j = h.1 := by omega
    simp [am_push, va_up, e]
  · subst hj
    rw [List.getElem?_append_right (by rw [am_ws_len]; omega), am_ws_at (h := am_push h n c) (by show h.1 < h.1 + 1; omega), am_ws_len]
    simp [am_push, va_up]
  · rw [List.getElem?_eq_none (by rw [List.length_append, am_ws_len]; simp; omega), List.getElem?_eq_none (by rw [am_ws_len]; show h.1 + 1 ≤ j; omega)]
abbrev am_A (g : am_G) : Nat → Prop := fun q => g.2.2.1 ≤ q
theorem am_D (g : am_G) (h : am_H) : va_D (am_A g) (am_ws g h) := by
  refine ⟨fun i j p q hi hj e => ?_, fun k q hk => ?_⟩
  · obtain ⟨-, rfl⟩ := am_ws_inv hi
    obtain ⟨-, rfl⟩ := am_ws_inv hj
    simp only at e
    omega
  · obtain ⟨-, rfl⟩ := am_ws_inv hk
    show g.2.2.1 ≤ g.2.2.1 + k
    omega
/-- the real heap H is that of the abstract heap h -/
def am_W (g : am_G) (h : am_H) (H : Heap) : Prop := (H.size = g.2.2.1 + h.1 ∧ h.1 ≤ 1000000) ∧ va_P g.1 vwCl (am_ws g h) H
theorem am_look_lt {h : am_H} {k : Nat} {c : am_C} (e : am_look h k = some c) : k < h.1 ∧ h.2.2 k = c := by
  unfold am_look at e
  by_cases hk : k < h.1
  · rw [if_pos hk] at e
    exact ⟨hk, Option.some.inj e⟩
  · rw [if_neg hk] at e
    cases e
theorem am_look_of {h : am_H} {k : Nat} {c : am_C} (hk : k < h.1) (e : h.2.2 k = c) : am_look h k = some c := by
  unfold am_look
  rw [if_pos hk, e]
theorem am_W_al {g : am_G} {h : am_H} {H : Heap} (w : am_W g h H) {k : Nat} (hk : k < h.1) : am_al g k = g.2.2.1 + k := am_al_lt (Nat.lt_of_lt_of_le hk w.1.2)
/-- the row of a cell in the real world -/
theorem am_row {g : am_G} {h : am_H} {H : Heap} (w : am_W g h H) {k : Nat} {c : am_C} (e : am_look h k = some c) : (am_ws g h)[k]? = some (am_al g k, am_rc g c) := by
  obtain ⟨hk, rfl⟩ := am_look_lt e
  rw [am_W_al w hk]
  exact am_ws_at hk
-- the array classes
def am_tys (g : am_G) : List (ClassId × FieldType) := [(g.2.1 .int, .int), (g.2.1 .boolean, .boolean), (g.2.1 (.object RX0), .object RX0), (g.2.1 (.object RX2), .object RX2)]
-- locals
def am_as (g : am_G) : Nat → List Value → List (Nat × Value)
  | _, [] => []
  | i, v :: l => match v with
    | .null => am_as g (i + 1) l
    | v => (i, am_v g v) :: am_as g (i + 1) l
theorem am_as_mem (g : am_G) : ∀ (l : List Value) (i : Nat) (q : Nat × Value), q ∈ am_as g i l → i ≤ q.1 ∧ q.1 < i + l.length ∧ am_nth l (q.1 - i) ≠ .null ∧ q.2 = am_v g (am_nth l (q.1 - i)) := by
  intro l
  induction l with
  | nil => intro i q h; cases h
  | cons v l ih =>
    intro i q h
    have tail : q ∈ am_as g (i + 1) l → i ≤ q.1 ∧ q.1 < i + (v :: l).length ∧ am_nth (v :: l) (q.1 - i) ≠ .null ∧ q.2 = am_v g (am_nth (v :: l) (q.1 - i)) := by
      intro h
      obtain ⟨h1, h2, h3, h4⟩ := ih (i + 1) q h
      have e : q.1 - i = (q.1 - (i + 1)) + 1 := by omega
      refine ⟨by omega, by simp; omega, ?_, ?_⟩
      · rw [e]; exact h3
      · rw [e]; exact h4
    have here : v ≠ .null → q = (i, am_v g v) → i ≤ q.1 ∧ q.1 < i + (v :: l).length ∧ am_nth (v :: l) (q.1 - i) ≠ .null ∧ q.2 = am_v g (am_nth (v :: l) (q.1 - i)) := by
      rintro hv rfl
      refine ⟨Nat.le_refl _, by simp, ?_, ?_⟩
      · simp only [Nat.sub_self]; exact hv
      · simp only [Nat.sub_self]; rfl
    cases v with
    | null => exact tail h
    | _ =>
      rcases List.mem_cons.mp h with h | h
      · exact here (fun z => by cases z) h
      · exact tail h
theorem am_as_of (g : am_G) : ∀ (l : List Value) (i j : Nat) (v : Value), am_nth l j = v → v ≠ .null → (i + j, am_v g v) ∈ am_as g i l := by
  intro l
  induction l with
  | nil =>
    intro i j v h hv
    exact absurd h.symm hv
  | cons w l ih =>
    intro i j v h hv
    cases j with
    | zero =>
      have h : w = v := h
      subst h
      cases w with
      | null => exact absurd rfl hv
      | _ => exact List.mem_cons_self
    | succ j =>
      have h2 := ih (i + 1) j v h hv
      rw [show i + 1 + j = i + (j + 1) by omega] at h2
      cases w with
      | null => exact h2
      | _ => exact List.mem_cons_of_mem _ h2
theorem am_nth_set (v : Value) : ∀ (l : List Value) (i j : Nat), am_nth (am_set l i v) j = if j = i ∧ i < l.length then v else am_nth l j := by
  intro l
  induction l with
  | nil => intro i j; simp [am_set, am_nth]
  | cons w l ih =>
    intro i j
    cases i with
    | zero =>
      cases j with
      | zero => simp [am_set, am_nth]
      | succ j => simp [am_set, am_nth]
    | succ i =>
      cases j with
      | zero => simp [am_set, am_nth]
      | succ j => simp [am_set, am_nth, ih]
theorem am_set_len (v : Value) : ∀ (l : List Value) (i : Nat), (am_set l i v).length = l.length := by
  intro l
  induction l with
  | nil => intro i; rfl
  | cons w l ih =>
    intro i
    cases i with
    | zero => rfl
    | succ i => simp [am_set, ih]
theorem am_nl_cat : ∀ (l : List Value) (j : Nat), am_nl l = true → ∀ x : Int64, am_nth l j ≠ .long x := by
  intro l
  induction l with
  | nil => intro j _ x h; cases h
  | cons w l ih =>
    intro j h x e
    have h2 : am_nl l = true := by cases w <;> first | exact h | cases h
    cases j with
    | zero =>
      have e : w = .long x := e
      subst e
      cases h
    | succ j => exact ih j h2 x e
theorem am_nl_catd : ∀ (l : List Value) (j : Nat), am_nl l = true → ∀ x : UInt64, am_nth l j ≠ .double x := by
  intro l
  induction l with
  | nil => intro j _ x h; cases h
  | cons w l ih =>
    intro j h x e
    have h2 : am_nl l = true := by cases w <;> first | exact h | cases h
    cases j with
    | zero =>
      have e : w = .double x := e
      subst e
      cases h
    | succ j => exact ih j h2 x e
def am_LR (g : am_G) (lr : Array Slot) (n : Nat) (ls : List Value) : Prop := lv_has lr n (am_as g 0 ls) ∧ g.2.2.2.2.category = 1
theorem am_LR_at {g : am_G} {lr : Array Slot} {n : Nat} {ls : List Value} (h : am_LR g lr n ls) {i : Nat} {v : Value} (e : am_nth ls i = v) (hv : v ≠ .null) : lr[i]? = some (.val (am_v g v)) := by
  have h1 := h.1.2.2 _ (am_as_of g ls 0 i v e hv)
  simpa using h1
theorem am_LR_set {g : am_G} {lr lr' : Array Slot} {n : Nat} {ls : List Value} {i : Nat} {v : Value} (h : am_LR g lr n ls) (hl : am_nl ls = true) (h' : lv_has lr' n ((i, am_v g v) :: (am_as g 0 ls).filter (fun q => !(q.1 == i) && !(q.1 + 1 == i && q.2.category == 2)))) : am_LR g lr' n (am_set ls i v) := by
  refine ⟨⟨h'.1, h'.2.1, fun q hq => h'.2.2 q ?_⟩, h.2⟩
  obtain ⟨h1, h2, h3, h4⟩ := am_as_mem g _ 0 q hq
  simp only [Nat.sub_zero, Nat.zero_add, am_set_len] at h2 h3 h4
  rw [am_nth_set] at h3 h4
  by_cases c : q.1 = i ∧ i < ls.length
  · rw [if_pos c] at h3 h4
    obtain ⟨q1, q2⟩ := q
    obtain ⟨c1, -⟩ := c
    simp only at c1 h4
    subst c1; subst h4
    exact List.mem_cons_self
  · rw [if_neg c] at h3 h4
    have hne : ¬ q.1 = i := fun z => c ⟨z, by omega⟩
    refine List.mem_cons_of_mem _ (List.mem_filter.mpr ⟨?_, ?_⟩)
    · have h5 := am_as_of g ls 0 q.1 _ rfl h3
      rw [Nat.zero_add, ← h4] at h5
      exact h5
    · have hcat : ¬ q.2.category = 2 := by
        rw [h4]
        generalize hw : am_nth ls q.1 = w at h3
        cases w with
        | long x => exact absurd hw (am_nl_cat ls q.1 hl x)
        | double x => exact absurd hw (am_nl_catd ls q.1 hl x)
        | retAddr x => show ¬ g.2.2.2.2.category = 2; rw [h.2]; decide
        | _ => simp [am_v, Value.category]
      simp [hne, hcat]
theorem am_LR_n {g : am_G} {lr : Array Slot} {n : Nat} {ls : List Value} (h : am_LR g lr n ls) : lr.size = n := h.1.1
end
section
/-! CONTRACTS IN ABSTRACT WORDS: am_ok (a call), am_wa (a place in a method's run) -/
def am_gt : List Cond := lw_tbl.filter goodWord
theorem am_gt_of {w : Cond} (h : w ∈ lw_tbl) (g : goodWord w = true) : w ∈ am_gt := List.mem_filter.mpr ⟨h, g⟩
theorem am_gt_lw {w : Cond} (h : w ∈ am_gt) : w ∈ lw_tbl := (List.mem_filter.mp h).1
theorem am_gt_good : GoodIn am_gt am_gt := fun w h => ⟨h, good_of_word (List.mem_filter.mp h).2⟩
/-- what is known of the state besides the cells of ours -/
def am_X (L : Nat) (xs : Nat → Int32) (g : am_G) (U : State) : Prop :=
  va_K g.1 vwCl (am_tys g) U ∧ (∀ w ∈ am_nw, va_Nw w U) ∧ (va_AO RX0 U ∧ va_AO RX2 U) ∧ (va_X (g.2.2.2.1 0) L xs U U.heap ∧ g.2.2.2.1 0 < g.2.2.1) ∧ (∀ i, i < 4 → vk_R RX3 (am_si i) (am_stx i) (g.2.2.2.1 (1 + i)) U) ∧ vk_S 4 am_sls am_sbs (fun i => g.2.2.2.1 (1 + i)) (fun i => g.2.2.2.1 (11 + i)) (am_A g) U U.heap ∧ va_Z "java/lang/String" "COMPACT_STRINGS" "Z" (.int 1) (am_A g) U U.heap ∧ va_Z "jdk/internal/util/Preconditions" "SIOOBE_FORMATTER" "Ljava/util/function/BiFunction;" g.2.2.2.2 (am_A g) U U.heap ∧ g.2.2.1 ≤ U.heap.size ∧ g.2.2.2.2.category = 1
theorem am_nw_form : ∀ w ∈ am_nw, ∃ a i x h, w = .methodLinkNest a i x h := by
  intro w hw
  simp only [am_nw, List.mem_cons, List.not_mem_nil, or_false] at hw
  rcases hw with rfl | rfl | rfl | rfl | rfl <;> exact ⟨_, _, _, _, rfl⟩
theorem am_X_go {L : Nat} {xs : Nat → Int32} {g : am_G} {s U : State} {H : Heap} {locs : List Loc} (hX : am_X L xs g s) (hS : va_S (am_A g) s.heap H locs) (hU : U.heap = H) (hW : s.WarmedH U.vm) : am_X L xs g U := by
  obtain ⟨h1, h2, h3, h4, h5, h6, h7, h8, h9, h10⟩ := hX
  have ha := hW.alike
  subst hU
  have hk : ∀ a : Nat, a < s.heap.size → ¬ (am_A g) a → U.heap[a]? = s.heap[a]? := hS.2.1
  refine ⟨va_K.moved ha h1, fun w hw => ?_, ⟨h3.1.moved ha, h3.2.moved ha⟩, ⟨va_X.moved ha (h4.1.kept (hk _ (by omega) (by show ¬ g.2.2.1 ≤ _; omega))), h4.2⟩, fun i hi => (h5 i hi).warm hW, (h6.moved ha).kept hk, (h7.moved ha).kept hk, (h8.moved ha).kept hk, Nat.le_trans h9 hS.1, h10⟩
  obtain ⟨a, i, x, h, rfl⟩ := am_nw_form w hw
  exact va_Nw.warmM hW (h2 _ hw)
def tm_rm (k : Nat) : Room := { frames := tm_fr k, cells := tm_mc k, slots := tm_ms k, locals := tm_lo k }
def tm_ws (k : Nat) : List Cond := .code (tm_y k) (tm_b k) (tm_ml k) (tm_ret k) :: am_gt
def am_recv (k : Nat) (args : List Value) (h : am_H) : Prop := (tm_kd k = 1 → ∃ (a : Nat) (tl : List Value), args = .ref a :: tl ∧ (am_cls h a = some (tm_ci k) ∨ (tm_ci k = 99 ∧ 1000001 ≤ a ∧ a ≤ 1000004))) ∧ (tm_kd k = 2 → ∃ (a : Nat) (tl : List Value), args = .ref a :: tl)
/-- a call of method k from heap h with these arguments answers r and leaves the heap h' -/
def am_ok (L : Nat) (xs : Nat → Int32) (k : Nat) (args : List Value) (h : am_H) (r : Option Int32) (h' : am_H) : Prop :=
  (am_recv k args h ∧ h'.1 = h.1 + tm_mc k ∧ h'.2.1 = h.2.1 + tm_ms k) ∧ ∀ (l : Launch) (g : am_G), h'.1 ≤ 1000000 → Met l (tm_y k) (tm_ws k) (tm_rm k) (va_Pc (args.map (am_v g)) (fun U => am_W g h U.heap ∧ am_X L xs g U)) (fun _ st oc t => oc = .returned (r.map Value.int) ∧ am_W g h' t.heap ∧ va_F (am_A g) st t) (tm_mc k) (tm_ms k) (am_A g)
/-- what a method's run stands on: method k, begun at the heap h0, to end with r and the heap h1 -/
def am_act (L : Nat) (xs : Nat → Int32) (k : Nat) (h0 : am_H) (r : Option Int32) (h1 : am_H) (l : Launch) (g : am_G) (p : Program) (e : Env) (R : Room) (s : State) (m : MethodId) (args : Array Value) (below : List Frame) (meth : Method) (c : Code) (Q : State → Prop) : Prop :=
  p.tables.exec = Jvm.exec ∧ c.code = tm_b k ∧ c.maxLocals = tm_ml k ∧ s.vm.findClass (tm_y k).cls = some m.cls ∧ (∀ w ∈ am_gt, w.before args s = true) ∧ am_X L xs g s ∧ (s.heap.size = g.2.2.1 + h0.1 ∧ h0.1 + tm_mc k ≤ 1000000) ∧ (tm_fr k ≤ R.frames ∧ tm_lo k ≤ R.locals ∧ tm_mc k ≤ R.cells ∧ tm_ms k ≤ R.slots) ∧ (tm_kd k = 2 → meth.name = "<init>") ∧
  ∀ (H : Heap) (locs : List Loc) (lr : Array Slot) (pc : Nat), am_W g h1 H → va_S (am_A g) s.heap H locs →
    (∀ x, r = some x → decode (tm_b k) pc = .ok (.ireturn, 1) → am_fit (tm_rt k) x → W p l e R s m args below meth c H locs (h1.1 - h0.1) (h1.2.1 - h0.2.1) Q (F0 m pc lr [.int x])) ∧
    (r = none → decode (tm_b k) pc = .ok (.return_, 1) → W p l e R s m args below meth c H locs (h1.1 - h0.1) (h1.2.1 - h0.2.1) Q (F0 m pc lr []))
def am_sz (k : Nat) (h0 h : am_H) : Prop := (h0.1 ≤ h.1 ∧ h.1 ≤ h0.1 + tm_mc k) ∧ h0.2.1 ≤ h.2.1 ∧ h.2.1 ≤ h0.2.1 + tm_ms k
/-- from this place (pc, locals, stack, heap) method k comes to its end with r and h1 -/
def am_wa (L : Nat) (xs : Nat → Int32) (k : Nat) (h0 : am_H) (r : Option Int32) (h1 : am_H) (pc : Nat) (ls st : List Value) (h : am_H) : Prop :=
  ∀ (l : Launch) (g : am_G) (p : Program) (e : Env) (R : Room) (s : State) (m : MethodId) (args : Array Value) (below : List Frame) (meth : Method) (c : Code) (Q : State → Prop), am_act L xs k h0 r h1 l g p e R s m args below meth c Q →
  ∀ (H : Heap) (locs : List Loc) (lr : Array Slot), am_W g h H → va_S (am_A g) s.heap H locs → am_LR g lr (tm_ml k) ls → am_sz k h0 h →
  W p l e R s m args below meth c H locs (h.1 - h0.1) (h.2.1 - h0.2.1) Q (F0 m pc lr (st.map (am_v g)))
theorem am_S_tr {A : Nat → Prop} {H0 H H1 : Heap} {locs locs1 : List Loc} (h : va_S A H0 H locs) (h1 : va_S A H H1 locs1) : va_S A H0 H1 locs1 :=
  ⟨Nat.le_trans h.1 h1.1, fun q a b => (h1.2.1 q (Nat.lt_of_lt_of_le a h.1) b).trans (h.2.1 q a b), h1.2.2⟩
theorem am_S_here {A : Nat → Prop} {H0 H : Heap} {locs : List Loc} (h : va_S A H0 H locs) : va_S A H H locs := ⟨Nat.le_refl _, fun _ _ _ => rfl, h.2.2⟩
section AN
variable {p : Program} {l : Launch} {e : Env} {R : Room} {s : State} {m : MethodId} {args : Array Value} {below : List Frame} {meth : Method} {c : Code} {H : Heap} {locs : List Loc} {cells slots : Nat} {Q : State → Prop}
theorem am_sized {fr : JFrame} (k : H.size ≤ s.heap.size + cells → W p l e R s m args below meth c H locs cells slots Q fr) : W p l e R s m args below meth c H locs cells slots Q fr :=
  fun T hT X => k (by rw [← hT]; exact X.heapSize) T hT X
variable {L : Nat} {xs : Nat → Int32} {k : Nat} {h0 h1 h : am_H} {r : Option Int32} {g : am_G} {lr : Array Slot} {ls' st' : List Value} {pc' : Nat}
/-- behind a writing: the world goes on -/
theorem am_next {a : Nat} {cl : am_C} (A : am_act L xs k h0 r h1 l g p e R s m args below meth c Q) (hW : am_W g h H) (hS : va_S (am_A g) s.heap H locs) (hz : am_sz k h0 h) (ha : a < h.1) (K : am_wa L xs k h0 r h1 pc' ls' st' (am_put h a cl)) (hL : am_LR g lr (tm_ml k) ls')
    {H1 : Heap} {locs1 : List Loc} (hP : va_P g.1 vwCl ((am_ws g h).set a (am_al g a, am_rc g cl)) H1) (hS1 : va_S (am_A g) H H1 locs1) : W p l e R s m args below meth c H1 locs1 (h.1 - h0.1) (h.2.1 - h0.2.1) Q (F0 m pc' lr (st'.map (am_v g))) := by
  refine am_sized fun hs => ?_
  have hs0 := A.2.2.2.2.2.2.1.1
  have h1s := hS1.1
  have hws := hW.1.1
  have hz1 := hz.1.1
  refine K l g p e R s m args below meth c Q A H1 locs1 lr ⟨⟨?_, hW.1.2⟩, ?_⟩ (am_S_tr hS hS1) hL hz
  · show H1.size = g.2.2.1 + h.1
    omega
  · rw [← am_ws_set ha, ← am_W_al hW ha]
    exact hP
/-- behind a making -/
theorem am_nextN {n q : Nat} {cl : am_C} (A : am_act L xs k h0 r h1 l g p e R s m args below meth c Q) (hW : am_W g h H) (hS : va_S (am_A g) s.heap H locs) (hz : am_sz k h0 h) (hz2 : h.1 + 1 ≤ h0.1 + tm_mc k ∧ h.2.1 + n ≤ h0.2.1 + tm_ms k) (K : am_wa L xs k h0 r h1 pc' ls' (.ref h.1 :: st') (am_push h n cl)) (hL : am_LR g lr (tm_ml k) ls')
    {H1 : Heap} {locs1 : List Loc} (hP : va_P g.1 vwCl (am_ws g h ++ [(q, am_rc g cl)]) H1) (hD : va_D (am_A g) (am_ws g h ++ [(q, am_rc g cl)])) (hS1 : va_S (am_A g) H H1 locs1) : W p l e R s m args below meth c H1 locs1 (h.1 - h0.1 + 1) (h.2.1 - h0.2.1 + n) Q (F0 m pc' lr (.ref q :: st'.map (am_v g))) := by
  refine am_sized fun hs => ?_
  have hs0 := A.2.2.2.2.2.2.1
  have h1s := hS1.1
  have hws := hW.1.1
  obtain ⟨⟨z1, z2⟩, z3, z4⟩ := hz
  obtain ⟨y1, y2⟩ := hz2
  have hlast : (am_ws g h ++ [(q, am_rc g cl)])[h.1]? = some (q, am_rc g cl) := by
    rw [List.getElem?_append_right (by rw [am_ws_len]; omega), am_ws_len]
    simp
  have hq1 : g.2.2.1 ≤ q := hD.2 h.1 _ hlast
  have hq2 : q < H1.size := (hP h.1 _ hlast).lt
  have hne : ∀ j, j < h.1 → ¬ q = g.2.2.1 + j := by
    intro j hj e
    have hj' : (am_ws g h ++ [(q, am_rc g cl)])[j]? = some (g.2.2.1 + j, am_rc g (h.2.2 j)) := by
      rw [List.getElem?_append_left (by rw [am_ws_len]; exact hj)]
      exact am_ws_at hj
    have := hD.1 h.1 j _ _ hlast hj' e
    omega
  have hq : q = g.2.2.1 + h.1 := by
    rcases Nat.lt_or_ge q (g.2.2.1 + h.1) with z | z
    · exact absurd (show q = g.2.2.1 + (q - g.2.2.1) by omega) (hne _ (by omega))
    · omega
  have hal : am_al g h.1 = g.2.2.1 + h.1 := am_al_lt (by omega)
  have key := K l g p e R s m args below meth c Q A H1 locs1 lr ⟨⟨by show H1.size = g.2.2.1 + (h.1 + 1); omega, by show h.1 + 1 ≤ 1000000; omega⟩, by rw [← am_ws_push, ← hq]; exact hP⟩ (am_S_tr hS hS1) hL ⟨⟨by show h0.1 ≤ h.1 + 1; omega, y1⟩, by show h0.2.1 ≤ h.2.1 + n; omega, y2⟩
  have e1 : (am_push h n cl).1 - h0.1 = h.1 - h0.1 + 1 := by show h.1 + 1 - h0.1 = _; omega
  have e2 : (am_push h n cl).2.1 - h0.2.1 = h.2.1 - h0.2.1 + n := by show h.2.1 + n - h0.2.1 = _; omega
  rw [e1, e2] at key
  rw [hq, ← hal]
  exact key
/-- behind a call -/
theorem am_cont {pc : Nat} {st0 rest st1 : List Value} {k' : Nat} {h' : am_H} {r' : Option Int32} (A : am_act L xs k h0 r h1 l g p e R s m args below meth c Q) (hW : am_W g h H) (hS : va_S (am_A g) s.heap H locs) (hz : am_sz k h0 h)
    (hr : va_Run p l e R s m args below meth c H locs (h.1 - h0.1) (h.2.1 - h0.2.1) (tm_mc k') (tm_ms k') (F0 m pc lr st0) rest (fun st oc t => oc = .returned (r'.map Value.int) ∧ am_W g h' t.heap ∧ va_F (am_A g) st t) (am_A g))
    (e1 : h'.1 = h.1 + tm_mc k') (e2 : h'.2.1 = h.2.1 + tm_ms k') (b1 : h'.1 ≤ h0.1 + tm_mc k) (b2 : h'.2.1 ≤ h0.2.1 + tm_ms k) (hst : (r'.map Value.int).toList ++ rest = st1.map (am_v g)) (hL : am_LR g lr (tm_ml k) ls') (K : am_wa L xs k h0 r h1 (pc + 3) ls' st1 h') :
    W p l e R s m args below meth c H locs (h.1 - h0.1) (h.2.1 - h0.2.1) Q (F0 m pc lr st0) := by
  intro T hT X
  obtain ⟨v, st₀, t, T', LL, g0, X', hL', q1, q2, ⟨hv, hw, hzz, hk⟩, st⟩ := hr T hT X
  cases hv
  rw [g0] at hzz hk
  obtain ⟨⟨z1, z2⟩, z3, z4⟩ := hz
  have c1 : h.1 - h0.1 + tm_mc k' = h'.1 - h0.1 := by omega
  have c2 : h.2.1 - h0.2.1 + tm_ms k' = h'.2.1 - h0.2.1 := by omega
  rw [c1, c2] at X'
  have key := K l g p e R s m args below meth c Q A T'.heap (locs ++ LL) lr (by rw [q1]; exact hw) ⟨Nat.le_trans hS.1 (by rw [q1]; exact hzz), fun q a b => by rw [q1, hk q (Nat.lt_of_lt_of_le a hS.1) b]; exact hS.2.1 q a b, fun q hq => by
    rcases List.mem_append.mp hq with z | z
    · exact hS.2.2 q z
    · exact hL' q z⟩ hL ⟨⟨by omega, b1⟩, by omega, b2⟩
  obtain ⟨t2, a1, b3⟩ := key T' rfl X'
  rw [← hst] at a1
  exact ⟨t2, st t2 a1, b3⟩
end AN
/-- a method's contract out of its run -/
theorem am_ok_of {L : Nat} {xs : Nat → Int32} {k : Nat} {args : List Value} {h h' : am_H} {r : Option Int32} {ls : List Value} (hy : plainName (tm_y k).cls = true) (hret : tm_ret k = some (tm_rt k) ∨ tm_ret k = none) (hrr : r = none ↔ tm_ret k = none) (hin : tm_kd k = 2 → (tm_y k).name = "<init>")
    (hre : am_recv k args h) (e1 : h'.1 = h.1 + tm_mc k) (e2 : h'.2.1 = h.2.1 + tm_ms k) (hen : ∀ (g : am_G), g.2.2.2.2.category = 1 → (lg_sl (args.map (am_v g))).length ≤ tm_ml k ∧ ∀ q ∈ am_as g 0 ls, q ∈ lv_args 0 (args.map (am_v g)))
    (hw : am_wa L xs k h r h' 0 ls [] h) : am_ok L xs k args h r h' := by
  refine ⟨⟨hre, e1, e2⟩, fun l g hb => ?_⟩
  refine Met.ofW (cc := tm_b k) (maxL := tm_ml k) (ret := tm_ret k) hy rfl ?_
  intro p e s m args' below meth c s₁ B hml hv
  obtain ⟨rfl, hW, hX⟩ := hv
  obtain ⟨hfit, hsub⟩ := hen g hX.2.2.2.2.2.2.2.2.2
  have hts := atoms_spec (ws := tm_ws k) B.pre
  have hown : s.vm.findClass (tm_y k).cls = some m.cls := findClass_of_methodNamed B.named
  have hlocks := B.notSynchronized
  have hl := lv_entry (args.map (am_v g)) (n := tm_ml k) hfit
  rw [lg_entry_eq]
  generalize (lg_sl (args.map (am_v g)) ++ List.replicate (tm_ml k - (lg_sl (args.map (am_v g))).length) Slot.unset).toArray = lr at hl ⊢
  have hr := B.returns
  have A : am_act L xs k h r h' l g p e (headSpec (tm_ws k) (tm_rm k)).room s m (args.map (am_v g)).toArray below meth c (MQ below (fun _ st oc t => oc = .returned (r.map Value.int) ∧ am_W g h' t.heap ∧ va_F (am_A g) st t) (args.map (am_v g)).toArray s (tm_mc k) (tm_ms k) (am_A g)) := by
    refine ⟨B.exec, B.bytes, hml, hown, fun w hw => hts w (List.mem_cons_of_mem _ hw), hX, ⟨hW.1.1, by omega⟩, ⟨Nat.le_refl _, Nat.le_refl _, Nat.le_refl _, Nat.le_refl _⟩, fun z => (name_of_methodNamed B.named B.method).1.trans (hin z), ?_⟩
    intro H locs lr pc hW1 hS1
    have c1 : h'.1 - h.1 = tm_mc k := by omega
    have c2 : h'.2.1 - h.2.1 = tm_ms k := by omega
    rw [c1, c2]
    refine ⟨fun x hx hd hf => ?_, fun hx hd => ?_⟩
    · subst hx
      rcases hret with z | z
      · exact W.zret (ty := tm_rt k) B.exec B.bytes (hr.trans z) hf (fun t ht hWm => ⟨rfl, by rw [ht]; exact hW1, hS1.F ht⟩) hS1.2.2 hd
      · exact absurd (hrr.mpr z) (by simp)
    · subst hx
      exact W.vret B.exec B.bytes (hr.trans (hrr.mp rfl)) (fun t ht hWm => ⟨rfl, by rw [ht]; exact hW1, hS1.F ht⟩) hS1.2.2 hd
  have key := hw l g p e _ s m _ below meth c _ A s.heap [] lr hW va_S.rf ⟨⟨hl.1, hl.2.1, fun q hq => hl.2.2 q (hsub q hq)⟩, hX.2.2.2.2.2.2.2.2.2⟩ ⟨⟨Nat.le_refl _, by omega⟩, Nat.le_refl _, by omega⟩
  rw [Nat.sub_self, Nat.sub_self] at key
  exact key
end
section
/-! THE INSTRUCTIONS, one row each: am_wa at an instruction out of am_wa at the next (the kit's rows, lifted) -/
section SN
variable {L : Nat} {xs : Nat → Int32} {k : Nat} {h0 h1 h : am_H} {r : Option Int32} {pc : Nat} {ls st : List Value}
theorem sn_iconst {n : Int} {v : Int32} (hv : Int32.ofInt n = v) (hd : decode (tm_b k) pc = .ok (.iconst n, 1)) (K : am_wa L xs k h0 r h1 (pc + 1) ls (.int v :: st) h) : am_wa L xs k h0 r h1 pc ls (st) h := by
  intro l g p e R s m args below meth c Q A H locs lr hW hS hL hz
  exact lv_iconst A.1 A.2.1 hd hv (K l g p e R s m args below meth c Q A H locs lr hW hS hL hz)
theorem sn_bipush {n : Int} {v : Int32} (hv : (Int8.ofInt n).toInt32 = v) (hd : decode (tm_b k) pc = .ok (.bipush n, 2)) (K : am_wa L xs k h0 r h1 (pc + 2) ls (.int v :: st) h) : am_wa L xs k h0 r h1 pc ls (st) h := by
  intro l g p e R s m args below meth c Q A H locs lr hW hS hL hz
  exact lv_bipush A.1 A.2.1 hd hv (K l g p e R s m args below meth c Q A H locs lr hW hS hL hz)
theorem sn_sipush {n : Int} {v : Int32} (hv : (Int16.ofInt n).toInt32 = v) (hd : decode (tm_b k) pc = .ok (.sipush n, 3)) (K : am_wa L xs k h0 r h1 (pc + 3) ls (.int v :: st) h) : am_wa L xs k h0 r h1 pc ls (st) h := by
  intro l g p e R s m args below meth c Q A H locs lr hW hS hL hz
  exact lv_sipush A.1 A.2.1 hd hv (K l g p e R s m args below meth c Q A H locs lr hW hS hL hz)
theorem sn_ldc {i : Nat} {v : Int32} (hv : Cond.constant (tm_y k).cls i v ∈ am_gt) (hd : decode (tm_b k) pc = .ok (.ldc i, 2)) (K : am_wa L xs k h0 r h1 (pc + 2) ls (.int v :: st) h) : am_wa L xs k h0 r h1 pc ls (st) h := by
  intro l g p e R s m args below meth c Q A H locs lr hW hS hL hz
  exact lv_ldc A.1 A.2.1 A.2.2.2.1 (A.2.2.2.2.1 _ hv) hd (K l g p e R s m args below meth c Q A H locs lr hW hS hL hz)
theorem sn_ldcw {i : Nat} {v : Int32} (hv : Cond.constant (tm_y k).cls i v ∈ am_gt) (hd : decode (tm_b k) pc = .ok (.ldc_w i, 3)) (K : am_wa L xs k h0 r h1 (pc + 3) ls (.int v :: st) h) : am_wa L xs k h0 r h1 pc ls (st) h := by
  intro l g p e R s m args below meth c Q A H locs lr hW hS hL hz
  exact lv_ldcw A.1 A.2.1 A.2.2.2.1 (A.2.2.2.2.1 _ hv) hd (K l g p e R s m args below meth c Q A H locs lr hW hS hL hz)
theorem sn_ldc2 {i : Nat} {v : Int64} (hv : Cond.constantLong (tm_y k).cls i v ∈ am_gt) (hd : decode (tm_b k) pc = .ok (.ldc2_w i, 3)) (K : am_wa L xs k h0 r h1 (pc + 3) ls (.long v :: st) h) : am_wa L xs k h0 r h1 pc ls (st) h := by
  intro l g p e R s m args below meth c Q A H locs lr hW hS hL hz
  exact lv_ldc2 A.1 A.2.1 A.2.2.2.1 (A.2.2.2.2.1 _ hv) hd (K l g p e R s m args below meth c Q A H locs lr hW hS hL hz)
theorem sn_ldcs {i j : Nat} (hj : j < 4) (hi : am_si j = i) (hc : (tm_y k).cls = RX3) (hd : decode (tm_b k) pc = .ok (.ldc i, 2)) (K : am_wa L xs k h0 r h1 (pc + 2) ls (.ref (1000001 + j) :: st) h) : am_wa L xs k h0 r h1 pc ls (st) h := by
  intro l g p e R s m args below meth c Q A H locs lr hW hS hL hz
  have q := K l g p e R s m args below meth c Q A H locs lr hW hS hL hz
  have e9 : am_al g (1000001 + j) = g.2.2.2.1 (1 + j) := by rw [am_al, if_neg (by omega), show 1000001 + j - 1000000 = 1 + j by omega]
  rw [List.map_cons, am_v_ref, e9] at q
  have z := A.2.2.2.2.2.1.2.2.2.2.1 j hj
  have o := A.2.2.2.1
  rw [hc] at o
  rw [hi] at z
  exact va_ldcS A.1 A.2.1 o z hd q
theorem sn_lconst {n : Fin 2} {v : Int64} (hv : Int64.ofNat (n : Nat) = v) (hd : decode (tm_b k) pc = .ok (.lconst n, 1)) (K : am_wa L xs k h0 r h1 (pc + 1) ls (.long v :: st) h) : am_wa L xs k h0 r h1 pc ls (st) h := by
  intro l g p e R s m args below meth c Q A H locs lr hW hS hL hz
  exact lv_lconst A.1 A.2.1 hd hv (K l g p e R s m args below meth c Q A H locs lr hW hS hL hz)
theorem sn_iload_n {j : Fin 4} {i : Nat} {x : Int32} (hj : (j : Nat) = i) (hx : am_nth ls i = .int x) (hd : decode (tm_b k) pc = .ok (.iload_n j, 1)) (K : am_wa L xs k h0 r h1 (pc + 1) ls (.int x :: st) h) : am_wa L xs k h0 r h1 pc ls (st) h := by
  intro l g p e R s m args below meth c Q A H locs lr hW hS hL hz
  exact lv_iload_n A.1 A.2.1 hd hj (am_LR_at hL hx (fun z => by cases z)) (K l g p e R s m args below meth c Q A H locs lr hW hS hL hz)
theorem sn_iload {i : Nat} {x : Int32} (hx : am_nth ls i = .int x) (hd : decode (tm_b k) pc = .ok (.iload i, 2)) (K : am_wa L xs k h0 r h1 (pc + 2) ls (.int x :: st) h) : am_wa L xs k h0 r h1 pc ls (st) h := by
  intro l g p e R s m args below meth c Q A H locs lr hW hS hL hz
  exact lv_iload A.1 A.2.1 hd (am_LR_at hL hx (fun z => by cases z)) (K l g p e R s m args below meth c Q A H locs lr hW hS hL hz)
theorem sn_aload_n {j : Fin 4} {i : Nat} {x : Nat} (hj : (j : Nat) = i) (hx : am_nth ls i = .ref x) (hd : decode (tm_b k) pc = .ok (.aload_n j, 1)) (K : am_wa L xs k h0 r h1 (pc + 1) ls (.ref x :: st) h) : am_wa L xs k h0 r h1 pc ls (st) h := by
  intro l g p e R s m args below meth c Q A H locs lr hW hS hL hz
  exact lv_aload_n A.1 A.2.1 hd hj (am_LR_at hL hx (fun z => by cases z)) (K l g p e R s m args below meth c Q A H locs lr hW hS hL hz)
theorem sn_lload_n {j : Fin 4} {i : Nat} {x : Int64} (hj : (j : Nat) = i) (hx : am_nth ls i = .long x) (hd : decode (tm_b k) pc = .ok (.lload_n j, 1)) (K : am_wa L xs k h0 r h1 (pc + 1) ls (.long x :: st) h) : am_wa L xs k h0 r h1 pc ls (st) h := by
  intro l g p e R s m args below meth c Q A H locs lr hW hS hL hz
  exact lv_lload_n A.1 A.2.1 hd hj (am_LR_at hL hx (fun z => by cases z)) (K l g p e R s m args below meth c Q A H locs lr hW hS hL hz)
theorem sn_lload {i : Nat} {x : Int64} (hx : am_nth ls i = .long x) (hd : decode (tm_b k) pc = .ok (.lload i, 2)) (K : am_wa L xs k h0 r h1 (pc + 2) ls (.long x :: st) h) : am_wa L xs k h0 r h1 pc ls (st) h := by
  intro l g p e R s m args below meth c Q A H locs lr hW hS hL hz
  exact lv_lload A.1 A.2.1 hd (am_LR_at hL hx (fun z => by cases z)) (K l g p e R s m args below meth c Q A H locs lr hW hS hL hz)
theorem sn_istore_n {j : Fin 4} {i : Nat} {x : Int32} (hj : (j : Nat) = i) (hn : i < tm_ml k) (hl : am_nl ls = true) (hd : decode (tm_b k) pc = .ok (.istore_n j, 1)) (K : am_wa L xs k h0 r h1 (pc + 1) (am_set ls i (.int x)) st h) : am_wa L xs k h0 r h1 pc ls (.int x :: st) h := by
  intro l g p e R s m args below meth c Q A H locs lr hW hS hL hz
  exact lv_istore_n A.1 A.2.1 hd hj hL.1 hn rfl (fun lr' hl' => K l g p e R s m args below meth c Q A H locs lr' hW hS (am_LR_set hL hl hl') hz)
theorem sn_istore {i : Nat} {x : Int32} (hn : i < tm_ml k) (hl : am_nl ls = true) (hd : decode (tm_b k) pc = .ok (.istore i, 2)) (K : am_wa L xs k h0 r h1 (pc + 2) (am_set ls i (.int x)) st h) : am_wa L xs k h0 r h1 pc ls (.int x :: st) h := by
  intro l g p e R s m args below meth c Q A H locs lr hW hS hL hz
  exact lv_istore A.1 A.2.1 hd hL.1 hn rfl (fun lr' hl' => K l g p e R s m args below meth c Q A H locs lr' hW hS (am_LR_set hL hl hl') hz)
theorem sn_astore_n {j : Fin 4} {i : Nat} {x : Nat} (hj : (j : Nat) = i) (hn : i < tm_ml k) (hl : am_nl ls = true) (hd : decode (tm_b k) pc = .ok (.astore_n j, 1)) (K : am_wa L xs k h0 r h1 (pc + 1) (am_set ls i (.ref x)) st h) : am_wa L xs k h0 r h1 pc ls (.ref x :: st) h := by
  intro l g p e R s m args below meth c Q A H locs lr hW hS hL hz
  exact lv_astore_n A.1 A.2.1 hd hj hL.1 hn rfl (fun lr' hl' => K l g p e R s m args below meth c Q A H locs lr' hW hS (am_LR_set hL hl hl') hz)
theorem sn_iinc {i : Nat} {n : Int} {x v : Int32} (hn : i < tm_ml k) (hl : am_nl ls = true) (hx : am_nth ls i = .int x) (hv : Int32.ofInt n = v) (hd : decode (tm_b k) pc = .ok (.iinc i n, 3)) (K : am_wa L xs k h0 r h1 (pc + 3) (am_set ls i (.int (x + v))) st h) : am_wa L xs k h0 r h1 pc ls st h := by
  intro l g p e R s m args below meth c Q A H locs lr hW hS hL hz
  have hm := am_as_of g ls 0 i _ hx (fun z => by cases z)
  rw [Nat.zero_add] at hm
  obtain ⟨q, hq⟩ := List.getElem?_of_mem hm
  exact lv_iinc A.1 A.2.1 hd hL.1 hq (v := x + v) (by rw [hv]) hn rfl (fun lr' hl' => K l g p e R s m args below meth c Q A H locs lr' hW hS (am_LR_set (v := .int (x + v)) hL hl hl') hz)
theorem sn_iadd {x y : Int32} (hd : decode (tm_b k) pc = .ok (.iadd, 1)) (K : am_wa L xs k h0 r h1 (pc + 1) ls (.int (x + y) :: st) h) : am_wa L xs k h0 r h1 pc ls (.int y :: .int x :: st) h := by
  intro l g p e R s m args below meth c Q A H locs lr hW hS hL hz
  exact lv_iadd A.1 A.2.1 hd (K l g p e R s m args below meth c Q A H locs lr hW hS hL hz)
theorem sn_isub {x y : Int32} (hd : decode (tm_b k) pc = .ok (.isub, 1)) (K : am_wa L xs k h0 r h1 (pc + 1) ls (.int (x - y) :: st) h) : am_wa L xs k h0 r h1 pc ls (.int y :: .int x :: st) h := by
  intro l g p e R s m args below meth c Q A H locs lr hW hS hL hz
  exact lv_isub A.1 A.2.1 hd (K l g p e R s m args below meth c Q A H locs lr hW hS hL hz)
theorem sn_imul {x y : Int32} (hd : decode (tm_b k) pc = .ok (.imul, 1)) (K : am_wa L xs k h0 r h1 (pc + 1) ls (.int (x * y) :: st) h) : am_wa L xs k h0 r h1 pc ls (.int y :: .int x :: st) h := by
  intro l g p e R s m args below meth c Q A H locs lr hW hS hL hz
  exact lv_imul A.1 A.2.1 hd (K l g p e R s m args below meth c Q A H locs lr hW hS hL hz)
theorem sn_iand {x y : Int32} (hd : decode (tm_b k) pc = .ok (.iand, 1)) (K : am_wa L xs k h0 r h1 (pc + 1) ls (.int (x &&& y) :: st) h) : am_wa L xs k h0 r h1 pc ls (.int y :: .int x :: st) h := by
  intro l g p e R s m args below meth c Q A H locs lr hW hS hL hz
  exact lv_iand A.1 A.2.1 hd (K l g p e R s m args below meth c Q A H locs lr hW hS hL hz)
theorem sn_ior {x y : Int32} (hd : decode (tm_b k) pc = .ok (.ior, 1)) (K : am_wa L xs k h0 r h1 (pc + 1) ls (.int (x ||| y) :: st) h) : am_wa L xs k h0 r h1 pc ls (.int y :: .int x :: st) h := by
  intro l g p e R s m args below meth c Q A H locs lr hW hS hL hz
  exact lv_ior A.1 A.2.1 hd (K l g p e R s m args below meth c Q A H locs lr hW hS hL hz)
theorem sn_ixor {x y : Int32} (hd : decode (tm_b k) pc = .ok (.ixor, 1)) (K : am_wa L xs k h0 r h1 (pc + 1) ls (.int (x ^^^ y) :: st) h) : am_wa L xs k h0 r h1 pc ls (.int y :: .int x :: st) h := by
  intro l g p e R s m args below meth c Q A H locs lr hW hS hL hz
  exact lv_ixor A.1 A.2.1 hd (K l g p e R s m args below meth c Q A H locs lr hW hS hL hz)
theorem sn_ishl {x y : Int32} (hd : decode (tm_b k) pc = .ok (.ishl, 1)) (K : am_wa L xs k h0 r h1 (pc + 1) ls (.int (x <<< (y &&& 31)) :: st) h) : am_wa L xs k h0 r h1 pc ls (.int y :: .int x :: st) h := by
  intro l g p e R s m args below meth c Q A H locs lr hW hS hL hz
  exact lv_ishl A.1 A.2.1 hd (K l g p e R s m args below meth c Q A H locs lr hW hS hL hz)
theorem sn_ishr {x y : Int32} (hd : decode (tm_b k) pc = .ok (.ishr, 1)) (K : am_wa L xs k h0 r h1 (pc + 1) ls (.int (x >>> (y &&& 31)) :: st) h) : am_wa L xs k h0 r h1 pc ls (.int y :: .int x :: st) h := by
  intro l g p e R s m args below meth c Q A H locs lr hW hS hL hz
  exact lv_ishr A.1 A.2.1 hd (K l g p e R s m args below meth c Q A H locs lr hW hS hL hz)
theorem sn_iushr {x y : Int32} (hd : decode (tm_b k) pc = .ok (.iushr, 1)) (K : am_wa L xs k h0 r h1 (pc + 1) ls (.int (x.toUInt32 >>> (y.toUInt32 &&& Int32.toUInt32 31)).toInt32 :: st) h) : am_wa L xs k h0 r h1 pc ls (.int y :: .int x :: st) h := by
  intro l g p e R s m args below meth c Q A H locs lr hW hS hL hz
  exact lv_iushr A.1 A.2.1 hd rfl (K l g p e R s m args below meth c Q A H locs lr hW hS hL hz)
theorem sn_idiv {x y : Int32} (hy : ¬ y = 0) (hd : decode (tm_b k) pc = .ok (.idiv, 1)) (K : am_wa L xs k h0 r h1 (pc + 1) ls (.int (x / y) :: st) h) : am_wa L xs k h0 r h1 pc ls (.int y :: .int x :: st) h := by
  intro l g p e R s m args below meth c Q A H locs lr hW hS hL hz
  exact lv_idiv A.1 A.2.1 hd hy (K l g p e R s m args below meth c Q A H locs lr hW hS hL hz)
theorem sn_irem {x y : Int32} (hy : ¬ y = 0) (hd : decode (tm_b k) pc = .ok (.irem, 1)) (K : am_wa L xs k h0 r h1 (pc + 1) ls (.int (x - x / y * y) :: st) h) : am_wa L xs k h0 r h1 pc ls (.int y :: .int x :: st) h := by
  intro l g p e R s m args below meth c Q A H locs lr hW hS hL hz
  exact lv_irem A.1 A.2.1 hd hy (K l g p e R s m args below meth c Q A H locs lr hW hS hL hz)
theorem sn_ineg {x : Int32} (hd : decode (tm_b k) pc = .ok (.ineg, 1)) (K : am_wa L xs k h0 r h1 (pc + 1) ls (.int (-x) :: st) h) : am_wa L xs k h0 r h1 pc ls (.int x :: st) h := by
  intro l g p e R s m args below meth c Q A H locs lr hW hS hL hz
  exact lv_ineg A.1 A.2.1 hd (K l g p e R s m args below meth c Q A H locs lr hW hS hL hz)
theorem sn_i2l {x : Int32} (hd : decode (tm_b k) pc = .ok (.i2l, 1)) (K : am_wa L xs k h0 r h1 (pc + 1) ls (.long x.toInt64 :: st) h) : am_wa L xs k h0 r h1 pc ls (.int x :: st) h := by
  intro l g p e R s m args below meth c Q A H locs lr hW hS hL hz
  exact lv_i2l A.1 A.2.1 hd rfl (K l g p e R s m args below meth c Q A H locs lr hW hS hL hz)
theorem sn_i2c {x : Int32} (hd : decode (tm_b k) pc = .ok (.i2c, 1)) (K : am_wa L xs k h0 r h1 (pc + 1) ls (.int (x.toUInt32 % 65536).toInt32 :: st) h) : am_wa L xs k h0 r h1 pc ls (.int x :: st) h := by
  intro l g p e R s m args below meth c Q A H locs lr hW hS hL hz
  exact lv_i2c A.1 A.2.1 hd rfl (K l g p e R s m args below meth c Q A H locs lr hW hS hL hz)
theorem sn_lcmp {x y : Int64} (hd : decode (tm_b k) pc = .ok (.lcmp, 1)) (K : am_wa L xs k h0 r h1 (pc + 1) ls (.int (lg_cmp x y) :: st) h) : am_wa L xs k h0 r h1 pc ls (.long y :: .long x :: st) h := by
  intro l g p e R s m args below meth c Q A H locs lr hW hS hL hz
  exact W.lcmp A.1 A.2.1 hd (K l g p e R s m args below meth c Q A H locs lr hW hS hL hz)
theorem sn_dup_int {x : Int32} (hd : decode (tm_b k) pc = .ok (.dup, 1)) (K : am_wa L xs k h0 r h1 (pc + 1) ls (.int x :: .int x :: st) h) : am_wa L xs k h0 r h1 pc ls (.int x :: st) h := by
  intro l g p e R s m args below meth c Q A H locs lr hW hS hL hz
  exact lv_dup A.1 A.2.1 hd rfl (K l g p e R s m args below meth c Q A H locs lr hW hS hL hz)
theorem sn_pop_int {x : Int32} (hd : decode (tm_b k) pc = .ok (.pop, 1)) (K : am_wa L xs k h0 r h1 (pc + 1) ls (st) h) : am_wa L xs k h0 r h1 pc ls (.int x :: st) h := by
  intro l g p e R s m args below meth c Q A H locs lr hW hS hL hz
  exact lv_pop A.1 A.2.1 hd rfl (K l g p e R s m args below meth c Q A H locs lr hW hS hL hz)
theorem sn_dup2_int {x : Int32} {y : Int32} (hd : decode (tm_b k) pc = .ok (.dup2, 1)) (K : am_wa L xs k h0 r h1 (pc + 1) ls (.int x :: .int y :: .int x :: .int y :: st) h) : am_wa L xs k h0 r h1 pc ls (.int x :: .int y :: st) h := by
  intro l g p e R s m args below meth c Q A H locs lr hW hS hL hz
  exact lv_dup2_11 A.1 A.2.1 hd rfl rfl (K l g p e R s m args below meth c Q A H locs lr hW hS hL hz)
theorem sn_dup_ref {x : Nat} (hd : decode (tm_b k) pc = .ok (.dup, 1)) (K : am_wa L xs k h0 r h1 (pc + 1) ls (.ref x :: .ref x :: st) h) : am_wa L xs k h0 r h1 pc ls (.ref x :: st) h := by
  intro l g p e R s m args below meth c Q A H locs lr hW hS hL hz
  exact lv_dup A.1 A.2.1 hd rfl (K l g p e R s m args below meth c Q A H locs lr hW hS hL hz)
theorem sn_pop_ref {x : Nat} (hd : decode (tm_b k) pc = .ok (.pop, 1)) (K : am_wa L xs k h0 r h1 (pc + 1) ls (st) h) : am_wa L xs k h0 r h1 pc ls (.ref x :: st) h := by
  intro l g p e R s m args below meth c Q A H locs lr hW hS hL hz
  exact lv_pop A.1 A.2.1 hd rfl (K l g p e R s m args below meth c Q A H locs lr hW hS hL hz)
theorem sn_dup2_ref {x : Int32} {y : Nat} (hd : decode (tm_b k) pc = .ok (.dup2, 1)) (K : am_wa L xs k h0 r h1 (pc + 1) ls (.int x :: .ref y :: .int x :: .ref y :: st) h) : am_wa L xs k h0 r h1 pc ls (.int x :: .ref y :: st) h := by
  intro l g p e R s m args below meth c Q A H locs lr hW hS hL hz
  exact lv_dup2_11 A.1 A.2.1 hd rfl rfl (K l g p e R s m args below meth c Q A H locs lr hW hS hL hz)
theorem sn_goto {off : Int} {t : Nat} (ht : (pc : Int) + off = (t : Int)) (hd : decode (tm_b k) pc = .ok (.goto off, 3)) (K : am_wa L xs k h0 r h1 t ls st h) : am_wa L xs k h0 r h1 pc ls st h := by
  intro l g p e R s m args below meth c Q A H locs lr hW hS hL hz
  exact lv_goto A.1 A.2.1 hd ht (K l g p e R s m args below meth c Q A H locs lr hW hS hL hz)
theorem sn_if_eq {x : Int32} {off : Int} {t : Nat} (ht : (pc : Int) + off = (t : Int)) (hd : decode (tm_b k) pc = .ok (.ifCond .eq off, 3)) (K1 : x = 0 → am_wa L xs k h0 r h1 t ls st h) (K2 : ¬ x = 0 → am_wa L xs k h0 r h1 (pc + 3) ls st h) : am_wa L xs k h0 r h1 pc ls (.int x :: st) h := by
  intro l g p e R s m args below meth c Q A H locs lr hW hS hL hz
  exact lv_if_eq A.1 A.2.1 hd ht (fun z => K1 z l g p e R s m args below meth c Q A H locs lr hW hS hL hz) (fun z => K2 z l g p e R s m args below meth c Q A H locs lr hW hS hL hz)
theorem sn_if_ne {x : Int32} {off : Int} {t : Nat} (ht : (pc : Int) + off = (t : Int)) (hd : decode (tm_b k) pc = .ok (.ifCond .ne off, 3)) (K1 : x = 0 → am_wa L xs k h0 r h1 (pc + 3) ls st h) (K2 : ¬ x = 0 → am_wa L xs k h0 r h1 t ls st h) : am_wa L xs k h0 r h1 pc ls (.int x :: st) h := by
  intro l g p e R s m args below meth c Q A H locs lr hW hS hL hz
  exact lv_if_ne A.1 A.2.1 hd ht (fun z => K2 z l g p e R s m args below meth c Q A H locs lr hW hS hL hz) (fun z => K1 z l g p e R s m args below meth c Q A H locs lr hW hS hL hz)
theorem sn_if_lt {x : Int32} {off : Int} {t : Nat} (ht : (pc : Int) + off = (t : Int)) (hd : decode (tm_b k) pc = .ok (.ifCond .lt off, 3)) (K1 : x < 0 → am_wa L xs k h0 r h1 t ls st h) (K2 : ¬ x < 0 → am_wa L xs k h0 r h1 (pc + 3) ls st h) : am_wa L xs k h0 r h1 pc ls (.int x :: st) h := by
  intro l g p e R s m args below meth c Q A H locs lr hW hS hL hz
  exact lv_if_lt A.1 A.2.1 hd ht (fun z => K1 z l g p e R s m args below meth c Q A H locs lr hW hS hL hz) (fun z => K2 z l g p e R s m args below meth c Q A H locs lr hW hS hL hz)
theorem sn_if_ge {x : Int32} {off : Int} {t : Nat} (ht : (pc : Int) + off = (t : Int)) (hd : decode (tm_b k) pc = .ok (.ifCond .ge off, 3)) (K1 : x < 0 → am_wa L xs k h0 r h1 (pc + 3) ls st h) (K2 : ¬ x < 0 → am_wa L xs k h0 r h1 t ls st h) : am_wa L xs k h0 r h1 pc ls (.int x :: st) h := by
  intro l g p e R s m args below meth c Q A H locs lr hW hS hL hz
  exact lv_if_ge A.1 A.2.1 hd ht (fun z => K2 (Int32.not_lt.mpr z) l g p e R s m args below meth c Q A H locs lr hW hS hL hz) (fun z => K1 (Int32.not_le.mp z) l g p e R s m args below meth c Q A H locs lr hW hS hL hz)
theorem sn_if_gt {x : Int32} {off : Int} {t : Nat} (ht : (pc : Int) + off = (t : Int)) (hd : decode (tm_b k) pc = .ok (.ifCond .gt off, 3)) (K1 : 0 < x → am_wa L xs k h0 r h1 t ls st h) (K2 : ¬ 0 < x → am_wa L xs k h0 r h1 (pc + 3) ls st h) : am_wa L xs k h0 r h1 pc ls (.int x :: st) h := by
  intro l g p e R s m args below meth c Q A H locs lr hW hS hL hz
  exact lv_if_gt A.1 A.2.1 hd ht (fun z => K1 z l g p e R s m args below meth c Q A H locs lr hW hS hL hz) (fun z => K2 z l g p e R s m args below meth c Q A H locs lr hW hS hL hz)
theorem sn_if_le {x : Int32} {off : Int} {t : Nat} (ht : (pc : Int) + off = (t : Int)) (hd : decode (tm_b k) pc = .ok (.ifCond .le off, 3)) (K1 : 0 < x → am_wa L xs k h0 r h1 (pc + 3) ls st h) (K2 : ¬ 0 < x → am_wa L xs k h0 r h1 t ls st h) : am_wa L xs k h0 r h1 pc ls (.int x :: st) h := by
  intro l g p e R s m args below meth c Q A H locs lr hW hS hL hz
  exact lv_if_le A.1 A.2.1 hd ht (fun z => K2 (Int32.not_lt.mpr z) l g p e R s m args below meth c Q A H locs lr hW hS hL hz) (fun z => K1 (Int32.not_le.mp z) l g p e R s m args below meth c Q A H locs lr hW hS hL hz)
theorem sn_icmp_eq {x y : Int32} {off : Int} {t : Nat} (ht : (pc : Int) + off = (t : Int)) (hd : decode (tm_b k) pc = .ok (.if_icmp .eq off, 3)) (K1 : x = y → am_wa L xs k h0 r h1 t ls st h) (K2 : ¬ x = y → am_wa L xs k h0 r h1 (pc + 3) ls st h) : am_wa L xs k h0 r h1 pc ls (.int y :: .int x :: st) h := by
  intro l g p e R s m args below meth c Q A H locs lr hW hS hL hz
  exact lv_icmp_eq A.1 A.2.1 hd ht (fun z => K1 z l g p e R s m args below meth c Q A H locs lr hW hS hL hz) (fun z => K2 z l g p e R s m args below meth c Q A H locs lr hW hS hL hz)
theorem sn_icmp_ne {x y : Int32} {off : Int} {t : Nat} (ht : (pc : Int) + off = (t : Int)) (hd : decode (tm_b k) pc = .ok (.if_icmp .ne off, 3)) (K1 : x = y → am_wa L xs k h0 r h1 (pc + 3) ls st h) (K2 : ¬ x = y → am_wa L xs k h0 r h1 t ls st h) : am_wa L xs k h0 r h1 pc ls (.int y :: .int x :: st) h := by
  intro l g p e R s m args below meth c Q A H locs lr hW hS hL hz
  exact lv_icmp_ne A.1 A.2.1 hd ht (fun z => K2 z l g p e R s m args below meth c Q A H locs lr hW hS hL hz) (fun z => K1 z l g p e R s m args below meth c Q A H locs lr hW hS hL hz)
theorem sn_icmp_lt {x y : Int32} {off : Int} {t : Nat} (ht : (pc : Int) + off = (t : Int)) (hd : decode (tm_b k) pc = .ok (.if_icmp .lt off, 3)) (K1 : x < y → am_wa L xs k h0 r h1 t ls st h) (K2 : ¬ x < y → am_wa L xs k h0 r h1 (pc + 3) ls st h) : am_wa L xs k h0 r h1 pc ls (.int y :: .int x :: st) h := by
  intro l g p e R s m args below meth c Q A H locs lr hW hS hL hz
  exact lv_icmp_lt A.1 A.2.1 hd ht (fun z => K1 z l g p e R s m args below meth c Q A H locs lr hW hS hL hz) (fun z => K2 z l g p e R s m args below meth c Q A H locs lr hW hS hL hz)
theorem sn_icmp_ge {x y : Int32} {off : Int} {t : Nat} (ht : (pc : Int) + off = (t : Int)) (hd : decode (tm_b k) pc = .ok (.if_icmp .ge off, 3)) (K1 : x < y → am_wa L xs k h0 r h1 (pc + 3) ls st h) (K2 : ¬ x < y → am_wa L xs k h0 r h1 t ls st h) : am_wa L xs k h0 r h1 pc ls (.int y :: .int x :: st) h := by
  intro l g p e R s m args below meth c Q A H locs lr hW hS hL hz
  exact lv_icmp_ge A.1 A.2.1 hd ht (fun z => K2 (Int32.not_lt.mpr z) l g p e R s m args below meth c Q A H locs lr hW hS hL hz) (fun z => K1 (Int32.not_le.mp z) l g p e R s m args below meth c Q A H locs lr hW hS hL hz)
theorem sn_icmp_gt {x y : Int32} {off : Int} {t : Nat} (ht : (pc : Int) + off = (t : Int)) (hd : decode (tm_b k) pc = .ok (.if_icmp .gt off, 3)) (K1 : y < x → am_wa L xs k h0 r h1 t ls st h) (K2 : ¬ y < x → am_wa L xs k h0 r h1 (pc + 3) ls st h) : am_wa L xs k h0 r h1 pc ls (.int y :: .int x :: st) h := by
  intro l g p e R s m args below meth c Q A H locs lr hW hS hL hz
  exact lv_icmp_gt A.1 A.2.1 hd ht (fun z => K1 z l g p e R s m args below meth c Q A H locs lr hW hS hL hz) (fun z => K2 z l g p e R s m args below meth c Q A H locs lr hW hS hL hz)
theorem sn_icmp_le {x y : Int32} {off : Int} {t : Nat} (ht : (pc : Int) + off = (t : Int)) (hd : decode (tm_b k) pc = .ok (.if_icmp .le off, 3)) (K1 : y < x → am_wa L xs k h0 r h1 (pc + 3) ls st h) (K2 : ¬ y < x → am_wa L xs k h0 r h1 t ls st h) : am_wa L xs k h0 r h1 pc ls (.int y :: .int x :: st) h := by
  intro l g p e R s m args below meth c Q A H locs lr hW hS hL hz
  exact lv_icmp_le A.1 A.2.1 hd ht (fun z => K2 (Int32.not_lt.mpr z) l g p e R s m args below meth c Q A H locs lr hW hS hL hz) (fun z => K1 (Int32.not_le.mp z) l g p e R s m args below meth c Q A H locs lr hW hS hL hz)
theorem sn_swIn {dflt lo hi : Int} {offs : Array Int} {len : Nat} {x : Int32} {off : Int} {t : Nat} (hd : decode (tm_b k) pc = .ok (.tableswitch dflt lo hi offs, len)) (g1 : ¬ x.toInt < lo) (g2 : ¬ hi < x.toInt) (ho : offs[(x.toInt - lo).toNat]? = some off) (ht : (pc : Int) + off = (t : Int)) (K : am_wa L xs k h0 r h1 t ls st h) : am_wa L xs k h0 r h1 pc ls (.int x :: st) h := by
  intro l g p e R s m args below meth c Q A H locs lr hW hS hL hz
  exact lv_tableIn A.1 A.2.1 hd g1 g2 ho ht (K l g p e R s m args below meth c Q A H locs lr hW hS hL hz)
theorem sn_swOut {dflt lo hi : Int} {offs : Array Int} {len : Nat} {x : Int32} {t : Nat} (hd : decode (tm_b k) pc = .ok (.tableswitch dflt lo hi offs, len)) (g1 : x.toInt < lo ∨ hi < x.toInt) (ht : (pc : Int) + dflt = (t : Int)) (K : am_wa L xs k h0 r h1 t ls st h) : am_wa L xs k h0 r h1 pc ls (.int x :: st) h := by
  intro l g p e R s m args below meth c Q A H locs lr hW hS hL hz
  exact lv_tableOut A.1 A.2.1 hd g1 ht (K l g p e R s m args below meth c Q A H locs lr hW hS hL hz)
end SN
end
section
/-! THE INSTRUCTIONS THAT LOOK INTO THE HEAP, AND CALLS -/
theorem am_ing {ci : Nat} (hi : ci < 6) : ∀ w ∈ u_ws (am_cn ci) (am_T ci) (am_N ci), w ∈ am_gt := by
  intro w hw
  refine am_gt_of (am_inn ci hi w hw) ?_
  obtain ⟨j, -, rfl⟩ := List.mem_map.mp hw
  unfold u_lay
  split <;> rfl
theorem am_fld_inv {h : am_H} {a ci j : Nat} {v : Value} (e : am_fld h a ci j = some v) : ∃ fs, am_look h a = some (.inr (ci, fs)) ∧ fs[j]? = some v := by
  unfold am_fld at e
  split at e
  · rename_i c fs he
    split at e
    · rename_i hc
      subst hc
      exact ⟨fs, he, e⟩
    · cases e
  · cases e
theorem am_gI_inv {h : am_H} {a ci j : Nat} {x : Int32} (e : am_gI h a ci j = some x) : ∃ fs, am_look h a = some (.inr (ci, fs)) ∧ fs[j]? = some (.int x) := by
  unfold am_gI at e
  split at e
  · rename_i y he
    cases e
    exact am_fld_inv he
  · cases e
theorem am_gR_inv {h : am_H} {a ci j : Nat} {x : Nat} (e : am_gR h a ci j = some x) : ∃ fs, am_look h a = some (.inr (ci, fs)) ∧ fs[j]? = some (.ref x) := by
  unfold am_gR at e
  split at e
  · rename_i y he
    cases e
    exact am_fld_inv he
  · cases e
theorem am_pF_inv {h h' : am_H} {a ci j : Nat} {v : Value} (e : am_pF h a ci j v = some h') : ∃ fs, am_look h a = some (.inr (ci, fs)) ∧ j < fs.length ∧ h' = am_put h a (.inr (ci, fs.set j v)) := by
  unfold am_pF at e
  split at e
  · rename_i c fs he
    split at e
    · rename_i hc
      obtain ⟨rfl, hj⟩ := hc
      cases e
      exact ⟨fs, he, hj, rfl⟩
    · cases e
  · cases e
theorem am_ii_inv {h : am_H} {a n : Nat} {ty : FieldType} {f : Nat → Int32} (e : am_ii h a = some (ty, n, f)) : am_look h a = some (.inl (ty, n, .inl f)) := by
  unfold am_ii at e
  split at e
  · rename_i t n' f' he
    cases e
    exact he
  · cases e
theorem am_rr_inv {h : am_H} {a n : Nat} {ty : FieldType} {f : Nat → Option Nat} (e : am_rr h a = some (ty, n, f)) : am_look h a = some (.inl (ty, n, .inr (.inr (.inr (.inr f))))) := by
  unfold am_rr at e
  split at e
  · rename_i t n' f' he
    cases e
    exact he
  · cases e
theorem am_lI_inv {h : am_H} {a : Nat} {ty : FieldType} {i x : Int32} (e : am_lI h ty a i = some x) : ∃ n f, am_look h a = some (.inl (ty, n, .inl f)) ∧ vp_in i n ∧ x = f i.toNatClampNeg := by
  unfold am_lI at e
  split at e
  · rename_i t n f he
    split at e
    · rename_i hc
      obtain ⟨rfl, hin⟩ := hc
      cases e
      exact ⟨n, f, am_ii_inv he, hin, rfl⟩
    · cases e
  · cases e
theorem am_sI_inv {h h' : am_H} {a : Nat} {ty : FieldType} {i x : Int32} (e : am_sI h ty a i x = some h') : ∃ n f, am_look h a = some (.inl (ty, n, .inl f)) ∧ vp_in i n ∧ h' = am_put h a (.inl (ty, n, .inl (upd f i.toNatClampNeg x))) := by
  unfold am_sI at e
  split at e
  · rename_i t n f he
    split at e
    · rename_i hc
      obtain ⟨rfl, hin⟩ := hc
      cases e
      exact ⟨n, f, am_ii_inv he, hin, rfl⟩
    · cases e
  · cases e
theorem am_lA_inv {h : am_H} {a x : Nat} {C : String} {i : Int32} (e : am_lA h C a i = some x) : ∃ n f, am_look h a = some (.inl (.object C, n, .inr (.inr (.inr (.inr f))))) ∧ vp_in i n ∧ f i.toNatClampNeg = some x := by
  unfold am_lA at e
  split at e
  · rename_i t n f he
    split at e
    · rename_i hc
      obtain ⟨rfl, hin⟩ := hc
      exact ⟨n, f, am_rr_inv he, hin, e⟩
    · cases e
  · cases e
theorem am_cls_inv {h : am_H} {a c : Nat} (e : am_cls h a = some c) : ∃ fs, am_look h a = some (.inr (c, fs)) := by
  unfold am_cls at e
  split at e
  · rename_i c' fs he
    cases e
    exact ⟨fs, he⟩
  · cases e
theorem am_sA_inv {h h' : am_H} {a v ci : Nat} {C : String} {i : Int32} (e : am_sA h C ci a i v = some h') : ∃ n f fs, am_look h a = some (.inl (.object C, n, .inr (.inr (.inr (.inr f))))) ∧ am_look h v = some (.inr (ci, fs)) ∧ vp_in i n ∧ h' = am_put h a (.inl (.object C, n, .inr (.inr (.inr (.inr (va_up f i.toNatClampNeg (some v))))))) := by
  unfold am_sA at e
  split at e
  · rename_i t n f he
    split at e
    · rename_i hc
      obtain ⟨⟨rfl, hv⟩, hin⟩ := hc
      obtain ⟨fs, hfs⟩ := am_cls_inv hv
      cases e
      exact ⟨n, f, fs, am_rr_inv he, hfs, hin, rfl⟩
    · cases e
  · cases e
theorem am_len_inv {h : am_H} {a : Nat} {x : Int32} (e : am_len h a = some x) : ∃ y, am_look h a = some (.inl (.int, y)) ∧ x = nI y.1 := by
  unfold am_len at e
  split at e
  · rename_i y he
    cases e
    exact ⟨y, he, rfl⟩
  · cases e
theorem am_cp_inv {h h' : am_H} {a0 a : Nat} {sp dp n : Int32} (e : am_cp h a0 sp a dp n = some h') : ∃ n0 n1 f f1, am_look h a0 = some (.inl (.int, n0, .inl f)) ∧ am_look h a = some (.inl (.int, n1, .inl f1)) ∧ (¬ sp < 0 ∧ ¬ dp < 0 ∧ ¬ n < 0 ∧ sp.toNatClampNeg + n.toNatClampNeg ≤ n0 ∧ dp.toNatClampNeg + n.toNatClampNeg ≤ n1) ∧ h' = am_put h a (.inl (.int, n1, .inl (va_cpy f f1 sp.toNatClampNeg dp.toNatClampNeg n.toNatClampNeg))) := by
  unfold am_cp at e
  split at e
  · rename_i t0 n0 f t1 n1 f1 he0 he1
    split at e
    · rename_i hc
      obtain ⟨⟨rfl, rfl⟩, hh⟩ := hc
      cases e
      exact ⟨n0, n1, f, f1, am_ii_inv he0, am_ii_inv he1, hh, rfl⟩
    · cases e
  · cases e
theorem am_av_rf (g : am_G) (x : Option Nat) : va_rf (x.map (am_al g)) = match x with | some y => am_v g (.ref y) | none => .null := by
  cases x <;> rfl
theorem am_al_sp (g : am_G) (j : Nat) : am_al g (1000000 + j) = g.2.2.2.1 j := by
  rw [am_al, if_neg (by omega), show 1000000 + j - 1000000 = j by omega]
section SH
variable {L : Nat} {xs : Nat → Int32} {k : Nat} {h0 h1 h : am_H} {r : Option Int32} {pc : Nat} {ls st : List Value}
theorem sn_get {index a ci j : Nat} {fs : List Value} {v : Value} (hi : ci < 6) (hj : j < am_N ci) (hw : Cond.fieldLink (tm_y k).cls index (am_cn ci) (am_T ci j).2.1 (am_T ci j).2.2.1 ∈ am_gt) (hT : (am_T ci j).1 = am_cn ci) (hd : decode (tm_b k) pc = .ok (.getfield index, 3)) (he : am_look h a = some (.inr (ci, fs))) (hv : fs[j]? = some v) (K : am_wa L xs k h0 r h1 (pc + 3) ls (v :: st) h) : am_wa L xs k h0 r h1 pc ls (.ref a :: st) h := by
  intro l g p e R s m args below meth c Q A H locs lr hW hS hL hz
  exact va_get (D := g.1) (C := am_cn ci) (T := am_T ci) (N := am_N ci) (ref := am_cn ci) A.1 A.2.1 A.2.2.2.2.1 (am_ing hi) A.2.2.2.1 A.2.2.2.2.2.1.1 hW.2 a (fs := fs.map (am_v g)) (am_row hW he) (am_cl_at ci hi) j hj (A.2.2.2.2.1 _ hw) (fun x hx => by rw [hT] at hx; exact hx) (v := am_v g v) (by rw [List.getElem?_map, hv]; rfl) hd (K l g p e R s m args below meth c Q A H locs lr hW hS hL hz)
theorem sn_put {index a ci j : Nat} {fs : List Value} {v : Value} (hi : ci < 6) (hj : j < am_N ci) (hw : Cond.fieldLink (tm_y k).cls index (am_cn ci) (am_T ci j).2.1 (am_T ci j).2.2.1 ∈ am_gt) (hT : (am_T ci j).1 = am_cn ci) (hfin : (am_T ci j).2.2.2 = false ∨ (tm_kd k = 2 ∧ (tm_y k).cls = am_cn ci)) (hn : ∀ g, narrow (am_ty ci j) (am_v g v) = am_v g v ∧ fits (am_ty ci j) (am_v g v) = true) (hd : decode (tm_b k) pc = .ok (.putfield index, 3)) (he : am_look h a = some (.inr (ci, fs))) (hl : j < fs.length) (K : am_wa L xs k h0 r h1 (pc + 3) ls st (am_put h a (.inr (ci, fs.set j v)))) : am_wa L xs k h0 r h1 pc ls (v :: .ref a :: st) h := by
  intro l g p e R s m args below meth c Q A H locs lr hW hS hL hz
  have ha := (am_look_lt he).1
  have em : (fs.map (am_v g)).set j (am_v g v) = (fs.set j v).map (am_v g) := by rw [List.map_set]
  by_cases hf : (am_T ci j).2.2.2 = false
  · refine va_put (D := g.1) (C := am_cn ci) (T := am_T ci) (N := am_N ci) (ref := am_cn ci) (ty := am_ty ci j) (v := am_v g v) A.1 A.2.1 A.2.2.2.2.1 (am_ing hi) (am_ty ci) (am_tyk ci hi) (am_nm ci hi) A.2.2.2.1 A.2.2.2.2.2.1.1 hW.2 (am_D g h) (am_S_here hS) a (fs := fs.map (am_v g)) (am_row hW he) (am_cl_at ci hi) j hj (A.2.2.2.2.1 _ hw) (fun x hx => by rw [hT] at hx; exact hx) hf (am_tyk ci hi j hj) (hn g).1 (hn g).2 (by rw [List.length_map]; exact hl) hd (fun H1 locs1 hP1 _ hS1 => ?_)
    rw [em] at hP1
    exact am_next A hW hS hz ha K hL hP1 hS1
  · obtain ⟨hk2, hown⟩ := hfin.resolve_left hf
    refine va_putF (D := g.1) (C := am_cn ci) (T := am_T ci) (N := am_N ci) (ref := am_cn ci) (ty := am_ty ci j) (v := am_v g v) A.1 A.2.1 A.2.2.2.2.1 (am_ing hi) (am_ty ci) (am_tyk ci hi) (am_nm ci hi) A.2.2.2.1 A.2.2.2.2.2.1.1 hW.2 (am_D g h) (am_S_here hS) a (fs := fs.map (am_v g)) (am_row hW he) (am_cl_at ci hi) j hj (A.2.2.2.2.1 _ hw) (fun x hx => by rw [hT] at hx; exact hx) (by simpa using hf) (A.2.2.2.2.2.2.2.2.1 hk2) (hT.trans hown.symm) (am_tyk ci hi j hj) (hn g).1 (hn g).2 (by rw [List.length_map]; exact hl) hd (fun H1 locs1 hP1 _ hS1 => ?_)
    rw [em] at hP1
    exact am_next A hW hS hz ha K hL hP1 hS1
theorem sn_getsv {index j : Nat} (hj : j < 4) (hw : Cond.fieldLink (tm_y k).cls index "java/lang/String" "value" "[B" ∈ am_gt) (hd : decode (tm_b k) pc = .ok (.getfield index, 3)) (K : am_wa L xs k h0 r h1 (pc + 3) ls (.ref (1000000 + (11 + j)) :: st) h) : am_wa L xs k h0 r h1 pc ls (.ref (1000000 + (1 + j)) :: st) h := by
  intro l g p e R s m args below meth c Q A H locs lr hW hS hL hz
  have q := K l g p e R s m args below meth c Q A H locs lr hW hS hL hz
  have z := (A.2.2.2.2.2.1.2.2.2.2.2.1.1 j hj).2.2.1
  rw [List.map_cons, am_v_ref, am_al_sp] at q ⊢
  exact vk_getf A.1 A.2.1 z hS A.2.2.2.1 (A.2.2.2.2.1 _ hw) (fun _ x => x) hd q
theorem sn_getsc {index j : Nat} (hj : j < 4) (hw : Cond.fieldLink (tm_y k).cls index "java/lang/String" "coder" "B" ∈ am_gt) (hd : decode (tm_b k) pc = .ok (.getfield index, 3)) (K : am_wa L xs k h0 r h1 (pc + 3) ls (.int 0 :: st) h) : am_wa L xs k h0 r h1 pc ls (.ref (1000000 + (1 + j)) :: st) h := by
  intro l g p e R s m args below meth c Q A H locs lr hW hS hL hz
  have q := K l g p e R s m args below meth c Q A H locs lr hW hS hL hz
  have z := (A.2.2.2.2.2.1.2.2.2.2.2.1.1 j hj).2.1
  rw [List.map_cons, am_v_ref, am_al_sp]
  exact vk_getf A.1 A.2.1 z hS A.2.2.2.1 (A.2.2.2.2.1 _ hw) (fun _ x => x) hd q
theorem sn_gets0 {index : Nat} (hw : Cond.fieldLink (tm_y k).cls index "java/lang/String" "COMPACT_STRINGS" "Z" ∈ am_gt) (hd : decode (tm_b k) pc = .ok (.getstatic index, 3)) (K : am_wa L xs k h0 r h1 (pc + 3) ls (.int 1 :: st) h) : am_wa L xs k h0 r h1 pc ls st h := by
  intro l g p e R s m args below meth c Q A H locs lr hW hS hL hz
  exact va_gets A.1 A.2.1 A.2.2.2.2.2.1.2.2.2.2.2.2.1 hS A.2.2.2.1 (A.2.2.2.2.1 _ hw) (fun _ x => x) hd (K l g p e R s m args below meth c Q A H locs lr hW hS hL hz)
theorem sn_gets1 {index : Nat} (hw : Cond.fieldLink (tm_y k).cls index "jdk/internal/util/Preconditions" "SIOOBE_FORMATTER" "Ljava/util/function/BiFunction;" ∈ am_gt) (hd : decode (tm_b k) pc = .ok (.getstatic index, 3)) (K : am_wa L xs k h0 r h1 (pc + 3) ls (.retAddr 0 :: st) h) : am_wa L xs k h0 r h1 pc ls st h := by
  intro l g p e R s m args below meth c Q A H locs lr hW hS hL hz
  exact va_gets A.1 A.2.1 A.2.2.2.2.2.1.2.2.2.2.2.2.2.1 hS A.2.2.2.1 (A.2.2.2.2.1 _ hw) (fun _ x => x) hd (K l g p e R s m args below meth c Q A H locs lr hW hS hL hz)
theorem sn_iald {a : Nat} {i x : Int32} (hd : decode (tm_b k) pc = .ok (.iaload, 1)) (e : am_lI h .int a i = some x) (K : am_wa L xs k h0 r h1 (pc + 1) ls (.int x :: st) h) : am_wa L xs k h0 r h1 pc ls (.int i :: .ref a :: st) h := by
  obtain ⟨n, f, he, hin, rfl⟩ := am_lI_inv e
  intro l g p e R s m args below meth c Q A H locs lr hW hS hL hz
  exact va_iald A.1 A.2.1 A.2.2.2.2.2.1.1 hW.2 a 0 (am_row hW he) rfl hin hd (K l g p e R s m args below meth c Q A H locs lr hW hS hL hz)
theorem sn_zald {a : Nat} {i x : Int32} (hd : decode (tm_b k) pc = .ok (.baload, 1)) (e : am_lI h .boolean a i = some x) (K : am_wa L xs k h0 r h1 (pc + 1) ls (.int x :: st) h) : am_wa L xs k h0 r h1 pc ls (.int i :: .ref a :: st) h := by
  obtain ⟨n, f, he, hin, rfl⟩ := am_lI_inv e
  intro l g p e R s m args below meth c Q A H locs lr hW hS hL hz
  exact va_zald A.1 A.2.1 A.2.2.2.2.2.1.1 hW.2 a 1 (am_row hW he) rfl hin hd (K l g p e R s m args below meth c Q A H locs lr hW hS hL hz)
theorem sn_scr {i : Int32} (hd : decode (tm_b k) pc = .ok (.iaload, 1)) (hin : ¬ (i < 0 ∨ L ≤ i.toNatClampNeg)) (K : am_wa L xs k h0 r h1 (pc + 1) ls (.int (xs i.toNatClampNeg) :: st) h) : am_wa L xs k h0 r h1 pc ls (.int i :: .ref 1000000 :: st) h := by
  intro l g p e R s m args below meth c Q A H locs lr hW hS hL hz
  have x := A.2.2.2.2.2.1.2.2.2.1
  have y := A.2.2.2.2.2.1.2.2.2.2.2.2.2.2.1
  exact va_sld A.1 A.2.1 (b := g.2.2.2.1 0) x.1 (by omega) (by show ¬ g.2.2.1 ≤ _; omega) hS hin hd (K l g p e R s m args below meth c Q A H locs lr hW hS hL hz)
theorem sn_scl (hd : decode (tm_b k) pc = .ok (.arraylength, 1)) (K : am_wa L xs k h0 r h1 (pc + 1) ls (.int (nI L) :: st) h) : am_wa L xs k h0 r h1 pc ls (.ref 1000000 :: st) h := by
  intro l g p e R s m args below meth c Q A H locs lr hW hS hL hz
  have x := A.2.2.2.2.2.1.2.2.2.1
  have y := A.2.2.2.2.2.1.2.2.2.2.2.2.2.2.1
  exact va_slen A.1 A.2.1 (b := g.2.2.2.1 0) x.1 (by omega) (by show ¬ g.2.2.1 ≤ _; omega) hS hd (K l g p e R s m args below meth c Q A H locs lr hW hS hL hz)
theorem sn_bald {j : Nat} {i : Int32} (hj : j < 4) (hd : decode (tm_b k) pc = .ok (.baload, 1)) (hin : ¬ (i < 0 ∨ am_sl j ≤ i.toNatClampNeg)) (K : am_wa L xs k h0 r h1 (pc + 1) ls (.int (am_sb j i.toNatClampNeg) :: st) h) : am_wa L xs k h0 r h1 pc ls (.int i :: .ref (1000000 + (11 + j)) :: st) h := by
  intro l g p e R s m args below meth c Q A H locs lr hW hS hL hz
  have q := K l g p e R s m args below meth c Q A H locs lr hW hS hL hz
  have z := (A.2.2.2.2.2.1.2.2.2.2.2.1.1 j hj).2.2.2
  rw [List.map_cons, List.map_cons, am_v_ref, am_al_sp]
  exact va_tb A.1 A.2.1 z hS hin rfl hd q
theorem sn_blen {j : Nat} (hj : j < 4) (hd : decode (tm_b k) pc = .ok (.arraylength, 1)) (K : am_wa L xs k h0 r h1 (pc + 1) ls (.int (nI (am_sl j)) :: st) h) : am_wa L xs k h0 r h1 pc ls (.ref (1000000 + (11 + j)) :: st) h := by
  intro l g p e R s m args below meth c Q A H locs lr hW hS hL hz
  have q := K l g p e R s m args below meth c Q A H locs lr hW hS hL hz
  have z := (A.2.2.2.2.2.1.2.2.2.2.2.1.1 j hj).2.2.2
  rw [List.map_cons, am_v_ref, am_al_sp]
  exact va_tlen A.1 A.2.1 z hS rfl hd q
theorem sn_alen {a : Nat} {x : Int32} (hd : decode (tm_b k) pc = .ok (.arraylength, 1)) (e : am_len h a = some x) (K : am_wa L xs k h0 r h1 (pc + 1) ls (.int x :: st) h) : am_wa L xs k h0 r h1 pc ls (.ref a :: st) h := by
  obtain ⟨y, he, rfl⟩ := am_len_inv e
  intro l g p e R s m args below meth c Q A H locs lr hW hS hL hz
  have ey : (am_av g y).1 = y.1 := by
    obtain ⟨n, f | f | f | f | f⟩ := y <;> rfl
  exact va_alen A.1 A.2.1 A.2.2.2.2.2.1.1 hW.2 a 0 (am_row hW he) rfl (v := nI y.1) (by rw [ey]; rfl) hd (K l g p e R s m args below meth c Q A H locs lr hW hS hL hz)
theorem sn_aald {a ci x : Nat} {i : Int32} (hi : ci = 0 ∨ ci = 2) (hd : decode (tm_b k) pc = .ok (.aaload, 1)) (e : am_lA h (am_cn ci) a i = some x) (K : am_wa L xs k h0 r h1 (pc + 1) ls (.ref x :: st) h) : am_wa L xs k h0 r h1 pc ls (.int i :: .ref a :: st) h := by
  obtain ⟨n, f, he, hin, hx⟩ := am_lA_inv e
  intro l g p e R s m args below meth c Q A H locs lr hW hS hL hz
  have q := K l g p e R s m args below meth c Q A H locs lr hW hS hL hz
  have q2 : W p l e R s m args below meth c H locs (h.1 - h0.1) (h.2.1 - h0.2.1) Q (F0 m (pc + 1) lr (va_rf ((f i.toNatClampNeg).map (am_al g)) :: st.map (am_v g))) := by
    rw [hx]
    exact q
  rcases hi with rfl | rfl
  · exact va_aldq (f := fun j => (f j).map (am_al g)) A.1 A.2.1 A.2.2.2.2.2.1.1 hW.2 a 2 (am_row hW he) rfl hin hd q2
  · exact va_aldq (f := fun j => (f j).map (am_al g)) A.1 A.2.1 A.2.2.2.2.2.1.1 hW.2 a 3 (am_row hW he) rfl hin hd q2
theorem sn_iast {a : Nat} {i x : Int32} {h' : am_H} (hd : decode (tm_b k) pc = .ok (.iastore, 1)) (e : am_sI h .int a i x = some h') (K : am_wa L xs k h0 r h1 (pc + 1) ls st h') : am_wa L xs k h0 r h1 pc ls (.int x :: .int i :: .ref a :: st) h := by
  obtain ⟨n, f, he, hin, rfl⟩ := am_sI_inv e
  intro l g p e R s m args below meth c Q A H locs lr hW hS hL hz
  exact va_iast A.1 A.2.1 A.2.2.2.2.2.1.1 hW.2 (am_D g h) (am_S_here hS) a 0 (am_row hW he) rfl hin hd (fun H1 locs1 hP1 _ hS1 => am_next A hW hS hz (am_look_lt he).1 K hL hP1 hS1)
theorem am_nar_z {x : Int32} (hx : x = 0 ∨ x = 1) : vp_nar .boolean x = x := by
  rcases hx with rfl | rfl <;> decide +kernel
theorem sn_zast {a : Nat} {i x : Int32} {h' : am_H} (hx : x = 0 ∨ x = 1) (hd : decode (tm_b k) pc = .ok (.bastore, 1)) (e : am_sI h .boolean a i x = some h') (K : am_wa L xs k h0 r h1 (pc + 1) ls st h') : am_wa L xs k h0 r h1 pc ls (.int x :: .int i :: .ref a :: st) h := by
  obtain ⟨n, f, he, hin, rfl⟩ := am_sI_inv e
  intro l g p e R s m args below meth c Q A H locs lr hW hS hL hz
  exact va_zast A.1 A.2.1 A.2.2.2.2.2.1.1 hW.2 (am_D g h) (am_S_here hS) a 1 (am_row hW he) rfl hin hd (fun H1 locs1 hP1 _ hS1 => by
    rw [am_nar_z hx] at hP1
    exact am_next A hW hS hz (am_look_lt he).1 K hL hP1 hS1)
theorem sn_aast {a v ci : Nat} {i : Int32} {h' : am_H} (hi : ci = 0 ∨ ci = 2) (hd : decode (tm_b k) pc = .ok (.aastore, 1)) (e : am_sA h (am_cn ci) ci a i v = some h') (K : am_wa L xs k h0 r h1 (pc + 1) ls st h') : am_wa L xs k h0 r h1 pc ls (.ref v :: .int i :: .ref a :: st) h := by
  obtain ⟨n, f, fs, he, hv, hin, rfl⟩ := am_sA_inv e
  intro l g p e R s m args below meth c Q A H locs lr hW hS hL hz
  have eu : (fun j => (va_up f i.toNatClampNeg (some v) j).map (am_al g)) = va_up (fun j => (f j).map (am_al g)) i.toNatClampNeg (some (am_al g v)) := by
    funext j
    unfold va_up
    by_cases z : j = i.toNatClampNeg
    · simp [z]
    · simp [z]
  have key : ∀ (H1 : Heap) (locs1 : List Loc), va_P g.1 vwCl ((am_ws g h).set a (am_al g a, .inl (g.2.1 (.object (am_cn ci)), n, .inr (.inr (.inr (.inr (va_up (fun j => (f j).map (am_al g)) i.toNatClampNeg (some (am_al g v)))))))) ) H1 → va_S (am_A g) H H1 locs1 → W p l e R s m args below meth c H1 locs1 (h.1 - h0.1) (h.2.1 - h0.2.1) Q (F0 m (pc + 1) lr (st.map (am_v g))) := by
    intro H1 locs1 hP1 hS1
    rw [← eu] at hP1
    exact am_next A hW hS hz (am_look_lt he).1 K hL hP1 hS1
  rcases hi with rfl | rfl
  · exact va_astq (f := fun j => (f j).map (am_al g)) (r := (RX0, TX0, 11)) (vs := fs.map (am_v g)) A.1 A.2.1 A.2.2.2.2.2.1.1 hW.2 (am_D g h) (am_S_here hS) a 2 v 0 (am_row hW he) rfl (am_row hW hv) rfl hin hd (fun H1 locs1 hP1 _ hS1 => key H1 locs1 hP1 hS1)
  · exact va_astq (f := fun j => (f j).map (am_al g)) (r := (RX2, TX2, 3)) (vs := fs.map (am_v g)) A.1 A.2.1 A.2.2.2.2.2.1.1 hW.2 (am_D g h) (am_S_here hS) a 3 v 2 (am_row hW he) rfl (am_row hW hv) rfl hin hd (fun H1 locs1 hP1 _ hS1 => key H1 locs1 hP1 hS1)
end SH
end
section
/-! MAKINGS AND CALLS -/
section SC
variable {L : Nat} {xs : Nat → Int32} {k : Nat} {h0 h1 h : am_H} {r : Option Int32} {pc : Nat} {ls st : List Value}
theorem am_RA_of {g : am_G} {U : State} (hK : va_K g.1 vwCl (am_tys g) U) {ty : FieldType} (i : Nat) (hi : (am_tys g)[i]? = some (g.2.1 ty, ty)) {cA : ClassId} (h : va_RA U cA ty) : cA = g.2.1 ty := by
  have q := (hK.2 i _ hi).2
  cases ty with
  | object C =>
    obtain ⟨_, _, -, -, -, z⟩ := h
    obtain ⟨_, _, -, -, -, y⟩ := q
    exact Option.some.inj (z.symm.trans y)
  | _ => exact Option.some.inj (h.symm.trans q)
theorem sn_newa {atype : ArrayType} {b : Nat} {n : Int32} (hb : newarray.typeOf atype = am_aty b ∧ (b = 0 ∨ b = 1)) (hd : decode (tm_b k) pc = .ok (.newarray atype, 2)) (hn : ¬ n < 0) (hs : n.toNatClampNeg ≤ 1000) (hz2 : h.1 + 1 ≤ h0.1 + tm_mc k ∧ h.2.1 + n.toNatClampNeg ≤ h0.2.1 + tm_ms k) (K : am_wa L xs k h0 r h1 (pc + 2) ls (.ref h.1 :: st) (am_push h n.toNatClampNeg (.inl (am_aty b, n.toNatClampNeg, .inl (fun _ => 0))))) : am_wa L xs k h0 r h1 pc ls (.int n :: st) h := by
  intro l g p e R s m args below meth c Q A H locs lr hW hS hL hz
  have hR := A.2.2.2.2.2.2.2.1
  have hz' := hz
  obtain ⟨⟨z1, z2⟩, z3, z4⟩ := hz'
  have hin : ∀ w ∈ am_ot, goodWord w = true → w ∈ am_gt := fun w hw hg => am_gt_of (am_ot_in w hw) hg
  have hby : n.toNatClampNeg * componentBytes (am_aty b) ≤ 536870912 := by
    have hc : componentBytes (am_aty b) ≤ 8 := by
      rcases hb.2 with rfl | rfl <;> decide +kernel
    have := Nat.mul_le_mul hs hc
    omega
  have hi : ∃ i : Nat, (am_tys g)[i]? = some (g.2.1 (am_aty b), am_aty b) := by
    rcases hb.2 with rfl | rfl
    · exact ⟨0, rfl⟩
    · exact ⟨1, rfl⟩
  obtain ⟨i, hi⟩ := hi
  refine va_newa (ty := am_aty b) (a0 := (n.toNatClampNeg, .inl (fun _ => 0))) A.1 A.2.1 ?_ hb.1 A.2.2.2.2.2.1.1 hW.2 (am_D g h) (am_S_here hS) (fun q hq => ?_) (fun cA => ?_) hn rfl hby (by omega) (by omega) hd (fun q cA H1 hK1 hP1 hD1 hS1 => ?_)
  · rcases hb.2 with rfl | rfl
    · rw [hb.1]; exact A.2.2.2.2.1 _ (hin _ (by decide +kernel) rfl)
    · rw [hb.1]; exact A.2.2.2.2.1 _ (hin _ (by decide +kernel) rfl)
  · show g.2.2.1 ≤ q
    have := hW.1.1
    omega
  · rcases hb.2 with rfl | rfl <;> rfl
  · have hq := (hK1.2 (am_tys g).length (cA, am_aty b) (by rw [List.getElem?_append_right (Nat.le_refl _), Nat.sub_self]; rfl)).2
    have e1 := am_RA_of A.2.2.2.2.2.1.1 i hi hq
    subst e1
    exact am_nextN (cl := .inl (am_aty b, n.toNatClampNeg, .inl (fun _ => 0))) A hW hS hz hz2 K hL hP1 hD1 hS1
theorem sn_anew {index ci : Nat} {n : Int32} (hc : ci = 0 ∨ ci = 2) (hw : Cond.classLink (tm_y k).cls index (am_cn ci) ∈ am_gt) (hd : decode (tm_b k) pc = .ok (.anewarray index, 3)) (hn : ¬ n < 0) (hs : n.toNatClampNeg ≤ 1000) (hz2 : h.1 + 1 ≤ h0.1 + tm_mc k ∧ h.2.1 + n.toNatClampNeg ≤ h0.2.1 + tm_ms k) (K : am_wa L xs k h0 r h1 (pc + 3) ls (.ref h.1 :: st) (am_push h n.toNatClampNeg (.inl (.object (am_cn ci), n.toNatClampNeg, .inr (.inr (.inr (.inr (fun _ => none)))))))) : am_wa L xs k h0 r h1 pc ls (.int n :: st) h := by
  intro l g p e R s m args below meth c Q A H locs lr hW hS hL hz
  have hR := A.2.2.2.2.2.2.2.1
  have hz' := hz
  obtain ⟨⟨z1, z2⟩, z3, z4⟩ := hz'
  have hi : ∃ i : Nat, (am_tys g)[i]? = some (g.2.1 (FieldType.object (am_cn ci)), FieldType.object (am_cn ci)) := by
    rcases hc with rfl | rfl
    · exact ⟨2, rfl⟩
    · exact ⟨3, rfl⟩
  obtain ⟨i, hi⟩ := hi
  refine va_newq (C := am_cn ci) A.1 A.2.1 A.2.2.2.1 (A.2.2.2.2.1 _ hw) ?_ A.2.2.2.2.2.1.1 hW.2 (am_D g h) (am_S_here hS) (fun q hq => ?_) hn rfl (by omega) (by omega) (by omega) hd (fun q cA H1 hK1 hP1 hD1 hS1 => ?_)
  · rcases hc with rfl | rfl
    · exact A.2.2.2.2.2.1.2.2.1.1
    · exact A.2.2.2.2.2.1.2.2.1.2
  · show g.2.2.1 ≤ q
    have := hW.1.1
    omega
  · have hq := (hK1.2 (am_tys g).length (cA, .object (am_cn ci)) (by rw [List.getElem?_append_right (Nat.le_refl _), Nat.sub_self]; rfl)).2
    have e1 := am_RA_of A.2.2.2.2.2.1.1 i hi hq
    subst e1
    exact am_nextN (cl := .inl (.object (am_cn ci), n.toNatClampNeg, .inr (.inr (.inr (.inr (fun _ => none)))))) A hW hS hz hz2 K hL hP1 hD1 hS1
theorem am_df_len : ∀ ci, ci < 6 → (am_df ci).length = am_N ci := by
  intro i hi
  match i, hi with
  | 0, _ => rfl
  | 1, _ => rfl
  | 2, _ => rfl
  | 3, _ => rfl
  | 4, _ => rfl
  | 5, _ => rfl
  | i + 6, h => omega
theorem am_df_v (g : am_G) : ∀ ci, ci < 6 → (am_df ci).map (am_v g) = am_df ci := by
  intro i hi
  match i, hi with
  | 0, _ => rfl
  | 1, _ => rfl
  | 2, _ => rfl
  | 3, _ => rfl
  | 4, _ => rfl
  | 5, _ => rfl
  | i + 6, h => omega
theorem am_df_at : ∀ ci, ci < 6 → ∀ j, j < am_N ci → defaultValue (am_ty ci j) = vp_V (am_df ci) j := by
  intro i hi
  match i, hi with
  | 0, _ => decide +kernel
  | 1, _ => decide +kernel
  | 2, _ => decide +kernel
  | 3, _ => decide +kernel
  | 4, _ => decide +kernel
  | 5, _ => decide +kernel
  | i + 6, h => omega
theorem sn_new {index ci : Nat} (hc : ci < 6) (hw : Cond.classLink (tm_y k).cls index (am_cn ci) ∈ am_gt) (hw2 : Cond.instantiable (am_cn ci) (am_N ci) ∈ am_gt) (hw3 : Cond.initialized (am_cn ci) ∈ am_gt) (hd : decode (tm_b k) pc = .ok (.new index, 3)) (hz2 : h.1 + 1 ≤ h0.1 + tm_mc k ∧ h.2.1 + (am_df ci).length ≤ h0.2.1 + tm_ms k) (K : am_wa L xs k h0 r h1 (pc + 3) ls (.ref h.1 :: st) (am_push h (am_df ci).length (.inr (ci, am_df ci)))) : am_wa L xs k h0 r h1 pc ls st h := by
  intro l g p e R s m args below meth c Q A H locs lr hW hS hL hz
  have hR := A.2.2.2.2.2.2.2.1
  have hz' := hz
  obtain ⟨⟨z1, z2⟩, z3, z4⟩ := hz'
  have hlen := am_df_len ci hc
  refine va_new (ci := ci) (fs := am_df ci) (C := am_cn ci) (T := am_T ci) (N := am_N ci) A.1 A.2.1 A.2.2.2.2.1 (am_ing hc) (am_ty ci) (am_tyk ci hc) A.2.2.2.1 (A.2.2.2.2.1 _ hw) (A.2.2.2.2.1 _ hw2) (A.2.2.2.2.1 _ hw3) A.2.2.2.2.2.1.1 hW.2 (am_D g h) (am_S_here hS) (fun q hq => ?_) (am_cl_at ci hc) (am_df_at ci hc) (by omega) (by omega) hd (fun q H1 hP1 hD1 hS1 => ?_)
  · show g.2.2.1 ≤ q
    have := hW.1.1
    omega
  · have er : am_rc g (.inr (ci, am_df ci)) = .inr (ci, am_df ci) := by
      show Sum.inr (ci, (am_df ci).map (am_v g)) = _
      rw [am_df_v g ci hc]
    rw [← er] at hP1 hD1
    rw [← hlen]
    exact am_nextN (cl := .inr (ci, am_df ci)) A hW hS hz hz2 K hL hP1 hD1 hS1
theorem am_cats (g : am_G) (hg : g.2.2.2.2.category = 1) : ∀ st : List Value, ((st.map (am_v g)).map fun v => v.category).sum ≤ 2 * st.length := by
  intro st
  induction st with
  | nil => simp
  | cons v st ih =>
    have hv : (am_v g v).category ≤ 2 := by rcases lv_cat (am_v g v) with z | z <;> omega
    simp only [List.map_cons, List.sum_cons, List.length_cons]
    omega
theorem sn_oinit {index a : Nat} (hs : st.length ≤ 4) (hfr : 1 ≤ tm_fr k) (hlo : 30 ≤ tm_lo k) (hw : Cond.methodLink (tm_y k).cls index objectInit ∈ am_gt) (hd : decode (tm_b k) pc = .ok (.invokespecial index, 3)) (K : am_wa L xs k h0 r h1 (pc + 3) ls st h) : am_wa L xs k h0 r h1 pc ls (.ref a :: st) h := by
  intro l g p e R s m args below meth c Q A H locs lr hW hS hL hz
  have hR := A.2.2.2.2.2.2.2.1
  have hin : ∀ w ∈ am_ot, goodWord w = true → w ∈ am_gt := fun w hw hg => am_gt_of (am_ot_in w hw) hg
  have hc := am_cats g hL.2 st
  have hm : 2 * (F0 m pc lr ((Value.ref a :: st).map (am_v g))).monitorRoom + ((st.map (am_v g)).map fun v => v.category).sum ≤ 8 := lv_room (by omega)
  exact W.objInit A.1 A.2.1 A.2.2.2.1 (A.2.2.2.2.1 _ hw) (A.2.2.2.2.1 _ (hin (.instanceMethod objectInit) (by decide +kernel) rfl)) (A.2.2.2.2.1 _ (hin (.code objectInit ⟨#[0xb1]⟩ 1 none) (by decide +kernel) rfl)) rfl ((am_LR_n hL).trans A.2.2.1.symm) rfl hd (by omega) (by omega) (K l g p e R s m args below meth c Q A H locs lr hW hS hL hz)
theorem sn_max {index : Nat} {x y : Int32} (hs : st.length ≤ 4) (hfr : 1 ≤ tm_fr k) (hlo : 30 ≤ tm_lo k) (hw : Cond.methodLink (tm_y k).cls index Lib.Math.max.name ∈ am_gt) (hd : decode (tm_b k) pc = .ok (.invokestatic index, 3)) (K : am_wa L xs k h0 r h1 (pc + 3) ls (.int (if x < y then y else x) :: st) h) : am_wa L xs k h0 r h1 pc ls (.int y :: .int x :: st) h := by
  intro l g p e R s m args below meth c Q A H locs lr hW hS hL hz
  have hR := A.2.2.2.2.2.2.2.1
  have hin : ∀ w ∈ am_ot, goodWord w = true → w ∈ am_gt := fun w hw hg => am_gt_of (am_ot_in w hw) hg
  have hc := am_cats g hL.2 st
  obtain ⟨⟨z1, z2⟩, z3, z4⟩ := id hz
  exact va_mmax A.1 A.2.1 (A.2.2.1.trans (am_LR_n hL).symm) A.2.2.2.1 (A.2.2.2.2.1 _ hw) (A.2.2.2.2.1 _ (hin (.static Lib.Math.max.name) (by decide +kernel) rfl)) (A.2.2.2.2.1 _ (hin (.initialized "java/lang/Math") (by decide +kernel) rfl)) (A.2.2.2.2.1 _ (hin (.code Lib.Math.max.name Lib.Math.max.code 2 (some .int)) (by decide +kernel) rfl)) (by omega) (by omega) (by omega) (by omega) hd (K l g p e R s m args below meth c Q A H locs lr hW hS hL hz)
theorem sn_min {index : Nat} {x y : Int32} (hs : st.length ≤ 4) (hfr : 1 ≤ tm_fr k) (hlo : 30 ≤ tm_lo k) (hw : Cond.methodLink (tm_y k).cls index Lib.Math.min.name ∈ am_gt) (hd : decode (tm_b k) pc = .ok (.invokestatic index, 3)) (K : am_wa L xs k h0 r h1 (pc + 3) ls (.int (if y < x then y else x) :: st) h) : am_wa L xs k h0 r h1 pc ls (.int y :: .int x :: st) h := by
  intro l g p e R s m args below meth c Q A H locs lr hW hS hL hz
  have hR := A.2.2.2.2.2.2.2.1
  have hin : ∀ w ∈ am_ot, goodWord w = true → w ∈ am_gt := fun w hw hg => am_gt_of (am_ot_in w hw) hg
  have hc := am_cats g hL.2 st
  obtain ⟨⟨z1, z2⟩, z3, z4⟩ := id hz
  exact va_mmin A.1 A.2.1 (A.2.2.1.trans (am_LR_n hL).symm) A.2.2.2.1 (A.2.2.2.2.1 _ hw) (A.2.2.2.2.1 _ (hin (.static Lib.Math.min.name) (by decide +kernel) rfl)) (A.2.2.2.2.1 _ (hin (.initialized "java/lang/Math") (by decide +kernel) rfl)) (A.2.2.2.2.1 _ (hin (.code Lib.Math.min.name Lib.Math.min.code 2 (some .int)) (by decide +kernel) rfl)) (by omega) (by omega) (by omega) (by omega) hd (K l g p e R s m args below meth c Q A H locs lr hW hS hL hz)
theorem sn_copy {index a0 a : Nat} {sp dp n : Int32} {h' : am_H} (hs : st.length ≤ 4) (hfr : 1 ≤ tm_fr k) (hlo : 30 ≤ tm_lo k) (hw : Cond.methodLink (tm_y k).cls index arraycopyName ∈ am_gt) (hd : decode (tm_b k) pc = .ok (.invokestatic index, 3)) (e : am_cp h a0 sp a dp n = some h') (K : am_wa L xs k h0 r h1 (pc + 3) ls st h') : am_wa L xs k h0 r h1 pc ls (.int n :: .int dp :: .ref a :: .int sp :: .ref a0 :: st) h := by
  obtain ⟨n0, n1, f, f1, he0, he1, ⟨b1, b2, b3, b4, b5⟩, rfl⟩ := am_cp_inv e
  intro l g p e R s m args below meth c Q A H locs lr hW hS hL hz
  have hR := A.2.2.2.2.2.2.2.1
  have hin : ∀ w ∈ am_ot, goodWord w = true → w ∈ am_gt := fun w hw hg => am_gt_of (am_ot_in w hw) hg
  have hc := am_cats g hL.2 st
  have hnf : nativeFrameWords "java/lang/System" "arraycopy" 5 = 7 := by decide +kernel
  exact va_copyi A.1 A.2.1 (A.2.2.1.trans (am_LR_n hL).symm) A.2.2.2.1 (A.2.2.2.2.1 _ hw) (A.2.2.2.2.1 _ (hin (.native arraycopyName) (by decide +kernel) rfl)) (A.2.2.2.2.1 _ (hin (.static arraycopyName) (by decide +kernel) rfl)) (A.2.2.2.2.1 _ (hin (.initialized "java/lang/System") (by decide +kernel) rfl)) A.2.2.2.2.2.1.1 hW.2 (am_D g h) (am_S_here hS) a0 a 0 0 (am_row hW he0) (am_row hW he1) rfl rfl rfl b1 b2 b3 b4 b5 (fun i _ => rfl) (by omega) (by rw [hnf]; omega) hd (fun H1 locs1 hP1 _ hS1 => am_next A hW hS hz (am_look_lt he1).1 K hL hP1 hS1)
theorem sn_iret {x : Int32} (hd : decode (tm_b k) pc = .ok (.ireturn, 1)) (hf : am_fit (tm_rt k) x) (hr : some x = r ∧ h = h1) : am_wa L xs k h0 r h1 pc ls [.int x] h := by
  intro l g p e R s m args below meth c Q A H locs lr hW hS hL hz
  obtain ⟨hr, rfl⟩ := hr
  exact (A.2.2.2.2.2.2.2.2.2 H locs lr pc hW hS).1 x hr.symm hd hf
theorem sn_vret (hd : decode (tm_b k) pc = .ok (.return_, 1)) (hr : none = r ∧ h = h1) : am_wa L xs k h0 r h1 pc ls [] h := by
  intro l g p e R s m args below meth c Q A H locs lr hW hS hL hz
  obtain ⟨hr, rfl⟩ := hr
  exact (A.2.2.2.2.2.2.2.2.2 H locs lr pc hW hS).2 hr.symm hd
-- calls
theorem am_blind {g : am_G} {as : List Value} : FrameBlind (va_Pc (as.map (am_v g)) (fun U => am_W g h U.heap ∧ am_X L xs g U)) := by
  intro a U fr mk q
  obtain ⟨q1, q2, q3⟩ := q
  exact ⟨q1, q2, am_X_go (s := U) (H := U.heap) (locs := []) q3 va_S.rf rfl (State.WarmedH.refl U)⟩
/-- what the tables say of a method that is called -/
def am_mk (k : Nat) : Prop := Cond.code (tm_y k) (tm_b k) (tm_ml k) (tm_ret k) ∈ am_gt ∧ Cond.initialized (tm_y k).cls ∈ am_gt ∧ ((tm_y k).cls ≠ "java/lang/invoke/MethodHandle" ∧ (tm_y k).cls ≠ "java/lang/invoke/VarHandle" ∧ (parseMethodDescriptor (tm_y k).desc).map (fun d => d.parameters.length) = some (tm_n k)) ∧ (tm_kd k = 0 → Cond.static (tm_y k) ∈ am_gt) ∧ (tm_kd k = 1 → Cond.instanceMethod (tm_y k) ∈ am_gt ∧ Cond.selects (tm_y k).cls (tm_y k) (tm_y k) ∈ am_gt ∧ ((tm_ci k < 6 ∧ (tm_y k).cls = am_cn (tm_ci k)) ∨ (tm_ci k = 99 ∧ (tm_y k).cls = "java/lang/String"))) ∧ (tm_kd k = 2 → Cond.instanceMethod (tm_y k) ∈ am_gt ∧ (tm_y k).name = "<init>" ∧ tm_ret k = none)
/-- the caller's link to a method: plain, or of a nest mate -/
def am_lk (k index k' : Nat) : Prop := Cond.methodLink (tm_y k).cls index (tm_y k') ∈ am_gt ∨ ∃ host, Cond.methodLinkNest (tm_y k).cls index (tm_y k') host ∈ am_nw
theorem am_ws_good (k' : Nat) (hk : am_mk k') : GoodIn am_gt (tm_ws k') := by
  intro w hw
  rcases List.mem_cons.mp hw with rfl | hw
  · exact am_gt_good _ hk.1
  · exact am_gt_good _ hw
theorem sn_call {index k' : Nat} {as st1 : List Value} {h' : am_H} {r' : Option Int32} {op : Nat} (hm : am_mk k') (hlk : am_lk k index k') (hfr : tm_fr k' + 1 ≤ tm_fr k) (hlo : tm_lo k' + 19 + tm_ml k' ≤ tm_lo k) (hs : st.length ≤ 4)
    (hop : (op = 0 ∧ decode (tm_b k) pc = .ok (.invokestatic index, 3) ∧ tm_kd k' = 0 ∧ as.length = tm_n k') ∨ (op = 1 ∧ decode (tm_b k) pc = .ok (.invokevirtual index, 3) ∧ tm_kd k' = 1 ∧ as.length = tm_n k' + 1) ∨ (op = 2 ∧ decode (tm_b k) pc = .ok (.invokespecial index, 3) ∧ tm_kd k' = 2 ∧ as.length = tm_n k' + 1))
    (hok : am_ok L xs k' as h r' h') (hb : am_sz k h0 h → h'.1 ≤ h0.1 + tm_mc k ∧ h'.2.1 ≤ h0.2.1 + tm_ms k) (hst : (r'.map Value.int).toList ++ st = st1) (K : am_wa L xs k h0 r h1 (pc + 3) ls st1 h') : am_wa L xs k h0 r h1 pc ls (as.reverse ++ st) h := by
  intro l g p e R s m args below meth c Q A H locs lr hW hS hL hz
  have hR := A.2.2.2.2.2.2.2.1
  obtain ⟨⟨hre, e1, e2⟩, hM⟩ := hok
  obtain ⟨b1, b2⟩ := hb hz
  have hbb := A.2.2.2.2.2.2.1.2
  have hMet := hM l g (by omega)
  have hc := am_cats g hL.2 st
  have hts := A.2.2.2.2.1
  obtain ⟨⟨z1, z2⟩, z3, z4⟩ := id hz
  have hRR : (tm_rm k').frames + 1 ≤ R.frames ∧ 8 + (tm_ml k' + 11) + (tm_rm k').locals ≤ R.locals := by
    refine ⟨?_, ?_⟩
    · show tm_fr k' + 1 ≤ R.frames
      omega
    · show 8 + (tm_ml k' + 11) + tm_lo k' ≤ R.locals
      omega
  have hf : h.1 - h0.1 + tm_mc k' ≤ R.cells ∧ h.2.1 - h0.2.1 + tm_ms k' ≤ R.slots := by omega
  have hfix : CallFix p m c (tm_b k) (tm_ml k) s args am_gt (tm_y k).cls := ⟨A.1, A.2.1, A.2.2.1, A.2.2.2.1, hts⟩
  have hpre : ∀ U : State, U.heap = H → s.WarmedH U.vm → (va_Pc (as.map (am_v g)) (fun U => am_W g h U.heap ∧ am_X L xs g U)) (as.map (am_v g)).toArray U := fun U hU hWm => ⟨rfl, by rw [hU]; exact hW, am_X_go A.2.2.2.2.2.1 hS hU hWm⟩
  have hroom : 2 * (F0 m pc lr ((as.reverse ++ st).map (am_v g))).monitorRoom + ((st.map (am_v g)).map fun v => v.category).sum ≤ 8 := lv_room (by omega)
  have hst' : (r'.map Value.int).toList ++ st.map (am_v g) = st1.map (am_v g) := by
    rw [← hst]
    cases r' <;> rfl
  have hini := hts _ hm.2.1
  have hGood := am_ws_good k' hm
  have hstk : (F0 m pc lr ((as.reverse ++ st).map (am_v g))).stack = (as.map (am_v g)).reverse ++ st.map (am_v g) := by
    show (as.reverse ++ st).map (am_v g) = _
    rw [List.map_append, List.map_reverse]
  refine am_cont (rest := st.map (am_v g)) (k' := k') A hW hS hz ?_ e1 e2 b1 b2 hst' hL K
  have hlk' : (Cond.methodLink (tm_y k).cls index (tm_y k')).before args s = true ∨ ∃ host, va_Nw (.methodLinkNest (tm_y k).cls index (tm_y k') host) s := by
    rcases hlk with z | ⟨host, z⟩
    · exact Or.inl (hts _ z)
    · exact Or.inr ⟨host, A.2.2.2.2.2.1.2.1 _ z⟩
  rcases hop with ⟨-, hd, hkd, hlen⟩ | ⟨-, hd, hkd, hlen⟩ | ⟨-, hd, hkd, hlen⟩
  · have hstat := hts _ (hm.2.2.2.1 hkd)
    rcases hlk' with hl | ⟨host, hl⟩
    · exact va_runS (As := as.map (am_v g)) hfix hMet ⟨callB_of (tm_n k') hts hGood rfl rfl rfl hini hl hm.2.2.1 hRR, hstat⟩ ⟨am_blind, hpre⟩ rfl (by rw [List.length_map]; exact hlen) (am_LR_n hL) hstk hroom hd hf
    · exact va_runSN (host := host) (As := as.map (am_v g)) hfix hMet ⟨va_cnB (tm_n k') hts hGood rfl rfl rfl hl hini hm.2.2.1 hRR, hstat, trivial⟩ ⟨am_blind, hpre⟩ rfl (by rw [List.length_map]; exact hlen) (am_LR_n hL) hstk hroom hd hf
  · obtain ⟨hinst, hsel, hcls⟩ := hm.2.2.2.2.1 hkd
    obtain ⟨b, tl, rfl, hb⟩ := hre.1 hkd
    have hlen' : (tl.map (am_v g)).length = tm_n k' := by
      rw [List.length_map]
      simp at hlen
      omega
    have hrecv : ∃ cellB : Cell, H[am_al g b]? = some cellB ∧ cellB.vm.isStatics = false ∧ s.vm.findClass (tm_y k').cls = some cellB.cls := by
      rcases hcls with ⟨q1, q2⟩ | ⟨q1, q2⟩
      · rcases hb with hb | ⟨hb, -⟩
        · obtain ⟨fs, hfs⟩ := am_cls_inv hb
          have := va_recv A.2.2.2.2.2.1.1 hW.2 (am_cl_at _ q1) (am_row hW hfs)
          rw [q2]
          exact this
        · omega
      · rcases hb with hb | ⟨-, hb1, hb2⟩
        · exfalso
          obtain ⟨fs, hfs⟩ := am_cls_inv hb
          obtain ⟨r9, h9, -⟩ := hW.2 b _ (am_row hW hfs)
          rw [q1] at h9
          exact absurd (List.getElem?_eq_some_iff.mp h9).1 (by simp)
        · have := vk_recv (i := b - 1000001) A.2.2.2.2.2.1.2.2.2.2.2.1 (by omega) hS
          have e9 : am_al g b = g.2.2.2.1 (1 + (b - 1000001)) := by
            have q9 := am_al_sp g (1 + (b - 1000001))
            rwa [show 1000000 + (1 + (b - 1000001)) = b by omega] at q9
          rw [e9, q2]
          exact this
    have hstk2 : (F0 m pc lr (((Value.ref b :: tl).reverse ++ st).map (am_v g))).stack = (tl.map (am_v g)).reverse ++ .ref (am_al g b) :: st.map (am_v g) := by
      rw [hstk]
      simp [am_v_ref]
    rcases hlk' with hl | ⟨host, hl⟩
    · exact va_runV (C := (tm_y k').cls) (b := am_al g b) (As := tl.map (am_v g)) hfix hMet ⟨callB_of (tm_n k') hts hGood rfl rfl rfl hini hl hm.2.2.1 hRR, hts _ hinst, hts _ hsel⟩ ⟨am_blind, hrecv, hpre⟩ rfl hlen' (am_LR_n hL) hstk2 hroom hd hf
    · exact va_runVN (host := host) (C := (tm_y k').cls) (b := am_al g b) (As := tl.map (am_v g)) hfix hMet ⟨va_cnB (tm_n k') hts hGood rfl rfl rfl hl hini hm.2.2.1 hRR, hts _ hinst, hts _ hsel⟩ ⟨am_blind, hrecv, hpre⟩ rfl hlen' (am_LR_n hL) hstk2 hroom hd hf
  · obtain ⟨hinst, hnm, hrt⟩ := hm.2.2.2.2.2 hkd
    obtain ⟨b, tl, rfl⟩ := hre.2 hkd
    have hlen' : (tl.map (am_v g)).length = tm_n k' := by
      rw [List.length_map]
      simp at hlen
      omega
    have hstk2 : (F0 m pc lr (((Value.ref b :: tl).reverse ++ st).map (am_v g))).stack = (tl.map (am_v g)).reverse ++ .ref (am_al g b) :: st.map (am_v g) := by
      rw [hstk]
      simp [am_v_ref]
    have hw0 : tm_ws k' = Cond.code (tm_y k') (tm_b k') (tm_ml k') none :: am_gt := by
      show Cond.code (tm_y k') (tm_b k') (tm_ml k') (tm_ret k') :: am_gt = _
      rw [hrt]
    rcases hlk' with hl | ⟨host, hl⟩
    · exact va_runI (b := am_al g b) (As := tl.map (am_v g)) hfix hMet ⟨callB_of (tm_n k') hts hGood hw0 rfl rfl hini hl hm.2.2.1 hRR, hnm, hts _ hinst⟩ ⟨am_blind, hpre⟩ rfl hlen' (am_LR_n hL) hstk2 hroom hd hf
    · exact va_runIN (host := host) (b := am_al g b) (As := tl.map (am_v g)) hfix hMet ⟨va_cnB (tm_n k') hts hGood hw0 rfl rfl hl hini hm.2.2.1 hRR, hnm, hts _ hinst⟩ ⟨am_blind, hpre⟩ rfl hlen' (am_LR_n hL) hstk2 hroom hd hf
end SC
end
section
/-! THE TABLES' CHECK, AND ONE STEP OF THE ABSTRACT MACHINE IS ONE OF THE REAL ONE -/
def am_swk (pc : Nat) : Nat → List Nat → List Int → Bool
  | _, [], [] => true
  | j, a :: t :: l, o :: os => decide (a = j ∧ j < 1000 ∧ (pc : Int) + o = (t : Int)) && am_swk pc (j + 1) l os
  | _, _, _ => false
def am_wd (pos : Nat) (w : Cond) : Prop := lw_tbl[pos]? = some w
def am_ckF (k pos idx ci j : Nat) : Bool := decide (ci < 6 ∧ j < am_N ci ∧ (am_T ci j).1 = am_cn ci ∧ lw_tbl[pos]? = some (.fieldLink (tm_y k).cls idx (am_cn ci) (am_T ci j).2.1 (am_T ci j).2.2.1))
def am_ckC (k op idx : Nat) (aux : List Nat) : Bool := decide ((am_x aux 1 < 169 ∧ am_x aux 2 = tm_n (am_x aux 1) + (if op = 0 then 0 else 1) ∧ tm_kd (am_x aux 1) = op) ∧ (tm_fr (am_x aux 1) + 1 ≤ tm_fr k ∧ tm_lo (am_x aux 1) + 19 + tm_ml (am_x aux 1) ≤ tm_lo k) ∧ (if am_x aux 4 = 0 then lw_tbl[am_x aux 5]? = some (.methodLink (tm_y k).cls idx (tm_y (am_x aux 1))) else Cond.methodLinkNest (tm_y k).cls idx (tm_y (am_x aux 1)) "SlotMesh" ∈ am_nw) ∧ (am_x aux 3 < 2 → tm_mc (am_x aux 1) = 0 ∧ tm_ms (am_x aux 1) = 0))
def am_ckB (k pos idx : Nat) (y : MethodName) : Bool := decide (1 ≤ tm_fr k ∧ 30 ≤ tm_lo k ∧ lw_tbl[pos]? = some (.methodLink (tm_y k).cls idx y))
def am_ck (k : Nat) (q : am_I) : Bool := match q with
  | (pc, i, n, aux, imm) => match i with
    | .iconst v => decide (n = 1 ∧ Int32.ofInt v = imm)
    | .bipush v => decide (n = 2 ∧ (Int8.ofInt v).toInt32 = imm)
    | .sipush v => decide (n = 3 ∧ (Int16.ofInt v).toInt32 = imm)
    | .ldc_w j => decide (n = 3 ∧ Cond.constant (tm_y k).cls j imm ∈ am_cst)
    | .ldc j => match aux with
      | [] => decide (n = 2 ∧ Cond.constant (tm_y k).cls j imm ∈ am_cst)
      | a :: _ => decide (n = 2 ∧ (1000001 ≤ a ∧ a < 1000005) ∧ am_si (a - 1000001) = j ∧ (tm_y k).cls = RX3)
    | .lconst v => decide (n = 1 ∧ Int64.ofNat v.val = imm.toInt64)
    | .ldc2_w j => decide (n = 3 ∧ Cond.constantLong (tm_y k).cls j imm.toInt64 ∈ am_cst)
    | .iload_n j => decide (n = 1 ∧ j.val = am_x aux 0)
    | .lload_n j => decide (n = 1 ∧ j.val = am_x aux 0)
    | .aload_n j => decide (n = 1 ∧ j.val = am_x aux 0)
    | .iload j => decide (n = 2 ∧ j = am_x aux 0)
    | .lload j => decide (n = 2 ∧ j = am_x aux 0)
    | .istore_n j => decide (n = 1 ∧ j.val = am_x aux 0 ∧ am_x aux 0 < tm_ml k)
    | .astore_n j => decide (n = 1 ∧ j.val = am_x aux 0 ∧ am_x aux 0 < tm_ml k)
    | .istore j => decide (n = 2 ∧ j = am_x aux 0 ∧ am_x aux 0 < tm_ml k)
    | .iinc j v => decide (n = 3 ∧ j = am_x aux 0 ∧ am_x aux 0 < tm_ml k ∧ Int32.ofInt v = imm)
    | .goto off => decide (n = 3 ∧ (pc : Int) + off = (am_x aux 0 : Int))
    | .ifCond _ off => decide (n = 3 ∧ (pc : Int) + off = (am_x aux 0 : Int))
    | .if_icmp _ off => decide (n = 3 ∧ (pc : Int) + off = (am_x aux 0 : Int))
    | .tableswitch d lo hi offs => decide (lo = 0 ∧ hi + 1 = (offs.toList.length : Int) ∧ (pc : Int) + d = (am_x aux 0 : Int) ∧ am_swk pc 0 aux.tail offs.toList = true)
    | .getfield j => match am_x aux 2 with
      | 0 => decide (n = 3) && am_ckF k (am_x aux 3) j (am_x aux 0) (am_x aux 1)
      | 1 => decide (n = 3) && am_ckF k (am_x aux 3) j (am_x aux 0) (am_x aux 1)
      | 3 => decide (n = 3 ∧ lw_tbl[am_x aux 3]? = some (.fieldLink (tm_y k).cls j "java/lang/String" "value" "[B"))
      | _ => decide (n = 3 ∧ lw_tbl[am_x aux 3]? = some (.fieldLink (tm_y k).cls j "java/lang/String" "coder" "B"))
    | .putfield j => decide (n = 3) && am_ckF k (am_x aux 3) j (am_x aux 0) (am_x aux 1) && decide ((am_T (am_x aux 0) (am_x aux 1)).2.2.2 = false ∨ (tm_kd k = 2 ∧ (tm_y k).cls = am_cn (am_x aux 0))) && match am_x aux 2 with
      | 0 => decide (am_ty (am_x aux 0) (am_x aux 1) = .int)
      | 1 => (am_ty (am_x aux 0) (am_x aux 1)).isReference
      | _ => decide (am_ty (am_x aux 0) (am_x aux 1) = .boolean)
    | .getstatic j => match am_x aux 0 with
      | 0 => decide (n = 3 ∧ imm = 1 ∧ lw_tbl[am_x aux 2]? = some (.fieldLink (tm_y k).cls j "java/lang/String" "COMPACT_STRINGS" "Z"))
      | _ => decide (n = 3 ∧ lw_tbl[am_x aux 2]? = some (.fieldLink (tm_y k).cls j "jdk/internal/util/Preconditions" "SIOOBE_FORMATTER" "Ljava/util/function/BiFunction;"))
    | .aaload => decide (n = 1 ∧ (am_x aux 0 = 0 ∨ am_x aux 0 = 2))
    | .aastore => decide (n = 1 ∧ (am_x aux 0 = 0 ∨ am_x aux 0 = 2))
    | .newarray t => decide (n = 2 ∧ newarray.typeOf t = am_aty (am_x aux 0) ∧ (am_x aux 0 = 0 ∨ am_x aux 0 = 1))
    | .anewarray j => decide (n = 3 ∧ (am_x aux 0 = 0 ∨ am_x aux 0 = 2) ∧ lw_tbl[am_x aux 1]? = some (.classLink (tm_y k).cls j (am_cn (am_x aux 0))))
    | .new j => decide (n = 3 ∧ am_x aux 0 < 6 ∧ lw_tbl[am_x aux 1]? = some (.classLink (tm_y k).cls j (am_cn (am_x aux 0))) ∧ lw_tbl[am_x aux 2]? = some (.instantiable (am_cn (am_x aux 0)) (am_N (am_x aux 0))) ∧ lw_tbl[am_x aux 3]? = some (.initialized (am_cn (am_x aux 0))))
    | .invokevirtual j => decide (n = 3) && am_ckC k 1 j aux
    | .invokespecial j => match am_x aux 0 with
      | 0 => decide (n = 3) && am_ckB k (am_x aux 5) j objectInit
      | _ => decide (n = 3) && am_ckC k 2 j aux
    | .invokestatic j => match am_x aux 0 with
      | 2 => decide (n = 3) && am_ckB k (am_x aux 5) j Lib.Math.max.name
      | 3 => decide (n = 3) && am_ckB k (am_x aux 5) j Lib.Math.min.name
      | 4 => decide (n = 3) && am_ckB k (am_x aux 5) j arraycopyName
      | _ => decide (n = 3) && am_ckC k 0 j aux
    | .iadd | .isub | .imul | .iand | .ior | .ixor | .idiv | .irem | .ineg | .ishl | .ishr | .iushr | .i2l | .i2c | .lcmp | .dup | .dup2 | .pop | .iaload | .baload | .iastore | .bastore | .arraylength | .ireturn | .return_ => decide (n = 1)
    | _ => true
/-- a method's table is right: each row decodes so, and what stands beside it is what the tables say -/
def am_okk (k : Nat) : Prop := ∀ q ∈ tm_k k, decode (tm_b k) q.1 = .ok (q.2.1, q.2.2.1) ∧ am_ck k q = true
theorem am_fetch_in : ∀ (l : List am_I) (pc : Nat) (x : Instr × Nat × List Nat × Int32), am_fetch l pc = some x → (pc, x) ∈ l := by
  intro l
  induction l with
  | nil => intro pc x h; cases h
  | cons q l ih =>
    intro pc x h
    obtain ⟨p, y⟩ := q
    unfold am_fetch at h
    split at h
    · rename_i e
      cases h
      rw [Nat.eq_of_beq_eq_true e]
      exact List.mem_cons_self
    · exact List.mem_cons_of_mem _ (ih pc x h)
theorem am_pop_inv : ∀ (n : Nat) (acc st as rest : List Value), am_pop n acc st = some (as, rest) → ∃ tk, st = tk ++ rest ∧ as = tk.reverse ++ acc ∧ tk.length = n := by
  intro n
  induction n with
  | zero => intro acc st as rest h; cases h; exact ⟨[], rfl, rfl, rfl⟩
  | succ n ih =>
    intro acc st as rest h
    cases st with
    | nil => cases h
    | cons v st =>
      obtain ⟨tk, h1, h2, h3⟩ := ih (v :: acc) st as rest h
      exact ⟨v :: tk, by rw [h1]; rfl, by rw [h2]; simp, by simp [h3]⟩
theorem am_sw_inv {x : Int32} {d pc : Nat} {K : Nat → Prop} : ∀ (l : List Nat) (os : List Int) (j : Nat), am_swk pc j l os = true → am_sw x d K l → (∃ (i : Nat) (o : Int) (t : Nat), os[i]? = some o ∧ x.toInt = ((j + i : Nat) : Int) ∧ (pc : Int) + o = (t : Int) ∧ K t) ∨ ((x.toInt < (j : Int) ∨ (j : Int) + (os.length : Int) ≤ x.toInt) ∧ K d) := by
  intro l
  induction l using am_sw.induct with
  | case1 a t l ih =>
    intro os j h hs
    cases os with
    | nil => cases h
    | cons o os =>
      simp only [am_swk, Bool.and_eq_true, decide_eq_true_eq] at h
      obtain ⟨⟨rfl, hj, ho⟩, h⟩ := h
      by_cases e : x = nI a
      · refine Or.inl ⟨0, o, t, rfl, ?_, ho, hs.1 e⟩
        rw [e, nI_toInt (by omega)]
        rfl
      · have hne : ¬ x.toInt = (a : Int) := fun z => e (by
          apply Int32.toInt_inj.mp
          rw [z, nI_toInt (by omega)])
        rcases ih os (a + 1) h (hs.2 e) with ⟨i, o', t', h1, h2, h3, h4⟩ | ⟨h1, h2⟩
        · exact Or.inl ⟨i + 1, o', t', by simpa using h1, by rw [h2]; congr 1; omega, h3, h4⟩
        · refine Or.inr ⟨?_, h2⟩
          simp only [List.length_cons]
          omega
  | case2 l hl =>
    intro os j h hs
    have hl' : l = [] ∧ os = [] := by
      match l, os, hl, h with
      | [], [], _, _ => exact ⟨rfl, rfl⟩
      | [], o :: os, _, h => cases h
      | [a], [], _, h => cases h
      | [a], o :: os, _, h => cases h
      | a :: t :: l, _, hl, _ => exact absurd rfl (hl a t l)
    obtain ⟨rfl, rfl⟩ := hl'
    refine Or.inr ⟨?_, hs⟩
    simp only [List.length_nil]
    omega
theorem am_1_inv {st : List Value} {f : Int32 → List Value → Prop} (h : am_1 st f) : ∃ x s, st = .int x :: s ∧ f x s := by
  unfold am_1 at h
  split at h
  · exact ⟨_, _, rfl, h⟩
  · exact h.elim
theorem am_2_inv {st : List Value} {f : Int32 → Int32 → List Value → Prop} (h : am_2 st f) : ∃ x y s, st = .int y :: .int x :: s ∧ f x y s := by
  unfold am_2 at h
  split at h
  · exact ⟨_, _, _, rfl, h⟩
  · exact h.elim
theorem am_l2_inv {st : List Value} {f : Int64 → Int64 → List Value → Prop} (h : am_l2 st f) : ∃ x y s, st = .long y :: .long x :: s ∧ f x y s := by
  unfold am_l2 at h
  split at h
  · exact ⟨_, _, _, rfl, h⟩
  · exact h.elim
theorem am_r_inv {st : List Value} {f : Nat → List Value → Prop} (h : am_r st f) : ∃ (a : Nat) (s : List Value), st = .ref a :: s ∧ f a s := by
  unfold am_r at h
  split at h
  · exact ⟨_, _, rfl, h⟩
  · exact h.elim
theorem am_ri_inv {st : List Value} {f : Nat → Int32 → List Value → Prop} (h : am_ri st f) : ∃ (a : Nat) (i : Int32) (s : List Value), st = .int i :: .ref a :: s ∧ f a i s := by
  unfold am_ri at h
  split at h
  · exact ⟨_, _, _, rfl, h⟩
  · exact h.elim
theorem am_rr2_inv {st : List Value} {f : Nat → Nat → List Value → Prop} (h : am_rr2 st f) : ∃ (a v : Nat) (s : List Value), st = .ref v :: .ref a :: s ∧ f a v s := by
  unfold am_rr2 at h
  split at h
  · exact ⟨_, _, _, rfl, h⟩
  · exact h.elim
theorem am_rii_inv {st : List Value} {f : Nat → Int32 → Int32 → List Value → Prop} (h : am_rii st f) : ∃ (a : Nat) (i x : Int32) (s : List Value), st = .int x :: .int i :: .ref a :: s ∧ f a i x s := by
  unfold am_rii at h
  split at h
  · exact ⟨_, _, _, _, rfl, h⟩
  · exact h.elim
theorem am_rir_inv {st : List Value} {f : Nat → Int32 → Nat → List Value → Prop} (h : am_rir st f) : ∃ (a : Nat) (i : Int32) (v : Nat) (s : List Value), st = .ref v :: .int i :: .ref a :: s ∧ f a i v s := by
  unfold am_rir at h
  split at h
  · exact ⟨_, _, _, _, rfl, h⟩
  · exact h.elim
theorem am_cpS_inv {st : List Value} {f : Nat → Int32 → Nat → Int32 → Int32 → List Value → Prop} (h : am_cpS st f) : ∃ (a0 : Nat) (sp : Int32) (a : Nat) (dp n : Int32) (s : List Value), st = .int n :: .int dp :: .ref a :: .int sp :: .ref a0 :: s ∧ f a0 sp a dp n s := by
  unfold am_cpS at h
  split at h
  · exact ⟨_, _, _, _, _, _, rfl, h⟩
  · exact h.elim
theorem am_ldi_inv {ls : List Value} {i : Nat} {f : Int32 → Prop} (h : am_ldi ls i f) : ∃ x, am_nth ls i = .int x ∧ f x := by
  unfold am_ldi at h
  split at h
  · rename_i x e; exact ⟨x, e, h⟩
  · exact h.elim
theorem am_ldl_inv {ls : List Value} {i : Nat} {f : Int64 → Prop} (h : am_ldl ls i f) : ∃ x, am_nth ls i = .long x ∧ f x := by
  unfold am_ldl at h
  split at h
  · rename_i x e; exact ⟨x, e, h⟩
  · exact h.elim
theorem am_ldr_inv {ls : List Value} {i : Nat} {f : Nat → Prop} (h : am_ldr ls i f) : ∃ x, am_nth ls i = .ref x ∧ f x := by
  unfold am_ldr at h
  split at h
  · rename_i x e; exact ⟨x, e, h⟩
  · exact h.elim
theorem am_ble {n : Nat} {P : Prop} (h : am_if (Nat.ble n 4) P) : n ≤ 4 ∧ P := ⟨Nat.le_of_ble_eq_true (am_if_inv h).1, (am_if_inv h).2⟩
end
section
/-! ONE STEP OF THE ABSTRACT MACHINE IS ONE OF THE REAL ONE; CHUNKS -/
def am_Al (k : Nat) (h0 : am_H) (h : am_H) (n m : Nat) : Prop := h.1 + n ≤ h0.1 + tm_mc k ∧ h.2.1 + m ≤ h0.2.1 + tm_ms k
def am_Rt (r : Option Int32) (h1 : am_H) (r' : Option Int32) (h' : am_H) : Prop := r' = r ∧ h' = h1
section ST
variable {L : Nat} {xs : Nat → Int32} {k : Nat} {h0 h1 h : am_H} {r : Option Int32} {K : Nat → List Value → List Value → am_H → Prop} {pc : Nat} {ls st : List Value}
theorem am_wd_gt {pos : Nat} {w : Cond} (h : lw_tbl[pos]? = some w) (g : goodWord w = true) : w ∈ am_gt := am_gt_of (List.mem_of_getElem? h) g
theorem am_snd_call (hmk : ∀ k', k' < 169 → am_mk k') {index op : Nat} {aux : List Nat} (hc : am_ckC k op index aux = true) (hop : (op = 0 ∧ decode (tm_b k) pc = .ok (.invokestatic index, 3)) ∨ (op = 1 ∧ decode (tm_b k) pc = .ok (.invokevirtual index, 3)) ∨ (op = 2 ∧ decode (tm_b k) pc = .ok (.invokespecial index, 3)))
    (hK : ∀ pc ls st h, K pc ls st h → am_wa L xs k h0 r h1 pc ls st h) (hs : am_call (am_ok L xs) (am_Al k h0) tm_mcs K (pc + 3) aux ls st h) : am_wa L xs k h0 r h1 pc ls st h := by
  obtain ⟨⟨c1, c2, c3⟩, ⟨c4, c5⟩, c6, c7⟩ := of_decide_eq_true hc
  have hm := hmk _ c1
  have hlk : am_lk k index (am_x aux 1) := by
    split at c6
    · exact Or.inl (am_wd_gt c6 rfl)
    · exact Or.inr ⟨_, c6⟩
  unfold am_call at hs
  split at hs
  · exact hs.elim
  · rename_i as rest e
    obtain ⟨tk, e1, e2, e3⟩ := am_pop_inv _ _ _ _ _ e
    rw [List.append_nil] at e2
    have est : st = as.reverse ++ rest := by rw [e2, List.reverse_reverse]; exact e1
    have elen : as.length = am_x aux 2 := by rw [e2, List.length_reverse]; exact e3
    subst est
    have hop' : (op = 0 ∧ decode (tm_b k) pc = .ok (.invokestatic index, 3) ∧ tm_kd (am_x aux 1) = 0 ∧ as.length = tm_n (am_x aux 1)) ∨ (op = 1 ∧ decode (tm_b k) pc = .ok (.invokevirtual index, 3) ∧ tm_kd (am_x aux 1) = 1 ∧ as.length = tm_n (am_x aux 1) + 1) ∨ (op = 2 ∧ decode (tm_b k) pc = .ok (.invokespecial index, 3) ∧ tm_kd (am_x aux 1) = 2 ∧ as.length = tm_n (am_x aux 1) + 1) := by
      rcases hop with ⟨rfl, q⟩ | ⟨rfl, q⟩ | ⟨rfl, q⟩
      · exact Or.inl ⟨rfl, q, c3, by rw [elen, c2]; rfl⟩
      · exact Or.inr (Or.inl ⟨rfl, q, c3, by rw [elen, c2]; rfl⟩)
      · exact Or.inr (Or.inr ⟨rfl, q, c3, by rw [elen, c2]; rfl⟩)
    split at hs
    · exact hs.elim
    · rename_i eb
      have hle := Nat.le_of_ble_eq_true eb
      split at hs
      · rename_i e0
        obtain ⟨h', hok, hk⟩ := hs
        have hz := c7 (by omega)
        exact sn_call (r' := none) (st1 := rest) hm hlk c4 c5 hle hop' hok (fun z => by have q1 := hok.1.2.1; have q2 := hok.1.2.2; have z1 := z.1.2; have z2 := z.2.2; omega) rfl (hK _ _ _ _ hk)
      · rename_i e0
        obtain ⟨x, h', hok, hk⟩ := hs
        have hz := c7 (by omega)
        exact sn_call (r' := some x) (st1 := .int x :: rest) hm hlk c4 c5 hle hop' hok (fun z => by have q1 := hok.1.2.1; have q2 := hok.1.2.2; have z1 := z.1.2; have z2 := z.2.2; omega) rfl (hK _ _ _ _ hk)
      · obtain ⟨h', ⟨hok, hal⟩, hk⟩ := hs
        exact sn_call (r' := none) (st1 := rest) hm hlk c4 c5 hle hop' hok (fun z => by have q1 := hok.1.2.1; have q2 := hok.1.2.2; have a1 : h.1 + tm_mc (am_x aux 1) ≤ h0.1 + tm_mc k := hal.1; have a2 : h.2.1 + tm_ms (am_x aux 1) ≤ h0.2.1 + tm_ms k := hal.2; omega) rfl (hK _ _ _ _ hk)
theorem am_ckF_inv {pos idx ci j : Nat} (hc : am_ckF k pos idx ci j = true) : ci < 6 ∧ j < am_N ci ∧ Cond.fieldLink (tm_y k).cls idx (am_cn ci) (am_T ci j).2.1 (am_T ci j).2.2.1 ∈ am_gt ∧ (am_T ci j).1 = am_cn ci := by
  obtain ⟨c1, c2, c3, c4⟩ := of_decide_eq_true hc
  exact ⟨c1, c2, am_wd_gt c4 rfl, c3⟩
theorem am_and {a b : Bool} (h : (a && b) = true) : a = true ∧ b = true := by
  cases a <;> cases b <;> first | exact ⟨rfl, rfl⟩ | cases h
theorem am_nar_ref (g : am_G) {ty : FieldType} (h : ty.isReference = true) (v : Nat) : narrow ty (am_v g (.ref v)) = am_v g (.ref v) ∧ fits ty (am_v g (.ref v)) = true := by
  cases ty <;> first | exact ⟨rfl, rfl⟩ | cases h
theorem am_nar_bool (g : am_G) {x : Int32} (hx : x = 0 ∨ x = 1) : narrow .boolean (am_v g (.int x)) = am_v g (.int x) ∧ fits .boolean (am_v g (.int x)) = true := by
  show narrow .boolean (.int x) = .int x ∧ fits .boolean (.int x) = true
  rcases hx with rfl | rfl <;> decide +kernel
theorem am_rng {a lo hi : Nat} (h : (Nat.ble lo a && Nat.ble a hi) = true) : lo ≤ a ∧ a ≤ hi := by
  obtain ⟨q1, q2⟩ := am_and h
  exact ⟨Nat.le_of_ble_eq_true q1, Nat.le_of_ble_eq_true q2⟩
set_option maxHeartbeats 4000000 in
theorem am_snd (hmk : ∀ k', k' < 169 → am_mk k') (hk : am_okk k) (hK : ∀ pc ls st h, K pc ls st h → am_wa L xs k h0 r h1 pc ls st h) (hs : am_s L xs am_cn am_df (tm_k k) (tm_rt k) (am_ok L xs) (am_Al k h0) tm_mcs (am_Rt r h1) K pc ls st h) : am_wa L xs k h0 r h1 pc ls st h := by
  unfold am_s at hs
  split at hs
  · exact hs.elim
  · rename_i i n aux imm e
    obtain ⟨hd, hc⟩ := hk _ (am_fetch_in _ _ _ e)
    replace hd : decode (tm_b k) pc = .ok (i, n) := hd
    cases i
    case iconst v =>
      obtain ⟨rfl, hv⟩ : n = 1 ∧ Int32.ofInt v = imm := of_decide_eq_true hc
      exact sn_iconst hv hd (hK _ _ _ _ hs)
    case bipush v =>
      obtain ⟨rfl, hv⟩ : n = 2 ∧ (Int8.ofInt v).toInt32 = imm := of_decide_eq_true hc
      exact sn_bipush hv hd (hK _ _ _ _ hs)
    case sipush v =>
      obtain ⟨rfl, hv⟩ : n = 3 ∧ (Int16.ofInt v).toInt32 = imm := of_decide_eq_true hc
      exact sn_sipush hv hd (hK _ _ _ _ hs)
    case ldc_w j =>
      obtain ⟨rfl, hv⟩ : n = 3 ∧ Cond.constant (tm_y k).cls j imm ∈ am_cst := of_decide_eq_true hc
      exact sn_ldcw (am_gt_of (am_cst_in _ hv) rfl) hd (hK _ _ _ _ hs)
    case ldc j =>
      cases aux with
      | nil =>
        obtain ⟨rfl, hv⟩ : n = 2 ∧ Cond.constant (tm_y k).cls j imm ∈ am_cst := of_decide_eq_true hc
        exact sn_ldc (am_gt_of (am_cst_in _ hv) rfl) hd (hK _ _ _ _ hs)
      | cons a aux =>
        obtain ⟨rfl, ⟨g1, g2⟩, hv, ho⟩ : n = 2 ∧ (1000001 ≤ a ∧ a < 1000005) ∧ am_si (a - 1000001) = j ∧ (tm_y k).cls = RX3 := of_decide_eq_true hc
        have hs2 := hK _ _ _ _ hs
        rw [show a = 1000001 + (a - 1000001) by omega] at hs2
        exact sn_ldcs (by omega) hv ho hd hs2
    case lconst v =>
      obtain ⟨rfl, hv⟩ : n = 1 ∧ Int64.ofNat v.val = imm.toInt64 := of_decide_eq_true hc
      exact sn_lconst hv hd (hK _ _ _ _ hs)
    case ldc2_w j =>
      obtain ⟨rfl, hv⟩ : n = 3 ∧ Cond.constantLong (tm_y k).cls j imm.toInt64 ∈ am_cst := of_decide_eq_true hc
      exact sn_ldc2 (am_gt_of (am_cst_in _ hv) rfl) hd (hK _ _ _ _ hs)
    case iload_n j =>
      obtain ⟨rfl, hj⟩ : n = 1 ∧ j.val = am_x aux 0 := of_decide_eq_true hc
      obtain ⟨x, hx, hk2⟩ := am_ldi_inv hs
      exact sn_iload_n hj hx hd (hK _ _ _ _ hk2)
    case iload j =>
      obtain ⟨rfl, hj⟩ : n = 2 ∧ j = am_x aux 0 := of_decide_eq_true hc
      obtain ⟨x, hx, hk2⟩ := am_ldi_inv hs
      rw [hj] at hd
      exact sn_iload hx hd (hK _ _ _ _ hk2)
    case lload_n j =>
      obtain ⟨rfl, hj⟩ : n = 1 ∧ j.val = am_x aux 0 := of_decide_eq_true hc
      obtain ⟨x, hx, hk2⟩ := am_ldl_inv hs
      exact sn_lload_n hj hx hd (hK _ _ _ _ hk2)
    case lload j =>
      obtain ⟨rfl, hj⟩ : n = 2 ∧ j = am_x aux 0 := of_decide_eq_true hc
      obtain ⟨x, hx, hk2⟩ := am_ldl_inv hs
      rw [hj] at hd
      exact sn_lload hx hd (hK _ _ _ _ hk2)
    case aload_n j =>
      obtain ⟨rfl, hj⟩ : n = 1 ∧ j.val = am_x aux 0 := of_decide_eq_true hc
      obtain ⟨x, hx, hk2⟩ := am_ldr_inv hs
      exact sn_aload_n hj hx hd (hK _ _ _ _ hk2)
    case istore_n j =>
      obtain ⟨rfl, hj, hl⟩ : n = 1 ∧ j.val = am_x aux 0 ∧ am_x aux 0 < tm_ml k := of_decide_eq_true hc
      obtain ⟨hn, hs⟩ := am_if_inv hs
      obtain ⟨x, s, rfl, hk2⟩ := am_1_inv hs
      exact sn_istore_n hj hl hn hd (hK _ _ _ _ hk2)
    case istore j =>
      obtain ⟨rfl, hj, hl⟩ : n = 2 ∧ j = am_x aux 0 ∧ am_x aux 0 < tm_ml k := of_decide_eq_true hc
      obtain ⟨hn, hs⟩ := am_if_inv hs
      obtain ⟨x, s, rfl, hk2⟩ := am_1_inv hs
      rw [hj] at hd
      exact sn_istore hl hn hd (hK _ _ _ _ hk2)
    case astore_n j =>
      obtain ⟨rfl, hj, hl⟩ : n = 1 ∧ j.val = am_x aux 0 ∧ am_x aux 0 < tm_ml k := of_decide_eq_true hc
      obtain ⟨hn, hs⟩ := am_if_inv hs
      obtain ⟨x, s, rfl, hk2⟩ := am_r_inv hs
      exact sn_astore_n hj hl hn hd (hK _ _ _ _ hk2)
    case iinc j v =>
      obtain ⟨rfl, hj, hl, hv⟩ : n = 3 ∧ j = am_x aux 0 ∧ am_x aux 0 < tm_ml k ∧ Int32.ofInt v = imm := of_decide_eq_true hc
      obtain ⟨hn, hs⟩ := am_if_inv hs
      obtain ⟨x, hx, hk2⟩ := am_ldi_inv hs
      rw [hj] at hd
      exact sn_iinc hl hn hx hv hd (hK _ _ _ _ hk2)
    case iadd =>
      obtain rfl : n = 1 := of_decide_eq_true hc
      obtain ⟨x, y, s, rfl, hk2⟩ := am_2_inv hs
      exact sn_iadd hd (hK _ _ _ _ hk2)
    case isub =>
      obtain rfl : n = 1 := of_decide_eq_true hc
      obtain ⟨x, y, s, rfl, hk2⟩ := am_2_inv hs
      exact sn_isub hd (hK _ _ _ _ hk2)
    case imul =>
      obtain rfl : n = 1 := of_decide_eq_true hc
      obtain ⟨x, y, s, rfl, hk2⟩ := am_2_inv hs
      exact sn_imul hd (hK _ _ _ _ hk2)
    case iand =>
      obtain rfl : n = 1 := of_decide_eq_true hc
      obtain ⟨x, y, s, rfl, hk2⟩ := am_2_inv hs
      exact sn_iand hd (hK _ _ _ _ hk2)
    case ior =>
      obtain rfl : n = 1 := of_decide_eq_true hc
      obtain ⟨x, y, s, rfl, hk2⟩ := am_2_inv hs
      exact sn_ior hd (hK _ _ _ _ hk2)
    case ixor =>
      obtain rfl : n = 1 := of_decide_eq_true hc
      obtain ⟨x, y, s, rfl, hk2⟩ := am_2_inv hs
      exact sn_ixor hd (hK _ _ _ _ hk2)
    case ishl =>
      obtain rfl : n = 1 := of_decide_eq_true hc
      obtain ⟨x, y, s, rfl, hk2⟩ := am_2_inv hs
      exact sn_ishl hd (hK _ _ _ _ hk2)
    case ishr =>
      obtain rfl : n = 1 := of_decide_eq_true hc
      obtain ⟨x, y, s, rfl, hk2⟩ := am_2_inv hs
      exact sn_ishr hd (hK _ _ _ _ hk2)
    case iushr =>
      obtain rfl : n = 1 := of_decide_eq_true hc
      obtain ⟨x, y, s, rfl, hk2⟩ := am_2_inv hs
      exact sn_iushr hd (hK _ _ _ _ hk2)
    case idiv =>
      obtain rfl : n = 1 := of_decide_eq_true hc
      obtain ⟨x, y, s, rfl, hy, hk2⟩ := am_2_inv hs
      exact sn_idiv hy hd (hK _ _ _ _ hk2)
    case irem =>
      obtain rfl : n = 1 := of_decide_eq_true hc
      obtain ⟨x, y, s, rfl, hy, hk2⟩ := am_2_inv hs
      exact sn_irem hy hd (hK _ _ _ _ hk2)
    case ineg =>
      obtain rfl : n = 1 := of_decide_eq_true hc
      obtain ⟨x, s, rfl, hk2⟩ := am_1_inv hs
      exact sn_ineg hd (hK _ _ _ _ hk2)
    case i2l =>
      obtain rfl : n = 1 := of_decide_eq_true hc
      obtain ⟨x, s, rfl, hk2⟩ := am_1_inv hs
      exact sn_i2l hd (hK _ _ _ _ hk2)
    case i2c =>
      obtain rfl : n = 1 := of_decide_eq_true hc
      obtain ⟨x, s, rfl, hk2⟩ := am_1_inv hs
      exact sn_i2c hd (hK _ _ _ _ hk2)
    case lcmp =>
      obtain rfl : n = 1 := of_decide_eq_true hc
      obtain ⟨x, y, s, rfl, hk2⟩ := am_l2_inv hs
      exact sn_lcmp hd (hK _ _ _ _ hk2)
    case dup =>
      obtain rfl : n = 1 := of_decide_eq_true hc
      replace hs : am_any st (fun v s => K (pc + 1) ls (v :: v :: s) h) := hs
      unfold am_any at hs
      split at hs
      · exact sn_dup_int hd (hK _ _ _ _ hs)
      · exact sn_dup_ref hd (hK _ _ _ _ hs)
      · exact hs.elim
    case pop =>
      obtain rfl : n = 1 := of_decide_eq_true hc
      replace hs : am_any st (fun _ s => K (pc + 1) ls s h) := hs
      unfold am_any at hs
      split at hs
      · exact sn_pop_int hd (hK _ _ _ _ hs)
      · exact sn_pop_ref hd (hK _ _ _ _ hs)
      · exact hs.elim
    case dup2 =>
      obtain rfl : n = 1 := of_decide_eq_true hc
      replace hs : am_any2 st (fun v w s => K (pc + 1) ls (v :: w :: v :: w :: s) h) := hs
      unfold am_any2 at hs
      split at hs
      · exact sn_dup2_int hd (hK _ _ _ _ hs)
      · exact sn_dup2_ref hd (hK _ _ _ _ hs)
      · exact hs.elim
    case goto off =>
      obtain ⟨rfl, ht⟩ : n = 3 ∧ (pc : Int) + off = (am_x aux 0 : Int) := of_decide_eq_true hc
      exact sn_goto ht hd (hK _ _ _ _ hs)
    case ifCond cond off =>
      obtain ⟨rfl, ht⟩ : n = 3 ∧ (pc : Int) + off = (am_x aux 0 : Int) := of_decide_eq_true hc
      cases cond
      case eq =>
        obtain ⟨x, s, rfl, hk2⟩ := am_1_inv hs
        exact sn_if_eq ht hd (fun z => hK _ _ _ _ (by simpa only [if_pos z] using hk2)) (fun z => hK _ _ _ _ (by simpa only [if_neg z] using hk2))
      case ne =>
        obtain ⟨x, s, rfl, hk2⟩ := am_1_inv hs
        exact sn_if_ne ht hd (fun z => hK _ _ _ _ (by simpa only [if_pos z] using hk2)) (fun z => hK _ _ _ _ (by simpa only [if_neg z] using hk2))
      case lt =>
        obtain ⟨x, s, rfl, hk2⟩ := am_1_inv hs
        exact sn_if_lt ht hd (fun z => hK _ _ _ _ (by simpa only [if_pos z] using hk2)) (fun z => hK _ _ _ _ (by simpa only [if_neg z] using hk2))
      case ge =>
        obtain ⟨x, s, rfl, hk2⟩ := am_1_inv hs
        exact sn_if_ge ht hd (fun z => hK _ _ _ _ (by simpa only [if_pos z] using hk2)) (fun z => hK _ _ _ _ (by simpa only [if_neg z] using hk2))
      case gt =>
        obtain ⟨x, s, rfl, hk2⟩ := am_1_inv hs
        exact sn_if_gt ht hd (fun z => hK _ _ _ _ (by simpa only [if_pos z] using hk2)) (fun z => hK _ _ _ _ (by simpa only [if_neg z] using hk2))
      case le =>
        obtain ⟨x, s, rfl, hk2⟩ := am_1_inv hs
        exact sn_if_le ht hd (fun z => hK _ _ _ _ (by simpa only [if_pos z] using hk2)) (fun z => hK _ _ _ _ (by simpa only [if_neg z] using hk2))
    case if_icmp cond off =>
      obtain ⟨rfl, ht⟩ : n = 3 ∧ (pc : Int) + off = (am_x aux 0 : Int) := of_decide_eq_true hc
      cases cond
      case eq =>
        obtain ⟨x, y, s, rfl, hk2⟩ := am_2_inv hs
        exact sn_icmp_eq ht hd (fun z => hK _ _ _ _ (by simpa only [if_pos z] using hk2)) (fun z => hK _ _ _ _ (by simpa only [if_neg z] using hk2))
      case ne =>
        obtain ⟨x, y, s, rfl, hk2⟩ := am_2_inv hs
        exact sn_icmp_ne ht hd (fun z => hK _ _ _ _ (by simpa only [if_pos z] using hk2)) (fun z => hK _ _ _ _ (by simpa only [if_neg z] using hk2))
      case lt =>
        obtain ⟨x, y, s, rfl, hk2⟩ := am_2_inv hs
        exact sn_icmp_lt ht hd (fun z => hK _ _ _ _ (by simpa only [if_pos z] using hk2)) (fun z => hK _ _ _ _ (by simpa only [if_neg z] using hk2))
      case ge =>
        obtain ⟨x, y, s, rfl, hk2⟩ := am_2_inv hs
        exact sn_icmp_ge ht hd (fun z => hK _ _ _ _ (by simpa only [if_pos z] using hk2)) (fun z => hK _ _ _ _ (by simpa only [if_neg z] using hk2))
      case gt =>
        obtain ⟨x, y, s, rfl, hk2⟩ := am_2_inv hs
        exact sn_icmp_gt ht hd (fun z => hK _ _ _ _ (by simpa only [if_pos z] using hk2)) (fun z => hK _ _ _ _ (by simpa only [if_neg z] using hk2))
      case le =>
        obtain ⟨x, y, s, rfl, hk2⟩ := am_2_inv hs
        exact sn_icmp_le ht hd (fun z => hK _ _ _ _ (by simpa only [if_pos z] using hk2)) (fun z => hK _ _ _ _ (by simpa only [if_neg z] using hk2))
    case tableswitch d lo hi offs =>
      obtain ⟨rfl, hhi, ht, hsw⟩ : lo = 0 ∧ hi + 1 = (offs.toList.length : Int) ∧ (pc : Int) + d = (am_x aux 0 : Int) ∧ am_swk pc 0 aux.tail offs.toList = true := of_decide_eq_true hc
      obtain ⟨x, s, rfl, hk2⟩ := am_1_inv hs
      rcases am_sw_inv _ _ 0 hsw hk2 with ⟨i, o, t, e1, e2, e3, e4⟩ | ⟨e1, e2⟩
      · have hi2 : i < offs.toList.length := (List.getElem?_eq_some_iff.mp e1).1
        rw [Nat.zero_add] at e2
        refine sn_swIn hd (by omega) (by omega) (off := o) ?_ e3 (hK _ _ _ _ e4)
        rw [e2, show ((i : Int) - 0).toNat = i by omega, ← Array.getElem?_toList]
        exact e1
      · exact sn_swOut hd (by omega) ht (hK _ _ _ _ e2)
    case getfield j =>
      replace hs := hs
      generalize hkd : am_x aux 2 = kd at *
      match kd, hkd with
      | 0, hkd =>
        have hc2 : (decide (n = 3) && am_ckF k (am_x aux 3) j (am_x aux 0) (am_x aux 1)) = true := by simpa only [am_ck, hkd] using hc
        have hs2 : am_r st (fun a s => am_b (am_gI h a (am_x aux 0) (am_x aux 1)) (fun x => K (pc + n) ls (.int x :: s) h)) := by simpa only [am_i, hkd] using hs
        obtain ⟨q1, q2⟩ := am_and hc2
        obtain rfl := of_decide_eq_true q1
        obtain ⟨c1, c2, c3, c4⟩ := am_ckF_inv q2
        obtain ⟨a, s, rfl, hb⟩ := am_r_inv hs2
        obtain ⟨x, hx, hk2⟩ := am_b_inv hb
        obtain ⟨fs, f1, f2⟩ := am_gI_inv hx
        exact sn_get c1 c2 c3 c4 hd f1 f2 (hK _ _ _ _ hk2)
      | 1, hkd =>
        have hc2 : (decide (n = 3) && am_ckF k (am_x aux 3) j (am_x aux 0) (am_x aux 1)) = true := by simpa only [am_ck, hkd] using hc
        have hs2 : am_r st (fun a s => am_b (am_gR h a (am_x aux 0) (am_x aux 1)) (fun x => K (pc + n) ls (.ref x :: s) h)) := by simpa only [am_i, hkd] using hs
        obtain ⟨q1, q2⟩ := am_and hc2
        obtain rfl := of_decide_eq_true q1
        obtain ⟨c1, c2, c3, c4⟩ := am_ckF_inv q2
        obtain ⟨a, s, rfl, hb⟩ := am_r_inv hs2
        obtain ⟨x, hx, hk2⟩ := am_b_inv hb
        obtain ⟨fs, f1, f2⟩ := am_gR_inv hx
        exact sn_get c1 c2 c3 c4 hd f1 f2 (hK _ _ _ _ hk2)
      | 3, hkd =>
        have hc2 : decide (n = 3 ∧ lw_tbl[am_x aux 3]? = some (.fieldLink (tm_y k).cls j "java/lang/String" "value" "[B")) = true := by simpa only [am_ck, hkd] using hc
        have hs2 : am_r st (fun a s => am_if (Nat.ble 1000001 a && Nat.ble a 1000004) (K (pc + n) ls (.ref (a + 10) :: s) h)) := by simpa only [am_i, hkd] using hs
        obtain ⟨rfl, c1⟩ := of_decide_eq_true hc2
        obtain ⟨a, s, rfl, hb⟩ := am_r_inv hs2
        obtain ⟨hr, hk2⟩ := am_if_inv hb
        obtain ⟨r1, r2⟩ := am_rng hr
        have hk3 := hK _ _ _ _ hk2
        obtain ⟨b, rfl⟩ : ∃ b : Nat, a = 1000000 + (1 + b) := ⟨a - 1000001, by omega⟩
        rw [show 1000000 + (1 + b) + 10 = 1000000 + (11 + b) by omega] at hk3
        exact sn_getsv (by omega) (am_wd_gt c1 rfl) hd hk3
      | 2, hkd =>
        have hc2 : decide (n = 3 ∧ lw_tbl[am_x aux 3]? = some (.fieldLink (tm_y k).cls j "java/lang/String" "coder" "B")) = true := by simpa only [am_ck, hkd] using hc
        have hs2 : am_r st (fun a s => am_if (Nat.ble 1000001 a && Nat.ble a 1000004) (K (pc + n) ls (.int 0 :: s) h)) := by simpa only [am_i, hkd] using hs
        obtain ⟨rfl, c1⟩ := of_decide_eq_true hc2
        obtain ⟨a, s, rfl, hb⟩ := am_r_inv hs2
        obtain ⟨hr, hk2⟩ := am_if_inv hb
        obtain ⟨r1, r2⟩ := am_rng hr
        obtain ⟨b, rfl⟩ : ∃ b : Nat, a = 1000000 + (1 + b) := ⟨a - 1000001, by omega⟩
        exact sn_getsc (by omega) (am_wd_gt c1 rfl) hd (hK _ _ _ _ hk2)
      | kd + 4, hkd =>
        have hc2 : decide (n = 3 ∧ lw_tbl[am_x aux 3]? = some (.fieldLink (tm_y k).cls j "java/lang/String" "coder" "B")) = true := by simpa only [am_ck, hkd] using hc
        have hs2 : am_r st (fun a s => am_if (Nat.ble 1000001 a && Nat.ble a 1000004) (K (pc + n) ls (.int 0 :: s) h)) := by simpa only [am_i, hkd] using hs
        obtain ⟨rfl, c1⟩ := of_decide_eq_true hc2
        obtain ⟨a, s, rfl, hb⟩ := am_r_inv hs2
        obtain ⟨hr, hk2⟩ := am_if_inv hb
        obtain ⟨r1, r2⟩ := am_rng hr
        obtain ⟨b, rfl⟩ : ∃ b : Nat, a = 1000000 + (1 + b) := ⟨a - 1000001, by omega⟩
        exact sn_getsc (by omega) (am_wd_gt c1 rfl) hd (hK _ _ _ _ hk2)
    case putfield j =>
      generalize hkd : am_x aux 2 = kd at *
      have hc2 : (decide (n = 3) && am_ckF k (am_x aux 3) j (am_x aux 0) (am_x aux 1) && decide ((am_T (am_x aux 0) (am_x aux 1)).2.2.2 = false ∨ (tm_kd k = 2 ∧ (tm_y k).cls = am_cn (am_x aux 0)))) = true := (am_and hc).1
      have hc3 := (am_and hc).2
      obtain ⟨q12, q3⟩ := am_and hc2
      obtain ⟨q1, q2⟩ := am_and q12
      obtain rfl := of_decide_eq_true q1
      obtain ⟨c1, c2, c3, c4⟩ := am_ckF_inv q2
      have hfin := of_decide_eq_true q3
      match kd, hkd with
      | 0, hkd =>
        rw [hkd] at hc3
        have hty := of_decide_eq_true hc3
        have hs2 : am_ri st (fun a x s => am_b (am_pF h a (am_x aux 0) (am_x aux 1) (.int x)) (fun h' => K (pc + 3) ls s h')) := by simpa only [am_i, hkd] using hs
        obtain ⟨a, x, s, rfl, hb⟩ := am_ri_inv hs2
        obtain ⟨h', hx, hk2⟩ := am_b_inv hb
        obtain ⟨fs, f1, f2, rfl⟩ := am_pF_inv hx
        exact sn_put c1 c2 c3 c4 hfin (fun g => by rw [hty]; exact ⟨rfl, rfl⟩) hd f1 f2 (hK _ _ _ _ hk2)
      | 1, hkd =>
        rw [hkd] at hc3
        have hs2 : am_rr2 st (fun a v s => am_b (am_pF h a (am_x aux 0) (am_x aux 1) (.ref v)) (fun h' => K (pc + 3) ls s h')) := by simpa only [am_i, hkd] using hs
        obtain ⟨a, x, s, rfl, hb⟩ := am_rr2_inv hs2
        obtain ⟨h', hx, hk2⟩ := am_b_inv hb
        obtain ⟨fs, f1, f2, rfl⟩ := am_pF_inv hx
        exact sn_put c1 c2 c3 c4 hfin (fun g => am_nar_ref g hc3 x) hd f1 f2 (hK _ _ _ _ hk2)
      | kd + 2, hkd =>
        rw [hkd] at hc3
        have hty := of_decide_eq_true hc3
        have hs2 : am_ri st (fun a x s => (x = 0 ∨ x = 1) ∧ am_b (am_pF h a (am_x aux 0) (am_x aux 1) (.int x)) (fun h' => K (pc + 3) ls s h')) := by simpa only [am_i, hkd] using hs
        obtain ⟨a, x, s, rfl, h01, hb⟩ := am_ri_inv hs2
        obtain ⟨h', hx, hk2⟩ := am_b_inv hb
        obtain ⟨fs, f1, f2, rfl⟩ := am_pF_inv hx
        exact sn_put c1 c2 c3 c4 hfin (fun g => by rw [hty]; exact am_nar_bool g h01) hd f1 f2 (hK _ _ _ _ hk2)
    case getstatic j =>
      generalize hkd : am_x aux 0 = kd at *
      match kd, hkd with
      | 0, hkd =>
        have hc2 : decide (n = 3 ∧ imm = 1 ∧ lw_tbl[am_x aux 2]? = some (.fieldLink (tm_y k).cls j "java/lang/String" "COMPACT_STRINGS" "Z")) = true := by simpa only [am_ck, hkd] using hc
        have hs2 : K (pc + n) ls (.int imm :: st) h := by simpa only [am_i, hkd] using hs
        obtain ⟨rfl, rfl, c1⟩ := of_decide_eq_true hc2
        exact sn_gets0 (am_wd_gt c1 rfl) hd (hK _ _ _ _ hs2)
      | kd + 1, hkd =>
        have hc2 : decide (n = 3 ∧ lw_tbl[am_x aux 2]? = some (.fieldLink (tm_y k).cls j "jdk/internal/util/Preconditions" "SIOOBE_FORMATTER" "Ljava/util/function/BiFunction;")) = true := by simpa only [am_ck, hkd] using hc
        have hs2 : K (pc + n) ls (.retAddr 0 :: st) h := by simpa only [am_i, hkd] using hs
        obtain ⟨rfl, c1⟩ := of_decide_eq_true hc2
        exact sn_gets1 (am_wd_gt c1 rfl) hd (hK _ _ _ _ hs2)
    case iaload =>
      obtain rfl : n = 1 := of_decide_eq_true hc
      cases aux with
      | nil =>
        obtain ⟨a, i, s, rfl, hb⟩ := am_ri_inv hs
        obtain ⟨x, hx, hk2⟩ := am_b_inv hb
        exact sn_iald hd hx (hK _ _ _ _ hk2)
      | cons a aux =>
        obtain ⟨a, i, s, rfl, hb⟩ := am_ri_inv hs
        obtain ⟨ha, hin, hk2⟩ := am_if_inv hb
        obtain rfl := Nat.eq_of_beq_eq_true ha
        exact sn_scr hd hin (hK _ _ _ _ hk2)
    case baload =>
      obtain rfl : n = 1 := of_decide_eq_true hc
      cases aux with
      | nil =>
        obtain ⟨a, i, s, rfl, hb⟩ := am_ri_inv hs
        obtain ⟨x, hx, hk2⟩ := am_b_inv hb
        exact sn_zald hd hx (hK _ _ _ _ hk2)
      | cons a aux =>
        obtain ⟨a, i, s, rfl, hb⟩ := am_ri_inv hs
        obtain ⟨ha, hin, hk2⟩ := am_if_inv hb
        obtain ⟨r1, r2⟩ := am_rng ha
        obtain ⟨b, rfl⟩ : ∃ b : Nat, a = 1000000 + (11 + b) := ⟨a - 1000011, by omega⟩
        rw [show 1000000 + (11 + b) - 1000011 = b by omega] at hin hk2
        exact sn_bald (by omega) hd hin (hK _ _ _ _ hk2)
    case aaload =>
      obtain ⟨rfl, c1⟩ : n = 1 ∧ (am_x aux 0 = 0 ∨ am_x aux 0 = 2) := of_decide_eq_true hc
      obtain ⟨a, i, s, rfl, hb⟩ := am_ri_inv hs
      obtain ⟨x, hx, hk2⟩ := am_b_inv hb
      exact sn_aald c1 hd hx (hK _ _ _ _ hk2)
    case iastore =>
      obtain rfl : n = 1 := of_decide_eq_true hc
      obtain ⟨a, i, x, s, rfl, hb⟩ := am_rii_inv hs
      obtain ⟨h', hx, hk2⟩ := am_b_inv hb
      exact sn_iast hd hx (hK _ _ _ _ hk2)
    case bastore =>
      obtain rfl : n = 1 := of_decide_eq_true hc
      obtain ⟨a, i, x, s, rfl, h01, hb⟩ := am_rii_inv hs
      obtain ⟨h', hx, hk2⟩ := am_b_inv hb
      exact sn_zast h01 hd hx (hK _ _ _ _ hk2)
    case aastore =>
      obtain ⟨rfl, c1⟩ : n = 1 ∧ (am_x aux 0 = 0 ∨ am_x aux 0 = 2) := of_decide_eq_true hc
      obtain ⟨a, i, v, s, rfl, hb⟩ := am_rir_inv hs
      obtain ⟨h', hx, hk2⟩ := am_b_inv hb
      exact sn_aast c1 hd hx (hK _ _ _ _ hk2)
    case arraylength =>
      obtain rfl : n = 1 := of_decide_eq_true hc
      match aux, hs with
      | [], hs =>
        obtain ⟨a, s, rfl, hb⟩ := am_r_inv hs
        obtain ⟨x, hx, hk2⟩ := am_b_inv hb
        exact sn_alen hd hx (hK _ _ _ _ hk2)
      | [_], hs =>
        obtain ⟨a, s, rfl, hb⟩ := am_r_inv hs
        obtain ⟨ha, hk2⟩ := am_if_inv hb
        obtain rfl := Nat.eq_of_beq_eq_true ha
        exact sn_scl hd (hK _ _ _ _ hk2)
      | _ :: _ :: _, hs =>
        obtain ⟨a, s, rfl, hb⟩ := am_r_inv hs
        obtain ⟨ha, hk2⟩ := am_if_inv hb
        obtain ⟨r1, r2⟩ := am_rng ha
        obtain ⟨b, rfl⟩ : ∃ b : Nat, a = 1000000 + (11 + b) := ⟨a - 1000011, by omega⟩
        rw [show 1000000 + (11 + b) - 1000011 = b by omega] at hk2
        exact sn_blen (by omega) hd (hK _ _ _ _ hk2)
    case newarray t =>
      obtain ⟨rfl, c1, c2⟩ : n = 2 ∧ newarray.typeOf t = am_aty (am_x aux 0) ∧ (am_x aux 0 = 0 ∨ am_x aux 0 = 1) := of_decide_eq_true hc
      obtain ⟨x, s, rfl, ⟨g1, g2⟩, g3, hk2⟩ := am_1_inv hs
      exact sn_newa ⟨c1, c2⟩ hd g1 g2 g3 (hK _ _ _ _ hk2)
    case anewarray j =>
      obtain ⟨rfl, c1, c2⟩ : n = 3 ∧ (am_x aux 0 = 0 ∨ am_x aux 0 = 2) ∧ lw_tbl[am_x aux 1]? = some (.classLink (tm_y k).cls j (am_cn (am_x aux 0))) := of_decide_eq_true hc
      obtain ⟨x, s, rfl, ⟨g1, g2⟩, g3, hk2⟩ := am_1_inv hs
      exact sn_anew c1 (am_wd_gt c2 rfl) hd g1 g2 g3 (hK _ _ _ _ hk2)
    case new j =>
      obtain ⟨rfl, c1, c2, c3, c4⟩ : n = 3 ∧ am_x aux 0 < 6 ∧ lw_tbl[am_x aux 1]? = some (.classLink (tm_y k).cls j (am_cn (am_x aux 0))) ∧ lw_tbl[am_x aux 2]? = some (.instantiable (am_cn (am_x aux 0)) (am_N (am_x aux 0))) ∧ lw_tbl[am_x aux 3]? = some (.initialized (am_cn (am_x aux 0))) := of_decide_eq_true hc
      obtain ⟨g3, hk2⟩ := hs
      exact sn_new c1 (am_wd_gt c2 rfl) (am_wd_gt c3 rfl) (am_wd_gt c4 rfl) hd g3 (hK _ _ _ _ hk2)
    case invokevirtual j =>
      obtain ⟨q1, q2⟩ := am_and hc
      obtain rfl := of_decide_eq_true q1
      exact am_snd_call hmk q2 (Or.inr (Or.inl ⟨rfl, hd⟩)) hK hs
    case invokespecial j =>
      generalize hkd : am_x aux 0 = kd at *
      match kd, hkd with
      | 0, hkd =>
        have hc2 : (decide (n = 3) && am_ckB k (am_x aux 5) j objectInit) = true := by simpa only [am_ck, hkd] using hc
        have hs2 : am_r st (fun _ s => am_if (Nat.ble s.length 4) (K (pc + n) ls s h)) := by simpa only [am_i, hkd] using hs
        obtain ⟨q1, q2⟩ := am_and hc2
        obtain rfl := of_decide_eq_true q1
        obtain ⟨c1, c2, c3⟩ := of_decide_eq_true q2
        obtain ⟨a, s, rfl, hb⟩ := am_r_inv hs2
        obtain ⟨g1, hk2⟩ := am_ble hb
        exact sn_oinit g1 c1 c2 (am_wd_gt c3 rfl) hd (hK _ _ _ _ hk2)
      | kd + 1, hkd =>
        have hc2 : (decide (n = 3) && am_ckC k 2 j aux) = true := by simpa only [am_ck, hkd] using hc
        have hs2 : am_call (am_ok L xs) (am_Al k h0) tm_mcs K (pc + n) aux ls st h := by simpa only [am_i, hkd] using hs
        obtain ⟨q1, q2⟩ := am_and hc2
        obtain rfl := of_decide_eq_true q1
        exact am_snd_call hmk q2 (Or.inr (Or.inr ⟨rfl, hd⟩)) hK hs2
    case invokestatic j =>
      generalize hkd : am_x aux 0 = kd at *
      match kd, hkd with
      | 2, hkd =>
        have hc2 : (decide (n = 3) && am_ckB k (am_x aux 5) j Lib.Math.max.name) = true := by simpa only [am_ck, hkd] using hc
        have hs2 : am_2 st (fun x y s => am_if (Nat.ble s.length 4) (K (pc + n) ls (.int (if x < y then y else x) :: s) h)) := by simpa only [am_i, hkd] using hs
        obtain ⟨q1, q2⟩ := am_and hc2
        obtain rfl := of_decide_eq_true q1
        obtain ⟨c1, c2, c3⟩ := of_decide_eq_true q2
        obtain ⟨x, y, s, rfl, hb⟩ := am_2_inv hs2
        obtain ⟨g1, hk2⟩ := am_ble hb
        exact sn_max g1 c1 c2 (am_wd_gt c3 rfl) hd (hK _ _ _ _ hk2)
      | 3, hkd =>
        have hc2 : (decide (n = 3) && am_ckB k (am_x aux 5) j Lib.Math.min.name) = true := by simpa only [am_ck, hkd] using hc
        have hs2 : am_2 st (fun x y s => am_if (Nat.ble s.length 4) (K (pc + n) ls (.int (if y < x then y else x) :: s) h)) := by simpa only [am_i, hkd] using hs
        obtain ⟨q1, q2⟩ := am_and hc2
        obtain rfl := of_decide_eq_true q1
        obtain ⟨c1, c2, c3⟩ := of_decide_eq_true q2
        obtain ⟨x, y, s, rfl, hb⟩ := am_2_inv hs2
        obtain ⟨g1, hk2⟩ := am_ble hb
        exact sn_min g1 c1 c2 (am_wd_gt c3 rfl) hd (hK _ _ _ _ hk2)
      | 4, hkd =>
        have hc2 : (decide (n = 3) && am_ckB k (am_x aux 5) j arraycopyName) = true := by simpa only [am_ck, hkd] using hc
        have hs2 : am_cpS st (fun a0 sp a dp n' s => am_if (Nat.ble s.length 4) (am_b (am_cp h a0 sp a dp n') (fun h' => K (pc + n) ls s h'))) := by simpa only [am_i, hkd] using hs
        obtain ⟨q1, q2⟩ := am_and hc2
        obtain rfl := of_decide_eq_true q1
        obtain ⟨c1, c2, c3⟩ := of_decide_eq_true q2
        obtain ⟨a0, sp, a, dp, n9, s, rfl, hb⟩ := am_cpS_inv hs2
        obtain ⟨g1, hb2⟩ := am_ble hb
        obtain ⟨h', hx, hk2⟩ := am_b_inv hb2
        exact sn_copy g1 c1 c2 (am_wd_gt c3 rfl) hd hx (hK _ _ _ _ hk2)
      | 0, hkd =>
        have hc2 : (decide (n = 3) && am_ckC k 0 j aux) = true := by simpa only [am_ck, hkd] using hc
        have hs2 : am_call (am_ok L xs) (am_Al k h0) tm_mcs K (pc + n) aux ls st h := by simpa only [am_i, hkd] using hs
        obtain ⟨q1, q2⟩ := am_and hc2
        obtain rfl := of_decide_eq_true q1
        exact am_snd_call hmk q2 (Or.inl ⟨rfl, hd⟩) hK hs2
      | 1, hkd =>
        have hc2 : (decide (n = 3) && am_ckC k 0 j aux) = true := by simpa only [am_ck, hkd] using hc
        have hs2 : am_call (am_ok L xs) (am_Al k h0) tm_mcs K (pc + n) aux ls st h := by simpa only [am_i, hkd] using hs
        obtain ⟨q1, q2⟩ := am_and hc2
        obtain rfl := of_decide_eq_true q1
        exact am_snd_call hmk q2 (Or.inl ⟨rfl, hd⟩) hK hs2
      | kd + 5, hkd =>
        have hc2 : (decide (n = 3) && am_ckC k 0 j aux) = true := by simpa only [am_ck, hkd] using hc
        have hs2 : am_call (am_ok L xs) (am_Al k h0) tm_mcs K (pc + n) aux ls st h := by simpa only [am_i, hkd] using hs
        obtain ⟨q1, q2⟩ := am_and hc2
        obtain rfl := of_decide_eq_true q1
        exact am_snd_call hmk q2 (Or.inl ⟨rfl, hd⟩) hK hs2
    case ireturn =>
      obtain rfl : n = 1 := of_decide_eq_true hc
      match st, hs with
      | [.int x], hs => exact sn_iret hd hs.1 ⟨hs.2.1, hs.2.2⟩
    case return_ =>
      obtain rfl : n = 1 := of_decide_eq_true hc
      match st, hs with
      | [], hs => exact sn_vret hd ⟨hs.1, hs.2⟩
    all_goals exact False.elim hs
theorem am_keep_sub (g : am_G) (lv : List Nat) : ∀ (l : List Value) (i : Nat) (q : Nat × Value), q ∈ am_as g i (am_keep lv i l) → q ∈ am_as g i l := by
  intro l
  induction l with
  | nil => intro i q h; exact h
  | cons v l ih =>
    intro i q h
    have tail : q ∈ am_as g (i + 1) l → q ∈ am_as g i (v :: l) := by
      intro h5
      clear h
      cases v with
      | null => exact h5
      | _ => exact List.mem_cons_of_mem _ h5
    unfold am_keep at h
    split at h
    · cases v with
      | null => exact ih _ _ h
      | _ =>
        rcases List.mem_cons.mp h with e | h
        · exact List.mem_cons.mpr (Or.inl e)
        · exact List.mem_cons_of_mem _ (ih _ _ h)
    · exact tail (ih _ _ h)
theorem am_forget {lv : List Nat} (K : am_wa L xs k h0 r h1 pc (am_keep lv 0 ls) st h) : am_wa L xs k h0 r h1 pc ls st h := by
  intro l g p e R s m args below meth c Q A H locs lr hW hS hL hz
  exact K l g p e R s m args below meth c Q A H locs lr hW hS ⟨⟨hL.1.1, hL.1.2.1, fun q hq => hL.1.2.2 q (am_keep_sub g lv ls 0 q hq)⟩, hL.2⟩ hz
/-- a chunk: the abstract machine from a place to the next cut points, and the claim from there on -/
theorem am_chunk (hmk : ∀ k', k' < 169 → am_mk k') (hk : am_okk k) (cuts : List (Nat × List Nat)) : ∀ (n : Nat) (pc : Nat) (ls st : List Value) (h : am_H), am_U L xs am_cn am_df (tm_k k) (tm_rt k) (am_ok L xs) (am_Al k h0) tm_mcs (am_Rt r h1) (am_wa L xs k h0 r h1) cuts n pc ls st h → am_wa L xs k h0 r h1 pc ls st h := by
  intro n
  induction n with
  | zero => intro pc ls st h hs; exact hs
  | succ n ih =>
    intro pc ls st h hs
    refine am_snd hmk hk ?_ hs
    intro pc' ls' st' h' hk'
    split at hk'
    · exact am_forget hk'
    · exact ih _ _ _ _ hk'
end ST
end
section
/-! THE TABLES ARE RIGHT: the methods -/
def am_mkB (k : Nat) : Bool := decide (lw_tbl[(tm_ps k).getD 2 0]? = some (.initialized (tm_y k).cls)) && decide ((tm_y k).cls ≠ "java/lang/invoke/MethodHandle" ∧ (tm_y k).cls ≠ "java/lang/invoke/VarHandle" ∧ (parseMethodDescriptor (tm_y k).desc).map (fun d => d.parameters.length) = some (tm_n k)) && (match tm_kd k with
  | 0 => decide (lw_tbl[(tm_ps k).getD 1 0]? = some (.static (tm_y k)))
  | 1 => decide (lw_tbl[(tm_ps k).getD 1 0]? = some (.instanceMethod (tm_y k))) && decide (lw_tbl[(tm_ps k).getD 3 0]? = some (.selects (tm_y k).cls (tm_y k) (tm_y k))) && decide ((tm_ci k < 6 ∧ (tm_y k).cls = am_cn (tm_ci k)) ∨ (tm_ci k = 99 ∧ (tm_y k).cls = "java/lang/String"))
  | 2 => decide (lw_tbl[(tm_ps k).getD 1 0]? = some (.instanceMethod (tm_y k))) && decide ((tm_y k).name = "<init>" ∧ tm_ret k = none)
  | _ => false) && plainName (tm_y k).cls && decide (tm_ret k = some (tm_rt k) ∨ tm_ret k = none)
theorem am_mk_of {k pos : Nat} (h1 : lw_tbl[pos]? = some (.code (tm_y k) (tm_b k) (tm_ml k) (tm_ret k))) (h : am_mkB k = true) : am_mk k ∧ plainName (tm_y k).cls = true ∧ (tm_ret k = some (tm_rt k) ∨ tm_ret k = none) := by
  unfold am_mkB at h
  obtain ⟨h, h6⟩ := am_and h
  obtain ⟨h, h5⟩ := am_and h
  obtain ⟨h, h4⟩ := am_and h
  obtain ⟨h2, h3⟩ := am_and h
  refine ⟨⟨am_wd_gt h1 rfl, am_wd_gt (of_decide_eq_true h2) rfl, of_decide_eq_true h3, fun e => ?_, fun e => ?_, fun e => ?_⟩, h5, of_decide_eq_true h6⟩
  · rw [e] at h4
    exact am_wd_gt (of_decide_eq_true h4) rfl
  · rw [e] at h4
    obtain ⟨q, q3⟩ := am_and h4
    obtain ⟨q1, q2⟩ := am_and q
    exact ⟨am_wd_gt (of_decide_eq_true q1) rfl, am_wd_gt (of_decide_eq_true q2) rfl, of_decide_eq_true q3⟩
  · rw [e] at h4
    obtain ⟨q1, q2⟩ := am_and h4
    have q3 := of_decide_eq_true q2
    exact ⟨am_wd_gt (of_decide_eq_true q1) rfl, q3.1, q3.2⟩
abbrev am_mp (k : Nat) : Prop := am_mk k ∧ plainName (tm_y k).cls = true ∧ (tm_ret k = some (tm_rt k) ∨ tm_ret k = none)
set_option maxRecDepth 100000 in
theorem mk_X0_init : am_mp m_X0_init := am_mk_of (pos := 73) rfl (by decide +kernel)
set_option maxRecDepth 100000 in
theorem mk_X0_begin : am_mp m_X0_begin := am_mk_of (pos := 172) rfl (by decide +kernel)
set_option maxRecDepth 100000 in
theorem mk_X0_forgetCycles : am_mp m_X0_forgetCycles := am_mk_of (pos := 351) rfl (by decide +kernel)
set_option maxRecDepth 100000 in
theorem mk_X0_copyFrom : am_mp m_X0_copyFrom := am_mk_of (pos := 244) rfl (by decide +kernel)
set_option maxRecDepth 100000 in
theorem mk_X0_isStation : am_mp m_X0_isStation := am_mk_of (pos := 371) rfl (by decide +kernel)
set_option maxRecDepth 100000 in
theorem mk_X0_isSlot : am_mp m_X0_isSlot := am_mk_of (pos := 397) rfl (by decide +kernel)
set_option maxRecDepth 100000 in
theorem mk_X0_isPair : am_mp m_X0_isPair := am_mk_of (pos := 480) rfl (by decide +kernel)
set_option maxRecDepth 100000 in
theorem mk_X0_link : am_mp m_X0_link := am_mk_of (pos := 336) rfl (by decide +kernel)
set_option maxRecDepth 100000 in
theorem mk_X0_cut : am_mp m_X0_cut := am_mk_of (pos := 495) rfl (by decide +kernel)
set_option maxRecDepth 100000 in
theorem mk_X0_linkCount : am_mp m_X0_linkCount := am_mk_of (pos := 633) rfl (by decide +kernel)
set_option maxRecDepth 100000 in
theorem mk_X0_near : am_mp m_X0_near := am_mk_of (pos := 375) rfl (by decide +kernel)
set_option maxRecDepth 100000 in
theorem mk_X0_hearing : am_mp m_X0_hearing := am_mk_of (pos := 446) rfl (by decide +kernel)
set_option maxRecDepth 100000 in
theorem mk_X0_nearToAny : am_mp m_X0_nearToAny := am_mk_of (pos := 411) rfl (by decide +kernel)
set_option maxRecDepth 100000 in
theorem mk_X0_holders : am_mp m_X0_holders := am_mk_of (pos := 401) rfl (by decide +kernel)
set_option maxRecDepth 100000 in
theorem mk_X0_covered : am_mp m_X0_covered := am_mk_of (pos := 382) rfl (by decide +kernel)
set_option maxRecDepth 100000 in
theorem mk_X0_isDone : am_mp m_X0_isDone := am_mk_of (pos := 527) rfl (by decide +kernel)
set_option maxRecDepth 100000 in
theorem mk_X0_clashes : am_mp m_X0_clashes := am_mk_of (pos := 486) rfl (by decide +kernel)
set_option maxRecDepth 100000 in
theorem mk_X0_clashesBy : am_mp m_X0_clashesBy := am_mk_of (pos := 416) rfl (by decide +kernel)
set_option maxRecDepth 100000 in
theorem mk_X0_contenders : am_mp m_X0_contenders := am_mk_of (pos := 405) rfl (by decide +kernel)
set_option maxRecDepth 100000 in
theorem mk_X0_runFrame : am_mp m_X0_runFrame := am_mk_of (pos := 466) rfl (by decide +kernel)
set_option maxRecDepth 100000 in
theorem mk_X0_runCycle : am_mp m_X0_runCycle := am_mk_of (pos := 432) rfl (by decide +kernel)
set_option maxRecDepth 100000 in
theorem mk_X0_drawLot : am_mp m_X0_drawLot := am_mk_of (pos := 441) rfl (by decide +kernel)
set_option maxRecDepth 100000 in
theorem mk_X0_ask : am_mp m_X0_ask := am_mk_of (pos := 437) rfl (by decide +kernel)
set_option maxRecDepth 100000 in
theorem mk_X0_settle : am_mp m_X0_settle := am_mk_of (pos := 450) rfl (by decide +kernel)
set_option maxRecDepth 100000 in
theorem mk_X0_changeShares : am_mp m_X0_changeShares := am_mk_of (pos := 454) rfl (by decide +kernel)
set_option maxRecDepth 100000 in
theorem mk_X0_dealOneSlotEach : am_mp m_X0_dealOneSlotEach := am_mk_of (pos := 539) rfl (by decide +kernel)
set_option maxRecDepth 100000 in
theorem mk_X0_leastFree : am_mp m_X0_leastFree := am_mk_of (pos := 543) rfl (by decide +kernel)
set_option maxRecDepth 100000 in
theorem mk_X1_init : am_mp m_X1_init := am_mk_of (pos := 152) rfl (by decide +kernel)
set_option maxRecDepth 100000 in
theorem mk_X1_size : am_mp m_X1_size := am_mk_of (pos := 503) rfl (by decide +kernel)
set_option maxRecDepth 100000 in
theorem mk_X1_forget : am_mp m_X1_forget := am_mk_of (pos := 355) rfl (by decide +kernel)
set_option maxRecDepth 100000 in
theorem mk_X1_remember : am_mp m_X1_remember := am_mk_of (pos := 424) rfl (by decide +kernel)
set_option maxRecDepth 100000 in
theorem mk_X1_recall : am_mp m_X1_recall := am_mk_of (pos := 507) rfl (by decide +kernel)
set_option maxRecDepth 100000 in
theorem mk_X2_init : am_mp m_X2_init := am_mk_of (pos := 179) rfl (by decide +kernel)
set_option maxRecDepth 100000 in
theorem mk_X2_begin : am_mp m_X2_begin := am_mk_of (pos := 562) rfl (by decide +kernel)
set_option maxRecDepth 100000 in
theorem mk_X2_lose : am_mp m_X2_lose := am_mk_of (pos := 359) rfl (by decide +kernel)
set_option maxRecDepth 100000 in
theorem mk_X2_addAll : am_mp m_X2_addAll := am_mk_of (pos := 570) rfl (by decide +kernel)
set_option maxRecDepth 100000 in
theorem mk_X2_takeLast : am_mp m_X2_takeLast := am_mk_of (pos := 602) rfl (by decide +kernel)
set_option maxRecDepth 100000 in
theorem mk_X2_sum : am_mp m_X2_sum := am_mk_of (pos := 580) rfl (by decide +kernel)
set_option maxRecDepth 100000 in
theorem mk_X2_greatest : am_mp m_X2_greatest := am_mk_of (pos := 584) rfl (by decide +kernel)
set_option maxRecDepth 100000 in
theorem mk_X2_least : am_mp m_X2_least := am_mk_of (pos := 589) rfl (by decide +kernel)
set_option maxRecDepth 100000 in
theorem mk_X2_swing : am_mp m_X2_swing := am_mk_of (pos := 594) rfl (by decide +kernel)
set_option maxRecDepth 100000 in
theorem mk_X2_negate : am_mp m_X2_negate := am_mk_of (pos := 610) rfl (by decide +kernel)
set_option maxRecDepth 100000 in
theorem mk_X2_twice : am_mp m_X2_twice := am_mk_of (pos := 614) rfl (by decide +kernel)
set_option maxRecDepth 100000 in
theorem mk_X2_sumUp : am_mp m_X2_sumUp := am_mk_of (pos := 621) rfl (by decide +kernel)
set_option maxRecDepth 100000 in
theorem mk_X2_held : am_mp m_X2_held := am_mk_of (pos := 617) rfl (by decide +kernel)
set_option maxRecDepth 100000 in
theorem mk_X3_init : am_mp m_X3_init := am_mk_of (pos := 127) rfl (by decide +kernel)
set_option maxRecDepth 100000 in
theorem mk_X3_length : am_mp m_X3_length := am_mk_of (pos := 641) rfl (by decide +kernel)
set_option maxRecDepth 100000 in
theorem mk_X3_isFull : am_mp m_X3_isFull := am_mk_of (pos := 223) rfl (by decide +kernel)
set_option maxRecDepth 100000 in
theorem mk_X3_add : am_mp m_X3_add := am_mk_of (pos := 227) rfl (by decide +kernel)
set_option maxRecDepth 100000 in
theorem mk_X3_clear : am_mp m_X3_clear := am_mk_of (pos := 236) rfl (by decide +kernel)
set_option maxRecDepth 100000 in
theorem mk_X3_clausesRead : am_mp m_X3_clausesRead := am_mk_of (pos := 363) rfl (by decide +kernel)
set_option maxRecDepth 100000 in
theorem mk_X3_readInto : am_mp m_X3_readInto := am_mk_of (pos := 251) rfl (by decide +kernel)
set_option maxRecDepth 100000 in
theorem mk_X3_readClause : am_mp m_X3_readClause := am_mk_of (pos := 265) rfl (by decide +kernel)
set_option maxRecDepth 100000 in
theorem mk_X3_readMesh : am_mp m_X3_readMesh := am_mk_of (pos := 322) rfl (by decide +kernel)
set_option maxRecDepth 100000 in
theorem mk_X3_readLink : am_mp m_X3_readLink := am_mk_of (pos := 332) rfl (by decide +kernel)
set_option maxRecDepth 100000 in
theorem mk_X3_readOfStation : am_mp m_X3_readOfStation := am_mk_of (pos := 341) rfl (by decide +kernel)
set_option maxRecDepth 100000 in
theorem mk_X3_readNumber : am_mp m_X3_readNumber := am_mk_of (pos := 326) rfl (by decide +kernel)
set_option maxRecDepth 100000 in
theorem mk_X3_nextToken : am_mp m_X3_nextToken := am_mk_of (pos := 255) rfl (by decide +kernel)
set_option maxRecDepth 100000 in
theorem mk_X3_isWord : am_mp m_X3_isWord := am_mk_of (pos := 270) rfl (by decide +kernel)
set_option maxRecDepth 100000 in
theorem mk_X3_isSmall : am_mp m_X3_isSmall := am_mk_of (pos := 258) rfl (by decide +kernel)
set_option maxRecDepth 100000 in
theorem mk_X3_isDigit : am_mp m_X3_isDigit := am_mk_of (pos := 261) rfl (by decide +kernel)
set_option maxRecDepth 100000 in
theorem mk_X4_init : am_mp m_X4_init := am_mk_of (pos := 65) rfl (by decide +kernel)
set_option maxRecDepth 100000 in
theorem mk_X4_write : am_mp m_X4_write := am_mk_of (pos := 219) rfl (by decide +kernel)
set_option maxRecDepth 100000 in
theorem mk_X4_erase : am_mp m_X4_erase := am_mk_of (pos := 232) rfl (by decide +kernel)
set_option maxRecDepth 100000 in
theorem mk_X4_fault : am_mp m_X4_fault := am_mk_of (pos := 240) rfl (by decide +kernel)
set_option maxRecDepth 100000 in
theorem mk_X4_mesh : am_mp m_X4_mesh := am_mk_of (pos := 347) rfl (by decide +kernel)
set_option maxRecDepth 100000 in
theorem mk_X4_station : am_mp m_X4_station := am_mk_of (pos := 367) rfl (by decide +kernel)
set_option maxRecDepth 100000 in
theorem mk_X4_slot : am_mp m_X4_slot := am_mk_of (pos := 393) rfl (by decide +kernel)
set_option maxRecDepth 100000 in
theorem mk_X4_cycle : am_mp m_X4_cycle := am_mk_of (pos := 420) rfl (by decide +kernel)
set_option maxRecDepth 100000 in
theorem mk_X4_frame : am_mp m_X4_frame := am_mk_of (pos := 462) rfl (by decide +kernel)
set_option maxRecDepth 100000 in
theorem mk_X4_give : am_mp m_X4_give := am_mk_of (pos := 472) rfl (by decide +kernel)
set_option maxRecDepth 100000 in
theorem mk_X4_join : am_mp m_X4_join := am_mk_of (pos := 476) rfl (by decide +kernel)
set_option maxRecDepth 100000 in
theorem mk_X4_part : am_mp m_X4_part := am_mk_of (pos := 491) rfl (by decide +kernel)
set_option maxRecDepth 100000 in
theorem mk_X4_undo : am_mp m_X4_undo := am_mk_of (pos := 499) rfl (by decide +kernel)
set_option maxRecDepth 100000 in
theorem mk_X4_keep : am_mp m_X4_keep := am_mk_of (pos := 511) rfl (by decide +kernel)
set_option maxRecDepth 100000 in
theorem mk_X4_back : am_mp m_X4_back := am_mk_of (pos := 515) rfl (by decide +kernel)
set_option maxRecDepth 100000 in
theorem mk_X4_phase : am_mp m_X4_phase := am_mk_of (pos := 519) rfl (by decide +kernel)
set_option maxRecDepth 100000 in
theorem mk_X4_after : am_mp m_X4_after := am_mk_of (pos := 523) rfl (by decide +kernel)
set_option maxRecDepth 100000 in
theorem mk_X4_spoils : am_mp m_X4_spoils := am_mk_of (pos := 531) rfl (by decide +kernel)
set_option maxRecDepth 100000 in
theorem mk_X4_fewest : am_mp m_X4_fewest := am_mk_of (pos := 535) rfl (by decide +kernel)
set_option maxRecDepth 100000 in
theorem mk_X4_hops : am_mp m_X4_hops := am_mk_of (pos := 547) rfl (by decide +kernel)
set_option maxRecDepth 100000 in
theorem mk_X4_tally : am_mp m_X4_tally := am_mk_of (pos := 552) rfl (by decide +kernel)
set_option maxRecDepth 100000 in
theorem mk_X4_append : am_mp m_X4_append := am_mk_of (pos := 566) rfl (by decide +kernel)
set_option maxRecDepth 100000 in
theorem mk_X4_reckon : am_mp m_X4_reckon := am_mk_of (pos := 575) rfl (by decide +kernel)
set_option maxRecDepth 100000 in
theorem mk_X4_pop : am_mp m_X4_pop := am_mk_of (pos := 598) rfl (by decide +kernel)
set_option maxRecDepth 100000 in
theorem mk_X4_each : am_mp m_X4_each := am_mk_of (pos := 606) rfl (by decide +kernel)
set_option maxRecDepth 100000 in
theorem mk_X4_drop : am_mp m_X4_drop := am_mk_of (pos := 625) rfl (by decide +kernel)
set_option maxRecDepth 100000 in
theorem mk_X4_told : am_mp m_X4_told := am_mk_of (pos := 629) rfl (by decide +kernel)
set_option maxRecDepth 100000 in
theorem mk_X4_numbersOfAll : am_mp m_X4_numbersOfAll := am_mk_of (pos := 637) rfl (by decide +kernel)
set_option maxRecDepth 100000 in
theorem mk_X4_isTally : am_mp m_X4_isTally := am_mk_of (pos := 555) rfl (by decide +kernel)
set_option maxRecDepth 100000 in
theorem mk_X4_isNumber : am_mp m_X4_isNumber := am_mk_of (pos := 558) rfl (by decide +kernel)
set_option maxRecDepth 100000 in
theorem mk_X4_has : am_mp m_X4_has := am_mk_of (pos := 378) rfl (by decide +kernel)
set_option maxRecDepth 100000 in
theorem mk_X5_init : am_mp m_X5_init := am_mk_of (pos := 646) rfl (by decide +kernel)
set_option maxRecDepth 100000 in
theorem mk_X5_in : am_mp m_X5_in := am_mk_of (pos := 720) rfl (by decide +kernel)
set_option maxRecDepth 100000 in
theorem mk_X5_has : am_mp m_X5_has := am_mk_of (pos := 789) rfl (by decide +kernel)
set_option maxRecDepth 100000 in
theorem mk_X5_ones : am_mp m_X5_ones := am_mk_of (pos := 796) rfl (by decide +kernel)
set_option maxRecDepth 100000 in
theorem mk_X5_copyRow : am_mp m_X5_copyRow := am_mk_of (pos := 828) rfl (by decide +kernel)
set_option maxRecDepth 100000 in
theorem mk_X5_anew : am_mp m_X5_anew := am_mk_of (pos := 651) rfl (by decide +kernel)
set_option maxRecDepth 100000 in
theorem mk_X5_write : am_mp m_X5_write := am_mk_of (pos := 716) rfl (by decide +kernel)
set_option maxRecDepth 100000 in
theorem mk_X5_erase : am_mp m_X5_erase := am_mk_of (pos := 724) rfl (by decide +kernel)
set_option maxRecDepth 100000 in
theorem mk_X5_isSmall : am_mp m_X5_isSmall := am_mk_of (pos := 739) rfl (by decide +kernel)
set_option maxRecDepth 100000 in
theorem mk_X5_isDigit : am_mp m_X5_isDigit := am_mk_of (pos := 744) rfl (by decide +kernel)
set_option maxRecDepth 100000 in
theorem mk_X5_nextToken : am_mp m_X5_nextToken := am_mk_of (pos := 736) rfl (by decide +kernel)
set_option maxRecDepth 100000 in
theorem mk_X5_wordHere : am_mp m_X5_wordHere := am_mk_of (pos := 754) rfl (by decide +kernel)
set_option maxRecDepth 100000 in
theorem mk_X5_number : am_mp m_X5_number := am_mk_of (pos := 762) rfl (by decide +kernel)
set_option maxRecDepth 100000 in
theorem mk_X5_readsRest : am_mp m_X5_readsRest := am_mk_of (pos := 758) rfl (by decide +kernel)
set_option maxRecDepth 100000 in
theorem mk_X5_joins : am_mp m_X5_joins := am_mk_of (pos := 770) rfl (by decide +kernel)
set_option maxRecDepth 100000 in
theorem mk_X5_does : am_mp m_X5_does := am_mk_of (pos := 766) rfl (by decide +kernel)
set_option maxRecDepth 100000 in
theorem mk_X5_readsClause : am_mp m_X5_readsClause := am_mk_of (pos := 750) rfl (by decide +kernel)
set_option maxRecDepth 100000 in
theorem mk_X5_reads : am_mp m_X5_reads := am_mk_of (pos := 732) rfl (by decide +kernel)
set_option maxRecDepth 100000 in
theorem mk_X5_fault : am_mp m_X5_fault := am_mk_of (pos := 728) rfl (by decide +kernel)
set_option maxRecDepth 100000 in
theorem mk_X5_mesh : am_mp m_X5_mesh := am_mk_of (pos := 774) rfl (by decide +kernel)
set_option maxRecDepth 100000 in
theorem mk_X5_isStation : am_mp m_X5_isStation := am_mk_of (pos := 782) rfl (by decide +kernel)
set_option maxRecDepth 100000 in
theorem mk_X5_isSlot : am_mp m_X5_isSlot := am_mk_of (pos := 804) rfl (by decide +kernel)
set_option maxRecDepth 100000 in
theorem mk_X5_near : am_mp m_X5_near := am_mk_of (pos := 786) rfl (by decide +kernel)
set_option maxRecDepth 100000 in
theorem mk_X5_holders : am_mp m_X5_holders := am_mk_of (pos := 808) rfl (by decide +kernel)
set_option maxRecDepth 100000 in
theorem mk_X5_isCovered : am_mp m_X5_isCovered := am_mk_of (pos := 793) rfl (by decide +kernel)
set_option maxRecDepth 100000 in
theorem mk_X5_covered : am_mp m_X5_covered := am_mk_of (pos := 874) rfl (by decide +kernel)
set_option maxRecDepth 100000 in
theorem mk_X5_contenders : am_mp m_X5_contenders := am_mk_of (pos := 812) rfl (by decide +kernel)
set_option maxRecDepth 100000 in
theorem mk_X5_clashesBy : am_mp m_X5_clashesBy := am_mk_of (pos := 816) rfl (by decide +kernel)
set_option maxRecDepth 100000 in
theorem mk_X5_clashes : am_mp m_X5_clashes := am_mk_of (pos := 890) rfl (by decide +kernel)
set_option maxRecDepth 100000 in
theorem mk_X5_station : am_mp m_X5_station := am_mk_of (pos := 778) rfl (by decide +kernel)
set_option maxRecDepth 100000 in
theorem mk_X5_slot : am_mp m_X5_slot := am_mk_of (pos := 800) rfl (by decide +kernel)
set_option maxRecDepth 100000 in
theorem mk_X5_lot : am_mp m_X5_lot := am_mk_of (pos := 840) rfl (by decide +kernel)
set_option maxRecDepth 100000 in
theorem mk_X5_asking : am_mp m_X5_asking := am_mk_of (pos := 836) rfl (by decide +kernel)
set_option maxRecDepth 100000 in
theorem mk_X5_hearing : am_mp m_X5_hearing := am_mk_of (pos := 845) rfl (by decide +kernel)
set_option maxRecDepth 100000 in
theorem mk_X5_first : am_mp m_X5_first := am_mk_of (pos := 853) rfl (by decide +kernel)
set_option maxRecDepth 100000 in
theorem mk_X5_settles : am_mp m_X5_settles := am_mk_of (pos := 849) rfl (by decide +kernel)
set_option maxRecDepth 100000 in
theorem mk_X5_nearTo : am_mp m_X5_nearTo := am_mk_of (pos := 861) rfl (by decide +kernel)
set_option maxRecDepth 100000 in
theorem mk_X5_shares : am_mp m_X5_shares := am_mk_of (pos := 857) rfl (by decide +kernel)
set_option maxRecDepth 100000 in
theorem mk_X5_cycleOf : am_mp m_X5_cycleOf := am_mk_of (pos := 832) rfl (by decide +kernel)
set_option maxRecDepth 100000 in
theorem mk_X5_frameOf : am_mp m_X5_frameOf := am_mk_of (pos := 870) rfl (by decide +kernel)
set_option maxRecDepth 100000 in
theorem mk_X5_keepPast : am_mp m_X5_keepPast := am_mk_of (pos := 824) rfl (by decide +kernel)
set_option maxRecDepth 100000 in
theorem mk_X5_cycle : am_mp m_X5_cycle := am_mk_of (pos := 820) rfl (by decide +kernel)
set_option maxRecDepth 100000 in
theorem mk_X5_frame : am_mp m_X5_frame := am_mk_of (pos := 865) rfl (by decide +kernel)
set_option maxRecDepth 100000 in
theorem mk_X5_give : am_mp m_X5_give := am_mk_of (pos := 878) rfl (by decide +kernel)
set_option maxRecDepth 100000 in
theorem mk_X5_areTwo : am_mp m_X5_areTwo := am_mk_of (pos := 886) rfl (by decide +kernel)
set_option maxRecDepth 100000 in
theorem mk_X5_join : am_mp m_X5_join := am_mk_of (pos := 882) rfl (by decide +kernel)
set_option maxRecDepth 100000 in
theorem mk_X5_part : am_mp m_X5_part := am_mk_of (pos := 894) rfl (by decide +kernel)
set_option maxRecDepth 100000 in
theorem mk_X5_undo : am_mp m_X5_undo := am_mk_of (pos := 898) rfl (by decide +kernel)
set_option maxRecDepth 100000 in
theorem mk_X5_keep : am_mp m_X5_keep := am_mk_of (pos := 902) rfl (by decide +kernel)
set_option maxRecDepth 100000 in
theorem mk_X5_back : am_mp m_X5_back := am_mk_of (pos := 906) rfl (by decide +kernel)
set_option maxRecDepth 100000 in
theorem mk_X5_phase : am_mp m_X5_phase := am_mk_of (pos := 910) rfl (by decide +kernel)
set_option maxRecDepth 100000 in
theorem mk_X5_isDone : am_mp m_X5_isDone := am_mk_of (pos := 919) rfl (by decide +kernel)
set_option maxRecDepth 100000 in
theorem mk_X5_after : am_mp m_X5_after := am_mk_of (pos := 915) rfl (by decide +kernel)
set_option maxRecDepth 100000 in
theorem mk_X5_spoils : am_mp m_X5_spoils := am_mk_of (pos := 923) rfl (by decide +kernel)
set_option maxRecDepth 100000 in
theorem mk_X5_fewest : am_mp m_X5_fewest := am_mk_of (pos := 927) rfl (by decide +kernel)
set_option maxRecDepth 100000 in
theorem mk_X5_hops : am_mp m_X5_hops := am_mk_of (pos := 931) rfl (by decide +kernel)
set_option maxRecDepth 100000 in
theorem mk_X5_isTally : am_mp m_X5_isTally := am_mk_of (pos := 938) rfl (by decide +kernel)
set_option maxRecDepth 100000 in
theorem mk_X5_isNumber : am_mp m_X5_isNumber := am_mk_of (pos := 943) rfl (by decide +kernel)
set_option maxRecDepth 100000 in
theorem mk_X5_tally : am_mp m_X5_tally := am_mk_of (pos := 935) rfl (by decide +kernel)
set_option maxRecDepth 100000 in
theorem mk_X5_append : am_mp m_X5_append := am_mk_of (pos := 949) rfl (by decide +kernel)
set_option maxRecDepth 100000 in
theorem mk_X5_reckon : am_mp m_X5_reckon := am_mk_of (pos := 953) rfl (by decide +kernel)
set_option maxRecDepth 100000 in
theorem mk_X5_pop : am_mp m_X5_pop := am_mk_of (pos := 958) rfl (by decide +kernel)
set_option maxRecDepth 100000 in
theorem mk_X5_held : am_mp m_X5_held := am_mk_of (pos := 965) rfl (by decide +kernel)
set_option maxRecDepth 100000 in
theorem mk_X5_each : am_mp m_X5_each := am_mk_of (pos := 962) rfl (by decide +kernel)
set_option maxRecDepth 100000 in
theorem mk_X5_drop : am_mp m_X5_drop := am_mk_of (pos := 969) rfl (by decide +kernel)
set_option maxRecDepth 100000 in
theorem mk_X5_links : am_mp m_X5_links := am_mk_of (pos := 977) rfl (by decide +kernel)
set_option maxRecDepth 100000 in
theorem mk_X5_allNumbers : am_mp m_X5_allNumbers := am_mk_of (pos := 981) rfl (by decide +kernel)
set_option maxRecDepth 100000 in
theorem mk_X5_told : am_mp m_X5_told := am_mk_of (pos := 973) rfl (by decide +kernel)
set_option maxRecDepth 100000 in
theorem mk_J6_bitCount_0f7a4 : am_mp m_J6_bitCount_0f7a4 := am_mk_of (pos := 385) rfl (by decide +kernel)
set_option maxRecDepth 100000 in
theorem mk_J0_length_8abf5 : am_mp m_J0_length_8abf5 := am_mk_of (pos := 274) rfl (by decide +kernel)
set_option maxRecDepth 100000 in
theorem mk_J0_charAt_5068e : am_mp m_J0_charAt_5068e := am_mk_of (pos := 284) rfl (by decide +kernel)
set_option maxRecDepth 100000 in
theorem mk_J0_coder_7d493 : am_mp m_J0_coder_7d493 := am_mk_of (pos := 278) rfl (by decide +kernel)
set_option maxRecDepth 100000 in
theorem mk_J0_isLatin1_aae02 : am_mp m_J0_isLatin1_aae02 := am_mk_of (pos := 288) rfl (by decide +kernel)
set_option maxRecDepth 100000 in
theorem mk_J0_checkIndex_df160 : am_mp m_J0_checkIndex_df160 := am_mk_of (pos := 294) rfl (by decide +kernel)
set_option maxRecDepth 100000 in
theorem mk_J1_charAt_3b067 : am_mp m_J1_charAt_3b067 := am_mk_of (pos := 291) rfl (by decide +kernel)
set_option maxRecDepth 100000 in
theorem mk_J7_fill_53178 : am_mp m_J7_fill_53178 := am_mk_of (pos := 175) rfl (by decide +kernel)
set_option maxRecDepth 100000 in
theorem mk_J3_checkIndex_8e157 : am_mp m_J3_checkIndex_8e157 := am_mk_of (pos := 299) rfl (by decide +kernel)
theorem am_mc0 : ∀ k ∈ [0, 1, 2, 3, 4, 5, 6, 7, 8, 9, 10, 11, 12], am_mp k := List.forall_mem_cons.mpr ⟨mk_X0_init, List.forall_mem_cons.mpr ⟨mk_X0_begin, List.forall_mem_cons.mpr ⟨mk_X0_forgetCycles, List.forall_mem_cons.mpr ⟨mk_X0_copyFrom, List.forall_mem_cons.mpr ⟨mk_X0_isStation, List.forall_mem_cons.mpr ⟨mk_X0_isSlot, List.forall_mem_cons.mpr ⟨mk_X0_isPair, List.forall_mem_cons.mpr ⟨mk_X0_link, List.forall_mem_cons.mpr ⟨mk_X0_cut, List.forall_mem_cons.mpr ⟨mk_X0_linkCount, List.forall_mem_cons.mpr ⟨mk_X0_near, List.forall_mem_cons.mpr ⟨mk_X0_hearing, List.forall_mem_cons.mpr ⟨mk_X0_nearToAny, fun _ h => absurd h List.not_mem_nil⟩⟩⟩⟩⟩⟩⟩⟩⟩⟩⟩⟩⟩
theorem am_mc1 : ∀ k ∈ [13, 14, 15, 16, 17, 18, 19, 20, 21, 22, 23, 24, 25], am_mp k := List.forall_mem_cons.mpr ⟨mk_X0_holders, List.forall_mem_cons.mpr ⟨mk_X0_covered, List.forall_mem_cons.mpr ⟨mk_X0_isDone, List.forall_mem_cons.mpr ⟨mk_X0_clashes, List.forall_mem_cons.mpr ⟨mk_X0_clashesBy, List.forall_mem_cons.mpr ⟨mk_X0_contenders, List.forall_mem_cons.mpr ⟨mk_X0_runFrame, List.forall_mem_cons.mpr ⟨mk_X0_runCycle, List.forall_mem_cons.mpr ⟨mk_X0_drawLot, List.forall_mem_cons.mpr ⟨mk_X0_ask, List.forall_mem_cons.mpr ⟨mk_X0_settle, List.forall_mem_cons.mpr ⟨mk_X0_changeShares, List.forall_mem_cons.mpr ⟨mk_X0_dealOneSlotEach, fun _ h => absurd h List.not_mem_nil⟩⟩⟩⟩⟩⟩⟩⟩⟩⟩⟩⟩⟩
theorem am_mc2 : ∀ k ∈ [26, 27, 28, 29, 30, 31, 32, 33, 34, 35, 36, 37, 38], am_mp k := List.forall_mem_cons.mpr ⟨mk_X0_leastFree, List.forall_mem_cons.mpr ⟨mk_X1_init, List.forall_mem_cons.mpr ⟨mk_X1_size, List.forall_mem_cons.mpr ⟨mk_X1_forget, List.forall_mem_cons.mpr ⟨mk_X1_remember, List.forall_mem_cons.mpr ⟨mk_X1_recall, List.forall_mem_cons.mpr ⟨mk_X2_init, List.forall_mem_cons.mpr ⟨mk_X2_begin, List.forall_mem_cons.mpr ⟨mk_X2_lose, List.forall_mem_cons.mpr ⟨mk_X2_addAll, List.forall_mem_cons.mpr ⟨mk_X2_takeLast, List.forall_mem_cons.mpr ⟨mk_X2_sum, List.forall_mem_cons.mpr ⟨mk_X2_greatest, fun _ h => absurd h List.not_mem_nil⟩⟩⟩⟩⟩⟩⟩⟩⟩⟩⟩⟩⟩
theorem am_mc3 : ∀ k ∈ [39, 40, 41, 42, 43, 44, 45, 46, 47, 48, 49, 50, 51], am_mp k := List.forall_mem_cons.mpr ⟨mk_X2_least, List.forall_mem_cons.mpr ⟨mk_X2_swing, List.forall_mem_cons.mpr ⟨mk_X2_negate, List.forall_mem_cons.mpr ⟨mk_X2_twice, List.forall_mem_cons.mpr ⟨mk_X2_sumUp, List.forall_mem_cons.mpr ⟨mk_X2_held, List.forall_mem_cons.mpr ⟨mk_X3_init, List.forall_mem_cons.mpr ⟨mk_X3_length, List.forall_mem_cons.mpr ⟨mk_X3_isFull, List.forall_mem_cons.mpr ⟨mk_X3_add, List.forall_mem_cons.mpr ⟨mk_X3_clear, List.forall_mem_cons.mpr ⟨mk_X3_clausesRead, List.forall_mem_cons.mpr ⟨mk_X3_readInto, fun _ h => absurd h List.not_mem_nil⟩⟩⟩⟩⟩⟩⟩⟩⟩⟩⟩⟩⟩
theorem am_mc4 : ∀ k ∈ [52, 53, 54, 55, 56, 57, 58, 59, 60, 61, 62, 63, 64], am_mp k := List.forall_mem_cons.mpr ⟨mk_X3_readClause, List.forall_mem_cons.mpr ⟨mk_X3_readMesh, List.forall_mem_cons.mpr ⟨mk_X3_readLink, List.forall_mem_cons.mpr ⟨mk_X3_readOfStation, List.forall_mem_cons.mpr ⟨mk_X3_readNumber, List.forall_mem_cons.mpr ⟨mk_X3_nextToken, List.forall_mem_cons.mpr ⟨mk_X3_isWord, List.forall_mem_cons.mpr ⟨mk_X3_isSmall, List.forall_mem_cons.mpr ⟨mk_X3_isDigit, List.forall_mem_cons.mpr ⟨mk_X4_init, List.forall_mem_cons.mpr ⟨mk_X4_write, List.forall_mem_cons.mpr ⟨mk_X4_erase, List.forall_mem_cons.mpr ⟨mk_X4_fault, fun _ h => absurd h List.not_mem_nil⟩⟩⟩⟩⟩⟩⟩⟩⟩⟩⟩⟩⟩
theorem am_mc5 : ∀ k ∈ [65, 66, 67, 68, 69, 70, 71, 72, 73, 74, 75, 76, 77], am_mp k := List.forall_mem_cons.mpr ⟨mk_X4_mesh, List.forall_mem_cons.mpr ⟨mk_X4_station, List.forall_mem_cons.mpr ⟨mk_X4_slot, List.forall_mem_cons.mpr ⟨mk_X4_cycle, List.forall_mem_cons.mpr ⟨mk_X4_frame, List.forall_mem_cons.mpr ⟨mk_X4_give, List.forall_mem_cons.mpr ⟨mk_X4_join, List.forall_mem_cons.mpr ⟨mk_X4_part, List.forall_mem_cons.mpr ⟨mk_X4_undo, List.forall_mem_cons.mpr ⟨mk_X4_keep, List.forall_mem_cons.mpr ⟨mk_X4_back, List.forall_mem_cons.mpr ⟨mk_X4_phase, List.forall_mem_cons.mpr ⟨mk_X4_after, fun _ h => absurd h List.not_mem_nil⟩⟩⟩⟩⟩⟩⟩⟩⟩⟩⟩⟩⟩
theorem am_mc6 : ∀ k ∈ [78, 79, 80, 81, 82, 83, 84, 85, 86, 87, 88, 89, 90], am_mp k := List.forall_mem_cons.mpr ⟨mk_X4_spoils, List.forall_mem_cons.mpr ⟨mk_X4_fewest, List.forall_mem_cons.mpr ⟨mk_X4_hops, List.forall_mem_cons.mpr ⟨mk_X4_tally, List.forall_mem_cons.mpr ⟨mk_X4_append, List.forall_mem_cons.mpr ⟨mk_X4_reckon, List.forall_mem_cons.mpr ⟨mk_X4_pop, List.forall_mem_cons.mpr ⟨mk_X4_each, List.forall_mem_cons.mpr ⟨mk_X4_drop, List.forall_mem_cons.mpr ⟨mk_X4_told, List.forall_mem_cons.mpr ⟨mk_X4_numbersOfAll, List.forall_mem_cons.mpr ⟨mk_X4_isTally, List.forall_mem_cons.mpr ⟨mk_X4_isNumber, fun _ h => absurd h List.not_mem_nil⟩⟩⟩⟩⟩⟩⟩⟩⟩⟩⟩⟩⟩
theorem am_mc7 : ∀ k ∈ [91, 92, 93, 94, 95, 96, 97, 98, 99, 100, 101, 102, 103], am_mp k := List.forall_mem_cons.mpr ⟨mk_X4_has, List.forall_mem_cons.mpr ⟨mk_X5_init, List.forall_mem_cons.mpr ⟨mk_X5_in, List.forall_mem_cons.mpr ⟨mk_X5_has, List.forall_mem_cons.mpr ⟨mk_X5_ones, List.forall_mem_cons.mpr ⟨mk_X5_copyRow, List.forall_mem_cons.mpr ⟨mk_X5_anew, List.forall_mem_cons.mpr ⟨mk_X5_write, List.forall_mem_cons.mpr ⟨mk_X5_erase, List.forall_mem_cons.mpr ⟨mk_X5_isSmall, List.forall_mem_cons.mpr ⟨mk_X5_isDigit, List.forall_mem_cons.mpr ⟨mk_X5_nextToken, List.forall_mem_cons.mpr ⟨mk_X5_wordHere, fun _ h => absurd h List.not_mem_nil⟩⟩⟩⟩⟩⟩⟩⟩⟩⟩⟩⟩⟩
theorem am_mc8 : ∀ k ∈ [104, 105, 106, 107, 108, 109, 110, 111, 112, 113, 114, 115, 116], am_mp k := List.forall_mem_cons.mpr ⟨mk_X5_number, List.forall_mem_cons.mpr ⟨mk_X5_readsRest, List.forall_mem_cons.mpr ⟨mk_X5_joins, List.forall_mem_cons.mpr ⟨mk_X5_does, List.forall_mem_cons.mpr ⟨mk_X5_readsClause, List.forall_mem_cons.mpr ⟨mk_X5_reads, List.forall_mem_cons.mpr ⟨mk_X5_fault, List.forall_mem_cons.mpr ⟨mk_X5_mesh, List.forall_mem_cons.mpr ⟨mk_X5_isStation, List.forall_mem_cons.mpr ⟨mk_X5_isSlot, List.forall_mem_cons.mpr ⟨mk_X5_near, List.forall_mem_cons.mpr ⟨mk_X5_holders, List.forall_mem_cons.mpr ⟨mk_X5_isCovered, fun _ h => absurd h List.not_mem_nil⟩⟩⟩⟩⟩⟩⟩⟩⟩⟩⟩⟩⟩
theorem am_mc9 : ∀ k ∈ [117, 118, 119, 120, 121, 122, 123, 124, 125, 126, 127, 128, 129], am_mp k := List.forall_mem_cons.mpr ⟨mk_X5_covered, List.forall_mem_cons.mpr ⟨mk_X5_contenders, List.forall_mem_cons.mpr ⟨mk_X5_clashesBy, List.forall_mem_cons.mpr ⟨mk_X5_clashes, List.forall_mem_cons.mpr ⟨mk_X5_station, List.forall_mem_cons.mpr ⟨mk_X5_slot, List.forall_mem_cons.mpr ⟨mk_X5_lot, List.forall_mem_cons.mpr ⟨mk_X5_asking, List.forall_mem_cons.mpr ⟨mk_X5_hearing, List.forall_mem_cons.mpr ⟨mk_X5_first, List.forall_mem_cons.mpr ⟨mk_X5_settles, List.forall_mem_cons.mpr ⟨mk_X5_nearTo, List.forall_mem_cons.mpr ⟨mk_X5_shares, fun _ h => absurd h List.not_mem_nil⟩⟩⟩⟩⟩⟩⟩⟩⟩⟩⟩⟩⟩
theorem am_mc10 : ∀ k ∈ [130, 131, 132, 133, 134, 135, 136, 137, 138, 139, 140, 141, 142], am_mp k := List.forall_mem_cons.mpr ⟨mk_X5_cycleOf, List.forall_mem_cons.mpr ⟨mk_X5_frameOf, List.forall_mem_cons.mpr ⟨mk_X5_keepPast, List.forall_mem_cons.mpr ⟨mk_X5_cycle, List.forall_mem_cons.mpr ⟨mk_X5_frame, List.forall_mem_cons.mpr ⟨mk_X5_give, List.forall_mem_cons.mpr ⟨mk_X5_areTwo, List.forall_mem_cons.mpr ⟨mk_X5_join, List.forall_mem_cons.mpr ⟨mk_X5_part, List.forall_mem_cons.mpr ⟨mk_X5_undo, List.forall_mem_cons.mpr ⟨mk_X5_keep, List.forall_mem_cons.mpr ⟨mk_X5_back, List.forall_mem_cons.mpr ⟨mk_X5_phase, fun _ h => absurd h List.not_mem_nil⟩⟩⟩⟩⟩⟩⟩⟩⟩⟩⟩⟩⟩
theorem am_mc11 : ∀ k ∈ [143, 144, 145, 146, 147, 148, 149, 150, 151, 152, 153, 154, 155], am_mp k := List.forall_mem_cons.mpr ⟨mk_X5_isDone, List.forall_mem_cons.mpr ⟨mk_X5_after, List.forall_mem_cons.mpr ⟨mk_X5_spoils, List.forall_mem_cons.mpr ⟨mk_X5_fewest, List.forall_mem_cons.mpr ⟨mk_X5_hops, List.forall_mem_cons.mpr ⟨mk_X5_isTally, List.forall_mem_cons.mpr ⟨mk_X5_isNumber, List.forall_mem_cons.mpr ⟨mk_X5_tally, List.forall_mem_cons.mpr ⟨mk_X5_append, List.forall_mem_cons.mpr ⟨mk_X5_reckon, List.forall_mem_cons.mpr ⟨mk_X5_pop, List.forall_mem_cons.mpr ⟨mk_X5_held, List.forall_mem_cons.mpr ⟨mk_X5_each, fun _ h => absurd h List.not_mem_nil⟩⟩⟩⟩⟩⟩⟩⟩⟩⟩⟩⟩⟩
theorem am_mc12 : ∀ k ∈ [156, 157, 158, 159, 160, 161, 162, 163, 164, 165, 166, 167, 168], am_mp k := List.forall_mem_cons.mpr ⟨mk_X5_drop, List.forall_mem_cons.mpr ⟨mk_X5_links, List.forall_mem_cons.mpr ⟨mk_X5_allNumbers, List.forall_mem_cons.mpr ⟨mk_X5_told, List.forall_mem_cons.mpr ⟨mk_J6_bitCount_0f7a4, List.forall_mem_cons.mpr ⟨mk_J0_length_8abf5, List.forall_mem_cons.mpr ⟨mk_J0_charAt_5068e, List.forall_mem_cons.mpr ⟨mk_J0_coder_7d493, List.forall_mem_cons.mpr ⟨mk_J0_isLatin1_aae02, List.forall_mem_cons.mpr ⟨mk_J0_checkIndex_df160, List.forall_mem_cons.mpr ⟨mk_J1_charAt_3b067, List.forall_mem_cons.mpr ⟨mk_J7_fill_53178, List.forall_mem_cons.mpr ⟨mk_J3_checkIndex_8e157, fun _ h => absurd h List.not_mem_nil⟩⟩⟩⟩⟩⟩⟩⟩⟩⟩⟩⟩⟩
theorem am_mp_all (k : Nat) (hk : k < 169) : am_mp k := by
  have h : (0 ≤ k ∧ k < 13) ∨ (13 ≤ k ∧ k < 26) ∨ (26 ≤ k ∧ k < 39) ∨ (39 ≤ k ∧ k < 52) ∨ (52 ≤ k ∧ k < 65) ∨ (65 ≤ k ∧ k < 78) ∨ (78 ≤ k ∧ k < 91) ∨ (91 ≤ k ∧ k < 104) ∨ (104 ≤ k ∧ k < 117) ∨ (117 ≤ k ∧ k < 130) ∨ (130 ≤ k ∧ k < 143) ∨ (143 ≤ k ∧ k < 156) ∨ (156 ≤ k ∧ k < 169) := by omega
  rcases h with h | h | h | h | h | h | h | h | h | h | h | h | h
  · exact am_mc0 k (by simp only [List.mem_cons, List.not_mem_nil, or_false]; omega)
  · exact am_mc1 k (by simp only [List.mem_cons, List.not_mem_nil, or_false]; omega)
  · exact am_mc2 k (by simp only [List.mem_cons, List.not_mem_nil, or_false]; omega)
  · exact am_mc3 k (by simp only [List.mem_cons, List.not_mem_nil, or_false]; omega)
  · exact am_mc4 k (by simp only [List.mem_cons, List.not_mem_nil, or_false]; omega)
  · exact am_mc5 k (by simp only [List.mem_cons, List.not_mem_nil, or_false]; omega)
  · exact am_mc6 k (by simp only [List.mem_cons, List.not_mem_nil, or_false]; omega)
  · exact am_mc7 k (by simp only [List.mem_cons, List.not_mem_nil, or_false]; omega)
  · exact am_mc8 k (by simp only [List.mem_cons, List.not_mem_nil, or_false]; omega)
  · exact am_mc9 k (by simp only [List.mem_cons, List.not_mem_nil, or_false]; omega)
  · exact am_mc10 k (by simp only [List.mem_cons, List.not_mem_nil, or_false]; omega)
  · exact am_mc11 k (by simp only [List.mem_cons, List.not_mem_nil, or_false]; omega)
  · exact am_mc12 k (by simp only [List.mem_cons, List.not_mem_nil, or_false]; omega)
theorem am_mk_all (k : Nat) (hk : k < 169) : am_mk k := (am_mp_all k hk).1
def am_okB (k : Nat) : Bool := (tm_k k).all (fun q => decide (decode (tm_b k) q.1 = .ok (q.2.1, q.2.2.1)) && am_ck k q)
theorem am_okk_of {k : Nat} (h : am_okB k = true) : am_okk k := by
  intro q hq
  have h1 := List.all_eq_true.mp h q hq
  obtain ⟨q1, q2⟩ := am_and h1
  exact ⟨of_decide_eq_true q1, q2⟩
end
section
/-! THE TABLES ARE RIGHT: the code of methods 0 to 59 -/
theorem okk_X0_init : am_okk m_X0_init := am_okk_of (by decide +kernel)
theorem okk_X0_begin : am_okk m_X0_begin := am_okk_of (by decide +kernel)
theorem okk_X0_forgetCycles : am_okk m_X0_forgetCycles := am_okk_of (by decide +kernel)
theorem okk_X0_copyFrom : am_okk m_X0_copyFrom := am_okk_of (by decide +kernel)
theorem okk_X0_isStation : am_okk m_X0_isStation := am_okk_of (by decide +kernel)
theorem okk_X0_isSlot : am_okk m_X0_isSlot := am_okk_of (by decide +kernel)
theorem okk_X0_isPair : am_okk m_X0_isPair := am_okk_of (by decide +kernel)
theorem okk_X0_link : am_okk m_X0_link := am_okk_of (by decide +kernel)
theorem okk_X0_cut : am_okk m_X0_cut := am_okk_of (by decide +kernel)
theorem okk_X0_linkCount : am_okk m_X0_linkCount := am_okk_of (by decide +kernel)
theorem okk_X0_near : am_okk m_X0_near := am_okk_of (by decide +kernel)
theorem okk_X0_hearing : am_okk m_X0_hearing := am_okk_of (by decide +kernel)
theorem okk_X0_nearToAny : am_okk m_X0_nearToAny := am_okk_of (by decide +kernel)
theorem okk_X0_holders : am_okk m_X0_holders := am_okk_of (by decide +kernel)
theorem okk_X0_covered : am_okk m_X0_covered := am_okk_of (by decide +kernel)
theorem okk_X0_isDone : am_okk m_X0_isDone := am_okk_of (by decide +kernel)
theorem okk_X0_clashes : am_okk m_X0_clashes := am_okk_of (by decide +kernel)
theorem okk_X0_clashesBy : am_okk m_X0_clashesBy := am_okk_of (by decide +kernel)
theorem okk_X0_contenders : am_okk m_X0_contenders := am_okk_of (by decide +kernel)
theorem okk_X0_runFrame : am_okk m_X0_runFrame := am_okk_of (by decide +kernel)
theorem okk_X0_runCycle : am_okk m_X0_runCycle := am_okk_of (by decide +kernel)
theorem okk_X0_drawLot : am_okk m_X0_drawLot := am_okk_of (by decide +kernel)
theorem okk_X0_ask : am_okk m_X0_ask := am_okk_of (by decide +kernel)
theorem okk_X0_settle : am_okk m_X0_settle := am_okk_of (by decide +kernel)
theorem okk_X0_changeShares : am_okk m_X0_changeShares := am_okk_of (by decide +kernel)
theorem okk_X0_dealOneSlotEach : am_okk m_X0_dealOneSlotEach := am_okk_of (by decide +kernel)
theorem okk_X0_leastFree : am_okk m_X0_leastFree := am_okk_of (by decide +kernel)
theorem okk_X1_init : am_okk m_X1_init := am_okk_of (by decide +kernel)
theorem okk_X1_size : am_okk m_X1_size := am_okk_of (by decide +kernel)
theorem okk_X1_forget : am_okk m_X1_forget := am_okk_of (by decide +kernel)
theorem okk_X1_remember : am_okk m_X1_remember := am_okk_of (by decide +kernel)
theorem okk_X1_recall : am_okk m_X1_recall := am_okk_of (by decide +kernel)
theorem okk_X2_init : am_okk m_X2_init := am_okk_of (by decide +kernel)
theorem okk_X2_begin : am_okk m_X2_begin := am_okk_of (by decide +kernel)
theorem okk_X2_lose : am_okk m_X2_lose := am_okk_of (by decide +kernel)
theorem okk_X2_addAll : am_okk m_X2_addAll := am_okk_of (by decide +kernel)
theorem okk_X2_takeLast : am_okk m_X2_takeLast := am_okk_of (by decide +kernel)
theorem okk_X2_sum : am_okk m_X2_sum := am_okk_of (by decide +kernel)
theorem okk_X2_greatest : am_okk m_X2_greatest := am_okk_of (by decide +kernel)
theorem okk_X2_least : am_okk m_X2_least := am_okk_of (by decide +kernel)
theorem okk_X2_swing : am_okk m_X2_swing := am_okk_of (by decide +kernel)
theorem okk_X2_negate : am_okk m_X2_negate := am_okk_of (by decide +kernel)
theorem okk_X2_twice : am_okk m_X2_twice := am_okk_of (by decide +kernel)
theorem okk_X2_sumUp : am_okk m_X2_sumUp := am_okk_of (by decide +kernel)
theorem okk_X2_held : am_okk m_X2_held := am_okk_of (by decide +kernel)
theorem okk_X3_init : am_okk m_X3_init := am_okk_of (by decide +kernel)
theorem okk_X3_length : am_okk m_X3_length := am_okk_of (by decide +kernel)
theorem okk_X3_isFull : am_okk m_X3_isFull := am_okk_of (by decide +kernel)
theorem okk_X3_add : am_okk m_X3_add := am_okk_of (by decide +kernel)
theorem okk_X3_clear : am_okk m_X3_clear := am_okk_of (by decide +kernel)
theorem okk_X3_clausesRead : am_okk m_X3_clausesRead := am_okk_of (by decide +kernel)
theorem okk_X3_readInto : am_okk m_X3_readInto := am_okk_of (by decide +kernel)
theorem okk_X3_readClause : am_okk m_X3_readClause := am_okk_of (by decide +kernel)
theorem okk_X3_readMesh : am_okk m_X3_readMesh := am_okk_of (by decide +kernel)
theorem okk_X3_readLink : am_okk m_X3_readLink := am_okk_of (by decide +kernel)
theorem okk_X3_readOfStation : am_okk m_X3_readOfStation := am_okk_of (by decide +kernel)
theorem okk_X3_readNumber : am_okk m_X3_readNumber := am_okk_of (by decide +kernel)
theorem okk_X3_nextToken : am_okk m_X3_nextToken := am_okk_of (by decide +kernel)
theorem okk_X3_isWord : am_okk m_X3_isWord := am_okk_of (by decide +kernel)
theorem okk_X3_isSmall : am_okk m_X3_isSmall := am_okk_of (by decide +kernel)
end
section
/-! THE TABLES ARE RIGHT: the code of methods 60 to 109 -/
theorem okk_X3_isDigit : am_okk m_X3_isDigit := am_okk_of (by decide +kernel)
theorem okk_X4_init : am_okk m_X4_init := am_okk_of (by decide +kernel)
theorem okk_X4_write : am_okk m_X4_write := am_okk_of (by decide +kernel)
theorem okk_X4_erase : am_okk m_X4_erase := am_okk_of (by decide +kernel)
theorem okk_X4_fault : am_okk m_X4_fault := am_okk_of (by decide +kernel)
theorem okk_X4_mesh : am_okk m_X4_mesh := am_okk_of (by decide +kernel)
theorem okk_X4_station : am_okk m_X4_station := am_okk_of (by decide +kernel)
theorem okk_X4_slot : am_okk m_X4_slot := am_okk_of (by decide +kernel)
theorem okk_X4_cycle : am_okk m_X4_cycle := am_okk_of (by decide +kernel)
theorem okk_X4_frame : am_okk m_X4_frame := am_okk_of (by decide +kernel)
theorem okk_X4_give : am_okk m_X4_give := am_okk_of (by decide +kernel)
theorem okk_X4_join : am_okk m_X4_join := am_okk_of (by decide +kernel)
theorem okk_X4_part : am_okk m_X4_part := am_okk_of (by decide +kernel)
theorem okk_X4_undo : am_okk m_X4_undo := am_okk_of (by decide +kernel)
theorem okk_X4_keep : am_okk m_X4_keep := am_okk_of (by decide +kernel)
theorem okk_X4_back : am_okk m_X4_back := am_okk_of (by decide +kernel)
theorem okk_X4_phase : am_okk m_X4_phase := am_okk_of (by decide +kernel)
theorem okk_X4_after : am_okk m_X4_after := am_okk_of (by decide +kernel)
theorem okk_X4_spoils : am_okk m_X4_spoils := am_okk_of (by decide +kernel)
theorem okk_X4_fewest : am_okk m_X4_fewest := am_okk_of (by decide +kernel)
theorem okk_X4_hops : am_okk m_X4_hops := am_okk_of (by decide +kernel)
theorem okk_X4_tally : am_okk m_X4_tally := am_okk_of (by decide +kernel)
theorem okk_X4_append : am_okk m_X4_append := am_okk_of (by decide +kernel)
theorem okk_X4_reckon : am_okk m_X4_reckon := am_okk_of (by decide +kernel)
theorem okk_X4_pop : am_okk m_X4_pop := am_okk_of (by decide +kernel)
theorem okk_X4_each : am_okk m_X4_each := am_okk_of (by decide +kernel)
theorem okk_X4_drop : am_okk m_X4_drop := am_okk_of (by decide +kernel)
theorem okk_X4_told : am_okk m_X4_told := am_okk_of (by decide +kernel)
theorem okk_X4_numbersOfAll : am_okk m_X4_numbersOfAll := am_okk_of (by decide +kernel)
theorem okk_X4_isTally : am_okk m_X4_isTally := am_okk_of (by decide +kernel)
theorem okk_X4_isNumber : am_okk m_X4_isNumber := am_okk_of (by decide +kernel)
theorem okk_X4_has : am_okk m_X4_has := am_okk_of (by decide +kernel)
theorem okk_X5_init : am_okk m_X5_init := am_okk_of (by decide +kernel)
theorem okk_X5_in : am_okk m_X5_in := am_okk_of (by decide +kernel)
theorem okk_X5_has : am_okk m_X5_has := am_okk_of (by decide +kernel)
theorem okk_X5_ones : am_okk m_X5_ones := am_okk_of (by decide +kernel)
theorem okk_X5_copyRow : am_okk m_X5_copyRow := am_okk_of (by decide +kernel)
theorem okk_X5_anew : am_okk m_X5_anew := am_okk_of (by decide +kernel)
theorem okk_X5_write : am_okk m_X5_write := am_okk_of (by decide +kernel)
theorem okk_X5_erase : am_okk m_X5_erase := am_okk_of (by decide +kernel)
theorem okk_X5_isSmall : am_okk m_X5_isSmall := am_okk_of (by decide +kernel)
theorem okk_X5_isDigit : am_okk m_X5_isDigit := am_okk_of (by decide +kernel)
theorem okk_X5_nextToken : am_okk m_X5_nextToken := am_okk_of (by decide +kernel)
theorem okk_X5_wordHere : am_okk m_X5_wordHere := am_okk_of (by decide +kernel)
theorem okk_X5_number : am_okk m_X5_number := am_okk_of (by decide +kernel)
theorem okk_X5_readsRest : am_okk m_X5_readsRest := am_okk_of (by decide +kernel)
theorem okk_X5_joins : am_okk m_X5_joins := am_okk_of (by decide +kernel)
theorem okk_X5_does : am_okk m_X5_does := am_okk_of (by decide +kernel)
theorem okk_X5_readsClause : am_okk m_X5_readsClause := am_okk_of (by decide +kernel)
theorem okk_X5_reads : am_okk m_X5_reads := am_okk_of (by decide +kernel)
end
section
/-! THE TABLES ARE RIGHT: the code of methods 110 to 139 -/
theorem okk_X5_fault : am_okk m_X5_fault := am_okk_of (by decide +kernel)
theorem okk_X5_mesh : am_okk m_X5_mesh := am_okk_of (by decide +kernel)
theorem okk_X5_isStation : am_okk m_X5_isStation := am_okk_of (by decide +kernel)
theorem okk_X5_isSlot : am_okk m_X5_isSlot := am_okk_of (by decide +kernel)
theorem okk_X5_near : am_okk m_X5_near := am_okk_of (by decide +kernel)
theorem okk_X5_holders : am_okk m_X5_holders := am_okk_of (by decide +kernel)
theorem okk_X5_isCovered : am_okk m_X5_isCovered := am_okk_of (by decide +kernel)
theorem okk_X5_covered : am_okk m_X5_covered := am_okk_of (by decide +kernel)
theorem okk_X5_contenders : am_okk m_X5_contenders := am_okk_of (by decide +kernel)
theorem okk_X5_clashesBy : am_okk m_X5_clashesBy := am_okk_of (by decide +kernel)
theorem okk_X5_clashes : am_okk m_X5_clashes := am_okk_of (by decide +kernel)
theorem okk_X5_station : am_okk m_X5_station := am_okk_of (by decide +kernel)
theorem okk_X5_slot : am_okk m_X5_slot := am_okk_of (by decide +kernel)
theorem okk_X5_lot : am_okk m_X5_lot := am_okk_of (by decide +kernel)
theorem okk_X5_asking : am_okk m_X5_asking := am_okk_of (by decide +kernel)
theorem okk_X5_hearing : am_okk m_X5_hearing := am_okk_of (by decide +kernel)
theorem okk_X5_first : am_okk m_X5_first := am_okk_of (by decide +kernel)
theorem okk_X5_settles : am_okk m_X5_settles := am_okk_of (by decide +kernel)
theorem okk_X5_nearTo : am_okk m_X5_nearTo := am_okk_of (by decide +kernel)
theorem okk_X5_shares : am_okk m_X5_shares := am_okk_of (by decide +kernel)
theorem okk_X5_cycleOf : am_okk m_X5_cycleOf := am_okk_of (by decide +kernel)
theorem okk_X5_frameOf : am_okk m_X5_frameOf := am_okk_of (by decide +kernel)
theorem okk_X5_keepPast : am_okk m_X5_keepPast := am_okk_of (by decide +kernel)
theorem okk_X5_cycle : am_okk m_X5_cycle := am_okk_of (by decide +kernel)
theorem okk_X5_frame : am_okk m_X5_frame := am_okk_of (by decide +kernel)
theorem okk_X5_give : am_okk m_X5_give := am_okk_of (by decide +kernel)
theorem okk_X5_areTwo : am_okk m_X5_areTwo := am_okk_of (by decide +kernel)
theorem okk_X5_join : am_okk m_X5_join := am_okk_of (by decide +kernel)
theorem okk_X5_part : am_okk m_X5_part := am_okk_of (by decide +kernel)
theorem okk_X5_undo : am_okk m_X5_undo := am_okk_of (by decide +kernel)
end
section
/-! THE TABLES ARE RIGHT: the code of methods 140 to 168 -/
theorem okk_X5_keep : am_okk m_X5_keep := am_okk_of (by decide +kernel)
theorem okk_X5_back : am_okk m_X5_back := am_okk_of (by decide +kernel)
theorem okk_X5_phase : am_okk m_X5_phase := am_okk_of (by decide +kernel)
theorem okk_X5_isDone : am_okk m_X5_isDone := am_okk_of (by decide +kernel)
theorem okk_X5_after : am_okk m_X5_after := am_okk_of (by decide +kernel)
theorem okk_X5_spoils : am_okk m_X5_spoils := am_okk_of (by decide +kernel)
theorem okk_X5_fewest : am_okk m_X5_fewest := am_okk_of (by decide +kernel)
theorem okk_X5_hops : am_okk m_X5_hops := am_okk_of (by decide +kernel)
theorem okk_X5_isTally : am_okk m_X5_isTally := am_okk_of (by decide +kernel)
theorem okk_X5_isNumber : am_okk m_X5_isNumber := am_okk_of (by decide +kernel)
theorem okk_X5_tally : am_okk m_X5_tally := am_okk_of (by decide +kernel)
theorem okk_X5_append : am_okk m_X5_append := am_okk_of (by decide +kernel)
theorem okk_X5_reckon : am_okk m_X5_reckon := am_okk_of (by decide +kernel)
theorem okk_X5_pop : am_okk m_X5_pop := am_okk_of (by decide +kernel)
theorem okk_X5_held : am_okk m_X5_held := am_okk_of (by decide +kernel)
theorem okk_X5_each : am_okk m_X5_each := am_okk_of (by decide +kernel)
theorem okk_X5_drop : am_okk m_X5_drop := am_okk_of (by decide +kernel)
theorem okk_X5_links : am_okk m_X5_links := am_okk_of (by decide +kernel)
theorem okk_X5_allNumbers : am_okk m_X5_allNumbers := am_okk_of (by decide +kernel)
theorem okk_X5_told : am_okk m_X5_told := am_okk_of (by decide +kernel)
theorem okk_J6_bitCount_0f7a4 : am_okk m_J6_bitCount_0f7a4 := am_okk_of (by decide +kernel)
theorem okk_J0_length_8abf5 : am_okk m_J0_length_8abf5 := am_okk_of (by decide +kernel)
theorem okk_J0_charAt_5068e : am_okk m_J0_charAt_5068e := am_okk_of (by decide +kernel)
theorem okk_J0_coder_7d493 : am_okk m_J0_coder_7d493 := am_okk_of (by decide +kernel)
theorem okk_J0_isLatin1_aae02 : am_okk m_J0_isLatin1_aae02 := am_okk_of (by decide +kernel)
theorem okk_J0_checkIndex_df160 : am_okk m_J0_checkIndex_df160 := am_okk_of (by decide +kernel)
theorem okk_J1_charAt_3b067 : am_okk m_J1_charAt_3b067 := am_okk_of (by decide +kernel)
theorem okk_J7_fill_53178 : am_okk m_J7_fill_53178 := am_okk_of (by decide +kernel)
theorem okk_J3_checkIndex_8e157 : am_okk m_J3_checkIndex_8e157 := am_okk_of (by decide +kernel)
end
section
/-! THE TABLES ARE RIGHT: the law -/
def am_okP (k c : Nat) : Bool := (((tm_k k).drop (50 * c)).take 50).all (fun q => decide (decode (tm_b k) q.1 = .ok (q.2.1, q.2.2.1)) && am_ck k q)
theorem am_okk_ofP {k n : Nat} (hn : (tm_k k).length ≤ 50 * n) (h : ∀ c, c < n → am_okP k c = true) : am_okk k := by
  intro q hq
  obtain ⟨i, hi⟩ := List.getElem?_of_mem hq
  have hl : i < (tm_k k).length := (List.getElem?_eq_some_iff.mp hi).1
  have h1 := h (i / 50) (by omega)
  have hm : q ∈ ((tm_k k).drop (50 * (i / 50))).take 50 := by
    refine List.mem_of_getElem? (i := i % 50) ?_
    rw [List.getElem?_take_of_lt (by omega), List.getElem?_drop, show 50 * (i / 50) + i % 50 = i by omega]
    exact hi
  have h2 := List.all_eq_true.mp h1 q hm
  obtain ⟨q1, q2⟩ := am_and h2
  exact ⟨of_decide_eq_true q1, q2⟩
theorem okL_0 : am_okP m_L_law 0 = true := by decide +kernel
theorem okL_1 : am_okP m_L_law 1 = true := by decide +kernel
theorem okL_2 : am_okP m_L_law 2 = true := by decide +kernel
end
section
/-! THE TABLES ARE RIGHT: the law, on -/
theorem okL_3 : am_okP m_L_law 3 = true := by decide +kernel
theorem okL_4 : am_okP m_L_law 4 = true := by decide +kernel
theorem okL_5 : am_okP m_L_law 5 = true := by decide +kernel
end
section
/-! THE TABLES ARE RIGHT: the law, on -/
theorem okL_6 : am_okP m_L_law 6 = true := by decide +kernel
theorem okL_7 : am_okP m_L_law 7 = true := by decide +kernel
theorem okL_8 : am_okP m_L_law 8 = true := by decide +kernel
end
section
/-! THE TABLES ARE RIGHT: the law, on -/
theorem okL_9 : am_okP m_L_law 9 = true := by decide +kernel
theorem okL_10 : am_okP m_L_law 10 = true := by decide +kernel
theorem okk_L_law : am_okk m_L_law := am_okk_ofP (n := 11) (by decide +kernel) (fun c hc => by
  have h : c = 0 ∨ c = 1 ∨ c = 2 ∨ c = 3 ∨ c = 4 ∨ c = 5 ∨ c = 6 ∨ c = 7 ∨ c = 8 ∨ c = 9 ∨ c = 10 := by omega
  rcases h with rfl | rfl | rfl | rfl | rfl | rfl | rfl | rfl | rfl | rfl | rfl
  · exact okL_0
  · exact okL_1
  · exact okL_2
  · exact okL_3
  · exact okL_4
  · exact okL_5
  · exact okL_6
  · exact okL_7
  · exact okL_8
  · exact okL_9
  · exact okL_10)
end
section
/-! CHUNKS: what the abstract machine asks at each place where a chunk begins (by program); the entries of the methods -/
theorem en_X0_init {L : Nat} {xs : Nat → Int32} {h h' : am_H} {this : Nat} (e1 : h'.1 = h.1 + 6) (e2 : h'.2.1 = h.2.1 + 45) (hw : am_wa L xs m_X0_init h none h' 0 [.ref this] [] h) : am_ok L xs m_X0_init [.ref this] h none h' := am_ok_of (ls := [.ref this]) mk_X0_init.2.1 mk_X0_init.2.2 ⟨fun _ => rfl, fun _ => rfl⟩ (fun _ => rfl) ⟨fun z => absurd z (by decide +kernel), fun _ => ⟨this, _, rfl⟩⟩ e1 e2 (fun _ _ => ⟨Nat.le_of_ble_eq_true rfl, fun _ hq => hq⟩) hw
set_option maxRecDepth 100000 in
theorem ch_X0_init_0 {L : Nat} {xs : Nat → Int32} {hA hE h : am_H} {r : Option Int32} {this : Nat} (H : ((¬ ((8 : Int32) : Int32) < 0) ∧ (Int32.toNatClampNeg (8 : Int32)) ≤ 1000) ∧ am_Al m_X0_init hA h 1 (Int32.toNatClampNeg (8 : Int32)) ∧ am_b (am_pF (am_push h (Int32.toNatClampNeg (8 : Int32)) (.inl (am_aty 0, (Int32.toNatClampNeg (8 : Int32)), .inl (fun _ => 0)))) this 0 5 (.ref (Prod.fst h))) (fun h1 => ((¬ ((8 : Int32) : Int32) < 0) ∧ (Int32.toNatClampNeg (8 : Int32)) ≤ 1000) ∧ am_Al m_X0_init hA h1 1 (Int32.toNatClampNeg (8 : Int32)) ∧ am_b (am_pF (am_push h1 (Int32.toNatClampNeg (8 : Int32)) (.inl (am_aty 0, (Int32.toNatClampNeg (8 : Int32)), .inl (fun _ => 0)))) this 0 6 (.ref (Prod.fst h1))) (fun h2 => ((¬ ((8 : Int32) : Int32) < 0) ∧ (Int32.toNatClampNeg (8 : Int32)) ≤ 1000) ∧ am_Al m_X0_init hA h2 1 (Int32.toNatClampNeg (8 : Int32)) ∧ am_b (am_pF (am_push h2 (Int32.toNatClampNeg (8 : Int32)) (.inl (am_aty 0, (Int32.toNatClampNeg (8 : Int32)), .inl (fun _ => 0)))) this 0 7 (.ref (Prod.fst h2))) (fun h3 => ((¬ ((8 : Int32) : Int32) < 0) ∧ (Int32.toNatClampNeg (8 : Int32)) ≤ 1000) ∧ am_Al m_X0_init hA h3 1 (Int32.toNatClampNeg (8 : Int32)) ∧ am_b (am_pF (am_push h3 (Int32.toNatClampNeg (8 : Int32)) (.inl (am_aty 0, (Int32.toNatClampNeg (8 : Int32)), .inl (fun _ => 0)))) this 0 8 (.ref (Prod.fst h3))) (fun h4 => ((¬ ((5 : Int32) : Int32) < 0) ∧ (Int32.toNatClampNeg (5 : Int32)) ≤ 1000) ∧ am_Al m_X0_init hA h4 1 (Int32.toNatClampNeg (5 : Int32)) ∧ am_b (am_pF (am_push h4 (Int32.toNatClampNeg (5 : Int32)) (.inl (am_aty 0, (Int32.toNatClampNeg (5 : Int32)), .inl (fun _ => 0)))) this 0 9 (.ref (Prod.fst h4))) (fun h5 => ((¬ ((8 : Int32) : Int32) < 0) ∧ (Int32.toNatClampNeg (8 : Int32)) ≤ 1000) ∧ am_Al m_X0_init hA h5 1 (Int32.toNatClampNeg (8 : Int32)) ∧ am_b (am_pF (am_push h5 (Int32.toNatClampNeg (8 : Int32)) (.inl (am_aty 0, (Int32.toNatClampNeg (8 : Int32)), .inl (fun _ => 0)))) this 0 10 (.ref (Prod.fst h5))) (fun h6 => none = r ∧ h6 = hE))))))) : am_wa L xs m_X0_init hA r hE 0 [.ref this] [] h := am_chunk am_mk_all okk_X0_init [] 28 _ _ _ _ H
theorem en_X0_begin {L : Nat} {xs : Nat → Int32} {h h' : am_H} {this : Nat} {a b c d : Int32} (hre : am_cls h this = some 0) (e1 : h'.1 = h.1) (e2 : h'.2.1 = h.2.1) (hw : am_wa L xs m_X0_begin h none h' 0 [.ref this, .int a, .int b, .int c, .int d] [] h) : am_ok L xs m_X0_begin [.ref this, .int a, .int b, .int c, .int d] h none h' := am_ok_of (ls := [.ref this, .int a, .int b, .int c, .int d]) mk_X0_begin.2.1 mk_X0_begin.2.2 ⟨fun _ => rfl, fun _ => rfl⟩ (fun z => absurd z (by decide +kernel)) ⟨fun _ => ⟨this, _, rfl, Or.inl hre⟩, fun z => absurd z (by decide +kernel)⟩ e1 e2 (fun _ _ => ⟨Nat.le_of_ble_eq_true rfl, fun _ hq => hq⟩) hw
set_option maxRecDepth 100000 in
theorem ch_X0_begin_0 {L : Nat} {xs : Nat → Int32} {hA hE h : am_H} {r : Option Int32} {this : Nat} {a b c d : Int32} (H : am_b (am_pF h this 0 0 (.int a)) (fun h1 => am_b (am_pF h1 this 0 1 (.int b)) (fun h2 => am_b (am_pF h2 this 0 2 (.int c)) (fun h3 => am_b (am_pF h3 this 0 3 (.int d)) (fun h4 => am_b (am_gR h4 this 0 5) (fun a5 => ∃ h6, am_ok L xs m_J7_fill_53178 [.ref a5, .int (1 : Int32)] h4 none h6 ∧ am_b (am_gR h6 this 0 6) (fun a7 => ∃ h8, am_ok L xs m_J7_fill_53178 [.ref a7, .int (8 : Int32)] h6 none h8 ∧ am_b (am_gR h8 this 0 7) (fun a9 => ∃ h10, am_ok L xs m_J7_fill_53178 [.ref a9, .int (0 : Int32)] h8 none h10 ∧ none = r ∧ h10 = hE)))))))) : am_wa L xs m_X0_begin hA r hE 0 [.ref this, .int a, .int b, .int c, .int d] [] h := am_chunk am_mk_all okk_X0_begin [] 26 _ _ _ _ H
theorem en_X0_forgetCycles {L : Nat} {xs : Nat → Int32} {h h' : am_H} {this : Nat} (hre : am_cls h this = some 0) (e1 : h'.1 = h.1) (e2 : h'.2.1 = h.2.1) (hw : am_wa L xs m_X0_forgetCycles h none h' 0 [.ref this] [] h) : am_ok L xs m_X0_forgetCycles [.ref this] h none h' := am_ok_of (ls := [.ref this]) mk_X0_forgetCycles.2.1 mk_X0_forgetCycles.2.2 ⟨fun _ => rfl, fun _ => rfl⟩ (fun z => absurd z (by decide +kernel)) ⟨fun _ => ⟨this, _, rfl, Or.inl hre⟩, fun z => absurd z (by decide +kernel)⟩ e1 e2 (fun _ _ => ⟨Nat.le_of_ble_eq_true rfl, fun _ hq => hq⟩) hw
set_option maxRecDepth 100000 in
theorem ch_X0_forgetCycles_0 {L : Nat} {xs : Nat → Int32} {hA hE h : am_H} {r : Option Int32} {this : Nat} (H : (((0 : Int32) : Int32) = 0 ∨ ((0 : Int32) : Int32) = 1) ∧ am_b (am_pF h this 0 4 (.int (0 : Int32))) (fun h1 => am_b (am_gR h1 this 0 8) (fun a2 => ∃ h3, am_ok L xs m_J7_fill_53178 [.ref a2, .int (0 : Int32)] h1 none h3 ∧ none = r ∧ h3 = hE))) : am_wa L xs m_X0_forgetCycles hA r hE 0 [.ref this] [] h := am_chunk am_mk_all okk_X0_forgetCycles [] 9 _ _ _ _ H
theorem en_X0_copyFrom {L : Nat} {xs : Nat → Int32} {h h' : am_H} {this a : Nat} (hre : am_cls h this = some 0) (e1 : h'.1 = h.1) (e2 : h'.2.1 = h.2.1) (hw : am_wa L xs m_X0_copyFrom h none h' 0 [.ref this, .ref a] [] h) : am_ok L xs m_X0_copyFrom [.ref this, .ref a] h none h' := am_ok_of (ls := [.ref this, .ref a]) mk_X0_copyFrom.2.1 mk_X0_copyFrom.2.2 ⟨fun _ => rfl, fun _ => rfl⟩ (fun z => absurd z (by decide +kernel)) ⟨fun _ => ⟨this, _, rfl, Or.inl hre⟩, fun z => absurd z (by decide +kernel)⟩ e1 e2 (fun _ _ => ⟨Nat.le_of_ble_eq_true rfl, fun _ hq => hq⟩) hw
set_option maxRecDepth 100000 in
theorem ch_X0_copyFrom_0 {L : Nat} {xs : Nat → Int32} {hA hE h : am_H} {r : Option Int32} {this a : Nat} (H : am_b (am_gI h a 0 0) (fun x1 => am_b (am_pF h this 0 0 (.int x1)) (fun h2 => am_b (am_gI h2 a 0 1) (fun x3 => am_b (am_pF h2 this 0 1 (.int x3)) (fun h4 => am_b (am_gI h4 a 0 2) (fun x5 => am_b (am_pF h4 this 0 2 (.int x5)) (fun h6 => am_b (am_gI h6 a 0 3) (fun x7 => am_b (am_pF h6 this 0 3 (.int x7)) (fun h8 => am_b (am_gI h8 a 0 4) (fun x9 => ((x9 : Int32) = 0 ∨ (x9 : Int32) = 1) ∧ am_b (am_pF h8 this 0 4 (.int x9)) (fun h10 => am_b (am_gR h10 a 0 5) (fun a11 => am_b (am_gR h10 this 0 5) (fun a12 => am_b (am_cp h10 a11 (0 : Int32) a12 (0 : Int32) (8 : Int32)) (fun h13 => am_b (am_gR h13 a 0 6) (fun a14 => am_b (am_gR h13 this 0 6) (fun a15 => am_b (am_cp h13 a14 (0 : Int32) a15 (0 : Int32) (8 : Int32)) (fun h16 => am_b (am_gR h16 a 0 7) (fun a17 => am_b (am_gR h16 this 0 7) (fun a18 => am_b (am_cp h16 a17 (0 : Int32) a18 (0 : Int32) (8 : Int32)) (fun h19 => am_b (am_gR h19 a 0 8) (fun a20 => am_b (am_gR h19 this 0 8) (fun a21 => am_b (am_cp h19 a20 (0 : Int32) a21 (0 : Int32) (8 : Int32)) (fun h22 => am_b (am_gR h22 a 0 9) (fun a23 => am_b (am_gR h22 this 0 9) (fun a24 => am_b (am_cp h22 a23 (0 : Int32) a24 (0 : Int32) (5 : Int32)) (fun h25 => none = r ∧ h25 = hE)))))))))))))))))))))))))) : am_wa L xs m_X0_copyFrom hA r hE 0 [.ref this, .ref a] [] h := am_chunk am_mk_all okk_X0_copyFrom [] 62 _ _ _ _ H
theorem en_X0_isStation {L : Nat} {xs : Nat → Int32} {h h' : am_H} {r : Int32} {this : Nat} {a : Int32} (hre : am_cls h this = some 0) (e1 : h'.1 = h.1) (e2 : h'.2.1 = h.2.1) (hw : am_wa L xs m_X0_isStation h (some r) h' 0 [.ref this, .int a] [] h) : am_ok L xs m_X0_isStation [.ref this, .int a] h (some r) h' := am_ok_of (ls := [.ref this, .int a]) mk_X0_isStation.2.1 mk_X0_isStation.2.2 ⟨fun z => (by cases z), fun z => absurd z (by decide +kernel)⟩ (fun z => absurd z (by decide +kernel)) ⟨fun _ => ⟨this, _, rfl, Or.inl hre⟩, fun z => absurd z (by decide +kernel)⟩ e1 e2 (fun _ _ => ⟨Nat.le_of_ble_eq_true rfl, fun _ hq => hq⟩) hw
set_option maxRecDepth 100000 in
theorem ch_X0_isStation_0 {L : Nat} {xs : Nat → Int32} {hA hE h : am_H} {r : Option Int32} {this : Nat} {a : Int32} (H : (if (a : Int32) < 0 then am_fit .boolean (0 : Int32) ∧ some (0 : Int32) = r ∧ h = hE else am_b (am_gI h this 0 0) (fun x1 => (if (a : Int32) < x1 then am_fit .boolean (1 : Int32) ∧ some (1 : Int32) = r ∧ h = hE else am_fit .boolean (0 : Int32) ∧ some (0 : Int32) = r ∧ h = hE)))) : am_wa L xs m_X0_isStation hA r hE 0 [.ref this, .int a] [] h := am_chunk am_mk_all okk_X0_isStation [] 10 _ _ _ _ H
theorem en_X0_isSlot {L : Nat} {xs : Nat → Int32} {h h' : am_H} {r : Int32} {this : Nat} {a : Int32} (hre : am_cls h this = some 0) (e1 : h'.1 = h.1) (e2 : h'.2.1 = h.2.1) (hw : am_wa L xs m_X0_isSlot h (some r) h' 0 [.ref this, .int a] [] h) : am_ok L xs m_X0_isSlot [.ref this, .int a] h (some r) h' := am_ok_of (ls := [.ref this, .int a]) mk_X0_isSlot.2.1 mk_X0_isSlot.2.2 ⟨fun z => (by cases z), fun z => absurd z (by decide +kernel)⟩ (fun z => absurd z (by decide +kernel)) ⟨fun _ => ⟨this, _, rfl, Or.inl hre⟩, fun z => absurd z (by decide +kernel)⟩ e1 e2 (fun _ _ => ⟨Nat.le_of_ble_eq_true rfl, fun _ hq => hq⟩) hw
set_option maxRecDepth 100000 in
theorem ch_X0_isSlot_0 {L : Nat} {xs : Nat → Int32} {hA hE h : am_H} {r : Option Int32} {this : Nat} {a : Int32} (H : (if (a : Int32) < 0 then am_fit .boolean (0 : Int32) ∧ some (0 : Int32) = r ∧ h = hE else am_b (am_gI h this 0 1) (fun x1 => (if (a : Int32) < x1 then am_fit .boolean (1 : Int32) ∧ some (1 : Int32) = r ∧ h = hE else am_fit .boolean (0 : Int32) ∧ some (0 : Int32) = r ∧ h = hE)))) : am_wa L xs m_X0_isSlot hA r hE 0 [.ref this, .int a] [] h := am_chunk am_mk_all okk_X0_isSlot [] 10 _ _ _ _ H
theorem en_X0_isPair {L : Nat} {xs : Nat → Int32} {h h' : am_H} {r : Int32} {this : Nat} {a b : Int32} (hre : am_cls h this = some 0) (e1 : h'.1 = h.1) (e2 : h'.2.1 = h.2.1) (hw : am_wa L xs m_X0_isPair h (some r) h' 0 [.ref this, .int a, .int b] [] h) : am_ok L xs m_X0_isPair [.ref this, .int a, .int b] h (some r) h' := am_ok_of (ls := [.ref this, .int a, .int b]) mk_X0_isPair.2.1 mk_X0_isPair.2.2 ⟨fun z => (by cases z), fun z => absurd z (by decide +kernel)⟩ (fun z => absurd z (by decide +kernel)) ⟨fun _ => ⟨this, _, rfl, Or.inl hre⟩, fun z => absurd z (by decide +kernel)⟩ e1 e2 (fun _ _ => ⟨Nat.le_of_ble_eq_true rfl, fun _ hq => hq⟩) hw
set_option maxRecDepth 100000 in
theorem ch_X0_isPair_0 {L : Nat} {xs : Nat → Int32} {hA hE h : am_H} {r : Option Int32} {this : Nat} {a b : Int32} (H : ∃ (x2 : Int32) (h1 : am_H), am_ok L xs m_X0_isStation [.ref this, .int a] h (some x2) h1 ∧ (if (x2 : Int32) = 0 then am_fit .boolean (0 : Int32) ∧ some (0 : Int32) = r ∧ h1 = hE else ∃ (x4 : Int32) (h3 : am_H), am_ok L xs m_X0_isStation [.ref this, .int b] h1 (some x4) h3 ∧ (if (x4 : Int32) = 0 then am_fit .boolean (0 : Int32) ∧ some (0 : Int32) = r ∧ h3 = hE else (if (a : Int32) = b then am_fit .boolean (0 : Int32) ∧ some (0 : Int32) = r ∧ h3 = hE else am_fit .boolean (1 : Int32) ∧ some (1 : Int32) = r ∧ h3 = hE)))) : am_wa L xs m_X0_isPair hA r hE 0 [.ref this, .int a, .int b] [] h := am_chunk am_mk_all okk_X0_isPair [] 15 _ _ _ _ H
theorem en_X0_link {L : Nat} {xs : Nat → Int32} {h h' : am_H} {this : Nat} {a b : Int32} (hre : am_cls h this = some 0) (e1 : h'.1 = h.1) (e2 : h'.2.1 = h.2.1) (hw : am_wa L xs m_X0_link h none h' 0 [.ref this, .int a, .int b] [] h) : am_ok L xs m_X0_link [.ref this, .int a, .int b] h none h' := am_ok_of (ls := [.ref this, .int a, .int b]) mk_X0_link.2.1 mk_X0_link.2.2 ⟨fun _ => rfl, fun _ => rfl⟩ (fun z => absurd z (by decide +kernel)) ⟨fun _ => ⟨this, _, rfl, Or.inl hre⟩, fun z => absurd z (by decide +kernel)⟩ e1 e2 (fun _ _ => ⟨Nat.le_of_ble_eq_true rfl, fun _ hq => hq⟩) hw
set_option maxRecDepth 100000 in
theorem ch_X0_link_0 {L : Nat} {xs : Nat → Int32} {hA hE h : am_H} {r : Option Int32} {this : Nat} {a b : Int32} (H : am_b (am_gR h this 0 7) (fun a1 => am_b (am_lI h .int a1 a) (fun x2 => am_b (am_sI h .int a1 a (x2 ||| ((1 : Int32) <<< (b &&& 31)))) (fun h3 => am_b (am_gR h3 this 0 7) (fun a4 => am_b (am_lI h3 .int a4 b) (fun x5 => am_b (am_sI h3 .int a4 b (x5 ||| ((1 : Int32) <<< (a &&& 31)))) (fun h6 => none = r ∧ h6 = hE))))))) : am_wa L xs m_X0_link hA r hE 0 [.ref this, .int a, .int b] [] h := am_chunk am_mk_all okk_X0_link [] 22 _ _ _ _ H
theorem en_X0_cut {L : Nat} {xs : Nat → Int32} {h h' : am_H} {this : Nat} {a b : Int32} (hre : am_cls h this = some 0) (e1 : h'.1 = h.1) (e2 : h'.2.1 = h.2.1) (hw : am_wa L xs m_X0_cut h none h' 0 [.ref this, .int a, .int b] [] h) : am_ok L xs m_X0_cut [.ref this, .int a, .int b] h none h' := am_ok_of (ls := [.ref this, .int a, .int b]) mk_X0_cut.2.1 mk_X0_cut.2.2 ⟨fun _ => rfl, fun _ => rfl⟩ (fun z => absurd z (by decide +kernel)) ⟨fun _ => ⟨this, _, rfl, Or.inl hre⟩, fun z => absurd z (by decide +kernel)⟩ e1 e2 (fun _ _ => ⟨Nat.le_of_ble_eq_true rfl, fun _ hq => hq⟩) hw
set_option maxRecDepth 100000 in
theorem ch_X0_cut_0 {L : Nat} {xs : Nat → Int32} {hA hE h : am_H} {r : Option Int32} {this : Nat} {a b : Int32} (H : am_b (am_gR h this 0 7) (fun a1 => am_b (am_lI h .int a1 a) (fun x2 => am_b (am_sI h .int a1 a (x2 &&& (((1 : Int32) <<< (b &&& 31)) ^^^ (-1 : Int32)))) (fun h3 => am_b (am_gR h3 this 0 7) (fun a4 => am_b (am_lI h3 .int a4 b) (fun x5 => am_b (am_sI h3 .int a4 b (x5 &&& (((1 : Int32) <<< (a &&& 31)) ^^^ (-1 : Int32)))) (fun h6 => none = r ∧ h6 = hE))))))) : am_wa L xs m_X0_cut hA r hE 0 [.ref this, .int a, .int b] [] h := am_chunk am_mk_all okk_X0_cut [] 26 _ _ _ _ H
theorem en_X0_linkCount {L : Nat} {xs : Nat → Int32} {h h' : am_H} {r : Int32} {this : Nat} (hre : am_cls h this = some 0) (e1 : h'.1 = h.1) (e2 : h'.2.1 = h.2.1) (hw : am_wa L xs m_X0_linkCount h (some r) h' 0 [.ref this, .null, .null] [] h) : am_ok L xs m_X0_linkCount [.ref this] h (some r) h' := am_ok_of (ls := [.ref this, .null, .null]) mk_X0_linkCount.2.1 mk_X0_linkCount.2.2 ⟨fun z => (by cases z), fun z => absurd z (by decide +kernel)⟩ (fun z => absurd z (by decide +kernel)) ⟨fun _ => ⟨this, _, rfl, Or.inl hre⟩, fun z => absurd z (by decide +kernel)⟩ e1 e2 (fun _ _ => ⟨Nat.le_of_ble_eq_true rfl, fun _ hq => hq⟩) hw
set_option maxRecDepth 100000 in
theorem ch_X0_linkCount_0 {L : Nat} {xs : Nat → Int32} {hA hE h : am_H} {r : Option Int32} {this : Nat} (H : am_wa L xs m_X0_linkCount hA r hE 4 [.ref this, .int (0 : Int32), .int (0 : Int32)] [] h) : am_wa L xs m_X0_linkCount hA r hE 0 [.ref this, .null, .null] [] h := am_chunk am_mk_all okk_X0_linkCount [(4, [0, 1, 2])] 6 _ _ _ _ H
set_option maxRecDepth 100000 in
theorem ch_X0_linkCount_4 {L : Nat} {xs : Nat → Int32} {hA hE h : am_H} {r : Option Int32} {l0 : Nat} {l1 l2 : Int32} (H : am_b (am_gI h l0 0 0) (fun x1 => (if (l2 : Int32) < x1 then am_b (am_gR h l0 0 7) (fun a2 => am_b (am_lI h .int a2 l2) (fun x3 => ∃ (x5 : Int32) (h4 : am_H), am_ok L xs m_J6_bitCount_0f7a4 [.int x3] h (some x5) h4 ∧ am_wa L xs m_X0_linkCount hA r hE 4 [.ref l0, .int (l1 + x5), .int (l2 + (1 : Int32))] [] h4)) else (¬ ((2 : Int32) : Int32) = 0) ∧ am_fit .int (l1 / (2 : Int32)) ∧ some (l1 / (2 : Int32)) = r ∧ h = hE))) : am_wa L xs m_X0_linkCount hA r hE 4 [.ref l0, .int l1, .int l2] [] h := am_chunk am_mk_all okk_X0_linkCount [(4, [0, 1, 2])] 16 _ _ _ _ H
theorem en_X0_near {L : Nat} {xs : Nat → Int32} {h h' : am_H} {r : Int32} {this : Nat} {a : Int32} (hre : am_cls h this = some 0) (e1 : h'.1 = h.1) (e2 : h'.2.1 = h.2.1) (hw : am_wa L xs m_X0_near h (some r) h' 0 [.ref this, .int a, .null, .null] [] h) : am_ok L xs m_X0_near [.ref this, .int a] h (some r) h' := am_ok_of (ls := [.ref this, .int a, .null, .null]) mk_X0_near.2.1 mk_X0_near.2.2 ⟨fun z => (by cases z), fun z => absurd z (by decide +kernel)⟩ (fun z => absurd z (by decide +kernel)) ⟨fun _ => ⟨this, _, rfl, Or.inl hre⟩, fun z => absurd z (by decide +kernel)⟩ e1 e2 (fun _ _ => ⟨Nat.le_of_ble_eq_true rfl, fun _ hq => hq⟩) hw
set_option maxRecDepth 100000 in
theorem ch_X0_near_0 {L : Nat} {xs : Nat → Int32} {hA hE h : am_H} {r : Option Int32} {this : Nat} {a : Int32} (H : am_b (am_gR h this 0 7) (fun a1 => am_b (am_lI h .int a1 a) (fun x2 => am_wa L xs m_X0_near hA r hE 9 [.ref this, .int a, .int x2, .int (0 : Int32)] [] h))) : am_wa L xs m_X0_near hA r hE 0 [.ref this, .int a, .null, .null] [] h := am_chunk am_mk_all okk_X0_near [(9, [0, 1, 2, 3])] 9 _ _ _ _ H
set_option maxRecDepth 100000 in
theorem ch_X0_near_9 {L : Nat} {xs : Nat → Int32} {hA hE h : am_H} {r : Option Int32} {l0 : Nat} {l1 l2 l3 : Int32} (H : am_b (am_gI h l0 0 0) (fun x1 => (if (l3 : Int32) < x1 then am_b (am_gR h l0 0 7) (fun a2 => am_b (am_lI h .int a2 l1) (fun x3 => ∃ (x5 : Int32) (h4 : am_H), am_ok L xs m_X4_has [.int x3, .int l3] h (some x5) h4 ∧ (if (x5 : Int32) = 0 then am_wa L xs m_X0_near hA r hE 9 [.ref l0, .int l1, .int l2, .int (l3 + (1 : Int32))] [] h4 else am_b (am_gR h4 l0 0 7) (fun a6 => am_b (am_lI h4 .int a6 l3) (fun x7 => am_wa L xs m_X0_near hA r hE 9 [.ref l0, .int l1, .int (l2 ||| x7), .int (l3 + (1 : Int32))] [] h4))))) else am_fit .int (l2 &&& (((1 : Int32) <<< (l1 &&& 31)) ^^^ (-1 : Int32))) ∧ some (l2 &&& (((1 : Int32) <<< (l1 &&& 31)) ^^^ (-1 : Int32))) = r ∧ h = hE))) : am_wa L xs m_X0_near hA r hE 9 [.ref l0, .int l1, .int l2, .int l3] [] h := am_chunk am_mk_all okk_X0_near [(9, [0, 1, 2, 3])] 22 _ _ _ _ H
theorem en_X0_hearing {L : Nat} {xs : Nat → Int32} {h h' : am_H} {r : Int32} {this : Nat} {a b : Int32} (hre : am_cls h this = some 0) (e1 : h'.1 = h.1) (e2 : h'.2.1 = h.2.1) (hw : am_wa L xs m_X0_hearing h (some r) h' 0 [.ref this, .int a, .int b, .null, .null] [] h) : am_ok L xs m_X0_hearing [.ref this, .int a, .int b] h (some r) h' := am_ok_of (ls := [.ref this, .int a, .int b, .null, .null]) mk_X0_hearing.2.1 mk_X0_hearing.2.2 ⟨fun z => (by cases z), fun z => absurd z (by decide +kernel)⟩ (fun z => absurd z (by decide +kernel)) ⟨fun _ => ⟨this, _, rfl, Or.inl hre⟩, fun z => absurd z (by decide +kernel)⟩ e1 e2 (fun _ _ => ⟨Nat.le_of_ble_eq_true rfl, fun _ hq => hq⟩) hw
set_option maxRecDepth 100000 in
theorem ch_X0_hearing_0 {L : Nat} {xs : Nat → Int32} {hA hE h : am_H} {r : Option Int32} {this : Nat} {a b : Int32} (H : am_wa L xs m_X0_hearing hA r hE 5 [.ref this, .int a, .int b, .int (0 : Int32), .int (0 : Int32)] [] h) : am_wa L xs m_X0_hearing hA r hE 0 [.ref this, .int a, .int b, .null, .null] [] h := am_chunk am_mk_all okk_X0_hearing [(5, [0, 1, 2, 3, 4])] 6 _ _ _ _ H
set_option maxRecDepth 100000 in
theorem ch_X0_hearing_5 {L : Nat} {xs : Nat → Int32} {hA hE h : am_H} {r : Option Int32} {l0 : Nat} {l1 l2 l3 l4 : Int32} (H : am_b (am_gI h l0 0 0) (fun x1 => (if (l4 : Int32) < x1 then am_b (am_gR h l0 0 7) (fun a2 => am_b (am_lI h .int a2 l4) (fun x3 => ∃ (x5 : Int32) (h4 : am_H), am_ok L xs m_J6_bitCount_0f7a4 [.int (x3 &&& l1)] h (some x5) h4 ∧ (if (x5 : Int32) < l2 then am_wa L xs m_X0_hearing hA r hE 5 [.ref l0, .int l1, .int l2, .int l3, .int (l4 + (1 : Int32))] [] h4 else am_wa L xs m_X0_hearing hA r hE 5 [.ref l0, .int l1, .int l2, .int (l3 ||| ((1 : Int32) <<< (l4 &&& 31))), .int (l4 + (1 : Int32))] [] h4))) else am_fit .int l3 ∧ some l3 = r ∧ h = hE))) : am_wa L xs m_X0_hearing hA r hE 5 [.ref l0, .int l1, .int l2, .int l3, .int l4] [] h := am_chunk am_mk_all okk_X0_hearing [(5, [0, 1, 2, 3, 4])] 23 _ _ _ _ H
theorem en_X0_nearToAny {L : Nat} {xs : Nat → Int32} {h h' : am_H} {r : Int32} {this : Nat} {a : Int32} (hre : am_cls h this = some 0) (e1 : h'.1 = h.1) (e2 : h'.2.1 = h.2.1) (hw : am_wa L xs m_X0_nearToAny h (some r) h' 0 [.ref this, .int a, .null, .null] [] h) : am_ok L xs m_X0_nearToAny [.ref this, .int a] h (some r) h' := am_ok_of (ls := [.ref this, .int a, .null, .null]) mk_X0_nearToAny.2.1 mk_X0_nearToAny.2.2 ⟨fun z => (by cases z), fun z => absurd z (by decide +kernel)⟩ (fun z => absurd z (by decide +kernel)) ⟨fun _ => ⟨this, _, rfl, Or.inl hre⟩, fun z => absurd z (by decide +kernel)⟩ e1 e2 (fun _ _ => ⟨Nat.le_of_ble_eq_true rfl, fun _ hq => hq⟩) hw
set_option maxRecDepth 100000 in
theorem ch_X0_nearToAny_0 {L : Nat} {xs : Nat → Int32} {hA hE h : am_H} {r : Option Int32} {this : Nat} {a : Int32} (H : am_wa L xs m_X0_nearToAny hA r hE 4 [.ref this, .int a, .int (0 : Int32), .int (0 : Int32)] [] h) : am_wa L xs m_X0_nearToAny hA r hE 0 [.ref this, .int a, .null, .null] [] h := am_chunk am_mk_all okk_X0_nearToAny [(4, [0, 1, 2, 3])] 6 _ _ _ _ H
set_option maxRecDepth 100000 in
theorem ch_X0_nearToAny_4 {L : Nat} {xs : Nat → Int32} {hA hE h : am_H} {r : Option Int32} {l0 : Nat} {l1 l2 l3 : Int32} (H : am_b (am_gI h l0 0 0) (fun x1 => (if (l3 : Int32) < x1 then ∃ (x3 : Int32) (h2 : am_H), am_ok L xs m_X0_near [.ref l0, .int l3] h (some x3) h2 ∧ (if ((x3 &&& l1) : Int32) = 0 then am_wa L xs m_X0_nearToAny hA r hE 4 [.ref l0, .int l1, .int l2, .int (l3 + (1 : Int32))] [] h2 else am_wa L xs m_X0_nearToAny hA r hE 4 [.ref l0, .int l1, .int (l2 ||| ((1 : Int32) <<< (l3 &&& 31))), .int (l3 + (1 : Int32))] [] h2) else am_fit .int l2 ∧ some l2 = r ∧ h = hE))) : am_wa L xs m_X0_nearToAny hA r hE 4 [.ref l0, .int l1, .int l2, .int l3] [] h := am_chunk am_mk_all okk_X0_nearToAny [(4, [0, 1, 2, 3])] 20 _ _ _ _ H
theorem en_X0_holders {L : Nat} {xs : Nat → Int32} {h h' : am_H} {r : Int32} {this : Nat} {a : Int32} (hre : am_cls h this = some 0) (e1 : h'.1 = h.1) (e2 : h'.2.1 = h.2.1) (hw : am_wa L xs m_X0_holders h (some r) h' 0 [.ref this, .int a, .null, .null] [] h) : am_ok L xs m_X0_holders [.ref this, .int a] h (some r) h' := am_ok_of (ls := [.ref this, .int a, .null, .null]) mk_X0_holders.2.1 mk_X0_holders.2.2 ⟨fun z => (by cases z), fun z => absurd z (by decide +kernel)⟩ (fun z => absurd z (by decide +kernel)) ⟨fun _ => ⟨this, _, rfl, Or.inl hre⟩, fun z => absurd z (by decide +kernel)⟩ e1 e2 (fun _ _ => ⟨Nat.le_of_ble_eq_true rfl, fun _ hq => hq⟩) hw
set_option maxRecDepth 100000 in
theorem ch_X0_holders_0 {L : Nat} {xs : Nat → Int32} {hA hE h : am_H} {r : Option Int32} {this : Nat} {a : Int32} (H : am_wa L xs m_X0_holders hA r hE 4 [.ref this, .int a, .int (0 : Int32), .int (0 : Int32)] [] h) : am_wa L xs m_X0_holders hA r hE 0 [.ref this, .int a, .null, .null] [] h := am_chunk am_mk_all okk_X0_holders [(4, [0, 1, 2, 3])] 6 _ _ _ _ H
set_option maxRecDepth 100000 in
theorem ch_X0_holders_4 {L : Nat} {xs : Nat → Int32} {hA hE h : am_H} {r : Option Int32} {l0 : Nat} {l1 l2 l3 : Int32} (H : am_b (am_gI h l0 0 0) (fun x1 => (if (l3 : Int32) < x1 then am_b (am_gR h l0 0 8) (fun a2 => am_b (am_lI h .int a2 l3) (fun x3 => ∃ (x5 : Int32) (h4 : am_H), am_ok L xs m_X4_has [.int x3, .int l1] h (some x5) h4 ∧ (if (x5 : Int32) = 0 then am_wa L xs m_X0_holders hA r hE 4 [.ref l0, .int l1, .int l2, .int (l3 + (1 : Int32))] [] h4 else am_wa L xs m_X0_holders hA r hE 4 [.ref l0, .int l1, .int (l2 ||| ((1 : Int32) <<< (l3 &&& 31))), .int (l3 + (1 : Int32))] [] h4))) else am_fit .int l2 ∧ some l2 = r ∧ h = hE))) : am_wa L xs m_X0_holders hA r hE 4 [.ref l0, .int l1, .int l2, .int l3] [] h := am_chunk am_mk_all okk_X0_holders [(4, [0, 1, 2, 3])] 21 _ _ _ _ H
theorem en_X0_covered {L : Nat} {xs : Nat → Int32} {h h' : am_H} {r : Int32} {this : Nat} (hre : am_cls h this = some 0) (e1 : h'.1 = h.1) (e2 : h'.2.1 = h.2.1) (hw : am_wa L xs m_X0_covered h (some r) h' 0 [.ref this, .null, .null] [] h) : am_ok L xs m_X0_covered [.ref this] h (some r) h' := am_ok_of (ls := [.ref this, .null, .null]) mk_X0_covered.2.1 mk_X0_covered.2.2 ⟨fun z => (by cases z), fun z => absurd z (by decide +kernel)⟩ (fun z => absurd z (by decide +kernel)) ⟨fun _ => ⟨this, _, rfl, Or.inl hre⟩, fun z => absurd z (by decide +kernel)⟩ e1 e2 (fun _ _ => ⟨Nat.le_of_ble_eq_true rfl, fun _ hq => hq⟩) hw
set_option maxRecDepth 100000 in
theorem ch_X0_covered_0 {L : Nat} {xs : Nat → Int32} {hA hE h : am_H} {r : Option Int32} {this : Nat} (H : am_wa L xs m_X0_covered hA r hE 4 [.ref this, .int (0 : Int32), .int (0 : Int32)] [] h) : am_wa L xs m_X0_covered hA r hE 0 [.ref this, .null, .null] [] h := am_chunk am_mk_all okk_X0_covered [(4, [0, 1, 2])] 6 _ _ _ _ H
set_option maxRecDepth 100000 in
theorem ch_X0_covered_4 {L : Nat} {xs : Nat → Int32} {hA hE h : am_H} {r : Option Int32} {l0 : Nat} {l1 l2 : Int32} (H : am_b (am_gI h l0 0 0) (fun x1 => (if (l2 : Int32) < x1 then am_b (am_gR h l0 0 8) (fun a2 => am_b (am_lI h .int a2 l2) (fun x3 => ∃ (x5 : Int32) (h4 : am_H), am_ok L xs m_J6_bitCount_0f7a4 [.int x3] h (some x5) h4 ∧ am_b (am_gR h4 l0 0 5) (fun a6 => am_b (am_lI h4 .int a6 l2) (fun x7 => (if (x5 : Int32) < x7 then am_wa L xs m_X0_covered hA r hE 4 [.ref l0, .int l1, .int (l2 + (1 : Int32))] [] h4 else am_wa L xs m_X0_covered hA r hE 4 [.ref l0, .int (l1 ||| ((1 : Int32) <<< (l2 &&& 31))), .int (l2 + (1 : Int32))] [] h4))))) else am_fit .int l1 ∧ some l1 = r ∧ h = hE))) : am_wa L xs m_X0_covered hA r hE 4 [.ref l0, .int l1, .int l2] [] h := am_chunk am_mk_all okk_X0_covered [(4, [0, 1, 2])] 24 _ _ _ _ H
theorem en_X0_isDone {L : Nat} {xs : Nat → Int32} {h h' : am_H} {r : Int32} {this : Nat} (hre : am_cls h this = some 0) (e1 : h'.1 = h.1) (e2 : h'.2.1 = h.2.1) (hw : am_wa L xs m_X0_isDone h (some r) h' 0 [.ref this] [] h) : am_ok L xs m_X0_isDone [.ref this] h (some r) h' := am_ok_of (ls := [.ref this]) mk_X0_isDone.2.1 mk_X0_isDone.2.2 ⟨fun z => (by cases z), fun z => absurd z (by decide +kernel)⟩ (fun z => absurd z (by decide +kernel)) ⟨fun _ => ⟨this, _, rfl, Or.inl hre⟩, fun z => absurd z (by decide +kernel)⟩ e1 e2 (fun _ _ => ⟨Nat.le_of_ble_eq_true rfl, fun _ hq => hq⟩) hw
set_option maxRecDepth 100000 in
theorem ch_X0_isDone_0 {L : Nat} {xs : Nat → Int32} {hA hE h : am_H} {r : Option Int32} {this : Nat} (H : ∃ (x2 : Int32) (h1 : am_H), am_ok L xs m_X0_covered [.ref this] h (some x2) h1 ∧ ∃ (x4 : Int32) (h3 : am_H), am_ok L xs m_J6_bitCount_0f7a4 [.int x2] h1 (some x4) h3 ∧ am_b (am_gI h3 this 0 0) (fun x5 => (if (x4 : Int32) = x5 then am_fit .boolean (1 : Int32) ∧ some (1 : Int32) = r ∧ h3 = hE else am_fit .boolean (0 : Int32) ∧ some (0 : Int32) = r ∧ h3 = hE))) : am_wa L xs m_X0_isDone hA r hE 0 [.ref this] [] h := am_chunk am_mk_all okk_X0_isDone [] 10 _ _ _ _ H
theorem en_X0_clashes {L : Nat} {xs : Nat → Int32} {h h' : am_H} {r : Int32} {this : Nat} (hre : am_cls h this = some 0) (e1 : h'.1 = h.1) (e2 : h'.2.1 = h.2.1) (hw : am_wa L xs m_X0_clashes h (some r) h' 0 [.ref this] [] h) : am_ok L xs m_X0_clashes [.ref this] h (some r) h' := am_ok_of (ls := [.ref this]) mk_X0_clashes.2.1 mk_X0_clashes.2.2 ⟨fun z => (by cases z), fun z => absurd z (by decide +kernel)⟩ (fun z => absurd z (by decide +kernel)) ⟨fun _ => ⟨this, _, rfl, Or.inl hre⟩, fun z => absurd z (by decide +kernel)⟩ e1 e2 (fun _ _ => ⟨Nat.le_of_ble_eq_true rfl, fun _ hq => hq⟩) hw
set_option maxRecDepth 100000 in
theorem ch_X0_clashes_0 {L : Nat} {xs : Nat → Int32} {hA hE h : am_H} {r : Option Int32} {this : Nat} (H : am_b (am_gI h this 0 1) (fun x1 => ∃ (x3 : Int32) (h2 : am_H), am_ok L xs m_X0_clashesBy [.ref this, .int (((1 : Int32) <<< (x1 &&& 31)) - (1 : Int32))] h (some x3) h2 ∧ am_fit .int x3 ∧ some x3 = r ∧ h2 = hE)) : am_wa L xs m_X0_clashes hA r hE 0 [.ref this] [] h := am_chunk am_mk_all okk_X0_clashes [] 10 _ _ _ _ H
theorem en_X0_clashesBy {L : Nat} {xs : Nat → Int32} {h h' : am_H} {r : Int32} {this : Nat} {a : Int32} (hre : am_cls h this = some 0) (e1 : h'.1 = h.1) (e2 : h'.2.1 = h.2.1) (hw : am_wa L xs m_X0_clashesBy h (some r) h' 0 [.ref this, .int a, .null, .null, .null, .null] [] h) : am_ok L xs m_X0_clashesBy [.ref this, .int a] h (some r) h' := am_ok_of (ls := [.ref this, .int a, .null, .null, .null, .null]) mk_X0_clashesBy.2.1 mk_X0_clashesBy.2.2 ⟨fun z => (by cases z), fun z => absurd z (by decide +kernel)⟩ (fun z => absurd z (by decide +kernel)) ⟨fun _ => ⟨this, _, rfl, Or.inl hre⟩, fun z => absurd z (by decide +kernel)⟩ e1 e2 (fun _ _ => ⟨Nat.le_of_ble_eq_true rfl, fun _ hq => hq⟩) hw
set_option maxRecDepth 100000 in
theorem ch_X0_clashesBy_0 {L : Nat} {xs : Nat → Int32} {hA hE h : am_H} {r : Option Int32} {this : Nat} {a : Int32} (H : am_wa L xs m_X0_clashesBy hA r hE 4 [.ref this, .int a, .int (0 : Int32), .int (0 : Int32), .null, .null] [] h) : am_wa L xs m_X0_clashesBy hA r hE 0 [.ref this, .int a, .null, .null, .null, .null] [] h := am_chunk am_mk_all okk_X0_clashesBy [(4, [0, 1, 2, 3]), (24, [0, 1, 2, 3, 4, 5])] 6 _ _ _ _ H
set_option maxRecDepth 100000 in
theorem ch_X0_clashesBy_4 {L : Nat} {xs : Nat → Int32} {hA hE h : am_H} {r : Option Int32} {l0 : Nat} {l1 l2 l3 : Int32} (H : am_b (am_gI h l0 0 0) (fun x1 => (if (l3 : Int32) < x1 then ∃ (x3 : Int32) (h2 : am_H), am_ok L xs m_X0_near [.ref l0, .int l3] h (some x3) h2 ∧ am_wa L xs m_X0_clashesBy hA r hE 24 [.ref l0, .int l1, .int l2, .int l3, .int x3, .int (l3 + (1 : Int32))] [] h2 else am_fit .int l2 ∧ some l2 = r ∧ h = hE))) : am_wa L xs m_X0_clashesBy hA r hE 4 [.ref l0, .int l1, .int l2, .int l3, .null, .null] [] h := am_chunk am_mk_all okk_X0_clashesBy [(4, [0, 1, 2, 3]), (24, [0, 1, 2, 3, 4, 5])] 14 _ _ _ _ H
set_option maxRecDepth 100000 in
theorem ch_X0_clashesBy_24 {L : Nat} {xs : Nat → Int32} {hA hE h : am_H} {r : Option Int32} {l0 : Nat} {l1 l2 l3 l4 l5 : Int32} (H : am_b (am_gI h l0 0 0) (fun x1 => (if (l5 : Int32) < x1 then ∃ (x3 : Int32) (h2 : am_H), am_ok L xs m_X4_has [.int l4, .int l5] h (some x3) h2 ∧ (if (x3 : Int32) = 0 then am_wa L xs m_X0_clashesBy hA r hE 24 [.ref l0, .int l1, .int l2, .int l3, .int l4, .int (l5 + (1 : Int32))] [] h2 else am_b (am_gR h2 l0 0 8) (fun a4 => am_b (am_lI h2 .int a4 l3) (fun x5 => am_b (am_gR h2 l0 0 8) (fun a6 => am_b (am_lI h2 .int a6 l5) (fun x7 => ∃ (x9 : Int32) (h8 : am_H), am_ok L xs m_J6_bitCount_0f7a4 [.int ((x5 &&& x7) &&& l1)] h2 (some x9) h8 ∧ am_wa L xs m_X0_clashesBy hA r hE 24 [.ref l0, .int l1, .int (l2 + x9), .int l3, .int l4, .int (l5 + (1 : Int32))] [] h8))))) else am_wa L xs m_X0_clashesBy hA r hE 4 [.ref l0, .int l1, .int l2, .int (l3 + (1 : Int32)), .null, .null] [] h))) : am_wa L xs m_X0_clashesBy hA r hE 24 [.ref l0, .int l1, .int l2, .int l3, .int l4, .int l5] [] h := am_chunk am_mk_all okk_X0_clashesBy [(4, [0, 1, 2, 3]), (24, [0, 1, 2, 3, 4, 5])] 27 _ _ _ _ H
theorem en_X0_contenders {L : Nat} {xs : Nat → Int32} {h h' : am_H} {r : Int32} {this : Nat} {a : Int32} (hre : am_cls h this = some 0) (e1 : h'.1 = h.1) (e2 : h'.2.1 = h.2.1) (hw : am_wa L xs m_X0_contenders h (some r) h' 0 [.ref this, .int a, .null] [] h) : am_ok L xs m_X0_contenders [.ref this, .int a] h (some r) h' := am_ok_of (ls := [.ref this, .int a, .null]) mk_X0_contenders.2.1 mk_X0_contenders.2.2 ⟨fun z => (by cases z), fun z => absurd z (by decide +kernel)⟩ (fun z => absurd z (by decide +kernel)) ⟨fun _ => ⟨this, _, rfl, Or.inl hre⟩, fun z => absurd z (by decide +kernel)⟩ e1 e2 (fun _ _ => ⟨Nat.le_of_ble_eq_true rfl, fun _ hq => hq⟩) hw
set_option maxRecDepth 100000 in
theorem ch_X0_contenders_0 {L : Nat} {xs : Nat → Int32} {hA hE h : am_H} {r : Option Int32} {this : Nat} {a : Int32} (H : ∃ (x2 : Int32) (h1 : am_H), am_ok L xs m_X0_holders [.ref this, .int a] h (some x2) h1 ∧ ∃ (x4 : Int32) (h3 : am_H), am_ok L xs m_X0_covered [.ref this] h1 (some x4) h3 ∧ ∃ (x6 : Int32) (h5 : am_H), am_ok L xs m_X0_nearToAny [.ref this, .int x2] h3 (some x6) h5 ∧ am_b (am_gI h5 this 0 0) (fun x7 => am_fit .int ((((x4 ||| x2) ||| x6) ^^^ (-1 : Int32)) &&& (((1 : Int32) <<< (x7 &&& 31)) - (1 : Int32))) ∧ some ((((x4 ||| x2) ||| x6) ^^^ (-1 : Int32)) &&& (((1 : Int32) <<< (x7 &&& 31)) - (1 : Int32))) = r ∧ h5 = hE)) : am_wa L xs m_X0_contenders hA r hE 0 [.ref this, .int a, .null] [] h := am_chunk am_mk_all okk_X0_contenders [] 23 _ _ _ _ H
theorem en_X0_runFrame {L : Nat} {xs : Nat → Int32} {h h' : am_H} {this : Nat} (hre : am_cls h this = some 0) (e1 : h'.1 = h.1) (e2 : h'.2.1 = h.2.1) (hw : am_wa L xs m_X0_runFrame h none h' 0 [.ref this, .null, .null] [] h) : am_ok L xs m_X0_runFrame [.ref this] h none h' := am_ok_of (ls := [.ref this, .null, .null]) mk_X0_runFrame.2.1 mk_X0_runFrame.2.2 ⟨fun _ => rfl, fun _ => rfl⟩ (fun z => absurd z (by decide +kernel)) ⟨fun _ => ⟨this, _, rfl, Or.inl hre⟩, fun z => absurd z (by decide +kernel)⟩ e1 e2 (fun _ _ => ⟨Nat.le_of_ble_eq_true rfl, fun _ hq => hq⟩) hw
set_option maxRecDepth 100000 in
theorem ch_X0_runFrame_0 {L : Nat} {xs : Nat → Int32} {hA hE h : am_H} {r : Option Int32} {this : Nat} (H : am_wa L xs m_X0_runFrame hA r hE 2 [.ref this, .int (0 : Int32), .null] [] h) : am_wa L xs m_X0_runFrame hA r hE 0 [.ref this, .null, .null] [] h := am_chunk am_mk_all okk_X0_runFrame [(2, [0, 1]), (12, [0, 1, 2])] 4 _ _ _ _ H
set_option maxRecDepth 100000 in
theorem ch_X0_runFrame_2 {L : Nat} {xs : Nat → Int32} {hA hE h : am_H} {r : Option Int32} {l0 : Nat} {l1 : Int32} (H : am_b (am_gI h l0 0 1) (fun x1 => (if (l1 : Int32) < x1 then am_wa L xs m_X0_runFrame hA r hE 12 [.ref l0, .int l1, .int (0 : Int32)] [] h else none = r ∧ h = hE))) : am_wa L xs m_X0_runFrame hA r hE 2 [.ref l0, .int l1, .null] [] h := am_chunk am_mk_all okk_X0_runFrame [(2, [0, 1]), (12, [0, 1, 2])] 8 _ _ _ _ H
set_option maxRecDepth 100000 in
theorem ch_X0_runFrame_12 {L : Nat} {xs : Nat → Int32} {hA hE h : am_H} {r : Option Int32} {l0 : Nat} {l1 l2 : Int32} (H : am_b (am_gI h l0 0 2) (fun x1 => (if (l2 : Int32) < x1 then ∃ h2, am_ok L xs m_X0_runCycle [.ref l0, .int l1] h none h2 ∧ am_wa L xs m_X0_runFrame hA r hE 12 [.ref l0, .int l1, .int (l2 + (1 : Int32))] [] h2 else am_wa L xs m_X0_runFrame hA r hE 2 [.ref l0, .int (l1 + (1 : Int32)), .null] [] h))) : am_wa L xs m_X0_runFrame hA r hE 12 [.ref l0, .int l1, .int l2] [] h := am_chunk am_mk_all okk_X0_runFrame [(2, [0, 1]), (12, [0, 1, 2])] 11 _ _ _ _ H
theorem en_X0_runCycle {L : Nat} {xs : Nat → Int32} {h h' : am_H} {this : Nat} {a : Int32} (hre : am_cls h this = some 0) (e1 : h'.1 = h.1) (e2 : h'.2.1 = h.2.1) (hw : am_wa L xs m_X0_runCycle h none h' 0 [.ref this, .int a, .null, .null, .null, .null, .null] [] h) : am_ok L xs m_X0_runCycle [.ref this, .int a] h none h' := am_ok_of (ls := [.ref this, .int a, .null, .null, .null, .null, .null]) mk_X0_runCycle.2.1 mk_X0_runCycle.2.2 ⟨fun _ => rfl, fun _ => rfl⟩ (fun z => absurd z (by decide +kernel)) ⟨fun _ => ⟨this, _, rfl, Or.inl hre⟩, fun z => absurd z (by decide +kernel)⟩ e1 e2 (fun _ _ => ⟨Nat.le_of_ble_eq_true rfl, fun _ hq => hq⟩) hw
set_option maxRecDepth 100000 in
theorem ch_X0_runCycle_0 {L : Nat} {xs : Nat → Int32} {hA hE h : am_H} {r : Option Int32} {this : Nat} {a : Int32} (H : ∃ (x2 : Int32) (h1 : am_H), am_ok L xs m_X0_contenders [.ref this, .int a] h (some x2) h1 ∧ ∃ (x4 : Int32) (h3 : am_H), am_ok L xs m_X0_ask [.ref this, .int x2] h1 (some x4) h3 ∧ ∃ (x6 : Int32) (h5 : am_H), am_ok L xs m_X0_hearing [.ref this, .int x4, .int (2 : Int32)] h3 (some x6) h5 ∧ ∃ (x8 : Int32) (h7 : am_H), am_ok L xs m_X0_hearing [.ref this, .int (x6 &&& (x4 ^^^ (-1 : Int32))), .int (1 : Int32)] h5 (some x8) h7 ∧ ∃ (x10 : Int32) (h9 : am_H), am_ok L xs m_X0_hearing [.ref this, .int (x4 &&& (x8 ^^^ (-1 : Int32))), .int (1 : Int32)] h7 (some x10) h9 ∧ ∃ (x12 : Int32) (h11 : am_H), am_ok L xs m_X0_settle [.ref this, .int a, .int (x4 &&& (x8 ^^^ (-1 : Int32))), .int (x10 &&& (x4 ^^^ (-1 : Int32)))] h9 (some x12) h11 ∧ ∃ h13, am_ok L xs m_X0_changeShares [.ref this, .int x4, .int x12] h11 none h13 ∧ (((1 : Int32) : Int32) = 0 ∨ ((1 : Int32) : Int32) = 1) ∧ am_b (am_pF h13 this 0 4 (.int (1 : Int32))) (fun h14 => am_b (am_gR h14 this 0 9) (fun a15 => am_b (am_sI h14 .int a15 (0 : Int32) x4) (fun h16 => am_b (am_gR h16 this 0 9) (fun a17 => am_b (am_sI h16 .int a17 (1 : Int32) (x6 &&& (x4 ^^^ (-1 : Int32)))) (fun h18 => am_b (am_gR h18 this 0 9) (fun a19 => am_b (am_sI h18 .int a19 (2 : Int32) (x4 &&& (x8 ^^^ (-1 : Int32)))) (fun h20 => am_b (am_gR h20 this 0 9) (fun a21 => am_b (am_sI h20 .int a21 (3 : Int32) (x10 &&& (x4 ^^^ (-1 : Int32)))) (fun h22 => am_b (am_gR h22 this 0 9) (fun a23 => am_b (am_sI h22 .int a23 (4 : Int32) x12) (fun h24 => none = r ∧ h24 = hE)))))))))))) : am_wa L xs m_X0_runCycle hA r hE 0 [.ref this, .int a, .null, .null, .null, .null, .null] [] h := am_chunk am_mk_all okk_X0_runCycle [] 73 _ _ _ _ H
theorem en_X0_drawLot {L : Nat} {xs : Nat → Int32} {h h' : am_H} {r : Int32} {this : Nat} {a : Int32} (hre : am_cls h this = some 0) (e1 : h'.1 = h.1) (e2 : h'.2.1 = h.2.1) (hw : am_wa L xs m_X0_drawLot h (some r) h' 0 [.ref this, .int a] [] h) : am_ok L xs m_X0_drawLot [.ref this, .int a] h (some r) h' := am_ok_of (ls := [.ref this, .int a]) mk_X0_drawLot.2.1 mk_X0_drawLot.2.2 ⟨fun z => (by cases z), fun z => absurd z (by decide +kernel)⟩ (fun z => absurd z (by decide +kernel)) ⟨fun _ => ⟨this, _, rfl, Or.inl hre⟩, fun z => absurd z (by decide +kernel)⟩ e1 e2 (fun _ _ => ⟨Nat.le_of_ble_eq_true rfl, fun _ hq => hq⟩) hw
set_option maxRecDepth 100000 in
theorem ch_X0_drawLot_0 {L : Nat} {xs : Nat → Int32} {hA hE h : am_H} {r : Option Int32} {this : Nat} {a : Int32} (H : am_b (am_gI h this 0 3) (fun x1 => (¬ ((53125 : Int32) : Int32) = 0) ∧ am_b (am_pF h this 0 3 (.int (((x1 * (171 : Int32)) + (11213 : Int32)) - ((x1 * (171 : Int32)) + (11213 : Int32)) / (53125 : Int32) * (53125 : Int32)))) (fun h2 => (if (a : Int32) < (1 : Int32) then am_fit .int (0 : Int32) ∧ some (0 : Int32) = r ∧ h2 = hE else am_b (am_gI h2 this 0 3) (fun x3 => (¬ ((64 : Int32) : Int32) = 0) ∧ (¬ (a : Int32) = 0) ∧ am_fit .int ((x3 / (64 : Int32)) - (x3 / (64 : Int32)) / a * a) ∧ some ((x3 / (64 : Int32)) - (x3 / (64 : Int32)) / a * a) = r ∧ h2 = hE))))) : am_wa L xs m_X0_drawLot hA r hE 0 [.ref this, .int a] [] h := am_chunk am_mk_all okk_X0_drawLot [] 21 _ _ _ _ H
theorem en_X0_ask {L : Nat} {xs : Nat → Int32} {h h' : am_H} {r : Int32} {this : Nat} {a : Int32} (hre : am_cls h this = some 0) (e1 : h'.1 = h.1) (e2 : h'.2.1 = h.2.1) (hw : am_wa L xs m_X0_ask h (some r) h' 0 [.ref this, .int a, .null, .null] [] h) : am_ok L xs m_X0_ask [.ref this, .int a] h (some r) h' := am_ok_of (ls := [.ref this, .int a, .null, .null]) mk_X0_ask.2.1 mk_X0_ask.2.2 ⟨fun z => (by cases z), fun z => absurd z (by decide +kernel)⟩ (fun z => absurd z (by decide +kernel)) ⟨fun _ => ⟨this, _, rfl, Or.inl hre⟩, fun z => absurd z (by decide +kernel)⟩ e1 e2 (fun _ _ => ⟨Nat.le_of_ble_eq_true rfl, fun _ hq => hq⟩) hw
set_option maxRecDepth 100000 in
theorem ch_X0_ask_0 {L : Nat} {xs : Nat → Int32} {hA hE h : am_H} {r : Option Int32} {this : Nat} {a : Int32} (H : am_wa L xs m_X0_ask hA r hE 4 [.ref this, .int a, .int (0 : Int32), .int (0 : Int32)] [] h) : am_wa L xs m_X0_ask hA r hE 0 [.ref this, .int a, .null, .null] [] h := am_chunk am_mk_all okk_X0_ask [(4, [0, 1, 2, 3])] 6 _ _ _ _ H
set_option maxRecDepth 100000 in
theorem ch_X0_ask_4 {L : Nat} {xs : Nat → Int32} {hA hE h : am_H} {r : Option Int32} {l0 : Nat} {l1 l2 l3 : Int32} (H : am_b (am_gI h l0 0 0) (fun x1 => (if (l3 : Int32) < x1 then ∃ (x3 : Int32) (h2 : am_H), am_ok L xs m_X4_has [.int l1, .int l3] h (some x3) h2 ∧ (if (x3 : Int32) = 0 then am_wa L xs m_X0_ask hA r hE 4 [.ref l0, .int l1, .int l2, .int (l3 + (1 : Int32))] [] h2 else ∃ (x5 : Int32) (h4 : am_H), am_ok L xs m_X0_drawLot [.ref l0, .int (16 : Int32)] h2 (some x5) h4 ∧ am_b (am_gR h4 l0 0 6) (fun a6 => am_b (am_lI h4 .int a6 l3) (fun x7 => (if (x5 : Int32) < x7 then am_wa L xs m_X0_ask hA r hE 4 [.ref l0, .int l1, .int (l2 ||| ((1 : Int32) <<< (l3 &&& 31))), .int (l3 + (1 : Int32))] [] h4 else am_wa L xs m_X0_ask hA r hE 4 [.ref l0, .int l1, .int l2, .int (l3 + (1 : Int32))] [] h4)))) else am_fit .int l2 ∧ some l2 = r ∧ h = hE))) : am_wa L xs m_X0_ask hA r hE 4 [.ref l0, .int l1, .int l2, .int l3] [] h := am_chunk am_mk_all okk_X0_ask [(4, [0, 1, 2, 3])] 26 _ _ _ _ H
theorem en_X0_settle {L : Nat} {xs : Nat → Int32} {h h' : am_H} {r : Int32} {this : Nat} {a b c : Int32} (hre : am_cls h this = some 0) (e1 : h'.1 = h.1) (e2 : h'.2.1 = h.2.1) (hw : am_wa L xs m_X0_settle h (some r) h' 0 [.ref this, .int a, .int b, .int c, .null, .null, .null] [] h) : am_ok L xs m_X0_settle [.ref this, .int a, .int b, .int c] h (some r) h' := am_ok_of (ls := [.ref this, .int a, .int b, .int c, .null, .null, .null]) mk_X0_settle.2.1 mk_X0_settle.2.2 ⟨fun z => (by cases z), fun z => absurd z (by decide +kernel)⟩ (fun z => absurd z (by decide +kernel)) ⟨fun _ => ⟨this, _, rfl, Or.inl hre⟩, fun z => absurd z (by decide +kernel)⟩ e1 e2 (fun _ _ => ⟨Nat.le_of_ble_eq_true rfl, fun _ hq => hq⟩) hw
set_option maxRecDepth 100000 in
theorem ch_X0_settle_0 {L : Nat} {xs : Nat → Int32} {hA hE h : am_H} {r : Option Int32} {this : Nat} {a b c : Int32} (H : am_wa L xs m_X0_settle hA r hE 3 [.ref this, .int a, .int b, .int c, .int (0 : Int32), .null, .null] [] h) : am_wa L xs m_X0_settle hA r hE 0 [.ref this, .int a, .int b, .int c, .null, .null, .null] [] h := am_chunk am_mk_all okk_X0_settle [(3, [0, 1, 2, 3, 4]), (51, [0, 1, 3, 4, 5]), (59, [0, 1, 3, 4, 5, 6])] 4 _ _ _ _ H
set_option maxRecDepth 100000 in
theorem ch_X0_settle_3 {L : Nat} {xs : Nat → Int32} {hA hE h : am_H} {r : Option Int32} {l0 : Nat} {l1 l2 l3 l4 : Int32} (H : am_b (am_gI h l0 0 0) (fun x1 => (if (l4 : Int32) < x1 then am_b (am_gR h l0 0 10) (fun a2 => ∃ (x4 : Int32) (h3 : am_H), am_ok L xs m_X4_has [.int l2, .int l4] h (some x4) h3 ∧ (if (x4 : Int32) = 0 then am_b (am_sI h3 .int a2 l4 (-1 : Int32)) (fun h5 => am_wa L xs m_X0_settle hA r hE 3 [.ref l0, .int l1, .int l2, .int l3, .int (l4 + (1 : Int32)), .null, .null] [] h5) else ∃ (x7 : Int32) (h6 : am_H), am_ok L xs m_X0_drawLot [.ref l0, .int (8 : Int32)] h3 (some x7) h6 ∧ am_b (am_sI h6 .int a2 l4 x7) (fun h8 => am_wa L xs m_X0_settle hA r hE 3 [.ref l0, .int l1, .int l2, .int l3, .int (l4 + (1 : Int32)), .null, .null] [] h8))) else am_wa L xs m_X0_settle hA r hE 51 [.ref l0, .int l1, .null, .int l3, .int (0 : Int32), .int (7 : Int32), .null] [] h))) : am_wa L xs m_X0_settle hA r hE 3 [.ref l0, .int l1, .int l2, .int l3, .int l4, .null, .null] [] h := am_chunk am_mk_all okk_X0_settle [(3, [0, 1, 2, 3, 4]), (51, [0, 1, 3, 4, 5]), (59, [0, 1, 3, 4, 5, 6])] 20 _ _ _ _ H
set_option maxRecDepth 100000 in
theorem ch_X0_settle_51 {L : Nat} {xs : Nat → Int32} {hA hE h : am_H} {r : Option Int32} {l0 : Nat} {l1 l3 l4 l5 : Int32} (H : (if (l5 : Int32) < 0 then am_fit .int l4 ∧ some l4 = r ∧ h = hE else am_wa L xs m_X0_settle hA r hE 59 [.ref l0, .int l1, .null, .int l3, .int l4, .int l5, .int (0 : Int32)] [] h)) : am_wa L xs m_X0_settle hA r hE 51 [.ref l0, .int l1, .null, .int l3, .int l4, .int l5, .null] [] h := am_chunk am_mk_all okk_X0_settle [(3, [0, 1, 2, 3, 4]), (51, [0, 1, 3, 4, 5]), (59, [0, 1, 3, 4, 5, 6])] 6 _ _ _ _ H
set_option maxRecDepth 100000 in
theorem ch_X0_settle_59 {L : Nat} {xs : Nat → Int32} {hA hE h : am_H} {r : Option Int32} {l0 : Nat} {l1 l3 l4 l5 l6 : Int32} (H : am_b (am_gI h l0 0 0) (fun x1 => (if (l6 : Int32) < x1 then am_b (am_gR h l0 0 10) (fun a2 => am_b (am_lI h .int a2 l6) (fun x3 => (if (x3 : Int32) = l5 then am_b (am_gR h l0 0 7) (fun a4 => am_b (am_lI h .int a4 l6) (fun x5 => (if ((x5 &&& l3) : Int32) = 0 then am_wa L xs m_X0_settle hA r hE 59 [.ref l0, .int l1, .null, .int l3, .int l4, .int l5, .int (l6 + (1 : Int32))] [] h else ∃ (x7 : Int32) (h6 : am_H), am_ok L xs m_X0_near [.ref l0, .int l6] h (some x7) h6 ∧ ∃ (x9 : Int32) (h8 : am_H), am_ok L xs m_X0_holders [.ref l0, .int l1] h6 (some x9) h8 ∧ (if ((x7 &&& x9) : Int32) = 0 then am_b (am_gR h8 l0 0 8) (fun a10 => am_b (am_lI h8 .int a10 l6) (fun x11 => am_b (am_sI h8 .int a10 l6 (x11 ||| ((1 : Int32) <<< (l1 &&& 31)))) (fun h12 => am_wa L xs m_X0_settle hA r hE 59 [.ref l0, .int l1, .null, .int l3, .int (l4 ||| ((1 : Int32) <<< (l6 &&& 31))), .int l5, .int (l6 + (1 : Int32))] [] h12))) else am_wa L xs m_X0_settle hA r hE 59 [.ref l0, .int l1, .null, .int l3, .int l4, .int l5, .int (l6 + (1 : Int32))] [] h8)))) else am_wa L xs m_X0_settle hA r hE 59 [.ref l0, .int l1, .null, .int l3, .int l4, .int l5, .int (l6 + (1 : Int32))] [] h))) else am_wa L xs m_X0_settle hA r hE 51 [.ref l0, .int l1, .null, .int l3, .int l4, .int (l5 + (-1 : Int32)), .null] [] h))) : am_wa L xs m_X0_settle hA r hE 59 [.ref l0, .int l1, .null, .int l3, .int l4, .int l5, .int l6] [] h := am_chunk am_mk_all okk_X0_settle [(3, [0, 1, 2, 3, 4]), (51, [0, 1, 3, 4, 5]), (59, [0, 1, 3, 4, 5, 6])] 45 _ _ _ _ H
theorem en_X0_changeShares {L : Nat} {xs : Nat → Int32} {h h' : am_H} {this : Nat} {a b : Int32} (hre : am_cls h this = some 0) (e1 : h'.1 = h.1) (e2 : h'.2.1 = h.2.1) (hw : am_wa L xs m_X0_changeShares h none h' 0 [.ref this, .int a, .int b, .null, .null, .null] [] h) : am_ok L xs m_X0_changeShares [.ref this, .int a, .int b] h none h' := am_ok_of (ls := [.ref this, .int a, .int b, .null, .null, .null]) mk_X0_changeShares.2.1 mk_X0_changeShares.2.2 ⟨fun _ => rfl, fun _ => rfl⟩ (fun z => absurd z (by decide +kernel)) ⟨fun _ => ⟨this, _, rfl, Or.inl hre⟩, fun z => absurd z (by decide +kernel)⟩ e1 e2 (fun _ _ => ⟨Nat.le_of_ble_eq_true rfl, fun _ hq => hq⟩) hw
set_option maxRecDepth 100000 in
theorem ch_X0_changeShares_0 {L : Nat} {xs : Nat → Int32} {hA hE h : am_H} {r : Option Int32} {this : Nat} {a b : Int32} (H : ∃ (x2 : Int32) (h1 : am_H), am_ok L xs m_X0_nearToAny [.ref this, .int b] h (some x2) h1 ∧ ∃ (x4 : Int32) (h3 : am_H), am_ok L xs m_X0_hearing [.ref this, .int x2, .int (1 : Int32)] h1 (some x4) h3 ∧ am_wa L xs m_X0_changeShares hA r hE 23 [.ref this, .int a, .int b, .null, .int (x4 &&& ((x2 ||| b) ^^^ (-1 : Int32))), .int (0 : Int32)] [] h3) : am_wa L xs m_X0_changeShares hA r hE 0 [.ref this, .int a, .int b, .null, .null, .null] [] h := am_chunk am_mk_all okk_X0_changeShares [(23, [0, 1, 2, 4, 5])] 19 _ _ _ _ H
set_option maxRecDepth 100000 in
theorem ch_X0_changeShares_23 {L : Nat} {xs : Nat → Int32} {hA hE h : am_H} {r : Option Int32} {l0 : Nat} {l1 l2 l4 l5 : Int32} (H : am_b (am_gI h l0 0 0) (fun x1 => (if (l5 : Int32) < x1 then ∃ (x3 : Int32) (h2 : am_H), am_ok L xs m_X4_has [.int l1, .int l5] h (some x3) h2 ∧ (if (x3 : Int32) = 0 then ∃ (x5 : Int32) (h4 : am_H), am_ok L xs m_X4_has [.int l4, .int l5] h2 (some x5) h4 ∧ (if (x5 : Int32) = 0 then am_wa L xs m_X0_changeShares hA r hE 23 [.ref l0, .int l1, .int l2, .null, .int l4, .int (l5 + (1 : Int32))] [] h4 else am_b (am_gR h4 l0 0 6) (fun a6 => am_b (am_gR h4 l0 0 6) (fun a7 => am_b (am_lI h4 .int a7 l5) (fun x8 => am_b (am_sI h4 .int a6 l5 (if (x8 * (2 : Int32)) < (16 : Int32) then (x8 * (2 : Int32)) else (16 : Int32))) (fun h9 => am_wa L xs m_X0_changeShares hA r hE 23 [.ref l0, .int l1, .int l2, .null, .int l4, .int (l5 + (1 : Int32))] [] h9))))) else ∃ (x11 : Int32) (h10 : am_H), am_ok L xs m_X4_has [.int l2, .int l5] h2 (some x11) h10 ∧ (if (x11 : Int32) = 0 then am_b (am_gR h10 l0 0 6) (fun a12 => am_b (am_gR h10 l0 0 6) (fun a13 => am_b (am_lI h10 .int a13 l5) (fun x14 => (¬ ((2 : Int32) : Int32) = 0) ∧ am_b (am_sI h10 .int a12 l5 (if (1 : Int32) < (x14 / (2 : Int32)) then (x14 / (2 : Int32)) else (1 : Int32))) (fun h15 => am_wa L xs m_X0_changeShares hA r hE 23 [.ref l0, .int l1, .int l2, .null, .int l4, .int (l5 + (1 : Int32))] [] h15)))) else am_wa L xs m_X0_changeShares hA r hE 23 [.ref l0, .int l1, .int l2, .null, .int l4, .int (l5 + (1 : Int32))] [] h10)) else none = r ∧ h = hE))) : am_wa L xs m_X0_changeShares hA r hE 23 [.ref l0, .int l1, .int l2, .null, .int l4, .int l5] [] h := am_chunk am_mk_all okk_X0_changeShares [(23, [0, 1, 2, 4, 5])] 29 _ _ _ _ H
theorem en_X0_dealOneSlotEach {L : Nat} {xs : Nat → Int32} {h h' : am_H} {r : Int32} {this : Nat} (hre : am_cls h this = some 0) (e1 : h'.1 = h.1) (e2 : h'.2.1 = h.2.1) (hw : am_wa L xs m_X0_dealOneSlotEach h (some r) h' 0 [.ref this, .null, .null, .null] [] h) : am_ok L xs m_X0_dealOneSlotEach [.ref this] h (some r) h' := am_ok_of (ls := [.ref this, .null, .null, .null]) mk_X0_dealOneSlotEach.2.1 mk_X0_dealOneSlotEach.2.2 ⟨fun z => (by cases z), fun z => absurd z (by decide +kernel)⟩ (fun z => absurd z (by decide +kernel)) ⟨fun _ => ⟨this, _, rfl, Or.inl hre⟩, fun z => absurd z (by decide +kernel)⟩ e1 e2 (fun _ _ => ⟨Nat.le_of_ble_eq_true rfl, fun _ hq => hq⟩) hw
set_option maxRecDepth 100000 in
theorem ch_X0_dealOneSlotEach_0 {L : Nat} {xs : Nat → Int32} {hA hE h : am_H} {r : Option Int32} {this : Nat} (H : am_b (am_gR h this 0 8) (fun a1 => ∃ h2, am_ok L xs m_J7_fill_53178 [.ref a1, .int (0 : Int32)] h none h2 ∧ am_wa L xs m_X0_dealOneSlotEach hA r hE 12 [.ref this, .int (0 : Int32), .int (0 : Int32), .null] [] h2)) : am_wa L xs m_X0_dealOneSlotEach hA r hE 0 [.ref this, .null, .null, .null] [] h := am_chunk am_mk_all okk_X0_dealOneSlotEach [(12, [0, 1, 2])] 10 _ _ _ _ H
set_option maxRecDepth 100000 in
theorem ch_X0_dealOneSlotEach_12 {L : Nat} {xs : Nat → Int32} {hA hE h : am_H} {r : Option Int32} {l0 : Nat} {l1 l2 : Int32} (H : am_b (am_gI h l0 0 0) (fun x1 => (if (l2 : Int32) < x1 then am_b (am_gR h l0 0 5) (fun a2 => am_b (am_lI h .int a2 l2) (fun x3 => (if 0 < (x3 : Int32) then ∃ (x5 : Int32) (h4 : am_H), am_ok L xs m_X0_leastFree [.ref l0, .int l2] h (some x5) h4 ∧ am_b (am_gR h4 l0 0 8) (fun a6 => am_b (am_sI h4 .int a6 l2 ((1 : Int32) <<< (x5 &&& 31))) (fun h7 => am_wa L xs m_X0_dealOneSlotEach hA r hE 12 [.ref l0, .int (if l1 < (x5 + (1 : Int32)) then (x5 + (1 : Int32)) else l1), .int (l2 + (1 : Int32)), .null] [] h7)) else am_wa L xs m_X0_dealOneSlotEach hA r hE 12 [.ref l0, .int l1, .int (l2 + (1 : Int32)), .null] [] h))) else am_fit .int l1 ∧ some l1 = r ∧ h = hE))) : am_wa L xs m_X0_dealOneSlotEach hA r hE 12 [.ref l0, .int l1, .int l2, .null] [] h := am_chunk am_mk_all okk_X0_dealOneSlotEach [(12, [0, 1, 2])] 30 _ _ _ _ H
theorem en_X0_leastFree {L : Nat} {xs : Nat → Int32} {h h' : am_H} {r : Int32} {this : Nat} {a : Int32} (hre : am_cls h this = some 0) (e1 : h'.1 = h.1) (e2 : h'.2.1 = h.2.1) (hw : am_wa L xs m_X0_leastFree h (some r) h' 0 [.ref this, .int a, .null, .null, .null] [] h) : am_ok L xs m_X0_leastFree [.ref this, .int a] h (some r) h' := am_ok_of (ls := [.ref this, .int a, .null, .null, .null]) mk_X0_leastFree.2.1 mk_X0_leastFree.2.2 ⟨fun z => (by cases z), fun z => absurd z (by decide +kernel)⟩ (fun z => absurd z (by decide +kernel)) ⟨fun _ => ⟨this, _, rfl, Or.inl hre⟩, fun z => absurd z (by decide +kernel)⟩ e1 e2 (fun _ _ => ⟨Nat.le_of_ble_eq_true rfl, fun _ hq => hq⟩) hw
set_option maxRecDepth 100000 in
theorem ch_X0_leastFree_0 {L : Nat} {xs : Nat → Int32} {hA hE h : am_H} {r : Option Int32} {this : Nat} {a : Int32} (H : ∃ (x2 : Int32) (h1 : am_H), am_ok L xs m_X0_near [.ref this, .int a] h (some x2) h1 ∧ am_wa L xs m_X0_leastFree hA r hE 11 [.ref this, .null, .int x2, .int (0 : Int32), .int (0 : Int32)] [] h1) : am_wa L xs m_X0_leastFree hA r hE 0 [.ref this, .int a, .null, .null, .null] [] h := am_chunk am_mk_all okk_X0_leastFree [(11, [0, 2, 3, 4]), (48, [3, 4])] 10 _ _ _ _ H
set_option maxRecDepth 100000 in
theorem ch_X0_leastFree_11 {L : Nat} {xs : Nat → Int32} {hA hE h : am_H} {r : Option Int32} {l0 : Nat} {l2 l3 l4 : Int32} (H : am_b (am_gI h l0 0 0) (fun x1 => (if (l4 : Int32) < x1 then ∃ (x3 : Int32) (h2 : am_H), am_ok L xs m_X4_has [.int l2, .int l4] h (some x3) h2 ∧ (if (x3 : Int32) = 0 then am_wa L xs m_X0_leastFree hA r hE 11 [.ref l0, .null, .int l2, .int l3, .int (l4 + (1 : Int32))] [] h2 else am_b (am_gR h2 l0 0 8) (fun a4 => am_b (am_lI h2 .int a4 l4) (fun x5 => am_wa L xs m_X0_leastFree hA r hE 11 [.ref l0, .null, .int l2, .int (l3 ||| x5), .int (l4 + (1 : Int32))] [] h2))) else am_wa L xs m_X0_leastFree hA r hE 48 [.null, .null, .null, .int l3, .int (0 : Int32)] [] h))) : am_wa L xs m_X0_leastFree hA r hE 11 [.ref l0, .null, .int l2, .int l3, .int l4] [] h := am_chunk am_mk_all okk_X0_leastFree [(11, [0, 2, 3, 4]), (48, [3, 4])] 19 _ _ _ _ H
set_option maxRecDepth 100000 in
theorem ch_X0_leastFree_48 {L : Nat} {xs : Nat → Int32} {hA hE h : am_H} {r : Option Int32} {l3 l4 : Int32} (H : (if (l4 : Int32) < (8 : Int32) then ∃ (x2 : Int32) (h1 : am_H), am_ok L xs m_X4_has [.int l3, .int l4] h (some x2) h1 ∧ (if (x2 : Int32) = 0 then am_fit .int l4 ∧ some l4 = r ∧ h1 = hE else am_wa L xs m_X0_leastFree hA r hE 48 [.null, .null, .null, .int l3, .int (l4 + (1 : Int32))] [] h1) else am_fit .int l4 ∧ some l4 = r ∧ h = hE)) : am_wa L xs m_X0_leastFree hA r hE 48 [.null, .null, .null, .int l3, .int l4] [] h := am_chunk am_mk_all okk_X0_leastFree [(11, [0, 2, 3, 4]), (48, [3, 4])] 11 _ _ _ _ H
end
section
/-! CHUNKS: what the abstract machine asks at each place where a chunk begins (by program); the entries of the methods -/
theorem en_X1_init {L : Nat} {xs : Nat → Int32} {h h' : am_H} {this : Nat} (e1 : h'.1 = h.1 + 57) (e2 : h'.2.1 = h.2.1 + 456) (hw : am_wa L xs m_X1_init h none h' 0 [.ref this, .null] [] h) : am_ok L xs m_X1_init [.ref this] h none h' := am_ok_of (ls := [.ref this, .null]) mk_X1_init.2.1 mk_X1_init.2.2 ⟨fun _ => rfl, fun _ => rfl⟩ (fun _ => rfl) ⟨fun z => absurd z (by decide +kernel), fun _ => ⟨this, _, rfl⟩⟩ e1 e2 (fun _ _ => ⟨Nat.le_of_ble_eq_true rfl, fun _ hq => hq⟩) hw
set_option maxRecDepth 100000 in
theorem ch_X1_init_0 {L : Nat} {xs : Nat → Int32} {hA hE h : am_H} {r : Option Int32} {this : Nat} (H : ((¬ ((8 : Int32) : Int32) < 0) ∧ (Int32.toNatClampNeg (8 : Int32)) ≤ 1000) ∧ am_Al m_X1_init hA h 1 (Int32.toNatClampNeg (8 : Int32)) ∧ am_b (am_pF (am_push h (Int32.toNatClampNeg (8 : Int32)) (.inl (.object (am_cn 0), (Int32.toNatClampNeg (8 : Int32)), .inr (.inr (.inr (.inr (fun _ => none))))))) this 1 0 (.ref (Prod.fst h))) (fun h1 => am_wa L xs m_X1_init hA r hE 15 [.ref this, .int (0 : Int32)] [] h1)) : am_wa L xs m_X1_init hA r hE 0 [.ref this, .null] [] h := am_chunk am_mk_all okk_X1_init [(15, [0, 1])] 10 _ _ _ _ H
set_option maxRecDepth 100000 in
theorem ch_X1_init_15 {L : Nat} {xs : Nat → Int32} {hA hE h : am_H} {r : Option Int32} {l0 : Nat} {l1 : Int32} (H : (if (l1 : Int32) < (8 : Int32) then am_b (am_gR h l0 1 0) (fun a1 => am_Al m_X1_init hA h 1 (am_df 0).length ∧ ∃ h2, (am_ok L xs m_X0_init [.ref (Prod.fst h)] (am_push h (am_df 0).length (.inr (0, am_df 0))) none h2 ∧ am_Al m_X1_init hA (am_push h (am_df 0).length (.inr (0, am_df 0))) (tm_mcs m_X0_init).1 (tm_mcs m_X0_init).2) ∧ am_b (am_sA h2 (am_cn 0) 0 a1 l1 (Prod.fst h)) (fun h3 => am_wa L xs m_X1_init hA r hE 15 [.ref l0, .int (l1 + (1 : Int32))] [] h3)) else none = r ∧ h = hE)) : am_wa L xs m_X1_init hA r hE 15 [.ref l0, .int l1] [] h := am_chunk am_mk_all okk_X1_init [(15, [0, 1])] 14 _ _ _ _ H
theorem en_X1_size {L : Nat} {xs : Nat → Int32} {h h' : am_H} {r : Int32} {this : Nat} (hre : am_cls h this = some 1) (e1 : h'.1 = h.1) (e2 : h'.2.1 = h.2.1) (hw : am_wa L xs m_X1_size h (some r) h' 0 [.ref this] [] h) : am_ok L xs m_X1_size [.ref this] h (some r) h' := am_ok_of (ls := [.ref this]) mk_X1_size.2.1 mk_X1_size.2.2 ⟨fun z => (by cases z), fun z => absurd z (by decide +kernel)⟩ (fun z => absurd z (by decide +kernel)) ⟨fun _ => ⟨this, _, rfl, Or.inl hre⟩, fun z => absurd z (by decide +kernel)⟩ e1 e2 (fun _ _ => ⟨Nat.le_of_ble_eq_true rfl, fun _ hq => hq⟩) hw
set_option maxRecDepth 100000 in
theorem ch_X1_size_0 {L : Nat} {xs : Nat → Int32} {hA hE h : am_H} {r : Option Int32} {this : Nat} (H : am_b (am_gI h this 1 2) (fun x1 => am_fit .int x1 ∧ some x1 = r ∧ h = hE)) : am_wa L xs m_X1_size hA r hE 0 [.ref this] [] h := am_chunk am_mk_all okk_X1_size [] 4 _ _ _ _ H
theorem en_X1_forget {L : Nat} {xs : Nat → Int32} {h h' : am_H} {this : Nat} (hre : am_cls h this = some 1) (e1 : h'.1 = h.1) (e2 : h'.2.1 = h.2.1) (hw : am_wa L xs m_X1_forget h none h' 0 [.ref this] [] h) : am_ok L xs m_X1_forget [.ref this] h none h' := am_ok_of (ls := [.ref this]) mk_X1_forget.2.1 mk_X1_forget.2.2 ⟨fun _ => rfl, fun _ => rfl⟩ (fun z => absurd z (by decide +kernel)) ⟨fun _ => ⟨this, _, rfl, Or.inl hre⟩, fun z => absurd z (by decide +kernel)⟩ e1 e2 (fun _ _ => ⟨Nat.le_of_ble_eq_true rfl, fun _ hq => hq⟩) hw
set_option maxRecDepth 100000 in
theorem ch_X1_forget_0 {L : Nat} {xs : Nat → Int32} {hA hE h : am_H} {r : Option Int32} {this : Nat} (H : am_b (am_pF h this 1 2 (.int (0 : Int32))) (fun h1 => none = r ∧ h1 = hE)) : am_wa L xs m_X1_forget hA r hE 0 [.ref this] [] h := am_chunk am_mk_all okk_X1_forget [] 5 _ _ _ _ H
theorem en_X1_remember {L : Nat} {xs : Nat → Int32} {h h' : am_H} {this a : Nat} (hre : am_cls h this = some 1) (e1 : h'.1 = h.1) (e2 : h'.2.1 = h.2.1) (hw : am_wa L xs m_X1_remember h none h' 0 [.ref this, .ref a] [] h) : am_ok L xs m_X1_remember [.ref this, .ref a] h none h' := am_ok_of (ls := [.ref this, .ref a]) mk_X1_remember.2.1 mk_X1_remember.2.2 ⟨fun _ => rfl, fun _ => rfl⟩ (fun z => absurd z (by decide +kernel)) ⟨fun _ => ⟨this, _, rfl, Or.inl hre⟩, fun z => absurd z (by decide +kernel)⟩ e1 e2 (fun _ _ => ⟨Nat.le_of_ble_eq_true rfl, fun _ hq => hq⟩) hw
set_option maxRecDepth 100000 in
theorem ch_X1_remember_0 {L : Nat} {xs : Nat → Int32} {hA hE h : am_H} {r : Option Int32} {this a : Nat} (H : am_b (am_gR h this 1 0) (fun a1 => am_b (am_gI h this 1 1) (fun x2 => am_b (am_lA h (am_cn 0) a1 x2) (fun a3 => ∃ h4, am_ok L xs m_X0_copyFrom [.ref a3, .ref a] h none h4 ∧ am_b (am_gI h4 this 1 1) (fun x5 => (¬ ((8 : Int32) : Int32) = 0) ∧ am_b (am_pF h4 this 1 1 (.int ((x5 + (1 : Int32)) - (x5 + (1 : Int32)) / (8 : Int32) * (8 : Int32)))) (fun h6 => am_b (am_gI h6 this 1 2) (fun x7 => am_b (am_pF h6 this 1 2 (.int (if (x7 + (1 : Int32)) < (8 : Int32) then (x7 + (1 : Int32)) else (8 : Int32)))) (fun h8 => none = r ∧ h8 = hE)))))))) : am_wa L xs m_X1_remember hA r hE 0 [.ref this, .ref a] [] h := am_chunk am_mk_all okk_X1_remember [] 25 _ _ _ _ H
theorem en_X1_recall {L : Nat} {xs : Nat → Int32} {h h' : am_H} {this a : Nat} (hre : am_cls h this = some 1) (e1 : h'.1 = h.1) (e2 : h'.2.1 = h.2.1) (hw : am_wa L xs m_X1_recall h none h' 0 [.ref this, .ref a] [] h) : am_ok L xs m_X1_recall [.ref this, .ref a] h none h' := am_ok_of (ls := [.ref this, .ref a]) mk_X1_recall.2.1 mk_X1_recall.2.2 ⟨fun _ => rfl, fun _ => rfl⟩ (fun z => absurd z (by decide +kernel)) ⟨fun _ => ⟨this, _, rfl, Or.inl hre⟩, fun z => absurd z (by decide +kernel)⟩ e1 e2 (fun _ _ => ⟨Nat.le_of_ble_eq_true rfl, fun _ hq => hq⟩) hw
set_option maxRecDepth 100000 in
theorem ch_X1_recall_0 {L : Nat} {xs : Nat → Int32} {hA hE h : am_H} {r : Option Int32} {this a : Nat} (H : am_b (am_gI h this 1 2) (fun x1 => (if 0 < (x1 : Int32) then am_b (am_gI h this 1 1) (fun x2 => (¬ ((8 : Int32) : Int32) = 0) ∧ am_b (am_pF h this 1 1 (.int (((x2 + (8 : Int32)) - (1 : Int32)) - ((x2 + (8 : Int32)) - (1 : Int32)) / (8 : Int32) * (8 : Int32)))) (fun h3 => am_b (am_gI h3 this 1 2) (fun x4 => am_b (am_pF h3 this 1 2 (.int (x4 - (1 : Int32)))) (fun h5 => am_b (am_gR h5 this 1 0) (fun a6 => am_b (am_gI h5 this 1 1) (fun x7 => am_b (am_lA h5 (am_cn 0) a6 x7) (fun a8 => ∃ h9, am_ok L xs m_X0_copyFrom [.ref a, .ref a8] h5 none h9 ∧ none = r ∧ h9 = hE))))))) else none = r ∧ h = hE))) : am_wa L xs m_X1_recall hA r hE 0 [.ref this, .ref a] [] h := am_chunk am_mk_all okk_X1_recall [] 28 _ _ _ _ H
theorem en_X2_init {L : Nat} {xs : Nat → Int32} {h h' : am_H} {this : Nat} (e1 : h'.1 = h.1 + 1) (e2 : h'.2.1 = h.2.1 + 8) (hw : am_wa L xs m_X2_init h none h' 0 [.ref this] [] h) : am_ok L xs m_X2_init [.ref this] h none h' := am_ok_of (ls := [.ref this]) mk_X2_init.2.1 mk_X2_init.2.2 ⟨fun _ => rfl, fun _ => rfl⟩ (fun _ => rfl) ⟨fun z => absurd z (by decide +kernel), fun _ => ⟨this, _, rfl⟩⟩ e1 e2 (fun _ _ => ⟨Nat.le_of_ble_eq_true rfl, fun _ hq => hq⟩) hw
set_option maxRecDepth 100000 in
theorem ch_X2_init_0 {L : Nat} {xs : Nat → Int32} {hA hE h : am_H} {r : Option Int32} {this : Nat} (H : ((¬ ((8 : Int32) : Int32) < 0) ∧ (Int32.toNatClampNeg (8 : Int32)) ≤ 1000) ∧ am_Al m_X2_init hA h 1 (Int32.toNatClampNeg (8 : Int32)) ∧ am_b (am_pF (am_push h (Int32.toNatClampNeg (8 : Int32)) (.inl (am_aty 0, (Int32.toNatClampNeg (8 : Int32)), .inl (fun _ => 0)))) this 2 0 (.ref (Prod.fst h))) (fun h1 => (((1 : Int32) : Int32) = 0 ∨ ((1 : Int32) : Int32) = 1) ∧ am_b (am_pF h1 this 2 2 (.int (1 : Int32))) (fun h2 => none = r ∧ h2 = hE))) : am_wa L xs m_X2_init hA r hE 0 [.ref this] [] h := am_chunk am_mk_all okk_X2_init [] 11 _ _ _ _ H
theorem en_X2_begin {L : Nat} {xs : Nat → Int32} {h h' : am_H} {this : Nat} {a b c d : Int32} (hre : am_cls h this = some 2) (e1 : h'.1 = h.1) (e2 : h'.2.1 = h.2.1) (hw : am_wa L xs m_X2_begin h none h' 0 [.ref this, .int a, .int b, .int c, .int d] [] h) : am_ok L xs m_X2_begin [.ref this, .int a, .int b, .int c, .int d] h none h' := am_ok_of (ls := [.ref this, .int a, .int b, .int c, .int d]) mk_X2_begin.2.1 mk_X2_begin.2.2 ⟨fun _ => rfl, fun _ => rfl⟩ (fun z => absurd z (by decide +kernel)) ⟨fun _ => ⟨this, _, rfl, Or.inl hre⟩, fun z => absurd z (by decide +kernel)⟩ e1 e2 (fun _ _ => ⟨Nat.le_of_ble_eq_true rfl, fun _ hq => hq⟩) hw
set_option maxRecDepth 100000 in
theorem ch_X2_begin_0 {L : Nat} {xs : Nat → Int32} {hA hE h : am_H} {r : Option Int32} {this : Nat} {a b c d : Int32} (H : (((0 : Int32) : Int32) = 0 ∨ ((0 : Int32) : Int32) = 1) ∧ am_b (am_pF h this 2 2 (.int (0 : Int32))) (fun h1 => am_b (am_pF h1 this 2 1 (.int a)) (fun h2 => am_b (am_gR h2 this 2 0) (fun a3 => am_b (am_sI h2 .int a3 (0 : Int32) b) (fun h4 => am_b (am_gR h4 this 2 0) (fun a5 => am_b (am_sI h4 .int a5 (1 : Int32) c) (fun h6 => am_b (am_gR h6 this 2 0) (fun a7 => am_b (am_sI h6 .int a7 (2 : Int32) d) (fun h8 => none = r ∧ h8 = hE))))))))) : am_wa L xs m_X2_begin hA r hE 0 [.ref this, .int a, .int b, .int c, .int d] [] h := am_chunk am_mk_all okk_X2_begin [] 23 _ _ _ _ H
theorem en_X2_lose {L : Nat} {xs : Nat → Int32} {h h' : am_H} {this : Nat} (hre : am_cls h this = some 2) (e1 : h'.1 = h.1) (e2 : h'.2.1 = h.2.1) (hw : am_wa L xs m_X2_lose h none h' 0 [.ref this] [] h) : am_ok L xs m_X2_lose [.ref this] h none h' := am_ok_of (ls := [.ref this]) mk_X2_lose.2.1 mk_X2_lose.2.2 ⟨fun _ => rfl, fun _ => rfl⟩ (fun z => absurd z (by decide +kernel)) ⟨fun _ => ⟨this, _, rfl, Or.inl hre⟩, fun z => absurd z (by decide +kernel)⟩ e1 e2 (fun _ _ => ⟨Nat.le_of_ble_eq_true rfl, fun _ hq => hq⟩) hw
set_option maxRecDepth 100000 in
theorem ch_X2_lose_0 {L : Nat} {xs : Nat → Int32} {hA hE h : am_H} {r : Option Int32} {this : Nat} (H : (((1 : Int32) : Int32) = 0 ∨ ((1 : Int32) : Int32) = 1) ∧ am_b (am_pF h this 2 2 (.int (1 : Int32))) (fun h1 => am_b (am_pF h1 this 2 1 (.int (0 : Int32))) (fun h2 => none = r ∧ h2 = hE))) : am_wa L xs m_X2_lose hA r hE 0 [.ref this] [] h := am_chunk am_mk_all okk_X2_lose [] 8 _ _ _ _ H
theorem en_X2_addAll {L : Nat} {xs : Nat → Int32} {h h' : am_H} {this a : Nat} (hre : am_cls h this = some 2) (e1 : h'.1 = h.1) (e2 : h'.2.1 = h.2.1) (hw : am_wa L xs m_X2_addAll h none h' 0 [.ref this, .ref a, .null] [] h) : am_ok L xs m_X2_addAll [.ref this, .ref a] h none h' := am_ok_of (ls := [.ref this, .ref a, .null]) mk_X2_addAll.2.1 mk_X2_addAll.2.2 ⟨fun _ => rfl, fun _ => rfl⟩ (fun z => absurd z (by decide +kernel)) ⟨fun _ => ⟨this, _, rfl, Or.inl hre⟩, fun z => absurd z (by decide +kernel)⟩ e1 e2 (fun _ _ => ⟨Nat.le_of_ble_eq_true rfl, fun _ hq => hq⟩) hw
set_option maxRecDepth 100000 in
theorem ch_X2_addAll_0 {L : Nat} {xs : Nat → Int32} {hA hE h : am_H} {r : Option Int32} {this a : Nat} (H : am_b (am_gI h a 2 1) (fun x1 => am_b (am_gI h this 2 1) (fun x2 => (if ((8 : Int32) : Int32) < (x2 + x1) then none = r ∧ h = hE else am_b (am_gR h a 2 0) (fun a3 => am_b (am_gR h this 2 0) (fun a4 => am_b (am_gI h this 2 1) (fun x5 => am_b (am_cp h a3 (0 : Int32) a4 x5 x1) (fun h6 => am_b (am_gI h6 this 2 1) (fun x7 => am_b (am_pF h6 this 2 1 (.int (x7 + x1))) (fun h8 => none = r ∧ h8 = hE)))))))))) : am_wa L xs m_X2_addAll hA r hE 0 [.ref this, .ref a, .null] [] h := am_chunk am_mk_all okk_X2_addAll [] 26 _ _ _ _ H
theorem en_X2_takeLast {L : Nat} {xs : Nat → Int32} {h h' : am_H} {r : Int32} {this : Nat} (hre : am_cls h this = some 2) (e1 : h'.1 = h.1) (e2 : h'.2.1 = h.2.1) (hw : am_wa L xs m_X2_takeLast h (some r) h' 0 [.ref this] [] h) : am_ok L xs m_X2_takeLast [.ref this] h (some r) h' := am_ok_of (ls := [.ref this]) mk_X2_takeLast.2.1 mk_X2_takeLast.2.2 ⟨fun z => (by cases z), fun z => absurd z (by decide +kernel)⟩ (fun z => absurd z (by decide +kernel)) ⟨fun _ => ⟨this, _, rfl, Or.inl hre⟩, fun z => absurd z (by decide +kernel)⟩ e1 e2 (fun _ _ => ⟨Nat.le_of_ble_eq_true rfl, fun _ hq => hq⟩) hw
set_option maxRecDepth 100000 in
theorem ch_X2_takeLast_0 {L : Nat} {xs : Nat → Int32} {hA hE h : am_H} {r : Option Int32} {this : Nat} (H : am_b (am_gI h this 2 1) (fun x1 => (if 0 < (x1 : Int32) then am_b (am_gI h this 2 1) (fun x2 => am_b (am_pF h this 2 1 (.int (x2 - (1 : Int32)))) (fun h3 => am_b (am_gR h3 this 2 0) (fun a4 => am_b (am_gI h3 this 2 1) (fun x5 => am_b (am_lI h3 .int a4 x5) (fun x6 => am_fit .int x6 ∧ some x6 = r ∧ h3 = hE))))) else am_b (am_gR h this 2 0) (fun a7 => am_b (am_gI h this 2 1) (fun x8 => am_b (am_lI h .int a7 x8) (fun x9 => am_fit .int x9 ∧ some x9 = r ∧ h = hE)))))) : am_wa L xs m_X2_takeLast hA r hE 0 [.ref this] [] h := am_chunk am_mk_all okk_X2_takeLast [] 16 _ _ _ _ H
theorem en_X2_sum {L : Nat} {xs : Nat → Int32} {h h' : am_H} {r : Int32} {this : Nat} (hre : am_cls h this = some 2) (e1 : h'.1 = h.1) (e2 : h'.2.1 = h.2.1) (hw : am_wa L xs m_X2_sum h (some r) h' 0 [.ref this, .null, .null] [] h) : am_ok L xs m_X2_sum [.ref this] h (some r) h' := am_ok_of (ls := [.ref this, .null, .null]) mk_X2_sum.2.1 mk_X2_sum.2.2 ⟨fun z => (by cases z), fun z => absurd z (by decide +kernel)⟩ (fun z => absurd z (by decide +kernel)) ⟨fun _ => ⟨this, _, rfl, Or.inl hre⟩, fun z => absurd z (by decide +kernel)⟩ e1 e2 (fun _ _ => ⟨Nat.le_of_ble_eq_true rfl, fun _ hq => hq⟩) hw
set_option maxRecDepth 100000 in
theorem ch_X2_sum_0 {L : Nat} {xs : Nat → Int32} {hA hE h : am_H} {r : Option Int32} {this : Nat} (H : am_wa L xs m_X2_sum hA r hE 4 [.ref this, .int (0 : Int32), .int (0 : Int32)] [] h) : am_wa L xs m_X2_sum hA r hE 0 [.ref this, .null, .null] [] h := am_chunk am_mk_all okk_X2_sum [(4, [0, 1, 2])] 6 _ _ _ _ H
set_option maxRecDepth 100000 in
theorem ch_X2_sum_4 {L : Nat} {xs : Nat → Int32} {hA hE h : am_H} {r : Option Int32} {l0 : Nat} {l1 l2 : Int32} (H : am_b (am_gI h l0 2 1) (fun x1 => (if (l2 : Int32) < x1 then am_b (am_gR h l0 2 0) (fun a2 => am_b (am_lI h .int a2 l2) (fun x3 => am_wa L xs m_X2_sum hA r hE 4 [.ref l0, .int (l1 + x3), .int (l2 + (1 : Int32))] [] h)) else am_fit .int l1 ∧ some l1 = r ∧ h = hE))) : am_wa L xs m_X2_sum hA r hE 4 [.ref l0, .int l1, .int l2] [] h := am_chunk am_mk_all okk_X2_sum [(4, [0, 1, 2])] 15 _ _ _ _ H
theorem en_X2_greatest {L : Nat} {xs : Nat → Int32} {h h' : am_H} {r : Int32} {this : Nat} (hre : am_cls h this = some 2) (e1 : h'.1 = h.1) (e2 : h'.2.1 = h.2.1) (hw : am_wa L xs m_X2_greatest h (some r) h' 0 [.ref this, .null, .null] [] h) : am_ok L xs m_X2_greatest [.ref this] h (some r) h' := am_ok_of (ls := [.ref this, .null, .null]) mk_X2_greatest.2.1 mk_X2_greatest.2.2 ⟨fun z => (by cases z), fun z => absurd z (by decide +kernel)⟩ (fun z => absurd z (by decide +kernel)) ⟨fun _ => ⟨this, _, rfl, Or.inl hre⟩, fun z => absurd z (by decide +kernel)⟩ e1 e2 (fun _ _ => ⟨Nat.le_of_ble_eq_true rfl, fun _ hq => hq⟩) hw
set_option maxRecDepth 100000 in
theorem ch_X2_greatest_0 {L : Nat} {xs : Nat → Int32} {hA hE h : am_H} {r : Option Int32} {this : Nat} (H : am_b (am_gR h this 2 0) (fun a1 => am_b (am_lI h .int a1 (0 : Int32)) (fun x2 => am_wa L xs m_X2_greatest hA r hE 9 [.ref this, .int x2, .int (1 : Int32)] [] h))) : am_wa L xs m_X2_greatest hA r hE 0 [.ref this, .null, .null] [] h := am_chunk am_mk_all okk_X2_greatest [(9, [0, 1, 2])] 9 _ _ _ _ H
set_option maxRecDepth 100000 in
theorem ch_X2_greatest_9 {L : Nat} {xs : Nat → Int32} {hA hE h : am_H} {r : Option Int32} {l0 : Nat} {l1 l2 : Int32} (H : am_b (am_gI h l0 2 1) (fun x1 => (if (l2 : Int32) < x1 then am_b (am_gR h l0 2 0) (fun a2 => am_b (am_lI h .int a2 l2) (fun x3 => am_wa L xs m_X2_greatest hA r hE 9 [.ref l0, .int (if l1 < x3 then x3 else l1), .int (l2 + (1 : Int32))] [] h)) else am_fit .int l1 ∧ some l1 = r ∧ h = hE))) : am_wa L xs m_X2_greatest hA r hE 9 [.ref l0, .int l1, .int l2] [] h := am_chunk am_mk_all okk_X2_greatest [(9, [0, 1, 2])] 15 _ _ _ _ H
theorem en_X2_least {L : Nat} {xs : Nat → Int32} {h h' : am_H} {r : Int32} {this : Nat} (hre : am_cls h this = some 2) (e1 : h'.1 = h.1) (e2 : h'.2.1 = h.2.1) (hw : am_wa L xs m_X2_least h (some r) h' 0 [.ref this, .null, .null] [] h) : am_ok L xs m_X2_least [.ref this] h (some r) h' := am_ok_of (ls := [.ref this, .null, .null]) mk_X2_least.2.1 mk_X2_least.2.2 ⟨fun z => (by cases z), fun z => absurd z (by decide +kernel)⟩ (fun z => absurd z (by decide +kernel)) ⟨fun _ => ⟨this, _, rfl, Or.inl hre⟩, fun z => absurd z (by decide +kernel)⟩ e1 e2 (fun _ _ => ⟨Nat.le_of_ble_eq_true rfl, fun _ hq => hq⟩) hw
set_option maxRecDepth 100000 in
theorem ch_X2_least_0 {L : Nat} {xs : Nat → Int32} {hA hE h : am_H} {r : Option Int32} {this : Nat} (H : am_b (am_gR h this 2 0) (fun a1 => am_b (am_lI h .int a1 (0 : Int32)) (fun x2 => am_wa L xs m_X2_least hA r hE 9 [.ref this, .int x2, .int (1 : Int32)] [] h))) : am_wa L xs m_X2_least hA r hE 0 [.ref this, .null, .null] [] h := am_chunk am_mk_all okk_X2_least [(9, [0, 1, 2])] 9 _ _ _ _ H
set_option maxRecDepth 100000 in
theorem ch_X2_least_9 {L : Nat} {xs : Nat → Int32} {hA hE h : am_H} {r : Option Int32} {l0 : Nat} {l1 l2 : Int32} (H : am_b (am_gI h l0 2 1) (fun x1 => (if (l2 : Int32) < x1 then am_b (am_gR h l0 2 0) (fun a2 => am_b (am_lI h .int a2 l2) (fun x3 => am_wa L xs m_X2_least hA r hE 9 [.ref l0, .int (if x3 < l1 then x3 else l1), .int (l2 + (1 : Int32))] [] h)) else am_fit .int l1 ∧ some l1 = r ∧ h = hE))) : am_wa L xs m_X2_least hA r hE 9 [.ref l0, .int l1, .int l2] [] h := am_chunk am_mk_all okk_X2_least [(9, [0, 1, 2])] 15 _ _ _ _ H
theorem en_X2_swing {L : Nat} {xs : Nat → Int32} {h h' : am_H} {r : Int32} {this : Nat} (hre : am_cls h this = some 2) (e1 : h'.1 = h.1) (e2 : h'.2.1 = h.2.1) (hw : am_wa L xs m_X2_swing h (some r) h' 0 [.ref this, .null, .null, .null] [] h) : am_ok L xs m_X2_swing [.ref this] h (some r) h' := am_ok_of (ls := [.ref this, .null, .null, .null]) mk_X2_swing.2.1 mk_X2_swing.2.2 ⟨fun z => (by cases z), fun z => absurd z (by decide +kernel)⟩ (fun z => absurd z (by decide +kernel)) ⟨fun _ => ⟨this, _, rfl, Or.inl hre⟩, fun z => absurd z (by decide +kernel)⟩ e1 e2 (fun _ _ => ⟨Nat.le_of_ble_eq_true rfl, fun _ hq => hq⟩) hw
set_option maxRecDepth 100000 in
theorem ch_X2_swing_0 {L : Nat} {xs : Nat → Int32} {hA hE h : am_H} {r : Option Int32} {this : Nat} (H : am_wa L xs m_X2_swing hA r hE 4 [.ref this, .int (0 : Int32), .int (0 : Int32), .null] [] h) : am_wa L xs m_X2_swing hA r hE 0 [.ref this, .null, .null, .null] [] h := am_chunk am_mk_all okk_X2_swing [(4, [0, 1, 2])] 6 _ _ _ _ H
set_option maxRecDepth 100000 in
theorem ch_X2_swing_4 {L : Nat} {xs : Nat → Int32} {hA hE h : am_H} {r : Option Int32} {l0 : Nat} {l1 l2 : Int32} (H : am_b (am_gI h l0 2 1) (fun x1 => (if (l2 : Int32) < x1 then (¬ ((2 : Int32) : Int32) = 0) ∧ (if ((l2 - l2 / (2 : Int32) * (2 : Int32)) : Int32) = 0 then am_b (am_gR h l0 2 0) (fun a2 => am_b (am_lI h .int a2 l2) (fun x3 => am_wa L xs m_X2_swing hA r hE 4 [.ref l0, .int (l1 + ((l2 + (1 : Int32)) * x3)), .int (l2 + (1 : Int32)), .null] [] h)) else am_b (am_gR h l0 2 0) (fun a4 => am_b (am_lI h .int a4 l2) (fun x5 => am_wa L xs m_X2_swing hA r hE 4 [.ref l0, .int (l1 + ((-(l2 + (1 : Int32))) * x5)), .int (l2 + (1 : Int32)), .null] [] h))) else am_fit .int l1 ∧ some l1 = r ∧ h = hE))) : am_wa L xs m_X2_swing hA r hE 4 [.ref l0, .int l1, .int l2, .null] [] h := am_chunk am_mk_all okk_X2_swing [(4, [0, 1, 2])] 26 _ _ _ _ H
theorem en_X2_negate {L : Nat} {xs : Nat → Int32} {h h' : am_H} {this : Nat} (hre : am_cls h this = some 2) (e1 : h'.1 = h.1) (e2 : h'.2.1 = h.2.1) (hw : am_wa L xs m_X2_negate h none h' 0 [.ref this, .null] [] h) : am_ok L xs m_X2_negate [.ref this] h none h' := am_ok_of (ls := [.ref this, .null]) mk_X2_negate.2.1 mk_X2_negate.2.2 ⟨fun _ => rfl, fun _ => rfl⟩ (fun z => absurd z (by decide +kernel)) ⟨fun _ => ⟨this, _, rfl, Or.inl hre⟩, fun z => absurd z (by decide +kernel)⟩ e1 e2 (fun _ _ => ⟨Nat.le_of_ble_eq_true rfl, fun _ hq => hq⟩) hw
set_option maxRecDepth 100000 in
theorem ch_X2_negate_0 {L : Nat} {xs : Nat → Int32} {hA hE h : am_H} {r : Option Int32} {this : Nat} (H : am_wa L xs m_X2_negate hA r hE 2 [.ref this, .int (0 : Int32)] [] h) : am_wa L xs m_X2_negate hA r hE 0 [.ref this, .null] [] h := am_chunk am_mk_all okk_X2_negate [(2, [0, 1])] 4 _ _ _ _ H
set_option maxRecDepth 100000 in
theorem ch_X2_negate_2 {L : Nat} {xs : Nat → Int32} {hA hE h : am_H} {r : Option Int32} {l0 : Nat} {l1 : Int32} (H : am_b (am_gI h l0 2 1) (fun x1 => (if (l1 : Int32) < x1 then am_b (am_gR h l0 2 0) (fun a2 => am_b (am_gR h l0 2 0) (fun a3 => am_b (am_lI h .int a3 l1) (fun x4 => am_b (am_sI h .int a2 l1 (-x4)) (fun h5 => am_wa L xs m_X2_negate hA r hE 2 [.ref l0, .int (l1 + (1 : Int32))] [] h5)))) else none = r ∧ h = hE))) : am_wa L xs m_X2_negate hA r hE 2 [.ref l0, .int l1] [] h := am_chunk am_mk_all okk_X2_negate [(2, [0, 1])] 17 _ _ _ _ H
theorem en_X2_twice {L : Nat} {xs : Nat → Int32} {h h' : am_H} {this : Nat} (hre : am_cls h this = some 2) (e1 : h'.1 = h.1) (e2 : h'.2.1 = h.2.1) (hw : am_wa L xs m_X2_twice h none h' 0 [.ref this, .null] [] h) : am_ok L xs m_X2_twice [.ref this] h none h' := am_ok_of (ls := [.ref this, .null]) mk_X2_twice.2.1 mk_X2_twice.2.2 ⟨fun _ => rfl, fun _ => rfl⟩ (fun z => absurd z (by decide +kernel)) ⟨fun _ => ⟨this, _, rfl, Or.inl hre⟩, fun z => absurd z (by decide +kernel)⟩ e1 e2 (fun _ _ => ⟨Nat.le_of_ble_eq_true rfl, fun _ hq => hq⟩) hw
set_option maxRecDepth 100000 in
theorem ch_X2_twice_0 {L : Nat} {xs : Nat → Int32} {hA hE h : am_H} {r : Option Int32} {this : Nat} (H : am_wa L xs m_X2_twice hA r hE 2 [.ref this, .int (0 : Int32)] [] h) : am_wa L xs m_X2_twice hA r hE 0 [.ref this, .null] [] h := am_chunk am_mk_all okk_X2_twice [(2, [0, 1])] 4 _ _ _ _ H
set_option maxRecDepth 100000 in
theorem ch_X2_twice_2 {L : Nat} {xs : Nat → Int32} {hA hE h : am_H} {r : Option Int32} {l0 : Nat} {l1 : Int32} (H : am_b (am_gI h l0 2 1) (fun x1 => (if (l1 : Int32) < x1 then am_b (am_gR h l0 2 0) (fun a2 => am_b (am_gR h l0 2 0) (fun a3 => am_b (am_lI h .int a3 l1) (fun x4 => ∃ (x6 : Int32) (h5 : am_H), am_ok L xs m_X2_held [.int ((2 : Int32) * x4)] h (some x6) h5 ∧ am_b (am_sI h5 .int a2 l1 x6) (fun h7 => am_wa L xs m_X2_twice hA r hE 2 [.ref l0, .int (l1 + (1 : Int32))] [] h7)))) else none = r ∧ h = hE))) : am_wa L xs m_X2_twice hA r hE 2 [.ref l0, .int l1] [] h := am_chunk am_mk_all okk_X2_twice [(2, [0, 1])] 19 _ _ _ _ H
theorem en_X2_sumUp {L : Nat} {xs : Nat → Int32} {h h' : am_H} {this : Nat} (hre : am_cls h this = some 2) (e1 : h'.1 = h.1) (e2 : h'.2.1 = h.2.1) (hw : am_wa L xs m_X2_sumUp h none h' 0 [.ref this, .null, .null] [] h) : am_ok L xs m_X2_sumUp [.ref this] h none h' := am_ok_of (ls := [.ref this, .null, .null]) mk_X2_sumUp.2.1 mk_X2_sumUp.2.2 ⟨fun _ => rfl, fun _ => rfl⟩ (fun z => absurd z (by decide +kernel)) ⟨fun _ => ⟨this, _, rfl, Or.inl hre⟩, fun z => absurd z (by decide +kernel)⟩ e1 e2 (fun _ _ => ⟨Nat.le_of_ble_eq_true rfl, fun _ hq => hq⟩) hw
set_option maxRecDepth 100000 in
theorem ch_X2_sumUp_0 {L : Nat} {xs : Nat → Int32} {hA hE h : am_H} {r : Option Int32} {this : Nat} (H : am_wa L xs m_X2_sumUp hA r hE 4 [.ref this, .int (0 : Int32), .int (0 : Int32)] [] h) : am_wa L xs m_X2_sumUp hA r hE 0 [.ref this, .null, .null] [] h := am_chunk am_mk_all okk_X2_sumUp [(4, [0, 1, 2])] 6 _ _ _ _ H
set_option maxRecDepth 100000 in
theorem ch_X2_sumUp_4 {L : Nat} {xs : Nat → Int32} {hA hE h : am_H} {r : Option Int32} {l0 : Nat} {l1 l2 : Int32} (H : am_b (am_gI h l0 2 1) (fun x1 => (if (l2 : Int32) < x1 then am_b (am_gR h l0 2 0) (fun a2 => am_b (am_lI h .int a2 l2) (fun x3 => am_b (am_gR h l0 2 0) (fun a4 => ∃ (x6 : Int32) (h5 : am_H), am_ok L xs m_X2_held [.int (l1 + x3)] h (some x6) h5 ∧ am_b (am_sI h5 .int a4 l2 x6) (fun h7 => am_wa L xs m_X2_sumUp hA r hE 4 [.ref l0, .int (l1 + x3), .int (l2 + (1 : Int32))] [] h7)))) else none = r ∧ h = hE))) : am_wa L xs m_X2_sumUp hA r hE 4 [.ref l0, .int l1, .int l2] [] h := am_chunk am_mk_all okk_X2_sumUp [(4, [0, 1, 2])] 21 _ _ _ _ H
theorem en_X2_held {L : Nat} {xs : Nat → Int32} {h h' : am_H} {r : Int32} {a : Int32} (e1 : h'.1 = h.1) (e2 : h'.2.1 = h.2.1) (hw : am_wa L xs m_X2_held h (some r) h' 0 [.int a] [] h) : am_ok L xs m_X2_held [.int a] h (some r) h' := am_ok_of (ls := [.int a]) mk_X2_held.2.1 mk_X2_held.2.2 ⟨fun z => (by cases z), fun z => absurd z (by decide +kernel)⟩ (fun z => absurd z (by decide +kernel)) ⟨fun z => absurd z (by decide +kernel), fun z => absurd z (by decide +kernel)⟩ e1 e2 (fun _ _ => ⟨Nat.le_of_ble_eq_true rfl, fun _ hq => hq⟩) hw
set_option maxRecDepth 100000 in
theorem ch_X2_held_0 {L : Nat} {xs : Nat → Int32} {hA hE h : am_H} {r : Option Int32} {a : Int32} (H : am_fit .int (if (-999 : Int32) < (if a < (999 : Int32) then a else (999 : Int32)) then (if a < (999 : Int32) then a else (999 : Int32)) else (-999 : Int32)) ∧ some (if (-999 : Int32) < (if a < (999 : Int32) then a else (999 : Int32)) then (if a < (999 : Int32) then a else (999 : Int32)) else (-999 : Int32)) = r ∧ h = hE) : am_wa L xs m_X2_held hA r hE 0 [.int a] [] h := am_chunk am_mk_all okk_X2_held [] 7 _ _ _ _ H
theorem en_X3_init {L : Nat} {xs : Nat → Int32} {h h' : am_H} {this : Nat} (e1 : h'.1 = h.1 + 1) (e2 : h'.2.1 = h.2.1 + 200) (hw : am_wa L xs m_X3_init h none h' 0 [.ref this] [] h) : am_ok L xs m_X3_init [.ref this] h none h' := am_ok_of (ls := [.ref this]) mk_X3_init.2.1 mk_X3_init.2.2 ⟨fun _ => rfl, fun _ => rfl⟩ (fun _ => rfl) ⟨fun z => absurd z (by decide +kernel), fun _ => ⟨this, _, rfl⟩⟩ e1 e2 (fun _ _ => ⟨Nat.le_of_ble_eq_true rfl, fun _ hq => hq⟩) hw
set_option maxRecDepth 100000 in
theorem ch_X3_init_0 {L : Nat} {xs : Nat → Int32} {hA hE h : am_H} {r : Option Int32} {this : Nat} (H : ((¬ ((200 : Int32) : Int32) < 0) ∧ (Int32.toNatClampNeg (200 : Int32)) ≤ 1000) ∧ am_Al m_X3_init hA h 1 (Int32.toNatClampNeg (200 : Int32)) ∧ am_b (am_pF (am_push h (Int32.toNatClampNeg (200 : Int32)) (.inl (am_aty 0, (Int32.toNatClampNeg (200 : Int32)), .inl (fun _ => 0)))) this 3 0 (.ref (Prod.fst h))) (fun h1 => none = r ∧ h1 = hE)) : am_wa L xs m_X3_init hA r hE 0 [.ref this] [] h := am_chunk am_mk_all okk_X3_init [] 8 _ _ _ _ H
theorem en_X3_length {L : Nat} {xs : Nat → Int32} {h h' : am_H} {r : Int32} {this : Nat} (hre : am_cls h this = some 3) (e1 : h'.1 = h.1) (e2 : h'.2.1 = h.2.1) (hw : am_wa L xs m_X3_length h (some r) h' 0 [.ref this] [] h) : am_ok L xs m_X3_length [.ref this] h (some r) h' := am_ok_of (ls := [.ref this]) mk_X3_length.2.1 mk_X3_length.2.2 ⟨fun z => (by cases z), fun z => absurd z (by decide +kernel)⟩ (fun z => absurd z (by decide +kernel)) ⟨fun _ => ⟨this, _, rfl, Or.inl hre⟩, fun z => absurd z (by decide +kernel)⟩ e1 e2 (fun _ _ => ⟨Nat.le_of_ble_eq_true rfl, fun _ hq => hq⟩) hw
set_option maxRecDepth 100000 in
theorem ch_X3_length_0 {L : Nat} {xs : Nat → Int32} {hA hE h : am_H} {r : Option Int32} {this : Nat} (H : am_b (am_gI h this 3 1) (fun x1 => am_fit .int x1 ∧ some x1 = r ∧ h = hE)) : am_wa L xs m_X3_length hA r hE 0 [.ref this] [] h := am_chunk am_mk_all okk_X3_length [] 4 _ _ _ _ H
theorem en_X3_isFull {L : Nat} {xs : Nat → Int32} {h h' : am_H} {r : Int32} {this : Nat} (hre : am_cls h this = some 3) (e1 : h'.1 = h.1) (e2 : h'.2.1 = h.2.1) (hw : am_wa L xs m_X3_isFull h (some r) h' 0 [.ref this] [] h) : am_ok L xs m_X3_isFull [.ref this] h (some r) h' := am_ok_of (ls := [.ref this]) mk_X3_isFull.2.1 mk_X3_isFull.2.2 ⟨fun z => (by cases z), fun z => absurd z (by decide +kernel)⟩ (fun z => absurd z (by decide +kernel)) ⟨fun _ => ⟨this, _, rfl, Or.inl hre⟩, fun z => absurd z (by decide +kernel)⟩ e1 e2 (fun _ _ => ⟨Nat.le_of_ble_eq_true rfl, fun _ hq => hq⟩) hw
set_option maxRecDepth 100000 in
theorem ch_X3_isFull_0 {L : Nat} {xs : Nat → Int32} {hA hE h : am_H} {r : Option Int32} {this : Nat} (H : am_b (am_gI h this 3 1) (fun x1 => (if (x1 : Int32) < (200 : Int32) then am_fit .boolean (0 : Int32) ∧ some (0 : Int32) = r ∧ h = hE else am_fit .boolean (1 : Int32) ∧ some (1 : Int32) = r ∧ h = hE))) : am_wa L xs m_X3_isFull hA r hE 0 [.ref this] [] h := am_chunk am_mk_all okk_X3_isFull [] 8 _ _ _ _ H
theorem en_X3_add {L : Nat} {xs : Nat → Int32} {h h' : am_H} {r : Int32} {this : Nat} {a : Int32} (hre : am_cls h this = some 3) (e1 : h'.1 = h.1) (e2 : h'.2.1 = h.2.1) (hw : am_wa L xs m_X3_add h (some r) h' 0 [.ref this, .int a] [] h) : am_ok L xs m_X3_add [.ref this, .int a] h (some r) h' := am_ok_of (ls := [.ref this, .int a]) mk_X3_add.2.1 mk_X3_add.2.2 ⟨fun z => (by cases z), fun z => absurd z (by decide +kernel)⟩ (fun z => absurd z (by decide +kernel)) ⟨fun _ => ⟨this, _, rfl, Or.inl hre⟩, fun z => absurd z (by decide +kernel)⟩ e1 e2 (fun _ _ => ⟨Nat.le_of_ble_eq_true rfl, fun _ hq => hq⟩) hw
set_option maxRecDepth 100000 in
theorem ch_X3_add_0 {L : Nat} {xs : Nat → Int32} {hA hE h : am_H} {r : Option Int32} {this : Nat} {a : Int32} (H : ∃ (x2 : Int32) (h1 : am_H), am_ok L xs m_X3_isFull [.ref this] h (some x2) h1 ∧ (if (x2 : Int32) = 0 then am_b (am_gR h1 this 3 0) (fun a3 => am_b (am_gI h1 this 3 1) (fun x4 => am_b (am_sI h1 .int a3 x4 a) (fun h5 => am_b (am_gI h5 this 3 1) (fun x6 => am_b (am_pF h5 this 3 1 (.int (x6 + (1 : Int32)))) (fun h7 => am_b (am_gI h7 this 3 1) (fun x8 => am_fit .int x8 ∧ some x8 = r ∧ h7 = hE)))))) else am_b (am_gI h1 this 3 1) (fun x9 => am_fit .int x9 ∧ some x9 = r ∧ h1 = hE))) : am_wa L xs m_X3_add hA r hE 0 [.ref this, .int a] [] h := am_chunk am_mk_all okk_X3_add [] 19 _ _ _ _ H
theorem en_X3_clear {L : Nat} {xs : Nat → Int32} {h h' : am_H} {r : Int32} {this : Nat} (hre : am_cls h this = some 3) (e1 : h'.1 = h.1) (e2 : h'.2.1 = h.2.1) (hw : am_wa L xs m_X3_clear h (some r) h' 0 [.ref this, .null] [] h) : am_ok L xs m_X3_clear [.ref this] h (some r) h' := am_ok_of (ls := [.ref this, .null]) mk_X3_clear.2.1 mk_X3_clear.2.2 ⟨fun z => (by cases z), fun z => absurd z (by decide +kernel)⟩ (fun z => absurd z (by decide +kernel)) ⟨fun _ => ⟨this, _, rfl, Or.inl hre⟩, fun z => absurd z (by decide +kernel)⟩ e1 e2 (fun _ _ => ⟨Nat.le_of_ble_eq_true rfl, fun _ hq => hq⟩) hw
set_option maxRecDepth 100000 in
theorem ch_X3_clear_0 {L : Nat} {xs : Nat → Int32} {hA hE h : am_H} {r : Option Int32} {this : Nat} (H : am_b (am_gI h this 3 1) (fun x1 => am_b (am_pF h this 3 1 (.int (0 : Int32))) (fun h2 => am_fit .int x1 ∧ some x1 = r ∧ h2 = hE))) : am_wa L xs m_X3_clear hA r hE 0 [.ref this, .null] [] h := am_chunk am_mk_all okk_X3_clear [] 9 _ _ _ _ H
theorem en_X3_clausesRead {L : Nat} {xs : Nat → Int32} {h h' : am_H} {r : Int32} {this : Nat} (hre : am_cls h this = some 3) (e1 : h'.1 = h.1) (e2 : h'.2.1 = h.2.1) (hw : am_wa L xs m_X3_clausesRead h (some r) h' 0 [.ref this] [] h) : am_ok L xs m_X3_clausesRead [.ref this] h (some r) h' := am_ok_of (ls := [.ref this]) mk_X3_clausesRead.2.1 mk_X3_clausesRead.2.2 ⟨fun z => (by cases z), fun z => absurd z (by decide +kernel)⟩ (fun z => absurd z (by decide +kernel)) ⟨fun _ => ⟨this, _, rfl, Or.inl hre⟩, fun z => absurd z (by decide +kernel)⟩ e1 e2 (fun _ _ => ⟨Nat.le_of_ble_eq_true rfl, fun _ hq => hq⟩) hw
set_option maxRecDepth 100000 in
theorem ch_X3_clausesRead_0 {L : Nat} {xs : Nat → Int32} {hA hE h : am_H} {r : Option Int32} {this : Nat} (H : am_b (am_gI h this 3 5) (fun x1 => am_fit .int x1 ∧ some x1 = r ∧ h = hE)) : am_wa L xs m_X3_clausesRead hA r hE 0 [.ref this] [] h := am_chunk am_mk_all okk_X3_clausesRead [] 4 _ _ _ _ H
theorem en_X3_readInto {L : Nat} {xs : Nat → Int32} {h h' : am_H} {r : Int32} {this a : Nat} (hre : am_cls h this = some 3) (e1 : h'.1 = h.1) (e2 : h'.2.1 = h.2.1) (hw : am_wa L xs m_X3_readInto h (some r) h' 0 [.ref this, .ref a] [] h) : am_ok L xs m_X3_readInto [.ref this, .ref a] h (some r) h' := am_ok_of (ls := [.ref this, .ref a]) mk_X3_readInto.2.1 mk_X3_readInto.2.2 ⟨fun z => (by cases z), fun z => absurd z (by decide +kernel)⟩ (fun z => absurd z (by decide +kernel)) ⟨fun _ => ⟨this, _, rfl, Or.inl hre⟩, fun z => absurd z (by decide +kernel)⟩ e1 e2 (fun _ _ => ⟨Nat.le_of_ble_eq_true rfl, fun _ hq => hq⟩) hw
set_option maxRecDepth 100000 in
theorem ch_X3_readInto_0 {L : Nat} {xs : Nat → Int32} {hA hE h : am_H} {r : Option Int32} {this a : Nat} (H : am_b (am_pF h this 3 3 (.int (0 : Int32))) (fun h1 => am_b (am_pF h1 this 3 5 (.int (0 : Int32))) (fun h2 => am_wa L xs m_X3_readInto hA r hE 10 [.ref this, .ref a] [] h2))) : am_wa L xs m_X3_readInto hA r hE 0 [.ref this, .ref a] [] h := am_chunk am_mk_all okk_X3_readInto [(10, [0, 1])] 8 _ _ _ _ H
set_option maxRecDepth 100000 in
theorem ch_X3_readInto_10 {L : Nat} {xs : Nat → Int32} {hA hE h : am_H} {r : Option Int32} {l0 l1 : Nat} (H : am_b (am_gI h l0 3 5) (fun x1 => (if (x1 : Int32) < (24 : Int32) then ∃ h2, am_ok L xs m_X3_nextToken [.ref l0] h none h2 ∧ ∃ (x4 : Int32) (h3 : am_H), am_ok L xs m_X3_readClause [.ref l0, .ref l1] h2 (some x4) h3 ∧ (if (x4 : Int32) = 0 then am_b (am_gI h3 l0 3 2) (fun x5 => am_fit .int x5 ∧ some x5 = r ∧ h3 = hE) else am_b (am_gI h3 l0 3 5) (fun x6 => am_b (am_pF h3 l0 3 5 (.int (x6 + (1 : Int32)))) (fun h7 => ∃ h8, am_ok L xs m_X3_nextToken [.ref l0] h7 none h8 ∧ am_b (am_gI h8 l0 3 2) (fun x9 => am_b (am_gI h8 l0 3 1) (fun x10 => (if (x9 : Int32) = x10 then am_fit .int (-1 : Int32) ∧ some (-1 : Int32) = r ∧ h8 = hE else am_b (am_gR h8 l0 3 0) (fun a11 => am_b (am_gI h8 l0 3 2) (fun x12 => am_b (am_lI h8 .int a11 x12) (fun x13 => (if (x13 : Int32) = (59 : Int32) then am_wa L xs m_X3_readInto hA r hE 10 [.ref l0, .ref l1] [] h8 else am_b (am_gI h8 l0 3 2) (fun x14 => am_fit .int x14 ∧ some x14 = r ∧ h8 = hE))))))))))) else am_b (am_gI h l0 3 2) (fun x15 => am_fit .int x15 ∧ some x15 = r ∧ h = hE)))) : am_wa L xs m_X3_readInto hA r hE 10 [.ref l0, .ref l1] [] h := am_chunk am_mk_all okk_X3_readInto [(10, [0, 1])] 34 _ _ _ _ H
theorem en_X3_readClause {L : Nat} {xs : Nat → Int32} {h h' : am_H} {r : Int32} {this a : Nat} (hre : am_cls h this = some 3) (e1 : h'.1 = h.1) (e2 : h'.2.1 = h.2.1) (hw : am_wa L xs m_X3_readClause h (some r) h' 0 [.ref this, .ref a] [] h) : am_ok L xs m_X3_readClause [.ref this, .ref a] h (some r) h' := am_ok_of (ls := [.ref this, .ref a]) mk_X3_readClause.2.1 mk_X3_readClause.2.2 ⟨fun z => (by cases z), fun z => absurd z (by decide +kernel)⟩ (fun z => absurd z (by decide +kernel)) ⟨fun _ => ⟨this, _, rfl, Or.inl hre⟩, fun z => absurd z (by decide +kernel)⟩ e1 e2 (fun _ _ => ⟨Nat.le_of_ble_eq_true rfl, fun _ hq => hq⟩) hw
set_option maxRecDepth 100000 in
theorem ch_X3_readClause_0 {L : Nat} {xs : Nat → Int32} {hA hE h : am_H} {r : Option Int32} {this a : Nat} (H : ∃ (x2 : Int32) (h1 : am_H), am_ok L xs m_X3_isWord [.ref this, .ref 1000001] h (some x2) h1 ∧ (if (x2 : Int32) = 0 then ∃ (x4 : Int32) (h3 : am_H), am_ok L xs m_X3_isWord [.ref this, .ref 1000002] h1 (some x4) h3 ∧ (if (x4 : Int32) = 0 then ∃ (x6 : Int32) (h5 : am_H), am_ok L xs m_X3_isWord [.ref this, .ref 1000003] h3 (some x6) h5 ∧ (if (x6 : Int32) = 0 then ∃ (x8 : Int32) (h7 : am_H), am_ok L xs m_X3_isWord [.ref this, .ref 1000004] h5 (some x8) h7 ∧ (if (x8 : Int32) = 0 then am_fit .boolean (0 : Int32) ∧ some (0 : Int32) = r ∧ h7 = hE else am_b (am_gR h7 a 0 6) (fun a9 => am_b (am_gI h7 a 0 0) (fun x10 => ∃ (x12 : Int32) (h11 : am_H), am_ok L xs m_X3_readOfStation [.ref this, .ref a9, .int x10, .int (1 : Int32), .int (16 : Int32)] h7 (some x12) h11 ∧ am_fit .boolean x12 ∧ some x12 = r ∧ h11 = hE))) else am_b (am_gR h5 a 0 5) (fun a13 => am_b (am_gI h5 a 0 0) (fun x14 => ∃ (x16 : Int32) (h15 : am_H), am_ok L xs m_X3_readOfStation [.ref this, .ref a13, .int x14, .int (0 : Int32), .int (4 : Int32)] h5 (some x16) h15 ∧ am_fit .boolean x16 ∧ some x16 = r ∧ h15 = hE))) else ∃ (x18 : Int32) (h17 : am_H), am_ok L xs m_X3_readLink [.ref this, .ref a] h3 (some x18) h17 ∧ am_fit .boolean x18 ∧ some x18 = r ∧ h17 = hE) else ∃ (x20 : Int32) (h19 : am_H), am_ok L xs m_X3_readMesh [.ref this, .ref a] h1 (some x20) h19 ∧ am_fit .boolean x20 ∧ some x20 = r ∧ h19 = hE)) : am_wa L xs m_X3_readClause hA r hE 0 [.ref this, .ref a] [] h := am_chunk am_mk_all okk_X3_readClause [] 26 _ _ _ _ H
theorem en_X3_readMesh {L : Nat} {xs : Nat → Int32} {h h' : am_H} {r : Int32} {this a : Nat} (hre : am_cls h this = some 3) (e1 : h'.1 = h.1) (e2 : h'.2.1 = h.2.1) (hw : am_wa L xs m_X3_readMesh h (some r) h' 0 [.ref this, .ref a, .null, .null, .null] [] h) : am_ok L xs m_X3_readMesh [.ref this, .ref a] h (some r) h' := am_ok_of (ls := [.ref this, .ref a, .null, .null, .null]) mk_X3_readMesh.2.1 mk_X3_readMesh.2.2 ⟨fun z => (by cases z), fun z => absurd z (by decide +kernel)⟩ (fun z => absurd z (by decide +kernel)) ⟨fun _ => ⟨this, _, rfl, Or.inl hre⟩, fun z => absurd z (by decide +kernel)⟩ e1 e2 (fun _ _ => ⟨Nat.le_of_ble_eq_true rfl, fun _ hq => hq⟩) hw
set_option maxRecDepth 100000 in
theorem ch_X3_readMesh_0 {L : Nat} {xs : Nat → Int32} {hA hE h : am_H} {r : Option Int32} {this a : Nat} (H : ∃ (x2 : Int32) (h1 : am_H), am_ok L xs m_X3_readNumber [.ref this, .int (2 : Int32), .int (8 : Int32)] h (some x2) h1 ∧ (if (x2 : Int32) = 0 then am_fit .boolean (0 : Int32) ∧ some (0 : Int32) = r ∧ h1 = hE else am_b (am_gI h1 this 3 4) (fun x3 => ∃ (x5 : Int32) (h4 : am_H), am_ok L xs m_X3_readNumber [.ref this, .int (1 : Int32), .int (4 : Int32)] h1 (some x5) h4 ∧ (if (x5 : Int32) = 0 then am_fit .boolean (0 : Int32) ∧ some (0 : Int32) = r ∧ h4 = hE else am_b (am_gI h4 this 3 4) (fun x6 => ∃ (x8 : Int32) (h7 : am_H), am_ok L xs m_X3_readNumber [.ref this, .int (1 : Int32), .int (5 : Int32)] h4 (some x8) h7 ∧ (if (x8 : Int32) = 0 then am_fit .boolean (0 : Int32) ∧ some (0 : Int32) = r ∧ h7 = hE else am_b (am_gI h7 this 3 4) (fun x9 => ∃ (x11 : Int32) (h10 : am_H), am_ok L xs m_X3_readNumber [.ref this, .int (1 : Int32), .int (999 : Int32)] h7 (some x11) h10 ∧ (if (x11 : Int32) = 0 then am_fit .boolean (0 : Int32) ∧ some (0 : Int32) = r ∧ h10 = hE else am_b (am_gI h10 this 3 4) (fun x12 => ∃ h13, am_ok L xs m_X0_begin [.ref a, .int x3, .int x6, .int x9, .int x12] h10 none h13 ∧ am_fit .boolean (1 : Int32) ∧ some (1 : Int32) = r ∧ h13 = hE))))))))) : am_wa L xs m_X3_readMesh hA r hE 0 [.ref this, .ref a, .null, .null, .null] [] h := am_chunk am_mk_all okk_X3_readMesh [] 39 _ _ _ _ H
theorem en_X3_readLink {L : Nat} {xs : Nat → Int32} {h h' : am_H} {r : Int32} {this a : Nat} (hre : am_cls h this = some 3) (e1 : h'.1 = h.1) (e2 : h'.2.1 = h.2.1) (hw : am_wa L xs m_X3_readLink h (some r) h' 0 [.ref this, .ref a, .null] [] h) : am_ok L xs m_X3_readLink [.ref this, .ref a] h (some r) h' := am_ok_of (ls := [.ref this, .ref a, .null]) mk_X3_readLink.2.1 mk_X3_readLink.2.2 ⟨fun z => (by cases z), fun z => absurd z (by decide +kernel)⟩ (fun z => absurd z (by decide +kernel)) ⟨fun _ => ⟨this, _, rfl, Or.inl hre⟩, fun z => absurd z (by decide +kernel)⟩ e1 e2 (fun _ _ => ⟨Nat.le_of_ble_eq_true rfl, fun _ hq => hq⟩) hw
set_option maxRecDepth 100000 in
theorem ch_X3_readLink_0 {L : Nat} {xs : Nat → Int32} {hA hE h : am_H} {r : Option Int32} {this a : Nat} (H : am_b (am_gI h a 0 0) (fun x1 => ∃ (x3 : Int32) (h2 : am_H), am_ok L xs m_X3_readNumber [.ref this, .int (0 : Int32), .int (x1 - (1 : Int32))] h (some x3) h2 ∧ (if (x3 : Int32) = 0 then am_fit .boolean (0 : Int32) ∧ some (0 : Int32) = r ∧ h2 = hE else am_b (am_gI h2 this 3 4) (fun x4 => am_b (am_gI h2 a 0 0) (fun x5 => ∃ (x7 : Int32) (h6 : am_H), am_ok L xs m_X3_readNumber [.ref this, .int (0 : Int32), .int (x5 - (1 : Int32))] h2 (some x7) h6 ∧ (if (x7 : Int32) = 0 then am_fit .boolean (0 : Int32) ∧ some (0 : Int32) = r ∧ h6 = hE else am_b (am_gI h6 this 3 4) (fun x8 => (if (x8 : Int32) = x4 then am_fit .boolean (0 : Int32) ∧ some (0 : Int32) = r ∧ h6 = hE else am_b (am_gI h6 this 3 4) (fun x9 => ∃ h10, am_ok L xs m_X0_link [.ref a, .int x4, .int x9] h6 none h10 ∧ am_fit .boolean (1 : Int32) ∧ some (1 : Int32) = r ∧ h10 = hE))))))))) : am_wa L xs m_X3_readLink hA r hE 0 [.ref this, .ref a, .null] [] h := am_chunk am_mk_all okk_X3_readLink [] 31 _ _ _ _ H
theorem en_X3_readOfStation {L : Nat} {xs : Nat → Int32} {h h' : am_H} {r : Int32} {this a : Nat} {b c d : Int32} (hre : am_cls h this = some 3) (e1 : h'.1 = h.1) (e2 : h'.2.1 = h.2.1) (hw : am_wa L xs m_X3_readOfStation h (some r) h' 0 [.ref this, .ref a, .int b, .int c, .int d, .null] [] h) : am_ok L xs m_X3_readOfStation [.ref this, .ref a, .int b, .int c, .int d] h (some r) h' := am_ok_of (ls := [.ref this, .ref a, .int b, .int c, .int d, .null]) mk_X3_readOfStation.2.1 mk_X3_readOfStation.2.2 ⟨fun z => (by cases z), fun z => absurd z (by decide +kernel)⟩ (fun z => absurd z (by decide +kernel)) ⟨fun _ => ⟨this, _, rfl, Or.inl hre⟩, fun z => absurd z (by decide +kernel)⟩ e1 e2 (fun _ _ => ⟨Nat.le_of_ble_eq_true rfl, fun _ hq => hq⟩) hw
set_option maxRecDepth 100000 in
theorem ch_X3_readOfStation_0 {L : Nat} {xs : Nat → Int32} {hA hE h : am_H} {r : Option Int32} {this a : Nat} {b c d : Int32} (H : ∃ (x2 : Int32) (h1 : am_H), am_ok L xs m_X3_readNumber [.ref this, .int (0 : Int32), .int (b - (1 : Int32))] h (some x2) h1 ∧ (if (x2 : Int32) = 0 then am_fit .boolean (0 : Int32) ∧ some (0 : Int32) = r ∧ h1 = hE else am_b (am_gI h1 this 3 4) (fun x3 => ∃ (x5 : Int32) (h4 : am_H), am_ok L xs m_X3_readNumber [.ref this, .int c, .int d] h1 (some x5) h4 ∧ (if (x5 : Int32) = 0 then am_fit .boolean (0 : Int32) ∧ some (0 : Int32) = r ∧ h4 = hE else am_b (am_gI h4 this 3 4) (fun x6 => am_b (am_sI h4 .int a x3 x6) (fun h7 => am_fit .boolean (1 : Int32) ∧ some (1 : Int32) = r ∧ h7 = hE)))))) : am_wa L xs m_X3_readOfStation hA r hE 0 [.ref this, .ref a, .int b, .int c, .int d, .null] [] h := am_chunk am_mk_all okk_X3_readOfStation [] 23 _ _ _ _ H
theorem en_X3_readNumber {L : Nat} {xs : Nat → Int32} {h h' : am_H} {r : Int32} {this : Nat} {a b : Int32} (hre : am_cls h this = some 3) (e1 : h'.1 = h.1) (e2 : h'.2.1 = h.2.1) (hw : am_wa L xs m_X3_readNumber h (some r) h' 0 [.ref this, .int a, .int b, .null] [] h) : am_ok L xs m_X3_readNumber [.ref this, .int a, .int b] h (some r) h' := am_ok_of (ls := [.ref this, .int a, .int b, .null]) mk_X3_readNumber.2.1 mk_X3_readNumber.2.2 ⟨fun z => (by cases z), fun z => absurd z (by decide +kernel)⟩ (fun z => absurd z (by decide +kernel)) ⟨fun _ => ⟨this, _, rfl, Or.inl hre⟩, fun z => absurd z (by decide +kernel)⟩ e1 e2 (fun _ _ => ⟨Nat.le_of_ble_eq_true rfl, fun _ hq => hq⟩) hw
set_option maxRecDepth 100000 in
theorem ch_X3_readNumber_0 {L : Nat} {xs : Nat → Int32} {hA hE h : am_H} {r : Option Int32} {this : Nat} {a b : Int32} (H : ∃ h1, am_ok L xs m_X3_nextToken [.ref this] h none h1 ∧ am_b (am_gI h1 this 3 2) (fun x2 => am_b (am_gI h1 this 3 1) (fun x3 => (if (x2 : Int32) = x3 then am_fit .boolean (0 : Int32) ∧ some (0 : Int32) = r ∧ h1 = hE else am_b (am_gR h1 this 3 0) (fun a4 => am_b (am_gI h1 this 3 2) (fun x5 => am_b (am_lI h1 .int a4 x5) (fun x6 => ∃ (x8 : Int32) (h7 : am_H), am_ok L xs m_X3_isDigit [.int x6] h1 (some x8) h7 ∧ (if (x8 : Int32) = 0 then am_fit .boolean (0 : Int32) ∧ some (0 : Int32) = r ∧ h7 = hE else am_b (am_gI h7 this 3 3) (fun x9 => am_b (am_gI h7 this 3 2) (fun x10 => (if ((3 : Int32) : Int32) < (x9 - x10) then am_fit .boolean (0 : Int32) ∧ some (0 : Int32) = r ∧ h7 = hE else am_b (am_pF h7 this 3 4 (.int (0 : Int32))) (fun h11 => am_b (am_gI h11 this 3 2) (fun x12 => am_wa L xs m_X3_readNumber hA r hE 55 [.ref this, .int a, .int b, .int x12] [] h11))))))))))))) : am_wa L xs m_X3_readNumber hA r hE 0 [.ref this, .int a, .int b, .null] [] h := am_chunk am_mk_all okk_X3_readNumber [(55, [0, 1, 2, 3])] 29 _ _ _ _ H
set_option maxRecDepth 100000 in
theorem ch_X3_readNumber_55 {L : Nat} {xs : Nat → Int32} {hA hE h : am_H} {r : Option Int32} {l0 : Nat} {l1 l2 l3 : Int32} (H : am_b (am_gI h l0 3 3) (fun x1 => (if (l3 : Int32) < x1 then am_b (am_gI h l0 3 4) (fun x2 => am_b (am_gR h l0 3 0) (fun a3 => am_b (am_lI h .int a3 l3) (fun x4 => am_b (am_pF h l0 3 4 (.int (((x2 * (10 : Int32)) + x4) - (48 : Int32)))) (fun h5 => am_wa L xs m_X3_readNumber hA r hE 55 [.ref l0, .int l1, .int l2, .int (l3 + (1 : Int32))] [] h5)))) else am_b (am_gI h l0 3 4) (fun x6 => (if (x6 : Int32) < l1 then am_fit .boolean (0 : Int32) ∧ some (0 : Int32) = r ∧ h = hE else am_b (am_gI h l0 3 4) (fun x7 => (if (l2 : Int32) < x7 then am_fit .boolean (0 : Int32) ∧ some (0 : Int32) = r ∧ h = hE else am_fit .boolean (1 : Int32) ∧ some (1 : Int32) = r ∧ h = hE))))))) : am_wa L xs m_X3_readNumber hA r hE 55 [.ref l0, .int l1, .int l2, .int l3] [] h := am_chunk am_mk_all okk_X3_readNumber [(55, [0, 1, 2, 3])] 21 _ _ _ _ H
theorem en_X3_nextToken {L : Nat} {xs : Nat → Int32} {h h' : am_H} {this : Nat} (hre : am_cls h this = some 3) (e1 : h'.1 = h.1) (e2 : h'.2.1 = h.2.1) (hw : am_wa L xs m_X3_nextToken h none h' 0 [.ref this] [] h) : am_ok L xs m_X3_nextToken [.ref this] h none h' := am_ok_of (ls := [.ref this]) mk_X3_nextToken.2.1 mk_X3_nextToken.2.2 ⟨fun _ => rfl, fun _ => rfl⟩ (fun z => absurd z (by decide +kernel)) ⟨fun _ => ⟨this, _, rfl, Or.inl hre⟩, fun z => absurd z (by decide +kernel)⟩ e1 e2 (fun _ _ => ⟨Nat.le_of_ble_eq_true rfl, fun _ hq => hq⟩) hw
set_option maxRecDepth 100000 in
theorem ch_X3_nextToken_0 {L : Nat} {xs : Nat → Int32} {hA hE h : am_H} {r : Option Int32} {this : Nat} (H : am_b (am_gI h this 3 3) (fun x1 => am_b (am_pF h this 3 2 (.int x1)) (fun h2 => am_wa L xs m_X3_nextToken hA r hE 8 [.ref this] [] h2))) : am_wa L xs m_X3_nextToken hA r hE 0 [.ref this] [] h := am_chunk am_mk_all okk_X3_nextToken [(8, [0]), (91, [0]), (145, [0])] 6 _ _ _ _ H
set_option maxRecDepth 100000 in
theorem ch_X3_nextToken_8 {L : Nat} {xs : Nat → Int32} {hA hE h : am_H} {r : Option Int32} {l0 : Nat} (H : am_b (am_gI h l0 3 2) (fun x1 => am_b (am_gI h l0 3 1) (fun x2 => (if (x1 : Int32) < x2 then am_b (am_gR h l0 3 0) (fun a3 => am_b (am_gI h l0 3 2) (fun x4 => am_b (am_lI h .int a3 x4) (fun x5 => (if (x5 : Int32) = (32 : Int32) then am_b (am_gI h l0 3 2) (fun x6 => am_b (am_pF h l0 3 2 (.int (x6 + (1 : Int32)))) (fun h7 => am_wa L xs m_X3_nextToken hA r hE 8 [.ref l0] [] h7)) else am_b (am_gI h l0 3 2) (fun x8 => am_b (am_pF h l0 3 3 (.int x8)) (fun h9 => am_b (am_gI h9 l0 3 2) (fun x10 => am_b (am_gI h9 l0 3 1) (fun x11 => (if (x10 : Int32) = x11 then none = r ∧ h9 = hE else am_b (am_gI h9 l0 3 3) (fun x12 => am_b (am_pF h9 l0 3 3 (.int (x12 + (1 : Int32)))) (fun h13 => am_b (am_gR h13 l0 3 0) (fun a14 => am_b (am_gI h13 l0 3 2) (fun x15 => am_b (am_lI h13 .int a14 x15) (fun x16 => ∃ (x18 : Int32) (h17 : am_H), am_ok L xs m_X3_isSmall [.int x16] h13 (some x18) h17 ∧ (if (x18 : Int32) = 0 then am_b (am_gR h17 l0 3 0) (fun a19 => am_b (am_gI h17 l0 3 2) (fun x20 => am_b (am_lI h17 .int a19 x20) (fun x21 => ∃ (x23 : Int32) (h22 : am_H), am_ok L xs m_X3_isDigit [.int x21] h17 (some x23) h22 ∧ (if (x23 : Int32) = 0 then none = r ∧ h22 = hE else am_wa L xs m_X3_nextToken hA r hE 145 [.ref l0] [] h22)))) else am_wa L xs m_X3_nextToken hA r hE 91 [.ref l0] [] h17))))))))))))))) else am_b (am_gI h l0 3 2) (fun x24 => am_b (am_pF h l0 3 3 (.int x24)) (fun h25 => am_b (am_gI h25 l0 3 2) (fun x26 => am_b (am_gI h25 l0 3 1) (fun x27 => (if (x26 : Int32) = x27 then none = r ∧ h25 = hE else am_b (am_gI h25 l0 3 3) (fun x28 => am_b (am_pF h25 l0 3 3 (.int (x28 + (1 : Int32)))) (fun h29 => am_b (am_gR h29 l0 3 0) (fun a30 => am_b (am_gI h29 l0 3 2) (fun x31 => am_b (am_lI h29 .int a30 x31) (fun x32 => ∃ (x34 : Int32) (h33 : am_H), am_ok L xs m_X3_isSmall [.int x32] h29 (some x34) h33 ∧ (if (x34 : Int32) = 0 then am_b (am_gR h33 l0 3 0) (fun a35 => am_b (am_gI h33 l0 3 2) (fun x36 => am_b (am_lI h33 .int a35 x36) (fun x37 => ∃ (x39 : Int32) (h38 : am_H), am_ok L xs m_X3_isDigit [.int x37] h33 (some x39) h38 ∧ (if (x39 : Int32) = 0 then none = r ∧ h38 = hE else am_wa L xs m_X3_nextToken hA r hE 145 [.ref l0] [] h38)))) else am_wa L xs m_X3_nextToken hA r hE 91 [.ref l0] [] h33))))))))))))))) : am_wa L xs m_X3_nextToken hA r hE 8 [.ref l0] [] h := am_chunk am_mk_all okk_X3_nextToken [(8, [0]), (91, [0]), (145, [0])] 43 _ _ _ _ H
set_option maxRecDepth 100000 in
theorem ch_X3_nextToken_145 {L : Nat} {xs : Nat → Int32} {hA hE h : am_H} {r : Option Int32} {l0 : Nat} (H : am_b (am_gI h l0 3 3) (fun x1 => am_b (am_gI h l0 3 1) (fun x2 => (if (x1 : Int32) < x2 then am_b (am_gR h l0 3 0) (fun a3 => am_b (am_gI h l0 3 3) (fun x4 => am_b (am_lI h .int a3 x4) (fun x5 => ∃ (x7 : Int32) (h6 : am_H), am_ok L xs m_X3_isDigit [.int x5] h (some x7) h6 ∧ (if (x7 : Int32) = 0 then none = r ∧ h6 = hE else am_b (am_gI h6 l0 3 3) (fun x8 => am_b (am_pF h6 l0 3 3 (.int (x8 + (1 : Int32)))) (fun h9 => am_wa L xs m_X3_nextToken hA r hE 145 [.ref l0] [] h9)))))) else none = r ∧ h = hE)))) : am_wa L xs m_X3_nextToken hA r hE 145 [.ref l0] [] h := am_chunk am_mk_all okk_X3_nextToken [(8, [0]), (91, [0]), (145, [0])] 21 _ _ _ _ H
set_option maxRecDepth 100000 in
theorem ch_X3_nextToken_91 {L : Nat} {xs : Nat → Int32} {hA hE h : am_H} {r : Option Int32} {l0 : Nat} (H : am_b (am_gI h l0 3 3) (fun x1 => am_b (am_gI h l0 3 1) (fun x2 => (if (x1 : Int32) < x2 then am_b (am_gR h l0 3 0) (fun a3 => am_b (am_gI h l0 3 3) (fun x4 => am_b (am_lI h .int a3 x4) (fun x5 => ∃ (x7 : Int32) (h6 : am_H), am_ok L xs m_X3_isSmall [.int x5] h (some x7) h6 ∧ (if (x7 : Int32) = 0 then none = r ∧ h6 = hE else am_b (am_gI h6 l0 3 3) (fun x8 => am_b (am_pF h6 l0 3 3 (.int (x8 + (1 : Int32)))) (fun h9 => am_wa L xs m_X3_nextToken hA r hE 91 [.ref l0] [] h9)))))) else none = r ∧ h = hE)))) : am_wa L xs m_X3_nextToken hA r hE 91 [.ref l0] [] h := am_chunk am_mk_all okk_X3_nextToken [(8, [0]), (91, [0]), (145, [0])] 21 _ _ _ _ H
theorem en_X3_isWord {L : Nat} {xs : Nat → Int32} {h h' : am_H} {r : Int32} {this a : Nat} (hre : am_cls h this = some 3) (e1 : h'.1 = h.1) (e2 : h'.2.1 = h.2.1) (hw : am_wa L xs m_X3_isWord h (some r) h' 0 [.ref this, .ref a, .null] [] h) : am_ok L xs m_X3_isWord [.ref this, .ref a] h (some r) h' := am_ok_of (ls := [.ref this, .ref a, .null]) mk_X3_isWord.2.1 mk_X3_isWord.2.2 ⟨fun z => (by cases z), fun z => absurd z (by decide +kernel)⟩ (fun z => absurd z (by decide +kernel)) ⟨fun _ => ⟨this, _, rfl, Or.inl hre⟩, fun z => absurd z (by decide +kernel)⟩ e1 e2 (fun _ _ => ⟨Nat.le_of_ble_eq_true rfl, fun _ hq => hq⟩) hw
set_option maxRecDepth 100000 in
theorem ch_X3_isWord_0 {L : Nat} {xs : Nat → Int32} {hA hE h : am_H} {r : Option Int32} {this a : Nat} (H : am_b (am_gI h this 3 3) (fun x1 => am_b (am_gI h this 3 2) (fun x2 => ∃ (x4 : Int32) (h3 : am_H), am_ok L xs m_J0_length_8abf5 [.ref a] h (some x4) h3 ∧ (if ((x1 - x2) : Int32) = x4 then am_wa L xs m_X3_isWord hA r hE 20 [.ref this, .ref a, .int (0 : Int32)] [] h3 else am_fit .boolean (0 : Int32) ∧ some (0 : Int32) = r ∧ h3 = hE)))) : am_wa L xs m_X3_isWord hA r hE 0 [.ref this, .ref a, .null] [] h := am_chunk am_mk_all okk_X3_isWord [(20, [0, 1, 2])] 12 _ _ _ _ H
set_option maxRecDepth 100000 in
theorem ch_X3_isWord_20 {L : Nat} {xs : Nat → Int32} {hA hE h : am_H} {r : Option Int32} {l0 l1 : Nat} {l2 : Int32} (H : ∃ (x2 : Int32) (h1 : am_H), am_ok L xs m_J0_length_8abf5 [.ref l1] h (some x2) h1 ∧ (if (l2 : Int32) < x2 then am_b (am_gR h1 l0 3 0) (fun a3 => am_b (am_gI h1 l0 3 2) (fun x4 => am_b (am_lI h1 .int a3 (x4 + l2)) (fun x5 => ∃ (x7 : Int32) (h6 : am_H), am_ok L xs m_J0_charAt_5068e [.ref l1, .int l2] h1 (some x7) h6 ∧ (if (x5 : Int32) = x7 then am_wa L xs m_X3_isWord hA r hE 20 [.ref l0, .ref l1, .int (l2 + (1 : Int32))] [] h6 else am_fit .boolean (0 : Int32) ∧ some (0 : Int32) = r ∧ h6 = hE)))) else am_fit .boolean (1 : Int32) ∧ some (1 : Int32) = r ∧ h1 = hE)) : am_wa L xs m_X3_isWord hA r hE 20 [.ref l0, .ref l1, .int l2] [] h := am_chunk am_mk_all okk_X3_isWord [(20, [0, 1, 2])] 19 _ _ _ _ H
theorem en_X3_isSmall {L : Nat} {xs : Nat → Int32} {h h' : am_H} {r : Int32} {a : Int32} (e1 : h'.1 = h.1) (e2 : h'.2.1 = h.2.1) (hw : am_wa L xs m_X3_isSmall h (some r) h' 0 [.int a] [] h) : am_ok L xs m_X3_isSmall [.int a] h (some r) h' := am_ok_of (ls := [.int a]) mk_X3_isSmall.2.1 mk_X3_isSmall.2.2 ⟨fun z => (by cases z), fun z => absurd z (by decide +kernel)⟩ (fun z => absurd z (by decide +kernel)) ⟨fun z => absurd z (by decide +kernel), fun z => absurd z (by decide +kernel)⟩ e1 e2 (fun _ _ => ⟨Nat.le_of_ble_eq_true rfl, fun _ hq => hq⟩) hw
set_option maxRecDepth 100000 in
theorem ch_X3_isSmall_0 {L : Nat} {xs : Nat → Int32} {hA hE h : am_H} {r : Option Int32} {a : Int32} (H : (if (a : Int32) < (97 : Int32) then am_fit .boolean (0 : Int32) ∧ some (0 : Int32) = r ∧ h = hE else (if ((122 : Int32) : Int32) < a then am_fit .boolean (0 : Int32) ∧ some (0 : Int32) = r ∧ h = hE else am_fit .boolean (1 : Int32) ∧ some (1 : Int32) = r ∧ h = hE))) : am_wa L xs m_X3_isSmall hA r hE 0 [.int a] [] h := am_chunk am_mk_all okk_X3_isSmall [] 10 _ _ _ _ H
theorem en_X3_isDigit {L : Nat} {xs : Nat → Int32} {h h' : am_H} {r : Int32} {a : Int32} (e1 : h'.1 = h.1) (e2 : h'.2.1 = h.2.1) (hw : am_wa L xs m_X3_isDigit h (some r) h' 0 [.int a] [] h) : am_ok L xs m_X3_isDigit [.int a] h (some r) h' := am_ok_of (ls := [.int a]) mk_X3_isDigit.2.1 mk_X3_isDigit.2.2 ⟨fun z => (by cases z), fun z => absurd z (by decide +kernel)⟩ (fun z => absurd z (by decide +kernel)) ⟨fun z => absurd z (by decide +kernel), fun z => absurd z (by decide +kernel)⟩ e1 e2 (fun _ _ => ⟨Nat.le_of_ble_eq_true rfl, fun _ hq => hq⟩) hw
set_option maxRecDepth 100000 in
theorem ch_X3_isDigit_0 {L : Nat} {xs : Nat → Int32} {hA hE h : am_H} {r : Option Int32} {a : Int32} (H : (if (a : Int32) < (48 : Int32) then am_fit .boolean (0 : Int32) ∧ some (0 : Int32) = r ∧ h = hE else (if ((57 : Int32) : Int32) < a then am_fit .boolean (0 : Int32) ∧ some (0 : Int32) = r ∧ h = hE else am_fit .boolean (1 : Int32) ∧ some (1 : Int32) = r ∧ h = hE))) : am_wa L xs m_X3_isDigit hA r hE 0 [.int a] [] h := am_chunk am_mk_all okk_X3_isDigit [] 10 _ _ _ _ H
theorem en_J6_bitCount_0f7a4 {L : Nat} {xs : Nat → Int32} {h h' : am_H} {r : Int32} {a : Int32} (e1 : h'.1 = h.1) (e2 : h'.2.1 = h.2.1) (hw : am_wa L xs m_J6_bitCount_0f7a4 h (some r) h' 0 [.int a] [] h) : am_ok L xs m_J6_bitCount_0f7a4 [.int a] h (some r) h' := am_ok_of (ls := [.int a]) mk_J6_bitCount_0f7a4.2.1 mk_J6_bitCount_0f7a4.2.2 ⟨fun z => (by cases z), fun z => absurd z (by decide +kernel)⟩ (fun z => absurd z (by decide +kernel)) ⟨fun z => absurd z (by decide +kernel), fun z => absurd z (by decide +kernel)⟩ e1 e2 (fun _ _ => ⟨Nat.le_of_ble_eq_true rfl, fun _ hq => hq⟩) hw
set_option maxRecDepth 100000 in
theorem ch_J6_bitCount_0f7a4_0 {L : Nat} {xs : Nat → Int32} {hA hE h : am_H} {r : Option Int32} {a : Int32} (H : am_wa L xs m_J6_bitCount_0f7a4 hA r hE 10 [.int (a - ((Int32.toUInt32 a >>> (Int32.toUInt32 (1 : Int32) &&& Int32.toUInt32 31)).toInt32 &&& (1431655765 : Int32)))] [] h) : am_wa L xs m_J6_bitCount_0f7a4 hA r hE 0 [.int a] [] h := am_chunk am_mk_all okk_J6_bitCount_0f7a4 [(10, [0]), (24, [0]), (34, [0]), (41, [0])] 10 _ _ _ _ H
set_option maxRecDepth 100000 in
theorem ch_J6_bitCount_0f7a4_10 {L : Nat} {xs : Nat → Int32} {hA hE h : am_H} {r : Option Int32} {l0 : Int32} (H : am_wa L xs m_J6_bitCount_0f7a4 hA r hE 24 [.int ((l0 &&& (858993459 : Int32)) + ((Int32.toUInt32 l0 >>> (Int32.toUInt32 (2 : Int32) &&& Int32.toUInt32 31)).toInt32 &&& (858993459 : Int32)))] [] h) : am_wa L xs m_J6_bitCount_0f7a4 hA r hE 10 [.int l0] [] h := am_chunk am_mk_all okk_J6_bitCount_0f7a4 [(10, [0]), (24, [0]), (34, [0]), (41, [0])] 12 _ _ _ _ H
set_option maxRecDepth 100000 in
theorem ch_J6_bitCount_0f7a4_24 {L : Nat} {xs : Nat → Int32} {hA hE h : am_H} {r : Option Int32} {l0 : Int32} (H : am_wa L xs m_J6_bitCount_0f7a4 hA r hE 34 [.int ((l0 + (Int32.toUInt32 l0 >>> (Int32.toUInt32 (4 : Int32) &&& Int32.toUInt32 31)).toInt32) &&& (252645135 : Int32))] [] h) : am_wa L xs m_J6_bitCount_0f7a4 hA r hE 24 [.int l0] [] h := am_chunk am_mk_all okk_J6_bitCount_0f7a4 [(10, [0]), (24, [0]), (34, [0]), (41, [0])] 10 _ _ _ _ H
set_option maxRecDepth 100000 in
theorem ch_J6_bitCount_0f7a4_34 {L : Nat} {xs : Nat → Int32} {hA hE h : am_H} {r : Option Int32} {l0 : Int32} (H : am_wa L xs m_J6_bitCount_0f7a4 hA r hE 41 [.int (l0 + (Int32.toUInt32 l0 >>> (Int32.toUInt32 (8 : Int32) &&& Int32.toUInt32 31)).toInt32)] [] h) : am_wa L xs m_J6_bitCount_0f7a4 hA r hE 34 [.int l0] [] h := am_chunk am_mk_all okk_J6_bitCount_0f7a4 [(10, [0]), (24, [0]), (34, [0]), (41, [0])] 8 _ _ _ _ H
set_option maxRecDepth 100000 in
theorem ch_J6_bitCount_0f7a4_41 {L : Nat} {xs : Nat → Int32} {hA hE h : am_H} {r : Option Int32} {l0 : Int32} (H : am_fit .int ((l0 + (Int32.toUInt32 l0 >>> (Int32.toUInt32 (16 : Int32) &&& Int32.toUInt32 31)).toInt32) &&& (63 : Int32)) ∧ some ((l0 + (Int32.toUInt32 l0 >>> (Int32.toUInt32 (16 : Int32) &&& Int32.toUInt32 31)).toInt32) &&& (63 : Int32)) = r ∧ h = hE) : am_wa L xs m_J6_bitCount_0f7a4 hA r hE 41 [.int l0] [] h := am_chunk am_mk_all okk_J6_bitCount_0f7a4 [(10, [0]), (24, [0]), (34, [0]), (41, [0])] 11 _ _ _ _ H
theorem en_J0_length_8abf5 {L : Nat} {xs : Nat → Int32} {h h' : am_H} {r : Int32} {this : Nat} (hre : 1000001 ≤ this ∧ this ≤ 1000004) (e1 : h'.1 = h.1) (e2 : h'.2.1 = h.2.1) (hw : am_wa L xs m_J0_length_8abf5 h (some r) h' 0 [.ref this] [] h) : am_ok L xs m_J0_length_8abf5 [.ref this] h (some r) h' := am_ok_of (ls := [.ref this]) mk_J0_length_8abf5.2.1 mk_J0_length_8abf5.2.2 ⟨fun z => (by cases z), fun z => absurd z (by decide +kernel)⟩ (fun z => absurd z (by decide +kernel)) ⟨fun _ => ⟨this, _, rfl, Or.inr ⟨rfl, hre⟩⟩, fun z => absurd z (by decide +kernel)⟩ e1 e2 (fun _ _ => ⟨Nat.le_of_ble_eq_true rfl, fun _ hq => hq⟩) hw
set_option maxRecDepth 100000 in
theorem ch_J0_length_8abf5_0 {L : Nat} {xs : Nat → Int32} {hA hE h : am_H} {r : Option Int32} {this : Nat} (H : am_if (Nat.ble 1000001 this && Nat.ble this 1000004) (am_if (Nat.ble 1000011 (this + 10) && Nat.ble (this + 10) 1000014) (∃ (x2 : Int32) (h1 : am_H), am_ok L xs m_J0_coder_7d493 [.ref this] h (some x2) h1 ∧ am_fit .int ((nI (am_sl ((this + 10) - 1000011))) >>> (x2 &&& 31)) ∧ some ((nI (am_sl ((this + 10) - 1000011))) >>> (x2 &&& 31)) = r ∧ h1 = hE))) : am_wa L xs m_J0_length_8abf5 hA r hE 0 [.ref this] [] h := am_chunk am_mk_all okk_J0_length_8abf5 [] 8 _ _ _ _ H
theorem en_J0_charAt_5068e {L : Nat} {xs : Nat → Int32} {h h' : am_H} {r : Int32} {this : Nat} {a : Int32} (hre : 1000001 ≤ this ∧ this ≤ 1000004) (e1 : h'.1 = h.1) (e2 : h'.2.1 = h.2.1) (hw : am_wa L xs m_J0_charAt_5068e h (some r) h' 0 [.ref this, .int a] [] h) : am_ok L xs m_J0_charAt_5068e [.ref this, .int a] h (some r) h' := am_ok_of (ls := [.ref this, .int a]) mk_J0_charAt_5068e.2.1 mk_J0_charAt_5068e.2.2 ⟨fun z => (by cases z), fun z => absurd z (by decide +kernel)⟩ (fun z => absurd z (by decide +kernel)) ⟨fun _ => ⟨this, _, rfl, Or.inr ⟨rfl, hre⟩⟩, fun z => absurd z (by decide +kernel)⟩ e1 e2 (fun _ _ => ⟨Nat.le_of_ble_eq_true rfl, fun _ hq => hq⟩) hw
set_option maxRecDepth 100000 in
theorem ch_J0_charAt_5068e_0 {L : Nat} {xs : Nat → Int32} {hA hE h : am_H} {r : Option Int32} {this : Nat} {a : Int32} (H : ∃ (x2 : Int32) (h1 : am_H), am_ok L xs m_J0_isLatin1_aae02 [.ref this] h (some x2) h1 ∧ (if (x2 : Int32) = 0 then am_if (Nat.ble 1000001 this && Nat.ble this 1000004) (False) else am_if (Nat.ble 1000001 this && Nat.ble this 1000004) (∃ (x4 : Int32) (h3 : am_H), am_ok L xs m_J1_charAt_3b067 [.ref (this + 10), .int a] h1 (some x4) h3 ∧ am_fit .char x4 ∧ some x4 = r ∧ h3 = hE))) : am_wa L xs m_J0_charAt_5068e hA r hE 0 [.ref this, .int a] [] h := am_chunk am_mk_all okk_J0_charAt_5068e [] 9 _ _ _ _ H
theorem en_J0_coder_7d493 {L : Nat} {xs : Nat → Int32} {h h' : am_H} {r : Int32} {this : Nat} (hre : 1000001 ≤ this ∧ this ≤ 1000004) (e1 : h'.1 = h.1) (e2 : h'.2.1 = h.2.1) (hw : am_wa L xs m_J0_coder_7d493 h (some r) h' 0 [.ref this] [] h) : am_ok L xs m_J0_coder_7d493 [.ref this] h (some r) h' := am_ok_of (ls := [.ref this]) mk_J0_coder_7d493.2.1 mk_J0_coder_7d493.2.2 ⟨fun z => (by cases z), fun z => absurd z (by decide +kernel)⟩ (fun z => absurd z (by decide +kernel)) ⟨fun _ => ⟨this, _, rfl, Or.inr ⟨rfl, hre⟩⟩, fun z => absurd z (by decide +kernel)⟩ e1 e2 (fun _ _ => ⟨Nat.le_of_ble_eq_true rfl, fun _ hq => hq⟩) hw
set_option maxRecDepth 100000 in
theorem ch_J0_coder_7d493_0 {L : Nat} {xs : Nat → Int32} {hA hE h : am_H} {r : Option Int32} {this : Nat} (H : (if ((1 : Int32) : Int32) = 0 then am_fit .byte (1 : Int32) ∧ some (1 : Int32) = r ∧ h = hE else am_if (Nat.ble 1000001 this && Nat.ble this 1000004) (am_fit .byte 0 ∧ some 0 = r ∧ h = hE))) : am_wa L xs m_J0_coder_7d493 hA r hE 0 [.ref this] [] h := am_chunk am_mk_all okk_J0_coder_7d493 [] 7 _ _ _ _ H
theorem en_J0_isLatin1_aae02 {L : Nat} {xs : Nat → Int32} {h h' : am_H} {r : Int32} {this : Nat} (hre : 1000001 ≤ this ∧ this ≤ 1000004) (e1 : h'.1 = h.1) (e2 : h'.2.1 = h.2.1) (hw : am_wa L xs m_J0_isLatin1_aae02 h (some r) h' 0 [.ref this] [] h) : am_ok L xs m_J0_isLatin1_aae02 [.ref this] h (some r) h' := am_ok_of (ls := [.ref this]) mk_J0_isLatin1_aae02.2.1 mk_J0_isLatin1_aae02.2.2 ⟨fun z => (by cases z), fun z => absurd z (by decide +kernel)⟩ (fun z => absurd z (by decide +kernel)) ⟨fun _ => ⟨this, _, rfl, Or.inr ⟨rfl, hre⟩⟩, fun z => absurd z (by decide +kernel)⟩ e1 e2 (fun _ _ => ⟨Nat.le_of_ble_eq_true rfl, fun _ hq => hq⟩) hw
set_option maxRecDepth 100000 in
theorem ch_J0_isLatin1_aae02_0 {L : Nat} {xs : Nat → Int32} {hA hE h : am_H} {r : Option Int32} {this : Nat} (H : (if ((1 : Int32) : Int32) = 0 then am_fit .boolean (0 : Int32) ∧ some (0 : Int32) = r ∧ h = hE else am_if (Nat.ble 1000001 this && Nat.ble this 1000004) ((if (0 : Int32) = 0 then am_fit .boolean (1 : Int32) ∧ some (1 : Int32) = r ∧ h = hE else am_fit .boolean (0 : Int32) ∧ some (0 : Int32) = r ∧ h = hE)))) : am_wa L xs m_J0_isLatin1_aae02 hA r hE 0 [.ref this] [] h := am_chunk am_mk_all okk_J0_isLatin1_aae02 [] 9 _ _ _ _ H
theorem en_J0_checkIndex_df160 {L : Nat} {xs : Nat → Int32} {h h' : am_H} {a b : Int32} (e1 : h'.1 = h.1) (e2 : h'.2.1 = h.2.1) (hw : am_wa L xs m_J0_checkIndex_df160 h none h' 0 [.int a, .int b] [] h) : am_ok L xs m_J0_checkIndex_df160 [.int a, .int b] h none h' := am_ok_of (ls := [.int a, .int b]) mk_J0_checkIndex_df160.2.1 mk_J0_checkIndex_df160.2.2 ⟨fun _ => rfl, fun _ => rfl⟩ (fun z => absurd z (by decide +kernel)) ⟨fun z => absurd z (by decide +kernel), fun z => absurd z (by decide +kernel)⟩ e1 e2 (fun _ _ => ⟨Nat.le_of_ble_eq_true rfl, fun _ hq => hq⟩) hw
set_option maxRecDepth 100000 in
theorem ch_J0_checkIndex_df160_0 {L : Nat} {xs : Nat → Int32} {hA hE h : am_H} {r : Option Int32} {a b : Int32} (H : ∃ (x2 : Int32) (h1 : am_H), am_ok L xs m_J3_checkIndex_8e157 [.int a, .int b, .retAddr 0] h (some x2) h1 ∧ none = r ∧ h1 = hE) : am_wa L xs m_J0_checkIndex_df160 hA r hE 0 [.int a, .int b] [] h := am_chunk am_mk_all okk_J0_checkIndex_df160 [] 7 _ _ _ _ H
theorem en_J1_charAt_3b067 {L : Nat} {xs : Nat → Int32} {h h' : am_H} {r : Int32} {a : Nat} {b : Int32} (e1 : h'.1 = h.1) (e2 : h'.2.1 = h.2.1) (hw : am_wa L xs m_J1_charAt_3b067 h (some r) h' 0 [.ref a, .int b] [] h) : am_ok L xs m_J1_charAt_3b067 [.ref a, .int b] h (some r) h' := am_ok_of (ls := [.ref a, .int b]) mk_J1_charAt_3b067.2.1 mk_J1_charAt_3b067.2.2 ⟨fun z => (by cases z), fun z => absurd z (by decide +kernel)⟩ (fun z => absurd z (by decide +kernel)) ⟨fun z => absurd z (by decide +kernel), fun z => absurd z (by decide +kernel)⟩ e1 e2 (fun _ _ => ⟨Nat.le_of_ble_eq_true rfl, fun _ hq => hq⟩) hw
set_option maxRecDepth 100000 in
theorem ch_J1_charAt_3b067_0 {L : Nat} {xs : Nat → Int32} {hA hE h : am_H} {r : Option Int32} {a : Nat} {b : Int32} (H : am_if (Nat.ble 1000011 a && Nat.ble a 1000014) (∃ h1, am_ok L xs m_J0_checkIndex_df160 [.int b, .int (nI (am_sl (a - 1000011)))] h none h1 ∧ am_if (Nat.ble 1000011 a && Nat.ble a 1000014) ((¬ ((b : Int32) < 0 ∨ am_sl (a - 1000011) ≤ Int32.toNatClampNeg b)) ∧ am_fit .char (Int32.toUInt32 ((am_sb (a - 1000011) (Int32.toNatClampNeg b)) &&& (255 : Int32)) % 65536).toInt32 ∧ some (Int32.toUInt32 ((am_sb (a - 1000011) (Int32.toNatClampNeg b)) &&& (255 : Int32)) % 65536).toInt32 = r ∧ h1 = hE))) : am_wa L xs m_J1_charAt_3b067 hA r hE 0 [.ref a, .int b] [] h := am_chunk am_mk_all okk_J1_charAt_3b067 [] 12 _ _ _ _ H
theorem en_J7_fill_53178 {L : Nat} {xs : Nat → Int32} {h h' : am_H} {a : Nat} {b : Int32} (e1 : h'.1 = h.1) (e2 : h'.2.1 = h.2.1) (hw : am_wa L xs m_J7_fill_53178 h none h' 0 [.ref a, .int b, .null, .null] [] h) : am_ok L xs m_J7_fill_53178 [.ref a, .int b] h none h' := am_ok_of (ls := [.ref a, .int b, .null, .null]) mk_J7_fill_53178.2.1 mk_J7_fill_53178.2.2 ⟨fun _ => rfl, fun _ => rfl⟩ (fun z => absurd z (by decide +kernel)) ⟨fun z => absurd z (by decide +kernel), fun z => absurd z (by decide +kernel)⟩ e1 e2 (fun _ _ => ⟨Nat.le_of_ble_eq_true rfl, fun _ hq => hq⟩) hw
set_option maxRecDepth 100000 in
theorem ch_J7_fill_53178_0 {L : Nat} {xs : Nat → Int32} {hA hE h : am_H} {r : Option Int32} {a : Nat} {b : Int32} (H : am_b (am_len h a) (fun x1 => am_wa L xs m_J7_fill_53178 hA r hE 5 [.ref a, .int b, .int (0 : Int32), .int x1] [] h)) : am_wa L xs m_J7_fill_53178 hA r hE 0 [.ref a, .int b, .null, .null] [] h := am_chunk am_mk_all okk_J7_fill_53178 [(5, [0, 1, 2, 3])] 7 _ _ _ _ H
set_option maxRecDepth 100000 in
theorem ch_J7_fill_53178_5 {L : Nat} {xs : Nat → Int32} {hA hE h : am_H} {r : Option Int32} {l0 : Nat} {l1 l2 l3 : Int32} (H : (if (l2 : Int32) < l3 then am_b (am_sI h .int l0 l2 l1) (fun h1 => am_wa L xs m_J7_fill_53178 hA r hE 5 [.ref l0, .int l1, .int (l2 + (1 : Int32)), .int l3] [] h1) else none = r ∧ h = hE)) : am_wa L xs m_J7_fill_53178 hA r hE 5 [.ref l0, .int l1, .int l2, .int l3] [] h := am_chunk am_mk_all okk_J7_fill_53178 [(5, [0, 1, 2, 3])] 11 _ _ _ _ H
set_option maxRecDepth 100000 in
theorem ch_J3_checkIndex_8e157_0 {L : Nat} {xs : Nat → Int32} {hA hE h : am_H} {r : Option Int32} {a b : Int32} (H : (if (a : Int32) < 0 then False else (if (a : Int32) < b then am_fit .int a ∧ some a = r ∧ h = hE else False))) : am_wa L xs m_J3_checkIndex_8e157 hA r hE 0 [.int a, .int b, .retAddr 0] [] h := am_chunk am_mk_all okk_J3_checkIndex_8e157 [] 8 _ _ _ _ H
end
section
/-! CHUNKS: what the abstract machine asks at each place where a chunk begins (by program); the entries of the methods -/
theorem en_X4_init {L : Nat} {xs : Nat → Int32} {h h' : am_H} {this : Nat} (e1 : h'.1 = h.1 + 97) (e2 : h'.2.1 = h.2.1 + 929) (hw : am_wa L xs m_X4_init h none h' 0 [.ref this, .null] [] h) : am_ok L xs m_X4_init [.ref this] h none h' := am_ok_of (ls := [.ref this, .null]) mk_X4_init.2.1 mk_X4_init.2.2 ⟨fun _ => rfl, fun _ => rfl⟩ (fun _ => rfl) ⟨fun z => absurd z (by decide +kernel), fun _ => ⟨this, _, rfl⟩⟩ e1 e2 (fun _ _ => ⟨Nat.le_of_ble_eq_true rfl, fun _ hq => hq⟩) hw
set_option maxRecDepth 100000 in
theorem ch_X4_init_0 {L : Nat} {xs : Nat → Int32} {hA hE h : am_H} {r : Option Int32} {this : Nat} (H : am_Al m_X4_init hA h 1 (am_df 0).length ∧ ∃ h1, (am_ok L xs m_X0_init [.ref (Prod.fst h)] (am_push h (am_df 0).length (.inr (0, am_df 0))) none h1 ∧ am_Al m_X4_init hA (am_push h (am_df 0).length (.inr (0, am_df 0))) (tm_mcs m_X0_init).1 (tm_mcs m_X0_init).2) ∧ am_b (am_pF h1 this 4 0 (.ref (Prod.fst h))) (fun h2 => am_Al m_X4_init hA h2 1 (am_df 0).length ∧ ∃ h3, (am_ok L xs m_X0_init [.ref (Prod.fst h2)] (am_push h2 (am_df 0).length (.inr (0, am_df 0))) none h3 ∧ am_Al m_X4_init hA (am_push h2 (am_df 0).length (.inr (0, am_df 0))) (tm_mcs m_X0_init).1 (tm_mcs m_X0_init).2) ∧ am_b (am_pF h3 this 4 1 (.ref (Prod.fst h2))) (fun h4 => am_Al m_X4_init hA h4 1 (am_df 3).length ∧ ∃ h5, (am_ok L xs m_X3_init [.ref (Prod.fst h4)] (am_push h4 (am_df 3).length (.inr (3, am_df 3))) none h5 ∧ am_Al m_X4_init hA (am_push h4 (am_df 3).length (.inr (3, am_df 3))) (tm_mcs m_X3_init).1 (tm_mcs m_X3_init).2) ∧ am_b (am_pF h5 this 4 2 (.ref (Prod.fst h4))) (fun h6 => am_Al m_X4_init hA h6 1 (am_df 1).length ∧ ∃ h7, (am_ok L xs m_X1_init [.ref (Prod.fst h6)] (am_push h6 (am_df 1).length (.inr (1, am_df 1))) none h7 ∧ am_Al m_X4_init hA (am_push h6 (am_df 1).length (.inr (1, am_df 1))) (tm_mcs m_X1_init).1 (tm_mcs m_X1_init).2) ∧ am_b (am_pF h7 this 4 3 (.ref (Prod.fst h6))) (fun h8 => ((¬ ((2 : Int32) : Int32) < 0) ∧ (Int32.toNatClampNeg (2 : Int32)) ≤ 1000) ∧ am_Al m_X4_init hA h8 1 (Int32.toNatClampNeg (2 : Int32)) ∧ am_b (am_pF (am_push h8 (Int32.toNatClampNeg (2 : Int32)) (.inl (.object (am_cn 0), (Int32.toNatClampNeg (2 : Int32)), .inr (.inr (.inr (.inr (fun _ => none))))))) this 4 4 (.ref (Prod.fst h8))) (fun h9 => ((¬ ((2 : Int32) : Int32) < 0) ∧ (Int32.toNatClampNeg (2 : Int32)) ≤ 1000) ∧ am_Al m_X4_init hA h9 1 (Int32.toNatClampNeg (2 : Int32)) ∧ am_b (am_pF (am_push h9 (Int32.toNatClampNeg (2 : Int32)) (.inl (am_aty 1, (Int32.toNatClampNeg (2 : Int32)), .inl (fun _ => 0)))) this 4 5 (.ref (Prod.fst h9))) (fun h10 => ((¬ ((3 : Int32) : Int32) < 0) ∧ (Int32.toNatClampNeg (3 : Int32)) ≤ 1000) ∧ am_Al m_X4_init hA h10 1 (Int32.toNatClampNeg (3 : Int32)) ∧ am_b (am_pF (am_push h10 (Int32.toNatClampNeg (3 : Int32)) (.inl (.object (am_cn 2), (Int32.toNatClampNeg (3 : Int32)), .inr (.inr (.inr (.inr (fun _ => none))))))) this 4 6 (.ref (Prod.fst h10))) (fun h11 => am_b (am_gR h11 this 4 0) (fun a12 => ∃ h13, am_ok L xs m_X0_begin [.ref a12, .int (3 : Int32), .int (2 : Int32), .int (2 : Int32), .int (1 : Int32)] h11 none h13 ∧ am_wa L xs m_X4_init hA r hE 84 [.ref this, .int (0 : Int32)] [] h13))))))))) : am_wa L xs m_X4_init hA r hE 0 [.ref this, .null] [] h := am_chunk am_mk_all okk_X4_init [(84, [0, 1]), (110, [0, 1])] 45 _ _ _ _ H
set_option maxRecDepth 100000 in
theorem ch_X4_init_84 {L : Nat} {xs : Nat → Int32} {hA hE h : am_H} {r : Option Int32} {l0 : Nat} {l1 : Int32} (H : (if (l1 : Int32) < (2 : Int32) then am_b (am_gR h l0 4 4) (fun a1 => am_Al m_X4_init hA h 1 (am_df 0).length ∧ ∃ h2, (am_ok L xs m_X0_init [.ref (Prod.fst h)] (am_push h (am_df 0).length (.inr (0, am_df 0))) none h2 ∧ am_Al m_X4_init hA (am_push h (am_df 0).length (.inr (0, am_df 0))) (tm_mcs m_X0_init).1 (tm_mcs m_X0_init).2) ∧ am_b (am_sA h2 (am_cn 0) 0 a1 l1 (Prod.fst h)) (fun h3 => am_wa L xs m_X4_init hA r hE 84 [.ref l0, .int (l1 + (1 : Int32))] [] h3)) else am_wa L xs m_X4_init hA r hE 110 [.ref l0, .int (0 : Int32)] [] h)) : am_wa L xs m_X4_init hA r hE 84 [.ref l0, .int l1] [] h := am_chunk am_mk_all okk_X4_init [(84, [0, 1]), (110, [0, 1])] 14 _ _ _ _ H
set_option maxRecDepth 100000 in
theorem ch_X4_init_110 {L : Nat} {xs : Nat → Int32} {hA hE h : am_H} {r : Option Int32} {l0 : Nat} {l1 : Int32} (H : (if (l1 : Int32) < (3 : Int32) then am_b (am_gR h l0 4 6) (fun a1 => am_Al m_X4_init hA h 1 (am_df 2).length ∧ ∃ h2, (am_ok L xs m_X2_init [.ref (Prod.fst h)] (am_push h (am_df 2).length (.inr (2, am_df 2))) none h2 ∧ am_Al m_X4_init hA (am_push h (am_df 2).length (.inr (2, am_df 2))) (tm_mcs m_X2_init).1 (tm_mcs m_X2_init).2) ∧ am_b (am_sA h2 (am_cn 2) 2 a1 l1 (Prod.fst h)) (fun h3 => am_wa L xs m_X4_init hA r hE 110 [.ref l0, .int (l1 + (1 : Int32))] [] h3)) else none = r ∧ h = hE)) : am_wa L xs m_X4_init hA r hE 110 [.ref l0, .int l1] [] h := am_chunk am_mk_all okk_X4_init [(84, [0, 1]), (110, [0, 1])] 14 _ _ _ _ H
theorem en_X4_write {L : Nat} {xs : Nat → Int32} {h h' : am_H} {r : Int32} {this : Nat} {a : Int32} (hre : am_cls h this = some 4) (e1 : h'.1 = h.1) (e2 : h'.2.1 = h.2.1) (hw : am_wa L xs m_X4_write h (some r) h' 0 [.ref this, .int a] [] h) : am_ok L xs m_X4_write [.ref this, .int a] h (some r) h' := am_ok_of (ls := [.ref this, .int a]) mk_X4_write.2.1 mk_X4_write.2.2 ⟨fun z => (by cases z), fun z => absurd z (by decide +kernel)⟩ (fun z => absurd z (by decide +kernel)) ⟨fun _ => ⟨this, _, rfl, Or.inl hre⟩, fun z => absurd z (by decide +kernel)⟩ e1 e2 (fun _ _ => ⟨Nat.le_of_ble_eq_true rfl, fun _ hq => hq⟩) hw
set_option maxRecDepth 100000 in
theorem ch_X4_write_0 {L : Nat} {xs : Nat → Int32} {hA hE h : am_H} {r : Option Int32} {this : Nat} {a : Int32} (H : (if (a : Int32) < 0 then am_fit .int (-3 : Int32) ∧ some (-3 : Int32) = r ∧ h = hE else (if ((255 : Int32) : Int32) < a then am_fit .int (-3 : Int32) ∧ some (-3 : Int32) = r ∧ h = hE else am_b (am_gR h this 4 2) (fun a1 => ∃ (x3 : Int32) (h2 : am_H), am_ok L xs m_X3_isFull [.ref a1] h (some x3) h2 ∧ (if (x3 : Int32) = 0 then am_b (am_gR h2 this 4 2) (fun a4 => ∃ (x6 : Int32) (h5 : am_H), am_ok L xs m_X3_add [.ref a4, .int a] h2 (some x6) h5 ∧ am_fit .int x6 ∧ some x6 = r ∧ h5 = hE) else am_fit .int (-5 : Int32) ∧ some (-5 : Int32) = r ∧ h2 = hE))))) : am_wa L xs m_X4_write hA r hE 0 [.ref this, .int a] [] h := am_chunk am_mk_all okk_X4_write [] 15 _ _ _ _ H
theorem en_X4_erase {L : Nat} {xs : Nat → Int32} {h h' : am_H} {r : Int32} {this : Nat} (hre : am_cls h this = some 4) (e1 : h'.1 = h.1) (e2 : h'.2.1 = h.2.1) (hw : am_wa L xs m_X4_erase h (some r) h' 0 [.ref this] [] h) : am_ok L xs m_X4_erase [.ref this] h (some r) h' := am_ok_of (ls := [.ref this]) mk_X4_erase.2.1 mk_X4_erase.2.2 ⟨fun z => (by cases z), fun z => absurd z (by decide +kernel)⟩ (fun z => absurd z (by decide +kernel)) ⟨fun _ => ⟨this, _, rfl, Or.inl hre⟩, fun z => absurd z (by decide +kernel)⟩ e1 e2 (fun _ _ => ⟨Nat.le_of_ble_eq_true rfl, fun _ hq => hq⟩) hw
set_option maxRecDepth 100000 in
theorem ch_X4_erase_0 {L : Nat} {xs : Nat → Int32} {hA hE h : am_H} {r : Option Int32} {this : Nat} (H : am_b (am_gR h this 4 2) (fun a1 => ∃ (x3 : Int32) (h2 : am_H), am_ok L xs m_X3_clear [.ref a1] h (some x3) h2 ∧ am_fit .int x3 ∧ some x3 = r ∧ h2 = hE)) : am_wa L xs m_X4_erase hA r hE 0 [.ref this] [] h := am_chunk am_mk_all okk_X4_erase [] 5 _ _ _ _ H
theorem en_X4_fault {L : Nat} {xs : Nat → Int32} {h h' : am_H} {r : Int32} {this : Nat} (hre : am_cls h this = some 4) (e1 : h'.1 = h.1) (e2 : h'.2.1 = h.2.1) (hw : am_wa L xs m_X4_fault h (some r) h' 0 [.ref this] [] h) : am_ok L xs m_X4_fault [.ref this] h (some r) h' := am_ok_of (ls := [.ref this]) mk_X4_fault.2.1 mk_X4_fault.2.2 ⟨fun z => (by cases z), fun z => absurd z (by decide +kernel)⟩ (fun z => absurd z (by decide +kernel)) ⟨fun _ => ⟨this, _, rfl, Or.inl hre⟩, fun z => absurd z (by decide +kernel)⟩ e1 e2 (fun _ _ => ⟨Nat.le_of_ble_eq_true rfl, fun _ hq => hq⟩) hw
set_option maxRecDepth 100000 in
theorem ch_X4_fault_0 {L : Nat} {xs : Nat → Int32} {hA hE h : am_H} {r : Option Int32} {this : Nat} (H : am_b (am_gR h this 4 1) (fun a1 => am_b (am_gR h this 4 0) (fun a2 => ∃ h3, am_ok L xs m_X0_copyFrom [.ref a1, .ref a2] h none h3 ∧ am_b (am_gR h3 this 4 2) (fun a4 => am_b (am_gR h3 this 4 1) (fun a5 => ∃ (x7 : Int32) (h6 : am_H), am_ok L xs m_X3_readInto [.ref a4, .ref a5] h3 (some x7) h6 ∧ am_fit .int x7 ∧ some x7 = r ∧ h6 = hE))))) : am_wa L xs m_X4_fault hA r hE 0 [.ref this] [] h := am_chunk am_mk_all okk_X4_fault [] 12 _ _ _ _ H
theorem en_X4_mesh {L : Nat} {xs : Nat → Int32} {h h' : am_H} {r : Int32} {this : Nat} (hre : am_cls h this = some 4) (e1 : h'.1 = h.1) (e2 : h'.2.1 = h.2.1) (hw : am_wa L xs m_X4_mesh h (some r) h' 0 [.ref this, .null] [] h) : am_ok L xs m_X4_mesh [.ref this] h (some r) h' := am_ok_of (ls := [.ref this, .null]) mk_X4_mesh.2.1 mk_X4_mesh.2.2 ⟨fun z => (by cases z), fun z => absurd z (by decide +kernel)⟩ (fun z => absurd z (by decide +kernel)) ⟨fun _ => ⟨this, _, rfl, Or.inl hre⟩, fun z => absurd z (by decide +kernel)⟩ e1 e2 (fun _ _ => ⟨Nat.le_of_ble_eq_true rfl, fun _ hq => hq⟩) hw
set_option maxRecDepth 100000 in
theorem ch_X4_mesh_0 {L : Nat} {xs : Nat → Int32} {hA hE h : am_H} {r : Option Int32} {this : Nat} (H : am_b (am_gR h this 4 1) (fun a1 => am_b (am_gR h this 4 0) (fun a2 => ∃ h3, am_ok L xs m_X0_copyFrom [.ref a1, .ref a2] h none h3 ∧ am_b (am_gR h3 this 4 2) (fun a4 => am_b (am_gR h3 this 4 1) (fun a5 => ∃ (x7 : Int32) (h6 : am_H), am_ok L xs m_X3_readInto [.ref a4, .ref a5] h3 (some x7) h6 ∧ (if (x7 : Int32) = (-1 : Int32) then am_b (am_gR h6 this 4 0) (fun a8 => am_b (am_gR h6 this 4 1) (fun a9 => ∃ h10, am_ok L xs m_X0_copyFrom [.ref a8, .ref a9] h6 none h10 ∧ am_b (am_gR h10 this 4 0) (fun a11 => ∃ h12, am_ok L xs m_X0_forgetCycles [.ref a11] h10 none h12 ∧ am_b (am_gR h12 this 4 3) (fun a13 => ∃ h14, am_ok L xs m_X1_forget [.ref a13] h12 none h14 ∧ am_wa L xs m_X4_mesh hA r hE 56 [.ref this, .int (0 : Int32)] [] h14)))) else am_fit .int (-4 : Int32) ∧ some (-4 : Int32) = r ∧ h6 = hE)))))) : am_wa L xs m_X4_mesh hA r hE 0 [.ref this, .null] [] h := am_chunk am_mk_all okk_X4_mesh [(56, [0, 1]), (76, [0, 1])] 27 _ _ _ _ H
set_option maxRecDepth 100000 in
theorem ch_X4_mesh_56 {L : Nat} {xs : Nat → Int32} {hA hE h : am_H} {r : Option Int32} {l0 : Nat} {l1 : Int32} (H : (if (l1 : Int32) < (2 : Int32) then am_b (am_gR h l0 4 5) (fun a1 => (((0 : Int32) : Int32) = 0 ∨ ((0 : Int32) : Int32) = 1) ∧ am_b (am_sI h .boolean a1 l1 (0 : Int32)) (fun h2 => am_wa L xs m_X4_mesh hA r hE 56 [.ref l0, .int (l1 + (1 : Int32))] [] h2)) else am_wa L xs m_X4_mesh hA r hE 76 [.ref l0, .int (0 : Int32)] [] h)) : am_wa L xs m_X4_mesh hA r hE 56 [.ref l0, .int l1] [] h := am_chunk am_mk_all okk_X4_mesh [(56, [0, 1]), (76, [0, 1])] 12 _ _ _ _ H
set_option maxRecDepth 100000 in
theorem ch_X4_mesh_76 {L : Nat} {xs : Nat → Int32} {hA hE h : am_H} {r : Option Int32} {l0 : Nat} {l1 : Int32} (H : (if (l1 : Int32) < (3 : Int32) then am_b (am_gR h l0 4 6) (fun a1 => am_b (am_lA h (am_cn 2) a1 l1) (fun a2 => ∃ h3, am_ok L xs m_X2_lose [.ref a2] h none h3 ∧ am_wa L xs m_X4_mesh hA r hE 76 [.ref l0, .int (l1 + (1 : Int32))] [] h3)) else am_b (am_gR h l0 4 2) (fun a4 => ∃ (x6 : Int32) (h5 : am_H), am_ok L xs m_X3_clear [.ref a4] h (some x6) h5 ∧ am_b (am_gR h5 l0 4 2) (fun a7 => ∃ (x9 : Int32) (h8 : am_H), am_ok L xs m_X3_clausesRead [.ref a7] h5 (some x9) h8 ∧ am_fit .int x9 ∧ some x9 = r ∧ h8 = hE)))) : am_wa L xs m_X4_mesh hA r hE 76 [.ref l0, .int l1] [] h := am_chunk am_mk_all okk_X4_mesh [(56, [0, 1]), (76, [0, 1])] 12 _ _ _ _ H
theorem en_X4_station {L : Nat} {xs : Nat → Int32} {h h' : am_H} {r : Int32} {this : Nat} {a b : Int32} (hre : am_cls h this = some 4) (e1 : h'.1 = h.1) (e2 : h'.2.1 = h.2.1) (hw : am_wa L xs m_X4_station h (some r) h' 0 [.ref this, .int a, .int b] [] h) : am_ok L xs m_X4_station [.ref this, .int a, .int b] h (some r) h' := am_ok_of (ls := [.ref this, .int a, .int b]) mk_X4_station.2.1 mk_X4_station.2.2 ⟨fun z => (by cases z), fun z => absurd z (by decide +kernel)⟩ (fun z => absurd z (by decide +kernel)) ⟨fun _ => ⟨this, _, rfl, Or.inl hre⟩, fun z => absurd z (by decide +kernel)⟩ e1 e2 (fun _ _ => ⟨Nat.le_of_ble_eq_true rfl, fun _ hq => hq⟩) hw
set_option maxRecDepth 100000 in
theorem ch_X4_station_0 {L : Nat} {xs : Nat → Int32} {hA hE h : am_H} {r : Option Int32} {this : Nat} {a b : Int32} (H : am_b (am_gR h this 4 0) (fun a1 => ∃ (x3 : Int32) (h2 : am_H), am_ok L xs m_X0_isStation [.ref a1, .int a] h (some x3) h2 ∧ (if (x3 : Int32) = 0 then am_fit .int (-2 : Int32) ∧ some (-2 : Int32) = r ∧ h2 = hE else ((b = nI 0 → am_b (am_gR h2 this 4 0) (fun a21 => am_b (am_gR h2 a21 0 5) (fun a22 => am_b (am_lI h2 .int a22 a) (fun x23 => am_fit .int x23 ∧ some x23 = r ∧ h2 = hE)))) ∧ (¬ b = nI 0 → (b = nI 1 → am_b (am_gR h2 this 4 0) (fun a18 => am_b (am_gR h2 a18 0 6) (fun a19 => am_b (am_lI h2 .int a19 a) (fun x20 => am_fit .int x20 ∧ some x20 = r ∧ h2 = hE)))) ∧ (¬ b = nI 1 → (b = nI 2 → am_b (am_gR h2 this 4 0) (fun a15 => am_b (am_gR h2 a15 0 7) (fun a16 => am_b (am_lI h2 .int a16 a) (fun x17 => am_fit .int x17 ∧ some x17 = r ∧ h2 = hE)))) ∧ (¬ b = nI 2 → (b = nI 3 → am_b (am_gR h2 this 4 0) (fun a12 => ∃ (x14 : Int32) (h13 : am_H), am_ok L xs m_X0_near [.ref a12, .int a] h2 (some x14) h13 ∧ am_fit .int x14 ∧ some x14 = r ∧ h13 = hE)) ∧ (¬ b = nI 3 → (b = nI 4 → am_b (am_gR h2 this 4 0) (fun a9 => am_b (am_gR h2 a9 0 8) (fun a10 => am_b (am_lI h2 .int a10 a) (fun x11 => am_fit .int x11 ∧ some x11 = r ∧ h2 = hE)))) ∧ (¬ b = nI 4 → (b = nI 5 → am_b (am_gR h2 this 4 0) (fun a4 => ∃ (x6 : Int32) (h5 : am_H), am_ok L xs m_X0_covered [.ref a4] h2 (some x6) h5 ∧ ∃ (x8 : Int32) (h7 : am_H), am_ok L xs m_X4_has [.int x6, .int a] h5 (some x8) h7 ∧ (if (x8 : Int32) = 0 then am_fit .int (0 : Int32) ∧ some (0 : Int32) = r ∧ h7 = hE else am_fit .int (1 : Int32) ∧ some (1 : Int32) = r ∧ h7 = hE))) ∧ (¬ b = nI 5 → am_fit .int (-3 : Int32) ∧ some (-3 : Int32) = r ∧ h2 = hE)))))))))) : am_wa L xs m_X4_station hA r hE 0 [.ref this, .int a, .int b] [] h := am_chunk am_mk_all okk_X4_station [] 17 _ _ _ _ H
theorem en_X4_slot {L : Nat} {xs : Nat → Int32} {h h' : am_H} {r : Int32} {this : Nat} {a b : Int32} (hre : am_cls h this = some 4) (e1 : h'.1 = h.1) (e2 : h'.2.1 = h.2.1) (hw : am_wa L xs m_X4_slot h (some r) h' 0 [.ref this, .int a, .int b] [] h) : am_ok L xs m_X4_slot [.ref this, .int a, .int b] h (some r) h' := am_ok_of (ls := [.ref this, .int a, .int b]) mk_X4_slot.2.1 mk_X4_slot.2.2 ⟨fun z => (by cases z), fun z => absurd z (by decide +kernel)⟩ (fun z => absurd z (by decide +kernel)) ⟨fun _ => ⟨this, _, rfl, Or.inl hre⟩, fun z => absurd z (by decide +kernel)⟩ e1 e2 (fun _ _ => ⟨Nat.le_of_ble_eq_true rfl, fun _ hq => hq⟩) hw
set_option maxRecDepth 100000 in
theorem ch_X4_slot_0 {L : Nat} {xs : Nat → Int32} {hA hE h : am_H} {r : Option Int32} {this : Nat} {a b : Int32} (H : am_b (am_gR h this 4 0) (fun a1 => ∃ (x3 : Int32) (h2 : am_H), am_ok L xs m_X0_isSlot [.ref a1, .int a] h (some x3) h2 ∧ (if (x3 : Int32) = 0 then am_fit .int (-2 : Int32) ∧ some (-2 : Int32) = r ∧ h2 = hE else ((b = nI 0 → am_b (am_gR h2 this 4 0) (fun a10 => ∃ (x12 : Int32) (h11 : am_H), am_ok L xs m_X0_holders [.ref a10, .int a] h2 (some x12) h11 ∧ am_fit .int x12 ∧ some x12 = r ∧ h11 = hE)) ∧ (¬ b = nI 0 → (b = nI 1 → am_b (am_gR h2 this 4 0) (fun a7 => ∃ (x9 : Int32) (h8 : am_H), am_ok L xs m_X0_contenders [.ref a7, .int a] h2 (some x9) h8 ∧ am_fit .int x9 ∧ some x9 = r ∧ h8 = hE)) ∧ (¬ b = nI 1 → (b = nI 2 → am_b (am_gR h2 this 4 0) (fun a4 => ∃ (x6 : Int32) (h5 : am_H), am_ok L xs m_X0_clashesBy [.ref a4, .int ((1 : Int32) <<< (a &&& 31))] h2 (some x6) h5 ∧ am_fit .int x6 ∧ some x6 = r ∧ h5 = hE)) ∧ (¬ b = nI 2 → am_fit .int (-3 : Int32) ∧ some (-3 : Int32) = r ∧ h2 = hE))))))) : am_wa L xs m_X4_slot hA r hE 0 [.ref this, .int a, .int b] [] h := am_chunk am_mk_all okk_X4_slot [] 15 _ _ _ _ H
theorem en_X4_cycle {L : Nat} {xs : Nat → Int32} {h h' : am_H} {r : Int32} {this : Nat} {a : Int32} (hre : am_cls h this = some 4) (e1 : h'.1 = h.1) (e2 : h'.2.1 = h.2.1) (hw : am_wa L xs m_X4_cycle h (some r) h' 0 [.ref this, .int a] [] h) : am_ok L xs m_X4_cycle [.ref this, .int a] h (some r) h' := am_ok_of (ls := [.ref this, .int a]) mk_X4_cycle.2.1 mk_X4_cycle.2.2 ⟨fun z => (by cases z), fun z => absurd z (by decide +kernel)⟩ (fun z => absurd z (by decide +kernel)) ⟨fun _ => ⟨this, _, rfl, Or.inl hre⟩, fun z => absurd z (by decide +kernel)⟩ e1 e2 (fun _ _ => ⟨Nat.le_of_ble_eq_true rfl, fun _ hq => hq⟩) hw
set_option maxRecDepth 100000 in
theorem ch_X4_cycle_0 {L : Nat} {xs : Nat → Int32} {hA hE h : am_H} {r : Option Int32} {this : Nat} {a : Int32} (H : am_b (am_gR h this 4 0) (fun a1 => ∃ (x3 : Int32) (h2 : am_H), am_ok L xs m_X0_isSlot [.ref a1, .int a] h (some x3) h2 ∧ (if (x3 : Int32) = 0 then am_fit .int (-2 : Int32) ∧ some (-2 : Int32) = r ∧ h2 = hE else am_b (am_gR h2 this 4 3) (fun a4 => am_b (am_gR h2 this 4 0) (fun a5 => ∃ h6, am_ok L xs m_X1_remember [.ref a4, .ref a5] h2 none h6 ∧ am_b (am_gR h6 this 4 0) (fun a7 => ∃ h8, am_ok L xs m_X0_runCycle [.ref a7, .int a] h6 none h8 ∧ am_b (am_gR h8 this 4 0) (fun a9 => am_b (am_gR h8 a9 0 9) (fun a10 => am_b (am_lI h8 .int a10 (4 : Int32)) (fun x11 => am_fit .int x11 ∧ some x11 = r ∧ h8 = hE))))))))) : am_wa L xs m_X4_cycle hA r hE 0 [.ref this, .int a] [] h := am_chunk am_mk_all okk_X4_cycle [] 21 _ _ _ _ H
theorem en_X4_frame {L : Nat} {xs : Nat → Int32} {h h' : am_H} {r : Int32} {this : Nat} {a : Int32} (hre : am_cls h this = some 4) (e1 : h'.1 = h.1) (e2 : h'.2.1 = h.2.1) (hw : am_wa L xs m_X4_frame h (some r) h' 0 [.ref this, .int a, .null] [] h) : am_ok L xs m_X4_frame [.ref this, .int a] h (some r) h' := am_ok_of (ls := [.ref this, .int a, .null]) mk_X4_frame.2.1 mk_X4_frame.2.2 ⟨fun z => (by cases z), fun z => absurd z (by decide +kernel)⟩ (fun z => absurd z (by decide +kernel)) ⟨fun _ => ⟨this, _, rfl, Or.inl hre⟩, fun z => absurd z (by decide +kernel)⟩ e1 e2 (fun _ _ => ⟨Nat.le_of_ble_eq_true rfl, fun _ hq => hq⟩) hw
set_option maxRecDepth 100000 in
theorem ch_X4_frame_0 {L : Nat} {xs : Nat → Int32} {hA hE h : am_H} {r : Option Int32} {this : Nat} {a : Int32} (H : (if (a : Int32) < (1 : Int32) then am_fit .int (-3 : Int32) ∧ some (-3 : Int32) = r ∧ h = hE else (if ((12 : Int32) : Int32) < a then am_fit .int (-3 : Int32) ∧ some (-3 : Int32) = r ∧ h = hE else am_b (am_gR h this 4 3) (fun a1 => am_b (am_gR h this 4 0) (fun a2 => ∃ h3, am_ok L xs m_X1_remember [.ref a1, .ref a2] h none h3 ∧ am_wa L xs m_X4_frame hA r hE 27 [.ref this, .int a, .int (0 : Int32)] [] h3))))) : am_wa L xs m_X4_frame hA r hE 0 [.ref this, .int a, .null] [] h := am_chunk am_mk_all okk_X4_frame [(27, [0, 1, 2])] 15 _ _ _ _ H
set_option maxRecDepth 100000 in
theorem ch_X4_frame_27 {L : Nat} {xs : Nat → Int32} {hA hE h : am_H} {r : Option Int32} {l0 : Nat} {l1 l2 : Int32} (H : (if (l2 : Int32) < l1 then am_b (am_gR h l0 4 0) (fun a1 => ∃ h2, am_ok L xs m_X0_runFrame [.ref a1] h none h2 ∧ am_wa L xs m_X4_frame hA r hE 27 [.ref l0, .int l1, .int (l2 + (1 : Int32))] [] h2) else am_b (am_gR h l0 4 0) (fun a3 => ∃ (x5 : Int32) (h4 : am_H), am_ok L xs m_X0_covered [.ref a3] h (some x5) h4 ∧ ∃ (x7 : Int32) (h6 : am_H), am_ok L xs m_J6_bitCount_0f7a4 [.int x5] h4 (some x7) h6 ∧ am_fit .int x7 ∧ some x7 = r ∧ h6 = hE))) : am_wa L xs m_X4_frame hA r hE 27 [.ref l0, .int l1, .int l2] [] h := am_chunk am_mk_all okk_X4_frame [(27, [0, 1, 2])] 10 _ _ _ _ H
theorem en_X4_give {L : Nat} {xs : Nat → Int32} {h h' : am_H} {r : Int32} {this : Nat} {a b : Int32} (hre : am_cls h this = some 4) (e1 : h'.1 = h.1) (e2 : h'.2.1 = h.2.1) (hw : am_wa L xs m_X4_give h (some r) h' 0 [.ref this, .int a, .int b] [] h) : am_ok L xs m_X4_give [.ref this, .int a, .int b] h (some r) h' := am_ok_of (ls := [.ref this, .int a, .int b]) mk_X4_give.2.1 mk_X4_give.2.2 ⟨fun z => (by cases z), fun z => absurd z (by decide +kernel)⟩ (fun z => absurd z (by decide +kernel)) ⟨fun _ => ⟨this, _, rfl, Or.inl hre⟩, fun z => absurd z (by decide +kernel)⟩ e1 e2 (fun _ _ => ⟨Nat.le_of_ble_eq_true rfl, fun _ hq => hq⟩) hw
set_option maxRecDepth 100000 in
theorem ch_X4_give_0 {L : Nat} {xs : Nat → Int32} {hA hE h : am_H} {r : Option Int32} {this : Nat} {a b : Int32} (H : am_b (am_gR h this 4 0) (fun a1 => ∃ (x3 : Int32) (h2 : am_H), am_ok L xs m_X0_isStation [.ref a1, .int a] h (some x3) h2 ∧ (if (x3 : Int32) = 0 then am_fit .int (-2 : Int32) ∧ some (-2 : Int32) = r ∧ h2 = hE else am_b (am_gR h2 this 4 0) (fun a4 => ∃ (x6 : Int32) (h5 : am_H), am_ok L xs m_X0_isSlot [.ref a4, .int b] h2 (some x6) h5 ∧ (if (x6 : Int32) = 0 then am_fit .int (-2 : Int32) ∧ some (-2 : Int32) = r ∧ h5 = hE else am_b (am_gR h5 this 4 0) (fun a7 => am_b (am_gR h5 a7 0 8) (fun a8 => am_b (am_lI h5 .int a8 a) (fun x9 => ∃ (x11 : Int32) (h10 : am_H), am_ok L xs m_X4_has [.int x9, .int b] h5 (some x11) h10 ∧ (if (x11 : Int32) = 0 then am_fit .int (-4 : Int32) ∧ some (-4 : Int32) = r ∧ h10 = hE else am_b (am_gR h10 this 4 3) (fun a12 => am_b (am_gR h10 this 4 0) (fun a13 => ∃ h14, am_ok L xs m_X1_remember [.ref a12, .ref a13] h10 none h14 ∧ am_b (am_gR h14 this 4 0) (fun a15 => am_b (am_gR h14 a15 0 8) (fun a16 => am_b (am_lI h14 .int a16 a) (fun x17 => am_b (am_sI h14 .int a16 a (x17 &&& (((1 : Int32) <<< (b &&& 31)) ^^^ (-1 : Int32)))) (fun h18 => am_b (am_gR h18 this 4 0) (fun a19 => am_b (am_gR h18 a19 0 8) (fun a20 => am_b (am_lI h18 .int a20 a) (fun x21 => ∃ (x23 : Int32) (h22 : am_H), am_ok L xs m_J6_bitCount_0f7a4 [.int x21] h18 (some x23) h22 ∧ am_fit .int x23 ∧ some x23 = r ∧ h22 = hE)))))))))))))))))) : am_wa L xs m_X4_give hA r hE 0 [.ref this, .int a, .int b] [] h := am_chunk am_mk_all okk_X4_give [] 44 _ _ _ _ H
theorem en_X4_join {L : Nat} {xs : Nat → Int32} {h h' : am_H} {r : Int32} {this : Nat} {a b : Int32} (hre : am_cls h this = some 4) (e1 : h'.1 = h.1) (e2 : h'.2.1 = h.2.1) (hw : am_wa L xs m_X4_join h (some r) h' 0 [.ref this, .int a, .int b] [] h) : am_ok L xs m_X4_join [.ref this, .int a, .int b] h (some r) h' := am_ok_of (ls := [.ref this, .int a, .int b]) mk_X4_join.2.1 mk_X4_join.2.2 ⟨fun z => (by cases z), fun z => absurd z (by decide +kernel)⟩ (fun z => absurd z (by decide +kernel)) ⟨fun _ => ⟨this, _, rfl, Or.inl hre⟩, fun z => absurd z (by decide +kernel)⟩ e1 e2 (fun _ _ => ⟨Nat.le_of_ble_eq_true rfl, fun _ hq => hq⟩) hw
set_option maxRecDepth 100000 in
theorem ch_X4_join_0 {L : Nat} {xs : Nat → Int32} {hA hE h : am_H} {r : Option Int32} {this : Nat} {a b : Int32} (H : am_b (am_gR h this 4 0) (fun a1 => ∃ (x3 : Int32) (h2 : am_H), am_ok L xs m_X0_isPair [.ref a1, .int a, .int b] h (some x3) h2 ∧ (if (x3 : Int32) = 0 then am_fit .int (-2 : Int32) ∧ some (-2 : Int32) = r ∧ h2 = hE else am_b (am_gR h2 this 4 0) (fun a4 => am_b (am_gR h2 a4 0 7) (fun a5 => am_b (am_lI h2 .int a5 a) (fun x6 => ∃ (x8 : Int32) (h7 : am_H), am_ok L xs m_X4_has [.int x6, .int b] h2 (some x8) h7 ∧ (if (x8 : Int32) = 0 then am_b (am_gR h7 this 4 3) (fun a9 => am_b (am_gR h7 this 4 0) (fun a10 => ∃ h11, am_ok L xs m_X1_remember [.ref a9, .ref a10] h7 none h11 ∧ am_b (am_gR h11 this 4 0) (fun a12 => ∃ h13, am_ok L xs m_X0_link [.ref a12, .int a, .int b] h11 none h13 ∧ am_b (am_gR h13 this 4 0) (fun a14 => ∃ (x16 : Int32) (h15 : am_H), am_ok L xs m_X0_clashes [.ref a14] h13 (some x16) h15 ∧ am_fit .int x16 ∧ some x16 = r ∧ h15 = hE)))) else am_fit .int (-4 : Int32) ∧ some (-4 : Int32) = r ∧ h7 = hE))))))) : am_wa L xs m_X4_join hA r hE 0 [.ref this, .int a, .int b] [] h := am_chunk am_mk_all okk_X4_join [] 29 _ _ _ _ H
theorem en_X4_part {L : Nat} {xs : Nat → Int32} {h h' : am_H} {r : Int32} {this : Nat} {a b : Int32} (hre : am_cls h this = some 4) (e1 : h'.1 = h.1) (e2 : h'.2.1 = h.2.1) (hw : am_wa L xs m_X4_part h (some r) h' 0 [.ref this, .int a, .int b] [] h) : am_ok L xs m_X4_part [.ref this, .int a, .int b] h (some r) h' := am_ok_of (ls := [.ref this, .int a, .int b]) mk_X4_part.2.1 mk_X4_part.2.2 ⟨fun z => (by cases z), fun z => absurd z (by decide +kernel)⟩ (fun z => absurd z (by decide +kernel)) ⟨fun _ => ⟨this, _, rfl, Or.inl hre⟩, fun z => absurd z (by decide +kernel)⟩ e1 e2 (fun _ _ => ⟨Nat.le_of_ble_eq_true rfl, fun _ hq => hq⟩) hw
set_option maxRecDepth 100000 in
theorem ch_X4_part_0 {L : Nat} {xs : Nat → Int32} {hA hE h : am_H} {r : Option Int32} {this : Nat} {a b : Int32} (H : am_b (am_gR h this 4 0) (fun a1 => ∃ (x3 : Int32) (h2 : am_H), am_ok L xs m_X0_isPair [.ref a1, .int a, .int b] h (some x3) h2 ∧ (if (x3 : Int32) = 0 then am_fit .int (-2 : Int32) ∧ some (-2 : Int32) = r ∧ h2 = hE else am_b (am_gR h2 this 4 0) (fun a4 => am_b (am_gR h2 a4 0 7) (fun a5 => am_b (am_lI h2 .int a5 a) (fun x6 => ∃ (x8 : Int32) (h7 : am_H), am_ok L xs m_X4_has [.int x6, .int b] h2 (some x8) h7 ∧ (if (x8 : Int32) = 0 then am_fit .int (-4 : Int32) ∧ some (-4 : Int32) = r ∧ h7 = hE else am_b (am_gR h7 this 4 3) (fun a9 => am_b (am_gR h7 this 4 0) (fun a10 => ∃ h11, am_ok L xs m_X1_remember [.ref a9, .ref a10] h7 none h11 ∧ am_b (am_gR h11 this 4 0) (fun a12 => ∃ h13, am_ok L xs m_X0_cut [.ref a12, .int a, .int b] h11 none h13 ∧ am_b (am_gR h13 this 4 0) (fun a14 => ∃ (x16 : Int32) (h15 : am_H), am_ok L xs m_X0_clashes [.ref a14] h13 (some x16) h15 ∧ am_fit .int x16 ∧ some x16 = r ∧ h15 = hE))))))))))) : am_wa L xs m_X4_part hA r hE 0 [.ref this, .int a, .int b] [] h := am_chunk am_mk_all okk_X4_part [] 29 _ _ _ _ H
theorem en_X4_undo {L : Nat} {xs : Nat → Int32} {h h' : am_H} {r : Int32} {this : Nat} (hre : am_cls h this = some 4) (e1 : h'.1 = h.1) (e2 : h'.2.1 = h.2.1) (hw : am_wa L xs m_X4_undo h (some r) h' 0 [.ref this] [] h) : am_ok L xs m_X4_undo [.ref this] h (some r) h' := am_ok_of (ls := [.ref this]) mk_X4_undo.2.1 mk_X4_undo.2.2 ⟨fun z => (by cases z), fun z => absurd z (by decide +kernel)⟩ (fun z => absurd z (by decide +kernel)) ⟨fun _ => ⟨this, _, rfl, Or.inl hre⟩, fun z => absurd z (by decide +kernel)⟩ e1 e2 (fun _ _ => ⟨Nat.le_of_ble_eq_true rfl, fun _ hq => hq⟩) hw
set_option maxRecDepth 100000 in
theorem ch_X4_undo_0 {L : Nat} {xs : Nat → Int32} {hA hE h : am_H} {r : Option Int32} {this : Nat} (H : am_b (am_gR h this 4 3) (fun a1 => ∃ (x3 : Int32) (h2 : am_H), am_ok L xs m_X1_size [.ref a1] h (some x3) h2 ∧ (if (x3 : Int32) = 0 then am_fit .int (-4 : Int32) ∧ some (-4 : Int32) = r ∧ h2 = hE else am_b (am_gR h2 this 4 3) (fun a4 => am_b (am_gR h2 this 4 0) (fun a5 => ∃ h6, am_ok L xs m_X1_recall [.ref a4, .ref a5] h2 none h6 ∧ am_b (am_gR h6 this 4 3) (fun a7 => ∃ (x9 : Int32) (h8 : am_H), am_ok L xs m_X1_size [.ref a7] h6 (some x9) h8 ∧ am_fit .int x9 ∧ some x9 = r ∧ h8 = hE)))))) : am_wa L xs m_X4_undo hA r hE 0 [.ref this] [] h := am_chunk am_mk_all okk_X4_undo [] 14 _ _ _ _ H
theorem en_X4_keep {L : Nat} {xs : Nat → Int32} {h h' : am_H} {r : Int32} {this : Nat} {a : Int32} (hre : am_cls h this = some 4) (e1 : h'.1 = h.1) (e2 : h'.2.1 = h.2.1) (hw : am_wa L xs m_X4_keep h (some r) h' 0 [.ref this, .int a] [] h) : am_ok L xs m_X4_keep [.ref this, .int a] h (some r) h' := am_ok_of (ls := [.ref this, .int a]) mk_X4_keep.2.1 mk_X4_keep.2.2 ⟨fun z => (by cases z), fun z => absurd z (by decide +kernel)⟩ (fun z => absurd z (by decide +kernel)) ⟨fun _ => ⟨this, _, rfl, Or.inl hre⟩, fun z => absurd z (by decide +kernel)⟩ e1 e2 (fun _ _ => ⟨Nat.le_of_ble_eq_true rfl, fun _ hq => hq⟩) hw
set_option maxRecDepth 100000 in
theorem ch_X4_keep_0 {L : Nat} {xs : Nat → Int32} {hA hE h : am_H} {r : Option Int32} {this : Nat} {a : Int32} (H : (if (a : Int32) < 0 then am_fit .int (-2 : Int32) ∧ some (-2 : Int32) = r ∧ h = hE else (if (a : Int32) < (2 : Int32) then am_b (am_gR h this 4 4) (fun a1 => am_b (am_lA h (am_cn 0) a1 a) (fun a2 => am_b (am_gR h this 4 0) (fun a3 => ∃ h4, am_ok L xs m_X0_copyFrom [.ref a2, .ref a3] h none h4 ∧ am_b (am_gR h4 this 4 5) (fun a5 => (((1 : Int32) : Int32) = 0 ∨ ((1 : Int32) : Int32) = 1) ∧ am_b (am_sI h4 .boolean a5 a (1 : Int32)) (fun h6 => am_b (am_gR h6 this 4 0) (fun a7 => ∃ (x9 : Int32) (h8 : am_H), am_ok L xs m_X0_covered [.ref a7] h6 (some x9) h8 ∧ ∃ (x11 : Int32) (h10 : am_H), am_ok L xs m_J6_bitCount_0f7a4 [.int x9] h8 (some x11) h10 ∧ am_fit .int x11 ∧ some x11 = r ∧ h10 = hE)))))) else am_fit .int (-2 : Int32) ∧ some (-2 : Int32) = r ∧ h = hE))) : am_wa L xs m_X4_keep hA r hE 0 [.ref this, .int a] [] h := am_chunk am_mk_all okk_X4_keep [] 23 _ _ _ _ H
theorem en_X4_back {L : Nat} {xs : Nat → Int32} {h h' : am_H} {r : Int32} {this : Nat} {a : Int32} (hre : am_cls h this = some 4) (e1 : h'.1 = h.1) (e2 : h'.2.1 = h.2.1) (hw : am_wa L xs m_X4_back h (some r) h' 0 [.ref this, .int a] [] h) : am_ok L xs m_X4_back [.ref this, .int a] h (some r) h' := am_ok_of (ls := [.ref this, .int a]) mk_X4_back.2.1 mk_X4_back.2.2 ⟨fun z => (by cases z), fun z => absurd z (by decide +kernel)⟩ (fun z => absurd z (by decide +kernel)) ⟨fun _ => ⟨this, _, rfl, Or.inl hre⟩, fun z => absurd z (by decide +kernel)⟩ e1 e2 (fun _ _ => ⟨Nat.le_of_ble_eq_true rfl, fun _ hq => hq⟩) hw
set_option maxRecDepth 100000 in
theorem ch_X4_back_0 {L : Nat} {xs : Nat → Int32} {hA hE h : am_H} {r : Option Int32} {this : Nat} {a : Int32} (H : (if (a : Int32) < 0 then am_fit .int (-2 : Int32) ∧ some (-2 : Int32) = r ∧ h = hE else (if (a : Int32) < (2 : Int32) then am_b (am_gR h this 4 5) (fun a1 => am_b (am_lI h .boolean a1 a) (fun x2 => (if (x2 : Int32) = 0 then am_fit .int (-4 : Int32) ∧ some (-4 : Int32) = r ∧ h = hE else am_b (am_gR h this 4 0) (fun a3 => am_b (am_gR h this 4 4) (fun a4 => am_b (am_lA h (am_cn 0) a4 a) (fun a5 => ∃ h6, am_ok L xs m_X0_copyFrom [.ref a3, .ref a5] h none h6 ∧ am_b (am_gR h6 this 4 3) (fun a7 => ∃ h8, am_ok L xs m_X1_forget [.ref a7] h6 none h8 ∧ am_b (am_gR h8 this 4 0) (fun a9 => ∃ (x11 : Int32) (h10 : am_H), am_ok L xs m_X0_covered [.ref a9] h8 (some x11) h10 ∧ ∃ (x13 : Int32) (h12 : am_H), am_ok L xs m_J6_bitCount_0f7a4 [.int x11] h10 (some x13) h12 ∧ am_fit .int x13 ∧ some x13 = r ∧ h12 = hE)))))))) else am_fit .int (-2 : Int32) ∧ some (-2 : Int32) = r ∧ h = hE))) : am_wa L xs m_X4_back hA r hE 0 [.ref this, .int a] [] h := am_chunk am_mk_all okk_X4_back [] 26 _ _ _ _ H
theorem en_X4_phase {L : Nat} {xs : Nat → Int32} {h h' : am_H} {r : Int32} {this : Nat} {a : Int32} (hre : am_cls h this = some 4) (e1 : h'.1 = h.1) (e2 : h'.2.1 = h.2.1) (hw : am_wa L xs m_X4_phase h (some r) h' 0 [.ref this, .int a] [] h) : am_ok L xs m_X4_phase [.ref this, .int a] h (some r) h' := am_ok_of (ls := [.ref this, .int a]) mk_X4_phase.2.1 mk_X4_phase.2.2 ⟨fun z => (by cases z), fun z => absurd z (by decide +kernel)⟩ (fun z => absurd z (by decide +kernel)) ⟨fun _ => ⟨this, _, rfl, Or.inl hre⟩, fun z => absurd z (by decide +kernel)⟩ e1 e2 (fun _ _ => ⟨Nat.le_of_ble_eq_true rfl, fun _ hq => hq⟩) hw
set_option maxRecDepth 100000 in
theorem ch_X4_phase_0 {L : Nat} {xs : Nat → Int32} {hA hE h : am_H} {r : Option Int32} {this : Nat} {a : Int32} (H : (if (a : Int32) < 0 then am_fit .int (-3 : Int32) ∧ some (-3 : Int32) = r ∧ h = hE else (if (a : Int32) < (5 : Int32) then am_b (am_gR h this 4 0) (fun a1 => am_b (am_gI h a1 0 4) (fun x2 => (if (x2 : Int32) = 0 then am_fit .int (-4 : Int32) ∧ some (-4 : Int32) = r ∧ h = hE else am_b (am_gR h this 4 0) (fun a3 => am_b (am_gR h a3 0 9) (fun a4 => am_b (am_lI h .int a4 a) (fun x5 => am_fit .int x5 ∧ some x5 = r ∧ h = hE)))))) else am_fit .int (-3 : Int32) ∧ some (-3 : Int32) = r ∧ h = hE))) : am_wa L xs m_X4_phase hA r hE 0 [.ref this, .int a] [] h := am_chunk am_mk_all okk_X4_phase [] 17 _ _ _ _ H
theorem en_X4_after {L : Nat} {xs : Nat → Int32} {h h' : am_H} {r : Int32} {this : Nat} (hre : am_cls h this = some 4) (e1 : h'.1 = h.1) (e2 : h'.2.1 = h.2.1) (hw : am_wa L xs m_X4_after h (some r) h' 0 [.ref this, .null] [] h) : am_ok L xs m_X4_after [.ref this] h (some r) h' := am_ok_of (ls := [.ref this, .null]) mk_X4_after.2.1 mk_X4_after.2.2 ⟨fun z => (by cases z), fun z => absurd z (by decide +kernel)⟩ (fun z => absurd z (by decide +kernel)) ⟨fun _ => ⟨this, _, rfl, Or.inl hre⟩, fun z => absurd z (by decide +kernel)⟩ e1 e2 (fun _ _ => ⟨Nat.le_of_ble_eq_true rfl, fun _ hq => hq⟩) hw
set_option maxRecDepth 100000 in
theorem ch_X4_after_0 {L : Nat} {xs : Nat → Int32} {hA hE h : am_H} {r : Option Int32} {this : Nat} (H : am_b (am_gR h this 4 1) (fun a1 => am_b (am_gR h this 4 0) (fun a2 => ∃ h3, am_ok L xs m_X0_copyFrom [.ref a1, .ref a2] h none h3 ∧ am_wa L xs m_X4_after hA r hE 13 [.ref this, .int (0 : Int32)] [] h3))) : am_wa L xs m_X4_after hA r hE 0 [.ref this, .null] [] h := am_chunk am_mk_all okk_X4_after [(13, [0, 1])] 9 _ _ _ _ H
set_option maxRecDepth 100000 in
theorem ch_X4_after_13 {L : Nat} {xs : Nat → Int32} {hA hE h : am_H} {r : Option Int32} {l0 : Nat} {l1 : Int32} (H : (if (l1 : Int32) < (12 : Int32) then am_b (am_gR h l0 4 1) (fun a1 => ∃ (x3 : Int32) (h2 : am_H), am_ok L xs m_X0_isDone [.ref a1] h (some x3) h2 ∧ (if (x3 : Int32) = 0 then am_b (am_gR h2 l0 4 1) (fun a4 => ∃ h5, am_ok L xs m_X0_runFrame [.ref a4] h2 none h5 ∧ am_wa L xs m_X4_after hA r hE 13 [.ref l0, .int (l1 + (1 : Int32))] [] h5) else am_fit .int l1 ∧ some l1 = r ∧ h2 = hE)) else am_b (am_gR h l0 4 1) (fun a6 => ∃ (x8 : Int32) (h7 : am_H), am_ok L xs m_X0_isDone [.ref a6] h (some x8) h7 ∧ (if (x8 : Int32) = 0 then am_fit .int (-1 : Int32) ∧ some (-1 : Int32) = r ∧ h7 = hE else am_fit .int (12 : Int32) ∧ some (12 : Int32) = r ∧ h7 = hE)))) : am_wa L xs m_X4_after hA r hE 13 [.ref l0, .int l1] [] h := am_chunk am_mk_all okk_X4_after [(13, [0, 1])] 14 _ _ _ _ H
theorem en_X4_spoils {L : Nat} {xs : Nat → Int32} {h h' : am_H} {r : Int32} {this : Nat} {a b : Int32} (hre : am_cls h this = some 4) (e1 : h'.1 = h.1) (e2 : h'.2.1 = h.2.1) (hw : am_wa L xs m_X4_spoils h (some r) h' 0 [.ref this, .int a, .int b] [] h) : am_ok L xs m_X4_spoils [.ref this, .int a, .int b] h (some r) h' := am_ok_of (ls := [.ref this, .int a, .int b]) mk_X4_spoils.2.1 mk_X4_spoils.2.2 ⟨fun z => (by cases z), fun z => absurd z (by decide +kernel)⟩ (fun z => absurd z (by decide +kernel)) ⟨fun _ => ⟨this, _, rfl, Or.inl hre⟩, fun z => absurd z (by decide +kernel)⟩ e1 e2 (fun _ _ => ⟨Nat.le_of_ble_eq_true rfl, fun _ hq => hq⟩) hw
set_option maxRecDepth 100000 in
theorem ch_X4_spoils_0 {L : Nat} {xs : Nat → Int32} {hA hE h : am_H} {r : Option Int32} {this : Nat} {a b : Int32} (H : am_b (am_gR h this 4 0) (fun a1 => ∃ (x3 : Int32) (h2 : am_H), am_ok L xs m_X0_isPair [.ref a1, .int a, .int b] h (some x3) h2 ∧ (if (x3 : Int32) = 0 then am_fit .int (-2 : Int32) ∧ some (-2 : Int32) = r ∧ h2 = hE else am_b (am_gR h2 this 4 0) (fun a4 => am_b (am_gR h2 a4 0 7) (fun a5 => am_b (am_lI h2 .int a5 a) (fun x6 => ∃ (x8 : Int32) (h7 : am_H), am_ok L xs m_X4_has [.int x6, .int b] h2 (some x8) h7 ∧ (if (x8 : Int32) = 0 then am_b (am_gR h7 this 4 1) (fun a9 => am_b (am_gR h7 this 4 0) (fun a10 => ∃ h11, am_ok L xs m_X0_copyFrom [.ref a9, .ref a10] h7 none h11 ∧ am_b (am_gR h11 this 4 1) (fun a12 => ∃ h13, am_ok L xs m_X0_link [.ref a12, .int a, .int b] h11 none h13 ∧ am_b (am_gR h13 this 4 1) (fun a14 => ∃ (x16 : Int32) (h15 : am_H), am_ok L xs m_X0_clashes [.ref a14] h13 (some x16) h15 ∧ am_b (am_gR h15 this 4 0) (fun a17 => ∃ (x19 : Int32) (h18 : am_H), am_ok L xs m_X0_clashes [.ref a17] h15 (some x19) h18 ∧ am_fit .int (x16 - x19) ∧ some (x16 - x19) = r ∧ h18 = hE))))) else am_fit .int (-4 : Int32) ∧ some (-4 : Int32) = r ∧ h7 = hE))))))) : am_wa L xs m_X4_spoils hA r hE 0 [.ref this, .int a, .int b] [] h := am_chunk am_mk_all okk_X4_spoils [] 33 _ _ _ _ H
theorem en_X4_fewest {L : Nat} {xs : Nat → Int32} {h h' : am_H} {r : Int32} {this : Nat} (hre : am_cls h this = some 4) (e1 : h'.1 = h.1) (e2 : h'.2.1 = h.2.1) (hw : am_wa L xs m_X4_fewest h (some r) h' 0 [.ref this] [] h) : am_ok L xs m_X4_fewest [.ref this] h (some r) h' := am_ok_of (ls := [.ref this]) mk_X4_fewest.2.1 mk_X4_fewest.2.2 ⟨fun z => (by cases z), fun z => absurd z (by decide +kernel)⟩ (fun z => absurd z (by decide +kernel)) ⟨fun _ => ⟨this, _, rfl, Or.inl hre⟩, fun z => absurd z (by decide +kernel)⟩ e1 e2 (fun _ _ => ⟨Nat.le_of_ble_eq_true rfl, fun _ hq => hq⟩) hw
set_option maxRecDepth 100000 in
theorem ch_X4_fewest_0 {L : Nat} {xs : Nat → Int32} {hA hE h : am_H} {r : Option Int32} {this : Nat} (H : am_b (am_gR h this 4 1) (fun a1 => am_b (am_gR h this 4 0) (fun a2 => ∃ h3, am_ok L xs m_X0_copyFrom [.ref a1, .ref a2] h none h3 ∧ am_b (am_gR h3 this 4 1) (fun a4 => ∃ (x6 : Int32) (h5 : am_H), am_ok L xs m_X0_dealOneSlotEach [.ref a4] h3 (some x6) h5 ∧ am_fit .int x6 ∧ some x6 = r ∧ h5 = hE)))) : am_wa L xs m_X4_fewest hA r hE 0 [.ref this] [] h := am_chunk am_mk_all okk_X4_fewest [] 10 _ _ _ _ H
theorem en_X4_hops {L : Nat} {xs : Nat → Int32} {h h' : am_H} {r : Int32} {this : Nat} {a b : Int32} (hre : am_cls h this = some 4) (e1 : h'.1 = h.1) (e2 : h'.2.1 = h.2.1) (hw : am_wa L xs m_X4_hops h (some r) h' 0 [.ref this, .int a, .int b, .null, .null] [] h) : am_ok L xs m_X4_hops [.ref this, .int a, .int b] h (some r) h' := am_ok_of (ls := [.ref this, .int a, .int b, .null, .null]) mk_X4_hops.2.1 mk_X4_hops.2.2 ⟨fun z => (by cases z), fun z => absurd z (by decide +kernel)⟩ (fun z => absurd z (by decide +kernel)) ⟨fun _ => ⟨this, _, rfl, Or.inl hre⟩, fun z => absurd z (by decide +kernel)⟩ e1 e2 (fun _ _ => ⟨Nat.le_of_ble_eq_true rfl, fun _ hq => hq⟩) hw
set_option maxRecDepth 100000 in
theorem ch_X4_hops_0 {L : Nat} {xs : Nat → Int32} {hA hE h : am_H} {r : Option Int32} {this : Nat} {a b : Int32} (H : am_b (am_gR h this 4 0) (fun a1 => ∃ (x3 : Int32) (h2 : am_H), am_ok L xs m_X0_isPair [.ref a1, .int a, .int b] h (some x3) h2 ∧ (if (x3 : Int32) = 0 then am_fit .int (-2 : Int32) ∧ some (-2 : Int32) = r ∧ h2 = hE else am_wa L xs m_X4_hops hA r hE 22 [.ref this, .null, .int b, .int ((1 : Int32) <<< (a &&& 31)), .int (1 : Int32)] [] h2))) : am_wa L xs m_X4_hops hA r hE 0 [.ref this, .int a, .int b, .null, .null] [] h := am_chunk am_mk_all okk_X4_hops [(22, [0, 2, 3, 4])] 14 _ _ _ _ H
set_option maxRecDepth 100000 in
theorem ch_X4_hops_22 {L : Nat} {xs : Nat → Int32} {hA hE h : am_H} {r : Option Int32} {l0 : Nat} {l2 l3 l4 : Int32} (H : (if (l4 : Int32) < (8 : Int32) then am_b (am_gR h l0 4 0) (fun a1 => ∃ (x3 : Int32) (h2 : am_H), am_ok L xs m_X0_hearing [.ref a1, .int l3, .int (1 : Int32)] h (some x3) h2 ∧ ∃ (x5 : Int32) (h4 : am_H), am_ok L xs m_X4_has [.int (l3 ||| x3), .int l2] h2 (some x5) h4 ∧ (if (x5 : Int32) = 0 then am_wa L xs m_X4_hops hA r hE 22 [.ref l0, .null, .int l2, .int (l3 ||| x3), .int (l4 + (1 : Int32))] [] h4 else am_fit .int l4 ∧ some l4 = r ∧ h4 = hE)) else am_fit .int (-1 : Int32) ∧ some (-1 : Int32) = r ∧ h = hE)) : am_wa L xs m_X4_hops hA r hE 22 [.ref l0, .null, .int l2, .int l3, .int l4] [] h := am_chunk am_mk_all okk_X4_hops [(22, [0, 2, 3, 4])] 19 _ _ _ _ H
theorem en_X4_tally {L : Nat} {xs : Nat → Int32} {h h' : am_H} {r : Int32} {this : Nat} {a b c d e : Int32} (hre : am_cls h this = some 4) (e1 : h'.1 = h.1) (e2 : h'.2.1 = h.2.1) (hw : am_wa L xs m_X4_tally h (some r) h' 0 [.ref this, .int a, .int b, .int c, .int d, .int e] [] h) : am_ok L xs m_X4_tally [.ref this, .int a, .int b, .int c, .int d, .int e] h (some r) h' := am_ok_of (ls := [.ref this, .int a, .int b, .int c, .int d, .int e]) mk_X4_tally.2.1 mk_X4_tally.2.2 ⟨fun z => (by cases z), fun z => absurd z (by decide +kernel)⟩ (fun z => absurd z (by decide +kernel)) ⟨fun _ => ⟨this, _, rfl, Or.inl hre⟩, fun z => absurd z (by decide +kernel)⟩ e1 e2 (fun _ _ => ⟨Nat.le_of_ble_eq_true rfl, fun _ hq => hq⟩) hw
set_option maxRecDepth 100000 in
theorem ch_X4_tally_0 {L : Nat} {xs : Nat → Int32} {hA hE h : am_H} {r : Option Int32} {this : Nat} {a b c d e : Int32} (H : ∃ (x2 : Int32) (h1 : am_H), am_ok L xs m_X4_isTally [.int a] h (some x2) h1 ∧ (if (x2 : Int32) = 0 then am_fit .int (-2 : Int32) ∧ some (-2 : Int32) = r ∧ h1 = hE else (if (b : Int32) < 0 then am_fit .int (-3 : Int32) ∧ some (-3 : Int32) = r ∧ h1 = hE else (if ((3 : Int32) : Int32) < b then am_fit .int (-3 : Int32) ∧ some (-3 : Int32) = r ∧ h1 = hE else ∃ (x4 : Int32) (h3 : am_H), am_ok L xs m_X4_isNumber [.int c] h1 (some x4) h3 ∧ (if (x4 : Int32) = 0 then am_fit .int (-3 : Int32) ∧ some (-3 : Int32) = r ∧ h3 = hE else ∃ (x6 : Int32) (h5 : am_H), am_ok L xs m_X4_isNumber [.int d] h3 (some x6) h5 ∧ (if (x6 : Int32) = 0 then am_fit .int (-3 : Int32) ∧ some (-3 : Int32) = r ∧ h5 = hE else ∃ (x8 : Int32) (h7 : am_H), am_ok L xs m_X4_isNumber [.int e] h5 (some x8) h7 ∧ (if (x8 : Int32) = 0 then am_fit .int (-3 : Int32) ∧ some (-3 : Int32) = r ∧ h7 = hE else am_b (am_gR h7 this 4 6) (fun a9 => am_b (am_lA h7 (am_cn 2) a9 a) (fun a10 => ∃ h11, am_ok L xs m_X2_begin [.ref a10, .int b, .int c, .int d, .int e] h7 none h11 ∧ am_b (am_gR h11 this 4 6) (fun a12 => am_b (am_lA h11 (am_cn 2) a12 a) (fun a13 => am_b (am_gI h11 a13 2 1) (fun x14 => am_fit .int x14 ∧ some x14 = r ∧ h11 = hE)))))))))))) : am_wa L xs m_X4_tally hA r hE 0 [.ref this, .int a, .int b, .int c, .int d, .int e] [] h := am_chunk am_mk_all okk_X4_tally [] 33 _ _ _ _ H
theorem en_X4_append {L : Nat} {xs : Nat → Int32} {h h' : am_H} {r : Int32} {this : Nat} {a b : Int32} (hre : am_cls h this = some 4) (e1 : h'.1 = h.1) (e2 : h'.2.1 = h.2.1) (hw : am_wa L xs m_X4_append h (some r) h' 0 [.ref this, .int a, .int b] [] h) : am_ok L xs m_X4_append [.ref this, .int a, .int b] h (some r) h' := am_ok_of (ls := [.ref this, .int a, .int b]) mk_X4_append.2.1 mk_X4_append.2.2 ⟨fun z => (by cases z), fun z => absurd z (by decide +kernel)⟩ (fun z => absurd z (by decide +kernel)) ⟨fun _ => ⟨this, _, rfl, Or.inl hre⟩, fun z => absurd z (by decide +kernel)⟩ e1 e2 (fun _ _ => ⟨Nat.le_of_ble_eq_true rfl, fun _ hq => hq⟩) hw
set_option maxRecDepth 100000 in
theorem ch_X4_append_0 {L : Nat} {xs : Nat → Int32} {hA hE h : am_H} {r : Option Int32} {this : Nat} {a b : Int32} (H : ∃ (x2 : Int32) (h1 : am_H), am_ok L xs m_X4_isTally [.int a] h (some x2) h1 ∧ (if (x2 : Int32) = 0 then am_fit .int (-2 : Int32) ∧ some (-2 : Int32) = r ∧ h1 = hE else ∃ (x4 : Int32) (h3 : am_H), am_ok L xs m_X4_isTally [.int b] h1 (some x4) h3 ∧ (if (x4 : Int32) = 0 then am_fit .int (-2 : Int32) ∧ some (-2 : Int32) = r ∧ h3 = hE else am_b (am_gR h3 this 4 6) (fun a5 => am_b (am_lA h3 (am_cn 2) a5 a) (fun a6 => am_b (am_gI h3 a6 2 2) (fun x7 => (if (x7 : Int32) = 0 then am_b (am_gR h3 this 4 6) (fun a8 => am_b (am_lA h3 (am_cn 2) a8 b) (fun a9 => am_b (am_gI h3 a9 2 2) (fun x10 => (if (x10 : Int32) = 0 then am_b (am_gR h3 this 4 6) (fun a11 => am_b (am_lA h3 (am_cn 2) a11 a) (fun a12 => am_b (am_gI h3 a12 2 1) (fun x13 => am_b (am_gR h3 this 4 6) (fun a14 => am_b (am_lA h3 (am_cn 2) a14 b) (fun a15 => am_b (am_gI h3 a15 2 1) (fun x16 => (if ((8 : Int32) : Int32) < (x13 + x16) then am_fit .int (-13 : Int32) ∧ some (-13 : Int32) = r ∧ h3 = hE else am_b (am_gR h3 this 4 6) (fun a17 => am_b (am_lA h3 (am_cn 2) a17 a) (fun a18 => am_b (am_gR h3 this 4 6) (fun a19 => am_b (am_lA h3 (am_cn 2) a19 b) (fun a20 => ∃ h21, am_ok L xs m_X2_addAll [.ref a18, .ref a20] h3 none h21 ∧ am_b (am_gR h21 this 4 6) (fun a22 => am_b (am_lA h21 (am_cn 2) a22 a) (fun a23 => am_b (am_gI h21 a23 2 1) (fun x24 => am_fit .int x24 ∧ some x24 = r ∧ h21 = hE)))))))))))))) else am_fit .int (-11 : Int32) ∧ some (-11 : Int32) = r ∧ h3 = hE)))) else am_fit .int (-11 : Int32) ∧ some (-11 : Int32) = r ∧ h3 = hE))))))) : am_wa L xs m_X4_append hA r hE 0 [.ref this, .int a, .int b] [] h := am_chunk am_mk_all okk_X4_append [] 47 _ _ _ _ H
theorem en_X4_reckon {L : Nat} {xs : Nat → Int32} {h h' : am_H} {r : Int32} {this : Nat} {a b : Int32} (hre : am_cls h this = some 4) (e1 : h'.1 = h.1) (e2 : h'.2.1 = h.2.1) (hw : am_wa L xs m_X4_reckon h (some r) h' 0 [.ref this, .int a, .int b, .null] [] h) : am_ok L xs m_X4_reckon [.ref this, .int a, .int b] h (some r) h' := am_ok_of (ls := [.ref this, .int a, .int b, .null]) mk_X4_reckon.2.1 mk_X4_reckon.2.2 ⟨fun z => (by cases z), fun z => absurd z (by decide +kernel)⟩ (fun z => absurd z (by decide +kernel)) ⟨fun _ => ⟨this, _, rfl, Or.inl hre⟩, fun z => absurd z (by decide +kernel)⟩ e1 e2 (fun _ _ => ⟨Nat.le_of_ble_eq_true rfl, fun _ hq => hq⟩) hw
set_option maxRecDepth 100000 in
theorem ch_X4_reckon_0 {L : Nat} {xs : Nat → Int32} {hA hE h : am_H} {r : Option Int32} {this : Nat} {a b : Int32} (H : ∃ (x2 : Int32) (h1 : am_H), am_ok L xs m_X4_isTally [.int a] h (some x2) h1 ∧ (if (x2 : Int32) = 0 then am_fit .int (-2 : Int32) ∧ some (-2 : Int32) = r ∧ h1 = hE else (if (b : Int32) < 0 then am_fit .int (-3 : Int32) ∧ some (-3 : Int32) = r ∧ h1 = hE else (if ((3 : Int32) : Int32) < b then am_fit .int (-3 : Int32) ∧ some (-3 : Int32) = r ∧ h1 = hE else am_b (am_gR h1 this 4 6) (fun a3 => am_b (am_lA h1 (am_cn 2) a3 a) (fun a4 => am_b (am_gI h1 a4 2 2) (fun x5 => (if (x5 : Int32) = 0 then ((b = nI 0 → ∃ (x15 : Int32) (h14 : am_H), am_ok L xs m_X2_sum [.ref a4] h1 (some x15) h14 ∧ am_fit .int ((50000 : Int32) + x15) ∧ some ((50000 : Int32) + x15) = r ∧ h14 = hE) ∧ (¬ b = nI 0 → (b = nI 1 → am_b (am_gI h1 a4 2 1) (fun x11 => (if (x11 : Int32) = 0 then am_fit .int (-12 : Int32) ∧ some (-12 : Int32) = r ∧ h1 = hE else ∃ (x13 : Int32) (h12 : am_H), am_ok L xs m_X2_greatest [.ref a4] h1 (some x13) h12 ∧ am_fit .int ((50000 : Int32) + x13) ∧ some ((50000 : Int32) + x13) = r ∧ h12 = hE))) ∧ (¬ b = nI 1 → (b = nI 2 → am_b (am_gI h1 a4 2 1) (fun x8 => (if (x8 : Int32) = 0 then am_fit .int (-12 : Int32) ∧ some (-12 : Int32) = r ∧ h1 = hE else ∃ (x10 : Int32) (h9 : am_H), am_ok L xs m_X2_least [.ref a4] h1 (some x10) h9 ∧ am_fit .int ((50000 : Int32) + x10) ∧ some ((50000 : Int32) + x10) = r ∧ h9 = hE))) ∧ (¬ b = nI 2 → ∃ (x7 : Int32) (h6 : am_H), am_ok L xs m_X2_swing [.ref a4] h1 (some x7) h6 ∧ am_fit .int ((50000 : Int32) + x7) ∧ some ((50000 : Int32) + x7) = r ∧ h6 = hE)))) else am_fit .int (-11 : Int32) ∧ some (-11 : Int32) = r ∧ h1 = hE)))))))) : am_wa L xs m_X4_reckon hA r hE 0 [.ref this, .int a, .int b, .null] [] h := am_chunk am_mk_all okk_X4_reckon [] 27 _ _ _ _ H
theorem en_X4_pop {L : Nat} {xs : Nat → Int32} {h h' : am_H} {r : Int32} {this : Nat} {a : Int32} (hre : am_cls h this = some 4) (e1 : h'.1 = h.1) (e2 : h'.2.1 = h.2.1) (hw : am_wa L xs m_X4_pop h (some r) h' 0 [.ref this, .int a] [] h) : am_ok L xs m_X4_pop [.ref this, .int a] h (some r) h' := am_ok_of (ls := [.ref this, .int a]) mk_X4_pop.2.1 mk_X4_pop.2.2 ⟨fun z => (by cases z), fun z => absurd z (by decide +kernel)⟩ (fun z => absurd z (by decide +kernel)) ⟨fun _ => ⟨this, _, rfl, Or.inl hre⟩, fun z => absurd z (by decide +kernel)⟩ e1 e2 (fun _ _ => ⟨Nat.le_of_ble_eq_true rfl, fun _ hq => hq⟩) hw
set_option maxRecDepth 100000 in
theorem ch_X4_pop_0 {L : Nat} {xs : Nat → Int32} {hA hE h : am_H} {r : Option Int32} {this : Nat} {a : Int32} (H : ∃ (x2 : Int32) (h1 : am_H), am_ok L xs m_X4_isTally [.int a] h (some x2) h1 ∧ (if (x2 : Int32) = 0 then am_fit .int (-2 : Int32) ∧ some (-2 : Int32) = r ∧ h1 = hE else am_b (am_gR h1 this 4 6) (fun a3 => am_b (am_lA h1 (am_cn 2) a3 a) (fun a4 => am_b (am_gI h1 a4 2 2) (fun x5 => (if (x5 : Int32) = 0 then am_b (am_gR h1 this 4 6) (fun a6 => am_b (am_lA h1 (am_cn 2) a6 a) (fun a7 => am_b (am_gI h1 a7 2 1) (fun x8 => (if (x8 : Int32) = 0 then am_fit .int (-12 : Int32) ∧ some (-12 : Int32) = r ∧ h1 = hE else am_b (am_gR h1 this 4 6) (fun a9 => am_b (am_lA h1 (am_cn 2) a9 a) (fun a10 => ∃ (x12 : Int32) (h11 : am_H), am_ok L xs m_X2_takeLast [.ref a10] h1 (some x12) h11 ∧ am_fit .int ((50000 : Int32) + x12) ∧ some ((50000 : Int32) + x12) = r ∧ h11 = hE)))))) else am_fit .int (-11 : Int32) ∧ some (-11 : Int32) = r ∧ h1 = hE)))))) : am_wa L xs m_X4_pop hA r hE 0 [.ref this, .int a] [] h := am_chunk am_mk_all okk_X4_pop [] 24 _ _ _ _ H
theorem en_X4_each {L : Nat} {xs : Nat → Int32} {h h' : am_H} {r : Int32} {this : Nat} {a b : Int32} (hre : am_cls h this = some 4) (e1 : h'.1 = h.1) (e2 : h'.2.1 = h.2.1) (hw : am_wa L xs m_X4_each h (some r) h' 0 [.ref this, .int a, .int b, .null] [] h) : am_ok L xs m_X4_each [.ref this, .int a, .int b] h (some r) h' := am_ok_of (ls := [.ref this, .int a, .int b, .null]) mk_X4_each.2.1 mk_X4_each.2.2 ⟨fun z => (by cases z), fun z => absurd z (by decide +kernel)⟩ (fun z => absurd z (by decide +kernel)) ⟨fun _ => ⟨this, _, rfl, Or.inl hre⟩, fun z => absurd z (by decide +kernel)⟩ e1 e2 (fun _ _ => ⟨Nat.le_of_ble_eq_true rfl, fun _ hq => hq⟩) hw
set_option maxRecDepth 100000 in
theorem ch_X4_each_0 {L : Nat} {xs : Nat → Int32} {hA hE h : am_H} {r : Option Int32} {this : Nat} {a b : Int32} (H : ∃ (x2 : Int32) (h1 : am_H), am_ok L xs m_X4_isTally [.int a] h (some x2) h1 ∧ (if (x2 : Int32) = 0 then am_fit .int (-2 : Int32) ∧ some (-2 : Int32) = r ∧ h1 = hE else (if (b : Int32) < 0 then am_fit .int (-3 : Int32) ∧ some (-3 : Int32) = r ∧ h1 = hE else (if ((2 : Int32) : Int32) < b then am_fit .int (-3 : Int32) ∧ some (-3 : Int32) = r ∧ h1 = hE else am_b (am_gR h1 this 4 6) (fun a3 => am_b (am_lA h1 (am_cn 2) a3 a) (fun a4 => am_b (am_gI h1 a4 2 2) (fun x5 => (if (x5 : Int32) = 0 then (if (b : Int32) = 0 then ∃ h6, am_ok L xs m_X2_negate [.ref a4] h1 none h6 ∧ am_b (am_gI h6 a4 2 1) (fun x7 => am_fit .int x7 ∧ some x7 = r ∧ h6 = hE) else (if (b : Int32) = (1 : Int32) then ∃ h8, am_ok L xs m_X2_twice [.ref a4] h1 none h8 ∧ am_b (am_gI h8 a4 2 1) (fun x9 => am_fit .int x9 ∧ some x9 = r ∧ h8 = hE) else ∃ h10, am_ok L xs m_X2_sumUp [.ref a4] h1 none h10 ∧ am_b (am_gI h10 a4 2 1) (fun x11 => am_fit .int x11 ∧ some x11 = r ∧ h10 = hE))) else am_fit .int (-11 : Int32) ∧ some (-11 : Int32) = r ∧ h1 = hE)))))))) : am_wa L xs m_X4_each hA r hE 0 [.ref this, .int a, .int b, .null] [] h := am_chunk am_mk_all okk_X4_each [] 28 _ _ _ _ H
theorem en_X4_drop {L : Nat} {xs : Nat → Int32} {h h' : am_H} {r : Int32} {this : Nat} {a : Int32} (hre : am_cls h this = some 4) (e1 : h'.1 = h.1) (e2 : h'.2.1 = h.2.1) (hw : am_wa L xs m_X4_drop h (some r) h' 0 [.ref this, .int a, .null] [] h) : am_ok L xs m_X4_drop [.ref this, .int a] h (some r) h' := am_ok_of (ls := [.ref this, .int a, .null]) mk_X4_drop.2.1 mk_X4_drop.2.2 ⟨fun z => (by cases z), fun z => absurd z (by decide +kernel)⟩ (fun z => absurd z (by decide +kernel)) ⟨fun _ => ⟨this, _, rfl, Or.inl hre⟩, fun z => absurd z (by decide +kernel)⟩ e1 e2 (fun _ _ => ⟨Nat.le_of_ble_eq_true rfl, fun _ hq => hq⟩) hw
set_option maxRecDepth 100000 in
theorem ch_X4_drop_0 {L : Nat} {xs : Nat → Int32} {hA hE h : am_H} {r : Option Int32} {this : Nat} {a : Int32} (H : ∃ (x2 : Int32) (h1 : am_H), am_ok L xs m_X4_isTally [.int a] h (some x2) h1 ∧ (if (x2 : Int32) = 0 then am_fit .int (-2 : Int32) ∧ some (-2 : Int32) = r ∧ h1 = hE else am_b (am_gR h1 this 4 6) (fun a3 => am_b (am_lA h1 (am_cn 2) a3 a) (fun a4 => am_b (am_gI h1 a4 2 2) (fun x5 => (if (x5 : Int32) = 0 then am_b (am_gR h1 this 4 6) (fun a6 => am_b (am_lA h1 (am_cn 2) a6 a) (fun a7 => am_b (am_gI h1 a7 2 1) (fun x8 => am_b (am_gR h1 this 4 6) (fun a9 => am_b (am_lA h1 (am_cn 2) a9 a) (fun a10 => ∃ h11, am_ok L xs m_X2_lose [.ref a10] h1 none h11 ∧ am_fit .int x8 ∧ some x8 = r ∧ h11 = hE))))) else am_fit .int (-11 : Int32) ∧ some (-11 : Int32) = r ∧ h1 = hE)))))) : am_wa L xs m_X4_drop hA r hE 0 [.ref this, .int a, .null] [] h := am_chunk am_mk_all okk_X4_drop [] 23 _ _ _ _ H
theorem en_X4_told {L : Nat} {xs : Nat → Int32} {h h' : am_H} {r : Int32} {this : Nat} {a : Int32} (hre : am_cls h this = some 4) (e1 : h'.1 = h.1) (e2 : h'.2.1 = h.2.1) (hw : am_wa L xs m_X4_told h (some r) h' 0 [.ref this, .int a] [] h) : am_ok L xs m_X4_told [.ref this, .int a] h (some r) h' := am_ok_of (ls := [.ref this, .int a]) mk_X4_told.2.1 mk_X4_told.2.2 ⟨fun z => (by cases z), fun z => absurd z (by decide +kernel)⟩ (fun z => absurd z (by decide +kernel)) ⟨fun _ => ⟨this, _, rfl, Or.inl hre⟩, fun z => absurd z (by decide +kernel)⟩ e1 e2 (fun _ _ => ⟨Nat.le_of_ble_eq_true rfl, fun _ hq => hq⟩) hw
set_option maxRecDepth 100000 in
theorem ch_X4_told_0 {L : Nat} {xs : Nat → Int32} {hA hE h : am_H} {r : Option Int32} {this : Nat} {a : Int32} (H : ((a = nI 0 → am_b (am_gR h this 4 0) (fun a27 => am_b (am_gI h a27 0 0) (fun x28 => am_fit .int x28 ∧ some x28 = r ∧ h = hE))) ∧ (¬ a = nI 0 → (a = nI 1 → am_b (am_gR h this 4 0) (fun a25 => am_b (am_gI h a25 0 1) (fun x26 => am_fit .int x26 ∧ some x26 = r ∧ h = hE))) ∧ (¬ a = nI 1 → (a = nI 2 → am_b (am_gR h this 4 0) (fun a23 => am_b (am_gI h a23 0 2) (fun x24 => am_fit .int x24 ∧ some x24 = r ∧ h = hE))) ∧ (¬ a = nI 2 → (a = nI 3 → am_b (am_gR h this 4 0) (fun a20 => ∃ (x22 : Int32) (h21 : am_H), am_ok L xs m_X0_linkCount [.ref a20] h (some x22) h21 ∧ am_fit .int x22 ∧ some x22 = r ∧ h21 = hE)) ∧ (¬ a = nI 3 → (a = nI 4 → am_b (am_gR h this 4 0) (fun a17 => ∃ (x19 : Int32) (h18 : am_H), am_ok L xs m_X0_clashes [.ref a17] h (some x19) h18 ∧ am_fit .int x19 ∧ some x19 = r ∧ h18 = hE)) ∧ (¬ a = nI 4 → (a = nI 5 → am_b (am_gR h this 4 0) (fun a14 => ∃ (x16 : Int32) (h15 : am_H), am_ok L xs m_X0_covered [.ref a14] h (some x16) h15 ∧ am_fit .int x16 ∧ some x16 = r ∧ h15 = hE)) ∧ (¬ a = nI 5 → (a = nI 6 → am_b (am_gR h this 4 0) (fun a11 => ∃ (x13 : Int32) (h12 : am_H), am_ok L xs m_X0_isDone [.ref a11] h (some x13) h12 ∧ (if (x13 : Int32) = 0 then am_fit .int (0 : Int32) ∧ some (0 : Int32) = r ∧ h12 = hE else am_fit .int (1 : Int32) ∧ some (1 : Int32) = r ∧ h12 = hE))) ∧ (¬ a = nI 6 → (a = nI 7 → am_b (am_gR h this 4 0) (fun a9 => am_b (am_gI h a9 0 3) (fun x10 => am_fit .int x10 ∧ some x10 = r ∧ h = hE))) ∧ (¬ a = nI 7 → (a = nI 8 → ∃ (x8 : Int32) (h7 : am_H), am_ok L xs m_X4_numbersOfAll [.ref this] h (some x8) h7 ∧ am_fit .int x8 ∧ some x8 = r ∧ h7 = hE) ∧ (¬ a = nI 8 → (a = nI 9 → am_b (am_gR h this 4 3) (fun a4 => ∃ (x6 : Int32) (h5 : am_H), am_ok L xs m_X1_size [.ref a4] h (some x6) h5 ∧ am_fit .int x6 ∧ some x6 = r ∧ h5 = hE)) ∧ (¬ a = nI 9 → (a = nI 10 → am_b (am_gR h this 4 2) (fun a1 => ∃ (x3 : Int32) (h2 : am_H), am_ok L xs m_X3_length [.ref a1] h (some x3) h2 ∧ am_fit .int x3 ∧ some x3 = r ∧ h2 = hE)) ∧ (¬ a = nI 10 → am_fit .int (-3 : Int32) ∧ some (-3 : Int32) = r ∧ h = hE))))))))))))) : am_wa L xs m_X4_told hA r hE 0 [.ref this, .int a] [] h := am_chunk am_mk_all okk_X4_told [] 10 _ _ _ _ H
theorem en_X4_numbersOfAll {L : Nat} {xs : Nat → Int32} {h h' : am_H} {r : Int32} {this : Nat} (hre : am_cls h this = some 4) (e1 : h'.1 = h.1) (e2 : h'.2.1 = h.2.1) (hw : am_wa L xs m_X4_numbersOfAll h (some r) h' 0 [.ref this, .null, .null] [] h) : am_ok L xs m_X4_numbersOfAll [.ref this] h (some r) h' := am_ok_of (ls := [.ref this, .null, .null]) mk_X4_numbersOfAll.2.1 mk_X4_numbersOfAll.2.2 ⟨fun z => (by cases z), fun z => absurd z (by decide +kernel)⟩ (fun z => absurd z (by decide +kernel)) ⟨fun _ => ⟨this, _, rfl, Or.inl hre⟩, fun z => absurd z (by decide +kernel)⟩ e1 e2 (fun _ _ => ⟨Nat.le_of_ble_eq_true rfl, fun _ hq => hq⟩) hw
set_option maxRecDepth 100000 in
theorem ch_X4_numbersOfAll_0 {L : Nat} {xs : Nat → Int32} {hA hE h : am_H} {r : Option Int32} {this : Nat} (H : am_wa L xs m_X4_numbersOfAll hA r hE 4 [.ref this, .int (0 : Int32), .int (0 : Int32)] [] h) : am_wa L xs m_X4_numbersOfAll hA r hE 0 [.ref this, .null, .null] [] h := am_chunk am_mk_all okk_X4_numbersOfAll [(4, [0, 1, 2])] 6 _ _ _ _ H
set_option maxRecDepth 100000 in
theorem ch_X4_numbersOfAll_4 {L : Nat} {xs : Nat → Int32} {hA hE h : am_H} {r : Option Int32} {l0 : Nat} {l1 l2 : Int32} (H : (if (l2 : Int32) < (3 : Int32) then am_b (am_gR h l0 4 6) (fun a1 => am_b (am_lA h (am_cn 2) a1 l2) (fun a2 => am_b (am_gI h a2 2 1) (fun x3 => am_wa L xs m_X4_numbersOfAll hA r hE 4 [.ref l0, .int (l1 + x3), .int (l2 + (1 : Int32))] [] h))) else am_fit .int l1 ∧ some l1 = r ∧ h = hE)) : am_wa L xs m_X4_numbersOfAll hA r hE 4 [.ref l0, .int l1, .int l2] [] h := am_chunk am_mk_all okk_X4_numbersOfAll [(4, [0, 1, 2])] 15 _ _ _ _ H
theorem en_X4_isTally {L : Nat} {xs : Nat → Int32} {h h' : am_H} {r : Int32} {a : Int32} (e1 : h'.1 = h.1) (e2 : h'.2.1 = h.2.1) (hw : am_wa L xs m_X4_isTally h (some r) h' 0 [.int a] [] h) : am_ok L xs m_X4_isTally [.int a] h (some r) h' := am_ok_of (ls := [.int a]) mk_X4_isTally.2.1 mk_X4_isTally.2.2 ⟨fun z => (by cases z), fun z => absurd z (by decide +kernel)⟩ (fun z => absurd z (by decide +kernel)) ⟨fun z => absurd z (by decide +kernel), fun z => absurd z (by decide +kernel)⟩ e1 e2 (fun _ _ => ⟨Nat.le_of_ble_eq_true rfl, fun _ hq => hq⟩) hw
set_option maxRecDepth 100000 in
theorem ch_X4_isTally_0 {L : Nat} {xs : Nat → Int32} {hA hE h : am_H} {r : Option Int32} {a : Int32} (H : (if (a : Int32) < 0 then am_fit .boolean (0 : Int32) ∧ some (0 : Int32) = r ∧ h = hE else (if (a : Int32) < (3 : Int32) then am_fit .boolean (1 : Int32) ∧ some (1 : Int32) = r ∧ h = hE else am_fit .boolean (0 : Int32) ∧ some (0 : Int32) = r ∧ h = hE))) : am_wa L xs m_X4_isTally hA r hE 0 [.int a] [] h := am_chunk am_mk_all okk_X4_isTally [] 9 _ _ _ _ H
theorem en_X4_isNumber {L : Nat} {xs : Nat → Int32} {h h' : am_H} {r : Int32} {a : Int32} (e1 : h'.1 = h.1) (e2 : h'.2.1 = h.2.1) (hw : am_wa L xs m_X4_isNumber h (some r) h' 0 [.int a] [] h) : am_ok L xs m_X4_isNumber [.int a] h (some r) h' := am_ok_of (ls := [.int a]) mk_X4_isNumber.2.1 mk_X4_isNumber.2.2 ⟨fun z => (by cases z), fun z => absurd z (by decide +kernel)⟩ (fun z => absurd z (by decide +kernel)) ⟨fun z => absurd z (by decide +kernel), fun z => absurd z (by decide +kernel)⟩ e1 e2 (fun _ _ => ⟨Nat.le_of_ble_eq_true rfl, fun _ hq => hq⟩) hw
set_option maxRecDepth 100000 in
theorem ch_X4_isNumber_0 {L : Nat} {xs : Nat → Int32} {hA hE h : am_H} {r : Option Int32} {a : Int32} (H : (if (a : Int32) < (-999 : Int32) then am_fit .boolean (0 : Int32) ∧ some (0 : Int32) = r ∧ h = hE else (if ((999 : Int32) : Int32) < a then am_fit .boolean (0 : Int32) ∧ some (0 : Int32) = r ∧ h = hE else am_fit .boolean (1 : Int32) ∧ some (1 : Int32) = r ∧ h = hE))) : am_wa L xs m_X4_isNumber hA r hE 0 [.int a] [] h := am_chunk am_mk_all okk_X4_isNumber [] 10 _ _ _ _ H
theorem en_X4_has {L : Nat} {xs : Nat → Int32} {h h' : am_H} {r : Int32} {a b : Int32} (e1 : h'.1 = h.1) (e2 : h'.2.1 = h.2.1) (hw : am_wa L xs m_X4_has h (some r) h' 0 [.int a, .int b] [] h) : am_ok L xs m_X4_has [.int a, .int b] h (some r) h' := am_ok_of (ls := [.int a, .int b]) mk_X4_has.2.1 mk_X4_has.2.2 ⟨fun z => (by cases z), fun z => absurd z (by decide +kernel)⟩ (fun z => absurd z (by decide +kernel)) ⟨fun z => absurd z (by decide +kernel), fun z => absurd z (by decide +kernel)⟩ e1 e2 (fun _ _ => ⟨Nat.le_of_ble_eq_true rfl, fun _ hq => hq⟩) hw
set_option maxRecDepth 100000 in
theorem ch_X4_has_0 {L : Nat} {xs : Nat → Int32} {hA hE h : am_H} {r : Option Int32} {a b : Int32} (H : (if (((a >>> (b &&& 31)) &&& (1 : Int32)) : Int32) = 0 then am_fit .boolean (0 : Int32) ∧ some (0 : Int32) = r ∧ h = hE else am_fit .boolean (1 : Int32) ∧ some (1 : Int32) = r ∧ h = hE)) : am_wa L xs m_X4_has hA r hE 0 [.int a, .int b] [] h := am_chunk am_mk_all okk_X4_has [] 10 _ _ _ _ H
end
section
/-! CHUNKS: what the abstract machine asks at each place where a chunk begins (by program); the entries of the methods -/
theorem en_X5_init {L : Nat} {xs : Nat → Int32} {h h' : am_H} {this : Nat} (e1 : h'.1 = h.1 + 10) (e2 : h'.2.1 = h.2.1 + 649) (hw : am_wa L xs m_X5_init h none h' 0 [.ref this] [] h) : am_ok L xs m_X5_init [.ref this] h none h' := am_ok_of (ls := [.ref this]) mk_X5_init.2.1 mk_X5_init.2.2 ⟨fun _ => rfl, fun _ => rfl⟩ (fun _ => rfl) ⟨fun z => absurd z (by decide +kernel), fun _ => ⟨this, _, rfl⟩⟩ e1 e2 (fun _ _ => ⟨Nat.le_of_ble_eq_true rfl, fun _ hq => hq⟩) hw
set_option maxRecDepth 100000 in
theorem ch_X5_init_0 {L : Nat} {xs : Nat → Int32} {hA hE h : am_H} {r : Option Int32} {this : Nat} (H : ((¬ ((372 : Int32) : Int32) < 0) ∧ (Int32.toNatClampNeg (372 : Int32)) ≤ 1000) ∧ am_Al m_X5_init hA h 1 (Int32.toNatClampNeg (372 : Int32)) ∧ am_b (am_pF (am_push h (Int32.toNatClampNeg (372 : Int32)) (.inl (am_aty 0, (Int32.toNatClampNeg (372 : Int32)), .inl (fun _ => 0)))) this 5 0 (.ref (Prod.fst h))) (fun h1 => ((¬ ((8 : Int32) : Int32) < 0) ∧ (Int32.toNatClampNeg (8 : Int32)) ≤ 1000) ∧ am_Al m_X5_init hA h1 1 (Int32.toNatClampNeg (8 : Int32)) ∧ am_b (am_pF (am_push h1 (Int32.toNatClampNeg (8 : Int32)) (.inl (am_aty 0, (Int32.toNatClampNeg (8 : Int32)), .inl (fun _ => 0)))) this 5 4 (.ref (Prod.fst h1))) (fun h2 => ((¬ ((2 : Int32) : Int32) < 0) ∧ (Int32.toNatClampNeg (2 : Int32)) ≤ 1000) ∧ am_Al m_X5_init hA h2 1 (Int32.toNatClampNeg (2 : Int32)) ∧ am_b (am_pF (am_push h2 (Int32.toNatClampNeg (2 : Int32)) (.inl (am_aty 1, (Int32.toNatClampNeg (2 : Int32)), .inl (fun _ => 0)))) this 5 6 (.ref (Prod.fst h2))) (fun h3 => ((¬ ((200 : Int32) : Int32) < 0) ∧ (Int32.toNatClampNeg (200 : Int32)) ≤ 1000) ∧ am_Al m_X5_init hA h3 1 (Int32.toNatClampNeg (200 : Int32)) ∧ am_b (am_pF (am_push h3 (Int32.toNatClampNeg (200 : Int32)) (.inl (am_aty 0, (Int32.toNatClampNeg (200 : Int32)), .inl (fun _ => 0)))) this 5 7 (.ref (Prod.fst h3))) (fun h4 => ((¬ ((3 : Int32) : Int32) < 0) ∧ (Int32.toNatClampNeg (3 : Int32)) ≤ 1000) ∧ am_Al m_X5_init hA h4 1 (Int32.toNatClampNeg (3 : Int32)) ∧ am_b (am_sI (am_push h4 (Int32.toNatClampNeg (3 : Int32)) (.inl (am_aty 0, (Int32.toNatClampNeg (3 : Int32)), .inl (fun _ => 0)))) .int (Prod.fst h4) (0 : Int32) (-1 : Int32)) (fun h5 => am_b (am_sI h5 .int (Prod.fst h4) (1 : Int32) (-1 : Int32)) (fun h6 => am_b (am_sI h6 .int (Prod.fst h4) (2 : Int32) (-1 : Int32)) (fun h7 => am_b (am_pF h7 this 5 9 (.ref (Prod.fst h4))) (fun h8 => ((¬ ((24 : Int32) : Int32) < 0) ∧ (Int32.toNatClampNeg (24 : Int32)) ≤ 1000) ∧ am_Al m_X5_init hA h8 1 (Int32.toNatClampNeg (24 : Int32)) ∧ am_b (am_pF (am_push h8 (Int32.toNatClampNeg (24 : Int32)) (.inl (am_aty 0, (Int32.toNatClampNeg (24 : Int32)), .inl (fun _ => 0)))) this 5 10 (.ref (Prod.fst h8))) (fun h9 => ((¬ ((4 : Int32) : Int32) < 0) ∧ (Int32.toNatClampNeg (4 : Int32)) ≤ 1000) ∧ am_Al m_X5_init hA h9 1 (Int32.toNatClampNeg (4 : Int32)) ∧ am_b (am_pF (am_push h9 (Int32.toNatClampNeg (4 : Int32)) (.inl (am_aty 0, (Int32.toNatClampNeg (4 : Int32)), .inl (fun _ => 0)))) this 5 16 (.ref (Prod.fst h9))) (fun h10 => ((¬ ((20 : Int32) : Int32) < 0) ∧ (Int32.toNatClampNeg (20 : Int32)) ≤ 1000) ∧ am_Al m_X5_init hA h10 1 (Int32.toNatClampNeg (20 : Int32)) ∧ am_b (am_sI (am_push h10 (Int32.toNatClampNeg (20 : Int32)) (.inl (am_aty 0, (Int32.toNatClampNeg (20 : Int32)), .inl (fun _ => 0)))) .int (Prod.fst h10) (0 : Int32) (109 : Int32)) (fun h11 => am_b (am_sI h11 .int (Prod.fst h10) (1 : Int32) (101 : Int32)) (fun h12 => am_b (am_sI h12 .int (Prod.fst h10) (2 : Int32) (115 : Int32)) (fun h13 => am_b (am_sI h13 .int (Prod.fst h10) (3 : Int32) (104 : Int32)) (fun h14 => am_b (am_sI h14 .int (Prod.fst h10) (4 : Int32) (0 : Int32)) (fun h15 => am_b (am_sI h15 .int (Prod.fst h10) (5 : Int32) (108 : Int32)) (fun h16 => am_b (am_sI h16 .int (Prod.fst h10) (6 : Int32) (105 : Int32)) (fun h17 => am_b (am_sI h17 .int (Prod.fst h10) (7 : Int32) (110 : Int32)) (fun h18 => am_b (am_sI h18 .int (Prod.fst h10) (8 : Int32) (107 : Int32)) (fun h19 => am_b (am_sI h19 .int (Prod.fst h10) (9 : Int32) (0 : Int32)) (fun h20 => am_b (am_sI h20 .int (Prod.fst h10) (10 : Int32) (119 : Int32)) (fun h21 => am_b (am_sI h21 .int (Prod.fst h10) (11 : Int32) (97 : Int32)) (fun h22 => am_b (am_sI h22 .int (Prod.fst h10) (12 : Int32) (110 : Int32)) (fun h23 => am_b (am_sI h23 .int (Prod.fst h10) (13 : Int32) (116 : Int32)) (fun h24 => am_b (am_sI h24 .int (Prod.fst h10) (14 : Int32) (0 : Int32)) (fun h25 => am_b (am_sI h25 .int (Prod.fst h10) (15 : Int32) (115 : Int32)) (fun h26 => am_b (am_sI h26 .int (Prod.fst h10) (16 : Int32) (104 : Int32)) (fun h27 => am_b (am_sI h27 .int (Prod.fst h10) (17 : Int32) (97 : Int32)) (fun h28 => am_b (am_sI h28 .int (Prod.fst h10) (18 : Int32) (114 : Int32)) (fun h29 => am_b (am_sI h29 .int (Prod.fst h10) (19 : Int32) (101 : Int32)) (fun h30 => am_b (am_pF h30 this 5 17 (.ref (Prod.fst h10))) (fun h31 => ((¬ ((8 : Int32) : Int32) < 0) ∧ (Int32.toNatClampNeg (8 : Int32)) ≤ 1000) ∧ am_Al m_X5_init hA h31 1 (Int32.toNatClampNeg (8 : Int32)) ∧ am_b (am_pF (am_push h31 (Int32.toNatClampNeg (8 : Int32)) (.inl (am_aty 0, (Int32.toNatClampNeg (8 : Int32)), .inl (fun _ => 0)))) this 5 18 (.ref (Prod.fst h31))) (fun h32 => ((¬ ((8 : Int32) : Int32) < 0) ∧ (Int32.toNatClampNeg (8 : Int32)) ≤ 1000) ∧ am_Al m_X5_init hA h32 1 (Int32.toNatClampNeg (8 : Int32)) ∧ am_b (am_pF (am_push h32 (Int32.toNatClampNeg (8 : Int32)) (.inl (am_aty 0, (Int32.toNatClampNeg (8 : Int32)), .inl (fun _ => 0)))) this 5 19 (.ref (Prod.fst h32))) (fun h33 => ∃ h34, am_ok L xs m_X5_anew [.ref this, .int (3 : Int32), .int (2 : Int32), .int (2 : Int32), .int (1 : Int32)] h33 none h34 ∧ none = r ∧ h34 = hE)))))))))))))))))))))))))))))))))) : am_wa L xs m_X5_init hA r hE 0 [.ref this] [] h := am_chunk am_mk_all okk_X5_init [] 142 _ _ _ _ H
theorem en_X5_in {L : Nat} {xs : Nat → Int32} {h h' : am_H} {r : Int32} {a b c : Int64} (e1 : h'.1 = h.1) (e2 : h'.2.1 = h.2.1) (hw : am_wa L xs m_X5_in h (some r) h' 0 [.long a, .null, .long b, .null, .long c, .null] [] h) : am_ok L xs m_X5_in [.long a, .long b, .long c] h (some r) h' := am_ok_of (ls := [.long a, .null, .long b, .null, .long c, .null]) mk_X5_in.2.1 mk_X5_in.2.2 ⟨fun z => (by cases z), fun z => absurd z (by decide +kernel)⟩ (fun z => absurd z (by decide +kernel)) ⟨fun z => absurd z (by decide +kernel), fun z => absurd z (by decide +kernel)⟩ e1 e2 (fun _ _ => ⟨Nat.le_of_ble_eq_true rfl, fun _ hq => hq⟩) hw
set_option maxRecDepth 100000 in
theorem ch_X5_in_0 {L : Nat} {xs : Nat → Int32} {hA hE h : am_H} {r : Option Int32} {a b c : Int64} (H : (if ((lg_cmp a b) : Int32) < 0 then am_fit .boolean (0 : Int32) ∧ some (0 : Int32) = r ∧ h = hE else (if 0 < ((lg_cmp a c) : Int32) then am_fit .boolean (0 : Int32) ∧ some (0 : Int32) = r ∧ h = hE else am_fit .boolean (1 : Int32) ∧ some (1 : Int32) = r ∧ h = hE))) : am_wa L xs m_X5_in hA r hE 0 [.long a, .null, .long b, .null, .long c, .null] [] h := am_chunk am_mk_all okk_X5_in [] 12 _ _ _ _ H
theorem en_X5_has {L : Nat} {xs : Nat → Int32} {h h' : am_H} {r : Int32} {a b : Int32} (e1 : h'.1 = h.1) (e2 : h'.2.1 = h.2.1) (hw : am_wa L xs m_X5_has h (some r) h' 0 [.int a, .int b] [] h) : am_ok L xs m_X5_has [.int a, .int b] h (some r) h' := am_ok_of (ls := [.int a, .int b]) mk_X5_has.2.1 mk_X5_has.2.2 ⟨fun z => (by cases z), fun z => absurd z (by decide +kernel)⟩ (fun z => absurd z (by decide +kernel)) ⟨fun z => absurd z (by decide +kernel), fun z => absurd z (by decide +kernel)⟩ e1 e2 (fun _ _ => ⟨Nat.le_of_ble_eq_true rfl, fun _ hq => hq⟩) hw
set_option maxRecDepth 100000 in
theorem ch_X5_has_0 {L : Nat} {xs : Nat → Int32} {hA hE h : am_H} {r : Option Int32} {a b : Int32} (H : (if (((a >>> (b &&& 31)) &&& (1 : Int32)) : Int32) = (1 : Int32) then am_fit .boolean (1 : Int32) ∧ some (1 : Int32) = r ∧ h = hE else am_fit .boolean (0 : Int32) ∧ some (0 : Int32) = r ∧ h = hE)) : am_wa L xs m_X5_has hA r hE 0 [.int a, .int b] [] h := am_chunk am_mk_all okk_X5_has [] 11 _ _ _ _ H
theorem en_X5_ones {L : Nat} {xs : Nat → Int32} {h h' : am_H} {r : Int32} {a : Int32} (e1 : h'.1 = h.1) (e2 : h'.2.1 = h.2.1) (hw : am_wa L xs m_X5_ones h (some r) h' 0 [.int a, .null, .null] [] h) : am_ok L xs m_X5_ones [.int a] h (some r) h' := am_ok_of (ls := [.int a, .null, .null]) mk_X5_ones.2.1 mk_X5_ones.2.2 ⟨fun z => (by cases z), fun z => absurd z (by decide +kernel)⟩ (fun z => absurd z (by decide +kernel)) ⟨fun z => absurd z (by decide +kernel), fun z => absurd z (by decide +kernel)⟩ e1 e2 (fun _ _ => ⟨Nat.le_of_ble_eq_true rfl, fun _ hq => hq⟩) hw
set_option maxRecDepth 100000 in
theorem ch_X5_ones_0 {L : Nat} {xs : Nat → Int32} {hA hE h : am_H} {r : Option Int32} {a : Int32} (H : am_wa L xs m_X5_ones hA r hE 4 [.int a, .int (0 : Int32), .int (0 : Int32)] [] h) : am_wa L xs m_X5_ones hA r hE 0 [.int a, .null, .null] [] h := am_chunk am_mk_all okk_X5_ones [(4, [0, 1, 2])] 6 _ _ _ _ H
set_option maxRecDepth 100000 in
theorem ch_X5_ones_4 {L : Nat} {xs : Nat → Int32} {hA hE h : am_H} {r : Option Int32} {l0 l1 l2 : Int32} (H : (if (l2 : Int32) < (8 : Int32) then am_wa L xs m_X5_ones hA r hE 4 [.int l0, .int (l1 + ((l0 >>> (l2 &&& 31)) &&& (1 : Int32))), .int (l2 + (1 : Int32))] [] h else am_fit .int l1 ∧ some l1 = r ∧ h = hE)) : am_wa L xs m_X5_ones hA r hE 4 [.int l0, .int l1, .int l2] [] h := am_chunk am_mk_all okk_X5_ones [(4, [0, 1, 2])] 15 _ _ _ _ H
theorem en_X5_copyRow {L : Nat} {xs : Nat → Int32} {h h' : am_H} {this : Nat} {a b : Int32} (hre : am_cls h this = some 5) (e1 : h'.1 = h.1) (e2 : h'.2.1 = h.2.1) (hw : am_wa L xs m_X5_copyRow h none h' 0 [.ref this, .int a, .int b, .null] [] h) : am_ok L xs m_X5_copyRow [.ref this, .int a, .int b] h none h' := am_ok_of (ls := [.ref this, .int a, .int b, .null]) mk_X5_copyRow.2.1 mk_X5_copyRow.2.2 ⟨fun _ => rfl, fun _ => rfl⟩ (fun z => absurd z (by decide +kernel)) ⟨fun _ => ⟨this, _, rfl, Or.inl hre⟩, fun z => absurd z (by decide +kernel)⟩ e1 e2 (fun _ _ => ⟨Nat.le_of_ble_eq_true rfl, fun _ hq => hq⟩) hw
set_option maxRecDepth 100000 in
theorem ch_X5_copyRow_0 {L : Nat} {xs : Nat → Int32} {hA hE h : am_H} {r : Option Int32} {this : Nat} {a b : Int32} (H : am_wa L xs m_X5_copyRow hA r hE 2 [.ref this, .int a, .int b, .int (0 : Int32)] [] h) : am_wa L xs m_X5_copyRow hA r hE 0 [.ref this, .int a, .int b, .null] [] h := am_chunk am_mk_all okk_X5_copyRow [(2, [0, 1, 2, 3])] 4 _ _ _ _ H
set_option maxRecDepth 100000 in
theorem ch_X5_copyRow_2 {L : Nat} {xs : Nat → Int32} {hA hE h : am_H} {r : Option Int32} {l0 : Nat} {l1 l2 l3 : Int32} (H : (if (l3 : Int32) < (31 : Int32) then am_b (am_gR h l0 5 0) (fun a1 => am_b (am_gR h l0 5 0) (fun a2 => am_b (am_lI h .int a2 (l1 + l3)) (fun x3 => am_b (am_sI h .int a1 (l2 + l3) x3) (fun h4 => am_wa L xs m_X5_copyRow hA r hE 2 [.ref l0, .int l1, .int l2, .int (l3 + (1 : Int32))] [] h4)))) else none = r ∧ h = hE)) : am_wa L xs m_X5_copyRow hA r hE 2 [.ref l0, .int l1, .int l2, .int l3] [] h := am_chunk am_mk_all okk_X5_copyRow [(2, [0, 1, 2, 3])] 19 _ _ _ _ H
theorem en_X5_anew {L : Nat} {xs : Nat → Int32} {h h' : am_H} {this : Nat} {a b c d : Int32} (hre : am_cls h this = some 5) (e1 : h'.1 = h.1) (e2 : h'.2.1 = h.2.1) (hw : am_wa L xs m_X5_anew h none h' 0 [.ref this, .int a, .int b, .int c, .int d, .null] [] h) : am_ok L xs m_X5_anew [.ref this, .int a, .int b, .int c, .int d] h none h' := am_ok_of (ls := [.ref this, .int a, .int b, .int c, .int d, .null]) mk_X5_anew.2.1 mk_X5_anew.2.2 ⟨fun _ => rfl, fun _ => rfl⟩ (fun z => absurd z (by decide +kernel)) ⟨fun _ => ⟨this, _, rfl, Or.inl hre⟩, fun z => absurd z (by decide +kernel)⟩ e1 e2 (fun _ _ => ⟨Nat.le_of_ble_eq_true rfl, fun _ hq => hq⟩) hw
set_option maxRecDepth 100000 in
theorem ch_X5_anew_0 {L : Nat} {xs : Nat → Int32} {hA hE h : am_H} {r : Option Int32} {this : Nat} {a b c d : Int32} (H : am_b (am_pF h this 5 1 (.int a)) (fun h1 => am_b (am_pF h1 this 5 2 (.int b)) (fun h2 => am_b (am_pF h2 this 5 3 (.int c)) (fun h3 => am_b (am_gR h3 this 5 0) (fun a4 => am_b (am_sI h3 .int a4 (0 : Int32) d) (fun h5 => am_wa L xs m_X5_anew hA r hE 26 [.ref this, .null, .null, .null, .null, .int (0 : Int32)] [] h5)))))) : am_wa L xs m_X5_anew hA r hE 0 [.ref this, .int a, .int b, .int c, .int d, .null] [] h := am_chunk am_mk_all okk_X5_anew [(26, [0, 5])] 18 _ _ _ _ H
set_option maxRecDepth 100000 in
theorem ch_X5_anew_26 {L : Nat} {xs : Nat → Int32} {hA hE h : am_H} {r : Option Int32} {l0 : Nat} {l5 : Int32} (H : (if (l5 : Int32) < (8 : Int32) then am_b (am_gR h l0 5 4) (fun a1 => am_b (am_sI h .int a1 l5 (1 : Int32)) (fun h2 => am_b (am_gR h2 l0 5 0) (fun a3 => am_b (am_sI h2 .int a3 ((1 : Int32) + l5) (8 : Int32)) (fun h4 => am_b (am_gR h4 l0 5 0) (fun a5 => am_b (am_sI h4 .int a5 ((9 : Int32) + l5) (0 : Int32)) (fun h6 => am_b (am_gR h6 l0 5 0) (fun a7 => am_b (am_sI h6 .int a7 ((17 : Int32) + l5) (0 : Int32)) (fun h8 => am_wa L xs m_X5_anew hA r hE 26 [.ref l0, .null, .null, .null, .null, .int (l5 + (1 : Int32))] [] h8)))))))) else none = r ∧ h = hE)) : am_wa L xs m_X5_anew hA r hE 26 [.ref l0, .null, .null, .null, .null, .int l5] [] h := am_chunk am_mk_all okk_X5_anew [(26, [0, 5])] 33 _ _ _ _ H
theorem en_X5_write {L : Nat} {xs : Nat → Int32} {h h' : am_H} {r : Int32} {this : Nat} {a : Int32} (hre : am_cls h this = some 5) (e1 : h'.1 = h.1) (e2 : h'.2.1 = h.2.1) (hw : am_wa L xs m_X5_write h (some r) h' 0 [.ref this, .int a] [] h) : am_ok L xs m_X5_write [.ref this, .int a] h (some r) h' := am_ok_of (ls := [.ref this, .int a]) mk_X5_write.2.1 mk_X5_write.2.2 ⟨fun z => (by cases z), fun z => absurd z (by decide +kernel)⟩ (fun z => absurd z (by decide +kernel)) ⟨fun _ => ⟨this, _, rfl, Or.inl hre⟩, fun z => absurd z (by decide +kernel)⟩ e1 e2 (fun _ _ => ⟨Nat.le_of_ble_eq_true rfl, fun _ hq => hq⟩) hw
set_option maxRecDepth 100000 in
theorem ch_X5_write_0 {L : Nat} {xs : Nat → Int32} {hA hE h : am_H} {r : Option Int32} {this : Nat} {a : Int32} (H : ∃ (x2 : Int32) (h1 : am_H), am_ok L xs m_X5_in [.long (Int32.toInt64 a), .long (Int32.toInt64 (0 : Int32)), .long (Int32.toInt64 (255 : Int32))] h (some x2) h1 ∧ (if (x2 : Int32) = 0 then am_fit .int (-3 : Int32) ∧ some (-3 : Int32) = r ∧ h1 = hE else am_b (am_gI h1 this 5 8) (fun x3 => (if (x3 : Int32) = (200 : Int32) then am_fit .int (-5 : Int32) ∧ some (-5 : Int32) = r ∧ h1 = hE else am_b (am_gR h1 this 5 7) (fun a4 => am_b (am_gI h1 this 5 8) (fun x5 => am_b (am_sI h1 .int a4 x5 a) (fun h6 => am_b (am_gI h6 this 5 8) (fun x7 => am_b (am_pF h6 this 5 8 (.int (x7 + (1 : Int32)))) (fun h8 => am_b (am_gI h8 this 5 8) (fun x9 => am_fit .int x9 ∧ some x9 = r ∧ h8 = hE)))))))))) : am_wa L xs m_X5_write hA r hE 0 [.ref this, .int a] [] h := am_chunk am_mk_all okk_X5_write [] 26 _ _ _ _ H
theorem en_X5_erase {L : Nat} {xs : Nat → Int32} {h h' : am_H} {r : Int32} {this : Nat} (hre : am_cls h this = some 5) (e1 : h'.1 = h.1) (e2 : h'.2.1 = h.2.1) (hw : am_wa L xs m_X5_erase h (some r) h' 0 [.ref this, .null] [] h) : am_ok L xs m_X5_erase [.ref this] h (some r) h' := am_ok_of (ls := [.ref this, .null]) mk_X5_erase.2.1 mk_X5_erase.2.2 ⟨fun z => (by cases z), fun z => absurd z (by decide +kernel)⟩ (fun z => absurd z (by decide +kernel)) ⟨fun _ => ⟨this, _, rfl, Or.inl hre⟩, fun z => absurd z (by decide +kernel)⟩ e1 e2 (fun _ _ => ⟨Nat.le_of_ble_eq_true rfl, fun _ hq => hq⟩) hw
set_option maxRecDepth 100000 in
theorem ch_X5_erase_0 {L : Nat} {xs : Nat → Int32} {hA hE h : am_H} {r : Option Int32} {this : Nat} (H : am_b (am_gI h this 5 8) (fun x1 => am_b (am_pF h this 5 8 (.int (0 : Int32))) (fun h2 => am_fit .int x1 ∧ some x1 = r ∧ h2 = hE))) : am_wa L xs m_X5_erase hA r hE 0 [.ref this, .null] [] h := am_chunk am_mk_all okk_X5_erase [] 9 _ _ _ _ H
theorem en_X5_isSmall {L : Nat} {xs : Nat → Int32} {h h' : am_H} {r : Int32} {a : Int32} (e1 : h'.1 = h.1) (e2 : h'.2.1 = h.2.1) (hw : am_wa L xs m_X5_isSmall h (some r) h' 0 [.int a] [] h) : am_ok L xs m_X5_isSmall [.int a] h (some r) h' := am_ok_of (ls := [.int a]) mk_X5_isSmall.2.1 mk_X5_isSmall.2.2 ⟨fun z => (by cases z), fun z => absurd z (by decide +kernel)⟩ (fun z => absurd z (by decide +kernel)) ⟨fun z => absurd z (by decide +kernel), fun z => absurd z (by decide +kernel)⟩ e1 e2 (fun _ _ => ⟨Nat.le_of_ble_eq_true rfl, fun _ hq => hq⟩) hw
set_option maxRecDepth 100000 in
theorem ch_X5_isSmall_0 {L : Nat} {xs : Nat → Int32} {hA hE h : am_H} {r : Option Int32} {a : Int32} (H : ∃ (x2 : Int32) (h1 : am_H), am_ok L xs m_X5_in [.long (Int32.toInt64 a), .long (Int32.toInt64 (97 : Int32)), .long (Int32.toInt64 (122 : Int32))] h (some x2) h1 ∧ am_fit .boolean x2 ∧ some x2 = r ∧ h1 = hE) : am_wa L xs m_X5_isSmall hA r hE 0 [.int a] [] h := am_chunk am_mk_all okk_X5_isSmall [] 7 _ _ _ _ H
theorem en_X5_isDigit {L : Nat} {xs : Nat → Int32} {h h' : am_H} {r : Int32} {a : Int32} (e1 : h'.1 = h.1) (e2 : h'.2.1 = h.2.1) (hw : am_wa L xs m_X5_isDigit h (some r) h' 0 [.int a] [] h) : am_ok L xs m_X5_isDigit [.int a] h (some r) h' := am_ok_of (ls := [.int a]) mk_X5_isDigit.2.1 mk_X5_isDigit.2.2 ⟨fun z => (by cases z), fun z => absurd z (by decide +kernel)⟩ (fun z => absurd z (by decide +kernel)) ⟨fun z => absurd z (by decide +kernel), fun z => absurd z (by decide +kernel)⟩ e1 e2 (fun _ _ => ⟨Nat.le_of_ble_eq_true rfl, fun _ hq => hq⟩) hw
set_option maxRecDepth 100000 in
theorem ch_X5_isDigit_0 {L : Nat} {xs : Nat → Int32} {hA hE h : am_H} {r : Option Int32} {a : Int32} (H : ∃ (x2 : Int32) (h1 : am_H), am_ok L xs m_X5_in [.long (Int32.toInt64 a), .long (Int32.toInt64 (48 : Int32)), .long (Int32.toInt64 (57 : Int32))] h (some x2) h1 ∧ am_fit .boolean x2 ∧ some x2 = r ∧ h1 = hE) : am_wa L xs m_X5_isDigit hA r hE 0 [.int a] [] h := am_chunk am_mk_all okk_X5_isDigit [] 7 _ _ _ _ H
theorem en_X5_nextToken {L : Nat} {xs : Nat → Int32} {h h' : am_H} {this : Nat} (hre : am_cls h this = some 5) (e1 : h'.1 = h.1) (e2 : h'.2.1 = h.2.1) (hw : am_wa L xs m_X5_nextToken h none h' 0 [.ref this] [] h) : am_ok L xs m_X5_nextToken [.ref this] h none h' := am_ok_of (ls := [.ref this]) mk_X5_nextToken.2.1 mk_X5_nextToken.2.2 ⟨fun _ => rfl, fun _ => rfl⟩ (fun z => absurd z (by decide +kernel)) ⟨fun _ => ⟨this, _, rfl, Or.inl hre⟩, fun z => absurd z (by decide +kernel)⟩ e1 e2 (fun _ _ => ⟨Nat.le_of_ble_eq_true rfl, fun _ hq => hq⟩) hw
set_option maxRecDepth 100000 in
theorem ch_X5_nextToken_0 {L : Nat} {xs : Nat → Int32} {hA hE h : am_H} {r : Option Int32} {this : Nat} (H : am_b (am_gI h this 5 12) (fun x1 => am_b (am_pF h this 5 11 (.int x1)) (fun h2 => am_wa L xs m_X5_nextToken hA r hE 8 [.ref this] [] h2))) : am_wa L xs m_X5_nextToken hA r hE 0 [.ref this] [] h := am_chunk am_mk_all okk_X5_nextToken [(8, [0]), (100, [0]), (165, [0])] 6 _ _ _ _ H
set_option maxRecDepth 100000 in
theorem ch_X5_nextToken_8 {L : Nat} {xs : Nat → Int32} {hA hE h : am_H} {r : Option Int32} {l0 : Nat} (H : am_b (am_gI h l0 5 11) (fun x1 => am_b (am_gI h l0 5 8) (fun x2 => (if (x1 : Int32) < x2 then am_b (am_gR h l0 5 7) (fun a3 => am_b (am_gI h l0 5 11) (fun x4 => am_b (am_lI h .int a3 x4) (fun x5 => (if (x5 : Int32) = (32 : Int32) then am_b (am_gI h l0 5 11) (fun x6 => am_b (am_pF h l0 5 11 (.int (x6 + (1 : Int32)))) (fun h7 => am_wa L xs m_X5_nextToken hA r hE 8 [.ref l0] [] h7)) else am_b (am_gI h l0 5 11) (fun x8 => am_b (am_gI h l0 5 8) (fun x9 => (if (x8 : Int32) < x9 then am_b (am_gI h l0 5 11) (fun x10 => am_b (am_pF h l0 5 12 (.int (x10 + (1 : Int32)))) (fun h11 => am_b (am_gI h11 l0 5 11) (fun x12 => am_b (am_gI h11 l0 5 8) (fun x13 => (if (x12 : Int32) < x13 then am_b (am_gR h11 l0 5 7) (fun a14 => am_b (am_gI h11 l0 5 11) (fun x15 => am_b (am_lI h11 .int a14 x15) (fun x16 => ∃ (x18 : Int32) (h17 : am_H), am_ok L xs m_X5_isSmall [.int x16] h11 (some x18) h17 ∧ (if (x18 : Int32) = 0 then am_b (am_gI h17 l0 5 11) (fun x19 => am_b (am_gI h17 l0 5 8) (fun x20 => (if (x19 : Int32) < x20 then am_b (am_gR h17 l0 5 7) (fun a21 => am_b (am_gI h17 l0 5 11) (fun x22 => am_b (am_lI h17 .int a21 x22) (fun x23 => ∃ (x25 : Int32) (h24 : am_H), am_ok L xs m_X5_isDigit [.int x23] h17 (some x25) h24 ∧ (if (x25 : Int32) = 0 then none = r ∧ h24 = hE else am_wa L xs m_X5_nextToken hA r hE 165 [.ref l0] [] h24)))) else none = r ∧ h17 = hE))) else am_wa L xs m_X5_nextToken hA r hE 100 [.ref l0] [] h17)))) else am_b (am_gI h11 l0 5 11) (fun x26 => am_b (am_gI h11 l0 5 8) (fun x27 => (if (x26 : Int32) < x27 then am_b (am_gR h11 l0 5 7) (fun a28 => am_b (am_gI h11 l0 5 11) (fun x29 => am_b (am_lI h11 .int a28 x29) (fun x30 => ∃ (x32 : Int32) (h31 : am_H), am_ok L xs m_X5_isDigit [.int x30] h11 (some x32) h31 ∧ (if (x32 : Int32) = 0 then none = r ∧ h31 = hE else am_wa L xs m_X5_nextToken hA r hE 165 [.ref l0] [] h31)))) else none = r ∧ h11 = hE)))))))) else am_b (am_gI h l0 5 11) (fun x33 => am_b (am_pF h l0 5 12 (.int x33)) (fun h34 => am_b (am_gI h34 l0 5 11) (fun x35 => am_b (am_gI h34 l0 5 8) (fun x36 => (if (x35 : Int32) < x36 then am_b (am_gR h34 l0 5 7) (fun a37 => am_b (am_gI h34 l0 5 11) (fun x38 => am_b (am_lI h34 .int a37 x38) (fun x39 => ∃ (x41 : Int32) (h40 : am_H), am_ok L xs m_X5_isSmall [.int x39] h34 (some x41) h40 ∧ (if (x41 : Int32) = 0 then am_b (am_gI h40 l0 5 11) (fun x42 => am_b (am_gI h40 l0 5 8) (fun x43 => (if (x42 : Int32) < x43 then am_b (am_gR h40 l0 5 7) (fun a44 => am_b (am_gI h40 l0 5 11) (fun x45 => am_b (am_lI h40 .int a44 x45) (fun x46 => ∃ (x48 : Int32) (h47 : am_H), am_ok L xs m_X5_isDigit [.int x46] h40 (some x48) h47 ∧ (if (x48 : Int32) = 0 then none = r ∧ h47 = hE else am_wa L xs m_X5_nextToken hA r hE 165 [.ref l0] [] h47)))) else none = r ∧ h40 = hE))) else am_wa L xs m_X5_nextToken hA r hE 100 [.ref l0] [] h40)))) else am_b (am_gI h34 l0 5 11) (fun x49 => am_b (am_gI h34 l0 5 8) (fun x50 => (if (x49 : Int32) < x50 then am_b (am_gR h34 l0 5 7) (fun a51 => am_b (am_gI h34 l0 5 11) (fun x52 => am_b (am_lI h34 .int a51 x52) (fun x53 => ∃ (x55 : Int32) (h54 : am_H), am_ok L xs m_X5_isDigit [.int x53] h34 (some x55) h54 ∧ (if (x55 : Int32) = 0 then none = r ∧ h54 = hE else am_wa L xs m_X5_nextToken hA r hE 165 [.ref l0] [] h54)))) else none = r ∧ h34 = hE))))))))))))))) else am_b (am_gI h l0 5 11) (fun x56 => am_b (am_gI h l0 5 8) (fun x57 => (if (x56 : Int32) < x57 then am_b (am_gI h l0 5 11) (fun x58 => am_b (am_pF h l0 5 12 (.int (x58 + (1 : Int32)))) (fun h59 => am_b (am_gI h59 l0 5 11) (fun x60 => am_b (am_gI h59 l0 5 8) (fun x61 => (if (x60 : Int32) < x61 then am_b (am_gR h59 l0 5 7) (fun a62 => am_b (am_gI h59 l0 5 11) (fun x63 => am_b (am_lI h59 .int a62 x63) (fun x64 => ∃ (x66 : Int32) (h65 : am_H), am_ok L xs m_X5_isSmall [.int x64] h59 (some x66) h65 ∧ (if (x66 : Int32) = 0 then am_b (am_gI h65 l0 5 11) (fun x67 => am_b (am_gI h65 l0 5 8) (fun x68 => (if (x67 : Int32) < x68 then am_b (am_gR h65 l0 5 7) (fun a69 => am_b (am_gI h65 l0 5 11) (fun x70 => am_b (am_lI h65 .int a69 x70) (fun x71 => ∃ (x73 : Int32) (h72 : am_H), am_ok L xs m_X5_isDigit [.int x71] h65 (some x73) h72 ∧ (if (x73 : Int32) = 0 then none = r ∧ h72 = hE else am_wa L xs m_X5_nextToken hA r hE 165 [.ref l0] [] h72)))) else none = r ∧ h65 = hE))) else am_wa L xs m_X5_nextToken hA r hE 100 [.ref l0] [] h65)))) else am_b (am_gI h59 l0 5 11) (fun x74 => am_b (am_gI h59 l0 5 8) (fun x75 => (if (x74 : Int32) < x75 then am_b (am_gR h59 l0 5 7) (fun a76 => am_b (am_gI h59 l0 5 11) (fun x77 => am_b (am_lI h59 .int a76 x77) (fun x78 => ∃ (x80 : Int32) (h79 : am_H), am_ok L xs m_X5_isDigit [.int x78] h59 (some x80) h79 ∧ (if (x80 : Int32) = 0 then none = r ∧ h79 = hE else am_wa L xs m_X5_nextToken hA r hE 165 [.ref l0] [] h79)))) else none = r ∧ h59 = hE)))))))) else am_b (am_gI h l0 5 11) (fun x81 => am_b (am_pF h l0 5 12 (.int x81)) (fun h82 => am_b (am_gI h82 l0 5 11) (fun x83 => am_b (am_gI h82 l0 5 8) (fun x84 => (if (x83 : Int32) < x84 then am_b (am_gR h82 l0 5 7) (fun a85 => am_b (am_gI h82 l0 5 11) (fun x86 => am_b (am_lI h82 .int a85 x86) (fun x87 => ∃ (x89 : Int32) (h88 : am_H), am_ok L xs m_X5_isSmall [.int x87] h82 (some x89) h88 ∧ (if (x89 : Int32) = 0 then am_b (am_gI h88 l0 5 11) (fun x90 => am_b (am_gI h88 l0 5 8) (fun x91 => (if (x90 : Int32) < x91 then am_b (am_gR h88 l0 5 7) (fun a92 => am_b (am_gI h88 l0 5 11) (fun x93 => am_b (am_lI h88 .int a92 x93) (fun x94 => ∃ (x96 : Int32) (h95 : am_H), am_ok L xs m_X5_isDigit [.int x94] h88 (some x96) h95 ∧ (if (x96 : Int32) = 0 then none = r ∧ h95 = hE else am_wa L xs m_X5_nextToken hA r hE 165 [.ref l0] [] h95)))) else none = r ∧ h88 = hE))) else am_wa L xs m_X5_nextToken hA r hE 100 [.ref l0] [] h88)))) else am_b (am_gI h82 l0 5 11) (fun x97 => am_b (am_gI h82 l0 5 8) (fun x98 => (if (x97 : Int32) < x98 then am_b (am_gR h82 l0 5 7) (fun a99 => am_b (am_gI h82 l0 5 11) (fun x100 => am_b (am_lI h82 .int a99 x100) (fun x101 => ∃ (x103 : Int32) (h102 : am_H), am_ok L xs m_X5_isDigit [.int x101] h82 (some x103) h102 ∧ (if (x103 : Int32) = 0 then none = r ∧ h102 = hE else am_wa L xs m_X5_nextToken hA r hE 165 [.ref l0] [] h102)))) else none = r ∧ h82 = hE))))))))))))))) : am_wa L xs m_X5_nextToken hA r hE 8 [.ref l0] [] h := am_chunk am_mk_all okk_X5_nextToken [(8, [0]), (100, [0]), (165, [0])] 50 _ _ _ _ H
set_option maxRecDepth 100000 in
theorem ch_X5_nextToken_165 {L : Nat} {xs : Nat → Int32} {hA hE h : am_H} {r : Option Int32} {l0 : Nat} (H : am_b (am_gI h l0 5 12) (fun x1 => am_b (am_gI h l0 5 8) (fun x2 => (if (x1 : Int32) < x2 then am_b (am_gR h l0 5 7) (fun a3 => am_b (am_gI h l0 5 12) (fun x4 => am_b (am_lI h .int a3 x4) (fun x5 => ∃ (x7 : Int32) (h6 : am_H), am_ok L xs m_X5_isDigit [.int x5] h (some x7) h6 ∧ (if (x7 : Int32) = 0 then none = r ∧ h6 = hE else am_b (am_gI h6 l0 5 12) (fun x8 => am_b (am_pF h6 l0 5 12 (.int (x8 + (1 : Int32)))) (fun h9 => am_wa L xs m_X5_nextToken hA r hE 165 [.ref l0] [] h9)))))) else none = r ∧ h = hE)))) : am_wa L xs m_X5_nextToken hA r hE 165 [.ref l0] [] h := am_chunk am_mk_all okk_X5_nextToken [(8, [0]), (100, [0]), (165, [0])] 21 _ _ _ _ H
set_option maxRecDepth 100000 in
theorem ch_X5_nextToken_100 {L : Nat} {xs : Nat → Int32} {hA hE h : am_H} {r : Option Int32} {l0 : Nat} (H : am_b (am_gI h l0 5 12) (fun x1 => am_b (am_gI h l0 5 8) (fun x2 => (if (x1 : Int32) < x2 then am_b (am_gR h l0 5 7) (fun a3 => am_b (am_gI h l0 5 12) (fun x4 => am_b (am_lI h .int a3 x4) (fun x5 => ∃ (x7 : Int32) (h6 : am_H), am_ok L xs m_X5_isSmall [.int x5] h (some x7) h6 ∧ (if (x7 : Int32) = 0 then none = r ∧ h6 = hE else am_b (am_gI h6 l0 5 12) (fun x8 => am_b (am_pF h6 l0 5 12 (.int (x8 + (1 : Int32)))) (fun h9 => am_wa L xs m_X5_nextToken hA r hE 100 [.ref l0] [] h9)))))) else none = r ∧ h = hE)))) : am_wa L xs m_X5_nextToken hA r hE 100 [.ref l0] [] h := am_chunk am_mk_all okk_X5_nextToken [(8, [0]), (100, [0]), (165, [0])] 21 _ _ _ _ H
theorem en_X5_wordHere {L : Nat} {xs : Nat → Int32} {h h' : am_H} {r : Int32} {this : Nat} (hre : am_cls h this = some 5) (e1 : h'.1 = h.1) (e2 : h'.2.1 = h.2.1) (hw : am_wa L xs m_X5_wordHere h (some r) h' 0 [.ref this, .null, .null, .null] [] h) : am_ok L xs m_X5_wordHere [.ref this] h (some r) h' := am_ok_of (ls := [.ref this, .null, .null, .null]) mk_X5_wordHere.2.1 mk_X5_wordHere.2.2 ⟨fun z => (by cases z), fun z => absurd z (by decide +kernel)⟩ (fun z => absurd z (by decide +kernel)) ⟨fun _ => ⟨this, _, rfl, Or.inl hre⟩, fun z => absurd z (by decide +kernel)⟩ e1 e2 (fun _ _ => ⟨Nat.le_of_ble_eq_true rfl, fun _ hq => hq⟩) hw
set_option maxRecDepth 100000 in
theorem ch_X5_wordHere_0 {L : Nat} {xs : Nat → Int32} {hA hE h : am_H} {r : Option Int32} {this : Nat} (H : am_wa L xs m_X5_wordHere hA r hE 2 [.ref this, .int (0 : Int32), .null, .null] [] h) : am_wa L xs m_X5_wordHere hA r hE 0 [.ref this, .null, .null, .null] [] h := am_chunk am_mk_all okk_X5_wordHere [(2, [0, 1]), (40, [0, 1, 2, 3])] 4 _ _ _ _ H
set_option maxRecDepth 100000 in
theorem ch_X5_wordHere_2 {L : Nat} {xs : Nat → Int32} {hA hE h : am_H} {r : Option Int32} {l0 : Nat} {l1 : Int32} (H : (if ((3 : Int32) : Int32) < l1 then am_fit .int (-1 : Int32) ∧ some (-1 : Int32) = r ∧ h = hE else am_b (am_gI h l0 5 12) (fun x1 => am_b (am_gI h l0 5 11) (fun x2 => (if (x2 : Int32) < x1 then am_b (am_gI h l0 5 12) (fun x3 => am_b (am_gI h l0 5 11) (fun x4 => (if ((x3 - x4) : Int32) < (6 : Int32) then am_wa L xs m_X5_wordHere hA r hE 40 [.ref l0, .int l1, .int (1 : Int32), .int (0 : Int32)] [] h else am_wa L xs m_X5_wordHere hA r hE 40 [.ref l0, .int l1, .int (0 : Int32), .int (0 : Int32)] [] h))) else am_wa L xs m_X5_wordHere hA r hE 40 [.ref l0, .int l1, .int (0 : Int32), .int (0 : Int32)] [] h))))) : am_wa L xs m_X5_wordHere hA r hE 2 [.ref l0, .int l1, .null, .null] [] h := am_chunk am_mk_all okk_X5_wordHere [(2, [0, 1]), (40, [0, 1, 2, 3])] 22 _ _ _ _ H
set_option maxRecDepth 100000 in
theorem ch_X5_wordHere_40 {L : Nat} {xs : Nat → Int32} {hA hE h : am_H} {r : Option Int32} {l0 : Nat} {l1 l2 l3 : Int32} (H : (if (l3 : Int32) < (5 : Int32) then (if (l2 : Int32) = 0 then (if (l2 : Int32) = 0 then am_wa L xs m_X5_wordHere hA r hE 2 [.ref l0, .int (l1 + (1 : Int32)), .null, .null] [] h else am_fit .int l1 ∧ some l1 = r ∧ h = hE) else am_b (am_gR h l0 5 17) (fun a1 => am_b (am_lI h .int a1 (((5 : Int32) * l1) + l3)) (fun x2 => am_b (am_gI h l0 5 11) (fun x3 => am_b (am_gI h l0 5 12) (fun x4 => (if ((x3 + l3) : Int32) < x4 then am_b (am_gR h l0 5 7) (fun a5 => am_b (am_gI h l0 5 11) (fun x6 => am_b (am_lI h .int a5 (x6 + l3)) (fun x7 => (if (x2 : Int32) = x7 then am_wa L xs m_X5_wordHere hA r hE 40 [.ref l0, .int l1, .int (1 : Int32), .int (l3 + (1 : Int32))] [] h else am_wa L xs m_X5_wordHere hA r hE 40 [.ref l0, .int l1, .int (0 : Int32), .int (l3 + (1 : Int32))] [] h)))) else (if (x2 : Int32) = (0 : Int32) then am_wa L xs m_X5_wordHere hA r hE 40 [.ref l0, .int l1, .int (1 : Int32), .int (l3 + (1 : Int32))] [] h else am_wa L xs m_X5_wordHere hA r hE 40 [.ref l0, .int l1, .int (0 : Int32), .int (l3 + (1 : Int32))] [] h))))))) else (if (l2 : Int32) = 0 then am_wa L xs m_X5_wordHere hA r hE 2 [.ref l0, .int (l1 + (1 : Int32)), .null, .null] [] h else am_fit .int l1 ∧ some l1 = r ∧ h = hE))) : am_wa L xs m_X5_wordHere hA r hE 40 [.ref l0, .int l1, .int l2, .int l3] [] h := am_chunk am_mk_all okk_X5_wordHere [(2, [0, 1]), (40, [0, 1, 2, 3])] 36 _ _ _ _ H
theorem en_X5_number {L : Nat} {xs : Nat → Int32} {h h' : am_H} {r : Int32} {this : Nat} {a b c d : Int32} (hre : am_cls h this = some 5) (e1 : h'.1 = h.1) (e2 : h'.2.1 = h.2.1) (hw : am_wa L xs m_X5_number h (some r) h' 0 [.ref this, .int a, .int b, .int c, .int d, .null, .null] [] h) : am_ok L xs m_X5_number [.ref this, .int a, .int b, .int c, .int d] h (some r) h' := am_ok_of (ls := [.ref this, .int a, .int b, .int c, .int d, .null, .null]) mk_X5_number.2.1 mk_X5_number.2.2 ⟨fun z => (by cases z), fun z => absurd z (by decide +kernel)⟩ (fun z => absurd z (by decide +kernel)) ⟨fun _ => ⟨this, _, rfl, Or.inl hre⟩, fun z => absurd z (by decide +kernel)⟩ e1 e2 (fun _ _ => ⟨Nat.le_of_ble_eq_true rfl, fun _ hq => hq⟩) hw
set_option maxRecDepth 100000 in
theorem ch_X5_number_0 {L : Nat} {xs : Nat → Int32} {hA hE h : am_H} {r : Option Int32} {this : Nat} {a b c d : Int32} (H : am_b (am_gI h this 5 11) (fun x1 => am_b (am_gI h this 5 8) (fun x2 => (if (x1 : Int32) = x2 then am_fit .boolean (0 : Int32) ∧ some (0 : Int32) = r ∧ h = hE else am_b (am_gR h this 5 7) (fun a3 => am_b (am_gI h this 5 11) (fun x4 => am_b (am_lI h .int a3 x4) (fun x5 => ∃ (x7 : Int32) (h6 : am_H), am_ok L xs m_X5_isDigit [.int x5] h (some x7) h6 ∧ (if (x7 : Int32) = 0 then am_fit .boolean (0 : Int32) ∧ some (0 : Int32) = r ∧ h6 = hE else am_b (am_gI h6 this 5 12) (fun x8 => am_b (am_gI h6 this 5 11) (fun x9 => (if ((3 : Int32) : Int32) < (x8 - x9) then am_fit .boolean (0 : Int32) ∧ some (0 : Int32) = r ∧ h6 = hE else am_b (am_gI h6 this 5 11) (fun x10 => am_wa L xs m_X5_number hA r hE 50 [.ref this, .int a, .int b, .int c, .int d, .int (0 : Int32), .int x10] [] h6)))))))))))) : am_wa L xs m_X5_number hA r hE 0 [.ref this, .int a, .int b, .int c, .int d, .null, .null] [] h := am_chunk am_mk_all okk_X5_number [(50, [0, 1, 2, 3, 4, 5, 6])] 26 _ _ _ _ H
set_option maxRecDepth 100000 in
theorem ch_X5_number_50 {L : Nat} {xs : Nat → Int32} {hA hE h : am_H} {r : Option Int32} {l0 : Nat} {l1 l2 l3 l4 l5 l6 : Int32} (H : am_b (am_gI h l0 5 12) (fun x1 => (if (l6 : Int32) < x1 then am_b (am_gR h l0 5 7) (fun a2 => am_b (am_lI h .int a2 l6) (fun x3 => am_wa L xs m_X5_number hA r hE 50 [.ref l0, .int l1, .int l2, .int l3, .int l4, .int ((((10 : Int32) * l5) + x3) - (48 : Int32)), .int (l6 + (1 : Int32))] [] h)) else ∃ (x5 : Int32) (h4 : am_H), am_ok L xs m_X5_in [.long (Int32.toInt64 l5), .long (Int32.toInt64 l2), .long (Int32.toInt64 l3)] h (some x5) h4 ∧ (if (x5 : Int32) = 0 then (if ((0 : Int32) : Int32) = 0 then am_fit .boolean (0 : Int32) ∧ some (0 : Int32) = r ∧ h4 = hE else am_b (am_gR h4 l0 5 16) (fun a6 => am_b (am_sI h4 .int a6 l1 l5) (fun h7 => ∃ h8, am_ok L xs m_X5_nextToken [.ref l0] h7 none h8 ∧ am_fit .boolean (0 : Int32) ∧ some (0 : Int32) = r ∧ h8 = hE))) else (if (l5 : Int32) = l4 then (if ((0 : Int32) : Int32) = 0 then am_fit .boolean (0 : Int32) ∧ some (0 : Int32) = r ∧ h4 = hE else am_b (am_gR h4 l0 5 16) (fun a9 => am_b (am_sI h4 .int a9 l1 l5) (fun h10 => ∃ h11, am_ok L xs m_X5_nextToken [.ref l0] h10 none h11 ∧ am_fit .boolean (0 : Int32) ∧ some (0 : Int32) = r ∧ h11 = hE))) else (if ((1 : Int32) : Int32) = 0 then am_fit .boolean (1 : Int32) ∧ some (1 : Int32) = r ∧ h4 = hE else am_b (am_gR h4 l0 5 16) (fun a12 => am_b (am_sI h4 .int a12 l1 l5) (fun h13 => ∃ h14, am_ok L xs m_X5_nextToken [.ref l0] h13 none h14 ∧ am_fit .boolean (1 : Int32) ∧ some (1 : Int32) = r ∧ h14 = hE)))))))) : am_wa L xs m_X5_number hA r hE 50 [.ref l0, .int l1, .int l2, .int l3, .int l4, .int l5, .int l6] [] h := am_chunk am_mk_all okk_X5_number [(50, [0, 1, 2, 3, 4, 5, 6])] 30 _ _ _ _ H
theorem en_X5_readsRest {L : Nat} {xs : Nat → Int32} {h h' : am_H} {r : Int32} {this : Nat} {a : Int32} (hre : am_cls h this = some 5) (e1 : h'.1 = h.1) (e2 : h'.2.1 = h.2.1) (hw : am_wa L xs m_X5_readsRest h (some r) h' 0 [.ref this, .int a] [] h) : am_ok L xs m_X5_readsRest [.ref this, .int a] h (some r) h' := am_ok_of (ls := [.ref this, .int a]) mk_X5_readsRest.2.1 mk_X5_readsRest.2.2 ⟨fun z => (by cases z), fun z => absurd z (by decide +kernel)⟩ (fun z => absurd z (by decide +kernel)) ⟨fun _ => ⟨this, _, rfl, Or.inl hre⟩, fun z => absurd z (by decide +kernel)⟩ e1 e2 (fun _ _ => ⟨Nat.le_of_ble_eq_true rfl, fun _ hq => hq⟩) hw
set_option maxRecDepth 100000 in
theorem ch_X5_readsRest_0 {L : Nat} {xs : Nat → Int32} {hA hE h : am_H} {r : Option Int32} {this : Nat} {a : Int32} (H : ((a = nI 0 → ∃ (x20 : Int32) (h19 : am_H), am_ok L xs m_X5_number [.ref this, .int (0 : Int32), .int (2 : Int32), .int (8 : Int32), .int (-1 : Int32)] h (some x20) h19 ∧ (if (x20 : Int32) = 0 then am_fit .boolean (0 : Int32) ∧ some (0 : Int32) = r ∧ h19 = hE else ∃ (x22 : Int32) (h21 : am_H), am_ok L xs m_X5_number [.ref this, .int (1 : Int32), .int (1 : Int32), .int (4 : Int32), .int (-1 : Int32)] h19 (some x22) h21 ∧ (if (x22 : Int32) = 0 then am_fit .boolean (0 : Int32) ∧ some (0 : Int32) = r ∧ h21 = hE else ∃ (x24 : Int32) (h23 : am_H), am_ok L xs m_X5_number [.ref this, .int (2 : Int32), .int (1 : Int32), .int (5 : Int32), .int (-1 : Int32)] h21 (some x24) h23 ∧ (if (x24 : Int32) = 0 then am_fit .boolean (0 : Int32) ∧ some (0 : Int32) = r ∧ h23 = hE else ∃ (x26 : Int32) (h25 : am_H), am_ok L xs m_X5_number [.ref this, .int (3 : Int32), .int (1 : Int32), .int (999 : Int32), .int (-1 : Int32)] h23 (some x26) h25 ∧ (if (x26 : Int32) = 0 then am_fit .boolean (0 : Int32) ∧ some (0 : Int32) = r ∧ h25 = hE else am_fit .boolean (1 : Int32) ∧ some (1 : Int32) = r ∧ h25 = hE))))) ∧ (¬ a = nI 0 → (a = nI 1 → am_b (am_gI h this 5 13) (fun x11 => ∃ (x13 : Int32) (h12 : am_H), am_ok L xs m_X5_number [.ref this, .int (0 : Int32), .int (0 : Int32), .int (x11 - (1 : Int32)), .int (-1 : Int32)] h (some x13) h12 ∧ (if (x13 : Int32) = 0 then am_fit .boolean (0 : Int32) ∧ some (0 : Int32) = r ∧ h12 = hE else am_b (am_gI h12 this 5 13) (fun x14 => am_b (am_gR h12 this 5 16) (fun a15 => am_b (am_lI h12 .int a15 (0 : Int32)) (fun x16 => ∃ (x18 : Int32) (h17 : am_H), am_ok L xs m_X5_number [.ref this, .int (1 : Int32), .int (0 : Int32), .int (x14 - (1 : Int32)), .int x16] h12 (some x18) h17 ∧ (if (x18 : Int32) = 0 then am_fit .boolean (0 : Int32) ∧ some (0 : Int32) = r ∧ h17 = hE else am_fit .boolean (1 : Int32) ∧ some (1 : Int32) = r ∧ h17 = hE))))))) ∧ (¬ a = nI 1 → (a = nI 2 → am_b (am_gI h this 5 13) (fun x6 => ∃ (x8 : Int32) (h7 : am_H), am_ok L xs m_X5_number [.ref this, .int (0 : Int32), .int (0 : Int32), .int (x6 - (1 : Int32)), .int (-1 : Int32)] h (some x8) h7 ∧ (if (x8 : Int32) = 0 then am_fit .boolean (0 : Int32) ∧ some (0 : Int32) = r ∧ h7 = hE else ∃ (x10 : Int32) (h9 : am_H), am_ok L xs m_X5_number [.ref this, .int (1 : Int32), .int (0 : Int32), .int (4 : Int32), .int (-1 : Int32)] h7 (some x10) h9 ∧ (if (x10 : Int32) = 0 then am_fit .boolean (0 : Int32) ∧ some (0 : Int32) = r ∧ h9 = hE else am_fit .boolean (1 : Int32) ∧ some (1 : Int32) = r ∧ h9 = hE)))) ∧ (¬ a = nI 2 → am_b (am_gI h this 5 13) (fun x1 => ∃ (x3 : Int32) (h2 : am_H), am_ok L xs m_X5_number [.ref this, .int (0 : Int32), .int (0 : Int32), .int (x1 - (1 : Int32)), .int (-1 : Int32)] h (some x3) h2 ∧ (if (x3 : Int32) = 0 then am_fit .boolean (0 : Int32) ∧ some (0 : Int32) = r ∧ h2 = hE else ∃ (x5 : Int32) (h4 : am_H), am_ok L xs m_X5_number [.ref this, .int (1 : Int32), .int (1 : Int32), .int (16 : Int32), .int (-1 : Int32)] h2 (some x5) h4 ∧ (if (x5 : Int32) = 0 then am_fit .boolean (0 : Int32) ∧ some (0 : Int32) = r ∧ h4 = hE else am_fit .boolean (1 : Int32) ∧ some (1 : Int32) = r ∧ h4 = hE)))))))) : am_wa L xs m_X5_readsRest hA r hE 0 [.ref this, .int a] [] h := am_chunk am_mk_all okk_X5_readsRest [] 34 _ _ _ _ H
theorem en_X5_joins {L : Nat} {xs : Nat → Int32} {h h' : am_H} {this : Nat} {a b c : Int32} (hre : am_cls h this = some 5) (e1 : h'.1 = h.1) (e2 : h'.2.1 = h.2.1) (hw : am_wa L xs m_X5_joins h none h' 0 [.ref this, .int a, .int b, .int c] [] h) : am_ok L xs m_X5_joins [.ref this, .int a, .int b, .int c] h none h' := am_ok_of (ls := [.ref this, .int a, .int b, .int c]) mk_X5_joins.2.1 mk_X5_joins.2.2 ⟨fun _ => rfl, fun _ => rfl⟩ (fun z => absurd z (by decide +kernel)) ⟨fun _ => ⟨this, _, rfl, Or.inl hre⟩, fun z => absurd z (by decide +kernel)⟩ e1 e2 (fun _ _ => ⟨Nat.le_of_ble_eq_true rfl, fun _ hq => hq⟩) hw
set_option maxRecDepth 100000 in
theorem ch_X5_joins_0 {L : Nat} {xs : Nat → Int32} {hA hE h : am_H} {r : Option Int32} {this : Nat} {a b c : Int32} (H : am_b (am_gR h this 5 0) (fun a1 => am_b (am_lI h .int a1 ((a + (17 : Int32)) + b)) (fun x2 => am_b (am_sI h .int a1 ((a + (17 : Int32)) + b) (x2 ||| ((1 : Int32) <<< (c &&& 31)))) (fun h3 => am_b (am_gR h3 this 5 0) (fun a4 => am_b (am_lI h3 .int a4 ((a + (17 : Int32)) + c)) (fun x5 => am_b (am_sI h3 .int a4 ((a + (17 : Int32)) + c) (x5 ||| ((1 : Int32) <<< (b &&& 31)))) (fun h6 => none = r ∧ h6 = hE))))))) : am_wa L xs m_X5_joins hA r hE 0 [.ref this, .int a, .int b, .int c] [] h := am_chunk am_mk_all okk_X5_joins [] 30 _ _ _ _ H
theorem en_X5_does {L : Nat} {xs : Nat → Int32} {h h' : am_H} {this : Nat} {a : Int32} (hre : am_cls h this = some 5) (e1 : h'.1 = h.1) (e2 : h'.2.1 = h.2.1) (hw : am_wa L xs m_X5_does h none h' 0 [.ref this, .int a] [] h) : am_ok L xs m_X5_does [.ref this, .int a] h none h' := am_ok_of (ls := [.ref this, .int a]) mk_X5_does.2.1 mk_X5_does.2.2 ⟨fun _ => rfl, fun _ => rfl⟩ (fun z => absurd z (by decide +kernel)) ⟨fun _ => ⟨this, _, rfl, Or.inl hre⟩, fun z => absurd z (by decide +kernel)⟩ e1 e2 (fun _ _ => ⟨Nat.le_of_ble_eq_true rfl, fun _ hq => hq⟩) hw
set_option maxRecDepth 100000 in
theorem ch_X5_does_0 {L : Nat} {xs : Nat → Int32} {hA hE h : am_H} {r : Option Int32} {this : Nat} {a : Int32} (H : ((a = nI 0 → am_b (am_gR h this 5 16) (fun a18 => am_b (am_lI h .int a18 (0 : Int32)) (fun x19 => am_b (am_gR h this 5 16) (fun a20 => am_b (am_lI h .int a20 (1 : Int32)) (fun x21 => am_b (am_gR h this 5 16) (fun a22 => am_b (am_lI h .int a22 (2 : Int32)) (fun x23 => am_b (am_gR h this 5 16) (fun a24 => am_b (am_lI h .int a24 (3 : Int32)) (fun x25 => ∃ h26, am_ok L xs m_X5_anew [.ref this, .int x19, .int x21, .int x23, .int x25] h none h26 ∧ none = r ∧ h26 = hE))))))))) ∧ (¬ a = nI 0 → (a = nI 1 → am_b (am_gR h this 5 16) (fun a13 => am_b (am_lI h .int a13 (0 : Int32)) (fun x14 => am_b (am_gR h this 5 16) (fun a15 => am_b (am_lI h .int a15 (1 : Int32)) (fun x16 => ∃ h17, am_ok L xs m_X5_joins [.ref this, .int (0 : Int32), .int x14, .int x16] h none h17 ∧ none = r ∧ h17 = hE))))) ∧ (¬ a = nI 1 → (a = nI 2 → am_b (am_gR h this 5 4) (fun a7 => am_b (am_gR h this 5 16) (fun a8 => am_b (am_lI h .int a8 (0 : Int32)) (fun x9 => am_b (am_gR h this 5 16) (fun a10 => am_b (am_lI h .int a10 (1 : Int32)) (fun x11 => am_b (am_sI h .int a7 x9 x11) (fun h12 => none = r ∧ h12 = hE))))))) ∧ (¬ a = nI 2 → am_b (am_gR h this 5 0) (fun a1 => am_b (am_gR h this 5 16) (fun a2 => am_b (am_lI h .int a2 (0 : Int32)) (fun x3 => am_b (am_gR h this 5 16) (fun a4 => am_b (am_lI h .int a4 (1 : Int32)) (fun x5 => am_b (am_sI h .int a1 ((1 : Int32) + x3) x5) (fun h6 => none = r ∧ h6 = hE))))))))))) : am_wa L xs m_X5_does hA r hE 0 [.ref this, .int a] [] h := am_chunk am_mk_all okk_X5_does [] 23 _ _ _ _ H
theorem en_X5_readsClause {L : Nat} {xs : Nat → Int32} {h h' : am_H} {r : Int32} {this : Nat} (hre : am_cls h this = some 5) (e1 : h'.1 = h.1) (e2 : h'.2.1 = h.2.1) (hw : am_wa L xs m_X5_readsClause h (some r) h' 0 [.ref this, .null] [] h) : am_ok L xs m_X5_readsClause [.ref this] h (some r) h' := am_ok_of (ls := [.ref this, .null]) mk_X5_readsClause.2.1 mk_X5_readsClause.2.2 ⟨fun z => (by cases z), fun z => absurd z (by decide +kernel)⟩ (fun z => absurd z (by decide +kernel)) ⟨fun _ => ⟨this, _, rfl, Or.inl hre⟩, fun z => absurd z (by decide +kernel)⟩ e1 e2 (fun _ _ => ⟨Nat.le_of_ble_eq_true rfl, fun _ hq => hq⟩) hw
set_option maxRecDepth 100000 in
theorem ch_X5_readsClause_0 {L : Nat} {xs : Nat → Int32} {hA hE h : am_H} {r : Option Int32} {this : Nat} (H : ∃ (x2 : Int32) (h1 : am_H), am_ok L xs m_X5_wordHere [.ref this] h (some x2) h1 ∧ (if (x2 : Int32) = (-1 : Int32) then am_fit .boolean (0 : Int32) ∧ some (0 : Int32) = r ∧ h1 = hE else ∃ h3, am_ok L xs m_X5_nextToken [.ref this] h1 none h3 ∧ ∃ (x5 : Int32) (h4 : am_H), am_ok L xs m_X5_readsRest [.ref this, .int x2] h3 (some x5) h4 ∧ (if (x5 : Int32) = 0 then am_fit .boolean (0 : Int32) ∧ some (0 : Int32) = r ∧ h4 = hE else (if (x2 : Int32) = 0 then am_b (am_gR h4 this 5 16) (fun a6 => am_b (am_lI h4 .int a6 (0 : Int32)) (fun x7 => am_b (am_pF h4 this 5 13 (.int x7)) (fun h8 => am_b (am_gI h8 this 5 15) (fun x9 => (if (x9 : Int32) = 0 then am_fit .boolean (1 : Int32) ∧ some (1 : Int32) = r ∧ h8 = hE else ∃ h10, am_ok L xs m_X5_does [.ref this, .int x2] h8 none h10 ∧ am_fit .boolean (1 : Int32) ∧ some (1 : Int32) = r ∧ h10 = hE))))) else am_b (am_gI h4 this 5 13) (fun x11 => am_b (am_pF h4 this 5 13 (.int x11)) (fun h12 => am_b (am_gI h12 this 5 15) (fun x13 => (if (x13 : Int32) = 0 then am_fit .boolean (1 : Int32) ∧ some (1 : Int32) = r ∧ h12 = hE else ∃ h14, am_ok L xs m_X5_does [.ref this, .int x2] h12 none h14 ∧ am_fit .boolean (1 : Int32) ∧ some (1 : Int32) = r ∧ h14 = hE)))))))) : am_wa L xs m_X5_readsClause hA r hE 0 [.ref this, .null] [] h := am_chunk am_mk_all okk_X5_readsClause [] 30 _ _ _ _ H
theorem en_X5_reads {L : Nat} {xs : Nat → Int32} {h h' : am_H} {r : Int32} {this : Nat} {a : Int32} (hre : am_cls h this = some 5) (e1 : h'.1 = h.1) (e2 : h'.2.1 = h.2.1) (hw : am_wa L xs m_X5_reads h (some r) h' 0 [.ref this, .int a, .null] [] h) : am_ok L xs m_X5_reads [.ref this, .int a] h (some r) h' := am_ok_of (ls := [.ref this, .int a, .null]) mk_X5_reads.2.1 mk_X5_reads.2.2 ⟨fun z => (by cases z), fun z => absurd z (by decide +kernel)⟩ (fun z => absurd z (by decide +kernel)) ⟨fun _ => ⟨this, _, rfl, Or.inl hre⟩, fun z => absurd z (by decide +kernel)⟩ e1 e2 (fun _ _ => ⟨Nat.le_of_ble_eq_true rfl, fun _ hq => hq⟩) hw
set_option maxRecDepth 100000 in
theorem ch_X5_reads_0 {L : Nat} {xs : Nat → Int32} {hA hE h : am_H} {r : Option Int32} {this : Nat} {a : Int32} (H : ((a : Int32) = 0 ∨ (a : Int32) = 1) ∧ am_b (am_pF h this 5 15 (.int a)) (fun h1 => am_b (am_pF h1 this 5 12 (.int (0 : Int32))) (fun h2 => am_b (am_pF h2 this 5 14 (.int (1 : Int32))) (fun h3 => am_b (am_gI h3 this 5 1) (fun x4 => am_b (am_pF h3 this 5 13 (.int x4)) (fun h5 => ∃ h6, am_ok L xs m_X5_nextToken [.ref this] h5 none h6 ∧ ∃ (x8 : Int32) (h7 : am_H), am_ok L xs m_X5_readsClause [.ref this] h6 (some x8) h7 ∧ am_wa L xs m_X5_reads hA r hE 32 [.ref this, .null, .int x8] [] h7)))))) : am_wa L xs m_X5_reads hA r hE 0 [.ref this, .int a, .null] [] h := am_chunk am_mk_all okk_X5_reads [(32, [0, 2])] 20 _ _ _ _ H
set_option maxRecDepth 100000 in
theorem ch_X5_reads_32 {L : Nat} {xs : Nat → Int32} {hA hE h : am_H} {r : Option Int32} {l0 : Nat} {l2 : Int32} (H : (if (l2 : Int32) = 0 then am_fit .boolean l2 ∧ some l2 = r ∧ h = hE else am_b (am_gI h l0 5 11) (fun x1 => am_b (am_gI h l0 5 8) (fun x2 => (if (x1 : Int32) < x2 then am_b (am_gI h l0 5 14) (fun x3 => (if (x3 : Int32) < (24 : Int32) then am_b (am_gR h l0 5 7) (fun a4 => am_b (am_gI h l0 5 11) (fun x5 => am_b (am_lI h .int a4 x5) (fun x6 => (if (x6 : Int32) = (59 : Int32) then (if ((1 : Int32) : Int32) = 0 then am_wa L xs m_X5_reads hA r hE 32 [.ref l0, .null, .int (1 : Int32)] [] h else ∃ h7, am_ok L xs m_X5_nextToken [.ref l0] h none h7 ∧ ∃ (x9 : Int32) (h8 : am_H), am_ok L xs m_X5_readsClause [.ref l0] h7 (some x9) h8 ∧ am_b (am_gI h8 l0 5 14) (fun x10 => am_b (am_pF h8 l0 5 14 (.int (x10 + (1 : Int32)))) (fun h11 => am_wa L xs m_X5_reads hA r hE 32 [.ref l0, .null, .int x9] [] h11))) else (if ((0 : Int32) : Int32) = 0 then am_wa L xs m_X5_reads hA r hE 32 [.ref l0, .null, .int (0 : Int32)] [] h else ∃ h12, am_ok L xs m_X5_nextToken [.ref l0] h none h12 ∧ ∃ (x14 : Int32) (h13 : am_H), am_ok L xs m_X5_readsClause [.ref l0] h12 (some x14) h13 ∧ am_b (am_gI h13 l0 5 14) (fun x15 => am_b (am_pF h13 l0 5 14 (.int (x15 + (1 : Int32)))) (fun h16 => am_wa L xs m_X5_reads hA r hE 32 [.ref l0, .null, .int x14] [] h16))))))) else (if ((0 : Int32) : Int32) = 0 then am_wa L xs m_X5_reads hA r hE 32 [.ref l0, .null, .int (0 : Int32)] [] h else ∃ h17, am_ok L xs m_X5_nextToken [.ref l0] h none h17 ∧ ∃ (x19 : Int32) (h18 : am_H), am_ok L xs m_X5_readsClause [.ref l0] h17 (some x19) h18 ∧ am_b (am_gI h18 l0 5 14) (fun x20 => am_b (am_pF h18 l0 5 14 (.int (x20 + (1 : Int32)))) (fun h21 => am_wa L xs m_X5_reads hA r hE 32 [.ref l0, .null, .int x19] [] h21))))) else am_fit .boolean l2 ∧ some l2 = r ∧ h = hE))))) : am_wa L xs m_X5_reads hA r hE 32 [.ref l0, .null, .int l2] [] h := am_chunk am_mk_all okk_X5_reads [(32, [0, 2])] 37 _ _ _ _ H
theorem en_X5_fault {L : Nat} {xs : Nat → Int32} {h h' : am_H} {r : Int32} {this : Nat} (hre : am_cls h this = some 5) (e1 : h'.1 = h.1) (e2 : h'.2.1 = h.2.1) (hw : am_wa L xs m_X5_fault h (some r) h' 0 [.ref this] [] h) : am_ok L xs m_X5_fault [.ref this] h (some r) h' := am_ok_of (ls := [.ref this]) mk_X5_fault.2.1 mk_X5_fault.2.2 ⟨fun z => (by cases z), fun z => absurd z (by decide +kernel)⟩ (fun z => absurd z (by decide +kernel)) ⟨fun _ => ⟨this, _, rfl, Or.inl hre⟩, fun z => absurd z (by decide +kernel)⟩ e1 e2 (fun _ _ => ⟨Nat.le_of_ble_eq_true rfl, fun _ hq => hq⟩) hw
set_option maxRecDepth 100000 in
theorem ch_X5_fault_0 {L : Nat} {xs : Nat → Int32} {hA hE h : am_H} {r : Option Int32} {this : Nat} (H : ∃ (x2 : Int32) (h1 : am_H), am_ok L xs m_X5_reads [.ref this, .int (0 : Int32)] h (some x2) h1 ∧ (if (x2 : Int32) = 0 then am_b (am_gI h1 this 5 11) (fun x3 => am_fit .int x3 ∧ some x3 = r ∧ h1 = hE) else am_fit .int (-1 : Int32) ∧ some (-1 : Int32) = r ∧ h1 = hE)) : am_wa L xs m_X5_fault hA r hE 0 [.ref this] [] h := am_chunk am_mk_all okk_X5_fault [] 8 _ _ _ _ H
theorem en_X5_mesh {L : Nat} {xs : Nat → Int32} {h h' : am_H} {r : Int32} {this : Nat} (hre : am_cls h this = some 5) (e1 : h'.1 = h.1) (e2 : h'.2.1 = h.2.1) (hw : am_wa L xs m_X5_mesh h (some r) h' 0 [.ref this, .null] [] h) : am_ok L xs m_X5_mesh [.ref this] h (some r) h' := am_ok_of (ls := [.ref this, .null]) mk_X5_mesh.2.1 mk_X5_mesh.2.2 ⟨fun z => (by cases z), fun z => absurd z (by decide +kernel)⟩ (fun z => absurd z (by decide +kernel)) ⟨fun _ => ⟨this, _, rfl, Or.inl hre⟩, fun z => absurd z (by decide +kernel)⟩ e1 e2 (fun _ _ => ⟨Nat.le_of_ble_eq_true rfl, fun _ hq => hq⟩) hw
set_option maxRecDepth 100000 in
theorem ch_X5_mesh_0 {L : Nat} {xs : Nat → Int32} {hA hE h : am_H} {r : Option Int32} {this : Nat} (H : ∃ (x2 : Int32) (h1 : am_H), am_ok L xs m_X5_reads [.ref this, .int (0 : Int32)] h (some x2) h1 ∧ (if (x2 : Int32) = 0 then am_fit .int (-4 : Int32) ∧ some (-4 : Int32) = r ∧ h1 = hE else ∃ (x4 : Int32) (h3 : am_H), am_ok L xs m_X5_reads [.ref this, .int (1 : Int32)] h1 (some x4) h3 ∧ am_wa L xs m_X5_mesh hA r hE 19 [.ref this, .int (0 : Int32)] [] h3)) : am_wa L xs m_X5_mesh hA r hE 0 [.ref this, .null] [] h := am_chunk am_mk_all okk_X5_mesh [(19, [0, 1]), (43, [0, 1]), (98, [0, 1])] 12 _ _ _ _ H
set_option maxRecDepth 100000 in
theorem ch_X5_mesh_19 {L : Nat} {xs : Nat → Int32} {hA hE h : am_H} {r : Option Int32} {l0 : Nat} {l1 : Int32} (H : (if (l1 : Int32) < (8 : Int32) then am_b (am_gR h l0 5 0) (fun a1 => am_b (am_sI h .int a1 ((9 : Int32) + l1) (0 : Int32)) (fun h2 => am_wa L xs m_X5_mesh hA r hE 19 [.ref l0, .int (l1 + (1 : Int32))] [] h2)) else am_wa L xs m_X5_mesh hA r hE 43 [.ref l0, .int (0 : Int32)] [] h)) : am_wa L xs m_X5_mesh hA r hE 19 [.ref l0, .int l1] [] h := am_chunk am_mk_all okk_X5_mesh [(19, [0, 1]), (43, [0, 1]), (98, [0, 1])] 14 _ _ _ _ H
set_option maxRecDepth 100000 in
theorem ch_X5_mesh_43 {L : Nat} {xs : Nat → Int32} {hA hE h : am_H} {r : Option Int32} {l0 : Nat} {l1 : Int32} (H : (if (l1 : Int32) < (5 : Int32) then am_b (am_gR h l0 5 0) (fun a1 => am_b (am_sI h .int a1 ((25 : Int32) + l1) (0 : Int32)) (fun h2 => am_wa L xs m_X5_mesh hA r hE 43 [.ref l0, .int (l1 + (1 : Int32))] [] h2)) else am_b (am_gR h l0 5 0) (fun a3 => am_b (am_sI h .int a3 (30 : Int32) (0 : Int32)) (fun h4 => am_b (am_pF h4 l0 5 8 (.int (0 : Int32))) (fun h5 => am_b (am_pF h5 l0 5 5 (.int (0 : Int32))) (fun h6 => am_b (am_gR h6 l0 5 6) (fun a7 => (((0 : Int32) : Int32) = 0 ∨ ((0 : Int32) : Int32) = 1) ∧ am_b (am_sI h6 .boolean a7 (0 : Int32) (0 : Int32)) (fun h8 => am_b (am_gR h8 l0 5 6) (fun a9 => (((0 : Int32) : Int32) = 0 ∨ ((0 : Int32) : Int32) = 1) ∧ am_b (am_sI h8 .boolean a9 (1 : Int32) (0 : Int32)) (fun h10 => am_wa L xs m_X5_mesh hA r hE 98 [.ref l0, .int (0 : Int32)] [] h10)))))))))) : am_wa L xs m_X5_mesh hA r hE 43 [.ref l0, .int l1] [] h := am_chunk am_mk_all okk_X5_mesh [(19, [0, 1]), (43, [0, 1]), (98, [0, 1])] 28 _ _ _ _ H
set_option maxRecDepth 100000 in
theorem ch_X5_mesh_98 {L : Nat} {xs : Nat → Int32} {hA hE h : am_H} {r : Option Int32} {l0 : Nat} {l1 : Int32} (H : (if (l1 : Int32) < (3 : Int32) then am_b (am_gR h l0 5 9) (fun a1 => am_b (am_sI h .int a1 l1 (-1 : Int32)) (fun h2 => am_wa L xs m_X5_mesh hA r hE 98 [.ref l0, .int (l1 + (1 : Int32))] [] h2)) else am_b (am_gI h l0 5 14) (fun x3 => am_fit .int x3 ∧ some x3 = r ∧ h = hE))) : am_wa L xs m_X5_mesh hA r hE 98 [.ref l0, .int l1] [] h := am_chunk am_mk_all okk_X5_mesh [(19, [0, 1]), (43, [0, 1]), (98, [0, 1])] 12 _ _ _ _ H
theorem en_X5_isStation {L : Nat} {xs : Nat → Int32} {h h' : am_H} {r : Int32} {this : Nat} {a : Int32} (hre : am_cls h this = some 5) (e1 : h'.1 = h.1) (e2 : h'.2.1 = h.2.1) (hw : am_wa L xs m_X5_isStation h (some r) h' 0 [.ref this, .int a] [] h) : am_ok L xs m_X5_isStation [.ref this, .int a] h (some r) h' := am_ok_of (ls := [.ref this, .int a]) mk_X5_isStation.2.1 mk_X5_isStation.2.2 ⟨fun z => (by cases z), fun z => absurd z (by decide +kernel)⟩ (fun z => absurd z (by decide +kernel)) ⟨fun _ => ⟨this, _, rfl, Or.inl hre⟩, fun z => absurd z (by decide +kernel)⟩ e1 e2 (fun _ _ => ⟨Nat.le_of_ble_eq_true rfl, fun _ hq => hq⟩) hw
set_option maxRecDepth 100000 in
theorem ch_X5_isStation_0 {L : Nat} {xs : Nat → Int32} {hA hE h : am_H} {r : Option Int32} {this : Nat} {a : Int32} (H : am_b (am_gI h this 5 1) (fun x1 => ∃ (x3 : Int32) (h2 : am_H), am_ok L xs m_X5_in [.long (Int32.toInt64 a), .long (Int32.toInt64 (0 : Int32)), .long (Int32.toInt64 (x1 - (1 : Int32)))] h (some x3) h2 ∧ am_fit .boolean x3 ∧ some x3 = r ∧ h2 = hE)) : am_wa L xs m_X5_isStation hA r hE 0 [.ref this, .int a] [] h := am_chunk am_mk_all okk_X5_isStation [] 11 _ _ _ _ H
theorem en_X5_isSlot {L : Nat} {xs : Nat → Int32} {h h' : am_H} {r : Int32} {this : Nat} {a : Int32} (hre : am_cls h this = some 5) (e1 : h'.1 = h.1) (e2 : h'.2.1 = h.2.1) (hw : am_wa L xs m_X5_isSlot h (some r) h' 0 [.ref this, .int a] [] h) : am_ok L xs m_X5_isSlot [.ref this, .int a] h (some r) h' := am_ok_of (ls := [.ref this, .int a]) mk_X5_isSlot.2.1 mk_X5_isSlot.2.2 ⟨fun z => (by cases z), fun z => absurd z (by decide +kernel)⟩ (fun z => absurd z (by decide +kernel)) ⟨fun _ => ⟨this, _, rfl, Or.inl hre⟩, fun z => absurd z (by decide +kernel)⟩ e1 e2 (fun _ _ => ⟨Nat.le_of_ble_eq_true rfl, fun _ hq => hq⟩) hw
set_option maxRecDepth 100000 in
theorem ch_X5_isSlot_0 {L : Nat} {xs : Nat → Int32} {hA hE h : am_H} {r : Option Int32} {this : Nat} {a : Int32} (H : am_b (am_gI h this 5 2) (fun x1 => ∃ (x3 : Int32) (h2 : am_H), am_ok L xs m_X5_in [.long (Int32.toInt64 a), .long (Int32.toInt64 (0 : Int32)), .long (Int32.toInt64 (x1 - (1 : Int32)))] h (some x3) h2 ∧ am_fit .boolean x3 ∧ some x3 = r ∧ h2 = hE)) : am_wa L xs m_X5_isSlot hA r hE 0 [.ref this, .int a] [] h := am_chunk am_mk_all okk_X5_isSlot [] 11 _ _ _ _ H
theorem en_X5_near {L : Nat} {xs : Nat → Int32} {h h' : am_H} {r : Int32} {this : Nat} {a b : Int32} (hre : am_cls h this = some 5) (e1 : h'.1 = h.1) (e2 : h'.2.1 = h.2.1) (hw : am_wa L xs m_X5_near h (some r) h' 0 [.ref this, .int a, .int b, .null, .null, .null] [] h) : am_ok L xs m_X5_near [.ref this, .int a, .int b] h (some r) h' := am_ok_of (ls := [.ref this, .int a, .int b, .null, .null, .null]) mk_X5_near.2.1 mk_X5_near.2.2 ⟨fun z => (by cases z), fun z => absurd z (by decide +kernel)⟩ (fun z => absurd z (by decide +kernel)) ⟨fun _ => ⟨this, _, rfl, Or.inl hre⟩, fun z => absurd z (by decide +kernel)⟩ e1 e2 (fun _ _ => ⟨Nat.le_of_ble_eq_true rfl, fun _ hq => hq⟩) hw
set_option maxRecDepth 100000 in
theorem ch_X5_near_0 {L : Nat} {xs : Nat → Int32} {hA hE h : am_H} {r : Option Int32} {this : Nat} {a b : Int32} (H : am_b (am_gR h this 5 0) (fun a1 => am_b (am_lI h .int a1 ((a + (17 : Int32)) + b)) (fun x2 => am_wa L xs m_X5_near hA r hE 18 [.ref this, .int a, .int b, .int x2, .int x2, .int (0 : Int32)] [] h))) : am_wa L xs m_X5_near hA r hE 0 [.ref this, .int a, .int b, .null, .null, .null] [] h := am_chunk am_mk_all okk_X5_near [(18, [0, 1, 2, 3, 4, 5])] 15 _ _ _ _ H
set_option maxRecDepth 100000 in
theorem ch_X5_near_18 {L : Nat} {xs : Nat → Int32} {hA hE h : am_H} {r : Option Int32} {l0 : Nat} {l1 l2 l3 l4 l5 : Int32} (H : am_b (am_gI h l0 5 1) (fun x1 => (if (l5 : Int32) < x1 then ∃ (x3 : Int32) (h2 : am_H), am_ok L xs m_X5_has [.int l3, .int l5] h (some x3) h2 ∧ (if (x3 : Int32) = 0 then am_wa L xs m_X5_near hA r hE 18 [.ref l0, .int l1, .int l2, .int l3, .int (l4 ||| (0 : Int32)), .int (l5 + (1 : Int32))] [] h2 else am_b (am_gR h2 l0 5 0) (fun a4 => am_b (am_lI h2 .int a4 ((l1 + (17 : Int32)) + l5)) (fun x5 => am_wa L xs m_X5_near hA r hE 18 [.ref l0, .int l1, .int l2, .int l3, .int (l4 ||| x5), .int (l5 + (1 : Int32))] [] h2))) else am_fit .int (l4 &&& (((1 : Int32) <<< (l2 &&& 31)) ^^^ (-1 : Int32))) ∧ some (l4 &&& (((1 : Int32) <<< (l2 &&& 31)) ^^^ (-1 : Int32))) = r ∧ h = hE))) : am_wa L xs m_X5_near hA r hE 18 [.ref l0, .int l1, .int l2, .int l3, .int l4, .int l5] [] h := am_chunk am_mk_all okk_X5_near [(18, [0, 1, 2, 3, 4, 5])] 24 _ _ _ _ H
theorem en_X5_holders {L : Nat} {xs : Nat → Int32} {h h' : am_H} {r : Int32} {this : Nat} {a b : Int32} (hre : am_cls h this = some 5) (e1 : h'.1 = h.1) (e2 : h'.2.1 = h.2.1) (hw : am_wa L xs m_X5_holders h (some r) h' 0 [.ref this, .int a, .int b, .null, .null] [] h) : am_ok L xs m_X5_holders [.ref this, .int a, .int b] h (some r) h' := am_ok_of (ls := [.ref this, .int a, .int b, .null, .null]) mk_X5_holders.2.1 mk_X5_holders.2.2 ⟨fun z => (by cases z), fun z => absurd z (by decide +kernel)⟩ (fun z => absurd z (by decide +kernel)) ⟨fun _ => ⟨this, _, rfl, Or.inl hre⟩, fun z => absurd z (by decide +kernel)⟩ e1 e2 (fun _ _ => ⟨Nat.le_of_ble_eq_true rfl, fun _ hq => hq⟩) hw
set_option maxRecDepth 100000 in
theorem ch_X5_holders_0 {L : Nat} {xs : Nat → Int32} {hA hE h : am_H} {r : Option Int32} {this : Nat} {a b : Int32} (H : am_wa L xs m_X5_holders hA r hE 5 [.ref this, .int a, .int b, .int (0 : Int32), .int (0 : Int32)] [] h) : am_wa L xs m_X5_holders hA r hE 0 [.ref this, .int a, .int b, .null, .null] [] h := am_chunk am_mk_all okk_X5_holders [(5, [0, 1, 2, 3, 4])] 6 _ _ _ _ H
set_option maxRecDepth 100000 in
theorem ch_X5_holders_5 {L : Nat} {xs : Nat → Int32} {hA hE h : am_H} {r : Option Int32} {l0 : Nat} {l1 l2 l3 l4 : Int32} (H : am_b (am_gI h l0 5 1) (fun x1 => (if (l4 : Int32) < x1 then am_b (am_gR h l0 5 0) (fun a2 => am_b (am_lI h .int a2 ((l1 + (9 : Int32)) + l4)) (fun x3 => ∃ (x5 : Int32) (h4 : am_H), am_ok L xs m_X5_has [.int x3, .int l2] h (some x5) h4 ∧ (if (x5 : Int32) = 0 then am_wa L xs m_X5_holders hA r hE 5 [.ref l0, .int l1, .int l2, .int (l3 ||| (0 : Int32)), .int (l4 + (1 : Int32))] [] h4 else am_wa L xs m_X5_holders hA r hE 5 [.ref l0, .int l1, .int l2, .int (l3 ||| ((1 : Int32) <<< (l4 &&& 31))), .int (l4 + (1 : Int32))] [] h4))) else am_fit .int l3 ∧ some l3 = r ∧ h = hE))) : am_wa L xs m_X5_holders hA r hE 5 [.ref l0, .int l1, .int l2, .int l3, .int l4] [] h := am_chunk am_mk_all okk_X5_holders [(5, [0, 1, 2, 3, 4])] 26 _ _ _ _ H
theorem en_X5_isCovered {L : Nat} {xs : Nat → Int32} {h h' : am_H} {r : Int32} {this : Nat} {a b : Int32} (hre : am_cls h this = some 5) (e1 : h'.1 = h.1) (e2 : h'.2.1 = h.2.1) (hw : am_wa L xs m_X5_isCovered h (some r) h' 0 [.ref this, .int a, .int b] [] h) : am_ok L xs m_X5_isCovered [.ref this, .int a, .int b] h (some r) h' := am_ok_of (ls := [.ref this, .int a, .int b]) mk_X5_isCovered.2.1 mk_X5_isCovered.2.2 ⟨fun z => (by cases z), fun z => absurd z (by decide +kernel)⟩ (fun z => absurd z (by decide +kernel)) ⟨fun _ => ⟨this, _, rfl, Or.inl hre⟩, fun z => absurd z (by decide +kernel)⟩ e1 e2 (fun _ _ => ⟨Nat.le_of_ble_eq_true rfl, fun _ hq => hq⟩) hw
set_option maxRecDepth 100000 in
theorem ch_X5_isCovered_0 {L : Nat} {xs : Nat → Int32} {hA hE h : am_H} {r : Option Int32} {this : Nat} {a b : Int32} (H : am_b (am_gR h this 5 0) (fun a1 => am_b (am_lI h .int a1 ((a + (9 : Int32)) + b)) (fun x2 => ∃ (x4 : Int32) (h3 : am_H), am_ok L xs m_X5_ones [.int x2] h (some x4) h3 ∧ am_b (am_gR h3 this 5 4) (fun a5 => am_b (am_lI h3 .int a5 b) (fun x6 => (if (x4 : Int32) < x6 then am_fit .boolean (0 : Int32) ∧ some (0 : Int32) = r ∧ h3 = hE else am_fit .boolean (1 : Int32) ∧ some (1 : Int32) = r ∧ h3 = hE)))))) : am_wa L xs m_X5_isCovered hA r hE 0 [.ref this, .int a, .int b] [] h := am_chunk am_mk_all okk_X5_isCovered [] 18 _ _ _ _ H
theorem en_X5_covered {L : Nat} {xs : Nat → Int32} {h h' : am_H} {r : Int32} {this : Nat} {a : Int32} (hre : am_cls h this = some 5) (e1 : h'.1 = h.1) (e2 : h'.2.1 = h.2.1) (hw : am_wa L xs m_X5_covered h (some r) h' 0 [.ref this, .int a, .null, .null] [] h) : am_ok L xs m_X5_covered [.ref this, .int a] h (some r) h' := am_ok_of (ls := [.ref this, .int a, .null, .null]) mk_X5_covered.2.1 mk_X5_covered.2.2 ⟨fun z => (by cases z), fun z => absurd z (by decide +kernel)⟩ (fun z => absurd z (by decide +kernel)) ⟨fun _ => ⟨this, _, rfl, Or.inl hre⟩, fun z => absurd z (by decide +kernel)⟩ e1 e2 (fun _ _ => ⟨Nat.le_of_ble_eq_true rfl, fun _ hq => hq⟩) hw
set_option maxRecDepth 100000 in
theorem ch_X5_covered_0 {L : Nat} {xs : Nat → Int32} {hA hE h : am_H} {r : Option Int32} {this : Nat} {a : Int32} (H : am_wa L xs m_X5_covered hA r hE 4 [.ref this, .int a, .int (0 : Int32), .int (0 : Int32)] [] h) : am_wa L xs m_X5_covered hA r hE 0 [.ref this, .int a, .null, .null] [] h := am_chunk am_mk_all okk_X5_covered [(4, [0, 1, 2, 3])] 6 _ _ _ _ H
set_option maxRecDepth 100000 in
theorem ch_X5_covered_4 {L : Nat} {xs : Nat → Int32} {hA hE h : am_H} {r : Option Int32} {l0 : Nat} {l1 l2 l3 : Int32} (H : am_b (am_gI h l0 5 1) (fun x1 => (if (l3 : Int32) < x1 then ∃ (x3 : Int32) (h2 : am_H), am_ok L xs m_X5_isCovered [.ref l0, .int l1, .int l3] h (some x3) h2 ∧ (if (x3 : Int32) = 0 then am_wa L xs m_X5_covered hA r hE 4 [.ref l0, .int l1, .int (l2 ||| (0 : Int32)), .int (l3 + (1 : Int32))] [] h2 else am_wa L xs m_X5_covered hA r hE 4 [.ref l0, .int l1, .int (l2 ||| ((1 : Int32) <<< (l3 &&& 31))), .int (l3 + (1 : Int32))] [] h2) else am_fit .int l2 ∧ some l2 = r ∧ h = hE))) : am_wa L xs m_X5_covered hA r hE 4 [.ref l0, .int l1, .int l2, .int l3] [] h := am_chunk am_mk_all okk_X5_covered [(4, [0, 1, 2, 3])] 20 _ _ _ _ H
theorem en_X5_contenders {L : Nat} {xs : Nat → Int32} {h h' : am_H} {r : Int32} {this : Nat} {a b : Int32} (hre : am_cls h this = some 5) (e1 : h'.1 = h.1) (e2 : h'.2.1 = h.2.1) (hw : am_wa L xs m_X5_contenders h (some r) h' 0 [.ref this, .int a, .int b, .null, .null, .null] [] h) : am_ok L xs m_X5_contenders [.ref this, .int a, .int b] h (some r) h' := am_ok_of (ls := [.ref this, .int a, .int b, .null, .null, .null]) mk_X5_contenders.2.1 mk_X5_contenders.2.2 ⟨fun z => (by cases z), fun z => absurd z (by decide +kernel)⟩ (fun z => absurd z (by decide +kernel)) ⟨fun _ => ⟨this, _, rfl, Or.inl hre⟩, fun z => absurd z (by decide +kernel)⟩ e1 e2 (fun _ _ => ⟨Nat.le_of_ble_eq_true rfl, fun _ hq => hq⟩) hw
set_option maxRecDepth 100000 in
theorem ch_X5_contenders_0 {L : Nat} {xs : Nat → Int32} {hA hE h : am_H} {r : Option Int32} {this : Nat} {a b : Int32} (H : ∃ (x2 : Int32) (h1 : am_H), am_ok L xs m_X5_holders [.ref this, .int a, .int b] h (some x2) h1 ∧ am_wa L xs m_X5_contenders hA r hE 13 [.ref this, .int a, .null, .int x2, .int (0 : Int32), .int (0 : Int32)] [] h1) : am_wa L xs m_X5_contenders hA r hE 0 [.ref this, .int a, .int b, .null, .null, .null] [] h := am_chunk am_mk_all okk_X5_contenders [(13, [0, 1, 3, 4, 5])] 11 _ _ _ _ H
set_option maxRecDepth 100000 in
theorem ch_X5_contenders_13 {L : Nat} {xs : Nat → Int32} {hA hE h : am_H} {r : Option Int32} {l0 : Nat} {l1 l3 l4 l5 : Int32} (H : am_b (am_gI h l0 5 1) (fun x1 => (if (l5 : Int32) < x1 then ∃ (x3 : Int32) (h2 : am_H), am_ok L xs m_X5_isCovered [.ref l0, .int l1, .int l5] h (some x3) h2 ∧ (if (x3 : Int32) = 0 then ∃ (x5 : Int32) (h4 : am_H), am_ok L xs m_X5_has [.int l3, .int l5] h2 (some x5) h4 ∧ (if (x5 : Int32) = 0 then ∃ (x7 : Int32) (h6 : am_H), am_ok L xs m_X5_near [.ref l0, .int l1, .int l5] h4 (some x7) h6 ∧ (if ((x7 &&& l3) : Int32) = 0 then am_wa L xs m_X5_contenders hA r hE 13 [.ref l0, .int l1, .null, .int l3, .int (l4 ||| ((1 : Int32) <<< (l5 &&& 31))), .int (l5 + (1 : Int32))] [] h6 else am_wa L xs m_X5_contenders hA r hE 13 [.ref l0, .int l1, .null, .int l3, .int (l4 ||| (0 : Int32)), .int (l5 + (1 : Int32))] [] h6) else am_wa L xs m_X5_contenders hA r hE 13 [.ref l0, .int l1, .null, .int l3, .int (l4 ||| (0 : Int32)), .int (l5 + (1 : Int32))] [] h4) else am_wa L xs m_X5_contenders hA r hE 13 [.ref l0, .int l1, .null, .int l3, .int (l4 ||| (0 : Int32)), .int (l5 + (1 : Int32))] [] h2) else am_fit .int l4 ∧ some l4 = r ∧ h = hE))) : am_wa L xs m_X5_contenders hA r hE 13 [.ref l0, .int l1, .null, .int l3, .int l4, .int l5] [] h := am_chunk am_mk_all okk_X5_contenders [(13, [0, 1, 3, 4, 5])] 31 _ _ _ _ H
theorem en_X5_clashesBy {L : Nat} {xs : Nat → Int32} {h h' : am_H} {r : Int32} {this : Nat} {a b : Int32} (hre : am_cls h this = some 5) (e1 : h'.1 = h.1) (e2 : h'.2.1 = h.2.1) (hw : am_wa L xs m_X5_clashesBy h (some r) h' 0 [.ref this, .int a, .int b, .null, .null, .null] [] h) : am_ok L xs m_X5_clashesBy [.ref this, .int a, .int b] h (some r) h' := am_ok_of (ls := [.ref this, .int a, .int b, .null, .null, .null]) mk_X5_clashesBy.2.1 mk_X5_clashesBy.2.2 ⟨fun z => (by cases z), fun z => absurd z (by decide +kernel)⟩ (fun z => absurd z (by decide +kernel)) ⟨fun _ => ⟨this, _, rfl, Or.inl hre⟩, fun z => absurd z (by decide +kernel)⟩ e1 e2 (fun _ _ => ⟨Nat.le_of_ble_eq_true rfl, fun _ hq => hq⟩) hw
set_option maxRecDepth 100000 in
theorem ch_X5_clashesBy_0 {L : Nat} {xs : Nat → Int32} {hA hE h : am_H} {r : Option Int32} {this : Nat} {a b : Int32} (H : ∃ (x2 : Int32) (h1 : am_H), am_ok L xs m_X5_holders [.ref this, .int a, .int b] h (some x2) h1 ∧ am_wa L xs m_X5_clashesBy hA r hE 13 [.ref this, .int a, .null, .int x2, .int (0 : Int32), .int (0 : Int32)] [] h1) : am_wa L xs m_X5_clashesBy hA r hE 0 [.ref this, .int a, .int b, .null, .null, .null] [] h := am_chunk am_mk_all okk_X5_clashesBy [(13, [0, 1, 3, 4, 5])] 11 _ _ _ _ H
set_option maxRecDepth 100000 in
theorem ch_X5_clashesBy_13 {L : Nat} {xs : Nat → Int32} {hA hE h : am_H} {r : Option Int32} {l0 : Nat} {l1 l3 l4 l5 : Int32} (H : am_b (am_gI h l0 5 1) (fun x1 => (if (l5 : Int32) < x1 then ∃ (x3 : Int32) (h2 : am_H), am_ok L xs m_X5_has [.int l3, .int l5] h (some x3) h2 ∧ (if (x3 : Int32) = 0 then am_wa L xs m_X5_clashesBy hA r hE 13 [.ref l0, .int l1, .null, .int l3, .int (l4 + (0 : Int32)), .int (l5 + (1 : Int32))] [] h2 else ∃ (x5 : Int32) (h4 : am_H), am_ok L xs m_X5_near [.ref l0, .int l1, .int l5] h2 (some x5) h4 ∧ ∃ (x7 : Int32) (h6 : am_H), am_ok L xs m_X5_ones [.int (x5 &&& l3)] h4 (some x7) h6 ∧ am_wa L xs m_X5_clashesBy hA r hE 13 [.ref l0, .int l1, .null, .int l3, .int (l4 + x7), .int (l5 + (1 : Int32))] [] h6) else (¬ ((2 : Int32) : Int32) = 0) ∧ am_fit .int (l4 / (2 : Int32)) ∧ some (l4 / (2 : Int32)) = r ∧ h = hE))) : am_wa L xs m_X5_clashesBy hA r hE 13 [.ref l0, .int l1, .null, .int l3, .int l4, .int l5] [] h := am_chunk am_mk_all okk_X5_clashesBy [(13, [0, 1, 3, 4, 5])] 23 _ _ _ _ H
theorem en_X5_clashes {L : Nat} {xs : Nat → Int32} {h h' : am_H} {r : Int32} {this : Nat} {a : Int32} (hre : am_cls h this = some 5) (e1 : h'.1 = h.1) (e2 : h'.2.1 = h.2.1) (hw : am_wa L xs m_X5_clashes h (some r) h' 0 [.ref this, .int a, .null, .null] [] h) : am_ok L xs m_X5_clashes [.ref this, .int a] h (some r) h' := am_ok_of (ls := [.ref this, .int a, .null, .null]) mk_X5_clashes.2.1 mk_X5_clashes.2.2 ⟨fun z => (by cases z), fun z => absurd z (by decide +kernel)⟩ (fun z => absurd z (by decide +kernel)) ⟨fun _ => ⟨this, _, rfl, Or.inl hre⟩, fun z => absurd z (by decide +kernel)⟩ e1 e2 (fun _ _ => ⟨Nat.le_of_ble_eq_true rfl, fun _ hq => hq⟩) hw
set_option maxRecDepth 100000 in
theorem ch_X5_clashes_0 {L : Nat} {xs : Nat → Int32} {hA hE h : am_H} {r : Option Int32} {this : Nat} {a : Int32} (H : am_wa L xs m_X5_clashes hA r hE 4 [.ref this, .int a, .int (0 : Int32), .int (0 : Int32)] [] h) : am_wa L xs m_X5_clashes hA r hE 0 [.ref this, .int a, .null, .null] [] h := am_chunk am_mk_all okk_X5_clashes [(4, [0, 1, 2, 3])] 6 _ _ _ _ H
set_option maxRecDepth 100000 in
theorem ch_X5_clashes_4 {L : Nat} {xs : Nat → Int32} {hA hE h : am_H} {r : Option Int32} {l0 : Nat} {l1 l2 l3 : Int32} (H : am_b (am_gI h l0 5 2) (fun x1 => (if (l3 : Int32) < x1 then ∃ (x3 : Int32) (h2 : am_H), am_ok L xs m_X5_clashesBy [.ref l0, .int l1, .int l3] h (some x3) h2 ∧ am_wa L xs m_X5_clashes hA r hE 4 [.ref l0, .int l1, .int (l2 + x3), .int (l3 + (1 : Int32))] [] h2 else am_fit .int l2 ∧ some l2 = r ∧ h = hE))) : am_wa L xs m_X5_clashes hA r hE 4 [.ref l0, .int l1, .int l2, .int l3] [] h := am_chunk am_mk_all okk_X5_clashes [(4, [0, 1, 2, 3])] 15 _ _ _ _ H
theorem en_X5_station {L : Nat} {xs : Nat → Int32} {h h' : am_H} {r : Int32} {this : Nat} {a b : Int32} (hre : am_cls h this = some 5) (e1 : h'.1 = h.1) (e2 : h'.2.1 = h.2.1) (hw : am_wa L xs m_X5_station h (some r) h' 0 [.ref this, .int a, .int b] [] h) : am_ok L xs m_X5_station [.ref this, .int a, .int b] h (some r) h' := am_ok_of (ls := [.ref this, .int a, .int b]) mk_X5_station.2.1 mk_X5_station.2.2 ⟨fun z => (by cases z), fun z => absurd z (by decide +kernel)⟩ (fun z => absurd z (by decide +kernel)) ⟨fun _ => ⟨this, _, rfl, Or.inl hre⟩, fun z => absurd z (by decide +kernel)⟩ e1 e2 (fun _ _ => ⟨Nat.le_of_ble_eq_true rfl, fun _ hq => hq⟩) hw
set_option maxRecDepth 100000 in
theorem ch_X5_station_0 {L : Nat} {xs : Nat → Int32} {hA hE h : am_H} {r : Option Int32} {this : Nat} {a b : Int32} (H : ∃ (x2 : Int32) (h1 : am_H), am_ok L xs m_X5_isStation [.ref this, .int a] h (some x2) h1 ∧ (if (x2 : Int32) = 0 then am_fit .int (-2 : Int32) ∧ some (-2 : Int32) = r ∧ h1 = hE else ((b = nI 0 → am_b (am_gR h1 this 5 4) (fun a13 => am_b (am_lI h1 .int a13 a) (fun x14 => am_fit .int x14 ∧ some x14 = r ∧ h1 = hE))) ∧ (¬ b = nI 0 → (b = nI 1 → am_b (am_gR h1 this 5 0) (fun a11 => am_b (am_lI h1 .int a11 ((1 : Int32) + a)) (fun x12 => am_fit .int x12 ∧ some x12 = r ∧ h1 = hE))) ∧ (¬ b = nI 1 → (b = nI 2 → am_b (am_gR h1 this 5 0) (fun a9 => am_b (am_lI h1 .int a9 ((17 : Int32) + a)) (fun x10 => am_fit .int x10 ∧ some x10 = r ∧ h1 = hE))) ∧ (¬ b = nI 2 → (b = nI 3 → ∃ (x8 : Int32) (h7 : am_H), am_ok L xs m_X5_near [.ref this, .int (0 : Int32), .int a] h1 (some x8) h7 ∧ am_fit .int x8 ∧ some x8 = r ∧ h7 = hE) ∧ (¬ b = nI 3 → (b = nI 4 → am_b (am_gR h1 this 5 0) (fun a5 => am_b (am_lI h1 .int a5 ((9 : Int32) + a)) (fun x6 => am_fit .int x6 ∧ some x6 = r ∧ h1 = hE))) ∧ (¬ b = nI 4 → (b = nI 5 → ∃ (x4 : Int32) (h3 : am_H), am_ok L xs m_X5_isCovered [.ref this, .int (0 : Int32), .int a] h1 (some x4) h3 ∧ (if (x4 : Int32) = 0 then am_fit .int (0 : Int32) ∧ some (0 : Int32) = r ∧ h3 = hE else am_fit .int (1 : Int32) ∧ some (1 : Int32) = r ∧ h3 = hE)) ∧ (¬ b = nI 5 → am_fit .int (-3 : Int32) ∧ some (-3 : Int32) = r ∧ h1 = hE))))))))) : am_wa L xs m_X5_station hA r hE 0 [.ref this, .int a, .int b] [] h := am_chunk am_mk_all okk_X5_station [] 15 _ _ _ _ H
theorem en_X5_slot {L : Nat} {xs : Nat → Int32} {h h' : am_H} {r : Int32} {this : Nat} {a b : Int32} (hre : am_cls h this = some 5) (e1 : h'.1 = h.1) (e2 : h'.2.1 = h.2.1) (hw : am_wa L xs m_X5_slot h (some r) h' 0 [.ref this, .int a, .int b] [] h) : am_ok L xs m_X5_slot [.ref this, .int a, .int b] h (some r) h' := am_ok_of (ls := [.ref this, .int a, .int b]) mk_X5_slot.2.1 mk_X5_slot.2.2 ⟨fun z => (by cases z), fun z => absurd z (by decide +kernel)⟩ (fun z => absurd z (by decide +kernel)) ⟨fun _ => ⟨this, _, rfl, Or.inl hre⟩, fun z => absurd z (by decide +kernel)⟩ e1 e2 (fun _ _ => ⟨Nat.le_of_ble_eq_true rfl, fun _ hq => hq⟩) hw
set_option maxRecDepth 100000 in
theorem ch_X5_slot_0 {L : Nat} {xs : Nat → Int32} {hA hE h : am_H} {r : Option Int32} {this : Nat} {a b : Int32} (H : ∃ (x2 : Int32) (h1 : am_H), am_ok L xs m_X5_isSlot [.ref this, .int a] h (some x2) h1 ∧ (if (x2 : Int32) = 0 then am_fit .int (-2 : Int32) ∧ some (-2 : Int32) = r ∧ h1 = hE else (if (b : Int32) = 0 then ∃ (x4 : Int32) (h3 : am_H), am_ok L xs m_X5_holders [.ref this, .int (0 : Int32), .int a] h1 (some x4) h3 ∧ am_fit .int x4 ∧ some x4 = r ∧ h3 = hE else (if (b : Int32) = (1 : Int32) then ∃ (x6 : Int32) (h5 : am_H), am_ok L xs m_X5_contenders [.ref this, .int (0 : Int32), .int a] h1 (some x6) h5 ∧ am_fit .int x6 ∧ some x6 = r ∧ h5 = hE else (if (b : Int32) = (2 : Int32) then ∃ (x8 : Int32) (h7 : am_H), am_ok L xs m_X5_clashesBy [.ref this, .int (0 : Int32), .int a] h1 (some x8) h7 ∧ am_fit .int x8 ∧ some x8 = r ∧ h7 = hE else am_fit .int (-3 : Int32) ∧ some (-3 : Int32) = r ∧ h1 = hE))))) : am_wa L xs m_X5_slot hA r hE 0 [.ref this, .int a, .int b] [] h := am_chunk am_mk_all okk_X5_slot [] 19 _ _ _ _ H
theorem en_X5_lot {L : Nat} {xs : Nat → Int32} {h h' : am_H} {r : Int32} {this : Nat} {a b : Int32} (hre : am_cls h this = some 5) (e1 : h'.1 = h.1) (e2 : h'.2.1 = h.2.1) (hw : am_wa L xs m_X5_lot h (some r) h' 0 [.ref this, .int a, .int b] [] h) : am_ok L xs m_X5_lot [.ref this, .int a, .int b] h (some r) h' := am_ok_of (ls := [.ref this, .int a, .int b]) mk_X5_lot.2.1 mk_X5_lot.2.2 ⟨fun z => (by cases z), fun z => absurd z (by decide +kernel)⟩ (fun z => absurd z (by decide +kernel)) ⟨fun _ => ⟨this, _, rfl, Or.inl hre⟩, fun z => absurd z (by decide +kernel)⟩ e1 e2 (fun _ _ => ⟨Nat.le_of_ble_eq_true rfl, fun _ hq => hq⟩) hw
set_option maxRecDepth 100000 in
theorem ch_X5_lot_0 {L : Nat} {xs : Nat → Int32} {hA hE h : am_H} {r : Option Int32} {this : Nat} {a b : Int32} (H : am_b (am_gR h this 5 0) (fun a1 => am_b (am_gR h this 5 0) (fun a2 => am_b (am_lI h .int a2 (a + (0 : Int32))) (fun x3 => (¬ ((53125 : Int32) : Int32) = 0) ∧ am_b (am_sI h .int a1 (a + (0 : Int32)) (((x3 * (171 : Int32)) + (11213 : Int32)) - ((x3 * (171 : Int32)) + (11213 : Int32)) / (53125 : Int32) * (53125 : Int32))) (fun h4 => am_b (am_gR h4 this 5 0) (fun a5 => am_b (am_lI h4 .int a5 (a + (0 : Int32))) (fun x6 => (¬ ((64 : Int32) : Int32) = 0) ∧ (¬ (b : Int32) = 0) ∧ am_fit .int ((x6 / (64 : Int32)) - (x6 / (64 : Int32)) / b * b) ∧ some ((x6 / (64 : Int32)) - (x6 / (64 : Int32)) / b * b) = r ∧ h4 = hE))))))) : am_wa L xs m_X5_lot hA r hE 0 [.ref this, .int a, .int b] [] h := am_chunk am_mk_all okk_X5_lot [] 30 _ _ _ _ H
theorem en_X5_asking {L : Nat} {xs : Nat → Int32} {h h' : am_H} {r : Int32} {this : Nat} {a b : Int32} (hre : am_cls h this = some 5) (e1 : h'.1 = h.1) (e2 : h'.2.1 = h.2.1) (hw : am_wa L xs m_X5_asking h (some r) h' 0 [.ref this, .int a, .int b, .null, .null, .null] [] h) : am_ok L xs m_X5_asking [.ref this, .int a, .int b] h (some r) h' := am_ok_of (ls := [.ref this, .int a, .int b, .null, .null, .null]) mk_X5_asking.2.1 mk_X5_asking.2.2 ⟨fun z => (by cases z), fun z => absurd z (by decide +kernel)⟩ (fun z => absurd z (by decide +kernel)) ⟨fun _ => ⟨this, _, rfl, Or.inl hre⟩, fun z => absurd z (by decide +kernel)⟩ e1 e2 (fun _ _ => ⟨Nat.le_of_ble_eq_true rfl, fun _ hq => hq⟩) hw
set_option maxRecDepth 100000 in
theorem ch_X5_asking_0 {L : Nat} {xs : Nat → Int32} {hA hE h : am_H} {r : Option Int32} {this : Nat} {a b : Int32} (H : ∃ (x2 : Int32) (h1 : am_H), am_ok L xs m_X5_contenders [.ref this, .int a, .int b] h (some x2) h1 ∧ am_wa L xs m_X5_asking hA r hE 13 [.ref this, .int a, .null, .int x2, .int (0 : Int32), .int (0 : Int32)] [] h1) : am_wa L xs m_X5_asking hA r hE 0 [.ref this, .int a, .int b, .null, .null, .null] [] h := am_chunk am_mk_all okk_X5_asking [(13, [0, 1, 3, 4, 5])] 11 _ _ _ _ H
set_option maxRecDepth 100000 in
theorem ch_X5_asking_13 {L : Nat} {xs : Nat → Int32} {hA hE h : am_H} {r : Option Int32} {l0 : Nat} {l1 l3 l4 l5 : Int32} (H : am_b (am_gI h l0 5 1) (fun x1 => (if (l5 : Int32) < x1 then ∃ (x3 : Int32) (h2 : am_H), am_ok L xs m_X5_has [.int l3, .int l5] h (some x3) h2 ∧ (if (x3 : Int32) = 0 then am_wa L xs m_X5_asking hA r hE 13 [.ref l0, .int l1, .null, .int l3, .int l4, .int (l5 + (1 : Int32))] [] h2 else ∃ (x5 : Int32) (h4 : am_H), am_ok L xs m_X5_lot [.ref l0, .int l1, .int (16 : Int32)] h2 (some x5) h4 ∧ am_b (am_gR h4 l0 5 0) (fun a6 => am_b (am_lI h4 .int a6 ((l1 + (1 : Int32)) + l5)) (fun x7 => (if (x5 : Int32) < x7 then am_wa L xs m_X5_asking hA r hE 13 [.ref l0, .int l1, .null, .int l3, .int (l4 ||| ((1 : Int32) <<< (l5 &&& 31))), .int (l5 + (1 : Int32))] [] h4 else am_wa L xs m_X5_asking hA r hE 13 [.ref l0, .int l1, .null, .int l3, .int l4, .int (l5 + (1 : Int32))] [] h4)))) else am_fit .int l4 ∧ some l4 = r ∧ h = hE))) : am_wa L xs m_X5_asking hA r hE 13 [.ref l0, .int l1, .null, .int l3, .int l4, .int l5] [] h := am_chunk am_mk_all okk_X5_asking [(13, [0, 1, 3, 4, 5])] 31 _ _ _ _ H
theorem en_X5_hearing {L : Nat} {xs : Nat → Int32} {h h' : am_H} {r : Int32} {this : Nat} {a b c d : Int32} (hre : am_cls h this = some 5) (e1 : h'.1 = h.1) (e2 : h'.2.1 = h.2.1) (hw : am_wa L xs m_X5_hearing h (some r) h' 0 [.ref this, .int a, .int b, .int c, .int d, .null, .null] [] h) : am_ok L xs m_X5_hearing [.ref this, .int a, .int b, .int c, .int d] h (some r) h' := am_ok_of (ls := [.ref this, .int a, .int b, .int c, .int d, .null, .null]) mk_X5_hearing.2.1 mk_X5_hearing.2.2 ⟨fun z => (by cases z), fun z => absurd z (by decide +kernel)⟩ (fun z => absurd z (by decide +kernel)) ⟨fun _ => ⟨this, _, rfl, Or.inl hre⟩, fun z => absurd z (by decide +kernel)⟩ e1 e2 (fun _ _ => ⟨Nat.le_of_ble_eq_true rfl, fun _ hq => hq⟩) hw
set_option maxRecDepth 100000 in
theorem ch_X5_hearing_0 {L : Nat} {xs : Nat → Int32} {hA hE h : am_H} {r : Option Int32} {this : Nat} {a b c d : Int32} (H : am_wa L xs m_X5_hearing hA r hE 6 [.ref this, .int a, .int b, .int c, .int d, .int (0 : Int32), .int (0 : Int32)] [] h) : am_wa L xs m_X5_hearing hA r hE 0 [.ref this, .int a, .int b, .int c, .int d, .null, .null] [] h := am_chunk am_mk_all okk_X5_hearing [(6, [0, 1, 2, 3, 4, 5, 6])] 6 _ _ _ _ H
set_option maxRecDepth 100000 in
theorem ch_X5_hearing_6 {L : Nat} {xs : Nat → Int32} {hA hE h : am_H} {r : Option Int32} {l0 : Nat} {l1 l2 l3 l4 l5 l6 : Int32} (H : am_b (am_gI h l0 5 1) (fun x1 => (if (l6 : Int32) < x1 then ∃ (x3 : Int32) (h2 : am_H), am_ok L xs m_X5_has [.int l2, .int l6] h (some x3) h2 ∧ (if (x3 : Int32) = 0 then am_wa L xs m_X5_hearing hA r hE 6 [.ref l0, .int l1, .int l2, .int l3, .int l4, .int (l5 ||| (0 : Int32)), .int (l6 + (1 : Int32))] [] h2 else am_b (am_gR h2 l0 5 0) (fun a4 => am_b (am_lI h2 .int a4 ((l1 + (17 : Int32)) + l6)) (fun x5 => ∃ (x7 : Int32) (h6 : am_H), am_ok L xs m_X5_ones [.int (x5 &&& l3)] h2 (some x7) h6 ∧ (if (x7 : Int32) < l4 then am_wa L xs m_X5_hearing hA r hE 6 [.ref l0, .int l1, .int l2, .int l3, .int l4, .int (l5 ||| (0 : Int32)), .int (l6 + (1 : Int32))] [] h6 else am_wa L xs m_X5_hearing hA r hE 6 [.ref l0, .int l1, .int l2, .int l3, .int l4, .int (l5 ||| ((1 : Int32) <<< (l6 &&& 31))), .int (l6 + (1 : Int32))] [] h6)))) else am_fit .int l5 ∧ some l5 = r ∧ h = hE))) : am_wa L xs m_X5_hearing hA r hE 6 [.ref l0, .int l1, .int l2, .int l3, .int l4, .int l5, .int l6] [] h := am_chunk am_mk_all okk_X5_hearing [(6, [0, 1, 2, 3, 4, 5, 6])] 32 _ _ _ _ H
theorem en_X5_first {L : Nat} {xs : Nat → Int32} {h h' : am_H} {r : Int32} {this : Nat} {a : Int32} (hre : am_cls h this = some 5) (e1 : h'.1 = h.1) (e2 : h'.2.1 = h.2.1) (hw : am_wa L xs m_X5_first h (some r) h' 0 [.ref this, .int a, .null, .null] [] h) : am_ok L xs m_X5_first [.ref this, .int a] h (some r) h' := am_ok_of (ls := [.ref this, .int a, .null, .null]) mk_X5_first.2.1 mk_X5_first.2.2 ⟨fun z => (by cases z), fun z => absurd z (by decide +kernel)⟩ (fun z => absurd z (by decide +kernel)) ⟨fun _ => ⟨this, _, rfl, Or.inl hre⟩, fun z => absurd z (by decide +kernel)⟩ e1 e2 (fun _ _ => ⟨Nat.le_of_ble_eq_true rfl, fun _ hq => hq⟩) hw
set_option maxRecDepth 100000 in
theorem ch_X5_first_0 {L : Nat} {xs : Nat → Int32} {hA hE h : am_H} {r : Option Int32} {this : Nat} {a : Int32} (H : am_wa L xs m_X5_first hA r hE 4 [.ref this, .int a, .int (-1 : Int32), .int (0 : Int32)] [] h) : am_wa L xs m_X5_first hA r hE 0 [.ref this, .int a, .null, .null] [] h := am_chunk am_mk_all okk_X5_first [(4, [0, 1, 2, 3])] 6 _ _ _ _ H
set_option maxRecDepth 100000 in
theorem ch_X5_first_4 {L : Nat} {xs : Nat → Int32} {hA hE h : am_H} {r : Option Int32} {l0 : Nat} {l1 l2 l3 : Int32} (H : am_b (am_gI h l0 5 1) (fun x1 => (if (l3 : Int32) < x1 then ∃ (x3 : Int32) (h2 : am_H), am_ok L xs m_X5_has [.int l1, .int l3] h (some x3) h2 ∧ (if (x3 : Int32) = 0 then am_wa L xs m_X5_first hA r hE 4 [.ref l0, .int l1, .int l2, .int (l3 + (1 : Int32))] [] h2 else (if (l2 : Int32) = (-1 : Int32) then am_wa L xs m_X5_first hA r hE 4 [.ref l0, .int l1, .int l3, .int (l3 + (1 : Int32))] [] h2 else am_b (am_gR h2 l0 5 18) (fun a4 => am_b (am_lI h2 .int a4 l3) (fun x5 => am_b (am_gR h2 l0 5 18) (fun a6 => am_b (am_lI h2 .int a6 l2) (fun x7 => (if (x7 : Int32) < x5 then am_wa L xs m_X5_first hA r hE 4 [.ref l0, .int l1, .int l3, .int (l3 + (1 : Int32))] [] h2 else am_wa L xs m_X5_first hA r hE 4 [.ref l0, .int l1, .int l2, .int (l3 + (1 : Int32))] [] h2))))))) else am_fit .int l2 ∧ some l2 = r ∧ h = hE))) : am_wa L xs m_X5_first hA r hE 4 [.ref l0, .int l1, .int l2, .int l3] [] h := am_chunk am_mk_all okk_X5_first [(4, [0, 1, 2, 3])] 27 _ _ _ _ H
theorem en_X5_settles {L : Nat} {xs : Nat → Int32} {h h' : am_H} {r : Int32} {this : Nat} {a b c d : Int32} (hre : am_cls h this = some 5) (e1 : h'.1 = h.1) (e2 : h'.2.1 = h.2.1) (hw : am_wa L xs m_X5_settles h (some r) h' 0 [.ref this, .int a, .int b, .int c, .int d, .null, .null, .null] [] h) : am_ok L xs m_X5_settles [.ref this, .int a, .int b, .int c, .int d] h (some r) h' := am_ok_of (ls := [.ref this, .int a, .int b, .int c, .int d, .null, .null, .null]) mk_X5_settles.2.1 mk_X5_settles.2.2 ⟨fun z => (by cases z), fun z => absurd z (by decide +kernel)⟩ (fun z => absurd z (by decide +kernel)) ⟨fun _ => ⟨this, _, rfl, Or.inl hre⟩, fun z => absurd z (by decide +kernel)⟩ e1 e2 (fun _ _ => ⟨Nat.le_of_ble_eq_true rfl, fun _ hq => hq⟩) hw
set_option maxRecDepth 100000 in
theorem ch_X5_settles_0 {L : Nat} {xs : Nat → Int32} {hA hE h : am_H} {r : Option Int32} {this : Nat} {a b c d : Int32} (H : am_wa L xs m_X5_settles hA r hE 3 [.ref this, .int a, .int b, .int c, .int d, .int (0 : Int32), .null, .null] [] h) : am_wa L xs m_X5_settles hA r hE 0 [.ref this, .int a, .int b, .int c, .int d, .null, .null, .null] [] h := am_chunk am_mk_all okk_X5_settles [(3, [0, 1, 2, 3, 4, 5]), (51, [0, 1, 2, 4, 5, 6])] 4 _ _ _ _ H
set_option maxRecDepth 100000 in
theorem ch_X5_settles_3 {L : Nat} {xs : Nat → Int32} {hA hE h : am_H} {r : Option Int32} {l0 : Nat} {l1 l2 l3 l4 l5 : Int32} (H : am_b (am_gI h l0 5 1) (fun x1 => (if (l5 : Int32) < x1 then am_b (am_gR h l0 5 18) (fun a2 => ∃ (x4 : Int32) (h3 : am_H), am_ok L xs m_X5_has [.int l3, .int l5] h (some x4) h3 ∧ (if (x4 : Int32) = 0 then am_b (am_sI h3 .int a2 l5 (0 : Int32)) (fun h5 => am_wa L xs m_X5_settles hA r hE 3 [.ref l0, .int l1, .int l2, .int l3, .int l4, .int (l5 + (1 : Int32)), .null, .null] [] h5) else ∃ (x7 : Int32) (h6 : am_H), am_ok L xs m_X5_lot [.ref l0, .int l1, .int (8 : Int32)] h3 (some x7) h6 ∧ am_b (am_sI h6 .int a2 l5 x7) (fun h8 => am_wa L xs m_X5_settles hA r hE 3 [.ref l0, .int l1, .int l2, .int l3, .int l4, .int (l5 + (1 : Int32)), .null, .null] [] h8))) else am_wa L xs m_X5_settles hA r hE 51 [.ref l0, .int l1, .int l2, .null, .int l4, .int l3, .int (0 : Int32), .null] [] h))) : am_wa L xs m_X5_settles hA r hE 3 [.ref l0, .int l1, .int l2, .int l3, .int l4, .int l5, .null, .null] [] h := am_chunk am_mk_all okk_X5_settles [(3, [0, 1, 2, 3, 4, 5]), (51, [0, 1, 2, 4, 5, 6])] 21 _ _ _ _ H
set_option maxRecDepth 100000 in
theorem ch_X5_settles_51 {L : Nat} {xs : Nat → Int32} {hA hE h : am_H} {r : Option Int32} {l0 : Nat} {l1 l2 l4 l5 l6 : Int32} (H : (if (l5 : Int32) = 0 then am_fit .int l6 ∧ some l6 = r ∧ h = hE else ∃ (x2 : Int32) (h1 : am_H), am_ok L xs m_X5_first [.ref l0, .int l5] h (some x2) h1 ∧ am_b (am_gR h1 l0 5 0) (fun a3 => am_b (am_lI h1 .int a3 ((l1 + (17 : Int32)) + x2)) (fun x4 => (if ((x4 &&& l4) : Int32) = 0 then am_wa L xs m_X5_settles hA r hE 51 [.ref l0, .int l1, .int l2, .null, .int l4, .int (l5 &&& (((1 : Int32) <<< (x2 &&& 31)) ^^^ (-1 : Int32))), .int l6, .null] [] h1 else ∃ (x6 : Int32) (h5 : am_H), am_ok L xs m_X5_near [.ref l0, .int l1, .int x2] h1 (some x6) h5 ∧ ∃ (x8 : Int32) (h7 : am_H), am_ok L xs m_X5_holders [.ref l0, .int l1, .int l2] h5 (some x8) h7 ∧ (if ((x6 &&& x8) : Int32) = 0 then am_b (am_gR h7 l0 5 0) (fun a9 => am_b (am_lI h7 .int a9 ((l1 + (9 : Int32)) + x2)) (fun x10 => am_b (am_sI h7 .int a9 ((l1 + (9 : Int32)) + x2) (x10 ||| ((1 : Int32) <<< (l2 &&& 31)))) (fun h11 => am_wa L xs m_X5_settles hA r hE 51 [.ref l0, .int l1, .int l2, .null, .int l4, .int (l5 &&& (((1 : Int32) <<< (x2 &&& 31)) ^^^ (-1 : Int32))), .int (l6 ||| ((1 : Int32) <<< (x2 &&& 31))), .null] [] h11))) else am_wa L xs m_X5_settles hA r hE 51 [.ref l0, .int l1, .int l2, .null, .int l4, .int (l5 &&& (((1 : Int32) <<< (x2 &&& 31)) ^^^ (-1 : Int32))), .int l6, .null] [] h7)))))) : am_wa L xs m_X5_settles hA r hE 51 [.ref l0, .int l1, .int l2, .null, .int l4, .int l5, .int l6, .null] [] h := am_chunk am_mk_all okk_X5_settles [(3, [0, 1, 2, 3, 4, 5]), (51, [0, 1, 2, 4, 5, 6])] 58 _ _ _ _ H
theorem en_X5_nearTo {L : Nat} {xs : Nat → Int32} {h h' : am_H} {r : Int32} {this : Nat} {a b : Int32} (hre : am_cls h this = some 5) (e1 : h'.1 = h.1) (e2 : h'.2.1 = h.2.1) (hw : am_wa L xs m_X5_nearTo h (some r) h' 0 [.ref this, .int a, .int b, .null, .null] [] h) : am_ok L xs m_X5_nearTo [.ref this, .int a, .int b] h (some r) h' := am_ok_of (ls := [.ref this, .int a, .int b, .null, .null]) mk_X5_nearTo.2.1 mk_X5_nearTo.2.2 ⟨fun z => (by cases z), fun z => absurd z (by decide +kernel)⟩ (fun z => absurd z (by decide +kernel)) ⟨fun _ => ⟨this, _, rfl, Or.inl hre⟩, fun z => absurd z (by decide +kernel)⟩ e1 e2 (fun _ _ => ⟨Nat.le_of_ble_eq_true rfl, fun _ hq => hq⟩) hw
set_option maxRecDepth 100000 in
theorem ch_X5_nearTo_0 {L : Nat} {xs : Nat → Int32} {hA hE h : am_H} {r : Option Int32} {this : Nat} {a b : Int32} (H : am_wa L xs m_X5_nearTo hA r hE 5 [.ref this, .int a, .int b, .int (0 : Int32), .int (0 : Int32)] [] h) : am_wa L xs m_X5_nearTo hA r hE 0 [.ref this, .int a, .int b, .null, .null] [] h := am_chunk am_mk_all okk_X5_nearTo [(5, [0, 1, 2, 3, 4])] 6 _ _ _ _ H
set_option maxRecDepth 100000 in
theorem ch_X5_nearTo_5 {L : Nat} {xs : Nat → Int32} {hA hE h : am_H} {r : Option Int32} {l0 : Nat} {l1 l2 l3 l4 : Int32} (H : am_b (am_gI h l0 5 1) (fun x1 => (if (l4 : Int32) < x1 then ∃ (x3 : Int32) (h2 : am_H), am_ok L xs m_X5_near [.ref l0, .int l1, .int l4] h (some x3) h2 ∧ (if ((x3 &&& l2) : Int32) = 0 then am_wa L xs m_X5_nearTo hA r hE 5 [.ref l0, .int l1, .int l2, .int (l3 ||| (0 : Int32)), .int (l4 + (1 : Int32))] [] h2 else am_wa L xs m_X5_nearTo hA r hE 5 [.ref l0, .int l1, .int l2, .int (l3 ||| ((1 : Int32) <<< (l4 &&& 31))), .int (l4 + (1 : Int32))] [] h2) else am_fit .int l3 ∧ some l3 = r ∧ h = hE))) : am_wa L xs m_X5_nearTo hA r hE 5 [.ref l0, .int l1, .int l2, .int l3, .int l4] [] h := am_chunk am_mk_all okk_X5_nearTo [(5, [0, 1, 2, 3, 4])] 22 _ _ _ _ H
theorem en_X5_shares {L : Nat} {xs : Nat → Int32} {h h' : am_H} {this : Nat} {a b c : Int32} (hre : am_cls h this = some 5) (e1 : h'.1 = h.1) (e2 : h'.2.1 = h.2.1) (hw : am_wa L xs m_X5_shares h none h' 0 [.ref this, .int a, .int b, .int c, .null, .null, .null] [] h) : am_ok L xs m_X5_shares [.ref this, .int a, .int b, .int c] h none h' := am_ok_of (ls := [.ref this, .int a, .int b, .int c, .null, .null, .null]) mk_X5_shares.2.1 mk_X5_shares.2.2 ⟨fun _ => rfl, fun _ => rfl⟩ (fun z => absurd z (by decide +kernel)) ⟨fun _ => ⟨this, _, rfl, Or.inl hre⟩, fun z => absurd z (by decide +kernel)⟩ e1 e2 (fun _ _ => ⟨Nat.le_of_ble_eq_true rfl, fun _ hq => hq⟩) hw
set_option maxRecDepth 100000 in
theorem ch_X5_shares_0 {L : Nat} {xs : Nat → Int32} {hA hE h : am_H} {r : Option Int32} {this : Nat} {a b c : Int32} (H : ∃ (x2 : Int32) (h1 : am_H), am_ok L xs m_X5_nearTo [.ref this, .int a, .int c] h (some x2) h1 ∧ am_wa L xs m_X5_shares hA r hE 11 [.ref this, .int a, .int b, .int c, .int x2, .int (0 : Int32), .null] [] h1) : am_wa L xs m_X5_shares hA r hE 0 [.ref this, .int a, .int b, .int c, .null, .null, .null] [] h := am_chunk am_mk_all okk_X5_shares [(11, [0, 1, 2, 3, 4, 5])] 9 _ _ _ _ H
set_option maxRecDepth 100000 in
theorem ch_X5_shares_11 {L : Nat} {xs : Nat → Int32} {hA hE h : am_H} {r : Option Int32} {l0 : Nat} {l1 l2 l3 l4 l5 : Int32} (H : am_b (am_gI h l0 5 1) (fun x1 => (if (l5 : Int32) < x1 then am_b (am_gR h l0 5 0) (fun a2 => am_b (am_lI h .int a2 ((l1 + (1 : Int32)) + l5)) (fun x3 => ∃ (x5 : Int32) (h4 : am_H), am_ok L xs m_X5_has [.int l2, .int l5] h (some x5) h4 ∧ (if (x5 : Int32) = 0 then ∃ (x7 : Int32) (h6 : am_H), am_ok L xs m_X5_has [.int (l4 ||| l3), .int l5] h4 (some x7) h6 ∧ (if (x7 : Int32) = 0 then am_b (am_gR h6 l0 5 0) (fun a8 => am_b (am_lI h6 .int a8 ((l1 + (17 : Int32)) + l5)) (fun x9 => (if ((x9 &&& l4) : Int32) = 0 then am_b (am_gR h6 l0 5 0) (fun a10 => am_b (am_sI h6 .int a10 ((l1 + (1 : Int32)) + l5) x3) (fun h11 => am_wa L xs m_X5_shares hA r hE 11 [.ref l0, .int l1, .int l2, .int l3, .int l4, .int (l5 + (1 : Int32)), .null] [] h11)) else (if ((8 : Int32) : Int32) < x3 then am_b (am_gR h6 l0 5 0) (fun a12 => am_b (am_sI h6 .int a12 ((l1 + (1 : Int32)) + l5) (16 : Int32)) (fun h13 => am_wa L xs m_X5_shares hA r hE 11 [.ref l0, .int l1, .int l2, .int l3, .int l4, .int (l5 + (1 : Int32)), .null] [] h13)) else am_b (am_gR h6 l0 5 0) (fun a14 => am_b (am_sI h6 .int a14 ((l1 + (1 : Int32)) + l5) ((2 : Int32) * x3)) (fun h15 => am_wa L xs m_X5_shares hA r hE 11 [.ref l0, .int l1, .int l2, .int l3, .int l4, .int (l5 + (1 : Int32)), .null] [] h15)))))) else am_b (am_gR h6 l0 5 0) (fun a16 => am_b (am_sI h6 .int a16 ((l1 + (1 : Int32)) + l5) x3) (fun h17 => am_wa L xs m_X5_shares hA r hE 11 [.ref l0, .int l1, .int l2, .int l3, .int l4, .int (l5 + (1 : Int32)), .null] [] h17))) else ∃ (x19 : Int32) (h18 : am_H), am_ok L xs m_X5_has [.int l3, .int l5] h4 (some x19) h18 ∧ (if (x19 : Int32) = 0 then (if (x3 : Int32) < (2 : Int32) then am_b (am_gR h18 l0 5 0) (fun a20 => am_b (am_sI h18 .int a20 ((l1 + (1 : Int32)) + l5) (1 : Int32)) (fun h21 => am_wa L xs m_X5_shares hA r hE 11 [.ref l0, .int l1, .int l2, .int l3, .int l4, .int (l5 + (1 : Int32)), .null] [] h21)) else (¬ ((2 : Int32) : Int32) = 0) ∧ am_b (am_gR h18 l0 5 0) (fun a22 => am_b (am_sI h18 .int a22 ((l1 + (1 : Int32)) + l5) (x3 / (2 : Int32))) (fun h23 => am_wa L xs m_X5_shares hA r hE 11 [.ref l0, .int l1, .int l2, .int l3, .int l4, .int (l5 + (1 : Int32)), .null] [] h23))) else am_b (am_gR h18 l0 5 0) (fun a24 => am_b (am_sI h18 .int a24 ((l1 + (1 : Int32)) + l5) x3) (fun h25 => am_wa L xs m_X5_shares hA r hE 11 [.ref l0, .int l1, .int l2, .int l3, .int l4, .int (l5 + (1 : Int32)), .null] [] h25)))))) else none = r ∧ h = hE))) : am_wa L xs m_X5_shares hA r hE 11 [.ref l0, .int l1, .int l2, .int l3, .int l4, .int l5, .null] [] h := am_chunk am_mk_all okk_X5_shares [(11, [0, 1, 2, 3, 4, 5])] 54 _ _ _ _ H
theorem en_X5_cycleOf {L : Nat} {xs : Nat → Int32} {h h' : am_H} {this : Nat} {a b : Int32} (hre : am_cls h this = some 5) (e1 : h'.1 = h.1) (e2 : h'.2.1 = h.2.1) (hw : am_wa L xs m_X5_cycleOf h none h' 0 [.ref this, .int a, .int b, .null, .null, .null, .null, .null, .null] [] h) : am_ok L xs m_X5_cycleOf [.ref this, .int a, .int b] h none h' := am_ok_of (ls := [.ref this, .int a, .int b, .null, .null, .null, .null, .null, .null]) mk_X5_cycleOf.2.1 mk_X5_cycleOf.2.2 ⟨fun _ => rfl, fun _ => rfl⟩ (fun z => absurd z (by decide +kernel)) ⟨fun _ => ⟨this, _, rfl, Or.inl hre⟩, fun z => absurd z (by decide +kernel)⟩ e1 e2 (fun _ _ => ⟨Nat.le_of_ble_eq_true rfl, fun _ hq => hq⟩) hw
set_option maxRecDepth 100000 in
theorem ch_X5_cycleOf_0 {L : Nat} {xs : Nat → Int32} {hA hE h : am_H} {r : Option Int32} {this : Nat} {a b : Int32} (H : am_b (am_gI h this 5 1) (fun x1 => ∃ (x3 : Int32) (h2 : am_H), am_ok L xs m_X5_asking [.ref this, .int a, .int b] h (some x3) h2 ∧ ∃ (x5 : Int32) (h4 : am_H), am_ok L xs m_X5_hearing [.ref this, .int a, .int ((((1 : Int32) <<< (x1 &&& 31)) - (1 : Int32)) &&& (x3 ^^^ (-1 : Int32))), .int x3, .int (2 : Int32)] h2 (some x5) h4 ∧ ∃ (x7 : Int32) (h6 : am_H), am_ok L xs m_X5_hearing [.ref this, .int a, .int x3, .int x5, .int (1 : Int32)] h4 (some x7) h6 ∧ ∃ (x9 : Int32) (h8 : am_H), am_ok L xs m_X5_hearing [.ref this, .int a, .int ((((1 : Int32) <<< (x1 &&& 31)) - (1 : Int32)) &&& (x3 ^^^ (-1 : Int32))), .int (x3 &&& (x7 ^^^ (-1 : Int32))), .int (1 : Int32)] h6 (some x9) h8 ∧ ∃ (x11 : Int32) (h10 : am_H), am_ok L xs m_X5_settles [.ref this, .int a, .int b, .int (x3 &&& (x7 ^^^ (-1 : Int32))), .int x9] h8 (some x11) h10 ∧ ∃ h12, am_ok L xs m_X5_shares [.ref this, .int a, .int x3, .int x11] h10 none h12 ∧ am_b (am_gR h12 this 5 0) (fun a13 => am_b (am_sI h12 .int a13 (a + (25 : Int32)) x3) (fun h14 => am_b (am_gR h14 this 5 0) (fun a15 => am_b (am_sI h14 .int a15 ((a + (25 : Int32)) + (1 : Int32)) x5) (fun h16 => am_b (am_gR h16 this 5 0) (fun a17 => am_b (am_sI h16 .int a17 ((a + (25 : Int32)) + (2 : Int32)) (x3 &&& (x7 ^^^ (-1 : Int32)))) (fun h18 => am_b (am_gR h18 this 5 0) (fun a19 => am_b (am_sI h18 .int a19 ((a + (25 : Int32)) + (3 : Int32)) x9) (fun h20 => am_b (am_gR h20 this 5 0) (fun a21 => am_b (am_sI h20 .int a21 ((a + (25 : Int32)) + (4 : Int32)) x11) (fun h22 => am_b (am_gR h22 this 5 0) (fun a23 => am_b (am_sI h22 .int a23 (a + (30 : Int32)) (1 : Int32)) (fun h24 => none = r ∧ h24 = hE)))))))))))))) : am_wa L xs m_X5_cycleOf hA r hE 0 [.ref this, .int a, .int b, .null, .null, .null, .null, .null, .null] [] h := am_chunk am_mk_all okk_X5_cycleOf [] 109 _ _ _ _ H
theorem en_X5_frameOf {L : Nat} {xs : Nat → Int32} {h h' : am_H} {this : Nat} {a : Int32} (hre : am_cls h this = some 5) (e1 : h'.1 = h.1) (e2 : h'.2.1 = h.2.1) (hw : am_wa L xs m_X5_frameOf h none h' 0 [.ref this, .int a, .null] [] h) : am_ok L xs m_X5_frameOf [.ref this, .int a] h none h' := am_ok_of (ls := [.ref this, .int a, .null]) mk_X5_frameOf.2.1 mk_X5_frameOf.2.2 ⟨fun _ => rfl, fun _ => rfl⟩ (fun z => absurd z (by decide +kernel)) ⟨fun _ => ⟨this, _, rfl, Or.inl hre⟩, fun z => absurd z (by decide +kernel)⟩ e1 e2 (fun _ _ => ⟨Nat.le_of_ble_eq_true rfl, fun _ hq => hq⟩) hw
set_option maxRecDepth 100000 in
theorem ch_X5_frameOf_0 {L : Nat} {xs : Nat → Int32} {hA hE h : am_H} {r : Option Int32} {this : Nat} {a : Int32} (H : am_wa L xs m_X5_frameOf hA r hE 2 [.ref this, .int a, .int (0 : Int32)] [] h) : am_wa L xs m_X5_frameOf hA r hE 0 [.ref this, .int a, .null] [] h := am_chunk am_mk_all okk_X5_frameOf [(2, [0, 1, 2])] 4 _ _ _ _ H
set_option maxRecDepth 100000 in
theorem ch_X5_frameOf_2 {L : Nat} {xs : Nat → Int32} {hA hE h : am_H} {r : Option Int32} {l0 : Nat} {l1 l2 : Int32} (H : am_b (am_gI h l0 5 2) (fun x1 => am_b (am_gI h l0 5 3) (fun x2 => (if (l2 : Int32) < (x1 * x2) then am_b (am_gI h l0 5 3) (fun x3 => (¬ (x3 : Int32) = 0) ∧ ∃ h4, am_ok L xs m_X5_cycleOf [.ref l0, .int l1, .int (l2 / x3)] h none h4 ∧ am_wa L xs m_X5_frameOf hA r hE 2 [.ref l0, .int l1, .int (l2 + (1 : Int32))] [] h4) else none = r ∧ h = hE)))) : am_wa L xs m_X5_frameOf hA r hE 2 [.ref l0, .int l1, .int l2] [] h := am_chunk am_mk_all okk_X5_frameOf [(2, [0, 1, 2])] 18 _ _ _ _ H
theorem en_X5_keepPast {L : Nat} {xs : Nat → Int32} {h h' : am_H} {this : Nat} (hre : am_cls h this = some 5) (e1 : h'.1 = h.1) (e2 : h'.2.1 = h.2.1) (hw : am_wa L xs m_X5_keepPast h none h' 0 [.ref this, .null] [] h) : am_ok L xs m_X5_keepPast [.ref this] h none h' := am_ok_of (ls := [.ref this, .null]) mk_X5_keepPast.2.1 mk_X5_keepPast.2.2 ⟨fun _ => rfl, fun _ => rfl⟩ (fun z => absurd z (by decide +kernel)) ⟨fun _ => ⟨this, _, rfl, Or.inl hre⟩, fun z => absurd z (by decide +kernel)⟩ e1 e2 (fun _ _ => ⟨Nat.le_of_ble_eq_true rfl, fun _ hq => hq⟩) hw
set_option maxRecDepth 100000 in
theorem ch_X5_keepPast_0 {L : Nat} {xs : Nat → Int32} {hA hE h : am_H} {r : Option Int32} {this : Nat} (H : am_wa L xs m_X5_keepPast hA r hE 2 [.ref this, .int (0 : Int32)] [] h) : am_wa L xs m_X5_keepPast hA r hE 0 [.ref this, .null] [] h := am_chunk am_mk_all okk_X5_keepPast [(2, [0, 1])] 4 _ _ _ _ H
set_option maxRecDepth 100000 in
theorem ch_X5_keepPast_2 {L : Nat} {xs : Nat → Int32} {hA hE h : am_H} {r : Option Int32} {l0 : Nat} {l1 : Int32} (H : (if (l1 : Int32) < (217 : Int32) then am_b (am_gI h l0 5 5) (fun x1 => (if (x1 : Int32) = (8 : Int32) then am_b (am_gR h l0 5 0) (fun a2 => am_b (am_gR h l0 5 0) (fun a3 => am_b (am_lI h .int a3 ((62 : Int32) + l1)) (fun x4 => am_b (am_sI h .int a2 ((31 : Int32) + l1) x4) (fun h5 => am_wa L xs m_X5_keepPast hA r hE 2 [.ref l0, .int (l1 + (1 : Int32))] [] h5)))) else am_b (am_gI h l0 5 5) (fun x6 => am_b (am_gI h l0 5 5) (fun x7 => (if (x7 : Int32) = (8 : Int32) then am_b (am_pF h l0 5 5 (.int (x6 - (1 : Int32)))) (fun h8 => am_b (am_gI h8 l0 5 5) (fun x9 => ∃ h10, am_ok L xs m_X5_copyRow [.ref l0, .int (0 : Int32), .int ((31 : Int32) + ((31 : Int32) * x9))] h8 none h10 ∧ am_b (am_gI h10 l0 5 5) (fun x11 => am_b (am_pF h10 l0 5 5 (.int (x11 + (1 : Int32)))) (fun h12 => none = r ∧ h12 = hE)))) else am_b (am_pF h l0 5 5 (.int (x6 - (0 : Int32)))) (fun h13 => am_b (am_gI h13 l0 5 5) (fun x14 => ∃ h15, am_ok L xs m_X5_copyRow [.ref l0, .int (0 : Int32), .int ((31 : Int32) + ((31 : Int32) * x14))] h13 none h15 ∧ am_b (am_gI h15 l0 5 5) (fun x16 => am_b (am_pF h15 l0 5 5 (.int (x16 + (1 : Int32)))) (fun h17 => none = r ∧ h17 = hE))))))))) else am_b (am_gI h l0 5 5) (fun x18 => am_b (am_gI h l0 5 5) (fun x19 => (if (x19 : Int32) = (8 : Int32) then am_b (am_pF h l0 5 5 (.int (x18 - (1 : Int32)))) (fun h20 => am_b (am_gI h20 l0 5 5) (fun x21 => ∃ h22, am_ok L xs m_X5_copyRow [.ref l0, .int (0 : Int32), .int ((31 : Int32) + ((31 : Int32) * x21))] h20 none h22 ∧ am_b (am_gI h22 l0 5 5) (fun x23 => am_b (am_pF h22 l0 5 5 (.int (x23 + (1 : Int32)))) (fun h24 => none = r ∧ h24 = hE)))) else am_b (am_pF h l0 5 5 (.int (x18 - (0 : Int32)))) (fun h25 => am_b (am_gI h25 l0 5 5) (fun x26 => ∃ h27, am_ok L xs m_X5_copyRow [.ref l0, .int (0 : Int32), .int ((31 : Int32) + ((31 : Int32) * x26))] h25 none h27 ∧ am_b (am_gI h27 l0 5 5) (fun x28 => am_b (am_pF h27 l0 5 5 (.int (x28 + (1 : Int32)))) (fun h29 => none = r ∧ h29 = hE))))))))) : am_wa L xs m_X5_keepPast hA r hE 2 [.ref l0, .int l1] [] h := am_chunk am_mk_all okk_X5_keepPast [(2, [0, 1])] 35 _ _ _ _ H
theorem en_X5_cycle {L : Nat} {xs : Nat → Int32} {h h' : am_H} {r : Int32} {this : Nat} {a : Int32} (hre : am_cls h this = some 5) (e1 : h'.1 = h.1) (e2 : h'.2.1 = h.2.1) (hw : am_wa L xs m_X5_cycle h (some r) h' 0 [.ref this, .int a] [] h) : am_ok L xs m_X5_cycle [.ref this, .int a] h (some r) h' := am_ok_of (ls := [.ref this, .int a]) mk_X5_cycle.2.1 mk_X5_cycle.2.2 ⟨fun z => (by cases z), fun z => absurd z (by decide +kernel)⟩ (fun z => absurd z (by decide +kernel)) ⟨fun _ => ⟨this, _, rfl, Or.inl hre⟩, fun z => absurd z (by decide +kernel)⟩ e1 e2 (fun _ _ => ⟨Nat.le_of_ble_eq_true rfl, fun _ hq => hq⟩) hw
set_option maxRecDepth 100000 in
theorem ch_X5_cycle_0 {L : Nat} {xs : Nat → Int32} {hA hE h : am_H} {r : Option Int32} {this : Nat} {a : Int32} (H : ∃ (x2 : Int32) (h1 : am_H), am_ok L xs m_X5_isSlot [.ref this, .int a] h (some x2) h1 ∧ (if (x2 : Int32) = 0 then am_fit .int (-2 : Int32) ∧ some (-2 : Int32) = r ∧ h1 = hE else ∃ h3, am_ok L xs m_X5_keepPast [.ref this] h1 none h3 ∧ ∃ h4, am_ok L xs m_X5_cycleOf [.ref this, .int (0 : Int32), .int a] h3 none h4 ∧ am_b (am_gR h4 this 5 0) (fun a5 => am_b (am_lI h4 .int a5 (29 : Int32)) (fun x6 => am_fit .int x6 ∧ some x6 = r ∧ h4 = hE)))) : am_wa L xs m_X5_cycle hA r hE 0 [.ref this, .int a] [] h := am_chunk am_mk_all okk_X5_cycle [] 16 _ _ _ _ H
theorem en_X5_frame {L : Nat} {xs : Nat → Int32} {h h' : am_H} {r : Int32} {this : Nat} {a : Int32} (hre : am_cls h this = some 5) (e1 : h'.1 = h.1) (e2 : h'.2.1 = h.2.1) (hw : am_wa L xs m_X5_frame h (some r) h' 0 [.ref this, .int a, .null] [] h) : am_ok L xs m_X5_frame [.ref this, .int a] h (some r) h' := am_ok_of (ls := [.ref this, .int a, .null]) mk_X5_frame.2.1 mk_X5_frame.2.2 ⟨fun z => (by cases z), fun z => absurd z (by decide +kernel)⟩ (fun z => absurd z (by decide +kernel)) ⟨fun _ => ⟨this, _, rfl, Or.inl hre⟩, fun z => absurd z (by decide +kernel)⟩ e1 e2 (fun _ _ => ⟨Nat.le_of_ble_eq_true rfl, fun _ hq => hq⟩) hw
set_option maxRecDepth 100000 in
theorem ch_X5_frame_0 {L : Nat} {xs : Nat → Int32} {hA hE h : am_H} {r : Option Int32} {this : Nat} {a : Int32} (H : ∃ (x2 : Int32) (h1 : am_H), am_ok L xs m_X5_in [.long (Int32.toInt64 a), .long (Int32.toInt64 (1 : Int32)), .long (Int32.toInt64 (12 : Int32))] h (some x2) h1 ∧ (if (x2 : Int32) = 0 then am_fit .int (-3 : Int32) ∧ some (-3 : Int32) = r ∧ h1 = hE else ∃ h3, am_ok L xs m_X5_keepPast [.ref this] h1 none h3 ∧ am_wa L xs m_X5_frame hA r hE 21 [.ref this, .int a, .int (0 : Int32)] [] h3)) : am_wa L xs m_X5_frame hA r hE 0 [.ref this, .int a, .null] [] h := am_chunk am_mk_all okk_X5_frame [(21, [0, 1, 2])] 12 _ _ _ _ H
set_option maxRecDepth 100000 in
theorem ch_X5_frame_21 {L : Nat} {xs : Nat → Int32} {hA hE h : am_H} {r : Option Int32} {l0 : Nat} {l1 l2 : Int32} (H : (if (l2 : Int32) < l1 then ∃ h1, am_ok L xs m_X5_frameOf [.ref l0, .int (0 : Int32)] h none h1 ∧ am_wa L xs m_X5_frame hA r hE 21 [.ref l0, .int l1, .int (l2 + (1 : Int32))] [] h1 else ∃ (x3 : Int32) (h2 : am_H), am_ok L xs m_X5_covered [.ref l0, .int (0 : Int32)] h (some x3) h2 ∧ ∃ (x5 : Int32) (h4 : am_H), am_ok L xs m_X5_ones [.int x3] h2 (some x5) h4 ∧ am_fit .int x5 ∧ some x5 = r ∧ h4 = hE)) : am_wa L xs m_X5_frame hA r hE 21 [.ref l0, .int l1, .int l2] [] h := am_chunk am_mk_all okk_X5_frame [(21, [0, 1, 2])] 10 _ _ _ _ H
theorem en_X5_give {L : Nat} {xs : Nat → Int32} {h h' : am_H} {r : Int32} {this : Nat} {a b : Int32} (hre : am_cls h this = some 5) (e1 : h'.1 = h.1) (e2 : h'.2.1 = h.2.1) (hw : am_wa L xs m_X5_give h (some r) h' 0 [.ref this, .int a, .int b] [] h) : am_ok L xs m_X5_give [.ref this, .int a, .int b] h (some r) h' := am_ok_of (ls := [.ref this, .int a, .int b]) mk_X5_give.2.1 mk_X5_give.2.2 ⟨fun z => (by cases z), fun z => absurd z (by decide +kernel)⟩ (fun z => absurd z (by decide +kernel)) ⟨fun _ => ⟨this, _, rfl, Or.inl hre⟩, fun z => absurd z (by decide +kernel)⟩ e1 e2 (fun _ _ => ⟨Nat.le_of_ble_eq_true rfl, fun _ hq => hq⟩) hw
set_option maxRecDepth 100000 in
theorem ch_X5_give_0 {L : Nat} {xs : Nat → Int32} {hA hE h : am_H} {r : Option Int32} {this : Nat} {a b : Int32} (H : ∃ (x2 : Int32) (h1 : am_H), am_ok L xs m_X5_isStation [.ref this, .int a] h (some x2) h1 ∧ (if (x2 : Int32) = 0 then am_fit .int (-2 : Int32) ∧ some (-2 : Int32) = r ∧ h1 = hE else ∃ (x4 : Int32) (h3 : am_H), am_ok L xs m_X5_isSlot [.ref this, .int b] h1 (some x4) h3 ∧ (if (x4 : Int32) = 0 then am_fit .int (-2 : Int32) ∧ some (-2 : Int32) = r ∧ h3 = hE else am_b (am_gR h3 this 5 0) (fun a5 => am_b (am_lI h3 .int a5 ((9 : Int32) + a)) (fun x6 => ∃ (x8 : Int32) (h7 : am_H), am_ok L xs m_X5_has [.int x6, .int b] h3 (some x8) h7 ∧ (if (x8 : Int32) = 0 then am_fit .int (-4 : Int32) ∧ some (-4 : Int32) = r ∧ h7 = hE else ∃ h9, am_ok L xs m_X5_keepPast [.ref this] h7 none h9 ∧ am_b (am_gR h9 this 5 0) (fun a10 => am_b (am_lI h9 .int a10 ((9 : Int32) + a)) (fun x11 => am_b (am_sI h9 .int a10 ((9 : Int32) + a) (x11 &&& (((1 : Int32) <<< (b &&& 31)) ^^^ (-1 : Int32)))) (fun h12 => am_b (am_gR h12 this 5 0) (fun a13 => am_b (am_lI h12 .int a13 ((9 : Int32) + a)) (fun x14 => ∃ (x16 : Int32) (h15 : am_H), am_ok L xs m_X5_ones [.int x14] h12 (some x16) h15 ∧ am_fit .int x16 ∧ some x16 = r ∧ h15 = hE))))))))))) : am_wa L xs m_X5_give hA r hE 0 [.ref this, .int a, .int b] [] h := am_chunk am_mk_all okk_X5_give [] 42 _ _ _ _ H
theorem en_X5_areTwo {L : Nat} {xs : Nat → Int32} {h h' : am_H} {r : Int32} {this : Nat} {a b : Int32} (hre : am_cls h this = some 5) (e1 : h'.1 = h.1) (e2 : h'.2.1 = h.2.1) (hw : am_wa L xs m_X5_areTwo h (some r) h' 0 [.ref this, .int a, .int b] [] h) : am_ok L xs m_X5_areTwo [.ref this, .int a, .int b] h (some r) h' := am_ok_of (ls := [.ref this, .int a, .int b]) mk_X5_areTwo.2.1 mk_X5_areTwo.2.2 ⟨fun z => (by cases z), fun z => absurd z (by decide +kernel)⟩ (fun z => absurd z (by decide +kernel)) ⟨fun _ => ⟨this, _, rfl, Or.inl hre⟩, fun z => absurd z (by decide +kernel)⟩ e1 e2 (fun _ _ => ⟨Nat.le_of_ble_eq_true rfl, fun _ hq => hq⟩) hw
set_option maxRecDepth 100000 in
theorem ch_X5_areTwo_0 {L : Nat} {xs : Nat → Int32} {hA hE h : am_H} {r : Option Int32} {this : Nat} {a b : Int32} (H : ∃ (x2 : Int32) (h1 : am_H), am_ok L xs m_X5_isStation [.ref this, .int a] h (some x2) h1 ∧ (if (x2 : Int32) = 0 then am_fit .boolean (0 : Int32) ∧ some (0 : Int32) = r ∧ h1 = hE else ∃ (x4 : Int32) (h3 : am_H), am_ok L xs m_X5_isStation [.ref this, .int b] h1 (some x4) h3 ∧ (if (x4 : Int32) = 0 then am_fit .boolean (0 : Int32) ∧ some (0 : Int32) = r ∧ h3 = hE else (if (a : Int32) = b then am_fit .boolean (0 : Int32) ∧ some (0 : Int32) = r ∧ h3 = hE else am_fit .boolean (1 : Int32) ∧ some (1 : Int32) = r ∧ h3 = hE)))) : am_wa L xs m_X5_areTwo hA r hE 0 [.ref this, .int a, .int b] [] h := am_chunk am_mk_all okk_X5_areTwo [] 15 _ _ _ _ H
theorem en_X5_join {L : Nat} {xs : Nat → Int32} {h h' : am_H} {r : Int32} {this : Nat} {a b : Int32} (hre : am_cls h this = some 5) (e1 : h'.1 = h.1) (e2 : h'.2.1 = h.2.1) (hw : am_wa L xs m_X5_join h (some r) h' 0 [.ref this, .int a, .int b] [] h) : am_ok L xs m_X5_join [.ref this, .int a, .int b] h (some r) h' := am_ok_of (ls := [.ref this, .int a, .int b]) mk_X5_join.2.1 mk_X5_join.2.2 ⟨fun z => (by cases z), fun z => absurd z (by decide +kernel)⟩ (fun z => absurd z (by decide +kernel)) ⟨fun _ => ⟨this, _, rfl, Or.inl hre⟩, fun z => absurd z (by decide +kernel)⟩ e1 e2 (fun _ _ => ⟨Nat.le_of_ble_eq_true rfl, fun _ hq => hq⟩) hw
set_option maxRecDepth 100000 in
theorem ch_X5_join_0 {L : Nat} {xs : Nat → Int32} {hA hE h : am_H} {r : Option Int32} {this : Nat} {a b : Int32} (H : ∃ (x2 : Int32) (h1 : am_H), am_ok L xs m_X5_areTwo [.ref this, .int a, .int b] h (some x2) h1 ∧ (if (x2 : Int32) = 0 then am_fit .int (-2 : Int32) ∧ some (-2 : Int32) = r ∧ h1 = hE else am_b (am_gR h1 this 5 0) (fun a3 => am_b (am_lI h1 .int a3 ((17 : Int32) + a)) (fun x4 => ∃ (x6 : Int32) (h5 : am_H), am_ok L xs m_X5_has [.int x4, .int b] h1 (some x6) h5 ∧ (if (x6 : Int32) = 0 then ∃ h7, am_ok L xs m_X5_keepPast [.ref this] h5 none h7 ∧ ∃ h8, am_ok L xs m_X5_joins [.ref this, .int (0 : Int32), .int a, .int b] h7 none h8 ∧ ∃ (x10 : Int32) (h9 : am_H), am_ok L xs m_X5_clashes [.ref this, .int (0 : Int32)] h8 (some x10) h9 ∧ am_fit .int x10 ∧ some x10 = r ∧ h9 = hE else am_fit .int (-4 : Int32) ∧ some (-4 : Int32) = r ∧ h5 = hE))))) : am_wa L xs m_X5_join hA r hE 0 [.ref this, .int a, .int b] [] h := am_chunk am_mk_all okk_X5_join [] 26 _ _ _ _ H
theorem en_X5_part {L : Nat} {xs : Nat → Int32} {h h' : am_H} {r : Int32} {this : Nat} {a b : Int32} (hre : am_cls h this = some 5) (e1 : h'.1 = h.1) (e2 : h'.2.1 = h.2.1) (hw : am_wa L xs m_X5_part h (some r) h' 0 [.ref this, .int a, .int b] [] h) : am_ok L xs m_X5_part [.ref this, .int a, .int b] h (some r) h' := am_ok_of (ls := [.ref this, .int a, .int b]) mk_X5_part.2.1 mk_X5_part.2.2 ⟨fun z => (by cases z), fun z => absurd z (by decide +kernel)⟩ (fun z => absurd z (by decide +kernel)) ⟨fun _ => ⟨this, _, rfl, Or.inl hre⟩, fun z => absurd z (by decide +kernel)⟩ e1 e2 (fun _ _ => ⟨Nat.le_of_ble_eq_true rfl, fun _ hq => hq⟩) hw
set_option maxRecDepth 100000 in
theorem ch_X5_part_0 {L : Nat} {xs : Nat → Int32} {hA hE h : am_H} {r : Option Int32} {this : Nat} {a b : Int32} (H : ∃ (x2 : Int32) (h1 : am_H), am_ok L xs m_X5_areTwo [.ref this, .int a, .int b] h (some x2) h1 ∧ (if (x2 : Int32) = 0 then am_fit .int (-2 : Int32) ∧ some (-2 : Int32) = r ∧ h1 = hE else am_b (am_gR h1 this 5 0) (fun a3 => am_b (am_lI h1 .int a3 ((17 : Int32) + a)) (fun x4 => ∃ (x6 : Int32) (h5 : am_H), am_ok L xs m_X5_has [.int x4, .int b] h1 (some x6) h5 ∧ (if (x6 : Int32) = 0 then am_fit .int (-4 : Int32) ∧ some (-4 : Int32) = r ∧ h5 = hE else ∃ h7, am_ok L xs m_X5_keepPast [.ref this] h5 none h7 ∧ am_b (am_gR h7 this 5 0) (fun a8 => am_b (am_lI h7 .int a8 ((17 : Int32) + a)) (fun x9 => am_b (am_sI h7 .int a8 ((17 : Int32) + a) (x9 &&& (((1 : Int32) <<< (b &&& 31)) ^^^ (-1 : Int32)))) (fun h10 => am_b (am_gR h10 this 5 0) (fun a11 => am_b (am_lI h10 .int a11 ((17 : Int32) + b)) (fun x12 => am_b (am_sI h10 .int a11 ((17 : Int32) + b) (x12 &&& (((1 : Int32) <<< (a &&& 31)) ^^^ (-1 : Int32)))) (fun h13 => ∃ (x15 : Int32) (h14 : am_H), am_ok L xs m_X5_clashes [.ref this, .int (0 : Int32)] h13 (some x15) h14 ∧ am_fit .int x15 ∧ some x15 = r ∧ h14 = hE))))))))))) : am_wa L xs m_X5_part hA r hE 0 [.ref this, .int a, .int b] [] h := am_chunk am_mk_all okk_X5_part [] 49 _ _ _ _ H
theorem en_X5_undo {L : Nat} {xs : Nat → Int32} {h h' : am_H} {r : Int32} {this : Nat} (hre : am_cls h this = some 5) (e1 : h'.1 = h.1) (e2 : h'.2.1 = h.2.1) (hw : am_wa L xs m_X5_undo h (some r) h' 0 [.ref this] [] h) : am_ok L xs m_X5_undo [.ref this] h (some r) h' := am_ok_of (ls := [.ref this]) mk_X5_undo.2.1 mk_X5_undo.2.2 ⟨fun z => (by cases z), fun z => absurd z (by decide +kernel)⟩ (fun z => absurd z (by decide +kernel)) ⟨fun _ => ⟨this, _, rfl, Or.inl hre⟩, fun z => absurd z (by decide +kernel)⟩ e1 e2 (fun _ _ => ⟨Nat.le_of_ble_eq_true rfl, fun _ hq => hq⟩) hw
set_option maxRecDepth 100000 in
theorem ch_X5_undo_0 {L : Nat} {xs : Nat → Int32} {hA hE h : am_H} {r : Option Int32} {this : Nat} (H : am_b (am_gI h this 5 5) (fun x1 => (if (x1 : Int32) = 0 then am_fit .int (-4 : Int32) ∧ some (-4 : Int32) = r ∧ h = hE else am_b (am_gI h this 5 5) (fun x2 => am_b (am_pF h this 5 5 (.int (x2 - (1 : Int32)))) (fun h3 => am_b (am_gI h3 this 5 5) (fun x4 => ∃ h5, am_ok L xs m_X5_copyRow [.ref this, .int ((31 : Int32) + ((31 : Int32) * x4)), .int (0 : Int32)] h3 none h5 ∧ am_b (am_gI h5 this 5 5) (fun x6 => am_fit .int x6 ∧ some x6 = r ∧ h5 = hE))))))) : am_wa L xs m_X5_undo hA r hE 0 [.ref this] [] h := am_chunk am_mk_all okk_X5_undo [] 22 _ _ _ _ H
theorem en_X5_keep {L : Nat} {xs : Nat → Int32} {h h' : am_H} {r : Int32} {this : Nat} {a : Int32} (hre : am_cls h this = some 5) (e1 : h'.1 = h.1) (e2 : h'.2.1 = h.2.1) (hw : am_wa L xs m_X5_keep h (some r) h' 0 [.ref this, .int a] [] h) : am_ok L xs m_X5_keep [.ref this, .int a] h (some r) h' := am_ok_of (ls := [.ref this, .int a]) mk_X5_keep.2.1 mk_X5_keep.2.2 ⟨fun z => (by cases z), fun z => absurd z (by decide +kernel)⟩ (fun z => absurd z (by decide +kernel)) ⟨fun _ => ⟨this, _, rfl, Or.inl hre⟩, fun z => absurd z (by decide +kernel)⟩ e1 e2 (fun _ _ => ⟨Nat.le_of_ble_eq_true rfl, fun _ hq => hq⟩) hw
set_option maxRecDepth 100000 in
theorem ch_X5_keep_0 {L : Nat} {xs : Nat → Int32} {hA hE h : am_H} {r : Option Int32} {this : Nat} {a : Int32} (H : ∃ (x2 : Int32) (h1 : am_H), am_ok L xs m_X5_in [.long (Int32.toInt64 a), .long (Int32.toInt64 (0 : Int32)), .long (Int32.toInt64 (1 : Int32))] h (some x2) h1 ∧ (if (x2 : Int32) = 0 then am_fit .int (-2 : Int32) ∧ some (-2 : Int32) = r ∧ h1 = hE else ∃ h3, am_ok L xs m_X5_copyRow [.ref this, .int (0 : Int32), .int ((279 : Int32) + ((31 : Int32) * a))] h1 none h3 ∧ am_b (am_gR h3 this 5 6) (fun a4 => (((1 : Int32) : Int32) = 0 ∨ ((1 : Int32) : Int32) = 1) ∧ am_b (am_sI h3 .boolean a4 a (1 : Int32)) (fun h5 => ∃ (x7 : Int32) (h6 : am_H), am_ok L xs m_X5_covered [.ref this, .int (0 : Int32)] h5 (some x7) h6 ∧ ∃ (x9 : Int32) (h8 : am_H), am_ok L xs m_X5_ones [.int x7] h6 (some x9) h8 ∧ am_fit .int x9 ∧ some x9 = r ∧ h8 = hE)))) : am_wa L xs m_X5_keep hA r hE 0 [.ref this, .int a] [] h := am_chunk am_mk_all okk_X5_keep [] 25 _ _ _ _ H
theorem en_X5_back {L : Nat} {xs : Nat → Int32} {h h' : am_H} {r : Int32} {this : Nat} {a : Int32} (hre : am_cls h this = some 5) (e1 : h'.1 = h.1) (e2 : h'.2.1 = h.2.1) (hw : am_wa L xs m_X5_back h (some r) h' 0 [.ref this, .int a] [] h) : am_ok L xs m_X5_back [.ref this, .int a] h (some r) h' := am_ok_of (ls := [.ref this, .int a]) mk_X5_back.2.1 mk_X5_back.2.2 ⟨fun z => (by cases z), fun z => absurd z (by decide +kernel)⟩ (fun z => absurd z (by decide +kernel)) ⟨fun _ => ⟨this, _, rfl, Or.inl hre⟩, fun z => absurd z (by decide +kernel)⟩ e1 e2 (fun _ _ => ⟨Nat.le_of_ble_eq_true rfl, fun _ hq => hq⟩) hw
set_option maxRecDepth 100000 in
theorem ch_X5_back_0 {L : Nat} {xs : Nat → Int32} {hA hE h : am_H} {r : Option Int32} {this : Nat} {a : Int32} (H : ∃ (x2 : Int32) (h1 : am_H), am_ok L xs m_X5_in [.long (Int32.toInt64 a), .long (Int32.toInt64 (0 : Int32)), .long (Int32.toInt64 (1 : Int32))] h (some x2) h1 ∧ (if (x2 : Int32) = 0 then am_fit .int (-2 : Int32) ∧ some (-2 : Int32) = r ∧ h1 = hE else am_b (am_gR h1 this 5 6) (fun a3 => am_b (am_lI h1 .boolean a3 a) (fun x4 => (if (x4 : Int32) = 0 then am_fit .int (-4 : Int32) ∧ some (-4 : Int32) = r ∧ h1 = hE else ∃ h5, am_ok L xs m_X5_copyRow [.ref this, .int ((279 : Int32) + ((31 : Int32) * a)), .int (0 : Int32)] h1 none h5 ∧ am_b (am_pF h5 this 5 5 (.int (0 : Int32))) (fun h6 => ∃ (x8 : Int32) (h7 : am_H), am_ok L xs m_X5_covered [.ref this, .int (0 : Int32)] h6 (some x8) h7 ∧ ∃ (x10 : Int32) (h9 : am_H), am_ok L xs m_X5_ones [.int x8] h7 (some x10) h9 ∧ am_fit .int x10 ∧ some x10 = r ∧ h9 = hE)))))) : am_wa L xs m_X5_back hA r hE 0 [.ref this, .int a] [] h := am_chunk am_mk_all okk_X5_back [] 28 _ _ _ _ H
theorem en_X5_phase {L : Nat} {xs : Nat → Int32} {h h' : am_H} {r : Int32} {this : Nat} {a : Int32} (hre : am_cls h this = some 5) (e1 : h'.1 = h.1) (e2 : h'.2.1 = h.2.1) (hw : am_wa L xs m_X5_phase h (some r) h' 0 [.ref this, .int a] [] h) : am_ok L xs m_X5_phase [.ref this, .int a] h (some r) h' := am_ok_of (ls := [.ref this, .int a]) mk_X5_phase.2.1 mk_X5_phase.2.2 ⟨fun z => (by cases z), fun z => absurd z (by decide +kernel)⟩ (fun z => absurd z (by decide +kernel)) ⟨fun _ => ⟨this, _, rfl, Or.inl hre⟩, fun z => absurd z (by decide +kernel)⟩ e1 e2 (fun _ _ => ⟨Nat.le_of_ble_eq_true rfl, fun _ hq => hq⟩) hw
set_option maxRecDepth 100000 in
theorem ch_X5_phase_0 {L : Nat} {xs : Nat → Int32} {hA hE h : am_H} {r : Option Int32} {this : Nat} {a : Int32} (H : ∃ (x2 : Int32) (h1 : am_H), am_ok L xs m_X5_in [.long (Int32.toInt64 a), .long (Int32.toInt64 (0 : Int32)), .long (Int32.toInt64 (4 : Int32))] h (some x2) h1 ∧ (if (x2 : Int32) = 0 then am_fit .int (-3 : Int32) ∧ some (-3 : Int32) = r ∧ h1 = hE else am_b (am_gR h1 this 5 0) (fun a3 => am_b (am_lI h1 .int a3 (30 : Int32)) (fun x4 => (if (x4 : Int32) = 0 then am_fit .int (-4 : Int32) ∧ some (-4 : Int32) = r ∧ h1 = hE else am_b (am_gR h1 this 5 0) (fun a5 => am_b (am_lI h1 .int a5 ((25 : Int32) + a)) (fun x6 => am_fit .int x6 ∧ some x6 = r ∧ h1 = hE))))))) : am_wa L xs m_X5_phase hA r hE 0 [.ref this, .int a] [] h := am_chunk am_mk_all okk_X5_phase [] 19 _ _ _ _ H
theorem en_X5_isDone {L : Nat} {xs : Nat → Int32} {h h' : am_H} {r : Int32} {this : Nat} {a : Int32} (hre : am_cls h this = some 5) (e1 : h'.1 = h.1) (e2 : h'.2.1 = h.2.1) (hw : am_wa L xs m_X5_isDone h (some r) h' 0 [.ref this, .int a] [] h) : am_ok L xs m_X5_isDone [.ref this, .int a] h (some r) h' := am_ok_of (ls := [.ref this, .int a]) mk_X5_isDone.2.1 mk_X5_isDone.2.2 ⟨fun z => (by cases z), fun z => absurd z (by decide +kernel)⟩ (fun z => absurd z (by decide +kernel)) ⟨fun _ => ⟨this, _, rfl, Or.inl hre⟩, fun z => absurd z (by decide +kernel)⟩ e1 e2 (fun _ _ => ⟨Nat.le_of_ble_eq_true rfl, fun _ hq => hq⟩) hw
set_option maxRecDepth 100000 in
theorem ch_X5_isDone_0 {L : Nat} {xs : Nat → Int32} {hA hE h : am_H} {r : Option Int32} {this : Nat} {a : Int32} (H : ∃ (x2 : Int32) (h1 : am_H), am_ok L xs m_X5_covered [.ref this, .int a] h (some x2) h1 ∧ am_b (am_gI h1 this 5 1) (fun x3 => (if (x2 : Int32) = (((1 : Int32) <<< (x3 &&& 31)) - (1 : Int32)) then am_fit .boolean (1 : Int32) ∧ some (1 : Int32) = r ∧ h1 = hE else am_fit .boolean (0 : Int32) ∧ some (0 : Int32) = r ∧ h1 = hE))) : am_wa L xs m_X5_isDone hA r hE 0 [.ref this, .int a] [] h := am_chunk am_mk_all okk_X5_isDone [] 14 _ _ _ _ H
theorem en_X5_after {L : Nat} {xs : Nat → Int32} {h h' : am_H} {r : Int32} {this : Nat} (hre : am_cls h this = some 5) (e1 : h'.1 = h.1) (e2 : h'.2.1 = h.2.1) (hw : am_wa L xs m_X5_after h (some r) h' 0 [.ref this, .null] [] h) : am_ok L xs m_X5_after [.ref this] h (some r) h' := am_ok_of (ls := [.ref this, .null]) mk_X5_after.2.1 mk_X5_after.2.2 ⟨fun z => (by cases z), fun z => absurd z (by decide +kernel)⟩ (fun z => absurd z (by decide +kernel)) ⟨fun _ => ⟨this, _, rfl, Or.inl hre⟩, fun z => absurd z (by decide +kernel)⟩ e1 e2 (fun _ _ => ⟨Nat.le_of_ble_eq_true rfl, fun _ hq => hq⟩) hw
set_option maxRecDepth 100000 in
theorem ch_X5_after_0 {L : Nat} {xs : Nat → Int32} {hA hE h : am_H} {r : Option Int32} {this : Nat} (H : ∃ h1, am_ok L xs m_X5_copyRow [.ref this, .int (0 : Int32), .int (341 : Int32)] h none h1 ∧ am_wa L xs m_X5_after hA r hE 10 [.ref this, .int (0 : Int32)] [] h1) : am_wa L xs m_X5_after hA r hE 0 [.ref this, .null] [] h := am_chunk am_mk_all okk_X5_after [(10, [0, 1])] 8 _ _ _ _ H
set_option maxRecDepth 100000 in
theorem ch_X5_after_10 {L : Nat} {xs : Nat → Int32} {hA hE h : am_H} {r : Option Int32} {l0 : Nat} {l1 : Int32} (H : (if (l1 : Int32) < (12 : Int32) then ∃ (x2 : Int32) (h1 : am_H), am_ok L xs m_X5_isDone [.ref l0, .int (341 : Int32)] h (some x2) h1 ∧ (if (x2 : Int32) = 0 then ∃ h3, am_ok L xs m_X5_frameOf [.ref l0, .int (341 : Int32)] h1 none h3 ∧ am_wa L xs m_X5_after hA r hE 10 [.ref l0, .int (l1 + (1 : Int32))] [] h3 else ∃ (x5 : Int32) (h4 : am_H), am_ok L xs m_X5_isDone [.ref l0, .int (341 : Int32)] h1 (some x5) h4 ∧ (if (x5 : Int32) = 0 then am_fit .int (-1 : Int32) ∧ some (-1 : Int32) = r ∧ h4 = hE else am_fit .int l1 ∧ some l1 = r ∧ h4 = hE)) else ∃ (x7 : Int32) (h6 : am_H), am_ok L xs m_X5_isDone [.ref l0, .int (341 : Int32)] h (some x7) h6 ∧ (if (x7 : Int32) = 0 then am_fit .int (-1 : Int32) ∧ some (-1 : Int32) = r ∧ h6 = hE else am_fit .int l1 ∧ some l1 = r ∧ h6 = hE))) : am_wa L xs m_X5_after hA r hE 10 [.ref l0, .int l1] [] h := am_chunk am_mk_all okk_X5_after [(10, [0, 1])] 15 _ _ _ _ H
theorem en_X5_spoils {L : Nat} {xs : Nat → Int32} {h h' : am_H} {r : Int32} {this : Nat} {a b : Int32} (hre : am_cls h this = some 5) (e1 : h'.1 = h.1) (e2 : h'.2.1 = h.2.1) (hw : am_wa L xs m_X5_spoils h (some r) h' 0 [.ref this, .int a, .int b] [] h) : am_ok L xs m_X5_spoils [.ref this, .int a, .int b] h (some r) h' := am_ok_of (ls := [.ref this, .int a, .int b]) mk_X5_spoils.2.1 mk_X5_spoils.2.2 ⟨fun z => (by cases z), fun z => absurd z (by decide +kernel)⟩ (fun z => absurd z (by decide +kernel)) ⟨fun _ => ⟨this, _, rfl, Or.inl hre⟩, fun z => absurd z (by decide +kernel)⟩ e1 e2 (fun _ _ => ⟨Nat.le_of_ble_eq_true rfl, fun _ hq => hq⟩) hw
set_option maxRecDepth 100000 in
theorem ch_X5_spoils_0 {L : Nat} {xs : Nat → Int32} {hA hE h : am_H} {r : Option Int32} {this : Nat} {a b : Int32} (H : ∃ (x2 : Int32) (h1 : am_H), am_ok L xs m_X5_areTwo [.ref this, .int a, .int b] h (some x2) h1 ∧ (if (x2 : Int32) = 0 then am_fit .int (-2 : Int32) ∧ some (-2 : Int32) = r ∧ h1 = hE else am_b (am_gR h1 this 5 0) (fun a3 => am_b (am_lI h1 .int a3 ((17 : Int32) + a)) (fun x4 => ∃ (x6 : Int32) (h5 : am_H), am_ok L xs m_X5_has [.int x4, .int b] h1 (some x6) h5 ∧ (if (x6 : Int32) = 0 then ∃ h7, am_ok L xs m_X5_copyRow [.ref this, .int (0 : Int32), .int (341 : Int32)] h5 none h7 ∧ ∃ h8, am_ok L xs m_X5_joins [.ref this, .int (341 : Int32), .int a, .int b] h7 none h8 ∧ ∃ (x10 : Int32) (h9 : am_H), am_ok L xs m_X5_clashes [.ref this, .int (341 : Int32)] h8 (some x10) h9 ∧ ∃ (x12 : Int32) (h11 : am_H), am_ok L xs m_X5_clashes [.ref this, .int (0 : Int32)] h9 (some x12) h11 ∧ am_fit .int (x10 - x12) ∧ some (x10 - x12) = r ∧ h11 = hE else am_fit .int (-4 : Int32) ∧ some (-4 : Int32) = r ∧ h5 = hE))))) : am_wa L xs m_X5_spoils hA r hE 0 [.ref this, .int a, .int b] [] h := am_chunk am_mk_all okk_X5_spoils [] 32 _ _ _ _ H
theorem en_X5_fewest {L : Nat} {xs : Nat → Int32} {h h' : am_H} {r : Int32} {this : Nat} (hre : am_cls h this = some 5) (e1 : h'.1 = h.1) (e2 : h'.2.1 = h.2.1) (hw : am_wa L xs m_X5_fewest h (some r) h' 0 [.ref this, .null, .null, .null, .null] [] h) : am_ok L xs m_X5_fewest [.ref this] h (some r) h' := am_ok_of (ls := [.ref this, .null, .null, .null, .null]) mk_X5_fewest.2.1 mk_X5_fewest.2.2 ⟨fun z => (by cases z), fun z => absurd z (by decide +kernel)⟩ (fun z => absurd z (by decide +kernel)) ⟨fun _ => ⟨this, _, rfl, Or.inl hre⟩, fun z => absurd z (by decide +kernel)⟩ e1 e2 (fun _ _ => ⟨Nat.le_of_ble_eq_true rfl, fun _ hq => hq⟩) hw
set_option maxRecDepth 100000 in
theorem ch_X5_fewest_0 {L : Nat} {xs : Nat → Int32} {hA hE h : am_H} {r : Option Int32} {this : Nat} (H : am_wa L xs m_X5_fewest hA r hE 4 [.ref this, .int (0 : Int32), .int (0 : Int32), .null, .null] [] h) : am_wa L xs m_X5_fewest hA r hE 0 [.ref this, .null, .null, .null, .null] [] h := am_chunk am_mk_all okk_X5_fewest [(4, [0, 1, 2]), (17, [0, 1, 2, 3, 4]), (72, [0, 1, 2, 3, 4])] 6 _ _ _ _ H
set_option maxRecDepth 100000 in
theorem ch_X5_fewest_4 {L : Nat} {xs : Nat → Int32} {hA hE h : am_H} {r : Option Int32} {l0 : Nat} {l1 l2 : Int32} (H : am_b (am_gI h l0 5 1) (fun x1 => (if (l2 : Int32) < x1 then am_wa L xs m_X5_fewest hA r hE 17 [.ref l0, .int l1, .int l2, .int (0 : Int32), .int (0 : Int32)] [] h else am_fit .int l1 ∧ some l1 = r ∧ h = hE))) : am_wa L xs m_X5_fewest hA r hE 4 [.ref l0, .int l1, .int l2, .null, .null] [] h := am_chunk am_mk_all okk_X5_fewest [(4, [0, 1, 2]), (17, [0, 1, 2, 3, 4]), (72, [0, 1, 2, 3, 4])] 10 _ _ _ _ H
set_option maxRecDepth 100000 in
theorem ch_X5_fewest_17 {L : Nat} {xs : Nat → Int32} {hA hE h : am_H} {r : Option Int32} {l0 : Nat} {l1 l2 l3 l4 : Int32} (H : (if (l4 : Int32) < l2 then am_b (am_gR h l0 5 4) (fun a1 => am_b (am_lI h .int a1 l4) (fun x2 => (if 0 < (x2 : Int32) then ∃ (x4 : Int32) (h3 : am_H), am_ok L xs m_X5_near [.ref l0, .int (0 : Int32), .int l2] h (some x4) h3 ∧ ∃ (x6 : Int32) (h5 : am_H), am_ok L xs m_X5_has [.int x4, .int l4] h3 (some x6) h5 ∧ (if (x6 : Int32) = 0 then am_wa L xs m_X5_fewest hA r hE 17 [.ref l0, .int l1, .int l2, .int (l3 ||| (0 : Int32)), .int (l4 + (1 : Int32))] [] h5 else am_b (am_gR h5 l0 5 19) (fun a7 => am_b (am_lI h5 .int a7 l4) (fun x8 => am_wa L xs m_X5_fewest hA r hE 17 [.ref l0, .int l1, .int l2, .int (l3 ||| ((1 : Int32) <<< (x8 &&& 31))), .int (l4 + (1 : Int32))] [] h5))) else am_wa L xs m_X5_fewest hA r hE 17 [.ref l0, .int l1, .int l2, .int (l3 ||| (0 : Int32)), .int (l4 + (1 : Int32))] [] h))) else am_wa L xs m_X5_fewest hA r hE 72 [.ref l0, .int l1, .int l2, .int l3, .int (0 : Int32)] [] h)) : am_wa L xs m_X5_fewest hA r hE 17 [.ref l0, .int l1, .int l2, .int l3, .int l4] [] h := am_chunk am_mk_all okk_X5_fewest [(4, [0, 1, 2]), (17, [0, 1, 2, 3, 4]), (72, [0, 1, 2, 3, 4])] 29 _ _ _ _ H
set_option maxRecDepth 100000 in
theorem ch_X5_fewest_72 {L : Nat} {xs : Nat → Int32} {hA hE h : am_H} {r : Option Int32} {l0 : Nat} {l1 l2 l3 l4 : Int32} (H : ∃ (x2 : Int32) (h1 : am_H), am_ok L xs m_X5_has [.int l3, .int l4] h (some x2) h1 ∧ (if (x2 : Int32) = 0 then am_b (am_gR h1 l0 5 19) (fun a3 => am_b (am_sI h1 .int a3 l2 l4) (fun h4 => am_b (am_gR h4 l0 5 4) (fun a5 => am_b (am_lI h4 .int a5 l2) (fun x6 => (if 0 < (x6 : Int32) then (if (l4 : Int32) < l1 then am_wa L xs m_X5_fewest hA r hE 4 [.ref l0, .int l1, .int (l2 + (1 : Int32)), .null, .null] [] h4 else am_wa L xs m_X5_fewest hA r hE 4 [.ref l0, .int (l4 + (1 : Int32)), .int (l2 + (1 : Int32)), .null, .null] [] h4) else am_wa L xs m_X5_fewest hA r hE 4 [.ref l0, .int l1, .int (l2 + (1 : Int32)), .null, .null] [] h4))))) else am_wa L xs m_X5_fewest hA r hE 72 [.ref l0, .int l1, .int l2, .int l3, .int (l4 + (1 : Int32))] [] h1)) : am_wa L xs m_X5_fewest hA r hE 72 [.ref l0, .int l1, .int l2, .int l3, .int l4] [] h := am_chunk am_mk_all okk_X5_fewest [(4, [0, 1, 2]), (17, [0, 1, 2, 3, 4]), (72, [0, 1, 2, 3, 4])] 26 _ _ _ _ H
theorem en_X5_hops {L : Nat} {xs : Nat → Int32} {h h' : am_H} {r : Int32} {this : Nat} {a b : Int32} (hre : am_cls h this = some 5) (e1 : h'.1 = h.1) (e2 : h'.2.1 = h.2.1) (hw : am_wa L xs m_X5_hops h (some r) h' 0 [.ref this, .int a, .int b, .null, .null] [] h) : am_ok L xs m_X5_hops [.ref this, .int a, .int b] h (some r) h' := am_ok_of (ls := [.ref this, .int a, .int b, .null, .null]) mk_X5_hops.2.1 mk_X5_hops.2.2 ⟨fun z => (by cases z), fun z => absurd z (by decide +kernel)⟩ (fun z => absurd z (by decide +kernel)) ⟨fun _ => ⟨this, _, rfl, Or.inl hre⟩, fun z => absurd z (by decide +kernel)⟩ e1 e2 (fun _ _ => ⟨Nat.le_of_ble_eq_true rfl, fun _ hq => hq⟩) hw
set_option maxRecDepth 100000 in
theorem ch_X5_hops_0 {L : Nat} {xs : Nat → Int32} {hA hE h : am_H} {r : Option Int32} {this : Nat} {a b : Int32} (H : ∃ (x2 : Int32) (h1 : am_H), am_ok L xs m_X5_areTwo [.ref this, .int a, .int b] h (some x2) h1 ∧ (if (x2 : Int32) = 0 then am_fit .int (-2 : Int32) ∧ some (-2 : Int32) = r ∧ h1 = hE else am_wa L xs m_X5_hops hA r hE 19 [.ref this, .null, .int b, .int ((1 : Int32) <<< (a &&& 31)), .int (1 : Int32)] [] h1)) : am_wa L xs m_X5_hops hA r hE 0 [.ref this, .int a, .int b, .null, .null] [] h := am_chunk am_mk_all okk_X5_hops [(19, [0, 2, 3, 4])] 13 _ _ _ _ H
set_option maxRecDepth 100000 in
theorem ch_X5_hops_19 {L : Nat} {xs : Nat → Int32} {hA hE h : am_H} {r : Option Int32} {l0 : Nat} {l2 l3 l4 : Int32} (H : am_b (am_gI h l0 5 1) (fun x1 => (if (l4 : Int32) < x1 then am_b (am_gI h l0 5 1) (fun x2 => ∃ (x4 : Int32) (h3 : am_H), am_ok L xs m_X5_hearing [.ref l0, .int (0 : Int32), .int (((1 : Int32) <<< (x2 &&& 31)) - (1 : Int32)), .int l3, .int (1 : Int32)] h (some x4) h3 ∧ ∃ (x6 : Int32) (h5 : am_H), am_ok L xs m_X5_has [.int (l3 ||| x4), .int l2] h3 (some x6) h5 ∧ (if (x6 : Int32) = 0 then am_wa L xs m_X5_hops hA r hE 19 [.ref l0, .null, .int l2, .int (l3 ||| x4), .int (l4 + (1 : Int32))] [] h5 else am_fit .int l4 ∧ some l4 = r ∧ h5 = hE)) else am_fit .int (-1 : Int32) ∧ some (-1 : Int32) = r ∧ h = hE))) : am_wa L xs m_X5_hops hA r hE 19 [.ref l0, .null, .int l2, .int l3, .int l4] [] h := am_chunk am_mk_all okk_X5_hops [(19, [0, 2, 3, 4])] 26 _ _ _ _ H
theorem en_X5_isTally {L : Nat} {xs : Nat → Int32} {h h' : am_H} {r : Int32} {a : Int32} (e1 : h'.1 = h.1) (e2 : h'.2.1 = h.2.1) (hw : am_wa L xs m_X5_isTally h (some r) h' 0 [.int a] [] h) : am_ok L xs m_X5_isTally [.int a] h (some r) h' := am_ok_of (ls := [.int a]) mk_X5_isTally.2.1 mk_X5_isTally.2.2 ⟨fun z => (by cases z), fun z => absurd z (by decide +kernel)⟩ (fun z => absurd z (by decide +kernel)) ⟨fun z => absurd z (by decide +kernel), fun z => absurd z (by decide +kernel)⟩ e1 e2 (fun _ _ => ⟨Nat.le_of_ble_eq_true rfl, fun _ hq => hq⟩) hw
set_option maxRecDepth 100000 in
theorem ch_X5_isTally_0 {L : Nat} {xs : Nat → Int32} {hA hE h : am_H} {r : Option Int32} {a : Int32} (H : ∃ (x2 : Int32) (h1 : am_H), am_ok L xs m_X5_in [.long (Int32.toInt64 a), .long (Int32.toInt64 (0 : Int32)), .long (Int32.toInt64 (2 : Int32))] h (some x2) h1 ∧ am_fit .boolean x2 ∧ some x2 = r ∧ h1 = hE) : am_wa L xs m_X5_isTally hA r hE 0 [.int a] [] h := am_chunk am_mk_all okk_X5_isTally [] 7 _ _ _ _ H
theorem en_X5_isNumber {L : Nat} {xs : Nat → Int32} {h h' : am_H} {r : Int32} {a : Int32} (e1 : h'.1 = h.1) (e2 : h'.2.1 = h.2.1) (hw : am_wa L xs m_X5_isNumber h (some r) h' 0 [.int a] [] h) : am_ok L xs m_X5_isNumber [.int a] h (some r) h' := am_ok_of (ls := [.int a]) mk_X5_isNumber.2.1 mk_X5_isNumber.2.2 ⟨fun z => (by cases z), fun z => absurd z (by decide +kernel)⟩ (fun z => absurd z (by decide +kernel)) ⟨fun z => absurd z (by decide +kernel), fun z => absurd z (by decide +kernel)⟩ e1 e2 (fun _ _ => ⟨Nat.le_of_ble_eq_true rfl, fun _ hq => hq⟩) hw
set_option maxRecDepth 100000 in
theorem ch_X5_isNumber_0 {L : Nat} {xs : Nat → Int32} {hA hE h : am_H} {r : Option Int32} {a : Int32} (H : ∃ (x2 : Int32) (h1 : am_H), am_ok L xs m_X5_in [.long (Int32.toInt64 a), .long (Int32.toInt64 (-999 : Int32)), .long (Int32.toInt64 (999 : Int32))] h (some x2) h1 ∧ am_fit .boolean x2 ∧ some x2 = r ∧ h1 = hE) : am_wa L xs m_X5_isNumber hA r hE 0 [.int a] [] h := am_chunk am_mk_all okk_X5_isNumber [] 7 _ _ _ _ H
theorem en_X5_tally {L : Nat} {xs : Nat → Int32} {h h' : am_H} {r : Int32} {this : Nat} {a b c d e : Int32} (hre : am_cls h this = some 5) (e1 : h'.1 = h.1) (e2 : h'.2.1 = h.2.1) (hw : am_wa L xs m_X5_tally h (some r) h' 0 [.ref this, .int a, .int b, .int c, .int d, .int e] [] h) : am_ok L xs m_X5_tally [.ref this, .int a, .int b, .int c, .int d, .int e] h (some r) h' := am_ok_of (ls := [.ref this, .int a, .int b, .int c, .int d, .int e]) mk_X5_tally.2.1 mk_X5_tally.2.2 ⟨fun z => (by cases z), fun z => absurd z (by decide +kernel)⟩ (fun z => absurd z (by decide +kernel)) ⟨fun _ => ⟨this, _, rfl, Or.inl hre⟩, fun z => absurd z (by decide +kernel)⟩ e1 e2 (fun _ _ => ⟨Nat.le_of_ble_eq_true rfl, fun _ hq => hq⟩) hw
set_option maxRecDepth 100000 in
theorem ch_X5_tally_0 {L : Nat} {xs : Nat → Int32} {hA hE h : am_H} {r : Option Int32} {this : Nat} {a b c d e : Int32} (H : ∃ (x2 : Int32) (h1 : am_H), am_ok L xs m_X5_isTally [.int a] h (some x2) h1 ∧ (if (x2 : Int32) = 0 then am_fit .int (-2 : Int32) ∧ some (-2 : Int32) = r ∧ h1 = hE else ∃ (x4 : Int32) (h3 : am_H), am_ok L xs m_X5_in [.long (Int32.toInt64 b), .long (Int32.toInt64 (0 : Int32)), .long (Int32.toInt64 (3 : Int32))] h1 (some x4) h3 ∧ (if (x4 : Int32) = 0 then am_fit .int (-3 : Int32) ∧ some (-3 : Int32) = r ∧ h3 = hE else ∃ (x6 : Int32) (h5 : am_H), am_ok L xs m_X5_isNumber [.int c] h3 (some x6) h5 ∧ (if (x6 : Int32) = 0 then am_fit .int (-3 : Int32) ∧ some (-3 : Int32) = r ∧ h5 = hE else ∃ (x8 : Int32) (h7 : am_H), am_ok L xs m_X5_isNumber [.int d] h5 (some x8) h7 ∧ (if (x8 : Int32) = 0 then am_fit .int (-3 : Int32) ∧ some (-3 : Int32) = r ∧ h7 = hE else ∃ (x10 : Int32) (h9 : am_H), am_ok L xs m_X5_isNumber [.int e] h7 (some x10) h9 ∧ (if (x10 : Int32) = 0 then am_fit .int (-3 : Int32) ∧ some (-3 : Int32) = r ∧ h9 = hE else am_b (am_gR h9 this 5 9) (fun a11 => am_b (am_sI h9 .int a11 a b) (fun h12 => am_b (am_gR h12 this 5 10) (fun a13 => am_b (am_sI h12 .int a13 ((8 : Int32) * a) c) (fun h14 => am_b (am_gR h14 this 5 10) (fun a15 => am_b (am_sI h14 .int a15 (((8 : Int32) * a) + (1 : Int32)) d) (fun h16 => am_b (am_gR h16 this 5 10) (fun a17 => am_b (am_sI h16 .int a17 (((8 : Int32) * a) + (2 : Int32)) e) (fun h18 => am_fit .int b ∧ some b = r ∧ h18 = hE)))))))))))))) : am_wa L xs m_X5_tally hA r hE 0 [.ref this, .int a, .int b, .int c, .int d, .int e] [] h := am_chunk am_mk_all okk_X5_tally [] 51 _ _ _ _ H
theorem en_X5_append {L : Nat} {xs : Nat → Int32} {h h' : am_H} {r : Int32} {this : Nat} {a b : Int32} (hre : am_cls h this = some 5) (e1 : h'.1 = h.1) (e2 : h'.2.1 = h.2.1) (hw : am_wa L xs m_X5_append h (some r) h' 0 [.ref this, .int a, .int b, .null, .null] [] h) : am_ok L xs m_X5_append [.ref this, .int a, .int b] h (some r) h' := am_ok_of (ls := [.ref this, .int a, .int b, .null, .null]) mk_X5_append.2.1 mk_X5_append.2.2 ⟨fun z => (by cases z), fun z => absurd z (by decide +kernel)⟩ (fun z => absurd z (by decide +kernel)) ⟨fun _ => ⟨this, _, rfl, Or.inl hre⟩, fun z => absurd z (by decide +kernel)⟩ e1 e2 (fun _ _ => ⟨Nat.le_of_ble_eq_true rfl, fun _ hq => hq⟩) hw
set_option maxRecDepth 100000 in
theorem ch_X5_append_0 {L : Nat} {xs : Nat → Int32} {hA hE h : am_H} {r : Option Int32} {this : Nat} {a b : Int32} (H : ∃ (x2 : Int32) (h1 : am_H), am_ok L xs m_X5_isTally [.int a] h (some x2) h1 ∧ (if (x2 : Int32) = 0 then am_fit .int (-2 : Int32) ∧ some (-2 : Int32) = r ∧ h1 = hE else ∃ (x4 : Int32) (h3 : am_H), am_ok L xs m_X5_isTally [.int b] h1 (some x4) h3 ∧ (if (x4 : Int32) = 0 then am_fit .int (-2 : Int32) ∧ some (-2 : Int32) = r ∧ h3 = hE else am_b (am_gR h3 this 5 9) (fun a5 => am_b (am_lI h3 .int a5 a) (fun x6 => (if (x6 : Int32) < 0 then am_fit .int (-11 : Int32) ∧ some (-11 : Int32) = r ∧ h3 = hE else am_b (am_gR h3 this 5 9) (fun a7 => am_b (am_lI h3 .int a7 b) (fun x8 => (if (x8 : Int32) < 0 then am_fit .int (-11 : Int32) ∧ some (-11 : Int32) = r ∧ h3 = hE else am_b (am_gR h3 this 5 9) (fun a9 => am_b (am_lI h3 .int a9 b) (fun x10 => am_b (am_gR h3 this 5 9) (fun a11 => am_b (am_lI h3 .int a11 a) (fun x12 => (if ((8 : Int32) : Int32) < (x12 + x10) then am_fit .int (-13 : Int32) ∧ some (-13 : Int32) = r ∧ h3 = hE else am_wa L xs m_X5_append hA r hE 64 [.ref this, .int a, .int b, .int x10, .int (0 : Int32)] [] h3)))))))))))))) : am_wa L xs m_X5_append hA r hE 0 [.ref this, .int a, .int b, .null, .null] [] h := am_chunk am_mk_all okk_X5_append [(64, [0, 1, 2, 3, 4])] 33 _ _ _ _ H
set_option maxRecDepth 100000 in
theorem ch_X5_append_64 {L : Nat} {xs : Nat → Int32} {hA hE h : am_H} {r : Option Int32} {l0 : Nat} {l1 l2 l3 l4 : Int32} (H : (if (l4 : Int32) < l3 then am_b (am_gR h l0 5 10) (fun a1 => am_b (am_gR h l0 5 9) (fun a2 => am_b (am_lI h .int a2 l1) (fun x3 => am_b (am_gR h l0 5 10) (fun a4 => am_b (am_lI h .int a4 (((8 : Int32) * l2) + l4)) (fun x5 => am_b (am_sI h .int a1 (((8 : Int32) * l1) + x3) x5) (fun h6 => am_b (am_gR h6 l0 5 9) (fun a7 => am_b (am_lI h6 .int a7 l1) (fun x8 => am_b (am_sI h6 .int a7 l1 (x8 + (1 : Int32))) (fun h9 => am_wa L xs m_X5_append hA r hE 64 [.ref l0, .int l1, .int l2, .int l3, .int (l4 + (1 : Int32))] [] h9))))))))) else am_b (am_gR h l0 5 9) (fun a10 => am_b (am_lI h .int a10 l1) (fun x11 => am_fit .int x11 ∧ some x11 = r ∧ h = hE)))) : am_wa L xs m_X5_append hA r hE 64 [.ref l0, .int l1, .int l2, .int l3, .int l4] [] h := am_chunk am_mk_all okk_X5_append [(64, [0, 1, 2, 3, 4])] 34 _ _ _ _ H
theorem en_X5_reckon {L : Nat} {xs : Nat → Int32} {h h' : am_H} {r : Int32} {this : Nat} {a b : Int32} (hre : am_cls h this = some 5) (e1 : h'.1 = h.1) (e2 : h'.2.1 = h.2.1) (hw : am_wa L xs m_X5_reckon h (some r) h' 0 [.ref this, .int a, .int b, .null, .null, .null, .null, .null, .null] [] h) : am_ok L xs m_X5_reckon [.ref this, .int a, .int b] h (some r) h' := am_ok_of (ls := [.ref this, .int a, .int b, .null, .null, .null, .null, .null, .null]) mk_X5_reckon.2.1 mk_X5_reckon.2.2 ⟨fun z => (by cases z), fun z => absurd z (by decide +kernel)⟩ (fun z => absurd z (by decide +kernel)) ⟨fun _ => ⟨this, _, rfl, Or.inl hre⟩, fun z => absurd z (by decide +kernel)⟩ e1 e2 (fun _ _ => ⟨Nat.le_of_ble_eq_true rfl, fun _ hq => hq⟩) hw
set_option maxRecDepth 100000 in
theorem ch_X5_reckon_0 {L : Nat} {xs : Nat → Int32} {hA hE h : am_H} {r : Option Int32} {this : Nat} {a b : Int32} (H : ∃ (x2 : Int32) (h1 : am_H), am_ok L xs m_X5_isTally [.int a] h (some x2) h1 ∧ (if (x2 : Int32) = 0 then am_fit .int (-2 : Int32) ∧ some (-2 : Int32) = r ∧ h1 = hE else ∃ (x4 : Int32) (h3 : am_H), am_ok L xs m_X5_in [.long (Int32.toInt64 b), .long (Int32.toInt64 (0 : Int32)), .long (Int32.toInt64 (3 : Int32))] h1 (some x4) h3 ∧ (if (x4 : Int32) = 0 then am_fit .int (-3 : Int32) ∧ some (-3 : Int32) = r ∧ h3 = hE else am_b (am_gR h3 this 5 9) (fun a5 => am_b (am_lI h3 .int a5 a) (fun x6 => (if (x6 : Int32) < 0 then am_fit .int (-11 : Int32) ∧ some (-11 : Int32) = r ∧ h3 = hE else am_b (am_gR h3 this 5 9) (fun a7 => am_b (am_lI h3 .int a7 a) (fun x8 => (if (x8 : Int32) = 0 then ∃ (x10 : Int32) (h9 : am_H), am_ok L xs m_X5_in [.long (Int32.toInt64 b), .long (Int32.toInt64 (1 : Int32)), .long (Int32.toInt64 (2 : Int32))] h3 (some x10) h9 ∧ (if (x10 : Int32) = 0 then am_wa L xs m_X5_reckon hA r hE 79 [.ref this, .int a, .int b, .int (0 : Int32), .int (-1000 : Int32), .int (1000 : Int32), .int (0 : Int32), .int (0 : Int32), .null] [] h9 else am_fit .int (-12 : Int32) ∧ some (-12 : Int32) = r ∧ h9 = hE) else am_wa L xs m_X5_reckon hA r hE 79 [.ref this, .int a, .int b, .int (0 : Int32), .int (-1000 : Int32), .int (1000 : Int32), .int (0 : Int32), .int (0 : Int32), .null] [] h3))))))))) : am_wa L xs m_X5_reckon hA r hE 0 [.ref this, .int a, .int b, .null, .null, .null, .null, .null, .null] [] h := am_chunk am_mk_all okk_X5_reckon [(79, [0, 1, 2, 3, 4, 5, 6, 7])] 37 _ _ _ _ H
set_option maxRecDepth 100000 in
theorem ch_X5_reckon_79 {L : Nat} {xs : Nat → Int32} {hA hE h : am_H} {r : Option Int32} {l0 : Nat} {l1 l2 l3 l4 l5 l6 l7 : Int32} (H : am_b (am_gR h l0 5 9) (fun a1 => am_b (am_lI h .int a1 l1) (fun x2 => (if (l7 : Int32) < x2 then am_b (am_gR h l0 5 10) (fun a3 => am_b (am_lI h .int a3 (((8 : Int32) * l1) + l7)) (fun x4 => (if (l4 : Int32) < x4 then (if (x4 : Int32) < l5 then (¬ ((2 : Int32) : Int32) = 0) ∧ (if ((l7 - l7 / (2 : Int32) * (2 : Int32)) : Int32) = 0 then am_wa L xs m_X5_reckon hA r hE 79 [.ref l0, .int l1, .int l2, .int (l3 + x4), .int x4, .int x4, .int (l6 + ((l7 + (1 : Int32)) * x4)), .int (l7 + (1 : Int32)), .null] [] h else am_wa L xs m_X5_reckon hA r hE 79 [.ref l0, .int l1, .int l2, .int (l3 + x4), .int x4, .int x4, .int (l6 + ((-(l7 + (1 : Int32))) * x4)), .int (l7 + (1 : Int32)), .null] [] h) else (¬ ((2 : Int32) : Int32) = 0) ∧ (if ((l7 - l7 / (2 : Int32) * (2 : Int32)) : Int32) = 0 then am_wa L xs m_X5_reckon hA r hE 79 [.ref l0, .int l1, .int l2, .int (l3 + x4), .int x4, .int l5, .int (l6 + ((l7 + (1 : Int32)) * x4)), .int (l7 + (1 : Int32)), .null] [] h else am_wa L xs m_X5_reckon hA r hE 79 [.ref l0, .int l1, .int l2, .int (l3 + x4), .int x4, .int l5, .int (l6 + ((-(l7 + (1 : Int32))) * x4)), .int (l7 + (1 : Int32)), .null] [] h)) else (if (x4 : Int32) < l5 then (¬ ((2 : Int32) : Int32) = 0) ∧ (if ((l7 - l7 / (2 : Int32) * (2 : Int32)) : Int32) = 0 then am_wa L xs m_X5_reckon hA r hE 79 [.ref l0, .int l1, .int l2, .int (l3 + x4), .int l4, .int x4, .int (l6 + ((l7 + (1 : Int32)) * x4)), .int (l7 + (1 : Int32)), .null] [] h else am_wa L xs m_X5_reckon hA r hE 79 [.ref l0, .int l1, .int l2, .int (l3 + x4), .int l4, .int x4, .int (l6 + ((-(l7 + (1 : Int32))) * x4)), .int (l7 + (1 : Int32)), .null] [] h) else (¬ ((2 : Int32) : Int32) = 0) ∧ (if ((l7 - l7 / (2 : Int32) * (2 : Int32)) : Int32) = 0 then am_wa L xs m_X5_reckon hA r hE 79 [.ref l0, .int l1, .int l2, .int (l3 + x4), .int l4, .int l5, .int (l6 + ((l7 + (1 : Int32)) * x4)), .int (l7 + (1 : Int32)), .null] [] h else am_wa L xs m_X5_reckon hA r hE 79 [.ref l0, .int l1, .int l2, .int (l3 + x4), .int l4, .int l5, .int (l6 + ((-(l7 + (1 : Int32))) * x4)), .int (l7 + (1 : Int32)), .null] [] h))))) else (if (l2 : Int32) = 0 then am_fit .int ((50000 : Int32) + l3) ∧ some ((50000 : Int32) + l3) = r ∧ h = hE else (if (l2 : Int32) = (1 : Int32) then am_fit .int ((50000 : Int32) + l4) ∧ some ((50000 : Int32) + l4) = r ∧ h = hE else (if (l2 : Int32) = (2 : Int32) then am_fit .int ((50000 : Int32) + l5) ∧ some ((50000 : Int32) + l5) = r ∧ h = hE else am_fit .int ((50000 : Int32) + l6) ∧ some ((50000 : Int32) + l6) = r ∧ h = hE))))))) : am_wa L xs m_X5_reckon hA r hE 79 [.ref l0, .int l1, .int l2, .int l3, .int l4, .int l5, .int l6, .int l7, .null] [] h := am_chunk am_mk_all okk_X5_reckon [(79, [0, 1, 2, 3, 4, 5, 6, 7])] 48 _ _ _ _ H
theorem en_X5_pop {L : Nat} {xs : Nat → Int32} {h h' : am_H} {r : Int32} {this : Nat} {a : Int32} (hre : am_cls h this = some 5) (e1 : h'.1 = h.1) (e2 : h'.2.1 = h.2.1) (hw : am_wa L xs m_X5_pop h (some r) h' 0 [.ref this, .int a] [] h) : am_ok L xs m_X5_pop [.ref this, .int a] h (some r) h' := am_ok_of (ls := [.ref this, .int a]) mk_X5_pop.2.1 mk_X5_pop.2.2 ⟨fun z => (by cases z), fun z => absurd z (by decide +kernel)⟩ (fun z => absurd z (by decide +kernel)) ⟨fun _ => ⟨this, _, rfl, Or.inl hre⟩, fun z => absurd z (by decide +kernel)⟩ e1 e2 (fun _ _ => ⟨Nat.le_of_ble_eq_true rfl, fun _ hq => hq⟩) hw
set_option maxRecDepth 100000 in
theorem ch_X5_pop_0 {L : Nat} {xs : Nat → Int32} {hA hE h : am_H} {r : Option Int32} {this : Nat} {a : Int32} (H : ∃ (x2 : Int32) (h1 : am_H), am_ok L xs m_X5_isTally [.int a] h (some x2) h1 ∧ (if (x2 : Int32) = 0 then am_fit .int (-2 : Int32) ∧ some (-2 : Int32) = r ∧ h1 = hE else am_b (am_gR h1 this 5 9) (fun a3 => am_b (am_lI h1 .int a3 a) (fun x4 => (if (x4 : Int32) < (1 : Int32) then am_b (am_gR h1 this 5 9) (fun a5 => am_b (am_lI h1 .int a5 a) (fun x6 => (if (x6 : Int32) < 0 then am_fit .int (-11 : Int32) ∧ some (-11 : Int32) = r ∧ h1 = hE else am_fit .int (-12 : Int32) ∧ some (-12 : Int32) = r ∧ h1 = hE))) else am_b (am_gR h1 this 5 9) (fun a7 => am_b (am_lI h1 .int a7 a) (fun x8 => am_b (am_sI h1 .int a7 a (x8 - (1 : Int32))) (fun h9 => am_b (am_gR h9 this 5 10) (fun a10 => am_b (am_gR h9 this 5 9) (fun a11 => am_b (am_lI h9 .int a11 a) (fun x12 => am_b (am_lI h9 .int a10 (((8 : Int32) * a) + x12)) (fun x13 => am_fit .int (x13 + (50000 : Int32)) ∧ some (x13 + (50000 : Int32)) = r ∧ h9 = hE)))))))))))) : am_wa L xs m_X5_pop hA r hE 0 [.ref this, .int a] [] h := am_chunk am_mk_all okk_X5_pop [] 32 _ _ _ _ H
theorem en_X5_held {L : Nat} {xs : Nat → Int32} {h h' : am_H} {r : Int32} {a : Int32} (e1 : h'.1 = h.1) (e2 : h'.2.1 = h.2.1) (hw : am_wa L xs m_X5_held h (some r) h' 0 [.int a] [] h) : am_ok L xs m_X5_held [.int a] h (some r) h' := am_ok_of (ls := [.int a]) mk_X5_held.2.1 mk_X5_held.2.2 ⟨fun z => (by cases z), fun z => absurd z (by decide +kernel)⟩ (fun z => absurd z (by decide +kernel)) ⟨fun z => absurd z (by decide +kernel), fun z => absurd z (by decide +kernel)⟩ e1 e2 (fun _ _ => ⟨Nat.le_of_ble_eq_true rfl, fun _ hq => hq⟩) hw
set_option maxRecDepth 100000 in
theorem ch_X5_held_0 {L : Nat} {xs : Nat → Int32} {hA hE h : am_H} {r : Option Int32} {a : Int32} (H : (if ((999 : Int32) : Int32) < a then am_fit .int (999 : Int32) ∧ some (999 : Int32) = r ∧ h = hE else (if (a : Int32) < (-999 : Int32) then am_fit .int (-999 : Int32) ∧ some (-999 : Int32) = r ∧ h = hE else am_fit .int a ∧ some a = r ∧ h = hE))) : am_wa L xs m_X5_held hA r hE 0 [.int a] [] h := am_chunk am_mk_all okk_X5_held [] 10 _ _ _ _ H
theorem en_X5_each {L : Nat} {xs : Nat → Int32} {h h' : am_H} {r : Int32} {this : Nat} {a b : Int32} (hre : am_cls h this = some 5) (e1 : h'.1 = h.1) (e2 : h'.2.1 = h.2.1) (hw : am_wa L xs m_X5_each h (some r) h' 0 [.ref this, .int a, .int b, .null, .null, .null] [] h) : am_ok L xs m_X5_each [.ref this, .int a, .int b] h (some r) h' := am_ok_of (ls := [.ref this, .int a, .int b, .null, .null, .null]) mk_X5_each.2.1 mk_X5_each.2.2 ⟨fun z => (by cases z), fun z => absurd z (by decide +kernel)⟩ (fun z => absurd z (by decide +kernel)) ⟨fun _ => ⟨this, _, rfl, Or.inl hre⟩, fun z => absurd z (by decide +kernel)⟩ e1 e2 (fun _ _ => ⟨Nat.le_of_ble_eq_true rfl, fun _ hq => hq⟩) hw
set_option maxRecDepth 100000 in
theorem ch_X5_each_0 {L : Nat} {xs : Nat → Int32} {hA hE h : am_H} {r : Option Int32} {this : Nat} {a b : Int32} (H : ∃ (x2 : Int32) (h1 : am_H), am_ok L xs m_X5_isTally [.int a] h (some x2) h1 ∧ (if (x2 : Int32) = 0 then am_fit .int (-2 : Int32) ∧ some (-2 : Int32) = r ∧ h1 = hE else ∃ (x4 : Int32) (h3 : am_H), am_ok L xs m_X5_in [.long (Int32.toInt64 b), .long (Int32.toInt64 (0 : Int32)), .long (Int32.toInt64 (2 : Int32))] h1 (some x4) h3 ∧ (if (x4 : Int32) = 0 then am_fit .int (-3 : Int32) ∧ some (-3 : Int32) = r ∧ h3 = hE else am_b (am_gR h3 this 5 9) (fun a5 => am_b (am_lI h3 .int a5 a) (fun x6 => (if (x6 : Int32) < 0 then am_fit .int (-11 : Int32) ∧ some (-11 : Int32) = r ∧ h3 = hE else am_wa L xs m_X5_each hA r hE 45 [.ref this, .int a, .int b, .int (0 : Int32), .int ((8 : Int32) * a), .null] [] h3)))))) : am_wa L xs m_X5_each hA r hE 0 [.ref this, .int a, .int b, .null, .null, .null] [] h := am_chunk am_mk_all okk_X5_each [(45, [0, 1, 2, 3, 4])] 22 _ _ _ _ H
set_option maxRecDepth 100000 in
theorem ch_X5_each_45 {L : Nat} {xs : Nat → Int32} {hA hE h : am_H} {r : Option Int32} {l0 : Nat} {l1 l2 l3 l4 : Int32} (H : am_b (am_gR h l0 5 9) (fun a1 => am_b (am_lI h .int a1 l1) (fun x2 => (if (l4 : Int32) < (((8 : Int32) * l1) + x2) then am_b (am_gR h l0 5 10) (fun a3 => am_b (am_lI h .int a3 l4) (fun x4 => am_b (am_gR h l0 5 10) (fun a5 => (if (l2 : Int32) = 0 then am_b (am_sI h .int a5 l4 (-x4)) (fun h6 => am_wa L xs m_X5_each hA r hE 45 [.ref l0, .int l1, .int l2, .int (l3 + x4), .int (l4 + (1 : Int32)), .null] [] h6) else (if (l2 : Int32) = (1 : Int32) then ∃ (x8 : Int32) (h7 : am_H), am_ok L xs m_X5_held [.int ((2 : Int32) * x4)] h (some x8) h7 ∧ am_b (am_sI h7 .int a5 l4 x8) (fun h9 => am_wa L xs m_X5_each hA r hE 45 [.ref l0, .int l1, .int l2, .int (l3 + x4), .int (l4 + (1 : Int32)), .null] [] h9) else ∃ (x11 : Int32) (h10 : am_H), am_ok L xs m_X5_held [.int (l3 + x4)] h (some x11) h10 ∧ am_b (am_sI h10 .int a5 l4 x11) (fun h12 => am_wa L xs m_X5_each hA r hE 45 [.ref l0, .int l1, .int l2, .int (l3 + x4), .int (l4 + (1 : Int32)), .null] [] h12)))))) else am_b (am_gR h l0 5 9) (fun a13 => am_b (am_lI h .int a13 l1) (fun x14 => am_fit .int x14 ∧ some x14 = r ∧ h = hE)))))) : am_wa L xs m_X5_each hA r hE 45 [.ref l0, .int l1, .int l2, .int l3, .int l4, .null] [] h := am_chunk am_mk_all okk_X5_each [(45, [0, 1, 2, 3, 4])] 37 _ _ _ _ H
theorem en_X5_drop {L : Nat} {xs : Nat → Int32} {h h' : am_H} {r : Int32} {this : Nat} {a : Int32} (hre : am_cls h this = some 5) (e1 : h'.1 = h.1) (e2 : h'.2.1 = h.2.1) (hw : am_wa L xs m_X5_drop h (some r) h' 0 [.ref this, .int a, .null] [] h) : am_ok L xs m_X5_drop [.ref this, .int a] h (some r) h' := am_ok_of (ls := [.ref this, .int a, .null]) mk_X5_drop.2.1 mk_X5_drop.2.2 ⟨fun z => (by cases z), fun z => absurd z (by decide +kernel)⟩ (fun z => absurd z (by decide +kernel)) ⟨fun _ => ⟨this, _, rfl, Or.inl hre⟩, fun z => absurd z (by decide +kernel)⟩ e1 e2 (fun _ _ => ⟨Nat.le_of_ble_eq_true rfl, fun _ hq => hq⟩) hw
set_option maxRecDepth 100000 in
theorem ch_X5_drop_0 {L : Nat} {xs : Nat → Int32} {hA hE h : am_H} {r : Option Int32} {this : Nat} {a : Int32} (H : ∃ (x2 : Int32) (h1 : am_H), am_ok L xs m_X5_isTally [.int a] h (some x2) h1 ∧ (if (x2 : Int32) = 0 then am_fit .int (-2 : Int32) ∧ some (-2 : Int32) = r ∧ h1 = hE else am_b (am_gR h1 this 5 9) (fun a3 => am_b (am_lI h1 .int a3 a) (fun x4 => am_b (am_gR h1 this 5 9) (fun a5 => am_b (am_sI h1 .int a5 a (-1 : Int32)) (fun h6 => (if (x4 : Int32) < 0 then am_fit .int (-11 : Int32) ∧ some (-11 : Int32) = r ∧ h6 = hE else am_fit .int x4 ∧ some x4 = r ∧ h6 = hE))))))) : am_wa L xs m_X5_drop hA r hE 0 [.ref this, .int a, .null] [] h := am_chunk am_mk_all okk_X5_drop [] 19 _ _ _ _ H
theorem en_X5_links {L : Nat} {xs : Nat → Int32} {h h' : am_H} {r : Int32} {this : Nat} (hre : am_cls h this = some 5) (e1 : h'.1 = h.1) (e2 : h'.2.1 = h.2.1) (hw : am_wa L xs m_X5_links h (some r) h' 0 [.ref this, .null, .null] [] h) : am_ok L xs m_X5_links [.ref this] h (some r) h' := am_ok_of (ls := [.ref this, .null, .null]) mk_X5_links.2.1 mk_X5_links.2.2 ⟨fun z => (by cases z), fun z => absurd z (by decide +kernel)⟩ (fun z => absurd z (by decide +kernel)) ⟨fun _ => ⟨this, _, rfl, Or.inl hre⟩, fun z => absurd z (by decide +kernel)⟩ e1 e2 (fun _ _ => ⟨Nat.le_of_ble_eq_true rfl, fun _ hq => hq⟩) hw
set_option maxRecDepth 100000 in
theorem ch_X5_links_0 {L : Nat} {xs : Nat → Int32} {hA hE h : am_H} {r : Option Int32} {this : Nat} (H : am_wa L xs m_X5_links hA r hE 4 [.ref this, .int (0 : Int32), .int (0 : Int32)] [] h) : am_wa L xs m_X5_links hA r hE 0 [.ref this, .null, .null] [] h := am_chunk am_mk_all okk_X5_links [(4, [0, 1, 2])] 6 _ _ _ _ H
set_option maxRecDepth 100000 in
theorem ch_X5_links_4 {L : Nat} {xs : Nat → Int32} {hA hE h : am_H} {r : Option Int32} {l0 : Nat} {l1 l2 : Int32} (H : am_b (am_gI h l0 5 1) (fun x1 => (if (l2 : Int32) < x1 then am_b (am_gR h l0 5 0) (fun a2 => am_b (am_lI h .int a2 ((17 : Int32) + l2)) (fun x3 => ∃ (x5 : Int32) (h4 : am_H), am_ok L xs m_X5_ones [.int x3] h (some x5) h4 ∧ am_wa L xs m_X5_links hA r hE 4 [.ref l0, .int (l1 + x5), .int (l2 + (1 : Int32))] [] h4)) else (¬ ((2 : Int32) : Int32) = 0) ∧ am_fit .int (l1 / (2 : Int32)) ∧ some (l1 / (2 : Int32)) = r ∧ h = hE))) : am_wa L xs m_X5_links hA r hE 4 [.ref l0, .int l1, .int l2] [] h := am_chunk am_mk_all okk_X5_links [(4, [0, 1, 2])] 18 _ _ _ _ H
theorem en_X5_allNumbers {L : Nat} {xs : Nat → Int32} {h h' : am_H} {r : Int32} {this : Nat} (hre : am_cls h this = some 5) (e1 : h'.1 = h.1) (e2 : h'.2.1 = h.2.1) (hw : am_wa L xs m_X5_allNumbers h (some r) h' 0 [.ref this, .null, .null] [] h) : am_ok L xs m_X5_allNumbers [.ref this] h (some r) h' := am_ok_of (ls := [.ref this, .null, .null]) mk_X5_allNumbers.2.1 mk_X5_allNumbers.2.2 ⟨fun z => (by cases z), fun z => absurd z (by decide +kernel)⟩ (fun z => absurd z (by decide +kernel)) ⟨fun _ => ⟨this, _, rfl, Or.inl hre⟩, fun z => absurd z (by decide +kernel)⟩ e1 e2 (fun _ _ => ⟨Nat.le_of_ble_eq_true rfl, fun _ hq => hq⟩) hw
set_option maxRecDepth 100000 in
theorem ch_X5_allNumbers_0 {L : Nat} {xs : Nat → Int32} {hA hE h : am_H} {r : Option Int32} {this : Nat} (H : am_wa L xs m_X5_allNumbers hA r hE 4 [.ref this, .int (0 : Int32), .int (0 : Int32)] [] h) : am_wa L xs m_X5_allNumbers hA r hE 0 [.ref this, .null, .null] [] h := am_chunk am_mk_all okk_X5_allNumbers [(4, [0, 1, 2])] 6 _ _ _ _ H
set_option maxRecDepth 100000 in
theorem ch_X5_allNumbers_4 {L : Nat} {xs : Nat → Int32} {hA hE h : am_H} {r : Option Int32} {l0 : Nat} {l1 l2 : Int32} (H : (if (l2 : Int32) < (3 : Int32) then am_b (am_gR h l0 5 9) (fun a1 => am_b (am_lI h .int a1 l2) (fun x2 => (if (x2 : Int32) < 0 then am_wa L xs m_X5_allNumbers hA r hE 4 [.ref l0, .int (l1 + (0 : Int32)), .int (l2 + (1 : Int32))] [] h else am_b (am_gR h l0 5 9) (fun a3 => am_b (am_lI h .int a3 l2) (fun x4 => am_wa L xs m_X5_allNumbers hA r hE 4 [.ref l0, .int (l1 + x4), .int (l2 + (1 : Int32))] [] h))))) else am_fit .int l1 ∧ some l1 = r ∧ h = hE)) : am_wa L xs m_X5_allNumbers hA r hE 4 [.ref l0, .int l1, .int l2] [] h := am_chunk am_mk_all okk_X5_allNumbers [(4, [0, 1, 2])] 19 _ _ _ _ H
theorem en_X5_told {L : Nat} {xs : Nat → Int32} {h h' : am_H} {r : Int32} {this : Nat} {a : Int32} (hre : am_cls h this = some 5) (e1 : h'.1 = h.1) (e2 : h'.2.1 = h.2.1) (hw : am_wa L xs m_X5_told h (some r) h' 0 [.ref this, .int a] [] h) : am_ok L xs m_X5_told [.ref this, .int a] h (some r) h' := am_ok_of (ls := [.ref this, .int a]) mk_X5_told.2.1 mk_X5_told.2.2 ⟨fun z => (by cases z), fun z => absurd z (by decide +kernel)⟩ (fun z => absurd z (by decide +kernel)) ⟨fun _ => ⟨this, _, rfl, Or.inl hre⟩, fun z => absurd z (by decide +kernel)⟩ e1 e2 (fun _ _ => ⟨Nat.le_of_ble_eq_true rfl, fun _ hq => hq⟩) hw
set_option maxRecDepth 100000 in
theorem ch_X5_told_0 {L : Nat} {xs : Nat → Int32} {hA hE h : am_H} {r : Option Int32} {this : Nat} {a : Int32} (H : ((a = nI 0 → am_b (am_gI h this 5 1) (fun x17 => am_fit .int x17 ∧ some x17 = r ∧ h = hE)) ∧ (¬ a = nI 0 → (a = nI 1 → am_b (am_gI h this 5 2) (fun x16 => am_fit .int x16 ∧ some x16 = r ∧ h = hE)) ∧ (¬ a = nI 1 → (a = nI 2 → am_b (am_gI h this 5 3) (fun x15 => am_fit .int x15 ∧ some x15 = r ∧ h = hE)) ∧ (¬ a = nI 2 → (a = nI 3 → ∃ (x14 : Int32) (h13 : am_H), am_ok L xs m_X5_links [.ref this] h (some x14) h13 ∧ am_fit .int x14 ∧ some x14 = r ∧ h13 = hE) ∧ (¬ a = nI 3 → (a = nI 4 → ∃ (x12 : Int32) (h11 : am_H), am_ok L xs m_X5_clashes [.ref this, .int (0 : Int32)] h (some x12) h11 ∧ am_fit .int x12 ∧ some x12 = r ∧ h11 = hE) ∧ (¬ a = nI 4 → (a = nI 5 → ∃ (x10 : Int32) (h9 : am_H), am_ok L xs m_X5_covered [.ref this, .int (0 : Int32)] h (some x10) h9 ∧ am_fit .int x10 ∧ some x10 = r ∧ h9 = hE) ∧ (¬ a = nI 5 → (a = nI 6 → ∃ (x8 : Int32) (h7 : am_H), am_ok L xs m_X5_isDone [.ref this, .int (0 : Int32)] h (some x8) h7 ∧ (if (x8 : Int32) = 0 then am_fit .int (0 : Int32) ∧ some (0 : Int32) = r ∧ h7 = hE else am_fit .int (1 : Int32) ∧ some (1 : Int32) = r ∧ h7 = hE)) ∧ (¬ a = nI 6 → (a = nI 7 → am_b (am_gR h this 5 0) (fun a5 => am_b (am_lI h .int a5 (0 : Int32)) (fun x6 => am_fit .int x6 ∧ some x6 = r ∧ h = hE))) ∧ (¬ a = nI 7 → (a = nI 8 → ∃ (x4 : Int32) (h3 : am_H), am_ok L xs m_X5_allNumbers [.ref this] h (some x4) h3 ∧ am_fit .int x4 ∧ some x4 = r ∧ h3 = hE) ∧ (¬ a = nI 8 → (a = nI 9 → am_b (am_gI h this 5 5) (fun x2 => am_fit .int x2 ∧ some x2 = r ∧ h = hE)) ∧ (¬ a = nI 9 → (a = nI 10 → am_b (am_gI h this 5 8) (fun x1 => am_fit .int x1 ∧ some x1 = r ∧ h = hE)) ∧ (¬ a = nI 10 → am_fit .int (-3 : Int32) ∧ some (-3 : Int32) = r ∧ h = hE))))))))))))) : am_wa L xs m_X5_told hA r hE 0 [.ref this, .int a] [] h := am_chunk am_mk_all okk_X5_told [] 10 _ _ _ _ H
end
section
/-! CHUNKS: what the abstract machine asks at each place where a chunk begins (by program); the entries of the methods -/
set_option maxRecDepth 100000 in
theorem ch_L_law_0 {L : Nat} {xs : Nat → Int32} {hA hE h : am_H} {r : Option Int32} {a : Nat} (H : am_Al m_L_law hA h 1 (am_df 4).length ∧ ∃ h1, (am_ok L xs m_X4_init [.ref (Prod.fst h)] (am_push h (am_df 4).length (.inr (4, am_df 4))) none h1 ∧ am_Al m_L_law hA (am_push h (am_df 4).length (.inr (4, am_df 4))) (tm_mcs m_X4_init).1 (tm_mcs m_X4_init).2) ∧ am_Al m_L_law hA h1 1 (am_df 5).length ∧ ∃ h2, (am_ok L xs m_X5_init [.ref (Prod.fst h1)] (am_push h1 (am_df 5).length (.inr (5, am_df 5))) none h2 ∧ am_Al m_L_law hA (am_push h1 (am_df 5).length (.inr (5, am_df 5))) (tm_mcs m_X5_init).1 (tm_mcs m_X5_init).2) ∧ am_wa L xs m_L_law hA r hE 18 [.ref a, .ref (Prod.fst h), .ref (Prod.fst h1), .int (0 : Int32)] [] h2) : am_wa L xs m_L_law hA r hE 0 [.ref a, .null, .null, .null] [] h := am_chunk am_mk_all okk_L_law [(18, [0, 1, 2, 3])] 12 _ _ _ _ H
set_option maxRecDepth 100000 in
theorem ch_L_law_18 {L : Nat} {xs : Nat → Int32} {hA hE h : am_H} {r : Option Int32} {l0 l1 l2 : Nat} {l3 : Int32} (H : am_if (Nat.beq l0 1000000) ((if (((nI L) - (6 : Int32)) : Int32) < l3 then am_fit .boolean (1 : Int32) ∧ some (1 : Int32) = r ∧ h = hE else am_if (Nat.beq l0 1000000) ((¬ ((l3 : Int32) < 0 ∨ L ≤ Int32.toNatClampNeg l3)) ∧ ((((xs (Int32.toNatClampNeg l3)) &&& (31 : Int32)) = nI 0 → am_if (Nat.beq l0 1000000) ((¬ (((l3 + (1 : Int32)) : Int32) < 0 ∨ L ≤ Int32.toNatClampNeg (l3 + (1 : Int32)))) ∧ ∃ (x102 : Int32) (h101 : am_H), am_ok L xs m_X4_write [.ref l1, .int (xs (Int32.toNatClampNeg (l3 + (1 : Int32))))] h (some x102) h101 ∧ am_if (Nat.beq l0 1000000) ((¬ (((l3 + (1 : Int32)) : Int32) < 0 ∨ L ≤ Int32.toNatClampNeg (l3 + (1 : Int32)))) ∧ ∃ (x104 : Int32) (h103 : am_H), am_ok L xs m_X5_write [.ref l2, .int (xs (Int32.toNatClampNeg (l3 + (1 : Int32))))] h101 (some x104) h103 ∧ (if (x102 : Int32) = x104 then am_wa L xs m_L_law hA r hE 18 [.ref l0, .ref l1, .ref l2, .int (l3 + (6 : Int32))] [] h103 else am_fit .boolean (0 : Int32) ∧ some (0 : Int32) = r ∧ h103 = hE)))) ∧ (¬ ((xs (Int32.toNatClampNeg l3)) &&& (31 : Int32)) = nI 0 → (((xs (Int32.toNatClampNeg l3)) &&& (31 : Int32)) = nI 1 → ∃ (x98 : Int32) (h97 : am_H), am_ok L xs m_X4_erase [.ref l1] h (some x98) h97 ∧ ∃ (x100 : Int32) (h99 : am_H), am_ok L xs m_X5_erase [.ref l2] h97 (some x100) h99 ∧ (if (x98 : Int32) = x100 then am_wa L xs m_L_law hA r hE 18 [.ref l0, .ref l1, .ref l2, .int (l3 + (6 : Int32))] [] h99 else am_fit .boolean (0 : Int32) ∧ some (0 : Int32) = r ∧ h99 = hE)) ∧ (¬ ((xs (Int32.toNatClampNeg l3)) &&& (31 : Int32)) = nI 1 → (((xs (Int32.toNatClampNeg l3)) &&& (31 : Int32)) = nI 2 → ∃ (x94 : Int32) (h93 : am_H), am_ok L xs m_X4_fault [.ref l1] h (some x94) h93 ∧ ∃ (x96 : Int32) (h95 : am_H), am_ok L xs m_X5_fault [.ref l2] h93 (some x96) h95 ∧ (if (x94 : Int32) = x96 then am_wa L xs m_L_law hA r hE 18 [.ref l0, .ref l1, .ref l2, .int (l3 + (6 : Int32))] [] h95 else am_fit .boolean (0 : Int32) ∧ some (0 : Int32) = r ∧ h95 = hE)) ∧ (¬ ((xs (Int32.toNatClampNeg l3)) &&& (31 : Int32)) = nI 2 → (((xs (Int32.toNatClampNeg l3)) &&& (31 : Int32)) = nI 3 → ∃ (x90 : Int32) (h89 : am_H), am_ok L xs m_X4_mesh [.ref l1] h (some x90) h89 ∧ ∃ (x92 : Int32) (h91 : am_H), am_ok L xs m_X5_mesh [.ref l2] h89 (some x92) h91 ∧ (if (x90 : Int32) = x92 then am_wa L xs m_L_law hA r hE 18 [.ref l0, .ref l1, .ref l2, .int (l3 + (6 : Int32))] [] h91 else am_fit .boolean (0 : Int32) ∧ some (0 : Int32) = r ∧ h91 = hE)) ∧ (¬ ((xs (Int32.toNatClampNeg l3)) &&& (31 : Int32)) = nI 3 → (((xs (Int32.toNatClampNeg l3)) &&& (31 : Int32)) = nI 4 → am_if (Nat.beq l0 1000000) ((¬ (((l3 + (1 : Int32)) : Int32) < 0 ∨ L ≤ Int32.toNatClampNeg (l3 + (1 : Int32)))) ∧ am_if (Nat.beq l0 1000000) ((¬ (((l3 + (2 : Int32)) : Int32) < 0 ∨ L ≤ Int32.toNatClampNeg (l3 + (2 : Int32)))) ∧ ∃ (x86 : Int32) (h85 : am_H), am_ok L xs m_X4_station [.ref l1, .int (xs (Int32.toNatClampNeg (l3 + (1 : Int32)))), .int (xs (Int32.toNatClampNeg (l3 + (2 : Int32))))] h (some x86) h85 ∧ am_if (Nat.beq l0 1000000) ((¬ (((l3 + (1 : Int32)) : Int32) < 0 ∨ L ≤ Int32.toNatClampNeg (l3 + (1 : Int32)))) ∧ am_if (Nat.beq l0 1000000) ((¬ (((l3 + (2 : Int32)) : Int32) < 0 ∨ L ≤ Int32.toNatClampNeg (l3 + (2 : Int32)))) ∧ ∃ (x88 : Int32) (h87 : am_H), am_ok L xs m_X5_station [.ref l2, .int (xs (Int32.toNatClampNeg (l3 + (1 : Int32)))), .int (xs (Int32.toNatClampNeg (l3 + (2 : Int32))))] h85 (some x88) h87 ∧ (if (x86 : Int32) = x88 then am_wa L xs m_L_law hA r hE 18 [.ref l0, .ref l1, .ref l2, .int (l3 + (6 : Int32))] [] h87 else am_fit .boolean (0 : Int32) ∧ some (0 : Int32) = r ∧ h87 = hE)))))) ∧ (¬ ((xs (Int32.toNatClampNeg l3)) &&& (31 : Int32)) = nI 4 → (((xs (Int32.toNatClampNeg l3)) &&& (31 : Int32)) = nI 5 → am_if (Nat.beq l0 1000000) ((¬ (((l3 + (1 : Int32)) : Int32) < 0 ∨ L ≤ Int32.toNatClampNeg (l3 + (1 : Int32)))) ∧ am_if (Nat.beq l0 1000000) ((¬ (((l3 + (2 : Int32)) : Int32) < 0 ∨ L ≤ Int32.toNatClampNeg (l3 + (2 : Int32)))) ∧ ∃ (x82 : Int32) (h81 : am_H), am_ok L xs m_X4_slot [.ref l1, .int (xs (Int32.toNatClampNeg (l3 + (1 : Int32)))), .int (xs (Int32.toNatClampNeg (l3 + (2 : Int32))))] h (some x82) h81 ∧ am_if (Nat.beq l0 1000000) ((¬ (((l3 + (1 : Int32)) : Int32) < 0 ∨ L ≤ Int32.toNatClampNeg (l3 + (1 : Int32)))) ∧ am_if (Nat.beq l0 1000000) ((¬ (((l3 + (2 : Int32)) : Int32) < 0 ∨ L ≤ Int32.toNatClampNeg (l3 + (2 : Int32)))) ∧ ∃ (x84 : Int32) (h83 : am_H), am_ok L xs m_X5_slot [.ref l2, .int (xs (Int32.toNatClampNeg (l3 + (1 : Int32)))), .int (xs (Int32.toNatClampNeg (l3 + (2 : Int32))))] h81 (some x84) h83 ∧ (if (x82 : Int32) = x84 then am_wa L xs m_L_law hA r hE 18 [.ref l0, .ref l1, .ref l2, .int (l3 + (6 : Int32))] [] h83 else am_fit .boolean (0 : Int32) ∧ some (0 : Int32) = r ∧ h83 = hE)))))) ∧ (¬ ((xs (Int32.toNatClampNeg l3)) &&& (31 : Int32)) = nI 5 → (((xs (Int32.toNatClampNeg l3)) &&& (31 : Int32)) = nI 6 → am_if (Nat.beq l0 1000000) ((¬ (((l3 + (1 : Int32)) : Int32) < 0 ∨ L ≤ Int32.toNatClampNeg (l3 + (1 : Int32)))) ∧ ∃ (x78 : Int32) (h77 : am_H), am_ok L xs m_X4_cycle [.ref l1, .int (xs (Int32.toNatClampNeg (l3 + (1 : Int32))))] h (some x78) h77 ∧ am_if (Nat.beq l0 1000000) ((¬ (((l3 + (1 : Int32)) : Int32) < 0 ∨ L ≤ Int32.toNatClampNeg (l3 + (1 : Int32)))) ∧ ∃ (x80 : Int32) (h79 : am_H), am_ok L xs m_X5_cycle [.ref l2, .int (xs (Int32.toNatClampNeg (l3 + (1 : Int32))))] h77 (some x80) h79 ∧ (if (x78 : Int32) = x80 then am_wa L xs m_L_law hA r hE 18 [.ref l0, .ref l1, .ref l2, .int (l3 + (6 : Int32))] [] h79 else am_fit .boolean (0 : Int32) ∧ some (0 : Int32) = r ∧ h79 = hE)))) ∧ (¬ ((xs (Int32.toNatClampNeg l3)) &&& (31 : Int32)) = nI 6 → (((xs (Int32.toNatClampNeg l3)) &&& (31 : Int32)) = nI 7 → am_if (Nat.beq l0 1000000) ((¬ (((l3 + (1 : Int32)) : Int32) < 0 ∨ L ≤ Int32.toNatClampNeg (l3 + (1 : Int32)))) ∧ ∃ (x74 : Int32) (h73 : am_H), am_ok L xs m_X4_frame [.ref l1, .int (xs (Int32.toNatClampNeg (l3 + (1 : Int32))))] h (some x74) h73 ∧ am_if (Nat.beq l0 1000000) ((¬ (((l3 + (1 : Int32)) : Int32) < 0 ∨ L ≤ Int32.toNatClampNeg (l3 + (1 : Int32)))) ∧ ∃ (x76 : Int32) (h75 : am_H), am_ok L xs m_X5_frame [.ref l2, .int (xs (Int32.toNatClampNeg (l3 + (1 : Int32))))] h73 (some x76) h75 ∧ (if (x74 : Int32) = x76 then am_wa L xs m_L_law hA r hE 18 [.ref l0, .ref l1, .ref l2, .int (l3 + (6 : Int32))] [] h75 else am_fit .boolean (0 : Int32) ∧ some (0 : Int32) = r ∧ h75 = hE)))) ∧ (¬ ((xs (Int32.toNatClampNeg l3)) &&& (31 : Int32)) = nI 7 → (((xs (Int32.toNatClampNeg l3)) &&& (31 : Int32)) = nI 8 → am_if (Nat.beq l0 1000000) ((¬ (((l3 + (1 : Int32)) : Int32) < 0 ∨ L ≤ Int32.toNatClampNeg (l3 + (1 : Int32)))) ∧ am_if (Nat.beq l0 1000000) ((¬ (((l3 + (2 : Int32)) : Int32) < 0 ∨ L ≤ Int32.toNatClampNeg (l3 + (2 : Int32)))) ∧ ∃ (x70 : Int32) (h69 : am_H), am_ok L xs m_X4_give [.ref l1, .int (xs (Int32.toNatClampNeg (l3 + (1 : Int32)))), .int (xs (Int32.toNatClampNeg (l3 + (2 : Int32))))] h (some x70) h69 ∧ am_if (Nat.beq l0 1000000) ((¬ (((l3 + (1 : Int32)) : Int32) < 0 ∨ L ≤ Int32.toNatClampNeg (l3 + (1 : Int32)))) ∧ am_if (Nat.beq l0 1000000) ((¬ (((l3 + (2 : Int32)) : Int32) < 0 ∨ L ≤ Int32.toNatClampNeg (l3 + (2 : Int32)))) ∧ ∃ (x72 : Int32) (h71 : am_H), am_ok L xs m_X5_give [.ref l2, .int (xs (Int32.toNatClampNeg (l3 + (1 : Int32)))), .int (xs (Int32.toNatClampNeg (l3 + (2 : Int32))))] h69 (some x72) h71 ∧ (if (x70 : Int32) = x72 then am_wa L xs m_L_law hA r hE 18 [.ref l0, .ref l1, .ref l2, .int (l3 + (6 : Int32))] [] h71 else am_fit .boolean (0 : Int32) ∧ some (0 : Int32) = r ∧ h71 = hE)))))) ∧ (¬ ((xs (Int32.toNatClampNeg l3)) &&& (31 : Int32)) = nI 8 → (((xs (Int32.toNatClampNeg l3)) &&& (31 : Int32)) = nI 9 → am_if (Nat.beq l0 1000000) ((¬ (((l3 + (1 : Int32)) : Int32) < 0 ∨ L ≤ Int32.toNatClampNeg (l3 + (1 : Int32)))) ∧ am_if (Nat.beq l0 1000000) ((¬ (((l3 + (2 : Int32)) : Int32) < 0 ∨ L ≤ Int32.toNatClampNeg (l3 + (2 : Int32)))) ∧ ∃ (x66 : Int32) (h65 : am_H), am_ok L xs m_X4_join [.ref l1, .int (xs (Int32.toNatClampNeg (l3 + (1 : Int32)))), .int (xs (Int32.toNatClampNeg (l3 + (2 : Int32))))] h (some x66) h65 ∧ am_if (Nat.beq l0 1000000) ((¬ (((l3 + (1 : Int32)) : Int32) < 0 ∨ L ≤ Int32.toNatClampNeg (l3 + (1 : Int32)))) ∧ am_if (Nat.beq l0 1000000) ((¬ (((l3 + (2 : Int32)) : Int32) < 0 ∨ L ≤ Int32.toNatClampNeg (l3 + (2 : Int32)))) ∧ ∃ (x68 : Int32) (h67 : am_H), am_ok L xs m_X5_join [.ref l2, .int (xs (Int32.toNatClampNeg (l3 + (1 : Int32)))), .int (xs (Int32.toNatClampNeg (l3 + (2 : Int32))))] h65 (some x68) h67 ∧ (if (x66 : Int32) = x68 then am_wa L xs m_L_law hA r hE 18 [.ref l0, .ref l1, .ref l2, .int (l3 + (6 : Int32))] [] h67 else am_fit .boolean (0 : Int32) ∧ some (0 : Int32) = r ∧ h67 = hE)))))) ∧ (¬ ((xs (Int32.toNatClampNeg l3)) &&& (31 : Int32)) = nI 9 → (((xs (Int32.toNatClampNeg l3)) &&& (31 : Int32)) = nI 10 → am_if (Nat.beq l0 1000000) ((¬ (((l3 + (1 : Int32)) : Int32) < 0 ∨ L ≤ Int32.toNatClampNeg (l3 + (1 : Int32)))) ∧ am_if (Nat.beq l0 1000000) ((¬ (((l3 + (2 : Int32)) : Int32) < 0 ∨ L ≤ Int32.toNatClampNeg (l3 + (2 : Int32)))) ∧ ∃ (x62 : Int32) (h61 : am_H), am_ok L xs m_X4_part [.ref l1, .int (xs (Int32.toNatClampNeg (l3 + (1 : Int32)))), .int (xs (Int32.toNatClampNeg (l3 + (2 : Int32))))] h (some x62) h61 ∧ am_if (Nat.beq l0 1000000) ((¬ (((l3 + (1 : Int32)) : Int32) < 0 ∨ L ≤ Int32.toNatClampNeg (l3 + (1 : Int32)))) ∧ am_if (Nat.beq l0 1000000) ((¬ (((l3 + (2 : Int32)) : Int32) < 0 ∨ L ≤ Int32.toNatClampNeg (l3 + (2 : Int32)))) ∧ ∃ (x64 : Int32) (h63 : am_H), am_ok L xs m_X5_part [.ref l2, .int (xs (Int32.toNatClampNeg (l3 + (1 : Int32)))), .int (xs (Int32.toNatClampNeg (l3 + (2 : Int32))))] h61 (some x64) h63 ∧ (if (x62 : Int32) = x64 then am_wa L xs m_L_law hA r hE 18 [.ref l0, .ref l1, .ref l2, .int (l3 + (6 : Int32))] [] h63 else am_fit .boolean (0 : Int32) ∧ some (0 : Int32) = r ∧ h63 = hE)))))) ∧ (¬ ((xs (Int32.toNatClampNeg l3)) &&& (31 : Int32)) = nI 10 → (((xs (Int32.toNatClampNeg l3)) &&& (31 : Int32)) = nI 11 → ∃ (x58 : Int32) (h57 : am_H), am_ok L xs m_X4_undo [.ref l1] h (some x58) h57 ∧ ∃ (x60 : Int32) (h59 : am_H), am_ok L xs m_X5_undo [.ref l2] h57 (some x60) h59 ∧ (if (x58 : Int32) = x60 then am_wa L xs m_L_law hA r hE 18 [.ref l0, .ref l1, .ref l2, .int (l3 + (6 : Int32))] [] h59 else am_fit .boolean (0 : Int32) ∧ some (0 : Int32) = r ∧ h59 = hE)) ∧ (¬ ((xs (Int32.toNatClampNeg l3)) &&& (31 : Int32)) = nI 11 → (((xs (Int32.toNatClampNeg l3)) &&& (31 : Int32)) = nI 12 → am_if (Nat.beq l0 1000000) ((¬ (((l3 + (1 : Int32)) : Int32) < 0 ∨ L ≤ Int32.toNatClampNeg (l3 + (1 : Int32)))) ∧ ∃ (x54 : Int32) (h53 : am_H), am_ok L xs m_X4_keep [.ref l1, .int (xs (Int32.toNatClampNeg (l3 + (1 : Int32))))] h (some x54) h53 ∧ am_if (Nat.beq l0 1000000) ((¬ (((l3 + (1 : Int32)) : Int32) < 0 ∨ L ≤ Int32.toNatClampNeg (l3 + (1 : Int32)))) ∧ ∃ (x56 : Int32) (h55 : am_H), am_ok L xs m_X5_keep [.ref l2, .int (xs (Int32.toNatClampNeg (l3 + (1 : Int32))))] h53 (some x56) h55 ∧ (if (x54 : Int32) = x56 then am_wa L xs m_L_law hA r hE 18 [.ref l0, .ref l1, .ref l2, .int (l3 + (6 : Int32))] [] h55 else am_fit .boolean (0 : Int32) ∧ some (0 : Int32) = r ∧ h55 = hE)))) ∧ (¬ ((xs (Int32.toNatClampNeg l3)) &&& (31 : Int32)) = nI 12 → (((xs (Int32.toNatClampNeg l3)) &&& (31 : Int32)) = nI 13 → am_if (Nat.beq l0 1000000) ((¬ (((l3 + (1 : Int32)) : Int32) < 0 ∨ L ≤ Int32.toNatClampNeg (l3 + (1 : Int32)))) ∧ ∃ (x50 : Int32) (h49 : am_H), am_ok L xs m_X4_back [.ref l1, .int (xs (Int32.toNatClampNeg (l3 + (1 : Int32))))] h (some x50) h49 ∧ am_if (Nat.beq l0 1000000) ((¬ (((l3 + (1 : Int32)) : Int32) < 0 ∨ L ≤ Int32.toNatClampNeg (l3 + (1 : Int32)))) ∧ ∃ (x52 : Int32) (h51 : am_H), am_ok L xs m_X5_back [.ref l2, .int (xs (Int32.toNatClampNeg (l3 + (1 : Int32))))] h49 (some x52) h51 ∧ (if (x50 : Int32) = x52 then am_wa L xs m_L_law hA r hE 18 [.ref l0, .ref l1, .ref l2, .int (l3 + (6 : Int32))] [] h51 else am_fit .boolean (0 : Int32) ∧ some (0 : Int32) = r ∧ h51 = hE)))) ∧ (¬ ((xs (Int32.toNatClampNeg l3)) &&& (31 : Int32)) = nI 13 → (((xs (Int32.toNatClampNeg l3)) &&& (31 : Int32)) = nI 14 → am_if (Nat.beq l0 1000000) ((¬ (((l3 + (1 : Int32)) : Int32) < 0 ∨ L ≤ Int32.toNatClampNeg (l3 + (1 : Int32)))) ∧ ∃ (x46 : Int32) (h45 : am_H), am_ok L xs m_X4_phase [.ref l1, .int (xs (Int32.toNatClampNeg (l3 + (1 : Int32))))] h (some x46) h45 ∧ am_if (Nat.beq l0 1000000) ((¬ (((l3 + (1 : Int32)) : Int32) < 0 ∨ L ≤ Int32.toNatClampNeg (l3 + (1 : Int32)))) ∧ ∃ (x48 : Int32) (h47 : am_H), am_ok L xs m_X5_phase [.ref l2, .int (xs (Int32.toNatClampNeg (l3 + (1 : Int32))))] h45 (some x48) h47 ∧ (if (x46 : Int32) = x48 then am_wa L xs m_L_law hA r hE 18 [.ref l0, .ref l1, .ref l2, .int (l3 + (6 : Int32))] [] h47 else am_fit .boolean (0 : Int32) ∧ some (0 : Int32) = r ∧ h47 = hE)))) ∧ (¬ ((xs (Int32.toNatClampNeg l3)) &&& (31 : Int32)) = nI 14 → (((xs (Int32.toNatClampNeg l3)) &&& (31 : Int32)) = nI 15 → ∃ (x42 : Int32) (h41 : am_H), am_ok L xs m_X4_after [.ref l1] h (some x42) h41 ∧ ∃ (x44 : Int32) (h43 : am_H), am_ok L xs m_X5_after [.ref l2] h41 (some x44) h43 ∧ (if (x42 : Int32) = x44 then am_wa L xs m_L_law hA r hE 18 [.ref l0, .ref l1, .ref l2, .int (l3 + (6 : Int32))] [] h43 else am_fit .boolean (0 : Int32) ∧ some (0 : Int32) = r ∧ h43 = hE)) ∧ (¬ ((xs (Int32.toNatClampNeg l3)) &&& (31 : Int32)) = nI 15 → (((xs (Int32.toNatClampNeg l3)) &&& (31 : Int32)) = nI 16 → am_if (Nat.beq l0 1000000) ((¬ (((l3 + (1 : Int32)) : Int32) < 0 ∨ L ≤ Int32.toNatClampNeg (l3 + (1 : Int32)))) ∧ am_if (Nat.beq l0 1000000) ((¬ (((l3 + (2 : Int32)) : Int32) < 0 ∨ L ≤ Int32.toNatClampNeg (l3 + (2 : Int32)))) ∧ ∃ (x38 : Int32) (h37 : am_H), am_ok L xs m_X4_spoils [.ref l1, .int (xs (Int32.toNatClampNeg (l3 + (1 : Int32)))), .int (xs (Int32.toNatClampNeg (l3 + (2 : Int32))))] h (some x38) h37 ∧ am_if (Nat.beq l0 1000000) ((¬ (((l3 + (1 : Int32)) : Int32) < 0 ∨ L ≤ Int32.toNatClampNeg (l3 + (1 : Int32)))) ∧ am_if (Nat.beq l0 1000000) ((¬ (((l3 + (2 : Int32)) : Int32) < 0 ∨ L ≤ Int32.toNatClampNeg (l3 + (2 : Int32)))) ∧ ∃ (x40 : Int32) (h39 : am_H), am_ok L xs m_X5_spoils [.ref l2, .int (xs (Int32.toNatClampNeg (l3 + (1 : Int32)))), .int (xs (Int32.toNatClampNeg (l3 + (2 : Int32))))] h37 (some x40) h39 ∧ (if (x38 : Int32) = x40 then am_wa L xs m_L_law hA r hE 18 [.ref l0, .ref l1, .ref l2, .int (l3 + (6 : Int32))] [] h39 else am_fit .boolean (0 : Int32) ∧ some (0 : Int32) = r ∧ h39 = hE)))))) ∧ (¬ ((xs (Int32.toNatClampNeg l3)) &&& (31 : Int32)) = nI 16 → (((xs (Int32.toNatClampNeg l3)) &&& (31 : Int32)) = nI 17 → ∃ (x34 : Int32) (h33 : am_H), am_ok L xs m_X4_fewest [.ref l1] h (some x34) h33 ∧ ∃ (x36 : Int32) (h35 : am_H), am_ok L xs m_X5_fewest [.ref l2] h33 (some x36) h35 ∧ (if (x34 : Int32) = x36 then am_wa L xs m_L_law hA r hE 18 [.ref l0, .ref l1, .ref l2, .int (l3 + (6 : Int32))] [] h35 else am_fit .boolean (0 : Int32) ∧ some (0 : Int32) = r ∧ h35 = hE)) ∧ (¬ ((xs (Int32.toNatClampNeg l3)) &&& (31 : Int32)) = nI 17 → (((xs (Int32.toNatClampNeg l3)) &&& (31 : Int32)) = nI 18 → am_if (Nat.beq l0 1000000) ((¬ (((l3 + (1 : Int32)) : Int32) < 0 ∨ L ≤ Int32.toNatClampNeg (l3 + (1 : Int32)))) ∧ am_if (Nat.beq l0 1000000) ((¬ (((l3 + (2 : Int32)) : Int32) < 0 ∨ L ≤ Int32.toNatClampNeg (l3 + (2 : Int32)))) ∧ ∃ (x30 : Int32) (h29 : am_H), am_ok L xs m_X4_hops [.ref l1, .int (xs (Int32.toNatClampNeg (l3 + (1 : Int32)))), .int (xs (Int32.toNatClampNeg (l3 + (2 : Int32))))] h (some x30) h29 ∧ am_if (Nat.beq l0 1000000) ((¬ (((l3 + (1 : Int32)) : Int32) < 0 ∨ L ≤ Int32.toNatClampNeg (l3 + (1 : Int32)))) ∧ am_if (Nat.beq l0 1000000) ((¬ (((l3 + (2 : Int32)) : Int32) < 0 ∨ L ≤ Int32.toNatClampNeg (l3 + (2 : Int32)))) ∧ ∃ (x32 : Int32) (h31 : am_H), am_ok L xs m_X5_hops [.ref l2, .int (xs (Int32.toNatClampNeg (l3 + (1 : Int32)))), .int (xs (Int32.toNatClampNeg (l3 + (2 : Int32))))] h29 (some x32) h31 ∧ (if (x30 : Int32) = x32 then am_wa L xs m_L_law hA r hE 18 [.ref l0, .ref l1, .ref l2, .int (l3 + (6 : Int32))] [] h31 else am_fit .boolean (0 : Int32) ∧ some (0 : Int32) = r ∧ h31 = hE)))))) ∧ (¬ ((xs (Int32.toNatClampNeg l3)) &&& (31 : Int32)) = nI 18 → (((xs (Int32.toNatClampNeg l3)) &&& (31 : Int32)) = nI 19 → am_if (Nat.beq l0 1000000) ((¬ (((l3 + (1 : Int32)) : Int32) < 0 ∨ L ≤ Int32.toNatClampNeg (l3 + (1 : Int32)))) ∧ am_if (Nat.beq l0 1000000) ((¬ (((l3 + (2 : Int32)) : Int32) < 0 ∨ L ≤ Int32.toNatClampNeg (l3 + (2 : Int32)))) ∧ am_if (Nat.beq l0 1000000) ((¬ (((l3 + (3 : Int32)) : Int32) < 0 ∨ L ≤ Int32.toNatClampNeg (l3 + (3 : Int32)))) ∧ am_if (Nat.beq l0 1000000) ((¬ (((l3 + (4 : Int32)) : Int32) < 0 ∨ L ≤ Int32.toNatClampNeg (l3 + (4 : Int32)))) ∧ am_if (Nat.beq l0 1000000) ((¬ (((l3 + (5 : Int32)) : Int32) < 0 ∨ L ≤ Int32.toNatClampNeg (l3 + (5 : Int32)))) ∧ ∃ (x26 : Int32) (h25 : am_H), am_ok L xs m_X4_tally [.ref l1, .int (xs (Int32.toNatClampNeg (l3 + (1 : Int32)))), .int (xs (Int32.toNatClampNeg (l3 + (2 : Int32)))), .int (xs (Int32.toNatClampNeg (l3 + (3 : Int32)))), .int (xs (Int32.toNatClampNeg (l3 + (4 : Int32)))), .int (xs (Int32.toNatClampNeg (l3 + (5 : Int32))))] h (some x26) h25 ∧ am_if (Nat.beq l0 1000000) ((¬ (((l3 + (1 : Int32)) : Int32) < 0 ∨ L ≤ Int32.toNatClampNeg (l3 + (1 : Int32)))) ∧ am_if (Nat.beq l0 1000000) ((¬ (((l3 + (2 : Int32)) : Int32) < 0 ∨ L ≤ Int32.toNatClampNeg (l3 + (2 : Int32)))) ∧ am_if (Nat.beq l0 1000000) ((¬ (((l3 + (3 : Int32)) : Int32) < 0 ∨ L ≤ Int32.toNatClampNeg (l3 + (3 : Int32)))) ∧ am_if (Nat.beq l0 1000000) ((¬ (((l3 + (4 : Int32)) : Int32) < 0 ∨ L ≤ Int32.toNatClampNeg (l3 + (4 : Int32)))) ∧ am_if (Nat.beq l0 1000000) ((¬ (((l3 + (5 : Int32)) : Int32) < 0 ∨ L ≤ Int32.toNatClampNeg (l3 + (5 : Int32)))) ∧ ∃ (x28 : Int32) (h27 : am_H), am_ok L xs m_X5_tally [.ref l2, .int (xs (Int32.toNatClampNeg (l3 + (1 : Int32)))), .int (xs (Int32.toNatClampNeg (l3 + (2 : Int32)))), .int (xs (Int32.toNatClampNeg (l3 + (3 : Int32)))), .int (xs (Int32.toNatClampNeg (l3 + (4 : Int32)))), .int (xs (Int32.toNatClampNeg (l3 + (5 : Int32))))] h25 (some x28) h27 ∧ (if (x26 : Int32) = x28 then am_wa L xs m_L_law hA r hE 18 [.ref l0, .ref l1, .ref l2, .int (l3 + (6 : Int32))] [] h27 else am_fit .boolean (0 : Int32) ∧ some (0 : Int32) = r ∧ h27 = hE)))))))))))) ∧ (¬ ((xs (Int32.toNatClampNeg l3)) &&& (31 : Int32)) = nI 19 → (((xs (Int32.toNatClampNeg l3)) &&& (31 : Int32)) = nI 20 → am_if (Nat.beq l0 1000000) ((¬ (((l3 + (1 : Int32)) : Int32) < 0 ∨ L ≤ Int32.toNatClampNeg (l3 + (1 : Int32)))) ∧ am_if (Nat.beq l0 1000000) ((¬ (((l3 + (2 : Int32)) : Int32) < 0 ∨ L ≤ Int32.toNatClampNeg (l3 + (2 : Int32)))) ∧ ∃ (x22 : Int32) (h21 : am_H), am_ok L xs m_X4_append [.ref l1, .int (xs (Int32.toNatClampNeg (l3 + (1 : Int32)))), .int (xs (Int32.toNatClampNeg (l3 + (2 : Int32))))] h (some x22) h21 ∧ am_if (Nat.beq l0 1000000) ((¬ (((l3 + (1 : Int32)) : Int32) < 0 ∨ L ≤ Int32.toNatClampNeg (l3 + (1 : Int32)))) ∧ am_if (Nat.beq l0 1000000) ((¬ (((l3 + (2 : Int32)) : Int32) < 0 ∨ L ≤ Int32.toNatClampNeg (l3 + (2 : Int32)))) ∧ ∃ (x24 : Int32) (h23 : am_H), am_ok L xs m_X5_append [.ref l2, .int (xs (Int32.toNatClampNeg (l3 + (1 : Int32)))), .int (xs (Int32.toNatClampNeg (l3 + (2 : Int32))))] h21 (some x24) h23 ∧ (if (x22 : Int32) = x24 then am_wa L xs m_L_law hA r hE 18 [.ref l0, .ref l1, .ref l2, .int (l3 + (6 : Int32))] [] h23 else am_fit .boolean (0 : Int32) ∧ some (0 : Int32) = r ∧ h23 = hE)))))) ∧ (¬ ((xs (Int32.toNatClampNeg l3)) &&& (31 : Int32)) = nI 20 → (((xs (Int32.toNatClampNeg l3)) &&& (31 : Int32)) = nI 21 → am_if (Nat.beq l0 1000000) ((¬ (((l3 + (1 : Int32)) : Int32) < 0 ∨ L ≤ Int32.toNatClampNeg (l3 + (1 : Int32)))) ∧ am_if (Nat.beq l0 1000000) ((¬ (((l3 + (2 : Int32)) : Int32) < 0 ∨ L ≤ Int32.toNatClampNeg (l3 + (2 : Int32)))) ∧ ∃ (x18 : Int32) (h17 : am_H), am_ok L xs m_X4_reckon [.ref l1, .int (xs (Int32.toNatClampNeg (l3 + (1 : Int32)))), .int (xs (Int32.toNatClampNeg (l3 + (2 : Int32))))] h (some x18) h17 ∧ am_if (Nat.beq l0 1000000) ((¬ (((l3 + (1 : Int32)) : Int32) < 0 ∨ L ≤ Int32.toNatClampNeg (l3 + (1 : Int32)))) ∧ am_if (Nat.beq l0 1000000) ((¬ (((l3 + (2 : Int32)) : Int32) < 0 ∨ L ≤ Int32.toNatClampNeg (l3 + (2 : Int32)))) ∧ ∃ (x20 : Int32) (h19 : am_H), am_ok L xs m_X5_reckon [.ref l2, .int (xs (Int32.toNatClampNeg (l3 + (1 : Int32)))), .int (xs (Int32.toNatClampNeg (l3 + (2 : Int32))))] h17 (some x20) h19 ∧ (if (x18 : Int32) = x20 then am_wa L xs m_L_law hA r hE 18 [.ref l0, .ref l1, .ref l2, .int (l3 + (6 : Int32))] [] h19 else am_fit .boolean (0 : Int32) ∧ some (0 : Int32) = r ∧ h19 = hE)))))) ∧ (¬ ((xs (Int32.toNatClampNeg l3)) &&& (31 : Int32)) = nI 21 → (((xs (Int32.toNatClampNeg l3)) &&& (31 : Int32)) = nI 22 → am_if (Nat.beq l0 1000000) ((¬ (((l3 + (1 : Int32)) : Int32) < 0 ∨ L ≤ Int32.toNatClampNeg (l3 + (1 : Int32)))) ∧ ∃ (x14 : Int32) (h13 : am_H), am_ok L xs m_X4_pop [.ref l1, .int (xs (Int32.toNatClampNeg (l3 + (1 : Int32))))] h (some x14) h13 ∧ am_if (Nat.beq l0 1000000) ((¬ (((l3 + (1 : Int32)) : Int32) < 0 ∨ L ≤ Int32.toNatClampNeg (l3 + (1 : Int32)))) ∧ ∃ (x16 : Int32) (h15 : am_H), am_ok L xs m_X5_pop [.ref l2, .int (xs (Int32.toNatClampNeg (l3 + (1 : Int32))))] h13 (some x16) h15 ∧ (if (x14 : Int32) = x16 then am_wa L xs m_L_law hA r hE 18 [.ref l0, .ref l1, .ref l2, .int (l3 + (6 : Int32))] [] h15 else am_fit .boolean (0 : Int32) ∧ some (0 : Int32) = r ∧ h15 = hE)))) ∧ (¬ ((xs (Int32.toNatClampNeg l3)) &&& (31 : Int32)) = nI 22 → (((xs (Int32.toNatClampNeg l3)) &&& (31 : Int32)) = nI 23 → am_if (Nat.beq l0 1000000) ((¬ (((l3 + (1 : Int32)) : Int32) < 0 ∨ L ≤ Int32.toNatClampNeg (l3 + (1 : Int32)))) ∧ am_if (Nat.beq l0 1000000) ((¬ (((l3 + (2 : Int32)) : Int32) < 0 ∨ L ≤ Int32.toNatClampNeg (l3 + (2 : Int32)))) ∧ ∃ (x10 : Int32) (h9 : am_H), am_ok L xs m_X4_each [.ref l1, .int (xs (Int32.toNatClampNeg (l3 + (1 : Int32)))), .int (xs (Int32.toNatClampNeg (l3 + (2 : Int32))))] h (some x10) h9 ∧ am_if (Nat.beq l0 1000000) ((¬ (((l3 + (1 : Int32)) : Int32) < 0 ∨ L ≤ Int32.toNatClampNeg (l3 + (1 : Int32)))) ∧ am_if (Nat.beq l0 1000000) ((¬ (((l3 + (2 : Int32)) : Int32) < 0 ∨ L ≤ Int32.toNatClampNeg (l3 + (2 : Int32)))) ∧ ∃ (x12 : Int32) (h11 : am_H), am_ok L xs m_X5_each [.ref l2, .int (xs (Int32.toNatClampNeg (l3 + (1 : Int32)))), .int (xs (Int32.toNatClampNeg (l3 + (2 : Int32))))] h9 (some x12) h11 ∧ (if (x10 : Int32) = x12 then am_wa L xs m_L_law hA r hE 18 [.ref l0, .ref l1, .ref l2, .int (l3 + (6 : Int32))] [] h11 else am_fit .boolean (0 : Int32) ∧ some (0 : Int32) = r ∧ h11 = hE)))))) ∧ (¬ ((xs (Int32.toNatClampNeg l3)) &&& (31 : Int32)) = nI 23 → (((xs (Int32.toNatClampNeg l3)) &&& (31 : Int32)) = nI 24 → am_if (Nat.beq l0 1000000) ((¬ (((l3 + (1 : Int32)) : Int32) < 0 ∨ L ≤ Int32.toNatClampNeg (l3 + (1 : Int32)))) ∧ ∃ (x6 : Int32) (h5 : am_H), am_ok L xs m_X4_drop [.ref l1, .int (xs (Int32.toNatClampNeg (l3 + (1 : Int32))))] h (some x6) h5 ∧ am_if (Nat.beq l0 1000000) ((¬ (((l3 + (1 : Int32)) : Int32) < 0 ∨ L ≤ Int32.toNatClampNeg (l3 + (1 : Int32)))) ∧ ∃ (x8 : Int32) (h7 : am_H), am_ok L xs m_X5_drop [.ref l2, .int (xs (Int32.toNatClampNeg (l3 + (1 : Int32))))] h5 (some x8) h7 ∧ (if (x6 : Int32) = x8 then am_wa L xs m_L_law hA r hE 18 [.ref l0, .ref l1, .ref l2, .int (l3 + (6 : Int32))] [] h7 else am_fit .boolean (0 : Int32) ∧ some (0 : Int32) = r ∧ h7 = hE)))) ∧ (¬ ((xs (Int32.toNatClampNeg l3)) &&& (31 : Int32)) = nI 24 → (((xs (Int32.toNatClampNeg l3)) &&& (31 : Int32)) = nI 25 → am_if (Nat.beq l0 1000000) ((¬ (((l3 + (1 : Int32)) : Int32) < 0 ∨ L ≤ Int32.toNatClampNeg (l3 + (1 : Int32)))) ∧ ∃ (x2 : Int32) (h1 : am_H), am_ok L xs m_X4_told [.ref l1, .int (xs (Int32.toNatClampNeg (l3 + (1 : Int32))))] h (some x2) h1 ∧ am_if (Nat.beq l0 1000000) ((¬ (((l3 + (1 : Int32)) : Int32) < 0 ∨ L ≤ Int32.toNatClampNeg (l3 + (1 : Int32)))) ∧ ∃ (x4 : Int32) (h3 : am_H), am_ok L xs m_X5_told [.ref l2, .int (xs (Int32.toNatClampNeg (l3 + (1 : Int32))))] h1 (some x4) h3 ∧ (if (x2 : Int32) = x4 then am_wa L xs m_L_law hA r hE 18 [.ref l0, .ref l1, .ref l2, .int (l3 + (6 : Int32))] [] h3 else am_fit .boolean (0 : Int32) ∧ some (0 : Int32) = r ∧ h3 = hE)))) ∧ (¬ ((xs (Int32.toNatClampNeg l3)) &&& (31 : Int32)) = nI 25 → am_wa L xs m_L_law hA r hE 18 [.ref l0, .ref l1, .ref l2, .int (l3 + (6 : Int32))] [] h))))))))))))))))))))))))))))))) : am_wa L xs m_L_law hA r hE 18 [.ref l0, .ref l1, .ref l2, .int l3] [] h := am_chunk am_mk_all okk_L_law [(18, [0, 1, 2, 3])] 71 _ _ _ _ H
end
section
/-! OBJECTS WITH THEIR OWN ARRAYS: an object at b, its arrays right behind it; reading and writing it -/
/-- the number of the class, how many fields, which field is which array (its number, type, length), how many arrays, which field an array is -/
abbrev sg_T : Type := Nat × Nat × (Nat → Option (Nat × FieldType × Nat)) × Nat × (Nat → Nat)
/-- numbers by field, arrays by field -/
abbrev sg_S : Type := (Nat → Int32) × (Nat → Nat → Int32)
def ob_f (σ : sg_T) (b : Nat) (S : sg_S) (k : Nat) : Value := match σ.2.2.1 k with
  | none => .int (S.1 k)
  | some q => .ref (b + 1 + q.1)
def ob_fs (σ : sg_T) (b : Nat) (S : sg_S) : List Value := (List.range σ.2.1).map (ob_f σ b S)
def ob_arr (σ : sg_T) (S : sg_S) (j : Nat) : am_C := match σ.2.2.1 (σ.2.2.2.2 j) with
  | some q => .inl (q.2.1, q.2.2, .inl (S.2 (σ.2.2.2.2 j)))
  | none => .inl (.int, 0, .inl (fun _ => 0))
def ob (σ : sg_T) (h : am_H) (b : Nat) (S : sg_S) : am_H := (h.1, h.2.1, fun a => if a = b then .inr (σ.1, ob_fs σ b S) else if b < a ∧ a ≤ b + σ.2.2.2.1 then ob_arr σ S (a - b - 1) else h.2.2 a)
section OB
variable {σ τ : sg_T} {h : am_H} {b c : Nat} {S T : sg_S} {k j n : Nat} {ty : FieldType}
theorem ob_1 : (ob σ h b S).1 = h.1 := rfl
theorem ob_2 : (ob σ h b S).2.1 = h.2.1 := rfl
theorem ob_lookb (hb : b < h.1) : am_look (ob σ h b S) b = some (.inr (σ.1, ob_fs σ b S)) := am_look_of hb (if_pos rfl)
theorem ob_looka (hj : j < σ.2.2.2.1) (hb : b + 1 + j < h.1) : am_look (ob σ h b S) (b + 1 + j) = some (ob_arr σ S j) := by
  refine am_look_of hb ?_
  show (if b + 1 + j = b then _ else if b < b + 1 + j ∧ b + 1 + j ≤ b + σ.2.2.2.1 then ob_arr σ S (b + 1 + j - b - 1) else _) = _
  rw [if_neg (by omega), if_pos ⟨by omega, by omega⟩, show b + 1 + j - b - 1 = j by omega]
theorem ob_looko {a : Nat} (ha : a < b ∨ b + σ.2.2.2.1 < a) : am_look (ob σ h b S) a = am_look h a := by
  unfold am_look
  show (if a < h.1 then some (if a = b then _ else if b < a ∧ a ≤ b + σ.2.2.2.1 then ob_arr σ S (a - b - 1) else h.2.2 a) else none) = _
  rw [if_neg (show ¬ a = b by omega), if_neg (show ¬ (b < a ∧ a ≤ b + σ.2.2.2.1) by omega)]
theorem ob_fs_at (hk : k < σ.2.1) : (ob_fs σ b S)[k]? = some (ob_f σ b S k) := by simp [ob_fs, hk]
theorem ob_fld (hb : b < h.1) (hk : k < σ.2.1) : am_fld (ob σ h b S) b σ.1 k = some (ob_f σ b S k) := by
  unfold am_fld
  rw [ob_lookb hb]
  show (if σ.1 = σ.1 then (ob_fs σ b S)[k]? else none) = _
  rw [if_pos rfl, ob_fs_at hk]
theorem ob_gI (hb : b < h.1) (hk : k < σ.2.1) (e : σ.2.2.1 k = none) : am_gI (ob σ h b S) b σ.1 k = some (S.1 k) := by
  unfold am_gI
  rw [ob_fld hb hk, show ob_f σ b S k = .int (S.1 k) by unfold ob_f; rw [e]]
theorem ob_gR {q : Nat × FieldType × Nat} (hb : b < h.1) (hk : k < σ.2.1) (e : σ.2.2.1 k = some q) : am_gR (ob σ h b S) b σ.1 k = some (b + 1 + q.1) := by
  unfold am_gR
  rw [ob_fld hb hk, show ob_f σ b S k = .ref (b + 1 + q.1) by unfold ob_f; rw [e]]
theorem ob_cls (hb : b < h.1) : am_cls (ob σ h b S) b = some σ.1 := by
  unfold am_cls
  rw [ob_lookb hb]
theorem ob_ii (e : σ.2.2.1 k = some (j, ty, n)) (ei : σ.2.2.2.2 j = k) (hj : j < σ.2.2.2.1) (hb : b + 1 + j < h.1) : am_ii (ob σ h b S) (b + 1 + j) = some (ty, n, S.2 k) := by
  unfold am_ii
  rw [ob_looka hj hb, show ob_arr σ S j = .inl (ty, n, .inl (S.2 k)) by unfold ob_arr; rw [ei, e]]
theorem ob_put {f : Nat → Int32} (e : σ.2.2.1 k = some (j, ty, n)) (ei : σ.2.2.2.2 j = k) (hu : ∀ i, i < σ.2.2.2.1 → σ.2.2.2.2 i = k → i = j) (hj : j < σ.2.2.2.1) : am_put (ob σ h b S) (b + 1 + j) (.inl (ty, n, .inl f)) = ob σ h b (S.1, va_up S.2 k f) := by
  refine Prod.ext rfl (Prod.ext rfl ?_)
  funext a
  show va_up (ob σ h b S).2.2 (b + 1 + j) (.inl (ty, n, .inl f)) a = (if a = b then .inr (σ.1, ob_fs σ b (S.1, va_up S.2 k f)) else if b < a ∧ a ≤ b + σ.2.2.2.1 then ob_arr σ (S.1, va_up S.2 k f) (a - b - 1) else h.2.2 a)
  unfold va_up
  by_cases h1 : a = b + 1 + j
  · rw [if_pos h1, if_neg (show ¬ a = b by omega), if_pos (show b < a ∧ a ≤ b + σ.2.2.2.1 by omega), show a - b - 1 = j by omega]
    unfold ob_arr
    rw [ei, e]
    simp
  · rw [if_neg h1]
    show (if a = b then .inr (σ.1, ob_fs σ b S) else if b < a ∧ a ≤ b + σ.2.2.2.1 then ob_arr σ S (a - b - 1) else h.2.2 a) = _
    by_cases h2 : a = b
    · rw [if_pos h2, if_pos h2]
      rfl
    · rw [if_neg h2, if_neg h2]
      by_cases h3 : b < a ∧ a ≤ b + σ.2.2.2.1
      · rw [if_pos h3, if_pos h3]
        have h4 : ¬ σ.2.2.2.2 (a - b - 1) = k := fun z => by
          have := hu _ (by omega) z
          omega
        unfold ob_arr
        simp only [if_neg h4]
      · rw [if_neg h3, if_neg h3]
theorem ob_in {i : Nat} (hi : i < n) (hn : n < 2 ^ 31) : ¬ (nI i < 0 ∨ n ≤ (nI i).toNatClampNeg) := nI_in hi hn
theorem ob_lI {i : Nat} (e : σ.2.2.1 k = some (j, ty, n)) (ei : σ.2.2.2.2 j = k) (hj : j < σ.2.2.2.1) (hn : n < 2 ^ 31) (hb : b + 1 + j < h.1) (hi : i < n) : am_lI (ob σ h b S) ty (b + 1 + j) (nI i) = some (S.2 k i) := by
  unfold am_lI
  rw [ob_ii e ei hj hb]
  show (if ty = ty ∧ ¬ (nI i < 0 ∨ n ≤ (nI i).toNatClampNeg) then some (S.2 k (nI i).toNatClampNeg) else none) = _
  rw [if_pos ⟨rfl, ob_in hi hn⟩, nI_clamp (by omega)]
theorem ob_sI {i : Nat} {x : Int32} (e : σ.2.2.1 k = some (j, ty, n)) (ei : σ.2.2.2.2 j = k) (hu : ∀ i, i < σ.2.2.2.1 → σ.2.2.2.2 i = k → i = j) (hj : j < σ.2.2.2.1) (hn : n < 2 ^ 31) (hb : b + 1 + j < h.1) (hi : i < n) : am_sI (ob σ h b S) ty (b + 1 + j) (nI i) x = some (ob σ h b (S.1, va_up S.2 k (upd (S.2 k) i x))) := by
  unfold am_sI
  rw [ob_ii e ei hj hb]
  show (if ty = ty ∧ ¬ (nI i < 0 ∨ n ≤ (nI i).toNatClampNeg) then some (am_put (ob σ h b S) (b + 1 + j) (.inl (ty, n, .inl (upd (S.2 k) (nI i).toNatClampNeg x)))) else none) = _
  rw [if_pos ⟨rfl, ob_in hi hn⟩, nI_clamp (by omega), ob_put e ei hu hj]
theorem ob_len (e : σ.2.2.1 k = some (j, .int, n)) (ei : σ.2.2.2.2 j = k) (hj : j < σ.2.2.2.1) (hb : b + 1 + j < h.1) : am_len (ob σ h b S) (b + 1 + j) = some (nI n) := by
  unfold am_len
  rw [ob_looka hj hb, show ob_arr σ S j = .inl (.int, n, .inl (S.2 k)) by unfold ob_arr; rw [ei, e]]
theorem ob_pF {x : Int32} (hb : b < h.1) (hk : k < σ.2.1) (e : σ.2.2.1 k = none) : am_pF (ob σ h b S) b σ.1 k (.int x) = some (ob σ h b (upd S.1 k x, S.2)) := by
  unfold am_pF
  rw [ob_lookb hb]
  show (if σ.1 = σ.1 ∧ k < (ob_fs σ b S).length then some (am_put (ob σ h b S) b (.inr (σ.1, (ob_fs σ b S).set k (.int x)))) else none) = _
  rw [if_pos ⟨rfl, by simp [ob_fs, hk]⟩]
  have ef : (ob_fs σ b S).set k (.int x) = ob_fs σ b (upd S.1 k x, S.2) := by
    apply List.ext_getElem?
    intro i
    rw [List.getElem?_set]
    by_cases hi : i < σ.2.1
    · rw [ob_fs_at (S := (upd S.1 k x, S.2)) hi]
      by_cases hki : k = i
      · subst hki
        rw [if_pos rfl, if_pos (by simp [ob_fs, hk])]
        unfold ob_f
        rw [e]
        simp [upd]
      · rw [if_neg hki, ob_fs_at hi]
        have hik : ¬ i = k := fun z => hki z.symm
        unfold ob_f
        cases σ.2.2.1 i with
        | none => simp [upd, hik]
        | some q => rfl
    · have l1 : ∀ S : sg_S, (ob_fs σ b S).length ≤ i := fun S => by simp [ob_fs]; omega
      rw [if_neg (show ¬ k = i by omega), List.getElem?_eq_none (l1 _), List.getElem?_eq_none (l1 _)]
  rw [ef]
  congr 1
  refine Prod.ext rfl (Prod.ext rfl ?_)
  funext a
  show va_up (ob σ h b S).2.2 b (.inr (σ.1, ob_fs σ b (upd S.1 k x, S.2))) a = (if a = b then .inr (σ.1, ob_fs σ b (upd S.1 k x, S.2)) else if b < a ∧ a ≤ b + σ.2.2.2.1 then ob_arr σ (upd S.1 k x, S.2) (a - b - 1) else h.2.2 a)
  unfold va_up
  by_cases h1 : a = b
  · rw [if_pos h1, if_pos h1]
  · rw [if_neg h1, if_neg h1]
    show (if a = b then .inr (σ.1, ob_fs σ b S) else if b < a ∧ a ≤ b + σ.2.2.2.1 then ob_arr σ S (a - b - 1) else h.2.2 a) = _
    rw [if_neg h1]
    rfl
/-- two objects apart: the order doesn't matter -/
theorem ob_swap (hd : b + σ.2.2.2.1 < c ∨ c + τ.2.2.2.1 < b) : ob σ (ob τ h c T) b S = ob τ (ob σ h b S) c T := by
  refine Prod.ext rfl (Prod.ext rfl ?_)
  funext a
  show (if a = b then .inr (σ.1, ob_fs σ b S) else if b < a ∧ a ≤ b + σ.2.2.2.1 then ob_arr σ S (a - b - 1) else (if a = c then .inr (τ.1, ob_fs τ c T) else if c < a ∧ a ≤ c + τ.2.2.2.1 then ob_arr τ T (a - c - 1) else h.2.2 a)) = (if a = c then .inr (τ.1, ob_fs τ c T) else if c < a ∧ a ≤ c + τ.2.2.2.1 then ob_arr τ T (a - c - 1) else (if a = b then .inr (σ.1, ob_fs σ b S) else if b < a ∧ a ≤ b + σ.2.2.2.1 then ob_arr σ S (a - b - 1) else h.2.2 a))
  by_cases h1 : b ≤ a ∧ a ≤ b + σ.2.2.2.1
  · have q1 : ¬ a = c := by omega
    have q2 : ¬ (c < a ∧ a ≤ c + τ.2.2.2.1) := by omega
    by_cases h2 : a = b
    · simp only [if_neg q1, if_neg q2, if_pos h2]
    · simp only [if_neg q1, if_neg q2, if_neg h2, if_pos (show b < a ∧ a ≤ b + σ.2.2.2.1 by omega)]
  · have q1 : ¬ a = b := by omega
    have q2 : ¬ (b < a ∧ a ≤ b + σ.2.2.2.1) := by omega
    simp only [if_neg q1, if_neg q2]
theorem ob_ob : ob σ (ob σ h b S) b T = ob σ h b T := by
  refine Prod.ext rfl (Prod.ext rfl ?_)
  funext a
  show (if a = b then .inr (σ.1, ob_fs σ b T) else if b < a ∧ a ≤ b + σ.2.2.2.1 then ob_arr σ T (a - b - 1) else (if a = b then .inr (σ.1, ob_fs σ b S) else if b < a ∧ a ≤ b + σ.2.2.2.1 then ob_arr σ S (a - b - 1) else h.2.2 a)) = (if a = b then .inr (σ.1, ob_fs σ b T) else if b < a ∧ a ≤ b + σ.2.2.2.1 then ob_arr σ T (a - b - 1) else h.2.2 a)
  by_cases h1 : a = b
  · rw [if_pos h1, if_pos h1]
  · rw [if_neg h1, if_neg h1, if_neg h1]
    by_cases h2 : b < a ∧ a ≤ b + σ.2.2.2.1
    · rw [if_pos h2, if_pos h2]
    · rw [if_neg h2, if_neg h2, if_neg h2]
end OB
-- the classes
def sgM : sg_T := (0, 11, fun k => if k < 5 then none else some (k - 5, .int, if k = 9 then 5 else 8), 6, fun j => j + 5)
def sgT : sg_T := (2, 3, fun k => if k = 0 then some (0, .int, 8) else none, 1, fun _ => 0)
def sgX : sg_T := (3, 6, fun k => if k = 0 then some (0, .int, 200) else none, 1, fun _ => 0)
def sgD_k (k : Nat) : Option (Nat × FieldType × Nat) := match k with
  | 0 => some (0, .int, 372)
  | 4 => some (1, .int, 8)
  | 6 => some (2, .boolean, 2)
  | 7 => some (3, .int, 200)
  | 9 => some (4, .int, 3)
  | 10 => some (5, .int, 24)
  | 16 => some (6, .int, 4)
  | 17 => some (7, .int, 20)
  | 18 => some (8, .int, 8)
  | 19 => some (9, .int, 8)
  | _ => none
def sgD_i (j : Nat) : Nat := match j with
  | 0 => 0
  | 1 => 4
  | 2 => 6
  | 3 => 7
  | 4 => 9
  | 5 => 10
  | 6 => 16
  | 7 => 17
  | 8 => 18
  | _ => 19
def sgD : sg_T := (5, 20, sgD_k, 10, sgD_i)
section OM
variable {h : am_H} {b : Nat} {S : sg_S}
theorem cM (hb : b + 6 < h.1) : am_cls (ob sgM h b S) b = some 0 := ob_cls (by omega)
theorem gM_0 (hb : b + 6 < h.1) : am_gI (ob sgM h b S) b 0 0 = some (S.1 0) := ob_gI (σ := sgM) (by omega) (by decide) rfl
theorem pM_0 (hb : b + 6 < h.1) {x : Int32} : am_pF (ob sgM h b S) b 0 0 (.int x) = some (ob sgM h b (upd S.1 0 x, S.2)) := ob_pF (σ := sgM) (by omega) (by decide) rfl
theorem gM_1 (hb : b + 6 < h.1) : am_gI (ob sgM h b S) b 0 1 = some (S.1 1) := ob_gI (σ := sgM) (by omega) (by decide) rfl
theorem pM_1 (hb : b + 6 < h.1) {x : Int32} : am_pF (ob sgM h b S) b 0 1 (.int x) = some (ob sgM h b (upd S.1 1 x, S.2)) := ob_pF (σ := sgM) (by omega) (by decide) rfl
theorem gM_2 (hb : b + 6 < h.1) : am_gI (ob sgM h b S) b 0 2 = some (S.1 2) := ob_gI (σ := sgM) (by omega) (by decide) rfl
theorem pM_2 (hb : b + 6 < h.1) {x : Int32} : am_pF (ob sgM h b S) b 0 2 (.int x) = some (ob sgM h b (upd S.1 2 x, S.2)) := ob_pF (σ := sgM) (by omega) (by decide) rfl
theorem gM_3 (hb : b + 6 < h.1) : am_gI (ob sgM h b S) b 0 3 = some (S.1 3) := ob_gI (σ := sgM) (by omega) (by decide) rfl
theorem pM_3 (hb : b + 6 < h.1) {x : Int32} : am_pF (ob sgM h b S) b 0 3 (.int x) = some (ob sgM h b (upd S.1 3 x, S.2)) := ob_pF (σ := sgM) (by omega) (by decide) rfl
theorem gM_4 (hb : b + 6 < h.1) : am_gI (ob sgM h b S) b 0 4 = some (S.1 4) := ob_gI (σ := sgM) (by omega) (by decide) rfl
theorem pM_4 (hb : b + 6 < h.1) {x : Int32} : am_pF (ob sgM h b S) b 0 4 (.int x) = some (ob sgM h b (upd S.1 4 x, S.2)) := ob_pF (σ := sgM) (by omega) (by decide) rfl
theorem gM_5 (hb : b + 6 < h.1) : am_gR (ob sgM h b S) b 0 5 = some (b + 1) := ob_gR (σ := sgM) (q := (0, .int, 8)) (by omega) (by decide) rfl
theorem lM_5 (hb : b + 6 < h.1) {i : Nat} (hi : i < 8) : am_lI (ob sgM h b S) .int (b + 1) (nI i) = some (S.2 5 i) := ob_lI (σ := sgM) (j := 0) rfl rfl (by decide) (by decide) (by omega) hi
theorem sM_5 (hb : b + 6 < h.1) {i : Nat} {x : Int32} (hi : i < 8) : am_sI (ob sgM h b S) .int (b + 1) (nI i) x = some (ob sgM h b (S.1, va_up S.2 5 (upd (S.2 5) i x))) := ob_sI (σ := sgM) (j := 0) rfl rfl (by decide) (by decide) (by decide) (by omega) hi
theorem iM_5 (hb : b + 6 < h.1) : am_ii (ob sgM h b S) (b + 1) = some (.int, 8, S.2 5) := ob_ii (σ := sgM) (j := 0) rfl rfl (by decide) (by omega)
theorem uM_5 {f : Nat → Int32} : am_put (ob sgM h b S) (b + 1) (.inl (.int, 8, .inl f)) = ob sgM h b (S.1, va_up S.2 5 f) := ob_put (σ := sgM) (j := 0) rfl rfl (by decide) (by decide)
theorem nM_5 (hb : b + 6 < h.1) : am_len (ob sgM h b S) (b + 1) = some (nI 8) := ob_len (σ := sgM) (j := 0) rfl rfl (by decide) (by omega)
theorem gM_6 (hb : b + 6 < h.1) : am_gR (ob sgM h b S) b 0 6 = some (b + 2) := ob_gR (σ := sgM) (q := (1, .int, 8)) (by omega) (by decide) rfl
theorem lM_6 (hb : b + 6 < h.1) {i : Nat} (hi : i < 8) : am_lI (ob sgM h b S) .int (b + 2) (nI i) = some (S.2 6 i) := ob_lI (σ := sgM) (j := 1) rfl rfl (by decide) (by decide) (by omega) hi
theorem sM_6 (hb : b + 6 < h.1) {i : Nat} {x : Int32} (hi : i < 8) : am_sI (ob sgM h b S) .int (b + 2) (nI i) x = some (ob sgM h b (S.1, va_up S.2 6 (upd (S.2 6) i x))) := ob_sI (σ := sgM) (j := 1) rfl rfl (by decide) (by decide) (by decide) (by omega) hi
theorem iM_6 (hb : b + 6 < h.1) : am_ii (ob sgM h b S) (b + 2) = some (.int, 8, S.2 6) := ob_ii (σ := sgM) (j := 1) rfl rfl (by decide) (by omega)
theorem uM_6 {f : Nat → Int32} : am_put (ob sgM h b S) (b + 2) (.inl (.int, 8, .inl f)) = ob sgM h b (S.1, va_up S.2 6 f) := ob_put (σ := sgM) (j := 1) rfl rfl (by decide) (by decide)
theorem nM_6 (hb : b + 6 < h.1) : am_len (ob sgM h b S) (b + 2) = some (nI 8) := ob_len (σ := sgM) (j := 1) rfl rfl (by decide) (by omega)
theorem gM_7 (hb : b + 6 < h.1) : am_gR (ob sgM h b S) b 0 7 = some (b + 3) := ob_gR (σ := sgM) (q := (2, .int, 8)) (by omega) (by decide) rfl
theorem lM_7 (hb : b + 6 < h.1) {i : Nat} (hi : i < 8) : am_lI (ob sgM h b S) .int (b + 3) (nI i) = some (S.2 7 i) := ob_lI (σ := sgM) (j := 2) rfl rfl (by decide) (by decide) (by omega) hi
theorem sM_7 (hb : b + 6 < h.1) {i : Nat} {x : Int32} (hi : i < 8) : am_sI (ob sgM h b S) .int (b + 3) (nI i) x = some (ob sgM h b (S.1, va_up S.2 7 (upd (S.2 7) i x))) := ob_sI (σ := sgM) (j := 2) rfl rfl (by decide) (by decide) (by decide) (by omega) hi
theorem iM_7 (hb : b + 6 < h.1) : am_ii (ob sgM h b S) (b + 3) = some (.int, 8, S.2 7) := ob_ii (σ := sgM) (j := 2) rfl rfl (by decide) (by omega)
theorem uM_7 {f : Nat → Int32} : am_put (ob sgM h b S) (b + 3) (.inl (.int, 8, .inl f)) = ob sgM h b (S.1, va_up S.2 7 f) := ob_put (σ := sgM) (j := 2) rfl rfl (by decide) (by decide)
theorem nM_7 (hb : b + 6 < h.1) : am_len (ob sgM h b S) (b + 3) = some (nI 8) := ob_len (σ := sgM) (j := 2) rfl rfl (by decide) (by omega)
theorem gM_8 (hb : b + 6 < h.1) : am_gR (ob sgM h b S) b 0 8 = some (b + 4) := ob_gR (σ := sgM) (q := (3, .int, 8)) (by omega) (by decide) rfl
theorem lM_8 (hb : b + 6 < h.1) {i : Nat} (hi : i < 8) : am_lI (ob sgM h b S) .int (b + 4) (nI i) = some (S.2 8 i) := ob_lI (σ := sgM) (j := 3) rfl rfl (by decide) (by decide) (by omega) hi
theorem sM_8 (hb : b + 6 < h.1) {i : Nat} {x : Int32} (hi : i < 8) : am_sI (ob sgM h b S) .int (b + 4) (nI i) x = some (ob sgM h b (S.1, va_up S.2 8 (upd (S.2 8) i x))) := ob_sI (σ := sgM) (j := 3) rfl rfl (by decide) (by decide) (by decide) (by omega) hi
theorem iM_8 (hb : b + 6 < h.1) : am_ii (ob sgM h b S) (b + 4) = some (.int, 8, S.2 8) := ob_ii (σ := sgM) (j := 3) rfl rfl (by decide) (by omega)
theorem uM_8 {f : Nat → Int32} : am_put (ob sgM h b S) (b + 4) (.inl (.int, 8, .inl f)) = ob sgM h b (S.1, va_up S.2 8 f) := ob_put (σ := sgM) (j := 3) rfl rfl (by decide) (by decide)
theorem nM_8 (hb : b + 6 < h.1) : am_len (ob sgM h b S) (b + 4) = some (nI 8) := ob_len (σ := sgM) (j := 3) rfl rfl (by decide) (by omega)
theorem gM_9 (hb : b + 6 < h.1) : am_gR (ob sgM h b S) b 0 9 = some (b + 5) := ob_gR (σ := sgM) (q := (4, .int, 5)) (by omega) (by decide) rfl
theorem lM_9 (hb : b + 6 < h.1) {i : Nat} (hi : i < 5) : am_lI (ob sgM h b S) .int (b + 5) (nI i) = some (S.2 9 i) := ob_lI (σ := sgM) (j := 4) rfl rfl (by decide) (by decide) (by omega) hi
theorem sM_9 (hb : b + 6 < h.1) {i : Nat} {x : Int32} (hi : i < 5) : am_sI (ob sgM h b S) .int (b + 5) (nI i) x = some (ob sgM h b (S.1, va_up S.2 9 (upd (S.2 9) i x))) := ob_sI (σ := sgM) (j := 4) rfl rfl (by decide) (by decide) (by decide) (by omega) hi
theorem iM_9 (hb : b + 6 < h.1) : am_ii (ob sgM h b S) (b + 5) = some (.int, 5, S.2 9) := ob_ii (σ := sgM) (j := 4) rfl rfl (by decide) (by omega)
theorem uM_9 {f : Nat → Int32} : am_put (ob sgM h b S) (b + 5) (.inl (.int, 5, .inl f)) = ob sgM h b (S.1, va_up S.2 9 f) := ob_put (σ := sgM) (j := 4) rfl rfl (by decide) (by decide)
theorem nM_9 (hb : b + 6 < h.1) : am_len (ob sgM h b S) (b + 5) = some (nI 5) := ob_len (σ := sgM) (j := 4) rfl rfl (by decide) (by omega)
theorem gM_10 (hb : b + 6 < h.1) : am_gR (ob sgM h b S) b 0 10 = some (b + 6) := ob_gR (σ := sgM) (q := (5, .int, 8)) (by omega) (by decide) rfl
theorem lM_10 (hb : b + 6 < h.1) {i : Nat} (hi : i < 8) : am_lI (ob sgM h b S) .int (b + 6) (nI i) = some (S.2 10 i) := ob_lI (σ := sgM) (j := 5) rfl rfl (by decide) (by decide) (by omega) hi
theorem sM_10 (hb : b + 6 < h.1) {i : Nat} {x : Int32} (hi : i < 8) : am_sI (ob sgM h b S) .int (b + 6) (nI i) x = some (ob sgM h b (S.1, va_up S.2 10 (upd (S.2 10) i x))) := ob_sI (σ := sgM) (j := 5) rfl rfl (by decide) (by decide) (by decide) (by omega) hi
theorem iM_10 (hb : b + 6 < h.1) : am_ii (ob sgM h b S) (b + 6) = some (.int, 8, S.2 10) := ob_ii (σ := sgM) (j := 5) rfl rfl (by decide) (by omega)
theorem uM_10 {f : Nat → Int32} : am_put (ob sgM h b S) (b + 6) (.inl (.int, 8, .inl f)) = ob sgM h b (S.1, va_up S.2 10 f) := ob_put (σ := sgM) (j := 5) rfl rfl (by decide) (by decide)
theorem nM_10 (hb : b + 6 < h.1) : am_len (ob sgM h b S) (b + 6) = some (nI 8) := ob_len (σ := sgM) (j := 5) rfl rfl (by decide) (by omega)
end OM
section OT
variable {h : am_H} {b : Nat} {S : sg_S}
theorem cT (hb : b + 1 < h.1) : am_cls (ob sgT h b S) b = some 2 := ob_cls (by omega)
theorem gT_0 (hb : b + 1 < h.1) : am_gR (ob sgT h b S) b 2 0 = some (b + 1) := ob_gR (σ := sgT) (q := (0, .int, 8)) (by omega) (by decide) rfl
theorem lT_0 (hb : b + 1 < h.1) {i : Nat} (hi : i < 8) : am_lI (ob sgT h b S) .int (b + 1) (nI i) = some (S.2 0 i) := ob_lI (σ := sgT) (j := 0) rfl rfl (by decide) (by decide) (by omega) hi
theorem sT_0 (hb : b + 1 < h.1) {i : Nat} {x : Int32} (hi : i < 8) : am_sI (ob sgT h b S) .int (b + 1) (nI i) x = some (ob sgT h b (S.1, va_up S.2 0 (upd (S.2 0) i x))) := ob_sI (σ := sgT) (j := 0) rfl rfl (by decide) (by decide) (by decide) (by omega) hi
theorem iT_0 (hb : b + 1 < h.1) : am_ii (ob sgT h b S) (b + 1) = some (.int, 8, S.2 0) := ob_ii (σ := sgT) (j := 0) rfl rfl (by decide) (by omega)
theorem uT_0 {f : Nat → Int32} : am_put (ob sgT h b S) (b + 1) (.inl (.int, 8, .inl f)) = ob sgT h b (S.1, va_up S.2 0 f) := ob_put (σ := sgT) (j := 0) rfl rfl (by decide) (by decide)
theorem nT_0 (hb : b + 1 < h.1) : am_len (ob sgT h b S) (b + 1) = some (nI 8) := ob_len (σ := sgT) (j := 0) rfl rfl (by decide) (by omega)
theorem gT_1 (hb : b + 1 < h.1) : am_gI (ob sgT h b S) b 2 1 = some (S.1 1) := ob_gI (σ := sgT) (by omega) (by decide) rfl
theorem pT_1 (hb : b + 1 < h.1) {x : Int32} : am_pF (ob sgT h b S) b 2 1 (.int x) = some (ob sgT h b (upd S.1 1 x, S.2)) := ob_pF (σ := sgT) (by omega) (by decide) rfl
theorem gT_2 (hb : b + 1 < h.1) : am_gI (ob sgT h b S) b 2 2 = some (S.1 2) := ob_gI (σ := sgT) (by omega) (by decide) rfl
theorem pT_2 (hb : b + 1 < h.1) {x : Int32} : am_pF (ob sgT h b S) b 2 2 (.int x) = some (ob sgT h b (upd S.1 2 x, S.2)) := ob_pF (σ := sgT) (by omega) (by decide) rfl
end OT
section OX
variable {h : am_H} {b : Nat} {S : sg_S}
theorem cX (hb : b + 1 < h.1) : am_cls (ob sgX h b S) b = some 3 := ob_cls (by omega)
theorem gX_0 (hb : b + 1 < h.1) : am_gR (ob sgX h b S) b 3 0 = some (b + 1) := ob_gR (σ := sgX) (q := (0, .int, 200)) (by omega) (by decide) rfl
theorem lX_0 (hb : b + 1 < h.1) {i : Nat} (hi : i < 200) : am_lI (ob sgX h b S) .int (b + 1) (nI i) = some (S.2 0 i) := ob_lI (σ := sgX) (j := 0) rfl rfl (by decide) (by decide) (by omega) hi
theorem sX_0 (hb : b + 1 < h.1) {i : Nat} {x : Int32} (hi : i < 200) : am_sI (ob sgX h b S) .int (b + 1) (nI i) x = some (ob sgX h b (S.1, va_up S.2 0 (upd (S.2 0) i x))) := ob_sI (σ := sgX) (j := 0) rfl rfl (by decide) (by decide) (by decide) (by omega) hi
theorem iX_0 (hb : b + 1 < h.1) : am_ii (ob sgX h b S) (b + 1) = some (.int, 200, S.2 0) := ob_ii (σ := sgX) (j := 0) rfl rfl (by decide) (by omega)
theorem uX_0 {f : Nat → Int32} : am_put (ob sgX h b S) (b + 1) (.inl (.int, 200, .inl f)) = ob sgX h b (S.1, va_up S.2 0 f) := ob_put (σ := sgX) (j := 0) rfl rfl (by decide) (by decide)
theorem nX_0 (hb : b + 1 < h.1) : am_len (ob sgX h b S) (b + 1) = some (nI 200) := ob_len (σ := sgX) (j := 0) rfl rfl (by decide) (by omega)
theorem gX_1 (hb : b + 1 < h.1) : am_gI (ob sgX h b S) b 3 1 = some (S.1 1) := ob_gI (σ := sgX) (by omega) (by decide) rfl
theorem pX_1 (hb : b + 1 < h.1) {x : Int32} : am_pF (ob sgX h b S) b 3 1 (.int x) = some (ob sgX h b (upd S.1 1 x, S.2)) := ob_pF (σ := sgX) (by omega) (by decide) rfl
theorem gX_2 (hb : b + 1 < h.1) : am_gI (ob sgX h b S) b 3 2 = some (S.1 2) := ob_gI (σ := sgX) (by omega) (by decide) rfl
theorem pX_2 (hb : b + 1 < h.1) {x : Int32} : am_pF (ob sgX h b S) b 3 2 (.int x) = some (ob sgX h b (upd S.1 2 x, S.2)) := ob_pF (σ := sgX) (by omega) (by decide) rfl
theorem gX_3 (hb : b + 1 < h.1) : am_gI (ob sgX h b S) b 3 3 = some (S.1 3) := ob_gI (σ := sgX) (by omega) (by decide) rfl
theorem pX_3 (hb : b + 1 < h.1) {x : Int32} : am_pF (ob sgX h b S) b 3 3 (.int x) = some (ob sgX h b (upd S.1 3 x, S.2)) := ob_pF (σ := sgX) (by omega) (by decide) rfl
theorem gX_4 (hb : b + 1 < h.1) : am_gI (ob sgX h b S) b 3 4 = some (S.1 4) := ob_gI (σ := sgX) (by omega) (by decide) rfl
theorem pX_4 (hb : b + 1 < h.1) {x : Int32} : am_pF (ob sgX h b S) b 3 4 (.int x) = some (ob sgX h b (upd S.1 4 x, S.2)) := ob_pF (σ := sgX) (by omega) (by decide) rfl
theorem gX_5 (hb : b + 1 < h.1) : am_gI (ob sgX h b S) b 3 5 = some (S.1 5) := ob_gI (σ := sgX) (by omega) (by decide) rfl
theorem pX_5 (hb : b + 1 < h.1) {x : Int32} : am_pF (ob sgX h b S) b 3 5 (.int x) = some (ob sgX h b (upd S.1 5 x, S.2)) := ob_pF (σ := sgX) (by omega) (by decide) rfl
end OX
section OD
variable {h : am_H} {b : Nat} {S : sg_S}
theorem cD (hb : b + 10 < h.1) : am_cls (ob sgD h b S) b = some 5 := ob_cls (by omega)
theorem gD_0 (hb : b + 10 < h.1) : am_gR (ob sgD h b S) b 5 0 = some (b + 1) := ob_gR (σ := sgD) (q := (0, .int, 372)) (by omega) (by decide) rfl
theorem lD_0 (hb : b + 10 < h.1) {i : Nat} (hi : i < 372) : am_lI (ob sgD h b S) .int (b + 1) (nI i) = some (S.2 0 i) := ob_lI (σ := sgD) (j := 0) rfl rfl (by decide) (by decide) (by omega) hi
theorem sD_0 (hb : b + 10 < h.1) {i : Nat} {x : Int32} (hi : i < 372) : am_sI (ob sgD h b S) .int (b + 1) (nI i) x = some (ob sgD h b (S.1, va_up S.2 0 (upd (S.2 0) i x))) := ob_sI (σ := sgD) (j := 0) rfl rfl (by decide) (by decide) (by decide) (by omega) hi
theorem iD_0 (hb : b + 10 < h.1) : am_ii (ob sgD h b S) (b + 1) = some (.int, 372, S.2 0) := ob_ii (σ := sgD) (j := 0) rfl rfl (by decide) (by omega)
theorem uD_0 {f : Nat → Int32} : am_put (ob sgD h b S) (b + 1) (.inl (.int, 372, .inl f)) = ob sgD h b (S.1, va_up S.2 0 f) := ob_put (σ := sgD) (j := 0) rfl rfl (by decide) (by decide)
theorem nD_0 (hb : b + 10 < h.1) : am_len (ob sgD h b S) (b + 1) = some (nI 372) := ob_len (σ := sgD) (j := 0) rfl rfl (by decide) (by omega)
theorem gD_1 (hb : b + 10 < h.1) : am_gI (ob sgD h b S) b 5 1 = some (S.1 1) := ob_gI (σ := sgD) (by omega) (by decide) rfl
theorem pD_1 (hb : b + 10 < h.1) {x : Int32} : am_pF (ob sgD h b S) b 5 1 (.int x) = some (ob sgD h b (upd S.1 1 x, S.2)) := ob_pF (σ := sgD) (by omega) (by decide) rfl
theorem gD_2 (hb : b + 10 < h.1) : am_gI (ob sgD h b S) b 5 2 = some (S.1 2) := ob_gI (σ := sgD) (by omega) (by decide) rfl
theorem pD_2 (hb : b + 10 < h.1) {x : Int32} : am_pF (ob sgD h b S) b 5 2 (.int x) = some (ob sgD h b (upd S.1 2 x, S.2)) := ob_pF (σ := sgD) (by omega) (by decide) rfl
theorem gD_3 (hb : b + 10 < h.1) : am_gI (ob sgD h b S) b 5 3 = some (S.1 3) := ob_gI (σ := sgD) (by omega) (by decide) rfl
theorem pD_3 (hb : b + 10 < h.1) {x : Int32} : am_pF (ob sgD h b S) b 5 3 (.int x) = some (ob sgD h b (upd S.1 3 x, S.2)) := ob_pF (σ := sgD) (by omega) (by decide) rfl
theorem gD_4 (hb : b + 10 < h.1) : am_gR (ob sgD h b S) b 5 4 = some (b + 2) := ob_gR (σ := sgD) (q := (1, .int, 8)) (by omega) (by decide) rfl
theorem lD_4 (hb : b + 10 < h.1) {i : Nat} (hi : i < 8) : am_lI (ob sgD h b S) .int (b + 2) (nI i) = some (S.2 4 i) := ob_lI (σ := sgD) (j := 1) rfl rfl (by decide) (by decide) (by omega) hi
theorem sD_4 (hb : b + 10 < h.1) {i : Nat} {x : Int32} (hi : i < 8) : am_sI (ob sgD h b S) .int (b + 2) (nI i) x = some (ob sgD h b (S.1, va_up S.2 4 (upd (S.2 4) i x))) := ob_sI (σ := sgD) (j := 1) rfl rfl (by decide) (by decide) (by decide) (by omega) hi
theorem iD_4 (hb : b + 10 < h.1) : am_ii (ob sgD h b S) (b + 2) = some (.int, 8, S.2 4) := ob_ii (σ := sgD) (j := 1) rfl rfl (by decide) (by omega)
theorem uD_4 {f : Nat → Int32} : am_put (ob sgD h b S) (b + 2) (.inl (.int, 8, .inl f)) = ob sgD h b (S.1, va_up S.2 4 f) := ob_put (σ := sgD) (j := 1) rfl rfl (by decide) (by decide)
theorem nD_4 (hb : b + 10 < h.1) : am_len (ob sgD h b S) (b + 2) = some (nI 8) := ob_len (σ := sgD) (j := 1) rfl rfl (by decide) (by omega)
theorem gD_5 (hb : b + 10 < h.1) : am_gI (ob sgD h b S) b 5 5 = some (S.1 5) := ob_gI (σ := sgD) (by omega) (by decide) rfl
theorem pD_5 (hb : b + 10 < h.1) {x : Int32} : am_pF (ob sgD h b S) b 5 5 (.int x) = some (ob sgD h b (upd S.1 5 x, S.2)) := ob_pF (σ := sgD) (by omega) (by decide) rfl
theorem gD_6 (hb : b + 10 < h.1) : am_gR (ob sgD h b S) b 5 6 = some (b + 3) := ob_gR (σ := sgD) (q := (2, .boolean, 2)) (by omega) (by decide) rfl
theorem lD_6 (hb : b + 10 < h.1) {i : Nat} (hi : i < 2) : am_lI (ob sgD h b S) .boolean (b + 3) (nI i) = some (S.2 6 i) := ob_lI (σ := sgD) (j := 2) rfl rfl (by decide) (by decide) (by omega) hi
theorem sD_6 (hb : b + 10 < h.1) {i : Nat} {x : Int32} (hi : i < 2) : am_sI (ob sgD h b S) .boolean (b + 3) (nI i) x = some (ob sgD h b (S.1, va_up S.2 6 (upd (S.2 6) i x))) := ob_sI (σ := sgD) (j := 2) rfl rfl (by decide) (by decide) (by decide) (by omega) hi
theorem iD_6 (hb : b + 10 < h.1) : am_ii (ob sgD h b S) (b + 3) = some (.boolean, 2, S.2 6) := ob_ii (σ := sgD) (j := 2) rfl rfl (by decide) (by omega)
theorem uD_6 {f : Nat → Int32} : am_put (ob sgD h b S) (b + 3) (.inl (.boolean, 2, .inl f)) = ob sgD h b (S.1, va_up S.2 6 f) := ob_put (σ := sgD) (j := 2) rfl rfl (by decide) (by decide)
theorem gD_7 (hb : b + 10 < h.1) : am_gR (ob sgD h b S) b 5 7 = some (b + 4) := ob_gR (σ := sgD) (q := (3, .int, 200)) (by omega) (by decide) rfl
theorem lD_7 (hb : b + 10 < h.1) {i : Nat} (hi : i < 200) : am_lI (ob sgD h b S) .int (b + 4) (nI i) = some (S.2 7 i) := ob_lI (σ := sgD) (j := 3) rfl rfl (by decide) (by decide) (by omega) hi
theorem sD_7 (hb : b + 10 < h.1) {i : Nat} {x : Int32} (hi : i < 200) : am_sI (ob sgD h b S) .int (b + 4) (nI i) x = some (ob sgD h b (S.1, va_up S.2 7 (upd (S.2 7) i x))) := ob_sI (σ := sgD) (j := 3) rfl rfl (by decide) (by decide) (by decide) (by omega) hi
theorem iD_7 (hb : b + 10 < h.1) : am_ii (ob sgD h b S) (b + 4) = some (.int, 200, S.2 7) := ob_ii (σ := sgD) (j := 3) rfl rfl (by decide) (by omega)
theorem uD_7 {f : Nat → Int32} : am_put (ob sgD h b S) (b + 4) (.inl (.int, 200, .inl f)) = ob sgD h b (S.1, va_up S.2 7 f) := ob_put (σ := sgD) (j := 3) rfl rfl (by decide) (by decide)
theorem nD_7 (hb : b + 10 < h.1) : am_len (ob sgD h b S) (b + 4) = some (nI 200) := ob_len (σ := sgD) (j := 3) rfl rfl (by decide) (by omega)
theorem gD_8 (hb : b + 10 < h.1) : am_gI (ob sgD h b S) b 5 8 = some (S.1 8) := ob_gI (σ := sgD) (by omega) (by decide) rfl
theorem pD_8 (hb : b + 10 < h.1) {x : Int32} : am_pF (ob sgD h b S) b 5 8 (.int x) = some (ob sgD h b (upd S.1 8 x, S.2)) := ob_pF (σ := sgD) (by omega) (by decide) rfl
theorem gD_9 (hb : b + 10 < h.1) : am_gR (ob sgD h b S) b 5 9 = some (b + 5) := ob_gR (σ := sgD) (q := (4, .int, 3)) (by omega) (by decide) rfl
theorem lD_9 (hb : b + 10 < h.1) {i : Nat} (hi : i < 3) : am_lI (ob sgD h b S) .int (b + 5) (nI i) = some (S.2 9 i) := ob_lI (σ := sgD) (j := 4) rfl rfl (by decide) (by decide) (by omega) hi
theorem sD_9 (hb : b + 10 < h.1) {i : Nat} {x : Int32} (hi : i < 3) : am_sI (ob sgD h b S) .int (b + 5) (nI i) x = some (ob sgD h b (S.1, va_up S.2 9 (upd (S.2 9) i x))) := ob_sI (σ := sgD) (j := 4) rfl rfl (by decide) (by decide) (by decide) (by omega) hi
theorem iD_9 (hb : b + 10 < h.1) : am_ii (ob sgD h b S) (b + 5) = some (.int, 3, S.2 9) := ob_ii (σ := sgD) (j := 4) rfl rfl (by decide) (by omega)
theorem uD_9 {f : Nat → Int32} : am_put (ob sgD h b S) (b + 5) (.inl (.int, 3, .inl f)) = ob sgD h b (S.1, va_up S.2 9 f) := ob_put (σ := sgD) (j := 4) rfl rfl (by decide) (by decide)
theorem nD_9 (hb : b + 10 < h.1) : am_len (ob sgD h b S) (b + 5) = some (nI 3) := ob_len (σ := sgD) (j := 4) rfl rfl (by decide) (by omega)
theorem gD_10 (hb : b + 10 < h.1) : am_gR (ob sgD h b S) b 5 10 = some (b + 6) := ob_gR (σ := sgD) (q := (5, .int, 24)) (by omega) (by decide) rfl
theorem lD_10 (hb : b + 10 < h.1) {i : Nat} (hi : i < 24) : am_lI (ob sgD h b S) .int (b + 6) (nI i) = some (S.2 10 i) := ob_lI (σ := sgD) (j := 5) rfl rfl (by decide) (by decide) (by omega) hi
theorem sD_10 (hb : b + 10 < h.1) {i : Nat} {x : Int32} (hi : i < 24) : am_sI (ob sgD h b S) .int (b + 6) (nI i) x = some (ob sgD h b (S.1, va_up S.2 10 (upd (S.2 10) i x))) := ob_sI (σ := sgD) (j := 5) rfl rfl (by decide) (by decide) (by decide) (by omega) hi
theorem iD_10 (hb : b + 10 < h.1) : am_ii (ob sgD h b S) (b + 6) = some (.int, 24, S.2 10) := ob_ii (σ := sgD) (j := 5) rfl rfl (by decide) (by omega)
theorem uD_10 {f : Nat → Int32} : am_put (ob sgD h b S) (b + 6) (.inl (.int, 24, .inl f)) = ob sgD h b (S.1, va_up S.2 10 f) := ob_put (σ := sgD) (j := 5) rfl rfl (by decide) (by decide)
theorem nD_10 (hb : b + 10 < h.1) : am_len (ob sgD h b S) (b + 6) = some (nI 24) := ob_len (σ := sgD) (j := 5) rfl rfl (by decide) (by omega)
theorem gD_11 (hb : b + 10 < h.1) : am_gI (ob sgD h b S) b 5 11 = some (S.1 11) := ob_gI (σ := sgD) (by omega) (by decide) rfl
theorem pD_11 (hb : b + 10 < h.1) {x : Int32} : am_pF (ob sgD h b S) b 5 11 (.int x) = some (ob sgD h b (upd S.1 11 x, S.2)) := ob_pF (σ := sgD) (by omega) (by decide) rfl
theorem gD_12 (hb : b + 10 < h.1) : am_gI (ob sgD h b S) b 5 12 = some (S.1 12) := ob_gI (σ := sgD) (by omega) (by decide) rfl
theorem pD_12 (hb : b + 10 < h.1) {x : Int32} : am_pF (ob sgD h b S) b 5 12 (.int x) = some (ob sgD h b (upd S.1 12 x, S.2)) := ob_pF (σ := sgD) (by omega) (by decide) rfl
theorem gD_13 (hb : b + 10 < h.1) : am_gI (ob sgD h b S) b 5 13 = some (S.1 13) := ob_gI (σ := sgD) (by omega) (by decide) rfl
theorem pD_13 (hb : b + 10 < h.1) {x : Int32} : am_pF (ob sgD h b S) b 5 13 (.int x) = some (ob sgD h b (upd S.1 13 x, S.2)) := ob_pF (σ := sgD) (by omega) (by decide) rfl
theorem gD_14 (hb : b + 10 < h.1) : am_gI (ob sgD h b S) b 5 14 = some (S.1 14) := ob_gI (σ := sgD) (by omega) (by decide) rfl
theorem pD_14 (hb : b + 10 < h.1) {x : Int32} : am_pF (ob sgD h b S) b 5 14 (.int x) = some (ob sgD h b (upd S.1 14 x, S.2)) := ob_pF (σ := sgD) (by omega) (by decide) rfl
theorem gD_15 (hb : b + 10 < h.1) : am_gI (ob sgD h b S) b 5 15 = some (S.1 15) := ob_gI (σ := sgD) (by omega) (by decide) rfl
theorem pD_15 (hb : b + 10 < h.1) {x : Int32} : am_pF (ob sgD h b S) b 5 15 (.int x) = some (ob sgD h b (upd S.1 15 x, S.2)) := ob_pF (σ := sgD) (by omega) (by decide) rfl
theorem gD_16 (hb : b + 10 < h.1) : am_gR (ob sgD h b S) b 5 16 = some (b + 7) := ob_gR (σ := sgD) (q := (6, .int, 4)) (by omega) (by decide) rfl
theorem lD_16 (hb : b + 10 < h.1) {i : Nat} (hi : i < 4) : am_lI (ob sgD h b S) .int (b + 7) (nI i) = some (S.2 16 i) := ob_lI (σ := sgD) (j := 6) rfl rfl (by decide) (by decide) (by omega) hi
theorem sD_16 (hb : b + 10 < h.1) {i : Nat} {x : Int32} (hi : i < 4) : am_sI (ob sgD h b S) .int (b + 7) (nI i) x = some (ob sgD h b (S.1, va_up S.2 16 (upd (S.2 16) i x))) := ob_sI (σ := sgD) (j := 6) rfl rfl (by decide) (by decide) (by decide) (by omega) hi
theorem iD_16 (hb : b + 10 < h.1) : am_ii (ob sgD h b S) (b + 7) = some (.int, 4, S.2 16) := ob_ii (σ := sgD) (j := 6) rfl rfl (by decide) (by omega)
theorem uD_16 {f : Nat → Int32} : am_put (ob sgD h b S) (b + 7) (.inl (.int, 4, .inl f)) = ob sgD h b (S.1, va_up S.2 16 f) := ob_put (σ := sgD) (j := 6) rfl rfl (by decide) (by decide)
theorem nD_16 (hb : b + 10 < h.1) : am_len (ob sgD h b S) (b + 7) = some (nI 4) := ob_len (σ := sgD) (j := 6) rfl rfl (by decide) (by omega)
theorem gD_17 (hb : b + 10 < h.1) : am_gR (ob sgD h b S) b 5 17 = some (b + 8) := ob_gR (σ := sgD) (q := (7, .int, 20)) (by omega) (by decide) rfl
theorem lD_17 (hb : b + 10 < h.1) {i : Nat} (hi : i < 20) : am_lI (ob sgD h b S) .int (b + 8) (nI i) = some (S.2 17 i) := ob_lI (σ := sgD) (j := 7) rfl rfl (by decide) (by decide) (by omega) hi
theorem sD_17 (hb : b + 10 < h.1) {i : Nat} {x : Int32} (hi : i < 20) : am_sI (ob sgD h b S) .int (b + 8) (nI i) x = some (ob sgD h b (S.1, va_up S.2 17 (upd (S.2 17) i x))) := ob_sI (σ := sgD) (j := 7) rfl rfl (by decide) (by decide) (by decide) (by omega) hi
theorem iD_17 (hb : b + 10 < h.1) : am_ii (ob sgD h b S) (b + 8) = some (.int, 20, S.2 17) := ob_ii (σ := sgD) (j := 7) rfl rfl (by decide) (by omega)
theorem uD_17 {f : Nat → Int32} : am_put (ob sgD h b S) (b + 8) (.inl (.int, 20, .inl f)) = ob sgD h b (S.1, va_up S.2 17 f) := ob_put (σ := sgD) (j := 7) rfl rfl (by decide) (by decide)
theorem nD_17 (hb : b + 10 < h.1) : am_len (ob sgD h b S) (b + 8) = some (nI 20) := ob_len (σ := sgD) (j := 7) rfl rfl (by decide) (by omega)
theorem gD_18 (hb : b + 10 < h.1) : am_gR (ob sgD h b S) b 5 18 = some (b + 9) := ob_gR (σ := sgD) (q := (8, .int, 8)) (by omega) (by decide) rfl
theorem lD_18 (hb : b + 10 < h.1) {i : Nat} (hi : i < 8) : am_lI (ob sgD h b S) .int (b + 9) (nI i) = some (S.2 18 i) := ob_lI (σ := sgD) (j := 8) rfl rfl (by decide) (by decide) (by omega) hi
theorem sD_18 (hb : b + 10 < h.1) {i : Nat} {x : Int32} (hi : i < 8) : am_sI (ob sgD h b S) .int (b + 9) (nI i) x = some (ob sgD h b (S.1, va_up S.2 18 (upd (S.2 18) i x))) := ob_sI (σ := sgD) (j := 8) rfl rfl (by decide) (by decide) (by decide) (by omega) hi
theorem iD_18 (hb : b + 10 < h.1) : am_ii (ob sgD h b S) (b + 9) = some (.int, 8, S.2 18) := ob_ii (σ := sgD) (j := 8) rfl rfl (by decide) (by omega)
theorem uD_18 {f : Nat → Int32} : am_put (ob sgD h b S) (b + 9) (.inl (.int, 8, .inl f)) = ob sgD h b (S.1, va_up S.2 18 f) := ob_put (σ := sgD) (j := 8) rfl rfl (by decide) (by decide)
theorem nD_18 (hb : b + 10 < h.1) : am_len (ob sgD h b S) (b + 9) = some (nI 8) := ob_len (σ := sgD) (j := 8) rfl rfl (by decide) (by omega)
theorem gD_19 (hb : b + 10 < h.1) : am_gR (ob sgD h b S) b 5 19 = some (b + 10) := ob_gR (σ := sgD) (q := (9, .int, 8)) (by omega) (by decide) rfl
theorem lD_19 (hb : b + 10 < h.1) {i : Nat} (hi : i < 8) : am_lI (ob sgD h b S) .int (b + 10) (nI i) = some (S.2 19 i) := ob_lI (σ := sgD) (j := 9) rfl rfl (by decide) (by decide) (by omega) hi
theorem sD_19 (hb : b + 10 < h.1) {i : Nat} {x : Int32} (hi : i < 8) : am_sI (ob sgD h b S) .int (b + 10) (nI i) x = some (ob sgD h b (S.1, va_up S.2 19 (upd (S.2 19) i x))) := ob_sI (σ := sgD) (j := 9) rfl rfl (by decide) (by decide) (by decide) (by omega) hi
theorem iD_19 (hb : b + 10 < h.1) : am_ii (ob sgD h b S) (b + 10) = some (.int, 8, S.2 19) := ob_ii (σ := sgD) (j := 9) rfl rfl (by decide) (by omega)
theorem uD_19 {f : Nat → Int32} : am_put (ob sgD h b S) (b + 10) (.inl (.int, 8, .inl f)) = ob sgD h b (S.1, va_up S.2 19 f) := ob_put (σ := sgD) (j := 9) rfl rfl (by decide) (by decide)
theorem nD_19 (hb : b + 10 < h.1) : am_len (ob sgD h b S) (b + 10) = some (nI 8) := ob_len (σ := sgD) (j := 9) rfl rfl (by decide) (by omega)
end OD
end
section
/-! rows on bits, shifts and unsigned numbers, to paste: each family out of a closed proof of our own, whole with what it rests on; each by itself clean at Lean in its own claim (generation 39, form 5). Take a family whole -/
/-! ===== Int32 by its bits: bt x i ===== -/
def bt (x : Int32) (i : Nat) : Bool := x.toBitVec.getLsbD i
theorem b_ext {x y : Int32} (h : ∀ i, i < 32 → bt x i = bt y i) : x = y := Int32.toBitVec_inj.mp (BitVec.eq_of_getLsbD_eq (fun i hi => h i hi))
theorem b_or (x y : Int32) (i : Nat) : bt (x ||| y) i = (bt x i || bt y i) := by unfold bt; rw [Int32.toBitVec_or, BitVec.getLsbD_or]
theorem b_and (x y : Int32) (i : Nat) : bt (x &&& y) i = (bt x i && bt y i) := by unfold bt; rw [Int32.toBitVec_and, BitVec.getLsbD_and]
theorem b_xor (x y : Int32) (i : Nat) : bt (x ^^^ y) i = (bt x i ^^ bt y i) := by unfold bt; rw [Int32.toBitVec_xor, BitVec.getLsbD_xor]
theorem b_big {x : Int32} {i : Nat} (h : 32 ≤ i) : bt x i = false := BitVec.getLsbD_of_ge _ _ h
theorem b_255 (i : Nat) : bt 255 i = decide (i < 8) := by
  rcases Nat.lt_or_ge i 32 with h | h
  · exact (by decide +kernel : ∀ i, i < 32 → bt 255 i = decide (i < 8)) i h
  · rw [b_big h, decide_eq_false (by omega)]
theorem b_65535 (i : Nat) : bt 65535 i = decide (i < 16) := by
  rcases Nat.lt_or_ge i 32 with h | h
  · exact (by decide +kernel : ∀ i, i < 32 → bt 65535 i = decide (i < 16)) i h
  · rw [b_big h, decide_eq_false (by omega)]
theorem b_m1 : ∀ i, i < 32 → bt (-1) i = true := by decide +kernel
theorem b_0 (i : Nat) : bt 0 i = false := BitVec.getLsbD_zero
theorem s_l : ∀ n, n < 32 → ((nI n &&& 31).toBitVec.smod 32).toNat = n := by decide +kernel
theorem s_u : ∀ n, n < 32 → (((nI n).toUInt32 &&& Int32.toUInt32 31).toBitVec % 32).toNat = n := by decide +kernel
theorem b_shl (n : Nat) (hn : n < 32) (x : Int32) {i : Nat} (hi : i < 32) : bt (x <<< (nI n &&& 31)) i = (decide (n ≤ i) && bt x (i - n)) := by
  unfold bt
  rw [Int32.toBitVec_shiftLeft]
  show (x.toBitVec <<< ((nI n &&& 31).toBitVec.smod 32).toNat).getLsbD i = _
  rw [s_l n hn, BitVec.getLsbD_shiftLeft]
  rcases Nat.lt_or_ge i n with h | h
  · simp [h, Nat.not_le.mpr h]
  · simp [hi, h, Nat.not_lt.mpr h]
theorem b_ushr (n : Nat) (hn : n < 32) (x : Int32) (i : Nat) : bt ((x.toUInt32 >>> ((nI n).toUInt32 &&& Int32.toUInt32 31)).toInt32) i = bt x (n + i) := by
  show (x.toUInt32 >>> ((nI n).toUInt32 &&& Int32.toUInt32 31)).toBitVec.getLsbD i = x.toUInt32.toBitVec.getLsbD (n + i)
  rw [UInt32.toBitVec_shiftRight]
  show (x.toUInt32.toBitVec >>> (((nI n).toUInt32 &&& Int32.toUInt32 31).toBitVec % 32).toNat).getLsbD i = _
  rw [s_u n hn, BitVec.getLsbD_ushiftRight]
theorem b_sshr (n : Nat) (hn : n < 32) (x : Int32) {i : Nat} (hi : i < 32) : bt (x >>> (nI n &&& 31)) i = if n + i < 32 then bt x (n + i) else bt x 31 := by
  unfold bt
  rw [Int32.toBitVec_shiftRight]
  show (x.toBitVec.sshiftRight ((nI n &&& 31).toBitVec.smod 32).toNat).getLsbD i = _
  rw [s_l n hn, BitVec.getLsbD_sshiftRight, BitVec.msb_eq_getLsbD_last]
  simp [hi]
theorem b_shl8 (x : Int32) {i : Nat} (hi : i < 32) : bt (x <<< ((8 : Int32) &&& 31)) i = (decide (8 ≤ i) && bt x (i - 8)) := b_shl 8 (by omega) x hi
theorem b_shl16 (x : Int32) {i : Nat} (hi : i < 32) : bt (x <<< ((16 : Int32) &&& 31)) i = (decide (16 ≤ i) && bt x (i - 16)) := b_shl 16 (by omega) x hi
theorem b_shl24 (x : Int32) {i : Nat} (hi : i < 32) : bt (x <<< ((24 : Int32) &&& 31)) i = (decide (24 ≤ i) && bt x (i - 24)) := b_shl 24 (by omega) x hi
theorem b_sshr8 (x : Int32) {i : Nat} (hi : i < 32) : bt (x >>> ((8 : Int32) &&& 31)) i = if 8 + i < 32 then bt x (8 + i) else bt x 31 := b_sshr 8 (by omega) x hi
/-! plain facts to paste, each family by itself; over the kit's nI, lN and upd -/
/-! ===== drawers: more things than places ===== -/
theorem fb_holes : ∀ (m n : Nat) (f : Nat → Nat), (∀ i, i < n → f i < m) → (∀ i j, i < j → j < n → f i ≠ f j) → n ≤ m := by
  intro m
  induction m with
  | zero =>
    intro n f h1 _
    rcases Nat.eq_zero_or_pos n with h | h
    · omega
    · exact absurd (h1 0 h) (Nat.not_lt_zero _)
  | succ m ih =>
    intro n f h1 h2
    by_cases hx : ∃ i, i < n ∧ f i = m
    · obtain ⟨a, ha, hfa⟩ := hx
      have hg := ih (n - 1) (fun i => if i < a then f i else f (i + 1)) (by
        intro i hi
        by_cases q : i < a
        · simp only [if_pos q]
          have b1 := h1 i (by omega)
          have b2 := h2 i a q ha
          omega
        · simp only [if_neg q]
          have b1 := h1 (i + 1) (by omega)
          have b2 := h2 a (i + 1) (by omega) (by omega)
          omega) (by
        intro i j hij hj
        by_cases q : i < a
        · by_cases r : j < a
          · simp only [if_pos q, if_pos r]
            exact h2 i j hij (by omega)
          · simp only [if_pos q, if_neg r]
            exact h2 i (j + 1) (by omega) (by omega)
        · have r : ¬ j < a := by omega
          simp only [if_neg q, if_neg r]
          exact h2 (i + 1) (j + 1) (by omega) (by omega))
      omega
    · have hg := ih n f (fun i hi => by
        have b1 := h1 i hi
        have b2 : f i ≠ m := fun e => hx ⟨i, hi, e⟩
        omega) h2
      omega
/-- two of them in one place -/
theorem fb_twice {m n : Nat} {f : Nat → Nat} (h : ∀ i, i < n → f i < m) (hm : m < n) : ∃ i j, i < j ∧ j < n ∧ f i = f j := by
  refine Classical.byContradiction fun hx => ?_
  have := fb_holes m n f h (fun i j hij hj e => hx ⟨i, j, hij, hj, e⟩)
  omega
/-- as many as places, none twice: each place is taken -/
theorem fb_onto {n : Nat} {f : Nat → Nat} (h : ∀ i, i < n → f i < n) (h2 : ∀ i j, i < j → j < n → f i ≠ f j) {y : Nat} (hy : y < n) : ∃ i, i < n ∧ f i = y := by
  refine Classical.byContradiction fun hx => ?_
  have hne : ∀ i, i < n → f i ≠ y := fun i hi e => hx ⟨i, hi, e⟩
  have := fb_holes (n - 1) n (fun i => if f i < y then f i else f i - 1) (by
    intro i hi
    have b1 := h i hi
    have b2 := hne i hi
    by_cases q : f i < y
    · simp only [if_pos q]; omega
    · simp only [if_neg q]; omega) (by
    intro i j hij hj
    have b1 := hne i (by omega)
    have b2 := hne j hj
    have b3 := h2 i j hij hj
    by_cases q : f i < y
    · by_cases r : f j < y
      · simp only [if_pos q, if_pos r]; exact b3
      · simp only [if_pos q, if_neg r]; omega
    · by_cases r : f j < y
      · simp only [if_neg q, if_pos r]; omega
      · simp only [if_neg q, if_neg r]; omega)
  omega
/-! ===== how many places have a property ===== -/
def fb_ct (p : Nat → Bool) : Nat → Nat
  | 0 => 0
  | n + 1 => fb_ct p n + (if p n then 1 else 0)
theorem fb_ct_succ (p : Nat → Bool) (n : Nat) : fb_ct p (n + 1) = fb_ct p n + (if p n then 1 else 0) := rfl
theorem fb_ct_le (p : Nat → Bool) : ∀ n, fb_ct p n ≤ n
  | 0 => Nat.le_refl _
  | n + 1 => by
    have h := fb_ct_le p n
    rw [fb_ct_succ]
    split <;> omega
theorem fb_ct_step (p : Nat → Bool) (m : Nat) : ∀ n, fb_ct p m ≤ fb_ct p (m + n)
  | 0 => Nat.le_refl _
  | n + 1 => by
    have h := fb_ct_step p m n
    show fb_ct p m ≤ fb_ct p (m + n + 1)
    rw [fb_ct_succ]
    omega
theorem fb_ct_mono (p : Nat → Bool) {m n : Nat} (h : m ≤ n) : fb_ct p m ≤ fb_ct p n := by
  have := fb_ct_step p m (n - m)
  rwa [Nat.add_sub_cancel' h] at this
theorem fb_ct_cong {p q : Nat → Bool} : ∀ {n : Nat}, (∀ k, k < n → p k = q k) → fb_ct p n = fb_ct q n
  | 0, _ => rfl
  | n + 1, h => by
    rw [fb_ct_succ, fb_ct_succ, fb_ct_cong (fun k hk => h k (by omega)), h n (by omega)]
/-- one place changed -/
theorem fb_ct_out (p : Nat → Bool) (b : Bool) {i n : Nat} (h : n ≤ i) : fb_ct (fun k => if k = i then b else p k) n = fb_ct p n :=
  fb_ct_cong fun k hk => if_neg (by omega)
theorem fb_ct_upd (p : Nat → Bool) (b : Bool) {i : Nat} : ∀ {n : Nat}, i < n → fb_ct (fun k => if k = i then b else p k) n + (if p i then 1 else 0) = fb_ct p n + (if b then 1 else 0)
  | 0, h => absurd h (Nat.not_lt_zero i)
  | n + 1, h => by
    rw [fb_ct_succ, fb_ct_succ]
    rcases Nat.lt_or_ge i n with q | q
    · have := fb_ct_upd p b q
      have e : (if n = i then b else p n) = p n := if_neg (by omega)
      rw [e]
      omega
    · have e : i = n := by omega
      subst e
      rw [fb_ct_out p b (Nat.le_refl _)]
      simp only [if_true]
      omega
theorem fb_ct_sub {p q : Nat → Bool} : ∀ {n : Nat}, (∀ k, k < n → p k = true → q k = true) → fb_ct p n ≤ fb_ct q n
  | 0, _ => Nat.le_refl _
  | n + 1, h => by
    have h1 := fb_ct_sub (n := n) (p := p) (q := q) (fun k hk => h k (by omega))
    have h2 := h n (by omega)
    rw [fb_ct_succ, fb_ct_succ]
    cases hp : p n <;> cases hq : q n <;> simp_all <;> omega
theorem fb_ct_or {p q : Nat → Bool} : ∀ {n : Nat}, (∀ k, k < n → ¬ (p k = true ∧ q k = true)) → fb_ct (fun k => p k || q k) n = fb_ct p n + fb_ct q n
  | 0, _ => rfl
  | n + 1, h => by
    have h1 := fb_ct_or (n := n) (p := p) (q := q) (fun k hk => h k (by omega))
    have h2 := h n (by omega)
    rw [fb_ct_succ, fb_ct_succ, fb_ct_succ, h1]
    cases hp : p n <;> cases hq : q n <;> simp_all <;> omega
theorem fb_ct_not (p : Nat → Bool) : ∀ n, fb_ct p n + fb_ct (fun k => !p k) n = n
  | 0 => rfl
  | n + 1 => by
    have h := fb_ct_not p n
    rw [fb_ct_succ, fb_ct_succ]
    cases p n <;> simp <;> omega
theorem fb_ct_split (p : Nat → Bool) (m : Nat) : ∀ n, fb_ct p (m + n) = fb_ct p m + fb_ct (fun k => p (m + k)) n
  | 0 => rfl
  | n + 1 => by
    have h := fb_ct_split p m n
    show fb_ct p (m + n + 1) = _
    rw [fb_ct_succ, fb_ct_succ, h, Nat.add_assoc]
theorem fb_ct_zero {p : Nat → Bool} : ∀ {n : Nat}, fb_ct p n = 0 ↔ ∀ k, k < n → p k = false
  | 0 => ⟨fun _ k hk => absurd hk (Nat.not_lt_zero k), fun _ => rfl⟩
  | n + 1 => by
    have h := fb_ct_zero (p := p) (n := n)
    rw [fb_ct_succ]
    constructor
    · intro e k hk
      have e1 : fb_ct p n = 0 := by omega
      rcases Nat.lt_or_ge k n with q | q
      · exact h.mp e1 k q
      · have ek : k = n := by omega
        subst ek
        cases hp : p k
        · rfl
        · simp [hp] at e
    · intro a
      rw [h.mpr (fun k hk => a k (by omega)), a n (by omega)]
      rfl
theorem fb_ct_pos {p : Nat → Bool} {n : Nat} : 0 < fb_ct p n ↔ ∃ k, k < n ∧ p k = true := by
  constructor
  · intro h
    refine Classical.byContradiction fun hx => ?_
    have := fb_ct_zero.mpr (fun k hk => by
      cases hp : p k
      · rfl
      · exact absurd ⟨k, hk, hp⟩ hx : ∀ k, k < n → p k = false)
    omega
  · rintro ⟨k, hk, hp⟩
    rcases Nat.eq_zero_or_pos (fb_ct p n) with e | e
    · have := fb_ct_zero.mp e k hk
      rw [this] at hp
      cases hp
    · exact e
theorem fb_ct_all {p : Nat → Bool} {n : Nat} : fb_ct p n = n ↔ ∀ k, k < n → p k = true := by
  have h := fb_ct_not p n
  constructor
  · intro e k hk
    have z : fb_ct (fun k => !p k) n = 0 := by omega
    have := fb_ct_zero.mp z k hk
    cases hp : p k
    · simp [hp] at this
    · rfl
  · intro a
    have z : fb_ct (fun k => !p k) n = 0 := fb_ct_zero.mpr (fun k hk => by simp [a k hk])
    omega
/-- the k-th place with the property -/
theorem fb_ct_kth {p : Nat → Bool} {k : Nat} : ∀ {n : Nat}, k < fb_ct p n → ∃ i, i < n ∧ p i = true ∧ fb_ct p i = k
  | 0, h => absurd h (Nat.not_lt_zero k)
  | n + 1, h => by
    rcases Nat.lt_or_ge k (fb_ct p n) with q | q
    · obtain ⟨i, h1, h2⟩ := fb_ct_kth q
      exact ⟨i, by omega, h2⟩
    · rw [fb_ct_succ] at h
      cases hp : p n
      · simp [hp] at h; omega
      · simp [hp] at h
        exact ⟨n, by omega, hp, by omega⟩
theorem fb_ct_kth_one {p : Nat → Bool} {i j : Nat} (hi : p i = true) (hj : p j = true) (e : fb_ct p i = fb_ct p j) : i = j := by
  have key : ∀ a b : Nat, a < b → p a = true → fb_ct p a < fb_ct p b := by
    intro a b hab ha
    have h := fb_ct_mono p (show a + 1 ≤ b from hab)
    rw [fb_ct_succ, ha] at h
    simp at h
    omega
  rcases Nat.lt_trichotomy i j with q | q | q
  · have := key i j q hi; omega
  · exact q
  · have := key j i q hj; omega
/-! ===== sums over a range: one place changed, parts, bounds ===== -/
def fb_sm (f : Nat → Nat) : Nat → Nat
  | 0 => 0
  | n + 1 => fb_sm f n + f n
theorem fb_sm_succ (f : Nat → Nat) (n : Nat) : fb_sm f (n + 1) = fb_sm f n + f n := rfl
theorem fb_sm_cong {f g : Nat → Nat} : ∀ {n : Nat}, (∀ k, k < n → f k = g k) → fb_sm f n = fb_sm g n
  | 0, _ => rfl
  | n + 1, h => by rw [fb_sm_succ, fb_sm_succ, fb_sm_cong (fun k hk => h k (by omega)), h n (by omega)]
theorem fb_sm_out (f : Nat → Nat) (v : Nat) {i n : Nat} (h : n ≤ i) : fb_sm (fun k => if k = i then v else f k) n = fb_sm f n :=
  fb_sm_cong fun k hk => if_neg (by omega)
theorem fb_sm_upd (f : Nat → Nat) (v : Nat) {i : Nat} : ∀ {n : Nat}, i < n → fb_sm (fun k => if k = i then v else f k) n + f i = fb_sm f n + v
  | 0, h => absurd h (Nat.not_lt_zero i)
  | n + 1, h => by
    rw [fb_sm_succ, fb_sm_succ]
    rcases Nat.lt_or_ge i n with q | q
    · have := fb_sm_upd f v q
      have e : (if n = i then v else f n) = f n := if_neg (by omega)
      rw [e]
      omega
    · have e : i = n := by omega
      subst e
      rw [fb_sm_out f v (Nat.le_refl _)]
      simp only [if_true]
      omega
theorem fb_sm_add (f g : Nat → Nat) : ∀ n, fb_sm (fun k => f k + g k) n = fb_sm f n + fb_sm g n
  | 0 => rfl
  | n + 1 => by
    have h := fb_sm_add f g n
    rw [fb_sm_succ, fb_sm_succ, fb_sm_succ, h]
    omega
theorem fb_sm_le {f g : Nat → Nat} : ∀ {n : Nat}, (∀ k, k < n → f k ≤ g k) → fb_sm f n ≤ fb_sm g n
  | 0, _ => Nat.le_refl _
  | n + 1, h => by
    have h1 := fb_sm_le (n := n) (f := f) (g := g) (fun k hk => h k (by omega))
    have h2 := h n (by omega)
    rw [fb_sm_succ, fb_sm_succ]
    omega
theorem fb_sm_const (c : Nat) : ∀ n, fb_sm (fun _ => c) n = n * c
  | 0 => by rw [Nat.zero_mul]; rfl
  | n + 1 => by rw [fb_sm_succ, fb_sm_const c n, Nat.succ_mul]
theorem fb_sm_bound {f : Nat → Nat} {c n : Nat} (h : ∀ k, k < n → f k ≤ c) : fb_sm f n ≤ n * c := by
  rw [← fb_sm_const c n]
  exact fb_sm_le h
theorem fb_sm_mono (f : Nat → Nat) (m : Nat) : ∀ n, fb_sm f m ≤ fb_sm f (m + n)
  | 0 => Nat.le_refl _
  | n + 1 => by
    have h := fb_sm_mono f m n
    show fb_sm f m ≤ fb_sm f (m + n + 1)
    rw [fb_sm_succ]
    omega
theorem fb_sm_part (f : Nat → Nat) {i n : Nat} (h : i < n) : fb_sm f i + f i ≤ fb_sm f n := by
  have := fb_sm_mono f (i + 1) (n - (i + 1))
  rw [fb_sm_succ, show i + 1 + (n - (i + 1)) = n by omega] at this
  exact this
theorem fb_sm_split (f : Nat → Nat) (m : Nat) : ∀ n, fb_sm f (m + n) = fb_sm f m + fb_sm (fun k => f (m + k)) n
  | 0 => rfl
  | n + 1 => by
    have h := fb_sm_split f m n
    show fb_sm f (m + n + 1) = _
    rw [fb_sm_succ, fb_sm_succ, h, Nat.add_assoc]
theorem fb_sm_zero {f : Nat → Nat} {n : Nat} (h : fb_sm f n = 0) : ∀ k, k < n → f k = 0 := fun k hk => by
  have := fb_sm_part f hk
  omega
/-- the same over whole numbers -/
def fb_si (f : Nat → Int) : Nat → Int
  | 0 => 0
  | n + 1 => fb_si f n + f n
theorem fb_si_succ (f : Nat → Int) (n : Nat) : fb_si f (n + 1) = fb_si f n + f n := rfl
theorem fb_si_cong {f g : Nat → Int} : ∀ {n : Nat}, (∀ k, k < n → f k = g k) → fb_si f n = fb_si g n
  | 0, _ => rfl
  | n + 1, h => by rw [fb_si_succ, fb_si_succ, fb_si_cong (fun k hk => h k (by omega)), h n (by omega)]
theorem fb_si_out (f : Nat → Int) (v : Int) {i n : Nat} (h : n ≤ i) : fb_si (fun k => if k = i then v else f k) n = fb_si f n :=
  fb_si_cong fun k hk => if_neg (by omega)
theorem fb_si_upd (f : Nat → Int) (v : Int) {i : Nat} : ∀ {n : Nat}, i < n → fb_si (fun k => if k = i then v else f k) n = fb_si f n - f i + v
  | 0, h => absurd h (Nat.not_lt_zero i)
  | n + 1, h => by
    rw [fb_si_succ, fb_si_succ]
    rcases Nat.lt_or_ge i n with q | q
    · have := fb_si_upd f v q
      have e : (if n = i then v else f n) = f n := if_neg (by omega)
      rw [e]
      omega
    · have e : i = n := by omega
      subst e
      rw [fb_si_out f v (Nat.le_refl _)]
      simp only [if_true]
      omega
theorem fb_si_add (f g : Nat → Int) : ∀ n, fb_si (fun k => f k + g k) n = fb_si f n + fb_si g n
  | 0 => rfl
  | n + 1 => by
    have h := fb_si_add f g n
    rw [fb_si_succ, fb_si_succ, fb_si_succ, h]
    omega
theorem fb_si_sub (f g : Nat → Int) : ∀ n, fb_si (fun k => f k - g k) n = fb_si f n - fb_si g n
  | 0 => rfl
  | n + 1 => by
    have h := fb_si_sub f g n
    rw [fb_si_succ, fb_si_succ, fb_si_succ, h]
    omega
theorem fb_si_mul (c : Int) (f : Nat → Int) : ∀ n, fb_si (fun k => c * f k) n = c * fb_si f n
  | 0 => (Int.mul_zero c).symm
  | n + 1 => by
    have h := fb_si_mul c f n
    rw [fb_si_succ, fb_si_succ, h, Int.mul_add]
theorem fb_si_split (f : Nat → Int) (m : Nat) : ∀ n, fb_si f (m + n) = fb_si f m + fb_si (fun k => f (m + k)) n
  | 0 => (Int.add_zero _).symm
  | n + 1 => by
    have h := fb_si_split f m n
    show fb_si f (m + n + 1) = _
    rw [fb_si_succ, fb_si_succ, h, Int.add_assoc]
theorem fb_si_nat (f : Nat → Nat) : ∀ n, fb_si (fun k => (f k : Int)) n = (fb_sm f n : Int)
  | 0 => rfl
  | n + 1 => by
    have h := fb_si_nat f n
    rw [fb_si_succ, fb_sm_succ, h]
    omega
theorem fb_si_bound {f : Nat → Int} {c : Int} (hc : 0 ≤ c) : ∀ {n : Nat}, (∀ k, k < n → -c ≤ f k ∧ f k ≤ c) → -(n * c) ≤ fb_si f n ∧ fb_si f n ≤ n * c
  | 0, _ => by simp [fb_si]
  | n + 1, h => by
    have h1 := fb_si_bound (n := n) (f := f) hc (fun k hk => h k (by omega))
    have h2 := h n (by omega)
    have e : ((n + 1 : Nat) : Int) * c = n * c + c := by rw [Int.natCast_add, Int.add_mul]; simp
    rw [fb_si_succ, e]
    omega
/-! ===== bits of a long that isn't negative ===== -/
theorem fb_andL (a b : Nat) : lN a &&& lN b = lN (a &&& b) := by
  apply Int64.toBitVec_inj.1
  show BitVec.ofNat 64 a &&& BitVec.ofNat 64 b = BitVec.ofNat 64 (a &&& b)
  apply BitVec.eq_of_getLsbD_eq
  intro i hi
  simp [hi]
theorem fb_orL (a b : Nat) : lN a ||| lN b = lN (a ||| b) := by
  apply Int64.toBitVec_inj.1
  show BitVec.ofNat 64 a ||| BitVec.ofNat 64 b = BitVec.ofNat 64 (a ||| b)
  apply BitVec.eq_of_getLsbD_eq
  intro i hi
  simp [hi]
theorem fb_xorL (a b : Nat) : lN a ^^^ lN b = lN (a ^^^ b) := by
  apply Int64.toBitVec_inj.1
  show BitVec.ofNat 64 a ^^^ BitVec.ofNat 64 b = BitVec.ofNat 64 (a ^^^ b)
  apply BitVec.eq_of_getLsbD_eq
  intro i hi
  simp [hi]
theorem fb_xorI (a b : Nat) : nI a ^^^ nI b = nI (a ^^^ b) := by
  apply Int32.toBitVec_inj.1
  show BitVec.ofNat 32 a ^^^ BitVec.ofNat 32 b = BitVec.ofNat 32 (a ^^^ b)
  apply BitVec.eq_of_getLsbD_eq
  intro i hi
  simp [hi]
theorem fb_maskL (n k : Nat) : lN n &&& lN (2 ^ k - 1) = lN (n % 2 ^ k) := by rw [fb_andL, Nat.and_two_pow_sub_one_eq_mod]
theorem fb_or_sumL {a k : Nat} (b : Nat) (h : a < 2 ^ k) : lN (2 ^ k * b) ||| lN a = lN (2 ^ k * b + a) := by rw [fb_orL, Nat.two_pow_add_eq_or_of_lt h]
theorem fb_lN_inj {a b : Nat} (ha : a < 2 ^ 63) (hb : b < 2 ^ 63) : lN a = lN b ↔ a = b := by
  constructor
  · intro h
    have h1 : (BitVec.ofNat 64 a).toNat = (BitVec.ofNat 64 b).toNat := congrArg (fun x : Int64 => x.toBitVec.toNat) h
    rw [BitVec.toNat_ofNat, BitVec.toNat_ofNat, Nat.mod_eq_of_lt (by omega), Nat.mod_eq_of_lt (by omega)] at h1
    exact h1
  · rintro rfl; rfl
theorem fb_bit_nat (n j : Nat) : n &&& 2 ^ j = 0 ↔ n.testBit j = false := by
  constructor
  · intro h
    have h1 : (n &&& 2 ^ j).testBit j = false := by rw [h]; simp
    rw [Nat.testBit_and] at h1
    simpa using h1
  · intro h
    apply Nat.eq_of_testBit_eq
    intro i
    rw [Nat.testBit_and]
    by_cases hi : j = i
    · subst hi; simp [h]
    · first | (simp [Nat.testBit_two_pow, hi]; done) | (simp [Nat.testBit_two_pow_of_ne hi]; done)
/-- one bit of a long -/
theorem fb_bitL {n j : Nat} (hj : j < 63) : lN n &&& lN (2 ^ j) = 0 ↔ n.testBit j = false := by
  have h2 : (2 : Nat) ^ j < 2 ^ 63 := Nat.pow_lt_pow_right (by decide) hj
  have hle : n &&& 2 ^ j ≤ 2 ^ j := Nat.and_le_right
  rw [fb_andL, ← fb_bit_nat, show (0 : Int64) = lN 0 from rfl]
  exact fb_lN_inj (by omega) (by decide)
/-- a bit set, a bit taken off -/
theorem fb_bit_set (n j i : Nat) : (n ||| 2 ^ j).testBit i = (n.testBit i || decide (i = j)) := by
  rw [Nat.testBit_or]
  by_cases h : j = i
  · subst h; simp
  · have h2 : ¬ i = j := fun e => h e.symm
    first | (simp [Nat.testBit_two_pow, h, h2]; done) | (simp [Nat.testBit_two_pow_of_ne h, h2]; done)
theorem fb_bit_flip (n j i : Nat) : (n ^^^ 2 ^ j).testBit i = (n.testBit i ^^ decide (i = j)) := by
  rw [Nat.testBit_xor]
  by_cases h : j = i
  · subst h; simp
  · have h2 : ¬ i = j := fun e => h e.symm
    first | (simp [Nat.testBit_two_pow, h, h2]; done) | (simp [Nat.testBit_two_pow_of_ne h, h2]; done)
/-! ===== a stretch of an array written over by a function ===== -/
def fb_put {α : Type} (f g : Nat → α) (a n : Nat) : Nat → α := fun k => if a ≤ k ∧ k < a + n then g (k - a) else f k
theorem fb_put_0 {α : Type} (f g : Nat → α) (a : Nat) : fb_put f g a 0 = f := funext fun k => if_neg (by omega)
theorem fb_put_in {α : Type} {f g : Nat → α} {a n k : Nat} (h1 : a ≤ k) (h2 : k < a + n) : fb_put f g a n k = g (k - a) := if_pos ⟨h1, h2⟩
theorem fb_put_out {α : Type} {f g : Nat → α} {a n k : Nat} (h : k < a ∨ a + n ≤ k) : fb_put f g a n k = f k := if_neg (by omega)
theorem fb_put_succ (f g : Nat → Int32) (a n : Nat) : upd (fb_put f g a n) (a + n) (g n) = fb_put f g a (n + 1) := by
  funext k
  by_cases h : k = a + n
  · subst h
    simp [upd, fb_put]
  · by_cases h1 : a ≤ k ∧ k < a + n
    · have h2 : a ≤ k ∧ k < a + (n + 1) := by omega
      simp only [upd, fb_put, if_neg h, if_pos h1, if_pos h2]
    · have h2 : ¬ (a ≤ k ∧ k < a + (n + 1)) := by omega
      simp only [upd, fb_put, if_neg h, if_neg h1, if_neg h2]
/-- .. from the far end down -/
theorem fb_put_down (f g : Nat → Int32) {a n m : Nat} (h : m < n) : upd (fb_put f (fun k => g (k + (m + 1))) (a + (m + 1)) (n - (m + 1))) (a + m) (g m) = fb_put f (fun k => g (k + m)) (a + m) (n - m) := by
  funext k
  by_cases h0 : k = a + m
  · subst h0
    simp only [upd, if_true]
    rw [fb_put_in (by omega) (by omega)]
    exact congrArg g (by omega)
  · simp only [upd, if_neg h0]
    by_cases h1 : a + (m + 1) ≤ k ∧ k < a + (m + 1) + (n - (m + 1))
    · rw [fb_put_in h1.1 h1.2, fb_put_in (by omega) (by omega)]
      exact congrArg g (by omega)
    · rw [fb_put_out (by omega), fb_put_out (by omega)]
theorem fb_put_cong {α : Type} {f f2 g g2 : Nat → α} {a n : Nat} (hf : ∀ k, (k < a ∨ a + n ≤ k) → f k = f2 k) (hg : ∀ k, k < n → g k = g2 k) : fb_put f g a n = fb_put f2 g2 a n := by
  funext k
  by_cases h : a ≤ k ∧ k < a + n
  · rw [fb_put_in h.1 h.2, fb_put_in h.1 h.2, hg _ (by omega)]
  · rw [fb_put_out (by omega), fb_put_out (by omega), hf _ (by omega)]
/-! ===== the least, the first, the best so far; that there is one alone ===== -/
theorem fb_first {p : Nat → Prop} [DecidablePred p] : ∀ {n : Nat}, (∃ i, i < n ∧ p i) → ∃ i, i < n ∧ p i ∧ ∀ j, j < i → ¬ p j
  | 0, h => by obtain ⟨i, hi, -⟩ := h; exact absurd hi (Nat.not_lt_zero i)
  | n + 1, h => by
    by_cases q : ∃ i, i < n ∧ p i
    · obtain ⟨i, h1, h2⟩ := fb_first q
      exact ⟨i, by omega, h2⟩
    · obtain ⟨i, h1, h2⟩ := h
      have e : i = n := by
        rcases Nat.lt_or_ge i n with r | r
        · exact absurd ⟨i, r, h2⟩ q
        · omega
      subst e
      exact ⟨i, by omega, h2, fun j hj hp => q ⟨j, hj, hp⟩⟩
theorem fb_first_one {p : Nat → Prop} {i j : Nat} (hi : p i) (hi2 : ∀ k, k < i → ¬ p k) (hj : p j) (hj2 : ∀ k, k < j → ¬ p k) : i = j := by
  rcases Nat.lt_trichotomy i j with q | q | q
  · exact absurd hi (hj2 i q)
  · exact q
  · exact absurd hj (hi2 j q)
theorem fb_last {p : Nat → Prop} [DecidablePred p] : ∀ {n : Nat}, (∃ i, i < n ∧ p i) → ∃ i, i < n ∧ p i ∧ ∀ j, i < j → j < n → ¬ p j
  | 0, h => by obtain ⟨i, hi, -⟩ := h; exact absurd hi (Nat.not_lt_zero i)
  | n + 1, h => by
    by_cases q : p n
    · exact ⟨n, by omega, q, fun j h1 h2 => by omega⟩
    · obtain ⟨i, h1, h2⟩ := h
      have hi : i < n := by
        rcases Nat.lt_or_ge i n with r | r
        · exact r
        · have e : i = n := by omega
          subst e
          exact absurd h2 q
      obtain ⟨i2, a1, a2, a3⟩ := fb_last (n := n) ⟨i, hi, h2⟩
      refine ⟨i2, by omega, a2, fun j b1 b2 => ?_⟩
      rcases Nat.lt_or_ge j n with r | r
      · exact a3 j b1 r
      · have e : j = n := by omega
        subst e
        exact q
/-- the first greatest -/
theorem fb_best (f : Nat → Int) : ∀ {n : Nat}, 0 < n → ∃ i, i < n ∧ (∀ j, j < n → f j ≤ f i) ∧ ∀ j, j < i → f j < f i
  | 0, h => absurd h (Nat.lt_irrefl 0)
  | 1, _ => ⟨0, by omega, fun j hj => by have e : j = 0 := by omega
                                         subst e; exact Int.le_refl _, fun j hj => absurd hj (Nat.not_lt_zero j)⟩
  | n + 2, _ => by
    obtain ⟨i, h1, h2, h3⟩ := fb_best f (n := n + 1) (by omega)
    by_cases q : f i < f (n + 1)
    · refine ⟨n + 1, by omega, fun j hj => ?_, fun j hj => ?_⟩
      · rcases Nat.lt_or_ge j (n + 1) with r | r
        · have := h2 j r; omega
        · have e : j = n + 1 := by omega
          subst e; exact Int.le_refl _
      · have := h2 j hj; omega
    · refine ⟨i, by omega, fun j hj => ?_, h3⟩
      rcases Nat.lt_or_ge j (n + 1) with r | r
      · exact h2 j r
      · have e : j = n + 1 := by omega
        subst e; omega
theorem fb_best_one {f : Nat → Int} {n i j : Nat} (hi : i < n) (hi2 : ∀ k, k < n → f k ≤ f i) (hi3 : ∀ k, k < i → f k < f i) (hj : j < n) (hj2 : ∀ k, k < n → f k ≤ f j) (hj3 : ∀ k, k < j → f k < f j) : i = j := by
  rcases Nat.lt_trichotomy i j with q | q | q
  · have a := hj3 i q
    have b := hi2 j hj
    omega
  · exact q
  · have a := hi3 j q
    have b := hj2 i hi
    omega
/-- the first least -/
theorem fb_low (f : Nat → Int) {n : Nat} (h : 0 < n) : ∃ i, i < n ∧ (∀ j, j < n → f i ≤ f j) ∧ ∀ j, j < i → f i < f j := by
  obtain ⟨i, h1, h2, h3⟩ := fb_best (fun k => -f k) h
  exact ⟨i, h1, fun j hj => by have := h2 j hj; omega, fun j hj => by have := h3 j hj; omega⟩
/-! ===== signed ints as whole numbers, within bounds ===== -/
theorem fb_rng (x : Int32) : -2147483648 ≤ x.toInt ∧ x.toInt < 2147483648 := by
  have h1 := Int32.le_toInt x
  have h2 := Int32.toInt_lt x
  omega
theorem fb_bmod {z : Int} (h1 : -2147483648 ≤ z) (h2 : z < 2147483648) : z.bmod (2 ^ 32) = z := by
  rw [Int.bmod_eq_of_le (by omega) (by omega)]
theorem fb_addI {x y : Int32} (h1 : -2147483648 ≤ x.toInt + y.toInt) (h2 : x.toInt + y.toInt < 2147483648) : (x + y).toInt = x.toInt + y.toInt := by
  rw [Int32.toInt_add, fb_bmod h1 h2]
theorem fb_subI {x y : Int32} (h1 : -2147483648 ≤ x.toInt - y.toInt) (h2 : x.toInt - y.toInt < 2147483648) : (x - y).toInt = x.toInt - y.toInt := by
  rw [Int32.toInt_sub, fb_bmod h1 h2]
theorem fb_mulI {x y : Int32} (h1 : -2147483648 ≤ x.toInt * y.toInt) (h2 : x.toInt * y.toInt < 2147483648) : (x * y).toInt = x.toInt * y.toInt := by
  rw [Int32.toInt_mul, fb_bmod h1 h2]
theorem fb_negI {x : Int32} (h : x.toInt ≠ -2147483648) : (-x).toInt = -x.toInt := by
  have := fb_rng x
  rw [Int32.toInt_neg, fb_bmod (by omega) (by omega)]
theorem fb_ofI {z : Int} (h1 : -2147483648 ≤ z) (h2 : z < 2147483648) : (Int32.ofInt z).toInt = z := by
  rw [Int32.toInt_ofInt, fb_bmod h1 h2]
theorem fb_asI (x : Int32) : Int32.ofInt x.toInt = x := Int32.ofInt_toInt x
theorem fb_rngL (x : Int64) : -9223372036854775808 ≤ x.toInt ∧ x.toInt < 9223372036854775808 := by
  have h1 := Int64.le_toInt x
  have h2 := Int64.toInt_lt x
  omega
theorem fb_bmodL {z : Int} (h1 : -9223372036854775808 ≤ z) (h2 : z < 9223372036854775808) : z.bmod (2 ^ 64) = z := by
  rw [Int.bmod_eq_of_le (by omega) (by omega)]
theorem fb_addL {x y : Int64} (h1 : -9223372036854775808 ≤ x.toInt + y.toInt) (h2 : x.toInt + y.toInt < 9223372036854775808) : (x + y).toInt = x.toInt + y.toInt := by
  rw [Int64.toInt_add, fb_bmodL h1 h2]
theorem fb_subL {x y : Int64} (h1 : -9223372036854775808 ≤ x.toInt - y.toInt) (h2 : x.toInt - y.toInt < 9223372036854775808) : (x - y).toInt = x.toInt - y.toInt := by
  rw [Int64.toInt_sub, fb_bmodL h1 h2]
theorem fb_mulL {x y : Int64} (h1 : -9223372036854775808 ≤ x.toInt * y.toInt) (h2 : x.toInt * y.toInt < 9223372036854775808) : (x * y).toInt = x.toInt * y.toInt := by
  rw [Int64.toInt_mul, fb_bmodL h1 h2]
/-! ===== cuts of what is narrow already ===== -/
theorem fb_byte {x : Int32} (h1 : -128 ≤ x.toInt) (h2 : x.toInt < 128) : x.toInt8.toInt32 = x := by
  apply Int32.toInt_inj.1
  rw [Int8.toInt_toInt32, Int32.toInt_toInt8, Int.bmod_eq_of_le (by omega) (by omega)]
theorem fb_short {x : Int32} (h1 : -32768 ≤ x.toInt) (h2 : x.toInt < 32768) : x.toInt16.toInt32 = x := by
  apply Int32.toInt_inj.1
  rw [Int16.toInt_toInt32, Int32.toInt_toInt16, Int.bmod_eq_of_le (by omega) (by omega)]
theorem fb_byte_rng (x : Int32) : -128 ≤ x.toInt8.toInt32.toInt ∧ x.toInt8.toInt32.toInt < 128 := by
  rw [Int8.toInt_toInt32]
  have h1 := Int8.le_toInt x.toInt8
  have h2 := Int8.toInt_lt x.toInt8
  omega
theorem fb_short_rng (x : Int32) : -32768 ≤ x.toInt16.toInt32.toInt ∧ x.toInt16.toInt32.toInt < 32768 := by
  rw [Int16.toInt_toInt32]
  have h1 := Int16.le_toInt x.toInt16
  have h2 := Int16.toInt_lt x.toInt16
  omega
theorem fb_byte_twice (x : Int32) : x.toInt8.toInt32.toInt8.toInt32 = x.toInt8.toInt32 := fb_byte (fb_byte_rng x).1 (fb_byte_rng x).2
theorem fb_short_twice (x : Int32) : x.toInt16.toInt32.toInt16.toInt32 = x.toInt16.toInt32 := fb_short (fb_short_rng x).1 (fb_short_rng x).2
theorem fb_char {n : Nat} (h : n < 65536) : (nI n).toUInt32.toUInt16.toUInt32.toInt32 = nI n := by
  apply Int32.toBitVec_inj.1
  apply BitVec.eq_of_toNat_eq
  have e1 : (nI n).toBitVec.toNat = n := by
    show (BitVec.ofNat 32 n).toNat = n
    rw [BitVec.toNat_ofNat, Nat.mod_eq_of_lt (by omega)]
  have e2 : ((nI n).toUInt32.toUInt16.toUInt32).toNat = n := by
    rw [UInt16.toNat_toUInt32, UInt32.toNat_toUInt16]
    show (nI n).toBitVec.toNat % 2 ^ 16 = n
    rw [e1, Nat.mod_eq_of_lt (by omega)]
  rw [e1]
  exact e2
end
section
/-! SETS AS BITS; THE LEAVES: has, ones, bitCount, in, fill -/
theorem up_to {P : Nat → Prop} (n : Nat) (hz : P n) (hs : ∀ i, i < n → P (i + 1) → P i) : ∀ i, i ≤ n → P i := by
  intro i hi
  obtain ⟨d, hd⟩ : ∃ d, n - i = d := ⟨_, rfl⟩
  induction d generalizing i with
  | zero =>
    have e : i = n := by omega
    rw [e]
    exact hz
  | succ d ih => exact hs i (by omega) (ih (i + 1) (by omega) (by omega))
theorem br2 {c A B : Prop} [Decidable c] (h1 : c → A) (h2 : ¬ c → B) : if c then A else B := by
  by_cases c
  · rename_i z; rw [if_pos z]; exact h1 z
  · rename_i z; rw [if_neg z]; exact h2 z
theorem fit_i (x : Int32) : am_fit .int x := rfl
theorem fit_0 : am_fit .boolean 0 := by unfold am_fit; decide +kernel
theorem fit_1 : am_fit .boolean 1 := by unfold am_fit; decide +kernel
theorem fit_b (b : Bool) : am_fit .boolean (if b then 1 else 0) := by
  cases b
  · exact fit_0
  · exact fit_1
theorem bz_ne (b : Bool) : ((if b then (1 : Int32) else 0) = 0) = (b = false) := by
  cases b
  · simp
  · simp
theorem bz_eq1 (b : Bool) : ((if b then (1 : Int32) else 0) = 1) = (b = true) := by
  cases b
  · simp
  · simp
def bs (P : Nat → Bool) : Nat → Int32
  | 0 => 0
  | n + 1 => if P n then bs P n ||| ((1 : Int32) <<< (nI n &&& 31)) else bs P n
theorem b_1 : ∀ i, i < 32 → bt 1 i = decide (i = 0) := by decide +kernel
theorem bt_one {v i : Nat} (hv : v < 32) (hi : i < 32) : bt ((1 : Int32) <<< (nI v &&& 31)) i = decide (i = v) := by
  rw [b_shl v hv 1 hi]
  rcases Nat.lt_or_ge i v with h | h
  · rw [decide_eq_false (by omega), decide_eq_false (by omega)]; rfl
  · rw [decide_eq_true h, b_1 _ (by omega)]
    simp only [Bool.true_and]
    exact decide_eq_decide.mpr (by omega)
theorem bt_bs (P : Nat → Bool) : ∀ {n : Nat}, n ≤ 31 → ∀ {i : Nat}, i < 32 → bt (bs P n) i = (decide (i < n) && P i) := by
  intro n
  induction n with
  | zero => intro _ i _; simp [bs, b_0]
  | succ n ih =>
    intro hn i hi
    unfold bs
    by_cases hP : P n = true
    · rw [if_pos hP, b_or, ih (by omega) hi, bt_one (by omega) hi]
      by_cases e : i = n
      · subst e; simp [hP]
      · by_cases e2 : i < n
        · simp [e2, e, show i < n + 1 by omega]
        · simp [e2, e, show ¬ i < n + 1 by omega]
    · rw [if_neg hP, ih (by omega) hi]
      by_cases e : i = n
      · subst e; simp [hP]
      · by_cases e2 : i < n
        · simp [e2, show i < n + 1 by omega]
        · simp [e2, show ¬ i < n + 1 by omega]
theorem bs_cong {P Q : Nat → Bool} : ∀ {n : Nat}, (∀ i, i < n → P i = Q i) → bs P n = bs Q n := by
  intro n
  induction n with
  | zero => intro _; rfl
  | succ n ih =>
    intro h
    unfold bs
    rw [ih (fun i hi => h i (by omega)), h n (by omega)]
theorem bs_succ (P : Nat → Bool) (n : Nat) : bs P (n + 1) = if P n then bs P n ||| ((1 : Int32) <<< (nI n &&& 31)) else bs P n := rfl
theorem bt_sh {x : Int32} {k : Nat} (hk : k < 32) : (x >>> (nI k &&& 31)) &&& 1 = if bt x k then 1 else 0 := by
  apply b_ext
  intro i hi
  rw [b_and, b_sshr k hk x hi, b_1 i hi]
  by_cases e : i = 0
  · subst e
    simp only [Nat.add_zero, hk, if_true, decide_true, Bool.and_true]
    cases bt x k
    · exact (b_0 0).symm
    · rfl
  · rw [decide_eq_false e, Bool.and_false]
    cases bt x k
    · exact (b_0 i).symm
    · show false = bt 1 i
      rw [b_1 i hi, decide_eq_false e]
/-- of eight bits -/
def sm (x : Int32) : Prop := ∀ i, 8 ≤ i → i < 32 → bt x i = false
theorem sm_val {x : Int32} (h : sm x) : ∃ a, a < 256 ∧ x = nI a := by
  have e : x = x &&& 255 := by
    apply b_ext
    intro i hi
    rw [b_and, b_255]
    by_cases q : i < 8
    · simp [q]
    · rw [h i (by omega) hi]; rfl
  obtain ⟨j, hj, ej⟩ := pk_andE x (m := 255) 8 (by decide)
  exact ⟨j, hj, by rw [e, ej]⟩
theorem sm_and {x y : Int32} (h : sm x) : sm (x &&& y) := fun i h1 h2 => by rw [b_and, h i h1 h2]; rfl
theorem sm_and2 {x y : Int32} (h : sm y) : sm (x &&& y) := fun i h1 h2 => by rw [b_and, h i h1 h2, Bool.and_false]
theorem sm_or {x y : Int32} (h : sm x) (g : sm y) : sm (x ||| y) := fun i h1 h2 => by rw [b_or, h i h1 h2, g i h1 h2]; rfl
theorem sm_bs {P : Nat → Bool} {n : Nat} (hn : n ≤ 8) : sm (bs P n) := fun i h1 h2 => by rw [bt_bs P (by omega) h2, decide_eq_false (by omega)]; rfl
theorem sm_0 : sm 0 := fun i _ _ => b_0 i
theorem sm_ext {x y : Int32} (hx : sm x) (hy : sm y) (h : ∀ i, i < 8 → bt x i = bt y i) : x = y := b_ext fun i hi => by
  rcases Nat.lt_or_ge i 8 with q | q
  · exact h i q
  · rw [hx i q hi, hy i q hi]
/-- how many of eight -/
def pop (x : Int32) : Nat := fb_ct (bt x) 8
theorem pop_le (x : Int32) : pop x ≤ 8 := fb_ct_le _ _
theorem pop_zero {x : Int32} (hx : sm x) : pop x = 0 ↔ x = 0 := by
  unfold pop
  rw [fb_ct_zero]
  constructor
  · intro h
    exact sm_ext hx sm_0 (fun i hi => by rw [h i hi, b_0])
  · intro h k _
    rw [h, b_0]
def bc1 (a : Int32) : Int32 := a - ((Int32.toUInt32 a >>> (Int32.toUInt32 (1 : Int32) &&& Int32.toUInt32 31)).toInt32 &&& (1431655765 : Int32))
def bc2 (l0 : Int32) : Int32 := (l0 &&& (858993459 : Int32)) + ((Int32.toUInt32 l0 >>> (Int32.toUInt32 (2 : Int32) &&& Int32.toUInt32 31)).toInt32 &&& (858993459 : Int32))
def bc3 (l0 : Int32) : Int32 := (l0 + (Int32.toUInt32 l0 >>> (Int32.toUInt32 (4 : Int32) &&& Int32.toUInt32 31)).toInt32) &&& (252645135 : Int32)
def bc4 (l0 : Int32) : Int32 := l0 + (Int32.toUInt32 l0 >>> (Int32.toUInt32 (8 : Int32) &&& Int32.toUInt32 31)).toInt32
def bc5 (l0 : Int32) : Int32 := (l0 + (Int32.toUInt32 l0 >>> (Int32.toUInt32 (16 : Int32) &&& Int32.toUInt32 31)).toInt32) &&& (63 : Int32)
theorem bc_all : ∀ a, a < 256 → bc5 (bc4 (bc3 (bc2 (bc1 (nI a))))) = nI (pop (nI a)) := by decide +kernel
theorem lg_lt (x y : Int32) : lg_cmp x.toInt64 y.toInt64 < 0 ↔ x < y := by
  have e1 : x.toInt64.toInt = x.toInt := Int32.toInt_toInt64 x
  have e2 : y.toInt64.toInt = y.toInt := Int32.toInt_toInt64 y
  unfold lg_cmp
  by_cases h1 : x.toInt64 > y.toInt64
  · rw [if_pos h1]
    have := Int64.lt_iff_toInt_lt.mp h1
    rw [e1, e2] at this
    constructor
    · intro z; exact absurd z (by decide +kernel)
    · intro z; have := Int32.lt_iff_toInt_lt.mp z; omega
  · rw [if_neg h1]
    by_cases h2 : x.toInt64 = y.toInt64
    · rw [if_pos h2]
      have h3 : x.toInt = y.toInt := by rw [← e1, ← e2, h2]
      constructor
      · intro z; exact absurd z (by decide +kernel)
      · intro z; have := Int32.lt_iff_toInt_lt.mp z; omega
    · rw [if_neg h2]
      constructor
      · intro _
        have a1 : ¬ y.toInt < x.toInt := fun z => h1 (Int64.lt_iff_toInt_lt.mpr (by rw [e1, e2]; exact z))
        have a2 : ¬ x.toInt = y.toInt := fun z => h2 (Int64.toInt_inj.mp (by rw [e1, e2]; exact z))
        exact Int32.lt_iff_toInt_lt.mpr (by omega)
      · intro _; decide +kernel
theorem lg_gt (x y : Int32) : 0 < lg_cmp x.toInt64 y.toInt64 ↔ y < x := by
  have e1 : x.toInt64.toInt = x.toInt := Int32.toInt_toInt64 x
  have e2 : y.toInt64.toInt = y.toInt := Int32.toInt_toInt64 y
  unfold lg_cmp
  by_cases h1 : x.toInt64 > y.toInt64
  · rw [if_pos h1]
    have := Int64.lt_iff_toInt_lt.mp h1
    rw [e1, e2] at this
    exact ⟨fun _ => Int32.lt_iff_toInt_lt.mpr this, fun _ => by decide +kernel⟩
  · rw [if_neg h1]
    have a1 : ¬ y < x := fun z => h1 (Int64.lt_iff_toInt_lt.mpr (by rw [e1, e2]; exact Int32.lt_iff_toInt_lt.mp z))
    by_cases h2 : x.toInt64 = y.toInt64
    · rw [if_pos h2]
      exact ⟨fun z => absurd z (by decide +kernel), fun z => absurd z a1⟩
    · rw [if_neg h2]
      exact ⟨fun z => absurd z (by decide +kernel), fun z => absurd z a1⟩
section LF
variable {L : Nat} {xs : Nat → Int32} {h : am_H}
theorem ok_has {x : Int32} {k : Nat} (hk : k < 32) : am_ok L xs m_X4_has [.int x, .int (nI k)] h (some (if bt x k then 1 else 0)) h := by
  refine en_X4_has rfl rfl (ch_X4_has_0 ?_)
  rw [bt_sh hk]
  cases bt x k
  · exact ⟨fit_0, rfl, rfl⟩
  · exact ⟨fit_1, rfl, rfl⟩
theorem ok_hasD {x : Int32} {k : Nat} (hk : k < 32) : am_ok L xs m_X5_has [.int x, .int (nI k)] h (some (if bt x k then 1 else 0)) h := by
  refine en_X5_has rfl rfl (ch_X5_has_0 ?_)
  rw [bt_sh hk]
  cases bt x k
  · exact ⟨fit_0, rfl, rfl⟩
  · exact ⟨fit_1, rfl, rfl⟩
theorem ok_bitCount {x : Int32} (hx : sm x) : am_ok L xs m_J6_bitCount_0f7a4 [.int x] h (some (nI (pop x))) h := by
  obtain ⟨a, ha, rfl⟩ := sm_val hx
  exact en_J6_bitCount_0f7a4 rfl rfl (ch_J6_bitCount_0f7a4_0 (ch_J6_bitCount_0f7a4_10 (ch_J6_bitCount_0f7a4_24 (ch_J6_bitCount_0f7a4_34 (ch_J6_bitCount_0f7a4_41 ⟨rfl, congrArg some (bc_all a ha), rfl⟩)))))
theorem ok_ones {x : Int32} : am_ok L xs m_X5_ones [.int x] h (some (nI (pop x))) h := by
  refine en_X5_ones rfl rfl (ch_X5_ones_0 ?_)
  have key := up_to (P := fun i => am_wa L xs m_X5_ones h (some (nI (pop x))) h 4 [.int x, .int (nI (fb_ct (bt x) i)), .int (nI i)] [] h) 8 ?_ ?_ 0 (by omega)
  · exact key
  · refine ch_X5_ones_4 ?_
    rw [if_neg (by decide +kernel)]
    exact ⟨rfl, rfl, rfl⟩
  · intro i hi ih
    refine ch_X5_ones_4 ?_
    rw [if_pos (show nI i < 8 from nI_lt (b := 8) hi (by omega)), bt_sh (by omega)]
    have e : nI (fb_ct (bt x) i) + (if bt x i then 1 else 0) = nI (fb_ct (bt x) (i + 1)) := by
      rw [fb_ct_succ]
      cases bt x i
      · simp
      · exact (nI_succ _).symm
    rw [e, ← nI_succ]
    exact ih
theorem ok_in {x a b : Int32} : am_ok L xs m_X5_in [.long x.toInt64, .long a.toInt64, .long b.toInt64] h (some (if decide (¬ x < a ∧ ¬ b < x) then 1 else 0)) h := by
  refine en_X5_in rfl rfl (ch_X5_in_0 ?_)
  refine br2 (fun c => ?_) (fun c => br2 (fun d => ?_) (fun d => ?_))
  · rw [lg_lt] at c
    rw [if_neg (by simp [c])]
    exact ⟨fit_0, rfl, rfl⟩
  · rw [lg_gt] at d
    rw [if_neg (by simp [d])]
    exact ⟨fit_0, rfl, rfl⟩
  · rw [lg_lt] at c
    rw [lg_gt] at d
    rw [if_pos (by simp [c, d])]
    exact ⟨fit_1, rfl, rfl⟩
end LF
end
section
/-! MESH: the class's methods that read -/
def nearL (K : Nat → Int32) (v : Nat) : Nat → Int32
  | 0 => K v
  | s + 1 => if bt (K v) s then nearL K v s ||| K s else nearL K v s
def near (K : Nat → Int32) (n v : Nat) : Int32 := nearL K v n &&& (((1 : Int32) <<< (nI v &&& 31)) ^^^ (-1))
def hears (K : Nat → Int32) (x : Int32) (k : Nat) (v : Nat) : Bool := decide (k ≤ pop (K v &&& x))
def hearing (K : Nat → Int32) (n : Nat) (x : Int32) (k : Nat) : Int32 := bs (hears K x k) n
def nearTo (K : Nat → Int32) (n : Nat) (x : Int32) : Int32 := bs (fun v => decide (¬ near K n v &&& x = 0)) n
def holders (H : Nat → Int32) (n s : Nat) : Int32 := bs (fun v => bt (H v) s) n
def cov (Wt H : Nat → Int32) (v : Nat) : Bool := decide (¬ nI (pop (H v)) < Wt v)
def covered (Wt H : Nat → Int32) (n : Nat) : Int32 := bs (cov Wt H) n
theorem nI_irr (n : Nat) : ¬ nI n < nI n := fun z => Int32.lt_irrefl z
section ME
variable {L : Nat} {xs : Nat → Int32} {h : am_H} {b n m v s : Nat} {M : sg_S}
theorem ok_isStation (hb : b + 6 < h.1) (hn : M.1 0 = nI n) {x : Int32} : am_ok L xs m_X0_isStation [.ref b, .int x] (ob sgM h b M) (some (if decide (¬ x < 0 ∧ x < nI n) then 1 else 0)) (ob sgM h b M) := by
  refine en_X0_isStation (cM hb) rfl rfl (ch_X0_isStation_0 ?_)
  simp only [cM hb, gM_0 hb, gM_1 hb, gM_2 hb, gM_3 hb, gM_4 hb, gM_5 hb, gM_6 hb, gM_7 hb, gM_8 hb, gM_9 hb, gM_10 hb, pM_0 hb, pM_1 hb, pM_2 hb, pM_3 hb, pM_4 hb, am_b_some, hn]
  refine br2 (fun c => ?_) (fun c => br2 (fun d => ?_) (fun d => ?_))
  · rw [if_neg (by simp [c])]; (first | exact ⟨fit_0, rfl, rfl⟩ | exact ⟨fit_0, rfl, trivial⟩ | exact ⟨fit_0, trivial, rfl⟩ | exact ⟨fit_0, trivial, trivial⟩)
  · rw [if_pos (by simp [c, d])]; (first | exact ⟨fit_1, rfl, rfl⟩ | exact ⟨fit_1, rfl, trivial⟩ | exact ⟨fit_1, trivial, rfl⟩ | exact ⟨fit_1, trivial, trivial⟩)
  · rw [if_neg (by simp [d])]; (first | exact ⟨fit_0, rfl, rfl⟩ | exact ⟨fit_0, rfl, trivial⟩ | exact ⟨fit_0, trivial, rfl⟩ | exact ⟨fit_0, trivial, trivial⟩)
theorem ok_isSlot (hb : b + 6 < h.1) (hn : M.1 1 = nI n) {x : Int32} : am_ok L xs m_X0_isSlot [.ref b, .int x] (ob sgM h b M) (some (if decide (¬ x < 0 ∧ x < nI n) then 1 else 0)) (ob sgM h b M) := by
  refine en_X0_isSlot (cM hb) rfl rfl (ch_X0_isSlot_0 ?_)
  simp only [cM hb, gM_0 hb, gM_1 hb, gM_2 hb, gM_3 hb, gM_4 hb, gM_5 hb, gM_6 hb, gM_7 hb, gM_8 hb, gM_9 hb, gM_10 hb, pM_0 hb, pM_1 hb, pM_2 hb, pM_3 hb, pM_4 hb, am_b_some, hn]
  refine br2 (fun c => ?_) (fun c => br2 (fun d => ?_) (fun d => ?_))
  · rw [if_neg (by simp [c])]; (first | exact ⟨fit_0, rfl, rfl⟩ | exact ⟨fit_0, rfl, trivial⟩ | exact ⟨fit_0, trivial, rfl⟩ | exact ⟨fit_0, trivial, trivial⟩)
  · rw [if_pos (by simp [c, d])]; (first | exact ⟨fit_1, rfl, rfl⟩ | exact ⟨fit_1, rfl, trivial⟩ | exact ⟨fit_1, trivial, rfl⟩ | exact ⟨fit_1, trivial, trivial⟩)
  · rw [if_neg (by simp [d])]; (first | exact ⟨fit_0, rfl, rfl⟩ | exact ⟨fit_0, rfl, trivial⟩ | exact ⟨fit_0, trivial, rfl⟩ | exact ⟨fit_0, trivial, trivial⟩)
def isIn (n : Nat) (x : Int32) : Bool := decide (¬ x < 0 ∧ x < nI n)
def isTwo (n : Nat) (x y : Int32) : Bool := isIn n x && isIn n y && decide (¬ x = y)
theorem ok_isPair (hb : b + 6 < h.1) (hn : M.1 0 = nI n) {x y : Int32} : am_ok L xs m_X0_isPair [.ref b, .int x, .int y] (ob sgM h b M) (some (if isTwo n x y then 1 else 0)) (ob sgM h b M) := by
  refine en_X0_isPair (cM hb) rfl rfl (ch_X0_isPair_0 ?_)
  refine ⟨_, _, ok_isStation hb hn, br2 (fun c => ?_) (fun c => ⟨_, _, ok_isStation hb hn, br2 (fun d => ?_) (fun d => br2 (fun e => ?_) (fun e => ?_))⟩)⟩
  · rw [bz_ne] at c
    rw [show isTwo n x y = false by unfold isTwo isIn; rw [c]; rfl]; (first | exact ⟨fit_0, rfl, rfl⟩ | exact ⟨fit_0, rfl, trivial⟩ | exact ⟨fit_0, trivial, rfl⟩ | exact ⟨fit_0, trivial, trivial⟩)
  · rw [bz_ne] at d
    rw [show isTwo n x y = false by unfold isTwo isIn; rw [d]; simp]; (first | exact ⟨fit_0, rfl, rfl⟩ | exact ⟨fit_0, rfl, trivial⟩ | exact ⟨fit_0, trivial, rfl⟩ | exact ⟨fit_0, trivial, trivial⟩)
  · rw [show isTwo n x y = false by unfold isTwo isIn; simp [e]]; (first | exact ⟨fit_0, rfl, rfl⟩ | exact ⟨fit_0, rfl, trivial⟩ | exact ⟨fit_0, trivial, rfl⟩ | exact ⟨fit_0, trivial, trivial⟩)
  · rw [bz_ne] at c d
    rw [show isTwo n x y = true by unfold isTwo isIn; simp only [Bool.not_eq_false] at c d; rw [c, d]; simp [e]]; (first | exact ⟨fit_1, rfl, rfl⟩ | exact ⟨fit_1, rfl, trivial⟩ | exact ⟨fit_1, trivial, rfl⟩ | exact ⟨fit_1, trivial, trivial⟩)
theorem ok_near (hb : b + 6 < h.1) (hn : M.1 0 = nI n) (h8 : n ≤ 8) (hv : v < 8) : am_ok L xs m_X0_near [.ref b, .int (nI v)] (ob sgM h b M) (some (near (M.2 7) n v)) (ob sgM h b M) := by
  refine en_X0_near (cM hb) rfl rfl (ch_X0_near_0 ?_)
  simp only [cM hb, gM_0 hb, gM_1 hb, gM_2 hb, gM_3 hb, gM_4 hb, gM_5 hb, gM_6 hb, gM_7 hb, gM_8 hb, gM_9 hb, gM_10 hb, pM_0 hb, pM_1 hb, pM_2 hb, pM_3 hb, pM_4 hb, lM_5 hb hv, sM_5 hb hv, lM_6 hb hv, sM_6 hb hv, lM_7 hb hv, sM_7 hb hv, lM_8 hb hv, sM_8 hb hv, lM_10 hb hv, sM_10 hb hv, am_b_some]
  have key := up_to (P := fun i => am_wa L xs m_X0_near (ob sgM h b M) (some (near (M.2 7) n v)) (ob sgM h b M) 9 [.ref b, .int (nI v), .int (nearL (M.2 7) v i), .int (nI i)] [] (ob sgM h b M)) n ?_ ?_ 0 (by omega)
  · exact key
  · refine ch_X0_near_9 ?_
    simp only [cM hb, gM_0 hb, gM_1 hb, gM_2 hb, gM_3 hb, gM_4 hb, gM_5 hb, gM_6 hb, gM_7 hb, gM_8 hb, gM_9 hb, gM_10 hb, pM_0 hb, pM_1 hb, pM_2 hb, pM_3 hb, pM_4 hb, am_b_some, hn]
    rw [if_neg (nI_irr n)]
    (first | exact ⟨fit_i _, rfl, rfl⟩ | exact ⟨fit_i _, rfl, trivial⟩ | exact ⟨fit_i _, trivial, rfl⟩ | exact ⟨fit_i _, trivial, trivial⟩)
  · intro i hi ih
    have hi8 : i < 8 := by omega
    refine ch_X0_near_9 ?_
    simp only [cM hb, gM_0 hb, gM_1 hb, gM_2 hb, gM_3 hb, gM_4 hb, gM_5 hb, gM_6 hb, gM_7 hb, gM_8 hb, gM_9 hb, gM_10 hb, pM_0 hb, pM_1 hb, pM_2 hb, pM_3 hb, pM_4 hb, lM_5 hb hv, sM_5 hb hv, lM_6 hb hv, sM_6 hb hv, lM_7 hb hv, sM_7 hb hv, lM_8 hb hv, sM_8 hb hv, lM_10 hb hv, sM_10 hb hv, am_b_some, hn]
    rw [if_pos (nI_lt hi (by omega))]
    refine ⟨_, _, ok_has (by omega), br2 (fun c => ?_) (fun c => ?_)⟩
    · rw [bz_ne] at c
      rw [← nI_succ, show nearL (M.2 7) v i = nearL (M.2 7) v (i + 1) by simp [nearL, c]]
      exact ih
    · rw [bz_ne] at c
      simp only [cM hb, gM_0 hb, gM_1 hb, gM_2 hb, gM_3 hb, gM_4 hb, gM_5 hb, gM_6 hb, gM_7 hb, gM_8 hb, gM_9 hb, gM_10 hb, pM_0 hb, pM_1 hb, pM_2 hb, pM_3 hb, pM_4 hb, lM_5 hb hi8, sM_5 hb hi8, lM_6 hb hi8, sM_6 hb hi8, lM_7 hb hi8, sM_7 hb hi8, lM_8 hb hi8, sM_8 hb hi8, lM_10 hb hi8, sM_10 hb hi8, am_b_some]
      rw [← nI_succ, show nearL (M.2 7) v i ||| M.2 7 i = nearL (M.2 7) v (i + 1) by simp [nearL, c]]
      exact ih
theorem ok_hearing (hb : b + 6 < h.1) (hn : M.1 0 = nI n) (h8 : n ≤ 8) (hs : ∀ v, v < 8 → sm (M.2 7 v)) {x : Int32} {k : Nat} (hk : k < 9) : am_ok L xs m_X0_hearing [.ref b, .int x, .int (nI k)] (ob sgM h b M) (some (hearing (M.2 7) n x k)) (ob sgM h b M) := by
  refine en_X0_hearing (cM hb) rfl rfl (ch_X0_hearing_0 ?_)
  have key := up_to (P := fun i => am_wa L xs m_X0_hearing (ob sgM h b M) (some (hearing (M.2 7) n x k)) (ob sgM h b M) 5 [.ref b, .int x, .int (nI k), .int (bs (hears (M.2 7) x k) i), .int (nI i)] [] (ob sgM h b M)) n ?_ ?_ 0 (by omega)
  · exact key
  · refine ch_X0_hearing_5 ?_
    simp only [cM hb, gM_0 hb, gM_1 hb, gM_2 hb, gM_3 hb, gM_4 hb, gM_5 hb, gM_6 hb, gM_7 hb, gM_8 hb, gM_9 hb, gM_10 hb, pM_0 hb, pM_1 hb, pM_2 hb, pM_3 hb, pM_4 hb, am_b_some, hn]
    rw [if_neg (nI_irr n)]
    (first | exact ⟨fit_i _, rfl, rfl⟩ | exact ⟨fit_i _, rfl, trivial⟩ | exact ⟨fit_i _, trivial, rfl⟩ | exact ⟨fit_i _, trivial, trivial⟩)
  · intro i hi ih
    have hi8 : i < 8 := by omega
    refine ch_X0_hearing_5 ?_
    simp only [cM hb, gM_0 hb, gM_1 hb, gM_2 hb, gM_3 hb, gM_4 hb, gM_5 hb, gM_6 hb, gM_7 hb, gM_8 hb, gM_9 hb, gM_10 hb, pM_0 hb, pM_1 hb, pM_2 hb, pM_3 hb, pM_4 hb, lM_5 hb hi8, sM_5 hb hi8, lM_6 hb hi8, sM_6 hb hi8, lM_7 hb hi8, sM_7 hb hi8, lM_8 hb hi8, sM_8 hb hi8, lM_10 hb hi8, sM_10 hb hi8, am_b_some, hn]
    rw [if_pos (nI_lt hi (by omega))]
    refine ⟨_, _, ok_bitCount (sm_and (hs i hi8)), br2 (fun c => ?_) (fun c => ?_)⟩
    · have hc : ¬ k ≤ pop (M.2 7 i &&& x) := fun z => nI_nlt (a := pop (M.2 7 i &&& x)) (b := k) z (by have := pop_le (M.2 7 i &&& x); omega) c
      rw [← nI_succ, show bs (hears (M.2 7) x k) i = bs (hears (M.2 7) x k) (i + 1) by rw [bs_succ, if_neg (by simp [hears, hc])]]
      exact ih
    · have hc : k ≤ pop (M.2 7 i &&& x) := by
        rcases Nat.lt_or_ge (pop (M.2 7 i &&& x)) k with z | z
        · exact absurd (nI_lt z (by omega)) c
        · exact z
      rw [← nI_succ, show bs (hears (M.2 7) x k) i ||| (1 : Int32) <<< (nI i &&& 31) = bs (hears (M.2 7) x k) (i + 1) by rw [bs_succ, if_pos (by simp [hears, hc])]]
      exact ih
theorem ok_nearToAny (hb : b + 6 < h.1) (hn : M.1 0 = nI n) (h8 : n ≤ 8) {x : Int32} : am_ok L xs m_X0_nearToAny [.ref b, .int x] (ob sgM h b M) (some (nearTo (M.2 7) n x)) (ob sgM h b M) := by
  refine en_X0_nearToAny (cM hb) rfl rfl (ch_X0_nearToAny_0 ?_)
  have key := up_to (P := fun i => am_wa L xs m_X0_nearToAny (ob sgM h b M) (some (nearTo (M.2 7) n x)) (ob sgM h b M) 4 [.ref b, .int x, .int (bs (fun v => decide (¬ near (M.2 7) n v &&& x = 0)) i), .int (nI i)] [] (ob sgM h b M)) n ?_ ?_ 0 (by omega)
  · exact key
  · refine ch_X0_nearToAny_4 ?_
    simp only [cM hb, gM_0 hb, gM_1 hb, gM_2 hb, gM_3 hb, gM_4 hb, gM_5 hb, gM_6 hb, gM_7 hb, gM_8 hb, gM_9 hb, gM_10 hb, pM_0 hb, pM_1 hb, pM_2 hb, pM_3 hb, pM_4 hb, am_b_some, hn]
    rw [if_neg (nI_irr n)]
    (first | exact ⟨fit_i _, rfl, rfl⟩ | exact ⟨fit_i _, rfl, trivial⟩ | exact ⟨fit_i _, trivial, rfl⟩ | exact ⟨fit_i _, trivial, trivial⟩)
  · intro i hi ih
    have hi8 : i < 8 := by omega
    refine ch_X0_nearToAny_4 ?_
    simp only [cM hb, gM_0 hb, gM_1 hb, gM_2 hb, gM_3 hb, gM_4 hb, gM_5 hb, gM_6 hb, gM_7 hb, gM_8 hb, gM_9 hb, gM_10 hb, pM_0 hb, pM_1 hb, pM_2 hb, pM_3 hb, pM_4 hb, lM_5 hb hi8, sM_5 hb hi8, lM_6 hb hi8, sM_6 hb hi8, lM_7 hb hi8, sM_7 hb hi8, lM_8 hb hi8, sM_8 hb hi8, lM_10 hb hi8, sM_10 hb hi8, am_b_some, hn]
    rw [if_pos (nI_lt hi (by omega))]
    refine ⟨_, _, ok_near hb hn h8 hi8, br2 (fun c => ?_) (fun c => ?_)⟩
    · rw [bs_succ, if_neg (by simp [c])] at ih
      rw [← nI_succ]
      exact ih
    · rw [bs_succ, if_pos (by simp [c])] at ih
      rw [← nI_succ]
      exact ih
theorem ok_holders (hb : b + 6 < h.1) (hn : M.1 0 = nI n) (h8 : n ≤ 8) (hs : s < 32) : am_ok L xs m_X0_holders [.ref b, .int (nI s)] (ob sgM h b M) (some (holders (M.2 8) n s)) (ob sgM h b M) := by
  refine en_X0_holders (cM hb) rfl rfl (ch_X0_holders_0 ?_)
  have key := up_to (P := fun i => am_wa L xs m_X0_holders (ob sgM h b M) (some (holders (M.2 8) n s)) (ob sgM h b M) 4 [.ref b, .int (nI s), .int (bs (fun v => bt (M.2 8 v) s) i), .int (nI i)] [] (ob sgM h b M)) n ?_ ?_ 0 (by omega)
  · exact key
  · refine ch_X0_holders_4 ?_
    simp only [cM hb, gM_0 hb, gM_1 hb, gM_2 hb, gM_3 hb, gM_4 hb, gM_5 hb, gM_6 hb, gM_7 hb, gM_8 hb, gM_9 hb, gM_10 hb, pM_0 hb, pM_1 hb, pM_2 hb, pM_3 hb, pM_4 hb, am_b_some, hn]
    rw [if_neg (nI_irr n)]
    (first | exact ⟨fit_i _, rfl, rfl⟩ | exact ⟨fit_i _, rfl, trivial⟩ | exact ⟨fit_i _, trivial, rfl⟩ | exact ⟨fit_i _, trivial, trivial⟩)
  · intro i hi ih
    have hi8 : i < 8 := by omega
    refine ch_X0_holders_4 ?_
    simp only [cM hb, gM_0 hb, gM_1 hb, gM_2 hb, gM_3 hb, gM_4 hb, gM_5 hb, gM_6 hb, gM_7 hb, gM_8 hb, gM_9 hb, gM_10 hb, pM_0 hb, pM_1 hb, pM_2 hb, pM_3 hb, pM_4 hb, lM_5 hb hi8, sM_5 hb hi8, lM_6 hb hi8, sM_6 hb hi8, lM_7 hb hi8, sM_7 hb hi8, lM_8 hb hi8, sM_8 hb hi8, lM_10 hb hi8, sM_10 hb hi8, am_b_some, hn]
    rw [if_pos (nI_lt hi (by omega))]
    refine ⟨_, _, ok_has hs, br2 (fun c => ?_) (fun c => ?_)⟩
    · rw [bz_ne] at c
      rw [bs_succ, if_neg (by simp [c])] at ih
      rw [← nI_succ]
      exact ih
    · rw [bz_ne] at c
      rw [bs_succ, if_pos (by simpa using c)] at ih
      rw [← nI_succ]
      exact ih
theorem ok_covered (hb : b + 6 < h.1) (hn : M.1 0 = nI n) (h8 : n ≤ 8) (hs : ∀ v, v < 8 → sm (M.2 8 v)) : am_ok L xs m_X0_covered [.ref b] (ob sgM h b M) (some (covered (M.2 5) (M.2 8) n)) (ob sgM h b M) := by
  refine en_X0_covered (cM hb) rfl rfl (ch_X0_covered_0 ?_)
  have key := up_to (P := fun i => am_wa L xs m_X0_covered (ob sgM h b M) (some (covered (M.2 5) (M.2 8) n)) (ob sgM h b M) 4 [.ref b, .int (bs (cov (M.2 5) (M.2 8)) i), .int (nI i)] [] (ob sgM h b M)) n ?_ ?_ 0 (by omega)
  · exact key
  · refine ch_X0_covered_4 ?_
    simp only [cM hb, gM_0 hb, gM_1 hb, gM_2 hb, gM_3 hb, gM_4 hb, gM_5 hb, gM_6 hb, gM_7 hb, gM_8 hb, gM_9 hb, gM_10 hb, pM_0 hb, pM_1 hb, pM_2 hb, pM_3 hb, pM_4 hb, am_b_some, hn]
    rw [if_neg (nI_irr n)]
    (first | exact ⟨fit_i _, rfl, rfl⟩ | exact ⟨fit_i _, rfl, trivial⟩ | exact ⟨fit_i _, trivial, rfl⟩ | exact ⟨fit_i _, trivial, trivial⟩)
  · intro i hi ih
    have hi8 : i < 8 := by omega
    refine ch_X0_covered_4 ?_
    simp only [cM hb, gM_0 hb, gM_1 hb, gM_2 hb, gM_3 hb, gM_4 hb, gM_5 hb, gM_6 hb, gM_7 hb, gM_8 hb, gM_9 hb, gM_10 hb, pM_0 hb, pM_1 hb, pM_2 hb, pM_3 hb, pM_4 hb, lM_5 hb hi8, sM_5 hb hi8, lM_6 hb hi8, sM_6 hb hi8, lM_7 hb hi8, sM_7 hb hi8, lM_8 hb hi8, sM_8 hb hi8, lM_10 hb hi8, sM_10 hb hi8, am_b_some, hn]
    rw [if_pos (nI_lt hi (by omega))]
    refine ⟨_, _, ok_bitCount (hs i hi8), ?_⟩
    simp only [cM hb, gM_0 hb, gM_1 hb, gM_2 hb, gM_3 hb, gM_4 hb, gM_5 hb, gM_6 hb, gM_7 hb, gM_8 hb, gM_9 hb, gM_10 hb, pM_0 hb, pM_1 hb, pM_2 hb, pM_3 hb, pM_4 hb, lM_5 hb hi8, sM_5 hb hi8, lM_6 hb hi8, sM_6 hb hi8, lM_7 hb hi8, sM_7 hb hi8, lM_8 hb hi8, sM_8 hb hi8, lM_10 hb hi8, sM_10 hb hi8, am_b_some]
    refine br2 (fun c => ?_) (fun c => ?_)
    · rw [bs_succ, if_neg (by simp [cov, c])] at ih
      rw [← nI_succ]
      exact ih
    · rw [bs_succ, if_pos (by simp only [cov, c]; decide)] at ih
      rw [← nI_succ]
      exact ih
end ME
end
section
/-! MESH: fill, copyFrom, link, cut, begin, lots -/
theorem upd_upd (f : Nat → Int32) (k : Nat) (x y : Int32) : upd (upd f k x) k y = upd f k y := by
  funext j; unfold upd; by_cases e : j = k <;> simp [e]
theorem upd_id (f : Nat → Int32) (k : Nat) : upd f k (f k) = f := by
  funext j; unfold upd; by_cases e : j = k <;> simp [e]
theorem upd_at (f : Nat → Int32) (k : Nat) (x : Int32) : upd f k x k = x := by unfold upd; simp
theorem upd_ne (f : Nat → Int32) {j k : Nat} (x : Int32) (e : ¬ j = k) : upd f k x j = f j := by unfold upd; simp [e]
theorem vu_vu {α : Type} (f : Nat → α) (k : Nat) (x y : α) : va_up (va_up f k x) k y = va_up f k y := by
  funext j; unfold va_up; by_cases e : j = k <;> simp [e]
theorem vu_id {α : Type} (f : Nat → α) (k : Nat) : va_up f k (f k) = f := by
  funext j; unfold va_up; by_cases e : j = k <;> simp [e]
theorem vu_at {α : Type} (f : Nat → α) (k : Nat) (x : α) : va_up f k x k = x := by unfold va_up; simp
theorem vu_ne {α : Type} (f : Nat → α) {j k : Nat} (x : α) (e : ¬ j = k) : va_up f k x j = f j := by unfold va_up; simp [e]
def fillF (n : Nat) (x : Int32) (f : Nat → Int32) : Nat → Int32 := fun i => if i < n then x else f i
theorem fill_0 (x : Int32) (f : Nat → Int32) : fillF 0 x f = f := by funext i; simp [fillF]
theorem fill_s (n : Nat) (x : Int32) (f : Nat → Int32) : upd (fillF n x f) n x = fillF (n + 1) x f := by
  funext i
  unfold upd fillF
  by_cases e : i = n
  · simp [e]
  · by_cases e2 : i < n
    · simp [e, e2, show i < n + 1 by omega]
    · simp [e, e2, show ¬ i < n + 1 by omega]
section M2
variable {L : Nat} {xs : Nat → Int32} {h : am_H} {b c n m v s : Nat} {M N : sg_S}
theorem ok_fill {σ : sg_T} {S : sg_S} {k j n : Nat} {x : Int32} (e : σ.2.2.1 k = some (j, .int, n)) (ei : σ.2.2.2.2 j = k) (hu : ∀ i, i < σ.2.2.2.1 → σ.2.2.2.2 i = k → i = j) (hj : j < σ.2.2.2.1) (hn : n < 2 ^ 31) (hb : b + 1 + j < h.1) : am_ok L xs m_J7_fill_53178 [.ref (b + 1 + j), .int x] (ob σ h b S) none (ob σ h b (S.1, va_up S.2 k (fillF n x (S.2 k)))) := by
  refine en_J7_fill_53178 rfl rfl (ch_J7_fill_53178_0 ?_)
  rw [ob_len e ei hj hb, am_b_some]
  have key := up_to (P := fun i => am_wa L xs m_J7_fill_53178 (ob σ h b S) none (ob σ h b (S.1, va_up S.2 k (fillF n x (S.2 k)))) 5 [.ref (b + 1 + j), .int x, .int (nI i), .int (nI n)] [] (ob σ h b (S.1, va_up S.2 k (fillF i x (S.2 k))))) n ?_ ?_ 0 (by omega)
  · rw [fill_0, vu_id] at key
    exact key
  · refine ch_J7_fill_53178_5 ?_
    rw [if_neg (nI_irr n)]
    (first | exact ⟨rfl, rfl⟩ | exact ⟨rfl, trivial⟩ | exact ⟨trivial, rfl⟩ | exact ⟨trivial, trivial⟩ | exact trivial)
  · intro i hi ih
    refine ch_J7_fill_53178_5 ?_
    rw [if_pos (nI_lt hi hn), ob_sI e ei hu hj hn hb hi, am_b_some, ← nI_succ]
    simp only [vu_vu, vu_at, fill_s]
    exact ih
theorem ok_link (hb : b + 6 < h.1) {u v : Nat} (hu : u < 8) (hv : v < 8) : am_ok L xs m_X0_link [.ref b, .int (nI u), .int (nI v)] (ob sgM h b M) none (ob sgM h b (M.1, va_up M.2 7 (upd (upd (M.2 7) u (M.2 7 u ||| (1 : Int32) <<< (nI v &&& 31))) v (upd (M.2 7) u (M.2 7 u ||| (1 : Int32) <<< (nI v &&& 31)) v ||| (1 : Int32) <<< (nI u &&& 31))))) := by
  refine en_X0_link (cM hb) rfl rfl (ch_X0_link_0 ?_)
  simp only [cM hb, gM_0 hb, gM_1 hb, gM_2 hb, gM_3 hb, gM_4 hb, gM_5 hb, gM_6 hb, gM_7 hb, gM_8 hb, gM_9 hb, gM_10 hb, pM_0 hb, pM_1 hb, pM_2 hb, pM_3 hb, pM_4 hb, lM_5 hb hu, sM_5 hb hu, lM_6 hb hu, sM_6 hb hu, lM_7 hb hu, sM_7 hb hu, lM_8 hb hu, sM_8 hb hu, lM_10 hb hu, sM_10 hb hu, am_b_some]
  simp only [cM hb, gM_0 hb, gM_1 hb, gM_2 hb, gM_3 hb, gM_4 hb, gM_5 hb, gM_6 hb, gM_7 hb, gM_8 hb, gM_9 hb, gM_10 hb, pM_0 hb, pM_1 hb, pM_2 hb, pM_3 hb, pM_4 hb, lM_5 hb hv, sM_5 hb hv, lM_6 hb hv, sM_6 hb hv, lM_7 hb hv, sM_7 hb hv, lM_8 hb hv, sM_8 hb hv, lM_10 hb hv, sM_10 hb hv, am_b_some, vu_vu, vu_at]
  (first | exact ⟨rfl, rfl⟩ | exact ⟨rfl, trivial⟩ | exact ⟨trivial, rfl⟩ | exact ⟨trivial, trivial⟩ | exact trivial)
theorem ok_cut (hb : b + 6 < h.1) {u v : Nat} (hu : u < 8) (hv : v < 8) : am_ok L xs m_X0_cut [.ref b, .int (nI u), .int (nI v)] (ob sgM h b M) none (ob sgM h b (M.1, va_up M.2 7 (upd (upd (M.2 7) u (M.2 7 u &&& ((1 : Int32) <<< (nI v &&& 31) ^^^ (-1)))) v (upd (M.2 7) u (M.2 7 u &&& ((1 : Int32) <<< (nI v &&& 31) ^^^ (-1))) v &&& ((1 : Int32) <<< (nI u &&& 31) ^^^ (-1)))))) := by
  refine en_X0_cut (cM hb) rfl rfl (ch_X0_cut_0 ?_)
  simp only [cM hb, gM_0 hb, gM_1 hb, gM_2 hb, gM_3 hb, gM_4 hb, gM_5 hb, gM_6 hb, gM_7 hb, gM_8 hb, gM_9 hb, gM_10 hb, pM_0 hb, pM_1 hb, pM_2 hb, pM_3 hb, pM_4 hb, lM_5 hb hu, sM_5 hb hu, lM_6 hb hu, sM_6 hb hu, lM_7 hb hu, sM_7 hb hu, lM_8 hb hu, sM_8 hb hu, lM_10 hb hu, sM_10 hb hu, am_b_some]
  simp only [cM hb, gM_0 hb, gM_1 hb, gM_2 hb, gM_3 hb, gM_4 hb, gM_5 hb, gM_6 hb, gM_7 hb, gM_8 hb, gM_9 hb, gM_10 hb, pM_0 hb, pM_1 hb, pM_2 hb, pM_3 hb, pM_4 hb, lM_5 hb hv, sM_5 hb hv, lM_6 hb hv, sM_6 hb hv, lM_7 hb hv, sM_7 hb hv, lM_8 hb hv, sM_8 hb hv, lM_10 hb hv, sM_10 hb hv, am_b_some, vu_vu, vu_at]
  (first | exact ⟨rfl, rfl⟩ | exact ⟨rfl, trivial⟩ | exact ⟨trivial, rfl⟩ | exact ⟨trivial, trivial⟩ | exact trivial)
def beginF (M : sg_S) (x0 x1 x2 x3 : Int32) : sg_S := (upd (upd (upd (upd M.1 0 x0) 1 x1) 2 x2) 3 x3, va_up (va_up (va_up M.2 5 (fillF 8 1 (M.2 5))) 6 (fillF 8 8 (M.2 6))) 7 (fillF 8 0 (M.2 7)))
theorem ok_begin (hb : b + 6 < h.1) {x0 x1 x2 x3 : Int32} : am_ok L xs m_X0_begin [.ref b, .int x0, .int x1, .int x2, .int x3] (ob sgM h b M) none (ob sgM h b (beginF M x0 x1 x2 x3)) := by
  refine en_X0_begin (cM hb) rfl rfl (ch_X0_begin_0 ?_)
  simp only [cM hb, gM_0 hb, gM_1 hb, gM_2 hb, gM_3 hb, gM_4 hb, gM_5 hb, gM_6 hb, gM_7 hb, gM_8 hb, gM_9 hb, gM_10 hb, pM_0 hb, pM_1 hb, pM_2 hb, pM_3 hb, pM_4 hb, am_b_some]
  refine ⟨_, ok_fill (σ := sgM) (k := 5) (j := 0) (n := 8) rfl rfl (by decide) (by decide) (by decide) (by omega), ?_⟩
  simp only [cM hb, gM_0 hb, gM_1 hb, gM_2 hb, gM_3 hb, gM_4 hb, gM_5 hb, gM_6 hb, gM_7 hb, gM_8 hb, gM_9 hb, gM_10 hb, pM_0 hb, pM_1 hb, pM_2 hb, pM_3 hb, pM_4 hb, am_b_some]
  refine ⟨_, ok_fill (σ := sgM) (k := 6) (j := 1) (n := 8) rfl rfl (by decide) (by decide) (by decide) (by omega), ?_⟩
  simp only [cM hb, gM_0 hb, gM_1 hb, gM_2 hb, gM_3 hb, gM_4 hb, gM_5 hb, gM_6 hb, gM_7 hb, gM_8 hb, gM_9 hb, gM_10 hb, pM_0 hb, pM_1 hb, pM_2 hb, pM_3 hb, pM_4 hb, am_b_some]
  refine ⟨_, ok_fill (σ := sgM) (k := 7) (j := 2) (n := 8) rfl rfl (by decide) (by decide) (by decide) (by omega), ?_⟩
  (first | exact ⟨rfl, rfl⟩ | exact ⟨rfl, trivial⟩ | exact ⟨trivial, rfl⟩ | exact ⟨trivial, trivial⟩ | exact trivial)
theorem ok_forgetCycles (hb : b + 6 < h.1) : am_ok L xs m_X0_forgetCycles [.ref b] (ob sgM h b M) none (ob sgM h b (upd M.1 4 0, va_up M.2 8 (fillF 8 0 (M.2 8)))) := by
  refine en_X0_forgetCycles (cM hb) rfl rfl (ch_X0_forgetCycles_0 ⟨Or.inl rfl, ?_⟩)
  simp only [cM hb, gM_0 hb, gM_1 hb, gM_2 hb, gM_3 hb, gM_4 hb, gM_5 hb, gM_6 hb, gM_7 hb, gM_8 hb, gM_9 hb, gM_10 hb, pM_0 hb, pM_1 hb, pM_2 hb, pM_3 hb, pM_4 hb, am_b_some]
  refine ⟨_, ok_fill (σ := sgM) (k := 8) (j := 3) (n := 8) rfl rfl (by decide) (by decide) (by decide) (by omega), ?_⟩
  (first | exact ⟨rfl, rfl⟩ | exact ⟨rfl, trivial⟩ | exact ⟨trivial, rfl⟩ | exact ⟨trivial, trivial⟩ | exact trivial)
def lotS (l : Int32) : Int32 := ((l * (171 : Int32)) + (11213 : Int32)) - ((l * (171 : Int32)) + (11213 : Int32)) / (53125 : Int32) * (53125 : Int32)
def lotV (l k : Int32) : Int32 := (l / (64 : Int32)) - (l / (64 : Int32)) / k * k
theorem ok_drawLot (hb : b + 6 < h.1) {k : Int32} (h1 : ¬ k < 1) (h2 : ¬ k = 0) : am_ok L xs m_X0_drawLot [.ref b, .int k] (ob sgM h b M) (some (lotV (lotS (M.1 3)) k)) (ob sgM h b (upd M.1 3 (lotS (M.1 3)), M.2)) := by
  refine en_X0_drawLot (cM hb) rfl rfl (ch_X0_drawLot_0 ?_)
  simp only [cM hb, gM_0 hb, gM_1 hb, gM_2 hb, gM_3 hb, gM_4 hb, gM_5 hb, gM_6 hb, gM_7 hb, gM_8 hb, gM_9 hb, gM_10 hb, pM_0 hb, pM_1 hb, pM_2 hb, pM_3 hb, pM_4 hb, am_b_some]
  refine ⟨by decide +kernel, ?_⟩
  rw [if_neg h1]
  simp only [upd_at]
  exact ⟨by decide +kernel, h2, fit_i _, rfl, rfl⟩
-- copying a mesh
theorem ob2 {k : Nat} (hd : b + 6 < c ∨ c + 6 < b) : ob sgM (ob sgM h c N) b M = ob sgM (ob sgM h b M) c N := ob_swap hd
def cpyM (M N : sg_S) : sg_S := (upd (upd (upd (upd (upd M.1 0 (N.1 0)) 1 (N.1 1)) 2 (N.1 2)) 3 (N.1 3)) 4 (N.1 4), va_up (va_up (va_up (va_up (va_up M.2 5 (va_cpy (N.2 5) (M.2 5) 0 0 8)) 6 (va_cpy (N.2 6) (M.2 6) 0 0 8)) 7 (va_cpy (N.2 7) (M.2 7) 0 0 8)) 8 (va_cpy (N.2 8) (M.2 8) 0 0 8)) 9 (va_cpy (N.2 9) (M.2 9) 0 0 5))
theorem cl_0 : (0 : Int32).toNatClampNeg = 0 := by decide +kernel
theorem cl_8 : (8 : Int32).toNatClampNeg = 8 := by decide +kernel
theorem cl_5 : (5 : Int32).toNatClampNeg = 5 := by decide +kernel
theorem cp8 {a0 a : Nat} {f f1 : Nat → Int32} {H : am_H} (e0 : am_ii H a0 = some (.int, 8, f)) (e1 : am_ii H a = some (.int, 8, f1)) : am_cp H a0 0 a 0 8 = some (am_put H a (.inl (.int, 8, .inl (va_cpy f f1 0 0 8)))) := by
  unfold am_cp
  rw [e0, e1]
  simp only [cl_0, cl_8]
  rw [if_pos]
  exact ⟨⟨trivial, trivial⟩, by decide +kernel⟩
theorem cp5 {a0 a : Nat} {f f1 : Nat → Int32} {H : am_H} (e0 : am_ii H a0 = some (.int, 5, f)) (e1 : am_ii H a = some (.int, 5, f1)) : am_cp H a0 0 a 0 5 = some (am_put H a (.inl (.int, 5, .inl (va_cpy f f1 0 0 5)))) := by
  unfold am_cp
  rw [e0, e1]
  simp only [cl_0, cl_5]
  rw [if_pos]
  exact ⟨⟨trivial, trivial⟩, by decide +kernel⟩
theorem ok_copyFrom (hb : b + 6 < h.1) (hc : c + 6 < h.1) (hd : b + 6 < c ∨ c + 6 < b) (h4 : N.1 4 = 0 ∨ N.1 4 = 1) : am_ok L xs m_X0_copyFrom [.ref b, .ref c] (ob sgM (ob sgM h c N) b M) none (ob sgM (ob sgM h c N) b (cpyM M N)) := by
  have g0 : ∀ M, am_gI (ob sgM (ob sgM h c N) b M) c 0 0 = some (N.1 0) := fun M => by rw [ob_swap hd]; exact gM_0 hc
  have g1 : ∀ M, am_gI (ob sgM (ob sgM h c N) b M) c 0 1 = some (N.1 1) := fun M => by rw [ob_swap hd]; exact gM_1 hc
  have g2 : ∀ M, am_gI (ob sgM (ob sgM h c N) b M) c 0 2 = some (N.1 2) := fun M => by rw [ob_swap hd]; exact gM_2 hc
  have g3 : ∀ M, am_gI (ob sgM (ob sgM h c N) b M) c 0 3 = some (N.1 3) := fun M => by rw [ob_swap hd]; exact gM_3 hc
  have g4 : ∀ M, am_gI (ob sgM (ob sgM h c N) b M) c 0 4 = some (N.1 4) := fun M => by rw [ob_swap hd]; exact gM_4 hc
  have g5 : ∀ M, am_gR (ob sgM (ob sgM h c N) b M) c 0 5 = some (c + 1) := fun M => by rw [ob_swap hd]; exact gM_5 hc
  have g6 : ∀ M, am_gR (ob sgM (ob sgM h c N) b M) c 0 6 = some (c + 2) := fun M => by rw [ob_swap hd]; exact gM_6 hc
  have g7 : ∀ M, am_gR (ob sgM (ob sgM h c N) b M) c 0 7 = some (c + 3) := fun M => by rw [ob_swap hd]; exact gM_7 hc
  have g8 : ∀ M, am_gR (ob sgM (ob sgM h c N) b M) c 0 8 = some (c + 4) := fun M => by rw [ob_swap hd]; exact gM_8 hc
  have g9 : ∀ M, am_gR (ob sgM (ob sgM h c N) b M) c 0 9 = some (c + 5) := fun M => by rw [ob_swap hd]; exact gM_9 hc
  have i5 : ∀ M, am_ii (ob sgM (ob sgM h c N) b M) (c + 1) = some (.int, 8, N.2 5) := fun M => by rw [ob_swap hd]; exact iM_5 hc
  have i6 : ∀ M, am_ii (ob sgM (ob sgM h c N) b M) (c + 2) = some (.int, 8, N.2 6) := fun M => by rw [ob_swap hd]; exact iM_6 hc
  have i7 : ∀ M, am_ii (ob sgM (ob sgM h c N) b M) (c + 3) = some (.int, 8, N.2 7) := fun M => by rw [ob_swap hd]; exact iM_7 hc
  have i8 : ∀ M, am_ii (ob sgM (ob sgM h c N) b M) (c + 4) = some (.int, 8, N.2 8) := fun M => by rw [ob_swap hd]; exact iM_8 hc
  have i9 : ∀ M, am_ii (ob sgM (ob sgM h c N) b M) (c + 5) = some (.int, 5, N.2 9) := fun M => by rw [ob_swap hd]; exact iM_9 hc
  have hb2 : b + 6 < (ob sgM h c N).1 := hb
  have q5 : ∀ M, am_cp (ob sgM (ob sgM h c N) b M) (c + 1) 0 (b + 1) 0 8 = some (ob sgM (ob sgM h c N) b (M.1, va_up M.2 5 (va_cpy (N.2 5) (M.2 5) 0 0 8))) := fun M => by rw [cp8 (i5 M) (iM_5 hb2), uM_5]
  have q6 : ∀ M, am_cp (ob sgM (ob sgM h c N) b M) (c + 2) 0 (b + 2) 0 8 = some (ob sgM (ob sgM h c N) b (M.1, va_up M.2 6 (va_cpy (N.2 6) (M.2 6) 0 0 8))) := fun M => by rw [cp8 (i6 M) (iM_6 hb2), uM_6]
  have q7 : ∀ M, am_cp (ob sgM (ob sgM h c N) b M) (c + 3) 0 (b + 3) 0 8 = some (ob sgM (ob sgM h c N) b (M.1, va_up M.2 7 (va_cpy (N.2 7) (M.2 7) 0 0 8))) := fun M => by rw [cp8 (i7 M) (iM_7 hb2), uM_7]
  have q8 : ∀ M, am_cp (ob sgM (ob sgM h c N) b M) (c + 4) 0 (b + 4) 0 8 = some (ob sgM (ob sgM h c N) b (M.1, va_up M.2 8 (va_cpy (N.2 8) (M.2 8) 0 0 8))) := fun M => by rw [cp8 (i8 M) (iM_8 hb2), uM_8]
  have q9 : ∀ M, am_cp (ob sgM (ob sgM h c N) b M) (c + 5) 0 (b + 5) 0 5 = some (ob sgM (ob sgM h c N) b (M.1, va_up M.2 9 (va_cpy (N.2 9) (M.2 9) 0 0 5))) := fun M => by rw [cp5 (i9 M) (iM_9 hb2), uM_9]
  refine en_X0_copyFrom (cM hb2) rfl rfl (ch_X0_copyFrom_0 ?_)
  simp only [g0, g1, g2, g3, g4, g5, g6, g7, g8, g9, q5, q6, q7, q8, q9, cM hb2, gM_0 hb2, gM_1 hb2, gM_2 hb2, gM_3 hb2, gM_4 hb2, gM_5 hb2, gM_6 hb2, gM_7 hb2, gM_8 hb2, gM_9 hb2, gM_10 hb2, pM_0 hb2, pM_1 hb2, pM_2 hb2, pM_3 hb2, pM_4 hb2, am_b_some]
  (first | exact ⟨h4, rfl, rfl⟩ | exact ⟨h4, rfl, trivial⟩ | exact ⟨h4, trivial, rfl⟩ | exact ⟨h4, trivial, trivial⟩)
end M2
end
section
/-! MESH: the cycle -/
def contF (K Wt H : Nat → Int32) (n s : Nat) : Int32 := bs (fun v => !cov Wt H v && !bt (holders H n s) v && decide (near K n v &&& holders H n s = 0)) n
theorem bt_mask : ∀ n, n < 9 → ∀ i, i < 32 → bt (((1 : Int32) <<< (nI n &&& 31)) - 1) i = decide (i < n) := by decide +kernel
theorem bt_not {x : Int32} {i : Nat} (hi : i < 32) : bt (x ^^^ (-1)) i = !bt x i := by
  rw [b_xor, b_m1 i hi]; simp
theorem cont_eq (K Wt H : Nat → Int32) {n s : Nat} (h8 : n ≤ 8) : (((covered Wt H n ||| holders H n s) ||| nearTo K n (holders H n s)) ^^^ (-1)) &&& (((1 : Int32) <<< (nI n &&& 31)) - 1) = contF K Wt H n s := by
  apply b_ext
  intro i hi
  rw [b_and, bt_not hi, b_or, b_or, bt_mask n (by omega) i hi]
  unfold contF covered nearTo
  rw [bt_bs _ (by omega) hi, bt_bs _ (by omega) hi, bt_bs _ (by omega) hi]
  by_cases q : i < n
  · simp only [q, decide_true, Bool.true_and, Bool.and_true]
    cases cov Wt H i <;> cases bt (holders H n s) i <;> by_cases z : near K n i &&& holders H n s = 0 <;> simp [z]
  · simp [q]
def askL (Sh : Nat → Int32) (C l : Int32) : Nat → Int32 × Int32
  | 0 => (0, l)
  | s + 1 => if bt C s then (if lotV (lotS (askL Sh C l s).2) 16 < Sh s then ((askL Sh C l s).1 ||| (1 : Int32) <<< (nI s &&& 31), lotS (askL Sh C l s).2) else ((askL Sh C l s).1, lotS (askL Sh C l s).2)) else askL Sh C l s
def drL (C d l : Int32) (f : Nat → Int32) : Nat → (Nat → Int32) × Int32
  | 0 => (f, l)
  | s + 1 => if bt C s then (upd (drL C d l f s).1 s (lotV (lotS (drL C d l f s).2) 8), lotS (drL C d l f s).2) else (upd (drL C d l f s).1 s d, (drL C d l f s).2)
def seF (K : Nat → Int32) (n t : Nat) (an : Int32) (f : Nat → Int32) (lot : Int32) (s : Nat) (p : (Nat → Int32) × Int32) : (Nat → Int32) × Int32 :=
  if f s = lot ∧ (¬ K s &&& an = 0) ∧ near K n s &&& holders p.1 n t = 0 then (upd p.1 s (p.1 s ||| (1 : Int32) <<< (nI t &&& 31)), p.2 ||| (1 : Int32) <<< (nI s &&& 31)) else p
def seI (K : Nat → Int32) (n t : Nat) (an : Int32) (f : Nat → Int32) (lot : Int32) (p : (Nat → Int32) × Int32) : Nat → (Nat → Int32) × Int32
  | 0 => p
  | s + 1 => seF K n t an f lot s (seI K n t an f lot p s)
def seO (K : Nat → Int32) (n t : Nat) (an : Int32) (f H : Nat → Int32) : Nat → (Nat → Int32) × Int32
  | 0 => (H, 0)
  | j + 1 => seI K n t an f (nI (7 - j)) (seO K n t an f H j) n
def joF (K : Nat → Int32) (n : Nat) (se : Int32) : Int32 := hearing K n (nearTo K n se) 1 &&& ((nearTo K n se ||| se) ^^^ (-1))
def shL (K : Nat → Int32) (n : Nat) (a se : Int32) (f : Nat → Int32) : Nat → (Nat → Int32)
  | 0 => f
  | s + 1 => if bt a s then (if bt se s then shL K n a se f s else upd (shL K n a se f s) s (if 1 < shL K n a se f s s / 2 then shL K n a se f s s / 2 else 1)) else (if bt (joF K n se) s then upd (shL K n a se f s) s (if shL K n a se f s s * 2 < 16 then shL K n a se f s s * 2 else 16) else shL K n a se f s)
section CY
variable {L : Nat} {xs : Nat → Int32} {h : am_H} {b n v s t : Nat} {M : sg_S}
theorem ok_contenders (hb : b + 6 < h.1) (hn : M.1 0 = nI n) (h8 : n ≤ 8) (hh : ∀ v, v < 8 → sm (M.2 8 v)) (hs : s < 32) : am_ok L xs m_X0_contenders [.ref b, .int (nI s)] (ob sgM h b M) (some (contF (M.2 7) (M.2 5) (M.2 8) n s)) (ob sgM h b M) := by
  refine en_X0_contenders (cM hb) rfl rfl (ch_X0_contenders_0 ⟨_, _, ok_holders hb hn h8 hs, _, _, ok_covered hb hn h8 hh, _, _, ok_nearToAny hb hn h8, ?_⟩)
  simp only [cM hb, gM_0 hb, gM_1 hb, gM_2 hb, gM_3 hb, gM_4 hb, gM_5 hb, gM_6 hb, gM_7 hb, gM_8 hb, gM_9 hb, gM_10 hb, pM_0 hb, pM_1 hb, pM_2 hb, pM_3 hb, pM_4 hb, am_b_some, hn]
  rw [cont_eq _ _ _ h8]
  (first | exact ⟨fit_i _, rfl, rfl⟩ | exact ⟨fit_i _, rfl, trivial⟩ | exact ⟨fit_i _, trivial, rfl⟩ | exact ⟨fit_i _, trivial, trivial⟩)
theorem ok_ask (hb : b + 6 < h.1) (hn : M.1 0 = nI n) (h8 : n ≤ 8) {C : Int32} : am_ok L xs m_X0_ask [.ref b, .int C] (ob sgM h b M) (some (askL (M.2 6) C (M.1 3) n).1) (ob sgM h b (upd M.1 3 (askL (M.2 6) C (M.1 3) n).2, M.2)) := by
  refine en_X0_ask (cM hb) rfl rfl (ch_X0_ask_0 ?_)
  have key := up_to (P := fun i => am_wa L xs m_X0_ask (ob sgM h b M) (some (askL (M.2 6) C (M.1 3) n).1) (ob sgM h b (upd M.1 3 (askL (M.2 6) C (M.1 3) n).2, M.2)) 4 [.ref b, .int C, .int (askL (M.2 6) C (M.1 3) i).1, .int (nI i)] [] (ob sgM h b (upd M.1 3 (askL (M.2 6) C (M.1 3) i).2, M.2))) n ?_ ?_ 0 (by omega)
  · simp only [askL, upd_id] at key
    exact key
  · refine ch_X0_ask_4 ?_
    simp only [cM hb, gM_0 hb, gM_1 hb, gM_2 hb, gM_3 hb, gM_4 hb, gM_5 hb, gM_6 hb, gM_7 hb, gM_8 hb, gM_9 hb, gM_10 hb, pM_0 hb, pM_1 hb, pM_2 hb, pM_3 hb, pM_4 hb, am_b_some, upd_ne _ _ (show ¬ 0 = 3 by decide), hn]
    rw [if_neg (nI_irr n)]
    (first | exact ⟨fit_i _, rfl, rfl⟩ | exact ⟨fit_i _, rfl, trivial⟩ | exact ⟨fit_i _, trivial, rfl⟩ | exact ⟨fit_i _, trivial, trivial⟩)
  · intro i hi ih
    have hi8 : i < 8 := by omega
    refine ch_X0_ask_4 ?_
    simp only [cM hb, gM_0 hb, gM_1 hb, gM_2 hb, gM_3 hb, gM_4 hb, gM_5 hb, gM_6 hb, gM_7 hb, gM_8 hb, gM_9 hb, gM_10 hb, pM_0 hb, pM_1 hb, pM_2 hb, pM_3 hb, pM_4 hb, am_b_some, upd_ne _ _ (show ¬ 0 = 3 by decide), hn]
    rw [if_pos (nI_lt hi (by omega))]
    refine ⟨_, _, ok_has (by omega), br2 (fun c => ?_) (fun c => ?_)⟩
    · rw [bz_ne] at c
      rw [← nI_succ, show askL (M.2 6) C (M.1 3) i = askL (M.2 6) C (M.1 3) (i + 1) by simp [askL, c]]
      exact ih
    · rw [bz_ne] at c
      refine ⟨_, _, ok_drawLot hb (by decide +kernel) (by decide +kernel), ?_⟩
      simp only [cM hb, gM_0 hb, gM_1 hb, gM_2 hb, gM_3 hb, gM_4 hb, gM_5 hb, gM_6 hb, gM_7 hb, gM_8 hb, gM_9 hb, gM_10 hb, pM_0 hb, pM_1 hb, pM_2 hb, pM_3 hb, pM_4 hb, lM_5 hb hi8, sM_5 hb hi8, lM_6 hb hi8, sM_6 hb hi8, lM_7 hb hi8, sM_7 hb hi8, lM_8 hb hi8, sM_8 hb hi8, lM_10 hb hi8, sM_10 hb hi8, am_b_some, upd_at, upd_upd]
      refine br2 (fun d => ?_) (fun d => ?_)
      · have e : askL (M.2 6) C (M.1 3) (i + 1) = ((askL (M.2 6) C (M.1 3) i).1 ||| (1 : Int32) <<< (nI i &&& 31), lotS (askL (M.2 6) C (M.1 3) i).2) := by
          show (if _ then _ else _) = _
          rw [if_pos (by simpa using c), if_pos d]
        rw [e] at ih
        rw [← nI_succ]
        exact ih
      · have e : askL (M.2 6) C (M.1 3) (i + 1) = ((askL (M.2 6) C (M.1 3) i).1, lotS (askL (M.2 6) C (M.1 3) i).2) := by
          show (if _ then _ else _) = _
          rw [if_pos (by simpa using c), if_neg d]
        rw [e] at ih
        rw [← nI_succ]
        exact ih
theorem ok_settle (hb : b + 6 < h.1) (hn : M.1 0 = nI n) (h8 : n ≤ 8) (ht : t < 4) {C an : Int32} : am_ok L xs m_X0_settle [.ref b, .int (nI t), .int C, .int an] (ob sgM h b M) (some (seO (M.2 7) n t an (drL C (-1) (M.1 3) (M.2 10) n).1 (M.2 8) 8).2) (ob sgM h b (upd M.1 3 (drL C (-1) (M.1 3) (M.2 10) n).2, va_up (va_up M.2 10 (drL C (-1) (M.1 3) (M.2 10) n).1) 8 (seO (M.2 7) n t an (drL C (-1) (M.1 3) (M.2 10) n).1 (M.2 8) 8).1)) := by
  refine en_X0_settle (cM hb) rfl rfl (ch_X0_settle_0 ?_)
  generalize hR : some (seO (M.2 7) n t an (drL C (-1) (M.1 3) (M.2 10) n).1 (M.2 8) 8).2 = R
  generalize hE : ob sgM h b (upd M.1 3 (drL C (-1) (M.1 3) (M.2 10) n).2, va_up (va_up M.2 10 (drL C (-1) (M.1 3) (M.2 10) n).1) 8 (seO (M.2 7) n t an (drL C (-1) (M.1 3) (M.2 10) n).1 (M.2 8) 8).1) = E
  have key := up_to (P := fun i => am_wa L xs m_X0_settle (ob sgM h b M) R E 3 [.ref b, .int (nI t), .int C, .int an, .int (nI i), .null, .null] [] (ob sgM h b (upd M.1 3 (drL C (-1) (M.1 3) (M.2 10) i).2, va_up M.2 10 (drL C (-1) (M.1 3) (M.2 10) i).1))) n ?_ ?_ 0 (by omega)
  · simp only [drL, upd_id, vu_id] at key
    exact key
  · refine ch_X0_settle_3 ?_
    simp only [cM hb, gM_0 hb, gM_1 hb, gM_2 hb, gM_3 hb, gM_4 hb, gM_5 hb, gM_6 hb, gM_7 hb, gM_8 hb, gM_9 hb, gM_10 hb, pM_0 hb, pM_1 hb, pM_2 hb, pM_3 hb, pM_4 hb, am_b_some, upd_ne _ _ (show ¬ 0 = 3 by decide), hn]
    rw [if_neg (nI_irr n)]
    -- the lots, from 7 down
    obtain ⟨f, hf⟩ : ∃ f, f = (drL C (-1) (M.1 3) (M.2 10) n).1 := ⟨_, rfl⟩
    obtain ⟨l, hl⟩ : ∃ l, l = (drL C (-1) (M.1 3) (M.2 10) n).2 := ⟨_, rfl⟩
    rw [← hf, ← hl] at hE ⊢
    rw [← hf] at hR
    have outer := up_to (P := fun j => am_wa L xs m_X0_settle (ob sgM h b M) R E 51 [.ref b, .int (nI t), .null, .int an, .int (seO (M.2 7) n t an f (M.2 8) j).2, .int (nI 7 - nI j), .null] [] (ob sgM h b (upd M.1 3 l, va_up (va_up M.2 10 f) 8 (seO (M.2 7) n t an f (M.2 8) j).1))) 8 ?_ ?_ 0 (by omega)
    · have e0 : va_up (va_up M.2 10 f) 8 (M.2 8) = va_up M.2 10 f := by
        have := vu_id (va_up M.2 10 f) 8
        rwa [vu_ne _ _ (show ¬ 8 = 10 by decide)] at this
      simp only [seO, e0] at outer
      exact outer
    · refine ch_X0_settle_51 ?_
      rw [if_pos (show nI 7 - nI 8 < 0 by decide +kernel)]
      exact ⟨fit_i _, hR, hE⟩
    · intro j hj ihj
      refine ch_X0_settle_51 ?_
      rw [if_neg (show ¬ nI 7 - nI j < 0 by rw [pk_sub (by omega)]; exact nI_pos (by omega)), pk_sub (show j ≤ 7 by omega)]
      have inner := up_to (P := fun i => am_wa L xs m_X0_settle (ob sgM h b M) R E 59 [.ref b, .int (nI t), .null, .int an, .int (seI (M.2 7) n t an f (nI (7 - j)) (seO (M.2 7) n t an f (M.2 8) j) i).2, .int (nI (7 - j)), .int (nI i)] [] (ob sgM h b (upd M.1 3 l, va_up (va_up M.2 10 f) 8 (seI (M.2 7) n t an f (nI (7 - j)) (seO (M.2 7) n t an f (M.2 8) j) i).1))) n ?_ ?_ 0 (by omega)
      · exact inner
      · refine ch_X0_settle_59 ?_
        simp only [cM hb, gM_0 hb, gM_1 hb, gM_2 hb, gM_3 hb, gM_4 hb, gM_5 hb, gM_6 hb, gM_7 hb, gM_8 hb, gM_9 hb, gM_10 hb, pM_0 hb, pM_1 hb, pM_2 hb, pM_3 hb, pM_4 hb, am_b_some, upd_ne _ _ (show ¬ 0 = 3 by decide), hn]
        rw [if_neg (nI_irr n)]
        have e1 : nI (7 - j) + (-1) = nI 7 - nI (j + 1) := by
          rcases Nat.lt_or_ge j 7 with z | z
          · rw [sb_m1 (by omega), pk_sub (by omega)]
            congr 1
          · have : j = 7 := by omega
            subst this
            decide +kernel
        rw [e1]
        exact ihj
      · intro i hi ihi
        have hi8 : i < 8 := by omega
        generalize hp : seI (M.2 7) n t an f (nI (7 - j)) (seO (M.2 7) n t an f (M.2 8) j) i = p at ihi ⊢
        have hs : seI (M.2 7) n t an f (nI (7 - j)) (seO (M.2 7) n t an f (M.2 8) j) (i + 1) = seF (M.2 7) n t an f (nI (7 - j)) i p := by rw [← hp]; rfl
        rw [hs] at ihi
        have hn' : (upd M.1 3 l) 0 = nI n := by rw [upd_ne _ _ (show ¬ 0 = 3 by decide)]; exact hn
        refine ch_X0_settle_59 ?_
        simp only [cM hb, gM_0 hb, gM_1 hb, gM_2 hb, gM_3 hb, gM_4 hb, gM_5 hb, gM_6 hb, gM_7 hb, gM_8 hb, gM_9 hb, gM_10 hb, pM_0 hb, pM_1 hb, pM_2 hb, pM_3 hb, pM_4 hb, lM_5 hb hi8, sM_5 hb hi8, lM_6 hb hi8, sM_6 hb hi8, lM_7 hb hi8, sM_7 hb hi8, lM_8 hb hi8, sM_8 hb hi8, lM_10 hb hi8, sM_10 hb hi8, am_b_some, hn', vu_at, vu_ne _ _ (show ¬ 10 = 8 by decide), vu_ne _ _ (show ¬ 7 = 8 by decide), vu_ne _ _ (show ¬ 7 = 10 by decide)]
        rw [if_pos (nI_lt hi (by omega))]
        refine br2 (fun c1 => br2 (fun c2 => ?_) (fun c2 => ⟨_, _, ok_near hb hn' h8 hi8, _, _, ok_holders hb hn' h8 (by omega), br2 (fun c3 => ?_) (fun c3 => ?_)⟩)) (fun c1 => ?_)
        · rw [seF, if_neg (fun z => z.2.1 c2)] at ihi
          rw [← nI_succ]
          exact ihi
        · rw [seF, if_pos ⟨c1, c2, c3⟩] at ihi
          simp only [cM hb, gM_0 hb, gM_1 hb, gM_2 hb, gM_3 hb, gM_4 hb, gM_5 hb, gM_6 hb, gM_7 hb, gM_8 hb, gM_9 hb, gM_10 hb, pM_0 hb, pM_1 hb, pM_2 hb, pM_3 hb, pM_4 hb, lM_5 hb hi8, sM_5 hb hi8, lM_6 hb hi8, sM_6 hb hi8, lM_7 hb hi8, sM_7 hb hi8, lM_8 hb hi8, sM_8 hb hi8, lM_10 hb hi8, sM_10 hb hi8, am_b_some, vu_at, vu_vu]
          rw [← nI_succ]
          exact ihi
        · rw [seF, if_neg (fun z => c3 z.2.2)] at ihi
          rw [← nI_succ]
          exact ihi
        · rw [seF, if_neg (fun z => c1 z.1)] at ihi
          rw [← nI_succ]
          exact ihi
  · intro i hi ih
    have hi8 : i < 8 := by omega
    refine ch_X0_settle_3 ?_
    simp only [cM hb, gM_0 hb, gM_1 hb, gM_2 hb, gM_3 hb, gM_4 hb, gM_5 hb, gM_6 hb, gM_7 hb, gM_8 hb, gM_9 hb, gM_10 hb, pM_0 hb, pM_1 hb, pM_2 hb, pM_3 hb, pM_4 hb, am_b_some, upd_ne _ _ (show ¬ 0 = 3 by decide), hn]
    rw [if_pos (nI_lt hi (by omega))]
    refine ⟨_, _, ok_has (by omega), br2 (fun c => ?_) (fun c => ?_)⟩
    · rw [bz_ne] at c
      simp only [cM hb, gM_0 hb, gM_1 hb, gM_2 hb, gM_3 hb, gM_4 hb, gM_5 hb, gM_6 hb, gM_7 hb, gM_8 hb, gM_9 hb, gM_10 hb, pM_0 hb, pM_1 hb, pM_2 hb, pM_3 hb, pM_4 hb, lM_5 hb hi8, sM_5 hb hi8, lM_6 hb hi8, sM_6 hb hi8, lM_7 hb hi8, sM_7 hb hi8, lM_8 hb hi8, sM_8 hb hi8, lM_10 hb hi8, sM_10 hb hi8, am_b_some, vu_at, vu_vu]
      simp only [drL, c] at ih
      rw [← nI_succ]
      exact ih
    · rw [bz_ne] at c
      refine ⟨_, _, ok_drawLot hb (by decide +kernel) (by decide +kernel), ?_⟩
      simp only [cM hb, gM_0 hb, gM_1 hb, gM_2 hb, gM_3 hb, gM_4 hb, gM_5 hb, gM_6 hb, gM_7 hb, gM_8 hb, gM_9 hb, gM_10 hb, pM_0 hb, pM_1 hb, pM_2 hb, pM_3 hb, pM_4 hb, lM_5 hb hi8, sM_5 hb hi8, lM_6 hb hi8, sM_6 hb hi8, lM_7 hb hi8, sM_7 hb hi8, lM_8 hb hi8, sM_8 hb hi8, lM_10 hb hi8, sM_10 hb hi8, am_b_some, upd_at, upd_upd, vu_at, vu_vu]
      simp only [drL, show bt C i = true by simpa using c, if_true] at ih
      rw [← nI_succ]
      exact ih
end CY
end
section
/-! MESH: the cycle, whole; frames; what is counted -/
def cyC (M : sg_S) (n t : Nat) : Int32 := contF (M.2 7) (M.2 5) (M.2 8) n t
def cyA (M : sg_S) (n t : Nat) : Int32 × Int32 := askL (M.2 6) (cyC M n t) (M.1 3) n
def cyR (M : sg_S) (n t : Nat) : Int32 := hearing (M.2 7) n (cyA M n t).1 2 &&& ((cyA M n t).1 ^^^ (-1))
def cyF (M : sg_S) (n t : Nat) : Int32 := (cyA M n t).1 &&& (hearing (M.2 7) n (cyR M n t) 1 ^^^ (-1))
def cyN (M : sg_S) (n t : Nat) : Int32 := hearing (M.2 7) n (cyF M n t) 1 &&& ((cyA M n t).1 ^^^ (-1))
def cyD (M : sg_S) (n t : Nat) : (Nat → Int32) × Int32 := drL (cyF M n t) (-1) (cyA M n t).2 (M.2 10) n
def cyS (M : sg_S) (n t : Nat) : (Nat → Int32) × Int32 := seO (M.2 7) n t (cyN M n t) (cyD M n t).1 (M.2 8) 8
def cyP (M : sg_S) (n t : Nat) : Nat → Int32 := upd (upd (upd (upd (upd (M.2 9) 0 (cyA M n t).1) 1 (cyR M n t)) 2 (cyF M n t)) 3 (cyN M n t)) 4 (cyS M n t).2
/-- a mesh behind a cycle -/
def cyM (M : sg_S) (n t : Nat) : sg_S := (upd (upd M.1 3 (cyD M n t).2) 4 1, va_up (va_up (va_up (va_up M.2 10 (cyD M n t).1) 8 (cyS M n t).1) 6 (shL (M.2 7) n (cyA M n t).1 (cyS M n t).2 (M.2 6) n)) 9 (cyP M n t))
def frN (M : sg_S) (n c : Nat) : Nat → sg_S
  | 0 => M
  | k + 1 => cyM (frN M n c k) n (k / c)
section C2
variable {L : Nat} {xs : Nat → Int32} {h : am_H} {b n v s t : Nat} {M : sg_S}
theorem ok_changeShares (hb : b + 6 < h.1) (hn : M.1 0 = nI n) (h8 : n ≤ 8) (hk : ∀ v, v < 8 → sm (M.2 7 v)) {a se : Int32} : am_ok L xs m_X0_changeShares [.ref b, .int a, .int se] (ob sgM h b M) none (ob sgM h b (M.1, va_up M.2 6 (shL (M.2 7) n a se (M.2 6) n))) := by
  refine en_X0_changeShares (cM hb) rfl rfl (ch_X0_changeShares_0 ⟨_, _, ok_nearToAny hb hn h8, _, _, ok_hearing (k := 1) hb hn h8 hk (by omega), ?_⟩)
  have key := up_to (P := fun i => am_wa L xs m_X0_changeShares (ob sgM h b M) none (ob sgM h b (M.1, va_up M.2 6 (shL (M.2 7) n a se (M.2 6) n))) 23 [.ref b, .int a, .int se, .null, .int (joF (M.2 7) n se), .int (nI i)] [] (ob sgM h b (M.1, va_up M.2 6 (shL (M.2 7) n a se (M.2 6) i)))) n ?_ ?_ 0 (by omega)
  · simp only [shL, vu_id] at key
    exact key
  · refine ch_X0_changeShares_23 ?_
    simp only [cM hb, gM_0 hb, gM_1 hb, gM_2 hb, gM_3 hb, gM_4 hb, gM_5 hb, gM_6 hb, gM_7 hb, gM_8 hb, gM_9 hb, gM_10 hb, pM_0 hb, pM_1 hb, pM_2 hb, pM_3 hb, pM_4 hb, am_b_some, hn]
    rw [if_neg (nI_irr n)]
    (first | exact ⟨rfl, rfl⟩ | exact ⟨rfl, trivial⟩ | exact ⟨trivial, rfl⟩ | exact ⟨trivial, trivial⟩ | exact trivial)
  · intro i hi ih
    have hi8 : i < 8 := by omega
    refine ch_X0_changeShares_23 ?_
    simp only [cM hb, gM_0 hb, gM_1 hb, gM_2 hb, gM_3 hb, gM_4 hb, gM_5 hb, gM_6 hb, gM_7 hb, gM_8 hb, gM_9 hb, gM_10 hb, pM_0 hb, pM_1 hb, pM_2 hb, pM_3 hb, pM_4 hb, am_b_some, hn]
    rw [if_pos (nI_lt hi (by omega))]
    refine ⟨_, _, ok_has (by omega), br2 (fun c => ⟨_, _, ok_has (by omega), br2 (fun d => ?_) (fun d => ?_)⟩) (fun c => ⟨_, _, ok_has (by omega), br2 (fun d => ?_) (fun d => ?_)⟩)⟩
    · rw [bz_ne] at c d
      simp only [shL, c, d] at ih
      rw [← nI_succ]
      exact ih
    · rw [bz_ne] at c d
      simp only [cM hb, gM_0 hb, gM_1 hb, gM_2 hb, gM_3 hb, gM_4 hb, gM_5 hb, gM_6 hb, gM_7 hb, gM_8 hb, gM_9 hb, gM_10 hb, pM_0 hb, pM_1 hb, pM_2 hb, pM_3 hb, pM_4 hb, lM_5 hb hi8, sM_5 hb hi8, lM_6 hb hi8, sM_6 hb hi8, lM_7 hb hi8, sM_7 hb hi8, lM_8 hb hi8, sM_8 hb hi8, lM_10 hb hi8, sM_10 hb hi8, am_b_some, vu_at, vu_vu]
      simp only [shL, c, show bt (joF (M.2 7) n se) i = true by simpa using d, if_true] at ih
      rw [← nI_succ]
      exact ih
    · rw [bz_ne] at c d
      simp only [cM hb, gM_0 hb, gM_1 hb, gM_2 hb, gM_3 hb, gM_4 hb, gM_5 hb, gM_6 hb, gM_7 hb, gM_8 hb, gM_9 hb, gM_10 hb, pM_0 hb, pM_1 hb, pM_2 hb, pM_3 hb, pM_4 hb, lM_5 hb hi8, sM_5 hb hi8, lM_6 hb hi8, sM_6 hb hi8, lM_7 hb hi8, sM_7 hb hi8, lM_8 hb hi8, sM_8 hb hi8, lM_10 hb hi8, sM_10 hb hi8, am_b_some, vu_at, vu_vu]
      simp only [shL, show bt a i = true by simpa using c, d, if_true] at ih
      rw [← nI_succ]
      exact ⟨by decide +kernel, ih⟩
    · rw [bz_ne] at c d
      simp only [shL, show bt a i = true by simpa using c, show bt se i = true by simpa using d, if_true] at ih
      rw [← nI_succ]
      exact ih
theorem ok_runCycle (hb : b + 6 < h.1) (hn : M.1 0 = nI n) (h8 : n ≤ 8) (hk : ∀ v, v < 8 → sm (M.2 7 v)) (hh : ∀ v, v < 8 → sm (M.2 8 v)) (ht : t < 4) : am_ok L xs m_X0_runCycle [.ref b, .int (nI t)] (ob sgM h b M) none (ob sgM h b (cyM M n t)) := by
  obtain ⟨M1, e1⟩ : ∃ M1 : sg_S, M1 = (upd M.1 3 (cyA M n t).2, M.2) := ⟨_, rfl⟩
  have hn1 : M1.1 0 = nI n := by rw [e1]; exact hn
  have hk1 : ∀ v, v < 8 → sm (M1.2 7 v) := by rw [e1]; exact hk
  refine en_X0_runCycle (cM hb) rfl rfl (ch_X0_runCycle_0 ⟨_, _, ok_contenders hb hn h8 hh (by omega), _, ob sgM h b M1, by rw [e1]; exact ok_ask hb hn h8, _, _, ok_hearing (k := 2) hb hn1 h8 hk1 (by omega), _, _, ok_hearing (k := 1) hb hn1 h8 hk1 (by omega), _, _, ok_hearing (k := 1) hb hn1 h8 hk1 (by omega), _, _, ok_settle hb hn1 h8 ht, ?_⟩)
  subst e1
  refine ⟨_, ok_changeShares (M := (upd (upd M.1 3 (cyA M n t).2) 3 (cyD M n t).2, va_up (va_up M.2 10 (cyD M n t).1) 8 (cyS M n t).1)) hb hn h8 hk, Or.inr rfl, ?_⟩
  have z0 : (0 : Int32) = nI 0 := rfl
  have z1 : (1 : Int32) = nI 1 := rfl
  have z2 : (2 : Int32) = nI 2 := rfl
  have z3 : (3 : Int32) = nI 3 := rfl
  have z4 : (4 : Int32) = nI 4 := rfl
  have s0 : ∀ {S : sg_S} {x : Int32}, am_sI (ob sgM h b S) .int (b + 5) 0 x = some (ob sgM h b (S.1, va_up S.2 9 (upd (S.2 9) 0 x))) := fun {S x} => sM_9 (i := 0) hb (by omega)
  have s1 : ∀ {S : sg_S} {x : Int32}, am_sI (ob sgM h b S) .int (b + 5) 1 x = some (ob sgM h b (S.1, va_up S.2 9 (upd (S.2 9) 1 x))) := fun {S x} => sM_9 (i := 1) hb (by omega)
  have s2 : ∀ {S : sg_S} {x : Int32}, am_sI (ob sgM h b S) .int (b + 5) 2 x = some (ob sgM h b (S.1, va_up S.2 9 (upd (S.2 9) 2 x))) := fun {S x} => sM_9 (i := 2) hb (by omega)
  have s3 : ∀ {S : sg_S} {x : Int32}, am_sI (ob sgM h b S) .int (b + 5) 3 x = some (ob sgM h b (S.1, va_up S.2 9 (upd (S.2 9) 3 x))) := fun {S x} => sM_9 (i := 3) hb (by omega)
  have s4 : ∀ {S : sg_S} {x : Int32}, am_sI (ob sgM h b S) .int (b + 5) 4 x = some (ob sgM h b (S.1, va_up S.2 9 (upd (S.2 9) 4 x))) := fun {S x} => sM_9 (i := 4) hb (by omega)
  simp only [cM hb, gM_0 hb, gM_1 hb, gM_2 hb, gM_3 hb, gM_4 hb, gM_5 hb, gM_6 hb, gM_7 hb, gM_8 hb, gM_9 hb, gM_10 hb, pM_0 hb, pM_1 hb, pM_2 hb, pM_3 hb, pM_4 hb, am_b_some, s0, s1, s2, s3, s4, vu_vu, vu_at, upd_upd]
  refine ⟨trivial, ?_⟩
  first | trivial | rfl
theorem ok_runFrame (hb : b + 6 < h.1) {m c : Nat} (h1 : M.1 1 = nI m) (hm : m ≤ 4) (h2 : M.1 2 = nI c) (hc : 1 ≤ c) (hc5 : c ≤ 5) (hr : ∀ k, k < m * c → am_ok L xs m_X0_runCycle [.ref b, .int (nI (k / c))] (ob sgM h b (frN M n c k)) none (ob sgM h b (frN M n c (k + 1)))) (hf : ∀ k, k ≤ m * c → (frN M n c k).1 1 = M.1 1 ∧ (frN M n c k).1 2 = M.1 2) : am_ok L xs m_X0_runFrame [.ref b] (ob sgM h b M) none (ob sgM h b (frN M n c (m * c))) := by
  refine en_X0_runFrame (cM hb) rfl rfl (ch_X0_runFrame_0 ?_)
  have key := up_to (P := fun i => am_wa L xs m_X0_runFrame (ob sgM h b M) none (ob sgM h b (frN M n c (m * c))) 2 [.ref b, .int (nI i), .null] [] (ob sgM h b (frN M n c (i * c)))) m ?_ ?_ 0 (by omega)
  · rw [Nat.zero_mul] at key
    exact key
  · refine ch_X0_runFrame_2 ?_
    simp only [cM hb, gM_0 hb, gM_1 hb, gM_2 hb, gM_3 hb, gM_4 hb, gM_5 hb, gM_6 hb, gM_7 hb, gM_8 hb, gM_9 hb, gM_10 hb, pM_0 hb, pM_1 hb, pM_2 hb, pM_3 hb, pM_4 hb, am_b_some, (hf _ (Nat.le_refl _)).1, h1]
    rw [if_neg (nI_irr m)]
    (first | exact ⟨rfl, rfl⟩ | exact ⟨rfl, trivial⟩ | exact ⟨trivial, rfl⟩ | exact ⟨trivial, trivial⟩ | exact trivial)
  · intro i hi ih
    have hic : i * c + c ≤ m * c := by
      have := Nat.mul_le_mul_right c (show i + 1 ≤ m by omega)
      rw [Nat.succ_mul] at this
      exact this
    refine ch_X0_runFrame_2 ?_
    simp only [cM hb, gM_0 hb, gM_1 hb, gM_2 hb, gM_3 hb, gM_4 hb, gM_5 hb, gM_6 hb, gM_7 hb, gM_8 hb, gM_9 hb, gM_10 hb, pM_0 hb, pM_1 hb, pM_2 hb, pM_3 hb, pM_4 hb, am_b_some, (hf _ (show i * c ≤ m * c by omega)).1, h1]
    rw [if_pos (nI_lt hi (by omega))]
    have inner := up_to (P := fun j => am_wa L xs m_X0_runFrame (ob sgM h b M) none (ob sgM h b (frN M n c (m * c))) 12 [.ref b, .int (nI i), .int (nI j)] [] (ob sgM h b (frN M n c (i * c + j)))) c ?_ ?_ 0 (by omega)
    · exact inner
    · refine ch_X0_runFrame_12 ?_
      simp only [cM hb, gM_0 hb, gM_1 hb, gM_2 hb, gM_3 hb, gM_4 hb, gM_5 hb, gM_6 hb, gM_7 hb, gM_8 hb, gM_9 hb, gM_10 hb, pM_0 hb, pM_1 hb, pM_2 hb, pM_3 hb, pM_4 hb, am_b_some, (hf _ (show i * c + c ≤ m * c by omega)).2, h2]
      rw [if_neg (nI_irr c), ← nI_succ]
      rw [Nat.succ_mul] at ih
      exact ih
    · intro j hj ihj
      refine ch_X0_runFrame_12 ?_
      simp only [cM hb, gM_0 hb, gM_1 hb, gM_2 hb, gM_3 hb, gM_4 hb, gM_5 hb, gM_6 hb, gM_7 hb, gM_8 hb, gM_9 hb, gM_10 hb, pM_0 hb, pM_1 hb, pM_2 hb, pM_3 hb, pM_4 hb, am_b_some, (hf _ (show i * c + j ≤ m * c by omega)).2, h2]
      rw [if_pos (nI_lt hj (by omega))]
      have e := hr (i * c + j) (by omega)
      have ed : (i * c + j) / c = i := by
        rw [Nat.mul_comm, Nat.mul_add_div (by omega), Nat.div_eq_of_lt hj, Nat.add_zero]
      rw [ed] at e
      refine ⟨_, e, ?_⟩
      rw [← nI_succ]
      exact ihj
def linkN (K : Nat → Int32) (n : Nat) : Nat := fb_sm (fun v => pop (K v)) n
theorem linkN_le (K : Nat → Int32) (n : Nat) : linkN K n ≤ n * 8 := fb_sm_bound (fun _ _ => pop_le _)
theorem nI_half {a : Nat} (ha : a < 2 ^ 31) : nI a / 2 = nI (a / 2) := pk_div (d := 2) ha (by omega) (by omega)
theorem ok_linkCount (hb : b + 6 < h.1) (hn : M.1 0 = nI n) (h8 : n ≤ 8) (hk : ∀ v, v < 8 → sm (M.2 7 v)) : am_ok L xs m_X0_linkCount [.ref b] (ob sgM h b M) (some (nI (linkN (M.2 7) n / 2))) (ob sgM h b M) := by
  refine en_X0_linkCount (cM hb) rfl rfl (ch_X0_linkCount_0 ?_)
  have key := up_to (P := fun i => am_wa L xs m_X0_linkCount (ob sgM h b M) (some (nI (linkN (M.2 7) n / 2))) (ob sgM h b M) 4 [.ref b, .int (nI (linkN (M.2 7) i)), .int (nI i)] [] (ob sgM h b M)) n ?_ ?_ 0 (by omega)
  · exact key
  · refine ch_X0_linkCount_4 ?_
    simp only [cM hb, gM_0 hb, gM_1 hb, gM_2 hb, gM_3 hb, gM_4 hb, gM_5 hb, gM_6 hb, gM_7 hb, gM_8 hb, gM_9 hb, gM_10 hb, pM_0 hb, pM_1 hb, pM_2 hb, pM_3 hb, pM_4 hb, am_b_some, hn]
    rw [if_neg (nI_irr n), nI_half (by have := linkN_le (M.2 7) n; omega)]
    refine ⟨by decide +kernel, ?_⟩
    (first | exact ⟨fit_i _, rfl, rfl⟩ | exact ⟨fit_i _, rfl, trivial⟩ | exact ⟨fit_i _, trivial, rfl⟩ | exact ⟨fit_i _, trivial, trivial⟩)
  · intro i hi ih
    have hi8 : i < 8 := by omega
    refine ch_X0_linkCount_4 ?_
    simp only [cM hb, gM_0 hb, gM_1 hb, gM_2 hb, gM_3 hb, gM_4 hb, gM_5 hb, gM_6 hb, gM_7 hb, gM_8 hb, gM_9 hb, gM_10 hb, pM_0 hb, pM_1 hb, pM_2 hb, pM_3 hb, pM_4 hb, lM_5 hb hi8, sM_5 hb hi8, lM_6 hb hi8, sM_6 hb hi8, lM_7 hb hi8, sM_7 hb hi8, lM_8 hb hi8, sM_8 hb hi8, lM_10 hb hi8, sM_10 hb hi8, am_b_some, hn]
    rw [if_pos (nI_lt hi (by omega))]
    refine ⟨_, _, ok_bitCount (hk i hi8), ?_⟩
    rw [nI_add, ← nI_succ]
    exact ih
def allC (Wt H : Nat → Int32) (n : Nat) : Bool := decide (∀ v, v < n → cov Wt H v = true)
theorem pop_bs {P : Nat → Bool} {n : Nat} (h8 : n ≤ 8) : pop (bs P n) = fb_ct P n := by
  unfold pop
  have e : fb_ct (bt (bs P n)) 8 = fb_ct (fun i => decide (i < n) && P i) 8 := fb_ct_cong (fun k hk => bt_bs P (by omega) (by omega))
  rw [e]
  obtain ⟨d, hd⟩ : ∃ d, 8 = n + d := ⟨8 - n, by omega⟩
  rw [hd, fb_ct_split]
  have e1 : fb_ct (fun i => decide (i < n) && P i) n = fb_ct P n := fb_ct_cong (fun k hk => by simp [hk])
  have e2 : fb_ct (fun k => decide (n + k < n) && P (n + k)) d = 0 := fb_ct_zero.mpr (fun k _ => by rw [decide_eq_false (by omega)]; rfl)
  rw [e1, e2, Nat.add_zero]
theorem ok_isDone (hb : b + 6 < h.1) (hn : M.1 0 = nI n) (h8 : n ≤ 8) (hh : ∀ v, v < 8 → sm (M.2 8 v)) : am_ok L xs m_X0_isDone [.ref b] (ob sgM h b M) (some (if allC (M.2 5) (M.2 8) n then 1 else 0)) (ob sgM h b M) := by
  refine en_X0_isDone (cM hb) rfl rfl (ch_X0_isDone_0 ⟨_, _, ok_covered hb hn h8 hh, _, _, ok_bitCount (sm_bs h8), ?_⟩)
  simp only [cM hb, gM_0 hb, gM_1 hb, gM_2 hb, gM_3 hb, gM_4 hb, gM_5 hb, gM_6 hb, gM_7 hb, gM_8 hb, gM_9 hb, gM_10 hb, pM_0 hb, pM_1 hb, pM_2 hb, pM_3 hb, pM_4 hb, am_b_some, hn, covered, pop_bs h8]
  have hle := fb_ct_le (cov (M.2 5) (M.2 8)) n
  refine br2 (fun c => ?_) (fun c => ?_)
  · rw [nI_eq (by omega) (by omega), fb_ct_all] at c
    rw [show allC (M.2 5) (M.2 8) n = true by simpa [allC] using c]
    (first | exact ⟨fit_1, rfl, rfl⟩ | exact ⟨fit_1, rfl, trivial⟩ | exact ⟨fit_1, trivial, rfl⟩ | exact ⟨fit_1, trivial, trivial⟩)
  · rw [nI_eq (by omega) (by omega), fb_ct_all] at c
    rw [show allC (M.2 5) (M.2 8) n = false by simpa [allC] using c]
    (first | exact ⟨fit_0, rfl, rfl⟩ | exact ⟨fit_0, rfl, trivial⟩ | exact ⟨fit_0, trivial, rfl⟩ | exact ⟨fit_0, trivial, trivial⟩)
end C2
end
section
/-! MESH: clashes, the fewest -/
def clG (K H : Nat → Int32) (n : Nat) (x : Int32) (u k : Nat) : Nat := if u < k ∧ bt (near K n u) k = true then pop ((H u &&& H k) &&& x) else 0
def clN (K H : Nat → Int32) (n : Nat) (x : Int32) : Nat := fb_sm (fun u => fb_sm (clG K H n x u) n) n
theorem clG_le (K H : Nat → Int32) (n : Nat) (x : Int32) (u k : Nat) : clG K H n x u k ≤ 8 := by
  unfold clG
  split
  · exact pop_le _
  · omega
theorem fb_sm_le8 {f : Nat → Nat} {c : Nat} (h : ∀ k, f k ≤ c) (n : Nat) : fb_sm f n ≤ n * c := fb_sm_bound (fun k _ => h k)
def tkL (K H : Nat → Int32) (n v : Nat) : Nat → Int32
  | 0 => 0
  | s + 1 => if bt (near K n v) s then tkL K H n v s ||| H s else tkL K H n v s
def lfG (x : Int32) : Nat → Nat → Nat
  | 0, k => k
  | f + 1, k => if bt x k then lfG x f (k + 1) else k
theorem lfG_le (x : Int32) : ∀ f k, lfG x f k ≤ k + f := by
  intro f
  induction f with
  | zero => intro k; exact Nat.le_refl _
  | succ f ih =>
    intro k
    unfold lfG
    split
    · have := ih (k + 1); omega
    · omega
def daL (K Wt : Nat → Int32) (n : Nat) (H : Nat → Int32) : Nat → (Nat → Int32) × Nat
  | 0 => (H, 0)
  | s + 1 => if 0 < Wt s then (upd (daL K Wt n H s).1 s ((1 : Int32) <<< (nI (lfG (tkL K (daL K Wt n H s).1 n s n) 8 0) &&& 31)), max (daL K Wt n H s).2 (lfG (tkL K (daL K Wt n H s).1 n s n) 8 0 + 1)) else daL K Wt n H s
theorem daL_le (K Wt : Nat → Int32) (n : Nat) (H : Nat → Int32) : ∀ s, (daL K Wt n H s).2 ≤ 9 := by
  intro s
  induction s with
  | zero => exact Nat.zero_le _
  | succ s ih =>
    unfold daL
    split
    · have := lfG_le (tkL K (daL K Wt n H s).1 n s n) 8 0
      show max _ _ ≤ 9
      omega
    · exact ih
theorem nI_max {a c : Nat} (ha : a < 2 ^ 31) (hc : c < 2 ^ 31) : (if nI a < nI c then nI c else nI a) = nI (max a c) := by
  rcases Nat.lt_or_ge a c with z | z
  · rw [if_pos (nI_lt z hc), Nat.max_eq_right (by omega)]
  · rw [if_neg (nI_nlt z ha), Nat.max_eq_left z]
section CL
variable {L : Nat} {xs : Nat → Int32} {h : am_H} {b n v s t : Nat} {M : sg_S}
theorem ok_clashesBy (hb : b + 6 < h.1) (hn : M.1 0 = nI n) (h8 : n ≤ 8) (hh : ∀ v, v < 8 → sm (M.2 8 v)) {x : Int32} : am_ok L xs m_X0_clashesBy [.ref b, .int x] (ob sgM h b M) (some (nI (clN (M.2 7) (M.2 8) n x))) (ob sgM h b M) := by
  refine en_X0_clashesBy (cM hb) rfl rfl (ch_X0_clashesBy_0 ?_)
  generalize hR : some (nI (clN (M.2 7) (M.2 8) n x)) = R
  have key := up_to (P := fun i => am_wa L xs m_X0_clashesBy (ob sgM h b M) R (ob sgM h b M) 4 [.ref b, .int x, .int (nI (fb_sm (fun u => fb_sm (clG (M.2 7) (M.2 8) n x u) n) i)), .int (nI i), .null, .null] [] (ob sgM h b M)) n ?_ ?_ 0 (by omega)
  · exact key
  · refine ch_X0_clashesBy_4 ?_
    simp only [cM hb, gM_0 hb, gM_1 hb, gM_2 hb, gM_3 hb, gM_4 hb, gM_5 hb, gM_6 hb, gM_7 hb, gM_8 hb, gM_9 hb, gM_10 hb, pM_0 hb, pM_1 hb, pM_2 hb, pM_3 hb, pM_4 hb, am_b_some, hn]
    rw [if_neg (nI_irr n)]
    first | exact ⟨fit_i _, hR, rfl⟩ | exact ⟨fit_i _, hR, trivial⟩
  · intro i hi ih
    have hi8 : i < 8 := by omega
    refine ch_X0_clashesBy_4 ?_
    simp only [cM hb, gM_0 hb, gM_1 hb, gM_2 hb, gM_3 hb, gM_4 hb, gM_5 hb, gM_6 hb, gM_7 hb, gM_8 hb, gM_9 hb, gM_10 hb, pM_0 hb, pM_1 hb, pM_2 hb, pM_3 hb, pM_4 hb, am_b_some, hn]
    rw [if_pos (nI_lt hi (by omega))]
    refine ⟨_, _, ok_near hb hn h8 hi8, ?_⟩
    have inner := up_to (P := fun j => i < j → am_wa L xs m_X0_clashesBy (ob sgM h b M) R (ob sgM h b M) 24 [.ref b, .int x, .int (nI (fb_sm (fun u => fb_sm (clG (M.2 7) (M.2 8) n x u) n) i + fb_sm (clG (M.2 7) (M.2 8) n x i) j)), .int (nI i), .int (near (M.2 7) n i), .int (nI j)] [] (ob sgM h b M)) n ?_ ?_ (i + 1) (by omega) (by omega)
    · have e0 : fb_sm (clG (M.2 7) (M.2 8) n x i) (i + 1) = 0 := by
        have := fb_sm_bound (f := clG (M.2 7) (M.2 8) n x i) (c := 0) (n := i + 1) (fun k hk => by unfold clG; rw [if_neg (by omega)]; exact Nat.le_refl _)
        omega
      rw [e0, Nat.add_zero, nI_succ i] at inner
      exact inner
    · intro _
      refine ch_X0_clashesBy_24 ?_
      simp only [cM hb, gM_0 hb, gM_1 hb, gM_2 hb, gM_3 hb, gM_4 hb, gM_5 hb, gM_6 hb, gM_7 hb, gM_8 hb, gM_9 hb, gM_10 hb, pM_0 hb, pM_1 hb, pM_2 hb, pM_3 hb, pM_4 hb, am_b_some, hn]
      rw [if_neg (nI_irr n), ← nI_succ]
      exact ih
    · intro j hj ihj hij
      have hj8 : j < 8 := by omega
      have ihj' := ihj (by omega)
      refine ch_X0_clashesBy_24 ?_
      simp only [cM hb, gM_0 hb, gM_1 hb, gM_2 hb, gM_3 hb, gM_4 hb, gM_5 hb, gM_6 hb, gM_7 hb, gM_8 hb, gM_9 hb, gM_10 hb, pM_0 hb, pM_1 hb, pM_2 hb, pM_3 hb, pM_4 hb, am_b_some, hn]
      rw [if_pos (nI_lt hj (by omega))]
      refine ⟨_, _, ok_has (by omega), br2 (fun c => ?_) (fun c => ?_)⟩
      · rw [bz_ne] at c
        rw [fb_sm_succ, show clG (M.2 7) (M.2 8) n x i j = 0 by unfold clG; rw [if_neg (by rw [c]; simp)], Nat.add_zero] at ihj'
        rw [← nI_succ]
        exact ihj'
      · rw [bz_ne] at c
        simp only [cM hb, gM_0 hb, gM_1 hb, gM_2 hb, gM_3 hb, gM_4 hb, gM_5 hb, gM_6 hb, gM_7 hb, gM_8 hb, gM_9 hb, gM_10 hb, pM_0 hb, pM_1 hb, pM_2 hb, pM_3 hb, pM_4 hb, lM_5 hb hi8, sM_5 hb hi8, lM_6 hb hi8, sM_6 hb hi8, lM_7 hb hi8, sM_7 hb hi8, lM_8 hb hi8, sM_8 hb hi8, lM_10 hb hi8, sM_10 hb hi8, lM_5 hb hj8, sM_5 hb hj8, lM_6 hb hj8, sM_6 hb hj8, lM_7 hb hj8, sM_7 hb hj8, lM_8 hb hj8, sM_8 hb hj8, lM_10 hb hj8, sM_10 hb hj8, am_b_some]
        refine ⟨_, _, ok_bitCount (sm_and (sm_and (hh i hi8))), ?_⟩
        rw [fb_sm_succ, show clG (M.2 7) (M.2 8) n x i j = pop ((M.2 8 i &&& M.2 8 j) &&& x) by unfold clG; rw [if_pos ⟨hij, by simpa using c⟩]] at ihj'
        rw [← nI_succ, nI_add, Nat.add_assoc]
        exact ihj'
theorem ok_clashes (hb : b + 6 < h.1) (hn : M.1 0 = nI n) (h8 : n ≤ 8) {m : Nat} (hm : M.1 1 = nI m) (hh : ∀ v, v < 8 → sm (M.2 8 v)) : am_ok L xs m_X0_clashes [.ref b] (ob sgM h b M) (some (nI (clN (M.2 7) (M.2 8) n (((1 : Int32) <<< (nI m &&& 31)) - 1)))) (ob sgM h b M) := by
  refine en_X0_clashes (cM hb) rfl rfl (ch_X0_clashes_0 ?_)
  simp only [cM hb, gM_0 hb, gM_1 hb, gM_2 hb, gM_3 hb, gM_4 hb, gM_5 hb, gM_6 hb, gM_7 hb, gM_8 hb, gM_9 hb, gM_10 hb, pM_0 hb, pM_1 hb, pM_2 hb, pM_3 hb, pM_4 hb, am_b_some, hm]
  refine ⟨_, _, ok_clashesBy hb hn h8 hh, ?_⟩
  (first | exact ⟨fit_i _, rfl, rfl⟩ | exact ⟨fit_i _, rfl, trivial⟩ | exact ⟨fit_i _, trivial, rfl⟩ | exact ⟨fit_i _, trivial, trivial⟩)
theorem ok_leastFree (hb : b + 6 < h.1) (hn : M.1 0 = nI n) (h8 : n ≤ 8) (hv : v < 8) : am_ok L xs m_X0_leastFree [.ref b, .int (nI v)] (ob sgM h b M) (some (nI (lfG (tkL (M.2 7) (M.2 8) n v n) 8 0))) (ob sgM h b M) := by
  refine en_X0_leastFree (cM hb) rfl rfl (ch_X0_leastFree_0 ⟨_, _, ok_near hb hn h8 hv, ?_⟩)
  generalize hR : some (nI (lfG (tkL (M.2 7) (M.2 8) n v n) 8 0)) = R
  have key := up_to (P := fun i => am_wa L xs m_X0_leastFree (ob sgM h b M) R (ob sgM h b M) 11 [.ref b, .null, .int (near (M.2 7) n v), .int (tkL (M.2 7) (M.2 8) n v i), .int (nI i)] [] (ob sgM h b M)) n ?_ ?_ 0 (by omega)
  · exact key
  · refine ch_X0_leastFree_11 ?_
    simp only [cM hb, gM_0 hb, gM_1 hb, gM_2 hb, gM_3 hb, gM_4 hb, gM_5 hb, gM_6 hb, gM_7 hb, gM_8 hb, gM_9 hb, gM_10 hb, pM_0 hb, pM_1 hb, pM_2 hb, pM_3 hb, pM_4 hb, am_b_some, hn]
    rw [if_neg (nI_irr n)]
    generalize tkL (M.2 7) (M.2 8) n v n = x at hR ⊢
    have inner := up_to (P := fun k => lfG x 8 0 = lfG x (8 - k) k → am_wa L xs m_X0_leastFree (ob sgM h b M) R (ob sgM h b M) 48 [.null, .null, .null, .int x, .int (nI k)] [] (ob sgM h b M)) 8 ?_ ?_ 0 (by omega) rfl
    · exact inner
    · intro e
      refine ch_X0_leastFree_48 ?_
      rw [if_neg (by decide +kernel)]
      exact ⟨fit_i _, by rw [← hR, e]; rfl, rfl⟩
    · intro k hk ih e
      refine ch_X0_leastFree_48 ?_
      rw [if_pos (show nI k < 8 from nI_lt (b := 8) hk (by omega))]
      rw [show 8 - k = (8 - (k + 1)) + 1 by omega] at e
      refine ⟨_, _, ok_has (by omega), br2 (fun c => ?_) (fun c => ?_)⟩
      · rw [bz_ne] at c
        have e2 : lfG x (8 - (k + 1) + 1) k = k := by unfold lfG; rw [c]; rfl
        exact ⟨fit_i _, by rw [← hR, e, e2], rfl⟩
      · rw [bz_ne] at c
        have e2 : lfG x (8 - (k + 1) + 1) k = lfG x (8 - (k + 1)) (k + 1) := by
          show (if _ then _ else _) = _
          rw [if_pos (by simpa using c)]
        rw [← nI_succ]
        exact ih (e.trans e2)
  · intro i hi ih
    have hi8 : i < 8 := by omega
    refine ch_X0_leastFree_11 ?_
    simp only [cM hb, gM_0 hb, gM_1 hb, gM_2 hb, gM_3 hb, gM_4 hb, gM_5 hb, gM_6 hb, gM_7 hb, gM_8 hb, gM_9 hb, gM_10 hb, pM_0 hb, pM_1 hb, pM_2 hb, pM_3 hb, pM_4 hb, am_b_some, hn]
    rw [if_pos (nI_lt hi (by omega))]
    refine ⟨_, _, ok_has (by omega), br2 (fun c => ?_) (fun c => ?_)⟩
    · rw [bz_ne] at c
      simp only [tkL, c] at ih
      rw [← nI_succ]
      exact ih
    · rw [bz_ne] at c
      simp only [cM hb, gM_0 hb, gM_1 hb, gM_2 hb, gM_3 hb, gM_4 hb, gM_5 hb, gM_6 hb, gM_7 hb, gM_8 hb, gM_9 hb, gM_10 hb, pM_0 hb, pM_1 hb, pM_2 hb, pM_3 hb, pM_4 hb, lM_5 hb hi8, sM_5 hb hi8, lM_6 hb hi8, sM_6 hb hi8, lM_7 hb hi8, sM_7 hb hi8, lM_8 hb hi8, sM_8 hb hi8, lM_10 hb hi8, sM_10 hb hi8, am_b_some]
      simp only [tkL, show bt (near (M.2 7) n v) i = true by simpa using c, if_true] at ih
      rw [← nI_succ]
      exact ih
theorem ok_deal (hb : b + 6 < h.1) (hn : M.1 0 = nI n) (h8 : n ≤ 8) : am_ok L xs m_X0_dealOneSlotEach [.ref b] (ob sgM h b M) (some (nI (daL (M.2 7) (M.2 5) n (fillF 8 0 (M.2 8)) n).2)) (ob sgM h b (M.1, va_up M.2 8 (daL (M.2 7) (M.2 5) n (fillF 8 0 (M.2 8)) n).1)) := by
  refine en_X0_dealOneSlotEach (cM hb) rfl rfl (ch_X0_dealOneSlotEach_0 ?_)
  simp only [cM hb, gM_0 hb, gM_1 hb, gM_2 hb, gM_3 hb, gM_4 hb, gM_5 hb, gM_6 hb, gM_7 hb, gM_8 hb, gM_9 hb, gM_10 hb, pM_0 hb, pM_1 hb, pM_2 hb, pM_3 hb, pM_4 hb, am_b_some]
  refine ⟨_, ok_fill (σ := sgM) (k := 8) (j := 3) (n := 8) rfl rfl (by decide) (by decide) (by decide) (by omega), ?_⟩
  have key := up_to (P := fun i => am_wa L xs m_X0_dealOneSlotEach (ob sgM h b M) (some (nI (daL (M.2 7) (M.2 5) n (fillF 8 0 (M.2 8)) n).2)) (ob sgM h b (M.1, va_up M.2 8 (daL (M.2 7) (M.2 5) n (fillF 8 0 (M.2 8)) n).1)) 12 [.ref b, .int (nI (daL (M.2 7) (M.2 5) n (fillF 8 0 (M.2 8)) i).2), .int (nI i), .null] [] (ob sgM h b (M.1, va_up M.2 8 (daL (M.2 7) (M.2 5) n (fillF 8 0 (M.2 8)) i).1))) n ?_ ?_ 0 (by omega)
  · exact key
  · refine ch_X0_dealOneSlotEach_12 ?_
    simp only [cM hb, gM_0 hb, gM_1 hb, gM_2 hb, gM_3 hb, gM_4 hb, gM_5 hb, gM_6 hb, gM_7 hb, gM_8 hb, gM_9 hb, gM_10 hb, pM_0 hb, pM_1 hb, pM_2 hb, pM_3 hb, pM_4 hb, am_b_some, hn]
    rw [if_neg (nI_irr n)]
    (first | exact ⟨fit_i _, rfl, rfl⟩ | exact ⟨fit_i _, rfl, trivial⟩ | exact ⟨fit_i _, trivial, rfl⟩ | exact ⟨fit_i _, trivial, trivial⟩)
  · intro i hi ih
    have hi8 : i < 8 := by omega
    refine ch_X0_dealOneSlotEach_12 ?_
    simp only [cM hb, gM_0 hb, gM_1 hb, gM_2 hb, gM_3 hb, gM_4 hb, gM_5 hb, gM_6 hb, gM_7 hb, gM_8 hb, gM_9 hb, gM_10 hb, pM_0 hb, pM_1 hb, pM_2 hb, pM_3 hb, pM_4 hb, lM_5 hb hi8, sM_5 hb hi8, lM_6 hb hi8, sM_6 hb hi8, lM_7 hb hi8, sM_7 hb hi8, lM_8 hb hi8, sM_8 hb hi8, lM_10 hb hi8, sM_10 hb hi8, am_b_some, hn, vu_ne _ _ (show ¬ 5 = 8 by decide)]
    rw [if_pos (nI_lt hi (by omega))]
    refine br2 (fun c => ?_) (fun c => ?_)
    · refine ⟨_, _, ok_leastFree (M := (M.1, va_up M.2 8 (daL (M.2 7) (M.2 5) n (fillF 8 0 (M.2 8)) i).1)) hb hn h8 hi8, ?_⟩
      simp only [vu_at, vu_ne _ _ (show ¬ 7 = 8 by decide)]
      have q1 := daL_le (M.2 7) (M.2 5) n (fillF 8 0 (M.2 8)) i
      have q2 := lfG_le (tkL (M.2 7) (daL (M.2 7) (M.2 5) n (fillF 8 0 (M.2 8)) i).1 n i n) 8 0
      simp only [daL, if_pos c] at ih
      simp only [cM hb, gM_0 hb, gM_1 hb, gM_2 hb, gM_3 hb, gM_4 hb, gM_5 hb, gM_6 hb, gM_7 hb, gM_8 hb, gM_9 hb, gM_10 hb, pM_0 hb, pM_1 hb, pM_2 hb, pM_3 hb, pM_4 hb, lM_5 hb hi8, sM_5 hb hi8, lM_6 hb hi8, sM_6 hb hi8, lM_7 hb hi8, sM_7 hb hi8, lM_8 hb hi8, sM_8 hb hi8, lM_10 hb hi8, sM_10 hb hi8, am_b_some, vu_at, vu_vu]
      rw [← nI_succ, ← nI_succ, nI_max (by omega) (by omega)]
      exact ih
    · simp only [daL, if_neg c] at ih
      rw [← nI_succ]
      exact ih
end CL
end
section
/-! TALLY: the class's -/
def tsum (f : Nat → Int32) : Nat → Int32
  | 0 => 0
  | i + 1 => tsum f i + f i
def tgr (f : Nat → Int32) : Nat → Int32
  | 0 => f 0
  | j + 1 => if tgr f j < f (j + 1) then f (j + 1) else tgr f j
def tle (f : Nat → Int32) : Nat → Int32
  | 0 => f 0
  | j + 1 => if f (j + 1) < tle f j then f (j + 1) else tle f j
def tsw (f : Nat → Int32) : Nat → Int32
  | 0 => 0
  | i + 1 => if i % 2 = 0 then tsw f i + ((nI i + 1) * f i) else tsw f i + ((-(nI i + 1)) * f i)
def fillG (k : Nat) (g f : Nat → Int32) : Nat → Int32 := fun i => if i < k then g i else f i
theorem fillG_0 (g f : Nat → Int32) : fillG 0 g f = f := by funext i; simp [fillG]
theorem fillG_s (k : Nat) (g f : Nat → Int32) : upd (fillG k g f) k (g k) = fillG (k + 1) g f := by
  funext i
  unfold upd fillG
  by_cases e : i = k
  · simp [e]
  · by_cases e2 : i < k
    · simp [e, e2, show i < k + 1 by omega]
    · simp [e, e2, show ¬ i < k + 1 by omega]
theorem fillG_at (k : Nat) (g f : Nat → Int32) : fillG k g f k = f k := by simp [fillG]
def heldF (a : Int32) : Int32 := if (-999 : Int32) < (if a < 999 then a else 999) then (if a < 999 then a else 999) else -999
theorem nI_mod2 {i : Nat} (hi : i < 2 ^ 31) : (nI i - nI i / 2 * 2 = 0) ↔ i % 2 = 0 := by
  have e : nI i - nI i / nI 2 * nI 2 = nI (i % 2) := pk_rem hi (by omega) (by omega)
  have e2 : nI i - nI i / 2 * 2 = nI (i % 2) := e
  rw [e2, ← nI_0, nI_eq (by omega) (by omega)]
theorem nI_m1 {k : Nat} : nI (k + 1) - 1 = nI k := nI_pred k
section TA
variable {L : Nat} {xs : Nat → Int32} {h : am_H} {b c k : Nat} {T U : sg_S}
theorem ok_held {a : Int32} : am_ok L xs m_X2_held [.int a] h (some (heldF a)) h := en_X2_held rfl rfl (ch_X2_held_0 ⟨fit_i _, rfl, rfl⟩)
theorem ok_lose (hb : b + 1 < h.1) : am_ok L xs m_X2_lose [.ref b] (ob sgT h b T) none (ob sgT h b (upd (upd T.1 2 1) 1 0, T.2)) := by
  refine en_X2_lose (cT hb) rfl rfl (ch_X2_lose_0 ⟨Or.inr rfl, ?_⟩)
  simp only [cT hb, gT_0 hb, gT_1 hb, gT_2 hb, pT_1 hb, pT_2 hb, am_b_some]
  (first | exact ⟨rfl, rfl⟩ | exact ⟨rfl, trivial⟩ | exact ⟨trivial, rfl⟩ | exact ⟨trivial, trivial⟩ | exact trivial)
theorem ok_beginT (hb : b + 1 < h.1) {s x y z : Int32} : am_ok L xs m_X2_begin [.ref b, .int s, .int x, .int y, .int z] (ob sgT h b T) none (ob sgT h b (upd (upd T.1 2 0) 1 s, va_up T.2 0 (upd (upd (upd (T.2 0) 0 x) 1 y) 2 z))) := by
  refine en_X2_begin (cT hb) rfl rfl (ch_X2_begin_0 ⟨Or.inl rfl, ?_⟩)
  have s0 : ∀ {S : sg_S} {x : Int32}, am_sI (ob sgT h b S) .int (b + 1) 0 x = some (ob sgT h b (S.1, va_up S.2 0 (upd (S.2 0) 0 x))) := fun {S x} => sT_0 (i := 0) hb (by omega)
  have s1 : ∀ {S : sg_S} {x : Int32}, am_sI (ob sgT h b S) .int (b + 1) 1 x = some (ob sgT h b (S.1, va_up S.2 0 (upd (S.2 0) 1 x))) := fun {S x} => sT_0 (i := 1) hb (by omega)
  have s2 : ∀ {S : sg_S} {x : Int32}, am_sI (ob sgT h b S) .int (b + 1) 2 x = some (ob sgT h b (S.1, va_up S.2 0 (upd (S.2 0) 2 x))) := fun {S x} => sT_0 (i := 2) hb (by omega)
  simp only [cT hb, gT_0 hb, gT_1 hb, gT_2 hb, pT_1 hb, pT_2 hb, am_b_some, s0, s1, s2, vu_vu, vu_at]
  (first | exact ⟨rfl, rfl⟩ | exact ⟨rfl, trivial⟩ | exact ⟨trivial, rfl⟩ | exact ⟨trivial, trivial⟩ | exact trivial)
theorem ok_sum (hb : b + 1 < h.1) (hk : T.1 1 = nI k) (h8 : k ≤ 8) : am_ok L xs m_X2_sum [.ref b] (ob sgT h b T) (some (tsum (T.2 0) k)) (ob sgT h b T) := by
  refine en_X2_sum (cT hb) rfl rfl (ch_X2_sum_0 ?_)
  have key := up_to (P := fun i => am_wa L xs m_X2_sum (ob sgT h b T) (some (tsum (T.2 0) k)) (ob sgT h b T) 4 [.ref b, .int (tsum (T.2 0) i), .int (nI i)] [] (ob sgT h b T)) k ?_ ?_ 0 (by omega)
  · exact key
  · refine ch_X2_sum_4 ?_
    simp only [cT hb, gT_0 hb, gT_1 hb, gT_2 hb, pT_1 hb, pT_2 hb, am_b_some, hk]
    rw [if_neg (nI_irr k)]
    (first | exact ⟨fit_i _, rfl, rfl⟩ | exact ⟨fit_i _, rfl, trivial⟩ | exact ⟨fit_i _, trivial, rfl⟩ | exact ⟨fit_i _, trivial, trivial⟩)
  · intro i hi ih
    have hi8 : i < 8 := by omega
    refine ch_X2_sum_4 ?_
    simp only [cT hb, gT_0 hb, gT_1 hb, gT_2 hb, pT_1 hb, pT_2 hb, lT_0 hb hi8, sT_0 hb hi8, am_b_some, hk]
    rw [if_pos (nI_lt hi (by omega)), ← nI_succ]
    exact ih
theorem ok_greatest (hb : b + 1 < h.1) (hk : T.1 1 = nI (k + 1)) (h8 : k + 1 ≤ 8) : am_ok L xs m_X2_greatest [.ref b] (ob sgT h b T) (some (tgr (T.2 0) k)) (ob sgT h b T) := by
  have l0 : am_lI (ob sgT h b T) .int (b + 1) 0 = some (T.2 0 0) := lT_0 (i := 0) hb (by omega)
  refine en_X2_greatest (cT hb) rfl rfl (ch_X2_greatest_0 ?_)
  simp only [cT hb, gT_0 hb, gT_1 hb, gT_2 hb, pT_1 hb, pT_2 hb, am_b_some, l0]
  have key := up_to (P := fun j => am_wa L xs m_X2_greatest (ob sgT h b T) (some (tgr (T.2 0) k)) (ob sgT h b T) 9 [.ref b, .int (tgr (T.2 0) j), .int (nI (j + 1))] [] (ob sgT h b T)) k ?_ ?_ 0 (by omega)
  · exact key
  · refine ch_X2_greatest_9 ?_
    simp only [cT hb, gT_0 hb, gT_1 hb, gT_2 hb, pT_1 hb, pT_2 hb, am_b_some, hk]
    rw [if_neg (nI_irr (k + 1))]
    (first | exact ⟨fit_i _, rfl, rfl⟩ | exact ⟨fit_i _, rfl, trivial⟩ | exact ⟨fit_i _, trivial, rfl⟩ | exact ⟨fit_i _, trivial, trivial⟩)
  · intro j hj ih
    have hi8 : j + 1 < 8 := by omega
    refine ch_X2_greatest_9 ?_
    simp only [cT hb, gT_0 hb, gT_1 hb, gT_2 hb, pT_1 hb, pT_2 hb, lT_0 hb hi8, sT_0 hb hi8, am_b_some, hk]
    rw [if_pos (nI_lt (show j + 1 < k + 1 by omega) (by omega)), ← nI_succ (j + 1)]
    exact ih
theorem ok_least (hb : b + 1 < h.1) (hk : T.1 1 = nI (k + 1)) (h8 : k + 1 ≤ 8) : am_ok L xs m_X2_least [.ref b] (ob sgT h b T) (some (tle (T.2 0) k)) (ob sgT h b T) := by
  have l0 : am_lI (ob sgT h b T) .int (b + 1) 0 = some (T.2 0 0) := lT_0 (i := 0) hb (by omega)
  refine en_X2_least (cT hb) rfl rfl (ch_X2_least_0 ?_)
  simp only [cT hb, gT_0 hb, gT_1 hb, gT_2 hb, pT_1 hb, pT_2 hb, am_b_some, l0]
  have key := up_to (P := fun j => am_wa L xs m_X2_least (ob sgT h b T) (some (tle (T.2 0) k)) (ob sgT h b T) 9 [.ref b, .int (tle (T.2 0) j), .int (nI (j + 1))] [] (ob sgT h b T)) k ?_ ?_ 0 (by omega)
  · exact key
  · refine ch_X2_least_9 ?_
    simp only [cT hb, gT_0 hb, gT_1 hb, gT_2 hb, pT_1 hb, pT_2 hb, am_b_some, hk]
    rw [if_neg (nI_irr (k + 1))]
    (first | exact ⟨fit_i _, rfl, rfl⟩ | exact ⟨fit_i _, rfl, trivial⟩ | exact ⟨fit_i _, trivial, rfl⟩ | exact ⟨fit_i _, trivial, trivial⟩)
  · intro j hj ih
    have hi8 : j + 1 < 8 := by omega
    refine ch_X2_least_9 ?_
    simp only [cT hb, gT_0 hb, gT_1 hb, gT_2 hb, pT_1 hb, pT_2 hb, lT_0 hb hi8, sT_0 hb hi8, am_b_some, hk]
    rw [if_pos (nI_lt (show j + 1 < k + 1 by omega) (by omega)), ← nI_succ (j + 1)]
    exact ih
theorem ok_swing (hb : b + 1 < h.1) (hk : T.1 1 = nI k) (h8 : k ≤ 8) : am_ok L xs m_X2_swing [.ref b] (ob sgT h b T) (some (tsw (T.2 0) k)) (ob sgT h b T) := by
  refine en_X2_swing (cT hb) rfl rfl (ch_X2_swing_0 ?_)
  have key := up_to (P := fun i => am_wa L xs m_X2_swing (ob sgT h b T) (some (tsw (T.2 0) k)) (ob sgT h b T) 4 [.ref b, .int (tsw (T.2 0) i), .int (nI i), .null] [] (ob sgT h b T)) k ?_ ?_ 0 (by omega)
  · exact key
  · refine ch_X2_swing_4 ?_
    simp only [cT hb, gT_0 hb, gT_1 hb, gT_2 hb, pT_1 hb, pT_2 hb, am_b_some, hk]
    rw [if_neg (nI_irr k)]
    (first | exact ⟨fit_i _, rfl, rfl⟩ | exact ⟨fit_i _, rfl, trivial⟩ | exact ⟨fit_i _, trivial, rfl⟩ | exact ⟨fit_i _, trivial, trivial⟩)
  · intro i hi ih
    have hi8 : i < 8 := by omega
    refine ch_X2_swing_4 ?_
    simp only [cT hb, gT_0 hb, gT_1 hb, gT_2 hb, pT_1 hb, pT_2 hb, lT_0 hb hi8, sT_0 hb hi8, am_b_some, hk]
    rw [if_pos (nI_lt hi (by omega))]
    refine ⟨by decide +kernel, br2 (fun c => ?_) (fun c => ?_)⟩
    · rw [nI_mod2 (by omega)] at c
      simp only [tsw, if_pos c] at ih
      rw [nI_succ i] at ih
      exact ih
    · rw [nI_mod2 (by omega)] at c
      simp only [tsw, if_neg c] at ih
      rw [nI_succ i] at ih
      exact ih
theorem ok_negate (hb : b + 1 < h.1) (hk : T.1 1 = nI k) (h8 : k ≤ 8) : am_ok L xs m_X2_negate [.ref b] (ob sgT h b T) none (ob sgT h b (T.1, va_up T.2 0 (fillG k (fun i => -T.2 0 i) (T.2 0)))) := by
  refine en_X2_negate (cT hb) rfl rfl (ch_X2_negate_0 ?_)
  have key := up_to (P := fun i => am_wa L xs m_X2_negate (ob sgT h b T) none (ob sgT h b (T.1, va_up T.2 0 (fillG k (fun i => -T.2 0 i) (T.2 0)))) 2 [.ref b, .int (nI i)] [] (ob sgT h b (T.1, va_up T.2 0 (fillG i (fun i => -T.2 0 i) (T.2 0))))) k ?_ ?_ 0 (by omega)
  · rw [fillG_0, vu_id] at key
    exact key
  · refine ch_X2_negate_2 ?_
    simp only [cT hb, gT_0 hb, gT_1 hb, gT_2 hb, pT_1 hb, pT_2 hb, am_b_some, hk]
    rw [if_neg (nI_irr k)]
    (first | exact ⟨rfl, rfl⟩ | exact ⟨rfl, trivial⟩ | exact ⟨trivial, rfl⟩ | exact ⟨trivial, trivial⟩ | exact trivial)
  · intro i hi ih
    have hi8 : i < 8 := by omega
    refine ch_X2_negate_2 ?_
    simp only [cT hb, gT_0 hb, gT_1 hb, gT_2 hb, pT_1 hb, pT_2 hb, lT_0 hb hi8, sT_0 hb hi8, am_b_some, hk, vu_at, vu_vu, fillG_at]
    rw [if_pos (nI_lt hi (by omega)), ← nI_succ]
    rw [← fillG_s] at ih
    exact ih
theorem ok_twice (hb : b + 1 < h.1) (hk : T.1 1 = nI k) (h8 : k ≤ 8) : am_ok L xs m_X2_twice [.ref b] (ob sgT h b T) none (ob sgT h b (T.1, va_up T.2 0 (fillG k (fun i => heldF (2 * T.2 0 i)) (T.2 0)))) := by
  refine en_X2_twice (cT hb) rfl rfl (ch_X2_twice_0 ?_)
  have key := up_to (P := fun i => am_wa L xs m_X2_twice (ob sgT h b T) none (ob sgT h b (T.1, va_up T.2 0 (fillG k (fun i => heldF (2 * T.2 0 i)) (T.2 0)))) 2 [.ref b, .int (nI i)] [] (ob sgT h b (T.1, va_up T.2 0 (fillG i (fun i => heldF (2 * T.2 0 i)) (T.2 0))))) k ?_ ?_ 0 (by omega)
  · rw [fillG_0, vu_id] at key
    exact key
  · refine ch_X2_twice_2 ?_
    simp only [cT hb, gT_0 hb, gT_1 hb, gT_2 hb, pT_1 hb, pT_2 hb, am_b_some, hk]
    rw [if_neg (nI_irr k)]
    (first | exact ⟨rfl, rfl⟩ | exact ⟨rfl, trivial⟩ | exact ⟨trivial, rfl⟩ | exact ⟨trivial, trivial⟩ | exact trivial)
  · intro i hi ih
    have hi8 : i < 8 := by omega
    refine ch_X2_twice_2 ?_
    simp only [cT hb, gT_0 hb, gT_1 hb, gT_2 hb, pT_1 hb, pT_2 hb, lT_0 hb hi8, sT_0 hb hi8, am_b_some, hk, vu_at, fillG_at]
    rw [if_pos (nI_lt hi (by omega))]
    refine ⟨_, _, ok_held, ?_⟩
    simp only [lT_0 hb hi8, sT_0 hb hi8, am_b_some, vu_at, vu_vu]
    rw [← nI_succ]
    rw [← fillG_s] at ih
    exact ih
theorem ok_sumUp (hb : b + 1 < h.1) (hk : T.1 1 = nI k) (h8 : k ≤ 8) : am_ok L xs m_X2_sumUp [.ref b] (ob sgT h b T) none (ob sgT h b (T.1, va_up T.2 0 (fillG k (fun i => heldF (tsum (T.2 0) (i + 1))) (T.2 0)))) := by
  refine en_X2_sumUp (cT hb) rfl rfl (ch_X2_sumUp_0 ?_)
  have key := up_to (P := fun i => am_wa L xs m_X2_sumUp (ob sgT h b T) none (ob sgT h b (T.1, va_up T.2 0 (fillG k (fun i => heldF (tsum (T.2 0) (i + 1))) (T.2 0)))) 4 [.ref b, .int (tsum (T.2 0) i), .int (nI i)] [] (ob sgT h b (T.1, va_up T.2 0 (fillG i (fun i => heldF (tsum (T.2 0) (i + 1))) (T.2 0))))) k ?_ ?_ 0 (by omega)
  · rw [fillG_0, vu_id] at key
    exact key
  · refine ch_X2_sumUp_4 ?_
    simp only [cT hb, gT_0 hb, gT_1 hb, gT_2 hb, pT_1 hb, pT_2 hb, am_b_some, hk]
    rw [if_neg (nI_irr k)]
    (first | exact ⟨rfl, rfl⟩ | exact ⟨rfl, trivial⟩ | exact ⟨trivial, rfl⟩ | exact ⟨trivial, trivial⟩ | exact trivial)
  · intro i hi ih
    have hi8 : i < 8 := by omega
    refine ch_X2_sumUp_4 ?_
    simp only [cT hb, gT_0 hb, gT_1 hb, gT_2 hb, pT_1 hb, pT_2 hb, lT_0 hb hi8, sT_0 hb hi8, am_b_some, hk, vu_at, fillG_at]
    rw [if_pos (nI_lt hi (by omega))]
    refine ⟨_, _, ok_held, ?_⟩
    simp only [lT_0 hb hi8, sT_0 hb hi8, am_b_some, vu_at, vu_vu]
    rw [← nI_succ]
    rw [← fillG_s] at ih
    exact ih
theorem ok_takeLast (hb : b + 1 < h.1) (hk : T.1 1 = nI (k + 1)) (h8 : k + 1 ≤ 8) : am_ok L xs m_X2_takeLast [.ref b] (ob sgT h b T) (some (T.2 0 k)) (ob sgT h b (upd T.1 1 (nI k), T.2)) := by
  have hk8 : k < 8 := by omega
  refine en_X2_takeLast (cT hb) rfl rfl (ch_X2_takeLast_0 ?_)
  simp only [cT hb, gT_0 hb, gT_1 hb, gT_2 hb, pT_1 hb, pT_2 hb, lT_0 hb hk8, sT_0 hb hk8, am_b_some, hk, nI_m1, upd_at]
  rw [if_pos (by rw [← nI_0]; exact nI_lt (by omega) (by omega))]
  (first | exact ⟨fit_i _, rfl, rfl⟩ | exact ⟨fit_i _, rfl, trivial⟩ | exact ⟨fit_i _, trivial, rfl⟩ | exact ⟨fit_i _, trivial, trivial⟩)
theorem cpk {H : am_H} {a0 a : Nat} {f f1 : Nat → Int32} {d n : Nat} (hd : d + n ≤ 8) (e0 : am_ii H a0 = some (.int, 8, f)) (e1 : am_ii H a = some (.int, 8, f1)) : am_cp H a0 0 a (nI d) (nI n) = some (am_put H a (.inl (.int, 8, .inl (va_cpy f f1 0 d n)))) := by
  unfold am_cp
  rw [e0, e1]
  simp only [cl_0, nI_clamp (show d < 2 ^ 31 by omega), nI_clamp (show n < 2 ^ 31 by omega)]
  rw [if_pos]
  exact ⟨⟨trivial, trivial⟩, by decide +kernel, nI_pos (by omega), nI_pos (by omega), by omega, hd⟩
theorem ok_addAll_self (hb : b + 1 < h.1) (hk : T.1 1 = nI k) (h8 : k + k ≤ 8) : am_ok L xs m_X2_addAll [.ref b, .ref b] (ob sgT h b T) none (ob sgT h b (upd T.1 1 (nI (k + k)), va_up T.2 0 (va_cpy (T.2 0) (T.2 0) 0 k k))) := by
  refine en_X2_addAll (cT hb) rfl rfl (ch_X2_addAll_0 ?_)
  simp only [cT hb, gT_0 hb, gT_1 hb, gT_2 hb, pT_1 hb, pT_2 hb, am_b_some, hk, nI_add]
  rw [if_neg (show ¬ (8 : Int32) < nI (k + k) from nI_nlt (a := 8) (b := k + k) h8 (by omega)), cpk h8 (iT_0 hb) (iT_0 hb), am_b_some, uT_0]
  simp only [cT hb, gT_0 hb, gT_1 hb, gT_2 hb, pT_1 hb, pT_2 hb, am_b_some, hk, nI_add]
  (first | exact ⟨rfl, rfl⟩ | exact ⟨rfl, trivial⟩ | exact ⟨trivial, rfl⟩ | exact ⟨trivial, trivial⟩ | exact trivial)
theorem ok_addAll (hb : b + 1 < h.1) (hc : c + 1 < h.1) (hd : b + 1 < c ∨ c + 1 < b) {j : Nat} (hk : T.1 1 = nI k) (hj : U.1 1 = nI j) (h8 : k + j ≤ 8) : am_ok L xs m_X2_addAll [.ref b, .ref c] (ob sgT (ob sgT h c U) b T) none (ob sgT (ob sgT h c U) b (upd T.1 1 (nI (k + j)), va_up T.2 0 (va_cpy (U.2 0) (T.2 0) 0 k j))) := by
  have hb2 : b + 1 < (ob sgT h c U).1 := hb
  have g1 : ∀ T, am_gI (ob sgT (ob sgT h c U) b T) c 2 1 = some (U.1 1) := fun T => by rw [ob_swap hd]; exact gT_1 hc
  have g0 : ∀ T, am_gR (ob sgT (ob sgT h c U) b T) c 2 0 = some (c + 1) := fun T => by rw [ob_swap hd]; exact gT_0 hc
  have i0 : am_ii (ob sgT (ob sgT h c U) b T) (c + 1) = some (.int, 8, U.2 0) := by rw [ob_swap hd]; exact iT_0 hc
  refine en_X2_addAll (cT hb2) rfl rfl (ch_X2_addAll_0 ?_)
  simp only [g0, g1, cT hb2, gT_0 hb2, gT_1 hb2, gT_2 hb2, pT_1 hb2, pT_2 hb2, am_b_some, hk, hj, nI_add]
  rw [if_neg (show ¬ (8 : Int32) < nI (k + j) from nI_nlt (a := 8) (b := k + j) h8 (by omega)), cpk h8 i0 (iT_0 hb2), am_b_some, uT_0]
  simp only [cT hb2, gT_0 hb2, gT_1 hb2, gT_2 hb2, pT_1 hb2, pT_2 hb2, am_b_some, hk, nI_add]
  (first | exact ⟨rfl, rfl⟩ | exact ⟨rfl, trivial⟩ | exact ⟨trivial, rfl⟩ | exact ⟨trivial, trivial⟩ | exact trivial)
end TA
end
section
/-! THE REFERENCE'S ROW: a block of 31 places at B -/
def dB (D : sg_S) (B : Nat) (k : Nat → Int32) : sg_S := (D.1, va_up D.2 0 (fb_put (D.2 0) k B 31))
theorem dB_1 (D : sg_S) (B : Nat) (k : Nat → Int32) : (dB D B k).1 = D.1 := rfl
theorem dB_0 (D : sg_S) (B : Nat) (k : Nat → Int32) : (dB D B k).2 0 = fb_put (D.2 0) k B 31 := rfl
theorem dB_at (D : sg_S) (B : Nat) (k : Nat → Int32) {j : Nat} (hj : j < 31) : (dB D B k).2 0 (B + j) = k j := by
  rw [dB_0, fb_put_in (by omega) (by omega)]
  congr 1
  omega
theorem dB_id (D : sg_S) (B : Nat) : dB D B (fun j => D.2 0 (B + j)) = D := by
  refine Prod.ext rfl ?_
  show va_up D.2 0 (fb_put (D.2 0) (fun j => D.2 0 (B + j)) B 31) = D.2
  have e : fb_put (D.2 0) (fun j => D.2 0 (B + j)) B 31 = D.2 0 := by
    funext i
    unfold fb_put
    by_cases q : B ≤ i ∧ i < B + 31
    · rw [if_pos q]
      show D.2 0 (B + (i - B)) = D.2 0 i
      rw [show B + (i - B) = i by omega]
    · rw [if_neg q]
  rw [e, vu_id]
theorem fb_upd (f g : Nat → Int32) {a n j : Nat} (hj : j < n) (x : Int32) : upd (fb_put f g a n) (a + j) x = fb_put f (upd g j x) a n := by
  funext i
  unfold upd fb_put
  by_cases e : i = a + j
  · subst e
    simp [hj]
  · by_cases q : a ≤ i ∧ i < a + n
    · have e2 : ¬ i - a = j := by omega
      simp [e, q, e2]
    · simp [e, q]
theorem dB_upd (D : sg_S) (B : Nat) (k : Nat → Int32) {j : Nat} (hj : j < 31) (x : Int32) : ((dB D B k).1, va_up (dB D B k).2 0 (upd ((dB D B k).2 0) (B + j) x)) = dB D B (upd k j x) := by
  refine Prod.ext rfl ?_
  show va_up (va_up D.2 0 (fb_put (D.2 0) k B 31)) 0 (upd (fb_put (D.2 0) k B 31) (B + j) x) = _
  rw [vu_vu, fb_upd _ _ hj]
  rfl
/-- eight places of the block, nothing behind them -/
def seg (k : Nat → Int32) (a : Nat) : Nat → Int32 := fun v => if v < 8 then k (a + v) else 0
theorem seg_at (k : Nat → Int32) (a : Nat) {v : Nat} (h : v < 8) : seg k a v = k (a + v) := if_pos h
theorem seg_upd (k : Nat → Int32) (a : Nat) {j : Nat} (hj : j < 8) (x : Int32) : seg (upd k (a + j) x) a = upd (seg k a) j x := by
  funext v
  unfold seg upd
  by_cases e : v = j
  · simp [e, hj]
  · simp [e]
theorem seg_ne (k : Nat → Int32) (a c : Nat) (x : Int32) (h : c < a ∨ a + 8 ≤ c) : seg (upd k c x) a = seg k a := by
  funext v
  unfold seg upd
  by_cases q : v < 8
  · rw [if_pos q, if_pos q, if_neg (by omega)]
  · rw [if_neg q, if_neg q]
theorem ix0 (B : Nat) : nI B + 0 = nI (B + 0) := nI_add B 0
theorem ix1 (B v : Nat) : (nI B + 1) + nI v = nI (B + (1 + v)) := by show nI B + nI 1 + nI v = _; rw [nI_add, nI_add, Nat.add_assoc]
theorem ix9 (B v : Nat) : (nI B + 9) + nI v = nI (B + (9 + v)) := by show nI B + nI 9 + nI v = _; rw [nI_add, nI_add, Nat.add_assoc]
theorem ix17 (B v : Nat) : (nI B + 17) + nI v = nI (B + (17 + v)) := by show nI B + nI 17 + nI v = _; rw [nI_add, nI_add, Nat.add_assoc]
theorem ix25 (B : Nat) : nI B + 25 = nI (B + 25) := nI_add B 25
theorem ix30 (B : Nat) : nI B + 30 = nI (B + 30) := nI_add B 30
theorem ix26 (B : Nat) : nI B + 25 + 1 = nI (B + 26) := by show nI B + nI 25 + nI 1 = _; rw [nI_add, nI_add, Nat.add_assoc]
theorem ix27 (B : Nat) : nI B + 25 + 2 = nI (B + 27) := by show nI B + nI 25 + nI 2 = _; rw [nI_add, nI_add, Nat.add_assoc]
theorem ix28 (B : Nat) : nI B + 25 + 3 = nI (B + 28) := by show nI B + nI 25 + nI 3 = _; rw [nI_add, nI_add, Nat.add_assoc]
theorem ix29 (B : Nat) : nI B + 25 + 4 = nI (B + 29) := by show nI B + nI 25 + nI 4 = _; rw [nI_add, nI_add, Nat.add_assoc]
theorem or_0 (x : Int32) : x ||| 0 = x := by
  apply b_ext
  intro i _
  rw [b_or, b_0, Bool.or_false]
theorem bs_0 {P : Nat → Bool} {n : Nat} (h : P n = false) : bs P n ||| 0 = bs P (n + 1) := by rw [or_0, bs_succ, if_neg (by simp [h])]
theorem bs_1 {P : Nat → Bool} {n : Nat} (h : P n = true) : bs P n ||| ((1 : Int32) <<< (nI n &&& 31)) = bs P (n + 1) := by rw [bs_succ, if_pos h]
section D1
variable {L : Nat} {xs : Nat → Int32} {h : am_H} {c B n v s : Nat} {D : sg_S} {k : Nat → Int32}
theorem lB (hc : c + 10 < h.1) (hB : B + 31 ≤ 372) {j : Nat} (hj : j < 31) : am_lI (ob sgD h c (dB D B k)) .int (c + 1) (nI (B + j)) = some (k j) := by
  rw [lD_0 hc (by omega), dB_at D B k hj]
theorem sB (hc : c + 10 < h.1) (hB : B + 31 ≤ 372) {j : Nat} (hj : j < 31) {x : Int32} : am_sI (ob sgD h c (dB D B k)) .int (c + 1) (nI (B + j)) x = some (ob sgD h c (dB D B (upd k j x))) := by
  rw [sD_0 hc (by omega), dB_upd D B k hj]
theorem lS (hc : c + 10 < h.1) (hB : B + 31 ≤ 372) {a j : Nat} (ha : a + 8 ≤ 31) (hj : j < 8) : am_lI (ob sgD h c (dB D B k)) .int (c + 1) (nI (B + (a + j))) = some (seg k a j) := by
  rw [lB hc hB (by omega), seg_at k a hj]
theorem sS (hc : c + 10 < h.1) (hB : B + 31 ≤ 372) {a j : Nat} (ha : a + 8 ≤ 31) (hj : j < 8) {x : Int32} : am_sI (ob sgD h c (dB D B k)) .int (c + 1) (nI (B + (a + j))) x = some (ob sgD h c (dB D B (upd k (a + j) x))) := sB hc hB (by omega)
theorem lB4 (hc : c + 10 < h.1) {j : Nat} (hj : j < 8) : am_lI (ob sgD h c (dB D B k)) .int (c + 2) (nI j) = some (D.2 4 j) := lD_4 hc hj
theorem lB18 (hc : c + 10 < h.1) {j : Nat} (hj : j < 8) : am_lI (ob sgD h c (dB D B k)) .int (c + 9) (nI j) = some (D.2 18 j) := lD_18 hc hj
theorem dB_18 (D : sg_S) (B : Nat) (k f : Nat → Int32) : ((dB D B k).1, va_up (dB D B k).2 18 f) = dB (D.1, va_up D.2 18 f) B k := by
  refine Prod.ext rfl ?_
  show va_up (va_up D.2 0 _) 18 f = va_up (va_up D.2 18 f) 0 _
  funext i
  unfold va_up
  by_cases e : i = 18
  · subst e; rfl
  · by_cases e2 : i = 0
    · subst e2; rfl
    · simp [e, e2]
theorem sB18 (hc : c + 10 < h.1) {j : Nat} (hj : j < 8) {x : Int32} : am_sI (ob sgD h c (dB D B k)) .int (c + 9) (nI j) x = some (ob sgD h c (dB (D.1, va_up D.2 18 (upd (D.2 18) j x)) B k)) := by
  rw [sD_18 hc hj, dB_18]
  rfl
theorem ok_nearD (hc : c + 10 < h.1) (hB : B + 31 ≤ 372) (hn : D.1 1 = nI n) (h8 : n ≤ 8) (hv : v < 8) : am_ok L xs m_X5_near [.ref c, .int (nI B), .int (nI v)] (ob sgD h c (dB D B k)) (some (near (seg k 17) n v)) (ob sgD h c (dB D B k)) := by
  refine en_X5_near (cD hc) rfl rfl (ch_X5_near_0 ?_)
  simp only [cD hc, gD_0 hc, gD_1 hc, gD_2 hc, gD_3 hc, gD_4 hc, gD_5 hc, gD_6 hc, gD_7 hc, gD_8 hc, gD_9 hc, gD_10 hc, gD_11 hc, gD_12 hc, gD_13 hc, gD_14 hc, gD_15 hc, gD_16 hc, gD_17 hc, gD_18 hc, gD_19 hc, pD_1 hc, pD_2 hc, pD_3 hc, pD_5 hc, pD_8 hc, pD_11 hc, pD_12 hc, pD_13 hc, pD_14 hc, pD_15 hc, dB_1, ix17, lS hc hB (show 17 + 8 ≤ 31 by omega) (show v < 8 by omega), am_b_some]
  have key := up_to (P := fun i => am_wa L xs m_X5_near (ob sgD h c (dB D B k)) (some (near (seg k 17) n v)) (ob sgD h c (dB D B k)) 18 [.ref c, .int (nI B), .int (nI v), .int (seg k 17 v), .int (nearL (seg k 17) v i), .int (nI i)] [] (ob sgD h c (dB D B k))) n ?_ ?_ 0 (by omega)
  · exact key
  · refine ch_X5_near_18 ?_
    simp only [cD hc, gD_0 hc, gD_1 hc, gD_2 hc, gD_3 hc, gD_4 hc, gD_5 hc, gD_6 hc, gD_7 hc, gD_8 hc, gD_9 hc, gD_10 hc, gD_11 hc, gD_12 hc, gD_13 hc, gD_14 hc, gD_15 hc, gD_16 hc, gD_17 hc, gD_18 hc, gD_19 hc, pD_1 hc, pD_2 hc, pD_3 hc, pD_5 hc, pD_8 hc, pD_11 hc, pD_12 hc, pD_13 hc, pD_14 hc, pD_15 hc, dB_1, am_b_some, hn]
    rw [if_neg (nI_irr n)]
    (first | exact ⟨fit_i _, rfl, rfl⟩ | exact ⟨fit_i _, rfl, trivial⟩ | exact ⟨fit_i _, trivial, rfl⟩ | exact ⟨fit_i _, trivial, trivial⟩)
  · intro i hi ih
    refine ch_X5_near_18 ?_
    simp only [cD hc, gD_0 hc, gD_1 hc, gD_2 hc, gD_3 hc, gD_4 hc, gD_5 hc, gD_6 hc, gD_7 hc, gD_8 hc, gD_9 hc, gD_10 hc, gD_11 hc, gD_12 hc, gD_13 hc, gD_14 hc, gD_15 hc, gD_16 hc, gD_17 hc, gD_18 hc, gD_19 hc, pD_1 hc, pD_2 hc, pD_3 hc, pD_5 hc, pD_8 hc, pD_11 hc, pD_12 hc, pD_13 hc, pD_14 hc, pD_15 hc, dB_1, am_b_some, hn]
    rw [if_pos (nI_lt hi (by omega))]
    refine ⟨_, _, ok_hasD (by omega), br2 (fun c => ?_) (fun c => ?_)⟩
    · rw [bz_ne] at c
      simp only [nearL, c] at ih
      rw [← nI_succ, or_0]
      exact ih
    · rw [bz_ne] at c
      simp only [cD hc, gD_0 hc, gD_1 hc, gD_2 hc, gD_3 hc, gD_4 hc, gD_5 hc, gD_6 hc, gD_7 hc, gD_8 hc, gD_9 hc, gD_10 hc, gD_11 hc, gD_12 hc, gD_13 hc, gD_14 hc, gD_15 hc, gD_16 hc, gD_17 hc, gD_18 hc, gD_19 hc, pD_1 hc, pD_2 hc, pD_3 hc, pD_5 hc, pD_8 hc, pD_11 hc, pD_12 hc, pD_13 hc, pD_14 hc, pD_15 hc, dB_1, ix17, lS hc hB (show 17 + 8 ≤ 31 by omega) (show i < 8 by omega), am_b_some]
      simp only [nearL, show bt (seg k 17 v) i = true by simpa using c, if_true] at ih
      rw [← nI_succ]
      exact ih
theorem ok_holdersD (hc : c + 10 < h.1) (hB : B + 31 ≤ 372) (hn : D.1 1 = nI n) (h8 : n ≤ 8) (hs : s < 32) : am_ok L xs m_X5_holders [.ref c, .int (nI B), .int (nI s)] (ob sgD h c (dB D B k)) (some (holders (seg k 9) n s)) (ob sgD h c (dB D B k)) := by
  refine en_X5_holders (cD hc) rfl rfl (ch_X5_holders_0 ?_)
  have key := up_to (P := fun i => am_wa L xs m_X5_holders (ob sgD h c (dB D B k)) (some (holders (seg k 9) n s)) (ob sgD h c (dB D B k)) 5 [.ref c, .int (nI B), .int (nI s), .int (bs (fun v => bt (seg k 9 v) s) i), .int (nI i)] [] (ob sgD h c (dB D B k))) n ?_ ?_ 0 (by omega)
  · exact key
  · refine ch_X5_holders_5 ?_
    simp only [cD hc, gD_0 hc, gD_1 hc, gD_2 hc, gD_3 hc, gD_4 hc, gD_5 hc, gD_6 hc, gD_7 hc, gD_8 hc, gD_9 hc, gD_10 hc, gD_11 hc, gD_12 hc, gD_13 hc, gD_14 hc, gD_15 hc, gD_16 hc, gD_17 hc, gD_18 hc, gD_19 hc, pD_1 hc, pD_2 hc, pD_3 hc, pD_5 hc, pD_8 hc, pD_11 hc, pD_12 hc, pD_13 hc, pD_14 hc, pD_15 hc, dB_1, am_b_some, hn]
    rw [if_neg (nI_irr n)]
    (first | exact ⟨fit_i _, rfl, rfl⟩ | exact ⟨fit_i _, rfl, trivial⟩ | exact ⟨fit_i _, trivial, rfl⟩ | exact ⟨fit_i _, trivial, trivial⟩)
  · intro i hi ih
    refine ch_X5_holders_5 ?_
    simp only [cD hc, gD_0 hc, gD_1 hc, gD_2 hc, gD_3 hc, gD_4 hc, gD_5 hc, gD_6 hc, gD_7 hc, gD_8 hc, gD_9 hc, gD_10 hc, gD_11 hc, gD_12 hc, gD_13 hc, gD_14 hc, gD_15 hc, gD_16 hc, gD_17 hc, gD_18 hc, gD_19 hc, pD_1 hc, pD_2 hc, pD_3 hc, pD_5 hc, pD_8 hc, pD_11 hc, pD_12 hc, pD_13 hc, pD_14 hc, pD_15 hc, dB_1, am_b_some, hn, ix9, lS hc hB (show 9 + 8 ≤ 31 by omega) (show i < 8 by omega)]
    rw [if_pos (nI_lt hi (by omega))]
    refine ⟨_, _, ok_hasD hs, br2 (fun c => ?_) (fun c => ?_)⟩
    · rw [bz_ne] at c
      rw [← nI_succ, bs_0 (by simpa using c)]
      exact ih
    · rw [bz_ne] at c
      rw [← nI_succ, bs_1 (by simpa using c)]
      exact ih
theorem ok_isCovered (hc : c + 10 < h.1) (hB : B + 31 ≤ 372) (hv : v < 8) : am_ok L xs m_X5_isCovered [.ref c, .int (nI B), .int (nI v)] (ob sgD h c (dB D B k)) (some (if cov (D.2 4) (seg k 9) v then 1 else 0)) (ob sgD h c (dB D B k)) := by
  refine en_X5_isCovered (cD hc) rfl rfl (ch_X5_isCovered_0 ?_)
  simp only [cD hc, gD_0 hc, gD_1 hc, gD_2 hc, gD_3 hc, gD_4 hc, gD_5 hc, gD_6 hc, gD_7 hc, gD_8 hc, gD_9 hc, gD_10 hc, gD_11 hc, gD_12 hc, gD_13 hc, gD_14 hc, gD_15 hc, gD_16 hc, gD_17 hc, gD_18 hc, gD_19 hc, pD_1 hc, pD_2 hc, pD_3 hc, pD_5 hc, pD_8 hc, pD_11 hc, pD_12 hc, pD_13 hc, pD_14 hc, pD_15 hc, am_b_some, ix9, lS hc hB (show 9 + 8 ≤ 31 by omega) (show v < 8 by omega)]
  refine ⟨_, _, ok_ones, ?_⟩
  simp only [cD hc, gD_0 hc, gD_1 hc, gD_2 hc, gD_3 hc, gD_4 hc, gD_5 hc, gD_6 hc, gD_7 hc, gD_8 hc, gD_9 hc, gD_10 hc, gD_11 hc, gD_12 hc, gD_13 hc, gD_14 hc, gD_15 hc, gD_16 hc, gD_17 hc, gD_18 hc, gD_19 hc, pD_1 hc, pD_2 hc, pD_3 hc, pD_5 hc, pD_8 hc, pD_11 hc, pD_12 hc, pD_13 hc, pD_14 hc, pD_15 hc, am_b_some, lB4 hc hv]
  refine br2 (fun c => ?_) (fun c => ?_)
  · rw [show cov (D.2 4) (seg k 9) v = false by simp [cov, c]]
    (first | exact ⟨fit_0, rfl, rfl⟩ | exact ⟨fit_0, rfl, trivial⟩ | exact ⟨fit_0, trivial, rfl⟩ | exact ⟨fit_0, trivial, trivial⟩)
  · rw [show cov (D.2 4) (seg k 9) v = true by simp only [cov, c]; decide]
    (first | exact ⟨fit_1, rfl, rfl⟩ | exact ⟨fit_1, rfl, trivial⟩ | exact ⟨fit_1, trivial, rfl⟩ | exact ⟨fit_1, trivial, trivial⟩)
theorem ok_coveredD (hc : c + 10 < h.1) (hB : B + 31 ≤ 372) (hn : D.1 1 = nI n) (h8 : n ≤ 8) : am_ok L xs m_X5_covered [.ref c, .int (nI B)] (ob sgD h c (dB D B k)) (some (covered (D.2 4) (seg k 9) n)) (ob sgD h c (dB D B k)) := by
  refine en_X5_covered (cD hc) rfl rfl (ch_X5_covered_0 ?_)
  have key := up_to (P := fun i => am_wa L xs m_X5_covered (ob sgD h c (dB D B k)) (some (covered (D.2 4) (seg k 9) n)) (ob sgD h c (dB D B k)) 4 [.ref c, .int (nI B), .int (bs (cov (D.2 4) (seg k 9)) i), .int (nI i)] [] (ob sgD h c (dB D B k))) n ?_ ?_ 0 (by omega)
  · exact key
  · refine ch_X5_covered_4 ?_
    simp only [cD hc, gD_0 hc, gD_1 hc, gD_2 hc, gD_3 hc, gD_4 hc, gD_5 hc, gD_6 hc, gD_7 hc, gD_8 hc, gD_9 hc, gD_10 hc, gD_11 hc, gD_12 hc, gD_13 hc, gD_14 hc, gD_15 hc, gD_16 hc, gD_17 hc, gD_18 hc, gD_19 hc, pD_1 hc, pD_2 hc, pD_3 hc, pD_5 hc, pD_8 hc, pD_11 hc, pD_12 hc, pD_13 hc, pD_14 hc, pD_15 hc, dB_1, am_b_some, hn]
    rw [if_neg (nI_irr n)]
    (first | exact ⟨fit_i _, rfl, rfl⟩ | exact ⟨fit_i _, rfl, trivial⟩ | exact ⟨fit_i _, trivial, rfl⟩ | exact ⟨fit_i _, trivial, trivial⟩)
  · intro i hi ih
    refine ch_X5_covered_4 ?_
    simp only [cD hc, gD_0 hc, gD_1 hc, gD_2 hc, gD_3 hc, gD_4 hc, gD_5 hc, gD_6 hc, gD_7 hc, gD_8 hc, gD_9 hc, gD_10 hc, gD_11 hc, gD_12 hc, gD_13 hc, gD_14 hc, gD_15 hc, gD_16 hc, gD_17 hc, gD_18 hc, gD_19 hc, pD_1 hc, pD_2 hc, pD_3 hc, pD_5 hc, pD_8 hc, pD_11 hc, pD_12 hc, pD_13 hc, pD_14 hc, pD_15 hc, dB_1, am_b_some, hn]
    rw [if_pos (nI_lt hi (by omega))]
    refine ⟨_, _, ok_isCovered hc hB (by omega), br2 (fun c => ?_) (fun c => ?_)⟩
    · rw [bz_ne] at c
      rw [← nI_succ, bs_0 (by simpa using c)]
      exact ih
    · rw [bz_ne] at c
      rw [← nI_succ, bs_1 (by simpa using c)]
      exact ih
theorem ok_contendersD (hc : c + 10 < h.1) (hB : B + 31 ≤ 372) (hn : D.1 1 = nI n) (h8 : n ≤ 8) (hs : s < 32) : am_ok L xs m_X5_contenders [.ref c, .int (nI B), .int (nI s)] (ob sgD h c (dB D B k)) (some (contF (seg k 17) (D.2 4) (seg k 9) n s)) (ob sgD h c (dB D B k)) := by
  refine en_X5_contenders (cD hc) rfl rfl (ch_X5_contenders_0 ⟨_, _, ok_holdersD hc hB hn h8 hs, ?_⟩)
  have key := up_to (P := fun i => am_wa L xs m_X5_contenders (ob sgD h c (dB D B k)) (some (contF (seg k 17) (D.2 4) (seg k 9) n s)) (ob sgD h c (dB D B k)) 13 [.ref c, .int (nI B), .null, .int (holders (seg k 9) n s), .int (bs (fun v => !cov (D.2 4) (seg k 9) v && !bt (holders (seg k 9) n s) v && decide (near (seg k 17) n v &&& holders (seg k 9) n s = 0)) i), .int (nI i)] [] (ob sgD h c (dB D B k))) n ?_ ?_ 0 (by omega)
  · exact key
  · refine ch_X5_contenders_13 ?_
    simp only [cD hc, gD_0 hc, gD_1 hc, gD_2 hc, gD_3 hc, gD_4 hc, gD_5 hc, gD_6 hc, gD_7 hc, gD_8 hc, gD_9 hc, gD_10 hc, gD_11 hc, gD_12 hc, gD_13 hc, gD_14 hc, gD_15 hc, gD_16 hc, gD_17 hc, gD_18 hc, gD_19 hc, pD_1 hc, pD_2 hc, pD_3 hc, pD_5 hc, pD_8 hc, pD_11 hc, pD_12 hc, pD_13 hc, pD_14 hc, pD_15 hc, dB_1, am_b_some, hn]
    rw [if_neg (nI_irr n)]
    (first | exact ⟨fit_i _, rfl, rfl⟩ | exact ⟨fit_i _, rfl, trivial⟩ | exact ⟨fit_i _, trivial, rfl⟩ | exact ⟨fit_i _, trivial, trivial⟩)
  · intro i hi ih
    refine ch_X5_contenders_13 ?_
    simp only [cD hc, gD_0 hc, gD_1 hc, gD_2 hc, gD_3 hc, gD_4 hc, gD_5 hc, gD_6 hc, gD_7 hc, gD_8 hc, gD_9 hc, gD_10 hc, gD_11 hc, gD_12 hc, gD_13 hc, gD_14 hc, gD_15 hc, gD_16 hc, gD_17 hc, gD_18 hc, gD_19 hc, pD_1 hc, pD_2 hc, pD_3 hc, pD_5 hc, pD_8 hc, pD_11 hc, pD_12 hc, pD_13 hc, pD_14 hc, pD_15 hc, dB_1, am_b_some, hn]
    rw [if_pos (nI_lt hi (by omega))]
    refine ⟨_, _, ok_isCovered hc hB (by omega), br2 (fun c1 => ⟨_, _, ok_hasD (by omega), br2 (fun c2 => ⟨_, _, ok_nearD hc hB hn h8 (by omega), br2 (fun c3 => ?_) (fun c3 => ?_)⟩) (fun c2 => ?_)⟩) (fun c1 => ?_)⟩
    · rw [bz_ne] at c1 c2
      rw [← nI_succ, bs_1 (by simp [c1, c2, c3])]
      exact ih
    · rw [bz_ne] at c1 c2
      rw [← nI_succ, bs_0 (by simp [c3])]
      exact ih
    · rw [bz_ne] at c1 c2
      rw [← nI_succ, bs_0 (by simp [c2])]
      exact ih
    · rw [bz_ne] at c1
      rw [← nI_succ, bs_0 (by simp [c1])]
      exact ih
theorem ok_nearToD (hc : c + 10 < h.1) (hB : B + 31 ≤ 372) (hn : D.1 1 = nI n) (h8 : n ≤ 8) {x : Int32} : am_ok L xs m_X5_nearTo [.ref c, .int (nI B), .int x] (ob sgD h c (dB D B k)) (some (nearTo (seg k 17) n x)) (ob sgD h c (dB D B k)) := by
  refine en_X5_nearTo (cD hc) rfl rfl (ch_X5_nearTo_0 ?_)
  have key := up_to (P := fun i => am_wa L xs m_X5_nearTo (ob sgD h c (dB D B k)) (some (nearTo (seg k 17) n x)) (ob sgD h c (dB D B k)) 5 [.ref c, .int (nI B), .int x, .int (bs (fun v => decide (¬ near (seg k 17) n v &&& x = 0)) i), .int (nI i)] [] (ob sgD h c (dB D B k))) n ?_ ?_ 0 (by omega)
  · exact key
  · refine ch_X5_nearTo_5 ?_
    simp only [cD hc, gD_0 hc, gD_1 hc, gD_2 hc, gD_3 hc, gD_4 hc, gD_5 hc, gD_6 hc, gD_7 hc, gD_8 hc, gD_9 hc, gD_10 hc, gD_11 hc, gD_12 hc, gD_13 hc, gD_14 hc, gD_15 hc, gD_16 hc, gD_17 hc, gD_18 hc, gD_19 hc, pD_1 hc, pD_2 hc, pD_3 hc, pD_5 hc, pD_8 hc, pD_11 hc, pD_12 hc, pD_13 hc, pD_14 hc, pD_15 hc, dB_1, am_b_some, hn]
    rw [if_neg (nI_irr n)]
    (first | exact ⟨fit_i _, rfl, rfl⟩ | exact ⟨fit_i _, rfl, trivial⟩ | exact ⟨fit_i _, trivial, rfl⟩ | exact ⟨fit_i _, trivial, trivial⟩)
  · intro i hi ih
    refine ch_X5_nearTo_5 ?_
    simp only [cD hc, gD_0 hc, gD_1 hc, gD_2 hc, gD_3 hc, gD_4 hc, gD_5 hc, gD_6 hc, gD_7 hc, gD_8 hc, gD_9 hc, gD_10 hc, gD_11 hc, gD_12 hc, gD_13 hc, gD_14 hc, gD_15 hc, gD_16 hc, gD_17 hc, gD_18 hc, gD_19 hc, pD_1 hc, pD_2 hc, pD_3 hc, pD_5 hc, pD_8 hc, pD_11 hc, pD_12 hc, pD_13 hc, pD_14 hc, pD_15 hc, dB_1, am_b_some, hn]
    rw [if_pos (nI_lt hi (by omega))]
    refine ⟨_, _, ok_nearD hc hB hn h8 (by omega), br2 (fun c => ?_) (fun c => ?_)⟩
    · rw [← nI_succ, bs_0 (by simp [c])]
      exact ih
    · rw [← nI_succ, bs_1 (by simp [c])]
      exact ih
theorem ok_hearingD (hc : c + 10 < h.1) (hB : B + 31 ≤ 372) (hn : D.1 1 = nI n) (h8 : n ≤ 8) {o x : Int32} {q : Nat} (hq : q < 9) : am_ok L xs m_X5_hearing [.ref c, .int (nI B), .int o, .int x, .int (nI q)] (ob sgD h c (dB D B k)) (some (bs (fun v => bt o v && hears (seg k 17) x q v) n)) (ob sgD h c (dB D B k)) := by
  refine en_X5_hearing (cD hc) rfl rfl (ch_X5_hearing_0 ?_)
  have key := up_to (P := fun i => am_wa L xs m_X5_hearing (ob sgD h c (dB D B k)) (some (bs (fun v => bt o v && hears (seg k 17) x q v) n)) (ob sgD h c (dB D B k)) 6 [.ref c, .int (nI B), .int o, .int x, .int (nI q), .int (bs (fun v => bt o v && hears (seg k 17) x q v) i), .int (nI i)] [] (ob sgD h c (dB D B k))) n ?_ ?_ 0 (by omega)
  · exact key
  · refine ch_X5_hearing_6 ?_
    simp only [cD hc, gD_0 hc, gD_1 hc, gD_2 hc, gD_3 hc, gD_4 hc, gD_5 hc, gD_6 hc, gD_7 hc, gD_8 hc, gD_9 hc, gD_10 hc, gD_11 hc, gD_12 hc, gD_13 hc, gD_14 hc, gD_15 hc, gD_16 hc, gD_17 hc, gD_18 hc, gD_19 hc, pD_1 hc, pD_2 hc, pD_3 hc, pD_5 hc, pD_8 hc, pD_11 hc, pD_12 hc, pD_13 hc, pD_14 hc, pD_15 hc, dB_1, am_b_some, hn]
    rw [if_neg (nI_irr n)]
    (first | exact ⟨fit_i _, rfl, rfl⟩ | exact ⟨fit_i _, rfl, trivial⟩ | exact ⟨fit_i _, trivial, rfl⟩ | exact ⟨fit_i _, trivial, trivial⟩)
  · intro i hi ih
    refine ch_X5_hearing_6 ?_
    simp only [cD hc, gD_0 hc, gD_1 hc, gD_2 hc, gD_3 hc, gD_4 hc, gD_5 hc, gD_6 hc, gD_7 hc, gD_8 hc, gD_9 hc, gD_10 hc, gD_11 hc, gD_12 hc, gD_13 hc, gD_14 hc, gD_15 hc, gD_16 hc, gD_17 hc, gD_18 hc, gD_19 hc, pD_1 hc, pD_2 hc, pD_3 hc, pD_5 hc, pD_8 hc, pD_11 hc, pD_12 hc, pD_13 hc, pD_14 hc, pD_15 hc, dB_1, am_b_some, hn]
    rw [if_pos (nI_lt hi (by omega))]
    refine ⟨_, _, ok_hasD (by omega), br2 (fun c1 => ?_) (fun c1 => ?_)⟩
    · rw [bz_ne] at c1
      rw [← nI_succ, bs_0 (by simp [c1])]
      exact ih
    · rw [bz_ne] at c1
      simp only [cD hc, gD_0 hc, gD_1 hc, gD_2 hc, gD_3 hc, gD_4 hc, gD_5 hc, gD_6 hc, gD_7 hc, gD_8 hc, gD_9 hc, gD_10 hc, gD_11 hc, gD_12 hc, gD_13 hc, gD_14 hc, gD_15 hc, gD_16 hc, gD_17 hc, gD_18 hc, gD_19 hc, pD_1 hc, pD_2 hc, pD_3 hc, pD_5 hc, pD_8 hc, pD_11 hc, pD_12 hc, pD_13 hc, pD_14 hc, pD_15 hc, am_b_some, ix17, lS hc hB (show 17 + 8 ≤ 31 by omega) (show i < 8 by omega)]
      refine ⟨_, _, ok_ones, br2 (fun c => ?_) (fun c => ?_)⟩
      · have hc' : ¬ q ≤ pop (seg k 17 i &&& x) := fun z => nI_nlt (a := pop (seg k 17 i &&& x)) (b := q) z (by have := pop_le (seg k 17 i &&& x); omega) c
        rw [← nI_succ, bs_0 (by simp [hears, hc'])]
        exact ih
      · have hc' : q ≤ pop (seg k 17 i &&& x) := by
          rcases Nat.lt_or_ge (pop (seg k 17 i &&& x)) q with z | z
          · exact absurd (nI_lt z (by omega)) c
          · exact z
        rw [← nI_succ, bs_1 (by simp only [hears, hc', show bt o i = true by simpa using c1]; decide)]
        exact ih
theorem ok_lot (hc : c + 10 < h.1) (hB : B + 31 ≤ 372) {q : Int32} (hq : ¬ q = 0) : am_ok L xs m_X5_lot [.ref c, .int (nI B), .int q] (ob sgD h c (dB D B k)) (some (lotV (lotS (k 0)) q)) (ob sgD h c (dB D B (upd k 0 (lotS (k 0))))) := by
  refine en_X5_lot (cD hc) rfl rfl (ch_X5_lot_0 ?_)
  simp only [cD hc, gD_0 hc, gD_1 hc, gD_2 hc, gD_3 hc, gD_4 hc, gD_5 hc, gD_6 hc, gD_7 hc, gD_8 hc, gD_9 hc, gD_10 hc, gD_11 hc, gD_12 hc, gD_13 hc, gD_14 hc, gD_15 hc, gD_16 hc, gD_17 hc, gD_18 hc, gD_19 hc, pD_1 hc, pD_2 hc, pD_3 hc, pD_5 hc, pD_8 hc, pD_11 hc, pD_12 hc, pD_13 hc, pD_14 hc, pD_15 hc, am_b_some, ix0, lB hc hB (show 0 < 31 by omega), sB hc hB (show 0 < 31 by omega), upd_at]
  exact ⟨by decide +kernel, by decide +kernel, hq, fit_i _, rfl, rfl⟩
end D1
end
section
/-! THE REFERENCE'S CYCLE -/
def drl (C l : Int32) : Nat → Int32
  | 0 => l
  | s + 1 => if bt C s then lotS (drl C l s) else drl C l s
theorem drL_2 (C d l : Int32) (f : Nat → Int32) : ∀ s, (drL C d l f s).2 = drl C l s := by
  intro s
  induction s with
  | zero => rfl
  | succ s ih =>
    unfold drL drl
    by_cases c : bt C s = true
    · rw [if_pos c, if_pos c, ih]
    · rw [if_neg c, if_neg c, ih]
theorem drL_1 (C d l : Int32) (f : Nat → Int32) : ∀ n v, (drL C d l f n).1 v = if v < n then (if bt C v then lotV (lotS (drl C l v)) 8 else d) else f v := by
  intro n
  induction n with
  | zero => intro v; simp [drL]
  | succ n ih =>
    intro v
    unfold drL
    by_cases c : bt C n = true
    · rw [if_pos c]
      show upd _ _ _ v = _
      by_cases e : v = n
      · subst e
        rw [upd_at, if_pos (by omega), if_pos c, drL_2]
      · rw [upd_ne _ _ e, ih v]
        by_cases q : v < n
        · rw [if_pos q, if_pos (show v < n + 1 by omega)]
        · rw [if_neg q, if_neg (show ¬ v < n + 1 by omega)]
    · rw [if_neg c]
      show upd _ _ _ v = _
      by_cases e : v = n
      · subst e
        rw [upd_at, if_pos (by omega), if_neg c]
      · rw [upd_ne _ _ e, ih v]
        by_cases q : v < n
        · rw [if_pos q, if_pos (show v < n + 1 by omega)]
        · rw [if_neg q, if_neg (show ¬ v < n + 1 by omega)]
-- lots are small
theorem lotS_nI {a : Nat} (ha : a < 53125) : lotS (nI a) = nI ((a * 171 + 11213) % 53125) := by
  unfold lotS
  have e : nI a * 171 + 11213 = nI (a * 171 + 11213) := by
    show nI a * nI 171 + nI 11213 = _
    rw [pk_mul, nI_add]
  rw [e]
  exact pk_rem (d := 53125) (by omega) (by omega) (by omega)
theorem lotV_nI {a q : Nat} (ha : a < 53125) (hq : 0 < q) (hq2 : q < 2 ^ 31) : lotV (nI a) (nI q) = nI (a / 64 % q) := by
  unfold lotV
  have e : nI a / 64 = nI (a / 64) := pk_div (d := 64) (by omega) (by omega) (by omega)
  rw [e]
  exact pk_rem (by omega) hq hq2
def lotOk (l : Int32) : Prop := ∃ a, a < 53125 ∧ l = nI a
theorem lotOk_S {l : Int32} (h : lotOk l) : lotOk (lotS l) := by
  obtain ⟨a, ha, rfl⟩ := h
  exact ⟨_, Nat.mod_lt _ (by omega), lotS_nI ha⟩
theorem lotOk_askL {Sh : Nat → Int32} {C l : Int32} (h : lotOk l) : ∀ s, lotOk (askL Sh C l s).2 := by
  intro s
  induction s with
  | zero => exact h
  | succ s ih =>
    unfold askL
    split
    · split
      · exact lotOk_S ih
      · exact lotOk_S ih
    · exact ih
theorem lotOk_drl {C l : Int32} (h : lotOk l) : ∀ s, lotOk (drl C l s) := by
  intro s
  induction s with
  | zero => exact h
  | succ s ih =>
    unfold drl
    split
    · exact lotOk_S ih
    · exact ih
theorem lot8 {l : Int32} (h : lotOk l) : ∃ q, q < 8 ∧ lotV (lotS l) 8 = nI q := by
  obtain ⟨a, ha, e⟩ := lotOk_S h
  refine ⟨a / 64 % 8, Nat.mod_lt _ (by omega), ?_⟩
  rw [e]
  exact lotV_nI (q := 8) ha (by omega) (by omega)
-- the first of a set
def fstB (f : Nat → Int32) (x : Int32) : Nat → Option Nat
  | 0 => none
  | i + 1 => if bt x i then (match fstB f x i with
    | none => some i
    | some b => if f b < f i then some i else some b) else fstB f x i
def fstI (o : Option Nat) : Int32 := match o with
  | none => -1
  | some b => nI b
theorem fstB_lt (f : Nat → Int32) (x : Int32) : ∀ i b, fstB f x i = some b → b < i := by
  intro i
  induction i with
  | zero => intro b h; cases h
  | succ i ih =>
    intro b h
    unfold fstB at h
    split at h
    · split at h
      · cases h; omega
      · rename_i b' hb
        have := ih _ hb
        split at h <;> cases h <;> omega
    · have := ih b h; omega
theorem fstB_is {f : Nat → Int32} {x : Int32} {b n : Nat} (hb : b < n) (hx : bt x b = true) (h1 : ∀ i, i < n → bt x i = true → ¬ f b < f i) (h2 : ∀ i, i < b → bt x i = true → f i < f b) : fstB f x n = some b := by
  have low : ∀ i, i ≤ b → fstB f x i = none ∨ ∃ q, q < i ∧ fstB f x i = some q ∧ f q < f b := by
    intro i
    induction i with
    | zero => intro _; exact Or.inl rfl
    | succ i ih =>
      intro hi
      unfold fstB
      by_cases c : bt x i = true
      · rw [if_pos c]
        rcases ih (by omega) with e | ⟨q, q1, q2, q3⟩
        · rw [e]
          exact Or.inr ⟨i, by omega, rfl, h2 i (by omega) c⟩
        · rw [q2]
          by_cases d : f q < f i
          · refine Or.inr ⟨i, by omega, ?_, h2 i (by omega) c⟩
            show (if f q < f i then some i else some q) = _
            rw [if_pos d]
          · refine Or.inr ⟨q, by omega, ?_, q3⟩
            show (if f q < f i then some i else some q) = _
            rw [if_neg d]
      · rw [if_neg c]
        rcases ih (by omega) with e | ⟨q, q1, q2, q3⟩
        · exact Or.inl e
        · exact Or.inr ⟨q, by omega, q2, q3⟩
  have high : ∀ d, b + 1 + d ≤ n → fstB f x (b + 1 + d) = some b := by
    intro d
    induction d with
    | zero =>
      intro _
      show (if bt x b then _ else _) = _
      rw [if_pos hx]
      rcases low b (Nat.le_refl _) with e | ⟨q, q1, q2, q3⟩
      · rw [e]
      · rw [q2]
        show (if f q < f b then some b else some q) = _
        rw [if_pos q3]
    | succ d ih =>
      intro hd
      have ih' := ih (by omega)
      have hd' : (b + 1 + d) + 1 ≤ n := hd
      show fstB f x ((b + 1 + d) + 1) = _
      generalize b + 1 + d = j at ih' hd'
      show (if bt x j then _ else _) = _
      rw [ih']
      by_cases c : bt x j = true
      · rw [if_pos c]
        show (if f b < f j then _ else _) = _
        rw [if_neg (h1 _ (by omega) c)]
      · rw [if_neg c]
  have := high (n - (b + 1)) (by omega)
  rwa [show b + 1 + (n - (b + 1)) = n by omega] at this
theorem nI_ne_m1 {b : Nat} (hb : b < 2 ^ 31) : ¬ nI b = -1 := by
  intro e
  have h1 := nI_toInt hb
  rw [e] at h1
  have h2 : (-1 : Int32).toInt = -1 := by decide +kernel
  omega
section D2
variable {L : Nat} {xs : Nat → Int32} {h : am_H} {c B n v s t : Nat} {D : sg_S} {k : Nat → Int32}
theorem ok_asking (hc : c + 10 < h.1) (hB : B + 31 ≤ 372) (hn : D.1 1 = nI n) (h8 : n ≤ 8) (hs : s < 32) : am_ok L xs m_X5_asking [.ref c, .int (nI B), .int (nI s)] (ob sgD h c (dB D B k)) (some (askL (seg k 1) (contF (seg k 17) (D.2 4) (seg k 9) n s) (k 0) n).1) (ob sgD h c (dB D B (upd k 0 (askL (seg k 1) (contF (seg k 17) (D.2 4) (seg k 9) n s) (k 0) n).2))) := by
  refine en_X5_asking (cD hc) rfl rfl (ch_X5_asking_0 ⟨_, _, ok_contendersD hc hB hn h8 hs, ?_⟩)
  generalize contF (seg k 17) (D.2 4) (seg k 9) n s = C
  have key := up_to (P := fun i => am_wa L xs m_X5_asking (ob sgD h c (dB D B k)) (some (askL (seg k 1) C (k 0) n).1) (ob sgD h c (dB D B (upd k 0 (askL (seg k 1) C (k 0) n).2))) 13 [.ref c, .int (nI B), .null, .int C, .int (askL (seg k 1) C (k 0) i).1, .int (nI i)] [] (ob sgD h c (dB D B (upd k 0 (askL (seg k 1) C (k 0) i).2)))) n ?_ ?_ 0 (by omega)
  · simp only [askL, upd_id] at key
    exact key
  · refine ch_X5_asking_13 ?_
    simp only [cD hc, gD_0 hc, gD_1 hc, gD_2 hc, gD_3 hc, gD_4 hc, gD_5 hc, gD_6 hc, gD_7 hc, gD_8 hc, gD_9 hc, gD_10 hc, gD_11 hc, gD_12 hc, gD_13 hc, gD_14 hc, gD_15 hc, gD_16 hc, gD_17 hc, gD_18 hc, gD_19 hc, pD_1 hc, pD_2 hc, pD_3 hc, pD_5 hc, pD_8 hc, pD_11 hc, pD_12 hc, pD_13 hc, pD_14 hc, pD_15 hc, dB_1, am_b_some, hn]
    rw [if_neg (nI_irr n)]
    (first | exact ⟨fit_i _, rfl, rfl⟩ | exact ⟨fit_i _, rfl, trivial⟩ | exact ⟨fit_i _, trivial, rfl⟩ | exact ⟨fit_i _, trivial, trivial⟩)
  · intro i hi ih
    refine ch_X5_asking_13 ?_
    simp only [cD hc, gD_0 hc, gD_1 hc, gD_2 hc, gD_3 hc, gD_4 hc, gD_5 hc, gD_6 hc, gD_7 hc, gD_8 hc, gD_9 hc, gD_10 hc, gD_11 hc, gD_12 hc, gD_13 hc, gD_14 hc, gD_15 hc, gD_16 hc, gD_17 hc, gD_18 hc, gD_19 hc, pD_1 hc, pD_2 hc, pD_3 hc, pD_5 hc, pD_8 hc, pD_11 hc, pD_12 hc, pD_13 hc, pD_14 hc, pD_15 hc, dB_1, am_b_some, hn]
    rw [if_pos (nI_lt hi (by omega))]
    refine ⟨_, _, ok_hasD (by omega), br2 (fun c1 => ?_) (fun c1 => ?_)⟩
    · rw [bz_ne] at c1
      rw [← nI_succ, show askL (seg k 1) C (k 0) i = askL (seg k 1) C (k 0) (i + 1) by simp [askL, c1]]
      exact ih
    · rw [bz_ne] at c1
      refine ⟨_, _, ok_lot hc hB (by decide +kernel), ?_⟩
      simp only [cD hc, gD_0 hc, gD_1 hc, gD_2 hc, gD_3 hc, gD_4 hc, gD_5 hc, gD_6 hc, gD_7 hc, gD_8 hc, gD_9 hc, gD_10 hc, gD_11 hc, gD_12 hc, gD_13 hc, gD_14 hc, gD_15 hc, gD_16 hc, gD_17 hc, gD_18 hc, gD_19 hc, pD_1 hc, pD_2 hc, pD_3 hc, pD_5 hc, pD_8 hc, pD_11 hc, pD_12 hc, pD_13 hc, pD_14 hc, pD_15 hc, am_b_some, ix1, lS hc hB (show 1 + 8 ≤ 31 by omega) (show i < 8 by omega), upd_at, upd_upd, seg_ne _ 1 0 _ (by omega)]
      refine br2 (fun d => ?_) (fun d => ?_)
      · have e : askL (seg k 1) C (k 0) (i + 1) = ((askL (seg k 1) C (k 0) i).1 ||| (1 : Int32) <<< (nI i &&& 31), lotS (askL (seg k 1) C (k 0) i).2) := by
          show (if _ then _ else _) = _
          rw [if_pos (by simpa using c1), if_pos d]
        rw [e] at ih
        rw [← nI_succ]
        exact ih
      · have e : askL (seg k 1) C (k 0) (i + 1) = ((askL (seg k 1) C (k 0) i).1, lotS (askL (seg k 1) C (k 0) i).2) := by
          show (if _ then _ else _) = _
          rw [if_pos (by simpa using c1), if_neg d]
        rw [e] at ih
        rw [← nI_succ]
        exact ih
theorem ok_first (hc : c + 10 < h.1) (hn : D.1 1 = nI n) (h8 : n ≤ 8) {x : Int32} : am_ok L xs m_X5_first [.ref c, .int x] (ob sgD h c D) (some (fstI (fstB (D.2 18) x n))) (ob sgD h c D) := by
  refine en_X5_first (cD hc) rfl rfl (ch_X5_first_0 ?_)
  have key := up_to (P := fun i => am_wa L xs m_X5_first (ob sgD h c D) (some (fstI (fstB (D.2 18) x n))) (ob sgD h c D) 4 [.ref c, .int x, .int (fstI (fstB (D.2 18) x i)), .int (nI i)] [] (ob sgD h c D)) n ?_ ?_ 0 (by omega)
  · exact key
  · refine ch_X5_first_4 ?_
    simp only [cD hc, gD_0 hc, gD_1 hc, gD_2 hc, gD_3 hc, gD_4 hc, gD_5 hc, gD_6 hc, gD_7 hc, gD_8 hc, gD_9 hc, gD_10 hc, gD_11 hc, gD_12 hc, gD_13 hc, gD_14 hc, gD_15 hc, gD_16 hc, gD_17 hc, gD_18 hc, gD_19 hc, pD_1 hc, pD_2 hc, pD_3 hc, pD_5 hc, pD_8 hc, pD_11 hc, pD_12 hc, pD_13 hc, pD_14 hc, pD_15 hc, am_b_some, hn]
    rw [if_neg (nI_irr n)]
    (first | exact ⟨fit_i _, rfl, rfl⟩ | exact ⟨fit_i _, rfl, trivial⟩ | exact ⟨fit_i _, trivial, rfl⟩ | exact ⟨fit_i _, trivial, trivial⟩)
  · intro i hi ih
    refine ch_X5_first_4 ?_
    simp only [cD hc, gD_0 hc, gD_1 hc, gD_2 hc, gD_3 hc, gD_4 hc, gD_5 hc, gD_6 hc, gD_7 hc, gD_8 hc, gD_9 hc, gD_10 hc, gD_11 hc, gD_12 hc, gD_13 hc, gD_14 hc, gD_15 hc, gD_16 hc, gD_17 hc, gD_18 hc, gD_19 hc, pD_1 hc, pD_2 hc, pD_3 hc, pD_5 hc, pD_8 hc, pD_11 hc, pD_12 hc, pD_13 hc, pD_14 hc, pD_15 hc, am_b_some, hn]
    rw [if_pos (nI_lt hi (by omega))]
    refine ⟨_, _, ok_hasD (by omega), br2 (fun c1 => ?_) (fun c1 => ?_)⟩
    · rw [bz_ne] at c1
      simp only [fstB, c1] at ih
      rw [← nI_succ]
      exact ih
    · rw [bz_ne] at c1
      have ct : bt x i = true := by simpa using c1
      cases hq : fstB (D.2 18) x i with
      | none =>
        rw [if_pos (show fstI none = -1 from rfl)]
        simp only [fstB, ct, if_true, hq] at ih
        rw [← nI_succ]
        exact ih
      | some q =>
        have hq2 := fstB_lt _ _ _ _ hq
        have hq8 : q < 8 := by omega
        rw [if_neg (show ¬ fstI (some q) = -1 from nI_ne_m1 (by omega))]
        simp only [fstI, cD hc, gD_0 hc, gD_1 hc, gD_2 hc, gD_3 hc, gD_4 hc, gD_5 hc, gD_6 hc, gD_7 hc, gD_8 hc, gD_9 hc, gD_10 hc, gD_11 hc, gD_12 hc, gD_13 hc, gD_14 hc, gD_15 hc, gD_16 hc, gD_17 hc, gD_18 hc, gD_19 hc, pD_1 hc, pD_2 hc, pD_3 hc, pD_5 hc, pD_8 hc, pD_11 hc, pD_12 hc, pD_13 hc, pD_14 hc, pD_15 hc, am_b_some, lD_18 hc (show i < 8 by omega), lD_18 hc hq8]
        simp only [fstB, ct, if_true, hq] at ih
        refine br2 (fun d => ?_) (fun d => ?_)
        · rw [if_pos d] at ih
          rw [← nI_succ]
          exact ih
        · rw [if_neg d] at ih
          rw [← nI_succ]
          exact ih
end D2
end
