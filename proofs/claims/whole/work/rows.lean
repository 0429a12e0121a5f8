section
-- ===== PART A: goes FIRST, ahead of the names: the tables' words, and 'selects' of the private methods out of them =====
/-- a private method of a class that the tables say can be made, by its rows of tables_1 -/
def lw_okq (q : MethodName × Nat) : Prop := (q.1.cls ≠ "java/lang/invoke/MethodHandle" ∧ q.1.cls ≠ "java/lang/invoke/VarHandle") ∧ Cond.instantiable q.1.cls q.2 ∈ tables_1 ∧ Cond.privateMethod q.1 ∈ tables_1 ∧ Cond.instanceMethod q.1 ∈ tables_1
theorem lw_p0 : lw_okq (⟨"ArcOrder$Text", "nextToken", "()V"⟩, 6) := ⟨⟨by decide +kernel, by decide +kernel⟩, List.mem_of_getElem? (i := 70) (by decide +kernel), List.mem_of_getElem? (i := 263) (by decide +kernel), List.mem_of_getElem? (i := 264) (by decide +kernel)⟩
theorem lw_p1 : lw_okq (⟨"ArcOrder$Text", "isDigit", "(I)Z"⟩, 6) := ⟨⟨by decide +kernel, by decide +kernel⟩, List.mem_of_getElem? (i := 70) (by decide +kernel), List.mem_of_getElem? (i := 267) (by decide +kernel), List.mem_of_getElem? (i := 268) (by decide +kernel)⟩
theorem lw_p2 : lw_okq (⟨"ArcOrder$Text", "readDigits", "()V"⟩, 6) := ⟨⟨by decide +kernel, by decide +kernel⟩, List.mem_of_getElem? (i := 70) (by decide +kernel), List.mem_of_getElem? (i := 271) (by decide +kernel), List.mem_of_getElem? (i := 272) (by decide +kernel)⟩
theorem lw_p3 : lw_okq (⟨"ArcOrder$Text", "readEntry", "(LArcOrder$Net;Z)Z"⟩, 6) := ⟨⟨by decide +kernel, by decide +kernel⟩, List.mem_of_getElem? (i := 70) (by decide +kernel), List.mem_of_getElem? (i := 278) (by decide +kernel), List.mem_of_getElem? (i := 279) (by decide +kernel)⟩
theorem lw_p4 : lw_okq (⟨"ArcOrder$Text", "readItems", "(LArcOrder$Net;)Z"⟩, 6) := ⟨⟨by decide +kernel, by decide +kernel⟩, List.mem_of_getElem? (i := 70) (by decide +kernel), List.mem_of_getElem? (i := 282) (by decide +kernel), List.mem_of_getElem? (i := 283) (by decide +kernel)⟩
theorem lw_p5 : lw_okq (⟨"ArcOrder$Text", "readNumber", "(II)Z"⟩, 6) := ⟨⟨by decide +kernel, by decide +kernel⟩, List.mem_of_getElem? (i := 70) (by decide +kernel), List.mem_of_getElem? (i := 286) (by decide +kernel), List.mem_of_getElem? (i := 287) (by decide +kernel)⟩
theorem lw_p6 : lw_okq (⟨"ArcOrder$Text", "readArc", "(LArcOrder$Net;)Z"⟩, 6) := ⟨⟨by decide +kernel, by decide +kernel⟩, List.mem_of_getElem? (i := 70) (by decide +kernel), List.mem_of_getElem? (i := 290) (by decide +kernel), List.mem_of_getElem? (i := 291) (by decide +kernel)⟩
theorem lw_p7 : lw_okq (⟨"ArcOrder$Net", "sweepOn", "(II)I"⟩, 7) := ⟨⟨by decide +kernel, by decide +kernel⟩, List.mem_of_getElem? (i := 24) (by decide +kernel), List.mem_of_getElem? (i := 317) (by decide +kernel), List.mem_of_getElem? (i := 318) (by decide +kernel)⟩
theorem lw_p8 : lw_okq (⟨"ArcOrder$Net", "sweepBack", "(II)I"⟩, 7) := ⟨⟨by decide +kernel, by decide +kernel⟩, List.mem_of_getElem? (i := 24) (by decide +kernel), List.mem_of_getElem? (i := 329) (by decide +kernel), List.mem_of_getElem? (i := 330) (by decide +kernel)⟩
theorem lw_p9 : lw_okq (⟨"ArcOrder$Net", "rearrange", "(II)V"⟩, 7) := ⟨⟨by decide +kernel, by decide +kernel⟩, List.mem_of_getElem? (i := 24) (by decide +kernel), List.mem_of_getElem? (i := 337) (by decide +kernel), List.mem_of_getElem? (i := 338) (by decide +kernel)⟩
theorem lw_p10 : lw_okq (⟨"ArcOrder$Net", "gather", "(II)I"⟩, 7) := ⟨⟨by decide +kernel, by decide +kernel⟩, List.mem_of_getElem? (i := 24) (by decide +kernel), List.mem_of_getElem? (i := 341) (by decide +kernel), List.mem_of_getElem? (i := 342) (by decide +kernel)⟩
theorem lw_p11 : lw_okq (⟨"ArcOrder$Net", "stand", "(II)V"⟩, 7) := ⟨⟨by decide +kernel, by decide +kernel⟩, List.mem_of_getElem? (i := 24) (by decide +kernel), List.mem_of_getElem? (i := 345) (by decide +kernel), List.mem_of_getElem? (i := 346) (by decide +kernel)⟩
theorem lw_p12 : lw_okq (⟨"ArcOrder", "freeArcs", "()I"⟩, 11) := ⟨⟨by decide +kernel, by decide +kernel⟩, List.mem_of_getElem? (i := 16) (by decide +kernel), List.mem_of_getElem? (i := 388) (by decide +kernel), List.mem_of_getElem? (i := 389) (by decide +kernel)⟩
theorem lw_p13 : lw_okq (⟨"ArcOrder", "arcMovingMost", "()I"⟩, 11) := ⟨⟨by decide +kernel, by decide +kernel⟩, List.mem_of_getElem? (i := 16) (by decide +kernel), List.mem_of_getElem? (i := 397) (by decide +kernel), List.mem_of_getElem? (i := 398) (by decide +kernel)⟩
theorem lw_p14 : lw_okq (⟨"ArcOrder", "spareArcs", "()I"⟩, 11) := ⟨⟨by decide +kernel, by decide +kernel⟩, List.mem_of_getElem? (i := 16) (by decide +kernel), List.mem_of_getElem? (i := 420) (by decide +kernel), List.mem_of_getElem? (i := 421) (by decide +kernel)⟩
theorem lw_p15 : lw_okq (⟨"ArcOrder$Lap", "measure", "(LArcOrder$Net;I)V"⟩, 3) := ⟨⟨by decide +kernel, by decide +kernel⟩, List.mem_of_getElem? (i := 132) (by decide +kernel), List.mem_of_getElem? (i := 435) (by decide +kernel), List.mem_of_getElem? (i := 436) (by decide +kernel)⟩
def lw_privs_1 : List (MethodName × Nat) := [(⟨"ArcOrder$Text", "nextToken", "()V"⟩, 6), (⟨"ArcOrder$Text", "isDigit", "(I)Z"⟩, 6), (⟨"ArcOrder$Text", "readDigits", "()V"⟩, 6), (⟨"ArcOrder$Text", "readEntry", "(LArcOrder$Net;Z)Z"⟩, 6), (⟨"ArcOrder$Text", "readItems", "(LArcOrder$Net;)Z"⟩, 6), (⟨"ArcOrder$Text", "readNumber", "(II)Z"⟩, 6), (⟨"ArcOrder$Text", "readArc", "(LArcOrder$Net;)Z"⟩, 6), (⟨"ArcOrder$Net", "sweepOn", "(II)I"⟩, 7), (⟨"ArcOrder$Net", "sweepBack", "(II)I"⟩, 7), (⟨"ArcOrder$Net", "rearrange", "(II)V"⟩, 7), (⟨"ArcOrder$Net", "gather", "(II)I"⟩, 7), (⟨"ArcOrder$Net", "stand", "(II)V"⟩, 7), (⟨"ArcOrder", "freeArcs", "()I"⟩, 11), (⟨"ArcOrder", "arcMovingMost", "()I"⟩, 11), (⟨"ArcOrder", "spareArcs", "()I"⟩, 11), (⟨"ArcOrder$Lap", "measure", "(LArcOrder$Net;I)V"⟩, 3)]
theorem lw_r1 : ∀ q ∈ lw_privs_1, lw_okq q := List.forall_mem_cons.mpr ⟨lw_p0, List.forall_mem_cons.mpr ⟨lw_p1, List.forall_mem_cons.mpr ⟨lw_p2, List.forall_mem_cons.mpr ⟨lw_p3, List.forall_mem_cons.mpr ⟨lw_p4, List.forall_mem_cons.mpr ⟨lw_p5, List.forall_mem_cons.mpr ⟨lw_p6, List.forall_mem_cons.mpr ⟨lw_p7, List.forall_mem_cons.mpr ⟨lw_p8, List.forall_mem_cons.mpr ⟨lw_p9, List.forall_mem_cons.mpr ⟨lw_p10, List.forall_mem_cons.mpr ⟨lw_p11, List.forall_mem_cons.mpr ⟨lw_p12, List.forall_mem_cons.mpr ⟨lw_p13, List.forall_mem_cons.mpr ⟨lw_p14, List.forall_mem_cons.mpr ⟨lw_p15, fun _ h => absurd h List.not_mem_nil⟩⟩⟩⟩⟩⟩⟩⟩⟩⟩⟩⟩⟩⟩⟩⟩
theorem lw_p16 : lw_okq (⟨"ArcOrder$Lap", "lowestNext", "(LArcOrder$Net;II)I"⟩, 3) := ⟨⟨by decide +kernel, by decide +kernel⟩, List.mem_of_getElem? (i := 132) (by decide +kernel), List.mem_of_getElem? (i := 444) (by decide +kernel), List.mem_of_getElem? (i := 445) (by decide +kernel)⟩
theorem lw_p17 : lw_okq (⟨"ArcOrder$Past", "loseOldest", "()V"⟩, 2) := ⟨⟨by decide +kernel, by decide +kernel⟩, List.mem_of_getElem? (i := 115) (by decide +kernel), List.mem_of_getElem? (i := 452) (by decide +kernel), List.mem_of_getElem? (i := 453) (by decide +kernel)⟩
theorem lw_p18 : lw_okq (⟨"ArcOrder", "putListed", "()Z"⟩, 11) := ⟨⟨by decide +kernel, by decide +kernel⟩, List.mem_of_getElem? (i := 16) (by decide +kernel), List.mem_of_getElem? (i := 479) (by decide +kernel), List.mem_of_getElem? (i := 480) (by decide +kernel)⟩
theorem lw_p19 : lw_okq (⟨"ArcOrder$Tally", "prepare", "(LArcOrder$Net;)V"⟩, 3) := ⟨⟨by decide +kernel, by decide +kernel⟩, List.mem_of_getElem? (i := 178) (by decide +kernel), List.mem_of_getElem? (i := 529) (by decide +kernel), List.mem_of_getElem? (i := 530) (by decide +kernel)⟩
theorem lw_p20 : lw_okq (⟨"ArcOrder$Tally", "waysOn", "(LArcOrder$Net;I)J"⟩, 3) := ⟨⟨by decide +kernel, by decide +kernel⟩, List.mem_of_getElem? (i := 178) (by decide +kernel), List.mem_of_getElem? (i := 538) (by decide +kernel), List.mem_of_getElem? (i := 539) (by decide +kernel)⟩
theorem lw_p21 : lw_okq (⟨"ArcOrder$Sight", "takeIfFits", "(II)V"⟩, 6) := ⟨⟨by decide +kernel, by decide +kernel⟩, List.mem_of_getElem? (i := 150) (by decide +kernel), List.mem_of_getElem? (i := 602) (by decide +kernel), List.mem_of_getElem? (i := 603) (by decide +kernel)⟩
theorem lw_p22 : lw_okq (⟨"ArcOrderModel", "begins", "()V"⟩, 36) := ⟨⟨by decide +kernel, by decide +kernel⟩, List.mem_of_getElem? (i := 629) (by decide +kernel), List.mem_of_getElem? (i := 635) (by decide +kernel), List.mem_of_getElem? (i := 636) (by decide +kernel)⟩
theorem lw_p23 : lw_okq (⟨"ArcOrderModel", "settles", "()V"⟩, 36) := ⟨⟨by decide +kernel, by decide +kernel⟩, List.mem_of_getElem? (i := 629) (by decide +kernel), List.mem_of_getElem? (i := 639) (by decide +kernel), List.mem_of_getElem? (i := 640) (by decide +kernel)⟩
theorem lw_p24 : lw_okq (⟨"ArcOrderModel", "advances", "()V"⟩, 36) := ⟨⟨by decide +kernel, by decide +kernel⟩, List.mem_of_getElem? (i := 629) (by decide +kernel), List.mem_of_getElem? (i := 770) (by decide +kernel), List.mem_of_getElem? (i := 771) (by decide +kernel)⟩
theorem lw_p25 : lw_okq (⟨"ArcOrderModel", "letterAt", "(I)I"⟩, 36) := ⟨⟨by decide +kernel, by decide +kernel⟩, List.mem_of_getElem? (i := 629) (by decide +kernel), List.mem_of_getElem? (i := 774) (by decide +kernel), List.mem_of_getElem? (i := 775) (by decide +kernel)⟩
theorem lw_p26 : lw_okq (⟨"ArcOrderModel", "isWell", "()Z"⟩, 36) := ⟨⟨by decide +kernel, by decide +kernel⟩, List.mem_of_getElem? (i := 629) (by decide +kernel), List.mem_of_getElem? (i := 778) (by decide +kernel), List.mem_of_getElem? (i := 779) (by decide +kernel)⟩
theorem lw_p27 : lw_okq (⟨"ArcOrderModel", "takes", "(Z)I"⟩, 36) := ⟨⟨by decide +kernel, by decide +kernel⟩, List.mem_of_getElem? (i := 629) (by decide +kernel), List.mem_of_getElem? (i := 782) (by decide +kernel), List.mem_of_getElem? (i := 783) (by decide +kernel)⟩
theorem lw_p28 : lw_okq (⟨"ArcOrderModel", "readsEntry", "(I)V"⟩, 36) := ⟨⟨by decide +kernel, by decide +kernel⟩, List.mem_of_getElem? (i := 629) (by decide +kernel), List.mem_of_getElem? (i := 786) (by decide +kernel), List.mem_of_getElem? (i := 787) (by decide +kernel)⟩
theorem lw_p29 : lw_okq (⟨"ArcOrderModel", "isNumber", "(II)Z"⟩, 36) := ⟨⟨by decide +kernel, by decide +kernel⟩, List.mem_of_getElem? (i := 629) (by decide +kernel), List.mem_of_getElem? (i := 790) (by decide +kernel), List.mem_of_getElem? (i := 791) (by decide +kernel)⟩
theorem lw_p30 : lw_okq (⟨"ArcOrderModel", "canBe", "(I)Z"⟩, 36) := ⟨⟨by decide +kernel, by decide +kernel⟩, List.mem_of_getElem? (i := 629) (by decide +kernel), List.mem_of_getElem? (i := 794) (by decide +kernel), List.mem_of_getElem? (i := 795) (by decide +kernel)⟩
theorem lw_p31 : lw_okq (⟨"ArcOrderModel", "looks", "([IIII)V"⟩, 36) := ⟨⟨by decide +kernel, by decide +kernel⟩, List.mem_of_getElem? (i := 629) (by decide +kernel), List.mem_of_getElem? (i := 801) (by decide +kernel), List.mem_of_getElem? (i := 802) (by decide +kernel)⟩
def lw_privs_2 : List (MethodName × Nat) := [(⟨"ArcOrder$Lap", "lowestNext", "(LArcOrder$Net;II)I"⟩, 3), (⟨"ArcOrder$Past", "loseOldest", "()V"⟩, 2), (⟨"ArcOrder", "putListed", "()Z"⟩, 11), (⟨"ArcOrder$Tally", "prepare", "(LArcOrder$Net;)V"⟩, 3), (⟨"ArcOrder$Tally", "waysOn", "(LArcOrder$Net;I)J"⟩, 3), (⟨"ArcOrder$Sight", "takeIfFits", "(II)V"⟩, 6), (⟨"ArcOrderModel", "begins", "()V"⟩, 36), (⟨"ArcOrderModel", "settles", "()V"⟩, 36), (⟨"ArcOrderModel", "advances", "()V"⟩, 36), (⟨"ArcOrderModel", "letterAt", "(I)I"⟩, 36), (⟨"ArcOrderModel", "isWell", "()Z"⟩, 36), (⟨"ArcOrderModel", "takes", "(Z)I"⟩, 36), (⟨"ArcOrderModel", "readsEntry", "(I)V"⟩, 36), (⟨"ArcOrderModel", "isNumber", "(II)Z"⟩, 36), (⟨"ArcOrderModel", "canBe", "(I)Z"⟩, 36), (⟨"ArcOrderModel", "looks", "([IIII)V"⟩, 36)]
theorem lw_r2 : ∀ q ∈ lw_privs_2, lw_okq q := List.forall_mem_cons.mpr ⟨lw_p16, List.forall_mem_cons.mpr ⟨lw_p17, List.forall_mem_cons.mpr ⟨lw_p18, List.forall_mem_cons.mpr ⟨lw_p19, List.forall_mem_cons.mpr ⟨lw_p20, List.forall_mem_cons.mpr ⟨lw_p21, List.forall_mem_cons.mpr ⟨lw_p22, List.forall_mem_cons.mpr ⟨lw_p23, List.forall_mem_cons.mpr ⟨lw_p24, List.forall_mem_cons.mpr ⟨lw_p25, List.forall_mem_cons.mpr ⟨lw_p26, List.forall_mem_cons.mpr ⟨lw_p27, List.forall_mem_cons.mpr ⟨lw_p28, List.forall_mem_cons.mpr ⟨lw_p29, List.forall_mem_cons.mpr ⟨lw_p30, List.forall_mem_cons.mpr ⟨lw_p31, fun _ h => absurd h List.not_mem_nil⟩⟩⟩⟩⟩⟩⟩⟩⟩⟩⟩⟩⟩⟩⟩⟩
theorem lw_p32 : lw_okq (⟨"ArcOrderModel", "lays", "([IIII)V"⟩, 36) := ⟨⟨by decide +kernel, by decide +kernel⟩, List.mem_of_getElem? (i := 629) (by decide +kernel), List.mem_of_getElem? (i := 805) (by decide +kernel), List.mem_of_getElem? (i := 806) (by decide +kernel)⟩
theorem lw_p33 : lw_okq (⟨"ArcOrderModel", "moves", "([II)V"⟩, 36) := ⟨⟨by decide +kernel, by decide +kernel⟩, List.mem_of_getElem? (i := 629) (by decide +kernel), List.mem_of_getElem? (i := 809) (by decide +kernel), List.mem_of_getElem? (i := 810) (by decide +kernel)⟩
theorem lw_p34 : lw_okq (⟨"ArcOrderModel", "isItem", "(I)Z"⟩, 36) := ⟨⟨by decide +kernel, by decide +kernel⟩, List.mem_of_getElem? (i := 629) (by decide +kernel), List.mem_of_getElem? (i := 824) (by decide +kernel), List.mem_of_getElem? (i := 825) (by decide +kernel)⟩
theorem lw_p35 : lw_okq (⟨"ArcOrderModel", "into", "(I)I"⟩, 36) := ⟨⟨by decide +kernel, by decide +kernel⟩, List.mem_of_getElem? (i := 629) (by decide +kernel), List.mem_of_getElem? (i := 828) (by decide +kernel), List.mem_of_getElem? (i := 829) (by decide +kernel)⟩
theorem lw_p36 : lw_okq (⟨"ArcOrderModel", "ahead", "(I)I"⟩, 36) := ⟨⟨by decide +kernel, by decide +kernel⟩, List.mem_of_getElem? (i := 629) (by decide +kernel), List.mem_of_getElem? (i := 832) (by decide +kernel), List.mem_of_getElem? (i := 833) (by decide +kernel)⟩
theorem lw_p37 : lw_okq (⟨"ArcOrderModel", "behind", "(I)I"⟩, 36) := ⟨⟨by decide +kernel, by decide +kernel⟩, List.mem_of_getElem? (i := 629) (by decide +kernel), List.mem_of_getElem? (i := 836) (by decide +kernel), List.mem_of_getElem? (i := 837) (by decide +kernel)⟩
theorem lw_p38 : lw_okq (⟨"ArcOrderModel", "arcs", "()I"⟩, 36) := ⟨⟨by decide +kernel, by decide +kernel⟩, List.mem_of_getElem? (i := 629) (by decide +kernel), List.mem_of_getElem? (i := 851) (by decide +kernel), List.mem_of_getElem? (i := 852) (by decide +kernel)⟩
theorem lw_p39 : lw_okq (⟨"ArcOrderModel", "free", "()I"⟩, 36) := ⟨⟨by decide +kernel, by decide +kernel⟩, List.mem_of_getElem? (i := 629) (by decide +kernel), List.mem_of_getElem? (i := 855) (by decide +kernel), List.mem_of_getElem? (i := 856) (by decide +kernel)⟩
theorem lw_p40 : lw_okq (⟨"ArcOrderModel", "most", "()I"⟩, 36) := ⟨⟨by decide +kernel, by decide +kernel⟩, List.mem_of_getElem? (i := 629) (by decide +kernel), List.mem_of_getElem? (i := 859) (by decide +kernel), List.mem_of_getElem? (i := 860) (by decide +kernel)⟩
theorem lw_p41 : lw_okq (⟨"ArcOrderModel", "movedBy", "(II)I"⟩, 36) := ⟨⟨by decide +kernel, by decide +kernel⟩, List.mem_of_getElem? (i := 629) (by decide +kernel), List.mem_of_getElem? (i := 863) (by decide +kernel), List.mem_of_getElem? (i := 864) (by decide +kernel)⟩
theorem lw_p42 : lw_okq (⟨"ArcOrderModel", "moved", "([I[I)I"⟩, 36) := ⟨⟨by decide +kernel, by decide +kernel⟩, List.mem_of_getElem? (i := 629) (by decide +kernel), List.mem_of_getElem? (i := 867) (by decide +kernel), List.mem_of_getElem? (i := 868) (by decide +kernel)⟩
theorem lw_p43 : lw_okq (⟨"ArcOrderModel", "chain", "()I"⟩, 36) := ⟨⟨by decide +kernel, by decide +kernel⟩, List.mem_of_getElem? (i := 629) (by decide +kernel), List.mem_of_getElem? (i := 871) (by decide +kernel), List.mem_of_getElem? (i := 872) (by decide +kernel)⟩
theorem lw_p44 : lw_okq (⟨"ArcOrderModel", "spares", "()I"⟩, 36) := ⟨⟨by decide +kernel, by decide +kernel⟩, List.mem_of_getElem? (i := 629) (by decide +kernel), List.mem_of_getElem? (i := 875) (by decide +kernel), List.mem_of_getElem? (i := 876) (by decide +kernel)⟩
theorem lw_p45 : lw_okq (⟨"ArcOrderModel", "isSpare", "(II)Z"⟩, 36) := ⟨⟨by decide +kernel, by decide +kernel⟩, List.mem_of_getElem? (i := 629) (by decide +kernel), List.mem_of_getElem? (i := 879) (by decide +kernel), List.mem_of_getElem? (i := 880) (by decide +kernel)⟩
theorem lw_p46 : lw_okq (⟨"ArcOrderModel", "isTwo", "(II)Z"⟩, 36) := ⟨⟨by decide +kernel, by decide +kernel⟩, List.mem_of_getElem? (i := 629) (by decide +kernel), List.mem_of_getElem? (i := 887) (by decide +kernel), List.mem_of_getElem? (i := 888) (by decide +kernel)⟩
theorem lw_p47 : lw_okq (⟨"ArcOrderModel", "rings", "([III)V"⟩, 36) := ⟨⟨by decide +kernel, by decide +kernel⟩, List.mem_of_getElem? (i := 629) (by decide +kernel), List.mem_of_getElem? (i := 891) (by decide +kernel), List.mem_of_getElem? (i := 892) (by decide +kernel)⟩
def lw_privs_3 : List (MethodName × Nat) := [(⟨"ArcOrderModel", "lays", "([IIII)V"⟩, 36), (⟨"ArcOrderModel", "moves", "([II)V"⟩, 36), (⟨"ArcOrderModel", "isItem", "(I)Z"⟩, 36), (⟨"ArcOrderModel", "into", "(I)I"⟩, 36), (⟨"ArcOrderModel", "ahead", "(I)I"⟩, 36), (⟨"ArcOrderModel", "behind", "(I)I"⟩, 36), (⟨"ArcOrderModel", "arcs", "()I"⟩, 36), (⟨"ArcOrderModel", "free", "()I"⟩, 36), (⟨"ArcOrderModel", "most", "()I"⟩, 36), (⟨"ArcOrderModel", "movedBy", "(II)I"⟩, 36), (⟨"ArcOrderModel", "moved", "([I[I)I"⟩, 36), (⟨"ArcOrderModel", "chain", "()I"⟩, 36), (⟨"ArcOrderModel", "spares", "()I"⟩, 36), (⟨"ArcOrderModel", "isSpare", "(II)Z"⟩, 36), (⟨"ArcOrderModel", "isTwo", "(II)Z"⟩, 36), (⟨"ArcOrderModel", "rings", "([III)V"⟩, 36)]
theorem lw_r3 : ∀ q ∈ lw_privs_3, lw_okq q := List.forall_mem_cons.mpr ⟨lw_p32, List.forall_mem_cons.mpr ⟨lw_p33, List.forall_mem_cons.mpr ⟨lw_p34, List.forall_mem_cons.mpr ⟨lw_p35, List.forall_mem_cons.mpr ⟨lw_p36, List.forall_mem_cons.mpr ⟨lw_p37, List.forall_mem_cons.mpr ⟨lw_p38, List.forall_mem_cons.mpr ⟨lw_p39, List.forall_mem_cons.mpr ⟨lw_p40, List.forall_mem_cons.mpr ⟨lw_p41, List.forall_mem_cons.mpr ⟨lw_p42, List.forall_mem_cons.mpr ⟨lw_p43, List.forall_mem_cons.mpr ⟨lw_p44, List.forall_mem_cons.mpr ⟨lw_p45, List.forall_mem_cons.mpr ⟨lw_p46, List.forall_mem_cons.mpr ⟨lw_p47, fun _ h => absurd h List.not_mem_nil⟩⟩⟩⟩⟩⟩⟩⟩⟩⟩⟩⟩⟩⟩⟩⟩
theorem lw_p48 : lw_okq (⟨"ArcOrderModel", "notes", "()V"⟩, 36) := ⟨⟨by decide +kernel, by decide +kernel⟩, List.mem_of_getElem? (i := 629) (by decide +kernel), List.mem_of_getElem? (i := 895) (by decide +kernel), List.mem_of_getElem? (i := 896) (by decide +kernel)⟩
theorem lw_p49 : lw_okq (⟨"ArcOrderModel", "counts", "()V"⟩, 36) := ⟨⟨by decide +kernel, by decide +kernel⟩, List.mem_of_getElem? (i := 629) (by decide +kernel), List.mem_of_getElem? (i := 915) (by decide +kernel), List.mem_of_getElem? (i := 916) (by decide +kernel)⟩
theorem lw_p50 : lw_okq (⟨"ArcOrderModel", "canNext", "(II)Z"⟩, 36) := ⟨⟨by decide +kernel, by decide +kernel⟩, List.mem_of_getElem? (i := 629) (by decide +kernel), List.mem_of_getElem? (i := 919) (by decide +kernel), List.mem_of_getElem? (i := 920) (by decide +kernel)⟩
theorem lw_p51 : lw_okq (⟨"ArcOrderModel", "orderOf", "(J)V"⟩, 36) := ⟨⟨by decide +kernel, by decide +kernel⟩, List.mem_of_getElem? (i := 629) (by decide +kernel), List.mem_of_getElem? (i := 923) (by decide +kernel), List.mem_of_getElem? (i := 924) (by decide +kernel)⟩
theorem lw_p52 : lw_okq (⟨"ArcOrderModel", "makes", "(III)V"⟩, 36) := ⟨⟨by decide +kernel, by decide +kernel⟩, List.mem_of_getElem? (i := 629) (by decide +kernel), List.mem_of_getElem? (i := 951) (by decide +kernel), List.mem_of_getElem? (i := 952) (by decide +kernel)⟩
theorem lw_p53 : lw_okq (⟨"ArcOrderModel", "unseenMany", "()I"⟩, 36) := ⟨⟨by decide +kernel, by decide +kernel⟩, List.mem_of_getElem? (i := 629) (by decide +kernel), List.mem_of_getElem? (i := 967) (by decide +kernel), List.mem_of_getElem? (i := 968) (by decide +kernel)⟩
def lw_privs_4 : List (MethodName × Nat) := [(⟨"ArcOrderModel", "notes", "()V"⟩, 36), (⟨"ArcOrderModel", "counts", "()V"⟩, 36), (⟨"ArcOrderModel", "canNext", "(II)Z"⟩, 36), (⟨"ArcOrderModel", "orderOf", "(J)V"⟩, 36), (⟨"ArcOrderModel", "makes", "(III)V"⟩, 36), (⟨"ArcOrderModel", "unseenMany", "()I"⟩, 36)]
theorem lw_r4 : ∀ q ∈ lw_privs_4, lw_okq q := List.forall_mem_cons.mpr ⟨lw_p48, List.forall_mem_cons.mpr ⟨lw_p49, List.forall_mem_cons.mpr ⟨lw_p50, List.forall_mem_cons.mpr ⟨lw_p51, List.forall_mem_cons.mpr ⟨lw_p52, List.forall_mem_cons.mpr ⟨lw_p53, fun _ h => absurd h List.not_mem_nil⟩⟩⟩⟩⟩⟩
def lw_privs : List (MethodName × Nat) := lw_privs_1 ++ (lw_privs_2 ++ (lw_privs_3 ++ (lw_privs_4)))
def lw_tbl : List Cond := k2_sels lw_privs ++ tables_1
theorem lw_privs_ok : ∀ q ∈ lw_privs, lw_okq q := by
  show ∀ q ∈ lw_privs_1 ++ (lw_privs_2 ++ (lw_privs_3 ++ (lw_privs_4))), lw_okq q
  exact List.forall_mem_append.mpr ⟨lw_r1, List.forall_mem_append.mpr ⟨lw_r2, List.forall_mem_append.mpr ⟨lw_r3, lw_r4⟩⟩⟩
-- ===== end of PART A; then your names; then what follows =====
end
section
/-! ===== BEGIN words of one list among another's, by their places ===== -/
theorem goodIn_r {big : List Cond} (ws : List Cond) (ps : List Nat) (hp : ws = ps.filterMap (fun i => big[i]?)) (h : ws.all goodWord = true) : GoodIn big ws := by
  intro w hw
  have h1 := List.all_eq_true.mp h w hw
  rw [hp] at hw
  obtain ⟨i, -, hi⟩ := List.mem_filterMap.mp hw
  have hm : w ∈ big := by first | exact List.mem_of_getElem? hi | exact List.getElem?_mem hi
  exact ⟨hm, good_of_word h1⟩
theorem goodIn_app {big a b : List Cond} (ha : GoodIn big a) (hb : GoodIn big b) : GoodIn big (a ++ b) := fun w h => (List.mem_append.mp h).elim (ha w) (hb w)
theorem goodIn_ca {big a b : List Cond} {c : Cond} (ha : GoodIn big (c :: a)) (hb : GoodIn big b) : GoodIn big (c :: (a ++ b)) := fun w h => (List.mem_cons.mp h).elim (fun e => ha w (List.mem_cons.mpr (Or.inl e))) (fun h => (List.mem_append.mp h).elim (fun h => ha w (List.mem_cons.mpr (Or.inr h))) (hb w))
theorem goodIn_sub {big ws : List Cond} (hm : ∀ w ∈ ws, w ∈ big) (h : ws.all goodWord = true) : GoodIn big ws := fun w hw => ⟨hm w hw, good_of_word (List.all_eq_true.mp h w hw)⟩
/-! ===== END ===== -/

/-! ===== BEGIN printed: names, fields, word lists, decode rows ===== -/
def RX0 : String := "ArcOrder$ArcList"
def TX0 : u_T := fun k => match k with
  | 0 => ("ArcOrder$ArcList", "size", "I", false)
  | 1 => ("ArcOrder$ArcList", "from", "[I", true)
  | _ => ("ArcOrder$ArcList", "to", "[I", true)
def tyX0 : Nat → FieldType := fun k => match k with
  | 0 => .int
  | 1 => .array .int
  | _ => .array .int
abbrev wsX00 : List Cond := u_ws RX0 TX0 3
theorem nmX0 : ∀ a, a < 3 → ∀ b, b < 3 → a ≠ b → (TX0 a).2.1 ≠ (TX0 b).2.1 := by decide +kernel
theorem tyX0_ok : ∀ k, k < 3 → parseFieldDescriptor (TX0 k).2.2.1 = some (tyX0 k) := by decide +kernel
abbrev cX0_init : ByteArray := prog_2_method_1_code
def yX0_init : MethodName := ⟨RX0, "<init>", "()V"⟩
abbrev cX0_append : ByteArray := prog_2_method_2_code
def yX0_append : MethodName := ⟨RX0, "append", "(II)Z"⟩
abbrev cX0_holds : ByteArray := prog_2_method_3_code
def yX0_holds : MethodName := ⟨RX0, "holds", "(II)Z"⟩
abbrev cX0_isAnyIn : ByteArray := prog_2_method_4_code
def yX0_isAnyIn : MethodName := ⟨RX0, "isAnyIn", "(LArcOrder$Net;)Z"⟩
def RX1 : String := "ArcOrder$Calendar"
def TX1 : u_T := fun k => match k with
  | _ => ("ArcOrder$Calendar", "fewest", "[I", true)
def tyX1 : Nat → FieldType := fun k => match k with
  | _ => .array .int
abbrev wsX10 : List Cond := u_ws RX1 TX1 1
theorem nmX1 : ∀ a, a < 1 → ∀ b, b < 1 → a ≠ b → (TX1 a).2.1 ≠ (TX1 b).2.1 := by decide +kernel
theorem tyX1_ok : ∀ k, k < 1 → parseFieldDescriptor (TX1 k).2.2.1 = some (tyX1 k) := by decide +kernel
abbrev cX1_init : ByteArray := prog_3_method_1_code
def yX1_init : MethodName := ⟨RX1, "<init>", "()V"⟩
abbrev cX1_fewestDays : ByteArray := prog_3_method_2_code
def yX1_fewestDays : MethodName := ⟨RX1, "fewestDays", "(LArcOrder$Net;I)I"⟩
abbrev cX1_work : ByteArray := prog_3_method_3_code
def yX1_work : MethodName := ⟨RX1, "work", "([IIIIII)V"⟩
def RX2 : String := "ArcOrder$Lap"
def TX2 : u_T := fun k => match k with
  | 0 => ("ArcOrder$Lap", "length", "I", false)
  | 1 => ("ArcOrder$Lap", "items", "[I", true)
  | _ => ("ArcOrder$Lap", "steps", "[I", true)
def tyX2 : Nat → FieldType := fun k => match k with
  | 0 => .int
  | 1 => .array .int
  | _ => .array .int
abbrev wsX20 : List Cond := u_ws RX2 TX2 3
theorem nmX2 : ∀ a, a < 3 → ∀ b, b < 3 → a ≠ b → (TX2 a).2.1 ≠ (TX2 b).2.1 := by decide +kernel
theorem tyX2_ok : ∀ k, k < 3 → parseFieldDescriptor (TX2 k).2.2.1 = some (tyX2 k) := by decide +kernel
abbrev cX2_init : ByteArray := prog_4_method_1_code
def yX2_init : MethodName := ⟨RX2, "<init>", "()V"⟩
abbrev cX2_trace : ByteArray := prog_4_method_2_code
def yX2_trace : MethodName := ⟨RX2, "trace", "(LArcOrder$Net;II)V"⟩
abbrev cX2_measure : ByteArray := prog_4_method_3_code
def yX2_measure : MethodName := ⟨RX2, "measure", "(LArcOrder$Net;I)V"⟩
abbrev cX2_lowestNext : ByteArray := prog_4_method_4_code
def yX2_lowestNext : MethodName := ⟨RX2, "lowestNext", "(LArcOrder$Net;II)I"⟩
def RX3 : String := "ArcOrder$Net"
def TX3 : u_T := fun k => match k with
  | 0 => ("ArcOrder$Net", "items", "I", false)
  | 1 => ("ArcOrder$Net", "arcs", "I", false)
  | 2 => ("ArcOrder$Net", "out", "[I", true)
  | 3 => ("ArcOrder$Net", "in", "[I", true)
  | 4 => ("ArcOrder$Net", "order", "[I", true)
  | 5 => ("ArcOrder$Net", "place", "[I", true)
  | _ => ("ArcOrder$Net", "movers", "[I", true)
def tyX3 : Nat → FieldType := fun k => match k with
  | 0 => .int
  | 1 => .int
  | 2 => .array .int
  | 3 => .array .int
  | 4 => .array .int
  | 5 => .array .int
  | _ => .array .int
abbrev wsX30 : List Cond := u_ws RX3 TX3 7
theorem nmX3 : ∀ a, a < 7 → ∀ b, b < 7 → a ≠ b → (TX3 a).2.1 ≠ (TX3 b).2.1 := by decide +kernel
theorem tyX3_ok : ∀ k, k < 7 → parseFieldDescriptor (TX3 k).2.2.1 = some (tyX3 k) := by decide +kernel
abbrev cX3_init : ByteArray := prog_5_method_1_code
def yX3_init : MethodName := ⟨RX3, "<init>", "()V"⟩
abbrev cX3_begin : ByteArray := prog_5_method_2_code
def yX3_begin : MethodName := ⟨RX3, "begin", "(I)V"⟩
abbrev cX3_copyOf : ByteArray := prog_5_method_3_code
def yX3_copyOf : MethodName := ⟨RX3, "copyOf", "(LArcOrder$Net;)V"⟩
abbrev cX3_isItem : ByteArray := prog_5_method_4_code
def yX3_isItem : MethodName := ⟨RX3, "isItem", "(I)Z"⟩
abbrev cX3_isPair : ByteArray := prog_5_method_5_code
def yX3_isPair : MethodName := ⟨RX3, "isPair", "(II)Z"⟩
abbrev cX3_has : ByteArray := prog_5_method_6_code
def yX3_has : MethodName := ⟨RX3, "has", "(II)Z"⟩
abbrev cX3_canTake : ByteArray := prog_5_method_7_code
def yX3_canTake : MethodName := ⟨RX3, "canTake", "(II)Z"⟩
abbrev cX3_everyItem : ByteArray := prog_5_method_8_code
def yX3_everyItem : MethodName := ⟨RX3, "everyItem", "()I"⟩
abbrev cX3_sweepOn : ByteArray := prog_5_method_9_code
def yX3_sweepOn : MethodName := ⟨RX3, "sweepOn", "(II)I"⟩
abbrev cX3_sweepBack : ByteArray := prog_5_method_10_code
def yX3_sweepBack : MethodName := ⟨RX3, "sweepBack", "(II)I"⟩
abbrev cX3_allBehind : ByteArray := prog_5_method_11_code
def yX3_allBehind : MethodName := ⟨RX3, "allBehind", "(I)I"⟩
abbrev cX3_allAheadOf : ByteArray := prog_5_method_12_code
def yX3_allAheadOf : MethodName := ⟨RX3, "allAheadOf", "(I)I"⟩
abbrev cX3_after : ByteArray := prog_5_method_13_code
def yX3_after : MethodName := ⟨RX3, "after", "(II)I"⟩
abbrev cX3_before : ByteArray := prog_5_method_14_code
def yX3_before : MethodName := ⟨RX3, "before", "(II)I"⟩
abbrev cX3_closesRing : ByteArray := prog_5_method_15_code
def yX3_closesRing : MethodName := ⟨RX3, "closesRing", "(II)Z"⟩
abbrev cX3_movedBy : ByteArray := prog_5_method_16_code
def yX3_movedBy : MethodName := ⟨RX3, "movedBy", "(II)I"⟩
abbrev cX3_put : ByteArray := prog_5_method_17_code
def yX3_put : MethodName := ⟨RX3, "put", "(II)I"⟩
abbrev cX3_part : ByteArray := prog_5_method_18_code
def yX3_part : MethodName := ⟨RX3, "part", "(II)V"⟩
abbrev cX3_rearrange : ByteArray := prog_5_method_19_code
def yX3_rearrange : MethodName := ⟨RX3, "rearrange", "(II)V"⟩
abbrev cX3_gather : ByteArray := prog_5_method_20_code
def yX3_gather : MethodName := ⟨RX3, "gather", "(II)I"⟩
abbrev cX3_stand : ByteArray := prog_5_method_21_code
def yX3_stand : MethodName := ⟨RX3, "stand", "(II)V"⟩
abbrev cX3_isReady : ByteArray := prog_5_method_22_code
def yX3_isReady : MethodName := ⟨RX3, "isReady", "(II)Z"⟩
abbrev cX3_allReady : ByteArray := prog_5_method_23_code
def yX3_allReady : MethodName := ⟨RX3, "allReady", "(I)I"⟩
abbrev cX3_sort : ByteArray := prog_5_method_24_code
def yX3_sort : MethodName := ⟨RX3, "sort", "()V"⟩
abbrev cX3_longestChain : ByteArray := prog_5_method_25_code
def yX3_longestChain : MethodName := ⟨RX3, "longestChain", "()I"⟩
abbrev cX3_placesUnlike : ByteArray := prog_5_method_26_code
def yX3_placesUnlike : MethodName := ⟨RX3, "placesUnlike", "(LArcOrder$Net;)I"⟩
abbrev cX3_hasArcsOf : ByteArray := prog_5_method_27_code
def yX3_hasArcsOf : MethodName := ⟨RX3, "hasArcsOf", "(LArcOrder$Net;)Z"⟩
def RX4 : String := "ArcOrder$Past"
def TX4 : u_T := fun k => match k with
  | 0 => ("ArcOrder$Past", "size", "I", false)
  | _ => ("ArcOrder$Past", "nets", "[LArcOrder$Net;", true)
def tyX4 : Nat → FieldType := fun k => match k with
  | 0 => .int
  | _ => .array (.object "ArcOrder$Net")
abbrev wsX40 : List Cond := u_ws RX4 TX4 2
theorem nmX4 : ∀ a, a < 2 → ∀ b, b < 2 → a ≠ b → (TX4 a).2.1 ≠ (TX4 b).2.1 := by decide +kernel
theorem tyX4_ok : ∀ k, k < 2 → parseFieldDescriptor (TX4 k).2.2.1 = some (tyX4 k) := by decide +kernel
abbrev cX4_init : ByteArray := prog_6_method_1_code
def yX4_init : MethodName := ⟨RX4, "<init>", "()V"⟩
abbrev cX4_push : ByteArray := prog_6_method_2_code
def yX4_push : MethodName := ⟨RX4, "push", "(LArcOrder$Net;)V"⟩
abbrev cX4_pop : ByteArray := prog_6_method_3_code
def yX4_pop : MethodName := ⟨RX4, "pop", "(LArcOrder$Net;)Z"⟩
abbrev cX4_loseOldest : ByteArray := prog_6_method_4_code
def yX4_loseOldest : MethodName := ⟨RX4, "loseOldest", "()V"⟩
def RX5 : String := "ArcOrder$Sight"
def TX5 : u_T := fun k => match k with
  | 0 => ("ArcOrder$Sight", "size", "I", false)
  | 1 => ("ArcOrder$Sight", "fitting", "I", false)
  | 2 => ("ArcOrder$Sight", "first", "I", false)
  | 3 => ("ArcOrder$Sight", "mustMove", "I", false)
  | 4 => ("ArcOrder$Sight", "mustStay", "I", false)
  | _ => ("ArcOrder$Sight", "movers", "[I", true)
def tyX5 : Nat → FieldType := fun k => match k with
  | 0 => .int
  | 1 => .int
  | 2 => .int
  | 3 => .int
  | 4 => .int
  | _ => .array .int
abbrev wsX50 : List Cond := u_ws RX5 TX5 6
theorem nmX5 : ∀ a, a < 6 → ∀ b, b < 6 → a ≠ b → (TX5 a).2.1 ≠ (TX5 b).2.1 := by decide +kernel
theorem tyX5_ok : ∀ k, k < 6 → parseFieldDescriptor (TX5 k).2.2.1 = some (tyX5 k) := by decide +kernel
abbrev cX5_init : ByteArray := prog_7_method_1_code
def yX5_init : MethodName := ⟨RX5, "<init>", "()V"⟩
abbrev cX5_empty : ByteArray := prog_7_method_2_code
def yX5_empty : MethodName := ⟨RX5, "empty", "()V"⟩
abbrev cX5_append : ByteArray := prog_7_method_3_code
def yX5_append : MethodName := ⟨RX5, "append", "(II)Z"⟩
abbrev cX5_weigh : ByteArray := prog_7_method_4_code
def yX5_weigh : MethodName := ⟨RX5, "weigh", "(LArcOrder$Net;)V"⟩
abbrev cX5_takeIfFits : ByteArray := prog_7_method_5_code
def yX5_takeIfFits : MethodName := ⟨RX5, "takeIfFits", "(II)V"⟩
abbrev cX5_bestItem : ByteArray := prog_7_method_6_code
def yX5_bestItem : MethodName := ⟨RX5, "bestItem", "(LArcOrder$Net;)I"⟩
def RX6 : String := "ArcOrder$Tally"
def TX6 : u_T := fun k => match k with
  | 0 => ("ArcOrder$Tally", "ways", "[J", true)
  | 1 => ("ArcOrder$Tally", "counted", "LArcOrder$Net;", true)
  | _ => ("ArcOrder$Tally", "isCounted", "Z", false)
def tyX6 : Nat → FieldType := fun k => match k with
  | 0 => .array .long
  | 1 => .object "ArcOrder$Net"
  | _ => .boolean
abbrev wsX60 : List Cond := u_ws RX6 TX6 3
theorem nmX6 : ∀ a, a < 3 → ∀ b, b < 3 → a ≠ b → (TX6 a).2.1 ≠ (TX6 b).2.1 := by decide +kernel
theorem tyX6_ok : ∀ k, k < 3 → parseFieldDescriptor (TX6 k).2.2.1 = some (tyX6 k) := by decide +kernel
abbrev cX6_init : ByteArray := prog_8_method_1_code
def yX6_init : MethodName := ⟨RX6, "<init>", "()V"⟩
abbrev cX6_prepare : ByteArray := prog_8_method_2_code
def yX6_prepare : MethodName := ⟨RX6, "prepare", "(LArcOrder$Net;)V"⟩
abbrev cX6_waysOn : ByteArray := prog_8_method_3_code
def yX6_waysOn : MethodName := ⟨RX6, "waysOn", "(LArcOrder$Net;I)J"⟩
abbrev cX6_all : ByteArray := prog_8_method_4_code
def yX6_all : MethodName := ⟨RX6, "all", "(LArcOrder$Net;)J"⟩
abbrev cX6_rank : ByteArray := prog_8_method_5_code
def yX6_rank : MethodName := ⟨RX6, "rank", "(LArcOrder$Net;)J"⟩
abbrev cX6_itemOf : ByteArray := prog_8_method_6_code
def yX6_itemOf : MethodName := ⟨RX6, "itemOf", "(LArcOrder$Net;JI)I"⟩
def RX7 : String := "ArcOrder$Text"
def TX7 : u_T := fun k => match k with
  | 0 => ("ArcOrder$Text", "length", "I", false)
  | 1 => ("ArcOrder$Text", "letters", "[I", true)
  | 2 => ("ArcOrder$Text", "token", "C", false)
  | 3 => ("ArcOrder$Text", "tokenStart", "I", false)
  | 4 => ("ArcOrder$Text", "tokenEnd", "I", false)
  | _ => ("ArcOrder$Text", "value", "I", false)
def tyX7 : Nat → FieldType := fun k => match k with
  | 0 => .int
  | 1 => .array .int
  | 2 => .char
  | 3 => .int
  | 4 => .int
  | _ => .int
abbrev wsX70 : List Cond := u_ws RX7 TX7 6
theorem nmX7 : ∀ a, a < 6 → ∀ b, b < 6 → a ≠ b → (TX7 a).2.1 ≠ (TX7 b).2.1 := by decide +kernel
theorem tyX7_ok : ∀ k, k < 6 → parseFieldDescriptor (TX7 k).2.2.1 = some (tyX7 k) := by decide +kernel
abbrev cX7_init : ByteArray := prog_9_method_1_code
def yX7_init : MethodName := ⟨RX7, "<init>", "()V"⟩
abbrev cX7_append : ByteArray := prog_9_method_2_code
def yX7_append : MethodName := ⟨RX7, "append", "(I)Z"⟩
abbrev cX7_readInto : ByteArray := prog_9_method_3_code
def yX7_readInto : MethodName := ⟨RX7, "readInto", "(LArcOrder$Net;)I"⟩
abbrev cX7_readEntry : ByteArray := prog_9_method_4_code
def yX7_readEntry : MethodName := ⟨RX7, "readEntry", "(LArcOrder$Net;Z)Z"⟩
abbrev cX7_readItems : ByteArray := prog_9_method_5_code
def yX7_readItems : MethodName := ⟨RX7, "readItems", "(LArcOrder$Net;)Z"⟩
abbrev cX7_readArc : ByteArray := prog_9_method_6_code
def yX7_readArc : MethodName := ⟨RX7, "readArc", "(LArcOrder$Net;)Z"⟩
abbrev cX7_readNumber : ByteArray := prog_9_method_7_code
def yX7_readNumber : MethodName := ⟨RX7, "readNumber", "(II)Z"⟩
abbrev cX7_nextToken : ByteArray := prog_9_method_8_code
def yX7_nextToken : MethodName := ⟨RX7, "nextToken", "()V"⟩
abbrev cX7_readDigits : ByteArray := prog_9_method_9_code
def yX7_readDigits : MethodName := ⟨RX7, "readDigits", "()V"⟩
abbrev cX7_isDigit : ByteArray := prog_9_method_10_code
def yX7_isDigit : MethodName := ⟨RX7, "isDigit", "(I)Z"⟩
def RX8 : String := "ArcOrder"
def TX8 : u_T := fun k => match k with
  | 0 => ("ArcOrder", "net", "LArcOrder$Net;", true)
  | 1 => ("ArcOrder", "aside", "LArcOrder$Net;", true)
  | 2 => ("ArcOrder", "text", "LArcOrder$Text;", true)
  | 3 => ("ArcOrder", "list", "LArcOrder$ArcList;", true)
  | 4 => ("ArcOrder", "past", "LArcOrder$Past;", true)
  | 5 => ("ArcOrder", "ring", "LArcOrder$Lap;", true)
  | 6 => ("ArcOrder", "sight", "LArcOrder$Sight;", true)
  | 7 => ("ArcOrder", "tally", "LArcOrder$Tally;", true)
  | 8 => ("ArcOrder", "calendar", "LArcOrder$Calendar;", true)
  | 9 => ("ArcOrder", "images", "[LArcOrder$Net;", true)
  | _ => ("ArcOrder", "imageKept", "[Z", true)
def tyX8 : Nat → FieldType := fun k => match k with
  | 0 => .object "ArcOrder$Net"
  | 1 => .object "ArcOrder$Net"
  | 2 => .object "ArcOrder$Text"
  | 3 => .object "ArcOrder$ArcList"
  | 4 => .object "ArcOrder$Past"
  | 5 => .object "ArcOrder$Lap"
  | 6 => .object "ArcOrder$Sight"
  | 7 => .object "ArcOrder$Tally"
  | 8 => .object "ArcOrder$Calendar"
  | 9 => .array (.object "ArcOrder$Net")
  | _ => .array .boolean
abbrev wsX80 : List Cond := u_ws RX8 TX8 11
theorem nmX8 : ∀ a, a < 11 → ∀ b, b < 11 → a ≠ b → (TX8 a).2.1 ≠ (TX8 b).2.1 := by decide +kernel
theorem tyX8_ok : ∀ k, k < 11 → parseFieldDescriptor (TX8 k).2.2.1 = some (tyX8 k) := by decide +kernel
abbrev cX8_init : ByteArray := prog_1_method_1_code
def yX8_init : MethodName := ⟨RX8, "<init>", "()V"⟩
abbrev cX8_type : ByteArray := prog_1_method_2_code
def yX8_type : MethodName := ⟨RX8, "type", "(I)I"⟩
abbrev cX8_clear : ByteArray := prog_1_method_3_code
def yX8_clear : MethodName := ⟨RX8, "clear", "()I"⟩
abbrev cX8_store : ByteArray := prog_1_method_4_code
def yX8_store : MethodName := ⟨RX8, "store", "()I"⟩
abbrev cX8_item : ByteArray := prog_1_method_5_code
def yX8_item : MethodName := ⟨RX8, "item", "(II)I"⟩
abbrev cX8_at : ByteArray := prog_1_method_6_code
def yX8_at : MethodName := ⟨RX8, "at", "(I)I"⟩
abbrev cX8_now : ByteArray := prog_1_method_7_code
def yX8_now : MethodName := ⟨RX8, "now", "(I)I"⟩
abbrev cX8_puts : ByteArray := prog_1_method_8_code
def yX8_puts : MethodName := ⟨RX8, "puts", "(II)I"⟩
abbrev cX8_lists : ByteArray := prog_1_method_9_code
def yX8_lists : MethodName := ⟨RX8, "lists", "(II)I"⟩
abbrev cX8_adds : ByteArray := prog_1_method_10_code
def yX8_adds : MethodName := ⟨RX8, "adds", "()I"⟩
abbrev cX8_cuts : ByteArray := prog_1_method_11_code
def yX8_cuts : MethodName := ⟨RX8, "cuts", "(II)I"⟩
abbrev cX8_sorts : ByteArray := prog_1_method_12_code
def yX8_sorts : MethodName := ⟨RX8, "sorts", "()I"⟩
abbrev cX8_undo : ByteArray := prog_1_method_13_code
def yX8_undo : MethodName := ⟨RX8, "undo", "()I"⟩
abbrev cX8_lap : ByteArray := prog_1_method_14_code
def yX8_lap : MethodName := ⟨RX8, "lap", "(I)I"⟩
abbrev cX8_arc : ByteArray := prog_1_method_15_code
def yX8_arc : MethodName := ⟨RX8, "arc", "(III)I"⟩
abbrev cX8_orders : ByteArray := prog_1_method_16_code
def yX8_orders : MethodName := ⟨RX8, "orders", "()J"⟩
abbrev cX8_number : ByteArray := prog_1_method_17_code
def yX8_number : MethodName := ⟨RX8, "number", "()J"⟩
abbrev cX8_kth : ByteArray := prog_1_method_18_code
def yX8_kth : MethodName := ⟨RX8, "kth", "(JI)I"⟩
abbrev cX8_days : ByteArray := prog_1_method_19_code
def yX8_days : MethodName := ⟨RX8, "days", "(I)I"⟩
abbrev cX8_sees : ByteArray := prog_1_method_20_code
def yX8_sees : MethodName := ⟨RX8, "sees", "(II)I"⟩
abbrev cX8_forget : ByteArray := prog_1_method_21_code
def yX8_forget : MethodName := ⟨RX8, "forget", "()I"⟩
abbrev cX8_unseen : ByteArray := prog_1_method_22_code
def yX8_unseen : MethodName := ⟨RX8, "unseen", "(I)I"⟩
abbrev cX8_look : ByteArray := prog_1_method_23_code
def yX8_look : MethodName := ⟨RX8, "look", "()I"⟩
abbrev cX8_keep : ByteArray := prog_1_method_24_code
def yX8_keep : MethodName := ⟨RX8, "keep", "(I)I"⟩
abbrev cX8_back : ByteArray := prog_1_method_25_code
def yX8_back : MethodName := ⟨RX8, "back", "(I)I"⟩
abbrev cX8_count : ByteArray := prog_1_method_26_code
def yX8_count : MethodName := ⟨RX8, "count", "(I)I"⟩
abbrev cX8_putListed : ByteArray := prog_1_method_27_code
def yX8_putListed : MethodName := ⟨RX8, "putListed", "()Z"⟩
abbrev cX8_freeArcs : ByteArray := prog_1_method_28_code
def yX8_freeArcs : MethodName := ⟨RX8, "freeArcs", "()I"⟩
abbrev cX8_arcMovingMost : ByteArray := prog_1_method_29_code
def yX8_arcMovingMost : MethodName := ⟨RX8, "arcMovingMost", "()I"⟩
abbrev cX8_spareArcs : ByteArray := prog_1_method_30_code
def yX8_spareArcs : MethodName := ⟨RX8, "spareArcs", "()I"⟩
abbrev cX8_codeOf : ByteArray := prog_1_method_31_code
def yX8_codeOf : MethodName := ⟨RX8, "codeOf", "(II)I"⟩
abbrev cX8_holdsBit : ByteArray := prog_1_method_32_code
def yX8_holdsBit : MethodName := ⟨RX8, "holdsBit", "(II)Z"⟩
def RX9 : String := "ArcOrderModel"
def TX9 : u_T := fun k => match k with
  | 0 => ("ArcOrderModel", "thrown", "I", false)
  | 1 => ("ArcOrderModel", "text", "[I", true)
  | 2 => ("ArcOrderModel", "typed", "I", false)
  | 3 => ("ArcOrderModel", "spot", "I", false)
  | 4 => ("ArcOrderModel", "token", "I", false)
  | 5 => ("ArcOrderModel", "start", "I", false)
  | 6 => ("ArcOrderModel", "value", "I", false)
  | 7 => ("ArcOrderModel", "fault", "I", false)
  | 8 => ("ArcOrderModel", "items", "I", false)
  | 9 => ("ArcOrderModel", "draftItems", "I", false)
  | 10 => ("ArcOrderModel", "draft", "[I", true)
  | 11 => ("ArcOrderModel", "s", "[I", true)
  | 12 => ("ArcOrderModel", "w", "[I", true)
  | 13 => ("ArcOrderModel", "was", "[I", true)
  | 14 => ("ArcOrderModel", "kept", "[I", true)
  | 15 => ("ArcOrderModel", "isKept", "[Z", true)
  | 16 => ("ArcOrderModel", "undos", "[I", true)
  | 17 => ("ArcOrderModel", "undoMany", "I", false)
  | 18 => ("ArcOrderModel", "listFrom", "[I", true)
  | 19 => ("ArcOrderModel", "listTo", "[I", true)
  | 20 => ("ArcOrderModel", "listed", "I", false)
  | 21 => ("ArcOrderModel", "ring", "[I", true)
  | 22 => ("ArcOrderModel", "ringMany", "I", false)
  | 23 => ("ArcOrderModel", "seenItem", "[I", true)
  | 24 => ("ArcOrderModel", "seenMoved", "[I", true)
  | 25 => ("ArcOrderModel", "seenMany", "I", false)
  | 26 => ("ArcOrderModel", "before", "I", false)
  | 27 => ("ArcOrderModel", "after", "I", false)
  | 28 => ("ArcOrderModel", "closes", "Z", false)
  | 29 => ("ArcOrderModel", "far", "[I", true)
  | 30 => ("ArcOrderModel", "ways", "[J", true)
  | 31 => ("ArcOrderModel", "day", "[I", true)
  | 32 => ("ArcOrderModel", "order", "[I", true)
  | 33 => ("ArcOrderModel", "tried", "[I", true)
  | 34 => ("ArcOrderModel", "movedIf", "[I", true)
  | _ => ("ArcOrderModel", "unseenFirst", "I", false)
def tyX9 : Nat → FieldType := fun k => match k with
  | 0 => .int
  | 1 => .array .int
  | 2 => .int
  | 3 => .int
  | 4 => .int
  | 5 => .int
  | 6 => .int
  | 7 => .int
  | 8 => .int
  | 9 => .int
  | 10 => .array .int
  | 11 => .array .int
  | 12 => .array .int
  | 13 => .array .int
  | 14 => .array .int
  | 15 => .array .boolean
  | 16 => .array .int
  | 17 => .int
  | 18 => .array .int
  | 19 => .array .int
  | 20 => .int
  | 21 => .array .int
  | 22 => .int
  | 23 => .array .int
  | 24 => .array .int
  | 25 => .int
  | 26 => .int
  | 27 => .int
  | 28 => .boolean
  | 29 => .array .int
  | 30 => .array .long
  | 31 => .array .int
  | 32 => .array .int
  | 33 => .array .int
  | 34 => .array .int
  | _ => .int
abbrev wsX90 : List Cond := u_ws RX9 TX9 36
theorem nmX9 : ∀ a, a < 36 → ∀ b, b < 36 → a ≠ b → (TX9 a).2.1 ≠ (TX9 b).2.1 := by decide +kernel
theorem tyX9_ok : ∀ k, k < 36 → parseFieldDescriptor (TX9 k).2.2.1 = some (tyX9 k) := by decide +kernel
abbrev cX9_init : ByteArray := prog_11_method_1_code
def yX9_init : MethodName := ⟨RX9, "<init>", "()V"⟩
abbrev cX9_in : ByteArray := prog_11_method_3_code
def yX9_in : MethodName := ⟨RX9, "in", "(III)Z"⟩
abbrev cX9_has : ByteArray := prog_11_method_4_code
def yX9_has : MethodName := ⟨RX9, "has", "(II)Z"⟩
abbrev cX9_ones : ByteArray := prog_11_method_5_code
def yX9_ones : MethodName := ⟨RX9, "ones", "(I)I"⟩
abbrev cX9_type : ByteArray := prog_11_method_6_code
def yX9_type : MethodName := ⟨RX9, "type", "(I)I"⟩
abbrev cX9_clear : ByteArray := prog_11_method_7_code
def yX9_clear : MethodName := ⟨RX9, "clear", "()I"⟩
abbrev cX9_letterAt : ByteArray := prog_11_method_8_code
def yX9_letterAt : MethodName := ⟨RX9, "letterAt", "(I)I"⟩
abbrev cX9_advances : ByteArray := prog_11_method_9_code
def yX9_advances : MethodName := ⟨RX9, "advances", "()V"⟩
abbrev cX9_isWell : ByteArray := prog_11_method_10_code
def yX9_isWell : MethodName := ⟨RX9, "isWell", "()Z"⟩
abbrev cX9_takes : ByteArray := prog_11_method_11_code
def yX9_takes : MethodName := ⟨RX9, "takes", "(Z)I"⟩
abbrev cX9_isNumber : ByteArray := prog_11_method_12_code
def yX9_isNumber : MethodName := ⟨RX9, "isNumber", "(II)Z"⟩
abbrev cX9_begins : ByteArray := prog_11_method_13_code
def yX9_begins : MethodName := ⟨RX9, "begins", "()V"⟩
abbrev cX9_canBe : ByteArray := prog_11_method_14_code
def yX9_canBe : MethodName := ⟨RX9, "canBe", "(I)Z"⟩
abbrev cX9_readsEntry : ByteArray := prog_11_method_15_code
def yX9_readsEntry : MethodName := ⟨RX9, "readsEntry", "(I)V"⟩
abbrev cX9_store : ByteArray := prog_11_method_16_code
def yX9_store : MethodName := ⟨RX9, "store", "()I"⟩
abbrev cX9_settles : ByteArray := prog_11_method_17_code
def yX9_settles : MethodName := ⟨RX9, "settles", "()V"⟩
abbrev cX9_copies : ByteArray := prog_11_method_18_code
def yX9_copies : MethodName := ⟨RX9, "copies", "([I[I)V"⟩
abbrev cX9_isItem : ByteArray := prog_11_method_19_code
def yX9_isItem : MethodName := ⟨RX9, "isItem", "(I)Z"⟩
abbrev cX9_isTwo : ByteArray := prog_11_method_20_code
def yX9_isTwo : MethodName := ⟨RX9, "isTwo", "(II)Z"⟩
abbrev cX9_looks : ByteArray := prog_11_method_21_code
def yX9_looks : MethodName := ⟨RX9, "looks", "([IIII)V"⟩
abbrev cX9_itemAt : ByteArray := prog_11_method_22_code
def yX9_itemAt : MethodName := ⟨RX9, "itemAt", "([III)I"⟩
abbrev cX9_moves : ByteArray := prog_11_method_23_code
def yX9_moves : MethodName := ⟨RX9, "moves", "([II)V"⟩
abbrev cX9_lays : ByteArray := prog_11_method_24_code
def yX9_lays : MethodName := ⟨RX9, "lays", "([IIII)V"⟩
abbrev cX9_moved : ByteArray := prog_11_method_25_code
def yX9_moved : MethodName := ⟨RX9, "moved", "([I[I)I"⟩
abbrev cX9_movedBy : ByteArray := prog_11_method_26_code
def yX9_movedBy : MethodName := ⟨RX9, "movedBy", "(II)I"⟩
abbrev cX9_rings : ByteArray := prog_11_method_27_code
def yX9_rings : MethodName := ⟨RX9, "rings", "([III)V"⟩
abbrev cX9_lap : ByteArray := prog_11_method_28_code
def yX9_lap : MethodName := ⟨RX9, "lap", "(I)I"⟩
abbrev cX9_behind : ByteArray := prog_11_method_29_code
def yX9_behind : MethodName := ⟨RX9, "behind", "(I)I"⟩
abbrev cX9_ahead : ByteArray := prog_11_method_30_code
def yX9_ahead : MethodName := ⟨RX9, "ahead", "(I)I"⟩
abbrev cX9_into : ByteArray := prog_11_method_31_code
def yX9_into : MethodName := ⟨RX9, "into", "(I)I"⟩
abbrev cX9_item : ByteArray := prog_11_method_32_code
def yX9_item : MethodName := ⟨RX9, "item", "(II)I"⟩
abbrev cX9_at : ByteArray := prog_11_method_33_code
def yX9_at : MethodName := ⟨RX9, "at", "(I)I"⟩
abbrev cX9_arcs : ByteArray := prog_11_method_34_code
def yX9_arcs : MethodName := ⟨RX9, "arcs", "()I"⟩
abbrev cX9_free : ByteArray := prog_11_method_35_code
def yX9_free : MethodName := ⟨RX9, "free", "()I"⟩
abbrev cX9_most : ByteArray := prog_11_method_36_code
def yX9_most : MethodName := ⟨RX9, "most", "()I"⟩
abbrev cX9_chain : ByteArray := prog_11_method_37_code
def yX9_chain : MethodName := ⟨RX9, "chain", "()I"⟩
abbrev cX9_isSpare : ByteArray := prog_11_method_38_code
def yX9_isSpare : MethodName := ⟨RX9, "isSpare", "(II)Z"⟩
abbrev cX9_spares : ByteArray := prog_11_method_39_code
def yX9_spares : MethodName := ⟨RX9, "spares", "()I"⟩
abbrev cX9_now : ByteArray := prog_11_method_40_code
def yX9_now : MethodName := ⟨RX9, "now", "(I)I"⟩
abbrev cX9_notes : ByteArray := prog_11_method_41_code
def yX9_notes : MethodName := ⟨RX9, "notes", "()V"⟩
abbrev cX9_puts : ByteArray := prog_11_method_42_code
def yX9_puts : MethodName := ⟨RX9, "puts", "(II)I"⟩
abbrev cX9_lists : ByteArray := prog_11_method_43_code
def yX9_lists : MethodName := ⟨RX9, "lists", "(II)I"⟩
abbrev cX9_adds : ByteArray := prog_11_method_44_code
def yX9_adds : MethodName := ⟨RX9, "adds", "()I"⟩
abbrev cX9_cuts : ByteArray := prog_11_method_45_code
def yX9_cuts : MethodName := ⟨RX9, "cuts", "(II)I"⟩
abbrev cX9_sorts : ByteArray := prog_11_method_46_code
def yX9_sorts : MethodName := ⟨RX9, "sorts", "()I"⟩
abbrev cX9_undo : ByteArray := prog_11_method_47_code
def yX9_undo : MethodName := ⟨RX9, "undo", "()I"⟩
abbrev cX9_arc : ByteArray := prog_11_method_48_code
def yX9_arc : MethodName := ⟨RX9, "arc", "(III)I"⟩
abbrev cX9_canNext : ByteArray := prog_11_method_49_code
def yX9_canNext : MethodName := ⟨RX9, "canNext", "(II)Z"⟩
abbrev cX9_counts : ByteArray := prog_11_method_50_code
def yX9_counts : MethodName := ⟨RX9, "counts", "()V"⟩
abbrev cX9_orderOf : ByteArray := prog_11_method_51_code
def yX9_orderOf : MethodName := ⟨RX9, "orderOf", "(J)V"⟩
abbrev cX9_orders : ByteArray := prog_11_method_52_code
def yX9_orders : MethodName := ⟨RX9, "orders", "()J"⟩
abbrev cX9_number : ByteArray := prog_11_method_53_code
def yX9_number : MethodName := ⟨RX9, "number", "()J"⟩
abbrev cX9_kth : ByteArray := prog_11_method_54_code
def yX9_kth : MethodName := ⟨RX9, "kth", "(JI)I"⟩
abbrev cX9_makes : ByteArray := prog_11_method_55_code
def yX9_makes : MethodName := ⟨RX9, "makes", "(III)V"⟩
abbrev cX9_days : ByteArray := prog_11_method_56_code
def yX9_days : MethodName := ⟨RX9, "days", "(I)I"⟩
abbrev cX9_sees : ByteArray := prog_11_method_57_code
def yX9_sees : MethodName := ⟨RX9, "sees", "(II)I"⟩
abbrev cX9_forget : ByteArray := prog_11_method_58_code
def yX9_forget : MethodName := ⟨RX9, "forget", "()I"⟩
abbrev cX9_unseenMany : ByteArray := prog_11_method_59_code
def yX9_unseenMany : MethodName := ⟨RX9, "unseenMany", "()I"⟩
abbrev cX9_unseen : ByteArray := prog_11_method_60_code
def yX9_unseen : MethodName := ⟨RX9, "unseen", "(I)I"⟩
abbrev cX9_look : ByteArray := prog_11_method_61_code
def yX9_look : MethodName := ⟨RX9, "look", "()I"⟩
abbrev cX9_keep : ByteArray := prog_11_method_62_code
def yX9_keep : MethodName := ⟨RX9, "keep", "(I)I"⟩
abbrev cX9_back : ByteArray := prog_11_method_63_code
def yX9_back : MethodName := ⟨RX9, "back", "(I)I"⟩
abbrev cX9_count : ByteArray := prog_11_method_64_code
def yX9_count : MethodName := ⟨RX9, "count", "(I)I"⟩
def RJ6 : String := "java/lang/Integer"
def TJ6 : u_T := fun k => match k with
  | _ => ("", "", "", false)
def tyJ6 : Nat → FieldType := fun k => match k with
  | _ => .int
abbrev wsJ60 : List Cond := u_ws RJ6 TJ6 0
theorem nmJ6 : ∀ a, a < 0 → ∀ b, b < 0 → a ≠ b → (TJ6 a).2.1 ≠ (TJ6 b).2.1 := by decide +kernel
theorem tyJ6_ok : ∀ k, k < 0 → parseFieldDescriptor (TJ6 k).2.2.1 = some (tyJ6 k) := by decide +kernel
abbrev cJ6_bitCount_0f7a4 : ByteArray := prog_12_method_49_code
def yJ6_bitCount_0f7a4 : MethodName := ⟨RJ6, "bitCount", "(I)I"⟩
def RJ9 : String := "java/lang/Math"
def TJ9 : u_T := fun k => match k with
  | _ => ("", "", "", false)
def tyJ9 : Nat → FieldType := fun k => match k with
  | _ => .int
abbrev wsJ90 : List Cond := u_ws RJ9 TJ9 0
theorem nmJ9 : ∀ a, a < 0 → ∀ b, b < 0 → a ≠ b → (TJ9 a).2.1 ≠ (TJ9 b).2.1 := by decide +kernel
theorem tyJ9_ok : ∀ k, k < 0 → parseFieldDescriptor (TJ9 k).2.2.1 = some (tyJ9 k) := by decide +kernel
abbrev cJ9_max_7cf53 : ByteArray := prog_13_method_65_code
def yJ9_max_7cf53 : MethodName := ⟨RJ9, "max", "(II)I"⟩
abbrev cJ9_min_7cf53 : ByteArray := prog_13_method_69_code
def yJ9_min_7cf53 : MethodName := ⟨RJ9, "min", "(II)I"⟩
def RJ10 : String := "java/lang/System"
def TJ10 : u_T := fun k => match k with
  | _ => ("", "", "", false)
def tyJ10 : Nat → FieldType := fun k => match k with
  | _ => .int
abbrev wsJ100 : List Cond := u_ws RJ10 TJ10 0
theorem nmJ10 : ∀ a, a < 0 → ∀ b, b < 0 → a ≠ b → (TJ10 a).2.1 ≠ (TJ10 b).2.1 := by decide +kernel
theorem tyJ10_ok : ∀ k, k < 0 → parseFieldDescriptor (TJ10 k).2.2.1 = some (tyJ10 k) := by decide +kernel
def RJ7 : String := "java/util/Arrays"
def TJ7 : u_T := fun k => match k with
  | _ => ("", "", "", false)
def tyJ7 : Nat → FieldType := fun k => match k with
  | _ => .int
abbrev wsJ70 : List Cond := u_ws RJ7 TJ7 0
theorem nmJ7 : ∀ a, a < 0 → ∀ b, b < 0 → a ≠ b → (TJ7 a).2.1 ≠ (TJ7 b).2.1 := by decide +kernel
theorem tyJ7_ok : ∀ k, k < 0 → parseFieldDescriptor (TJ7 k).2.2.1 = some (tyJ7 k) := by decide +kernel
abbrev cJ7_fill_53178 : ByteArray := prog_15_method_103_code
def yJ7_fill_53178 : MethodName := ⟨RJ7, "fill", "([II)V"⟩
def RL : String := "ArcOrderLaw"
abbrev cL_law : ByteArray := code
def yL_law : MethodName := ⟨RL, "law", "([I)Z"⟩
def wsX0_init : List Cond := .code yX0_init cX0_init 1 none :: ([.methodLink RX0 3 objectInit, .instanceMethod objectInit, .code objectInit ⟨#[0xb1]⟩ 1 none, .arrayClass .int, .fieldLink RX0 9 "ArcOrder$ArcList" "from" "[I", .fieldLink RX0 15 "ArcOrder$ArcList" "to" "[I"] ++ wsX00)
def wsX0_append : List Cond := .code yX0_append cX0_append 3 (some .boolean) :: ([.fieldLink RX0 18 "ArcOrder$ArcList" "size" "I", .fieldLink RX0 9 "ArcOrder$ArcList" "from" "[I", .fieldLink RX0 15 "ArcOrder$ArcList" "to" "[I"] ++ wsX00)
def wsX0_holds : List Cond := .code yX0_holds cX0_holds 4 (some .boolean) :: ([.fieldLink RX0 18 "ArcOrder$ArcList" "size" "I", .fieldLink RX0 9 "ArcOrder$ArcList" "from" "[I", .fieldLink RX0 15 "ArcOrder$ArcList" "to" "[I"] ++ wsX00)
def wsX8_holdsBit : List Cond := .code yX8_holdsBit cX8_holdsBit 2 (some .boolean) :: ([])
def wsX3_has : List Cond := .code yX3_has cX3_has 3 (some .boolean) :: ([.fieldLink RX3 9 "ArcOrder$Net" "out" "[I", .static yX8_holdsBit, .initialized RX8, .code yX8_holdsBit cX8_holdsBit 2 (some .boolean)] ++ wsX30)
def wsX0_isAnyIn : List Cond := .code yX0_isAnyIn cX0_isAnyIn 3 (some .boolean) :: ([.fieldLink RX0 18 "ArcOrder$ArcList" "size" "I", .fieldLink RX0 9 "ArcOrder$ArcList" "from" "[I", .fieldLink RX0 15 "ArcOrder$ArcList" "to" "[I", .methodLink RX0 22 yX3_has, .instanceMethod yX3_has, .selects RX3 yX3_has yX3_has, .initialized RX3, .code yX3_has cX3_has 3 (some .boolean), .fieldLink RX3 9 "ArcOrder$Net" "out" "[I", .static yX8_holdsBit, .initialized RX8, .code yX8_holdsBit cX8_holdsBit 2 (some .boolean)] ++ wsX00 ++ wsX30)
def wsX1_init : List Cond := .code yX1_init cX1_init 1 none :: ([.methodLink RX1 3 objectInit, .instanceMethod objectInit, .code objectInit ⟨#[0xb1]⟩ 1 none, .arrayClass .int, .fieldLink RX1 9 "ArcOrder$Calendar" "fewest" "[I"] ++ wsX10)
def wsJ7_fill_53178 : List Cond := .code yJ7_fill_53178 cJ7_fill_53178 4 none :: ([])
def wsX3_everyItem : List Cond := .code yX3_everyItem cX3_everyItem 1 (some .int) :: ([.fieldLink RX3 31 "ArcOrder$Net" "items" "I"] ++ wsX30)
def wsX3_isReady : List Cond := .code yX3_isReady cX3_isReady 3 (some .boolean) :: ([.fieldLink RX3 15 "ArcOrder$Net" "in" "[I", .static yX8_holdsBit, .initialized RX8, .code yX8_holdsBit cX8_holdsBit 2 (some .boolean)] ++ wsX30)
def wsX3_allReady : List Cond := .code yX3_allReady cX3_allReady 4 (some .int) :: ([.fieldLink RX3 31 "ArcOrder$Net" "items" "I", .methodLink RX3 90 yX3_isReady, .instanceMethod yX3_isReady, .selects RX3 yX3_isReady yX3_isReady, .initialized RX3, .code yX3_isReady cX3_isReady 3 (some .boolean), .fieldLink RX3 15 "ArcOrder$Net" "in" "[I", .static yX8_holdsBit, .initialized RX8, .code yX8_holdsBit cX8_holdsBit 2 (some .boolean)] ++ wsX30)
def wsJ6_bitCount_0f7a4 : List Cond := .code yJ6_bitCount_0f7a4 cJ6_bitCount_0f7a4 1 (some .int) :: ([.constant RJ6 265 (1431655765), .constant RJ6 266 (858993459), .constant RJ6 267 (252645135)])
def wsX1_work : List Cond := .code yX1_work cX1_work 7 none :: ([.methodLink RX1 36 Lib.Math.min.name, .static Lib.Math.min.name, .initialized "java/lang/Math", .code Lib.Math.min.name Lib.Math.min.code 2 (some .int), .static yX8_holdsBit, .initialized RX8, .code yX8_holdsBit cX8_holdsBit 2 (some .boolean), .methodLink RX1 42 yX1_work, .static yX1_work, .initialized RX1])
def wsX1_fewestDays_r1 : List Cond := [Cond.fieldLink RX1 9 "ArcOrder$Calendar" "fewest" "[I", Cond.methodLink RX1 36 Lib.Math.min.name, Cond.static Lib.Math.min.name, Cond.initialized "java/lang/Math", Cond.code Lib.Math.min.name Lib.Math.min.code 2 (some .int), Cond.methodLink RX1 15 yJ7_fill_53178, Cond.static yJ7_fill_53178, Cond.initialized RJ7, Cond.code yJ7_fill_53178 cJ7_fill_53178 4 none, Cond.methodLink RX1 21 yX3_everyItem, Cond.instanceMethod yX3_everyItem, Cond.selects RX3 yX3_everyItem yX3_everyItem, Cond.initialized RX3, Cond.code yX3_everyItem cX3_everyItem 1 (some .int), Cond.fieldLink RX3 31 "ArcOrder$Net" "items" "I", Cond.methodLink RX1 27 yX3_allReady, Cond.instanceMethod yX3_allReady, Cond.selects RX3 yX3_allReady yX3_allReady, Cond.code yX3_allReady cX3_allReady 4 (some .int), Cond.methodLink RX3 90 yX3_isReady, Cond.instanceMethod yX3_isReady, Cond.selects RX3 yX3_isReady yX3_isReady, Cond.code yX3_isReady cX3_isReady 3 (some .boolean), Cond.fieldLink RX3 15 "ArcOrder$Net" "in" "[I"]
def wsX1_fewestDays_r2 : List Cond := [Cond.static yX8_holdsBit, Cond.initialized RX8, Cond.code yX8_holdsBit cX8_holdsBit 2 (some .boolean), Cond.methodLink RX1 31 yJ6_bitCount_0f7a4, Cond.static yJ6_bitCount_0f7a4, Cond.initialized RJ6, Cond.code yJ6_bitCount_0f7a4 cJ6_bitCount_0f7a4 1 (some .int), Cond.constant RJ6 265 (1431655765), Cond.constant RJ6 266 (858993459), Cond.constant RJ6 267 (252645135), Cond.methodLink RX1 42 yX1_work, Cond.static yX1_work, Cond.initialized RX1, Cond.code yX1_work cX1_work 7 none]
def wsX1_fewestDays : List Cond := .code yX1_fewestDays cX1_fewestDays 7 (some .int) :: ((wsX1_fewestDays_r1 ++ wsX1_fewestDays_r2) ++ wsX10 ++ wsX30)
def wsX2_init : List Cond := .code yX2_init cX2_init 1 none :: ([.methodLink RX2 3 objectInit, .instanceMethod objectInit, .code objectInit ⟨#[0xb1]⟩ 1 none, .arrayClass .int, .fieldLink RX2 9 "ArcOrder$Lap" "items" "[I", .fieldLink RX2 15 "ArcOrder$Lap" "steps" "[I"] ++ wsX20)
def wsX2_measure : List Cond := .code yX2_measure cX2_measure 6 none :: ([.fieldLink RX2 15 "ArcOrder$Lap" "steps" "[I", .fieldLink RX2 36 "ArcOrder$Net" "place" "[I", .fieldLink RX2 41 "ArcOrder$Net" "order" "[I", .fieldLink RX2 44 "ArcOrder$Net" "items" "I", .methodLink RX2 50 Lib.Math.min.name, .static Lib.Math.min.name, .initialized "java/lang/Math", .code Lib.Math.min.name Lib.Math.min.code 2 (some .int), .methodLink RX2 30 yJ7_fill_53178, .static yJ7_fill_53178, .initialized RJ7, .code yJ7_fill_53178 cJ7_fill_53178 4 none, .methodLink RX2 46 yX3_has, .instanceMethod yX3_has, .selects RX3 yX3_has yX3_has, .initialized RX3, .code yX3_has cX3_has 3 (some .boolean), .fieldLink RX3 9 "ArcOrder$Net" "out" "[I", .static yX8_holdsBit, .initialized RX8, .code yX8_holdsBit cX8_holdsBit 2 (some .boolean)] ++ wsX20 ++ wsX30)
def wsX2_lowestNext : List Cond := .code yX2_lowestNext cX2_lowestNext 5 (some .int) :: ([.fieldLink RX2 44 "ArcOrder$Net" "items" "I", .fieldLink RX2 15 "ArcOrder$Lap" "steps" "[I", .methodLink RX2 46 yX3_has, .instanceMethod yX3_has, .selects RX3 yX3_has yX3_has, .initialized RX3, .code yX3_has cX3_has 3 (some .boolean), .fieldLink RX3 9 "ArcOrder$Net" "out" "[I", .static yX8_holdsBit, .initialized RX8, .code yX8_holdsBit cX8_holdsBit 2 (some .boolean)] ++ wsX30 ++ wsX20)
def wsX2_trace_r1 : List Cond := [Cond.fieldLink RX2 9 "ArcOrder$Lap" "items" "[I", Cond.fieldLink RX2 22 "ArcOrder$Lap" "length" "I", Cond.fieldLink RX2 15 "ArcOrder$Lap" "steps" "[I", Cond.methodLink RX2 18 yX2_measure, Cond.instanceMethod yX2_measure, Cond.selects RX2 yX2_measure yX2_measure, Cond.initialized RX2, Cond.code yX2_measure cX2_measure 6 none, Cond.fieldLink RX2 36 "ArcOrder$Net" "place" "[I", Cond.fieldLink RX2 41 "ArcOrder$Net" "order" "[I", Cond.fieldLink RX2 44 "ArcOrder$Net" "items" "I", Cond.methodLink RX2 50 Lib.Math.min.name, Cond.static Lib.Math.min.name, Cond.initialized "java/lang/Math", Cond.code Lib.Math.min.name Lib.Math.min.code 2 (some .int), Cond.methodLink RX2 30 yJ7_fill_53178, Cond.static yJ7_fill_53178, Cond.initialized RJ7, Cond.code yJ7_fill_53178 cJ7_fill_53178 4 none, Cond.methodLink RX2 46 yX3_has, Cond.instanceMethod yX3_has, Cond.selects RX3 yX3_has yX3_has, Cond.initialized RX3, Cond.code yX3_has cX3_has 3 (some .boolean)]
def wsX2_trace_r2 : List Cond := [Cond.fieldLink RX3 9 "ArcOrder$Net" "out" "[I", Cond.static yX8_holdsBit, Cond.initialized RX8, Cond.code yX8_holdsBit cX8_holdsBit 2 (some .boolean), Cond.methodLink RX2 26 yX2_lowestNext, Cond.instanceMethod yX2_lowestNext, Cond.selects RX2 yX2_lowestNext yX2_lowestNext, Cond.code yX2_lowestNext cX2_lowestNext 5 (some .int)]
def wsX2_trace : List Cond := .code yX2_trace cX2_trace 6 none :: ((wsX2_trace_r1 ++ wsX2_trace_r2) ++ wsX20 ++ wsX30)
def wsX3_begin : List Cond := .code yX3_begin cX3_begin 3 none :: ([.fieldLink RX3 31 "ArcOrder$Net" "items" "I", .fieldLink RX3 35 "ArcOrder$Net" "arcs" "I", .fieldLink RX3 9 "ArcOrder$Net" "out" "[I", .fieldLink RX3 15 "ArcOrder$Net" "in" "[I", .fieldLink RX3 18 "ArcOrder$Net" "order" "[I", .fieldLink RX3 21 "ArcOrder$Net" "place" "[I"] ++ wsX30)
def wsX3_init : List Cond := .code yX3_init cX3_init 1 none :: ([.methodLink RX3 3 objectInit, .instanceMethod objectInit, .code objectInit ⟨#[0xb1]⟩ 1 none, .arrayClass .int, .fieldLink RX3 9 "ArcOrder$Net" "out" "[I", .fieldLink RX3 15 "ArcOrder$Net" "in" "[I", .fieldLink RX3 18 "ArcOrder$Net" "order" "[I", .fieldLink RX3 21 "ArcOrder$Net" "place" "[I", .fieldLink RX3 24 "ArcOrder$Net" "movers" "[I", .methodLink RX3 27 yX3_begin, .instanceMethod yX3_begin, .selects RX3 yX3_begin yX3_begin, .initialized RX3, .code yX3_begin cX3_begin 3 none, .fieldLink RX3 31 "ArcOrder$Net" "items" "I", .fieldLink RX3 35 "ArcOrder$Net" "arcs" "I"] ++ wsX30)
def wsX3_copyOf : List Cond := .code yX3_copyOf cX3_copyOf 2 none :: ([.fieldLink RX3 31 "ArcOrder$Net" "items" "I", .fieldLink RX3 35 "ArcOrder$Net" "arcs" "I", .fieldLink RX3 9 "ArcOrder$Net" "out" "[I", .methodLink RX3 38 arraycopyName, .native arraycopyName, .static arraycopyName, .initialized "java/lang/System", .fieldLink RX3 15 "ArcOrder$Net" "in" "[I", .fieldLink RX3 18 "ArcOrder$Net" "order" "[I", .fieldLink RX3 21 "ArcOrder$Net" "place" "[I"] ++ wsX30)
def wsX3_isItem : List Cond := .code yX3_isItem cX3_isItem 2 (some .boolean) :: ([.fieldLink RX3 31 "ArcOrder$Net" "items" "I"] ++ wsX30)
def wsX3_isPair : List Cond := .code yX3_isPair cX3_isPair 3 (some .boolean) :: ([.methodLink RX3 44 yX3_isItem, .instanceMethod yX3_isItem, .selects RX3 yX3_isItem yX3_isItem, .initialized RX3, .code yX3_isItem cX3_isItem 2 (some .boolean), .fieldLink RX3 31 "ArcOrder$Net" "items" "I"] ++ wsX30)
def wsX3_sweepOn : List Cond := .code yX3_sweepOn cX3_sweepOn 6 (some .int) :: ([.fieldLink RX3 21 "ArcOrder$Net" "place" "[I", .fieldLink RX3 18 "ArcOrder$Net" "order" "[I", .fieldLink RX3 15 "ArcOrder$Net" "in" "[I"] ++ wsX30)
def wsX3_closesRing : List Cond := .code yX3_closesRing cX3_closesRing 3 (some .boolean) :: ([.fieldLink RX3 21 "ArcOrder$Net" "place" "[I", .methodLink RX3 61 yX3_sweepOn, .instanceMethod yX3_sweepOn, .selects RX3 yX3_sweepOn yX3_sweepOn, .initialized RX3, .code yX3_sweepOn cX3_sweepOn 6 (some .int), .fieldLink RX3 18 "ArcOrder$Net" "order" "[I", .fieldLink RX3 15 "ArcOrder$Net" "in" "[I", .static yX8_holdsBit, .initialized RX8, .code yX8_holdsBit cX8_holdsBit 2 (some .boolean)] ++ wsX30)
def wsX3_canTake_r1 : List Cond := [Cond.methodLink RX3 52 yX3_isPair, Cond.instanceMethod yX3_isPair, Cond.selects RX3 yX3_isPair yX3_isPair, Cond.initialized RX3, Cond.code yX3_isPair cX3_isPair 3 (some .boolean), Cond.methodLink RX3 44 yX3_isItem, Cond.instanceMethod yX3_isItem, Cond.selects RX3 yX3_isItem yX3_isItem, Cond.code yX3_isItem cX3_isItem 2 (some .boolean), Cond.fieldLink RX3 31 "ArcOrder$Net" "items" "I", Cond.methodLink RX3 55 yX3_has, Cond.instanceMethod yX3_has, Cond.selects RX3 yX3_has yX3_has, Cond.code yX3_has cX3_has 3 (some .boolean), Cond.fieldLink RX3 9 "ArcOrder$Net" "out" "[I", Cond.static yX8_holdsBit, Cond.initialized RX8, Cond.code yX8_holdsBit cX8_holdsBit 2 (some .boolean), Cond.methodLink RX3 58 yX3_closesRing, Cond.instanceMethod yX3_closesRing, Cond.selects RX3 yX3_closesRing yX3_closesRing, Cond.code yX3_closesRing cX3_closesRing 3 (some .boolean), Cond.fieldLink RX3 21 "ArcOrder$Net" "place" "[I", Cond.methodLink RX3 61 yX3_sweepOn]
def wsX3_canTake_r2 : List Cond := [Cond.instanceMethod yX3_sweepOn, Cond.selects RX3 yX3_sweepOn yX3_sweepOn, Cond.code yX3_sweepOn cX3_sweepOn 6 (some .int), Cond.fieldLink RX3 18 "ArcOrder$Net" "order" "[I", Cond.fieldLink RX3 15 "ArcOrder$Net" "in" "[I"]
def wsX3_canTake : List Cond := .code yX3_canTake cX3_canTake 3 (some .boolean) :: ((wsX3_canTake_r1 ++ wsX3_canTake_r2) ++ wsX30)
def wsX3_sweepBack : List Cond := .code yX3_sweepBack cX3_sweepBack 6 (some .int) :: ([.fieldLink RX3 21 "ArcOrder$Net" "place" "[I", .fieldLink RX3 18 "ArcOrder$Net" "order" "[I", .fieldLink RX3 9 "ArcOrder$Net" "out" "[I"] ++ wsX30)
def wsX3_allBehind : List Cond := .code yX3_allBehind cX3_allBehind 2 (some .int) :: ([.fieldLink RX3 31 "ArcOrder$Net" "items" "I", .methodLink RX3 61 yX3_sweepOn, .instanceMethod yX3_sweepOn, .selects RX3 yX3_sweepOn yX3_sweepOn, .initialized RX3, .code yX3_sweepOn cX3_sweepOn 6 (some .int), .fieldLink RX3 21 "ArcOrder$Net" "place" "[I", .fieldLink RX3 18 "ArcOrder$Net" "order" "[I", .fieldLink RX3 15 "ArcOrder$Net" "in" "[I"] ++ wsX30)
def wsX3_allAheadOf : List Cond := .code yX3_allAheadOf cX3_allAheadOf 2 (some .int) :: ([.methodLink RX3 65 yX3_sweepBack, .instanceMethod yX3_sweepBack, .selects RX3 yX3_sweepBack yX3_sweepBack, .initialized RX3, .code yX3_sweepBack cX3_sweepBack 6 (some .int), .fieldLink RX3 21 "ArcOrder$Net" "place" "[I", .fieldLink RX3 18 "ArcOrder$Net" "order" "[I", .fieldLink RX3 9 "ArcOrder$Net" "out" "[I"] ++ wsX30)
def wsX3_after : List Cond := .code yX3_after cX3_after 3 (some .int) :: ([.fieldLink RX3 21 "ArcOrder$Net" "place" "[I", .methodLink RX3 61 yX3_sweepOn, .instanceMethod yX3_sweepOn, .selects RX3 yX3_sweepOn yX3_sweepOn, .initialized RX3, .code yX3_sweepOn cX3_sweepOn 6 (some .int), .fieldLink RX3 18 "ArcOrder$Net" "order" "[I", .fieldLink RX3 15 "ArcOrder$Net" "in" "[I"] ++ wsX30)
def wsX3_before : List Cond := .code yX3_before cX3_before 3 (some .int) :: ([.fieldLink RX3 21 "ArcOrder$Net" "place" "[I", .methodLink RX3 65 yX3_sweepBack, .instanceMethod yX3_sweepBack, .selects RX3 yX3_sweepBack yX3_sweepBack, .initialized RX3, .code yX3_sweepBack cX3_sweepBack 6 (some .int), .fieldLink RX3 18 "ArcOrder$Net" "order" "[I", .fieldLink RX3 9 "ArcOrder$Net" "out" "[I"] ++ wsX30)
def wsX3_movedBy_r1 : List Cond := [Cond.methodLink RX3 58 yX3_closesRing, Cond.instanceMethod yX3_closesRing, Cond.selects RX3 yX3_closesRing yX3_closesRing, Cond.initialized RX3, Cond.code yX3_closesRing cX3_closesRing 3 (some .boolean), Cond.fieldLink RX3 21 "ArcOrder$Net" "place" "[I", Cond.methodLink RX3 61 yX3_sweepOn, Cond.instanceMethod yX3_sweepOn, Cond.selects RX3 yX3_sweepOn yX3_sweepOn, Cond.code yX3_sweepOn cX3_sweepOn 6 (some .int), Cond.fieldLink RX3 18 "ArcOrder$Net" "order" "[I", Cond.fieldLink RX3 15 "ArcOrder$Net" "in" "[I", Cond.static yX8_holdsBit, Cond.initialized RX8, Cond.code yX8_holdsBit cX8_holdsBit 2 (some .boolean), Cond.methodLink RX3 68 yX3_before, Cond.instanceMethod yX3_before, Cond.selects RX3 yX3_before yX3_before, Cond.code yX3_before cX3_before 3 (some .int), Cond.methodLink RX3 65 yX3_sweepBack, Cond.instanceMethod yX3_sweepBack, Cond.selects RX3 yX3_sweepBack yX3_sweepBack, Cond.code yX3_sweepBack cX3_sweepBack 6 (some .int), Cond.fieldLink RX3 9 "ArcOrder$Net" "out" "[I"]
def wsX3_movedBy_r2 : List Cond := [Cond.methodLink RX3 71 yX3_after, Cond.instanceMethod yX3_after, Cond.selects RX3 yX3_after yX3_after, Cond.code yX3_after cX3_after 3 (some .int)]
def wsX3_movedBy : List Cond := .code yX3_movedBy cX3_movedBy 3 (some .int) :: ((wsX3_movedBy_r1 ++ wsX3_movedBy_r2) ++ wsX30)
def wsX3_gather : List Cond := .code yX3_gather cX3_gather 5 (some .int) :: ([.fieldLink RX3 31 "ArcOrder$Net" "items" "I", .fieldLink RX3 18 "ArcOrder$Net" "order" "[I", .fieldLink RX3 24 "ArcOrder$Net" "movers" "[I", .static yX8_holdsBit, .initialized RX8, .code yX8_holdsBit cX8_holdsBit 2 (some .boolean)] ++ wsX30)
def wsX3_stand : List Cond := .code yX3_stand cX3_stand 3 none :: ([.fieldLink RX3 18 "ArcOrder$Net" "order" "[I", .fieldLink RX3 21 "ArcOrder$Net" "place" "[I"] ++ wsX30)
def wsX3_rearrange : List Cond := .code yX3_rearrange cX3_rearrange 5 none :: ([.fieldLink RX3 31 "ArcOrder$Net" "items" "I", .fieldLink RX3 18 "ArcOrder$Net" "order" "[I", .fieldLink RX3 24 "ArcOrder$Net" "movers" "[I", .methodLink RX3 84 yX3_gather, .instanceMethod yX3_gather, .selects RX3 yX3_gather yX3_gather, .initialized RX3, .code yX3_gather cX3_gather 5 (some .int), .static yX8_holdsBit, .initialized RX8, .code yX8_holdsBit cX8_holdsBit 2 (some .boolean), .methodLink RX3 87 yX3_stand, .instanceMethod yX3_stand, .selects RX3 yX3_stand yX3_stand, .code yX3_stand cX3_stand 3 none, .fieldLink RX3 21 "ArcOrder$Net" "place" "[I"] ++ wsX30)
def wsX3_put_r1 : List Cond := [Cond.fieldLink RX3 9 "ArcOrder$Net" "out" "[I", Cond.fieldLink RX3 15 "ArcOrder$Net" "in" "[I", Cond.fieldLink RX3 35 "ArcOrder$Net" "arcs" "I", Cond.methodLink RX3 58 yX3_closesRing, Cond.instanceMethod yX3_closesRing, Cond.selects RX3 yX3_closesRing yX3_closesRing, Cond.initialized RX3, Cond.code yX3_closesRing cX3_closesRing 3 (some .boolean), Cond.fieldLink RX3 21 "ArcOrder$Net" "place" "[I", Cond.methodLink RX3 61 yX3_sweepOn, Cond.instanceMethod yX3_sweepOn, Cond.selects RX3 yX3_sweepOn yX3_sweepOn, Cond.code yX3_sweepOn cX3_sweepOn 6 (some .int), Cond.fieldLink RX3 18 "ArcOrder$Net" "order" "[I", Cond.static yX8_holdsBit, Cond.initialized RX8, Cond.code yX8_holdsBit cX8_holdsBit 2 (some .boolean), Cond.methodLink RX3 68 yX3_before, Cond.instanceMethod yX3_before, Cond.selects RX3 yX3_before yX3_before, Cond.code yX3_before cX3_before 3 (some .int), Cond.methodLink RX3 65 yX3_sweepBack, Cond.instanceMethod yX3_sweepBack, Cond.selects RX3 yX3_sweepBack yX3_sweepBack]
def wsX3_put_r2 : List Cond := [Cond.code yX3_sweepBack cX3_sweepBack 6 (some .int), Cond.methodLink RX3 71 yX3_after, Cond.instanceMethod yX3_after, Cond.selects RX3 yX3_after yX3_after, Cond.code yX3_after cX3_after 3 (some .int), Cond.methodLink RX3 74 yX3_rearrange, Cond.instanceMethod yX3_rearrange, Cond.selects RX3 yX3_rearrange yX3_rearrange, Cond.code yX3_rearrange cX3_rearrange 5 none, Cond.fieldLink RX3 31 "ArcOrder$Net" "items" "I", Cond.fieldLink RX3 24 "ArcOrder$Net" "movers" "[I", Cond.methodLink RX3 84 yX3_gather, Cond.instanceMethod yX3_gather, Cond.selects RX3 yX3_gather yX3_gather, Cond.code yX3_gather cX3_gather 5 (some .int), Cond.methodLink RX3 87 yX3_stand, Cond.instanceMethod yX3_stand, Cond.selects RX3 yX3_stand yX3_stand, Cond.code yX3_stand cX3_stand 3 none, Cond.methodLink RX3 78 yJ6_bitCount_0f7a4, Cond.static yJ6_bitCount_0f7a4, Cond.initialized RJ6, Cond.code yJ6_bitCount_0f7a4 cJ6_bitCount_0f7a4 1 (some .int), Cond.constant RJ6 265 (1431655765)]
def wsX3_put_r3 : List Cond := [Cond.constant RJ6 266 (858993459), Cond.constant RJ6 267 (252645135)]
def wsX3_put : List Cond := .code yX3_put cX3_put 5 (some .int) :: ((wsX3_put_r1 ++ (wsX3_put_r2 ++ wsX3_put_r3)) ++ wsX30)
def wsX3_part : List Cond := .code yX3_part cX3_part 3 none :: ([.fieldLink RX3 9 "ArcOrder$Net" "out" "[I", .fieldLink RX3 15 "ArcOrder$Net" "in" "[I", .fieldLink RX3 35 "ArcOrder$Net" "arcs" "I"] ++ wsX30)
def wsX3_sort : List Cond := .code yX3_sort cX3_sort 4 none :: ([.fieldLink RX3 31 "ArcOrder$Net" "items" "I", .methodLink RX3 90 yX3_isReady, .instanceMethod yX3_isReady, .selects RX3 yX3_isReady yX3_isReady, .initialized RX3, .code yX3_isReady cX3_isReady 3 (some .boolean), .fieldLink RX3 15 "ArcOrder$Net" "in" "[I", .static yX8_holdsBit, .initialized RX8, .code yX8_holdsBit cX8_holdsBit 2 (some .boolean), .methodLink RX3 87 yX3_stand, .instanceMethod yX3_stand, .selects RX3 yX3_stand yX3_stand, .code yX3_stand cX3_stand 3 none, .fieldLink RX3 18 "ArcOrder$Net" "order" "[I", .fieldLink RX3 21 "ArcOrder$Net" "place" "[I"] ++ wsX30)
def wsX3_longestChain : List Cond := .code yX3_longestChain cX3_longestChain 4 (some .int) :: ([.fieldLink RX3 31 "ArcOrder$Net" "items" "I", .methodLink RX3 93 yX3_everyItem, .instanceMethod yX3_everyItem, .selects RX3 yX3_everyItem yX3_everyItem, .initialized RX3, .code yX3_everyItem cX3_everyItem 1 (some .int), .methodLink RX3 97 yX3_allReady, .instanceMethod yX3_allReady, .selects RX3 yX3_allReady yX3_allReady, .code yX3_allReady cX3_allReady 4 (some .int), .methodLink RX3 90 yX3_isReady, .instanceMethod yX3_isReady, .selects RX3 yX3_isReady yX3_isReady, .code yX3_isReady cX3_isReady 3 (some .boolean), .fieldLink RX3 15 "ArcOrder$Net" "in" "[I", .static yX8_holdsBit, .initialized RX8, .code yX8_holdsBit cX8_holdsBit 2 (some .boolean)] ++ wsX30)
def wsX3_placesUnlike : List Cond := .code yX3_placesUnlike cX3_placesUnlike 4 (some .int) :: ([.fieldLink RX3 31 "ArcOrder$Net" "items" "I", .fieldLink RX3 21 "ArcOrder$Net" "place" "[I"] ++ wsX30)
def wsX3_hasArcsOf : List Cond := .code yX3_hasArcsOf cX3_hasArcsOf 3 (some .boolean) :: ([.fieldLink RX3 31 "ArcOrder$Net" "items" "I", .fieldLink RX3 9 "ArcOrder$Net" "out" "[I"] ++ wsX30)
def wsX4_init : List Cond := .code yX4_init cX4_init 2 none :: ([.methodLink RX4 3 objectInit, .instanceMethod objectInit, .code objectInit ⟨#[0xb1]⟩ 1 none, .classLink RX4 9 RX3, .fieldLink RX4 11 "ArcOrder$Past" "nets" "[LArcOrder$Net;", .instantiable RX3 7, .initialized RX3, .methodLink RX4 17 yX3_init, .instanceMethod yX3_init, .code yX3_init cX3_init 1 none, .methodLink RX3 3 objectInit, .arrayClass .int, .fieldLink RX3 9 "ArcOrder$Net" "out" "[I", .fieldLink RX3 15 "ArcOrder$Net" "in" "[I", .fieldLink RX3 18 "ArcOrder$Net" "order" "[I", .fieldLink RX3 21 "ArcOrder$Net" "place" "[I", .fieldLink RX3 24 "ArcOrder$Net" "movers" "[I", .methodLink RX3 27 yX3_begin, .instanceMethod yX3_begin, .selects RX3 yX3_begin yX3_begin, .code yX3_begin cX3_begin 3 none, .fieldLink RX3 31 "ArcOrder$Net" "items" "I", .fieldLink RX3 35 "ArcOrder$Net" "arcs" "I"] ++ wsX40 ++ wsX30)
def wsX4_loseOldest : List Cond := .code yX4_loseOldest cX4_loseOldest 3 none :: ([.fieldLink RX4 11 "ArcOrder$Past" "nets" "[LArcOrder$Net;", .fieldLink RX4 18 "ArcOrder$Past" "size" "I"] ++ wsX40)
def wsX4_push : List Cond := .code yX4_push cX4_push 2 none :: ([.fieldLink RX4 18 "ArcOrder$Past" "size" "I", .fieldLink RX4 11 "ArcOrder$Past" "nets" "[LArcOrder$Net;", .methodLink RX4 22 yX4_loseOldest, .instanceMethod yX4_loseOldest, .selects RX4 yX4_loseOldest yX4_loseOldest, .initialized RX4, .code yX4_loseOldest cX4_loseOldest 3 none, .methodLink RX4 25 yX3_copyOf, .instanceMethod yX3_copyOf, .selects RX3 yX3_copyOf yX3_copyOf, .initialized RX3, .code yX3_copyOf cX3_copyOf 2 none, .fieldLink RX3 31 "ArcOrder$Net" "items" "I", .fieldLink RX3 35 "ArcOrder$Net" "arcs" "I", .fieldLink RX3 9 "ArcOrder$Net" "out" "[I", .methodLink RX3 38 arraycopyName, .native arraycopyName, .static arraycopyName, .initialized "java/lang/System", .fieldLink RX3 15 "ArcOrder$Net" "in" "[I", .fieldLink RX3 18 "ArcOrder$Net" "order" "[I", .fieldLink RX3 21 "ArcOrder$Net" "place" "[I"] ++ wsX40 ++ wsX30)
def wsX4_pop : List Cond := .code yX4_pop cX4_pop 2 (some .boolean) :: ([.fieldLink RX4 18 "ArcOrder$Past" "size" "I", .fieldLink RX4 11 "ArcOrder$Past" "nets" "[LArcOrder$Net;", .methodLink RX4 25 yX3_copyOf, .instanceMethod yX3_copyOf, .selects RX3 yX3_copyOf yX3_copyOf, .initialized RX3, .code yX3_copyOf cX3_copyOf 2 none, .fieldLink RX3 31 "ArcOrder$Net" "items" "I", .fieldLink RX3 35 "ArcOrder$Net" "arcs" "I", .fieldLink RX3 9 "ArcOrder$Net" "out" "[I", .methodLink RX3 38 arraycopyName, .native arraycopyName, .static arraycopyName, .initialized "java/lang/System", .fieldLink RX3 15 "ArcOrder$Net" "in" "[I", .fieldLink RX3 18 "ArcOrder$Net" "order" "[I", .fieldLink RX3 21 "ArcOrder$Net" "place" "[I"] ++ wsX40 ++ wsX30)
def wsX5_init : List Cond := .code yX5_init cX5_init 1 none :: ([.methodLink RX5 3 objectInit, .instanceMethod objectInit, .code objectInit ⟨#[0xb1]⟩ 1 none, .arrayClass .int, .fieldLink RX5 9 "ArcOrder$Sight" "movers" "[I"] ++ wsX50)
def wsX5_empty : List Cond := .code yX5_empty cX5_empty 1 none :: ([.fieldLink RX5 15 "ArcOrder$Sight" "size" "I", .fieldLink RX5 19 "ArcOrder$Sight" "mustMove" "I", .fieldLink RX5 22 "ArcOrder$Sight" "mustStay" "I"] ++ wsX50)
def wsX5_append : List Cond := .code yX5_append cX5_append 3 (some .boolean) :: ([.fieldLink RX5 15 "ArcOrder$Sight" "size" "I", .fieldLink RX5 19 "ArcOrder$Sight" "mustMove" "I", .fieldLink RX5 22 "ArcOrder$Sight" "mustStay" "I"] ++ wsX50)
def wsX8_codeOf : List Cond := .code yX8_codeOf cX8_codeOf 2 (some .int) :: ([])
def wsX5_takeIfFits : List Cond := .code yX5_takeIfFits cX5_takeIfFits 4 none :: ([.fieldLink RX5 19 "ArcOrder$Sight" "mustMove" "I", .fieldLink RX5 22 "ArcOrder$Sight" "mustStay" "I", .fieldLink RX5 28 "ArcOrder$Sight" "first" "I", .fieldLink RX5 25 "ArcOrder$Sight" "fitting" "I", .fieldLink RX5 9 "ArcOrder$Sight" "movers" "[I"] ++ wsX50)
def wsX5_weigh_r1 : List Cond := [Cond.fieldLink RX5 25 "ArcOrder$Sight" "fitting" "I", Cond.fieldLink RX5 28 "ArcOrder$Sight" "first" "I", Cond.fieldLink RX5 9 "ArcOrder$Sight" "movers" "[I", Cond.fieldLink RX5 37 "ArcOrder$Net" "items" "I", Cond.methodLink RX5 31 yJ7_fill_53178, Cond.static yJ7_fill_53178, Cond.initialized RJ7, Cond.code yJ7_fill_53178 cJ7_fill_53178 4 none, Cond.methodLink RX5 42 yX3_canTake, Cond.instanceMethod yX3_canTake, Cond.selects RX3 yX3_canTake yX3_canTake, Cond.initialized RX3, Cond.code yX3_canTake cX3_canTake 3 (some .boolean), Cond.methodLink RX3 52 yX3_isPair, Cond.instanceMethod yX3_isPair, Cond.selects RX3 yX3_isPair yX3_isPair, Cond.code yX3_isPair cX3_isPair 3 (some .boolean), Cond.methodLink RX3 44 yX3_isItem, Cond.instanceMethod yX3_isItem, Cond.selects RX3 yX3_isItem yX3_isItem, Cond.code yX3_isItem cX3_isItem 2 (some .boolean), Cond.fieldLink RX3 31 "ArcOrder$Net" "items" "I", Cond.methodLink RX3 55 yX3_has, Cond.instanceMethod yX3_has]
def wsX5_weigh_r2 : List Cond := [Cond.selects RX3 yX3_has yX3_has, Cond.code yX3_has cX3_has 3 (some .boolean), Cond.fieldLink RX3 9 "ArcOrder$Net" "out" "[I", Cond.static yX8_holdsBit, Cond.initialized RX8, Cond.code yX8_holdsBit cX8_holdsBit 2 (some .boolean), Cond.methodLink RX3 58 yX3_closesRing, Cond.instanceMethod yX3_closesRing, Cond.selects RX3 yX3_closesRing yX3_closesRing, Cond.code yX3_closesRing cX3_closesRing 3 (some .boolean), Cond.fieldLink RX3 21 "ArcOrder$Net" "place" "[I", Cond.methodLink RX3 61 yX3_sweepOn, Cond.instanceMethod yX3_sweepOn, Cond.selects RX3 yX3_sweepOn yX3_sweepOn, Cond.code yX3_sweepOn cX3_sweepOn 6 (some .int), Cond.fieldLink RX3 18 "ArcOrder$Net" "order" "[I", Cond.fieldLink RX3 15 "ArcOrder$Net" "in" "[I", Cond.static yX8_codeOf, Cond.code yX8_codeOf cX8_codeOf 2 (some .int), Cond.methodLink RX5 50 yX3_movedBy, Cond.instanceMethod yX3_movedBy, Cond.selects RX3 yX3_movedBy yX3_movedBy, Cond.code yX3_movedBy cX3_movedBy 3 (some .int), Cond.methodLink RX3 68 yX3_before]
def wsX5_weigh_r3 : List Cond := [Cond.instanceMethod yX3_before, Cond.selects RX3 yX3_before yX3_before, Cond.code yX3_before cX3_before 3 (some .int), Cond.methodLink RX3 65 yX3_sweepBack, Cond.instanceMethod yX3_sweepBack, Cond.selects RX3 yX3_sweepBack yX3_sweepBack, Cond.code yX3_sweepBack cX3_sweepBack 6 (some .int), Cond.methodLink RX3 71 yX3_after, Cond.instanceMethod yX3_after, Cond.selects RX3 yX3_after yX3_after, Cond.code yX3_after cX3_after 3 (some .int), Cond.methodLink RX5 53 yX5_takeIfFits, Cond.instanceMethod yX5_takeIfFits, Cond.selects RX5 yX5_takeIfFits yX5_takeIfFits, Cond.initialized RX5, Cond.code yX5_takeIfFits cX5_takeIfFits 4 none, Cond.fieldLink RX5 19 "ArcOrder$Sight" "mustMove" "I", Cond.fieldLink RX5 22 "ArcOrder$Sight" "mustStay" "I"]
def wsX5_weigh : List Cond := .code yX5_weigh cX5_weigh 4 none :: ((wsX5_weigh_r1 ++ (wsX5_weigh_r2 ++ wsX5_weigh_r3)) ++ wsX50 ++ wsX30)
def wsX5_bestItem : List Cond := .code yX5_bestItem cX5_bestItem 6 (some .int) :: ([.fieldLink RX5 25 "ArcOrder$Sight" "fitting" "I", .fieldLink RX5 37 "ArcOrder$Net" "items" "I", .fieldLink RX5 9 "ArcOrder$Sight" "movers" "[I", .methodLink RX5 57 Lib.Math.max.name, .static Lib.Math.max.name, .initialized "java/lang/Math", .code Lib.Math.max.name Lib.Math.max.code 2 (some .int)] ++ wsX50 ++ wsX30)
def wsX6_init_r1 : List Cond := [Cond.methodLink RX6 3 objectInit, Cond.instanceMethod objectInit, Cond.code objectInit ⟨#[0xb1]⟩ 1 none, Cond.arrayClass .long, Cond.fieldLink RX6 9 "ArcOrder$Tally" "ways" "[J", Cond.classLink RX6 15 RX3, Cond.instantiable RX3 7, Cond.initialized RX3, Cond.fieldLink RX6 18 "ArcOrder$Tally" "counted" "LArcOrder$Net;", Cond.methodLink RX6 17 yX3_init, Cond.instanceMethod yX3_init, Cond.code yX3_init cX3_init 1 none, Cond.methodLink RX3 3 objectInit, Cond.arrayClass .int, Cond.fieldLink RX3 9 "ArcOrder$Net" "out" "[I", Cond.fieldLink RX3 15 "ArcOrder$Net" "in" "[I", Cond.fieldLink RX3 18 "ArcOrder$Net" "order" "[I", Cond.fieldLink RX3 21 "ArcOrder$Net" "place" "[I", Cond.fieldLink RX3 24 "ArcOrder$Net" "movers" "[I", Cond.methodLink RX3 27 yX3_begin, Cond.instanceMethod yX3_begin, Cond.selects RX3 yX3_begin yX3_begin, Cond.code yX3_begin cX3_begin 3 none, Cond.fieldLink RX3 31 "ArcOrder$Net" "items" "I"]
def wsX6_init_r2 : List Cond := [Cond.fieldLink RX3 35 "ArcOrder$Net" "arcs" "I"]
def wsX6_init : List Cond := .code yX6_init cX6_init 1 none :: ((wsX6_init_r1 ++ wsX6_init_r2) ++ wsX60 ++ wsX30)
def wsX6_waysOn : List Cond := .code yX6_waysOn cX6_waysOn 6 (some .long) :: ([.fieldLink RX6 42 "ArcOrder$Net" "items" "I", .fieldLink RX6 9 "ArcOrder$Tally" "ways" "[J", .methodLink RX6 46 yX3_isReady, .instanceMethod yX3_isReady, .selects RX3 yX3_isReady yX3_isReady, .initialized RX3, .code yX3_isReady cX3_isReady 3 (some .boolean), .fieldLink RX3 15 "ArcOrder$Net" "in" "[I", .static yX8_holdsBit, .initialized RX8, .code yX8_holdsBit cX8_holdsBit 2 (some .boolean)] ++ wsX30 ++ wsX60)
def wsX6_prepare_r1 : List Cond := [Cond.fieldLink RX6 22 "ArcOrder$Tally" "isCounted" "Z", Cond.fieldLink RX6 18 "ArcOrder$Tally" "counted" "LArcOrder$Net;", Cond.fieldLink RX6 9 "ArcOrder$Tally" "ways" "[J", Cond.methodLink RX6 26 yX3_hasArcsOf, Cond.instanceMethod yX3_hasArcsOf, Cond.selects RX3 yX3_hasArcsOf yX3_hasArcsOf, Cond.initialized RX3, Cond.code yX3_hasArcsOf cX3_hasArcsOf 3 (some .boolean), Cond.fieldLink RX3 31 "ArcOrder$Net" "items" "I", Cond.fieldLink RX3 9 "ArcOrder$Net" "out" "[I", Cond.methodLink RX6 30 yX3_everyItem, Cond.instanceMethod yX3_everyItem, Cond.selects RX3 yX3_everyItem yX3_everyItem, Cond.code yX3_everyItem cX3_everyItem 1 (some .int), Cond.methodLink RX6 34 yX6_waysOn, Cond.instanceMethod yX6_waysOn, Cond.selects RX6 yX6_waysOn yX6_waysOn, Cond.initialized RX6, Cond.code yX6_waysOn cX6_waysOn 6 (some .long), Cond.fieldLink RX6 42 "ArcOrder$Net" "items" "I", Cond.methodLink RX6 46 yX3_isReady, Cond.instanceMethod yX3_isReady, Cond.selects RX3 yX3_isReady yX3_isReady, Cond.code yX3_isReady cX3_isReady 3 (some .boolean)]
def wsX6_prepare_r2 : List Cond := [Cond.fieldLink RX3 15 "ArcOrder$Net" "in" "[I", Cond.static yX8_holdsBit, Cond.initialized RX8, Cond.code yX8_holdsBit cX8_holdsBit 2 (some .boolean), Cond.methodLink RX6 38 yX3_copyOf, Cond.instanceMethod yX3_copyOf, Cond.selects RX3 yX3_copyOf yX3_copyOf, Cond.code yX3_copyOf cX3_copyOf 2 none, Cond.fieldLink RX3 35 "ArcOrder$Net" "arcs" "I", Cond.methodLink RX3 38 arraycopyName, Cond.native arraycopyName, Cond.static arraycopyName, Cond.initialized "java/lang/System", Cond.fieldLink RX3 18 "ArcOrder$Net" "order" "[I", Cond.fieldLink RX3 21 "ArcOrder$Net" "place" "[I"]
def wsX6_prepare : List Cond := .code yX6_prepare cX6_prepare 4 none :: ((wsX6_prepare_r1 ++ wsX6_prepare_r2) ++ wsX60 ++ wsX30)
def wsX6_all_r1 : List Cond := [Cond.fieldLink RX6 9 "ArcOrder$Tally" "ways" "[J", Cond.methodLink RX6 50 yX6_prepare, Cond.instanceMethod yX6_prepare, Cond.selects RX6 yX6_prepare yX6_prepare, Cond.initialized RX6, Cond.code yX6_prepare cX6_prepare 4 none, Cond.fieldLink RX6 22 "ArcOrder$Tally" "isCounted" "Z", Cond.fieldLink RX6 18 "ArcOrder$Tally" "counted" "LArcOrder$Net;", Cond.methodLink RX6 26 yX3_hasArcsOf, Cond.instanceMethod yX3_hasArcsOf, Cond.selects RX3 yX3_hasArcsOf yX3_hasArcsOf, Cond.initialized RX3, Cond.code yX3_hasArcsOf cX3_hasArcsOf 3 (some .boolean), Cond.fieldLink RX3 31 "ArcOrder$Net" "items" "I", Cond.fieldLink RX3 9 "ArcOrder$Net" "out" "[I", Cond.methodLink RX6 30 yX3_everyItem, Cond.instanceMethod yX3_everyItem, Cond.selects RX3 yX3_everyItem yX3_everyItem, Cond.code yX3_everyItem cX3_everyItem 1 (some .int), Cond.methodLink RX6 34 yX6_waysOn, Cond.instanceMethod yX6_waysOn, Cond.selects RX6 yX6_waysOn yX6_waysOn, Cond.code yX6_waysOn cX6_waysOn 6 (some .long), Cond.fieldLink RX6 42 "ArcOrder$Net" "items" "I"]
def wsX6_all_r2 : List Cond := [Cond.methodLink RX6 46 yX3_isReady, Cond.instanceMethod yX3_isReady, Cond.selects RX3 yX3_isReady yX3_isReady, Cond.code yX3_isReady cX3_isReady 3 (some .boolean), Cond.fieldLink RX3 15 "ArcOrder$Net" "in" "[I", Cond.static yX8_holdsBit, Cond.initialized RX8, Cond.code yX8_holdsBit cX8_holdsBit 2 (some .boolean), Cond.methodLink RX6 38 yX3_copyOf, Cond.instanceMethod yX3_copyOf, Cond.selects RX3 yX3_copyOf yX3_copyOf, Cond.code yX3_copyOf cX3_copyOf 2 none, Cond.fieldLink RX3 35 "ArcOrder$Net" "arcs" "I", Cond.methodLink RX3 38 arraycopyName, Cond.native arraycopyName, Cond.static arraycopyName, Cond.initialized "java/lang/System", Cond.fieldLink RX3 18 "ArcOrder$Net" "order" "[I", Cond.fieldLink RX3 21 "ArcOrder$Net" "place" "[I"]
def wsX6_all : List Cond := .code yX6_all cX6_all 2 (some .long) :: ((wsX6_all_r1 ++ wsX6_all_r2) ++ wsX60 ++ wsX30)
def wsX6_rank_r1 : List Cond := [Cond.fieldLink RX6 42 "ArcOrder$Net" "items" "I", Cond.fieldLink RX6 53 "ArcOrder$Net" "order" "[I", Cond.fieldLink RX6 9 "ArcOrder$Tally" "ways" "[J", Cond.methodLink RX6 50 yX6_prepare, Cond.instanceMethod yX6_prepare, Cond.selects RX6 yX6_prepare yX6_prepare, Cond.initialized RX6, Cond.code yX6_prepare cX6_prepare 4 none, Cond.fieldLink RX6 22 "ArcOrder$Tally" "isCounted" "Z", Cond.fieldLink RX6 18 "ArcOrder$Tally" "counted" "LArcOrder$Net;", Cond.methodLink RX6 26 yX3_hasArcsOf, Cond.instanceMethod yX3_hasArcsOf, Cond.selects RX3 yX3_hasArcsOf yX3_hasArcsOf, Cond.initialized RX3, Cond.code yX3_hasArcsOf cX3_hasArcsOf 3 (some .boolean), Cond.fieldLink RX3 31 "ArcOrder$Net" "items" "I", Cond.fieldLink RX3 9 "ArcOrder$Net" "out" "[I", Cond.methodLink RX6 30 yX3_everyItem, Cond.instanceMethod yX3_everyItem, Cond.selects RX3 yX3_everyItem yX3_everyItem, Cond.code yX3_everyItem cX3_everyItem 1 (some .int), Cond.methodLink RX6 34 yX6_waysOn, Cond.instanceMethod yX6_waysOn, Cond.selects RX6 yX6_waysOn yX6_waysOn]
def wsX6_rank_r2 : List Cond := [Cond.code yX6_waysOn cX6_waysOn 6 (some .long), Cond.methodLink RX6 46 yX3_isReady, Cond.instanceMethod yX3_isReady, Cond.selects RX3 yX3_isReady yX3_isReady, Cond.code yX3_isReady cX3_isReady 3 (some .boolean), Cond.fieldLink RX3 15 "ArcOrder$Net" "in" "[I", Cond.static yX8_holdsBit, Cond.initialized RX8, Cond.code yX8_holdsBit cX8_holdsBit 2 (some .boolean), Cond.methodLink RX6 38 yX3_copyOf, Cond.instanceMethod yX3_copyOf, Cond.selects RX3 yX3_copyOf yX3_copyOf, Cond.code yX3_copyOf cX3_copyOf 2 none, Cond.fieldLink RX3 35 "ArcOrder$Net" "arcs" "I", Cond.methodLink RX3 38 arraycopyName, Cond.native arraycopyName, Cond.static arraycopyName, Cond.initialized "java/lang/System", Cond.fieldLink RX3 18 "ArcOrder$Net" "order" "[I", Cond.fieldLink RX3 21 "ArcOrder$Net" "place" "[I"]
def wsX6_rank : List Cond := .code yX6_rank cX6_rank 8 (some .long) :: ((wsX6_rank_r1 ++ wsX6_rank_r2) ++ wsX30 ++ wsX60)
def wsX6_itemOf_r1 : List Cond := [Cond.fieldLink RX6 42 "ArcOrder$Net" "items" "I", Cond.fieldLink RX6 9 "ArcOrder$Tally" "ways" "[J", Cond.methodLink RX6 57 yX6_all, Cond.instanceMethod yX6_all, Cond.selects RX6 yX6_all yX6_all, Cond.initialized RX6, Cond.code yX6_all cX6_all 2 (some .long), Cond.methodLink RX6 50 yX6_prepare, Cond.instanceMethod yX6_prepare, Cond.selects RX6 yX6_prepare yX6_prepare, Cond.code yX6_prepare cX6_prepare 4 none, Cond.fieldLink RX6 22 "ArcOrder$Tally" "isCounted" "Z", Cond.fieldLink RX6 18 "ArcOrder$Tally" "counted" "LArcOrder$Net;", Cond.methodLink RX6 26 yX3_hasArcsOf, Cond.instanceMethod yX3_hasArcsOf, Cond.selects RX3 yX3_hasArcsOf yX3_hasArcsOf, Cond.initialized RX3, Cond.code yX3_hasArcsOf cX3_hasArcsOf 3 (some .boolean), Cond.fieldLink RX3 31 "ArcOrder$Net" "items" "I", Cond.fieldLink RX3 9 "ArcOrder$Net" "out" "[I", Cond.methodLink RX6 30 yX3_everyItem, Cond.instanceMethod yX3_everyItem, Cond.selects RX3 yX3_everyItem yX3_everyItem, Cond.code yX3_everyItem cX3_everyItem 1 (some .int)]
def wsX6_itemOf_r2 : List Cond := [Cond.methodLink RX6 34 yX6_waysOn, Cond.instanceMethod yX6_waysOn, Cond.selects RX6 yX6_waysOn yX6_waysOn, Cond.code yX6_waysOn cX6_waysOn 6 (some .long), Cond.methodLink RX6 46 yX3_isReady, Cond.instanceMethod yX3_isReady, Cond.selects RX3 yX3_isReady yX3_isReady, Cond.code yX3_isReady cX3_isReady 3 (some .boolean), Cond.fieldLink RX3 15 "ArcOrder$Net" "in" "[I", Cond.static yX8_holdsBit, Cond.initialized RX8, Cond.code yX8_holdsBit cX8_holdsBit 2 (some .boolean), Cond.methodLink RX6 38 yX3_copyOf, Cond.instanceMethod yX3_copyOf, Cond.selects RX3 yX3_copyOf yX3_copyOf, Cond.code yX3_copyOf cX3_copyOf 2 none, Cond.fieldLink RX3 35 "ArcOrder$Net" "arcs" "I", Cond.methodLink RX3 38 arraycopyName, Cond.native arraycopyName, Cond.static arraycopyName, Cond.initialized "java/lang/System", Cond.fieldLink RX3 18 "ArcOrder$Net" "order" "[I", Cond.fieldLink RX3 21 "ArcOrder$Net" "place" "[I"]
def wsX6_itemOf : List Cond := .code yX6_itemOf cX6_itemOf 11 (some .int) :: ((wsX6_itemOf_r1 ++ wsX6_itemOf_r2) ++ wsX30 ++ wsX60)
def wsX7_init : List Cond := .code yX7_init cX7_init 1 none :: ([.methodLink RX7 3 objectInit, .instanceMethod objectInit, .code objectInit ⟨#[0xb1]⟩ 1 none, .arrayClass .int, .fieldLink RX7 9 "ArcOrder$Text" "letters" "[I"] ++ wsX70)
def wsX7_append : List Cond := .code yX7_append cX7_append 2 (some .boolean) :: ([.fieldLink RX7 15 "ArcOrder$Text" "length" "I", .fieldLink RX7 9 "ArcOrder$Text" "letters" "[I"] ++ wsX70)
def wsX7_isDigit : List Cond := .code yX7_isDigit cX7_isDigit 2 (some .boolean) :: ([.fieldLink RX7 9 "ArcOrder$Text" "letters" "[I"] ++ wsX70)
def wsX7_readDigits : List Cond := .code yX7_readDigits cX7_readDigits 2 none :: ([.fieldLink RX7 53 "ArcOrder$Text" "value" "I", .fieldLink RX7 25 "ArcOrder$Text" "tokenEnd" "I", .fieldLink RX7 15 "ArcOrder$Text" "length" "I", .fieldLink RX7 9 "ArcOrder$Text" "letters" "[I", .methodLink RX7 73 Lib.Math.min.name, .static Lib.Math.min.name, .initialized "java/lang/Math", .code Lib.Math.min.name Lib.Math.min.code 2 (some .int), .fieldLink RX7 39 "ArcOrder$Text" "tokenStart" "I", .fieldLink RX7 31 "ArcOrder$Text" "token" "C", .methodLink RX7 66 yX7_isDigit, .instanceMethod yX7_isDigit, .selects RX7 yX7_isDigit yX7_isDigit, .initialized RX7, .code yX7_isDigit cX7_isDigit 2 (some .boolean)] ++ wsX70)
def wsX7_nextToken : List Cond := .code yX7_nextToken cX7_nextToken 3 none :: ([.fieldLink RX7 25 "ArcOrder$Text" "tokenEnd" "I", .fieldLink RX7 39 "ArcOrder$Text" "tokenStart" "I", .fieldLink RX7 15 "ArcOrder$Text" "length" "I", .fieldLink RX7 9 "ArcOrder$Text" "letters" "[I", .fieldLink RX7 31 "ArcOrder$Text" "token" "C", .methodLink RX7 66 yX7_isDigit, .instanceMethod yX7_isDigit, .selects RX7 yX7_isDigit yX7_isDigit, .initialized RX7, .code yX7_isDigit cX7_isDigit 2 (some .boolean), .methodLink RX7 70 yX7_readDigits, .instanceMethod yX7_readDigits, .selects RX7 yX7_readDigits yX7_readDigits, .code yX7_readDigits cX7_readDigits 2 none, .fieldLink RX7 53 "ArcOrder$Text" "value" "I", .methodLink RX7 73 Lib.Math.min.name, .static Lib.Math.min.name, .initialized "java/lang/Math", .code Lib.Math.min.name Lib.Math.min.code 2 (some .int)] ++ wsX70)
def wsX7_readNumber : List Cond := .code yX7_readNumber cX7_readNumber 3 (some .boolean) :: ([.fieldLink RX7 31 "ArcOrder$Text" "token" "C", .fieldLink RX7 53 "ArcOrder$Text" "value" "I", .methodLink RX7 28 yX7_nextToken, .instanceMethod yX7_nextToken, .selects RX7 yX7_nextToken yX7_nextToken, .initialized RX7, .code yX7_nextToken cX7_nextToken 3 none, .fieldLink RX7 25 "ArcOrder$Text" "tokenEnd" "I", .fieldLink RX7 39 "ArcOrder$Text" "tokenStart" "I", .fieldLink RX7 15 "ArcOrder$Text" "length" "I", .fieldLink RX7 9 "ArcOrder$Text" "letters" "[I", .methodLink RX7 66 yX7_isDigit, .instanceMethod yX7_isDigit, .selects RX7 yX7_isDigit yX7_isDigit, .code yX7_isDigit cX7_isDigit 2 (some .boolean), .methodLink RX7 70 yX7_readDigits, .instanceMethod yX7_readDigits, .selects RX7 yX7_readDigits yX7_readDigits, .code yX7_readDigits cX7_readDigits 2 none, .methodLink RX7 73 Lib.Math.min.name, .static Lib.Math.min.name, .initialized "java/lang/Math", .code Lib.Math.min.name Lib.Math.min.code 2 (some .int)] ++ wsX70)
def wsX7_readItems_r1 : List Cond := [Cond.fieldLink RX7 53 "ArcOrder$Text" "value" "I", Cond.methodLink RX7 49 yX7_readNumber, Cond.instanceMethod yX7_readNumber, Cond.selects RX7 yX7_readNumber yX7_readNumber, Cond.initialized RX7, Cond.code yX7_readNumber cX7_readNumber 3 (some .boolean), Cond.fieldLink RX7 31 "ArcOrder$Text" "token" "C", Cond.methodLink RX7 28 yX7_nextToken, Cond.instanceMethod yX7_nextToken, Cond.selects RX7 yX7_nextToken yX7_nextToken, Cond.code yX7_nextToken cX7_nextToken 3 none, Cond.fieldLink RX7 25 "ArcOrder$Text" "tokenEnd" "I", Cond.fieldLink RX7 39 "ArcOrder$Text" "tokenStart" "I", Cond.fieldLink RX7 15 "ArcOrder$Text" "length" "I", Cond.fieldLink RX7 9 "ArcOrder$Text" "letters" "[I", Cond.methodLink RX7 66 yX7_isDigit, Cond.instanceMethod yX7_isDigit, Cond.selects RX7 yX7_isDigit yX7_isDigit, Cond.code yX7_isDigit cX7_isDigit 2 (some .boolean), Cond.methodLink RX7 70 yX7_readDigits, Cond.instanceMethod yX7_readDigits, Cond.selects RX7 yX7_readDigits yX7_readDigits, Cond.code yX7_readDigits cX7_readDigits 2 none, Cond.methodLink RX7 73 Lib.Math.min.name]
def wsX7_readItems_r2 : List Cond := [Cond.static Lib.Math.min.name, Cond.initialized "java/lang/Math", Cond.code Lib.Math.min.name Lib.Math.min.code 2 (some .int), Cond.methodLink RX7 19 yX3_begin, Cond.instanceMethod yX3_begin, Cond.selects RX3 yX3_begin yX3_begin, Cond.initialized RX3, Cond.code yX3_begin cX3_begin 3 none, Cond.fieldLink RX3 31 "ArcOrder$Net" "items" "I", Cond.fieldLink RX3 35 "ArcOrder$Net" "arcs" "I", Cond.fieldLink RX3 9 "ArcOrder$Net" "out" "[I", Cond.fieldLink RX3 15 "ArcOrder$Net" "in" "[I", Cond.fieldLink RX3 18 "ArcOrder$Net" "order" "[I", Cond.fieldLink RX3 21 "ArcOrder$Net" "place" "[I"]
def wsX7_readItems : List Cond := .code yX7_readItems cX7_readItems 2 (some .boolean) :: ((wsX7_readItems_r1 ++ wsX7_readItems_r2) ++ wsX70 ++ wsX30)
def wsX7_readArc_r1 : List Cond := [Cond.fieldLink RX7 56 "ArcOrder$Net" "items" "I", Cond.fieldLink RX7 53 "ArcOrder$Text" "value" "I", Cond.methodLink RX7 49 yX7_readNumber, Cond.instanceMethod yX7_readNumber, Cond.selects RX7 yX7_readNumber yX7_readNumber, Cond.initialized RX7, Cond.code yX7_readNumber cX7_readNumber 3 (some .boolean), Cond.fieldLink RX7 31 "ArcOrder$Text" "token" "C", Cond.methodLink RX7 28 yX7_nextToken, Cond.instanceMethod yX7_nextToken, Cond.selects RX7 yX7_nextToken yX7_nextToken, Cond.code yX7_nextToken cX7_nextToken 3 none, Cond.fieldLink RX7 25 "ArcOrder$Text" "tokenEnd" "I", Cond.fieldLink RX7 39 "ArcOrder$Text" "tokenStart" "I", Cond.fieldLink RX7 15 "ArcOrder$Text" "length" "I", Cond.fieldLink RX7 9 "ArcOrder$Text" "letters" "[I", Cond.methodLink RX7 66 yX7_isDigit, Cond.instanceMethod yX7_isDigit, Cond.selects RX7 yX7_isDigit yX7_isDigit, Cond.code yX7_isDigit cX7_isDigit 2 (some .boolean), Cond.methodLink RX7 70 yX7_readDigits, Cond.instanceMethod yX7_readDigits, Cond.selects RX7 yX7_readDigits yX7_readDigits, Cond.code yX7_readDigits cX7_readDigits 2 none]
def wsX7_readArc_r2 : List Cond := [Cond.methodLink RX7 73 Lib.Math.min.name, Cond.static Lib.Math.min.name, Cond.initialized "java/lang/Math", Cond.code Lib.Math.min.name Lib.Math.min.code 2 (some .int), Cond.methodLink RX7 59 yX3_canTake, Cond.instanceMethod yX3_canTake, Cond.selects RX3 yX3_canTake yX3_canTake, Cond.initialized RX3, Cond.code yX3_canTake cX3_canTake 3 (some .boolean), Cond.methodLink RX3 52 yX3_isPair, Cond.instanceMethod yX3_isPair, Cond.selects RX3 yX3_isPair yX3_isPair, Cond.code yX3_isPair cX3_isPair 3 (some .boolean), Cond.methodLink RX3 44 yX3_isItem, Cond.instanceMethod yX3_isItem, Cond.selects RX3 yX3_isItem yX3_isItem, Cond.code yX3_isItem cX3_isItem 2 (some .boolean), Cond.fieldLink RX3 31 "ArcOrder$Net" "items" "I", Cond.methodLink RX3 55 yX3_has, Cond.instanceMethod yX3_has, Cond.selects RX3 yX3_has yX3_has, Cond.code yX3_has cX3_has 3 (some .boolean), Cond.fieldLink RX3 9 "ArcOrder$Net" "out" "[I", Cond.static yX8_holdsBit]
def wsX7_readArc_r3 : List Cond := [Cond.initialized RX8, Cond.code yX8_holdsBit cX8_holdsBit 2 (some .boolean), Cond.methodLink RX3 58 yX3_closesRing, Cond.instanceMethod yX3_closesRing, Cond.selects RX3 yX3_closesRing yX3_closesRing, Cond.code yX3_closesRing cX3_closesRing 3 (some .boolean), Cond.fieldLink RX3 21 "ArcOrder$Net" "place" "[I", Cond.methodLink RX3 61 yX3_sweepOn, Cond.instanceMethod yX3_sweepOn, Cond.selects RX3 yX3_sweepOn yX3_sweepOn, Cond.code yX3_sweepOn cX3_sweepOn 6 (some .int), Cond.fieldLink RX3 18 "ArcOrder$Net" "order" "[I", Cond.fieldLink RX3 15 "ArcOrder$Net" "in" "[I", Cond.methodLink RX7 62 yX3_put, Cond.instanceMethod yX3_put, Cond.selects RX3 yX3_put yX3_put, Cond.code yX3_put cX3_put 5 (some .int), Cond.fieldLink RX3 35 "ArcOrder$Net" "arcs" "I", Cond.methodLink RX3 68 yX3_before, Cond.instanceMethod yX3_before, Cond.selects RX3 yX3_before yX3_before, Cond.code yX3_before cX3_before 3 (some .int), Cond.methodLink RX3 65 yX3_sweepBack, Cond.instanceMethod yX3_sweepBack]
def wsX7_readArc_r4 : List Cond := [Cond.selects RX3 yX3_sweepBack yX3_sweepBack, Cond.code yX3_sweepBack cX3_sweepBack 6 (some .int), Cond.methodLink RX3 71 yX3_after, Cond.instanceMethod yX3_after, Cond.selects RX3 yX3_after yX3_after, Cond.code yX3_after cX3_after 3 (some .int), Cond.methodLink RX3 74 yX3_rearrange, Cond.instanceMethod yX3_rearrange, Cond.selects RX3 yX3_rearrange yX3_rearrange, Cond.code yX3_rearrange cX3_rearrange 5 none, Cond.fieldLink RX3 24 "ArcOrder$Net" "movers" "[I", Cond.methodLink RX3 84 yX3_gather, Cond.instanceMethod yX3_gather, Cond.selects RX3 yX3_gather yX3_gather, Cond.code yX3_gather cX3_gather 5 (some .int), Cond.methodLink RX3 87 yX3_stand, Cond.instanceMethod yX3_stand, Cond.selects RX3 yX3_stand yX3_stand, Cond.code yX3_stand cX3_stand 3 none, Cond.methodLink RX3 78 yJ6_bitCount_0f7a4, Cond.static yJ6_bitCount_0f7a4, Cond.initialized RJ6, Cond.code yJ6_bitCount_0f7a4 cJ6_bitCount_0f7a4 1 (some .int), Cond.constant RJ6 265 (1431655765)]
def wsX7_readArc_r5 : List Cond := [Cond.constant RJ6 266 (858993459), Cond.constant RJ6 267 (252645135)]
def wsX7_readArc : List Cond := .code yX7_readArc cX7_readArc 3 (some .boolean) :: ((wsX7_readArc_r1 ++ (wsX7_readArc_r2 ++ (wsX7_readArc_r3 ++ (wsX7_readArc_r4 ++ wsX7_readArc_r5)))) ++ wsX30 ++ wsX70)
def wsX7_readEntry_r1 : List Cond := [Cond.fieldLink RX7 31 "ArcOrder$Text" "token" "C", Cond.methodLink RX7 42 yX7_readItems, Cond.instanceMethod yX7_readItems, Cond.selects RX7 yX7_readItems yX7_readItems, Cond.initialized RX7, Cond.code yX7_readItems cX7_readItems 2 (some .boolean), Cond.fieldLink RX7 53 "ArcOrder$Text" "value" "I", Cond.methodLink RX7 49 yX7_readNumber, Cond.instanceMethod yX7_readNumber, Cond.selects RX7 yX7_readNumber yX7_readNumber, Cond.code yX7_readNumber cX7_readNumber 3 (some .boolean), Cond.methodLink RX7 28 yX7_nextToken, Cond.instanceMethod yX7_nextToken, Cond.selects RX7 yX7_nextToken yX7_nextToken, Cond.code yX7_nextToken cX7_nextToken 3 none, Cond.fieldLink RX7 25 "ArcOrder$Text" "tokenEnd" "I", Cond.fieldLink RX7 39 "ArcOrder$Text" "tokenStart" "I", Cond.fieldLink RX7 15 "ArcOrder$Text" "length" "I", Cond.fieldLink RX7 9 "ArcOrder$Text" "letters" "[I", Cond.methodLink RX7 66 yX7_isDigit, Cond.instanceMethod yX7_isDigit, Cond.selects RX7 yX7_isDigit yX7_isDigit, Cond.code yX7_isDigit cX7_isDigit 2 (some .boolean), Cond.methodLink RX7 70 yX7_readDigits]
def wsX7_readEntry_r2 : List Cond := [Cond.instanceMethod yX7_readDigits, Cond.selects RX7 yX7_readDigits yX7_readDigits, Cond.code yX7_readDigits cX7_readDigits 2 none, Cond.methodLink RX7 73 Lib.Math.min.name, Cond.static Lib.Math.min.name, Cond.initialized "java/lang/Math", Cond.code Lib.Math.min.name Lib.Math.min.code 2 (some .int), Cond.methodLink RX7 19 yX3_begin, Cond.instanceMethod yX3_begin, Cond.selects RX3 yX3_begin yX3_begin, Cond.initialized RX3, Cond.code yX3_begin cX3_begin 3 none, Cond.fieldLink RX3 31 "ArcOrder$Net" "items" "I", Cond.fieldLink RX3 35 "ArcOrder$Net" "arcs" "I", Cond.fieldLink RX3 9 "ArcOrder$Net" "out" "[I", Cond.fieldLink RX3 15 "ArcOrder$Net" "in" "[I", Cond.fieldLink RX3 18 "ArcOrder$Net" "order" "[I", Cond.fieldLink RX3 21 "ArcOrder$Net" "place" "[I", Cond.methodLink RX7 46 yX7_readArc, Cond.instanceMethod yX7_readArc, Cond.selects RX7 yX7_readArc yX7_readArc, Cond.code yX7_readArc cX7_readArc 3 (some .boolean), Cond.fieldLink RX7 56 "ArcOrder$Net" "items" "I", Cond.methodLink RX7 59 yX3_canTake]
def wsX7_readEntry_r3 : List Cond := [Cond.instanceMethod yX3_canTake, Cond.selects RX3 yX3_canTake yX3_canTake, Cond.code yX3_canTake cX3_canTake 3 (some .boolean), Cond.methodLink RX3 52 yX3_isPair, Cond.instanceMethod yX3_isPair, Cond.selects RX3 yX3_isPair yX3_isPair, Cond.code yX3_isPair cX3_isPair 3 (some .boolean), Cond.methodLink RX3 44 yX3_isItem, Cond.instanceMethod yX3_isItem, Cond.selects RX3 yX3_isItem yX3_isItem, Cond.code yX3_isItem cX3_isItem 2 (some .boolean), Cond.methodLink RX3 55 yX3_has, Cond.instanceMethod yX3_has, Cond.selects RX3 yX3_has yX3_has, Cond.code yX3_has cX3_has 3 (some .boolean), Cond.static yX8_holdsBit, Cond.initialized RX8, Cond.code yX8_holdsBit cX8_holdsBit 2 (some .boolean), Cond.methodLink RX3 58 yX3_closesRing, Cond.instanceMethod yX3_closesRing, Cond.selects RX3 yX3_closesRing yX3_closesRing, Cond.code yX3_closesRing cX3_closesRing 3 (some .boolean), Cond.methodLink RX3 61 yX3_sweepOn, Cond.instanceMethod yX3_sweepOn]
def wsX7_readEntry_r4 : List Cond := [Cond.selects RX3 yX3_sweepOn yX3_sweepOn, Cond.code yX3_sweepOn cX3_sweepOn 6 (some .int), Cond.methodLink RX7 62 yX3_put, Cond.instanceMethod yX3_put, Cond.selects RX3 yX3_put yX3_put, Cond.code yX3_put cX3_put 5 (some .int), Cond.methodLink RX3 68 yX3_before, Cond.instanceMethod yX3_before, Cond.selects RX3 yX3_before yX3_before, Cond.code yX3_before cX3_before 3 (some .int), Cond.methodLink RX3 65 yX3_sweepBack, Cond.instanceMethod yX3_sweepBack, Cond.selects RX3 yX3_sweepBack yX3_sweepBack, Cond.code yX3_sweepBack cX3_sweepBack 6 (some .int), Cond.methodLink RX3 71 yX3_after, Cond.instanceMethod yX3_after, Cond.selects RX3 yX3_after yX3_after, Cond.code yX3_after cX3_after 3 (some .int), Cond.methodLink RX3 74 yX3_rearrange, Cond.instanceMethod yX3_rearrange, Cond.selects RX3 yX3_rearrange yX3_rearrange, Cond.code yX3_rearrange cX3_rearrange 5 none, Cond.fieldLink RX3 24 "ArcOrder$Net" "movers" "[I", Cond.methodLink RX3 84 yX3_gather]
def wsX7_readEntry_r5 : List Cond := [Cond.instanceMethod yX3_gather, Cond.selects RX3 yX3_gather yX3_gather, Cond.code yX3_gather cX3_gather 5 (some .int), Cond.methodLink RX3 87 yX3_stand, Cond.instanceMethod yX3_stand, Cond.selects RX3 yX3_stand yX3_stand, Cond.code yX3_stand cX3_stand 3 none, Cond.methodLink RX3 78 yJ6_bitCount_0f7a4, Cond.static yJ6_bitCount_0f7a4, Cond.initialized RJ6, Cond.code yJ6_bitCount_0f7a4 cJ6_bitCount_0f7a4 1 (some .int), Cond.constant RJ6 265 (1431655765), Cond.constant RJ6 266 (858993459), Cond.constant RJ6 267 (252645135)]
def wsX7_readEntry : List Cond := .code yX7_readEntry cX7_readEntry 4 (some .boolean) :: ((wsX7_readEntry_r1 ++ (wsX7_readEntry_r2 ++ (wsX7_readEntry_r3 ++ (wsX7_readEntry_r4 ++ wsX7_readEntry_r5)))) ++ wsX70 ++ wsX30)
def wsX7_readInto_r1 : List Cond := [Cond.fieldLink RX7 25 "ArcOrder$Text" "tokenEnd" "I", Cond.fieldLink RX7 31 "ArcOrder$Text" "token" "C", Cond.fieldLink RX7 39 "ArcOrder$Text" "tokenStart" "I", Cond.methodLink RX7 19 yX3_begin, Cond.instanceMethod yX3_begin, Cond.selects RX3 yX3_begin yX3_begin, Cond.initialized RX3, Cond.code yX3_begin cX3_begin 3 none, Cond.fieldLink RX3 31 "ArcOrder$Net" "items" "I", Cond.fieldLink RX3 35 "ArcOrder$Net" "arcs" "I", Cond.fieldLink RX3 9 "ArcOrder$Net" "out" "[I", Cond.fieldLink RX3 15 "ArcOrder$Net" "in" "[I", Cond.fieldLink RX3 18 "ArcOrder$Net" "order" "[I", Cond.fieldLink RX3 21 "ArcOrder$Net" "place" "[I", Cond.methodLink RX7 28 yX7_nextToken, Cond.instanceMethod yX7_nextToken, Cond.selects RX7 yX7_nextToken yX7_nextToken, Cond.initialized RX7, Cond.code yX7_nextToken cX7_nextToken 3 none, Cond.fieldLink RX7 15 "ArcOrder$Text" "length" "I", Cond.fieldLink RX7 9 "ArcOrder$Text" "letters" "[I", Cond.methodLink RX7 66 yX7_isDigit, Cond.instanceMethod yX7_isDigit, Cond.selects RX7 yX7_isDigit yX7_isDigit]
def wsX7_readInto_r2 : List Cond := [Cond.code yX7_isDigit cX7_isDigit 2 (some .boolean), Cond.methodLink RX7 70 yX7_readDigits, Cond.instanceMethod yX7_readDigits, Cond.selects RX7 yX7_readDigits yX7_readDigits, Cond.code yX7_readDigits cX7_readDigits 2 none, Cond.fieldLink RX7 53 "ArcOrder$Text" "value" "I", Cond.methodLink RX7 73 Lib.Math.min.name, Cond.static Lib.Math.min.name, Cond.initialized "java/lang/Math", Cond.code Lib.Math.min.name Lib.Math.min.code 2 (some .int), Cond.methodLink RX7 35 yX7_readEntry, Cond.instanceMethod yX7_readEntry, Cond.selects RX7 yX7_readEntry yX7_readEntry, Cond.code yX7_readEntry cX7_readEntry 4 (some .boolean), Cond.methodLink RX7 42 yX7_readItems, Cond.instanceMethod yX7_readItems, Cond.selects RX7 yX7_readItems yX7_readItems, Cond.code yX7_readItems cX7_readItems 2 (some .boolean), Cond.methodLink RX7 49 yX7_readNumber, Cond.instanceMethod yX7_readNumber, Cond.selects RX7 yX7_readNumber yX7_readNumber, Cond.code yX7_readNumber cX7_readNumber 3 (some .boolean), Cond.methodLink RX7 46 yX7_readArc, Cond.instanceMethod yX7_readArc]
def wsX7_readInto_r3 : List Cond := [Cond.selects RX7 yX7_readArc yX7_readArc, Cond.code yX7_readArc cX7_readArc 3 (some .boolean), Cond.fieldLink RX7 56 "ArcOrder$Net" "items" "I", Cond.methodLink RX7 59 yX3_canTake, Cond.instanceMethod yX3_canTake, Cond.selects RX3 yX3_canTake yX3_canTake, Cond.code yX3_canTake cX3_canTake 3 (some .boolean), Cond.methodLink RX3 52 yX3_isPair, Cond.instanceMethod yX3_isPair, Cond.selects RX3 yX3_isPair yX3_isPair, Cond.code yX3_isPair cX3_isPair 3 (some .boolean), Cond.methodLink RX3 44 yX3_isItem, Cond.instanceMethod yX3_isItem, Cond.selects RX3 yX3_isItem yX3_isItem, Cond.code yX3_isItem cX3_isItem 2 (some .boolean), Cond.methodLink RX3 55 yX3_has, Cond.instanceMethod yX3_has, Cond.selects RX3 yX3_has yX3_has, Cond.code yX3_has cX3_has 3 (some .boolean), Cond.static yX8_holdsBit, Cond.initialized RX8, Cond.code yX8_holdsBit cX8_holdsBit 2 (some .boolean), Cond.methodLink RX3 58 yX3_closesRing, Cond.instanceMethod yX3_closesRing]
def wsX7_readInto_r4 : List Cond := [Cond.selects RX3 yX3_closesRing yX3_closesRing, Cond.code yX3_closesRing cX3_closesRing 3 (some .boolean), Cond.methodLink RX3 61 yX3_sweepOn, Cond.instanceMethod yX3_sweepOn, Cond.selects RX3 yX3_sweepOn yX3_sweepOn, Cond.code yX3_sweepOn cX3_sweepOn 6 (some .int), Cond.methodLink RX7 62 yX3_put, Cond.instanceMethod yX3_put, Cond.selects RX3 yX3_put yX3_put, Cond.code yX3_put cX3_put 5 (some .int), Cond.methodLink RX3 68 yX3_before, Cond.instanceMethod yX3_before, Cond.selects RX3 yX3_before yX3_before, Cond.code yX3_before cX3_before 3 (some .int), Cond.methodLink RX3 65 yX3_sweepBack, Cond.instanceMethod yX3_sweepBack, Cond.selects RX3 yX3_sweepBack yX3_sweepBack, Cond.code yX3_sweepBack cX3_sweepBack 6 (some .int), Cond.methodLink RX3 71 yX3_after, Cond.instanceMethod yX3_after, Cond.selects RX3 yX3_after yX3_after, Cond.code yX3_after cX3_after 3 (some .int), Cond.methodLink RX3 74 yX3_rearrange, Cond.instanceMethod yX3_rearrange]
def wsX7_readInto_r5 : List Cond := [Cond.selects RX3 yX3_rearrange yX3_rearrange, Cond.code yX3_rearrange cX3_rearrange 5 none, Cond.fieldLink RX3 24 "ArcOrder$Net" "movers" "[I", Cond.methodLink RX3 84 yX3_gather, Cond.instanceMethod yX3_gather, Cond.selects RX3 yX3_gather yX3_gather, Cond.code yX3_gather cX3_gather 5 (some .int), Cond.methodLink RX3 87 yX3_stand, Cond.instanceMethod yX3_stand, Cond.selects RX3 yX3_stand yX3_stand, Cond.code yX3_stand cX3_stand 3 none, Cond.methodLink RX3 78 yJ6_bitCount_0f7a4, Cond.static yJ6_bitCount_0f7a4, Cond.initialized RJ6, Cond.code yJ6_bitCount_0f7a4 cJ6_bitCount_0f7a4 1 (some .int), Cond.constant RJ6 265 (1431655765), Cond.constant RJ6 266 (858993459), Cond.constant RJ6 267 (252645135)]
def wsX7_readInto : List Cond := .code yX7_readInto cX7_readInto 4 (some .int) :: ((wsX7_readInto_r1 ++ (wsX7_readInto_r2 ++ (wsX7_readInto_r3 ++ (wsX7_readInto_r4 ++ wsX7_readInto_r5)))) ++ wsX70 ++ wsX30)
def wsX8_init_r1 : List Cond := [Cond.methodLink RX8 1 objectInit, Cond.instanceMethod objectInit, Cond.code objectInit ⟨#[0xb1]⟩ 1 none, Cond.classLink RX8 7 RX3, Cond.instantiable RX3 7, Cond.initialized RX3, Cond.fieldLink RX8 10 "ArcOrder" "net" "LArcOrder$Net;", Cond.fieldLink RX8 16 "ArcOrder" "aside" "LArcOrder$Net;", Cond.classLink RX8 19 RX7, Cond.instantiable RX7 6, Cond.initialized RX7, Cond.fieldLink RX8 22 "ArcOrder" "text" "LArcOrder$Text;", Cond.classLink RX8 26 RX0, Cond.instantiable RX0 3, Cond.initialized RX0, Cond.fieldLink RX8 29 "ArcOrder" "list" "LArcOrder$ArcList;", Cond.classLink RX8 33 RX4, Cond.instantiable RX4 2, Cond.initialized RX4, Cond.fieldLink RX8 36 "ArcOrder" "past" "LArcOrder$Past;", Cond.classLink RX8 40 RX2, Cond.instantiable RX2 3, Cond.initialized RX2, Cond.fieldLink RX8 43 "ArcOrder" "ring" "LArcOrder$Lap;"]
def wsX8_init_r2 : List Cond := [Cond.classLink RX8 47 RX5, Cond.instantiable RX5 6, Cond.initialized RX5, Cond.fieldLink RX8 50 "ArcOrder" "sight" "LArcOrder$Sight;", Cond.classLink RX8 54 RX6, Cond.instantiable RX6 3, Cond.initialized RX6, Cond.fieldLink RX8 57 "ArcOrder" "tally" "LArcOrder$Tally;", Cond.classLink RX8 61 RX1, Cond.instantiable RX1 1, Cond.initialized RX1, Cond.fieldLink RX8 64 "ArcOrder" "calendar" "LArcOrder$Calendar;", Cond.fieldLink RX8 68 "ArcOrder" "images" "[LArcOrder$Net;", Cond.arrayClass .boolean, Cond.fieldLink RX8 72 "ArcOrder" "imageKept" "[Z", Cond.methodLink RX8 9 yX3_init, Cond.instanceMethod yX3_init, Cond.code yX3_init cX3_init 1 none, Cond.methodLink RX3 3 objectInit, Cond.arrayClass .int, Cond.fieldLink RX3 9 "ArcOrder$Net" "out" "[I", Cond.fieldLink RX3 15 "ArcOrder$Net" "in" "[I", Cond.fieldLink RX3 18 "ArcOrder$Net" "order" "[I", Cond.fieldLink RX3 21 "ArcOrder$Net" "place" "[I"]
def wsX8_init_r3 : List Cond := [Cond.fieldLink RX3 24 "ArcOrder$Net" "movers" "[I", Cond.methodLink RX3 27 yX3_begin, Cond.instanceMethod yX3_begin, Cond.selects RX3 yX3_begin yX3_begin, Cond.code yX3_begin cX3_begin 3 none, Cond.fieldLink RX3 31 "ArcOrder$Net" "items" "I", Cond.fieldLink RX3 35 "ArcOrder$Net" "arcs" "I", Cond.instanceMethod yX7_init, Cond.code yX7_init cX7_init 1 none, Cond.methodLink RX7 3 objectInit, Cond.fieldLink RX7 9 "ArcOrder$Text" "letters" "[I", Cond.instanceMethod yX0_init, Cond.code yX0_init cX0_init 1 none, Cond.methodLink RX0 3 objectInit, Cond.fieldLink RX0 9 "ArcOrder$ArcList" "from" "[I", Cond.fieldLink RX0 15 "ArcOrder$ArcList" "to" "[I", Cond.methodLink RX8 35 yX4_init, Cond.instanceMethod yX4_init, Cond.code yX4_init cX4_init 2 none, Cond.methodLink RX4 3 objectInit, Cond.classLink RX4 9 RX3, Cond.fieldLink RX4 11 "ArcOrder$Past" "nets" "[LArcOrder$Net;", Cond.methodLink RX4 17 yX3_init, Cond.instanceMethod yX2_init]
def wsX8_init_r4 : List Cond := [Cond.code yX2_init cX2_init 1 none, Cond.methodLink RX2 3 objectInit, Cond.fieldLink RX2 9 "ArcOrder$Lap" "items" "[I", Cond.fieldLink RX2 15 "ArcOrder$Lap" "steps" "[I", Cond.instanceMethod yX5_init, Cond.code yX5_init cX5_init 1 none, Cond.methodLink RX5 3 objectInit, Cond.fieldLink RX5 9 "ArcOrder$Sight" "movers" "[I", Cond.instanceMethod yX6_init, Cond.code yX6_init cX6_init 1 none, Cond.methodLink RX6 3 objectInit, Cond.arrayClass .long, Cond.fieldLink RX6 9 "ArcOrder$Tally" "ways" "[J", Cond.classLink RX6 15 RX3, Cond.fieldLink RX6 18 "ArcOrder$Tally" "counted" "LArcOrder$Net;", Cond.methodLink RX6 17 yX3_init, Cond.instanceMethod yX1_init, Cond.code yX1_init cX1_init 1 none, Cond.methodLink RX1 3 objectInit, Cond.fieldLink RX1 9 "ArcOrder$Calendar" "fewest" "[I"]
def wsX8_init : List Cond := .code yX8_init cX8_init 2 none :: ((wsX8_init_r1 ++ (wsX8_init_r2 ++ (wsX8_init_r3 ++ wsX8_init_r4))) ++ wsX30 ++ wsX80 ++ wsX70 ++ wsX00 ++ wsX40 ++ wsX20 ++ wsX50 ++ wsX60 ++ wsX10)
def wsX8_type : List Cond := .code yX8_type cX8_type 2 (some .int) :: ([.fieldLink RX8 22 "ArcOrder" "text" "LArcOrder$Text;", .fieldLink RX8 80 "ArcOrder$Text" "length" "I", .methodLink RX8 76 yX7_append, .instanceMethod yX7_append, .selects RX7 yX7_append yX7_append, .initialized RX7, .code yX7_append cX7_append 2 (some .boolean), .fieldLink RX7 15 "ArcOrder$Text" "length" "I", .fieldLink RX7 9 "ArcOrder$Text" "letters" "[I"] ++ wsX80 ++ wsX70)
def wsX8_clear : List Cond := .code yX8_clear cX8_clear 2 (some .int) :: ([.fieldLink RX8 22 "ArcOrder" "text" "LArcOrder$Text;", .fieldLink RX8 80 "ArcOrder$Text" "length" "I"] ++ wsX80 ++ wsX70)
def wsX8_store_r1 : List Cond := [Cond.fieldLink RX8 22 "ArcOrder" "text" "LArcOrder$Text;", Cond.fieldLink RX8 16 "ArcOrder" "aside" "LArcOrder$Net;", Cond.fieldLink RX8 10 "ArcOrder" "net" "LArcOrder$Net;", Cond.fieldLink RX8 80 "ArcOrder$Text" "length" "I", Cond.fieldLink RX8 29 "ArcOrder" "list" "LArcOrder$ArcList;", Cond.fieldLink RX8 92 "ArcOrder$ArcList" "size" "I", Cond.fieldLink RX8 36 "ArcOrder" "past" "LArcOrder$Past;", Cond.fieldLink RX8 95 "ArcOrder$Past" "size" "I", Cond.fieldLink RX8 50 "ArcOrder" "sight" "LArcOrder$Sight;", Cond.fieldLink RX8 72 "ArcOrder" "imageKept" "[Z", Cond.methodLink RX8 84 yX7_readInto, Cond.instanceMethod yX7_readInto, Cond.selects RX7 yX7_readInto yX7_readInto, Cond.initialized RX7, Cond.code yX7_readInto cX7_readInto 4 (some .int), Cond.fieldLink RX7 25 "ArcOrder$Text" "tokenEnd" "I", Cond.fieldLink RX7 31 "ArcOrder$Text" "token" "C", Cond.fieldLink RX7 39 "ArcOrder$Text" "tokenStart" "I", Cond.methodLink RX7 19 yX3_begin, Cond.instanceMethod yX3_begin, Cond.selects RX3 yX3_begin yX3_begin, Cond.initialized RX3, Cond.code yX3_begin cX3_begin 3 none, Cond.fieldLink RX3 31 "ArcOrder$Net" "items" "I"]
def wsX8_store_r2 : List Cond := [Cond.fieldLink RX3 35 "ArcOrder$Net" "arcs" "I", Cond.fieldLink RX3 9 "ArcOrder$Net" "out" "[I", Cond.fieldLink RX3 15 "ArcOrder$Net" "in" "[I", Cond.fieldLink RX3 18 "ArcOrder$Net" "order" "[I", Cond.fieldLink RX3 21 "ArcOrder$Net" "place" "[I", Cond.methodLink RX7 28 yX7_nextToken, Cond.instanceMethod yX7_nextToken, Cond.selects RX7 yX7_nextToken yX7_nextToken, Cond.code yX7_nextToken cX7_nextToken 3 none, Cond.fieldLink RX7 15 "ArcOrder$Text" "length" "I", Cond.fieldLink RX7 9 "ArcOrder$Text" "letters" "[I", Cond.methodLink RX7 66 yX7_isDigit, Cond.instanceMethod yX7_isDigit, Cond.selects RX7 yX7_isDigit yX7_isDigit, Cond.code yX7_isDigit cX7_isDigit 2 (some .boolean), Cond.methodLink RX7 70 yX7_readDigits, Cond.instanceMethod yX7_readDigits, Cond.selects RX7 yX7_readDigits yX7_readDigits, Cond.code yX7_readDigits cX7_readDigits 2 none, Cond.fieldLink RX7 53 "ArcOrder$Text" "value" "I", Cond.methodLink RX7 73 Lib.Math.min.name, Cond.static Lib.Math.min.name, Cond.initialized "java/lang/Math", Cond.code Lib.Math.min.name Lib.Math.min.code 2 (some .int)]
def wsX8_store_r3 : List Cond := [Cond.methodLink RX7 35 yX7_readEntry, Cond.instanceMethod yX7_readEntry, Cond.selects RX7 yX7_readEntry yX7_readEntry, Cond.code yX7_readEntry cX7_readEntry 4 (some .boolean), Cond.methodLink RX7 42 yX7_readItems, Cond.instanceMethod yX7_readItems, Cond.selects RX7 yX7_readItems yX7_readItems, Cond.code yX7_readItems cX7_readItems 2 (some .boolean), Cond.methodLink RX7 49 yX7_readNumber, Cond.instanceMethod yX7_readNumber, Cond.selects RX7 yX7_readNumber yX7_readNumber, Cond.code yX7_readNumber cX7_readNumber 3 (some .boolean), Cond.methodLink RX7 46 yX7_readArc, Cond.instanceMethod yX7_readArc, Cond.selects RX7 yX7_readArc yX7_readArc, Cond.code yX7_readArc cX7_readArc 3 (some .boolean), Cond.fieldLink RX7 56 "ArcOrder$Net" "items" "I", Cond.methodLink RX7 59 yX3_canTake, Cond.instanceMethod yX3_canTake, Cond.selects RX3 yX3_canTake yX3_canTake, Cond.code yX3_canTake cX3_canTake 3 (some .boolean), Cond.methodLink RX3 52 yX3_isPair, Cond.instanceMethod yX3_isPair, Cond.selects RX3 yX3_isPair yX3_isPair]
def wsX8_store_r4 : List Cond := [Cond.code yX3_isPair cX3_isPair 3 (some .boolean), Cond.methodLink RX3 44 yX3_isItem, Cond.instanceMethod yX3_isItem, Cond.selects RX3 yX3_isItem yX3_isItem, Cond.code yX3_isItem cX3_isItem 2 (some .boolean), Cond.methodLink RX3 55 yX3_has, Cond.instanceMethod yX3_has, Cond.selects RX3 yX3_has yX3_has, Cond.code yX3_has cX3_has 3 (some .boolean), Cond.static yX8_holdsBit, Cond.initialized RX8, Cond.code yX8_holdsBit cX8_holdsBit 2 (some .boolean), Cond.methodLink RX3 58 yX3_closesRing, Cond.instanceMethod yX3_closesRing, Cond.selects RX3 yX3_closesRing yX3_closesRing, Cond.code yX3_closesRing cX3_closesRing 3 (some .boolean), Cond.methodLink RX3 61 yX3_sweepOn, Cond.instanceMethod yX3_sweepOn, Cond.selects RX3 yX3_sweepOn yX3_sweepOn, Cond.code yX3_sweepOn cX3_sweepOn 6 (some .int), Cond.methodLink RX7 62 yX3_put, Cond.instanceMethod yX3_put, Cond.selects RX3 yX3_put yX3_put, Cond.code yX3_put cX3_put 5 (some .int)]
def wsX8_store_r5 : List Cond := [Cond.methodLink RX3 68 yX3_before, Cond.instanceMethod yX3_before, Cond.selects RX3 yX3_before yX3_before, Cond.code yX3_before cX3_before 3 (some .int), Cond.methodLink RX3 65 yX3_sweepBack, Cond.instanceMethod yX3_sweepBack, Cond.selects RX3 yX3_sweepBack yX3_sweepBack, Cond.code yX3_sweepBack cX3_sweepBack 6 (some .int), Cond.methodLink RX3 71 yX3_after, Cond.instanceMethod yX3_after, Cond.selects RX3 yX3_after yX3_after, Cond.code yX3_after cX3_after 3 (some .int), Cond.methodLink RX3 74 yX3_rearrange, Cond.instanceMethod yX3_rearrange, Cond.selects RX3 yX3_rearrange yX3_rearrange, Cond.code yX3_rearrange cX3_rearrange 5 none, Cond.fieldLink RX3 24 "ArcOrder$Net" "movers" "[I", Cond.methodLink RX3 84 yX3_gather, Cond.instanceMethod yX3_gather, Cond.selects RX3 yX3_gather yX3_gather, Cond.code yX3_gather cX3_gather 5 (some .int), Cond.methodLink RX3 87 yX3_stand, Cond.instanceMethod yX3_stand, Cond.selects RX3 yX3_stand yX3_stand]
def wsX8_store_r6 : List Cond := [Cond.code yX3_stand cX3_stand 3 none, Cond.methodLink RX3 78 yJ6_bitCount_0f7a4, Cond.static yJ6_bitCount_0f7a4, Cond.initialized RJ6, Cond.code yJ6_bitCount_0f7a4 cJ6_bitCount_0f7a4 1 (some .int), Cond.constant RJ6 265 (1431655765), Cond.constant RJ6 266 (858993459), Cond.constant RJ6 267 (252645135), Cond.methodLink RX8 88 yX3_copyOf, Cond.instanceMethod yX3_copyOf, Cond.selects RX3 yX3_copyOf yX3_copyOf, Cond.code yX3_copyOf cX3_copyOf 2 none, Cond.methodLink RX3 38 arraycopyName, Cond.native arraycopyName, Cond.static arraycopyName, Cond.initialized "java/lang/System", Cond.methodLink RX8 96 yX5_empty, Cond.instanceMethod yX5_empty, Cond.selects RX5 yX5_empty yX5_empty, Cond.initialized RX5, Cond.code yX5_empty cX5_empty 1 none, Cond.fieldLink RX5 15 "ArcOrder$Sight" "size" "I", Cond.fieldLink RX5 19 "ArcOrder$Sight" "mustMove" "I", Cond.fieldLink RX5 22 "ArcOrder$Sight" "mustStay" "I"]
def wsX8_store : List Cond := .code yX8_store cX8_store 3 (some .int) :: ((wsX8_store_r1 ++ (wsX8_store_r2 ++ (wsX8_store_r3 ++ (wsX8_store_r4 ++ (wsX8_store_r5 ++ wsX8_store_r6))))) ++ wsX80 ++ wsX70 ++ wsX00 ++ wsX40 ++ wsX30 ++ wsX50)
def wsX8_item_r1 : List Cond := [Cond.fieldLink RX8 10 "ArcOrder" "net" "LArcOrder$Net;", Cond.fieldLink RX8 102 "ArcOrder$Net" "place" "[I", Cond.fieldLink RX8 106 "ArcOrder$Net" "out" "[I", Cond.fieldLink RX8 109 "ArcOrder$Net" "in" "[I", Cond.fieldLink RX8 121 "ArcOrder$Net" "items" "I", Cond.methodLink RX8 99 yX3_isItem, Cond.instanceMethod yX3_isItem, Cond.selects RX3 yX3_isItem yX3_isItem, Cond.initialized RX3, Cond.code yX3_isItem cX3_isItem 2 (some .boolean), Cond.fieldLink RX3 31 "ArcOrder$Net" "items" "I", Cond.methodLink RX8 112 yX3_allAheadOf, Cond.instanceMethod yX3_allAheadOf, Cond.selects RX3 yX3_allAheadOf yX3_allAheadOf, Cond.code yX3_allAheadOf cX3_allAheadOf 2 (some .int), Cond.methodLink RX3 65 yX3_sweepBack, Cond.instanceMethod yX3_sweepBack, Cond.selects RX3 yX3_sweepBack yX3_sweepBack, Cond.code yX3_sweepBack cX3_sweepBack 6 (some .int), Cond.fieldLink RX3 21 "ArcOrder$Net" "place" "[I", Cond.fieldLink RX3 18 "ArcOrder$Net" "order" "[I", Cond.fieldLink RX3 9 "ArcOrder$Net" "out" "[I", Cond.methodLink RX8 116 yJ6_bitCount_0f7a4, Cond.static yJ6_bitCount_0f7a4]
def wsX8_item_r2 : List Cond := [Cond.initialized RJ6, Cond.code yJ6_bitCount_0f7a4 cJ6_bitCount_0f7a4 1 (some .int), Cond.constant RJ6 265 (1431655765), Cond.constant RJ6 266 (858993459), Cond.constant RJ6 267 (252645135), Cond.methodLink RX8 124 yX3_allBehind, Cond.instanceMethod yX3_allBehind, Cond.selects RX3 yX3_allBehind yX3_allBehind, Cond.code yX3_allBehind cX3_allBehind 2 (some .int), Cond.methodLink RX3 61 yX3_sweepOn, Cond.instanceMethod yX3_sweepOn, Cond.selects RX3 yX3_sweepOn yX3_sweepOn, Cond.code yX3_sweepOn cX3_sweepOn 6 (some .int), Cond.fieldLink RX3 15 "ArcOrder$Net" "in" "[I"]
def wsX8_item : List Cond := .code yX8_item cX8_item 3 (some .int) :: ((wsX8_item_r1 ++ wsX8_item_r2) ++ wsX80 ++ wsX30)
def wsX8_at : List Cond := .code yX8_at cX8_at 2 (some .int) :: ([.fieldLink RX8 10 "ArcOrder" "net" "LArcOrder$Net;", .fieldLink RX8 127 "ArcOrder$Net" "order" "[I", .methodLink RX8 99 yX3_isItem, .instanceMethod yX3_isItem, .selects RX3 yX3_isItem yX3_isItem, .initialized RX3, .code yX3_isItem cX3_isItem 2 (some .boolean), .fieldLink RX3 31 "ArcOrder$Net" "items" "I"] ++ wsX80 ++ wsX30)
def wsX8_freeArcs_r1 : List Cond := [Cond.fieldLink RX8 10 "ArcOrder" "net" "LArcOrder$Net;", Cond.fieldLink RX8 121 "ArcOrder$Net" "items" "I", Cond.methodLink RX8 240 yX3_canTake, Cond.instanceMethod yX3_canTake, Cond.selects RX3 yX3_canTake yX3_canTake, Cond.initialized RX3, Cond.code yX3_canTake cX3_canTake 3 (some .boolean), Cond.methodLink RX3 52 yX3_isPair, Cond.instanceMethod yX3_isPair, Cond.selects RX3 yX3_isPair yX3_isPair, Cond.code yX3_isPair cX3_isPair 3 (some .boolean), Cond.methodLink RX3 44 yX3_isItem, Cond.instanceMethod yX3_isItem, Cond.selects RX3 yX3_isItem yX3_isItem, Cond.code yX3_isItem cX3_isItem 2 (some .boolean), Cond.fieldLink RX3 31 "ArcOrder$Net" "items" "I", Cond.methodLink RX3 55 yX3_has, Cond.instanceMethod yX3_has, Cond.selects RX3 yX3_has yX3_has, Cond.code yX3_has cX3_has 3 (some .boolean), Cond.fieldLink RX3 9 "ArcOrder$Net" "out" "[I", Cond.static yX8_holdsBit, Cond.initialized RX8, Cond.code yX8_holdsBit cX8_holdsBit 2 (some .boolean)]
def wsX8_freeArcs_r2 : List Cond := [Cond.methodLink RX3 58 yX3_closesRing, Cond.instanceMethod yX3_closesRing, Cond.selects RX3 yX3_closesRing yX3_closesRing, Cond.code yX3_closesRing cX3_closesRing 3 (some .boolean), Cond.fieldLink RX3 21 "ArcOrder$Net" "place" "[I", Cond.methodLink RX3 61 yX3_sweepOn, Cond.instanceMethod yX3_sweepOn, Cond.selects RX3 yX3_sweepOn yX3_sweepOn, Cond.code yX3_sweepOn cX3_sweepOn 6 (some .int), Cond.fieldLink RX3 18 "ArcOrder$Net" "order" "[I", Cond.fieldLink RX3 15 "ArcOrder$Net" "in" "[I", Cond.methodLink RX8 196 yX3_movedBy, Cond.instanceMethod yX3_movedBy, Cond.selects RX3 yX3_movedBy yX3_movedBy, Cond.code yX3_movedBy cX3_movedBy 3 (some .int), Cond.methodLink RX3 68 yX3_before, Cond.instanceMethod yX3_before, Cond.selects RX3 yX3_before yX3_before, Cond.code yX3_before cX3_before 3 (some .int), Cond.methodLink RX3 65 yX3_sweepBack, Cond.instanceMethod yX3_sweepBack, Cond.selects RX3 yX3_sweepBack yX3_sweepBack, Cond.code yX3_sweepBack cX3_sweepBack 6 (some .int), Cond.methodLink RX3 71 yX3_after]
def wsX8_freeArcs_r3 : List Cond := [Cond.instanceMethod yX3_after, Cond.selects RX3 yX3_after yX3_after, Cond.code yX3_after cX3_after 3 (some .int)]
def wsX8_freeArcs : List Cond := .code yX8_freeArcs cX8_freeArcs 4 (some .int) :: ((wsX8_freeArcs_r1 ++ (wsX8_freeArcs_r2 ++ wsX8_freeArcs_r3)) ++ wsX80 ++ wsX30)
def wsX8_arcMovingMost_r1 : List Cond := [Cond.fieldLink RX8 10 "ArcOrder" "net" "LArcOrder$Net;", Cond.fieldLink RX8 121 "ArcOrder$Net" "items" "I", Cond.methodLink RX8 240 yX3_canTake, Cond.instanceMethod yX3_canTake, Cond.selects RX3 yX3_canTake yX3_canTake, Cond.initialized RX3, Cond.code yX3_canTake cX3_canTake 3 (some .boolean), Cond.methodLink RX3 52 yX3_isPair, Cond.instanceMethod yX3_isPair, Cond.selects RX3 yX3_isPair yX3_isPair, Cond.code yX3_isPair cX3_isPair 3 (some .boolean), Cond.methodLink RX3 44 yX3_isItem, Cond.instanceMethod yX3_isItem, Cond.selects RX3 yX3_isItem yX3_isItem, Cond.code yX3_isItem cX3_isItem 2 (some .boolean), Cond.fieldLink RX3 31 "ArcOrder$Net" "items" "I", Cond.methodLink RX3 55 yX3_has, Cond.instanceMethod yX3_has, Cond.selects RX3 yX3_has yX3_has, Cond.code yX3_has cX3_has 3 (some .boolean), Cond.fieldLink RX3 9 "ArcOrder$Net" "out" "[I", Cond.static yX8_holdsBit, Cond.initialized RX8, Cond.code yX8_holdsBit cX8_holdsBit 2 (some .boolean)]
def wsX8_arcMovingMost_r2 : List Cond := [Cond.methodLink RX3 58 yX3_closesRing, Cond.instanceMethod yX3_closesRing, Cond.selects RX3 yX3_closesRing yX3_closesRing, Cond.code yX3_closesRing cX3_closesRing 3 (some .boolean), Cond.fieldLink RX3 21 "ArcOrder$Net" "place" "[I", Cond.methodLink RX3 61 yX3_sweepOn, Cond.instanceMethod yX3_sweepOn, Cond.selects RX3 yX3_sweepOn yX3_sweepOn, Cond.code yX3_sweepOn cX3_sweepOn 6 (some .int), Cond.fieldLink RX3 18 "ArcOrder$Net" "order" "[I", Cond.fieldLink RX3 15 "ArcOrder$Net" "in" "[I", Cond.methodLink RX8 196 yX3_movedBy, Cond.instanceMethod yX3_movedBy, Cond.selects RX3 yX3_movedBy yX3_movedBy, Cond.code yX3_movedBy cX3_movedBy 3 (some .int), Cond.methodLink RX3 68 yX3_before, Cond.instanceMethod yX3_before, Cond.selects RX3 yX3_before yX3_before, Cond.code yX3_before cX3_before 3 (some .int), Cond.methodLink RX3 65 yX3_sweepBack, Cond.instanceMethod yX3_sweepBack, Cond.selects RX3 yX3_sweepBack yX3_sweepBack, Cond.code yX3_sweepBack cX3_sweepBack 6 (some .int), Cond.methodLink RX3 71 yX3_after]
def wsX8_arcMovingMost_r3 : List Cond := [Cond.instanceMethod yX3_after, Cond.selects RX3 yX3_after yX3_after, Cond.code yX3_after cX3_after 3 (some .int), Cond.methodLink RX8 116 yJ6_bitCount_0f7a4, Cond.static yJ6_bitCount_0f7a4, Cond.initialized RJ6, Cond.code yJ6_bitCount_0f7a4 cJ6_bitCount_0f7a4 1 (some .int), Cond.constant RJ6 265 (1431655765), Cond.constant RJ6 266 (858993459), Cond.constant RJ6 267 (252645135), Cond.methodLink RX8 243 yX8_codeOf, Cond.static yX8_codeOf, Cond.code yX8_codeOf cX8_codeOf 2 (some .int)]
def wsX8_arcMovingMost : List Cond := .code yX8_arcMovingMost cX8_arcMovingMost 6 (some .int) :: ((wsX8_arcMovingMost_r1 ++ (wsX8_arcMovingMost_r2 ++ wsX8_arcMovingMost_r3)) ++ wsX80 ++ wsX30)
def wsX8_spareArcs : List Cond := .code yX8_spareArcs cX8_spareArcs 5 (some .int) :: ([.fieldLink RX8 10 "ArcOrder" "net" "LArcOrder$Net;", .fieldLink RX8 121 "ArcOrder$Net" "items" "I", .fieldLink RX8 109 "ArcOrder$Net" "in" "[I", .methodLink RX8 124 yX3_allBehind, .instanceMethod yX3_allBehind, .selects RX3 yX3_allBehind yX3_allBehind, .initialized RX3, .code yX3_allBehind cX3_allBehind 2 (some .int), .fieldLink RX3 31 "ArcOrder$Net" "items" "I", .methodLink RX3 61 yX3_sweepOn, .instanceMethod yX3_sweepOn, .selects RX3 yX3_sweepOn yX3_sweepOn, .code yX3_sweepOn cX3_sweepOn 6 (some .int), .fieldLink RX3 21 "ArcOrder$Net" "place" "[I", .fieldLink RX3 18 "ArcOrder$Net" "order" "[I", .fieldLink RX3 15 "ArcOrder$Net" "in" "[I", .methodLink RX8 150 yX3_has, .instanceMethod yX3_has, .selects RX3 yX3_has yX3_has, .code yX3_has cX3_has 3 (some .boolean), .fieldLink RX3 9 "ArcOrder$Net" "out" "[I", .static yX8_holdsBit, .initialized RX8, .code yX8_holdsBit cX8_holdsBit 2 (some .boolean)] ++ wsX80 ++ wsX30)
def wsX8_now_r1 : List Cond := [Cond.fieldLink RX8 10 "ArcOrder" "net" "LArcOrder$Net;", Cond.fieldLink RX8 130 "ArcOrder$Net" "arcs" "I", Cond.fieldLink RX8 36 "ArcOrder" "past" "LArcOrder$Past;", Cond.fieldLink RX8 95 "ArcOrder$Past" "size" "I", Cond.methodLink RX8 133 yX8_freeArcs, Cond.instanceMethod yX8_freeArcs, Cond.selects RX8 yX8_freeArcs yX8_freeArcs, Cond.initialized RX8, Cond.code yX8_freeArcs cX8_freeArcs 4 (some .int), Cond.fieldLink RX8 121 "ArcOrder$Net" "items" "I", Cond.methodLink RX8 240 yX3_canTake, Cond.instanceMethod yX3_canTake, Cond.selects RX3 yX3_canTake yX3_canTake, Cond.initialized RX3, Cond.code yX3_canTake cX3_canTake 3 (some .boolean), Cond.methodLink RX3 52 yX3_isPair, Cond.instanceMethod yX3_isPair, Cond.selects RX3 yX3_isPair yX3_isPair, Cond.code yX3_isPair cX3_isPair 3 (some .boolean), Cond.methodLink RX3 44 yX3_isItem, Cond.instanceMethod yX3_isItem, Cond.selects RX3 yX3_isItem yX3_isItem, Cond.code yX3_isItem cX3_isItem 2 (some .boolean), Cond.fieldLink RX3 31 "ArcOrder$Net" "items" "I"]
def wsX8_now_r2 : List Cond := [Cond.methodLink RX3 55 yX3_has, Cond.instanceMethod yX3_has, Cond.selects RX3 yX3_has yX3_has, Cond.code yX3_has cX3_has 3 (some .boolean), Cond.fieldLink RX3 9 "ArcOrder$Net" "out" "[I", Cond.static yX8_holdsBit, Cond.code yX8_holdsBit cX8_holdsBit 2 (some .boolean), Cond.methodLink RX3 58 yX3_closesRing, Cond.instanceMethod yX3_closesRing, Cond.selects RX3 yX3_closesRing yX3_closesRing, Cond.code yX3_closesRing cX3_closesRing 3 (some .boolean), Cond.fieldLink RX3 21 "ArcOrder$Net" "place" "[I", Cond.methodLink RX3 61 yX3_sweepOn, Cond.instanceMethod yX3_sweepOn, Cond.selects RX3 yX3_sweepOn yX3_sweepOn, Cond.code yX3_sweepOn cX3_sweepOn 6 (some .int), Cond.fieldLink RX3 18 "ArcOrder$Net" "order" "[I", Cond.fieldLink RX3 15 "ArcOrder$Net" "in" "[I", Cond.methodLink RX8 196 yX3_movedBy, Cond.instanceMethod yX3_movedBy, Cond.selects RX3 yX3_movedBy yX3_movedBy, Cond.code yX3_movedBy cX3_movedBy 3 (some .int), Cond.methodLink RX3 68 yX3_before, Cond.instanceMethod yX3_before]
def wsX8_now_r3 : List Cond := [Cond.selects RX3 yX3_before yX3_before, Cond.code yX3_before cX3_before 3 (some .int), Cond.methodLink RX3 65 yX3_sweepBack, Cond.instanceMethod yX3_sweepBack, Cond.selects RX3 yX3_sweepBack yX3_sweepBack, Cond.code yX3_sweepBack cX3_sweepBack 6 (some .int), Cond.methodLink RX3 71 yX3_after, Cond.instanceMethod yX3_after, Cond.selects RX3 yX3_after yX3_after, Cond.code yX3_after cX3_after 3 (some .int), Cond.methodLink RX8 137 yX8_arcMovingMost, Cond.instanceMethod yX8_arcMovingMost, Cond.selects RX8 yX8_arcMovingMost yX8_arcMovingMost, Cond.code yX8_arcMovingMost cX8_arcMovingMost 6 (some .int), Cond.methodLink RX8 116 yJ6_bitCount_0f7a4, Cond.static yJ6_bitCount_0f7a4, Cond.initialized RJ6, Cond.code yJ6_bitCount_0f7a4 cJ6_bitCount_0f7a4 1 (some .int), Cond.constant RJ6 265 (1431655765), Cond.constant RJ6 266 (858993459), Cond.constant RJ6 267 (252645135), Cond.methodLink RX8 243 yX8_codeOf, Cond.static yX8_codeOf, Cond.code yX8_codeOf cX8_codeOf 2 (some .int)]
def wsX8_now_r4 : List Cond := [Cond.methodLink RX8 140 yX3_longestChain, Cond.instanceMethod yX3_longestChain, Cond.selects RX3 yX3_longestChain yX3_longestChain, Cond.code yX3_longestChain cX3_longestChain 4 (some .int), Cond.methodLink RX3 93 yX3_everyItem, Cond.instanceMethod yX3_everyItem, Cond.selects RX3 yX3_everyItem yX3_everyItem, Cond.code yX3_everyItem cX3_everyItem 1 (some .int), Cond.methodLink RX3 97 yX3_allReady, Cond.instanceMethod yX3_allReady, Cond.selects RX3 yX3_allReady yX3_allReady, Cond.code yX3_allReady cX3_allReady 4 (some .int), Cond.methodLink RX3 90 yX3_isReady, Cond.instanceMethod yX3_isReady, Cond.selects RX3 yX3_isReady yX3_isReady, Cond.code yX3_isReady cX3_isReady 3 (some .boolean), Cond.methodLink RX8 143 yX8_spareArcs, Cond.instanceMethod yX8_spareArcs, Cond.selects RX8 yX8_spareArcs yX8_spareArcs, Cond.code yX8_spareArcs cX8_spareArcs 5 (some .int), Cond.fieldLink RX8 109 "ArcOrder$Net" "in" "[I", Cond.methodLink RX8 124 yX3_allBehind, Cond.instanceMethod yX3_allBehind, Cond.selects RX3 yX3_allBehind yX3_allBehind]
def wsX8_now_r5 : List Cond := [Cond.code yX3_allBehind cX3_allBehind 2 (some .int), Cond.methodLink RX8 150 yX3_has]
def wsX8_now : List Cond := .code yX8_now cX8_now 2 (some .int) :: ((wsX8_now_r1 ++ (wsX8_now_r2 ++ (wsX8_now_r3 ++ (wsX8_now_r4 ++ wsX8_now_r5)))) ++ wsX80 ++ wsX30 ++ wsX40)
def wsX8_puts_r1 : List Cond := [Cond.fieldLink RX8 10 "ArcOrder" "net" "LArcOrder$Net;", Cond.fieldLink RX8 43 "ArcOrder" "ring" "LArcOrder$Lap;", Cond.fieldLink RX8 36 "ArcOrder" "past" "LArcOrder$Past;", Cond.methodLink RX8 146 yX3_isPair, Cond.instanceMethod yX3_isPair, Cond.selects RX3 yX3_isPair yX3_isPair, Cond.initialized RX3, Cond.code yX3_isPair cX3_isPair 3 (some .boolean), Cond.methodLink RX3 44 yX3_isItem, Cond.instanceMethod yX3_isItem, Cond.selects RX3 yX3_isItem yX3_isItem, Cond.code yX3_isItem cX3_isItem 2 (some .boolean), Cond.fieldLink RX3 31 "ArcOrder$Net" "items" "I", Cond.methodLink RX8 150 yX3_has, Cond.instanceMethod yX3_has, Cond.selects RX3 yX3_has yX3_has, Cond.code yX3_has cX3_has 3 (some .boolean), Cond.fieldLink RX3 9 "ArcOrder$Net" "out" "[I", Cond.static yX8_holdsBit, Cond.initialized RX8, Cond.code yX8_holdsBit cX8_holdsBit 2 (some .boolean), Cond.methodLink RX8 153 yX3_closesRing, Cond.instanceMethod yX3_closesRing, Cond.selects RX3 yX3_closesRing yX3_closesRing]
def wsX8_puts_r2 : List Cond := [Cond.code yX3_closesRing cX3_closesRing 3 (some .boolean), Cond.fieldLink RX3 21 "ArcOrder$Net" "place" "[I", Cond.methodLink RX3 61 yX3_sweepOn, Cond.instanceMethod yX3_sweepOn, Cond.selects RX3 yX3_sweepOn yX3_sweepOn, Cond.code yX3_sweepOn cX3_sweepOn 6 (some .int), Cond.fieldLink RX3 18 "ArcOrder$Net" "order" "[I", Cond.fieldLink RX3 15 "ArcOrder$Net" "in" "[I", Cond.methodLink RX8 156 yX2_trace, Cond.instanceMethod yX2_trace, Cond.selects RX2 yX2_trace yX2_trace, Cond.initialized RX2, Cond.code yX2_trace cX2_trace 6 none, Cond.fieldLink RX2 9 "ArcOrder$Lap" "items" "[I", Cond.fieldLink RX2 22 "ArcOrder$Lap" "length" "I", Cond.fieldLink RX2 15 "ArcOrder$Lap" "steps" "[I", Cond.methodLink RX2 18 yX2_measure, Cond.instanceMethod yX2_measure, Cond.selects RX2 yX2_measure yX2_measure, Cond.code yX2_measure cX2_measure 6 none, Cond.fieldLink RX2 36 "ArcOrder$Net" "place" "[I", Cond.fieldLink RX2 41 "ArcOrder$Net" "order" "[I", Cond.fieldLink RX2 44 "ArcOrder$Net" "items" "I", Cond.methodLink RX2 50 Lib.Math.min.name]
def wsX8_puts_r3 : List Cond := [Cond.static Lib.Math.min.name, Cond.initialized "java/lang/Math", Cond.code Lib.Math.min.name Lib.Math.min.code 2 (some .int), Cond.methodLink RX2 30 yJ7_fill_53178, Cond.static yJ7_fill_53178, Cond.initialized RJ7, Cond.code yJ7_fill_53178 cJ7_fill_53178 4 none, Cond.methodLink RX2 46 yX3_has, Cond.methodLink RX2 26 yX2_lowestNext, Cond.instanceMethod yX2_lowestNext, Cond.selects RX2 yX2_lowestNext yX2_lowestNext, Cond.code yX2_lowestNext cX2_lowestNext 5 (some .int), Cond.methodLink RX8 160 yX4_push, Cond.instanceMethod yX4_push, Cond.selects RX4 yX4_push yX4_push, Cond.initialized RX4, Cond.code yX4_push cX4_push 2 none, Cond.fieldLink RX4 18 "ArcOrder$Past" "size" "I", Cond.fieldLink RX4 11 "ArcOrder$Past" "nets" "[LArcOrder$Net;", Cond.methodLink RX4 22 yX4_loseOldest, Cond.instanceMethod yX4_loseOldest, Cond.selects RX4 yX4_loseOldest yX4_loseOldest, Cond.code yX4_loseOldest cX4_loseOldest 3 none, Cond.methodLink RX4 25 yX3_copyOf]
def wsX8_puts_r4 : List Cond := [Cond.instanceMethod yX3_copyOf, Cond.selects RX3 yX3_copyOf yX3_copyOf, Cond.code yX3_copyOf cX3_copyOf 2 none, Cond.fieldLink RX3 35 "ArcOrder$Net" "arcs" "I", Cond.methodLink RX3 38 arraycopyName, Cond.native arraycopyName, Cond.static arraycopyName, Cond.initialized "java/lang/System", Cond.methodLink RX8 163 yX3_put, Cond.instanceMethod yX3_put, Cond.selects RX3 yX3_put yX3_put, Cond.code yX3_put cX3_put 5 (some .int), Cond.methodLink RX3 58 yX3_closesRing, Cond.methodLink RX3 68 yX3_before, Cond.instanceMethod yX3_before, Cond.selects RX3 yX3_before yX3_before, Cond.code yX3_before cX3_before 3 (some .int), Cond.methodLink RX3 65 yX3_sweepBack, Cond.instanceMethod yX3_sweepBack, Cond.selects RX3 yX3_sweepBack yX3_sweepBack, Cond.code yX3_sweepBack cX3_sweepBack 6 (some .int), Cond.methodLink RX3 71 yX3_after, Cond.instanceMethod yX3_after, Cond.selects RX3 yX3_after yX3_after]
def wsX8_puts_r5 : List Cond := [Cond.code yX3_after cX3_after 3 (some .int), Cond.methodLink RX3 74 yX3_rearrange, Cond.instanceMethod yX3_rearrange, Cond.selects RX3 yX3_rearrange yX3_rearrange, Cond.code yX3_rearrange cX3_rearrange 5 none, Cond.fieldLink RX3 24 "ArcOrder$Net" "movers" "[I", Cond.methodLink RX3 84 yX3_gather, Cond.instanceMethod yX3_gather, Cond.selects RX3 yX3_gather yX3_gather, Cond.code yX3_gather cX3_gather 5 (some .int), Cond.methodLink RX3 87 yX3_stand, Cond.instanceMethod yX3_stand, Cond.selects RX3 yX3_stand yX3_stand, Cond.code yX3_stand cX3_stand 3 none, Cond.methodLink RX3 78 yJ6_bitCount_0f7a4, Cond.static yJ6_bitCount_0f7a4, Cond.initialized RJ6, Cond.code yJ6_bitCount_0f7a4 cJ6_bitCount_0f7a4 1 (some .int), Cond.constant RJ6 265 (1431655765), Cond.constant RJ6 266 (858993459), Cond.constant RJ6 267 (252645135)]
def wsX8_puts : List Cond := .code yX8_puts cX8_puts 3 (some .int) :: ((wsX8_puts_r1 ++ (wsX8_puts_r2 ++ (wsX8_puts_r3 ++ (wsX8_puts_r4 ++ wsX8_puts_r5)))) ++ wsX80 ++ wsX30 ++ wsX20 ++ wsX40)
def wsX8_lists_r1 : List Cond := [Cond.fieldLink RX8 10 "ArcOrder" "net" "LArcOrder$Net;", Cond.fieldLink RX8 29 "ArcOrder" "list" "LArcOrder$ArcList;", Cond.fieldLink RX8 92 "ArcOrder$ArcList" "size" "I", Cond.methodLink RX8 146 yX3_isPair, Cond.instanceMethod yX3_isPair, Cond.selects RX3 yX3_isPair yX3_isPair, Cond.initialized RX3, Cond.code yX3_isPair cX3_isPair 3 (some .boolean), Cond.methodLink RX3 44 yX3_isItem, Cond.instanceMethod yX3_isItem, Cond.selects RX3 yX3_isItem yX3_isItem, Cond.code yX3_isItem cX3_isItem 2 (some .boolean), Cond.fieldLink RX3 31 "ArcOrder$Net" "items" "I", Cond.methodLink RX8 150 yX3_has, Cond.instanceMethod yX3_has, Cond.selects RX3 yX3_has yX3_has, Cond.code yX3_has cX3_has 3 (some .boolean), Cond.fieldLink RX3 9 "ArcOrder$Net" "out" "[I", Cond.static yX8_holdsBit, Cond.initialized RX8, Cond.code yX8_holdsBit cX8_holdsBit 2 (some .boolean), Cond.methodLink RX8 167 yX0_holds, Cond.instanceMethod yX0_holds, Cond.selects RX0 yX0_holds yX0_holds]
def wsX8_lists_r2 : List Cond := [Cond.initialized RX0, Cond.code yX0_holds cX0_holds 4 (some .boolean), Cond.fieldLink RX0 18 "ArcOrder$ArcList" "size" "I", Cond.fieldLink RX0 9 "ArcOrder$ArcList" "from" "[I", Cond.fieldLink RX0 15 "ArcOrder$ArcList" "to" "[I", Cond.methodLink RX8 170 yX0_append, Cond.instanceMethod yX0_append, Cond.selects RX0 yX0_append yX0_append, Cond.code yX0_append cX0_append 3 (some .boolean)]
def wsX8_lists : List Cond := .code yX8_lists cX8_lists 3 (some .int) :: ((wsX8_lists_r1 ++ wsX8_lists_r2) ++ wsX80 ++ wsX00 ++ wsX30)
def wsX8_putListed_r1 : List Cond := [Cond.fieldLink RX8 29 "ArcOrder" "list" "LArcOrder$ArcList;", Cond.fieldLink RX8 92 "ArcOrder$ArcList" "size" "I", Cond.fieldLink RX8 234 "ArcOrder$ArcList" "from" "[I", Cond.fieldLink RX8 237 "ArcOrder$ArcList" "to" "[I", Cond.fieldLink RX8 10 "ArcOrder" "net" "LArcOrder$Net;", Cond.fieldLink RX8 43 "ArcOrder" "ring" "LArcOrder$Lap;", Cond.methodLink RX8 153 yX3_closesRing, Cond.instanceMethod yX3_closesRing, Cond.selects RX3 yX3_closesRing yX3_closesRing, Cond.initialized RX3, Cond.code yX3_closesRing cX3_closesRing 3 (some .boolean), Cond.fieldLink RX3 21 "ArcOrder$Net" "place" "[I", Cond.methodLink RX3 61 yX3_sweepOn, Cond.instanceMethod yX3_sweepOn, Cond.selects RX3 yX3_sweepOn yX3_sweepOn, Cond.code yX3_sweepOn cX3_sweepOn 6 (some .int), Cond.fieldLink RX3 18 "ArcOrder$Net" "order" "[I", Cond.fieldLink RX3 15 "ArcOrder$Net" "in" "[I", Cond.static yX8_holdsBit, Cond.initialized RX8, Cond.code yX8_holdsBit cX8_holdsBit 2 (some .boolean), Cond.methodLink RX8 156 yX2_trace, Cond.instanceMethod yX2_trace, Cond.selects RX2 yX2_trace yX2_trace]
def wsX8_putListed_r2 : List Cond := [Cond.initialized RX2, Cond.code yX2_trace cX2_trace 6 none, Cond.fieldLink RX2 9 "ArcOrder$Lap" "items" "[I", Cond.fieldLink RX2 22 "ArcOrder$Lap" "length" "I", Cond.fieldLink RX2 15 "ArcOrder$Lap" "steps" "[I", Cond.methodLink RX2 18 yX2_measure, Cond.instanceMethod yX2_measure, Cond.selects RX2 yX2_measure yX2_measure, Cond.code yX2_measure cX2_measure 6 none, Cond.fieldLink RX2 36 "ArcOrder$Net" "place" "[I", Cond.fieldLink RX2 41 "ArcOrder$Net" "order" "[I", Cond.fieldLink RX2 44 "ArcOrder$Net" "items" "I", Cond.methodLink RX2 50 Lib.Math.min.name, Cond.static Lib.Math.min.name, Cond.initialized "java/lang/Math", Cond.code Lib.Math.min.name Lib.Math.min.code 2 (some .int), Cond.methodLink RX2 30 yJ7_fill_53178, Cond.static yJ7_fill_53178, Cond.initialized RJ7, Cond.code yJ7_fill_53178 cJ7_fill_53178 4 none, Cond.methodLink RX2 46 yX3_has, Cond.instanceMethod yX3_has, Cond.selects RX3 yX3_has yX3_has, Cond.code yX3_has cX3_has 3 (some .boolean)]
def wsX8_putListed_r3 : List Cond := [Cond.fieldLink RX3 9 "ArcOrder$Net" "out" "[I", Cond.methodLink RX2 26 yX2_lowestNext, Cond.instanceMethod yX2_lowestNext, Cond.selects RX2 yX2_lowestNext yX2_lowestNext, Cond.code yX2_lowestNext cX2_lowestNext 5 (some .int), Cond.methodLink RX8 163 yX3_put, Cond.instanceMethod yX3_put, Cond.selects RX3 yX3_put yX3_put, Cond.code yX3_put cX3_put 5 (some .int), Cond.fieldLink RX3 35 "ArcOrder$Net" "arcs" "I", Cond.methodLink RX3 58 yX3_closesRing, Cond.methodLink RX3 68 yX3_before, Cond.instanceMethod yX3_before, Cond.selects RX3 yX3_before yX3_before, Cond.code yX3_before cX3_before 3 (some .int), Cond.methodLink RX3 65 yX3_sweepBack, Cond.instanceMethod yX3_sweepBack, Cond.selects RX3 yX3_sweepBack yX3_sweepBack, Cond.code yX3_sweepBack cX3_sweepBack 6 (some .int), Cond.methodLink RX3 71 yX3_after, Cond.instanceMethod yX3_after, Cond.selects RX3 yX3_after yX3_after, Cond.code yX3_after cX3_after 3 (some .int), Cond.methodLink RX3 74 yX3_rearrange]
def wsX8_putListed_r4 : List Cond := [Cond.instanceMethod yX3_rearrange, Cond.selects RX3 yX3_rearrange yX3_rearrange, Cond.code yX3_rearrange cX3_rearrange 5 none, Cond.fieldLink RX3 31 "ArcOrder$Net" "items" "I", Cond.fieldLink RX3 24 "ArcOrder$Net" "movers" "[I", Cond.methodLink RX3 84 yX3_gather, Cond.instanceMethod yX3_gather, Cond.selects RX3 yX3_gather yX3_gather, Cond.code yX3_gather cX3_gather 5 (some .int), Cond.methodLink RX3 87 yX3_stand, Cond.instanceMethod yX3_stand, Cond.selects RX3 yX3_stand yX3_stand, Cond.code yX3_stand cX3_stand 3 none, Cond.methodLink RX3 78 yJ6_bitCount_0f7a4, Cond.static yJ6_bitCount_0f7a4, Cond.initialized RJ6, Cond.code yJ6_bitCount_0f7a4 cJ6_bitCount_0f7a4 1 (some .int), Cond.constant RJ6 265 (1431655765), Cond.constant RJ6 266 (858993459), Cond.constant RJ6 267 (252645135)]
def wsX8_putListed : List Cond := .code yX8_putListed cX8_putListed 4 (some .boolean) :: ((wsX8_putListed_r1 ++ (wsX8_putListed_r2 ++ (wsX8_putListed_r3 ++ wsX8_putListed_r4))) ++ wsX80 ++ wsX00 ++ wsX30 ++ wsX20)
def wsX8_adds_r1 : List Cond := [Cond.fieldLink RX8 29 "ArcOrder" "list" "LArcOrder$ArcList;", Cond.fieldLink RX8 92 "ArcOrder$ArcList" "size" "I", Cond.fieldLink RX8 10 "ArcOrder" "net" "LArcOrder$Net;", Cond.fieldLink RX8 16 "ArcOrder" "aside" "LArcOrder$Net;", Cond.fieldLink RX8 36 "ArcOrder" "past" "LArcOrder$Past;", Cond.methodLink RX8 172 yX0_isAnyIn, Cond.instanceMethod yX0_isAnyIn, Cond.selects RX0 yX0_isAnyIn yX0_isAnyIn, Cond.initialized RX0, Cond.code yX0_isAnyIn cX0_isAnyIn 3 (some .boolean), Cond.fieldLink RX0 18 "ArcOrder$ArcList" "size" "I", Cond.fieldLink RX0 9 "ArcOrder$ArcList" "from" "[I", Cond.fieldLink RX0 15 "ArcOrder$ArcList" "to" "[I", Cond.methodLink RX0 22 yX3_has, Cond.instanceMethod yX3_has, Cond.selects RX3 yX3_has yX3_has, Cond.initialized RX3, Cond.code yX3_has cX3_has 3 (some .boolean), Cond.fieldLink RX3 9 "ArcOrder$Net" "out" "[I", Cond.static yX8_holdsBit, Cond.initialized RX8, Cond.code yX8_holdsBit cX8_holdsBit 2 (some .boolean), Cond.methodLink RX8 88 yX3_copyOf, Cond.instanceMethod yX3_copyOf]
def wsX8_adds_r2 : List Cond := [Cond.selects RX3 yX3_copyOf yX3_copyOf, Cond.code yX3_copyOf cX3_copyOf 2 none, Cond.fieldLink RX3 31 "ArcOrder$Net" "items" "I", Cond.fieldLink RX3 35 "ArcOrder$Net" "arcs" "I", Cond.methodLink RX3 38 arraycopyName, Cond.native arraycopyName, Cond.static arraycopyName, Cond.initialized "java/lang/System", Cond.fieldLink RX3 15 "ArcOrder$Net" "in" "[I", Cond.fieldLink RX3 18 "ArcOrder$Net" "order" "[I", Cond.fieldLink RX3 21 "ArcOrder$Net" "place" "[I", Cond.methodLink RX8 176 yX8_putListed, Cond.instanceMethod yX8_putListed, Cond.selects RX8 yX8_putListed yX8_putListed, Cond.code yX8_putListed cX8_putListed 4 (some .boolean), Cond.fieldLink RX8 234 "ArcOrder$ArcList" "from" "[I", Cond.fieldLink RX8 237 "ArcOrder$ArcList" "to" "[I", Cond.fieldLink RX8 43 "ArcOrder" "ring" "LArcOrder$Lap;", Cond.methodLink RX8 153 yX3_closesRing, Cond.instanceMethod yX3_closesRing, Cond.selects RX3 yX3_closesRing yX3_closesRing, Cond.code yX3_closesRing cX3_closesRing 3 (some .boolean), Cond.methodLink RX3 61 yX3_sweepOn, Cond.instanceMethod yX3_sweepOn]
def wsX8_adds_r3 : List Cond := [Cond.selects RX3 yX3_sweepOn yX3_sweepOn, Cond.code yX3_sweepOn cX3_sweepOn 6 (some .int), Cond.methodLink RX8 156 yX2_trace, Cond.instanceMethod yX2_trace, Cond.selects RX2 yX2_trace yX2_trace, Cond.initialized RX2, Cond.code yX2_trace cX2_trace 6 none, Cond.fieldLink RX2 9 "ArcOrder$Lap" "items" "[I", Cond.fieldLink RX2 22 "ArcOrder$Lap" "length" "I", Cond.fieldLink RX2 15 "ArcOrder$Lap" "steps" "[I", Cond.methodLink RX2 18 yX2_measure, Cond.instanceMethod yX2_measure, Cond.selects RX2 yX2_measure yX2_measure, Cond.code yX2_measure cX2_measure 6 none, Cond.fieldLink RX2 36 "ArcOrder$Net" "place" "[I", Cond.fieldLink RX2 41 "ArcOrder$Net" "order" "[I", Cond.fieldLink RX2 44 "ArcOrder$Net" "items" "I", Cond.methodLink RX2 50 Lib.Math.min.name, Cond.static Lib.Math.min.name, Cond.initialized "java/lang/Math", Cond.code Lib.Math.min.name Lib.Math.min.code 2 (some .int), Cond.methodLink RX2 30 yJ7_fill_53178, Cond.static yJ7_fill_53178, Cond.initialized RJ7]
def wsX8_adds_r4 : List Cond := [Cond.code yJ7_fill_53178 cJ7_fill_53178 4 none, Cond.methodLink RX2 46 yX3_has, Cond.methodLink RX2 26 yX2_lowestNext, Cond.instanceMethod yX2_lowestNext, Cond.selects RX2 yX2_lowestNext yX2_lowestNext, Cond.code yX2_lowestNext cX2_lowestNext 5 (some .int), Cond.methodLink RX8 163 yX3_put, Cond.instanceMethod yX3_put, Cond.selects RX3 yX3_put yX3_put, Cond.code yX3_put cX3_put 5 (some .int), Cond.methodLink RX3 58 yX3_closesRing, Cond.methodLink RX3 68 yX3_before, Cond.instanceMethod yX3_before, Cond.selects RX3 yX3_before yX3_before, Cond.code yX3_before cX3_before 3 (some .int), Cond.methodLink RX3 65 yX3_sweepBack, Cond.instanceMethod yX3_sweepBack, Cond.selects RX3 yX3_sweepBack yX3_sweepBack, Cond.code yX3_sweepBack cX3_sweepBack 6 (some .int), Cond.methodLink RX3 71 yX3_after, Cond.instanceMethod yX3_after, Cond.selects RX3 yX3_after yX3_after, Cond.code yX3_after cX3_after 3 (some .int), Cond.methodLink RX3 74 yX3_rearrange]
def wsX8_adds_r5 : List Cond := [Cond.instanceMethod yX3_rearrange, Cond.selects RX3 yX3_rearrange yX3_rearrange, Cond.code yX3_rearrange cX3_rearrange 5 none, Cond.fieldLink RX3 24 "ArcOrder$Net" "movers" "[I", Cond.methodLink RX3 84 yX3_gather, Cond.instanceMethod yX3_gather, Cond.selects RX3 yX3_gather yX3_gather, Cond.code yX3_gather cX3_gather 5 (some .int), Cond.methodLink RX3 87 yX3_stand, Cond.instanceMethod yX3_stand, Cond.selects RX3 yX3_stand yX3_stand, Cond.code yX3_stand cX3_stand 3 none, Cond.methodLink RX3 78 yJ6_bitCount_0f7a4, Cond.static yJ6_bitCount_0f7a4, Cond.initialized RJ6, Cond.code yJ6_bitCount_0f7a4 cJ6_bitCount_0f7a4 1 (some .int), Cond.constant RJ6 265 (1431655765), Cond.constant RJ6 266 (858993459), Cond.constant RJ6 267 (252645135), Cond.methodLink RX8 160 yX4_push, Cond.instanceMethod yX4_push, Cond.selects RX4 yX4_push yX4_push, Cond.initialized RX4, Cond.code yX4_push cX4_push 2 none]
def wsX8_adds_r6 : List Cond := [Cond.fieldLink RX4 18 "ArcOrder$Past" "size" "I", Cond.fieldLink RX4 11 "ArcOrder$Past" "nets" "[LArcOrder$Net;", Cond.methodLink RX4 22 yX4_loseOldest, Cond.instanceMethod yX4_loseOldest, Cond.selects RX4 yX4_loseOldest yX4_loseOldest, Cond.code yX4_loseOldest cX4_loseOldest 3 none, Cond.methodLink RX4 25 yX3_copyOf, Cond.methodLink RX8 180 yX3_placesUnlike, Cond.instanceMethod yX3_placesUnlike, Cond.selects RX3 yX3_placesUnlike yX3_placesUnlike, Cond.code yX3_placesUnlike cX3_placesUnlike 4 (some .int)]
def wsX8_adds : List Cond := .code yX8_adds cX8_adds 2 (some .int) :: ((wsX8_adds_r1 ++ (wsX8_adds_r2 ++ (wsX8_adds_r3 ++ (wsX8_adds_r4 ++ (wsX8_adds_r5 ++ wsX8_adds_r6))))) ++ wsX80 ++ wsX00 ++ wsX30 ++ wsX20 ++ wsX40)
def wsX8_cuts_r1 : List Cond := [Cond.fieldLink RX8 10 "ArcOrder" "net" "LArcOrder$Net;", Cond.fieldLink RX8 36 "ArcOrder" "past" "LArcOrder$Past;", Cond.fieldLink RX8 130 "ArcOrder$Net" "arcs" "I", Cond.methodLink RX8 146 yX3_isPair, Cond.instanceMethod yX3_isPair, Cond.selects RX3 yX3_isPair yX3_isPair, Cond.initialized RX3, Cond.code yX3_isPair cX3_isPair 3 (some .boolean), Cond.methodLink RX3 44 yX3_isItem, Cond.instanceMethod yX3_isItem, Cond.selects RX3 yX3_isItem yX3_isItem, Cond.code yX3_isItem cX3_isItem 2 (some .boolean), Cond.fieldLink RX3 31 "ArcOrder$Net" "items" "I", Cond.methodLink RX8 150 yX3_has, Cond.instanceMethod yX3_has, Cond.selects RX3 yX3_has yX3_has, Cond.code yX3_has cX3_has 3 (some .boolean), Cond.fieldLink RX3 9 "ArcOrder$Net" "out" "[I", Cond.static yX8_holdsBit, Cond.initialized RX8, Cond.code yX8_holdsBit cX8_holdsBit 2 (some .boolean), Cond.methodLink RX8 160 yX4_push, Cond.instanceMethod yX4_push, Cond.selects RX4 yX4_push yX4_push]
def wsX8_cuts_r2 : List Cond := [Cond.initialized RX4, Cond.code yX4_push cX4_push 2 none, Cond.fieldLink RX4 18 "ArcOrder$Past" "size" "I", Cond.fieldLink RX4 11 "ArcOrder$Past" "nets" "[LArcOrder$Net;", Cond.methodLink RX4 22 yX4_loseOldest, Cond.instanceMethod yX4_loseOldest, Cond.selects RX4 yX4_loseOldest yX4_loseOldest, Cond.code yX4_loseOldest cX4_loseOldest 3 none, Cond.methodLink RX4 25 yX3_copyOf, Cond.instanceMethod yX3_copyOf, Cond.selects RX3 yX3_copyOf yX3_copyOf, Cond.code yX3_copyOf cX3_copyOf 2 none, Cond.fieldLink RX3 35 "ArcOrder$Net" "arcs" "I", Cond.methodLink RX3 38 arraycopyName, Cond.native arraycopyName, Cond.static arraycopyName, Cond.initialized "java/lang/System", Cond.fieldLink RX3 15 "ArcOrder$Net" "in" "[I", Cond.fieldLink RX3 18 "ArcOrder$Net" "order" "[I", Cond.fieldLink RX3 21 "ArcOrder$Net" "place" "[I", Cond.methodLink RX8 183 yX3_part, Cond.instanceMethod yX3_part, Cond.selects RX3 yX3_part yX3_part, Cond.code yX3_part cX3_part 3 none]
def wsX8_cuts : List Cond := .code yX8_cuts cX8_cuts 3 (some .int) :: ((wsX8_cuts_r1 ++ wsX8_cuts_r2) ++ wsX80 ++ wsX30 ++ wsX40)
def wsX8_sorts_r1 : List Cond := [Cond.fieldLink RX8 36 "ArcOrder" "past" "LArcOrder$Past;", Cond.fieldLink RX8 10 "ArcOrder" "net" "LArcOrder$Net;", Cond.fieldLink RX8 16 "ArcOrder" "aside" "LArcOrder$Net;", Cond.methodLink RX8 160 yX4_push, Cond.instanceMethod yX4_push, Cond.selects RX4 yX4_push yX4_push, Cond.initialized RX4, Cond.code yX4_push cX4_push 2 none, Cond.fieldLink RX4 18 "ArcOrder$Past" "size" "I", Cond.fieldLink RX4 11 "ArcOrder$Past" "nets" "[LArcOrder$Net;", Cond.methodLink RX4 22 yX4_loseOldest, Cond.instanceMethod yX4_loseOldest, Cond.selects RX4 yX4_loseOldest yX4_loseOldest, Cond.code yX4_loseOldest cX4_loseOldest 3 none, Cond.methodLink RX4 25 yX3_copyOf, Cond.instanceMethod yX3_copyOf, Cond.selects RX3 yX3_copyOf yX3_copyOf, Cond.initialized RX3, Cond.code yX3_copyOf cX3_copyOf 2 none, Cond.fieldLink RX3 31 "ArcOrder$Net" "items" "I", Cond.fieldLink RX3 35 "ArcOrder$Net" "arcs" "I", Cond.fieldLink RX3 9 "ArcOrder$Net" "out" "[I", Cond.methodLink RX3 38 arraycopyName, Cond.native arraycopyName]
def wsX8_sorts_r2 : List Cond := [Cond.static arraycopyName, Cond.initialized "java/lang/System", Cond.fieldLink RX3 15 "ArcOrder$Net" "in" "[I", Cond.fieldLink RX3 18 "ArcOrder$Net" "order" "[I", Cond.fieldLink RX3 21 "ArcOrder$Net" "place" "[I", Cond.methodLink RX8 88 yX3_copyOf, Cond.methodLink RX8 187 yX3_sort, Cond.instanceMethod yX3_sort, Cond.selects RX3 yX3_sort yX3_sort, Cond.code yX3_sort cX3_sort 4 none, Cond.methodLink RX3 90 yX3_isReady, Cond.instanceMethod yX3_isReady, Cond.selects RX3 yX3_isReady yX3_isReady, Cond.code yX3_isReady cX3_isReady 3 (some .boolean), Cond.static yX8_holdsBit, Cond.initialized RX8, Cond.code yX8_holdsBit cX8_holdsBit 2 (some .boolean), Cond.methodLink RX3 87 yX3_stand, Cond.instanceMethod yX3_stand, Cond.selects RX3 yX3_stand yX3_stand, Cond.code yX3_stand cX3_stand 3 none, Cond.methodLink RX8 180 yX3_placesUnlike, Cond.instanceMethod yX3_placesUnlike, Cond.selects RX3 yX3_placesUnlike yX3_placesUnlike]
def wsX8_sorts_r3 : List Cond := [Cond.code yX3_placesUnlike cX3_placesUnlike 4 (some .int)]
def wsX8_sorts : List Cond := .code yX8_sorts cX8_sorts 1 (some .int) :: ((wsX8_sorts_r1 ++ (wsX8_sorts_r2 ++ wsX8_sorts_r3)) ++ wsX80 ++ wsX40 ++ wsX30)
def wsX8_undo_r1 : List Cond := [Cond.fieldLink RX8 36 "ArcOrder" "past" "LArcOrder$Past;", Cond.fieldLink RX8 10 "ArcOrder" "net" "LArcOrder$Net;", Cond.fieldLink RX8 95 "ArcOrder$Past" "size" "I", Cond.methodLink RX8 190 yX4_pop, Cond.instanceMethod yX4_pop, Cond.selects RX4 yX4_pop yX4_pop, Cond.initialized RX4, Cond.code yX4_pop cX4_pop 2 (some .boolean), Cond.fieldLink RX4 18 "ArcOrder$Past" "size" "I", Cond.fieldLink RX4 11 "ArcOrder$Past" "nets" "[LArcOrder$Net;", Cond.methodLink RX4 25 yX3_copyOf, Cond.instanceMethod yX3_copyOf, Cond.selects RX3 yX3_copyOf yX3_copyOf, Cond.initialized RX3, Cond.code yX3_copyOf cX3_copyOf 2 none, Cond.fieldLink RX3 31 "ArcOrder$Net" "items" "I", Cond.fieldLink RX3 35 "ArcOrder$Net" "arcs" "I", Cond.fieldLink RX3 9 "ArcOrder$Net" "out" "[I", Cond.methodLink RX3 38 arraycopyName, Cond.native arraycopyName, Cond.static arraycopyName, Cond.initialized "java/lang/System", Cond.fieldLink RX3 15 "ArcOrder$Net" "in" "[I", Cond.fieldLink RX3 18 "ArcOrder$Net" "order" "[I"]
def wsX8_undo_r2 : List Cond := [Cond.fieldLink RX3 21 "ArcOrder$Net" "place" "[I"]
def wsX8_undo : List Cond := .code yX8_undo cX8_undo 1 (some .int) :: ((wsX8_undo_r1 ++ wsX8_undo_r2) ++ wsX80 ++ wsX40 ++ wsX30)
def wsX8_lap : List Cond := .code yX8_lap cX8_lap 2 (some .int) :: ([.fieldLink RX8 43 "ArcOrder" "ring" "LArcOrder$Lap;", .fieldLink RX8 193 "ArcOrder$Lap" "length" "I", .fieldLink RX8 194 "ArcOrder$Lap" "items" "[I"] ++ wsX80 ++ wsX20)
def wsX8_arc_r1 : List Cond := [Cond.fieldLink RX8 10 "ArcOrder" "net" "LArcOrder$Net;", Cond.methodLink RX8 146 yX3_isPair, Cond.instanceMethod yX3_isPair, Cond.selects RX3 yX3_isPair yX3_isPair, Cond.initialized RX3, Cond.code yX3_isPair cX3_isPair 3 (some .boolean), Cond.methodLink RX3 44 yX3_isItem, Cond.instanceMethod yX3_isItem, Cond.selects RX3 yX3_isItem yX3_isItem, Cond.code yX3_isItem cX3_isItem 2 (some .boolean), Cond.fieldLink RX3 31 "ArcOrder$Net" "items" "I", Cond.methodLink RX8 150 yX3_has, Cond.instanceMethod yX3_has, Cond.selects RX3 yX3_has yX3_has, Cond.code yX3_has cX3_has 3 (some .boolean), Cond.fieldLink RX3 9 "ArcOrder$Net" "out" "[I", Cond.static yX8_holdsBit, Cond.initialized RX8, Cond.code yX8_holdsBit cX8_holdsBit 2 (some .boolean), Cond.methodLink RX8 196 yX3_movedBy, Cond.instanceMethod yX3_movedBy, Cond.selects RX3 yX3_movedBy yX3_movedBy, Cond.code yX3_movedBy cX3_movedBy 3 (some .int), Cond.methodLink RX3 58 yX3_closesRing]
def wsX8_arc_r2 : List Cond := [Cond.instanceMethod yX3_closesRing, Cond.selects RX3 yX3_closesRing yX3_closesRing, Cond.code yX3_closesRing cX3_closesRing 3 (some .boolean), Cond.fieldLink RX3 21 "ArcOrder$Net" "place" "[I", Cond.methodLink RX3 61 yX3_sweepOn, Cond.instanceMethod yX3_sweepOn, Cond.selects RX3 yX3_sweepOn yX3_sweepOn, Cond.code yX3_sweepOn cX3_sweepOn 6 (some .int), Cond.fieldLink RX3 18 "ArcOrder$Net" "order" "[I", Cond.fieldLink RX3 15 "ArcOrder$Net" "in" "[I", Cond.methodLink RX3 68 yX3_before, Cond.instanceMethod yX3_before, Cond.selects RX3 yX3_before yX3_before, Cond.code yX3_before cX3_before 3 (some .int), Cond.methodLink RX3 65 yX3_sweepBack, Cond.instanceMethod yX3_sweepBack, Cond.selects RX3 yX3_sweepBack yX3_sweepBack, Cond.code yX3_sweepBack cX3_sweepBack 6 (some .int), Cond.methodLink RX3 71 yX3_after, Cond.instanceMethod yX3_after, Cond.selects RX3 yX3_after yX3_after, Cond.code yX3_after cX3_after 3 (some .int), Cond.methodLink RX8 153 yX3_closesRing, Cond.methodLink RX8 199 yX3_before]
def wsX8_arc_r3 : List Cond := [Cond.methodLink RX8 202 yX3_after]
def wsX8_arc : List Cond := .code yX8_arc cX8_arc 4 (some .int) :: ((wsX8_arc_r1 ++ (wsX8_arc_r2 ++ wsX8_arc_r3)) ++ wsX80 ++ wsX30)
def wsX8_orders_r1 : List Cond := [Cond.fieldLink RX8 57 "ArcOrder" "tally" "LArcOrder$Tally;", Cond.fieldLink RX8 10 "ArcOrder" "net" "LArcOrder$Net;", Cond.methodLink RX8 205 yX6_all, Cond.instanceMethod yX6_all, Cond.selects RX6 yX6_all yX6_all, Cond.initialized RX6, Cond.code yX6_all cX6_all 2 (some .long), Cond.fieldLink RX6 9 "ArcOrder$Tally" "ways" "[J", Cond.methodLink RX6 50 yX6_prepare, Cond.instanceMethod yX6_prepare, Cond.selects RX6 yX6_prepare yX6_prepare, Cond.code yX6_prepare cX6_prepare 4 none, Cond.fieldLink RX6 22 "ArcOrder$Tally" "isCounted" "Z", Cond.fieldLink RX6 18 "ArcOrder$Tally" "counted" "LArcOrder$Net;", Cond.methodLink RX6 26 yX3_hasArcsOf, Cond.instanceMethod yX3_hasArcsOf, Cond.selects RX3 yX3_hasArcsOf yX3_hasArcsOf, Cond.initialized RX3, Cond.code yX3_hasArcsOf cX3_hasArcsOf 3 (some .boolean), Cond.fieldLink RX3 31 "ArcOrder$Net" "items" "I", Cond.fieldLink RX3 9 "ArcOrder$Net" "out" "[I", Cond.methodLink RX6 30 yX3_everyItem, Cond.instanceMethod yX3_everyItem, Cond.selects RX3 yX3_everyItem yX3_everyItem]
def wsX8_orders_r2 : List Cond := [Cond.code yX3_everyItem cX3_everyItem 1 (some .int), Cond.methodLink RX6 34 yX6_waysOn, Cond.instanceMethod yX6_waysOn, Cond.selects RX6 yX6_waysOn yX6_waysOn, Cond.code yX6_waysOn cX6_waysOn 6 (some .long), Cond.fieldLink RX6 42 "ArcOrder$Net" "items" "I", Cond.methodLink RX6 46 yX3_isReady, Cond.instanceMethod yX3_isReady, Cond.selects RX3 yX3_isReady yX3_isReady, Cond.code yX3_isReady cX3_isReady 3 (some .boolean), Cond.fieldLink RX3 15 "ArcOrder$Net" "in" "[I", Cond.static yX8_holdsBit, Cond.initialized RX8, Cond.code yX8_holdsBit cX8_holdsBit 2 (some .boolean), Cond.methodLink RX6 38 yX3_copyOf, Cond.instanceMethod yX3_copyOf, Cond.selects RX3 yX3_copyOf yX3_copyOf, Cond.code yX3_copyOf cX3_copyOf 2 none, Cond.fieldLink RX3 35 "ArcOrder$Net" "arcs" "I", Cond.methodLink RX3 38 arraycopyName, Cond.native arraycopyName, Cond.static arraycopyName, Cond.initialized "java/lang/System", Cond.fieldLink RX3 18 "ArcOrder$Net" "order" "[I"]
def wsX8_orders_r3 : List Cond := [Cond.fieldLink RX3 21 "ArcOrder$Net" "place" "[I"]
def wsX8_orders : List Cond := .code yX8_orders cX8_orders 1 (some .long) :: ((wsX8_orders_r1 ++ (wsX8_orders_r2 ++ wsX8_orders_r3)) ++ wsX80 ++ wsX60 ++ wsX30)
def wsX8_number_r1 : List Cond := [Cond.fieldLink RX8 57 "ArcOrder" "tally" "LArcOrder$Tally;", Cond.fieldLink RX8 10 "ArcOrder" "net" "LArcOrder$Net;", Cond.methodLink RX8 209 yX6_rank, Cond.instanceMethod yX6_rank, Cond.selects RX6 yX6_rank yX6_rank, Cond.initialized RX6, Cond.code yX6_rank cX6_rank 8 (some .long), Cond.fieldLink RX6 42 "ArcOrder$Net" "items" "I", Cond.fieldLink RX6 53 "ArcOrder$Net" "order" "[I", Cond.fieldLink RX6 9 "ArcOrder$Tally" "ways" "[J", Cond.methodLink RX6 50 yX6_prepare, Cond.instanceMethod yX6_prepare, Cond.selects RX6 yX6_prepare yX6_prepare, Cond.code yX6_prepare cX6_prepare 4 none, Cond.fieldLink RX6 22 "ArcOrder$Tally" "isCounted" "Z", Cond.fieldLink RX6 18 "ArcOrder$Tally" "counted" "LArcOrder$Net;", Cond.methodLink RX6 26 yX3_hasArcsOf, Cond.instanceMethod yX3_hasArcsOf, Cond.selects RX3 yX3_hasArcsOf yX3_hasArcsOf, Cond.initialized RX3, Cond.code yX3_hasArcsOf cX3_hasArcsOf 3 (some .boolean), Cond.fieldLink RX3 31 "ArcOrder$Net" "items" "I", Cond.fieldLink RX3 9 "ArcOrder$Net" "out" "[I", Cond.methodLink RX6 30 yX3_everyItem]
def wsX8_number_r2 : List Cond := [Cond.instanceMethod yX3_everyItem, Cond.selects RX3 yX3_everyItem yX3_everyItem, Cond.code yX3_everyItem cX3_everyItem 1 (some .int), Cond.methodLink RX6 34 yX6_waysOn, Cond.instanceMethod yX6_waysOn, Cond.selects RX6 yX6_waysOn yX6_waysOn, Cond.code yX6_waysOn cX6_waysOn 6 (some .long), Cond.methodLink RX6 46 yX3_isReady, Cond.instanceMethod yX3_isReady, Cond.selects RX3 yX3_isReady yX3_isReady, Cond.code yX3_isReady cX3_isReady 3 (some .boolean), Cond.fieldLink RX3 15 "ArcOrder$Net" "in" "[I", Cond.static yX8_holdsBit, Cond.initialized RX8, Cond.code yX8_holdsBit cX8_holdsBit 2 (some .boolean), Cond.methodLink RX6 38 yX3_copyOf, Cond.instanceMethod yX3_copyOf, Cond.selects RX3 yX3_copyOf yX3_copyOf, Cond.code yX3_copyOf cX3_copyOf 2 none, Cond.fieldLink RX3 35 "ArcOrder$Net" "arcs" "I", Cond.methodLink RX3 38 arraycopyName, Cond.native arraycopyName, Cond.static arraycopyName, Cond.initialized "java/lang/System"]
def wsX8_number_r3 : List Cond := [Cond.fieldLink RX3 18 "ArcOrder$Net" "order" "[I", Cond.fieldLink RX3 21 "ArcOrder$Net" "place" "[I"]
def wsX8_number : List Cond := .code yX8_number cX8_number 1 (some .long) :: ((wsX8_number_r1 ++ (wsX8_number_r2 ++ wsX8_number_r3)) ++ wsX80 ++ wsX30 ++ wsX60)
def wsX8_kth_r1 : List Cond := [Cond.fieldLink RX8 10 "ArcOrder" "net" "LArcOrder$Net;", Cond.fieldLink RX8 57 "ArcOrder" "tally" "LArcOrder$Tally;", Cond.methodLink RX8 99 yX3_isItem, Cond.instanceMethod yX3_isItem, Cond.selects RX3 yX3_isItem yX3_isItem, Cond.initialized RX3, Cond.code yX3_isItem cX3_isItem 2 (some .boolean), Cond.fieldLink RX3 31 "ArcOrder$Net" "items" "I", Cond.methodLink RX8 212 yX6_itemOf, Cond.instanceMethod yX6_itemOf, Cond.selects RX6 yX6_itemOf yX6_itemOf, Cond.initialized RX6, Cond.code yX6_itemOf cX6_itemOf 11 (some .int), Cond.fieldLink RX6 42 "ArcOrder$Net" "items" "I", Cond.fieldLink RX6 9 "ArcOrder$Tally" "ways" "[J", Cond.methodLink RX6 57 yX6_all, Cond.instanceMethod yX6_all, Cond.selects RX6 yX6_all yX6_all, Cond.code yX6_all cX6_all 2 (some .long), Cond.methodLink RX6 50 yX6_prepare, Cond.instanceMethod yX6_prepare, Cond.selects RX6 yX6_prepare yX6_prepare, Cond.code yX6_prepare cX6_prepare 4 none, Cond.fieldLink RX6 22 "ArcOrder$Tally" "isCounted" "Z"]
def wsX8_kth_r2 : List Cond := [Cond.fieldLink RX6 18 "ArcOrder$Tally" "counted" "LArcOrder$Net;", Cond.methodLink RX6 26 yX3_hasArcsOf, Cond.instanceMethod yX3_hasArcsOf, Cond.selects RX3 yX3_hasArcsOf yX3_hasArcsOf, Cond.code yX3_hasArcsOf cX3_hasArcsOf 3 (some .boolean), Cond.fieldLink RX3 9 "ArcOrder$Net" "out" "[I", Cond.methodLink RX6 30 yX3_everyItem, Cond.instanceMethod yX3_everyItem, Cond.selects RX3 yX3_everyItem yX3_everyItem, Cond.code yX3_everyItem cX3_everyItem 1 (some .int), Cond.methodLink RX6 34 yX6_waysOn, Cond.instanceMethod yX6_waysOn, Cond.selects RX6 yX6_waysOn yX6_waysOn, Cond.code yX6_waysOn cX6_waysOn 6 (some .long), Cond.methodLink RX6 46 yX3_isReady, Cond.instanceMethod yX3_isReady, Cond.selects RX3 yX3_isReady yX3_isReady, Cond.code yX3_isReady cX3_isReady 3 (some .boolean), Cond.fieldLink RX3 15 "ArcOrder$Net" "in" "[I", Cond.static yX8_holdsBit, Cond.initialized RX8, Cond.code yX8_holdsBit cX8_holdsBit 2 (some .boolean), Cond.methodLink RX6 38 yX3_copyOf, Cond.instanceMethod yX3_copyOf]
def wsX8_kth_r3 : List Cond := [Cond.selects RX3 yX3_copyOf yX3_copyOf, Cond.code yX3_copyOf cX3_copyOf 2 none, Cond.fieldLink RX3 35 "ArcOrder$Net" "arcs" "I", Cond.methodLink RX3 38 arraycopyName, Cond.native arraycopyName, Cond.static arraycopyName, Cond.initialized "java/lang/System", Cond.fieldLink RX3 18 "ArcOrder$Net" "order" "[I", Cond.fieldLink RX3 21 "ArcOrder$Net" "place" "[I"]
def wsX8_kth : List Cond := .code yX8_kth cX8_kth 4 (some .int) :: ((wsX8_kth_r1 ++ (wsX8_kth_r2 ++ wsX8_kth_r3)) ++ wsX80 ++ wsX30 ++ wsX60)
def wsX8_days_r1 : List Cond := [Cond.fieldLink RX8 64 "ArcOrder" "calendar" "LArcOrder$Calendar;", Cond.fieldLink RX8 10 "ArcOrder" "net" "LArcOrder$Net;", Cond.methodLink RX8 216 yX1_fewestDays, Cond.instanceMethod yX1_fewestDays, Cond.selects RX1 yX1_fewestDays yX1_fewestDays, Cond.initialized RX1, Cond.code yX1_fewestDays cX1_fewestDays 7 (some .int), Cond.fieldLink RX1 9 "ArcOrder$Calendar" "fewest" "[I", Cond.methodLink RX1 36 Lib.Math.min.name, Cond.static Lib.Math.min.name, Cond.initialized "java/lang/Math", Cond.code Lib.Math.min.name Lib.Math.min.code 2 (some .int), Cond.methodLink RX1 15 yJ7_fill_53178, Cond.static yJ7_fill_53178, Cond.initialized RJ7, Cond.code yJ7_fill_53178 cJ7_fill_53178 4 none, Cond.methodLink RX1 21 yX3_everyItem, Cond.instanceMethod yX3_everyItem, Cond.selects RX3 yX3_everyItem yX3_everyItem, Cond.initialized RX3, Cond.code yX3_everyItem cX3_everyItem 1 (some .int), Cond.fieldLink RX3 31 "ArcOrder$Net" "items" "I", Cond.methodLink RX1 27 yX3_allReady, Cond.instanceMethod yX3_allReady]
def wsX8_days_r2 : List Cond := [Cond.selects RX3 yX3_allReady yX3_allReady, Cond.code yX3_allReady cX3_allReady 4 (some .int), Cond.methodLink RX3 90 yX3_isReady, Cond.instanceMethod yX3_isReady, Cond.selects RX3 yX3_isReady yX3_isReady, Cond.code yX3_isReady cX3_isReady 3 (some .boolean), Cond.fieldLink RX3 15 "ArcOrder$Net" "in" "[I", Cond.static yX8_holdsBit, Cond.initialized RX8, Cond.code yX8_holdsBit cX8_holdsBit 2 (some .boolean), Cond.methodLink RX1 31 yJ6_bitCount_0f7a4, Cond.static yJ6_bitCount_0f7a4, Cond.initialized RJ6, Cond.code yJ6_bitCount_0f7a4 cJ6_bitCount_0f7a4 1 (some .int), Cond.constant RJ6 265 (1431655765), Cond.constant RJ6 266 (858993459), Cond.constant RJ6 267 (252645135), Cond.methodLink RX1 42 yX1_work, Cond.static yX1_work, Cond.code yX1_work cX1_work 7 none]
def wsX8_days : List Cond := .code yX8_days cX8_days 2 (some .int) :: ((wsX8_days_r1 ++ wsX8_days_r2) ++ wsX80 ++ wsX10 ++ wsX30)
def wsX8_sees : List Cond := .code yX8_sees cX8_sees 3 (some .int) :: ([.fieldLink RX8 10 "ArcOrder" "net" "LArcOrder$Net;", .fieldLink RX8 50 "ArcOrder" "sight" "LArcOrder$Sight;", .fieldLink RX8 221 "ArcOrder$Sight" "size" "I", .methodLink RX8 99 yX3_isItem, .instanceMethod yX3_isItem, .selects RX3 yX3_isItem yX3_isItem, .initialized RX3, .code yX3_isItem cX3_isItem 2 (some .boolean), .fieldLink RX3 31 "ArcOrder$Net" "items" "I", .methodLink RX8 220 yX5_append, .instanceMethod yX5_append, .selects RX5 yX5_append yX5_append, .initialized RX5, .code yX5_append cX5_append 3 (some .boolean), .fieldLink RX5 15 "ArcOrder$Sight" "size" "I", .fieldLink RX5 19 "ArcOrder$Sight" "mustMove" "I", .fieldLink RX5 22 "ArcOrder$Sight" "mustStay" "I"] ++ wsX80 ++ wsX50 ++ wsX30)
def wsX8_forget : List Cond := .code yX8_forget cX8_forget 2 (some .int) :: ([.fieldLink RX8 50 "ArcOrder" "sight" "LArcOrder$Sight;", .fieldLink RX8 221 "ArcOrder$Sight" "size" "I", .methodLink RX8 96 yX5_empty, .instanceMethod yX5_empty, .selects RX5 yX5_empty yX5_empty, .initialized RX5, .code yX5_empty cX5_empty 1 none, .fieldLink RX5 15 "ArcOrder$Sight" "size" "I", .fieldLink RX5 19 "ArcOrder$Sight" "mustMove" "I", .fieldLink RX5 22 "ArcOrder$Sight" "mustStay" "I"] ++ wsX80 ++ wsX50)
def wsX8_unseen_r1 : List Cond := [Cond.fieldLink RX8 50 "ArcOrder" "sight" "LArcOrder$Sight;", Cond.fieldLink RX8 10 "ArcOrder" "net" "LArcOrder$Net;", Cond.fieldLink RX8 225 "ArcOrder$Sight" "fitting" "I", Cond.fieldLink RX8 228 "ArcOrder$Sight" "first" "I", Cond.methodLink RX8 222 yX5_weigh, Cond.instanceMethod yX5_weigh, Cond.selects RX5 yX5_weigh yX5_weigh, Cond.initialized RX5, Cond.code yX5_weigh cX5_weigh 4 none, Cond.fieldLink RX5 25 "ArcOrder$Sight" "fitting" "I", Cond.fieldLink RX5 28 "ArcOrder$Sight" "first" "I", Cond.fieldLink RX5 9 "ArcOrder$Sight" "movers" "[I", Cond.fieldLink RX5 37 "ArcOrder$Net" "items" "I", Cond.methodLink RX5 31 yJ7_fill_53178, Cond.static yJ7_fill_53178, Cond.initialized RJ7, Cond.code yJ7_fill_53178 cJ7_fill_53178 4 none, Cond.methodLink RX5 42 yX3_canTake, Cond.instanceMethod yX3_canTake, Cond.selects RX3 yX3_canTake yX3_canTake, Cond.initialized RX3, Cond.code yX3_canTake cX3_canTake 3 (some .boolean), Cond.methodLink RX3 52 yX3_isPair, Cond.instanceMethod yX3_isPair]
def wsX8_unseen_r2 : List Cond := [Cond.selects RX3 yX3_isPair yX3_isPair, Cond.code yX3_isPair cX3_isPair 3 (some .boolean), Cond.methodLink RX3 44 yX3_isItem, Cond.instanceMethod yX3_isItem, Cond.selects RX3 yX3_isItem yX3_isItem, Cond.code yX3_isItem cX3_isItem 2 (some .boolean), Cond.fieldLink RX3 31 "ArcOrder$Net" "items" "I", Cond.methodLink RX3 55 yX3_has, Cond.instanceMethod yX3_has, Cond.selects RX3 yX3_has yX3_has, Cond.code yX3_has cX3_has 3 (some .boolean), Cond.fieldLink RX3 9 "ArcOrder$Net" "out" "[I", Cond.static yX8_holdsBit, Cond.initialized RX8, Cond.code yX8_holdsBit cX8_holdsBit 2 (some .boolean), Cond.methodLink RX3 58 yX3_closesRing, Cond.instanceMethod yX3_closesRing, Cond.selects RX3 yX3_closesRing yX3_closesRing, Cond.code yX3_closesRing cX3_closesRing 3 (some .boolean), Cond.fieldLink RX3 21 "ArcOrder$Net" "place" "[I", Cond.methodLink RX3 61 yX3_sweepOn, Cond.instanceMethod yX3_sweepOn, Cond.selects RX3 yX3_sweepOn yX3_sweepOn, Cond.code yX3_sweepOn cX3_sweepOn 6 (some .int)]
def wsX8_unseen_r3 : List Cond := [Cond.fieldLink RX3 18 "ArcOrder$Net" "order" "[I", Cond.fieldLink RX3 15 "ArcOrder$Net" "in" "[I", Cond.static yX8_codeOf, Cond.code yX8_codeOf cX8_codeOf 2 (some .int), Cond.methodLink RX5 50 yX3_movedBy, Cond.instanceMethod yX3_movedBy, Cond.selects RX3 yX3_movedBy yX3_movedBy, Cond.code yX3_movedBy cX3_movedBy 3 (some .int), Cond.methodLink RX3 68 yX3_before, Cond.instanceMethod yX3_before, Cond.selects RX3 yX3_before yX3_before, Cond.code yX3_before cX3_before 3 (some .int), Cond.methodLink RX3 65 yX3_sweepBack, Cond.instanceMethod yX3_sweepBack, Cond.selects RX3 yX3_sweepBack yX3_sweepBack, Cond.code yX3_sweepBack cX3_sweepBack 6 (some .int), Cond.methodLink RX3 71 yX3_after, Cond.instanceMethod yX3_after, Cond.selects RX3 yX3_after yX3_after, Cond.code yX3_after cX3_after 3 (some .int), Cond.methodLink RX5 53 yX5_takeIfFits, Cond.instanceMethod yX5_takeIfFits, Cond.selects RX5 yX5_takeIfFits yX5_takeIfFits, Cond.code yX5_takeIfFits cX5_takeIfFits 4 none]
def wsX8_unseen_r4 : List Cond := [Cond.fieldLink RX5 19 "ArcOrder$Sight" "mustMove" "I", Cond.fieldLink RX5 22 "ArcOrder$Sight" "mustStay" "I"]
def wsX8_unseen : List Cond := .code yX8_unseen cX8_unseen 2 (some .int) :: ((wsX8_unseen_r1 ++ (wsX8_unseen_r2 ++ (wsX8_unseen_r3 ++ wsX8_unseen_r4))) ++ wsX80 ++ wsX50 ++ wsX30)
def wsX8_look_r1 : List Cond := [Cond.fieldLink RX8 50 "ArcOrder" "sight" "LArcOrder$Sight;", Cond.fieldLink RX8 10 "ArcOrder" "net" "LArcOrder$Net;", Cond.methodLink RX8 222 yX5_weigh, Cond.instanceMethod yX5_weigh, Cond.selects RX5 yX5_weigh yX5_weigh, Cond.initialized RX5, Cond.code yX5_weigh cX5_weigh 4 none, Cond.fieldLink RX5 25 "ArcOrder$Sight" "fitting" "I", Cond.fieldLink RX5 28 "ArcOrder$Sight" "first" "I", Cond.fieldLink RX5 9 "ArcOrder$Sight" "movers" "[I", Cond.fieldLink RX5 37 "ArcOrder$Net" "items" "I", Cond.methodLink RX5 31 yJ7_fill_53178, Cond.static yJ7_fill_53178, Cond.initialized RJ7, Cond.code yJ7_fill_53178 cJ7_fill_53178 4 none, Cond.methodLink RX5 42 yX3_canTake, Cond.instanceMethod yX3_canTake, Cond.selects RX3 yX3_canTake yX3_canTake, Cond.initialized RX3, Cond.code yX3_canTake cX3_canTake 3 (some .boolean), Cond.methodLink RX3 52 yX3_isPair, Cond.instanceMethod yX3_isPair, Cond.selects RX3 yX3_isPair yX3_isPair, Cond.code yX3_isPair cX3_isPair 3 (some .boolean)]
def wsX8_look_r2 : List Cond := [Cond.methodLink RX3 44 yX3_isItem, Cond.instanceMethod yX3_isItem, Cond.selects RX3 yX3_isItem yX3_isItem, Cond.code yX3_isItem cX3_isItem 2 (some .boolean), Cond.fieldLink RX3 31 "ArcOrder$Net" "items" "I", Cond.methodLink RX3 55 yX3_has, Cond.instanceMethod yX3_has, Cond.selects RX3 yX3_has yX3_has, Cond.code yX3_has cX3_has 3 (some .boolean), Cond.fieldLink RX3 9 "ArcOrder$Net" "out" "[I", Cond.static yX8_holdsBit, Cond.initialized RX8, Cond.code yX8_holdsBit cX8_holdsBit 2 (some .boolean), Cond.methodLink RX3 58 yX3_closesRing, Cond.instanceMethod yX3_closesRing, Cond.selects RX3 yX3_closesRing yX3_closesRing, Cond.code yX3_closesRing cX3_closesRing 3 (some .boolean), Cond.fieldLink RX3 21 "ArcOrder$Net" "place" "[I", Cond.methodLink RX3 61 yX3_sweepOn, Cond.instanceMethod yX3_sweepOn, Cond.selects RX3 yX3_sweepOn yX3_sweepOn, Cond.code yX3_sweepOn cX3_sweepOn 6 (some .int), Cond.fieldLink RX3 18 "ArcOrder$Net" "order" "[I", Cond.fieldLink RX3 15 "ArcOrder$Net" "in" "[I"]
def wsX8_look_r3 : List Cond := [Cond.static yX8_codeOf, Cond.code yX8_codeOf cX8_codeOf 2 (some .int), Cond.methodLink RX5 50 yX3_movedBy, Cond.instanceMethod yX3_movedBy, Cond.selects RX3 yX3_movedBy yX3_movedBy, Cond.code yX3_movedBy cX3_movedBy 3 (some .int), Cond.methodLink RX3 68 yX3_before, Cond.instanceMethod yX3_before, Cond.selects RX3 yX3_before yX3_before, Cond.code yX3_before cX3_before 3 (some .int), Cond.methodLink RX3 65 yX3_sweepBack, Cond.instanceMethod yX3_sweepBack, Cond.selects RX3 yX3_sweepBack yX3_sweepBack, Cond.code yX3_sweepBack cX3_sweepBack 6 (some .int), Cond.methodLink RX3 71 yX3_after, Cond.instanceMethod yX3_after, Cond.selects RX3 yX3_after yX3_after, Cond.code yX3_after cX3_after 3 (some .int), Cond.methodLink RX5 53 yX5_takeIfFits, Cond.instanceMethod yX5_takeIfFits, Cond.selects RX5 yX5_takeIfFits yX5_takeIfFits, Cond.code yX5_takeIfFits cX5_takeIfFits 4 none, Cond.fieldLink RX5 19 "ArcOrder$Sight" "mustMove" "I", Cond.fieldLink RX5 22 "ArcOrder$Sight" "mustStay" "I"]
def wsX8_look_r4 : List Cond := [Cond.methodLink RX8 231 yX5_bestItem, Cond.instanceMethod yX5_bestItem, Cond.selects RX5 yX5_bestItem yX5_bestItem, Cond.code yX5_bestItem cX5_bestItem 6 (some .int), Cond.methodLink RX5 57 Lib.Math.max.name, Cond.static Lib.Math.max.name, Cond.initialized "java/lang/Math", Cond.code Lib.Math.max.name Lib.Math.max.code 2 (some .int)]
def wsX8_look : List Cond := .code yX8_look cX8_look 1 (some .int) :: ((wsX8_look_r1 ++ (wsX8_look_r2 ++ (wsX8_look_r3 ++ wsX8_look_r4))) ++ wsX80 ++ wsX50 ++ wsX30)
def wsX8_keep : List Cond := .code yX8_keep cX8_keep 2 (some .int) :: ([.fieldLink RX8 68 "ArcOrder" "images" "[LArcOrder$Net;", .fieldLink RX8 10 "ArcOrder" "net" "LArcOrder$Net;", .fieldLink RX8 72 "ArcOrder" "imageKept" "[Z", .fieldLink RX8 130 "ArcOrder$Net" "arcs" "I", .methodLink RX8 88 yX3_copyOf, .instanceMethod yX3_copyOf, .selects RX3 yX3_copyOf yX3_copyOf, .initialized RX3, .code yX3_copyOf cX3_copyOf 2 none, .fieldLink RX3 31 "ArcOrder$Net" "items" "I", .fieldLink RX3 35 "ArcOrder$Net" "arcs" "I", .fieldLink RX3 9 "ArcOrder$Net" "out" "[I", .methodLink RX3 38 arraycopyName, .native arraycopyName, .static arraycopyName, .initialized "java/lang/System", .fieldLink RX3 15 "ArcOrder$Net" "in" "[I", .fieldLink RX3 18 "ArcOrder$Net" "order" "[I", .fieldLink RX3 21 "ArcOrder$Net" "place" "[I"] ++ wsX80 ++ wsX30)
def wsX8_back : List Cond := .code yX8_back cX8_back 2 (some .int) :: ([.fieldLink RX8 72 "ArcOrder" "imageKept" "[Z", .fieldLink RX8 10 "ArcOrder" "net" "LArcOrder$Net;", .fieldLink RX8 68 "ArcOrder" "images" "[LArcOrder$Net;", .fieldLink RX8 36 "ArcOrder" "past" "LArcOrder$Past;", .fieldLink RX8 95 "ArcOrder$Past" "size" "I", .fieldLink RX8 130 "ArcOrder$Net" "arcs" "I", .methodLink RX8 88 yX3_copyOf, .instanceMethod yX3_copyOf, .selects RX3 yX3_copyOf yX3_copyOf, .initialized RX3, .code yX3_copyOf cX3_copyOf 2 none, .fieldLink RX3 31 "ArcOrder$Net" "items" "I", .fieldLink RX3 35 "ArcOrder$Net" "arcs" "I", .fieldLink RX3 9 "ArcOrder$Net" "out" "[I", .methodLink RX3 38 arraycopyName, .native arraycopyName, .static arraycopyName, .initialized "java/lang/System", .fieldLink RX3 15 "ArcOrder$Net" "in" "[I", .fieldLink RX3 18 "ArcOrder$Net" "order" "[I", .fieldLink RX3 21 "ArcOrder$Net" "place" "[I"] ++ wsX80 ++ wsX40 ++ wsX30)
def wsX8_count : List Cond := .code yX8_count cX8_count 2 (some .int) :: ([.fieldLink RX8 10 "ArcOrder" "net" "LArcOrder$Net;", .fieldLink RX8 121 "ArcOrder$Net" "items" "I", .fieldLink RX8 29 "ArcOrder" "list" "LArcOrder$ArcList;", .fieldLink RX8 92 "ArcOrder$ArcList" "size" "I", .fieldLink RX8 50 "ArcOrder" "sight" "LArcOrder$Sight;", .fieldLink RX8 221 "ArcOrder$Sight" "size" "I", .fieldLink RX8 22 "ArcOrder" "text" "LArcOrder$Text;", .fieldLink RX8 80 "ArcOrder$Text" "length" "I"] ++ wsX80 ++ wsX30 ++ wsX00 ++ wsX50 ++ wsX70)
def wsX9_begins : List Cond := .code yX9_begins cX9_begins 2 none :: ([.fieldLink RX9 112 "ArcOrderModel" "draftItems" "I", .fieldLink RX9 13 "ArcOrderModel" "draft" "[I"] ++ wsX90)
def wsX9_copies : List Cond := .code yX9_copies cX9_copies 3 none :: ([])
def wsX9_settles : List Cond := .code yX9_settles cX9_settles 1 none :: ([.fieldLink RX9 112 "ArcOrderModel" "draftItems" "I", .fieldLink RX9 145 "ArcOrderModel" "items" "I", .fieldLink RX9 13 "ArcOrderModel" "draft" "[I", .fieldLink RX9 16 "ArcOrderModel" "s" "[I", .fieldLink RX9 83 "ArcOrderModel" "typed" "I", .fieldLink RX9 152 "ArcOrderModel" "listed" "I", .fieldLink RX9 155 "ArcOrderModel" "seenMany" "I", .fieldLink RX9 158 "ArcOrderModel" "undoMany" "I", .fieldLink RX9 28 "ArcOrderModel" "isKept" "[Z", .methodLink RX9 148 yX9_copies, .static yX9_copies, .initialized RX9, .code yX9_copies cX9_copies 3 none] ++ wsX90)
def wsX9_init_r1 : List Cond := [Cond.methodLink RX9 1 objectInit, Cond.instanceMethod objectInit, Cond.code objectInit ⟨#[0xb1]⟩ 1 none, Cond.arrayClass .int, Cond.fieldLink RX9 7 "ArcOrderModel" "text" "[I", Cond.fieldLink RX9 13 "ArcOrderModel" "draft" "[I", Cond.fieldLink RX9 16 "ArcOrderModel" "s" "[I", Cond.fieldLink RX9 19 "ArcOrderModel" "w" "[I", Cond.fieldLink RX9 22 "ArcOrderModel" "was" "[I", Cond.fieldLink RX9 25 "ArcOrderModel" "kept" "[I", Cond.arrayClass .boolean, Cond.fieldLink RX9 28 "ArcOrderModel" "isKept" "[Z", Cond.fieldLink RX9 32 "ArcOrderModel" "undos" "[I", Cond.fieldLink RX9 35 "ArcOrderModel" "listFrom" "[I", Cond.fieldLink RX9 38 "ArcOrderModel" "listTo" "[I", Cond.fieldLink RX9 41 "ArcOrderModel" "ring" "[I", Cond.fieldLink RX9 44 "ArcOrderModel" "seenItem" "[I", Cond.fieldLink RX9 47 "ArcOrderModel" "seenMoved" "[I", Cond.fieldLink RX9 50 "ArcOrderModel" "far" "[I", Cond.arrayClass .long, Cond.fieldLink RX9 53 "ArcOrderModel" "ways" "[J", Cond.fieldLink RX9 57 "ArcOrderModel" "day" "[I", Cond.fieldLink RX9 60 "ArcOrderModel" "order" "[I", Cond.fieldLink RX9 63 "ArcOrderModel" "tried" "[I"]
def wsX9_init_r2 : List Cond := [Cond.fieldLink RX9 66 "ArcOrderModel" "movedIf" "[I", Cond.methodLink RX9 69 yX9_begins, Cond.instanceMethod yX9_begins, Cond.selects RX9 yX9_begins yX9_begins, Cond.initialized RX9, Cond.code yX9_begins cX9_begins 2 none, Cond.fieldLink RX9 112 "ArcOrderModel" "draftItems" "I", Cond.methodLink RX9 72 yX9_settles, Cond.instanceMethod yX9_settles, Cond.selects RX9 yX9_settles yX9_settles, Cond.code yX9_settles cX9_settles 1 none, Cond.fieldLink RX9 145 "ArcOrderModel" "items" "I", Cond.fieldLink RX9 83 "ArcOrderModel" "typed" "I", Cond.fieldLink RX9 152 "ArcOrderModel" "listed" "I", Cond.fieldLink RX9 155 "ArcOrderModel" "seenMany" "I", Cond.fieldLink RX9 158 "ArcOrderModel" "undoMany" "I", Cond.methodLink RX9 148 yX9_copies, Cond.static yX9_copies, Cond.code yX9_copies cX9_copies 3 none]
def wsX9_init : List Cond := .code yX9_init cX9_init 1 none :: ((wsX9_init_r1 ++ wsX9_init_r2) ++ wsX90)
def wsX9_in : List Cond := .code yX9_in cX9_in 3 (some .boolean) :: ([])
def wsX9_has : List Cond := .code yX9_has cX9_has 2 (some .boolean) :: ([])
def wsX9_ones : List Cond := .code yX9_ones cX9_ones 3 (some .int) :: ([])
def wsX9_type : List Cond := .code yX9_type cX9_type 2 (some .int) :: ([.fieldLink RX9 75 "ArcOrderModel" "thrown" "I", .fieldLink RX9 83 "ArcOrderModel" "typed" "I", .fieldLink RX9 7 "ArcOrderModel" "text" "[I", .methodLink RX9 79 yX9_in, .static yX9_in, .initialized RX9, .code yX9_in cX9_in 3 (some .boolean)] ++ wsX90)
def wsX9_clear : List Cond := .code yX9_clear cX9_clear 2 (some .int) :: ([.fieldLink RX9 75 "ArcOrderModel" "thrown" "I", .fieldLink RX9 83 "ArcOrderModel" "typed" "I"] ++ wsX90)
def wsX9_letterAt : List Cond := .code yX9_letterAt cX9_letterAt 2 (some .int) :: ([.fieldLink RX9 83 "ArcOrderModel" "typed" "I", .fieldLink RX9 7 "ArcOrderModel" "text" "[I"] ++ wsX90)
def wsX9_advances : List Cond := .code yX9_advances cX9_advances 2 none :: ([.fieldLink RX9 86 "ArcOrderModel" "spot" "I", .fieldLink RX9 93 "ArcOrderModel" "start" "I", .fieldLink RX9 96 "ArcOrderModel" "token" "I", .fieldLink RX9 99 "ArcOrderModel" "value" "I", .methodLink RX9 89 yX9_letterAt, .instanceMethod yX9_letterAt, .selects RX9 yX9_letterAt yX9_letterAt, .initialized RX9, .code yX9_letterAt cX9_letterAt 2 (some .int), .fieldLink RX9 83 "ArcOrderModel" "typed" "I", .fieldLink RX9 7 "ArcOrderModel" "text" "[I", .methodLink RX9 79 yX9_in, .static yX9_in, .code yX9_in cX9_in 3 (some .boolean)] ++ wsX90)
def wsX9_isWell : List Cond := .code yX9_isWell cX9_isWell 1 (some .boolean) :: ([.fieldLink RX9 102 "ArcOrderModel" "fault" "I"] ++ wsX90)
def wsX9_takes : List Cond := .code yX9_takes cX9_takes 3 (some .int) :: ([.fieldLink RX9 93 "ArcOrderModel" "start" "I", .fieldLink RX9 102 "ArcOrderModel" "fault" "I", .fieldLink RX9 99 "ArcOrderModel" "value" "I", .methodLink RX9 105 yX9_isWell, .instanceMethod yX9_isWell, .selects RX9 yX9_isWell yX9_isWell, .initialized RX9, .code yX9_isWell cX9_isWell 1 (some .boolean), .methodLink RX9 109 yX9_advances, .instanceMethod yX9_advances, .selects RX9 yX9_advances yX9_advances, .code yX9_advances cX9_advances 2 none, .fieldLink RX9 86 "ArcOrderModel" "spot" "I", .fieldLink RX9 96 "ArcOrderModel" "token" "I", .methodLink RX9 89 yX9_letterAt, .instanceMethod yX9_letterAt, .selects RX9 yX9_letterAt yX9_letterAt, .code yX9_letterAt cX9_letterAt 2 (some .int), .fieldLink RX9 83 "ArcOrderModel" "typed" "I", .fieldLink RX9 7 "ArcOrderModel" "text" "[I", .methodLink RX9 79 yX9_in, .static yX9_in, .code yX9_in cX9_in 3 (some .boolean)] ++ wsX90)
def wsX9_isNumber : List Cond := .code yX9_isNumber cX9_isNumber 3 (some .boolean) :: ([.fieldLink RX9 96 "ArcOrderModel" "token" "I", .fieldLink RX9 99 "ArcOrderModel" "value" "I", .methodLink RX9 79 yX9_in, .static yX9_in, .initialized RX9, .code yX9_in cX9_in 3 (some .boolean)] ++ wsX90)
def wsX9_looks : List Cond := .code yX9_looks cX9_looks 8 none :: ([.fieldLink RX9 164 "ArcOrderModel" "before" "I", .fieldLink RX9 167 "ArcOrderModel" "after" "I", .fieldLink RX9 126 "ArcOrderModel" "closes" "Z", .methodLink RX9 79 yX9_in, .static yX9_in, .initialized RX9, .code yX9_in cX9_in 3 (some .boolean), .methodLink RX9 119 yX9_has, .static yX9_has, .code yX9_has cX9_has 2 (some .boolean)] ++ wsX90)
def wsX9_canBe : List Cond := .code yX9_canBe cX9_canBe 2 (some .boolean) :: ([.fieldLink RX9 112 "ArcOrderModel" "draftItems" "I", .fieldLink RX9 99 "ArcOrderModel" "value" "I", .fieldLink RX9 13 "ArcOrderModel" "draft" "[I", .fieldLink RX9 126 "ArcOrderModel" "closes" "Z", .methodLink RX9 115 yX9_isNumber, .instanceMethod yX9_isNumber, .selects RX9 yX9_isNumber yX9_isNumber, .initialized RX9, .code yX9_isNumber cX9_isNumber 3 (some .boolean), .fieldLink RX9 96 "ArcOrderModel" "token" "I", .methodLink RX9 79 yX9_in, .static yX9_in, .code yX9_in cX9_in 3 (some .boolean), .methodLink RX9 119 yX9_has, .static yX9_has, .code yX9_has cX9_has 2 (some .boolean), .methodLink RX9 122 yX9_looks, .instanceMethod yX9_looks, .selects RX9 yX9_looks yX9_looks, .code yX9_looks cX9_looks 8 none, .fieldLink RX9 164 "ArcOrderModel" "before" "I", .fieldLink RX9 167 "ArcOrderModel" "after" "I"] ++ wsX90)
def wsX9_itemAt : List Cond := .code yX9_itemAt cX9_itemAt 4 (some .int) :: ([])
def wsX9_moves : List Cond := .code yX9_moves cX9_moves 8 none :: ([.fieldLink RX9 164 "ArcOrderModel" "before" "I", .fieldLink RX9 167 "ArcOrderModel" "after" "I", .fieldLink RX9 60 "ArcOrderModel" "order" "[I", .fieldLink RX9 19 "ArcOrderModel" "w" "[I", .methodLink RX9 170 yX9_itemAt, .static yX9_itemAt, .initialized RX9, .code yX9_itemAt cX9_itemAt 4 (some .int), .methodLink RX9 119 yX9_has, .static yX9_has, .code yX9_has cX9_has 2 (some .boolean)] ++ wsX90)
def wsX9_lays : List Cond := .code yX9_lays cX9_lays 5 none :: ([.fieldLink RX9 164 "ArcOrderModel" "before" "I", .methodLink RX9 122 yX9_looks, .instanceMethod yX9_looks, .selects RX9 yX9_looks yX9_looks, .initialized RX9, .code yX9_looks cX9_looks 8 none, .fieldLink RX9 167 "ArcOrderModel" "after" "I", .fieldLink RX9 126 "ArcOrderModel" "closes" "Z", .methodLink RX9 79 yX9_in, .static yX9_in, .code yX9_in cX9_in 3 (some .boolean), .methodLink RX9 119 yX9_has, .static yX9_has, .code yX9_has cX9_has 2 (some .boolean), .methodLink RX9 174 yX9_moves, .instanceMethod yX9_moves, .selects RX9 yX9_moves yX9_moves, .code yX9_moves cX9_moves 8 none, .fieldLink RX9 60 "ArcOrderModel" "order" "[I", .fieldLink RX9 19 "ArcOrderModel" "w" "[I", .methodLink RX9 170 yX9_itemAt, .static yX9_itemAt, .code yX9_itemAt cX9_itemAt 4 (some .int)] ++ wsX90)
def wsX9_readsEntry_r1 : List Cond := [Cond.fieldLink RX9 112 "ArcOrderModel" "draftItems" "I", Cond.fieldLink RX9 13 "ArcOrderModel" "draft" "[I", Cond.methodLink RX9 115 yX9_isNumber, Cond.instanceMethod yX9_isNumber, Cond.selects RX9 yX9_isNumber yX9_isNumber, Cond.initialized RX9, Cond.code yX9_isNumber cX9_isNumber 3 (some .boolean), Cond.fieldLink RX9 96 "ArcOrderModel" "token" "I", Cond.fieldLink RX9 99 "ArcOrderModel" "value" "I", Cond.methodLink RX9 79 yX9_in, Cond.static yX9_in, Cond.code yX9_in cX9_in 3 (some .boolean), Cond.methodLink RX9 130 yX9_takes, Cond.instanceMethod yX9_takes, Cond.selects RX9 yX9_takes yX9_takes, Cond.code yX9_takes cX9_takes 3 (some .int), Cond.fieldLink RX9 93 "ArcOrderModel" "start" "I", Cond.fieldLink RX9 102 "ArcOrderModel" "fault" "I", Cond.methodLink RX9 105 yX9_isWell, Cond.instanceMethod yX9_isWell, Cond.selects RX9 yX9_isWell yX9_isWell, Cond.code yX9_isWell cX9_isWell 1 (some .boolean), Cond.methodLink RX9 109 yX9_advances, Cond.instanceMethod yX9_advances]
def wsX9_readsEntry_r2 : List Cond := [Cond.selects RX9 yX9_advances yX9_advances, Cond.code yX9_advances cX9_advances 2 none, Cond.fieldLink RX9 86 "ArcOrderModel" "spot" "I", Cond.methodLink RX9 89 yX9_letterAt, Cond.instanceMethod yX9_letterAt, Cond.selects RX9 yX9_letterAt yX9_letterAt, Cond.code yX9_letterAt cX9_letterAt 2 (some .int), Cond.fieldLink RX9 83 "ArcOrderModel" "typed" "I", Cond.fieldLink RX9 7 "ArcOrderModel" "text" "[I", Cond.methodLink RX9 134 yX9_canBe, Cond.instanceMethod yX9_canBe, Cond.selects RX9 yX9_canBe yX9_canBe, Cond.code yX9_canBe cX9_canBe 2 (some .boolean), Cond.fieldLink RX9 126 "ArcOrderModel" "closes" "Z", Cond.methodLink RX9 119 yX9_has, Cond.static yX9_has, Cond.code yX9_has cX9_has 2 (some .boolean), Cond.methodLink RX9 122 yX9_looks, Cond.instanceMethod yX9_looks, Cond.selects RX9 yX9_looks yX9_looks, Cond.code yX9_looks cX9_looks 8 none, Cond.fieldLink RX9 164 "ArcOrderModel" "before" "I", Cond.fieldLink RX9 167 "ArcOrderModel" "after" "I", Cond.methodLink RX9 138 yX9_lays]
def wsX9_readsEntry_r3 : List Cond := [Cond.instanceMethod yX9_lays, Cond.selects RX9 yX9_lays yX9_lays, Cond.code yX9_lays cX9_lays 5 none, Cond.methodLink RX9 174 yX9_moves, Cond.instanceMethod yX9_moves, Cond.selects RX9 yX9_moves yX9_moves, Cond.code yX9_moves cX9_moves 8 none, Cond.fieldLink RX9 60 "ArcOrderModel" "order" "[I", Cond.fieldLink RX9 19 "ArcOrderModel" "w" "[I", Cond.methodLink RX9 170 yX9_itemAt, Cond.static yX9_itemAt, Cond.code yX9_itemAt cX9_itemAt 4 (some .int)]
def wsX9_readsEntry : List Cond := .code yX9_readsEntry cX9_readsEntry 4 none :: ((wsX9_readsEntry_r1 ++ (wsX9_readsEntry_r2 ++ wsX9_readsEntry_r3)) ++ wsX90)
def wsX9_store_r1 : List Cond := [Cond.fieldLink RX9 75 "ArcOrderModel" "thrown" "I", Cond.fieldLink RX9 102 "ArcOrderModel" "fault" "I", Cond.fieldLink RX9 86 "ArcOrderModel" "spot" "I", Cond.fieldLink RX9 96 "ArcOrderModel" "token" "I", Cond.fieldLink RX9 99 "ArcOrderModel" "value" "I", Cond.methodLink RX9 69 yX9_begins, Cond.instanceMethod yX9_begins, Cond.selects RX9 yX9_begins yX9_begins, Cond.initialized RX9, Cond.code yX9_begins cX9_begins 2 none, Cond.fieldLink RX9 112 "ArcOrderModel" "draftItems" "I", Cond.fieldLink RX9 13 "ArcOrderModel" "draft" "[I", Cond.methodLink RX9 109 yX9_advances, Cond.instanceMethod yX9_advances, Cond.selects RX9 yX9_advances yX9_advances, Cond.code yX9_advances cX9_advances 2 none, Cond.fieldLink RX9 93 "ArcOrderModel" "start" "I", Cond.methodLink RX9 89 yX9_letterAt, Cond.instanceMethod yX9_letterAt, Cond.selects RX9 yX9_letterAt yX9_letterAt, Cond.code yX9_letterAt cX9_letterAt 2 (some .int), Cond.fieldLink RX9 83 "ArcOrderModel" "typed" "I", Cond.fieldLink RX9 7 "ArcOrderModel" "text" "[I", Cond.methodLink RX9 79 yX9_in]
def wsX9_store_r2 : List Cond := [Cond.static yX9_in, Cond.code yX9_in cX9_in 3 (some .boolean), Cond.methodLink RX9 105 yX9_isWell, Cond.instanceMethod yX9_isWell, Cond.selects RX9 yX9_isWell yX9_isWell, Cond.code yX9_isWell cX9_isWell 1 (some .boolean), Cond.methodLink RX9 130 yX9_takes, Cond.instanceMethod yX9_takes, Cond.selects RX9 yX9_takes yX9_takes, Cond.code yX9_takes cX9_takes 3 (some .int), Cond.methodLink RX9 141 yX9_readsEntry, Cond.instanceMethod yX9_readsEntry, Cond.selects RX9 yX9_readsEntry yX9_readsEntry, Cond.code yX9_readsEntry cX9_readsEntry 4 none, Cond.methodLink RX9 115 yX9_isNumber, Cond.instanceMethod yX9_isNumber, Cond.selects RX9 yX9_isNumber yX9_isNumber, Cond.code yX9_isNumber cX9_isNumber 3 (some .boolean), Cond.methodLink RX9 134 yX9_canBe, Cond.instanceMethod yX9_canBe, Cond.selects RX9 yX9_canBe yX9_canBe, Cond.code yX9_canBe cX9_canBe 2 (some .boolean), Cond.fieldLink RX9 126 "ArcOrderModel" "closes" "Z", Cond.methodLink RX9 119 yX9_has]
def wsX9_store_r3 : List Cond := [Cond.static yX9_has, Cond.code yX9_has cX9_has 2 (some .boolean), Cond.methodLink RX9 122 yX9_looks, Cond.instanceMethod yX9_looks, Cond.selects RX9 yX9_looks yX9_looks, Cond.code yX9_looks cX9_looks 8 none, Cond.fieldLink RX9 164 "ArcOrderModel" "before" "I", Cond.fieldLink RX9 167 "ArcOrderModel" "after" "I", Cond.methodLink RX9 138 yX9_lays, Cond.instanceMethod yX9_lays, Cond.selects RX9 yX9_lays yX9_lays, Cond.code yX9_lays cX9_lays 5 none, Cond.methodLink RX9 174 yX9_moves, Cond.instanceMethod yX9_moves, Cond.selects RX9 yX9_moves yX9_moves, Cond.code yX9_moves cX9_moves 8 none, Cond.fieldLink RX9 60 "ArcOrderModel" "order" "[I", Cond.fieldLink RX9 19 "ArcOrderModel" "w" "[I", Cond.methodLink RX9 170 yX9_itemAt, Cond.static yX9_itemAt, Cond.code yX9_itemAt cX9_itemAt 4 (some .int), Cond.methodLink RX9 72 yX9_settles, Cond.instanceMethod yX9_settles, Cond.selects RX9 yX9_settles yX9_settles]
def wsX9_store_r4 : List Cond := [Cond.code yX9_settles cX9_settles 1 none, Cond.fieldLink RX9 145 "ArcOrderModel" "items" "I", Cond.fieldLink RX9 16 "ArcOrderModel" "s" "[I", Cond.fieldLink RX9 152 "ArcOrderModel" "listed" "I", Cond.fieldLink RX9 155 "ArcOrderModel" "seenMany" "I", Cond.fieldLink RX9 158 "ArcOrderModel" "undoMany" "I", Cond.fieldLink RX9 28 "ArcOrderModel" "isKept" "[Z", Cond.methodLink RX9 148 yX9_copies, Cond.static yX9_copies, Cond.code yX9_copies cX9_copies 3 none]
def wsX9_store : List Cond := .code yX9_store cX9_store 3 (some .int) :: ((wsX9_store_r1 ++ (wsX9_store_r2 ++ (wsX9_store_r3 ++ wsX9_store_r4))) ++ wsX90)
def wsX9_isItem : List Cond := .code yX9_isItem cX9_isItem 2 (some .boolean) :: ([.fieldLink RX9 145 "ArcOrderModel" "items" "I", .methodLink RX9 79 yX9_in, .static yX9_in, .initialized RX9, .code yX9_in cX9_in 3 (some .boolean)] ++ wsX90)
def wsX9_isTwo : List Cond := .code yX9_isTwo cX9_isTwo 3 (some .boolean) :: ([.methodLink RX9 161 yX9_isItem, .instanceMethod yX9_isItem, .selects RX9 yX9_isItem yX9_isItem, .initialized RX9, .code yX9_isItem cX9_isItem 2 (some .boolean), .fieldLink RX9 145 "ArcOrderModel" "items" "I", .methodLink RX9 79 yX9_in, .static yX9_in, .code yX9_in cX9_in 3 (some .boolean)] ++ wsX90)
def wsX9_moved : List Cond := .code yX9_moved cX9_moved 5 (some .int) :: ([.fieldLink RX9 145 "ArcOrderModel" "items" "I"] ++ wsX90)
def wsX9_movedBy_r1 : List Cond := [Cond.fieldLink RX9 16 "ArcOrderModel" "s" "[I", Cond.fieldLink RX9 145 "ArcOrderModel" "items" "I", Cond.fieldLink RX9 126 "ArcOrderModel" "closes" "Z", Cond.fieldLink RX9 164 "ArcOrderModel" "before" "I", Cond.fieldLink RX9 63 "ArcOrderModel" "tried" "[I", Cond.methodLink RX9 122 yX9_looks, Cond.instanceMethod yX9_looks, Cond.selects RX9 yX9_looks yX9_looks, Cond.initialized RX9, Cond.code yX9_looks cX9_looks 8 none, Cond.fieldLink RX9 167 "ArcOrderModel" "after" "I", Cond.methodLink RX9 79 yX9_in, Cond.static yX9_in, Cond.code yX9_in cX9_in 3 (some .boolean), Cond.methodLink RX9 119 yX9_has, Cond.static yX9_has, Cond.code yX9_has cX9_has 2 (some .boolean), Cond.methodLink RX9 148 yX9_copies, Cond.static yX9_copies, Cond.code yX9_copies cX9_copies 3 none, Cond.methodLink RX9 174 yX9_moves, Cond.instanceMethod yX9_moves, Cond.selects RX9 yX9_moves yX9_moves, Cond.code yX9_moves cX9_moves 8 none]
def wsX9_movedBy_r2 : List Cond := [Cond.fieldLink RX9 60 "ArcOrderModel" "order" "[I", Cond.fieldLink RX9 19 "ArcOrderModel" "w" "[I", Cond.methodLink RX9 170 yX9_itemAt, Cond.static yX9_itemAt, Cond.code yX9_itemAt cX9_itemAt 4 (some .int), Cond.methodLink RX9 178 yX9_moved, Cond.instanceMethod yX9_moved, Cond.selects RX9 yX9_moved yX9_moved, Cond.code yX9_moved cX9_moved 5 (some .int)]
def wsX9_movedBy : List Cond := .code yX9_movedBy cX9_movedBy 3 (some .int) :: ((wsX9_movedBy_r1 ++ wsX9_movedBy_r2) ++ wsX90)
def wsX9_rings : List Cond := .code yX9_rings cX9_rings 7 none :: ([.fieldLink RX9 145 "ArcOrderModel" "items" "I", .fieldLink RX9 50 "ArcOrderModel" "far" "[I", .fieldLink RX9 182 "ArcOrderModel" "ringMany" "I", .fieldLink RX9 41 "ArcOrderModel" "ring" "[I", .methodLink RX9 119 yX9_has, .static yX9_has, .initialized RX9, .code yX9_has cX9_has 2 (some .boolean)] ++ wsX90)
def wsX9_lap : List Cond := .code yX9_lap cX9_lap 2 (some .int) :: ([.fieldLink RX9 75 "ArcOrderModel" "thrown" "I", .fieldLink RX9 182 "ArcOrderModel" "ringMany" "I", .fieldLink RX9 41 "ArcOrderModel" "ring" "[I"] ++ wsX90)
def wsX9_behind : List Cond := .code yX9_behind cX9_behind 5 (some .int) :: ([.fieldLink RX9 16 "ArcOrderModel" "s" "[I", .fieldLink RX9 145 "ArcOrderModel" "items" "I", .methodLink RX9 119 yX9_has, .static yX9_has, .initialized RX9, .code yX9_has cX9_has 2 (some .boolean)] ++ wsX90)
def wsX9_ahead : List Cond := .code yX9_ahead cX9_ahead 4 (some .int) :: ([.fieldLink RX9 145 "ArcOrderModel" "items" "I", .methodLink RX9 185 yX9_behind, .instanceMethod yX9_behind, .selects RX9 yX9_behind yX9_behind, .initialized RX9, .code yX9_behind cX9_behind 5 (some .int), .fieldLink RX9 16 "ArcOrderModel" "s" "[I", .methodLink RX9 119 yX9_has, .static yX9_has, .code yX9_has cX9_has 2 (some .boolean)] ++ wsX90)
def wsX9_into : List Cond := .code yX9_into cX9_into 4 (some .int) :: ([.fieldLink RX9 145 "ArcOrderModel" "items" "I", .fieldLink RX9 16 "ArcOrderModel" "s" "[I", .methodLink RX9 119 yX9_has, .static yX9_has, .initialized RX9, .code yX9_has cX9_has 2 (some .boolean)] ++ wsX90)
def wsX9_item_r1 : List Cond := [Cond.fieldLink RX9 75 "ArcOrderModel" "thrown" "I", Cond.fieldLink RX9 16 "ArcOrderModel" "s" "[I", Cond.fieldLink RX9 145 "ArcOrderModel" "items" "I", Cond.methodLink RX9 161 yX9_isItem, Cond.instanceMethod yX9_isItem, Cond.selects RX9 yX9_isItem yX9_isItem, Cond.initialized RX9, Cond.code yX9_isItem cX9_isItem 2 (some .boolean), Cond.methodLink RX9 79 yX9_in, Cond.static yX9_in, Cond.code yX9_in cX9_in 3 (some .boolean), Cond.methodLink RX9 188 yX9_into, Cond.instanceMethod yX9_into, Cond.selects RX9 yX9_into yX9_into, Cond.code yX9_into cX9_into 4 (some .int), Cond.methodLink RX9 119 yX9_has, Cond.static yX9_has, Cond.code yX9_has cX9_has 2 (some .boolean), Cond.methodLink RX9 191 yX9_ahead, Cond.instanceMethod yX9_ahead, Cond.selects RX9 yX9_ahead yX9_ahead, Cond.code yX9_ahead cX9_ahead 4 (some .int), Cond.methodLink RX9 185 yX9_behind, Cond.instanceMethod yX9_behind]
def wsX9_item_r2 : List Cond := [Cond.selects RX9 yX9_behind yX9_behind, Cond.code yX9_behind cX9_behind 5 (some .int), Cond.methodLink RX9 194 yX9_ones, Cond.static yX9_ones, Cond.code yX9_ones cX9_ones 3 (some .int)]
def wsX9_item : List Cond := .code yX9_item cX9_item 3 (some .int) :: ((wsX9_item_r1 ++ wsX9_item_r2) ++ wsX90)
def wsX9_at : List Cond := .code yX9_at cX9_at 2 (some .int) :: ([.fieldLink RX9 75 "ArcOrderModel" "thrown" "I", .fieldLink RX9 16 "ArcOrderModel" "s" "[I", .fieldLink RX9 145 "ArcOrderModel" "items" "I", .methodLink RX9 161 yX9_isItem, .instanceMethod yX9_isItem, .selects RX9 yX9_isItem yX9_isItem, .initialized RX9, .code yX9_isItem cX9_isItem 2 (some .boolean), .methodLink RX9 79 yX9_in, .static yX9_in, .code yX9_in cX9_in 3 (some .boolean), .methodLink RX9 170 yX9_itemAt, .static yX9_itemAt, .code yX9_itemAt cX9_itemAt 4 (some .int)] ++ wsX90)
def wsX9_arcs : List Cond := .code yX9_arcs cX9_arcs 3 (some .int) :: ([.fieldLink RX9 145 "ArcOrderModel" "items" "I", .fieldLink RX9 16 "ArcOrderModel" "s" "[I", .methodLink RX9 194 yX9_ones, .static yX9_ones, .initialized RX9, .code yX9_ones cX9_ones 3 (some .int)] ++ wsX90)
def wsX9_free : List Cond := .code yX9_free cX9_free 4 (some .int) :: ([.fieldLink RX9 145 "ArcOrderModel" "items" "I", .fieldLink RX9 16 "ArcOrderModel" "s" "[I", .methodLink RX9 119 yX9_has, .static yX9_has, .initialized RX9, .code yX9_has cX9_has 2 (some .boolean)] ++ wsX90)
def wsX9_most_r1 : List Cond := [Cond.fieldLink RX9 145 "ArcOrderModel" "items" "I", Cond.fieldLink RX9 16 "ArcOrderModel" "s" "[I", Cond.fieldLink RX9 126 "ArcOrderModel" "closes" "Z", Cond.methodLink RX9 119 yX9_has, Cond.static yX9_has, Cond.initialized RX9, Cond.code yX9_has cX9_has 2 (some .boolean), Cond.methodLink RX9 197 yX9_movedBy, Cond.instanceMethod yX9_movedBy, Cond.selects RX9 yX9_movedBy yX9_movedBy, Cond.code yX9_movedBy cX9_movedBy 3 (some .int), Cond.fieldLink RX9 164 "ArcOrderModel" "before" "I", Cond.fieldLink RX9 63 "ArcOrderModel" "tried" "[I", Cond.methodLink RX9 122 yX9_looks, Cond.instanceMethod yX9_looks, Cond.selects RX9 yX9_looks yX9_looks, Cond.code yX9_looks cX9_looks 8 none, Cond.fieldLink RX9 167 "ArcOrderModel" "after" "I", Cond.methodLink RX9 79 yX9_in, Cond.static yX9_in, Cond.code yX9_in cX9_in 3 (some .boolean), Cond.methodLink RX9 148 yX9_copies, Cond.static yX9_copies, Cond.code yX9_copies cX9_copies 3 none]
def wsX9_most_r2 : List Cond := [Cond.methodLink RX9 174 yX9_moves, Cond.instanceMethod yX9_moves, Cond.selects RX9 yX9_moves yX9_moves, Cond.code yX9_moves cX9_moves 8 none, Cond.fieldLink RX9 60 "ArcOrderModel" "order" "[I", Cond.fieldLink RX9 19 "ArcOrderModel" "w" "[I", Cond.methodLink RX9 170 yX9_itemAt, Cond.static yX9_itemAt, Cond.code yX9_itemAt cX9_itemAt 4 (some .int), Cond.methodLink RX9 178 yX9_moved, Cond.instanceMethod yX9_moved, Cond.selects RX9 yX9_moved yX9_moved, Cond.code yX9_moved cX9_moved 5 (some .int), Cond.methodLink RX9 194 yX9_ones, Cond.static yX9_ones, Cond.code yX9_ones cX9_ones 3 (some .int)]
def wsX9_most : List Cond := .code yX9_most cX9_most 6 (some .int) :: ((wsX9_most_r1 ++ wsX9_most_r2) ++ wsX90)
def wsX9_chain : List Cond := .code yX9_chain cX9_chain 5 (some .int) :: ([.fieldLink RX9 145 "ArcOrderModel" "items" "I", .fieldLink RX9 50 "ArcOrderModel" "far" "[I", .fieldLink RX9 16 "ArcOrderModel" "s" "[I", .methodLink RX9 170 yX9_itemAt, .static yX9_itemAt, .initialized RX9, .code yX9_itemAt cX9_itemAt 4 (some .int), .methodLink RX9 119 yX9_has, .static yX9_has, .code yX9_has cX9_has 2 (some .boolean)] ++ wsX90)
def wsX9_isSpare : List Cond := .code yX9_isSpare cX9_isSpare 5 (some .boolean) :: ([.fieldLink RX9 145 "ArcOrderModel" "items" "I", .fieldLink RX9 16 "ArcOrderModel" "s" "[I", .methodLink RX9 119 yX9_has, .static yX9_has, .initialized RX9, .code yX9_has cX9_has 2 (some .boolean), .methodLink RX9 185 yX9_behind, .instanceMethod yX9_behind, .selects RX9 yX9_behind yX9_behind, .code yX9_behind cX9_behind 5 (some .int)] ++ wsX90)
def wsX9_spares : List Cond := .code yX9_spares cX9_spares 4 (some .int) :: ([.fieldLink RX9 145 "ArcOrderModel" "items" "I", .fieldLink RX9 16 "ArcOrderModel" "s" "[I", .methodLink RX9 119 yX9_has, .static yX9_has, .initialized RX9, .code yX9_has cX9_has 2 (some .boolean), .methodLink RX9 201 yX9_isSpare, .instanceMethod yX9_isSpare, .selects RX9 yX9_isSpare yX9_isSpare, .code yX9_isSpare cX9_isSpare 5 (some .boolean), .methodLink RX9 185 yX9_behind, .instanceMethod yX9_behind, .selects RX9 yX9_behind yX9_behind, .code yX9_behind cX9_behind 5 (some .int)] ++ wsX90)
def wsX9_now_r1 : List Cond := [Cond.fieldLink RX9 75 "ArcOrderModel" "thrown" "I", Cond.fieldLink RX9 158 "ArcOrderModel" "undoMany" "I", Cond.methodLink RX9 79 yX9_in, Cond.static yX9_in, Cond.initialized RX9, Cond.code yX9_in cX9_in 3 (some .boolean), Cond.methodLink RX9 204 yX9_arcs, Cond.instanceMethod yX9_arcs, Cond.selects RX9 yX9_arcs yX9_arcs, Cond.code yX9_arcs cX9_arcs 3 (some .int), Cond.fieldLink RX9 145 "ArcOrderModel" "items" "I", Cond.fieldLink RX9 16 "ArcOrderModel" "s" "[I", Cond.methodLink RX9 194 yX9_ones, Cond.static yX9_ones, Cond.code yX9_ones cX9_ones 3 (some .int), Cond.methodLink RX9 208 yX9_free, Cond.instanceMethod yX9_free, Cond.selects RX9 yX9_free yX9_free, Cond.code yX9_free cX9_free 4 (some .int), Cond.methodLink RX9 119 yX9_has, Cond.static yX9_has, Cond.code yX9_has cX9_has 2 (some .boolean), Cond.methodLink RX9 211 yX9_most, Cond.instanceMethod yX9_most]
def wsX9_now_r2 : List Cond := [Cond.selects RX9 yX9_most yX9_most, Cond.code yX9_most cX9_most 6 (some .int), Cond.fieldLink RX9 126 "ArcOrderModel" "closes" "Z", Cond.methodLink RX9 197 yX9_movedBy, Cond.instanceMethod yX9_movedBy, Cond.selects RX9 yX9_movedBy yX9_movedBy, Cond.code yX9_movedBy cX9_movedBy 3 (some .int), Cond.fieldLink RX9 164 "ArcOrderModel" "before" "I", Cond.fieldLink RX9 63 "ArcOrderModel" "tried" "[I", Cond.methodLink RX9 122 yX9_looks, Cond.instanceMethod yX9_looks, Cond.selects RX9 yX9_looks yX9_looks, Cond.code yX9_looks cX9_looks 8 none, Cond.fieldLink RX9 167 "ArcOrderModel" "after" "I", Cond.methodLink RX9 148 yX9_copies, Cond.static yX9_copies, Cond.code yX9_copies cX9_copies 3 none, Cond.methodLink RX9 174 yX9_moves, Cond.instanceMethod yX9_moves, Cond.selects RX9 yX9_moves yX9_moves, Cond.code yX9_moves cX9_moves 8 none, Cond.fieldLink RX9 60 "ArcOrderModel" "order" "[I", Cond.fieldLink RX9 19 "ArcOrderModel" "w" "[I", Cond.methodLink RX9 170 yX9_itemAt]
def wsX9_now_r3 : List Cond := [Cond.static yX9_itemAt, Cond.code yX9_itemAt cX9_itemAt 4 (some .int), Cond.methodLink RX9 178 yX9_moved, Cond.instanceMethod yX9_moved, Cond.selects RX9 yX9_moved yX9_moved, Cond.code yX9_moved cX9_moved 5 (some .int), Cond.methodLink RX9 214 yX9_chain, Cond.instanceMethod yX9_chain, Cond.selects RX9 yX9_chain yX9_chain, Cond.code yX9_chain cX9_chain 5 (some .int), Cond.fieldLink RX9 50 "ArcOrderModel" "far" "[I", Cond.methodLink RX9 217 yX9_spares, Cond.instanceMethod yX9_spares, Cond.selects RX9 yX9_spares yX9_spares, Cond.code yX9_spares cX9_spares 4 (some .int), Cond.methodLink RX9 201 yX9_isSpare, Cond.instanceMethod yX9_isSpare, Cond.selects RX9 yX9_isSpare yX9_isSpare, Cond.code yX9_isSpare cX9_isSpare 5 (some .boolean), Cond.methodLink RX9 185 yX9_behind, Cond.instanceMethod yX9_behind, Cond.selects RX9 yX9_behind yX9_behind, Cond.code yX9_behind cX9_behind 5 (some .int)]
def wsX9_now : List Cond := .code yX9_now cX9_now 2 (some .int) :: ((wsX9_now_r1 ++ (wsX9_now_r2 ++ wsX9_now_r3)) ++ wsX90)
def wsX9_notes : List Cond := .code yX9_notes cX9_notes 2 none :: ([.fieldLink RX9 158 "ArcOrderModel" "undoMany" "I", .fieldLink RX9 32 "ArcOrderModel" "undos" "[I", .fieldLink RX9 16 "ArcOrderModel" "s" "[I"] ++ wsX90)
def wsX9_puts_r1 : List Cond := [Cond.fieldLink RX9 75 "ArcOrderModel" "thrown" "I", Cond.fieldLink RX9 16 "ArcOrderModel" "s" "[I", Cond.fieldLink RX9 126 "ArcOrderModel" "closes" "Z", Cond.fieldLink RX9 145 "ArcOrderModel" "items" "I", Cond.methodLink RX9 220 yX9_isTwo, Cond.instanceMethod yX9_isTwo, Cond.selects RX9 yX9_isTwo yX9_isTwo, Cond.initialized RX9, Cond.code yX9_isTwo cX9_isTwo 3 (some .boolean), Cond.methodLink RX9 161 yX9_isItem, Cond.instanceMethod yX9_isItem, Cond.selects RX9 yX9_isItem yX9_isItem, Cond.code yX9_isItem cX9_isItem 2 (some .boolean), Cond.methodLink RX9 79 yX9_in, Cond.static yX9_in, Cond.code yX9_in cX9_in 3 (some .boolean), Cond.methodLink RX9 119 yX9_has, Cond.static yX9_has, Cond.code yX9_has cX9_has 2 (some .boolean), Cond.methodLink RX9 197 yX9_movedBy, Cond.instanceMethod yX9_movedBy, Cond.selects RX9 yX9_movedBy yX9_movedBy, Cond.code yX9_movedBy cX9_movedBy 3 (some .int), Cond.fieldLink RX9 164 "ArcOrderModel" "before" "I"]
def wsX9_puts_r2 : List Cond := [Cond.fieldLink RX9 63 "ArcOrderModel" "tried" "[I", Cond.methodLink RX9 122 yX9_looks, Cond.instanceMethod yX9_looks, Cond.selects RX9 yX9_looks yX9_looks, Cond.code yX9_looks cX9_looks 8 none, Cond.fieldLink RX9 167 "ArcOrderModel" "after" "I", Cond.methodLink RX9 148 yX9_copies, Cond.static yX9_copies, Cond.code yX9_copies cX9_copies 3 none, Cond.methodLink RX9 174 yX9_moves, Cond.instanceMethod yX9_moves, Cond.selects RX9 yX9_moves yX9_moves, Cond.code yX9_moves cX9_moves 8 none, Cond.fieldLink RX9 60 "ArcOrderModel" "order" "[I", Cond.fieldLink RX9 19 "ArcOrderModel" "w" "[I", Cond.methodLink RX9 170 yX9_itemAt, Cond.static yX9_itemAt, Cond.code yX9_itemAt cX9_itemAt 4 (some .int), Cond.methodLink RX9 178 yX9_moved, Cond.instanceMethod yX9_moved, Cond.selects RX9 yX9_moved yX9_moved, Cond.code yX9_moved cX9_moved 5 (some .int), Cond.methodLink RX9 223 yX9_rings, Cond.instanceMethod yX9_rings]
def wsX9_puts_r3 : List Cond := [Cond.selects RX9 yX9_rings yX9_rings, Cond.code yX9_rings cX9_rings 7 none, Cond.fieldLink RX9 50 "ArcOrderModel" "far" "[I", Cond.fieldLink RX9 182 "ArcOrderModel" "ringMany" "I", Cond.fieldLink RX9 41 "ArcOrderModel" "ring" "[I", Cond.methodLink RX9 227 yX9_notes, Cond.instanceMethod yX9_notes, Cond.selects RX9 yX9_notes yX9_notes, Cond.code yX9_notes cX9_notes 2 none, Cond.fieldLink RX9 158 "ArcOrderModel" "undoMany" "I", Cond.fieldLink RX9 32 "ArcOrderModel" "undos" "[I", Cond.methodLink RX9 138 yX9_lays, Cond.instanceMethod yX9_lays, Cond.selects RX9 yX9_lays yX9_lays, Cond.code yX9_lays cX9_lays 5 none, Cond.methodLink RX9 194 yX9_ones, Cond.static yX9_ones, Cond.code yX9_ones cX9_ones 3 (some .int)]
def wsX9_puts : List Cond := .code yX9_puts cX9_puts 4 (some .int) :: ((wsX9_puts_r1 ++ (wsX9_puts_r2 ++ wsX9_puts_r3)) ++ wsX90)
def wsX9_lists : List Cond := .code yX9_lists cX9_lists 5 (some .int) :: ([.fieldLink RX9 75 "ArcOrderModel" "thrown" "I", .fieldLink RX9 16 "ArcOrderModel" "s" "[I", .fieldLink RX9 152 "ArcOrderModel" "listed" "I", .fieldLink RX9 35 "ArcOrderModel" "listFrom" "[I", .fieldLink RX9 38 "ArcOrderModel" "listTo" "[I", .methodLink RX9 220 yX9_isTwo, .instanceMethod yX9_isTwo, .selects RX9 yX9_isTwo yX9_isTwo, .initialized RX9, .code yX9_isTwo cX9_isTwo 3 (some .boolean), .methodLink RX9 161 yX9_isItem, .instanceMethod yX9_isItem, .selects RX9 yX9_isItem yX9_isItem, .code yX9_isItem cX9_isItem 2 (some .boolean), .fieldLink RX9 145 "ArcOrderModel" "items" "I", .methodLink RX9 79 yX9_in, .static yX9_in, .code yX9_in cX9_in 3 (some .boolean), .methodLink RX9 119 yX9_has, .static yX9_has, .code yX9_has cX9_has 2 (some .boolean)] ++ wsX90)
def wsX9_adds_r1 : List Cond := [Cond.fieldLink RX9 75 "ArcOrderModel" "thrown" "I", Cond.fieldLink RX9 152 "ArcOrderModel" "listed" "I", Cond.fieldLink RX9 16 "ArcOrderModel" "s" "[I", Cond.fieldLink RX9 35 "ArcOrderModel" "listFrom" "[I", Cond.fieldLink RX9 38 "ArcOrderModel" "listTo" "[I", Cond.fieldLink RX9 22 "ArcOrderModel" "was" "[I", Cond.fieldLink RX9 145 "ArcOrderModel" "items" "I", Cond.fieldLink RX9 126 "ArcOrderModel" "closes" "Z", Cond.methodLink RX9 119 yX9_has, Cond.static yX9_has, Cond.initialized RX9, Cond.code yX9_has cX9_has 2 (some .boolean), Cond.methodLink RX9 148 yX9_copies, Cond.static yX9_copies, Cond.code yX9_copies cX9_copies 3 none, Cond.methodLink RX9 122 yX9_looks, Cond.instanceMethod yX9_looks, Cond.selects RX9 yX9_looks yX9_looks, Cond.code yX9_looks cX9_looks 8 none, Cond.fieldLink RX9 164 "ArcOrderModel" "before" "I", Cond.fieldLink RX9 167 "ArcOrderModel" "after" "I", Cond.methodLink RX9 79 yX9_in, Cond.static yX9_in, Cond.code yX9_in cX9_in 3 (some .boolean)]
def wsX9_adds_r2 : List Cond := [Cond.methodLink RX9 223 yX9_rings, Cond.instanceMethod yX9_rings, Cond.selects RX9 yX9_rings yX9_rings, Cond.code yX9_rings cX9_rings 7 none, Cond.fieldLink RX9 50 "ArcOrderModel" "far" "[I", Cond.fieldLink RX9 182 "ArcOrderModel" "ringMany" "I", Cond.fieldLink RX9 41 "ArcOrderModel" "ring" "[I", Cond.methodLink RX9 138 yX9_lays, Cond.instanceMethod yX9_lays, Cond.selects RX9 yX9_lays yX9_lays, Cond.code yX9_lays cX9_lays 5 none, Cond.methodLink RX9 174 yX9_moves, Cond.instanceMethod yX9_moves, Cond.selects RX9 yX9_moves yX9_moves, Cond.code yX9_moves cX9_moves 8 none, Cond.fieldLink RX9 60 "ArcOrderModel" "order" "[I", Cond.fieldLink RX9 19 "ArcOrderModel" "w" "[I", Cond.methodLink RX9 170 yX9_itemAt, Cond.static yX9_itemAt, Cond.code yX9_itemAt cX9_itemAt 4 (some .int), Cond.methodLink RX9 227 yX9_notes, Cond.instanceMethod yX9_notes, Cond.selects RX9 yX9_notes yX9_notes, Cond.code yX9_notes cX9_notes 2 none]
def wsX9_adds_r3 : List Cond := [Cond.fieldLink RX9 158 "ArcOrderModel" "undoMany" "I", Cond.fieldLink RX9 32 "ArcOrderModel" "undos" "[I", Cond.methodLink RX9 178 yX9_moved, Cond.instanceMethod yX9_moved, Cond.selects RX9 yX9_moved yX9_moved, Cond.code yX9_moved cX9_moved 5 (some .int), Cond.methodLink RX9 194 yX9_ones, Cond.static yX9_ones, Cond.code yX9_ones cX9_ones 3 (some .int)]
def wsX9_adds : List Cond := .code yX9_adds cX9_adds 3 (some .int) :: ((wsX9_adds_r1 ++ (wsX9_adds_r2 ++ wsX9_adds_r3)) ++ wsX90)
def wsX9_cuts_r1 : List Cond := [Cond.fieldLink RX9 75 "ArcOrderModel" "thrown" "I", Cond.fieldLink RX9 16 "ArcOrderModel" "s" "[I", Cond.methodLink RX9 220 yX9_isTwo, Cond.instanceMethod yX9_isTwo, Cond.selects RX9 yX9_isTwo yX9_isTwo, Cond.initialized RX9, Cond.code yX9_isTwo cX9_isTwo 3 (some .boolean), Cond.methodLink RX9 161 yX9_isItem, Cond.instanceMethod yX9_isItem, Cond.selects RX9 yX9_isItem yX9_isItem, Cond.code yX9_isItem cX9_isItem 2 (some .boolean), Cond.fieldLink RX9 145 "ArcOrderModel" "items" "I", Cond.methodLink RX9 79 yX9_in, Cond.static yX9_in, Cond.code yX9_in cX9_in 3 (some .boolean), Cond.methodLink RX9 119 yX9_has, Cond.static yX9_has, Cond.code yX9_has cX9_has 2 (some .boolean), Cond.methodLink RX9 227 yX9_notes, Cond.instanceMethod yX9_notes, Cond.selects RX9 yX9_notes yX9_notes, Cond.code yX9_notes cX9_notes 2 none, Cond.fieldLink RX9 158 "ArcOrderModel" "undoMany" "I", Cond.fieldLink RX9 32 "ArcOrderModel" "undos" "[I"]
def wsX9_cuts_r2 : List Cond := [Cond.methodLink RX9 204 yX9_arcs, Cond.instanceMethod yX9_arcs, Cond.selects RX9 yX9_arcs yX9_arcs, Cond.code yX9_arcs cX9_arcs 3 (some .int), Cond.methodLink RX9 194 yX9_ones, Cond.static yX9_ones, Cond.code yX9_ones cX9_ones 3 (some .int)]
def wsX9_cuts : List Cond := .code yX9_cuts cX9_cuts 3 (some .int) :: ((wsX9_cuts_r1 ++ wsX9_cuts_r2) ++ wsX90)
def wsX9_canNext : List Cond := .code yX9_canNext cX9_canNext 3 (some .boolean) :: ([.methodLink RX9 119 yX9_has, .static yX9_has, .initialized RX9, .code yX9_has cX9_has 2 (some .boolean), .methodLink RX9 188 yX9_into, .instanceMethod yX9_into, .selects RX9 yX9_into yX9_into, .code yX9_into cX9_into 4 (some .int), .fieldLink RX9 145 "ArcOrderModel" "items" "I", .fieldLink RX9 16 "ArcOrderModel" "s" "[I"] ++ wsX90)
def wsX9_counts : List Cond := .code yX9_counts cX9_counts 4 none :: ([.fieldLink RX9 145 "ArcOrderModel" "items" "I", .fieldLink RX9 53 "ArcOrderModel" "ways" "[J", .methodLink RX9 237 yX9_canNext, .instanceMethod yX9_canNext, .selects RX9 yX9_canNext yX9_canNext, .initialized RX9, .code yX9_canNext cX9_canNext 3 (some .boolean), .methodLink RX9 119 yX9_has, .static yX9_has, .code yX9_has cX9_has 2 (some .boolean), .methodLink RX9 188 yX9_into, .instanceMethod yX9_into, .selects RX9 yX9_into yX9_into, .code yX9_into cX9_into 4 (some .int), .fieldLink RX9 16 "ArcOrderModel" "s" "[I"] ++ wsX90)
def wsX9_orderOf : List Cond := .code yX9_orderOf cX9_orderOf 8 none :: ([.fieldLink RX9 145 "ArcOrderModel" "items" "I", .fieldLink RX9 53 "ArcOrderModel" "ways" "[J", .fieldLink RX9 60 "ArcOrderModel" "order" "[I", .methodLink RX9 237 yX9_canNext, .instanceMethod yX9_canNext, .selects RX9 yX9_canNext yX9_canNext, .initialized RX9, .code yX9_canNext cX9_canNext 3 (some .boolean), .methodLink RX9 119 yX9_has, .static yX9_has, .code yX9_has cX9_has 2 (some .boolean), .methodLink RX9 188 yX9_into, .instanceMethod yX9_into, .selects RX9 yX9_into yX9_into, .code yX9_into cX9_into 4 (some .int), .fieldLink RX9 16 "ArcOrderModel" "s" "[I"] ++ wsX90)
def wsX9_sorts_r1 : List Cond := [Cond.fieldLink RX9 75 "ArcOrderModel" "thrown" "I", Cond.fieldLink RX9 16 "ArcOrderModel" "s" "[I", Cond.fieldLink RX9 22 "ArcOrderModel" "was" "[I", Cond.fieldLink RX9 145 "ArcOrderModel" "items" "I", Cond.fieldLink RX9 60 "ArcOrderModel" "order" "[I", Cond.methodLink RX9 227 yX9_notes, Cond.instanceMethod yX9_notes, Cond.selects RX9 yX9_notes yX9_notes, Cond.initialized RX9, Cond.code yX9_notes cX9_notes 2 none, Cond.fieldLink RX9 158 "ArcOrderModel" "undoMany" "I", Cond.fieldLink RX9 32 "ArcOrderModel" "undos" "[I", Cond.methodLink RX9 148 yX9_copies, Cond.static yX9_copies, Cond.code yX9_copies cX9_copies 3 none, Cond.methodLink RX9 230 yX9_counts, Cond.instanceMethod yX9_counts, Cond.selects RX9 yX9_counts yX9_counts, Cond.code yX9_counts cX9_counts 4 none, Cond.fieldLink RX9 53 "ArcOrderModel" "ways" "[J", Cond.methodLink RX9 237 yX9_canNext, Cond.instanceMethod yX9_canNext, Cond.selects RX9 yX9_canNext yX9_canNext, Cond.code yX9_canNext cX9_canNext 3 (some .boolean)]
def wsX9_sorts_r2 : List Cond := [Cond.methodLink RX9 119 yX9_has, Cond.static yX9_has, Cond.code yX9_has cX9_has 2 (some .boolean), Cond.methodLink RX9 188 yX9_into, Cond.instanceMethod yX9_into, Cond.selects RX9 yX9_into yX9_into, Cond.code yX9_into cX9_into 4 (some .int), Cond.methodLink RX9 233 yX9_orderOf, Cond.instanceMethod yX9_orderOf, Cond.selects RX9 yX9_orderOf yX9_orderOf, Cond.code yX9_orderOf cX9_orderOf 8 none, Cond.methodLink RX9 178 yX9_moved, Cond.instanceMethod yX9_moved, Cond.selects RX9 yX9_moved yX9_moved, Cond.code yX9_moved cX9_moved 5 (some .int), Cond.methodLink RX9 194 yX9_ones, Cond.static yX9_ones, Cond.code yX9_ones cX9_ones 3 (some .int)]
def wsX9_sorts : List Cond := .code yX9_sorts cX9_sorts 2 (some .int) :: ((wsX9_sorts_r1 ++ wsX9_sorts_r2) ++ wsX90)
def wsX9_undo : List Cond := .code yX9_undo cX9_undo 2 (some .int) :: ([.fieldLink RX9 75 "ArcOrderModel" "thrown" "I", .fieldLink RX9 158 "ArcOrderModel" "undoMany" "I", .fieldLink RX9 16 "ArcOrderModel" "s" "[I", .fieldLink RX9 32 "ArcOrderModel" "undos" "[I"] ++ wsX90)
def wsX9_arc_r1 : List Cond := [Cond.fieldLink RX9 75 "ArcOrderModel" "thrown" "I", Cond.fieldLink RX9 16 "ArcOrderModel" "s" "[I", Cond.fieldLink RX9 126 "ArcOrderModel" "closes" "Z", Cond.fieldLink RX9 164 "ArcOrderModel" "before" "I", Cond.fieldLink RX9 167 "ArcOrderModel" "after" "I", Cond.methodLink RX9 220 yX9_isTwo, Cond.instanceMethod yX9_isTwo, Cond.selects RX9 yX9_isTwo yX9_isTwo, Cond.initialized RX9, Cond.code yX9_isTwo cX9_isTwo 3 (some .boolean), Cond.methodLink RX9 161 yX9_isItem, Cond.instanceMethod yX9_isItem, Cond.selects RX9 yX9_isItem yX9_isItem, Cond.code yX9_isItem cX9_isItem 2 (some .boolean), Cond.fieldLink RX9 145 "ArcOrderModel" "items" "I", Cond.methodLink RX9 79 yX9_in, Cond.static yX9_in, Cond.code yX9_in cX9_in 3 (some .boolean), Cond.methodLink RX9 119 yX9_has, Cond.static yX9_has, Cond.code yX9_has cX9_has 2 (some .boolean), Cond.methodLink RX9 197 yX9_movedBy, Cond.instanceMethod yX9_movedBy, Cond.selects RX9 yX9_movedBy yX9_movedBy]
def wsX9_arc_r2 : List Cond := [Cond.code yX9_movedBy cX9_movedBy 3 (some .int), Cond.fieldLink RX9 63 "ArcOrderModel" "tried" "[I", Cond.methodLink RX9 122 yX9_looks, Cond.instanceMethod yX9_looks, Cond.selects RX9 yX9_looks yX9_looks, Cond.code yX9_looks cX9_looks 8 none, Cond.methodLink RX9 148 yX9_copies, Cond.static yX9_copies, Cond.code yX9_copies cX9_copies 3 none, Cond.methodLink RX9 174 yX9_moves, Cond.instanceMethod yX9_moves, Cond.selects RX9 yX9_moves yX9_moves, Cond.code yX9_moves cX9_moves 8 none, Cond.fieldLink RX9 60 "ArcOrderModel" "order" "[I", Cond.fieldLink RX9 19 "ArcOrderModel" "w" "[I", Cond.methodLink RX9 170 yX9_itemAt, Cond.static yX9_itemAt, Cond.code yX9_itemAt cX9_itemAt 4 (some .int), Cond.methodLink RX9 178 yX9_moved, Cond.instanceMethod yX9_moved, Cond.selects RX9 yX9_moved yX9_moved, Cond.code yX9_moved cX9_moved 5 (some .int)]
def wsX9_arc : List Cond := .code yX9_arc cX9_arc 5 (some .int) :: ((wsX9_arc_r1 ++ wsX9_arc_r2) ++ wsX90)
def wsX9_orders : List Cond := .code yX9_orders cX9_orders 1 (some .long) :: ([.fieldLink RX9 75 "ArcOrderModel" "thrown" "I", .fieldLink RX9 53 "ArcOrderModel" "ways" "[J", .methodLink RX9 230 yX9_counts, .instanceMethod yX9_counts, .selects RX9 yX9_counts yX9_counts, .initialized RX9, .code yX9_counts cX9_counts 4 none, .fieldLink RX9 145 "ArcOrderModel" "items" "I", .methodLink RX9 237 yX9_canNext, .instanceMethod yX9_canNext, .selects RX9 yX9_canNext yX9_canNext, .code yX9_canNext cX9_canNext 3 (some .boolean), .methodLink RX9 119 yX9_has, .static yX9_has, .code yX9_has cX9_has 2 (some .boolean), .methodLink RX9 188 yX9_into, .instanceMethod yX9_into, .selects RX9 yX9_into yX9_into, .code yX9_into cX9_into 4 (some .int), .fieldLink RX9 16 "ArcOrderModel" "s" "[I"] ++ wsX90)
def wsX9_number : List Cond := .code yX9_number cX9_number 7 (some .long) :: ([.fieldLink RX9 75 "ArcOrderModel" "thrown" "I", .fieldLink RX9 145 "ArcOrderModel" "items" "I", .fieldLink RX9 16 "ArcOrderModel" "s" "[I", .fieldLink RX9 53 "ArcOrderModel" "ways" "[J", .methodLink RX9 230 yX9_counts, .instanceMethod yX9_counts, .selects RX9 yX9_counts yX9_counts, .initialized RX9, .code yX9_counts cX9_counts 4 none, .methodLink RX9 237 yX9_canNext, .instanceMethod yX9_canNext, .selects RX9 yX9_canNext yX9_canNext, .code yX9_canNext cX9_canNext 3 (some .boolean), .methodLink RX9 119 yX9_has, .static yX9_has, .code yX9_has cX9_has 2 (some .boolean), .methodLink RX9 188 yX9_into, .instanceMethod yX9_into, .selects RX9 yX9_into yX9_into, .code yX9_into cX9_into 4 (some .int), .methodLink RX9 170 yX9_itemAt, .static yX9_itemAt, .code yX9_itemAt cX9_itemAt 4 (some .int)] ++ wsX90)
def wsX9_kth_r1 : List Cond := [Cond.fieldLink RX9 75 "ArcOrderModel" "thrown" "I", Cond.fieldLink RX9 53 "ArcOrderModel" "ways" "[J", Cond.fieldLink RX9 60 "ArcOrderModel" "order" "[I", Cond.methodLink RX9 161 yX9_isItem, Cond.instanceMethod yX9_isItem, Cond.selects RX9 yX9_isItem yX9_isItem, Cond.initialized RX9, Cond.code yX9_isItem cX9_isItem 2 (some .boolean), Cond.fieldLink RX9 145 "ArcOrderModel" "items" "I", Cond.methodLink RX9 79 yX9_in, Cond.static yX9_in, Cond.code yX9_in cX9_in 3 (some .boolean), Cond.methodLink RX9 230 yX9_counts, Cond.instanceMethod yX9_counts, Cond.selects RX9 yX9_counts yX9_counts, Cond.code yX9_counts cX9_counts 4 none, Cond.methodLink RX9 237 yX9_canNext, Cond.instanceMethod yX9_canNext, Cond.selects RX9 yX9_canNext yX9_canNext, Cond.code yX9_canNext cX9_canNext 3 (some .boolean), Cond.methodLink RX9 119 yX9_has, Cond.static yX9_has, Cond.code yX9_has cX9_has 2 (some .boolean), Cond.methodLink RX9 188 yX9_into]
def wsX9_kth_r2 : List Cond := [Cond.instanceMethod yX9_into, Cond.selects RX9 yX9_into yX9_into, Cond.code yX9_into cX9_into 4 (some .int), Cond.fieldLink RX9 16 "ArcOrderModel" "s" "[I", Cond.methodLink RX9 233 yX9_orderOf, Cond.instanceMethod yX9_orderOf, Cond.selects RX9 yX9_orderOf yX9_orderOf, Cond.code yX9_orderOf cX9_orderOf 8 none]
def wsX9_kth : List Cond := .code yX9_kth cX9_kth 4 (some .int) :: ((wsX9_kth_r1 ++ wsX9_kth_r2) ++ wsX90)
def wsX9_makes : List Cond := .code yX9_makes cX9_makes 6 none :: ([.fieldLink RX9 57 "ArcOrderModel" "day" "[I", .methodLink RX9 194 yX9_ones, .static yX9_ones, .initialized RX9, .code yX9_ones cX9_ones 3 (some .int)] ++ wsX90)
def wsX9_days_r1 : List Cond := [Cond.fieldLink RX9 75 "ArcOrderModel" "thrown" "I", Cond.fieldLink RX9 145 "ArcOrderModel" "items" "I", Cond.fieldLink RX9 57 "ArcOrderModel" "day" "[I", Cond.methodLink RX9 79 yX9_in, Cond.static yX9_in, Cond.initialized RX9, Cond.code yX9_in cX9_in 3 (some .boolean), Cond.methodLink RX9 237 yX9_canNext, Cond.instanceMethod yX9_canNext, Cond.selects RX9 yX9_canNext yX9_canNext, Cond.code yX9_canNext cX9_canNext 3 (some .boolean), Cond.methodLink RX9 119 yX9_has, Cond.static yX9_has, Cond.code yX9_has cX9_has 2 (some .boolean), Cond.methodLink RX9 188 yX9_into, Cond.instanceMethod yX9_into, Cond.selects RX9 yX9_into yX9_into, Cond.code yX9_into cX9_into 4 (some .int), Cond.fieldLink RX9 16 "ArcOrderModel" "s" "[I", Cond.methodLink RX9 240 yX9_makes, Cond.instanceMethod yX9_makes, Cond.selects RX9 yX9_makes yX9_makes, Cond.code yX9_makes cX9_makes 6 none, Cond.methodLink RX9 194 yX9_ones]
def wsX9_days_r2 : List Cond := [Cond.static yX9_ones, Cond.code yX9_ones cX9_ones 3 (some .int)]
def wsX9_days : List Cond := .code yX9_days cX9_days 6 (some .int) :: ((wsX9_days_r1 ++ wsX9_days_r2) ++ wsX90)
def wsX9_sees : List Cond := .code yX9_sees cX9_sees 3 (some .int) :: ([.fieldLink RX9 75 "ArcOrderModel" "thrown" "I", .fieldLink RX9 155 "ArcOrderModel" "seenMany" "I", .fieldLink RX9 44 "ArcOrderModel" "seenItem" "[I", .fieldLink RX9 47 "ArcOrderModel" "seenMoved" "[I", .methodLink RX9 161 yX9_isItem, .instanceMethod yX9_isItem, .selects RX9 yX9_isItem yX9_isItem, .initialized RX9, .code yX9_isItem cX9_isItem 2 (some .boolean), .fieldLink RX9 145 "ArcOrderModel" "items" "I", .methodLink RX9 79 yX9_in, .static yX9_in, .code yX9_in cX9_in 3 (some .boolean)] ++ wsX90)
def wsX9_forget : List Cond := .code yX9_forget cX9_forget 2 (some .int) :: ([.fieldLink RX9 75 "ArcOrderModel" "thrown" "I", .fieldLink RX9 155 "ArcOrderModel" "seenMany" "I"] ++ wsX90)
def wsX9_unseenMany_r1 : List Cond := [Cond.fieldLink RX9 244 "ArcOrderModel" "unseenFirst" "I", Cond.fieldLink RX9 66 "ArcOrderModel" "movedIf" "[I", Cond.fieldLink RX9 145 "ArcOrderModel" "items" "I", Cond.fieldLink RX9 16 "ArcOrderModel" "s" "[I", Cond.fieldLink RX9 126 "ArcOrderModel" "closes" "Z", Cond.fieldLink RX9 155 "ArcOrderModel" "seenMany" "I", Cond.fieldLink RX9 44 "ArcOrderModel" "seenItem" "[I", Cond.fieldLink RX9 47 "ArcOrderModel" "seenMoved" "[I", Cond.methodLink RX9 119 yX9_has, Cond.static yX9_has, Cond.initialized RX9, Cond.code yX9_has cX9_has 2 (some .boolean), Cond.methodLink RX9 197 yX9_movedBy, Cond.instanceMethod yX9_movedBy, Cond.selects RX9 yX9_movedBy yX9_movedBy, Cond.code yX9_movedBy cX9_movedBy 3 (some .int), Cond.fieldLink RX9 164 "ArcOrderModel" "before" "I", Cond.fieldLink RX9 63 "ArcOrderModel" "tried" "[I", Cond.methodLink RX9 122 yX9_looks, Cond.instanceMethod yX9_looks, Cond.selects RX9 yX9_looks yX9_looks, Cond.code yX9_looks cX9_looks 8 none, Cond.fieldLink RX9 167 "ArcOrderModel" "after" "I", Cond.methodLink RX9 79 yX9_in]
def wsX9_unseenMany_r2 : List Cond := [Cond.static yX9_in, Cond.code yX9_in cX9_in 3 (some .boolean), Cond.methodLink RX9 148 yX9_copies, Cond.static yX9_copies, Cond.code yX9_copies cX9_copies 3 none, Cond.methodLink RX9 174 yX9_moves, Cond.instanceMethod yX9_moves, Cond.selects RX9 yX9_moves yX9_moves, Cond.code yX9_moves cX9_moves 8 none, Cond.fieldLink RX9 60 "ArcOrderModel" "order" "[I", Cond.fieldLink RX9 19 "ArcOrderModel" "w" "[I", Cond.methodLink RX9 170 yX9_itemAt, Cond.static yX9_itemAt, Cond.code yX9_itemAt cX9_itemAt 4 (some .int), Cond.methodLink RX9 178 yX9_moved, Cond.instanceMethod yX9_moved, Cond.selects RX9 yX9_moved yX9_moved, Cond.code yX9_moved cX9_moved 5 (some .int)]
def wsX9_unseenMany : List Cond := .code yX9_unseenMany cX9_unseenMany 7 (some .int) :: ((wsX9_unseenMany_r1 ++ wsX9_unseenMany_r2) ++ wsX90)
def wsX9_unseen_r1 : List Cond := [Cond.fieldLink RX9 75 "ArcOrderModel" "thrown" "I", Cond.fieldLink RX9 244 "ArcOrderModel" "unseenFirst" "I", Cond.methodLink RX9 79 yX9_in, Cond.static yX9_in, Cond.initialized RX9, Cond.code yX9_in cX9_in 3 (some .boolean), Cond.methodLink RX9 247 yX9_unseenMany, Cond.instanceMethod yX9_unseenMany, Cond.selects RX9 yX9_unseenMany yX9_unseenMany, Cond.code yX9_unseenMany cX9_unseenMany 7 (some .int), Cond.fieldLink RX9 66 "ArcOrderModel" "movedIf" "[I", Cond.fieldLink RX9 145 "ArcOrderModel" "items" "I", Cond.fieldLink RX9 16 "ArcOrderModel" "s" "[I", Cond.fieldLink RX9 126 "ArcOrderModel" "closes" "Z", Cond.fieldLink RX9 155 "ArcOrderModel" "seenMany" "I", Cond.fieldLink RX9 44 "ArcOrderModel" "seenItem" "[I", Cond.fieldLink RX9 47 "ArcOrderModel" "seenMoved" "[I", Cond.methodLink RX9 119 yX9_has, Cond.static yX9_has, Cond.code yX9_has cX9_has 2 (some .boolean), Cond.methodLink RX9 197 yX9_movedBy, Cond.instanceMethod yX9_movedBy, Cond.selects RX9 yX9_movedBy yX9_movedBy, Cond.code yX9_movedBy cX9_movedBy 3 (some .int)]
def wsX9_unseen_r2 : List Cond := [Cond.fieldLink RX9 164 "ArcOrderModel" "before" "I", Cond.fieldLink RX9 63 "ArcOrderModel" "tried" "[I", Cond.methodLink RX9 122 yX9_looks, Cond.instanceMethod yX9_looks, Cond.selects RX9 yX9_looks yX9_looks, Cond.code yX9_looks cX9_looks 8 none, Cond.fieldLink RX9 167 "ArcOrderModel" "after" "I", Cond.methodLink RX9 148 yX9_copies, Cond.static yX9_copies, Cond.code yX9_copies cX9_copies 3 none, Cond.methodLink RX9 174 yX9_moves, Cond.instanceMethod yX9_moves, Cond.selects RX9 yX9_moves yX9_moves, Cond.code yX9_moves cX9_moves 8 none, Cond.fieldLink RX9 60 "ArcOrderModel" "order" "[I", Cond.fieldLink RX9 19 "ArcOrderModel" "w" "[I", Cond.methodLink RX9 170 yX9_itemAt, Cond.static yX9_itemAt, Cond.code yX9_itemAt cX9_itemAt 4 (some .int), Cond.methodLink RX9 178 yX9_moved, Cond.instanceMethod yX9_moved, Cond.selects RX9 yX9_moved yX9_moved, Cond.code yX9_moved cX9_moved 5 (some .int)]
def wsX9_unseen : List Cond := .code yX9_unseen cX9_unseen 3 (some .int) :: ((wsX9_unseen_r1 ++ wsX9_unseen_r2) ++ wsX90)
def wsX9_look_r1 : List Cond := [Cond.fieldLink RX9 75 "ArcOrderModel" "thrown" "I", Cond.fieldLink RX9 145 "ArcOrderModel" "items" "I", Cond.fieldLink RX9 66 "ArcOrderModel" "movedIf" "[I", Cond.methodLink RX9 247 yX9_unseenMany, Cond.instanceMethod yX9_unseenMany, Cond.selects RX9 yX9_unseenMany yX9_unseenMany, Cond.initialized RX9, Cond.code yX9_unseenMany cX9_unseenMany 7 (some .int), Cond.fieldLink RX9 244 "ArcOrderModel" "unseenFirst" "I", Cond.fieldLink RX9 16 "ArcOrderModel" "s" "[I", Cond.fieldLink RX9 126 "ArcOrderModel" "closes" "Z", Cond.fieldLink RX9 155 "ArcOrderModel" "seenMany" "I", Cond.fieldLink RX9 44 "ArcOrderModel" "seenItem" "[I", Cond.fieldLink RX9 47 "ArcOrderModel" "seenMoved" "[I", Cond.methodLink RX9 119 yX9_has, Cond.static yX9_has, Cond.code yX9_has cX9_has 2 (some .boolean), Cond.methodLink RX9 197 yX9_movedBy, Cond.instanceMethod yX9_movedBy, Cond.selects RX9 yX9_movedBy yX9_movedBy, Cond.code yX9_movedBy cX9_movedBy 3 (some .int), Cond.fieldLink RX9 164 "ArcOrderModel" "before" "I", Cond.fieldLink RX9 63 "ArcOrderModel" "tried" "[I", Cond.methodLink RX9 122 yX9_looks]
def wsX9_look_r2 : List Cond := [Cond.instanceMethod yX9_looks, Cond.selects RX9 yX9_looks yX9_looks, Cond.code yX9_looks cX9_looks 8 none, Cond.fieldLink RX9 167 "ArcOrderModel" "after" "I", Cond.methodLink RX9 79 yX9_in, Cond.static yX9_in, Cond.code yX9_in cX9_in 3 (some .boolean), Cond.methodLink RX9 148 yX9_copies, Cond.static yX9_copies, Cond.code yX9_copies cX9_copies 3 none, Cond.methodLink RX9 174 yX9_moves, Cond.instanceMethod yX9_moves, Cond.selects RX9 yX9_moves yX9_moves, Cond.code yX9_moves cX9_moves 8 none, Cond.fieldLink RX9 60 "ArcOrderModel" "order" "[I", Cond.fieldLink RX9 19 "ArcOrderModel" "w" "[I", Cond.methodLink RX9 170 yX9_itemAt, Cond.static yX9_itemAt, Cond.code yX9_itemAt cX9_itemAt 4 (some .int), Cond.methodLink RX9 178 yX9_moved, Cond.instanceMethod yX9_moved, Cond.selects RX9 yX9_moved yX9_moved, Cond.code yX9_moved cX9_moved 5 (some .int)]
def wsX9_look : List Cond := .code yX9_look cX9_look 6 (some .int) :: ((wsX9_look_r1 ++ wsX9_look_r2) ++ wsX90)
def wsX9_keep : List Cond := .code yX9_keep cX9_keep 3 (some .int) :: ([.fieldLink RX9 75 "ArcOrderModel" "thrown" "I", .fieldLink RX9 25 "ArcOrderModel" "kept" "[I", .fieldLink RX9 16 "ArcOrderModel" "s" "[I", .fieldLink RX9 28 "ArcOrderModel" "isKept" "[Z", .methodLink RX9 79 yX9_in, .static yX9_in, .initialized RX9, .code yX9_in cX9_in 3 (some .boolean), .methodLink RX9 204 yX9_arcs, .instanceMethod yX9_arcs, .selects RX9 yX9_arcs yX9_arcs, .code yX9_arcs cX9_arcs 3 (some .int), .fieldLink RX9 145 "ArcOrderModel" "items" "I", .methodLink RX9 194 yX9_ones, .static yX9_ones, .code yX9_ones cX9_ones 3 (some .int)] ++ wsX90)
def wsX9_back : List Cond := .code yX9_back cX9_back 3 (some .int) :: ([.fieldLink RX9 75 "ArcOrderModel" "thrown" "I", .fieldLink RX9 28 "ArcOrderModel" "isKept" "[Z", .fieldLink RX9 16 "ArcOrderModel" "s" "[I", .fieldLink RX9 25 "ArcOrderModel" "kept" "[I", .fieldLink RX9 158 "ArcOrderModel" "undoMany" "I", .methodLink RX9 79 yX9_in, .static yX9_in, .initialized RX9, .code yX9_in cX9_in 3 (some .boolean), .methodLink RX9 204 yX9_arcs, .instanceMethod yX9_arcs, .selects RX9 yX9_arcs yX9_arcs, .code yX9_arcs cX9_arcs 3 (some .int), .fieldLink RX9 145 "ArcOrderModel" "items" "I", .methodLink RX9 194 yX9_ones, .static yX9_ones, .code yX9_ones cX9_ones 3 (some .int)] ++ wsX90)
def wsX9_count : List Cond := .code yX9_count cX9_count 2 (some .int) :: ([.fieldLink RX9 75 "ArcOrderModel" "thrown" "I", .fieldLink RX9 145 "ArcOrderModel" "items" "I", .fieldLink RX9 152 "ArcOrderModel" "listed" "I", .fieldLink RX9 155 "ArcOrderModel" "seenMany" "I", .fieldLink RX9 83 "ArcOrderModel" "typed" "I"] ++ wsX90)
def wsJ9_max_7cf53 : List Cond := .code yJ9_max_7cf53 cJ9_max_7cf53 2 (some .int) :: ([])
def wsJ9_min_7cf53 : List Cond := .code yJ9_min_7cf53 cJ9_min_7cf53 2 (some .int) :: ([])
def wsL_law_r1 : List Cond := [Cond.classLink RL 7 RX8, Cond.instantiable RX8 11, Cond.initialized RX8, Cond.classLink RL 10 RX9, Cond.instantiable RX9 36, Cond.initialized RX9, Cond.constantLong RL 82 (4294967295), Cond.methodLink RL 9 yX8_init, Cond.instanceMethod yX8_init, Cond.code yX8_init cX8_init 2 none, Cond.methodLink RX8 1 objectInit, Cond.instanceMethod objectInit, Cond.code objectInit ⟨#[0xb1]⟩ 1 none, Cond.classLink RX8 7 RX3, Cond.instantiable RX3 7, Cond.initialized RX3, Cond.fieldLink RX8 10 "ArcOrder" "net" "LArcOrder$Net;", Cond.fieldLink RX8 16 "ArcOrder" "aside" "LArcOrder$Net;", Cond.classLink RX8 19 RX7, Cond.instantiable RX7 6, Cond.initialized RX7, Cond.fieldLink RX8 22 "ArcOrder" "text" "LArcOrder$Text;", Cond.classLink RX8 26 RX0, Cond.instantiable RX0 3]
def wsL_law_r2 : List Cond := [Cond.initialized RX0, Cond.fieldLink RX8 29 "ArcOrder" "list" "LArcOrder$ArcList;", Cond.classLink RX8 33 RX4, Cond.instantiable RX4 2, Cond.initialized RX4, Cond.fieldLink RX8 36 "ArcOrder" "past" "LArcOrder$Past;", Cond.classLink RX8 40 RX2, Cond.instantiable RX2 3, Cond.initialized RX2, Cond.fieldLink RX8 43 "ArcOrder" "ring" "LArcOrder$Lap;", Cond.classLink RX8 47 RX5, Cond.instantiable RX5 6, Cond.initialized RX5, Cond.fieldLink RX8 50 "ArcOrder" "sight" "LArcOrder$Sight;", Cond.classLink RX8 54 RX6, Cond.instantiable RX6 3, Cond.initialized RX6, Cond.fieldLink RX8 57 "ArcOrder" "tally" "LArcOrder$Tally;", Cond.classLink RX8 61 RX1, Cond.instantiable RX1 1, Cond.initialized RX1, Cond.fieldLink RX8 64 "ArcOrder" "calendar" "LArcOrder$Calendar;", Cond.fieldLink RX8 68 "ArcOrder" "images" "[LArcOrder$Net;", Cond.arrayClass .boolean]
def wsL_law_r3 : List Cond := [Cond.fieldLink RX8 72 "ArcOrder" "imageKept" "[Z", Cond.methodLink RX8 9 yX3_init, Cond.instanceMethod yX3_init, Cond.code yX3_init cX3_init 1 none, Cond.methodLink RX3 3 objectInit, Cond.arrayClass .int, Cond.fieldLink RX3 9 "ArcOrder$Net" "out" "[I", Cond.fieldLink RX3 15 "ArcOrder$Net" "in" "[I", Cond.fieldLink RX3 18 "ArcOrder$Net" "order" "[I", Cond.fieldLink RX3 21 "ArcOrder$Net" "place" "[I", Cond.fieldLink RX3 24 "ArcOrder$Net" "movers" "[I", Cond.methodLink RX3 27 yX3_begin, Cond.instanceMethod yX3_begin, Cond.selects RX3 yX3_begin yX3_begin, Cond.code yX3_begin cX3_begin 3 none, Cond.fieldLink RX3 31 "ArcOrder$Net" "items" "I", Cond.fieldLink RX3 35 "ArcOrder$Net" "arcs" "I", Cond.instanceMethod yX7_init, Cond.code yX7_init cX7_init 1 none, Cond.methodLink RX7 3 objectInit, Cond.fieldLink RX7 9 "ArcOrder$Text" "letters" "[I", Cond.instanceMethod yX0_init, Cond.code yX0_init cX0_init 1 none, Cond.methodLink RX0 3 objectInit]
def wsL_law_r4 : List Cond := [Cond.fieldLink RX0 9 "ArcOrder$ArcList" "from" "[I", Cond.fieldLink RX0 15 "ArcOrder$ArcList" "to" "[I", Cond.methodLink RX8 35 yX4_init, Cond.instanceMethod yX4_init, Cond.code yX4_init cX4_init 2 none, Cond.methodLink RX4 3 objectInit, Cond.classLink RX4 9 RX3, Cond.fieldLink RX4 11 "ArcOrder$Past" "nets" "[LArcOrder$Net;", Cond.methodLink RX4 17 yX3_init, Cond.instanceMethod yX2_init, Cond.code yX2_init cX2_init 1 none, Cond.methodLink RX2 3 objectInit, Cond.fieldLink RX2 9 "ArcOrder$Lap" "items" "[I", Cond.fieldLink RX2 15 "ArcOrder$Lap" "steps" "[I", Cond.instanceMethod yX5_init, Cond.code yX5_init cX5_init 1 none, Cond.methodLink RX5 3 objectInit, Cond.fieldLink RX5 9 "ArcOrder$Sight" "movers" "[I", Cond.instanceMethod yX6_init, Cond.code yX6_init cX6_init 1 none, Cond.methodLink RX6 3 objectInit, Cond.arrayClass .long, Cond.fieldLink RX6 9 "ArcOrder$Tally" "ways" "[J", Cond.classLink RX6 15 RX3]
def wsL_law_r5 : List Cond := [Cond.fieldLink RX6 18 "ArcOrder$Tally" "counted" "LArcOrder$Net;", Cond.methodLink RX6 17 yX3_init, Cond.instanceMethod yX1_init, Cond.code yX1_init cX1_init 1 none, Cond.methodLink RX1 3 objectInit, Cond.fieldLink RX1 9 "ArcOrder$Calendar" "fewest" "[I", Cond.methodLink RL 12 yX9_init, Cond.instanceMethod yX9_init, Cond.code yX9_init cX9_init 1 none, Cond.methodLink RX9 1 objectInit, Cond.fieldLink RX9 7 "ArcOrderModel" "text" "[I", Cond.fieldLink RX9 13 "ArcOrderModel" "draft" "[I", Cond.fieldLink RX9 16 "ArcOrderModel" "s" "[I", Cond.fieldLink RX9 19 "ArcOrderModel" "w" "[I", Cond.fieldLink RX9 22 "ArcOrderModel" "was" "[I", Cond.fieldLink RX9 25 "ArcOrderModel" "kept" "[I", Cond.fieldLink RX9 28 "ArcOrderModel" "isKept" "[Z", Cond.fieldLink RX9 32 "ArcOrderModel" "undos" "[I", Cond.fieldLink RX9 35 "ArcOrderModel" "listFrom" "[I", Cond.fieldLink RX9 38 "ArcOrderModel" "listTo" "[I", Cond.fieldLink RX9 41 "ArcOrderModel" "ring" "[I", Cond.fieldLink RX9 44 "ArcOrderModel" "seenItem" "[I", Cond.fieldLink RX9 47 "ArcOrderModel" "seenMoved" "[I", Cond.fieldLink RX9 50 "ArcOrderModel" "far" "[I"]
def wsL_law_r6 : List Cond := [Cond.fieldLink RX9 53 "ArcOrderModel" "ways" "[J", Cond.fieldLink RX9 57 "ArcOrderModel" "day" "[I", Cond.fieldLink RX9 60 "ArcOrderModel" "order" "[I", Cond.fieldLink RX9 63 "ArcOrderModel" "tried" "[I", Cond.fieldLink RX9 66 "ArcOrderModel" "movedIf" "[I", Cond.methodLink RX9 69 yX9_begins, Cond.instanceMethod yX9_begins, Cond.selects RX9 yX9_begins yX9_begins, Cond.code yX9_begins cX9_begins 2 none, Cond.fieldLink RX9 112 "ArcOrderModel" "draftItems" "I", Cond.methodLink RX9 72 yX9_settles, Cond.instanceMethod yX9_settles, Cond.selects RX9 yX9_settles yX9_settles, Cond.code yX9_settles cX9_settles 1 none, Cond.fieldLink RX9 145 "ArcOrderModel" "items" "I", Cond.fieldLink RX9 83 "ArcOrderModel" "typed" "I", Cond.fieldLink RX9 152 "ArcOrderModel" "listed" "I", Cond.fieldLink RX9 155 "ArcOrderModel" "seenMany" "I", Cond.fieldLink RX9 158 "ArcOrderModel" "undoMany" "I", Cond.methodLink RX9 148 yX9_copies, Cond.static yX9_copies, Cond.code yX9_copies cX9_copies 3 none, Cond.methodLink RL 13 yX8_type, Cond.instanceMethod yX8_type]
def wsL_law_r7 : List Cond := [Cond.selects RX8 yX8_type yX8_type, Cond.code yX8_type cX8_type 2 (some .int), Cond.fieldLink RX8 80 "ArcOrder$Text" "length" "I", Cond.methodLink RX8 76 yX7_append, Cond.instanceMethod yX7_append, Cond.selects RX7 yX7_append yX7_append, Cond.code yX7_append cX7_append 2 (some .boolean), Cond.fieldLink RX7 15 "ArcOrder$Text" "length" "I", Cond.methodLink RL 17 yX9_type, Cond.instanceMethod yX9_type, Cond.selects RX9 yX9_type yX9_type, Cond.code yX9_type cX9_type 2 (some .int), Cond.fieldLink RX9 75 "ArcOrderModel" "thrown" "I", Cond.methodLink RX9 79 yX9_in, Cond.static yX9_in, Cond.code yX9_in cX9_in 3 (some .boolean), Cond.methodLink RL 18 yX8_clear, Cond.instanceMethod yX8_clear, Cond.selects RX8 yX8_clear yX8_clear, Cond.code yX8_clear cX8_clear 2 (some .int), Cond.methodLink RL 22 yX9_clear, Cond.instanceMethod yX9_clear, Cond.selects RX9 yX9_clear yX9_clear, Cond.code yX9_clear cX9_clear 2 (some .int)]
def wsL_law_r8 : List Cond := [Cond.methodLink RL 23 yX8_store, Cond.instanceMethod yX8_store, Cond.selects RX8 yX8_store yX8_store, Cond.code yX8_store cX8_store 3 (some .int), Cond.fieldLink RX8 92 "ArcOrder$ArcList" "size" "I", Cond.fieldLink RX8 95 "ArcOrder$Past" "size" "I", Cond.methodLink RX8 84 yX7_readInto, Cond.instanceMethod yX7_readInto, Cond.selects RX7 yX7_readInto yX7_readInto, Cond.code yX7_readInto cX7_readInto 4 (some .int), Cond.fieldLink RX7 25 "ArcOrder$Text" "tokenEnd" "I", Cond.fieldLink RX7 31 "ArcOrder$Text" "token" "C", Cond.fieldLink RX7 39 "ArcOrder$Text" "tokenStart" "I", Cond.methodLink RX7 19 yX3_begin, Cond.methodLink RX7 28 yX7_nextToken, Cond.instanceMethod yX7_nextToken, Cond.selects RX7 yX7_nextToken yX7_nextToken, Cond.code yX7_nextToken cX7_nextToken 3 none, Cond.methodLink RX7 66 yX7_isDigit, Cond.instanceMethod yX7_isDigit, Cond.selects RX7 yX7_isDigit yX7_isDigit, Cond.code yX7_isDigit cX7_isDigit 2 (some .boolean), Cond.methodLink RX7 70 yX7_readDigits, Cond.instanceMethod yX7_readDigits]
def wsL_law_r9 : List Cond := [Cond.selects RX7 yX7_readDigits yX7_readDigits, Cond.code yX7_readDigits cX7_readDigits 2 none, Cond.fieldLink RX7 53 "ArcOrder$Text" "value" "I", Cond.methodLink RX7 73 Lib.Math.min.name, Cond.static Lib.Math.min.name, Cond.initialized "java/lang/Math", Cond.code Lib.Math.min.name Lib.Math.min.code 2 (some .int), Cond.methodLink RX7 35 yX7_readEntry, Cond.instanceMethod yX7_readEntry, Cond.selects RX7 yX7_readEntry yX7_readEntry, Cond.code yX7_readEntry cX7_readEntry 4 (some .boolean), Cond.methodLink RX7 42 yX7_readItems, Cond.instanceMethod yX7_readItems, Cond.selects RX7 yX7_readItems yX7_readItems, Cond.code yX7_readItems cX7_readItems 2 (some .boolean), Cond.methodLink RX7 49 yX7_readNumber, Cond.instanceMethod yX7_readNumber, Cond.selects RX7 yX7_readNumber yX7_readNumber, Cond.code yX7_readNumber cX7_readNumber 3 (some .boolean), Cond.methodLink RX7 46 yX7_readArc, Cond.instanceMethod yX7_readArc, Cond.selects RX7 yX7_readArc yX7_readArc, Cond.code yX7_readArc cX7_readArc 3 (some .boolean), Cond.fieldLink RX7 56 "ArcOrder$Net" "items" "I"]
def wsL_law_r10 : List Cond := [Cond.methodLink RX7 59 yX3_canTake, Cond.instanceMethod yX3_canTake, Cond.selects RX3 yX3_canTake yX3_canTake, Cond.code yX3_canTake cX3_canTake 3 (some .boolean), Cond.methodLink RX3 52 yX3_isPair, Cond.instanceMethod yX3_isPair, Cond.selects RX3 yX3_isPair yX3_isPair, Cond.code yX3_isPair cX3_isPair 3 (some .boolean), Cond.methodLink RX3 44 yX3_isItem, Cond.instanceMethod yX3_isItem, Cond.selects RX3 yX3_isItem yX3_isItem, Cond.code yX3_isItem cX3_isItem 2 (some .boolean), Cond.methodLink RX3 55 yX3_has, Cond.instanceMethod yX3_has, Cond.selects RX3 yX3_has yX3_has, Cond.code yX3_has cX3_has 3 (some .boolean), Cond.static yX8_holdsBit, Cond.code yX8_holdsBit cX8_holdsBit 2 (some .boolean), Cond.methodLink RX3 58 yX3_closesRing, Cond.instanceMethod yX3_closesRing, Cond.selects RX3 yX3_closesRing yX3_closesRing, Cond.code yX3_closesRing cX3_closesRing 3 (some .boolean), Cond.methodLink RX3 61 yX3_sweepOn, Cond.instanceMethod yX3_sweepOn]
def wsL_law_r11 : List Cond := [Cond.selects RX3 yX3_sweepOn yX3_sweepOn, Cond.code yX3_sweepOn cX3_sweepOn 6 (some .int), Cond.methodLink RX7 62 yX3_put, Cond.instanceMethod yX3_put, Cond.selects RX3 yX3_put yX3_put, Cond.code yX3_put cX3_put 5 (some .int), Cond.methodLink RX3 68 yX3_before, Cond.instanceMethod yX3_before, Cond.selects RX3 yX3_before yX3_before, Cond.code yX3_before cX3_before 3 (some .int), Cond.methodLink RX3 65 yX3_sweepBack, Cond.instanceMethod yX3_sweepBack, Cond.selects RX3 yX3_sweepBack yX3_sweepBack, Cond.code yX3_sweepBack cX3_sweepBack 6 (some .int), Cond.methodLink RX3 71 yX3_after, Cond.instanceMethod yX3_after, Cond.selects RX3 yX3_after yX3_after, Cond.code yX3_after cX3_after 3 (some .int), Cond.methodLink RX3 74 yX3_rearrange, Cond.instanceMethod yX3_rearrange, Cond.selects RX3 yX3_rearrange yX3_rearrange, Cond.code yX3_rearrange cX3_rearrange 5 none, Cond.methodLink RX3 84 yX3_gather, Cond.instanceMethod yX3_gather]
def wsL_law_r12 : List Cond := [Cond.selects RX3 yX3_gather yX3_gather, Cond.code yX3_gather cX3_gather 5 (some .int), Cond.methodLink RX3 87 yX3_stand, Cond.instanceMethod yX3_stand, Cond.selects RX3 yX3_stand yX3_stand, Cond.code yX3_stand cX3_stand 3 none, Cond.methodLink RX3 78 yJ6_bitCount_0f7a4, Cond.static yJ6_bitCount_0f7a4, Cond.initialized RJ6, Cond.code yJ6_bitCount_0f7a4 cJ6_bitCount_0f7a4 1 (some .int), Cond.constant RJ6 265 (1431655765), Cond.constant RJ6 266 (858993459), Cond.constant RJ6 267 (252645135), Cond.methodLink RX8 88 yX3_copyOf, Cond.instanceMethod yX3_copyOf, Cond.selects RX3 yX3_copyOf yX3_copyOf, Cond.code yX3_copyOf cX3_copyOf 2 none, Cond.methodLink RX3 38 arraycopyName, Cond.native arraycopyName, Cond.static arraycopyName, Cond.initialized "java/lang/System", Cond.methodLink RX8 96 yX5_empty, Cond.instanceMethod yX5_empty, Cond.selects RX5 yX5_empty yX5_empty]
def wsL_law_r13 : List Cond := [Cond.code yX5_empty cX5_empty 1 none, Cond.fieldLink RX5 15 "ArcOrder$Sight" "size" "I", Cond.fieldLink RX5 19 "ArcOrder$Sight" "mustMove" "I", Cond.fieldLink RX5 22 "ArcOrder$Sight" "mustStay" "I", Cond.methodLink RL 26 yX9_store, Cond.instanceMethod yX9_store, Cond.selects RX9 yX9_store yX9_store, Cond.code yX9_store cX9_store 3 (some .int), Cond.fieldLink RX9 102 "ArcOrderModel" "fault" "I", Cond.fieldLink RX9 86 "ArcOrderModel" "spot" "I", Cond.fieldLink RX9 96 "ArcOrderModel" "token" "I", Cond.fieldLink RX9 99 "ArcOrderModel" "value" "I", Cond.methodLink RX9 109 yX9_advances, Cond.instanceMethod yX9_advances, Cond.selects RX9 yX9_advances yX9_advances, Cond.code yX9_advances cX9_advances 2 none, Cond.fieldLink RX9 93 "ArcOrderModel" "start" "I", Cond.methodLink RX9 89 yX9_letterAt, Cond.instanceMethod yX9_letterAt, Cond.selects RX9 yX9_letterAt yX9_letterAt, Cond.code yX9_letterAt cX9_letterAt 2 (some .int), Cond.methodLink RX9 105 yX9_isWell, Cond.instanceMethod yX9_isWell, Cond.selects RX9 yX9_isWell yX9_isWell]
def wsL_law_r14 : List Cond := [Cond.code yX9_isWell cX9_isWell 1 (some .boolean), Cond.methodLink RX9 130 yX9_takes, Cond.instanceMethod yX9_takes, Cond.selects RX9 yX9_takes yX9_takes, Cond.code yX9_takes cX9_takes 3 (some .int), Cond.methodLink RX9 141 yX9_readsEntry, Cond.instanceMethod yX9_readsEntry, Cond.selects RX9 yX9_readsEntry yX9_readsEntry, Cond.code yX9_readsEntry cX9_readsEntry 4 none, Cond.methodLink RX9 115 yX9_isNumber, Cond.instanceMethod yX9_isNumber, Cond.selects RX9 yX9_isNumber yX9_isNumber, Cond.code yX9_isNumber cX9_isNumber 3 (some .boolean), Cond.methodLink RX9 134 yX9_canBe, Cond.instanceMethod yX9_canBe, Cond.selects RX9 yX9_canBe yX9_canBe, Cond.code yX9_canBe cX9_canBe 2 (some .boolean), Cond.fieldLink RX9 126 "ArcOrderModel" "closes" "Z", Cond.methodLink RX9 119 yX9_has, Cond.static yX9_has, Cond.code yX9_has cX9_has 2 (some .boolean), Cond.methodLink RX9 122 yX9_looks, Cond.instanceMethod yX9_looks, Cond.selects RX9 yX9_looks yX9_looks]
def wsL_law_r15 : List Cond := [Cond.code yX9_looks cX9_looks 8 none, Cond.fieldLink RX9 164 "ArcOrderModel" "before" "I", Cond.fieldLink RX9 167 "ArcOrderModel" "after" "I", Cond.methodLink RX9 138 yX9_lays, Cond.instanceMethod yX9_lays, Cond.selects RX9 yX9_lays yX9_lays, Cond.code yX9_lays cX9_lays 5 none, Cond.methodLink RX9 174 yX9_moves, Cond.instanceMethod yX9_moves, Cond.selects RX9 yX9_moves yX9_moves, Cond.code yX9_moves cX9_moves 8 none, Cond.methodLink RX9 170 yX9_itemAt, Cond.static yX9_itemAt, Cond.code yX9_itemAt cX9_itemAt 4 (some .int), Cond.methodLink RL 27 yX8_item, Cond.instanceMethod yX8_item, Cond.selects RX8 yX8_item yX8_item, Cond.code yX8_item cX8_item 3 (some .int), Cond.fieldLink RX8 102 "ArcOrder$Net" "place" "[I", Cond.fieldLink RX8 106 "ArcOrder$Net" "out" "[I", Cond.fieldLink RX8 109 "ArcOrder$Net" "in" "[I", Cond.fieldLink RX8 121 "ArcOrder$Net" "items" "I", Cond.methodLink RX8 99 yX3_isItem, Cond.methodLink RX8 112 yX3_allAheadOf]
def wsL_law_r16 : List Cond := [Cond.instanceMethod yX3_allAheadOf, Cond.selects RX3 yX3_allAheadOf yX3_allAheadOf, Cond.code yX3_allAheadOf cX3_allAheadOf 2 (some .int), Cond.methodLink RX8 116 yJ6_bitCount_0f7a4, Cond.methodLink RX8 124 yX3_allBehind, Cond.instanceMethod yX3_allBehind, Cond.selects RX3 yX3_allBehind yX3_allBehind, Cond.code yX3_allBehind cX3_allBehind 2 (some .int), Cond.methodLink RL 31 yX9_item, Cond.instanceMethod yX9_item, Cond.selects RX9 yX9_item yX9_item, Cond.code yX9_item cX9_item 3 (some .int), Cond.methodLink RX9 161 yX9_isItem, Cond.instanceMethod yX9_isItem, Cond.selects RX9 yX9_isItem yX9_isItem, Cond.code yX9_isItem cX9_isItem 2 (some .boolean), Cond.methodLink RX9 188 yX9_into, Cond.instanceMethod yX9_into, Cond.selects RX9 yX9_into yX9_into, Cond.code yX9_into cX9_into 4 (some .int), Cond.methodLink RX9 191 yX9_ahead, Cond.instanceMethod yX9_ahead, Cond.selects RX9 yX9_ahead yX9_ahead, Cond.code yX9_ahead cX9_ahead 4 (some .int)]
def wsL_law_r17 : List Cond := [Cond.methodLink RX9 185 yX9_behind, Cond.instanceMethod yX9_behind, Cond.selects RX9 yX9_behind yX9_behind, Cond.code yX9_behind cX9_behind 5 (some .int), Cond.methodLink RX9 194 yX9_ones, Cond.static yX9_ones, Cond.code yX9_ones cX9_ones 3 (some .int), Cond.methodLink RL 32 yX8_at, Cond.instanceMethod yX8_at, Cond.selects RX8 yX8_at yX8_at, Cond.code yX8_at cX8_at 2 (some .int), Cond.fieldLink RX8 127 "ArcOrder$Net" "order" "[I", Cond.methodLink RL 35 yX9_at, Cond.instanceMethod yX9_at, Cond.selects RX9 yX9_at yX9_at, Cond.code yX9_at cX9_at 2 (some .int), Cond.methodLink RL 36 yX8_now, Cond.instanceMethod yX8_now, Cond.selects RX8 yX8_now yX8_now, Cond.code yX8_now cX8_now 2 (some .int), Cond.fieldLink RX8 130 "ArcOrder$Net" "arcs" "I", Cond.methodLink RX8 133 yX8_freeArcs, Cond.instanceMethod yX8_freeArcs, Cond.selects RX8 yX8_freeArcs yX8_freeArcs]
def wsL_law_r18 : List Cond := [Cond.code yX8_freeArcs cX8_freeArcs 4 (some .int), Cond.methodLink RX8 240 yX3_canTake, Cond.methodLink RX8 196 yX3_movedBy, Cond.instanceMethod yX3_movedBy, Cond.selects RX3 yX3_movedBy yX3_movedBy, Cond.code yX3_movedBy cX3_movedBy 3 (some .int), Cond.methodLink RX8 137 yX8_arcMovingMost, Cond.instanceMethod yX8_arcMovingMost, Cond.selects RX8 yX8_arcMovingMost yX8_arcMovingMost, Cond.code yX8_arcMovingMost cX8_arcMovingMost 6 (some .int), Cond.methodLink RX8 243 yX8_codeOf, Cond.static yX8_codeOf, Cond.code yX8_codeOf cX8_codeOf 2 (some .int), Cond.methodLink RX8 140 yX3_longestChain, Cond.instanceMethod yX3_longestChain, Cond.selects RX3 yX3_longestChain yX3_longestChain, Cond.code yX3_longestChain cX3_longestChain 4 (some .int), Cond.methodLink RX3 93 yX3_everyItem, Cond.instanceMethod yX3_everyItem, Cond.selects RX3 yX3_everyItem yX3_everyItem, Cond.code yX3_everyItem cX3_everyItem 1 (some .int), Cond.methodLink RX3 97 yX3_allReady, Cond.instanceMethod yX3_allReady, Cond.selects RX3 yX3_allReady yX3_allReady]
def wsL_law_r19 : List Cond := [Cond.code yX3_allReady cX3_allReady 4 (some .int), Cond.methodLink RX3 90 yX3_isReady, Cond.instanceMethod yX3_isReady, Cond.selects RX3 yX3_isReady yX3_isReady, Cond.code yX3_isReady cX3_isReady 3 (some .boolean), Cond.methodLink RX8 143 yX8_spareArcs, Cond.instanceMethod yX8_spareArcs, Cond.selects RX8 yX8_spareArcs yX8_spareArcs, Cond.code yX8_spareArcs cX8_spareArcs 5 (some .int), Cond.methodLink RX8 150 yX3_has, Cond.methodLink RL 39 yX9_now, Cond.instanceMethod yX9_now, Cond.selects RX9 yX9_now yX9_now, Cond.code yX9_now cX9_now 2 (some .int), Cond.methodLink RX9 204 yX9_arcs, Cond.instanceMethod yX9_arcs, Cond.selects RX9 yX9_arcs yX9_arcs, Cond.code yX9_arcs cX9_arcs 3 (some .int), Cond.methodLink RX9 208 yX9_free, Cond.instanceMethod yX9_free, Cond.selects RX9 yX9_free yX9_free, Cond.code yX9_free cX9_free 4 (some .int), Cond.methodLink RX9 211 yX9_most, Cond.instanceMethod yX9_most]
def wsL_law_r20 : List Cond := [Cond.selects RX9 yX9_most yX9_most, Cond.code yX9_most cX9_most 6 (some .int), Cond.methodLink RX9 197 yX9_movedBy, Cond.instanceMethod yX9_movedBy, Cond.selects RX9 yX9_movedBy yX9_movedBy, Cond.code yX9_movedBy cX9_movedBy 3 (some .int), Cond.methodLink RX9 178 yX9_moved, Cond.instanceMethod yX9_moved, Cond.selects RX9 yX9_moved yX9_moved, Cond.code yX9_moved cX9_moved 5 (some .int), Cond.methodLink RX9 214 yX9_chain, Cond.instanceMethod yX9_chain, Cond.selects RX9 yX9_chain yX9_chain, Cond.code yX9_chain cX9_chain 5 (some .int), Cond.methodLink RX9 217 yX9_spares, Cond.instanceMethod yX9_spares, Cond.selects RX9 yX9_spares yX9_spares, Cond.code yX9_spares cX9_spares 4 (some .int), Cond.methodLink RX9 201 yX9_isSpare, Cond.instanceMethod yX9_isSpare, Cond.selects RX9 yX9_isSpare yX9_isSpare, Cond.code yX9_isSpare cX9_isSpare 5 (some .boolean), Cond.methodLink RL 40 yX8_puts, Cond.instanceMethod yX8_puts]
def wsL_law_r21 : List Cond := [Cond.selects RX8 yX8_puts yX8_puts, Cond.code yX8_puts cX8_puts 3 (some .int), Cond.methodLink RX8 146 yX3_isPair, Cond.methodLink RX8 153 yX3_closesRing, Cond.methodLink RX8 156 yX2_trace, Cond.instanceMethod yX2_trace, Cond.selects RX2 yX2_trace yX2_trace, Cond.code yX2_trace cX2_trace 6 none, Cond.fieldLink RX2 22 "ArcOrder$Lap" "length" "I", Cond.methodLink RX2 18 yX2_measure, Cond.instanceMethod yX2_measure, Cond.selects RX2 yX2_measure yX2_measure, Cond.code yX2_measure cX2_measure 6 none, Cond.fieldLink RX2 36 "ArcOrder$Net" "place" "[I", Cond.fieldLink RX2 41 "ArcOrder$Net" "order" "[I", Cond.fieldLink RX2 44 "ArcOrder$Net" "items" "I", Cond.methodLink RX2 50 Lib.Math.min.name, Cond.methodLink RX2 30 yJ7_fill_53178, Cond.static yJ7_fill_53178, Cond.initialized RJ7, Cond.code yJ7_fill_53178 cJ7_fill_53178 4 none, Cond.methodLink RX2 46 yX3_has, Cond.methodLink RX2 26 yX2_lowestNext, Cond.instanceMethod yX2_lowestNext]
def wsL_law_r22 : List Cond := [Cond.selects RX2 yX2_lowestNext yX2_lowestNext, Cond.code yX2_lowestNext cX2_lowestNext 5 (some .int), Cond.methodLink RX8 160 yX4_push, Cond.instanceMethod yX4_push, Cond.selects RX4 yX4_push yX4_push, Cond.code yX4_push cX4_push 2 none, Cond.fieldLink RX4 18 "ArcOrder$Past" "size" "I", Cond.methodLink RX4 22 yX4_loseOldest, Cond.instanceMethod yX4_loseOldest, Cond.selects RX4 yX4_loseOldest yX4_loseOldest, Cond.code yX4_loseOldest cX4_loseOldest 3 none, Cond.methodLink RX4 25 yX3_copyOf, Cond.methodLink RX8 163 yX3_put, Cond.methodLink RL 43 yX9_puts, Cond.instanceMethod yX9_puts, Cond.selects RX9 yX9_puts yX9_puts, Cond.code yX9_puts cX9_puts 4 (some .int), Cond.methodLink RX9 220 yX9_isTwo, Cond.instanceMethod yX9_isTwo, Cond.selects RX9 yX9_isTwo yX9_isTwo, Cond.code yX9_isTwo cX9_isTwo 3 (some .boolean), Cond.methodLink RX9 223 yX9_rings, Cond.instanceMethod yX9_rings, Cond.selects RX9 yX9_rings yX9_rings]
def wsL_law_r23 : List Cond := [Cond.code yX9_rings cX9_rings 7 none, Cond.fieldLink RX9 182 "ArcOrderModel" "ringMany" "I", Cond.methodLink RX9 227 yX9_notes, Cond.instanceMethod yX9_notes, Cond.selects RX9 yX9_notes yX9_notes, Cond.code yX9_notes cX9_notes 2 none, Cond.methodLink RL 44 yX8_lists, Cond.instanceMethod yX8_lists, Cond.selects RX8 yX8_lists yX8_lists, Cond.code yX8_lists cX8_lists 3 (some .int), Cond.methodLink RX8 167 yX0_holds, Cond.instanceMethod yX0_holds, Cond.selects RX0 yX0_holds yX0_holds, Cond.code yX0_holds cX0_holds 4 (some .boolean), Cond.fieldLink RX0 18 "ArcOrder$ArcList" "size" "I", Cond.methodLink RX8 170 yX0_append, Cond.instanceMethod yX0_append, Cond.selects RX0 yX0_append yX0_append, Cond.code yX0_append cX0_append 3 (some .boolean), Cond.methodLink RL 47 yX9_lists, Cond.instanceMethod yX9_lists, Cond.selects RX9 yX9_lists yX9_lists, Cond.code yX9_lists cX9_lists 5 (some .int), Cond.methodLink RL 48 yX8_adds]
def wsL_law_r24 : List Cond := [Cond.instanceMethod yX8_adds, Cond.selects RX8 yX8_adds yX8_adds, Cond.code yX8_adds cX8_adds 2 (some .int), Cond.methodLink RX8 172 yX0_isAnyIn, Cond.instanceMethod yX0_isAnyIn, Cond.selects RX0 yX0_isAnyIn yX0_isAnyIn, Cond.code yX0_isAnyIn cX0_isAnyIn 3 (some .boolean), Cond.methodLink RX0 22 yX3_has, Cond.methodLink RX8 176 yX8_putListed, Cond.instanceMethod yX8_putListed, Cond.selects RX8 yX8_putListed yX8_putListed, Cond.code yX8_putListed cX8_putListed 4 (some .boolean), Cond.fieldLink RX8 234 "ArcOrder$ArcList" "from" "[I", Cond.fieldLink RX8 237 "ArcOrder$ArcList" "to" "[I", Cond.methodLink RX8 180 yX3_placesUnlike, Cond.instanceMethod yX3_placesUnlike, Cond.selects RX3 yX3_placesUnlike yX3_placesUnlike, Cond.code yX3_placesUnlike cX3_placesUnlike 4 (some .int), Cond.methodLink RL 51 yX9_adds, Cond.instanceMethod yX9_adds, Cond.selects RX9 yX9_adds yX9_adds, Cond.code yX9_adds cX9_adds 3 (some .int), Cond.methodLink RL 52 yX8_cuts, Cond.instanceMethod yX8_cuts]
def wsL_law_r25 : List Cond := [Cond.selects RX8 yX8_cuts yX8_cuts, Cond.code yX8_cuts cX8_cuts 3 (some .int), Cond.methodLink RX8 183 yX3_part, Cond.instanceMethod yX3_part, Cond.selects RX3 yX3_part yX3_part, Cond.code yX3_part cX3_part 3 none, Cond.methodLink RL 55 yX9_cuts, Cond.instanceMethod yX9_cuts, Cond.selects RX9 yX9_cuts yX9_cuts, Cond.code yX9_cuts cX9_cuts 3 (some .int), Cond.methodLink RL 56 yX8_sorts, Cond.instanceMethod yX8_sorts, Cond.selects RX8 yX8_sorts yX8_sorts, Cond.code yX8_sorts cX8_sorts 1 (some .int), Cond.methodLink RX8 187 yX3_sort, Cond.instanceMethod yX3_sort, Cond.selects RX3 yX3_sort yX3_sort, Cond.code yX3_sort cX3_sort 4 none, Cond.methodLink RL 59 yX9_sorts, Cond.instanceMethod yX9_sorts, Cond.selects RX9 yX9_sorts yX9_sorts, Cond.code yX9_sorts cX9_sorts 2 (some .int), Cond.methodLink RX9 230 yX9_counts, Cond.instanceMethod yX9_counts]
def wsL_law_r26 : List Cond := [Cond.selects RX9 yX9_counts yX9_counts, Cond.code yX9_counts cX9_counts 4 none, Cond.methodLink RX9 237 yX9_canNext, Cond.instanceMethod yX9_canNext, Cond.selects RX9 yX9_canNext yX9_canNext, Cond.code yX9_canNext cX9_canNext 3 (some .boolean), Cond.methodLink RX9 233 yX9_orderOf, Cond.instanceMethod yX9_orderOf, Cond.selects RX9 yX9_orderOf yX9_orderOf, Cond.code yX9_orderOf cX9_orderOf 8 none, Cond.methodLink RL 60 yX8_undo, Cond.instanceMethod yX8_undo, Cond.selects RX8 yX8_undo yX8_undo, Cond.code yX8_undo cX8_undo 1 (some .int), Cond.methodLink RX8 190 yX4_pop, Cond.instanceMethod yX4_pop, Cond.selects RX4 yX4_pop yX4_pop, Cond.code yX4_pop cX4_pop 2 (some .boolean), Cond.methodLink RL 63 yX9_undo, Cond.instanceMethod yX9_undo, Cond.selects RX9 yX9_undo yX9_undo, Cond.code yX9_undo cX9_undo 2 (some .int), Cond.methodLink RL 64 yX8_lap, Cond.instanceMethod yX8_lap]
def wsL_law_r27 : List Cond := [Cond.selects RX8 yX8_lap yX8_lap, Cond.code yX8_lap cX8_lap 2 (some .int), Cond.fieldLink RX8 193 "ArcOrder$Lap" "length" "I", Cond.fieldLink RX8 194 "ArcOrder$Lap" "items" "[I", Cond.methodLink RL 67 yX9_lap, Cond.instanceMethod yX9_lap, Cond.selects RX9 yX9_lap yX9_lap, Cond.code yX9_lap cX9_lap 2 (some .int), Cond.methodLink RL 68 yX8_arc, Cond.instanceMethod yX8_arc, Cond.selects RX8 yX8_arc yX8_arc, Cond.code yX8_arc cX8_arc 4 (some .int), Cond.methodLink RX8 199 yX3_before, Cond.methodLink RX8 202 yX3_after, Cond.methodLink RL 72 yX9_arc, Cond.instanceMethod yX9_arc, Cond.selects RX9 yX9_arc yX9_arc, Cond.code yX9_arc cX9_arc 5 (some .int), Cond.methodLink RL 73 yX8_orders, Cond.instanceMethod yX8_orders, Cond.selects RX8 yX8_orders yX8_orders, Cond.code yX8_orders cX8_orders 1 (some .long), Cond.methodLink RX8 205 yX6_all, Cond.instanceMethod yX6_all]
def wsL_law_r28 : List Cond := [Cond.selects RX6 yX6_all yX6_all, Cond.code yX6_all cX6_all 2 (some .long), Cond.methodLink RX6 50 yX6_prepare, Cond.instanceMethod yX6_prepare, Cond.selects RX6 yX6_prepare yX6_prepare, Cond.code yX6_prepare cX6_prepare 4 none, Cond.fieldLink RX6 22 "ArcOrder$Tally" "isCounted" "Z", Cond.methodLink RX6 26 yX3_hasArcsOf, Cond.instanceMethod yX3_hasArcsOf, Cond.selects RX3 yX3_hasArcsOf yX3_hasArcsOf, Cond.code yX3_hasArcsOf cX3_hasArcsOf 3 (some .boolean), Cond.methodLink RX6 30 yX3_everyItem, Cond.methodLink RX6 34 yX6_waysOn, Cond.instanceMethod yX6_waysOn, Cond.selects RX6 yX6_waysOn yX6_waysOn, Cond.code yX6_waysOn cX6_waysOn 6 (some .long), Cond.fieldLink RX6 42 "ArcOrder$Net" "items" "I", Cond.methodLink RX6 46 yX3_isReady, Cond.methodLink RX6 38 yX3_copyOf, Cond.methodLink RL 77 yX9_orders, Cond.instanceMethod yX9_orders, Cond.selects RX9 yX9_orders yX9_orders, Cond.code yX9_orders cX9_orders 1 (some .long), Cond.methodLink RL 78 yX8_number]
def wsL_law_r29 : List Cond := [Cond.instanceMethod yX8_number, Cond.selects RX8 yX8_number yX8_number, Cond.code yX8_number cX8_number 1 (some .long), Cond.methodLink RX8 209 yX6_rank, Cond.instanceMethod yX6_rank, Cond.selects RX6 yX6_rank yX6_rank, Cond.code yX6_rank cX6_rank 8 (some .long), Cond.fieldLink RX6 53 "ArcOrder$Net" "order" "[I", Cond.methodLink RL 81 yX9_number, Cond.instanceMethod yX9_number, Cond.selects RX9 yX9_number yX9_number, Cond.code yX9_number cX9_number 7 (some .long), Cond.methodLink RL 84 yX8_kth, Cond.instanceMethod yX8_kth, Cond.selects RX8 yX8_kth yX8_kth, Cond.code yX8_kth cX8_kth 4 (some .int), Cond.methodLink RX8 212 yX6_itemOf, Cond.instanceMethod yX6_itemOf, Cond.selects RX6 yX6_itemOf yX6_itemOf, Cond.code yX6_itemOf cX6_itemOf 11 (some .int), Cond.methodLink RX6 57 yX6_all, Cond.methodLink RL 88 yX9_kth, Cond.instanceMethod yX9_kth, Cond.selects RX9 yX9_kth yX9_kth]
def wsL_law_r30 : List Cond := [Cond.code yX9_kth cX9_kth 4 (some .int), Cond.methodLink RL 89 yX8_days, Cond.instanceMethod yX8_days, Cond.selects RX8 yX8_days yX8_days, Cond.code yX8_days cX8_days 2 (some .int), Cond.methodLink RX8 216 yX1_fewestDays, Cond.instanceMethod yX1_fewestDays, Cond.selects RX1 yX1_fewestDays yX1_fewestDays, Cond.code yX1_fewestDays cX1_fewestDays 7 (some .int), Cond.methodLink RX1 36 Lib.Math.min.name, Cond.methodLink RX1 15 yJ7_fill_53178, Cond.methodLink RX1 21 yX3_everyItem, Cond.methodLink RX1 27 yX3_allReady, Cond.methodLink RX1 31 yJ6_bitCount_0f7a4, Cond.methodLink RX1 42 yX1_work, Cond.static yX1_work, Cond.code yX1_work cX1_work 7 none, Cond.methodLink RL 92 yX9_days, Cond.instanceMethod yX9_days, Cond.selects RX9 yX9_days yX9_days, Cond.code yX9_days cX9_days 6 (some .int), Cond.methodLink RX9 240 yX9_makes, Cond.instanceMethod yX9_makes, Cond.selects RX9 yX9_makes yX9_makes]
def wsL_law_r31 : List Cond := [Cond.code yX9_makes cX9_makes 6 none, Cond.methodLink RL 93 yX8_sees, Cond.instanceMethod yX8_sees, Cond.selects RX8 yX8_sees yX8_sees, Cond.code yX8_sees cX8_sees 3 (some .int), Cond.fieldLink RX8 221 "ArcOrder$Sight" "size" "I", Cond.methodLink RX8 220 yX5_append, Cond.instanceMethod yX5_append, Cond.selects RX5 yX5_append yX5_append, Cond.code yX5_append cX5_append 3 (some .boolean), Cond.methodLink RL 96 yX9_sees, Cond.instanceMethod yX9_sees, Cond.selects RX9 yX9_sees yX9_sees, Cond.code yX9_sees cX9_sees 3 (some .int), Cond.methodLink RL 97 yX8_forget, Cond.instanceMethod yX8_forget, Cond.selects RX8 yX8_forget yX8_forget, Cond.code yX8_forget cX8_forget 2 (some .int), Cond.methodLink RL 100 yX9_forget, Cond.instanceMethod yX9_forget, Cond.selects RX9 yX9_forget yX9_forget, Cond.code yX9_forget cX9_forget 2 (some .int), Cond.methodLink RL 101 yX8_unseen, Cond.instanceMethod yX8_unseen]
def wsL_law_r32 : List Cond := [Cond.selects RX8 yX8_unseen yX8_unseen, Cond.code yX8_unseen cX8_unseen 2 (some .int), Cond.fieldLink RX8 225 "ArcOrder$Sight" "fitting" "I", Cond.fieldLink RX8 228 "ArcOrder$Sight" "first" "I", Cond.methodLink RX8 222 yX5_weigh, Cond.instanceMethod yX5_weigh, Cond.selects RX5 yX5_weigh yX5_weigh, Cond.code yX5_weigh cX5_weigh 4 none, Cond.fieldLink RX5 25 "ArcOrder$Sight" "fitting" "I", Cond.fieldLink RX5 28 "ArcOrder$Sight" "first" "I", Cond.fieldLink RX5 37 "ArcOrder$Net" "items" "I", Cond.methodLink RX5 31 yJ7_fill_53178, Cond.methodLink RX5 42 yX3_canTake, Cond.methodLink RX5 50 yX3_movedBy, Cond.methodLink RX5 53 yX5_takeIfFits, Cond.instanceMethod yX5_takeIfFits, Cond.selects RX5 yX5_takeIfFits yX5_takeIfFits, Cond.code yX5_takeIfFits cX5_takeIfFits 4 none, Cond.methodLink RL 104 yX9_unseen, Cond.instanceMethod yX9_unseen, Cond.selects RX9 yX9_unseen yX9_unseen, Cond.code yX9_unseen cX9_unseen 3 (some .int), Cond.fieldLink RX9 244 "ArcOrderModel" "unseenFirst" "I", Cond.methodLink RX9 247 yX9_unseenMany]
def wsL_law_r33 : List Cond := [Cond.instanceMethod yX9_unseenMany, Cond.selects RX9 yX9_unseenMany yX9_unseenMany, Cond.code yX9_unseenMany cX9_unseenMany 7 (some .int), Cond.methodLink RL 105 yX8_look, Cond.instanceMethod yX8_look, Cond.selects RX8 yX8_look yX8_look, Cond.code yX8_look cX8_look 1 (some .int), Cond.methodLink RX8 231 yX5_bestItem, Cond.instanceMethod yX5_bestItem, Cond.selects RX5 yX5_bestItem yX5_bestItem, Cond.code yX5_bestItem cX5_bestItem 6 (some .int), Cond.methodLink RX5 57 Lib.Math.max.name, Cond.static Lib.Math.max.name, Cond.code Lib.Math.max.name Lib.Math.max.code 2 (some .int), Cond.methodLink RL 108 yX9_look, Cond.instanceMethod yX9_look, Cond.selects RX9 yX9_look yX9_look, Cond.code yX9_look cX9_look 6 (some .int), Cond.methodLink RL 109 yX8_keep, Cond.instanceMethod yX8_keep, Cond.selects RX8 yX8_keep yX8_keep, Cond.code yX8_keep cX8_keep 2 (some .int), Cond.methodLink RL 112 yX9_keep, Cond.instanceMethod yX9_keep]
def wsL_law_r34 : List Cond := [Cond.selects RX9 yX9_keep yX9_keep, Cond.code yX9_keep cX9_keep 3 (some .int), Cond.methodLink RL 113 yX8_back, Cond.instanceMethod yX8_back, Cond.selects RX8 yX8_back yX8_back, Cond.code yX8_back cX8_back 2 (some .int), Cond.methodLink RL 116 yX9_back, Cond.instanceMethod yX9_back, Cond.selects RX9 yX9_back yX9_back, Cond.code yX9_back cX9_back 3 (some .int), Cond.methodLink RL 117 yX8_count, Cond.instanceMethod yX8_count, Cond.selects RX8 yX8_count yX8_count, Cond.code yX8_count cX8_count 2 (some .int), Cond.methodLink RL 120 yX9_count, Cond.instanceMethod yX9_count, Cond.selects RX9 yX9_count yX9_count, Cond.code yX9_count cX9_count 2 (some .int)]
def wsL_law : List Cond := (wsL_law_r1 ++ (wsL_law_r2 ++ (wsL_law_r3 ++ (wsL_law_r4 ++ (wsL_law_r5 ++ (wsL_law_r6 ++ (wsL_law_r7 ++ (wsL_law_r8 ++ (wsL_law_r9 ++ (wsL_law_r10 ++ (wsL_law_r11 ++ (wsL_law_r12 ++ (wsL_law_r13 ++ (wsL_law_r14 ++ (wsL_law_r15 ++ (wsL_law_r16 ++ (wsL_law_r17 ++ (wsL_law_r18 ++ (wsL_law_r19 ++ (wsL_law_r20 ++ (wsL_law_r21 ++ (wsL_law_r22 ++ (wsL_law_r23 ++ (wsL_law_r24 ++ (wsL_law_r25 ++ (wsL_law_r26 ++ (wsL_law_r27 ++ (wsL_law_r28 ++ (wsL_law_r29 ++ (wsL_law_r30 ++ (wsL_law_r31 ++ (wsL_law_r32 ++ (wsL_law_r33 ++ wsL_law_r34))))))))))))))))))))))))))))))))) ++ wsX80 ++ wsX90 ++ wsX30 ++ wsX70 ++ wsX00 ++ wsX40 ++ wsX20 ++ wsX50 ++ wsX60 ++ wsX10 ++ ([] : List Cond)
set_option maxRecDepth 20000 in
theorem wsL_law_in : ∀ w ∈ wsL_law, w ∈ lw_tbl := fun w h => (goodIn_p wsL_law [73, 76, 81, 86, 127, 153, 172, 189, 207, 235, 254, 686, 691, 695, 698, 298, 302, 811, 814, 306, 818, 310, 314, 319, 323, 327, 330, 334, 338, 342, 346, 350, 354, 358, 362, 365, 369, 373, 377, 381, 385, 389, 393, 397, 401, 404, 411, 418, 822, 826, 830, 834, 838, 842, 846, 850, 853, 857, 861, 865, 868, 422, 427, 432, 876, 880, 884, 888, 892, 895, 436, 899, 440, 444, 449, 453, 456, 460, 464, 468, 472, 476, 903, 907, 911, 915, 919, 923, 927, 931, 935, 481, 487, 491, 494, 500, 504, 508, 939, 943, 947, 951, 514, 518, 522, 955, 526, 530, 535, 539, 959, 543, 547, 963, 551, 555, 967, 971, 975, 979, 559, 563, 983, 567, 872, 571, 987, 577, 581, 585, 589, 594, 991, 600, 604, 995, 608, 612, 999, 617, 621, 629, 1003, 1007, 634, 638, 1011, 642, 1015, 646, 650, 658, 1019, 1023, 662, 666, 669, 1027, 673, 1031, 677, 1035, 681, 1039] (by decide +kernel) (by decide +kernel) w h).1
theorem inlX0 : ∀ w ∈ wsX00, w ∈ wsL_law := fun _ h => List.mem_append_left _ (List.mem_append_left _ (List.mem_append_left _ (List.mem_append_left _ (List.mem_append_left _ (List.mem_append_left _ (List.mem_append_right _ h))))))
theorem inX0 : ∀ w ∈ wsX00, w ∈ lw_tbl := fun w h => wsL_law_in w (inlX0 w h)
theorem inlX1 : ∀ w ∈ wsX10, w ∈ wsL_law := fun _ h => List.mem_append_left _ (List.mem_append_right _ h)
theorem inX1 : ∀ w ∈ wsX10, w ∈ lw_tbl := fun w h => wsL_law_in w (inlX1 w h)
theorem inlX2 : ∀ w ∈ wsX20, w ∈ wsL_law := fun _ h => List.mem_append_left _ (List.mem_append_left _ (List.mem_append_left _ (List.mem_append_left _ (List.mem_append_right _ h))))
theorem inX2 : ∀ w ∈ wsX20, w ∈ lw_tbl := fun w h => wsL_law_in w (inlX2 w h)
theorem inlX3 : ∀ w ∈ wsX30, w ∈ wsL_law := fun _ h => List.mem_append_left _ (List.mem_append_left _ (List.mem_append_left _ (List.mem_append_left _ (List.mem_append_left _ (List.mem_append_left _ (List.mem_append_left _ (List.mem_append_left _ (List.mem_append_right _ h))))))))
theorem inX3 : ∀ w ∈ wsX30, w ∈ lw_tbl := fun w h => wsL_law_in w (inlX3 w h)
theorem inlX4 : ∀ w ∈ wsX40, w ∈ wsL_law := fun _ h => List.mem_append_left _ (List.mem_append_left _ (List.mem_append_left _ (List.mem_append_left _ (List.mem_append_left _ (List.mem_append_right _ h)))))
theorem inX4 : ∀ w ∈ wsX40, w ∈ lw_tbl := fun w h => wsL_law_in w (inlX4 w h)
theorem inlX5 : ∀ w ∈ wsX50, w ∈ wsL_law := fun _ h => List.mem_append_left _ (List.mem_append_left _ (List.mem_append_left _ (List.mem_append_right _ h)))
theorem inX5 : ∀ w ∈ wsX50, w ∈ lw_tbl := fun w h => wsL_law_in w (inlX5 w h)
theorem inlX6 : ∀ w ∈ wsX60, w ∈ wsL_law := fun _ h => List.mem_append_left _ (List.mem_append_left _ (List.mem_append_right _ h))
theorem inX6 : ∀ w ∈ wsX60, w ∈ lw_tbl := fun w h => wsL_law_in w (inlX6 w h)
theorem inlX7 : ∀ w ∈ wsX70, w ∈ wsL_law := fun _ h => List.mem_append_left _ (List.mem_append_left _ (List.mem_append_left _ (List.mem_append_left _ (List.mem_append_left _ (List.mem_append_left _ (List.mem_append_left _ (List.mem_append_right _ h)))))))
theorem inX7 : ∀ w ∈ wsX70, w ∈ lw_tbl := fun w h => wsL_law_in w (inlX7 w h)
theorem inlX8 : ∀ w ∈ wsX80, w ∈ wsL_law := fun _ h => List.mem_append_left _ (List.mem_append_left _ (List.mem_append_left _ (List.mem_append_left _ (List.mem_append_left _ (List.mem_append_left _ (List.mem_append_left _ (List.mem_append_left _ (List.mem_append_left _ (List.mem_append_left _ (List.mem_append_right _ h))))))))))
theorem inX8 : ∀ w ∈ wsX80, w ∈ lw_tbl := fun w h => wsL_law_in w (inlX8 w h)
theorem inlX9 : ∀ w ∈ wsX90, w ∈ wsL_law := fun _ h => List.mem_append_left _ (List.mem_append_left _ (List.mem_append_left _ (List.mem_append_left _ (List.mem_append_left _ (List.mem_append_left _ (List.mem_append_left _ (List.mem_append_left _ (List.mem_append_left _ (List.mem_append_right _ h)))))))))
theorem inX9 : ∀ w ∈ wsX90, w ∈ lw_tbl := fun w h => wsL_law_in w (inlX9 w h)
theorem inJ6 : ∀ w ∈ wsJ60, w ∈ lw_tbl := by decide +kernel
theorem inJ9 : ∀ w ∈ wsJ90, w ∈ lw_tbl := by decide +kernel
theorem inJ10 : ∀ w ∈ wsJ100, w ∈ lw_tbl := by decide +kernel
theorem inJ7 : ∀ w ∈ wsJ70, w ∈ lw_tbl := by decide +kernel
abbrev vwCl : List vw_C := [(RX0, TX0, 3), (RX1, TX1, 1), (RX2, TX2, 3), (RX3, TX3, 7), (RX4, TX4, 2), (RX5, TX5, 6), (RX6, TX6, 3), (RX7, TX7, 6), (RX8, TX8, 11), (RX9, TX9, 36)]
end
section
theorem dX0_init_0 : decode cX0_init 0 = .ok (.aload_n 0, 1) := by decide +kernel
theorem dX0_init_1 : decode cX0_init 1 = .ok (.invokespecial 3, 3) := by decide +kernel
theorem dX0_init_4 : decode cX0_init 4 = .ok (.aload_n 0, 1) := by decide +kernel
theorem dX0_init_5 : decode cX0_init 5 = .ok (.bipush 8, 2) := by decide +kernel
theorem dX0_init_7 : decode cX0_init 7 = .ok (.newarray .int, 2) := by decide +kernel
theorem dX0_init_9 : decode cX0_init 9 = .ok (.putfield 9, 3) := by decide +kernel
theorem dX0_init_12 : decode cX0_init 12 = .ok (.aload_n 0, 1) := by decide +kernel
theorem dX0_init_13 : decode cX0_init 13 = .ok (.bipush 8, 2) := by decide +kernel
theorem dX0_init_15 : decode cX0_init 15 = .ok (.newarray .int, 2) := by decide +kernel
theorem dX0_init_17 : decode cX0_init 17 = .ok (.putfield 15, 3) := by decide +kernel
theorem dX0_init_20 : decode cX0_init 20 = .ok (.return_, 1) := by decide +kernel
theorem dX0_append_0 : decode cX0_append 0 = .ok (.aload_n 0, 1) := by decide +kernel
theorem dX0_append_1 : decode cX0_append 1 = .ok (.getfield 18, 3) := by decide +kernel
theorem dX0_append_4 : decode cX0_append 4 = .ok (.bipush 8, 2) := by decide +kernel
theorem dX0_append_6 : decode cX0_append 6 = .ok (.if_icmp .lt 5, 3) := by decide +kernel
theorem dX0_append_9 : decode cX0_append 9 = .ok (.iconst 0, 1) := by decide +kernel
theorem dX0_append_10 : decode cX0_append 10 = .ok (.ireturn, 1) := by decide +kernel
theorem dX0_append_11 : decode cX0_append 11 = .ok (.aload_n 0, 1) := by decide +kernel
theorem dX0_append_12 : decode cX0_append 12 = .ok (.getfield 9, 3) := by decide +kernel
theorem dX0_append_15 : decode cX0_append 15 = .ok (.aload_n 0, 1) := by decide +kernel
theorem dX0_append_16 : decode cX0_append 16 = .ok (.getfield 18, 3) := by decide +kernel
theorem dX0_append_19 : decode cX0_append 19 = .ok (.iload_n 1, 1) := by decide +kernel
theorem dX0_append_20 : decode cX0_append 20 = .ok (.iastore, 1) := by decide +kernel
theorem dX0_append_21 : decode cX0_append 21 = .ok (.aload_n 0, 1) := by decide +kernel
theorem dX0_append_22 : decode cX0_append 22 = .ok (.getfield 15, 3) := by decide +kernel
theorem dX0_append_25 : decode cX0_append 25 = .ok (.aload_n 0, 1) := by decide +kernel
theorem dX0_append_26 : decode cX0_append 26 = .ok (.getfield 18, 3) := by decide +kernel
theorem dX0_append_29 : decode cX0_append 29 = .ok (.iload_n 2, 1) := by decide +kernel
theorem dX0_append_30 : decode cX0_append 30 = .ok (.iastore, 1) := by decide +kernel
theorem dX0_append_31 : decode cX0_append 31 = .ok (.aload_n 0, 1) := by decide +kernel
theorem dX0_append_32 : decode cX0_append 32 = .ok (.dup, 1) := by decide +kernel
theorem dX0_append_33 : decode cX0_append 33 = .ok (.getfield 18, 3) := by decide +kernel
theorem dX0_append_36 : decode cX0_append 36 = .ok (.iconst 1, 1) := by decide +kernel
theorem dX0_append_37 : decode cX0_append 37 = .ok (.iadd, 1) := by decide +kernel
theorem dX0_append_38 : decode cX0_append 38 = .ok (.putfield 18, 3) := by decide +kernel
theorem dX0_append_41 : decode cX0_append 41 = .ok (.iconst 1, 1) := by decide +kernel
theorem dX0_append_42 : decode cX0_append 42 = .ok (.ireturn, 1) := by decide +kernel
theorem dX0_holds_0 : decode cX0_holds 0 = .ok (.iconst 0, 1) := by decide +kernel
theorem dX0_holds_1 : decode cX0_holds 1 = .ok (.istore_n 3, 1) := by decide +kernel
theorem dX0_holds_2 : decode cX0_holds 2 = .ok (.iload_n 3, 1) := by decide +kernel
theorem dX0_holds_3 : decode cX0_holds 3 = .ok (.aload_n 0, 1) := by decide +kernel
theorem dX0_holds_4 : decode cX0_holds 4 = .ok (.getfield 18, 3) := by decide +kernel
theorem dX0_holds_7 : decode cX0_holds 7 = .ok (.if_icmp .ge 31, 3) := by decide +kernel
theorem dX0_holds_10 : decode cX0_holds 10 = .ok (.aload_n 0, 1) := by decide +kernel
theorem dX0_holds_11 : decode cX0_holds 11 = .ok (.getfield 9, 3) := by decide +kernel
theorem dX0_holds_14 : decode cX0_holds 14 = .ok (.iload_n 3, 1) := by decide +kernel
theorem dX0_holds_15 : decode cX0_holds 15 = .ok (.iaload, 1) := by decide +kernel
theorem dX0_holds_16 : decode cX0_holds 16 = .ok (.iload_n 1, 1) := by decide +kernel
theorem dX0_holds_17 : decode cX0_holds 17 = .ok (.if_icmp .ne 15, 3) := by decide +kernel
theorem dX0_holds_20 : decode cX0_holds 20 = .ok (.aload_n 0, 1) := by decide +kernel
theorem dX0_holds_21 : decode cX0_holds 21 = .ok (.getfield 15, 3) := by decide +kernel
theorem dX0_holds_24 : decode cX0_holds 24 = .ok (.iload_n 3, 1) := by decide +kernel
theorem dX0_holds_25 : decode cX0_holds 25 = .ok (.iaload, 1) := by decide +kernel
theorem dX0_holds_26 : decode cX0_holds 26 = .ok (.iload_n 2, 1) := by decide +kernel
theorem dX0_holds_27 : decode cX0_holds 27 = .ok (.if_icmp .ne 5, 3) := by decide +kernel
theorem dX0_holds_30 : decode cX0_holds 30 = .ok (.iconst 1, 1) := by decide +kernel
theorem dX0_holds_31 : decode cX0_holds 31 = .ok (.ireturn, 1) := by decide +kernel
theorem dX0_holds_32 : decode cX0_holds 32 = .ok (.iinc 3 1, 3) := by decide +kernel
theorem dX0_holds_35 : decode cX0_holds 35 = .ok (.goto (-33), 3) := by decide +kernel
theorem dX0_holds_38 : decode cX0_holds 38 = .ok (.iconst 0, 1) := by decide +kernel
theorem dX0_holds_39 : decode cX0_holds 39 = .ok (.ireturn, 1) := by decide +kernel
set_option maxRecDepth 20000 in
theorem ggX0_isAnyIn_X3_has : GoodIn wsX0_isAnyIn wsX3_has := goodIn_r _ [8, 9, 10, 11, 12, 16, 17, 18, 19, 20, 21, 22] (by decide +kernel) (by decide +kernel)
set_option maxRecDepth 20000 in
theorem gX0_isAnyIn_X3_has : GoodIn wsX0_isAnyIn (wsV RX0 22 RX3 yX3_has wsX3_has) := goodIn_app (goodIn_of _ (by decide +kernel)) ggX0_isAnyIn_X3_has
theorem dX0_isAnyIn_0 : decode cX0_isAnyIn 0 = .ok (.iconst 0, 1) := by decide +kernel
theorem dX0_isAnyIn_1 : decode cX0_isAnyIn 1 = .ok (.istore_n 2, 1) := by decide +kernel
theorem dX0_isAnyIn_2 : decode cX0_isAnyIn 2 = .ok (.iload_n 2, 1) := by decide +kernel
theorem dX0_isAnyIn_3 : decode cX0_isAnyIn 3 = .ok (.aload_n 0, 1) := by decide +kernel
theorem dX0_isAnyIn_4 : decode cX0_isAnyIn 4 = .ok (.getfield 18, 3) := by decide +kernel
theorem dX0_isAnyIn_7 : decode cX0_isAnyIn 7 = .ok (.if_icmp .ge 30, 3) := by decide +kernel
theorem dX0_isAnyIn_10 : decode cX0_isAnyIn 10 = .ok (.aload_n 1, 1) := by decide +kernel
theorem dX0_isAnyIn_11 : decode cX0_isAnyIn 11 = .ok (.aload_n 0, 1) := by decide +kernel
theorem dX0_isAnyIn_12 : decode cX0_isAnyIn 12 = .ok (.getfield 9, 3) := by decide +kernel
theorem dX0_isAnyIn_15 : decode cX0_isAnyIn 15 = .ok (.iload_n 2, 1) := by decide +kernel
theorem dX0_isAnyIn_16 : decode cX0_isAnyIn 16 = .ok (.iaload, 1) := by decide +kernel
theorem dX0_isAnyIn_17 : decode cX0_isAnyIn 17 = .ok (.aload_n 0, 1) := by decide +kernel
theorem dX0_isAnyIn_18 : decode cX0_isAnyIn 18 = .ok (.getfield 15, 3) := by decide +kernel
theorem dX0_isAnyIn_21 : decode cX0_isAnyIn 21 = .ok (.iload_n 2, 1) := by decide +kernel
theorem dX0_isAnyIn_22 : decode cX0_isAnyIn 22 = .ok (.iaload, 1) := by decide +kernel
theorem dX0_isAnyIn_23 : decode cX0_isAnyIn 23 = .ok (.invokevirtual 22, 3) := by decide +kernel
theorem dX0_isAnyIn_26 : decode cX0_isAnyIn 26 = .ok (.ifCond .eq 5, 3) := by decide +kernel
theorem dX0_isAnyIn_29 : decode cX0_isAnyIn 29 = .ok (.iconst 1, 1) := by decide +kernel
theorem dX0_isAnyIn_30 : decode cX0_isAnyIn 30 = .ok (.ireturn, 1) := by decide +kernel
theorem dX0_isAnyIn_31 : decode cX0_isAnyIn 31 = .ok (.iinc 2 1, 3) := by decide +kernel
theorem dX0_isAnyIn_34 : decode cX0_isAnyIn 34 = .ok (.goto (-32), 3) := by decide +kernel
theorem dX0_isAnyIn_37 : decode cX0_isAnyIn 37 = .ok (.iconst 0, 1) := by decide +kernel
theorem dX0_isAnyIn_38 : decode cX0_isAnyIn 38 = .ok (.ireturn, 1) := by decide +kernel
theorem dX1_init_0 : decode cX1_init 0 = .ok (.aload_n 0, 1) := by decide +kernel
theorem dX1_init_1 : decode cX1_init 1 = .ok (.invokespecial 3, 3) := by decide +kernel
theorem dX1_init_4 : decode cX1_init 4 = .ok (.aload_n 0, 1) := by decide +kernel
theorem dX1_init_5 : decode cX1_init 5 = .ok (.sipush 4096, 3) := by decide +kernel
theorem dX1_init_8 : decode cX1_init 8 = .ok (.newarray .int, 2) := by decide +kernel
theorem dX1_init_10 : decode cX1_init 10 = .ok (.putfield 9, 3) := by decide +kernel
theorem dX1_init_13 : decode cX1_init 13 = .ok (.return_, 1) := by decide +kernel
set_option maxRecDepth 20000 in
theorem ggX1_fewestDays_J7_fill_53178 : GoodIn wsX1_fewestDays wsJ7_fill_53178 := goodIn_r _ [9] (by decide +kernel) (by decide +kernel)
set_option maxRecDepth 20000 in
theorem gX1_fewestDays_J7_fill_53178 : GoodIn wsX1_fewestDays (va_wsS RX1 15 yJ7_fill_53178 wsJ7_fill_53178) := goodIn_app (goodIn_of _ (by decide +kernel)) ggX1_fewestDays_J7_fill_53178
set_option maxRecDepth 20000 in
theorem ggX1_fewestDays_X3_everyItem : GoodIn wsX1_fewestDays wsX3_everyItem := goodIn_r _ [14, 15, 40, 41, 42, 43, 44, 45, 46] (by decide +kernel) (by decide +kernel)
set_option maxRecDepth 20000 in
theorem gX1_fewestDays_X3_everyItem : GoodIn wsX1_fewestDays (wsV RX1 21 RX3 yX3_everyItem wsX3_everyItem) := goodIn_app (goodIn_of _ (by decide +kernel)) ggX1_fewestDays_X3_everyItem
set_option maxRecDepth 20000 in
theorem ggX1_fewestDays_X3_allReady : GoodIn wsX1_fewestDays wsX3_allReady := goodIn_r _ [19, 15, 20, 21, 22, 13, 23, 24, 25, 26, 27, 40, 41, 42, 43, 44, 45, 46] (by decide +kernel) (by decide +kernel)
set_option maxRecDepth 20000 in
theorem gX1_fewestDays_X3_allReady : GoodIn wsX1_fewestDays (wsV RX1 27 RX3 yX3_allReady wsX3_allReady) := goodIn_app (goodIn_of _ (by decide +kernel)) ggX1_fewestDays_X3_allReady
set_option maxRecDepth 20000 in
theorem ggX1_fewestDays_J6_bitCount_0f7a4 : GoodIn wsX1_fewestDays wsJ6_bitCount_0f7a4 := goodIn_r _ [31, 32, 33, 34] (by decide +kernel) (by decide +kernel)
set_option maxRecDepth 20000 in
theorem gX1_fewestDays_J6_bitCount_0f7a4 : GoodIn wsX1_fewestDays (va_wsS RX1 31 yJ6_bitCount_0f7a4 wsJ6_bitCount_0f7a4) := goodIn_app (goodIn_of _ (by decide +kernel)) ggX1_fewestDays_J6_bitCount_0f7a4
set_option maxRecDepth 20000 in
theorem ggX1_fewestDays_X1_work : GoodIn wsX1_fewestDays wsX1_work := goodIn_r _ [38, 2, 3, 4, 5, 25, 26, 27, 35, 36, 37] (by decide +kernel) (by decide +kernel)
set_option maxRecDepth 20000 in
theorem gX1_fewestDays_X1_work : GoodIn wsX1_fewestDays (va_wsS RX1 42 yX1_work wsX1_work) := goodIn_app (goodIn_of _ (by decide +kernel)) ggX1_fewestDays_X1_work
theorem dX1_fewestDays_0 : decode cX1_fewestDays 0 = .ok (.aload_n 0, 1) := by decide +kernel
theorem dX1_fewestDays_1 : decode cX1_fewestDays 1 = .ok (.getfield 9, 3) := by decide +kernel
theorem dX1_fewestDays_4 : decode cX1_fewestDays 4 = .ok (.bipush 13, 2) := by decide +kernel
theorem dX1_fewestDays_6 : decode cX1_fewestDays 6 = .ok (.invokestatic 15, 3) := by decide +kernel
theorem dX1_fewestDays_9 : decode cX1_fewestDays 9 = .ok (.aload_n 0, 1) := by decide +kernel
theorem dX1_fewestDays_10 : decode cX1_fewestDays 10 = .ok (.getfield 9, 3) := by decide +kernel
theorem dX1_fewestDays_13 : decode cX1_fewestDays 13 = .ok (.iconst 0, 1) := by decide +kernel
theorem dX1_fewestDays_14 : decode cX1_fewestDays 14 = .ok (.iconst 0, 1) := by decide +kernel
theorem dX1_fewestDays_15 : decode cX1_fewestDays 15 = .ok (.iastore, 1) := by decide +kernel
theorem dX1_fewestDays_16 : decode cX1_fewestDays 16 = .ok (.aload_n 1, 1) := by decide +kernel
theorem dX1_fewestDays_17 : decode cX1_fewestDays 17 = .ok (.invokevirtual 21, 3) := by decide +kernel
theorem dX1_fewestDays_20 : decode cX1_fewestDays 20 = .ok (.istore_n 3, 1) := by decide +kernel
theorem dX1_fewestDays_21 : decode cX1_fewestDays 21 = .ok (.iconst 0, 1) := by decide +kernel
theorem dX1_fewestDays_22 : decode cX1_fewestDays 22 = .ok (.istore 4, 2) := by decide +kernel
theorem dX1_fewestDays_24 : decode cX1_fewestDays 24 = .ok (.iload 4, 2) := by decide +kernel
theorem dX1_fewestDays_26 : decode cX1_fewestDays 26 = .ok (.iload_n 3, 1) := by decide +kernel
theorem dX1_fewestDays_27 : decode cX1_fewestDays 27 = .ok (.if_icmp .ge 63, 3) := by decide +kernel
theorem dX1_fewestDays_30 : decode cX1_fewestDays 30 = .ok (.aload_n 0, 1) := by decide +kernel
theorem dX1_fewestDays_31 : decode cX1_fewestDays 31 = .ok (.getfield 9, 3) := by decide +kernel
theorem dX1_fewestDays_34 : decode cX1_fewestDays 34 = .ok (.iload 4, 2) := by decide +kernel
theorem dX1_fewestDays_36 : decode cX1_fewestDays 36 = .ok (.iaload, 1) := by decide +kernel
theorem dX1_fewestDays_37 : decode cX1_fewestDays 37 = .ok (.bipush 13, 2) := by decide +kernel
theorem dX1_fewestDays_39 : decode cX1_fewestDays 39 = .ok (.if_icmp .ge 45, 3) := by decide +kernel
theorem dX1_fewestDays_42 : decode cX1_fewestDays 42 = .ok (.aload_n 1, 1) := by decide +kernel
theorem dX1_fewestDays_43 : decode cX1_fewestDays 43 = .ok (.iload 4, 2) := by decide +kernel
theorem dX1_fewestDays_45 : decode cX1_fewestDays 45 = .ok (.invokevirtual 27, 3) := by decide +kernel
theorem dX1_fewestDays_48 : decode cX1_fewestDays 48 = .ok (.istore 5, 2) := by decide +kernel
theorem dX1_fewestDays_50 : decode cX1_fewestDays 50 = .ok (.iload_n 2, 1) := by decide +kernel
theorem dX1_fewestDays_51 : decode cX1_fewestDays 51 = .ok (.iload 5, 2) := by decide +kernel
theorem dX1_fewestDays_53 : decode cX1_fewestDays 53 = .ok (.invokestatic 31, 3) := by decide +kernel
theorem dX1_fewestDays_56 : decode cX1_fewestDays 56 = .ok (.invokestatic 36, 3) := by decide +kernel
theorem dX1_fewestDays_59 : decode cX1_fewestDays 59 = .ok (.istore 6, 2) := by decide +kernel
theorem dX1_fewestDays_61 : decode cX1_fewestDays 61 = .ok (.aload_n 0, 1) := by decide +kernel
theorem dX1_fewestDays_62 : decode cX1_fewestDays 62 = .ok (.getfield 9, 3) := by decide +kernel
theorem dX1_fewestDays_65 : decode cX1_fewestDays 65 = .ok (.iload 4, 2) := by decide +kernel
theorem dX1_fewestDays_67 : decode cX1_fewestDays 67 = .ok (.iload 5, 2) := by decide +kernel
theorem dX1_fewestDays_69 : decode cX1_fewestDays 69 = .ok (.iconst 0, 1) := by decide +kernel
theorem dX1_fewestDays_70 : decode cX1_fewestDays 70 = .ok (.iload 6, 2) := by decide +kernel
theorem dX1_fewestDays_72 : decode cX1_fewestDays 72 = .ok (.aload_n 0, 1) := by decide +kernel
theorem dX1_fewestDays_73 : decode cX1_fewestDays 73 = .ok (.getfield 9, 3) := by decide +kernel
theorem dX1_fewestDays_76 : decode cX1_fewestDays 76 = .ok (.iload 4, 2) := by decide +kernel
theorem dX1_fewestDays_78 : decode cX1_fewestDays 78 = .ok (.iaload, 1) := by decide +kernel
theorem dX1_fewestDays_79 : decode cX1_fewestDays 79 = .ok (.iconst 1, 1) := by decide +kernel
theorem dX1_fewestDays_80 : decode cX1_fewestDays 80 = .ok (.iadd, 1) := by decide +kernel
theorem dX1_fewestDays_81 : decode cX1_fewestDays 81 = .ok (.invokestatic 42, 3) := by decide +kernel
theorem dX1_fewestDays_84 : decode cX1_fewestDays 84 = .ok (.iinc 4 1, 3) := by decide +kernel
theorem dX1_fewestDays_87 : decode cX1_fewestDays 87 = .ok (.goto (-63), 3) := by decide +kernel
theorem dX1_fewestDays_90 : decode cX1_fewestDays 90 = .ok (.aload_n 0, 1) := by decide +kernel
theorem dX1_fewestDays_91 : decode cX1_fewestDays 91 = .ok (.getfield 9, 3) := by decide +kernel
theorem dX1_fewestDays_94 : decode cX1_fewestDays 94 = .ok (.iload_n 3, 1) := by decide +kernel
theorem dX1_fewestDays_95 : decode cX1_fewestDays 95 = .ok (.iaload, 1) := by decide +kernel
theorem dX1_fewestDays_96 : decode cX1_fewestDays 96 = .ok (.ireturn, 1) := by decide +kernel
set_option maxRecDepth 20000 in
theorem ggX1_work_X8_holdsBit : GoodIn wsX1_work wsX8_holdsBit := goodIn_r _ [7] (by decide +kernel) (by decide +kernel)
set_option maxRecDepth 20000 in
theorem gX1_work_X8_holdsBit_n46 : GoodIn wsX1_work (wsX8_holdsBit) := ggX1_work_X8_holdsBit
set_option maxRecDepth 20000 in
theorem ggX1_work_X1_work : GoodIn wsX1_work wsX1_work := goodIn_r _ [0, 1, 2, 3, 4, 5, 6, 7, 8, 9, 10] (by decide +kernel) (by decide +kernel)
set_option maxRecDepth 20000 in
theorem gX1_work_X1_work : GoodIn wsX1_work (va_wsS RX1 42 yX1_work wsX1_work) := goodIn_app (goodIn_of _ (by decide +kernel)) ggX1_work_X1_work
theorem dX1_work_0 : decode cX1_work 0 = .ok (.iload 4, 2) := by decide +kernel
theorem dX1_work_2 : decode cX1_work 2 = .ok (.ifCond .gt 15, 3) := by decide +kernel
theorem dX1_work_5 : decode cX1_work 5 = .ok (.aload_n 0, 1) := by decide +kernel
theorem dX1_work_6 : decode cX1_work 6 = .ok (.iload_n 1, 1) := by decide +kernel
theorem dX1_work_7 : decode cX1_work 7 = .ok (.aload_n 0, 1) := by decide +kernel
theorem dX1_work_8 : decode cX1_work 8 = .ok (.iload_n 1, 1) := by decide +kernel
theorem dX1_work_9 : decode cX1_work 9 = .ok (.iaload, 1) := by decide +kernel
theorem dX1_work_10 : decode cX1_work 10 = .ok (.iload 5, 2) := by decide +kernel
theorem dX1_work_12 : decode cX1_work 12 = .ok (.invokestatic 36, 3) := by decide +kernel
theorem dX1_work_15 : decode cX1_work 15 = .ok (.iastore, 1) := by decide +kernel
theorem dX1_work_16 : decode cX1_work 16 = .ok (.return_, 1) := by decide +kernel
theorem dX1_work_17 : decode cX1_work 17 = .ok (.iload_n 3, 1) := by decide +kernel
theorem dX1_work_18 : decode cX1_work 18 = .ok (.istore 6, 2) := by decide +kernel
theorem dX1_work_20 : decode cX1_work 20 = .ok (.iload 6, 2) := by decide +kernel
theorem dX1_work_22 : decode cX1_work 22 = .ok (.bipush 12, 2) := by decide +kernel
theorem dX1_work_24 : decode cX1_work 24 = .ok (.if_icmp .ge 39, 3) := by decide +kernel
theorem dX1_work_27 : decode cX1_work 27 = .ok (.iload_n 2, 1) := by decide +kernel
theorem dX1_work_28 : decode cX1_work 28 = .ok (.iload 6, 2) := by decide +kernel
theorem dX1_work_30 : decode cX1_work 30 = .ok (.invokestatic 46, 3) := by decide +kernel
theorem dX1_work_33 : decode cX1_work 33 = .ok (.ifCond .eq 24, 3) := by decide +kernel
theorem dX1_work_36 : decode cX1_work 36 = .ok (.aload_n 0, 1) := by decide +kernel
theorem dX1_work_37 : decode cX1_work 37 = .ok (.iload_n 1, 1) := by decide +kernel
theorem dX1_work_38 : decode cX1_work 38 = .ok (.iconst 1, 1) := by decide +kernel
theorem dX1_work_39 : decode cX1_work 39 = .ok (.iload 6, 2) := by decide +kernel
theorem dX1_work_41 : decode cX1_work 41 = .ok (.ishl, 1) := by decide +kernel
theorem dX1_work_42 : decode cX1_work 42 = .ok (.ior, 1) := by decide +kernel
theorem dX1_work_43 : decode cX1_work 43 = .ok (.iload_n 2, 1) := by decide +kernel
theorem dX1_work_44 : decode cX1_work 44 = .ok (.iload 6, 2) := by decide +kernel
theorem dX1_work_46 : decode cX1_work 46 = .ok (.iconst 1, 1) := by decide +kernel
theorem dX1_work_47 : decode cX1_work 47 = .ok (.iadd, 1) := by decide +kernel
theorem dX1_work_48 : decode cX1_work 48 = .ok (.iload 4, 2) := by decide +kernel
theorem dX1_work_50 : decode cX1_work 50 = .ok (.iconst 1, 1) := by decide +kernel
theorem dX1_work_51 : decode cX1_work 51 = .ok (.isub, 1) := by decide +kernel
theorem dX1_work_52 : decode cX1_work 52 = .ok (.iload 5, 2) := by decide +kernel
theorem dX1_work_54 : decode cX1_work 54 = .ok (.invokestatic 42, 3) := by decide +kernel
theorem dX1_work_57 : decode cX1_work 57 = .ok (.iinc 6 1, 3) := by decide +kernel
theorem dX1_work_60 : decode cX1_work 60 = .ok (.goto (-40), 3) := by decide +kernel
theorem dX1_work_63 : decode cX1_work 63 = .ok (.return_, 1) := by decide +kernel
theorem dX2_init_0 : decode cX2_init 0 = .ok (.aload_n 0, 1) := by decide +kernel
theorem dX2_init_1 : decode cX2_init 1 = .ok (.invokespecial 3, 3) := by decide +kernel
theorem dX2_init_4 : decode cX2_init 4 = .ok (.aload_n 0, 1) := by decide +kernel
theorem dX2_init_5 : decode cX2_init 5 = .ok (.bipush 12, 2) := by decide +kernel
theorem dX2_init_7 : decode cX2_init 7 = .ok (.newarray .int, 2) := by decide +kernel
theorem dX2_init_9 : decode cX2_init 9 = .ok (.putfield 9, 3) := by decide +kernel
theorem dX2_init_12 : decode cX2_init 12 = .ok (.aload_n 0, 1) := by decide +kernel
theorem dX2_init_13 : decode cX2_init 13 = .ok (.bipush 12, 2) := by decide +kernel
theorem dX2_init_15 : decode cX2_init 15 = .ok (.newarray .int, 2) := by decide +kernel
theorem dX2_init_17 : decode cX2_init 17 = .ok (.putfield 15, 3) := by decide +kernel
theorem dX2_init_20 : decode cX2_init 20 = .ok (.return_, 1) := by decide +kernel
set_option maxRecDepth 20000 in
theorem ggX2_trace_X2_measure : GoodIn wsX2_trace wsX2_measure := goodIn_r _ [8, 3, 9, 10, 11, 12, 13, 14, 15, 16, 17, 18, 19, 20, 21, 22, 23, 24, 25, 26, 27, 28, 33, 34, 35, 36, 37, 38, 39, 40, 41, 42] (by decide +kernel) (by decide +kernel)
set_option maxRecDepth 20000 in
theorem gX2_trace_X2_measure : GoodIn wsX2_trace (wsV RX2 18 RX2 yX2_measure wsX2_measure) := goodIn_app (goodIn_of _ (by decide +kernel)) ggX2_trace_X2_measure
set_option maxRecDepth 20000 in
theorem ggX2_trace_X2_lowestNext : GoodIn wsX2_trace wsX2_lowestNext := goodIn_r _ [32, 11, 3, 20, 21, 22, 23, 24, 25, 26, 27, 28, 36, 37, 38, 39, 40, 41, 42, 33, 34, 35] (by decide +kernel) (by decide +kernel)
set_option maxRecDepth 20000 in
theorem gX2_trace_X2_lowestNext : GoodIn wsX2_trace (wsV RX2 26 RX2 yX2_lowestNext wsX2_lowestNext) := goodIn_app (goodIn_of _ (by decide +kernel)) ggX2_trace_X2_lowestNext
theorem dX2_trace_0 : decode cX2_trace 0 = .ok (.aload_n 0, 1) := by decide +kernel
theorem dX2_trace_1 : decode cX2_trace 1 = .ok (.aload_n 1, 1) := by decide +kernel
theorem dX2_trace_2 : decode cX2_trace 2 = .ok (.iload_n 2, 1) := by decide +kernel
theorem dX2_trace_3 : decode cX2_trace 3 = .ok (.invokevirtual 18, 3) := by decide +kernel
theorem dX2_trace_6 : decode cX2_trace 6 = .ok (.iload_n 3, 1) := by decide +kernel
theorem dX2_trace_7 : decode cX2_trace 7 = .ok (.istore 4, 2) := by decide +kernel
theorem dX2_trace_9 : decode cX2_trace 9 = .ok (.aload_n 0, 1) := by decide +kernel
theorem dX2_trace_10 : decode cX2_trace 10 = .ok (.getfield 9, 3) := by decide +kernel
theorem dX2_trace_13 : decode cX2_trace 13 = .ok (.iconst 0, 1) := by decide +kernel
theorem dX2_trace_14 : decode cX2_trace 14 = .ok (.iload_n 3, 1) := by decide +kernel
theorem dX2_trace_15 : decode cX2_trace 15 = .ok (.iastore, 1) := by decide +kernel
theorem dX2_trace_16 : decode cX2_trace 16 = .ok (.aload_n 0, 1) := by decide +kernel
theorem dX2_trace_17 : decode cX2_trace 17 = .ok (.iconst 1, 1) := by decide +kernel
theorem dX2_trace_18 : decode cX2_trace 18 = .ok (.putfield 22, 3) := by decide +kernel
theorem dX2_trace_21 : decode cX2_trace 21 = .ok (.aload_n 0, 1) := by decide +kernel
theorem dX2_trace_22 : decode cX2_trace 22 = .ok (.getfield 15, 3) := by decide +kernel
theorem dX2_trace_25 : decode cX2_trace 25 = .ok (.iload_n 3, 1) := by decide +kernel
theorem dX2_trace_26 : decode cX2_trace 26 = .ok (.iaload, 1) := by decide +kernel
theorem dX2_trace_27 : decode cX2_trace 27 = .ok (.istore 5, 2) := by decide +kernel
theorem dX2_trace_29 : decode cX2_trace 29 = .ok (.iload 5, 2) := by decide +kernel
theorem dX2_trace_31 : decode cX2_trace 31 = .ok (.ifCond .le 52, 3) := by decide +kernel
theorem dX2_trace_34 : decode cX2_trace 34 = .ok (.aload_n 0, 1) := by decide +kernel
theorem dX2_trace_35 : decode cX2_trace 35 = .ok (.getfield 22, 3) := by decide +kernel
theorem dX2_trace_38 : decode cX2_trace 38 = .ok (.bipush 12, 2) := by decide +kernel
theorem dX2_trace_40 : decode cX2_trace 40 = .ok (.if_icmp .ge 43, 3) := by decide +kernel
theorem dX2_trace_43 : decode cX2_trace 43 = .ok (.aload_n 0, 1) := by decide +kernel
theorem dX2_trace_44 : decode cX2_trace 44 = .ok (.aload_n 1, 1) := by decide +kernel
theorem dX2_trace_45 : decode cX2_trace 45 = .ok (.iload 4, 2) := by decide +kernel
theorem dX2_trace_47 : decode cX2_trace 47 = .ok (.iload 5, 2) := by decide +kernel
theorem dX2_trace_49 : decode cX2_trace 49 = .ok (.iconst 1, 1) := by decide +kernel
theorem dX2_trace_50 : decode cX2_trace 50 = .ok (.isub, 1) := by decide +kernel
theorem dX2_trace_51 : decode cX2_trace 51 = .ok (.invokevirtual 26, 3) := by decide +kernel
theorem dX2_trace_54 : decode cX2_trace 54 = .ok (.istore 4, 2) := by decide +kernel
theorem dX2_trace_56 : decode cX2_trace 56 = .ok (.aload_n 0, 1) := by decide +kernel
theorem dX2_trace_57 : decode cX2_trace 57 = .ok (.getfield 9, 3) := by decide +kernel
theorem dX2_trace_60 : decode cX2_trace 60 = .ok (.aload_n 0, 1) := by decide +kernel
theorem dX2_trace_61 : decode cX2_trace 61 = .ok (.getfield 22, 3) := by decide +kernel
theorem dX2_trace_64 : decode cX2_trace 64 = .ok (.iload 4, 2) := by decide +kernel
theorem dX2_trace_66 : decode cX2_trace 66 = .ok (.iastore, 1) := by decide +kernel
theorem dX2_trace_67 : decode cX2_trace 67 = .ok (.aload_n 0, 1) := by decide +kernel
theorem dX2_trace_68 : decode cX2_trace 68 = .ok (.dup, 1) := by decide +kernel
theorem dX2_trace_69 : decode cX2_trace 69 = .ok (.getfield 22, 3) := by decide +kernel
theorem dX2_trace_72 : decode cX2_trace 72 = .ok (.iconst 1, 1) := by decide +kernel
theorem dX2_trace_73 : decode cX2_trace 73 = .ok (.iadd, 1) := by decide +kernel
theorem dX2_trace_74 : decode cX2_trace 74 = .ok (.putfield 22, 3) := by decide +kernel
theorem dX2_trace_77 : decode cX2_trace 77 = .ok (.iinc 5 (-1), 3) := by decide +kernel
theorem dX2_trace_80 : decode cX2_trace 80 = .ok (.goto (-51), 3) := by decide +kernel
theorem dX2_trace_83 : decode cX2_trace 83 = .ok (.return_, 1) := by decide +kernel
set_option maxRecDepth 20000 in
theorem ggX2_measure_J7_fill_53178 : GoodIn wsX2_measure wsJ7_fill_53178 := goodIn_r _ [12] (by decide +kernel) (by decide +kernel)
set_option maxRecDepth 20000 in
theorem gX2_measure_J7_fill_53178 : GoodIn wsX2_measure (va_wsS RX2 30 yJ7_fill_53178 wsJ7_fill_53178) := goodIn_app (goodIn_of _ (by decide +kernel)) ggX2_measure_J7_fill_53178
set_option maxRecDepth 20000 in
theorem ggX2_measure_X3_has : GoodIn wsX2_measure wsX3_has := goodIn_r _ [17, 18, 19, 20, 21, 25, 26, 27, 28, 29, 30, 31] (by decide +kernel) (by decide +kernel)
set_option maxRecDepth 20000 in
theorem gX2_measure_X3_has : GoodIn wsX2_measure (wsV RX2 46 RX3 yX3_has wsX3_has) := goodIn_app (goodIn_of _ (by decide +kernel)) ggX2_measure_X3_has
theorem dX2_measure_0 : decode cX2_measure 0 = .ok (.aload_n 0, 1) := by decide +kernel
theorem dX2_measure_1 : decode cX2_measure 1 = .ok (.getfield 15, 3) := by decide +kernel
theorem dX2_measure_4 : decode cX2_measure 4 = .ok (.bipush 12, 2) := by decide +kernel
theorem dX2_measure_6 : decode cX2_measure 6 = .ok (.invokestatic 30, 3) := by decide +kernel
theorem dX2_measure_9 : decode cX2_measure 9 = .ok (.aload_n 0, 1) := by decide +kernel
theorem dX2_measure_10 : decode cX2_measure 10 = .ok (.getfield 15, 3) := by decide +kernel
theorem dX2_measure_13 : decode cX2_measure 13 = .ok (.iload_n 2, 1) := by decide +kernel
theorem dX2_measure_14 : decode cX2_measure 14 = .ok (.iconst 0, 1) := by decide +kernel
theorem dX2_measure_15 : decode cX2_measure 15 = .ok (.iastore, 1) := by decide +kernel
theorem dX2_measure_16 : decode cX2_measure 16 = .ok (.aload_n 1, 1) := by decide +kernel
theorem dX2_measure_17 : decode cX2_measure 17 = .ok (.getfield 36, 3) := by decide +kernel
theorem dX2_measure_20 : decode cX2_measure 20 = .ok (.iload_n 2, 1) := by decide +kernel
theorem dX2_measure_21 : decode cX2_measure 21 = .ok (.iaload, 1) := by decide +kernel
theorem dX2_measure_22 : decode cX2_measure 22 = .ok (.iconst 1, 1) := by decide +kernel
theorem dX2_measure_23 : decode cX2_measure 23 = .ok (.isub, 1) := by decide +kernel
theorem dX2_measure_24 : decode cX2_measure 24 = .ok (.istore_n 3, 1) := by decide +kernel
theorem dX2_measure_25 : decode cX2_measure 25 = .ok (.iload_n 3, 1) := by decide +kernel
theorem dX2_measure_26 : decode cX2_measure 26 = .ok (.ifCond .lt 72, 3) := by decide +kernel
theorem dX2_measure_29 : decode cX2_measure 29 = .ok (.aload_n 1, 1) := by decide +kernel
theorem dX2_measure_30 : decode cX2_measure 30 = .ok (.getfield 41, 3) := by decide +kernel
theorem dX2_measure_33 : decode cX2_measure 33 = .ok (.iload_n 3, 1) := by decide +kernel
theorem dX2_measure_34 : decode cX2_measure 34 = .ok (.iaload, 1) := by decide +kernel
theorem dX2_measure_35 : decode cX2_measure 35 = .ok (.istore 4, 2) := by decide +kernel
theorem dX2_measure_37 : decode cX2_measure 37 = .ok (.iconst 0, 1) := by decide +kernel
theorem dX2_measure_38 : decode cX2_measure 38 = .ok (.istore 5, 2) := by decide +kernel
theorem dX2_measure_40 : decode cX2_measure 40 = .ok (.iload 5, 2) := by decide +kernel
theorem dX2_measure_42 : decode cX2_measure 42 = .ok (.aload_n 1, 1) := by decide +kernel
theorem dX2_measure_43 : decode cX2_measure 43 = .ok (.getfield 44, 3) := by decide +kernel
theorem dX2_measure_46 : decode cX2_measure 46 = .ok (.if_icmp .ge 46, 3) := by decide +kernel
theorem dX2_measure_49 : decode cX2_measure 49 = .ok (.aload_n 1, 1) := by decide +kernel
theorem dX2_measure_50 : decode cX2_measure 50 = .ok (.iload 4, 2) := by decide +kernel
theorem dX2_measure_52 : decode cX2_measure 52 = .ok (.iload 5, 2) := by decide +kernel
theorem dX2_measure_54 : decode cX2_measure 54 = .ok (.invokevirtual 46, 3) := by decide +kernel
theorem dX2_measure_57 : decode cX2_measure 57 = .ok (.ifCond .eq 29, 3) := by decide +kernel
theorem dX2_measure_60 : decode cX2_measure 60 = .ok (.aload_n 0, 1) := by decide +kernel
theorem dX2_measure_61 : decode cX2_measure 61 = .ok (.getfield 15, 3) := by decide +kernel
theorem dX2_measure_64 : decode cX2_measure 64 = .ok (.iload 4, 2) := by decide +kernel
theorem dX2_measure_66 : decode cX2_measure 66 = .ok (.aload_n 0, 1) := by decide +kernel
theorem dX2_measure_67 : decode cX2_measure 67 = .ok (.getfield 15, 3) := by decide +kernel
theorem dX2_measure_70 : decode cX2_measure 70 = .ok (.iload 4, 2) := by decide +kernel
theorem dX2_measure_72 : decode cX2_measure 72 = .ok (.iaload, 1) := by decide +kernel
theorem dX2_measure_73 : decode cX2_measure 73 = .ok (.aload_n 0, 1) := by decide +kernel
theorem dX2_measure_74 : decode cX2_measure 74 = .ok (.getfield 15, 3) := by decide +kernel
theorem dX2_measure_77 : decode cX2_measure 77 = .ok (.iload 5, 2) := by decide +kernel
theorem dX2_measure_79 : decode cX2_measure 79 = .ok (.iaload, 1) := by decide +kernel
theorem dX2_measure_80 : decode cX2_measure 80 = .ok (.iconst 1, 1) := by decide +kernel
theorem dX2_measure_81 : decode cX2_measure 81 = .ok (.iadd, 1) := by decide +kernel
theorem dX2_measure_82 : decode cX2_measure 82 = .ok (.invokestatic 50, 3) := by decide +kernel
theorem dX2_measure_85 : decode cX2_measure 85 = .ok (.iastore, 1) := by decide +kernel
theorem dX2_measure_86 : decode cX2_measure 86 = .ok (.iinc 5 1, 3) := by decide +kernel
theorem dX2_measure_89 : decode cX2_measure 89 = .ok (.goto (-49), 3) := by decide +kernel
theorem dX2_measure_92 : decode cX2_measure 92 = .ok (.iinc 3 (-1), 3) := by decide +kernel
theorem dX2_measure_95 : decode cX2_measure 95 = .ok (.goto (-70), 3) := by decide +kernel
theorem dX2_measure_98 : decode cX2_measure 98 = .ok (.return_, 1) := by decide +kernel
set_option maxRecDepth 20000 in
theorem ggX2_lowestNext_X3_has : GoodIn wsX2_lowestNext wsX3_has := goodIn_r _ [7, 8, 9, 10, 11, 12, 13, 14, 15, 16, 17, 18] (by decide +kernel) (by decide +kernel)
set_option maxRecDepth 20000 in
theorem gX2_lowestNext_X3_has : GoodIn wsX2_lowestNext (wsV RX2 46 RX3 yX3_has wsX3_has) := goodIn_app (goodIn_of _ (by decide +kernel)) ggX2_lowestNext_X3_has
theorem dX2_lowestNext_0 : decode cX2_lowestNext 0 = .ok (.iconst 0, 1) := by decide +kernel
theorem dX2_lowestNext_1 : decode cX2_lowestNext 1 = .ok (.istore 4, 2) := by decide +kernel
theorem dX2_lowestNext_3 : decode cX2_lowestNext 3 = .ok (.iload 4, 2) := by decide +kernel
theorem dX2_lowestNext_5 : decode cX2_lowestNext 5 = .ok (.aload_n 1, 1) := by decide +kernel
theorem dX2_lowestNext_6 : decode cX2_lowestNext 6 = .ok (.getfield 44, 3) := by decide +kernel
theorem dX2_lowestNext_9 : decode cX2_lowestNext 9 = .ok (.if_icmp .ge 33, 3) := by decide +kernel
theorem dX2_lowestNext_12 : decode cX2_lowestNext 12 = .ok (.aload_n 1, 1) := by decide +kernel
theorem dX2_lowestNext_13 : decode cX2_lowestNext 13 = .ok (.iload_n 2, 1) := by decide +kernel
theorem dX2_lowestNext_14 : decode cX2_lowestNext 14 = .ok (.iload 4, 2) := by decide +kernel
theorem dX2_lowestNext_16 : decode cX2_lowestNext 16 = .ok (.invokevirtual 46, 3) := by decide +kernel
theorem dX2_lowestNext_19 : decode cX2_lowestNext 19 = .ok (.ifCond .eq 17, 3) := by decide +kernel
theorem dX2_lowestNext_22 : decode cX2_lowestNext 22 = .ok (.aload_n 0, 1) := by decide +kernel
theorem dX2_lowestNext_23 : decode cX2_lowestNext 23 = .ok (.getfield 15, 3) := by decide +kernel
theorem dX2_lowestNext_26 : decode cX2_lowestNext 26 = .ok (.iload 4, 2) := by decide +kernel
theorem dX2_lowestNext_28 : decode cX2_lowestNext 28 = .ok (.iaload, 1) := by decide +kernel
theorem dX2_lowestNext_29 : decode cX2_lowestNext 29 = .ok (.iload_n 3, 1) := by decide +kernel
theorem dX2_lowestNext_30 : decode cX2_lowestNext 30 = .ok (.if_icmp .ne 6, 3) := by decide +kernel
theorem dX2_lowestNext_33 : decode cX2_lowestNext 33 = .ok (.iload 4, 2) := by decide +kernel
theorem dX2_lowestNext_35 : decode cX2_lowestNext 35 = .ok (.ireturn, 1) := by decide +kernel
theorem dX2_lowestNext_36 : decode cX2_lowestNext 36 = .ok (.iinc 4 1, 3) := by decide +kernel
theorem dX2_lowestNext_39 : decode cX2_lowestNext 39 = .ok (.goto (-36), 3) := by decide +kernel
theorem dX2_lowestNext_42 : decode cX2_lowestNext 42 = .ok (.iload_n 2, 1) := by decide +kernel
theorem dX2_lowestNext_43 : decode cX2_lowestNext 43 = .ok (.ireturn, 1) := by decide +kernel
set_option maxRecDepth 20000 in
theorem ggX3_init_X3_begin : GoodIn wsX3_init wsX3_begin := goodIn_r _ [14, 15, 16, 5, 6, 7, 8, 17, 18, 19, 20, 21, 22, 23] (by decide +kernel) (by decide +kernel)
set_option maxRecDepth 20000 in
theorem gX3_init_X3_begin : GoodIn wsX3_init (wsV RX3 27 RX3 yX3_begin wsX3_begin) := goodIn_app (goodIn_of _ (by decide +kernel)) ggX3_init_X3_begin
theorem dX3_init_0 : decode cX3_init 0 = .ok (.aload_n 0, 1) := by decide +kernel
theorem dX3_init_1 : decode cX3_init 1 = .ok (.invokespecial 3, 3) := by decide +kernel
theorem dX3_init_4 : decode cX3_init 4 = .ok (.aload_n 0, 1) := by decide +kernel
theorem dX3_init_5 : decode cX3_init 5 = .ok (.bipush 12, 2) := by decide +kernel
theorem dX3_init_7 : decode cX3_init 7 = .ok (.newarray .int, 2) := by decide +kernel
theorem dX3_init_9 : decode cX3_init 9 = .ok (.putfield 9, 3) := by decide +kernel
theorem dX3_init_12 : decode cX3_init 12 = .ok (.aload_n 0, 1) := by decide +kernel
theorem dX3_init_13 : decode cX3_init 13 = .ok (.bipush 12, 2) := by decide +kernel
theorem dX3_init_15 : decode cX3_init 15 = .ok (.newarray .int, 2) := by decide +kernel
theorem dX3_init_17 : decode cX3_init 17 = .ok (.putfield 15, 3) := by decide +kernel
theorem dX3_init_20 : decode cX3_init 20 = .ok (.aload_n 0, 1) := by decide +kernel
theorem dX3_init_21 : decode cX3_init 21 = .ok (.bipush 12, 2) := by decide +kernel
theorem dX3_init_23 : decode cX3_init 23 = .ok (.newarray .int, 2) := by decide +kernel
theorem dX3_init_25 : decode cX3_init 25 = .ok (.putfield 18, 3) := by decide +kernel
theorem dX3_init_28 : decode cX3_init 28 = .ok (.aload_n 0, 1) := by decide +kernel
theorem dX3_init_29 : decode cX3_init 29 = .ok (.bipush 12, 2) := by decide +kernel
theorem dX3_init_31 : decode cX3_init 31 = .ok (.newarray .int, 2) := by decide +kernel
theorem dX3_init_33 : decode cX3_init 33 = .ok (.putfield 21, 3) := by decide +kernel
theorem dX3_init_36 : decode cX3_init 36 = .ok (.aload_n 0, 1) := by decide +kernel
theorem dX3_init_37 : decode cX3_init 37 = .ok (.bipush 12, 2) := by decide +kernel
theorem dX3_init_39 : decode cX3_init 39 = .ok (.newarray .int, 2) := by decide +kernel
theorem dX3_init_41 : decode cX3_init 41 = .ok (.putfield 24, 3) := by decide +kernel
theorem dX3_init_44 : decode cX3_init 44 = .ok (.aload_n 0, 1) := by decide +kernel
theorem dX3_init_45 : decode cX3_init 45 = .ok (.iconst 4, 1) := by decide +kernel
theorem dX3_init_46 : decode cX3_init 46 = .ok (.invokevirtual 27, 3) := by decide +kernel
theorem dX3_init_49 : decode cX3_init 49 = .ok (.return_, 1) := by decide +kernel
theorem dX3_begin_0 : decode cX3_begin 0 = .ok (.aload_n 0, 1) := by decide +kernel
theorem dX3_begin_1 : decode cX3_begin 1 = .ok (.iload_n 1, 1) := by decide +kernel
theorem dX3_begin_2 : decode cX3_begin 2 = .ok (.putfield 31, 3) := by decide +kernel
theorem dX3_begin_5 : decode cX3_begin 5 = .ok (.aload_n 0, 1) := by decide +kernel
theorem dX3_begin_6 : decode cX3_begin 6 = .ok (.iconst 0, 1) := by decide +kernel
theorem dX3_begin_7 : decode cX3_begin 7 = .ok (.putfield 35, 3) := by decide +kernel
theorem dX3_begin_10 : decode cX3_begin 10 = .ok (.iconst 0, 1) := by decide +kernel
theorem dX3_begin_11 : decode cX3_begin 11 = .ok (.istore_n 2, 1) := by decide +kernel
theorem dX3_begin_12 : decode cX3_begin 12 = .ok (.iload_n 2, 1) := by decide +kernel
theorem dX3_begin_13 : decode cX3_begin 13 = .ok (.bipush 12, 2) := by decide +kernel
theorem dX3_begin_15 : decode cX3_begin 15 = .ok (.if_icmp .ge 37, 3) := by decide +kernel
theorem dX3_begin_18 : decode cX3_begin 18 = .ok (.aload_n 0, 1) := by decide +kernel
theorem dX3_begin_19 : decode cX3_begin 19 = .ok (.getfield 9, 3) := by decide +kernel
theorem dX3_begin_22 : decode cX3_begin 22 = .ok (.iload_n 2, 1) := by decide +kernel
theorem dX3_begin_23 : decode cX3_begin 23 = .ok (.iconst 0, 1) := by decide +kernel
theorem dX3_begin_24 : decode cX3_begin 24 = .ok (.iastore, 1) := by decide +kernel
theorem dX3_begin_25 : decode cX3_begin 25 = .ok (.aload_n 0, 1) := by decide +kernel
theorem dX3_begin_26 : decode cX3_begin 26 = .ok (.getfield 15, 3) := by decide +kernel
theorem dX3_begin_29 : decode cX3_begin 29 = .ok (.iload_n 2, 1) := by decide +kernel
theorem dX3_begin_30 : decode cX3_begin 30 = .ok (.iconst 0, 1) := by decide +kernel
theorem dX3_begin_31 : decode cX3_begin 31 = .ok (.iastore, 1) := by decide +kernel
theorem dX3_begin_32 : decode cX3_begin 32 = .ok (.aload_n 0, 1) := by decide +kernel
theorem dX3_begin_33 : decode cX3_begin 33 = .ok (.getfield 18, 3) := by decide +kernel
theorem dX3_begin_36 : decode cX3_begin 36 = .ok (.iload_n 2, 1) := by decide +kernel
theorem dX3_begin_37 : decode cX3_begin 37 = .ok (.iload_n 2, 1) := by decide +kernel
theorem dX3_begin_38 : decode cX3_begin 38 = .ok (.iastore, 1) := by decide +kernel
theorem dX3_begin_39 : decode cX3_begin 39 = .ok (.aload_n 0, 1) := by decide +kernel
theorem dX3_begin_40 : decode cX3_begin 40 = .ok (.getfield 21, 3) := by decide +kernel
theorem dX3_begin_43 : decode cX3_begin 43 = .ok (.iload_n 2, 1) := by decide +kernel
theorem dX3_begin_44 : decode cX3_begin 44 = .ok (.iload_n 2, 1) := by decide +kernel
theorem dX3_begin_45 : decode cX3_begin 45 = .ok (.iastore, 1) := by decide +kernel
theorem dX3_begin_46 : decode cX3_begin 46 = .ok (.iinc 2 1, 3) := by decide +kernel
theorem dX3_begin_49 : decode cX3_begin 49 = .ok (.goto (-37), 3) := by decide +kernel
theorem dX3_begin_52 : decode cX3_begin 52 = .ok (.return_, 1) := by decide +kernel
theorem dX3_copyOf_0 : decode cX3_copyOf 0 = .ok (.aload_n 0, 1) := by decide +kernel
theorem dX3_copyOf_1 : decode cX3_copyOf 1 = .ok (.aload_n 1, 1) := by decide +kernel
theorem dX3_copyOf_2 : decode cX3_copyOf 2 = .ok (.getfield 31, 3) := by decide +kernel
theorem dX3_copyOf_5 : decode cX3_copyOf 5 = .ok (.putfield 31, 3) := by decide +kernel
theorem dX3_copyOf_8 : decode cX3_copyOf 8 = .ok (.aload_n 0, 1) := by decide +kernel
theorem dX3_copyOf_9 : decode cX3_copyOf 9 = .ok (.aload_n 1, 1) := by decide +kernel
theorem dX3_copyOf_10 : decode cX3_copyOf 10 = .ok (.getfield 35, 3) := by decide +kernel
theorem dX3_copyOf_13 : decode cX3_copyOf 13 = .ok (.putfield 35, 3) := by decide +kernel
theorem dX3_copyOf_16 : decode cX3_copyOf 16 = .ok (.aload_n 1, 1) := by decide +kernel
theorem dX3_copyOf_17 : decode cX3_copyOf 17 = .ok (.getfield 9, 3) := by decide +kernel
theorem dX3_copyOf_20 : decode cX3_copyOf 20 = .ok (.iconst 0, 1) := by decide +kernel
theorem dX3_copyOf_21 : decode cX3_copyOf 21 = .ok (.aload_n 0, 1) := by decide +kernel
theorem dX3_copyOf_22 : decode cX3_copyOf 22 = .ok (.getfield 9, 3) := by decide +kernel
theorem dX3_copyOf_25 : decode cX3_copyOf 25 = .ok (.iconst 0, 1) := by decide +kernel
theorem dX3_copyOf_26 : decode cX3_copyOf 26 = .ok (.bipush 12, 2) := by decide +kernel
theorem dX3_copyOf_28 : decode cX3_copyOf 28 = .ok (.invokestatic 38, 3) := by decide +kernel
theorem dX3_copyOf_31 : decode cX3_copyOf 31 = .ok (.aload_n 1, 1) := by decide +kernel
theorem dX3_copyOf_32 : decode cX3_copyOf 32 = .ok (.getfield 15, 3) := by decide +kernel
theorem dX3_copyOf_35 : decode cX3_copyOf 35 = .ok (.iconst 0, 1) := by decide +kernel
theorem dX3_copyOf_36 : decode cX3_copyOf 36 = .ok (.aload_n 0, 1) := by decide +kernel
theorem dX3_copyOf_37 : decode cX3_copyOf 37 = .ok (.getfield 15, 3) := by decide +kernel
theorem dX3_copyOf_40 : decode cX3_copyOf 40 = .ok (.iconst 0, 1) := by decide +kernel
theorem dX3_copyOf_41 : decode cX3_copyOf 41 = .ok (.bipush 12, 2) := by decide +kernel
theorem dX3_copyOf_43 : decode cX3_copyOf 43 = .ok (.invokestatic 38, 3) := by decide +kernel
theorem dX3_copyOf_46 : decode cX3_copyOf 46 = .ok (.aload_n 1, 1) := by decide +kernel
theorem dX3_copyOf_47 : decode cX3_copyOf 47 = .ok (.getfield 18, 3) := by decide +kernel
theorem dX3_copyOf_50 : decode cX3_copyOf 50 = .ok (.iconst 0, 1) := by decide +kernel
theorem dX3_copyOf_51 : decode cX3_copyOf 51 = .ok (.aload_n 0, 1) := by decide +kernel
theorem dX3_copyOf_52 : decode cX3_copyOf 52 = .ok (.getfield 18, 3) := by decide +kernel
theorem dX3_copyOf_55 : decode cX3_copyOf 55 = .ok (.iconst 0, 1) := by decide +kernel
theorem dX3_copyOf_56 : decode cX3_copyOf 56 = .ok (.bipush 12, 2) := by decide +kernel
theorem dX3_copyOf_58 : decode cX3_copyOf 58 = .ok (.invokestatic 38, 3) := by decide +kernel
theorem dX3_copyOf_61 : decode cX3_copyOf 61 = .ok (.aload_n 1, 1) := by decide +kernel
theorem dX3_copyOf_62 : decode cX3_copyOf 62 = .ok (.getfield 21, 3) := by decide +kernel
theorem dX3_copyOf_65 : decode cX3_copyOf 65 = .ok (.iconst 0, 1) := by decide +kernel
theorem dX3_copyOf_66 : decode cX3_copyOf 66 = .ok (.aload_n 0, 1) := by decide +kernel
theorem dX3_copyOf_67 : decode cX3_copyOf 67 = .ok (.getfield 21, 3) := by decide +kernel
theorem dX3_copyOf_70 : decode cX3_copyOf 70 = .ok (.iconst 0, 1) := by decide +kernel
theorem dX3_copyOf_71 : decode cX3_copyOf 71 = .ok (.bipush 12, 2) := by decide +kernel
theorem dX3_copyOf_73 : decode cX3_copyOf 73 = .ok (.invokestatic 38, 3) := by decide +kernel
theorem dX3_copyOf_76 : decode cX3_copyOf 76 = .ok (.return_, 1) := by decide +kernel
theorem dX3_isItem_0 : decode cX3_isItem 0 = .ok (.iload_n 1, 1) := by decide +kernel
theorem dX3_isItem_1 : decode cX3_isItem 1 = .ok (.ifCond .lt 15, 3) := by decide +kernel
theorem dX3_isItem_4 : decode cX3_isItem 4 = .ok (.iload_n 1, 1) := by decide +kernel
theorem dX3_isItem_5 : decode cX3_isItem 5 = .ok (.aload_n 0, 1) := by decide +kernel
theorem dX3_isItem_6 : decode cX3_isItem 6 = .ok (.getfield 31, 3) := by decide +kernel
theorem dX3_isItem_9 : decode cX3_isItem 9 = .ok (.if_icmp .ge 7, 3) := by decide +kernel
theorem dX3_isItem_12 : decode cX3_isItem 12 = .ok (.iconst 1, 1) := by decide +kernel
theorem dX3_isItem_13 : decode cX3_isItem 13 = .ok (.goto 4, 3) := by decide +kernel
theorem dX3_isItem_16 : decode cX3_isItem 16 = .ok (.iconst 0, 1) := by decide +kernel
theorem dX3_isItem_17 : decode cX3_isItem 17 = .ok (.ireturn, 1) := by decide +kernel
set_option maxRecDepth 20000 in
theorem ggX3_isPair_X3_isItem : GoodIn wsX3_isPair wsX3_isItem := goodIn_r _ [5, 6, 7, 8, 9, 10, 11, 12, 13] (by decide +kernel) (by decide +kernel)
set_option maxRecDepth 20000 in
theorem gX3_isPair_X3_isItem : GoodIn wsX3_isPair (wsV RX3 44 RX3 yX3_isItem wsX3_isItem) := goodIn_app (goodIn_of _ (by decide +kernel)) ggX3_isPair_X3_isItem
theorem dX3_isPair_0 : decode cX3_isPair 0 = .ok (.aload_n 0, 1) := by decide +kernel
theorem dX3_isPair_1 : decode cX3_isPair 1 = .ok (.iload_n 1, 1) := by decide +kernel
theorem dX3_isPair_2 : decode cX3_isPair 2 = .ok (.invokevirtual 44, 3) := by decide +kernel
theorem dX3_isPair_5 : decode cX3_isPair 5 = .ok (.ifCond .eq 20, 3) := by decide +kernel
theorem dX3_isPair_8 : decode cX3_isPair 8 = .ok (.aload_n 0, 1) := by decide +kernel
theorem dX3_isPair_9 : decode cX3_isPair 9 = .ok (.iload_n 2, 1) := by decide +kernel
theorem dX3_isPair_10 : decode cX3_isPair 10 = .ok (.invokevirtual 44, 3) := by decide +kernel
theorem dX3_isPair_13 : decode cX3_isPair 13 = .ok (.ifCond .eq 12, 3) := by decide +kernel
theorem dX3_isPair_16 : decode cX3_isPair 16 = .ok (.iload_n 1, 1) := by decide +kernel
theorem dX3_isPair_17 : decode cX3_isPair 17 = .ok (.iload_n 2, 1) := by decide +kernel
theorem dX3_isPair_18 : decode cX3_isPair 18 = .ok (.if_icmp .eq 7, 3) := by decide +kernel
theorem dX3_isPair_21 : decode cX3_isPair 21 = .ok (.iconst 1, 1) := by decide +kernel
theorem dX3_isPair_22 : decode cX3_isPair 22 = .ok (.goto 4, 3) := by decide +kernel
theorem dX3_isPair_25 : decode cX3_isPair 25 = .ok (.iconst 0, 1) := by decide +kernel
theorem dX3_isPair_26 : decode cX3_isPair 26 = .ok (.ireturn, 1) := by decide +kernel
set_option maxRecDepth 20000 in
theorem ggX3_has_X8_holdsBit : GoodIn wsX3_has wsX8_holdsBit := goodIn_r _ [4] (by decide +kernel) (by decide +kernel)
set_option maxRecDepth 20000 in
theorem gX3_has_X8_holdsBit_n48 : GoodIn wsX3_has (wsX8_holdsBit) := ggX3_has_X8_holdsBit
theorem dX3_has_0 : decode cX3_has 0 = .ok (.aload_n 0, 1) := by decide +kernel
theorem dX3_has_1 : decode cX3_has 1 = .ok (.getfield 9, 3) := by decide +kernel
theorem dX3_has_4 : decode cX3_has 4 = .ok (.iload_n 1, 1) := by decide +kernel
theorem dX3_has_5 : decode cX3_has 5 = .ok (.iaload, 1) := by decide +kernel
theorem dX3_has_6 : decode cX3_has 6 = .ok (.iload_n 2, 1) := by decide +kernel
theorem dX3_has_7 : decode cX3_has 7 = .ok (.invokestatic 48, 3) := by decide +kernel
theorem dX3_has_10 : decode cX3_has 10 = .ok (.ireturn, 1) := by decide +kernel
set_option maxRecDepth 20000 in
theorem ggX3_canTake_X3_isPair : GoodIn wsX3_canTake wsX3_isPair := goodIn_r _ [5, 6, 7, 8, 4, 9, 10, 30, 31, 32, 33, 34, 35, 36] (by decide +kernel) (by decide +kernel)
set_option maxRecDepth 20000 in
theorem gX3_canTake_X3_isPair : GoodIn wsX3_canTake (wsV RX3 52 RX3 yX3_isPair wsX3_isPair) := goodIn_app (goodIn_of _ (by decide +kernel)) ggX3_canTake_X3_isPair
set_option maxRecDepth 20000 in
theorem ggX3_canTake_X3_has : GoodIn wsX3_canTake wsX3_has := goodIn_r _ [14, 15, 16, 17, 18, 30, 31, 32, 33, 34, 35, 36] (by decide +kernel) (by decide +kernel)
set_option maxRecDepth 20000 in
theorem gX3_canTake_X3_has : GoodIn wsX3_canTake (wsV RX3 55 RX3 yX3_has wsX3_has) := goodIn_app (goodIn_of _ (by decide +kernel)) ggX3_canTake_X3_has
set_option maxRecDepth 20000 in
theorem ggX3_canTake_X3_closesRing : GoodIn wsX3_canTake wsX3_closesRing := goodIn_r _ [22, 23, 24, 25, 26, 4, 27, 28, 29, 16, 17, 18, 30, 31, 32, 33, 34, 35, 36] (by decide +kernel) (by decide +kernel)
set_option maxRecDepth 20000 in
theorem gX3_canTake_X3_closesRing : GoodIn wsX3_canTake (wsV RX3 58 RX3 yX3_closesRing wsX3_closesRing) := goodIn_app (goodIn_of _ (by decide +kernel)) ggX3_canTake_X3_closesRing
theorem dX3_canTake_0 : decode cX3_canTake 0 = .ok (.aload_n 0, 1) := by decide +kernel
theorem dX3_canTake_1 : decode cX3_canTake 1 = .ok (.iload_n 1, 1) := by decide +kernel
theorem dX3_canTake_2 : decode cX3_canTake 2 = .ok (.iload_n 2, 1) := by decide +kernel
theorem dX3_canTake_3 : decode cX3_canTake 3 = .ok (.invokevirtual 52, 3) := by decide +kernel
theorem dX3_canTake_6 : decode cX3_canTake 6 = .ok (.ifCond .eq 25, 3) := by decide +kernel
theorem dX3_canTake_9 : decode cX3_canTake 9 = .ok (.aload_n 0, 1) := by decide +kernel
theorem dX3_canTake_10 : decode cX3_canTake 10 = .ok (.iload_n 1, 1) := by decide +kernel
theorem dX3_canTake_11 : decode cX3_canTake 11 = .ok (.iload_n 2, 1) := by decide +kernel
theorem dX3_canTake_12 : decode cX3_canTake 12 = .ok (.invokevirtual 55, 3) := by decide +kernel
theorem dX3_canTake_15 : decode cX3_canTake 15 = .ok (.ifCond .ne 16, 3) := by decide +kernel
theorem dX3_canTake_18 : decode cX3_canTake 18 = .ok (.aload_n 0, 1) := by decide +kernel
theorem dX3_canTake_19 : decode cX3_canTake 19 = .ok (.iload_n 1, 1) := by decide +kernel
theorem dX3_canTake_20 : decode cX3_canTake 20 = .ok (.iload_n 2, 1) := by decide +kernel
theorem dX3_canTake_21 : decode cX3_canTake 21 = .ok (.invokevirtual 58, 3) := by decide +kernel
theorem dX3_canTake_24 : decode cX3_canTake 24 = .ok (.ifCond .ne 7, 3) := by decide +kernel
theorem dX3_canTake_27 : decode cX3_canTake 27 = .ok (.iconst 1, 1) := by decide +kernel
theorem dX3_canTake_28 : decode cX3_canTake 28 = .ok (.goto 4, 3) := by decide +kernel
theorem dX3_canTake_31 : decode cX3_canTake 31 = .ok (.iconst 0, 1) := by decide +kernel
theorem dX3_canTake_32 : decode cX3_canTake 32 = .ok (.ireturn, 1) := by decide +kernel
theorem dX3_everyItem_0 : decode cX3_everyItem 0 = .ok (.iconst 1, 1) := by decide +kernel
theorem dX3_everyItem_1 : decode cX3_everyItem 1 = .ok (.aload_n 0, 1) := by decide +kernel
theorem dX3_everyItem_2 : decode cX3_everyItem 2 = .ok (.getfield 31, 3) := by decide +kernel
theorem dX3_everyItem_5 : decode cX3_everyItem 5 = .ok (.ishl, 1) := by decide +kernel
theorem dX3_everyItem_6 : decode cX3_everyItem 6 = .ok (.iconst 1, 1) := by decide +kernel
theorem dX3_everyItem_7 : decode cX3_everyItem 7 = .ok (.isub, 1) := by decide +kernel
theorem dX3_everyItem_8 : decode cX3_everyItem 8 = .ok (.ireturn, 1) := by decide +kernel
theorem dX3_sweepOn_0 : decode cX3_sweepOn 0 = .ok (.iconst 1, 1) := by decide +kernel
theorem dX3_sweepOn_1 : decode cX3_sweepOn 1 = .ok (.iload_n 1, 1) := by decide +kernel
theorem dX3_sweepOn_2 : decode cX3_sweepOn 2 = .ok (.ishl, 1) := by decide +kernel
theorem dX3_sweepOn_3 : decode cX3_sweepOn 3 = .ok (.istore_n 3, 1) := by decide +kernel
theorem dX3_sweepOn_4 : decode cX3_sweepOn 4 = .ok (.aload_n 0, 1) := by decide +kernel
theorem dX3_sweepOn_5 : decode cX3_sweepOn 5 = .ok (.getfield 21, 3) := by decide +kernel
theorem dX3_sweepOn_8 : decode cX3_sweepOn 8 = .ok (.iload_n 1, 1) := by decide +kernel
theorem dX3_sweepOn_9 : decode cX3_sweepOn 9 = .ok (.iaload, 1) := by decide +kernel
theorem dX3_sweepOn_10 : decode cX3_sweepOn 10 = .ok (.iconst 1, 1) := by decide +kernel
theorem dX3_sweepOn_11 : decode cX3_sweepOn 11 = .ok (.iadd, 1) := by decide +kernel
theorem dX3_sweepOn_12 : decode cX3_sweepOn 12 = .ok (.istore 4, 2) := by decide +kernel
theorem dX3_sweepOn_14 : decode cX3_sweepOn 14 = .ok (.iload 4, 2) := by decide +kernel
theorem dX3_sweepOn_16 : decode cX3_sweepOn 16 = .ok (.iload_n 2, 1) := by decide +kernel
theorem dX3_sweepOn_17 : decode cX3_sweepOn 17 = .ok (.if_icmp .gt 37, 3) := by decide +kernel
theorem dX3_sweepOn_20 : decode cX3_sweepOn 20 = .ok (.aload_n 0, 1) := by decide +kernel
theorem dX3_sweepOn_21 : decode cX3_sweepOn 21 = .ok (.getfield 18, 3) := by decide +kernel
theorem dX3_sweepOn_24 : decode cX3_sweepOn 24 = .ok (.iload 4, 2) := by decide +kernel
theorem dX3_sweepOn_26 : decode cX3_sweepOn 26 = .ok (.iaload, 1) := by decide +kernel
theorem dX3_sweepOn_27 : decode cX3_sweepOn 27 = .ok (.istore 5, 2) := by decide +kernel
theorem dX3_sweepOn_29 : decode cX3_sweepOn 29 = .ok (.aload_n 0, 1) := by decide +kernel
theorem dX3_sweepOn_30 : decode cX3_sweepOn 30 = .ok (.getfield 15, 3) := by decide +kernel
theorem dX3_sweepOn_33 : decode cX3_sweepOn 33 = .ok (.iload 5, 2) := by decide +kernel
theorem dX3_sweepOn_35 : decode cX3_sweepOn 35 = .ok (.iaload, 1) := by decide +kernel
theorem dX3_sweepOn_36 : decode cX3_sweepOn 36 = .ok (.iload_n 3, 1) := by decide +kernel
theorem dX3_sweepOn_37 : decode cX3_sweepOn 37 = .ok (.iand, 1) := by decide +kernel
theorem dX3_sweepOn_38 : decode cX3_sweepOn 38 = .ok (.ifCond .eq 10, 3) := by decide +kernel
theorem dX3_sweepOn_41 : decode cX3_sweepOn 41 = .ok (.iload_n 3, 1) := by decide +kernel
theorem dX3_sweepOn_42 : decode cX3_sweepOn 42 = .ok (.iconst 1, 1) := by decide +kernel
theorem dX3_sweepOn_43 : decode cX3_sweepOn 43 = .ok (.iload 5, 2) := by decide +kernel
theorem dX3_sweepOn_45 : decode cX3_sweepOn 45 = .ok (.ishl, 1) := by decide +kernel
theorem dX3_sweepOn_46 : decode cX3_sweepOn 46 = .ok (.ior, 1) := by decide +kernel
theorem dX3_sweepOn_47 : decode cX3_sweepOn 47 = .ok (.istore_n 3, 1) := by decide +kernel
theorem dX3_sweepOn_48 : decode cX3_sweepOn 48 = .ok (.iinc 4 1, 3) := by decide +kernel
theorem dX3_sweepOn_51 : decode cX3_sweepOn 51 = .ok (.goto (-37), 3) := by decide +kernel
theorem dX3_sweepOn_54 : decode cX3_sweepOn 54 = .ok (.iload_n 3, 1) := by decide +kernel
theorem dX3_sweepOn_55 : decode cX3_sweepOn 55 = .ok (.ireturn, 1) := by decide +kernel
theorem dX3_sweepBack_0 : decode cX3_sweepBack 0 = .ok (.iconst 1, 1) := by decide +kernel
theorem dX3_sweepBack_1 : decode cX3_sweepBack 1 = .ok (.iload_n 1, 1) := by decide +kernel
theorem dX3_sweepBack_2 : decode cX3_sweepBack 2 = .ok (.ishl, 1) := by decide +kernel
theorem dX3_sweepBack_3 : decode cX3_sweepBack 3 = .ok (.istore_n 3, 1) := by decide +kernel
theorem dX3_sweepBack_4 : decode cX3_sweepBack 4 = .ok (.aload_n 0, 1) := by decide +kernel
theorem dX3_sweepBack_5 : decode cX3_sweepBack 5 = .ok (.getfield 21, 3) := by decide +kernel
theorem dX3_sweepBack_8 : decode cX3_sweepBack 8 = .ok (.iload_n 1, 1) := by decide +kernel
theorem dX3_sweepBack_9 : decode cX3_sweepBack 9 = .ok (.iaload, 1) := by decide +kernel
theorem dX3_sweepBack_10 : decode cX3_sweepBack 10 = .ok (.iconst 1, 1) := by decide +kernel
theorem dX3_sweepBack_11 : decode cX3_sweepBack 11 = .ok (.isub, 1) := by decide +kernel
theorem dX3_sweepBack_12 : decode cX3_sweepBack 12 = .ok (.istore 4, 2) := by decide +kernel
theorem dX3_sweepBack_14 : decode cX3_sweepBack 14 = .ok (.iload 4, 2) := by decide +kernel
theorem dX3_sweepBack_16 : decode cX3_sweepBack 16 = .ok (.iload_n 2, 1) := by decide +kernel
theorem dX3_sweepBack_17 : decode cX3_sweepBack 17 = .ok (.if_icmp .lt 37, 3) := by decide +kernel
theorem dX3_sweepBack_20 : decode cX3_sweepBack 20 = .ok (.aload_n 0, 1) := by decide +kernel
theorem dX3_sweepBack_21 : decode cX3_sweepBack 21 = .ok (.getfield 18, 3) := by decide +kernel
theorem dX3_sweepBack_24 : decode cX3_sweepBack 24 = .ok (.iload 4, 2) := by decide +kernel
theorem dX3_sweepBack_26 : decode cX3_sweepBack 26 = .ok (.iaload, 1) := by decide +kernel
theorem dX3_sweepBack_27 : decode cX3_sweepBack 27 = .ok (.istore 5, 2) := by decide +kernel
theorem dX3_sweepBack_29 : decode cX3_sweepBack 29 = .ok (.aload_n 0, 1) := by decide +kernel
theorem dX3_sweepBack_30 : decode cX3_sweepBack 30 = .ok (.getfield 9, 3) := by decide +kernel
theorem dX3_sweepBack_33 : decode cX3_sweepBack 33 = .ok (.iload 5, 2) := by decide +kernel
theorem dX3_sweepBack_35 : decode cX3_sweepBack 35 = .ok (.iaload, 1) := by decide +kernel
theorem dX3_sweepBack_36 : decode cX3_sweepBack 36 = .ok (.iload_n 3, 1) := by decide +kernel
theorem dX3_sweepBack_37 : decode cX3_sweepBack 37 = .ok (.iand, 1) := by decide +kernel
theorem dX3_sweepBack_38 : decode cX3_sweepBack 38 = .ok (.ifCond .eq 10, 3) := by decide +kernel
theorem dX3_sweepBack_41 : decode cX3_sweepBack 41 = .ok (.iload_n 3, 1) := by decide +kernel
theorem dX3_sweepBack_42 : decode cX3_sweepBack 42 = .ok (.iconst 1, 1) := by decide +kernel
theorem dX3_sweepBack_43 : decode cX3_sweepBack 43 = .ok (.iload 5, 2) := by decide +kernel
theorem dX3_sweepBack_45 : decode cX3_sweepBack 45 = .ok (.ishl, 1) := by decide +kernel
theorem dX3_sweepBack_46 : decode cX3_sweepBack 46 = .ok (.ior, 1) := by decide +kernel
theorem dX3_sweepBack_47 : decode cX3_sweepBack 47 = .ok (.istore_n 3, 1) := by decide +kernel
theorem dX3_sweepBack_48 : decode cX3_sweepBack 48 = .ok (.iinc 4 (-1), 3) := by decide +kernel
theorem dX3_sweepBack_51 : decode cX3_sweepBack 51 = .ok (.goto (-37), 3) := by decide +kernel
theorem dX3_sweepBack_54 : decode cX3_sweepBack 54 = .ok (.iload_n 3, 1) := by decide +kernel
theorem dX3_sweepBack_55 : decode cX3_sweepBack 55 = .ok (.ireturn, 1) := by decide +kernel
set_option maxRecDepth 20000 in
theorem ggX3_allBehind_X3_sweepOn : GoodIn wsX3_allBehind wsX3_sweepOn := goodIn_r _ [6, 7, 8, 9, 10, 11, 12, 13, 14, 15, 16] (by decide +kernel) (by decide +kernel)
set_option maxRecDepth 20000 in
theorem gX3_allBehind_X3_sweepOn : GoodIn wsX3_allBehind (wsV RX3 61 RX3 yX3_sweepOn wsX3_sweepOn) := goodIn_app (goodIn_of _ (by decide +kernel)) ggX3_allBehind_X3_sweepOn
theorem dX3_allBehind_0 : decode cX3_allBehind 0 = .ok (.aload_n 0, 1) := by decide +kernel
theorem dX3_allBehind_1 : decode cX3_allBehind 1 = .ok (.iload_n 1, 1) := by decide +kernel
theorem dX3_allBehind_2 : decode cX3_allBehind 2 = .ok (.aload_n 0, 1) := by decide +kernel
theorem dX3_allBehind_3 : decode cX3_allBehind 3 = .ok (.getfield 31, 3) := by decide +kernel
theorem dX3_allBehind_6 : decode cX3_allBehind 6 = .ok (.iconst 1, 1) := by decide +kernel
theorem dX3_allBehind_7 : decode cX3_allBehind 7 = .ok (.isub, 1) := by decide +kernel
theorem dX3_allBehind_8 : decode cX3_allBehind 8 = .ok (.invokevirtual 61, 3) := by decide +kernel
theorem dX3_allBehind_11 : decode cX3_allBehind 11 = .ok (.iconst 1, 1) := by decide +kernel
theorem dX3_allBehind_12 : decode cX3_allBehind 12 = .ok (.iload_n 1, 1) := by decide +kernel
theorem dX3_allBehind_13 : decode cX3_allBehind 13 = .ok (.ishl, 1) := by decide +kernel
theorem dX3_allBehind_14 : decode cX3_allBehind 14 = .ok (.iconst (-1), 1) := by decide +kernel
theorem dX3_allBehind_15 : decode cX3_allBehind 15 = .ok (.ixor, 1) := by decide +kernel
theorem dX3_allBehind_16 : decode cX3_allBehind 16 = .ok (.iand, 1) := by decide +kernel
theorem dX3_allBehind_17 : decode cX3_allBehind 17 = .ok (.ireturn, 1) := by decide +kernel
set_option maxRecDepth 20000 in
theorem ggX3_allAheadOf_X3_sweepBack : GoodIn wsX3_allAheadOf wsX3_sweepBack := goodIn_r _ [5, 6, 7, 8, 9, 10, 11, 12, 13, 14, 15] (by decide +kernel) (by decide +kernel)
set_option maxRecDepth 20000 in
theorem gX3_allAheadOf_X3_sweepBack : GoodIn wsX3_allAheadOf (wsV RX3 65 RX3 yX3_sweepBack wsX3_sweepBack) := goodIn_app (goodIn_of _ (by decide +kernel)) ggX3_allAheadOf_X3_sweepBack
theorem dX3_allAheadOf_0 : decode cX3_allAheadOf 0 = .ok (.aload_n 0, 1) := by decide +kernel
theorem dX3_allAheadOf_1 : decode cX3_allAheadOf 1 = .ok (.iload_n 1, 1) := by decide +kernel
theorem dX3_allAheadOf_2 : decode cX3_allAheadOf 2 = .ok (.iconst 0, 1) := by decide +kernel
theorem dX3_allAheadOf_3 : decode cX3_allAheadOf 3 = .ok (.invokevirtual 65, 3) := by decide +kernel
theorem dX3_allAheadOf_6 : decode cX3_allAheadOf 6 = .ok (.iconst 1, 1) := by decide +kernel
theorem dX3_allAheadOf_7 : decode cX3_allAheadOf 7 = .ok (.iload_n 1, 1) := by decide +kernel
theorem dX3_allAheadOf_8 : decode cX3_allAheadOf 8 = .ok (.ishl, 1) := by decide +kernel
theorem dX3_allAheadOf_9 : decode cX3_allAheadOf 9 = .ok (.iconst (-1), 1) := by decide +kernel
theorem dX3_allAheadOf_10 : decode cX3_allAheadOf 10 = .ok (.ixor, 1) := by decide +kernel
theorem dX3_allAheadOf_11 : decode cX3_allAheadOf 11 = .ok (.iand, 1) := by decide +kernel
theorem dX3_allAheadOf_12 : decode cX3_allAheadOf 12 = .ok (.ireturn, 1) := by decide +kernel
set_option maxRecDepth 20000 in
theorem ggX3_after_X3_sweepOn : GoodIn wsX3_after wsX3_sweepOn := goodIn_r _ [6, 1, 7, 8, 9, 10, 11, 12, 13, 14, 15] (by decide +kernel) (by decide +kernel)
set_option maxRecDepth 20000 in
theorem gX3_after_X3_sweepOn : GoodIn wsX3_after (wsV RX3 61 RX3 yX3_sweepOn wsX3_sweepOn) := goodIn_app (goodIn_of _ (by decide +kernel)) ggX3_after_X3_sweepOn
theorem dX3_after_0 : decode cX3_after 0 = .ok (.aload_n 0, 1) := by decide +kernel
theorem dX3_after_1 : decode cX3_after 1 = .ok (.getfield 21, 3) := by decide +kernel
theorem dX3_after_4 : decode cX3_after 4 = .ok (.iload_n 1, 1) := by decide +kernel
theorem dX3_after_5 : decode cX3_after 5 = .ok (.iaload, 1) := by decide +kernel
theorem dX3_after_6 : decode cX3_after 6 = .ok (.aload_n 0, 1) := by decide +kernel
theorem dX3_after_7 : decode cX3_after 7 = .ok (.getfield 21, 3) := by decide +kernel
theorem dX3_after_10 : decode cX3_after 10 = .ok (.iload_n 2, 1) := by decide +kernel
theorem dX3_after_11 : decode cX3_after 11 = .ok (.iaload, 1) := by decide +kernel
theorem dX3_after_12 : decode cX3_after 12 = .ok (.if_icmp .ge 7, 3) := by decide +kernel
theorem dX3_after_15 : decode cX3_after 15 = .ok (.iconst 0, 1) := by decide +kernel
theorem dX3_after_16 : decode cX3_after 16 = .ok (.goto 14, 3) := by decide +kernel
theorem dX3_after_19 : decode cX3_after 19 = .ok (.aload_n 0, 1) := by decide +kernel
theorem dX3_after_20 : decode cX3_after 20 = .ok (.iload_n 2, 1) := by decide +kernel
theorem dX3_after_21 : decode cX3_after 21 = .ok (.aload_n 0, 1) := by decide +kernel
theorem dX3_after_22 : decode cX3_after 22 = .ok (.getfield 21, 3) := by decide +kernel
theorem dX3_after_25 : decode cX3_after 25 = .ok (.iload_n 1, 1) := by decide +kernel
theorem dX3_after_26 : decode cX3_after 26 = .ok (.iaload, 1) := by decide +kernel
theorem dX3_after_27 : decode cX3_after 27 = .ok (.invokevirtual 61, 3) := by decide +kernel
theorem dX3_after_30 : decode cX3_after 30 = .ok (.ireturn, 1) := by decide +kernel
set_option maxRecDepth 20000 in
theorem ggX3_before_X3_sweepBack : GoodIn wsX3_before wsX3_sweepBack := goodIn_r _ [6, 1, 7, 8, 9, 10, 11, 12, 13, 14, 15] (by decide +kernel) (by decide +kernel)
set_option maxRecDepth 20000 in
theorem gX3_before_X3_sweepBack : GoodIn wsX3_before (wsV RX3 65 RX3 yX3_sweepBack wsX3_sweepBack) := goodIn_app (goodIn_of _ (by decide +kernel)) ggX3_before_X3_sweepBack
theorem dX3_before_0 : decode cX3_before 0 = .ok (.aload_n 0, 1) := by decide +kernel
theorem dX3_before_1 : decode cX3_before 1 = .ok (.getfield 21, 3) := by decide +kernel
theorem dX3_before_4 : decode cX3_before 4 = .ok (.iload_n 1, 1) := by decide +kernel
theorem dX3_before_5 : decode cX3_before 5 = .ok (.iaload, 1) := by decide +kernel
theorem dX3_before_6 : decode cX3_before 6 = .ok (.aload_n 0, 1) := by decide +kernel
theorem dX3_before_7 : decode cX3_before 7 = .ok (.getfield 21, 3) := by decide +kernel
theorem dX3_before_10 : decode cX3_before 10 = .ok (.iload_n 2, 1) := by decide +kernel
theorem dX3_before_11 : decode cX3_before 11 = .ok (.iaload, 1) := by decide +kernel
theorem dX3_before_12 : decode cX3_before 12 = .ok (.if_icmp .ge 7, 3) := by decide +kernel
theorem dX3_before_15 : decode cX3_before 15 = .ok (.iconst 0, 1) := by decide +kernel
theorem dX3_before_16 : decode cX3_before 16 = .ok (.goto 14, 3) := by decide +kernel
theorem dX3_before_19 : decode cX3_before 19 = .ok (.aload_n 0, 1) := by decide +kernel
theorem dX3_before_20 : decode cX3_before 20 = .ok (.iload_n 1, 1) := by decide +kernel
theorem dX3_before_21 : decode cX3_before 21 = .ok (.aload_n 0, 1) := by decide +kernel
theorem dX3_before_22 : decode cX3_before 22 = .ok (.getfield 21, 3) := by decide +kernel
theorem dX3_before_25 : decode cX3_before 25 = .ok (.iload_n 2, 1) := by decide +kernel
theorem dX3_before_26 : decode cX3_before 26 = .ok (.iaload, 1) := by decide +kernel
theorem dX3_before_27 : decode cX3_before 27 = .ok (.invokevirtual 65, 3) := by decide +kernel
theorem dX3_before_30 : decode cX3_before 30 = .ok (.ireturn, 1) := by decide +kernel
set_option maxRecDepth 20000 in
theorem ggX3_closesRing_X3_sweepOn : GoodIn wsX3_closesRing wsX3_sweepOn := goodIn_r _ [6, 1, 7, 8, 12, 13, 14, 15, 16, 17, 18] (by decide +kernel) (by decide +kernel)
set_option maxRecDepth 20000 in
theorem gX3_closesRing_X3_sweepOn : GoodIn wsX3_closesRing (wsV RX3 61 RX3 yX3_sweepOn wsX3_sweepOn) := goodIn_app (goodIn_of _ (by decide +kernel)) ggX3_closesRing_X3_sweepOn
set_option maxRecDepth 20000 in
theorem ggX3_closesRing_X8_holdsBit : GoodIn wsX3_closesRing wsX8_holdsBit := goodIn_r _ [11] (by decide +kernel) (by decide +kernel)
set_option maxRecDepth 20000 in
theorem gX3_closesRing_X8_holdsBit_n48 : GoodIn wsX3_closesRing (wsX8_holdsBit) := ggX3_closesRing_X8_holdsBit
theorem dX3_closesRing_0 : decode cX3_closesRing 0 = .ok (.aload_n 0, 1) := by decide +kernel
theorem dX3_closesRing_1 : decode cX3_closesRing 1 = .ok (.getfield 21, 3) := by decide +kernel
theorem dX3_closesRing_4 : decode cX3_closesRing 4 = .ok (.iload_n 1, 1) := by decide +kernel
theorem dX3_closesRing_5 : decode cX3_closesRing 5 = .ok (.iaload, 1) := by decide +kernel
theorem dX3_closesRing_6 : decode cX3_closesRing 6 = .ok (.aload_n 0, 1) := by decide +kernel
theorem dX3_closesRing_7 : decode cX3_closesRing 7 = .ok (.getfield 21, 3) := by decide +kernel
theorem dX3_closesRing_10 : decode cX3_closesRing 10 = .ok (.iload_n 2, 1) := by decide +kernel
theorem dX3_closesRing_11 : decode cX3_closesRing 11 = .ok (.iaload, 1) := by decide +kernel
theorem dX3_closesRing_12 : decode cX3_closesRing 12 = .ok (.if_icmp .le 25, 3) := by decide +kernel
theorem dX3_closesRing_15 : decode cX3_closesRing 15 = .ok (.aload_n 0, 1) := by decide +kernel
theorem dX3_closesRing_16 : decode cX3_closesRing 16 = .ok (.iload_n 2, 1) := by decide +kernel
theorem dX3_closesRing_17 : decode cX3_closesRing 17 = .ok (.aload_n 0, 1) := by decide +kernel
theorem dX3_closesRing_18 : decode cX3_closesRing 18 = .ok (.getfield 21, 3) := by decide +kernel
theorem dX3_closesRing_21 : decode cX3_closesRing 21 = .ok (.iload_n 1, 1) := by decide +kernel
theorem dX3_closesRing_22 : decode cX3_closesRing 22 = .ok (.iaload, 1) := by decide +kernel
theorem dX3_closesRing_23 : decode cX3_closesRing 23 = .ok (.invokevirtual 61, 3) := by decide +kernel
theorem dX3_closesRing_26 : decode cX3_closesRing 26 = .ok (.iload_n 1, 1) := by decide +kernel
theorem dX3_closesRing_27 : decode cX3_closesRing 27 = .ok (.invokestatic 48, 3) := by decide +kernel
theorem dX3_closesRing_30 : decode cX3_closesRing 30 = .ok (.ifCond .eq 7, 3) := by decide +kernel
theorem dX3_closesRing_33 : decode cX3_closesRing 33 = .ok (.iconst 1, 1) := by decide +kernel
theorem dX3_closesRing_34 : decode cX3_closesRing 34 = .ok (.goto 4, 3) := by decide +kernel
theorem dX3_closesRing_37 : decode cX3_closesRing 37 = .ok (.iconst 0, 1) := by decide +kernel
theorem dX3_closesRing_38 : decode cX3_closesRing 38 = .ok (.ireturn, 1) := by decide +kernel
set_option maxRecDepth 20000 in
theorem ggX3_movedBy_X3_closesRing : GoodIn wsX3_movedBy wsX3_closesRing := goodIn_r _ [5, 6, 7, 8, 9, 4, 10, 11, 12, 13, 14, 15, 29, 30, 31, 32, 33, 34, 35] (by decide +kernel) (by decide +kernel)
set_option maxRecDepth 20000 in
theorem gX3_movedBy_X3_closesRing : GoodIn wsX3_movedBy (wsV RX3 58 RX3 yX3_closesRing wsX3_closesRing) := goodIn_app (goodIn_of _ (by decide +kernel)) ggX3_movedBy_X3_closesRing
set_option maxRecDepth 20000 in
theorem ggX3_movedBy_X3_before : GoodIn wsX3_movedBy wsX3_before := goodIn_r _ [19, 6, 20, 21, 22, 4, 23, 11, 24, 29, 30, 31, 32, 33, 34, 35] (by decide +kernel) (by decide +kernel)
set_option maxRecDepth 20000 in
theorem gX3_movedBy_X3_before : GoodIn wsX3_movedBy (wsV RX3 68 RX3 yX3_before wsX3_before) := goodIn_app (goodIn_of _ (by decide +kernel)) ggX3_movedBy_X3_before
set_option maxRecDepth 20000 in
theorem ggX3_movedBy_X3_after : GoodIn wsX3_movedBy wsX3_after := goodIn_r _ [28, 6, 7, 8, 9, 4, 10, 11, 12, 29, 30, 31, 32, 33, 34, 35] (by decide +kernel) (by decide +kernel)
set_option maxRecDepth 20000 in
theorem gX3_movedBy_X3_after : GoodIn wsX3_movedBy (wsV RX3 71 RX3 yX3_after wsX3_after) := goodIn_app (goodIn_of _ (by decide +kernel)) ggX3_movedBy_X3_after
theorem dX3_movedBy_0 : decode cX3_movedBy 0 = .ok (.aload_n 0, 1) := by decide +kernel
theorem dX3_movedBy_1 : decode cX3_movedBy 1 = .ok (.iload_n 1, 1) := by decide +kernel
theorem dX3_movedBy_2 : decode cX3_movedBy 2 = .ok (.iload_n 2, 1) := by decide +kernel
theorem dX3_movedBy_3 : decode cX3_movedBy 3 = .ok (.invokevirtual 58, 3) := by decide +kernel
theorem dX3_movedBy_6 : decode cX3_movedBy 6 = .ok (.ifCond .eq 7, 3) := by decide +kernel
theorem dX3_movedBy_9 : decode cX3_movedBy 9 = .ok (.iconst 0, 1) := by decide +kernel
theorem dX3_movedBy_10 : decode cX3_movedBy 10 = .ok (.goto 16, 3) := by decide +kernel
theorem dX3_movedBy_13 : decode cX3_movedBy 13 = .ok (.aload_n 0, 1) := by decide +kernel
theorem dX3_movedBy_14 : decode cX3_movedBy 14 = .ok (.iload_n 1, 1) := by decide +kernel
theorem dX3_movedBy_15 : decode cX3_movedBy 15 = .ok (.iload_n 2, 1) := by decide +kernel
theorem dX3_movedBy_16 : decode cX3_movedBy 16 = .ok (.invokevirtual 68, 3) := by decide +kernel
theorem dX3_movedBy_19 : decode cX3_movedBy 19 = .ok (.aload_n 0, 1) := by decide +kernel
theorem dX3_movedBy_20 : decode cX3_movedBy 20 = .ok (.iload_n 1, 1) := by decide +kernel
theorem dX3_movedBy_21 : decode cX3_movedBy 21 = .ok (.iload_n 2, 1) := by decide +kernel
theorem dX3_movedBy_22 : decode cX3_movedBy 22 = .ok (.invokevirtual 71, 3) := by decide +kernel
theorem dX3_movedBy_25 : decode cX3_movedBy 25 = .ok (.ior, 1) := by decide +kernel
theorem dX3_movedBy_26 : decode cX3_movedBy 26 = .ok (.ireturn, 1) := by decide +kernel
set_option maxRecDepth 20000 in
theorem ggX3_put_X3_closesRing : GoodIn wsX3_put wsX3_closesRing := goodIn_r _ [8, 9, 10, 11, 12, 7, 13, 14, 2, 15, 16, 17, 51, 52, 53, 54, 55, 56, 57] (by decide +kernel) (by decide +kernel)
set_option maxRecDepth 20000 in
theorem gX3_put_X3_closesRing : GoodIn wsX3_put (wsV RX3 58 RX3 yX3_closesRing wsX3_closesRing) := goodIn_app (goodIn_of _ (by decide +kernel)) ggX3_put_X3_closesRing
set_option maxRecDepth 20000 in
theorem ggX3_put_X3_before : GoodIn wsX3_put wsX3_before := goodIn_r _ [21, 9, 22, 23, 24, 7, 25, 14, 1, 51, 52, 53, 54, 55, 56, 57] (by decide +kernel) (by decide +kernel)
set_option maxRecDepth 20000 in
theorem gX3_put_X3_before : GoodIn wsX3_put (wsV RX3 68 RX3 yX3_before wsX3_before) := goodIn_app (goodIn_of _ (by decide +kernel)) ggX3_put_X3_before
set_option maxRecDepth 20000 in
theorem ggX3_put_X3_after : GoodIn wsX3_put wsX3_after := goodIn_r _ [29, 9, 10, 11, 12, 7, 13, 14, 2, 51, 52, 53, 54, 55, 56, 57] (by decide +kernel) (by decide +kernel)
set_option maxRecDepth 20000 in
theorem gX3_put_X3_after : GoodIn wsX3_put (wsV RX3 71 RX3 yX3_after wsX3_after) := goodIn_app (goodIn_of _ (by decide +kernel)) ggX3_put_X3_after
set_option maxRecDepth 20000 in
theorem ggX3_put_X3_rearrange : GoodIn wsX3_put wsX3_rearrange := goodIn_r _ [33, 34, 14, 35, 36, 37, 38, 7, 39, 15, 16, 17, 40, 41, 42, 43, 9, 51, 52, 53, 54, 55, 56, 57] (by decide +kernel) (by decide +kernel)
set_option maxRecDepth 20000 in
theorem gX3_put_X3_rearrange : GoodIn wsX3_put (wsV RX3 74 RX3 yX3_rearrange wsX3_rearrange) := goodIn_app (goodIn_of _ (by decide +kernel)) ggX3_put_X3_rearrange
set_option maxRecDepth 20000 in
theorem ggX3_put_J6_bitCount_0f7a4 : GoodIn wsX3_put wsJ6_bitCount_0f7a4 := goodIn_r _ [47, 48, 49, 50] (by decide +kernel) (by decide +kernel)
set_option maxRecDepth 20000 in
theorem gX3_put_J6_bitCount_0f7a4 : GoodIn wsX3_put (va_wsS RX3 78 yJ6_bitCount_0f7a4 wsJ6_bitCount_0f7a4) := goodIn_app (goodIn_of _ (by decide +kernel)) ggX3_put_J6_bitCount_0f7a4
theorem dX3_put_0 : decode cX3_put 0 = .ok (.aload_n 0, 1) := by decide +kernel
theorem dX3_put_1 : decode cX3_put 1 = .ok (.iload_n 1, 1) := by decide +kernel
theorem dX3_put_2 : decode cX3_put 2 = .ok (.iload_n 2, 1) := by decide +kernel
theorem dX3_put_3 : decode cX3_put 3 = .ok (.invokevirtual 58, 3) := by decide +kernel
theorem dX3_put_6 : decode cX3_put 6 = .ok (.ifCond .eq 6, 3) := by decide +kernel
theorem dX3_put_9 : decode cX3_put 9 = .ok (.bipush (-4), 2) := by decide +kernel
theorem dX3_put_11 : decode cX3_put 11 = .ok (.ireturn, 1) := by decide +kernel
theorem dX3_put_12 : decode cX3_put 12 = .ok (.aload_n 0, 1) := by decide +kernel
theorem dX3_put_13 : decode cX3_put 13 = .ok (.iload_n 1, 1) := by decide +kernel
theorem dX3_put_14 : decode cX3_put 14 = .ok (.iload_n 2, 1) := by decide +kernel
theorem dX3_put_15 : decode cX3_put 15 = .ok (.invokevirtual 68, 3) := by decide +kernel
theorem dX3_put_18 : decode cX3_put 18 = .ok (.istore_n 3, 1) := by decide +kernel
theorem dX3_put_19 : decode cX3_put 19 = .ok (.aload_n 0, 1) := by decide +kernel
theorem dX3_put_20 : decode cX3_put 20 = .ok (.iload_n 1, 1) := by decide +kernel
theorem dX3_put_21 : decode cX3_put 21 = .ok (.iload_n 2, 1) := by decide +kernel
theorem dX3_put_22 : decode cX3_put 22 = .ok (.invokevirtual 71, 3) := by decide +kernel
theorem dX3_put_25 : decode cX3_put 25 = .ok (.istore 4, 2) := by decide +kernel
theorem dX3_put_27 : decode cX3_put 27 = .ok (.aload_n 0, 1) := by decide +kernel
theorem dX3_put_28 : decode cX3_put 28 = .ok (.iload_n 3, 1) := by decide +kernel
theorem dX3_put_29 : decode cX3_put 29 = .ok (.iload 4, 2) := by decide +kernel
theorem dX3_put_31 : decode cX3_put 31 = .ok (.invokevirtual 74, 3) := by decide +kernel
theorem dX3_put_34 : decode cX3_put 34 = .ok (.aload_n 0, 1) := by decide +kernel
theorem dX3_put_35 : decode cX3_put 35 = .ok (.getfield 9, 3) := by decide +kernel
theorem dX3_put_38 : decode cX3_put 38 = .ok (.iload_n 1, 1) := by decide +kernel
theorem dX3_put_39 : decode cX3_put 39 = .ok (.dup2, 1) := by decide +kernel
theorem dX3_put_40 : decode cX3_put 40 = .ok (.iaload, 1) := by decide +kernel
theorem dX3_put_41 : decode cX3_put 41 = .ok (.iconst 1, 1) := by decide +kernel
theorem dX3_put_42 : decode cX3_put 42 = .ok (.iload_n 2, 1) := by decide +kernel
theorem dX3_put_43 : decode cX3_put 43 = .ok (.ishl, 1) := by decide +kernel
theorem dX3_put_44 : decode cX3_put 44 = .ok (.ior, 1) := by decide +kernel
theorem dX3_put_45 : decode cX3_put 45 = .ok (.iastore, 1) := by decide +kernel
theorem dX3_put_46 : decode cX3_put 46 = .ok (.aload_n 0, 1) := by decide +kernel
theorem dX3_put_47 : decode cX3_put 47 = .ok (.getfield 15, 3) := by decide +kernel
theorem dX3_put_50 : decode cX3_put 50 = .ok (.iload_n 2, 1) := by decide +kernel
theorem dX3_put_51 : decode cX3_put 51 = .ok (.dup2, 1) := by decide +kernel
theorem dX3_put_52 : decode cX3_put 52 = .ok (.iaload, 1) := by decide +kernel
theorem dX3_put_53 : decode cX3_put 53 = .ok (.iconst 1, 1) := by decide +kernel
theorem dX3_put_54 : decode cX3_put 54 = .ok (.iload_n 1, 1) := by decide +kernel
theorem dX3_put_55 : decode cX3_put 55 = .ok (.ishl, 1) := by decide +kernel
theorem dX3_put_56 : decode cX3_put 56 = .ok (.ior, 1) := by decide +kernel
theorem dX3_put_57 : decode cX3_put 57 = .ok (.iastore, 1) := by decide +kernel
theorem dX3_put_58 : decode cX3_put 58 = .ok (.aload_n 0, 1) := by decide +kernel
theorem dX3_put_59 : decode cX3_put 59 = .ok (.dup, 1) := by decide +kernel
theorem dX3_put_60 : decode cX3_put 60 = .ok (.getfield 35, 3) := by decide +kernel
theorem dX3_put_63 : decode cX3_put 63 = .ok (.iconst 1, 1) := by decide +kernel
theorem dX3_put_64 : decode cX3_put 64 = .ok (.iadd, 1) := by decide +kernel
theorem dX3_put_65 : decode cX3_put 65 = .ok (.putfield 35, 3) := by decide +kernel
theorem dX3_put_68 : decode cX3_put 68 = .ok (.iload_n 3, 1) := by decide +kernel
theorem dX3_put_69 : decode cX3_put 69 = .ok (.iload 4, 2) := by decide +kernel
theorem dX3_put_71 : decode cX3_put 71 = .ok (.ior, 1) := by decide +kernel
theorem dX3_put_72 : decode cX3_put 72 = .ok (.invokestatic 78, 3) := by decide +kernel
theorem dX3_put_75 : decode cX3_put 75 = .ok (.ireturn, 1) := by decide +kernel
theorem dX3_part_0 : decode cX3_part 0 = .ok (.aload_n 0, 1) := by decide +kernel
theorem dX3_part_1 : decode cX3_part 1 = .ok (.getfield 9, 3) := by decide +kernel
theorem dX3_part_4 : decode cX3_part 4 = .ok (.iload_n 1, 1) := by decide +kernel
theorem dX3_part_5 : decode cX3_part 5 = .ok (.dup2, 1) := by decide +kernel
theorem dX3_part_6 : decode cX3_part 6 = .ok (.iaload, 1) := by decide +kernel
theorem dX3_part_7 : decode cX3_part 7 = .ok (.iconst 1, 1) := by decide +kernel
theorem dX3_part_8 : decode cX3_part 8 = .ok (.iload_n 2, 1) := by decide +kernel
theorem dX3_part_9 : decode cX3_part 9 = .ok (.ishl, 1) := by decide +kernel
theorem dX3_part_10 : decode cX3_part 10 = .ok (.iconst (-1), 1) := by decide +kernel
theorem dX3_part_11 : decode cX3_part 11 = .ok (.ixor, 1) := by decide +kernel
theorem dX3_part_12 : decode cX3_part 12 = .ok (.iand, 1) := by decide +kernel
theorem dX3_part_13 : decode cX3_part 13 = .ok (.iastore, 1) := by decide +kernel
theorem dX3_part_14 : decode cX3_part 14 = .ok (.aload_n 0, 1) := by decide +kernel
theorem dX3_part_15 : decode cX3_part 15 = .ok (.getfield 15, 3) := by decide +kernel
theorem dX3_part_18 : decode cX3_part 18 = .ok (.iload_n 2, 1) := by decide +kernel
theorem dX3_part_19 : decode cX3_part 19 = .ok (.dup2, 1) := by decide +kernel
theorem dX3_part_20 : decode cX3_part 20 = .ok (.iaload, 1) := by decide +kernel
theorem dX3_part_21 : decode cX3_part 21 = .ok (.iconst 1, 1) := by decide +kernel
theorem dX3_part_22 : decode cX3_part 22 = .ok (.iload_n 1, 1) := by decide +kernel
theorem dX3_part_23 : decode cX3_part 23 = .ok (.ishl, 1) := by decide +kernel
theorem dX3_part_24 : decode cX3_part 24 = .ok (.iconst (-1), 1) := by decide +kernel
theorem dX3_part_25 : decode cX3_part 25 = .ok (.ixor, 1) := by decide +kernel
theorem dX3_part_26 : decode cX3_part 26 = .ok (.iand, 1) := by decide +kernel
theorem dX3_part_27 : decode cX3_part 27 = .ok (.iastore, 1) := by decide +kernel
theorem dX3_part_28 : decode cX3_part 28 = .ok (.aload_n 0, 1) := by decide +kernel
theorem dX3_part_29 : decode cX3_part 29 = .ok (.dup, 1) := by decide +kernel
theorem dX3_part_30 : decode cX3_part 30 = .ok (.getfield 35, 3) := by decide +kernel
theorem dX3_part_33 : decode cX3_part 33 = .ok (.iconst 1, 1) := by decide +kernel
theorem dX3_part_34 : decode cX3_part 34 = .ok (.isub, 1) := by decide +kernel
theorem dX3_part_35 : decode cX3_part 35 = .ok (.putfield 35, 3) := by decide +kernel
theorem dX3_part_38 : decode cX3_part 38 = .ok (.return_, 1) := by decide +kernel
set_option maxRecDepth 20000 in
theorem ggX3_rearrange_X3_gather : GoodIn wsX3_rearrange wsX3_gather := goodIn_r _ [8, 1, 2, 3, 9, 10, 11, 17, 18, 19, 20, 21, 22, 23] (by decide +kernel) (by decide +kernel)
set_option maxRecDepth 20000 in
theorem gX3_rearrange_X3_gather : GoodIn wsX3_rearrange (wsV RX3 84 RX3 yX3_gather wsX3_gather) := goodIn_app (goodIn_of _ (by decide +kernel)) ggX3_rearrange_X3_gather
set_option maxRecDepth 20000 in
theorem ggX3_rearrange_X8_holdsBit : GoodIn wsX3_rearrange wsX8_holdsBit := goodIn_r _ [11] (by decide +kernel) (by decide +kernel)
set_option maxRecDepth 20000 in
theorem gX3_rearrange_X8_holdsBit_n48 : GoodIn wsX3_rearrange (wsX8_holdsBit) := ggX3_rearrange_X8_holdsBit
set_option maxRecDepth 20000 in
theorem ggX3_rearrange_X3_stand : GoodIn wsX3_rearrange wsX3_stand := goodIn_r _ [15, 2, 16, 17, 18, 19, 20, 21, 22, 23] (by decide +kernel) (by decide +kernel)
set_option maxRecDepth 20000 in
theorem gX3_rearrange_X3_stand : GoodIn wsX3_rearrange (wsV RX3 87 RX3 yX3_stand wsX3_stand) := goodIn_app (goodIn_of _ (by decide +kernel)) ggX3_rearrange_X3_stand
theorem dX3_rearrange_0 : decode cX3_rearrange 0 = .ok (.aload_n 0, 1) := by decide +kernel
theorem dX3_rearrange_1 : decode cX3_rearrange 1 = .ok (.iload_n 2, 1) := by decide +kernel
theorem dX3_rearrange_2 : decode cX3_rearrange 2 = .ok (.aload_n 0, 1) := by decide +kernel
theorem dX3_rearrange_3 : decode cX3_rearrange 3 = .ok (.iload_n 1, 1) := by decide +kernel
theorem dX3_rearrange_4 : decode cX3_rearrange 4 = .ok (.iconst 0, 1) := by decide +kernel
theorem dX3_rearrange_5 : decode cX3_rearrange 5 = .ok (.invokevirtual 84, 3) := by decide +kernel
theorem dX3_rearrange_8 : decode cX3_rearrange 8 = .ok (.invokevirtual 84, 3) := by decide +kernel
theorem dX3_rearrange_11 : decode cX3_rearrange 11 = .ok (.pop, 1) := by decide +kernel
theorem dX3_rearrange_12 : decode cX3_rearrange 12 = .ok (.iconst 0, 1) := by decide +kernel
theorem dX3_rearrange_13 : decode cX3_rearrange 13 = .ok (.istore_n 3, 1) := by decide +kernel
theorem dX3_rearrange_14 : decode cX3_rearrange 14 = .ok (.iconst 0, 1) := by decide +kernel
theorem dX3_rearrange_15 : decode cX3_rearrange 15 = .ok (.istore 4, 2) := by decide +kernel
theorem dX3_rearrange_17 : decode cX3_rearrange 17 = .ok (.iload 4, 2) := by decide +kernel
theorem dX3_rearrange_19 : decode cX3_rearrange 19 = .ok (.aload_n 0, 1) := by decide +kernel
theorem dX3_rearrange_20 : decode cX3_rearrange 20 = .ok (.getfield 31, 3) := by decide +kernel
theorem dX3_rearrange_23 : decode cX3_rearrange 23 = .ok (.if_icmp .ge 40, 3) := by decide +kernel
theorem dX3_rearrange_26 : decode cX3_rearrange 26 = .ok (.iload_n 1, 1) := by decide +kernel
theorem dX3_rearrange_27 : decode cX3_rearrange 27 = .ok (.iload_n 2, 1) := by decide +kernel
theorem dX3_rearrange_28 : decode cX3_rearrange 28 = .ok (.ior, 1) := by decide +kernel
theorem dX3_rearrange_29 : decode cX3_rearrange 29 = .ok (.aload_n 0, 1) := by decide +kernel
theorem dX3_rearrange_30 : decode cX3_rearrange 30 = .ok (.getfield 18, 3) := by decide +kernel
theorem dX3_rearrange_33 : decode cX3_rearrange 33 = .ok (.iload 4, 2) := by decide +kernel
theorem dX3_rearrange_35 : decode cX3_rearrange 35 = .ok (.iaload, 1) := by decide +kernel
theorem dX3_rearrange_36 : decode cX3_rearrange 36 = .ok (.invokestatic 48, 3) := by decide +kernel
theorem dX3_rearrange_39 : decode cX3_rearrange 39 = .ok (.ifCond .eq 18, 3) := by decide +kernel
theorem dX3_rearrange_42 : decode cX3_rearrange 42 = .ok (.aload_n 0, 1) := by decide +kernel
theorem dX3_rearrange_43 : decode cX3_rearrange 43 = .ok (.aload_n 0, 1) := by decide +kernel
theorem dX3_rearrange_44 : decode cX3_rearrange 44 = .ok (.getfield 24, 3) := by decide +kernel
theorem dX3_rearrange_47 : decode cX3_rearrange 47 = .ok (.iload_n 3, 1) := by decide +kernel
theorem dX3_rearrange_48 : decode cX3_rearrange 48 = .ok (.iaload, 1) := by decide +kernel
theorem dX3_rearrange_49 : decode cX3_rearrange 49 = .ok (.iload 4, 2) := by decide +kernel
theorem dX3_rearrange_51 : decode cX3_rearrange 51 = .ok (.invokevirtual 87, 3) := by decide +kernel
theorem dX3_rearrange_54 : decode cX3_rearrange 54 = .ok (.iinc 3 1, 3) := by decide +kernel
theorem dX3_rearrange_57 : decode cX3_rearrange 57 = .ok (.iinc 4 1, 3) := by decide +kernel
theorem dX3_rearrange_60 : decode cX3_rearrange 60 = .ok (.goto (-43), 3) := by decide +kernel
theorem dX3_rearrange_63 : decode cX3_rearrange 63 = .ok (.return_, 1) := by decide +kernel
set_option maxRecDepth 20000 in
theorem ggX3_gather_X8_holdsBit : GoodIn wsX3_gather wsX8_holdsBit := goodIn_r _ [6] (by decide +kernel) (by decide +kernel)
set_option maxRecDepth 20000 in
theorem gX3_gather_X8_holdsBit_n48 : GoodIn wsX3_gather (wsX8_holdsBit) := ggX3_gather_X8_holdsBit
theorem dX3_gather_0 : decode cX3_gather 0 = .ok (.iload_n 2, 1) := by decide +kernel
theorem dX3_gather_1 : decode cX3_gather 1 = .ok (.istore_n 3, 1) := by decide +kernel
theorem dX3_gather_2 : decode cX3_gather 2 = .ok (.iconst 0, 1) := by decide +kernel
theorem dX3_gather_3 : decode cX3_gather 3 = .ok (.istore 4, 2) := by decide +kernel
theorem dX3_gather_5 : decode cX3_gather 5 = .ok (.iload 4, 2) := by decide +kernel
theorem dX3_gather_7 : decode cX3_gather 7 = .ok (.aload_n 0, 1) := by decide +kernel
theorem dX3_gather_8 : decode cX3_gather 8 = .ok (.getfield 31, 3) := by decide +kernel
theorem dX3_gather_11 : decode cX3_gather 11 = .ok (.if_icmp .ge 45, 3) := by decide +kernel
theorem dX3_gather_14 : decode cX3_gather 14 = .ok (.iload_n 1, 1) := by decide +kernel
theorem dX3_gather_15 : decode cX3_gather 15 = .ok (.aload_n 0, 1) := by decide +kernel
theorem dX3_gather_16 : decode cX3_gather 16 = .ok (.getfield 18, 3) := by decide +kernel
theorem dX3_gather_19 : decode cX3_gather 19 = .ok (.iload 4, 2) := by decide +kernel
theorem dX3_gather_21 : decode cX3_gather 21 = .ok (.iaload, 1) := by decide +kernel
theorem dX3_gather_22 : decode cX3_gather 22 = .ok (.invokestatic 48, 3) := by decide +kernel
theorem dX3_gather_25 : decode cX3_gather 25 = .ok (.ifCond .eq 25, 3) := by decide +kernel
theorem dX3_gather_28 : decode cX3_gather 28 = .ok (.iload_n 3, 1) := by decide +kernel
theorem dX3_gather_29 : decode cX3_gather 29 = .ok (.bipush 12, 2) := by decide +kernel
theorem dX3_gather_31 : decode cX3_gather 31 = .ok (.if_icmp .ge 19, 3) := by decide +kernel
theorem dX3_gather_34 : decode cX3_gather 34 = .ok (.aload_n 0, 1) := by decide +kernel
theorem dX3_gather_35 : decode cX3_gather 35 = .ok (.getfield 24, 3) := by decide +kernel
theorem dX3_gather_38 : decode cX3_gather 38 = .ok (.iload_n 3, 1) := by decide +kernel
theorem dX3_gather_39 : decode cX3_gather 39 = .ok (.aload_n 0, 1) := by decide +kernel
theorem dX3_gather_40 : decode cX3_gather 40 = .ok (.getfield 18, 3) := by decide +kernel
theorem dX3_gather_43 : decode cX3_gather 43 = .ok (.iload 4, 2) := by decide +kernel
theorem dX3_gather_45 : decode cX3_gather 45 = .ok (.iaload, 1) := by decide +kernel
theorem dX3_gather_46 : decode cX3_gather 46 = .ok (.iastore, 1) := by decide +kernel
theorem dX3_gather_47 : decode cX3_gather 47 = .ok (.iinc 3 1, 3) := by decide +kernel
theorem dX3_gather_50 : decode cX3_gather 50 = .ok (.iinc 4 1, 3) := by decide +kernel
theorem dX3_gather_53 : decode cX3_gather 53 = .ok (.goto (-48), 3) := by decide +kernel
theorem dX3_gather_56 : decode cX3_gather 56 = .ok (.iload_n 3, 1) := by decide +kernel
theorem dX3_gather_57 : decode cX3_gather 57 = .ok (.ireturn, 1) := by decide +kernel
theorem dX3_stand_0 : decode cX3_stand 0 = .ok (.aload_n 0, 1) := by decide +kernel
theorem dX3_stand_1 : decode cX3_stand 1 = .ok (.getfield 18, 3) := by decide +kernel
theorem dX3_stand_4 : decode cX3_stand 4 = .ok (.iload_n 2, 1) := by decide +kernel
theorem dX3_stand_5 : decode cX3_stand 5 = .ok (.iload_n 1, 1) := by decide +kernel
theorem dX3_stand_6 : decode cX3_stand 6 = .ok (.iastore, 1) := by decide +kernel
theorem dX3_stand_7 : decode cX3_stand 7 = .ok (.aload_n 0, 1) := by decide +kernel
theorem dX3_stand_8 : decode cX3_stand 8 = .ok (.getfield 21, 3) := by decide +kernel
theorem dX3_stand_11 : decode cX3_stand 11 = .ok (.iload_n 1, 1) := by decide +kernel
theorem dX3_stand_12 : decode cX3_stand 12 = .ok (.iload_n 2, 1) := by decide +kernel
theorem dX3_stand_13 : decode cX3_stand 13 = .ok (.iastore, 1) := by decide +kernel
theorem dX3_stand_14 : decode cX3_stand 14 = .ok (.return_, 1) := by decide +kernel
set_option maxRecDepth 20000 in
theorem ggX3_isReady_X8_holdsBit : GoodIn wsX3_isReady wsX8_holdsBit := goodIn_r _ [4] (by decide +kernel) (by decide +kernel)
set_option maxRecDepth 20000 in
theorem gX3_isReady_X8_holdsBit_n48 : GoodIn wsX3_isReady (wsX8_holdsBit) := ggX3_isReady_X8_holdsBit
theorem dX3_isReady_0 : decode cX3_isReady 0 = .ok (.iload_n 2, 1) := by decide +kernel
theorem dX3_isReady_1 : decode cX3_isReady 1 = .ok (.iload_n 1, 1) := by decide +kernel
theorem dX3_isReady_2 : decode cX3_isReady 2 = .ok (.invokestatic 48, 3) := by decide +kernel
theorem dX3_isReady_5 : decode cX3_isReady 5 = .ok (.ifCond .ne 20, 3) := by decide +kernel
theorem dX3_isReady_8 : decode cX3_isReady 8 = .ok (.aload_n 0, 1) := by decide +kernel
theorem dX3_isReady_9 : decode cX3_isReady 9 = .ok (.getfield 15, 3) := by decide +kernel
theorem dX3_isReady_12 : decode cX3_isReady 12 = .ok (.iload_n 1, 1) := by decide +kernel
theorem dX3_isReady_13 : decode cX3_isReady 13 = .ok (.iaload, 1) := by decide +kernel
theorem dX3_isReady_14 : decode cX3_isReady 14 = .ok (.iload_n 2, 1) := by decide +kernel
theorem dX3_isReady_15 : decode cX3_isReady 15 = .ok (.iconst (-1), 1) := by decide +kernel
theorem dX3_isReady_16 : decode cX3_isReady 16 = .ok (.ixor, 1) := by decide +kernel
theorem dX3_isReady_17 : decode cX3_isReady 17 = .ok (.iand, 1) := by decide +kernel
theorem dX3_isReady_18 : decode cX3_isReady 18 = .ok (.ifCond .ne 7, 3) := by decide +kernel
theorem dX3_isReady_21 : decode cX3_isReady 21 = .ok (.iconst 1, 1) := by decide +kernel
theorem dX3_isReady_22 : decode cX3_isReady 22 = .ok (.goto 4, 3) := by decide +kernel
theorem dX3_isReady_25 : decode cX3_isReady 25 = .ok (.iconst 0, 1) := by decide +kernel
theorem dX3_isReady_26 : decode cX3_isReady 26 = .ok (.ireturn, 1) := by decide +kernel
set_option maxRecDepth 20000 in
theorem ggX3_allReady_X3_isReady : GoodIn wsX3_allReady wsX3_isReady := goodIn_r _ [6, 7, 8, 9, 10, 11, 12, 13, 14, 15, 16, 17] (by decide +kernel) (by decide +kernel)
set_option maxRecDepth 20000 in
theorem gX3_allReady_X3_isReady : GoodIn wsX3_allReady (wsV RX3 90 RX3 yX3_isReady wsX3_isReady) := goodIn_app (goodIn_of _ (by decide +kernel)) ggX3_allReady_X3_isReady
theorem dX3_allReady_0 : decode cX3_allReady 0 = .ok (.iconst 0, 1) := by decide +kernel
theorem dX3_allReady_1 : decode cX3_allReady 1 = .ok (.istore_n 2, 1) := by decide +kernel
theorem dX3_allReady_2 : decode cX3_allReady 2 = .ok (.iconst 0, 1) := by decide +kernel
theorem dX3_allReady_3 : decode cX3_allReady 3 = .ok (.istore_n 3, 1) := by decide +kernel
theorem dX3_allReady_4 : decode cX3_allReady 4 = .ok (.iload_n 3, 1) := by decide +kernel
theorem dX3_allReady_5 : decode cX3_allReady 5 = .ok (.aload_n 0, 1) := by decide +kernel
theorem dX3_allReady_6 : decode cX3_allReady 6 = .ok (.getfield 31, 3) := by decide +kernel
theorem dX3_allReady_9 : decode cX3_allReady 9 = .ok (.if_icmp .ge 24, 3) := by decide +kernel
theorem dX3_allReady_12 : decode cX3_allReady 12 = .ok (.aload_n 0, 1) := by decide +kernel
theorem dX3_allReady_13 : decode cX3_allReady 13 = .ok (.iload_n 3, 1) := by decide +kernel
theorem dX3_allReady_14 : decode cX3_allReady 14 = .ok (.iload_n 1, 1) := by decide +kernel
theorem dX3_allReady_15 : decode cX3_allReady 15 = .ok (.invokevirtual 90, 3) := by decide +kernel
theorem dX3_allReady_18 : decode cX3_allReady 18 = .ok (.ifCond .eq 9, 3) := by decide +kernel
theorem dX3_allReady_21 : decode cX3_allReady 21 = .ok (.iload_n 2, 1) := by decide +kernel
theorem dX3_allReady_22 : decode cX3_allReady 22 = .ok (.iconst 1, 1) := by decide +kernel
theorem dX3_allReady_23 : decode cX3_allReady 23 = .ok (.iload_n 3, 1) := by decide +kernel
theorem dX3_allReady_24 : decode cX3_allReady 24 = .ok (.ishl, 1) := by decide +kernel
theorem dX3_allReady_25 : decode cX3_allReady 25 = .ok (.ior, 1) := by decide +kernel
theorem dX3_allReady_26 : decode cX3_allReady 26 = .ok (.istore_n 2, 1) := by decide +kernel
theorem dX3_allReady_27 : decode cX3_allReady 27 = .ok (.iinc 3 1, 3) := by decide +kernel
theorem dX3_allReady_30 : decode cX3_allReady 30 = .ok (.goto (-26), 3) := by decide +kernel
theorem dX3_allReady_33 : decode cX3_allReady 33 = .ok (.iload_n 2, 1) := by decide +kernel
theorem dX3_allReady_34 : decode cX3_allReady 34 = .ok (.ireturn, 1) := by decide +kernel
set_option maxRecDepth 20000 in
theorem ggX3_sort_X3_isReady : GoodIn wsX3_sort wsX3_isReady := goodIn_r _ [6, 7, 8, 9, 10, 17, 18, 19, 20, 21, 22, 23] (by decide +kernel) (by decide +kernel)
set_option maxRecDepth 20000 in
theorem gX3_sort_X3_isReady : GoodIn wsX3_sort (wsV RX3 90 RX3 yX3_isReady wsX3_isReady) := goodIn_app (goodIn_of _ (by decide +kernel)) ggX3_sort_X3_isReady
set_option maxRecDepth 20000 in
theorem ggX3_sort_X3_stand : GoodIn wsX3_sort wsX3_stand := goodIn_r _ [14, 15, 16, 17, 18, 19, 20, 21, 22, 23] (by decide +kernel) (by decide +kernel)
set_option maxRecDepth 20000 in
theorem gX3_sort_X3_stand : GoodIn wsX3_sort (wsV RX3 87 RX3 yX3_stand wsX3_stand) := goodIn_app (goodIn_of _ (by decide +kernel)) ggX3_sort_X3_stand
theorem dX3_sort_0 : decode cX3_sort 0 = .ok (.iconst 0, 1) := by decide +kernel
theorem dX3_sort_1 : decode cX3_sort 1 = .ok (.istore_n 1, 1) := by decide +kernel
theorem dX3_sort_2 : decode cX3_sort 2 = .ok (.iconst 0, 1) := by decide +kernel
theorem dX3_sort_3 : decode cX3_sort 3 = .ok (.istore_n 2, 1) := by decide +kernel
theorem dX3_sort_4 : decode cX3_sort 4 = .ok (.iload_n 2, 1) := by decide +kernel
theorem dX3_sort_5 : decode cX3_sort 5 = .ok (.aload_n 0, 1) := by decide +kernel
theorem dX3_sort_6 : decode cX3_sort 6 = .ok (.getfield 31, 3) := by decide +kernel
theorem dX3_sort_9 : decode cX3_sort 9 = .ok (.if_icmp .ge 49, 3) := by decide +kernel
theorem dX3_sort_12 : decode cX3_sort 12 = .ok (.iconst 0, 1) := by decide +kernel
theorem dX3_sort_13 : decode cX3_sort 13 = .ok (.istore_n 3, 1) := by decide +kernel
theorem dX3_sort_14 : decode cX3_sort 14 = .ok (.iload_n 3, 1) := by decide +kernel
theorem dX3_sort_15 : decode cX3_sort 15 = .ok (.aload_n 0, 1) := by decide +kernel
theorem dX3_sort_16 : decode cX3_sort 16 = .ok (.getfield 31, 3) := by decide +kernel
theorem dX3_sort_19 : decode cX3_sort 19 = .ok (.if_icmp .ge 33, 3) := by decide +kernel
theorem dX3_sort_22 : decode cX3_sort 22 = .ok (.aload_n 0, 1) := by decide +kernel
theorem dX3_sort_23 : decode cX3_sort 23 = .ok (.iload_n 3, 1) := by decide +kernel
theorem dX3_sort_24 : decode cX3_sort 24 = .ok (.iload_n 1, 1) := by decide +kernel
theorem dX3_sort_25 : decode cX3_sort 25 = .ok (.invokevirtual 90, 3) := by decide +kernel
theorem dX3_sort_28 : decode cX3_sort 28 = .ok (.ifCond .eq 18, 3) := by decide +kernel
theorem dX3_sort_31 : decode cX3_sort 31 = .ok (.aload_n 0, 1) := by decide +kernel
theorem dX3_sort_32 : decode cX3_sort 32 = .ok (.iload_n 3, 1) := by decide +kernel
theorem dX3_sort_33 : decode cX3_sort 33 = .ok (.iload_n 2, 1) := by decide +kernel
theorem dX3_sort_34 : decode cX3_sort 34 = .ok (.invokevirtual 87, 3) := by decide +kernel
theorem dX3_sort_37 : decode cX3_sort 37 = .ok (.iload_n 1, 1) := by decide +kernel
theorem dX3_sort_38 : decode cX3_sort 38 = .ok (.iconst 1, 1) := by decide +kernel
theorem dX3_sort_39 : decode cX3_sort 39 = .ok (.iload_n 3, 1) := by decide +kernel
theorem dX3_sort_40 : decode cX3_sort 40 = .ok (.ishl, 1) := by decide +kernel
theorem dX3_sort_41 : decode cX3_sort 41 = .ok (.ior, 1) := by decide +kernel
theorem dX3_sort_42 : decode cX3_sort 42 = .ok (.istore_n 1, 1) := by decide +kernel
theorem dX3_sort_43 : decode cX3_sort 43 = .ok (.goto 9, 3) := by decide +kernel
theorem dX3_sort_46 : decode cX3_sort 46 = .ok (.iinc 3 1, 3) := by decide +kernel
theorem dX3_sort_49 : decode cX3_sort 49 = .ok (.goto (-35), 3) := by decide +kernel
theorem dX3_sort_52 : decode cX3_sort 52 = .ok (.iinc 2 1, 3) := by decide +kernel
theorem dX3_sort_55 : decode cX3_sort 55 = .ok (.goto (-51), 3) := by decide +kernel
theorem dX3_sort_58 : decode cX3_sort 58 = .ok (.return_, 1) := by decide +kernel
set_option maxRecDepth 20000 in
theorem ggX3_longestChain_X3_everyItem : GoodIn wsX3_longestChain wsX3_everyItem := goodIn_r _ [6, 1, 19, 20, 21, 22, 23, 24, 25] (by decide +kernel) (by decide +kernel)
set_option maxRecDepth 20000 in
theorem gX3_longestChain_X3_everyItem : GoodIn wsX3_longestChain (wsV RX3 93 RX3 yX3_everyItem wsX3_everyItem) := goodIn_app (goodIn_of _ (by decide +kernel)) ggX3_longestChain_X3_everyItem
set_option maxRecDepth 20000 in
theorem ggX3_longestChain_X3_allReady : GoodIn wsX3_longestChain wsX3_allReady := goodIn_r _ [10, 1, 11, 12, 13, 5, 14, 15, 16, 17, 18, 19, 20, 21, 22, 23, 24, 25] (by decide +kernel) (by decide +kernel)
set_option maxRecDepth 20000 in
theorem gX3_longestChain_X3_allReady : GoodIn wsX3_longestChain (wsV RX3 97 RX3 yX3_allReady wsX3_allReady) := goodIn_app (goodIn_of _ (by decide +kernel)) ggX3_longestChain_X3_allReady
theorem dX3_longestChain_0 : decode cX3_longestChain 0 = .ok (.iconst 0, 1) := by decide +kernel
theorem dX3_longestChain_1 : decode cX3_longestChain 1 = .ok (.istore_n 1, 1) := by decide +kernel
theorem dX3_longestChain_2 : decode cX3_longestChain 2 = .ok (.iconst 0, 1) := by decide +kernel
theorem dX3_longestChain_3 : decode cX3_longestChain 3 = .ok (.istore_n 2, 1) := by decide +kernel
theorem dX3_longestChain_4 : decode cX3_longestChain 4 = .ok (.iconst 0, 1) := by decide +kernel
theorem dX3_longestChain_5 : decode cX3_longestChain 5 = .ok (.istore_n 3, 1) := by decide +kernel
theorem dX3_longestChain_6 : decode cX3_longestChain 6 = .ok (.iload_n 3, 1) := by decide +kernel
theorem dX3_longestChain_7 : decode cX3_longestChain 7 = .ok (.aload_n 0, 1) := by decide +kernel
theorem dX3_longestChain_8 : decode cX3_longestChain 8 = .ok (.getfield 31, 3) := by decide +kernel
theorem dX3_longestChain_11 : decode cX3_longestChain 11 = .ok (.if_icmp .ge 28, 3) := by decide +kernel
theorem dX3_longestChain_14 : decode cX3_longestChain 14 = .ok (.iload_n 1, 1) := by decide +kernel
theorem dX3_longestChain_15 : decode cX3_longestChain 15 = .ok (.aload_n 0, 1) := by decide +kernel
theorem dX3_longestChain_16 : decode cX3_longestChain 16 = .ok (.invokevirtual 93, 3) := by decide +kernel
theorem dX3_longestChain_19 : decode cX3_longestChain 19 = .ok (.if_icmp .eq 20, 3) := by decide +kernel
theorem dX3_longestChain_22 : decode cX3_longestChain 22 = .ok (.iload_n 1, 1) := by decide +kernel
theorem dX3_longestChain_23 : decode cX3_longestChain 23 = .ok (.aload_n 0, 1) := by decide +kernel
theorem dX3_longestChain_24 : decode cX3_longestChain 24 = .ok (.iload_n 1, 1) := by decide +kernel
theorem dX3_longestChain_25 : decode cX3_longestChain 25 = .ok (.invokevirtual 97, 3) := by decide +kernel
theorem dX3_longestChain_28 : decode cX3_longestChain 28 = .ok (.ior, 1) := by decide +kernel
theorem dX3_longestChain_29 : decode cX3_longestChain 29 = .ok (.istore_n 1, 1) := by decide +kernel
theorem dX3_longestChain_30 : decode cX3_longestChain 30 = .ok (.iinc 2 1, 3) := by decide +kernel
theorem dX3_longestChain_33 : decode cX3_longestChain 33 = .ok (.iinc 3 1, 3) := by decide +kernel
theorem dX3_longestChain_36 : decode cX3_longestChain 36 = .ok (.goto (-30), 3) := by decide +kernel
theorem dX3_longestChain_39 : decode cX3_longestChain 39 = .ok (.iload_n 2, 1) := by decide +kernel
theorem dX3_longestChain_40 : decode cX3_longestChain 40 = .ok (.ireturn, 1) := by decide +kernel
theorem dX3_placesUnlike_0 : decode cX3_placesUnlike 0 = .ok (.iconst 0, 1) := by decide +kernel
theorem dX3_placesUnlike_1 : decode cX3_placesUnlike 1 = .ok (.istore_n 2, 1) := by decide +kernel
theorem dX3_placesUnlike_2 : decode cX3_placesUnlike 2 = .ok (.iconst 0, 1) := by decide +kernel
theorem dX3_placesUnlike_3 : decode cX3_placesUnlike 3 = .ok (.istore_n 3, 1) := by decide +kernel
theorem dX3_placesUnlike_4 : decode cX3_placesUnlike 4 = .ok (.iload_n 3, 1) := by decide +kernel
theorem dX3_placesUnlike_5 : decode cX3_placesUnlike 5 = .ok (.aload_n 0, 1) := by decide +kernel
theorem dX3_placesUnlike_6 : decode cX3_placesUnlike 6 = .ok (.getfield 31, 3) := by decide +kernel
theorem dX3_placesUnlike_9 : decode cX3_placesUnlike 9 = .ok (.if_icmp .ge 27, 3) := by decide +kernel
theorem dX3_placesUnlike_12 : decode cX3_placesUnlike 12 = .ok (.aload_n 0, 1) := by decide +kernel
theorem dX3_placesUnlike_13 : decode cX3_placesUnlike 13 = .ok (.getfield 21, 3) := by decide +kernel
theorem dX3_placesUnlike_16 : decode cX3_placesUnlike 16 = .ok (.iload_n 3, 1) := by decide +kernel
theorem dX3_placesUnlike_17 : decode cX3_placesUnlike 17 = .ok (.iaload, 1) := by decide +kernel
theorem dX3_placesUnlike_18 : decode cX3_placesUnlike 18 = .ok (.aload_n 1, 1) := by decide +kernel
theorem dX3_placesUnlike_19 : decode cX3_placesUnlike 19 = .ok (.getfield 21, 3) := by decide +kernel
theorem dX3_placesUnlike_22 : decode cX3_placesUnlike 22 = .ok (.iload_n 3, 1) := by decide +kernel
theorem dX3_placesUnlike_23 : decode cX3_placesUnlike 23 = .ok (.iaload, 1) := by decide +kernel
theorem dX3_placesUnlike_24 : decode cX3_placesUnlike 24 = .ok (.if_icmp .eq 6, 3) := by decide +kernel
theorem dX3_placesUnlike_27 : decode cX3_placesUnlike 27 = .ok (.iinc 2 1, 3) := by decide +kernel
theorem dX3_placesUnlike_30 : decode cX3_placesUnlike 30 = .ok (.iinc 3 1, 3) := by decide +kernel
theorem dX3_placesUnlike_33 : decode cX3_placesUnlike 33 = .ok (.goto (-29), 3) := by decide +kernel
theorem dX3_placesUnlike_36 : decode cX3_placesUnlike 36 = .ok (.iload_n 2, 1) := by decide +kernel
theorem dX3_placesUnlike_37 : decode cX3_placesUnlike 37 = .ok (.ireturn, 1) := by decide +kernel
theorem dX3_hasArcsOf_0 : decode cX3_hasArcsOf 0 = .ok (.aload_n 0, 1) := by decide +kernel
theorem dX3_hasArcsOf_1 : decode cX3_hasArcsOf 1 = .ok (.getfield 31, 3) := by decide +kernel
theorem dX3_hasArcsOf_4 : decode cX3_hasArcsOf 4 = .ok (.aload_n 1, 1) := by decide +kernel
theorem dX3_hasArcsOf_5 : decode cX3_hasArcsOf 5 = .ok (.getfield 31, 3) := by decide +kernel
theorem dX3_hasArcsOf_8 : decode cX3_hasArcsOf 8 = .ok (.if_icmp .eq 5, 3) := by decide +kernel
theorem dX3_hasArcsOf_11 : decode cX3_hasArcsOf 11 = .ok (.iconst 0, 1) := by decide +kernel
theorem dX3_hasArcsOf_12 : decode cX3_hasArcsOf 12 = .ok (.ireturn, 1) := by decide +kernel
theorem dX3_hasArcsOf_13 : decode cX3_hasArcsOf 13 = .ok (.iconst 0, 1) := by decide +kernel
theorem dX3_hasArcsOf_14 : decode cX3_hasArcsOf 14 = .ok (.istore_n 2, 1) := by decide +kernel
theorem dX3_hasArcsOf_15 : decode cX3_hasArcsOf 15 = .ok (.iload_n 2, 1) := by decide +kernel
theorem dX3_hasArcsOf_16 : decode cX3_hasArcsOf 16 = .ok (.aload_n 0, 1) := by decide +kernel
theorem dX3_hasArcsOf_17 : decode cX3_hasArcsOf 17 = .ok (.getfield 31, 3) := by decide +kernel
theorem dX3_hasArcsOf_20 : decode cX3_hasArcsOf 20 = .ok (.if_icmp .ge 26, 3) := by decide +kernel
theorem dX3_hasArcsOf_23 : decode cX3_hasArcsOf 23 = .ok (.aload_n 0, 1) := by decide +kernel
theorem dX3_hasArcsOf_24 : decode cX3_hasArcsOf 24 = .ok (.getfield 9, 3) := by decide +kernel
theorem dX3_hasArcsOf_27 : decode cX3_hasArcsOf 27 = .ok (.iload_n 2, 1) := by decide +kernel
theorem dX3_hasArcsOf_28 : decode cX3_hasArcsOf 28 = .ok (.iaload, 1) := by decide +kernel
theorem dX3_hasArcsOf_29 : decode cX3_hasArcsOf 29 = .ok (.aload_n 1, 1) := by decide +kernel
theorem dX3_hasArcsOf_30 : decode cX3_hasArcsOf 30 = .ok (.getfield 9, 3) := by decide +kernel
theorem dX3_hasArcsOf_33 : decode cX3_hasArcsOf 33 = .ok (.iload_n 2, 1) := by decide +kernel
theorem dX3_hasArcsOf_34 : decode cX3_hasArcsOf 34 = .ok (.iaload, 1) := by decide +kernel
theorem dX3_hasArcsOf_35 : decode cX3_hasArcsOf 35 = .ok (.if_icmp .eq 5, 3) := by decide +kernel
theorem dX3_hasArcsOf_38 : decode cX3_hasArcsOf 38 = .ok (.iconst 0, 1) := by decide +kernel
theorem dX3_hasArcsOf_39 : decode cX3_hasArcsOf 39 = .ok (.ireturn, 1) := by decide +kernel
theorem dX3_hasArcsOf_40 : decode cX3_hasArcsOf 40 = .ok (.iinc 2 1, 3) := by decide +kernel
theorem dX3_hasArcsOf_43 : decode cX3_hasArcsOf 43 = .ok (.goto (-28), 3) := by decide +kernel
theorem dX3_hasArcsOf_46 : decode cX3_hasArcsOf 46 = .ok (.iconst 1, 1) := by decide +kernel
theorem dX3_hasArcsOf_47 : decode cX3_hasArcsOf 47 = .ok (.ireturn, 1) := by decide +kernel
set_option maxRecDepth 20000 in
theorem ggX4_init_X3_init : GoodIn wsX4_init wsX3_init := goodIn_r _ [10, 11, 2, 3, 12, 13, 14, 15, 16, 17, 18, 19, 20, 7, 21, 22, 23, 26, 27, 28, 29, 30, 31, 32] (by decide +kernel) (by decide +kernel)
set_option maxRecDepth 20000 in
theorem gX4_init_X3_init : GoodIn wsX4_init (wsX3_init) := ggX4_init_X3_init
theorem dX4_init_0 : decode cX4_init 0 = .ok (.aload_n 0, 1) := by decide +kernel
theorem dX4_init_1 : decode cX4_init 1 = .ok (.invokespecial 3, 3) := by decide +kernel
theorem dX4_init_4 : decode cX4_init 4 = .ok (.aload_n 0, 1) := by decide +kernel
theorem dX4_init_5 : decode cX4_init 5 = .ok (.bipush 10, 2) := by decide +kernel
theorem dX4_init_7 : decode cX4_init 7 = .ok (.anewarray 9, 3) := by decide +kernel
theorem dX4_init_10 : decode cX4_init 10 = .ok (.putfield 11, 3) := by decide +kernel
theorem dX4_init_13 : decode cX4_init 13 = .ok (.iconst 0, 1) := by decide +kernel
theorem dX4_init_14 : decode cX4_init 14 = .ok (.istore_n 1, 1) := by decide +kernel
theorem dX4_init_15 : decode cX4_init 15 = .ok (.iload_n 1, 1) := by decide +kernel
theorem dX4_init_16 : decode cX4_init 16 = .ok (.bipush 10, 2) := by decide +kernel
theorem dX4_init_18 : decode cX4_init 18 = .ok (.if_icmp .ge 22, 3) := by decide +kernel
theorem dX4_init_21 : decode cX4_init 21 = .ok (.aload_n 0, 1) := by decide +kernel
theorem dX4_init_22 : decode cX4_init 22 = .ok (.getfield 11, 3) := by decide +kernel
theorem dX4_init_25 : decode cX4_init 25 = .ok (.iload_n 1, 1) := by decide +kernel
theorem dX4_init_26 : decode cX4_init 26 = .ok (.new 9, 3) := by decide +kernel
theorem dX4_init_29 : decode cX4_init 29 = .ok (.dup, 1) := by decide +kernel
theorem dX4_init_30 : decode cX4_init 30 = .ok (.invokespecial 17, 3) := by decide +kernel
theorem dX4_init_33 : decode cX4_init 33 = .ok (.aastore, 1) := by decide +kernel
theorem dX4_init_34 : decode cX4_init 34 = .ok (.iinc 1 1, 3) := by decide +kernel
theorem dX4_init_37 : decode cX4_init 37 = .ok (.goto (-22), 3) := by decide +kernel
theorem dX4_init_40 : decode cX4_init 40 = .ok (.return_, 1) := by decide +kernel
set_option maxRecDepth 20000 in
theorem ggX4_push_X4_loseOldest : GoodIn wsX4_push wsX4_loseOldest := goodIn_r _ [7, 2, 1, 23, 24] (by decide +kernel) (by decide +kernel)
set_option maxRecDepth 20000 in
theorem gX4_push_X4_loseOldest : GoodIn wsX4_push (wsV RX4 22 RX4 yX4_loseOldest wsX4_loseOldest) := goodIn_app (goodIn_of _ (by decide +kernel)) ggX4_push_X4_loseOldest
set_option maxRecDepth 20000 in
theorem ggX4_push_X3_copyOf : GoodIn wsX4_push wsX3_copyOf := goodIn_r _ [12, 13, 14, 15, 16, 17, 18, 19, 20, 21, 22, 25, 26, 27, 28, 29, 30, 31] (by decide +kernel) (by decide +kernel)
set_option maxRecDepth 20000 in
theorem gX4_push_X3_copyOf : GoodIn wsX4_push (wsV RX4 25 RX3 yX3_copyOf wsX3_copyOf) := goodIn_app (goodIn_of _ (by decide +kernel)) ggX4_push_X3_copyOf
theorem dX4_push_0 : decode cX4_push 0 = .ok (.aload_n 0, 1) := by decide +kernel
theorem dX4_push_1 : decode cX4_push 1 = .ok (.getfield 18, 3) := by decide +kernel
theorem dX4_push_4 : decode cX4_push 4 = .ok (.bipush 10, 2) := by decide +kernel
theorem dX4_push_6 : decode cX4_push 6 = .ok (.if_icmp .lt 7, 3) := by decide +kernel
theorem dX4_push_9 : decode cX4_push 9 = .ok (.aload_n 0, 1) := by decide +kernel
theorem dX4_push_10 : decode cX4_push 10 = .ok (.invokevirtual 22, 3) := by decide +kernel
theorem dX4_push_13 : decode cX4_push 13 = .ok (.aload_n 0, 1) := by decide +kernel
theorem dX4_push_14 : decode cX4_push 14 = .ok (.getfield 11, 3) := by decide +kernel
theorem dX4_push_17 : decode cX4_push 17 = .ok (.aload_n 0, 1) := by decide +kernel
theorem dX4_push_18 : decode cX4_push 18 = .ok (.getfield 18, 3) := by decide +kernel
theorem dX4_push_21 : decode cX4_push 21 = .ok (.aaload, 1) := by decide +kernel
theorem dX4_push_22 : decode cX4_push 22 = .ok (.aload_n 1, 1) := by decide +kernel
theorem dX4_push_23 : decode cX4_push 23 = .ok (.invokevirtual 25, 3) := by decide +kernel
theorem dX4_push_26 : decode cX4_push 26 = .ok (.aload_n 0, 1) := by decide +kernel
theorem dX4_push_27 : decode cX4_push 27 = .ok (.dup, 1) := by decide +kernel
theorem dX4_push_28 : decode cX4_push 28 = .ok (.getfield 18, 3) := by decide +kernel
theorem dX4_push_31 : decode cX4_push 31 = .ok (.iconst 1, 1) := by decide +kernel
theorem dX4_push_32 : decode cX4_push 32 = .ok (.iadd, 1) := by decide +kernel
theorem dX4_push_33 : decode cX4_push 33 = .ok (.putfield 18, 3) := by decide +kernel
theorem dX4_push_36 : decode cX4_push 36 = .ok (.return_, 1) := by decide +kernel
set_option maxRecDepth 20000 in
theorem ggX4_pop_X3_copyOf : GoodIn wsX4_pop wsX3_copyOf := goodIn_r _ [7, 8, 9, 10, 11, 12, 13, 14, 15, 16, 17, 20, 21, 22, 23, 24, 25, 26] (by decide +kernel) (by decide +kernel)
set_option maxRecDepth 20000 in
theorem gX4_pop_X3_copyOf : GoodIn wsX4_pop (wsV RX4 25 RX3 yX3_copyOf wsX3_copyOf) := goodIn_app (goodIn_of _ (by decide +kernel)) ggX4_pop_X3_copyOf
theorem dX4_pop_0 : decode cX4_pop 0 = .ok (.aload_n 0, 1) := by decide +kernel
theorem dX4_pop_1 : decode cX4_pop 1 = .ok (.getfield 18, 3) := by decide +kernel
theorem dX4_pop_4 : decode cX4_pop 4 = .ok (.ifCond .ne 5, 3) := by decide +kernel
theorem dX4_pop_7 : decode cX4_pop 7 = .ok (.iconst 0, 1) := by decide +kernel
theorem dX4_pop_8 : decode cX4_pop 8 = .ok (.ireturn, 1) := by decide +kernel
theorem dX4_pop_9 : decode cX4_pop 9 = .ok (.aload_n 0, 1) := by decide +kernel
theorem dX4_pop_10 : decode cX4_pop 10 = .ok (.dup, 1) := by decide +kernel
theorem dX4_pop_11 : decode cX4_pop 11 = .ok (.getfield 18, 3) := by decide +kernel
theorem dX4_pop_14 : decode cX4_pop 14 = .ok (.iconst 1, 1) := by decide +kernel
theorem dX4_pop_15 : decode cX4_pop 15 = .ok (.isub, 1) := by decide +kernel
theorem dX4_pop_16 : decode cX4_pop 16 = .ok (.putfield 18, 3) := by decide +kernel
theorem dX4_pop_19 : decode cX4_pop 19 = .ok (.aload_n 1, 1) := by decide +kernel
theorem dX4_pop_20 : decode cX4_pop 20 = .ok (.aload_n 0, 1) := by decide +kernel
theorem dX4_pop_21 : decode cX4_pop 21 = .ok (.getfield 11, 3) := by decide +kernel
theorem dX4_pop_24 : decode cX4_pop 24 = .ok (.aload_n 0, 1) := by decide +kernel
theorem dX4_pop_25 : decode cX4_pop 25 = .ok (.getfield 18, 3) := by decide +kernel
theorem dX4_pop_28 : decode cX4_pop 28 = .ok (.aaload, 1) := by decide +kernel
theorem dX4_pop_29 : decode cX4_pop 29 = .ok (.invokevirtual 25, 3) := by decide +kernel
theorem dX4_pop_32 : decode cX4_pop 32 = .ok (.iconst 1, 1) := by decide +kernel
theorem dX4_pop_33 : decode cX4_pop 33 = .ok (.ireturn, 1) := by decide +kernel
theorem dX4_loseOldest_0 : decode cX4_loseOldest 0 = .ok (.aload_n 0, 1) := by decide +kernel
theorem dX4_loseOldest_1 : decode cX4_loseOldest 1 = .ok (.getfield 11, 3) := by decide +kernel
theorem dX4_loseOldest_4 : decode cX4_loseOldest 4 = .ok (.iconst 0, 1) := by decide +kernel
theorem dX4_loseOldest_5 : decode cX4_loseOldest 5 = .ok (.aaload, 1) := by decide +kernel
theorem dX4_loseOldest_6 : decode cX4_loseOldest 6 = .ok (.astore_n 1, 1) := by decide +kernel
theorem dX4_loseOldest_7 : decode cX4_loseOldest 7 = .ok (.iconst 1, 1) := by decide +kernel
theorem dX4_loseOldest_8 : decode cX4_loseOldest 8 = .ok (.istore_n 2, 1) := by decide +kernel
theorem dX4_loseOldest_9 : decode cX4_loseOldest 9 = .ok (.iload_n 2, 1) := by decide +kernel
theorem dX4_loseOldest_10 : decode cX4_loseOldest 10 = .ok (.bipush 10, 2) := by decide +kernel
theorem dX4_loseOldest_12 : decode cX4_loseOldest 12 = .ok (.if_icmp .ge 23, 3) := by decide +kernel
theorem dX4_loseOldest_15 : decode cX4_loseOldest 15 = .ok (.aload_n 0, 1) := by decide +kernel
theorem dX4_loseOldest_16 : decode cX4_loseOldest 16 = .ok (.getfield 11, 3) := by decide +kernel
theorem dX4_loseOldest_19 : decode cX4_loseOldest 19 = .ok (.iload_n 2, 1) := by decide +kernel
theorem dX4_loseOldest_20 : decode cX4_loseOldest 20 = .ok (.iconst 1, 1) := by decide +kernel
theorem dX4_loseOldest_21 : decode cX4_loseOldest 21 = .ok (.isub, 1) := by decide +kernel
theorem dX4_loseOldest_22 : decode cX4_loseOldest 22 = .ok (.aload_n 0, 1) := by decide +kernel
theorem dX4_loseOldest_23 : decode cX4_loseOldest 23 = .ok (.getfield 11, 3) := by decide +kernel
theorem dX4_loseOldest_26 : decode cX4_loseOldest 26 = .ok (.iload_n 2, 1) := by decide +kernel
theorem dX4_loseOldest_27 : decode cX4_loseOldest 27 = .ok (.aaload, 1) := by decide +kernel
theorem dX4_loseOldest_28 : decode cX4_loseOldest 28 = .ok (.aastore, 1) := by decide +kernel
theorem dX4_loseOldest_29 : decode cX4_loseOldest 29 = .ok (.iinc 2 1, 3) := by decide +kernel
theorem dX4_loseOldest_32 : decode cX4_loseOldest 32 = .ok (.goto (-23), 3) := by decide +kernel
theorem dX4_loseOldest_35 : decode cX4_loseOldest 35 = .ok (.aload_n 0, 1) := by decide +kernel
theorem dX4_loseOldest_36 : decode cX4_loseOldest 36 = .ok (.getfield 11, 3) := by decide +kernel
theorem dX4_loseOldest_39 : decode cX4_loseOldest 39 = .ok (.bipush 9, 2) := by decide +kernel
theorem dX4_loseOldest_41 : decode cX4_loseOldest 41 = .ok (.aload_n 1, 1) := by decide +kernel
theorem dX4_loseOldest_42 : decode cX4_loseOldest 42 = .ok (.aastore, 1) := by decide +kernel
theorem dX4_loseOldest_43 : decode cX4_loseOldest 43 = .ok (.aload_n 0, 1) := by decide +kernel
theorem dX4_loseOldest_44 : decode cX4_loseOldest 44 = .ok (.bipush 9, 2) := by decide +kernel
theorem dX4_loseOldest_46 : decode cX4_loseOldest 46 = .ok (.putfield 18, 3) := by decide +kernel
theorem dX4_loseOldest_49 : decode cX4_loseOldest 49 = .ok (.return_, 1) := by decide +kernel
theorem dX5_init_0 : decode cX5_init 0 = .ok (.aload_n 0, 1) := by decide +kernel
theorem dX5_init_1 : decode cX5_init 1 = .ok (.invokespecial 3, 3) := by decide +kernel
theorem dX5_init_4 : decode cX5_init 4 = .ok (.aload_n 0, 1) := by decide +kernel
theorem dX5_init_5 : decode cX5_init 5 = .ok (.bipush 12, 2) := by decide +kernel
theorem dX5_init_7 : decode cX5_init 7 = .ok (.newarray .int, 2) := by decide +kernel
theorem dX5_init_9 : decode cX5_init 9 = .ok (.putfield 9, 3) := by decide +kernel
theorem dX5_init_12 : decode cX5_init 12 = .ok (.return_, 1) := by decide +kernel
theorem dX5_empty_0 : decode cX5_empty 0 = .ok (.aload_n 0, 1) := by decide +kernel
theorem dX5_empty_1 : decode cX5_empty 1 = .ok (.iconst 0, 1) := by decide +kernel
theorem dX5_empty_2 : decode cX5_empty 2 = .ok (.putfield 15, 3) := by decide +kernel
theorem dX5_empty_5 : decode cX5_empty 5 = .ok (.aload_n 0, 1) := by decide +kernel
theorem dX5_empty_6 : decode cX5_empty 6 = .ok (.iconst 0, 1) := by decide +kernel
theorem dX5_empty_7 : decode cX5_empty 7 = .ok (.putfield 19, 3) := by decide +kernel
theorem dX5_empty_10 : decode cX5_empty 10 = .ok (.aload_n 0, 1) := by decide +kernel
theorem dX5_empty_11 : decode cX5_empty 11 = .ok (.iconst 0, 1) := by decide +kernel
theorem dX5_empty_12 : decode cX5_empty 12 = .ok (.putfield 22, 3) := by decide +kernel
theorem dX5_empty_15 : decode cX5_empty 15 = .ok (.return_, 1) := by decide +kernel
theorem dX5_append_0 : decode cX5_append 0 = .ok (.aload_n 0, 1) := by decide +kernel
theorem dX5_append_1 : decode cX5_append 1 = .ok (.getfield 15, 3) := by decide +kernel
theorem dX5_append_4 : decode cX5_append 4 = .ok (.bipush 6, 2) := by decide +kernel
theorem dX5_append_6 : decode cX5_append 6 = .ok (.if_icmp .lt 5, 3) := by decide +kernel
theorem dX5_append_9 : decode cX5_append 9 = .ok (.iconst 0, 1) := by decide +kernel
theorem dX5_append_10 : decode cX5_append 10 = .ok (.ireturn, 1) := by decide +kernel
theorem dX5_append_11 : decode cX5_append 11 = .ok (.iload_n 2, 1) := by decide +kernel
theorem dX5_append_12 : decode cX5_append 12 = .ok (.iconst 1, 1) := by decide +kernel
theorem dX5_append_13 : decode cX5_append 13 = .ok (.if_icmp .ne 18, 3) := by decide +kernel
theorem dX5_append_16 : decode cX5_append 16 = .ok (.aload_n 0, 1) := by decide +kernel
theorem dX5_append_17 : decode cX5_append 17 = .ok (.dup, 1) := by decide +kernel
theorem dX5_append_18 : decode cX5_append 18 = .ok (.getfield 19, 3) := by decide +kernel
theorem dX5_append_21 : decode cX5_append 21 = .ok (.iconst 1, 1) := by decide +kernel
theorem dX5_append_22 : decode cX5_append 22 = .ok (.iload_n 1, 1) := by decide +kernel
theorem dX5_append_23 : decode cX5_append 23 = .ok (.ishl, 1) := by decide +kernel
theorem dX5_append_24 : decode cX5_append 24 = .ok (.ior, 1) := by decide +kernel
theorem dX5_append_25 : decode cX5_append 25 = .ok (.putfield 19, 3) := by decide +kernel
theorem dX5_append_28 : decode cX5_append 28 = .ok (.goto 15, 3) := by decide +kernel
theorem dX5_append_31 : decode cX5_append 31 = .ok (.aload_n 0, 1) := by decide +kernel
theorem dX5_append_32 : decode cX5_append 32 = .ok (.dup, 1) := by decide +kernel
theorem dX5_append_33 : decode cX5_append 33 = .ok (.getfield 22, 3) := by decide +kernel
theorem dX5_append_36 : decode cX5_append 36 = .ok (.iconst 1, 1) := by decide +kernel
theorem dX5_append_37 : decode cX5_append 37 = .ok (.iload_n 1, 1) := by decide +kernel
theorem dX5_append_38 : decode cX5_append 38 = .ok (.ishl, 1) := by decide +kernel
theorem dX5_append_39 : decode cX5_append 39 = .ok (.ior, 1) := by decide +kernel
theorem dX5_append_40 : decode cX5_append 40 = .ok (.putfield 22, 3) := by decide +kernel
theorem dX5_append_43 : decode cX5_append 43 = .ok (.aload_n 0, 1) := by decide +kernel
theorem dX5_append_44 : decode cX5_append 44 = .ok (.dup, 1) := by decide +kernel
theorem dX5_append_45 : decode cX5_append 45 = .ok (.getfield 15, 3) := by decide +kernel
theorem dX5_append_48 : decode cX5_append 48 = .ok (.iconst 1, 1) := by decide +kernel
theorem dX5_append_49 : decode cX5_append 49 = .ok (.iadd, 1) := by decide +kernel
theorem dX5_append_50 : decode cX5_append 50 = .ok (.putfield 15, 3) := by decide +kernel
theorem dX5_append_53 : decode cX5_append 53 = .ok (.iconst 1, 1) := by decide +kernel
theorem dX5_append_54 : decode cX5_append 54 = .ok (.ireturn, 1) := by decide +kernel
set_option maxRecDepth 20000 in
theorem ggX5_weigh_J7_fill_53178 : GoodIn wsX5_weigh wsJ7_fill_53178 := goodIn_r _ [8] (by decide +kernel) (by decide +kernel)
set_option maxRecDepth 20000 in
theorem gX5_weigh_J7_fill_53178 : GoodIn wsX5_weigh (va_wsS RX5 31 yJ7_fill_53178 wsJ7_fill_53178) := goodIn_app (goodIn_of _ (by decide +kernel)) ggX5_weigh_J7_fill_53178
set_option maxRecDepth 20000 in
theorem ggX5_weigh_X3_canTake : GoodIn wsX5_weigh wsX3_canTake := goodIn_r _ [13, 14, 15, 16, 12, 17, 18, 19, 20, 21, 22, 23, 24, 25, 26, 27, 28, 29, 30, 31, 32, 33, 34, 35, 36, 37, 38, 39, 40, 41, 73, 74, 75, 76, 77, 78, 79] (by decide +kernel) (by decide +kernel)
set_option maxRecDepth 20000 in
theorem gX5_weigh_X3_canTake : GoodIn wsX5_weigh (wsV RX5 42 RX3 yX3_canTake wsX3_canTake) := goodIn_app (goodIn_of _ (by decide +kernel)) ggX5_weigh_X3_canTake
set_option maxRecDepth 20000 in
theorem ggX5_weigh_X8_codeOf : GoodIn wsX5_weigh wsX8_codeOf := goodIn_r _ [43] (by decide +kernel) (by decide +kernel)
set_option maxRecDepth 20000 in
theorem gX5_weigh_X8_codeOf_n46 : GoodIn wsX5_weigh (wsX8_codeOf) := ggX5_weigh_X8_codeOf
set_option maxRecDepth 20000 in
theorem ggX5_weigh_X3_movedBy : GoodIn wsX5_weigh wsX3_movedBy := goodIn_r _ [47, 31, 32, 33, 12, 34, 35, 36, 37, 38, 39, 40, 41, 28, 29, 30, 48, 49, 50, 51, 52, 53, 54, 55, 27, 56, 57, 58, 59, 73, 74, 75, 76, 77, 78, 79] (by decide +kernel) (by decide +kernel)
set_option maxRecDepth 20000 in
theorem gX5_weigh_X3_movedBy : GoodIn wsX5_weigh (wsV RX5 50 RX3 yX3_movedBy wsX3_movedBy) := goodIn_app (goodIn_of _ (by decide +kernel)) ggX5_weigh_X3_movedBy
set_option maxRecDepth 20000 in
theorem ggX5_weigh_X5_takeIfFits : GoodIn wsX5_weigh wsX5_takeIfFits := goodIn_r _ [64, 65, 66, 2, 1, 3, 67, 68, 69, 70, 71, 72] (by decide +kernel) (by decide +kernel)
set_option maxRecDepth 20000 in
theorem gX5_weigh_X5_takeIfFits : GoodIn wsX5_weigh (wsV RX5 53 RX5 yX5_takeIfFits wsX5_takeIfFits) := goodIn_app (goodIn_of _ (by decide +kernel)) ggX5_weigh_X5_takeIfFits
theorem dX5_weigh_0 : decode cX5_weigh 0 = .ok (.aload_n 0, 1) := by decide +kernel
theorem dX5_weigh_1 : decode cX5_weigh 1 = .ok (.iconst 0, 1) := by decide +kernel
theorem dX5_weigh_2 : decode cX5_weigh 2 = .ok (.putfield 25, 3) := by decide +kernel
theorem dX5_weigh_5 : decode cX5_weigh 5 = .ok (.aload_n 0, 1) := by decide +kernel
theorem dX5_weigh_6 : decode cX5_weigh 6 = .ok (.bipush (-9), 2) := by decide +kernel
theorem dX5_weigh_8 : decode cX5_weigh 8 = .ok (.putfield 28, 3) := by decide +kernel
theorem dX5_weigh_11 : decode cX5_weigh 11 = .ok (.aload_n 0, 1) := by decide +kernel
theorem dX5_weigh_12 : decode cX5_weigh 12 = .ok (.getfield 9, 3) := by decide +kernel
theorem dX5_weigh_15 : decode cX5_weigh 15 = .ok (.iconst 0, 1) := by decide +kernel
theorem dX5_weigh_16 : decode cX5_weigh 16 = .ok (.invokestatic 31, 3) := by decide +kernel
theorem dX5_weigh_19 : decode cX5_weigh 19 = .ok (.iconst 0, 1) := by decide +kernel
theorem dX5_weigh_20 : decode cX5_weigh 20 = .ok (.istore_n 2, 1) := by decide +kernel
theorem dX5_weigh_21 : decode cX5_weigh 21 = .ok (.iload_n 2, 1) := by decide +kernel
theorem dX5_weigh_22 : decode cX5_weigh 22 = .ok (.aload_n 1, 1) := by decide +kernel
theorem dX5_weigh_23 : decode cX5_weigh 23 = .ok (.getfield 37, 3) := by decide +kernel
theorem dX5_weigh_26 : decode cX5_weigh 26 = .ok (.if_icmp .ge 49, 3) := by decide +kernel
theorem dX5_weigh_29 : decode cX5_weigh 29 = .ok (.iconst 0, 1) := by decide +kernel
theorem dX5_weigh_30 : decode cX5_weigh 30 = .ok (.istore_n 3, 1) := by decide +kernel
theorem dX5_weigh_31 : decode cX5_weigh 31 = .ok (.iload_n 3, 1) := by decide +kernel
theorem dX5_weigh_32 : decode cX5_weigh 32 = .ok (.aload_n 1, 1) := by decide +kernel
theorem dX5_weigh_33 : decode cX5_weigh 33 = .ok (.getfield 37, 3) := by decide +kernel
theorem dX5_weigh_36 : decode cX5_weigh 36 = .ok (.if_icmp .ge 33, 3) := by decide +kernel
theorem dX5_weigh_39 : decode cX5_weigh 39 = .ok (.aload_n 1, 1) := by decide +kernel
theorem dX5_weigh_40 : decode cX5_weigh 40 = .ok (.iload_n 2, 1) := by decide +kernel
theorem dX5_weigh_41 : decode cX5_weigh 41 = .ok (.iload_n 3, 1) := by decide +kernel
theorem dX5_weigh_42 : decode cX5_weigh 42 = .ok (.invokevirtual 42, 3) := by decide +kernel
theorem dX5_weigh_45 : decode cX5_weigh 45 = .ok (.ifCond .eq 18, 3) := by decide +kernel
theorem dX5_weigh_48 : decode cX5_weigh 48 = .ok (.aload_n 0, 1) := by decide +kernel
theorem dX5_weigh_49 : decode cX5_weigh 49 = .ok (.iload_n 2, 1) := by decide +kernel
theorem dX5_weigh_50 : decode cX5_weigh 50 = .ok (.iload_n 3, 1) := by decide +kernel
theorem dX5_weigh_51 : decode cX5_weigh 51 = .ok (.invokestatic 46, 3) := by decide +kernel
theorem dX5_weigh_54 : decode cX5_weigh 54 = .ok (.aload_n 1, 1) := by decide +kernel
theorem dX5_weigh_55 : decode cX5_weigh 55 = .ok (.iload_n 2, 1) := by decide +kernel
theorem dX5_weigh_56 : decode cX5_weigh 56 = .ok (.iload_n 3, 1) := by decide +kernel
theorem dX5_weigh_57 : decode cX5_weigh 57 = .ok (.invokevirtual 50, 3) := by decide +kernel
theorem dX5_weigh_60 : decode cX5_weigh 60 = .ok (.invokevirtual 53, 3) := by decide +kernel
theorem dX5_weigh_63 : decode cX5_weigh 63 = .ok (.iinc 3 1, 3) := by decide +kernel
theorem dX5_weigh_66 : decode cX5_weigh 66 = .ok (.goto (-35), 3) := by decide +kernel
theorem dX5_weigh_69 : decode cX5_weigh 69 = .ok (.iinc 2 1, 3) := by decide +kernel
theorem dX5_weigh_72 : decode cX5_weigh 72 = .ok (.goto (-51), 3) := by decide +kernel
theorem dX5_weigh_75 : decode cX5_weigh 75 = .ok (.return_, 1) := by decide +kernel
theorem dX5_takeIfFits_0 : decode cX5_takeIfFits 0 = .ok (.aload_n 0, 1) := by decide +kernel
theorem dX5_takeIfFits_1 : decode cX5_takeIfFits 1 = .ok (.getfield 19, 3) := by decide +kernel
theorem dX5_takeIfFits_4 : decode cX5_takeIfFits 4 = .ok (.iload_n 2, 1) := by decide +kernel
theorem dX5_takeIfFits_5 : decode cX5_takeIfFits 5 = .ok (.iconst (-1), 1) := by decide +kernel
theorem dX5_takeIfFits_6 : decode cX5_takeIfFits 6 = .ok (.ixor, 1) := by decide +kernel
theorem dX5_takeIfFits_7 : decode cX5_takeIfFits 7 = .ok (.iand, 1) := by decide +kernel
theorem dX5_takeIfFits_8 : decode cX5_takeIfFits 8 = .ok (.ifCond .ne 12, 3) := by decide +kernel
theorem dX5_takeIfFits_11 : decode cX5_takeIfFits 11 = .ok (.aload_n 0, 1) := by decide +kernel
theorem dX5_takeIfFits_12 : decode cX5_takeIfFits 12 = .ok (.getfield 22, 3) := by decide +kernel
theorem dX5_takeIfFits_15 : decode cX5_takeIfFits 15 = .ok (.iload_n 2, 1) := by decide +kernel
theorem dX5_takeIfFits_16 : decode cX5_takeIfFits 16 = .ok (.iand, 1) := by decide +kernel
theorem dX5_takeIfFits_17 : decode cX5_takeIfFits 17 = .ok (.ifCond .eq 4, 3) := by decide +kernel
theorem dX5_takeIfFits_20 : decode cX5_takeIfFits 20 = .ok (.return_, 1) := by decide +kernel
theorem dX5_takeIfFits_21 : decode cX5_takeIfFits 21 = .ok (.aload_n 0, 1) := by decide +kernel
theorem dX5_takeIfFits_22 : decode cX5_takeIfFits 22 = .ok (.getfield 28, 3) := by decide +kernel
theorem dX5_takeIfFits_25 : decode cX5_takeIfFits 25 = .ok (.bipush (-9), 2) := by decide +kernel
theorem dX5_takeIfFits_27 : decode cX5_takeIfFits 27 = .ok (.if_icmp .ne 8, 3) := by decide +kernel
theorem dX5_takeIfFits_30 : decode cX5_takeIfFits 30 = .ok (.aload_n 0, 1) := by decide +kernel
theorem dX5_takeIfFits_31 : decode cX5_takeIfFits 31 = .ok (.iload_n 1, 1) := by decide +kernel
theorem dX5_takeIfFits_32 : decode cX5_takeIfFits 32 = .ok (.putfield 28, 3) := by decide +kernel
theorem dX5_takeIfFits_35 : decode cX5_takeIfFits 35 = .ok (.aload_n 0, 1) := by decide +kernel
theorem dX5_takeIfFits_36 : decode cX5_takeIfFits 36 = .ok (.dup, 1) := by decide +kernel
theorem dX5_takeIfFits_37 : decode cX5_takeIfFits 37 = .ok (.getfield 25, 3) := by decide +kernel
theorem dX5_takeIfFits_40 : decode cX5_takeIfFits 40 = .ok (.iconst 1, 1) := by decide +kernel
theorem dX5_takeIfFits_41 : decode cX5_takeIfFits 41 = .ok (.iadd, 1) := by decide +kernel
theorem dX5_takeIfFits_42 : decode cX5_takeIfFits 42 = .ok (.putfield 25, 3) := by decide +kernel
theorem dX5_takeIfFits_45 : decode cX5_takeIfFits 45 = .ok (.iconst 0, 1) := by decide +kernel
theorem dX5_takeIfFits_46 : decode cX5_takeIfFits 46 = .ok (.istore_n 3, 1) := by decide +kernel
theorem dX5_takeIfFits_47 : decode cX5_takeIfFits 47 = .ok (.iload_n 3, 1) := by decide +kernel
theorem dX5_takeIfFits_48 : decode cX5_takeIfFits 48 = .ok (.bipush 12, 2) := by decide +kernel
theorem dX5_takeIfFits_50 : decode cX5_takeIfFits 50 = .ok (.if_icmp .ge 23, 3) := by decide +kernel
theorem dX5_takeIfFits_53 : decode cX5_takeIfFits 53 = .ok (.aload_n 0, 1) := by decide +kernel
theorem dX5_takeIfFits_54 : decode cX5_takeIfFits 54 = .ok (.getfield 9, 3) := by decide +kernel
theorem dX5_takeIfFits_57 : decode cX5_takeIfFits 57 = .ok (.iload_n 3, 1) := by decide +kernel
theorem dX5_takeIfFits_58 : decode cX5_takeIfFits 58 = .ok (.dup2, 1) := by decide +kernel
theorem dX5_takeIfFits_59 : decode cX5_takeIfFits 59 = .ok (.iaload, 1) := by decide +kernel
theorem dX5_takeIfFits_60 : decode cX5_takeIfFits 60 = .ok (.iload_n 2, 1) := by decide +kernel
theorem dX5_takeIfFits_61 : decode cX5_takeIfFits 61 = .ok (.iload_n 3, 1) := by decide +kernel
theorem dX5_takeIfFits_62 : decode cX5_takeIfFits 62 = .ok (.ishr, 1) := by decide +kernel
theorem dX5_takeIfFits_63 : decode cX5_takeIfFits 63 = .ok (.iconst 1, 1) := by decide +kernel
theorem dX5_takeIfFits_64 : decode cX5_takeIfFits 64 = .ok (.iand, 1) := by decide +kernel
theorem dX5_takeIfFits_65 : decode cX5_takeIfFits 65 = .ok (.iadd, 1) := by decide +kernel
theorem dX5_takeIfFits_66 : decode cX5_takeIfFits 66 = .ok (.iastore, 1) := by decide +kernel
theorem dX5_takeIfFits_67 : decode cX5_takeIfFits 67 = .ok (.iinc 3 1, 3) := by decide +kernel
theorem dX5_takeIfFits_70 : decode cX5_takeIfFits 70 = .ok (.goto (-23), 3) := by decide +kernel
theorem dX5_takeIfFits_73 : decode cX5_takeIfFits 73 = .ok (.return_, 1) := by decide +kernel
theorem dX5_bestItem_0 : decode cX5_bestItem 0 = .ok (.aload_n 0, 1) := by decide +kernel
theorem dX5_bestItem_1 : decode cX5_bestItem 1 = .ok (.getfield 25, 3) := by decide +kernel
theorem dX5_bestItem_4 : decode cX5_bestItem 4 = .ok (.iconst 1, 1) := by decide +kernel
theorem dX5_bestItem_5 : decode cX5_bestItem 5 = .ok (.if_icmp .gt 6, 3) := by decide +kernel
theorem dX5_bestItem_8 : decode cX5_bestItem 8 = .ok (.bipush (-9), 2) := by decide +kernel
theorem dX5_bestItem_10 : decode cX5_bestItem 10 = .ok (.ireturn, 1) := by decide +kernel
theorem dX5_bestItem_11 : decode cX5_bestItem 11 = .ok (.bipush (-9), 2) := by decide +kernel
theorem dX5_bestItem_13 : decode cX5_bestItem 13 = .ok (.istore_n 2, 1) := by decide +kernel
theorem dX5_bestItem_14 : decode cX5_bestItem 14 = .ok (.aload_n 0, 1) := by decide +kernel
theorem dX5_bestItem_15 : decode cX5_bestItem 15 = .ok (.getfield 25, 3) := by decide +kernel
theorem dX5_bestItem_18 : decode cX5_bestItem 18 = .ok (.iconst 1, 1) := by decide +kernel
theorem dX5_bestItem_19 : decode cX5_bestItem 19 = .ok (.iadd, 1) := by decide +kernel
theorem dX5_bestItem_20 : decode cX5_bestItem 20 = .ok (.istore_n 3, 1) := by decide +kernel
theorem dX5_bestItem_21 : decode cX5_bestItem 21 = .ok (.iconst 0, 1) := by decide +kernel
theorem dX5_bestItem_22 : decode cX5_bestItem 22 = .ok (.istore 4, 2) := by decide +kernel
theorem dX5_bestItem_24 : decode cX5_bestItem 24 = .ok (.iload 4, 2) := by decide +kernel
theorem dX5_bestItem_26 : decode cX5_bestItem 26 = .ok (.aload_n 1, 1) := by decide +kernel
theorem dX5_bestItem_27 : decode cX5_bestItem 27 = .ok (.getfield 37, 3) := by decide +kernel
theorem dX5_bestItem_30 : decode cX5_bestItem 30 = .ok (.if_icmp .ge 45, 3) := by decide +kernel
theorem dX5_bestItem_33 : decode cX5_bestItem 33 = .ok (.aload_n 0, 1) := by decide +kernel
theorem dX5_bestItem_34 : decode cX5_bestItem 34 = .ok (.getfield 9, 3) := by decide +kernel
theorem dX5_bestItem_37 : decode cX5_bestItem 37 = .ok (.iload 4, 2) := by decide +kernel
theorem dX5_bestItem_39 : decode cX5_bestItem 39 = .ok (.iaload, 1) := by decide +kernel
theorem dX5_bestItem_40 : decode cX5_bestItem 40 = .ok (.aload_n 0, 1) := by decide +kernel
theorem dX5_bestItem_41 : decode cX5_bestItem 41 = .ok (.getfield 25, 3) := by decide +kernel
theorem dX5_bestItem_44 : decode cX5_bestItem 44 = .ok (.aload_n 0, 1) := by decide +kernel
theorem dX5_bestItem_45 : decode cX5_bestItem 45 = .ok (.getfield 9, 3) := by decide +kernel
theorem dX5_bestItem_48 : decode cX5_bestItem 48 = .ok (.iload 4, 2) := by decide +kernel
theorem dX5_bestItem_50 : decode cX5_bestItem 50 = .ok (.iaload, 1) := by decide +kernel
theorem dX5_bestItem_51 : decode cX5_bestItem 51 = .ok (.isub, 1) := by decide +kernel
theorem dX5_bestItem_52 : decode cX5_bestItem 52 = .ok (.invokestatic 57, 3) := by decide +kernel
theorem dX5_bestItem_55 : decode cX5_bestItem 55 = .ok (.istore 5, 2) := by decide +kernel
theorem dX5_bestItem_57 : decode cX5_bestItem 57 = .ok (.iload 5, 2) := by decide +kernel
theorem dX5_bestItem_59 : decode cX5_bestItem 59 = .ok (.iload_n 3, 1) := by decide +kernel
theorem dX5_bestItem_60 : decode cX5_bestItem 60 = .ok (.if_icmp .ge 9, 3) := by decide +kernel
theorem dX5_bestItem_63 : decode cX5_bestItem 63 = .ok (.iload 5, 2) := by decide +kernel
theorem dX5_bestItem_65 : decode cX5_bestItem 65 = .ok (.istore_n 3, 1) := by decide +kernel
theorem dX5_bestItem_66 : decode cX5_bestItem 66 = .ok (.iload 4, 2) := by decide +kernel
theorem dX5_bestItem_68 : decode cX5_bestItem 68 = .ok (.istore_n 2, 1) := by decide +kernel
theorem dX5_bestItem_69 : decode cX5_bestItem 69 = .ok (.iinc 4 1, 3) := by decide +kernel
theorem dX5_bestItem_72 : decode cX5_bestItem 72 = .ok (.goto (-48), 3) := by decide +kernel
theorem dX5_bestItem_75 : decode cX5_bestItem 75 = .ok (.iload_n 2, 1) := by decide +kernel
theorem dX5_bestItem_76 : decode cX5_bestItem 76 = .ok (.ireturn, 1) := by decide +kernel
set_option maxRecDepth 20000 in
theorem ggX6_init_X3_init : GoodIn wsX6_init wsX3_init := goodIn_r _ [12, 13, 2, 3, 14, 15, 16, 17, 18, 19, 20, 21, 22, 8, 23, 24, 25, 29, 30, 31, 32, 33, 34, 35] (by decide +kernel) (by decide +kernel)
set_option maxRecDepth 20000 in
theorem gX6_init_X3_init : GoodIn wsX6_init (wsX3_init) := ggX6_init_X3_init
theorem dX6_init_0 : decode cX6_init 0 = .ok (.aload_n 0, 1) := by decide +kernel
theorem dX6_init_1 : decode cX6_init 1 = .ok (.invokespecial 3, 3) := by decide +kernel
theorem dX6_init_4 : decode cX6_init 4 = .ok (.aload_n 0, 1) := by decide +kernel
theorem dX6_init_5 : decode cX6_init 5 = .ok (.sipush 4096, 3) := by decide +kernel
theorem dX6_init_8 : decode cX6_init 8 = .ok (.newarray .long, 2) := by decide +kernel
theorem dX6_init_10 : decode cX6_init 10 = .ok (.putfield 9, 3) := by decide +kernel
theorem dX6_init_13 : decode cX6_init 13 = .ok (.aload_n 0, 1) := by decide +kernel
theorem dX6_init_14 : decode cX6_init 14 = .ok (.new 15, 3) := by decide +kernel
theorem dX6_init_17 : decode cX6_init 17 = .ok (.dup, 1) := by decide +kernel
theorem dX6_init_18 : decode cX6_init 18 = .ok (.invokespecial 17, 3) := by decide +kernel
theorem dX6_init_21 : decode cX6_init 21 = .ok (.putfield 18, 3) := by decide +kernel
theorem dX6_init_24 : decode cX6_init 24 = .ok (.return_, 1) := by decide +kernel
set_option maxRecDepth 20000 in
theorem ggX6_prepare_X3_hasArcsOf : GoodIn wsX6_prepare wsX3_hasArcsOf := goodIn_r _ [8, 9, 10, 43, 44, 45, 46, 47, 48, 49] (by decide +kernel) (by decide +kernel)
set_option maxRecDepth 20000 in
theorem gX6_prepare_X3_hasArcsOf : GoodIn wsX6_prepare (wsV RX6 26 RX3 yX3_hasArcsOf wsX3_hasArcsOf) := goodIn_app (goodIn_of _ (by decide +kernel)) ggX6_prepare_X3_hasArcsOf
set_option maxRecDepth 20000 in
theorem ggX6_prepare_X3_everyItem : GoodIn wsX6_prepare wsX3_everyItem := goodIn_r _ [14, 9, 43, 44, 45, 46, 47, 48, 49] (by decide +kernel) (by decide +kernel)
set_option maxRecDepth 20000 in
theorem gX6_prepare_X3_everyItem : GoodIn wsX6_prepare (wsV RX6 30 RX3 yX3_everyItem wsX3_everyItem) := goodIn_app (goodIn_of _ (by decide +kernel)) ggX6_prepare_X3_everyItem
set_option maxRecDepth 20000 in
theorem ggX6_prepare_X6_waysOn : GoodIn wsX6_prepare wsX6_waysOn := goodIn_r _ [19, 20, 3, 21, 22, 23, 7, 24, 25, 26, 27, 28, 43, 44, 45, 46, 47, 48, 49, 40, 41, 42] (by decide +kernel) (by decide +kernel)
set_option maxRecDepth 20000 in
theorem gX6_prepare_X6_waysOn : GoodIn wsX6_prepare (wsV RX6 34 RX6 yX6_waysOn wsX6_waysOn) := goodIn_app (goodIn_of _ (by decide +kernel)) ggX6_prepare_X6_waysOn
set_option maxRecDepth 20000 in
theorem ggX6_prepare_X3_copyOf : GoodIn wsX6_prepare wsX3_copyOf := goodIn_r _ [32, 9, 33, 10, 34, 35, 36, 37, 25, 38, 39, 43, 44, 45, 46, 47, 48, 49] (by decide +kernel) (by decide +kernel)
set_option maxRecDepth 20000 in
theorem gX6_prepare_X3_copyOf : GoodIn wsX6_prepare (wsV RX6 38 RX3 yX3_copyOf wsX3_copyOf) := goodIn_app (goodIn_of _ (by decide +kernel)) ggX6_prepare_X3_copyOf
theorem dX6_prepare_0 : decode cX6_prepare 0 = .ok (.aload_n 0, 1) := by decide +kernel
theorem dX6_prepare_1 : decode cX6_prepare 1 = .ok (.getfield 22, 3) := by decide +kernel
theorem dX6_prepare_4 : decode cX6_prepare 4 = .ok (.ifCond .eq 15, 3) := by decide +kernel
theorem dX6_prepare_7 : decode cX6_prepare 7 = .ok (.aload_n 0, 1) := by decide +kernel
theorem dX6_prepare_8 : decode cX6_prepare 8 = .ok (.getfield 18, 3) := by decide +kernel
theorem dX6_prepare_11 : decode cX6_prepare 11 = .ok (.aload_n 1, 1) := by decide +kernel
theorem dX6_prepare_12 : decode cX6_prepare 12 = .ok (.invokevirtual 26, 3) := by decide +kernel
theorem dX6_prepare_15 : decode cX6_prepare 15 = .ok (.ifCond .eq 4, 3) := by decide +kernel
theorem dX6_prepare_18 : decode cX6_prepare 18 = .ok (.return_, 1) := by decide +kernel
theorem dX6_prepare_19 : decode cX6_prepare 19 = .ok (.aload_n 1, 1) := by decide +kernel
theorem dX6_prepare_20 : decode cX6_prepare 20 = .ok (.invokevirtual 30, 3) := by decide +kernel
theorem dX6_prepare_23 : decode cX6_prepare 23 = .ok (.istore_n 2, 1) := by decide +kernel
theorem dX6_prepare_24 : decode cX6_prepare 24 = .ok (.aload_n 0, 1) := by decide +kernel
theorem dX6_prepare_25 : decode cX6_prepare 25 = .ok (.getfield 9, 3) := by decide +kernel
theorem dX6_prepare_28 : decode cX6_prepare 28 = .ok (.iload_n 2, 1) := by decide +kernel
theorem dX6_prepare_29 : decode cX6_prepare 29 = .ok (.lconst 1, 1) := by decide +kernel
theorem dX6_prepare_30 : decode cX6_prepare 30 = .ok (.lastore, 1) := by decide +kernel
theorem dX6_prepare_31 : decode cX6_prepare 31 = .ok (.iload_n 2, 1) := by decide +kernel
theorem dX6_prepare_32 : decode cX6_prepare 32 = .ok (.iconst 1, 1) := by decide +kernel
theorem dX6_prepare_33 : decode cX6_prepare 33 = .ok (.isub, 1) := by decide +kernel
theorem dX6_prepare_34 : decode cX6_prepare 34 = .ok (.istore_n 3, 1) := by decide +kernel
theorem dX6_prepare_35 : decode cX6_prepare 35 = .ok (.iload_n 3, 1) := by decide +kernel
theorem dX6_prepare_36 : decode cX6_prepare 36 = .ok (.ifCond .lt 21, 3) := by decide +kernel
theorem dX6_prepare_39 : decode cX6_prepare 39 = .ok (.aload_n 0, 1) := by decide +kernel
theorem dX6_prepare_40 : decode cX6_prepare 40 = .ok (.getfield 9, 3) := by decide +kernel
theorem dX6_prepare_43 : decode cX6_prepare 43 = .ok (.iload_n 3, 1) := by decide +kernel
theorem dX6_prepare_44 : decode cX6_prepare 44 = .ok (.aload_n 0, 1) := by decide +kernel
theorem dX6_prepare_45 : decode cX6_prepare 45 = .ok (.aload_n 1, 1) := by decide +kernel
theorem dX6_prepare_46 : decode cX6_prepare 46 = .ok (.iload_n 3, 1) := by decide +kernel
theorem dX6_prepare_47 : decode cX6_prepare 47 = .ok (.invokevirtual 34, 3) := by decide +kernel
theorem dX6_prepare_50 : decode cX6_prepare 50 = .ok (.lastore, 1) := by decide +kernel
theorem dX6_prepare_51 : decode cX6_prepare 51 = .ok (.iinc 3 (-1), 3) := by decide +kernel
theorem dX6_prepare_54 : decode cX6_prepare 54 = .ok (.goto (-19), 3) := by decide +kernel
theorem dX6_prepare_57 : decode cX6_prepare 57 = .ok (.aload_n 0, 1) := by decide +kernel
theorem dX6_prepare_58 : decode cX6_prepare 58 = .ok (.getfield 18, 3) := by decide +kernel
theorem dX6_prepare_61 : decode cX6_prepare 61 = .ok (.aload_n 1, 1) := by decide +kernel
theorem dX6_prepare_62 : decode cX6_prepare 62 = .ok (.invokevirtual 38, 3) := by decide +kernel
theorem dX6_prepare_65 : decode cX6_prepare 65 = .ok (.aload_n 0, 1) := by decide +kernel
theorem dX6_prepare_66 : decode cX6_prepare 66 = .ok (.iconst 1, 1) := by decide +kernel
theorem dX6_prepare_67 : decode cX6_prepare 67 = .ok (.putfield 22, 3) := by decide +kernel
theorem dX6_prepare_70 : decode cX6_prepare 70 = .ok (.return_, 1) := by decide +kernel
set_option maxRecDepth 20000 in
theorem ggX6_waysOn_X3_isReady : GoodIn wsX6_waysOn wsX3_isReady := goodIn_r _ [7, 8, 9, 10, 11, 12, 13, 14, 15, 16, 17, 18] (by decide +kernel) (by decide +kernel)
set_option maxRecDepth 20000 in
theorem gX6_waysOn_X3_isReady : GoodIn wsX6_waysOn (wsV RX6 46 RX3 yX3_isReady wsX3_isReady) := goodIn_app (goodIn_of _ (by decide +kernel)) ggX6_waysOn_X3_isReady
theorem dX6_waysOn_0 : decode cX6_waysOn 0 = .ok (.lconst 0, 1) := by decide +kernel
theorem dX6_waysOn_1 : decode cX6_waysOn 1 = .ok (.lstore_n 3, 1) := by decide +kernel
theorem dX6_waysOn_2 : decode cX6_waysOn 2 = .ok (.iconst 0, 1) := by decide +kernel
theorem dX6_waysOn_3 : decode cX6_waysOn 3 = .ok (.istore 5, 2) := by decide +kernel
theorem dX6_waysOn_5 : decode cX6_waysOn 5 = .ok (.iload 5, 2) := by decide +kernel
theorem dX6_waysOn_7 : decode cX6_waysOn 7 = .ok (.aload_n 1, 1) := by decide +kernel
theorem dX6_waysOn_8 : decode cX6_waysOn 8 = .ok (.getfield 42, 3) := by decide +kernel
theorem dX6_waysOn_11 : decode cX6_waysOn 11 = .ok (.if_icmp .ge 33, 3) := by decide +kernel
theorem dX6_waysOn_14 : decode cX6_waysOn 14 = .ok (.aload_n 1, 1) := by decide +kernel
theorem dX6_waysOn_15 : decode cX6_waysOn 15 = .ok (.iload 5, 2) := by decide +kernel
theorem dX6_waysOn_17 : decode cX6_waysOn 17 = .ok (.iload_n 2, 1) := by decide +kernel
theorem dX6_waysOn_18 : decode cX6_waysOn 18 = .ok (.invokevirtual 46, 3) := by decide +kernel
theorem dX6_waysOn_21 : decode cX6_waysOn 21 = .ok (.ifCond .eq 17, 3) := by decide +kernel
theorem dX6_waysOn_24 : decode cX6_waysOn 24 = .ok (.lload_n 3, 1) := by decide +kernel
theorem dX6_waysOn_25 : decode cX6_waysOn 25 = .ok (.aload_n 0, 1) := by decide +kernel
theorem dX6_waysOn_26 : decode cX6_waysOn 26 = .ok (.getfield 9, 3) := by decide +kernel
theorem dX6_waysOn_29 : decode cX6_waysOn 29 = .ok (.iload_n 2, 1) := by decide +kernel
theorem dX6_waysOn_30 : decode cX6_waysOn 30 = .ok (.iconst 1, 1) := by decide +kernel
theorem dX6_waysOn_31 : decode cX6_waysOn 31 = .ok (.iload 5, 2) := by decide +kernel
theorem dX6_waysOn_33 : decode cX6_waysOn 33 = .ok (.ishl, 1) := by decide +kernel
theorem dX6_waysOn_34 : decode cX6_waysOn 34 = .ok (.ior, 1) := by decide +kernel
theorem dX6_waysOn_35 : decode cX6_waysOn 35 = .ok (.laload, 1) := by decide +kernel
theorem dX6_waysOn_36 : decode cX6_waysOn 36 = .ok (.ladd, 1) := by decide +kernel
theorem dX6_waysOn_37 : decode cX6_waysOn 37 = .ok (.lstore_n 3, 1) := by decide +kernel
theorem dX6_waysOn_38 : decode cX6_waysOn 38 = .ok (.iinc 5 1, 3) := by decide +kernel
theorem dX6_waysOn_41 : decode cX6_waysOn 41 = .ok (.goto (-36), 3) := by decide +kernel
theorem dX6_waysOn_44 : decode cX6_waysOn 44 = .ok (.lload_n 3, 1) := by decide +kernel
theorem dX6_waysOn_45 : decode cX6_waysOn 45 = .ok (.lreturn, 1) := by decide +kernel
set_option maxRecDepth 20000 in
theorem ggX6_all_X6_prepare : GoodIn wsX6_all wsX6_prepare := goodIn_r _ [6, 7, 8, 1, 9, 10, 11, 12, 13, 14, 15, 16, 17, 18, 19, 20, 21, 22, 5, 23, 24, 25, 26, 27, 28, 29, 30, 31, 32, 33, 34, 35, 36, 37, 38, 39, 40, 41, 42, 43, 44, 45, 46, 47, 48, 49, 50, 51, 52, 53] (by decide +kernel) (by decide +kernel)
set_option maxRecDepth 20000 in
theorem gX6_all_X6_prepare : GoodIn wsX6_all (wsV RX6 50 RX6 yX6_prepare wsX6_prepare) := goodIn_app (goodIn_of _ (by decide +kernel)) ggX6_all_X6_prepare
theorem dX6_all_0 : decode cX6_all 0 = .ok (.aload_n 0, 1) := by decide +kernel
theorem dX6_all_1 : decode cX6_all 1 = .ok (.aload_n 1, 1) := by decide +kernel
theorem dX6_all_2 : decode cX6_all 2 = .ok (.invokevirtual 50, 3) := by decide +kernel
theorem dX6_all_5 : decode cX6_all 5 = .ok (.aload_n 0, 1) := by decide +kernel
theorem dX6_all_6 : decode cX6_all 6 = .ok (.getfield 9, 3) := by decide +kernel
theorem dX6_all_9 : decode cX6_all 9 = .ok (.iconst 0, 1) := by decide +kernel
theorem dX6_all_10 : decode cX6_all 10 = .ok (.laload, 1) := by decide +kernel
theorem dX6_all_11 : decode cX6_all 11 = .ok (.lreturn, 1) := by decide +kernel
set_option maxRecDepth 20000 in
theorem ggX6_rank_X6_prepare : GoodIn wsX6_rank wsX6_prepare := goodIn_r _ [8, 9, 10, 3, 11, 12, 13, 14, 15, 16, 17, 18, 19, 20, 21, 22, 23, 24, 7, 25, 1, 26, 27, 28, 29, 30, 31, 32, 33, 34, 35, 36, 37, 38, 39, 40, 41, 42, 43, 44, 52, 53, 54, 45, 46, 47, 48, 49, 50, 51] (by decide +kernel) (by decide +kernel)
set_option maxRecDepth 20000 in
theorem gX6_rank_X6_prepare : GoodIn wsX6_rank (wsV RX6 50 RX6 yX6_prepare wsX6_prepare) := goodIn_app (goodIn_of _ (by decide +kernel)) ggX6_rank_X6_prepare
set_option maxRecDepth 20000 in
theorem ggX6_rank_X3_isReady : GoodIn wsX6_rank wsX3_isReady := goodIn_r _ [29, 30, 31, 32, 33, 45, 46, 47, 48, 49, 50, 51] (by decide +kernel) (by decide +kernel)
set_option maxRecDepth 20000 in
theorem gX6_rank_X3_isReady : GoodIn wsX6_rank (wsV RX6 46 RX3 yX3_isReady wsX3_isReady) := goodIn_app (goodIn_of _ (by decide +kernel)) ggX6_rank_X3_isReady
theorem dX6_rank_0 : decode cX6_rank 0 = .ok (.aload_n 0, 1) := by decide +kernel
theorem dX6_rank_1 : decode cX6_rank 1 = .ok (.aload_n 1, 1) := by decide +kernel
theorem dX6_rank_2 : decode cX6_rank 2 = .ok (.invokevirtual 50, 3) := by decide +kernel
theorem dX6_rank_5 : decode cX6_rank 5 = .ok (.lconst 0, 1) := by decide +kernel
theorem dX6_rank_6 : decode cX6_rank 6 = .ok (.lstore_n 2, 1) := by decide +kernel
theorem dX6_rank_7 : decode cX6_rank 7 = .ok (.iconst 0, 1) := by decide +kernel
theorem dX6_rank_8 : decode cX6_rank 8 = .ok (.istore 4, 2) := by decide +kernel
theorem dX6_rank_10 : decode cX6_rank 10 = .ok (.iconst 0, 1) := by decide +kernel
theorem dX6_rank_11 : decode cX6_rank 11 = .ok (.istore 5, 2) := by decide +kernel
theorem dX6_rank_13 : decode cX6_rank 13 = .ok (.iload 5, 2) := by decide +kernel
theorem dX6_rank_15 : decode cX6_rank 15 = .ok (.aload_n 1, 1) := by decide +kernel
theorem dX6_rank_16 : decode cX6_rank 16 = .ok (.getfield 42, 3) := by decide +kernel
theorem dX6_rank_19 : decode cX6_rank 19 = .ok (.if_icmp .ge 69, 3) := by decide +kernel
theorem dX6_rank_22 : decode cX6_rank 22 = .ok (.aload_n 1, 1) := by decide +kernel
theorem dX6_rank_23 : decode cX6_rank 23 = .ok (.getfield 53, 3) := by decide +kernel
theorem dX6_rank_26 : decode cX6_rank 26 = .ok (.iload 5, 2) := by decide +kernel
theorem dX6_rank_28 : decode cX6_rank 28 = .ok (.iaload, 1) := by decide +kernel
theorem dX6_rank_29 : decode cX6_rank 29 = .ok (.istore 6, 2) := by decide +kernel
theorem dX6_rank_31 : decode cX6_rank 31 = .ok (.iconst 0, 1) := by decide +kernel
theorem dX6_rank_32 : decode cX6_rank 32 = .ok (.istore 7, 2) := by decide +kernel
theorem dX6_rank_34 : decode cX6_rank 34 = .ok (.iload 7, 2) := by decide +kernel
theorem dX6_rank_36 : decode cX6_rank 36 = .ok (.iload 6, 2) := by decide +kernel
theorem dX6_rank_38 : decode cX6_rank 38 = .ok (.if_icmp .ge 35, 3) := by decide +kernel
theorem dX6_rank_41 : decode cX6_rank 41 = .ok (.aload_n 1, 1) := by decide +kernel
theorem dX6_rank_42 : decode cX6_rank 42 = .ok (.iload 7, 2) := by decide +kernel
theorem dX6_rank_44 : decode cX6_rank 44 = .ok (.iload 4, 2) := by decide +kernel
theorem dX6_rank_46 : decode cX6_rank 46 = .ok (.invokevirtual 46, 3) := by decide +kernel
theorem dX6_rank_49 : decode cX6_rank 49 = .ok (.ifCond .eq 18, 3) := by decide +kernel
theorem dX6_rank_52 : decode cX6_rank 52 = .ok (.lload_n 2, 1) := by decide +kernel
theorem dX6_rank_53 : decode cX6_rank 53 = .ok (.aload_n 0, 1) := by decide +kernel
theorem dX6_rank_54 : decode cX6_rank 54 = .ok (.getfield 9, 3) := by decide +kernel
theorem dX6_rank_57 : decode cX6_rank 57 = .ok (.iload 4, 2) := by decide +kernel
theorem dX6_rank_59 : decode cX6_rank 59 = .ok (.iconst 1, 1) := by decide +kernel
theorem dX6_rank_60 : decode cX6_rank 60 = .ok (.iload 7, 2) := by decide +kernel
theorem dX6_rank_62 : decode cX6_rank 62 = .ok (.ishl, 1) := by decide +kernel
theorem dX6_rank_63 : decode cX6_rank 63 = .ok (.ior, 1) := by decide +kernel
theorem dX6_rank_64 : decode cX6_rank 64 = .ok (.laload, 1) := by decide +kernel
theorem dX6_rank_65 : decode cX6_rank 65 = .ok (.ladd, 1) := by decide +kernel
theorem dX6_rank_66 : decode cX6_rank 66 = .ok (.lstore_n 2, 1) := by decide +kernel
theorem dX6_rank_67 : decode cX6_rank 67 = .ok (.iinc 7 1, 3) := by decide +kernel
theorem dX6_rank_70 : decode cX6_rank 70 = .ok (.goto (-36), 3) := by decide +kernel
theorem dX6_rank_73 : decode cX6_rank 73 = .ok (.iload 4, 2) := by decide +kernel
theorem dX6_rank_75 : decode cX6_rank 75 = .ok (.iconst 1, 1) := by decide +kernel
theorem dX6_rank_76 : decode cX6_rank 76 = .ok (.iload 6, 2) := by decide +kernel
theorem dX6_rank_78 : decode cX6_rank 78 = .ok (.ishl, 1) := by decide +kernel
theorem dX6_rank_79 : decode cX6_rank 79 = .ok (.ior, 1) := by decide +kernel
theorem dX6_rank_80 : decode cX6_rank 80 = .ok (.istore 4, 2) := by decide +kernel
theorem dX6_rank_82 : decode cX6_rank 82 = .ok (.iinc 5 1, 3) := by decide +kernel
theorem dX6_rank_85 : decode cX6_rank 85 = .ok (.goto (-72), 3) := by decide +kernel
theorem dX6_rank_88 : decode cX6_rank 88 = .ok (.lload_n 2, 1) := by decide +kernel
theorem dX6_rank_89 : decode cX6_rank 89 = .ok (.lreturn, 1) := by decide +kernel
set_option maxRecDepth 20000 in
theorem ggX6_itemOf_X6_all : GoodIn wsX6_itemOf wsX6_all := goodIn_r _ [7, 2, 8, 9, 10, 6, 11, 12, 13, 14, 15, 16, 17, 18, 19, 20, 21, 22, 23, 24, 25, 26, 27, 28, 1, 29, 30, 31, 32, 33, 34, 35, 36, 37, 38, 39, 40, 41, 42, 43, 44, 45, 46, 47, 55, 56, 57, 48, 49, 50, 51, 52, 53, 54] (by decide +kernel) (by decide +kernel)
set_option maxRecDepth 20000 in
theorem gX6_itemOf_X6_all : GoodIn wsX6_itemOf (wsV RX6 57 RX6 yX6_all wsX6_all) := goodIn_app (goodIn_of _ (by decide +kernel)) ggX6_itemOf_X6_all
set_option maxRecDepth 20000 in
theorem ggX6_itemOf_X3_isReady : GoodIn wsX6_itemOf wsX3_isReady := goodIn_r _ [32, 33, 34, 35, 36, 48, 49, 50, 51, 52, 53, 54] (by decide +kernel) (by decide +kernel)
set_option maxRecDepth 20000 in
theorem gX6_itemOf_X3_isReady : GoodIn wsX6_itemOf (wsV RX6 46 RX3 yX3_isReady wsX3_isReady) := goodIn_app (goodIn_of _ (by decide +kernel)) ggX6_itemOf_X3_isReady
theorem dX6_itemOf_0 : decode cX6_itemOf 0 = .ok (.lload_n 2, 1) := by decide +kernel
theorem dX6_itemOf_1 : decode cX6_itemOf 1 = .ok (.aload_n 0, 1) := by decide +kernel
theorem dX6_itemOf_2 : decode cX6_itemOf 2 = .ok (.aload_n 1, 1) := by decide +kernel
theorem dX6_itemOf_3 : decode cX6_itemOf 3 = .ok (.invokevirtual 57, 3) := by decide +kernel
theorem dX6_itemOf_6 : decode cX6_itemOf 6 = .ok (.lcmp, 1) := by decide +kernel
theorem dX6_itemOf_7 : decode cX6_itemOf 7 = .ok (.ifCond .lt 6, 3) := by decide +kernel
theorem dX6_itemOf_10 : decode cX6_itemOf 10 = .ok (.bipush (-9), 2) := by decide +kernel
theorem dX6_itemOf_12 : decode cX6_itemOf 12 = .ok (.ireturn, 1) := by decide +kernel
theorem dX6_itemOf_13 : decode cX6_itemOf 13 = .ok (.lload_n 2, 1) := by decide +kernel
theorem dX6_itemOf_14 : decode cX6_itemOf 14 = .ok (.lstore 5, 2) := by decide +kernel
theorem dX6_itemOf_16 : decode cX6_itemOf 16 = .ok (.iconst 0, 1) := by decide +kernel
theorem dX6_itemOf_17 : decode cX6_itemOf 17 = .ok (.istore 7, 2) := by decide +kernel
theorem dX6_itemOf_19 : decode cX6_itemOf 19 = .ok (.bipush (-9), 2) := by decide +kernel
theorem dX6_itemOf_21 : decode cX6_itemOf 21 = .ok (.istore 8, 2) := by decide +kernel
theorem dX6_itemOf_23 : decode cX6_itemOf 23 = .ok (.iconst 0, 1) := by decide +kernel
theorem dX6_itemOf_24 : decode cX6_itemOf 24 = .ok (.istore 9, 2) := by decide +kernel
theorem dX6_itemOf_26 : decode cX6_itemOf 26 = .ok (.iload 9, 2) := by decide +kernel
theorem dX6_itemOf_28 : decode cX6_itemOf 28 = .ok (.iload 4, 2) := by decide +kernel
theorem dX6_itemOf_30 : decode cX6_itemOf 30 = .ok (.if_icmp .gt 92, 3) := by decide +kernel
theorem dX6_itemOf_33 : decode cX6_itemOf 33 = .ok (.iconst 0, 1) := by decide +kernel
theorem dX6_itemOf_34 : decode cX6_itemOf 34 = .ok (.istore 10, 2) := by decide +kernel
theorem dX6_itemOf_36 : decode cX6_itemOf 36 = .ok (.iload 10, 2) := by decide +kernel
theorem dX6_itemOf_38 : decode cX6_itemOf 38 = .ok (.aload_n 1, 1) := by decide +kernel
theorem dX6_itemOf_39 : decode cX6_itemOf 39 = .ok (.getfield 42, 3) := by decide +kernel
theorem dX6_itemOf_42 : decode cX6_itemOf 42 = .ok (.if_icmp .ge 74, 3) := by decide +kernel
theorem dX6_itemOf_45 : decode cX6_itemOf 45 = .ok (.aload_n 1, 1) := by decide +kernel
theorem dX6_itemOf_46 : decode cX6_itemOf 46 = .ok (.iload 10, 2) := by decide +kernel
theorem dX6_itemOf_48 : decode cX6_itemOf 48 = .ok (.iload 7, 2) := by decide +kernel
theorem dX6_itemOf_50 : decode cX6_itemOf 50 = .ok (.invokevirtual 46, 3) := by decide +kernel
theorem dX6_itemOf_53 : decode cX6_itemOf 53 = .ok (.ifCond .ne 6, 3) := by decide +kernel
theorem dX6_itemOf_56 : decode cX6_itemOf 56 = .ok (.goto 54, 3) := by decide +kernel
theorem dX6_itemOf_59 : decode cX6_itemOf 59 = .ok (.lload 5, 2) := by decide +kernel
theorem dX6_itemOf_61 : decode cX6_itemOf 61 = .ok (.aload_n 0, 1) := by decide +kernel
theorem dX6_itemOf_62 : decode cX6_itemOf 62 = .ok (.getfield 9, 3) := by decide +kernel
theorem dX6_itemOf_65 : decode cX6_itemOf 65 = .ok (.iload 7, 2) := by decide +kernel
theorem dX6_itemOf_67 : decode cX6_itemOf 67 = .ok (.iconst 1, 1) := by decide +kernel
theorem dX6_itemOf_68 : decode cX6_itemOf 68 = .ok (.iload 10, 2) := by decide +kernel
theorem dX6_itemOf_70 : decode cX6_itemOf 70 = .ok (.ishl, 1) := by decide +kernel
theorem dX6_itemOf_71 : decode cX6_itemOf 71 = .ok (.ior, 1) := by decide +kernel
theorem dX6_itemOf_72 : decode cX6_itemOf 72 = .ok (.laload, 1) := by decide +kernel
theorem dX6_itemOf_73 : decode cX6_itemOf 73 = .ok (.lcmp, 1) := by decide +kernel
theorem dX6_itemOf_74 : decode cX6_itemOf 74 = .ok (.ifCond .ge 19, 3) := by decide +kernel
theorem dX6_itemOf_77 : decode cX6_itemOf 77 = .ok (.iload 10, 2) := by decide +kernel
theorem dX6_itemOf_79 : decode cX6_itemOf 79 = .ok (.istore 8, 2) := by decide +kernel
theorem dX6_itemOf_81 : decode cX6_itemOf 81 = .ok (.iload 7, 2) := by decide +kernel
theorem dX6_itemOf_83 : decode cX6_itemOf 83 = .ok (.iconst 1, 1) := by decide +kernel
theorem dX6_itemOf_84 : decode cX6_itemOf 84 = .ok (.iload 10, 2) := by decide +kernel
theorem dX6_itemOf_86 : decode cX6_itemOf 86 = .ok (.ishl, 1) := by decide +kernel
theorem dX6_itemOf_87 : decode cX6_itemOf 87 = .ok (.ior, 1) := by decide +kernel
theorem dX6_itemOf_88 : decode cX6_itemOf 88 = .ok (.istore 7, 2) := by decide +kernel
theorem dX6_itemOf_90 : decode cX6_itemOf 90 = .ok (.goto 26, 3) := by decide +kernel
theorem dX6_itemOf_93 : decode cX6_itemOf 93 = .ok (.lload 5, 2) := by decide +kernel
theorem dX6_itemOf_95 : decode cX6_itemOf 95 = .ok (.aload_n 0, 1) := by decide +kernel
theorem dX6_itemOf_96 : decode cX6_itemOf 96 = .ok (.getfield 9, 3) := by decide +kernel
theorem dX6_itemOf_99 : decode cX6_itemOf 99 = .ok (.iload 7, 2) := by decide +kernel
theorem dX6_itemOf_101 : decode cX6_itemOf 101 = .ok (.iconst 1, 1) := by decide +kernel
theorem dX6_itemOf_102 : decode cX6_itemOf 102 = .ok (.iload 10, 2) := by decide +kernel
theorem dX6_itemOf_104 : decode cX6_itemOf 104 = .ok (.ishl, 1) := by decide +kernel
theorem dX6_itemOf_105 : decode cX6_itemOf 105 = .ok (.ior, 1) := by decide +kernel
theorem dX6_itemOf_106 : decode cX6_itemOf 106 = .ok (.laload, 1) := by decide +kernel
theorem dX6_itemOf_107 : decode cX6_itemOf 107 = .ok (.lsub, 1) := by decide +kernel
theorem dX6_itemOf_108 : decode cX6_itemOf 108 = .ok (.lstore 5, 2) := by decide +kernel
theorem dX6_itemOf_110 : decode cX6_itemOf 110 = .ok (.iinc 10 1, 3) := by decide +kernel
theorem dX6_itemOf_113 : decode cX6_itemOf 113 = .ok (.goto (-77), 3) := by decide +kernel
theorem dX6_itemOf_116 : decode cX6_itemOf 116 = .ok (.iinc 9 1, 3) := by decide +kernel
theorem dX6_itemOf_119 : decode cX6_itemOf 119 = .ok (.goto (-93), 3) := by decide +kernel
theorem dX6_itemOf_122 : decode cX6_itemOf 122 = .ok (.iload 8, 2) := by decide +kernel
theorem dX6_itemOf_124 : decode cX6_itemOf 124 = .ok (.ireturn, 1) := by decide +kernel
theorem dX7_init_0 : decode cX7_init 0 = .ok (.aload_n 0, 1) := by decide +kernel
theorem dX7_init_1 : decode cX7_init 1 = .ok (.invokespecial 3, 3) := by decide +kernel
theorem dX7_init_4 : decode cX7_init 4 = .ok (.aload_n 0, 1) := by decide +kernel
theorem dX7_init_5 : decode cX7_init 5 = .ok (.bipush 120, 2) := by decide +kernel
theorem dX7_init_7 : decode cX7_init 7 = .ok (.newarray .int, 2) := by decide +kernel
theorem dX7_init_9 : decode cX7_init 9 = .ok (.putfield 9, 3) := by decide +kernel
theorem dX7_init_12 : decode cX7_init 12 = .ok (.return_, 1) := by decide +kernel
theorem dX7_append_0 : decode cX7_append 0 = .ok (.aload_n 0, 1) := by decide +kernel
theorem dX7_append_1 : decode cX7_append 1 = .ok (.getfield 15, 3) := by decide +kernel
theorem dX7_append_4 : decode cX7_append 4 = .ok (.bipush 120, 2) := by decide +kernel
theorem dX7_append_6 : decode cX7_append 6 = .ok (.if_icmp .lt 5, 3) := by decide +kernel
theorem dX7_append_9 : decode cX7_append 9 = .ok (.iconst 0, 1) := by decide +kernel
theorem dX7_append_10 : decode cX7_append 10 = .ok (.ireturn, 1) := by decide +kernel
theorem dX7_append_11 : decode cX7_append 11 = .ok (.aload_n 0, 1) := by decide +kernel
theorem dX7_append_12 : decode cX7_append 12 = .ok (.getfield 9, 3) := by decide +kernel
theorem dX7_append_15 : decode cX7_append 15 = .ok (.aload_n 0, 1) := by decide +kernel
theorem dX7_append_16 : decode cX7_append 16 = .ok (.getfield 15, 3) := by decide +kernel
theorem dX7_append_19 : decode cX7_append 19 = .ok (.iload_n 1, 1) := by decide +kernel
theorem dX7_append_20 : decode cX7_append 20 = .ok (.iastore, 1) := by decide +kernel
theorem dX7_append_21 : decode cX7_append 21 = .ok (.aload_n 0, 1) := by decide +kernel
theorem dX7_append_22 : decode cX7_append 22 = .ok (.dup, 1) := by decide +kernel
theorem dX7_append_23 : decode cX7_append 23 = .ok (.getfield 15, 3) := by decide +kernel
theorem dX7_append_26 : decode cX7_append 26 = .ok (.iconst 1, 1) := by decide +kernel
theorem dX7_append_27 : decode cX7_append 27 = .ok (.iadd, 1) := by decide +kernel
theorem dX7_append_28 : decode cX7_append 28 = .ok (.putfield 15, 3) := by decide +kernel
theorem dX7_append_31 : decode cX7_append 31 = .ok (.iconst 1, 1) := by decide +kernel
theorem dX7_append_32 : decode cX7_append 32 = .ok (.ireturn, 1) := by decide +kernel
set_option maxRecDepth 20000 in
theorem ggX7_readInto_X3_begin : GoodIn wsX7_readInto wsX3_begin := goodIn_r _ [8, 9, 10, 11, 12, 13, 14, 121, 122, 123, 124, 125, 126, 127] (by decide +kernel) (by decide +kernel)
set_option maxRecDepth 20000 in
theorem gX7_readInto_X3_begin : GoodIn wsX7_readInto (wsV RX7 19 RX3 yX3_begin wsX3_begin) := goodIn_app (goodIn_of _ (by decide +kernel)) ggX7_readInto_X3_begin
set_option maxRecDepth 20000 in
theorem ggX7_readInto_X7_nextToken : GoodIn wsX7_readInto wsX7_nextToken := goodIn_r _ [19, 1, 3, 20, 21, 2, 22, 23, 24, 18, 25, 26, 27, 28, 29, 30, 31, 32, 33, 34, 115, 116, 117, 118, 119, 120] (by decide +kernel) (by decide +kernel)
set_option maxRecDepth 20000 in
theorem gX7_readInto_X7_nextToken : GoodIn wsX7_readInto (wsV RX7 28 RX7 yX7_nextToken wsX7_nextToken) := goodIn_app (goodIn_of _ (by decide +kernel)) ggX7_readInto_X7_nextToken
set_option maxRecDepth 20000 in
theorem ggX7_readInto_X7_readEntry : GoodIn wsX7_readInto wsX7_readEntry := goodIn_r _ [38, 2, 39, 40, 41, 18, 42, 30, 43, 44, 45, 46, 15, 16, 17, 19, 1, 3, 20, 21, 22, 23, 24, 25, 26, 27, 28, 29, 31, 32, 33, 34, 4, 5, 6, 7, 8, 9, 10, 11, 12, 13, 14, 47, 48, 49, 50, 51, 52, 53, 54, 55, 56, 57, 58, 59, 60, 61, 62, 63, 64, 65, 66, 67, 68, 69, 70, 71, 72, 73, 74, 75, 76, 77, 78, 79, 80, 81, 82, 83, 84, 85, 86, 87, 88, 89, 90, 91, 92, 93, 94, 95, 96, 97, 98, 99, 100, 101, 102, 103, 104, 105, 106, 107, 108, 109, 110, 111, 112, 113, 114, 115, 116, 117, 118, 119, 120, 121, 122, 123, 124, 125, 126, 127] (by decide +kernel) (by decide +kernel)
set_option maxRecDepth 20000 in
theorem gX7_readInto_X7_readEntry : GoodIn wsX7_readInto (wsV RX7 35 RX7 yX7_readEntry wsX7_readEntry) := goodIn_app (goodIn_of _ (by decide +kernel)) ggX7_readInto_X7_readEntry
theorem dX7_readInto_0 : decode cX7_readInto 0 = .ok (.aload_n 1, 1) := by decide +kernel
theorem dX7_readInto_1 : decode cX7_readInto 1 = .ok (.iconst 4, 1) := by decide +kernel
theorem dX7_readInto_2 : decode cX7_readInto 2 = .ok (.invokevirtual 19, 3) := by decide +kernel
theorem dX7_readInto_5 : decode cX7_readInto 5 = .ok (.aload_n 0, 1) := by decide +kernel
theorem dX7_readInto_6 : decode cX7_readInto 6 = .ok (.iconst 0, 1) := by decide +kernel
theorem dX7_readInto_7 : decode cX7_readInto 7 = .ok (.putfield 25, 3) := by decide +kernel
theorem dX7_readInto_10 : decode cX7_readInto 10 = .ok (.iconst 0, 1) := by decide +kernel
theorem dX7_readInto_11 : decode cX7_readInto 11 = .ok (.istore_n 2, 1) := by decide +kernel
theorem dX7_readInto_12 : decode cX7_readInto 12 = .ok (.iconst 0, 1) := by decide +kernel
theorem dX7_readInto_13 : decode cX7_readInto 13 = .ok (.istore_n 3, 1) := by decide +kernel
theorem dX7_readInto_14 : decode cX7_readInto 14 = .ok (.iload_n 3, 1) := by decide +kernel
theorem dX7_readInto_15 : decode cX7_readInto 15 = .ok (.bipush 120, 2) := by decide +kernel
theorem dX7_readInto_17 : decode cX7_readInto 17 = .ok (.if_icmp .gt 53, 3) := by decide +kernel
theorem dX7_readInto_20 : decode cX7_readInto 20 = .ok (.aload_n 0, 1) := by decide +kernel
theorem dX7_readInto_21 : decode cX7_readInto 21 = .ok (.invokevirtual 28, 3) := by decide +kernel
theorem dX7_readInto_24 : decode cX7_readInto 24 = .ok (.aload_n 0, 1) := by decide +kernel
theorem dX7_readInto_25 : decode cX7_readInto 25 = .ok (.getfield 31, 3) := by decide +kernel
theorem dX7_readInto_28 : decode cX7_readInto 28 = .ok (.bipush 101, 2) := by decide +kernel
theorem dX7_readInto_30 : decode cX7_readInto 30 = .ok (.if_icmp .ne 6, 3) := by decide +kernel
theorem dX7_readInto_33 : decode cX7_readInto 33 = .ok (.goto 37, 3) := by decide +kernel
theorem dX7_readInto_36 : decode cX7_readInto 36 = .ok (.aload_n 0, 1) := by decide +kernel
theorem dX7_readInto_37 : decode cX7_readInto 37 = .ok (.aload_n 1, 1) := by decide +kernel
theorem dX7_readInto_38 : decode cX7_readInto 38 = .ok (.iload_n 2, 1) := by decide +kernel
theorem dX7_readInto_39 : decode cX7_readInto 39 = .ok (.ifCond .ne 7, 3) := by decide +kernel
theorem dX7_readInto_42 : decode cX7_readInto 42 = .ok (.iconst 1, 1) := by decide +kernel
theorem dX7_readInto_43 : decode cX7_readInto 43 = .ok (.goto 4, 3) := by decide +kernel
theorem dX7_readInto_46 : decode cX7_readInto 46 = .ok (.iconst 0, 1) := by decide +kernel
theorem dX7_readInto_47 : decode cX7_readInto 47 = .ok (.invokevirtual 35, 3) := by decide +kernel
theorem dX7_readInto_50 : decode cX7_readInto 50 = .ok (.ifCond .ne 11, 3) := by decide +kernel
theorem dX7_readInto_53 : decode cX7_readInto 53 = .ok (.bipush (-10), 2) := by decide +kernel
theorem dX7_readInto_55 : decode cX7_readInto 55 = .ok (.aload_n 0, 1) := by decide +kernel
theorem dX7_readInto_56 : decode cX7_readInto 56 = .ok (.getfield 39, 3) := by decide +kernel
theorem dX7_readInto_59 : decode cX7_readInto 59 = .ok (.isub, 1) := by decide +kernel
theorem dX7_readInto_60 : decode cX7_readInto 60 = .ok (.ireturn, 1) := by decide +kernel
theorem dX7_readInto_61 : decode cX7_readInto 61 = .ok (.iinc 2 1, 3) := by decide +kernel
theorem dX7_readInto_64 : decode cX7_readInto 64 = .ok (.iinc 3 1, 3) := by decide +kernel
theorem dX7_readInto_67 : decode cX7_readInto 67 = .ok (.goto (-53), 3) := by decide +kernel
theorem dX7_readInto_70 : decode cX7_readInto 70 = .ok (.iload_n 2, 1) := by decide +kernel
theorem dX7_readInto_71 : decode cX7_readInto 71 = .ok (.ireturn, 1) := by decide +kernel
set_option maxRecDepth 20000 in
theorem ggX7_readEntry_X7_readItems : GoodIn wsX7_readEntry wsX7_readItems := goodIn_r _ [6, 7, 8, 9, 10, 5, 11, 1, 12, 13, 14, 15, 16, 17, 18, 19, 20, 21, 22, 23, 24, 25, 26, 27, 28, 29, 30, 31, 32, 33, 34, 35, 36, 37, 38, 39, 40, 41, 42, 111, 112, 113, 114, 115, 116, 117, 118, 119, 120, 121, 122, 123] (by decide +kernel) (by decide +kernel)
set_option maxRecDepth 20000 in
theorem gX7_readEntry_X7_readItems : GoodIn wsX7_readEntry (wsV RX7 42 RX7 yX7_readItems wsX7_readItems) := goodIn_app (goodIn_of _ (by decide +kernel)) ggX7_readEntry_X7_readItems
set_option maxRecDepth 20000 in
theorem ggX7_readEntry_X7_readArc : GoodIn wsX7_readEntry wsX7_readArc := goodIn_r _ [46, 47, 7, 8, 9, 10, 5, 11, 1, 12, 13, 14, 15, 16, 17, 18, 19, 20, 21, 22, 23, 24, 25, 26, 27, 28, 29, 30, 31, 48, 49, 50, 35, 51, 52, 53, 54, 55, 56, 57, 58, 59, 37, 60, 61, 62, 63, 39, 64, 65, 66, 67, 68, 69, 70, 42, 71, 72, 73, 74, 41, 40, 75, 76, 77, 78, 38, 79, 80, 81, 82, 83, 84, 85, 86, 87, 88, 89, 90, 91, 92, 93, 94, 95, 96, 97, 98, 99, 100, 101, 102, 103, 104, 105, 106, 107, 108, 109, 110, 117, 118, 119, 120, 121, 122, 123, 111, 112, 113, 114, 115, 116] (by decide +kernel) (by decide +kernel)
set_option maxRecDepth 20000 in
theorem gX7_readEntry_X7_readArc : GoodIn wsX7_readEntry (wsV RX7 46 RX7 yX7_readArc wsX7_readArc) := goodIn_app (goodIn_of _ (by decide +kernel)) ggX7_readEntry_X7_readArc
set_option maxRecDepth 20000 in
theorem ggX7_readEntry_X7_nextToken : GoodIn wsX7_readEntry wsX7_nextToken := goodIn_r _ [15, 16, 17, 18, 19, 1, 20, 21, 22, 5, 23, 24, 25, 26, 27, 7, 28, 29, 30, 31, 111, 112, 113, 114, 115, 116] (by decide +kernel) (by decide +kernel)
set_option maxRecDepth 20000 in
theorem gX7_readEntry_X7_nextToken : GoodIn wsX7_readEntry (wsV RX7 28 RX7 yX7_nextToken wsX7_nextToken) := goodIn_app (goodIn_of _ (by decide +kernel)) ggX7_readEntry_X7_nextToken
theorem dX7_readEntry_0 : decode cX7_readEntry 0 = .ok (.iconst 0, 1) := by decide +kernel
theorem dX7_readEntry_1 : decode cX7_readEntry 1 = .ok (.istore_n 3, 1) := by decide +kernel
theorem dX7_readEntry_2 : decode cX7_readEntry 2 = .ok (.aload_n 0, 1) := by decide +kernel
theorem dX7_readEntry_3 : decode cX7_readEntry 3 = .ok (.getfield 31, 3) := by decide +kernel
theorem dX7_readEntry_6 : decode cX7_readEntry 6 = .ok (.bipush 110, 2) := by decide +kernel
theorem dX7_readEntry_8 : decode cX7_readEntry 8 = .ok (.if_icmp .ne 24, 3) := by decide +kernel
theorem dX7_readEntry_11 : decode cX7_readEntry 11 = .ok (.iload_n 2, 1) := by decide +kernel
theorem dX7_readEntry_12 : decode cX7_readEntry 12 = .ok (.ifCond .eq 15, 3) := by decide +kernel
theorem dX7_readEntry_15 : decode cX7_readEntry 15 = .ok (.aload_n 0, 1) := by decide +kernel
theorem dX7_readEntry_16 : decode cX7_readEntry 16 = .ok (.aload_n 1, 1) := by decide +kernel
theorem dX7_readEntry_17 : decode cX7_readEntry 17 = .ok (.invokevirtual 42, 3) := by decide +kernel
theorem dX7_readEntry_20 : decode cX7_readEntry 20 = .ok (.ifCond .eq 7, 3) := by decide +kernel
theorem dX7_readEntry_23 : decode cX7_readEntry 23 = .ok (.iconst 1, 1) := by decide +kernel
theorem dX7_readEntry_24 : decode cX7_readEntry 24 = .ok (.goto 4, 3) := by decide +kernel
theorem dX7_readEntry_27 : decode cX7_readEntry 27 = .ok (.iconst 0, 1) := by decide +kernel
theorem dX7_readEntry_28 : decode cX7_readEntry 28 = .ok (.istore_n 3, 1) := by decide +kernel
theorem dX7_readEntry_29 : decode cX7_readEntry 29 = .ok (.goto 18, 3) := by decide +kernel
theorem dX7_readEntry_32 : decode cX7_readEntry 32 = .ok (.aload_n 0, 1) := by decide +kernel
theorem dX7_readEntry_33 : decode cX7_readEntry 33 = .ok (.getfield 31, 3) := by decide +kernel
theorem dX7_readEntry_36 : decode cX7_readEntry 36 = .ok (.bipush 97, 2) := by decide +kernel
theorem dX7_readEntry_38 : decode cX7_readEntry 38 = .ok (.if_icmp .ne 9, 3) := by decide +kernel
theorem dX7_readEntry_41 : decode cX7_readEntry 41 = .ok (.aload_n 0, 1) := by decide +kernel
theorem dX7_readEntry_42 : decode cX7_readEntry 42 = .ok (.aload_n 1, 1) := by decide +kernel
theorem dX7_readEntry_43 : decode cX7_readEntry 43 = .ok (.invokevirtual 46, 3) := by decide +kernel
theorem dX7_readEntry_46 : decode cX7_readEntry 46 = .ok (.istore_n 3, 1) := by decide +kernel
theorem dX7_readEntry_47 : decode cX7_readEntry 47 = .ok (.iload_n 3, 1) := by decide +kernel
theorem dX7_readEntry_48 : decode cX7_readEntry 48 = .ok (.ifCond .ne 5, 3) := by decide +kernel
theorem dX7_readEntry_51 : decode cX7_readEntry 51 = .ok (.iconst 0, 1) := by decide +kernel
theorem dX7_readEntry_52 : decode cX7_readEntry 52 = .ok (.ireturn, 1) := by decide +kernel
theorem dX7_readEntry_53 : decode cX7_readEntry 53 = .ok (.aload_n 0, 1) := by decide +kernel
theorem dX7_readEntry_54 : decode cX7_readEntry 54 = .ok (.invokevirtual 28, 3) := by decide +kernel
theorem dX7_readEntry_57 : decode cX7_readEntry 57 = .ok (.aload_n 0, 1) := by decide +kernel
theorem dX7_readEntry_58 : decode cX7_readEntry 58 = .ok (.getfield 31, 3) := by decide +kernel
theorem dX7_readEntry_61 : decode cX7_readEntry 61 = .ok (.bipush 59, 2) := by decide +kernel
theorem dX7_readEntry_63 : decode cX7_readEntry 63 = .ok (.if_icmp .ne 7, 3) := by decide +kernel
theorem dX7_readEntry_66 : decode cX7_readEntry 66 = .ok (.iconst 1, 1) := by decide +kernel
theorem dX7_readEntry_67 : decode cX7_readEntry 67 = .ok (.goto 4, 3) := by decide +kernel
theorem dX7_readEntry_70 : decode cX7_readEntry 70 = .ok (.iconst 0, 1) := by decide +kernel
theorem dX7_readEntry_71 : decode cX7_readEntry 71 = .ok (.ireturn, 1) := by decide +kernel
set_option maxRecDepth 20000 in
theorem ggX7_readItems_X7_readNumber : GoodIn wsX7_readItems wsX7_readNumber := goodIn_r _ [6, 7, 1, 8, 9, 10, 5, 11, 12, 13, 14, 15, 16, 17, 18, 19, 20, 21, 22, 23, 24, 25, 26, 27, 39, 40, 41, 42, 43, 44] (by decide +kernel) (by decide +kernel)
set_option maxRecDepth 20000 in
theorem gX7_readItems_X7_readNumber : GoodIn wsX7_readItems (wsV RX7 49 RX7 yX7_readNumber wsX7_readNumber) := goodIn_app (goodIn_of _ (by decide +kernel)) ggX7_readItems_X7_readNumber
set_option maxRecDepth 20000 in
theorem ggX7_readItems_X3_begin : GoodIn wsX7_readItems wsX3_begin := goodIn_r _ [32, 33, 34, 35, 36, 37, 38, 45, 46, 47, 48, 49, 50, 51] (by decide +kernel) (by decide +kernel)
set_option maxRecDepth 20000 in
theorem gX7_readItems_X3_begin : GoodIn wsX7_readItems (wsV RX7 19 RX3 yX3_begin wsX3_begin) := goodIn_app (goodIn_of _ (by decide +kernel)) ggX7_readItems_X3_begin
theorem dX7_readItems_0 : decode cX7_readItems 0 = .ok (.aload_n 0, 1) := by decide +kernel
theorem dX7_readItems_1 : decode cX7_readItems 1 = .ok (.iconst 1, 1) := by decide +kernel
theorem dX7_readItems_2 : decode cX7_readItems 2 = .ok (.bipush 12, 2) := by decide +kernel
theorem dX7_readItems_4 : decode cX7_readItems 4 = .ok (.invokevirtual 49, 3) := by decide +kernel
theorem dX7_readItems_7 : decode cX7_readItems 7 = .ok (.ifCond .ne 5, 3) := by decide +kernel
theorem dX7_readItems_10 : decode cX7_readItems 10 = .ok (.iconst 0, 1) := by decide +kernel
theorem dX7_readItems_11 : decode cX7_readItems 11 = .ok (.ireturn, 1) := by decide +kernel
theorem dX7_readItems_12 : decode cX7_readItems 12 = .ok (.aload_n 1, 1) := by decide +kernel
theorem dX7_readItems_13 : decode cX7_readItems 13 = .ok (.aload_n 0, 1) := by decide +kernel
theorem dX7_readItems_14 : decode cX7_readItems 14 = .ok (.getfield 53, 3) := by decide +kernel
theorem dX7_readItems_17 : decode cX7_readItems 17 = .ok (.invokevirtual 19, 3) := by decide +kernel
theorem dX7_readItems_20 : decode cX7_readItems 20 = .ok (.iconst 1, 1) := by decide +kernel
theorem dX7_readItems_21 : decode cX7_readItems 21 = .ok (.ireturn, 1) := by decide +kernel
set_option maxRecDepth 20000 in
theorem ggX7_readArc_X7_readNumber : GoodIn wsX7_readArc wsX7_readNumber := goodIn_r _ [7, 8, 2, 9, 10, 11, 6, 12, 13, 14, 15, 16, 17, 18, 19, 20, 21, 22, 23, 24, 25, 26, 27, 28, 106, 107, 108, 109, 110, 111] (by decide +kernel) (by decide +kernel)
set_option maxRecDepth 20000 in
theorem gX7_readArc_X7_readNumber : GoodIn wsX7_readArc (wsV RX7 49 RX7 yX7_readNumber wsX7_readNumber) := goodIn_app (goodIn_of _ (by decide +kernel)) ggX7_readArc_X7_readNumber
set_option maxRecDepth 20000 in
theorem ggX7_readArc_X3_canTake : GoodIn wsX7_readArc wsX3_canTake := goodIn_r _ [33, 34, 35, 36, 32, 37, 38, 39, 40, 41, 42, 43, 44, 45, 46, 47, 48, 49, 50, 51, 52, 53, 54, 55, 56, 57, 58, 59, 60, 61, 99, 100, 101, 102, 103, 104, 105] (by decide +kernel) (by decide +kernel)
set_option maxRecDepth 20000 in
theorem gX7_readArc_X3_canTake : GoodIn wsX7_readArc (wsV RX7 59 RX3 yX3_canTake wsX3_canTake) := goodIn_app (goodIn_of _ (by decide +kernel)) ggX7_readArc_X3_canTake
set_option maxRecDepth 20000 in
theorem ggX7_readArc_X3_put : GoodIn wsX7_readArc wsX3_put := goodIn_r _ [65, 47, 61, 66, 51, 52, 53, 32, 54, 55, 56, 57, 58, 59, 60, 48, 49, 50, 67, 68, 69, 70, 71, 72, 73, 74, 75, 76, 77, 78, 79, 80, 81, 82, 42, 83, 84, 85, 86, 87, 88, 89, 90, 91, 92, 93, 94, 95, 96, 97, 98, 99, 100, 101, 102, 103, 104, 105] (by decide +kernel) (by decide +kernel)
set_option maxRecDepth 20000 in
theorem gX7_readArc_X3_put : GoodIn wsX7_readArc (wsV RX7 62 RX3 yX3_put wsX3_put) := goodIn_app (goodIn_of _ (by decide +kernel)) ggX7_readArc_X3_put
theorem dX7_readArc_0 : decode cX7_readArc 0 = .ok (.aload_n 0, 1) := by decide +kernel
theorem dX7_readArc_1 : decode cX7_readArc 1 = .ok (.iconst 0, 1) := by decide +kernel
theorem dX7_readArc_2 : decode cX7_readArc 2 = .ok (.aload_n 1, 1) := by decide +kernel
theorem dX7_readArc_3 : decode cX7_readArc 3 = .ok (.getfield 56, 3) := by decide +kernel
theorem dX7_readArc_6 : decode cX7_readArc 6 = .ok (.iconst 1, 1) := by decide +kernel
theorem dX7_readArc_7 : decode cX7_readArc 7 = .ok (.isub, 1) := by decide +kernel
theorem dX7_readArc_8 : decode cX7_readArc 8 = .ok (.invokevirtual 49, 3) := by decide +kernel
theorem dX7_readArc_11 : decode cX7_readArc 11 = .ok (.ifCond .ne 5, 3) := by decide +kernel
theorem dX7_readArc_14 : decode cX7_readArc 14 = .ok (.iconst 0, 1) := by decide +kernel
theorem dX7_readArc_15 : decode cX7_readArc 15 = .ok (.ireturn, 1) := by decide +kernel
theorem dX7_readArc_16 : decode cX7_readArc 16 = .ok (.aload_n 0, 1) := by decide +kernel
theorem dX7_readArc_17 : decode cX7_readArc 17 = .ok (.getfield 53, 3) := by decide +kernel
theorem dX7_readArc_20 : decode cX7_readArc 20 = .ok (.istore_n 2, 1) := by decide +kernel
theorem dX7_readArc_21 : decode cX7_readArc 21 = .ok (.aload_n 0, 1) := by decide +kernel
theorem dX7_readArc_22 : decode cX7_readArc 22 = .ok (.iconst 0, 1) := by decide +kernel
theorem dX7_readArc_23 : decode cX7_readArc 23 = .ok (.aload_n 1, 1) := by decide +kernel
theorem dX7_readArc_24 : decode cX7_readArc 24 = .ok (.getfield 56, 3) := by decide +kernel
theorem dX7_readArc_27 : decode cX7_readArc 27 = .ok (.iconst 1, 1) := by decide +kernel
theorem dX7_readArc_28 : decode cX7_readArc 28 = .ok (.isub, 1) := by decide +kernel
theorem dX7_readArc_29 : decode cX7_readArc 29 = .ok (.invokevirtual 49, 3) := by decide +kernel
theorem dX7_readArc_32 : decode cX7_readArc 32 = .ok (.ifCond .eq 15, 3) := by decide +kernel
theorem dX7_readArc_35 : decode cX7_readArc 35 = .ok (.aload_n 1, 1) := by decide +kernel
theorem dX7_readArc_36 : decode cX7_readArc 36 = .ok (.iload_n 2, 1) := by decide +kernel
theorem dX7_readArc_37 : decode cX7_readArc 37 = .ok (.aload_n 0, 1) := by decide +kernel
theorem dX7_readArc_38 : decode cX7_readArc 38 = .ok (.getfield 53, 3) := by decide +kernel
theorem dX7_readArc_41 : decode cX7_readArc 41 = .ok (.invokevirtual 59, 3) := by decide +kernel
theorem dX7_readArc_44 : decode cX7_readArc 44 = .ok (.ifCond .ne 5, 3) := by decide +kernel
theorem dX7_readArc_47 : decode cX7_readArc 47 = .ok (.iconst 0, 1) := by decide +kernel
theorem dX7_readArc_48 : decode cX7_readArc 48 = .ok (.ireturn, 1) := by decide +kernel
theorem dX7_readArc_49 : decode cX7_readArc 49 = .ok (.aload_n 1, 1) := by decide +kernel
theorem dX7_readArc_50 : decode cX7_readArc 50 = .ok (.iload_n 2, 1) := by decide +kernel
theorem dX7_readArc_51 : decode cX7_readArc 51 = .ok (.aload_n 0, 1) := by decide +kernel
theorem dX7_readArc_52 : decode cX7_readArc 52 = .ok (.getfield 53, 3) := by decide +kernel
theorem dX7_readArc_55 : decode cX7_readArc 55 = .ok (.invokevirtual 62, 3) := by decide +kernel
theorem dX7_readArc_58 : decode cX7_readArc 58 = .ok (.pop, 1) := by decide +kernel
theorem dX7_readArc_59 : decode cX7_readArc 59 = .ok (.iconst 1, 1) := by decide +kernel
theorem dX7_readArc_60 : decode cX7_readArc 60 = .ok (.ireturn, 1) := by decide +kernel
set_option maxRecDepth 20000 in
theorem ggX7_readNumber_X7_nextToken : GoodIn wsX7_readNumber wsX7_nextToken := goodIn_r _ [7, 8, 9, 10, 11, 1, 12, 13, 14, 6, 15, 16, 17, 18, 19, 2, 20, 21, 22, 23, 24, 25, 26, 27, 28, 29] (by decide +kernel) (by decide +kernel)
set_option maxRecDepth 20000 in
theorem gX7_readNumber_X7_nextToken : GoodIn wsX7_readNumber (wsV RX7 28 RX7 yX7_nextToken wsX7_nextToken) := goodIn_app (goodIn_of _ (by decide +kernel)) ggX7_readNumber_X7_nextToken
theorem dX7_readNumber_0 : decode cX7_readNumber 0 = .ok (.aload_n 0, 1) := by decide +kernel
theorem dX7_readNumber_1 : decode cX7_readNumber 1 = .ok (.invokevirtual 28, 3) := by decide +kernel
theorem dX7_readNumber_4 : decode cX7_readNumber 4 = .ok (.aload_n 0, 1) := by decide +kernel
theorem dX7_readNumber_5 : decode cX7_readNumber 5 = .ok (.getfield 31, 3) := by decide +kernel
theorem dX7_readNumber_8 : decode cX7_readNumber 8 = .ok (.bipush 100, 2) := by decide +kernel
theorem dX7_readNumber_10 : decode cX7_readNumber 10 = .ok (.if_icmp .ne 23, 3) := by decide +kernel
theorem dX7_readNumber_13 : decode cX7_readNumber 13 = .ok (.aload_n 0, 1) := by decide +kernel
theorem dX7_readNumber_14 : decode cX7_readNumber 14 = .ok (.getfield 53, 3) := by decide +kernel
theorem dX7_readNumber_17 : decode cX7_readNumber 17 = .ok (.iload_n 1, 1) := by decide +kernel
theorem dX7_readNumber_18 : decode cX7_readNumber 18 = .ok (.if_icmp .lt 15, 3) := by decide +kernel
theorem dX7_readNumber_21 : decode cX7_readNumber 21 = .ok (.aload_n 0, 1) := by decide +kernel
theorem dX7_readNumber_22 : decode cX7_readNumber 22 = .ok (.getfield 53, 3) := by decide +kernel
theorem dX7_readNumber_25 : decode cX7_readNumber 25 = .ok (.iload_n 2, 1) := by decide +kernel
theorem dX7_readNumber_26 : decode cX7_readNumber 26 = .ok (.if_icmp .gt 7, 3) := by decide +kernel
theorem dX7_readNumber_29 : decode cX7_readNumber 29 = .ok (.iconst 1, 1) := by decide +kernel
theorem dX7_readNumber_30 : decode cX7_readNumber 30 = .ok (.goto 4, 3) := by decide +kernel
theorem dX7_readNumber_33 : decode cX7_readNumber 33 = .ok (.iconst 0, 1) := by decide +kernel
theorem dX7_readNumber_34 : decode cX7_readNumber 34 = .ok (.ireturn, 1) := by decide +kernel
set_option maxRecDepth 20000 in
theorem ggX7_nextToken_X7_isDigit : GoodIn wsX7_nextToken wsX7_isDigit := goodIn_r _ [10, 4, 20, 21, 22, 23, 24, 25] (by decide +kernel) (by decide +kernel)
set_option maxRecDepth 20000 in
theorem gX7_nextToken_X7_isDigit : GoodIn wsX7_nextToken (wsV RX7 66 RX7 yX7_isDigit wsX7_isDigit) := goodIn_app (goodIn_of _ (by decide +kernel)) ggX7_nextToken_X7_isDigit
set_option maxRecDepth 20000 in
theorem ggX7_nextToken_X7_readDigits : GoodIn wsX7_nextToken wsX7_readDigits := goodIn_r _ [14, 15, 1, 3, 4, 16, 17, 18, 19, 2, 5, 6, 7, 8, 9, 10, 20, 21, 22, 23, 24, 25] (by decide +kernel) (by decide +kernel)
set_option maxRecDepth 20000 in
theorem gX7_nextToken_X7_readDigits : GoodIn wsX7_nextToken (wsV RX7 70 RX7 yX7_readDigits wsX7_readDigits) := goodIn_app (goodIn_of _ (by decide +kernel)) ggX7_nextToken_X7_readDigits
theorem dX7_nextToken_0 : decode cX7_nextToken 0 = .ok (.aload_n 0, 1) := by decide +kernel
theorem dX7_nextToken_1 : decode cX7_nextToken 1 = .ok (.aload_n 0, 1) := by decide +kernel
theorem dX7_nextToken_2 : decode cX7_nextToken 2 = .ok (.getfield 25, 3) := by decide +kernel
theorem dX7_nextToken_5 : decode cX7_nextToken 5 = .ok (.putfield 39, 3) := by decide +kernel
theorem dX7_nextToken_8 : decode cX7_nextToken 8 = .ok (.aload_n 0, 1) := by decide +kernel
theorem dX7_nextToken_9 : decode cX7_nextToken 9 = .ok (.getfield 39, 3) := by decide +kernel
theorem dX7_nextToken_12 : decode cX7_nextToken 12 = .ok (.aload_n 0, 1) := by decide +kernel
theorem dX7_nextToken_13 : decode cX7_nextToken 13 = .ok (.getfield 15, 3) := by decide +kernel
theorem dX7_nextToken_16 : decode cX7_nextToken 16 = .ok (.if_icmp .ge 30, 3) := by decide +kernel
theorem dX7_nextToken_19 : decode cX7_nextToken 19 = .ok (.aload_n 0, 1) := by decide +kernel
theorem dX7_nextToken_20 : decode cX7_nextToken 20 = .ok (.getfield 9, 3) := by decide +kernel
theorem dX7_nextToken_23 : decode cX7_nextToken 23 = .ok (.aload_n 0, 1) := by decide +kernel
theorem dX7_nextToken_24 : decode cX7_nextToken 24 = .ok (.getfield 39, 3) := by decide +kernel
theorem dX7_nextToken_27 : decode cX7_nextToken 27 = .ok (.iaload, 1) := by decide +kernel
theorem dX7_nextToken_28 : decode cX7_nextToken 28 = .ok (.bipush 32, 2) := by decide +kernel
theorem dX7_nextToken_30 : decode cX7_nextToken 30 = .ok (.if_icmp .ne 16, 3) := by decide +kernel
theorem dX7_nextToken_33 : decode cX7_nextToken 33 = .ok (.aload_n 0, 1) := by decide +kernel
theorem dX7_nextToken_34 : decode cX7_nextToken 34 = .ok (.dup, 1) := by decide +kernel
theorem dX7_nextToken_35 : decode cX7_nextToken 35 = .ok (.getfield 39, 3) := by decide +kernel
theorem dX7_nextToken_38 : decode cX7_nextToken 38 = .ok (.iconst 1, 1) := by decide +kernel
theorem dX7_nextToken_39 : decode cX7_nextToken 39 = .ok (.iadd, 1) := by decide +kernel
theorem dX7_nextToken_40 : decode cX7_nextToken 40 = .ok (.putfield 39, 3) := by decide +kernel
theorem dX7_nextToken_43 : decode cX7_nextToken 43 = .ok (.goto (-35), 3) := by decide +kernel
theorem dX7_nextToken_46 : decode cX7_nextToken 46 = .ok (.aload_n 0, 1) := by decide +kernel
theorem dX7_nextToken_47 : decode cX7_nextToken 47 = .ok (.aload_n 0, 1) := by decide +kernel
theorem dX7_nextToken_48 : decode cX7_nextToken 48 = .ok (.getfield 39, 3) := by decide +kernel
theorem dX7_nextToken_51 : decode cX7_nextToken 51 = .ok (.putfield 25, 3) := by decide +kernel
theorem dX7_nextToken_54 : decode cX7_nextToken 54 = .ok (.aload_n 0, 1) := by decide +kernel
theorem dX7_nextToken_55 : decode cX7_nextToken 55 = .ok (.getfield 39, 3) := by decide +kernel
theorem dX7_nextToken_58 : decode cX7_nextToken 58 = .ok (.aload_n 0, 1) := by decide +kernel
theorem dX7_nextToken_59 : decode cX7_nextToken 59 = .ok (.getfield 15, 3) := by decide +kernel
theorem dX7_nextToken_62 : decode cX7_nextToken 62 = .ok (.if_icmp .lt 12, 3) := by decide +kernel
theorem dX7_nextToken_65 : decode cX7_nextToken 65 = .ok (.aload_n 0, 1) := by decide +kernel
theorem dX7_nextToken_66 : decode cX7_nextToken 66 = .ok (.bipush 101, 2) := by decide +kernel
theorem dX7_nextToken_68 : decode cX7_nextToken 68 = .ok (.putfield 31, 3) := by decide +kernel
theorem dX7_nextToken_71 : decode cX7_nextToken 71 = .ok (.goto 80, 3) := by decide +kernel
theorem dX7_nextToken_74 : decode cX7_nextToken 74 = .ok (.aload_n 0, 1) := by decide +kernel
theorem dX7_nextToken_75 : decode cX7_nextToken 75 = .ok (.aload_n 0, 1) := by decide +kernel
theorem dX7_nextToken_76 : decode cX7_nextToken 76 = .ok (.getfield 39, 3) := by decide +kernel
theorem dX7_nextToken_79 : decode cX7_nextToken 79 = .ok (.invokevirtual 66, 3) := by decide +kernel
theorem dX7_nextToken_82 : decode cX7_nextToken 82 = .ok (.ifCond .eq 10, 3) := by decide +kernel
theorem dX7_nextToken_85 : decode cX7_nextToken 85 = .ok (.aload_n 0, 1) := by decide +kernel
theorem dX7_nextToken_86 : decode cX7_nextToken 86 = .ok (.invokevirtual 70, 3) := by decide +kernel
theorem dX7_nextToken_89 : decode cX7_nextToken 89 = .ok (.goto 62, 3) := by decide +kernel
theorem dX7_nextToken_92 : decode cX7_nextToken 92 = .ok (.aload_n 0, 1) := by decide +kernel
theorem dX7_nextToken_93 : decode cX7_nextToken 93 = .ok (.getfield 9, 3) := by decide +kernel
theorem dX7_nextToken_96 : decode cX7_nextToken 96 = .ok (.aload_n 0, 1) := by decide +kernel
theorem dX7_nextToken_97 : decode cX7_nextToken 97 = .ok (.getfield 39, 3) := by decide +kernel
theorem dX7_nextToken_100 : decode cX7_nextToken 100 = .ok (.iaload, 1) := by decide +kernel
theorem dX7_nextToken_101 : decode cX7_nextToken 101 = .ok (.istore_n 1, 1) := by decide +kernel
theorem dX7_nextToken_102 : decode cX7_nextToken 102 = .ok (.iload_n 1, 1) := by decide +kernel
theorem dX7_nextToken_103 : decode cX7_nextToken 103 = .ok (.bipush 110, 2) := by decide +kernel
theorem dX7_nextToken_105 : decode cX7_nextToken 105 = .ok (.if_icmp .eq 15, 3) := by decide +kernel
theorem dX7_nextToken_108 : decode cX7_nextToken 108 = .ok (.iload_n 1, 1) := by decide +kernel
theorem dX7_nextToken_109 : decode cX7_nextToken 109 = .ok (.bipush 97, 2) := by decide +kernel
theorem dX7_nextToken_111 : decode cX7_nextToken 111 = .ok (.if_icmp .eq 9, 3) := by decide +kernel
theorem dX7_nextToken_114 : decode cX7_nextToken 114 = .ok (.iload_n 1, 1) := by decide +kernel
theorem dX7_nextToken_115 : decode cX7_nextToken 115 = .ok (.bipush 59, 2) := by decide +kernel
theorem dX7_nextToken_117 : decode cX7_nextToken 117 = .ok (.if_icmp .ne 7, 3) := by decide +kernel
theorem dX7_nextToken_120 : decode cX7_nextToken 120 = .ok (.iconst 1, 1) := by decide +kernel
theorem dX7_nextToken_121 : decode cX7_nextToken 121 = .ok (.goto 4, 3) := by decide +kernel
theorem dX7_nextToken_124 : decode cX7_nextToken 124 = .ok (.iconst 0, 1) := by decide +kernel
theorem dX7_nextToken_125 : decode cX7_nextToken 125 = .ok (.istore_n 2, 1) := by decide +kernel
theorem dX7_nextToken_126 : decode cX7_nextToken 126 = .ok (.aload_n 0, 1) := by decide +kernel
theorem dX7_nextToken_127 : decode cX7_nextToken 127 = .ok (.iload_n 2, 1) := by decide +kernel
theorem dX7_nextToken_128 : decode cX7_nextToken 128 = .ok (.ifCond .eq 8, 3) := by decide +kernel
theorem dX7_nextToken_131 : decode cX7_nextToken 131 = .ok (.iload_n 1, 1) := by decide +kernel
theorem dX7_nextToken_132 : decode cX7_nextToken 132 = .ok (.i2c, 1) := by decide +kernel
theorem dX7_nextToken_133 : decode cX7_nextToken 133 = .ok (.goto 5, 3) := by decide +kernel
theorem dX7_nextToken_136 : decode cX7_nextToken 136 = .ok (.bipush 119, 2) := by decide +kernel
theorem dX7_nextToken_138 : decode cX7_nextToken 138 = .ok (.putfield 31, 3) := by decide +kernel
theorem dX7_nextToken_141 : decode cX7_nextToken 141 = .ok (.aload_n 0, 1) := by decide +kernel
theorem dX7_nextToken_142 : decode cX7_nextToken 142 = .ok (.dup, 1) := by decide +kernel
theorem dX7_nextToken_143 : decode cX7_nextToken 143 = .ok (.getfield 25, 3) := by decide +kernel
theorem dX7_nextToken_146 : decode cX7_nextToken 146 = .ok (.iconst 1, 1) := by decide +kernel
theorem dX7_nextToken_147 : decode cX7_nextToken 147 = .ok (.iadd, 1) := by decide +kernel
theorem dX7_nextToken_148 : decode cX7_nextToken 148 = .ok (.putfield 25, 3) := by decide +kernel
theorem dX7_nextToken_151 : decode cX7_nextToken 151 = .ok (.return_, 1) := by decide +kernel
set_option maxRecDepth 20000 in
theorem ggX7_readDigits_X7_isDigit : GoodIn wsX7_readDigits wsX7_isDigit := goodIn_r _ [15, 4, 16, 17, 18, 19, 20, 21] (by decide +kernel) (by decide +kernel)
set_option maxRecDepth 20000 in
theorem gX7_readDigits_X7_isDigit : GoodIn wsX7_readDigits (wsV RX7 66 RX7 yX7_isDigit wsX7_isDigit) := goodIn_app (goodIn_of _ (by decide +kernel)) ggX7_readDigits_X7_isDigit
theorem dX7_readDigits_0 : decode cX7_readDigits 0 = .ok (.aload_n 0, 1) := by decide +kernel
theorem dX7_readDigits_1 : decode cX7_readDigits 1 = .ok (.iconst 0, 1) := by decide +kernel
theorem dX7_readDigits_2 : decode cX7_readDigits 2 = .ok (.putfield 53, 3) := by decide +kernel
theorem dX7_readDigits_5 : decode cX7_readDigits 5 = .ok (.aload_n 0, 1) := by decide +kernel
theorem dX7_readDigits_6 : decode cX7_readDigits 6 = .ok (.getfield 25, 3) := by decide +kernel
theorem dX7_readDigits_9 : decode cX7_readDigits 9 = .ok (.aload_n 0, 1) := by decide +kernel
theorem dX7_readDigits_10 : decode cX7_readDigits 10 = .ok (.getfield 15, 3) := by decide +kernel
theorem dX7_readDigits_13 : decode cX7_readDigits 13 = .ok (.if_icmp .ge 56, 3) := by decide +kernel
theorem dX7_readDigits_16 : decode cX7_readDigits 16 = .ok (.aload_n 0, 1) := by decide +kernel
theorem dX7_readDigits_17 : decode cX7_readDigits 17 = .ok (.aload_n 0, 1) := by decide +kernel
theorem dX7_readDigits_18 : decode cX7_readDigits 18 = .ok (.getfield 25, 3) := by decide +kernel
theorem dX7_readDigits_21 : decode cX7_readDigits 21 = .ok (.invokevirtual 66, 3) := by decide +kernel
theorem dX7_readDigits_24 : decode cX7_readDigits 24 = .ok (.ifCond .eq 45, 3) := by decide +kernel
theorem dX7_readDigits_27 : decode cX7_readDigits 27 = .ok (.aload_n 0, 1) := by decide +kernel
theorem dX7_readDigits_28 : decode cX7_readDigits 28 = .ok (.bipush 10, 2) := by decide +kernel
theorem dX7_readDigits_30 : decode cX7_readDigits 30 = .ok (.aload_n 0, 1) := by decide +kernel
theorem dX7_readDigits_31 : decode cX7_readDigits 31 = .ok (.getfield 53, 3) := by decide +kernel
theorem dX7_readDigits_34 : decode cX7_readDigits 34 = .ok (.imul, 1) := by decide +kernel
theorem dX7_readDigits_35 : decode cX7_readDigits 35 = .ok (.aload_n 0, 1) := by decide +kernel
theorem dX7_readDigits_36 : decode cX7_readDigits 36 = .ok (.getfield 9, 3) := by decide +kernel
theorem dX7_readDigits_39 : decode cX7_readDigits 39 = .ok (.aload_n 0, 1) := by decide +kernel
theorem dX7_readDigits_40 : decode cX7_readDigits 40 = .ok (.getfield 25, 3) := by decide +kernel
theorem dX7_readDigits_43 : decode cX7_readDigits 43 = .ok (.iaload, 1) := by decide +kernel
theorem dX7_readDigits_44 : decode cX7_readDigits 44 = .ok (.iadd, 1) := by decide +kernel
theorem dX7_readDigits_45 : decode cX7_readDigits 45 = .ok (.bipush 48, 2) := by decide +kernel
theorem dX7_readDigits_47 : decode cX7_readDigits 47 = .ok (.isub, 1) := by decide +kernel
theorem dX7_readDigits_48 : decode cX7_readDigits 48 = .ok (.bipush 100, 2) := by decide +kernel
theorem dX7_readDigits_50 : decode cX7_readDigits 50 = .ok (.invokestatic 73, 3) := by decide +kernel
theorem dX7_readDigits_53 : decode cX7_readDigits 53 = .ok (.putfield 53, 3) := by decide +kernel
theorem dX7_readDigits_56 : decode cX7_readDigits 56 = .ok (.aload_n 0, 1) := by decide +kernel
theorem dX7_readDigits_57 : decode cX7_readDigits 57 = .ok (.dup, 1) := by decide +kernel
theorem dX7_readDigits_58 : decode cX7_readDigits 58 = .ok (.getfield 25, 3) := by decide +kernel
theorem dX7_readDigits_61 : decode cX7_readDigits 61 = .ok (.iconst 1, 1) := by decide +kernel
theorem dX7_readDigits_62 : decode cX7_readDigits 62 = .ok (.iadd, 1) := by decide +kernel
theorem dX7_readDigits_63 : decode cX7_readDigits 63 = .ok (.putfield 25, 3) := by decide +kernel
theorem dX7_readDigits_66 : decode cX7_readDigits 66 = .ok (.goto (-61), 3) := by decide +kernel
theorem dX7_readDigits_69 : decode cX7_readDigits 69 = .ok (.aload_n 0, 1) := by decide +kernel
theorem dX7_readDigits_70 : decode cX7_readDigits 70 = .ok (.getfield 9, 3) := by decide +kernel
theorem dX7_readDigits_73 : decode cX7_readDigits 73 = .ok (.aload_n 0, 1) := by decide +kernel
theorem dX7_readDigits_74 : decode cX7_readDigits 74 = .ok (.getfield 39, 3) := by decide +kernel
theorem dX7_readDigits_77 : decode cX7_readDigits 77 = .ok (.iaload, 1) := by decide +kernel
theorem dX7_readDigits_78 : decode cX7_readDigits 78 = .ok (.bipush 48, 2) := by decide +kernel
theorem dX7_readDigits_80 : decode cX7_readDigits 80 = .ok (.if_icmp .ne 20, 3) := by decide +kernel
theorem dX7_readDigits_83 : decode cX7_readDigits 83 = .ok (.aload_n 0, 1) := by decide +kernel
theorem dX7_readDigits_84 : decode cX7_readDigits 84 = .ok (.getfield 25, 3) := by decide +kernel
theorem dX7_readDigits_87 : decode cX7_readDigits 87 = .ok (.aload_n 0, 1) := by decide +kernel
theorem dX7_readDigits_88 : decode cX7_readDigits 88 = .ok (.getfield 39, 3) := by decide +kernel
theorem dX7_readDigits_91 : decode cX7_readDigits 91 = .ok (.iconst 1, 1) := by decide +kernel
theorem dX7_readDigits_92 : decode cX7_readDigits 92 = .ok (.iadd, 1) := by decide +kernel
theorem dX7_readDigits_93 : decode cX7_readDigits 93 = .ok (.if_icmp .le 7, 3) := by decide +kernel
theorem dX7_readDigits_96 : decode cX7_readDigits 96 = .ok (.iconst 1, 1) := by decide +kernel
theorem dX7_readDigits_97 : decode cX7_readDigits 97 = .ok (.goto 4, 3) := by decide +kernel
theorem dX7_readDigits_100 : decode cX7_readDigits 100 = .ok (.iconst 0, 1) := by decide +kernel
theorem dX7_readDigits_101 : decode cX7_readDigits 101 = .ok (.istore_n 1, 1) := by decide +kernel
theorem dX7_readDigits_102 : decode cX7_readDigits 102 = .ok (.aload_n 0, 1) := by decide +kernel
theorem dX7_readDigits_103 : decode cX7_readDigits 103 = .ok (.iload_n 1, 1) := by decide +kernel
theorem dX7_readDigits_104 : decode cX7_readDigits 104 = .ok (.ifCond .ne 12, 3) := by decide +kernel
theorem dX7_readDigits_107 : decode cX7_readDigits 107 = .ok (.aload_n 0, 1) := by decide +kernel
theorem dX7_readDigits_108 : decode cX7_readDigits 108 = .ok (.getfield 53, 3) := by decide +kernel
theorem dX7_readDigits_111 : decode cX7_readDigits 111 = .ok (.bipush 99, 2) := by decide +kernel
theorem dX7_readDigits_113 : decode cX7_readDigits 113 = .ok (.if_icmp .le 8, 3) := by decide +kernel
theorem dX7_readDigits_116 : decode cX7_readDigits 116 = .ok (.bipush 119, 2) := by decide +kernel
theorem dX7_readDigits_118 : decode cX7_readDigits 118 = .ok (.goto 5, 3) := by decide +kernel
theorem dX7_readDigits_121 : decode cX7_readDigits 121 = .ok (.bipush 100, 2) := by decide +kernel
theorem dX7_readDigits_123 : decode cX7_readDigits 123 = .ok (.putfield 31, 3) := by decide +kernel
theorem dX7_readDigits_126 : decode cX7_readDigits 126 = .ok (.return_, 1) := by decide +kernel
theorem dX7_isDigit_0 : decode cX7_isDigit 0 = .ok (.aload_n 0, 1) := by decide +kernel
theorem dX7_isDigit_1 : decode cX7_isDigit 1 = .ok (.getfield 9, 3) := by decide +kernel
theorem dX7_isDigit_4 : decode cX7_isDigit 4 = .ok (.iload_n 1, 1) := by decide +kernel
theorem dX7_isDigit_5 : decode cX7_isDigit 5 = .ok (.iaload, 1) := by decide +kernel
theorem dX7_isDigit_6 : decode cX7_isDigit 6 = .ok (.bipush 48, 2) := by decide +kernel
theorem dX7_isDigit_8 : decode cX7_isDigit 8 = .ok (.if_icmp .lt 18, 3) := by decide +kernel
theorem dX7_isDigit_11 : decode cX7_isDigit 11 = .ok (.aload_n 0, 1) := by decide +kernel
theorem dX7_isDigit_12 : decode cX7_isDigit 12 = .ok (.getfield 9, 3) := by decide +kernel
theorem dX7_isDigit_15 : decode cX7_isDigit 15 = .ok (.iload_n 1, 1) := by decide +kernel
theorem dX7_isDigit_16 : decode cX7_isDigit 16 = .ok (.iaload, 1) := by decide +kernel
theorem dX7_isDigit_17 : decode cX7_isDigit 17 = .ok (.bipush 57, 2) := by decide +kernel
theorem dX7_isDigit_19 : decode cX7_isDigit 19 = .ok (.if_icmp .gt 7, 3) := by decide +kernel
theorem dX7_isDigit_22 : decode cX7_isDigit 22 = .ok (.iconst 1, 1) := by decide +kernel
theorem dX7_isDigit_23 : decode cX7_isDigit 23 = .ok (.goto 4, 3) := by decide +kernel
theorem dX7_isDigit_26 : decode cX7_isDigit 26 = .ok (.iconst 0, 1) := by decide +kernel
theorem dX7_isDigit_27 : decode cX7_isDigit 27 = .ok (.ireturn, 1) := by decide +kernel
set_option maxRecDepth 20000 in
theorem ggX8_init_X3_init : GoodIn wsX8_init wsX3_init := goodIn_r _ [42, 43, 2, 3, 44, 45, 46, 47, 48, 49, 50, 51, 52, 6, 53, 54, 55, 93, 94, 95, 96, 97, 98, 99] (by decide +kernel) (by decide +kernel)
set_option maxRecDepth 20000 in
theorem gX8_init_X3_init : GoodIn wsX8_init (wsX3_init) := ggX8_init_X3_init
set_option maxRecDepth 20000 in
theorem ggX8_init_X7_init : GoodIn wsX8_init wsX7_init := goodIn_r _ [57, 58, 2, 3, 44, 59, 111, 112, 113, 114, 115, 116] (by decide +kernel) (by decide +kernel)
set_option maxRecDepth 20000 in
theorem gX8_init_X7_init_n21 : GoodIn wsX8_init (wsX7_init) := ggX8_init_X7_init
set_option maxRecDepth 20000 in
theorem ggX8_init_X0_init : GoodIn wsX8_init wsX0_init := goodIn_r _ [61, 62, 2, 3, 44, 63, 64, 117, 118, 119] (by decide +kernel) (by decide +kernel)
set_option maxRecDepth 20000 in
theorem gX8_init_X0_init_n28 : GoodIn wsX8_init (wsX0_init) := ggX8_init_X0_init
set_option maxRecDepth 20000 in
theorem ggX8_init_X4_init : GoodIn wsX8_init wsX4_init := goodIn_r _ [67, 68, 2, 3, 69, 70, 5, 6, 71, 41, 42, 43, 44, 45, 46, 47, 48, 49, 50, 51, 52, 53, 54, 55, 120, 121, 93, 94, 95, 96, 97, 98, 99] (by decide +kernel) (by decide +kernel)
set_option maxRecDepth 20000 in
theorem gX8_init_X4_init : GoodIn wsX8_init (wsX4_init) := ggX8_init_X4_init
set_option maxRecDepth 20000 in
theorem ggX8_init_X2_init : GoodIn wsX8_init wsX2_init := goodIn_r _ [73, 74, 2, 3, 44, 75, 76, 122, 123, 124] (by decide +kernel) (by decide +kernel)
set_option maxRecDepth 20000 in
theorem gX8_init_X2_init_n42 : GoodIn wsX8_init (wsX2_init) := ggX8_init_X2_init
set_option maxRecDepth 20000 in
theorem ggX8_init_X5_init : GoodIn wsX8_init wsX5_init := goodIn_r _ [78, 79, 2, 3, 44, 80, 125, 126, 127, 128, 129, 130] (by decide +kernel) (by decide +kernel)
set_option maxRecDepth 20000 in
theorem gX8_init_X5_init_n49 : GoodIn wsX8_init (wsX5_init) := ggX8_init_X5_init
set_option maxRecDepth 20000 in
theorem ggX8_init_X6_init : GoodIn wsX8_init wsX6_init := goodIn_r _ [82, 83, 2, 3, 84, 85, 86, 5, 6, 87, 88, 41, 42, 43, 44, 45, 46, 47, 48, 49, 50, 51, 52, 53, 54, 55, 131, 132, 133, 93, 94, 95, 96, 97, 98, 99] (by decide +kernel) (by decide +kernel)
set_option maxRecDepth 20000 in
theorem gX8_init_X6_init_n56 : GoodIn wsX8_init (wsX6_init) := ggX8_init_X6_init
set_option maxRecDepth 20000 in
theorem ggX8_init_X1_init : GoodIn wsX8_init wsX1_init := goodIn_r _ [90, 91, 2, 3, 44, 92, 134] (by decide +kernel) (by decide +kernel)
set_option maxRecDepth 20000 in
theorem gX8_init_X1_init_n63 : GoodIn wsX8_init (wsX1_init) := ggX8_init_X1_init
end
section
theorem dX8_init_0 : decode cX8_init 0 = .ok (.aload_n 0, 1) := by decide +kernel
theorem dX8_init_1 : decode cX8_init 1 = .ok (.invokespecial 1, 3) := by decide +kernel
theorem dX8_init_4 : decode cX8_init 4 = .ok (.aload_n 0, 1) := by decide +kernel
theorem dX8_init_5 : decode cX8_init 5 = .ok (.new 7, 3) := by decide +kernel
theorem dX8_init_8 : decode cX8_init 8 = .ok (.dup, 1) := by decide +kernel
theorem dX8_init_9 : decode cX8_init 9 = .ok (.invokespecial 9, 3) := by decide +kernel
theorem dX8_init_12 : decode cX8_init 12 = .ok (.putfield 10, 3) := by decide +kernel
theorem dX8_init_15 : decode cX8_init 15 = .ok (.aload_n 0, 1) := by decide +kernel
theorem dX8_init_16 : decode cX8_init 16 = .ok (.new 7, 3) := by decide +kernel
theorem dX8_init_19 : decode cX8_init 19 = .ok (.dup, 1) := by decide +kernel
theorem dX8_init_20 : decode cX8_init 20 = .ok (.invokespecial 9, 3) := by decide +kernel
theorem dX8_init_23 : decode cX8_init 23 = .ok (.putfield 16, 3) := by decide +kernel
theorem dX8_init_26 : decode cX8_init 26 = .ok (.aload_n 0, 1) := by decide +kernel
theorem dX8_init_27 : decode cX8_init 27 = .ok (.new 19, 3) := by decide +kernel
theorem dX8_init_30 : decode cX8_init 30 = .ok (.dup, 1) := by decide +kernel
theorem dX8_init_31 : decode cX8_init 31 = .ok (.invokespecial 21, 3) := by decide +kernel
theorem dX8_init_34 : decode cX8_init 34 = .ok (.putfield 22, 3) := by decide +kernel
theorem dX8_init_37 : decode cX8_init 37 = .ok (.aload_n 0, 1) := by decide +kernel
theorem dX8_init_38 : decode cX8_init 38 = .ok (.new 26, 3) := by decide +kernel
theorem dX8_init_41 : decode cX8_init 41 = .ok (.dup, 1) := by decide +kernel
theorem dX8_init_42 : decode cX8_init 42 = .ok (.invokespecial 28, 3) := by decide +kernel
theorem dX8_init_45 : decode cX8_init 45 = .ok (.putfield 29, 3) := by decide +kernel
theorem dX8_init_48 : decode cX8_init 48 = .ok (.aload_n 0, 1) := by decide +kernel
theorem dX8_init_49 : decode cX8_init 49 = .ok (.new 33, 3) := by decide +kernel
theorem dX8_init_52 : decode cX8_init 52 = .ok (.dup, 1) := by decide +kernel
theorem dX8_init_53 : decode cX8_init 53 = .ok (.invokespecial 35, 3) := by decide +kernel
theorem dX8_init_56 : decode cX8_init 56 = .ok (.putfield 36, 3) := by decide +kernel
theorem dX8_init_59 : decode cX8_init 59 = .ok (.aload_n 0, 1) := by decide +kernel
theorem dX8_init_60 : decode cX8_init 60 = .ok (.new 40, 3) := by decide +kernel
theorem dX8_init_63 : decode cX8_init 63 = .ok (.dup, 1) := by decide +kernel
theorem dX8_init_64 : decode cX8_init 64 = .ok (.invokespecial 42, 3) := by decide +kernel
theorem dX8_init_67 : decode cX8_init 67 = .ok (.putfield 43, 3) := by decide +kernel
theorem dX8_init_70 : decode cX8_init 70 = .ok (.aload_n 0, 1) := by decide +kernel
theorem dX8_init_71 : decode cX8_init 71 = .ok (.new 47, 3) := by decide +kernel
theorem dX8_init_74 : decode cX8_init 74 = .ok (.dup, 1) := by decide +kernel
theorem dX8_init_75 : decode cX8_init 75 = .ok (.invokespecial 49, 3) := by decide +kernel
theorem dX8_init_78 : decode cX8_init 78 = .ok (.putfield 50, 3) := by decide +kernel
theorem dX8_init_81 : decode cX8_init 81 = .ok (.aload_n 0, 1) := by decide +kernel
theorem dX8_init_82 : decode cX8_init 82 = .ok (.new 54, 3) := by decide +kernel
theorem dX8_init_85 : decode cX8_init 85 = .ok (.dup, 1) := by decide +kernel
theorem dX8_init_86 : decode cX8_init 86 = .ok (.invokespecial 56, 3) := by decide +kernel
theorem dX8_init_89 : decode cX8_init 89 = .ok (.putfield 57, 3) := by decide +kernel
theorem dX8_init_92 : decode cX8_init 92 = .ok (.aload_n 0, 1) := by decide +kernel
theorem dX8_init_93 : decode cX8_init 93 = .ok (.new 61, 3) := by decide +kernel
theorem dX8_init_96 : decode cX8_init 96 = .ok (.dup, 1) := by decide +kernel
theorem dX8_init_97 : decode cX8_init 97 = .ok (.invokespecial 63, 3) := by decide +kernel
theorem dX8_init_100 : decode cX8_init 100 = .ok (.putfield 64, 3) := by decide +kernel
theorem dX8_init_103 : decode cX8_init 103 = .ok (.aload_n 0, 1) := by decide +kernel
theorem dX8_init_104 : decode cX8_init 104 = .ok (.iconst 2, 1) := by decide +kernel
theorem dX8_init_105 : decode cX8_init 105 = .ok (.anewarray 7, 3) := by decide +kernel
theorem dX8_init_108 : decode cX8_init 108 = .ok (.putfield 68, 3) := by decide +kernel
theorem dX8_init_111 : decode cX8_init 111 = .ok (.aload_n 0, 1) := by decide +kernel
theorem dX8_init_112 : decode cX8_init 112 = .ok (.iconst 2, 1) := by decide +kernel
theorem dX8_init_113 : decode cX8_init 113 = .ok (.newarray .boolean, 2) := by decide +kernel
theorem dX8_init_115 : decode cX8_init 115 = .ok (.putfield 72, 3) := by decide +kernel
theorem dX8_init_118 : decode cX8_init 118 = .ok (.iconst 0, 1) := by decide +kernel
theorem dX8_init_119 : decode cX8_init 119 = .ok (.istore_n 1, 1) := by decide +kernel
theorem dX8_init_120 : decode cX8_init 120 = .ok (.iload_n 1, 1) := by decide +kernel
theorem dX8_init_121 : decode cX8_init 121 = .ok (.iconst 2, 1) := by decide +kernel
theorem dX8_init_122 : decode cX8_init 122 = .ok (.if_icmp .ge 22, 3) := by decide +kernel
theorem dX8_init_125 : decode cX8_init 125 = .ok (.aload_n 0, 1) := by decide +kernel
theorem dX8_init_126 : decode cX8_init 126 = .ok (.getfield 68, 3) := by decide +kernel
theorem dX8_init_129 : decode cX8_init 129 = .ok (.iload_n 1, 1) := by decide +kernel
theorem dX8_init_130 : decode cX8_init 130 = .ok (.new 7, 3) := by decide +kernel
theorem dX8_init_133 : decode cX8_init 133 = .ok (.dup, 1) := by decide +kernel
theorem dX8_init_134 : decode cX8_init 134 = .ok (.invokespecial 9, 3) := by decide +kernel
theorem dX8_init_137 : decode cX8_init 137 = .ok (.aastore, 1) := by decide +kernel
theorem dX8_init_138 : decode cX8_init 138 = .ok (.iinc 1 1, 3) := by decide +kernel
theorem dX8_init_141 : decode cX8_init 141 = .ok (.goto (-21), 3) := by decide +kernel
theorem dX8_init_144 : decode cX8_init 144 = .ok (.return_, 1) := by decide +kernel
set_option maxRecDepth 20000 in
theorem ggX8_type_X7_append : GoodIn wsX8_type wsX7_append := goodIn_r _ [7, 8, 9, 21, 22, 23, 24, 25, 26] (by decide +kernel) (by decide +kernel)
set_option maxRecDepth 20000 in
theorem gX8_type_X7_append : GoodIn wsX8_type (wsV RX8 76 RX7 yX7_append wsX7_append) := goodIn_app (goodIn_of _ (by decide +kernel)) ggX8_type_X7_append
theorem dX8_type_0 : decode cX8_type 0 = .ok (.iload_n 1, 1) := by decide +kernel
theorem dX8_type_1 : decode cX8_type 1 = .ok (.ifCond .lt 10, 3) := by decide +kernel
theorem dX8_type_4 : decode cX8_type 4 = .ok (.iload_n 1, 1) := by decide +kernel
theorem dX8_type_5 : decode cX8_type 5 = .ok (.sipush 255, 3) := by decide +kernel
theorem dX8_type_8 : decode cX8_type 8 = .ok (.if_icmp .le 5, 3) := by decide +kernel
theorem dX8_type_11 : decode cX8_type 11 = .ok (.iconst (-1), 1) := by decide +kernel
theorem dX8_type_12 : decode cX8_type 12 = .ok (.ireturn, 1) := by decide +kernel
theorem dX8_type_13 : decode cX8_type 13 = .ok (.aload_n 0, 1) := by decide +kernel
theorem dX8_type_14 : decode cX8_type 14 = .ok (.getfield 22, 3) := by decide +kernel
theorem dX8_type_17 : decode cX8_type 17 = .ok (.iload_n 1, 1) := by decide +kernel
theorem dX8_type_18 : decode cX8_type 18 = .ok (.invokevirtual 76, 3) := by decide +kernel
theorem dX8_type_21 : decode cX8_type 21 = .ok (.ifCond .eq 13, 3) := by decide +kernel
theorem dX8_type_24 : decode cX8_type 24 = .ok (.aload_n 0, 1) := by decide +kernel
theorem dX8_type_25 : decode cX8_type 25 = .ok (.getfield 22, 3) := by decide +kernel
theorem dX8_type_28 : decode cX8_type 28 = .ok (.getfield 80, 3) := by decide +kernel
theorem dX8_type_31 : decode cX8_type 31 = .ok (.goto 5, 3) := by decide +kernel
theorem dX8_type_34 : decode cX8_type 34 = .ok (.bipush (-3), 2) := by decide +kernel
theorem dX8_type_36 : decode cX8_type 36 = .ok (.ireturn, 1) := by decide +kernel
theorem dX8_clear_0 : decode cX8_clear 0 = .ok (.aload_n 0, 1) := by decide +kernel
theorem dX8_clear_1 : decode cX8_clear 1 = .ok (.getfield 22, 3) := by decide +kernel
theorem dX8_clear_4 : decode cX8_clear 4 = .ok (.getfield 80, 3) := by decide +kernel
theorem dX8_clear_7 : decode cX8_clear 7 = .ok (.istore_n 1, 1) := by decide +kernel
theorem dX8_clear_8 : decode cX8_clear 8 = .ok (.aload_n 0, 1) := by decide +kernel
theorem dX8_clear_9 : decode cX8_clear 9 = .ok (.getfield 22, 3) := by decide +kernel
theorem dX8_clear_12 : decode cX8_clear 12 = .ok (.iconst 0, 1) := by decide +kernel
theorem dX8_clear_13 : decode cX8_clear 13 = .ok (.putfield 80, 3) := by decide +kernel
theorem dX8_clear_16 : decode cX8_clear 16 = .ok (.iload_n 1, 1) := by decide +kernel
theorem dX8_clear_17 : decode cX8_clear 17 = .ok (.ireturn, 1) := by decide +kernel
set_option maxRecDepth 20000 in
theorem ggX8_store_X7_readInto : GoodIn wsX8_store wsX7_readInto := goodIn_r _ [15, 16, 17, 18, 19, 20, 21, 22, 23, 24, 25, 26, 27, 28, 29, 30, 31, 32, 14, 33, 34, 35, 36, 37, 38, 39, 40, 41, 42, 43, 44, 45, 46, 47, 48, 49, 50, 51, 52, 53, 54, 55, 56, 57, 58, 59, 60, 61, 62, 63, 64, 65, 66, 67, 68, 69, 70, 71, 72, 73, 74, 75, 76, 77, 78, 79, 80, 81, 82, 83, 84, 85, 86, 87, 88, 89, 90, 91, 92, 93, 94, 95, 96, 97, 98, 99, 100, 101, 102, 103, 104, 105, 106, 107, 108, 109, 110, 111, 112, 113, 114, 115, 116, 117, 118, 119, 120, 121, 122, 123, 124, 125, 126, 127, 128, 156, 157, 158, 159, 160, 161, 167, 168, 169, 170, 171, 172, 173] (by decide +kernel) (by decide +kernel)
set_option maxRecDepth 20000 in
theorem gX8_store_X7_readInto : GoodIn wsX8_store (wsV RX8 84 RX7 yX7_readInto wsX7_readInto) := goodIn_app (goodIn_of _ (by decide +kernel)) ggX8_store_X7_readInto
set_option maxRecDepth 20000 in
theorem ggX8_store_X3_copyOf : GoodIn wsX8_store wsX3_copyOf := goodIn_r _ [132, 24, 25, 26, 133, 134, 135, 136, 27, 28, 29, 167, 168, 169, 170, 171, 172, 173] (by decide +kernel) (by decide +kernel)
set_option maxRecDepth 20000 in
theorem gX8_store_X3_copyOf : GoodIn wsX8_store (wsV RX8 88 RX3 yX3_copyOf wsX3_copyOf) := goodIn_app (goodIn_of _ (by decide +kernel)) ggX8_store_X3_copyOf
set_option maxRecDepth 20000 in
theorem ggX8_store_X5_empty : GoodIn wsX8_store wsX5_empty := goodIn_r _ [141, 142, 143, 144, 174, 175, 176, 177, 178, 179] (by decide +kernel) (by decide +kernel)
set_option maxRecDepth 20000 in
theorem gX8_store_X5_empty : GoodIn wsX8_store (wsV RX8 96 RX5 yX5_empty wsX5_empty) := goodIn_app (goodIn_of _ (by decide +kernel)) ggX8_store_X5_empty
theorem dX8_store_0 : decode cX8_store 0 = .ok (.aload_n 0, 1) := by decide +kernel
theorem dX8_store_1 : decode cX8_store 1 = .ok (.getfield 22, 3) := by decide +kernel
theorem dX8_store_4 : decode cX8_store 4 = .ok (.aload_n 0, 1) := by decide +kernel
theorem dX8_store_5 : decode cX8_store 5 = .ok (.getfield 16, 3) := by decide +kernel
theorem dX8_store_8 : decode cX8_store 8 = .ok (.invokevirtual 84, 3) := by decide +kernel
theorem dX8_store_11 : decode cX8_store 11 = .ok (.istore_n 1, 1) := by decide +kernel
theorem dX8_store_12 : decode cX8_store 12 = .ok (.iload_n 1, 1) := by decide +kernel
theorem dX8_store_13 : decode cX8_store 13 = .ok (.ifCond .ge 5, 3) := by decide +kernel
theorem dX8_store_16 : decode cX8_store 16 = .ok (.iload_n 1, 1) := by decide +kernel
theorem dX8_store_17 : decode cX8_store 17 = .ok (.ireturn, 1) := by decide +kernel
theorem dX8_store_18 : decode cX8_store 18 = .ok (.aload_n 0, 1) := by decide +kernel
theorem dX8_store_19 : decode cX8_store 19 = .ok (.getfield 10, 3) := by decide +kernel
theorem dX8_store_22 : decode cX8_store 22 = .ok (.aload_n 0, 1) := by decide +kernel
theorem dX8_store_23 : decode cX8_store 23 = .ok (.getfield 16, 3) := by decide +kernel
theorem dX8_store_26 : decode cX8_store 26 = .ok (.invokevirtual 88, 3) := by decide +kernel
theorem dX8_store_29 : decode cX8_store 29 = .ok (.aload_n 0, 1) := by decide +kernel
theorem dX8_store_30 : decode cX8_store 30 = .ok (.getfield 22, 3) := by decide +kernel
theorem dX8_store_33 : decode cX8_store 33 = .ok (.iconst 0, 1) := by decide +kernel
theorem dX8_store_34 : decode cX8_store 34 = .ok (.putfield 80, 3) := by decide +kernel
theorem dX8_store_37 : decode cX8_store 37 = .ok (.aload_n 0, 1) := by decide +kernel
theorem dX8_store_38 : decode cX8_store 38 = .ok (.getfield 29, 3) := by decide +kernel
theorem dX8_store_41 : decode cX8_store 41 = .ok (.iconst 0, 1) := by decide +kernel
theorem dX8_store_42 : decode cX8_store 42 = .ok (.putfield 92, 3) := by decide +kernel
theorem dX8_store_45 : decode cX8_store 45 = .ok (.aload_n 0, 1) := by decide +kernel
theorem dX8_store_46 : decode cX8_store 46 = .ok (.getfield 36, 3) := by decide +kernel
theorem dX8_store_49 : decode cX8_store 49 = .ok (.iconst 0, 1) := by decide +kernel
theorem dX8_store_50 : decode cX8_store 50 = .ok (.putfield 95, 3) := by decide +kernel
theorem dX8_store_53 : decode cX8_store 53 = .ok (.aload_n 0, 1) := by decide +kernel
theorem dX8_store_54 : decode cX8_store 54 = .ok (.getfield 50, 3) := by decide +kernel
theorem dX8_store_57 : decode cX8_store 57 = .ok (.invokevirtual 96, 3) := by decide +kernel
theorem dX8_store_60 : decode cX8_store 60 = .ok (.iconst 0, 1) := by decide +kernel
theorem dX8_store_61 : decode cX8_store 61 = .ok (.istore_n 2, 1) := by decide +kernel
theorem dX8_store_62 : decode cX8_store 62 = .ok (.iload_n 2, 1) := by decide +kernel
theorem dX8_store_63 : decode cX8_store 63 = .ok (.iconst 2, 1) := by decide +kernel
theorem dX8_store_64 : decode cX8_store 64 = .ok (.if_icmp .ge 16, 3) := by decide +kernel
theorem dX8_store_67 : decode cX8_store 67 = .ok (.aload_n 0, 1) := by decide +kernel
theorem dX8_store_68 : decode cX8_store 68 = .ok (.getfield 72, 3) := by decide +kernel
theorem dX8_store_71 : decode cX8_store 71 = .ok (.iload_n 2, 1) := by decide +kernel
theorem dX8_store_72 : decode cX8_store 72 = .ok (.iconst 0, 1) := by decide +kernel
theorem dX8_store_73 : decode cX8_store 73 = .ok (.bastore, 1) := by decide +kernel
theorem dX8_store_74 : decode cX8_store 74 = .ok (.iinc 2 1, 3) := by decide +kernel
theorem dX8_store_77 : decode cX8_store 77 = .ok (.goto (-15), 3) := by decide +kernel
theorem dX8_store_80 : decode cX8_store 80 = .ok (.iload_n 1, 1) := by decide +kernel
theorem dX8_store_81 : decode cX8_store 81 = .ok (.ireturn, 1) := by decide +kernel
set_option maxRecDepth 20000 in
theorem ggX8_item_X3_isItem : GoodIn wsX8_item wsX3_isItem := goodIn_r _ [10, 11, 50, 51, 52, 53, 54, 55, 56] (by decide +kernel) (by decide +kernel)
set_option maxRecDepth 20000 in
theorem gX8_item_X3_isItem : GoodIn wsX8_item (wsV RX8 99 RX3 yX3_isItem wsX3_isItem) := goodIn_app (goodIn_of _ (by decide +kernel)) ggX8_item_X3_isItem
set_option maxRecDepth 20000 in
theorem ggX8_item_X3_allAheadOf : GoodIn wsX8_item wsX3_allAheadOf := goodIn_r _ [15, 16, 17, 18, 9, 19, 20, 21, 22, 50, 51, 52, 53, 54, 55, 56] (by decide +kernel) (by decide +kernel)
set_option maxRecDepth 20000 in
theorem gX8_item_X3_allAheadOf : GoodIn wsX8_item (wsV RX8 112 RX3 yX3_allAheadOf wsX3_allAheadOf) := goodIn_app (goodIn_of _ (by decide +kernel)) ggX8_item_X3_allAheadOf
set_option maxRecDepth 20000 in
theorem ggX8_item_J6_bitCount_0f7a4 : GoodIn wsX8_item wsJ6_bitCount_0f7a4 := goodIn_r _ [26, 27, 28, 29] (by decide +kernel) (by decide +kernel)
set_option maxRecDepth 20000 in
theorem gX8_item_J6_bitCount_0f7a4 : GoodIn wsX8_item (va_wsS RX8 116 yJ6_bitCount_0f7a4 wsJ6_bitCount_0f7a4) := goodIn_app (goodIn_of _ (by decide +kernel)) ggX8_item_J6_bitCount_0f7a4
set_option maxRecDepth 20000 in
theorem ggX8_item_X3_allBehind : GoodIn wsX8_item wsX3_allBehind := goodIn_r _ [33, 11, 34, 35, 36, 9, 37, 20, 21, 38, 50, 51, 52, 53, 54, 55, 56] (by decide +kernel) (by decide +kernel)
set_option maxRecDepth 20000 in
theorem gX8_item_X3_allBehind : GoodIn wsX8_item (wsV RX8 124 RX3 yX3_allBehind wsX3_allBehind) := goodIn_app (goodIn_of _ (by decide +kernel)) ggX8_item_X3_allBehind
theorem dX8_item_0 : decode cX8_item 0 = .ok (.aload_n 0, 1) := by decide +kernel
theorem dX8_item_1 : decode cX8_item 1 = .ok (.getfield 10, 3) := by decide +kernel
theorem dX8_item_4 : decode cX8_item 4 = .ok (.iload_n 1, 1) := by decide +kernel
theorem dX8_item_5 : decode cX8_item 5 = .ok (.invokevirtual 99, 3) := by decide +kernel
theorem dX8_item_8 : decode cX8_item 8 = .ok (.ifCond .ne 5, 3) := by decide +kernel
theorem dX8_item_11 : decode cX8_item 11 = .ok (.iconst (-1), 1) := by decide +kernel
theorem dX8_item_12 : decode cX8_item 12 = .ok (.ireturn, 1) := by decide +kernel
theorem dX8_item_13 : decode cX8_item 13 = .ok (.iload_n 2, 1) := by decide +kernel
theorem dX8_item_14 : decode cX8_item 14 = .ok (.tableswitch 124 0 6 #[42, 52, 62, 72, 84, 106, 115], 42) := by decide +kernel
theorem dX8_item_56 : decode cX8_item 56 = .ok (.aload_n 0, 1) := by decide +kernel
theorem dX8_item_57 : decode cX8_item 57 = .ok (.getfield 10, 3) := by decide +kernel
theorem dX8_item_60 : decode cX8_item 60 = .ok (.getfield 102, 3) := by decide +kernel
theorem dX8_item_63 : decode cX8_item 63 = .ok (.iload_n 1, 1) := by decide +kernel
theorem dX8_item_64 : decode cX8_item 64 = .ok (.iaload, 1) := by decide +kernel
theorem dX8_item_65 : decode cX8_item 65 = .ok (.ireturn, 1) := by decide +kernel
theorem dX8_item_66 : decode cX8_item 66 = .ok (.aload_n 0, 1) := by decide +kernel
theorem dX8_item_67 : decode cX8_item 67 = .ok (.getfield 10, 3) := by decide +kernel
theorem dX8_item_70 : decode cX8_item 70 = .ok (.getfield 106, 3) := by decide +kernel
theorem dX8_item_73 : decode cX8_item 73 = .ok (.iload_n 1, 1) := by decide +kernel
theorem dX8_item_74 : decode cX8_item 74 = .ok (.iaload, 1) := by decide +kernel
theorem dX8_item_75 : decode cX8_item 75 = .ok (.ireturn, 1) := by decide +kernel
theorem dX8_item_76 : decode cX8_item 76 = .ok (.aload_n 0, 1) := by decide +kernel
theorem dX8_item_77 : decode cX8_item 77 = .ok (.getfield 10, 3) := by decide +kernel
theorem dX8_item_80 : decode cX8_item 80 = .ok (.getfield 109, 3) := by decide +kernel
theorem dX8_item_83 : decode cX8_item 83 = .ok (.iload_n 1, 1) := by decide +kernel
theorem dX8_item_84 : decode cX8_item 84 = .ok (.iaload, 1) := by decide +kernel
theorem dX8_item_85 : decode cX8_item 85 = .ok (.ireturn, 1) := by decide +kernel
theorem dX8_item_86 : decode cX8_item 86 = .ok (.aload_n 0, 1) := by decide +kernel
theorem dX8_item_87 : decode cX8_item 87 = .ok (.getfield 10, 3) := by decide +kernel
theorem dX8_item_90 : decode cX8_item 90 = .ok (.iload_n 1, 1) := by decide +kernel
theorem dX8_item_91 : decode cX8_item 91 = .ok (.invokevirtual 112, 3) := by decide +kernel
theorem dX8_item_94 : decode cX8_item 94 = .ok (.invokestatic 116, 3) := by decide +kernel
theorem dX8_item_97 : decode cX8_item 97 = .ok (.ireturn, 1) := by decide +kernel
theorem dX8_item_98 : decode cX8_item 98 = .ok (.aload_n 0, 1) := by decide +kernel
theorem dX8_item_99 : decode cX8_item 99 = .ok (.getfield 10, 3) := by decide +kernel
theorem dX8_item_102 : decode cX8_item 102 = .ok (.getfield 121, 3) := by decide +kernel
theorem dX8_item_105 : decode cX8_item 105 = .ok (.iconst 1, 1) := by decide +kernel
theorem dX8_item_106 : decode cX8_item 106 = .ok (.isub, 1) := by decide +kernel
theorem dX8_item_107 : decode cX8_item 107 = .ok (.aload_n 0, 1) := by decide +kernel
theorem dX8_item_108 : decode cX8_item 108 = .ok (.getfield 10, 3) := by decide +kernel
theorem dX8_item_111 : decode cX8_item 111 = .ok (.iload_n 1, 1) := by decide +kernel
theorem dX8_item_112 : decode cX8_item 112 = .ok (.invokevirtual 124, 3) := by decide +kernel
theorem dX8_item_115 : decode cX8_item 115 = .ok (.invokestatic 116, 3) := by decide +kernel
theorem dX8_item_118 : decode cX8_item 118 = .ok (.isub, 1) := by decide +kernel
theorem dX8_item_119 : decode cX8_item 119 = .ok (.ireturn, 1) := by decide +kernel
theorem dX8_item_120 : decode cX8_item 120 = .ok (.aload_n 0, 1) := by decide +kernel
theorem dX8_item_121 : decode cX8_item 121 = .ok (.getfield 10, 3) := by decide +kernel
theorem dX8_item_124 : decode cX8_item 124 = .ok (.iload_n 1, 1) := by decide +kernel
theorem dX8_item_125 : decode cX8_item 125 = .ok (.invokevirtual 124, 3) := by decide +kernel
theorem dX8_item_128 : decode cX8_item 128 = .ok (.ireturn, 1) := by decide +kernel
theorem dX8_item_129 : decode cX8_item 129 = .ok (.aload_n 0, 1) := by decide +kernel
theorem dX8_item_130 : decode cX8_item 130 = .ok (.getfield 10, 3) := by decide +kernel
theorem dX8_item_133 : decode cX8_item 133 = .ok (.iload_n 1, 1) := by decide +kernel
theorem dX8_item_134 : decode cX8_item 134 = .ok (.invokevirtual 112, 3) := by decide +kernel
theorem dX8_item_137 : decode cX8_item 137 = .ok (.ireturn, 1) := by decide +kernel
theorem dX8_item_138 : decode cX8_item 138 = .ok (.iconst (-1), 1) := by decide +kernel
theorem dX8_item_139 : decode cX8_item 139 = .ok (.ireturn, 1) := by decide +kernel
set_option maxRecDepth 20000 in
theorem ggX8_at_X3_isItem : GoodIn wsX8_at wsX3_isItem := goodIn_r _ [7, 8, 20, 21, 22, 23, 24, 25, 26] (by decide +kernel) (by decide +kernel)
set_option maxRecDepth 20000 in
theorem gX8_at_X3_isItem : GoodIn wsX8_at (wsV RX8 99 RX3 yX3_isItem wsX3_isItem) := goodIn_app (goodIn_of _ (by decide +kernel)) ggX8_at_X3_isItem
theorem dX8_at_0 : decode cX8_at 0 = .ok (.aload_n 0, 1) := by decide +kernel
theorem dX8_at_1 : decode cX8_at 1 = .ok (.getfield 10, 3) := by decide +kernel
theorem dX8_at_4 : decode cX8_at 4 = .ok (.iload_n 1, 1) := by decide +kernel
theorem dX8_at_5 : decode cX8_at 5 = .ok (.invokevirtual 99, 3) := by decide +kernel
theorem dX8_at_8 : decode cX8_at 8 = .ok (.ifCond .eq 15, 3) := by decide +kernel
theorem dX8_at_11 : decode cX8_at 11 = .ok (.aload_n 0, 1) := by decide +kernel
theorem dX8_at_12 : decode cX8_at 12 = .ok (.getfield 10, 3) := by decide +kernel
theorem dX8_at_15 : decode cX8_at 15 = .ok (.getfield 127, 3) := by decide +kernel
theorem dX8_at_18 : decode cX8_at 18 = .ok (.iload_n 1, 1) := by decide +kernel
theorem dX8_at_19 : decode cX8_at 19 = .ok (.iaload, 1) := by decide +kernel
theorem dX8_at_20 : decode cX8_at 20 = .ok (.goto 4, 3) := by decide +kernel
theorem dX8_at_23 : decode cX8_at 23 = .ok (.iconst (-1), 1) := by decide +kernel
theorem dX8_at_24 : decode cX8_at 24 = .ok (.ireturn, 1) := by decide +kernel
set_option maxRecDepth 20000 in
theorem ggX8_now_X8_freeArcs : GoodIn wsX8_now wsX8_freeArcs := goodIn_r _ [9, 1, 10, 11, 12, 13, 14, 15, 16, 17, 18, 19, 20, 21, 22, 23, 24, 25, 26, 27, 28, 29, 30, 8, 31, 32, 33, 34, 35, 36, 37, 38, 39, 40, 41, 42, 43, 44, 45, 46, 47, 48, 49, 50, 51, 52, 53, 54, 55, 56, 57, 58, 99, 100, 101, 102, 103, 104, 105, 106, 107, 108, 109, 110, 111, 112, 113, 114, 115, 116] (by decide +kernel) (by decide +kernel)
set_option maxRecDepth 20000 in
theorem gX8_now_X8_freeArcs : GoodIn wsX8_now (wsV RX8 133 RX8 yX8_freeArcs wsX8_freeArcs) := goodIn_app (goodIn_of _ (by decide +kernel)) ggX8_now_X8_freeArcs
set_option maxRecDepth 20000 in
theorem ggX8_now_X8_arcMovingMost : GoodIn wsX8_now wsX8_arcMovingMost := goodIn_r _ [62, 1, 10, 11, 12, 13, 14, 15, 16, 17, 18, 19, 20, 21, 22, 23, 24, 25, 26, 27, 28, 29, 30, 8, 31, 32, 33, 34, 35, 36, 37, 38, 39, 40, 41, 42, 43, 44, 45, 46, 47, 48, 49, 50, 51, 52, 53, 54, 55, 56, 57, 58, 63, 64, 65, 66, 67, 68, 69, 70, 71, 72, 99, 100, 101, 102, 103, 104, 105, 106, 107, 108, 109, 110, 111, 112, 113, 114, 115, 116] (by decide +kernel) (by decide +kernel)
set_option maxRecDepth 20000 in
theorem gX8_now_X8_arcMovingMost : GoodIn wsX8_now (wsV RX8 137 RX8 yX8_arcMovingMost wsX8_arcMovingMost) := goodIn_app (goodIn_of _ (by decide +kernel)) ggX8_now_X8_arcMovingMost
set_option maxRecDepth 20000 in
theorem ggX8_now_X3_longestChain : GoodIn wsX8_now wsX3_longestChain := goodIn_r _ [76, 24, 77, 78, 79, 14, 80, 81, 82, 83, 84, 85, 86, 87, 88, 42, 30, 8, 31, 110, 111, 112, 113, 114, 115, 116] (by decide +kernel) (by decide +kernel)
set_option maxRecDepth 20000 in
theorem gX8_now_X3_longestChain : GoodIn wsX8_now (wsV RX8 140 RX3 yX3_longestChain wsX3_longestChain) := goodIn_app (goodIn_of _ (by decide +kernel)) ggX8_now_X3_longestChain
set_option maxRecDepth 20000 in
theorem ggX8_now_X8_spareArcs : GoodIn wsX8_now wsX8_spareArcs := goodIn_r _ [92, 1, 10, 93, 94, 95, 96, 14, 97, 24, 37, 38, 39, 40, 36, 41, 42, 98, 26, 27, 28, 29, 30, 8, 31, 99, 100, 101, 102, 103, 104, 105, 106, 107, 108, 109, 110, 111, 112, 113, 114, 115, 116] (by decide +kernel) (by decide +kernel)
set_option maxRecDepth 20000 in
theorem gX8_now_X8_spareArcs : GoodIn wsX8_now (wsV RX8 143 RX8 yX8_spareArcs wsX8_spareArcs) := goodIn_app (goodIn_of _ (by decide +kernel)) ggX8_now_X8_spareArcs
theorem dX8_now_0 : decode cX8_now 0 = .ok (.iload_n 1, 1) := by decide +kernel
theorem dX8_now_1 : decode cX8_now 1 = .ok (.tableswitch 78 0 5 #[39, 47, 52, 57, 65, 70], 39) := by decide +kernel
theorem dX8_now_40 : decode cX8_now 40 = .ok (.aload_n 0, 1) := by decide +kernel
theorem dX8_now_41 : decode cX8_now 41 = .ok (.getfield 10, 3) := by decide +kernel
theorem dX8_now_44 : decode cX8_now 44 = .ok (.getfield 130, 3) := by decide +kernel
theorem dX8_now_47 : decode cX8_now 47 = .ok (.ireturn, 1) := by decide +kernel
theorem dX8_now_48 : decode cX8_now 48 = .ok (.aload_n 0, 1) := by decide +kernel
theorem dX8_now_49 : decode cX8_now 49 = .ok (.invokevirtual 133, 3) := by decide +kernel
theorem dX8_now_52 : decode cX8_now 52 = .ok (.ireturn, 1) := by decide +kernel
theorem dX8_now_53 : decode cX8_now 53 = .ok (.aload_n 0, 1) := by decide +kernel
theorem dX8_now_54 : decode cX8_now 54 = .ok (.invokevirtual 137, 3) := by decide +kernel
theorem dX8_now_57 : decode cX8_now 57 = .ok (.ireturn, 1) := by decide +kernel
theorem dX8_now_58 : decode cX8_now 58 = .ok (.aload_n 0, 1) := by decide +kernel
theorem dX8_now_59 : decode cX8_now 59 = .ok (.getfield 10, 3) := by decide +kernel
theorem dX8_now_62 : decode cX8_now 62 = .ok (.invokevirtual 140, 3) := by decide +kernel
theorem dX8_now_65 : decode cX8_now 65 = .ok (.ireturn, 1) := by decide +kernel
theorem dX8_now_66 : decode cX8_now 66 = .ok (.aload_n 0, 1) := by decide +kernel
theorem dX8_now_67 : decode cX8_now 67 = .ok (.invokevirtual 143, 3) := by decide +kernel
theorem dX8_now_70 : decode cX8_now 70 = .ok (.ireturn, 1) := by decide +kernel
theorem dX8_now_71 : decode cX8_now 71 = .ok (.aload_n 0, 1) := by decide +kernel
theorem dX8_now_72 : decode cX8_now 72 = .ok (.getfield 36, 3) := by decide +kernel
theorem dX8_now_75 : decode cX8_now 75 = .ok (.getfield 95, 3) := by decide +kernel
theorem dX8_now_78 : decode cX8_now 78 = .ok (.ireturn, 1) := by decide +kernel
theorem dX8_now_79 : decode cX8_now 79 = .ok (.iconst (-1), 1) := by decide +kernel
theorem dX8_now_80 : decode cX8_now 80 = .ok (.ireturn, 1) := by decide +kernel
set_option maxRecDepth 20000 in
theorem ggX8_puts_X3_isPair : GoodIn wsX8_puts wsX3_isPair := goodIn_r _ [8, 9, 10, 11, 7, 12, 13, 129, 130, 131, 132, 133, 134, 135] (by decide +kernel) (by decide +kernel)
set_option maxRecDepth 20000 in
theorem gX8_puts_X3_isPair : GoodIn wsX8_puts (wsV RX8 146 RX3 yX3_isPair wsX3_isPair) := goodIn_app (goodIn_of _ (by decide +kernel)) ggX8_puts_X3_isPair
set_option maxRecDepth 20000 in
theorem ggX8_puts_X3_has : GoodIn wsX8_puts wsX3_has := goodIn_r _ [17, 18, 19, 20, 21, 129, 130, 131, 132, 133, 134, 135] (by decide +kernel) (by decide +kernel)
set_option maxRecDepth 20000 in
theorem gX8_puts_X3_has : GoodIn wsX8_puts (wsV RX8 150 RX3 yX3_has wsX3_has) := goodIn_app (goodIn_of _ (by decide +kernel)) ggX8_puts_X3_has
set_option maxRecDepth 20000 in
theorem ggX8_puts_X3_closesRing : GoodIn wsX8_puts wsX3_closesRing := goodIn_r _ [25, 26, 27, 28, 29, 7, 30, 31, 32, 19, 20, 21, 129, 130, 131, 132, 133, 134, 135] (by decide +kernel) (by decide +kernel)
set_option maxRecDepth 20000 in
theorem gX8_puts_X3_closesRing : GoodIn wsX8_puts (wsV RX8 153 RX3 yX3_closesRing wsX3_closesRing) := goodIn_app (goodIn_of _ (by decide +kernel)) ggX8_puts_X3_closesRing
set_option maxRecDepth 20000 in
theorem ggX8_puts_X2_trace : GoodIn wsX8_puts wsX2_trace := goodIn_r _ [37, 38, 39, 40, 41, 42, 43, 36, 44, 45, 46, 47, 48, 49, 50, 51, 52, 53, 54, 55, 56, 15, 16, 7, 17, 18, 19, 20, 21, 57, 58, 59, 60, 136, 137, 138, 129, 130, 131, 132, 133, 134, 135] (by decide +kernel) (by decide +kernel)
set_option maxRecDepth 20000 in
theorem gX8_puts_X2_trace : GoodIn wsX8_puts (wsV RX8 156 RX2 yX2_trace wsX2_trace) := goodIn_app (goodIn_of _ (by decide +kernel)) ggX8_puts_X2_trace
set_option maxRecDepth 20000 in
theorem ggX8_puts_X4_push : GoodIn wsX8_puts wsX4_push := goodIn_r _ [65, 66, 67, 68, 69, 70, 64, 71, 72, 73, 74, 7, 75, 13, 76, 18, 77, 78, 79, 80, 32, 31, 26, 139, 140, 129, 130, 131, 132, 133, 134, 135] (by decide +kernel) (by decide +kernel)
set_option maxRecDepth 20000 in
theorem gX8_puts_X4_push : GoodIn wsX8_puts (wsV RX8 160 RX4 yX4_push wsX4_push) := goodIn_app (goodIn_of _ (by decide +kernel)) ggX8_puts_X4_push
set_option maxRecDepth 20000 in
theorem ggX8_puts_X3_put : GoodIn wsX8_puts wsX3_put := goodIn_r _ [84, 18, 32, 76, 85, 23, 24, 7, 25, 26, 27, 28, 29, 30, 31, 19, 20, 21, 86, 87, 88, 89, 90, 91, 92, 93, 94, 95, 96, 97, 98, 99, 100, 101, 13, 102, 103, 104, 105, 106, 107, 108, 109, 110, 111, 112, 113, 114, 115, 116, 117, 129, 130, 131, 132, 133, 134, 135] (by decide +kernel) (by decide +kernel)
set_option maxRecDepth 20000 in
theorem gX8_puts_X3_put : GoodIn wsX8_puts (wsV RX8 163 RX3 yX3_put wsX3_put) := goodIn_app (goodIn_of _ (by decide +kernel)) ggX8_puts_X3_put
theorem dX8_puts_0 : decode cX8_puts 0 = .ok (.aload_n 0, 1) := by decide +kernel
theorem dX8_puts_1 : decode cX8_puts 1 = .ok (.getfield 10, 3) := by decide +kernel
theorem dX8_puts_4 : decode cX8_puts 4 = .ok (.iload_n 1, 1) := by decide +kernel
theorem dX8_puts_5 : decode cX8_puts 5 = .ok (.iload_n 2, 1) := by decide +kernel
theorem dX8_puts_6 : decode cX8_puts 6 = .ok (.invokevirtual 146, 3) := by decide +kernel
theorem dX8_puts_9 : decode cX8_puts 9 = .ok (.ifCond .ne 5, 3) := by decide +kernel
theorem dX8_puts_12 : decode cX8_puts 12 = .ok (.iconst (-1), 1) := by decide +kernel
theorem dX8_puts_13 : decode cX8_puts 13 = .ok (.ireturn, 1) := by decide +kernel
theorem dX8_puts_14 : decode cX8_puts 14 = .ok (.aload_n 0, 1) := by decide +kernel
theorem dX8_puts_15 : decode cX8_puts 15 = .ok (.getfield 10, 3) := by decide +kernel
theorem dX8_puts_18 : decode cX8_puts 18 = .ok (.iload_n 1, 1) := by decide +kernel
theorem dX8_puts_19 : decode cX8_puts 19 = .ok (.iload_n 2, 1) := by decide +kernel
theorem dX8_puts_20 : decode cX8_puts 20 = .ok (.invokevirtual 150, 3) := by decide +kernel
theorem dX8_puts_23 : decode cX8_puts 23 = .ok (.ifCond .eq 6, 3) := by decide +kernel
theorem dX8_puts_26 : decode cX8_puts 26 = .ok (.bipush (-2), 2) := by decide +kernel
theorem dX8_puts_28 : decode cX8_puts 28 = .ok (.ireturn, 1) := by decide +kernel
theorem dX8_puts_29 : decode cX8_puts 29 = .ok (.aload_n 0, 1) := by decide +kernel
theorem dX8_puts_30 : decode cX8_puts 30 = .ok (.getfield 10, 3) := by decide +kernel
theorem dX8_puts_33 : decode cX8_puts 33 = .ok (.iload_n 1, 1) := by decide +kernel
theorem dX8_puts_34 : decode cX8_puts 34 = .ok (.iload_n 2, 1) := by decide +kernel
theorem dX8_puts_35 : decode cX8_puts 35 = .ok (.invokevirtual 153, 3) := by decide +kernel
theorem dX8_puts_38 : decode cX8_puts 38 = .ok (.ifCond .eq 19, 3) := by decide +kernel
theorem dX8_puts_41 : decode cX8_puts 41 = .ok (.aload_n 0, 1) := by decide +kernel
theorem dX8_puts_42 : decode cX8_puts 42 = .ok (.getfield 43, 3) := by decide +kernel
theorem dX8_puts_45 : decode cX8_puts 45 = .ok (.aload_n 0, 1) := by decide +kernel
theorem dX8_puts_46 : decode cX8_puts 46 = .ok (.getfield 10, 3) := by decide +kernel
theorem dX8_puts_49 : decode cX8_puts 49 = .ok (.iload_n 1, 1) := by decide +kernel
theorem dX8_puts_50 : decode cX8_puts 50 = .ok (.iload_n 2, 1) := by decide +kernel
theorem dX8_puts_51 : decode cX8_puts 51 = .ok (.invokevirtual 156, 3) := by decide +kernel
theorem dX8_puts_54 : decode cX8_puts 54 = .ok (.bipush (-4), 2) := by decide +kernel
theorem dX8_puts_56 : decode cX8_puts 56 = .ok (.ireturn, 1) := by decide +kernel
theorem dX8_puts_57 : decode cX8_puts 57 = .ok (.aload_n 0, 1) := by decide +kernel
theorem dX8_puts_58 : decode cX8_puts 58 = .ok (.getfield 36, 3) := by decide +kernel
theorem dX8_puts_61 : decode cX8_puts 61 = .ok (.aload_n 0, 1) := by decide +kernel
theorem dX8_puts_62 : decode cX8_puts 62 = .ok (.getfield 10, 3) := by decide +kernel
theorem dX8_puts_65 : decode cX8_puts 65 = .ok (.invokevirtual 160, 3) := by decide +kernel
theorem dX8_puts_68 : decode cX8_puts 68 = .ok (.aload_n 0, 1) := by decide +kernel
theorem dX8_puts_69 : decode cX8_puts 69 = .ok (.getfield 10, 3) := by decide +kernel
theorem dX8_puts_72 : decode cX8_puts 72 = .ok (.iload_n 1, 1) := by decide +kernel
theorem dX8_puts_73 : decode cX8_puts 73 = .ok (.iload_n 2, 1) := by decide +kernel
theorem dX8_puts_74 : decode cX8_puts 74 = .ok (.invokevirtual 163, 3) := by decide +kernel
theorem dX8_puts_77 : decode cX8_puts 77 = .ok (.ireturn, 1) := by decide +kernel
set_option maxRecDepth 20000 in
theorem ggX8_lists_X3_isPair : GoodIn wsX8_lists wsX3_isPair := goodIn_r _ [8, 9, 10, 11, 7, 12, 13, 48, 49, 50, 51, 52, 53, 54] (by decide +kernel) (by decide +kernel)
set_option maxRecDepth 20000 in
theorem gX8_lists_X3_isPair : GoodIn wsX8_lists (wsV RX8 146 RX3 yX3_isPair wsX3_isPair) := goodIn_app (goodIn_of _ (by decide +kernel)) ggX8_lists_X3_isPair
set_option maxRecDepth 20000 in
theorem ggX8_lists_X3_has : GoodIn wsX8_lists wsX3_has := goodIn_r _ [17, 18, 19, 20, 21, 48, 49, 50, 51, 52, 53, 54] (by decide +kernel) (by decide +kernel)
set_option maxRecDepth 20000 in
theorem gX8_lists_X3_has : GoodIn wsX8_lists (wsV RX8 150 RX3 yX3_has wsX3_has) := goodIn_app (goodIn_of _ (by decide +kernel)) ggX8_lists_X3_has
set_option maxRecDepth 20000 in
theorem ggX8_lists_X0_holds : GoodIn wsX8_lists wsX0_holds := goodIn_r _ [26, 27, 28, 29, 45, 46, 47] (by decide +kernel) (by decide +kernel)
set_option maxRecDepth 20000 in
theorem gX8_lists_X0_holds : GoodIn wsX8_lists (wsV RX8 167 RX0 yX0_holds wsX0_holds) := goodIn_app (goodIn_of _ (by decide +kernel)) ggX8_lists_X0_holds
set_option maxRecDepth 20000 in
theorem ggX8_lists_X0_append : GoodIn wsX8_lists wsX0_append := goodIn_r _ [33, 27, 28, 29, 45, 46, 47] (by decide +kernel) (by decide +kernel)
set_option maxRecDepth 20000 in
theorem gX8_lists_X0_append : GoodIn wsX8_lists (wsV RX8 170 RX0 yX0_append wsX0_append) := goodIn_app (goodIn_of _ (by decide +kernel)) ggX8_lists_X0_append
theorem dX8_lists_0 : decode cX8_lists 0 = .ok (.aload_n 0, 1) := by decide +kernel
theorem dX8_lists_1 : decode cX8_lists 1 = .ok (.getfield 10, 3) := by decide +kernel
theorem dX8_lists_4 : decode cX8_lists 4 = .ok (.iload_n 1, 1) := by decide +kernel
theorem dX8_lists_5 : decode cX8_lists 5 = .ok (.iload_n 2, 1) := by decide +kernel
theorem dX8_lists_6 : decode cX8_lists 6 = .ok (.invokevirtual 146, 3) := by decide +kernel
theorem dX8_lists_9 : decode cX8_lists 9 = .ok (.ifCond .ne 5, 3) := by decide +kernel
theorem dX8_lists_12 : decode cX8_lists 12 = .ok (.iconst (-1), 1) := by decide +kernel
theorem dX8_lists_13 : decode cX8_lists 13 = .ok (.ireturn, 1) := by decide +kernel
theorem dX8_lists_14 : decode cX8_lists 14 = .ok (.aload_n 0, 1) := by decide +kernel
theorem dX8_lists_15 : decode cX8_lists 15 = .ok (.getfield 10, 3) := by decide +kernel
theorem dX8_lists_18 : decode cX8_lists 18 = .ok (.iload_n 1, 1) := by decide +kernel
theorem dX8_lists_19 : decode cX8_lists 19 = .ok (.iload_n 2, 1) := by decide +kernel
theorem dX8_lists_20 : decode cX8_lists 20 = .ok (.invokevirtual 150, 3) := by decide +kernel
theorem dX8_lists_23 : decode cX8_lists 23 = .ok (.ifCond .ne 15, 3) := by decide +kernel
theorem dX8_lists_26 : decode cX8_lists 26 = .ok (.aload_n 0, 1) := by decide +kernel
theorem dX8_lists_27 : decode cX8_lists 27 = .ok (.getfield 29, 3) := by decide +kernel
theorem dX8_lists_30 : decode cX8_lists 30 = .ok (.iload_n 1, 1) := by decide +kernel
theorem dX8_lists_31 : decode cX8_lists 31 = .ok (.iload_n 2, 1) := by decide +kernel
theorem dX8_lists_32 : decode cX8_lists 32 = .ok (.invokevirtual 167, 3) := by decide +kernel
theorem dX8_lists_35 : decode cX8_lists 35 = .ok (.ifCond .eq 6, 3) := by decide +kernel
theorem dX8_lists_38 : decode cX8_lists 38 = .ok (.bipush (-2), 2) := by decide +kernel
theorem dX8_lists_40 : decode cX8_lists 40 = .ok (.ireturn, 1) := by decide +kernel
theorem dX8_lists_41 : decode cX8_lists 41 = .ok (.aload_n 0, 1) := by decide +kernel
theorem dX8_lists_42 : decode cX8_lists 42 = .ok (.getfield 29, 3) := by decide +kernel
theorem dX8_lists_45 : decode cX8_lists 45 = .ok (.iload_n 1, 1) := by decide +kernel
theorem dX8_lists_46 : decode cX8_lists 46 = .ok (.iload_n 2, 1) := by decide +kernel
theorem dX8_lists_47 : decode cX8_lists 47 = .ok (.invokevirtual 170, 3) := by decide +kernel
theorem dX8_lists_50 : decode cX8_lists 50 = .ok (.ifCond .eq 13, 3) := by decide +kernel
theorem dX8_lists_53 : decode cX8_lists 53 = .ok (.aload_n 0, 1) := by decide +kernel
theorem dX8_lists_54 : decode cX8_lists 54 = .ok (.getfield 29, 3) := by decide +kernel
theorem dX8_lists_57 : decode cX8_lists 57 = .ok (.getfield 92, 3) := by decide +kernel
theorem dX8_lists_60 : decode cX8_lists 60 = .ok (.goto 5, 3) := by decide +kernel
theorem dX8_lists_63 : decode cX8_lists 63 = .ok (.bipush (-3), 2) := by decide +kernel
theorem dX8_lists_65 : decode cX8_lists 65 = .ok (.ireturn, 1) := by decide +kernel
set_option maxRecDepth 20000 in
theorem ggX8_adds_X0_isAnyIn : GoodIn wsX8_adds wsX0_isAnyIn := goodIn_r _ [10, 11, 12, 13, 14, 15, 16, 17, 18, 19, 20, 21, 22, 143, 144, 145, 146, 147, 148, 149, 150, 151, 152] (by decide +kernel) (by decide +kernel)
set_option maxRecDepth 20000 in
theorem gX8_adds_X0_isAnyIn : GoodIn wsX8_adds (wsV RX8 172 RX0 yX0_isAnyIn wsX0_isAnyIn) := goodIn_app (goodIn_of _ (by decide +kernel)) ggX8_adds_X0_isAnyIn
set_option maxRecDepth 20000 in
theorem ggX8_adds_X3_copyOf : GoodIn wsX8_adds wsX3_copyOf := goodIn_r _ [26, 27, 28, 19, 29, 30, 31, 32, 33, 34, 35, 146, 147, 148, 149, 150, 151, 152] (by decide +kernel) (by decide +kernel)
set_option maxRecDepth 20000 in
theorem gX8_adds_X3_copyOf : GoodIn wsX8_adds (wsV RX8 88 RX3 yX3_copyOf wsX3_copyOf) := goodIn_app (goodIn_of _ (by decide +kernel)) ggX8_adds_X3_copyOf
set_option maxRecDepth 20000 in
theorem ggX8_adds_X8_putListed : GoodIn wsX8_adds wsX8_putListed := goodIn_r _ [39, 1, 2, 40, 41, 3, 42, 43, 44, 45, 17, 46, 35, 47, 48, 49, 50, 34, 33, 20, 21, 22, 51, 52, 53, 54, 55, 56, 57, 58, 59, 60, 61, 62, 63, 64, 65, 66, 67, 68, 69, 70, 71, 72, 73, 74, 15, 16, 18, 19, 75, 76, 77, 78, 79, 80, 81, 82, 28, 83, 84, 85, 86, 87, 88, 89, 90, 91, 92, 93, 94, 95, 96, 97, 98, 99, 27, 100, 101, 102, 103, 104, 105, 106, 107, 108, 109, 110, 111, 112, 113, 114, 115, 132, 133, 134, 135, 136, 137, 138, 139, 140, 141, 142, 143, 144, 145, 146, 147, 148, 149, 150, 151, 152, 153, 154, 155] (by decide +kernel) (by decide +kernel)
set_option maxRecDepth 20000 in
theorem gX8_adds_X8_putListed : GoodIn wsX8_adds (wsV RX8 176 RX8 yX8_putListed wsX8_putListed) := goodIn_app (goodIn_of _ (by decide +kernel)) ggX8_adds_X8_putListed
set_option maxRecDepth 20000 in
theorem ggX8_adds_X4_push : GoodIn wsX8_adds wsX4_push := goodIn_r _ [120, 121, 122, 123, 124, 125, 119, 126, 127, 24, 25, 17, 26, 27, 28, 19, 29, 30, 31, 32, 33, 34, 35, 156, 157, 146, 147, 148, 149, 150, 151, 152] (by decide +kernel) (by decide +kernel)
set_option maxRecDepth 20000 in
theorem gX8_adds_X4_push : GoodIn wsX8_adds (wsV RX8 160 RX4 yX4_push wsX4_push) := goodIn_app (goodIn_of _ (by decide +kernel)) ggX8_adds_X4_push
set_option maxRecDepth 20000 in
theorem ggX8_adds_X3_placesUnlike : GoodIn wsX8_adds wsX3_placesUnlike := goodIn_r _ [131, 27, 35, 146, 147, 148, 149, 150, 151, 152] (by decide +kernel) (by decide +kernel)
set_option maxRecDepth 20000 in
theorem gX8_adds_X3_placesUnlike : GoodIn wsX8_adds (wsV RX8 180 RX3 yX3_placesUnlike wsX3_placesUnlike) := goodIn_app (goodIn_of _ (by decide +kernel)) ggX8_adds_X3_placesUnlike
theorem dX8_adds_0 : decode cX8_adds 0 = .ok (.aload_n 0, 1) := by decide +kernel
theorem dX8_adds_1 : decode cX8_adds 1 = .ok (.getfield 29, 3) := by decide +kernel
theorem dX8_adds_4 : decode cX8_adds 4 = .ok (.getfield 92, 3) := by decide +kernel
theorem dX8_adds_7 : decode cX8_adds 7 = .ok (.ifCond .eq 17, 3) := by decide +kernel
theorem dX8_adds_10 : decode cX8_adds 10 = .ok (.aload_n 0, 1) := by decide +kernel
theorem dX8_adds_11 : decode cX8_adds 11 = .ok (.getfield 29, 3) := by decide +kernel
theorem dX8_adds_14 : decode cX8_adds 14 = .ok (.aload_n 0, 1) := by decide +kernel
theorem dX8_adds_15 : decode cX8_adds 15 = .ok (.getfield 10, 3) := by decide +kernel
theorem dX8_adds_18 : decode cX8_adds 18 = .ok (.invokevirtual 172, 3) := by decide +kernel
theorem dX8_adds_21 : decode cX8_adds 21 = .ok (.ifCond .eq 6, 3) := by decide +kernel
theorem dX8_adds_24 : decode cX8_adds 24 = .ok (.bipush (-2), 2) := by decide +kernel
theorem dX8_adds_26 : decode cX8_adds 26 = .ok (.ireturn, 1) := by decide +kernel
theorem dX8_adds_27 : decode cX8_adds 27 = .ok (.aload_n 0, 1) := by decide +kernel
theorem dX8_adds_28 : decode cX8_adds 28 = .ok (.getfield 16, 3) := by decide +kernel
theorem dX8_adds_31 : decode cX8_adds 31 = .ok (.aload_n 0, 1) := by decide +kernel
theorem dX8_adds_32 : decode cX8_adds 32 = .ok (.getfield 10, 3) := by decide +kernel
theorem dX8_adds_35 : decode cX8_adds 35 = .ok (.invokevirtual 88, 3) := by decide +kernel
theorem dX8_adds_38 : decode cX8_adds 38 = .ok (.aload_n 0, 1) := by decide +kernel
theorem dX8_adds_39 : decode cX8_adds 39 = .ok (.invokevirtual 176, 3) := by decide +kernel
theorem dX8_adds_42 : decode cX8_adds 42 = .ok (.istore_n 1, 1) := by decide +kernel
theorem dX8_adds_43 : decode cX8_adds 43 = .ok (.aload_n 0, 1) := by decide +kernel
theorem dX8_adds_44 : decode cX8_adds 44 = .ok (.getfield 29, 3) := by decide +kernel
theorem dX8_adds_47 : decode cX8_adds 47 = .ok (.iconst 0, 1) := by decide +kernel
theorem dX8_adds_48 : decode cX8_adds 48 = .ok (.putfield 92, 3) := by decide +kernel
theorem dX8_adds_51 : decode cX8_adds 51 = .ok (.iload_n 1, 1) := by decide +kernel
theorem dX8_adds_52 : decode cX8_adds 52 = .ok (.ifCond .ne 17, 3) := by decide +kernel
theorem dX8_adds_55 : decode cX8_adds 55 = .ok (.aload_n 0, 1) := by decide +kernel
theorem dX8_adds_56 : decode cX8_adds 56 = .ok (.getfield 10, 3) := by decide +kernel
theorem dX8_adds_59 : decode cX8_adds 59 = .ok (.aload_n 0, 1) := by decide +kernel
theorem dX8_adds_60 : decode cX8_adds 60 = .ok (.getfield 16, 3) := by decide +kernel
theorem dX8_adds_63 : decode cX8_adds 63 = .ok (.invokevirtual 88, 3) := by decide +kernel
theorem dX8_adds_66 : decode cX8_adds 66 = .ok (.bipush (-4), 2) := by decide +kernel
theorem dX8_adds_68 : decode cX8_adds 68 = .ok (.ireturn, 1) := by decide +kernel
theorem dX8_adds_69 : decode cX8_adds 69 = .ok (.aload_n 0, 1) := by decide +kernel
theorem dX8_adds_70 : decode cX8_adds 70 = .ok (.getfield 36, 3) := by decide +kernel
theorem dX8_adds_73 : decode cX8_adds 73 = .ok (.aload_n 0, 1) := by decide +kernel
theorem dX8_adds_74 : decode cX8_adds 74 = .ok (.getfield 16, 3) := by decide +kernel
theorem dX8_adds_77 : decode cX8_adds 77 = .ok (.invokevirtual 160, 3) := by decide +kernel
theorem dX8_adds_80 : decode cX8_adds 80 = .ok (.aload_n 0, 1) := by decide +kernel
theorem dX8_adds_81 : decode cX8_adds 81 = .ok (.getfield 10, 3) := by decide +kernel
theorem dX8_adds_84 : decode cX8_adds 84 = .ok (.aload_n 0, 1) := by decide +kernel
theorem dX8_adds_85 : decode cX8_adds 85 = .ok (.getfield 16, 3) := by decide +kernel
theorem dX8_adds_88 : decode cX8_adds 88 = .ok (.invokevirtual 180, 3) := by decide +kernel
theorem dX8_adds_91 : decode cX8_adds 91 = .ok (.ireturn, 1) := by decide +kernel
set_option maxRecDepth 20000 in
theorem ggX8_cuts_X3_isPair : GoodIn wsX8_cuts wsX3_isPair := goodIn_r _ [8, 9, 10, 11, 7, 12, 13, 60, 61, 62, 63, 64, 65, 66] (by decide +kernel) (by decide +kernel)
set_option maxRecDepth 20000 in
theorem gX8_cuts_X3_isPair : GoodIn wsX8_cuts (wsV RX8 146 RX3 yX3_isPair wsX3_isPair) := goodIn_app (goodIn_of _ (by decide +kernel)) ggX8_cuts_X3_isPair
set_option maxRecDepth 20000 in
theorem ggX8_cuts_X3_has : GoodIn wsX8_cuts wsX3_has := goodIn_r _ [17, 18, 19, 20, 21, 60, 61, 62, 63, 64, 65, 66] (by decide +kernel) (by decide +kernel)
set_option maxRecDepth 20000 in
theorem gX8_cuts_X3_has : GoodIn wsX8_cuts (wsV RX8 150 RX3 yX3_has wsX3_has) := goodIn_app (goodIn_of _ (by decide +kernel)) ggX8_cuts_X3_has
set_option maxRecDepth 20000 in
theorem ggX8_cuts_X4_push : GoodIn wsX8_cuts wsX4_push := goodIn_r _ [26, 27, 28, 29, 30, 31, 25, 32, 33, 34, 35, 7, 36, 13, 37, 18, 38, 39, 40, 41, 42, 43, 44, 67, 68, 60, 61, 62, 63, 64, 65, 66] (by decide +kernel) (by decide +kernel)
set_option maxRecDepth 20000 in
theorem gX8_cuts_X4_push : GoodIn wsX8_cuts (wsV RX8 160 RX4 yX4_push wsX4_push) := goodIn_app (goodIn_of _ (by decide +kernel)) ggX8_cuts_X4_push
set_option maxRecDepth 20000 in
theorem ggX8_cuts_X3_part : GoodIn wsX8_cuts wsX3_part := goodIn_r _ [48, 18, 42, 37, 60, 61, 62, 63, 64, 65, 66] (by decide +kernel) (by decide +kernel)
set_option maxRecDepth 20000 in
theorem gX8_cuts_X3_part : GoodIn wsX8_cuts (wsV RX8 183 RX3 yX3_part wsX3_part) := goodIn_app (goodIn_of _ (by decide +kernel)) ggX8_cuts_X3_part
theorem dX8_cuts_0 : decode cX8_cuts 0 = .ok (.aload_n 0, 1) := by decide +kernel
theorem dX8_cuts_1 : decode cX8_cuts 1 = .ok (.getfield 10, 3) := by decide +kernel
theorem dX8_cuts_4 : decode cX8_cuts 4 = .ok (.iload_n 1, 1) := by decide +kernel
theorem dX8_cuts_5 : decode cX8_cuts 5 = .ok (.iload_n 2, 1) := by decide +kernel
theorem dX8_cuts_6 : decode cX8_cuts 6 = .ok (.invokevirtual 146, 3) := by decide +kernel
theorem dX8_cuts_9 : decode cX8_cuts 9 = .ok (.ifCond .ne 5, 3) := by decide +kernel
theorem dX8_cuts_12 : decode cX8_cuts 12 = .ok (.iconst (-1), 1) := by decide +kernel
theorem dX8_cuts_13 : decode cX8_cuts 13 = .ok (.ireturn, 1) := by decide +kernel
theorem dX8_cuts_14 : decode cX8_cuts 14 = .ok (.aload_n 0, 1) := by decide +kernel
theorem dX8_cuts_15 : decode cX8_cuts 15 = .ok (.getfield 10, 3) := by decide +kernel
theorem dX8_cuts_18 : decode cX8_cuts 18 = .ok (.iload_n 1, 1) := by decide +kernel
theorem dX8_cuts_19 : decode cX8_cuts 19 = .ok (.iload_n 2, 1) := by decide +kernel
theorem dX8_cuts_20 : decode cX8_cuts 20 = .ok (.invokevirtual 150, 3) := by decide +kernel
theorem dX8_cuts_23 : decode cX8_cuts 23 = .ok (.ifCond .ne 6, 3) := by decide +kernel
theorem dX8_cuts_26 : decode cX8_cuts 26 = .ok (.bipush (-2), 2) := by decide +kernel
theorem dX8_cuts_28 : decode cX8_cuts 28 = .ok (.ireturn, 1) := by decide +kernel
theorem dX8_cuts_29 : decode cX8_cuts 29 = .ok (.aload_n 0, 1) := by decide +kernel
theorem dX8_cuts_30 : decode cX8_cuts 30 = .ok (.getfield 36, 3) := by decide +kernel
theorem dX8_cuts_33 : decode cX8_cuts 33 = .ok (.aload_n 0, 1) := by decide +kernel
theorem dX8_cuts_34 : decode cX8_cuts 34 = .ok (.getfield 10, 3) := by decide +kernel
theorem dX8_cuts_37 : decode cX8_cuts 37 = .ok (.invokevirtual 160, 3) := by decide +kernel
theorem dX8_cuts_40 : decode cX8_cuts 40 = .ok (.aload_n 0, 1) := by decide +kernel
theorem dX8_cuts_41 : decode cX8_cuts 41 = .ok (.getfield 10, 3) := by decide +kernel
theorem dX8_cuts_44 : decode cX8_cuts 44 = .ok (.iload_n 1, 1) := by decide +kernel
theorem dX8_cuts_45 : decode cX8_cuts 45 = .ok (.iload_n 2, 1) := by decide +kernel
theorem dX8_cuts_46 : decode cX8_cuts 46 = .ok (.invokevirtual 183, 3) := by decide +kernel
theorem dX8_cuts_49 : decode cX8_cuts 49 = .ok (.aload_n 0, 1) := by decide +kernel
theorem dX8_cuts_50 : decode cX8_cuts 50 = .ok (.getfield 10, 3) := by decide +kernel
theorem dX8_cuts_53 : decode cX8_cuts 53 = .ok (.getfield 130, 3) := by decide +kernel
theorem dX8_cuts_56 : decode cX8_cuts 56 = .ok (.ireturn, 1) := by decide +kernel
set_option maxRecDepth 20000 in
theorem ggX8_sorts_X4_push : GoodIn wsX8_sorts wsX4_push := goodIn_r _ [8, 9, 10, 11, 12, 13, 7, 14, 15, 16, 17, 18, 19, 20, 21, 22, 23, 24, 25, 26, 27, 28, 29, 61, 62, 63, 64, 65, 66, 67, 68, 69] (by decide +kernel) (by decide +kernel)
set_option maxRecDepth 20000 in
theorem gX8_sorts_X4_push : GoodIn wsX8_sorts (wsV RX8 160 RX4 yX4_push wsX4_push) := goodIn_app (goodIn_of _ (by decide +kernel)) ggX8_sorts_X4_push
set_option maxRecDepth 20000 in
theorem ggX8_sorts_X3_copyOf : GoodIn wsX8_sorts wsX3_copyOf := goodIn_r _ [19, 20, 21, 22, 23, 24, 25, 26, 27, 28, 29, 63, 64, 65, 66, 67, 68, 69] (by decide +kernel) (by decide +kernel)
set_option maxRecDepth 20000 in
theorem gX8_sorts_X3_copyOf : GoodIn wsX8_sorts (wsV RX8 88 RX3 yX3_copyOf wsX3_copyOf) := goodIn_app (goodIn_of _ (by decide +kernel)) ggX8_sorts_X3_copyOf
set_option maxRecDepth 20000 in
theorem ggX8_sorts_X3_sort : GoodIn wsX8_sorts wsX3_sort := goodIn_r _ [34, 20, 35, 36, 37, 18, 38, 27, 39, 40, 41, 42, 43, 44, 45, 28, 29, 63, 64, 65, 66, 67, 68, 69] (by decide +kernel) (by decide +kernel)
set_option maxRecDepth 20000 in
theorem gX8_sorts_X3_sort : GoodIn wsX8_sorts (wsV RX8 187 RX3 yX3_sort wsX3_sort) := goodIn_app (goodIn_of _ (by decide +kernel)) ggX8_sorts_X3_sort
set_option maxRecDepth 20000 in
theorem ggX8_sorts_X3_placesUnlike : GoodIn wsX8_sorts wsX3_placesUnlike := goodIn_r _ [49, 20, 29, 63, 64, 65, 66, 67, 68, 69] (by decide +kernel) (by decide +kernel)
set_option maxRecDepth 20000 in
theorem gX8_sorts_X3_placesUnlike : GoodIn wsX8_sorts (wsV RX8 180 RX3 yX3_placesUnlike wsX3_placesUnlike) := goodIn_app (goodIn_of _ (by decide +kernel)) ggX8_sorts_X3_placesUnlike
theorem dX8_sorts_0 : decode cX8_sorts 0 = .ok (.aload_n 0, 1) := by decide +kernel
theorem dX8_sorts_1 : decode cX8_sorts 1 = .ok (.getfield 36, 3) := by decide +kernel
theorem dX8_sorts_4 : decode cX8_sorts 4 = .ok (.aload_n 0, 1) := by decide +kernel
theorem dX8_sorts_5 : decode cX8_sorts 5 = .ok (.getfield 10, 3) := by decide +kernel
theorem dX8_sorts_8 : decode cX8_sorts 8 = .ok (.invokevirtual 160, 3) := by decide +kernel
theorem dX8_sorts_11 : decode cX8_sorts 11 = .ok (.aload_n 0, 1) := by decide +kernel
theorem dX8_sorts_12 : decode cX8_sorts 12 = .ok (.getfield 16, 3) := by decide +kernel
theorem dX8_sorts_15 : decode cX8_sorts 15 = .ok (.aload_n 0, 1) := by decide +kernel
theorem dX8_sorts_16 : decode cX8_sorts 16 = .ok (.getfield 10, 3) := by decide +kernel
theorem dX8_sorts_19 : decode cX8_sorts 19 = .ok (.invokevirtual 88, 3) := by decide +kernel
theorem dX8_sorts_22 : decode cX8_sorts 22 = .ok (.aload_n 0, 1) := by decide +kernel
theorem dX8_sorts_23 : decode cX8_sorts 23 = .ok (.getfield 10, 3) := by decide +kernel
theorem dX8_sorts_26 : decode cX8_sorts 26 = .ok (.invokevirtual 187, 3) := by decide +kernel
theorem dX8_sorts_29 : decode cX8_sorts 29 = .ok (.aload_n 0, 1) := by decide +kernel
theorem dX8_sorts_30 : decode cX8_sorts 30 = .ok (.getfield 10, 3) := by decide +kernel
theorem dX8_sorts_33 : decode cX8_sorts 33 = .ok (.aload_n 0, 1) := by decide +kernel
theorem dX8_sorts_34 : decode cX8_sorts 34 = .ok (.getfield 16, 3) := by decide +kernel
theorem dX8_sorts_37 : decode cX8_sorts 37 = .ok (.invokevirtual 180, 3) := by decide +kernel
theorem dX8_sorts_40 : decode cX8_sorts 40 = .ok (.ireturn, 1) := by decide +kernel
set_option maxRecDepth 20000 in
theorem ggX8_undo_X4_pop : GoodIn wsX8_undo wsX4_pop := goodIn_r _ [8, 9, 10, 11, 12, 13, 14, 15, 16, 17, 18, 19, 20, 21, 22, 23, 24, 25, 37, 38, 39, 40, 41, 42, 43, 44, 45] (by decide +kernel) (by decide +kernel)
set_option maxRecDepth 20000 in
theorem gX8_undo_X4_pop : GoodIn wsX8_undo (wsV RX8 190 RX4 yX4_pop wsX4_pop) := goodIn_app (goodIn_of _ (by decide +kernel)) ggX8_undo_X4_pop
theorem dX8_undo_0 : decode cX8_undo 0 = .ok (.aload_n 0, 1) := by decide +kernel
theorem dX8_undo_1 : decode cX8_undo 1 = .ok (.getfield 36, 3) := by decide +kernel
theorem dX8_undo_4 : decode cX8_undo 4 = .ok (.aload_n 0, 1) := by decide +kernel
theorem dX8_undo_5 : decode cX8_undo 5 = .ok (.getfield 10, 3) := by decide +kernel
theorem dX8_undo_8 : decode cX8_undo 8 = .ok (.invokevirtual 190, 3) := by decide +kernel
theorem dX8_undo_11 : decode cX8_undo 11 = .ok (.ifCond .eq 13, 3) := by decide +kernel
theorem dX8_undo_14 : decode cX8_undo 14 = .ok (.aload_n 0, 1) := by decide +kernel
theorem dX8_undo_15 : decode cX8_undo 15 = .ok (.getfield 36, 3) := by decide +kernel
theorem dX8_undo_18 : decode cX8_undo 18 = .ok (.getfield 95, 3) := by decide +kernel
theorem dX8_undo_21 : decode cX8_undo 21 = .ok (.goto 5, 3) := by decide +kernel
theorem dX8_undo_24 : decode cX8_undo 24 = .ok (.bipush (-2), 2) := by decide +kernel
theorem dX8_undo_26 : decode cX8_undo 26 = .ok (.ireturn, 1) := by decide +kernel
theorem dX8_lap_0 : decode cX8_lap 0 = .ok (.iload_n 1, 1) := by decide +kernel
theorem dX8_lap_1 : decode cX8_lap 1 = .ok (.iconst (-1), 1) := by decide +kernel
theorem dX8_lap_2 : decode cX8_lap 2 = .ok (.if_icmp .ge 5, 3) := by decide +kernel
theorem dX8_lap_5 : decode cX8_lap 5 = .ok (.iconst (-1), 1) := by decide +kernel
theorem dX8_lap_6 : decode cX8_lap 6 = .ok (.ireturn, 1) := by decide +kernel
theorem dX8_lap_7 : decode cX8_lap 7 = .ok (.iload_n 1, 1) := by decide +kernel
theorem dX8_lap_8 : decode cX8_lap 8 = .ok (.iconst (-1), 1) := by decide +kernel
theorem dX8_lap_9 : decode cX8_lap 9 = .ok (.if_icmp .ne 11, 3) := by decide +kernel
theorem dX8_lap_12 : decode cX8_lap 12 = .ok (.aload_n 0, 1) := by decide +kernel
theorem dX8_lap_13 : decode cX8_lap 13 = .ok (.getfield 43, 3) := by decide +kernel
theorem dX8_lap_16 : decode cX8_lap 16 = .ok (.getfield 193, 3) := by decide +kernel
theorem dX8_lap_19 : decode cX8_lap 19 = .ok (.ireturn, 1) := by decide +kernel
theorem dX8_lap_20 : decode cX8_lap 20 = .ok (.iload_n 1, 1) := by decide +kernel
theorem dX8_lap_21 : decode cX8_lap 21 = .ok (.aload_n 0, 1) := by decide +kernel
theorem dX8_lap_22 : decode cX8_lap 22 = .ok (.getfield 43, 3) := by decide +kernel
theorem dX8_lap_25 : decode cX8_lap 25 = .ok (.getfield 193, 3) := by decide +kernel
theorem dX8_lap_28 : decode cX8_lap 28 = .ok (.if_icmp .ge 15, 3) := by decide +kernel
theorem dX8_lap_31 : decode cX8_lap 31 = .ok (.aload_n 0, 1) := by decide +kernel
theorem dX8_lap_32 : decode cX8_lap 32 = .ok (.getfield 43, 3) := by decide +kernel
theorem dX8_lap_35 : decode cX8_lap 35 = .ok (.getfield 194, 3) := by decide +kernel
theorem dX8_lap_38 : decode cX8_lap 38 = .ok (.iload_n 1, 1) := by decide +kernel
theorem dX8_lap_39 : decode cX8_lap 39 = .ok (.iaload, 1) := by decide +kernel
theorem dX8_lap_40 : decode cX8_lap 40 = .ok (.goto 5, 3) := by decide +kernel
theorem dX8_lap_43 : decode cX8_lap 43 = .ok (.bipush (-9), 2) := by decide +kernel
theorem dX8_lap_45 : decode cX8_lap 45 = .ok (.ireturn, 1) := by decide +kernel
set_option maxRecDepth 20000 in
theorem ggX8_arc_X3_isPair : GoodIn wsX8_arc wsX3_isPair := goodIn_r _ [6, 7, 8, 9, 5, 10, 11, 61, 62, 63, 64, 65, 66, 67] (by decide +kernel) (by decide +kernel)
set_option maxRecDepth 20000 in
theorem gX8_arc_X3_isPair : GoodIn wsX8_arc (wsV RX8 146 RX3 yX3_isPair wsX3_isPair) := goodIn_app (goodIn_of _ (by decide +kernel)) ggX8_arc_X3_isPair
set_option maxRecDepth 20000 in
theorem ggX8_arc_X3_has : GoodIn wsX8_arc wsX3_has := goodIn_r _ [15, 16, 17, 18, 19, 61, 62, 63, 64, 65, 66, 67] (by decide +kernel) (by decide +kernel)
set_option maxRecDepth 20000 in
theorem gX8_arc_X3_has : GoodIn wsX8_arc (wsV RX8 150 RX3 yX3_has wsX3_has) := goodIn_app (goodIn_of _ (by decide +kernel)) ggX8_arc_X3_has
set_option maxRecDepth 20000 in
theorem ggX8_arc_X3_movedBy : GoodIn wsX8_arc wsX3_movedBy := goodIn_r _ [23, 24, 25, 26, 5, 27, 28, 29, 30, 31, 32, 33, 34, 17, 18, 19, 35, 36, 37, 38, 39, 40, 41, 42, 16, 43, 44, 45, 46, 61, 62, 63, 64, 65, 66, 67] (by decide +kernel) (by decide +kernel)
set_option maxRecDepth 20000 in
theorem gX8_arc_X3_movedBy : GoodIn wsX8_arc (wsV RX8 196 RX3 yX3_movedBy wsX3_movedBy) := goodIn_app (goodIn_of _ (by decide +kernel)) ggX8_arc_X3_movedBy
set_option maxRecDepth 20000 in
theorem ggX8_arc_X3_closesRing : GoodIn wsX8_arc wsX3_closesRing := goodIn_r _ [27, 28, 29, 30, 31, 5, 32, 33, 34, 17, 18, 19, 61, 62, 63, 64, 65, 66, 67] (by decide +kernel) (by decide +kernel)
set_option maxRecDepth 20000 in
theorem gX8_arc_X3_closesRing : GoodIn wsX8_arc (wsV RX8 153 RX3 yX3_closesRing wsX3_closesRing) := goodIn_app (goodIn_of _ (by decide +kernel)) ggX8_arc_X3_closesRing
set_option maxRecDepth 20000 in
theorem ggX8_arc_X3_before : GoodIn wsX8_arc wsX3_before := goodIn_r _ [38, 28, 39, 40, 41, 5, 42, 33, 16, 61, 62, 63, 64, 65, 66, 67] (by decide +kernel) (by decide +kernel)
set_option maxRecDepth 20000 in
theorem gX8_arc_X3_before : GoodIn wsX8_arc (wsV RX8 199 RX3 yX3_before wsX3_before) := goodIn_app (goodIn_of _ (by decide +kernel)) ggX8_arc_X3_before
set_option maxRecDepth 20000 in
theorem ggX8_arc_X3_after : GoodIn wsX8_arc wsX3_after := goodIn_r _ [46, 28, 29, 30, 31, 5, 32, 33, 34, 61, 62, 63, 64, 65, 66, 67] (by decide +kernel) (by decide +kernel)
set_option maxRecDepth 20000 in
theorem gX8_arc_X3_after : GoodIn wsX8_arc (wsV RX8 202 RX3 yX3_after wsX3_after) := goodIn_app (goodIn_of _ (by decide +kernel)) ggX8_arc_X3_after
theorem dX8_arc_0 : decode cX8_arc 0 = .ok (.aload_n 0, 1) := by decide +kernel
theorem dX8_arc_1 : decode cX8_arc 1 = .ok (.getfield 10, 3) := by decide +kernel
theorem dX8_arc_4 : decode cX8_arc 4 = .ok (.iload_n 1, 1) := by decide +kernel
theorem dX8_arc_5 : decode cX8_arc 5 = .ok (.iload_n 2, 1) := by decide +kernel
theorem dX8_arc_6 : decode cX8_arc 6 = .ok (.invokevirtual 146, 3) := by decide +kernel
theorem dX8_arc_9 : decode cX8_arc 9 = .ok (.ifCond .eq 12, 3) := by decide +kernel
theorem dX8_arc_12 : decode cX8_arc 12 = .ok (.iload_n 3, 1) := by decide +kernel
theorem dX8_arc_13 : decode cX8_arc 13 = .ok (.ifCond .lt 8, 3) := by decide +kernel
theorem dX8_arc_16 : decode cX8_arc 16 = .ok (.iload_n 3, 1) := by decide +kernel
theorem dX8_arc_17 : decode cX8_arc 17 = .ok (.iconst 3, 1) := by decide +kernel
theorem dX8_arc_18 : decode cX8_arc 18 = .ok (.if_icmp .le 5, 3) := by decide +kernel
theorem dX8_arc_21 : decode cX8_arc 21 = .ok (.iconst (-1), 1) := by decide +kernel
theorem dX8_arc_22 : decode cX8_arc 22 = .ok (.ireturn, 1) := by decide +kernel
theorem dX8_arc_23 : decode cX8_arc 23 = .ok (.aload_n 0, 1) := by decide +kernel
theorem dX8_arc_24 : decode cX8_arc 24 = .ok (.getfield 10, 3) := by decide +kernel
theorem dX8_arc_27 : decode cX8_arc 27 = .ok (.iload_n 1, 1) := by decide +kernel
theorem dX8_arc_28 : decode cX8_arc 28 = .ok (.iload_n 2, 1) := by decide +kernel
theorem dX8_arc_29 : decode cX8_arc 29 = .ok (.invokevirtual 150, 3) := by decide +kernel
theorem dX8_arc_32 : decode cX8_arc 32 = .ok (.ifCond .eq 6, 3) := by decide +kernel
theorem dX8_arc_35 : decode cX8_arc 35 = .ok (.bipush (-2), 2) := by decide +kernel
theorem dX8_arc_37 : decode cX8_arc 37 = .ok (.ireturn, 1) := by decide +kernel
theorem dX8_arc_38 : decode cX8_arc 38 = .ok (.iload_n 3, 1) := by decide +kernel
theorem dX8_arc_39 : decode cX8_arc 39 = .ok (.tableswitch 63 0 2 #[25, 35, 53], 25) := by decide +kernel
theorem dX8_arc_64 : decode cX8_arc 64 = .ok (.aload_n 0, 1) := by decide +kernel
theorem dX8_arc_65 : decode cX8_arc 65 = .ok (.getfield 10, 3) := by decide +kernel
theorem dX8_arc_68 : decode cX8_arc 68 = .ok (.iload_n 1, 1) := by decide +kernel
theorem dX8_arc_69 : decode cX8_arc 69 = .ok (.iload_n 2, 1) := by decide +kernel
theorem dX8_arc_70 : decode cX8_arc 70 = .ok (.invokevirtual 196, 3) := by decide +kernel
theorem dX8_arc_73 : decode cX8_arc 73 = .ok (.ireturn, 1) := by decide +kernel
theorem dX8_arc_74 : decode cX8_arc 74 = .ok (.aload_n 0, 1) := by decide +kernel
theorem dX8_arc_75 : decode cX8_arc 75 = .ok (.getfield 10, 3) := by decide +kernel
theorem dX8_arc_78 : decode cX8_arc 78 = .ok (.iload_n 1, 1) := by decide +kernel
theorem dX8_arc_79 : decode cX8_arc 79 = .ok (.iload_n 2, 1) := by decide +kernel
theorem dX8_arc_80 : decode cX8_arc 80 = .ok (.invokevirtual 153, 3) := by decide +kernel
theorem dX8_arc_83 : decode cX8_arc 83 = .ok (.ifCond .eq 7, 3) := by decide +kernel
theorem dX8_arc_86 : decode cX8_arc 86 = .ok (.iconst 1, 1) := by decide +kernel
theorem dX8_arc_87 : decode cX8_arc 87 = .ok (.goto 4, 3) := by decide +kernel
theorem dX8_arc_90 : decode cX8_arc 90 = .ok (.iconst 0, 1) := by decide +kernel
theorem dX8_arc_91 : decode cX8_arc 91 = .ok (.ireturn, 1) := by decide +kernel
theorem dX8_arc_92 : decode cX8_arc 92 = .ok (.aload_n 0, 1) := by decide +kernel
theorem dX8_arc_93 : decode cX8_arc 93 = .ok (.getfield 10, 3) := by decide +kernel
theorem dX8_arc_96 : decode cX8_arc 96 = .ok (.iload_n 1, 1) := by decide +kernel
theorem dX8_arc_97 : decode cX8_arc 97 = .ok (.iload_n 2, 1) := by decide +kernel
theorem dX8_arc_98 : decode cX8_arc 98 = .ok (.invokevirtual 199, 3) := by decide +kernel
theorem dX8_arc_101 : decode cX8_arc 101 = .ok (.ireturn, 1) := by decide +kernel
theorem dX8_arc_102 : decode cX8_arc 102 = .ok (.aload_n 0, 1) := by decide +kernel
theorem dX8_arc_103 : decode cX8_arc 103 = .ok (.getfield 10, 3) := by decide +kernel
theorem dX8_arc_106 : decode cX8_arc 106 = .ok (.iload_n 1, 1) := by decide +kernel
theorem dX8_arc_107 : decode cX8_arc 107 = .ok (.iload_n 2, 1) := by decide +kernel
theorem dX8_arc_108 : decode cX8_arc 108 = .ok (.invokevirtual 202, 3) := by decide +kernel
theorem dX8_arc_111 : decode cX8_arc 111 = .ok (.ireturn, 1) := by decide +kernel
set_option maxRecDepth 20000 in
theorem ggX8_orders_X6_all : GoodIn wsX8_orders wsX6_all := goodIn_r _ [7, 8, 9, 10, 11, 6, 12, 13, 14, 15, 16, 17, 18, 19, 20, 21, 22, 23, 24, 25, 26, 27, 28, 29, 30, 31, 32, 33, 34, 35, 36, 37, 38, 39, 40, 41, 42, 43, 44, 45, 46, 47, 48, 49, 61, 62, 63, 64, 65, 66, 67, 68, 69, 70] (by decide +kernel) (by decide +kernel)
set_option maxRecDepth 20000 in
theorem gX8_orders_X6_all : GoodIn wsX8_orders (wsV RX8 205 RX6 yX6_all wsX6_all) := goodIn_app (goodIn_of _ (by decide +kernel)) ggX8_orders_X6_all
theorem dX8_orders_0 : decode cX8_orders 0 = .ok (.aload_n 0, 1) := by decide +kernel
theorem dX8_orders_1 : decode cX8_orders 1 = .ok (.getfield 57, 3) := by decide +kernel
theorem dX8_orders_4 : decode cX8_orders 4 = .ok (.aload_n 0, 1) := by decide +kernel
theorem dX8_orders_5 : decode cX8_orders 5 = .ok (.getfield 10, 3) := by decide +kernel
theorem dX8_orders_8 : decode cX8_orders 8 = .ok (.invokevirtual 205, 3) := by decide +kernel
theorem dX8_orders_11 : decode cX8_orders 11 = .ok (.lreturn, 1) := by decide +kernel
set_option maxRecDepth 20000 in
theorem ggX8_number_X6_rank : GoodIn wsX8_number wsX6_rank := goodIn_r _ [7, 8, 9, 10, 11, 12, 13, 6, 14, 15, 16, 17, 18, 19, 20, 21, 22, 23, 24, 25, 26, 27, 28, 29, 30, 31, 32, 33, 34, 35, 36, 37, 38, 39, 40, 41, 42, 43, 44, 45, 46, 47, 48, 49, 50, 62, 63, 64, 65, 66, 67, 68, 69, 70, 71] (by decide +kernel) (by decide +kernel)
set_option maxRecDepth 20000 in
theorem gX8_number_X6_rank : GoodIn wsX8_number (wsV RX8 209 RX6 yX6_rank wsX6_rank) := goodIn_app (goodIn_of _ (by decide +kernel)) ggX8_number_X6_rank
theorem dX8_number_0 : decode cX8_number 0 = .ok (.aload_n 0, 1) := by decide +kernel
theorem dX8_number_1 : decode cX8_number 1 = .ok (.getfield 57, 3) := by decide +kernel
theorem dX8_number_4 : decode cX8_number 4 = .ok (.aload_n 0, 1) := by decide +kernel
theorem dX8_number_5 : decode cX8_number 5 = .ok (.getfield 10, 3) := by decide +kernel
theorem dX8_number_8 : decode cX8_number 8 = .ok (.invokevirtual 209, 3) := by decide +kernel
theorem dX8_number_11 : decode cX8_number 11 = .ok (.lreturn, 1) := by decide +kernel
set_option maxRecDepth 20000 in
theorem ggX8_kth_X3_isItem : GoodIn wsX8_kth wsX3_isItem := goodIn_r _ [7, 8, 69, 70, 71, 72, 73, 74, 75] (by decide +kernel) (by decide +kernel)
set_option maxRecDepth 20000 in
theorem gX8_kth_X3_isItem : GoodIn wsX8_kth (wsV RX8 99 RX3 yX3_isItem wsX3_isItem) := goodIn_app (goodIn_of _ (by decide +kernel)) ggX8_kth_X3_isItem
set_option maxRecDepth 20000 in
theorem ggX8_kth_X6_itemOf : GoodIn wsX8_kth wsX6_itemOf := goodIn_r _ [13, 14, 15, 16, 17, 18, 12, 19, 20, 21, 22, 23, 24, 25, 26, 27, 28, 6, 29, 8, 30, 31, 32, 33, 34, 35, 36, 37, 38, 39, 40, 41, 42, 43, 44, 45, 46, 47, 48, 49, 50, 51, 52, 53, 54, 55, 56, 57, 69, 70, 71, 72, 73, 74, 75, 76, 77, 78] (by decide +kernel) (by decide +kernel)
set_option maxRecDepth 20000 in
theorem gX8_kth_X6_itemOf : GoodIn wsX8_kth (wsV RX8 212 RX6 yX6_itemOf wsX6_itemOf) := goodIn_app (goodIn_of _ (by decide +kernel)) ggX8_kth_X6_itemOf
theorem dX8_kth_0 : decode cX8_kth 0 = .ok (.aload_n 0, 1) := by decide +kernel
theorem dX8_kth_1 : decode cX8_kth 1 = .ok (.getfield 10, 3) := by decide +kernel
theorem dX8_kth_4 : decode cX8_kth 4 = .ok (.iload_n 3, 1) := by decide +kernel
theorem dX8_kth_5 : decode cX8_kth 5 = .ok (.invokevirtual 99, 3) := by decide +kernel
theorem dX8_kth_8 : decode cX8_kth 8 = .ok (.ifCond .eq 9, 3) := by decide +kernel
theorem dX8_kth_11 : decode cX8_kth 11 = .ok (.lload_n 1, 1) := by decide +kernel
theorem dX8_kth_12 : decode cX8_kth 12 = .ok (.lconst 0, 1) := by decide +kernel
theorem dX8_kth_13 : decode cX8_kth 13 = .ok (.lcmp, 1) := by decide +kernel
theorem dX8_kth_14 : decode cX8_kth 14 = .ok (.ifCond .ge 5, 3) := by decide +kernel
theorem dX8_kth_17 : decode cX8_kth 17 = .ok (.iconst (-1), 1) := by decide +kernel
theorem dX8_kth_18 : decode cX8_kth 18 = .ok (.ireturn, 1) := by decide +kernel
theorem dX8_kth_19 : decode cX8_kth 19 = .ok (.aload_n 0, 1) := by decide +kernel
theorem dX8_kth_20 : decode cX8_kth 20 = .ok (.getfield 57, 3) := by decide +kernel
theorem dX8_kth_23 : decode cX8_kth 23 = .ok (.aload_n 0, 1) := by decide +kernel
theorem dX8_kth_24 : decode cX8_kth 24 = .ok (.getfield 10, 3) := by decide +kernel
theorem dX8_kth_27 : decode cX8_kth 27 = .ok (.lload_n 1, 1) := by decide +kernel
theorem dX8_kth_28 : decode cX8_kth 28 = .ok (.iload_n 3, 1) := by decide +kernel
theorem dX8_kth_29 : decode cX8_kth 29 = .ok (.invokevirtual 212, 3) := by decide +kernel
theorem dX8_kth_32 : decode cX8_kth 32 = .ok (.ireturn, 1) := by decide +kernel
set_option maxRecDepth 20000 in
theorem ggX8_days_X1_fewestDays : GoodIn wsX8_days wsX1_fewestDays := goodIn_r _ [7, 8, 9, 10, 11, 12, 13, 14, 15, 16, 17, 18, 19, 20, 21, 22, 23, 24, 25, 26, 27, 28, 29, 30, 31, 32, 33, 34, 35, 36, 37, 38, 39, 40, 41, 42, 43, 6, 44, 56, 57, 58, 59, 60, 61, 62, 63] (by decide +kernel) (by decide +kernel)
set_option maxRecDepth 20000 in
theorem gX8_days_X1_fewestDays : GoodIn wsX8_days (wsV RX8 216 RX1 yX1_fewestDays wsX1_fewestDays) := goodIn_app (goodIn_of _ (by decide +kernel)) ggX8_days_X1_fewestDays
theorem dX8_days_0 : decode cX8_days 0 = .ok (.iload_n 1, 1) := by decide +kernel
theorem dX8_days_1 : decode cX8_days 1 = .ok (.iconst 1, 1) := by decide +kernel
theorem dX8_days_2 : decode cX8_days 2 = .ok (.if_icmp .lt 8, 3) := by decide +kernel
theorem dX8_days_5 : decode cX8_days 5 = .ok (.iload_n 1, 1) := by decide +kernel
theorem dX8_days_6 : decode cX8_days 6 = .ok (.iconst 3, 1) := by decide +kernel
theorem dX8_days_7 : decode cX8_days 7 = .ok (.if_icmp .le 5, 3) := by decide +kernel
theorem dX8_days_10 : decode cX8_days 10 = .ok (.iconst (-1), 1) := by decide +kernel
theorem dX8_days_11 : decode cX8_days 11 = .ok (.ireturn, 1) := by decide +kernel
theorem dX8_days_12 : decode cX8_days 12 = .ok (.aload_n 0, 1) := by decide +kernel
theorem dX8_days_13 : decode cX8_days 13 = .ok (.getfield 64, 3) := by decide +kernel
theorem dX8_days_16 : decode cX8_days 16 = .ok (.aload_n 0, 1) := by decide +kernel
theorem dX8_days_17 : decode cX8_days 17 = .ok (.getfield 10, 3) := by decide +kernel
theorem dX8_days_20 : decode cX8_days 20 = .ok (.iload_n 1, 1) := by decide +kernel
theorem dX8_days_21 : decode cX8_days 21 = .ok (.invokevirtual 216, 3) := by decide +kernel
theorem dX8_days_24 : decode cX8_days 24 = .ok (.ireturn, 1) := by decide +kernel
set_option maxRecDepth 20000 in
theorem ggX8_sees_X3_isItem : GoodIn wsX8_sees wsX3_isItem := goodIn_r _ [8, 9, 35, 36, 37, 38, 39, 40, 41] (by decide +kernel) (by decide +kernel)
set_option maxRecDepth 20000 in
theorem gX8_sees_X3_isItem : GoodIn wsX8_sees (wsV RX8 99 RX3 yX3_isItem wsX3_isItem) := goodIn_app (goodIn_of _ (by decide +kernel)) ggX8_sees_X3_isItem
set_option maxRecDepth 20000 in
theorem ggX8_sees_X5_append : GoodIn wsX8_sees wsX5_append := goodIn_r _ [14, 15, 16, 17, 29, 30, 31, 32, 33, 34] (by decide +kernel) (by decide +kernel)
set_option maxRecDepth 20000 in
theorem gX8_sees_X5_append : GoodIn wsX8_sees (wsV RX8 220 RX5 yX5_append wsX5_append) := goodIn_app (goodIn_of _ (by decide +kernel)) ggX8_sees_X5_append
theorem dX8_sees_0 : decode cX8_sees 0 = .ok (.aload_n 0, 1) := by decide +kernel
theorem dX8_sees_1 : decode cX8_sees 1 = .ok (.getfield 10, 3) := by decide +kernel
theorem dX8_sees_4 : decode cX8_sees 4 = .ok (.iload_n 1, 1) := by decide +kernel
theorem dX8_sees_5 : decode cX8_sees 5 = .ok (.invokevirtual 99, 3) := by decide +kernel
theorem dX8_sees_8 : decode cX8_sees 8 = .ok (.ifCond .eq 12, 3) := by decide +kernel
theorem dX8_sees_11 : decode cX8_sees 11 = .ok (.iload_n 2, 1) := by decide +kernel
theorem dX8_sees_12 : decode cX8_sees 12 = .ok (.ifCond .lt 8, 3) := by decide +kernel
theorem dX8_sees_15 : decode cX8_sees 15 = .ok (.iload_n 2, 1) := by decide +kernel
theorem dX8_sees_16 : decode cX8_sees 16 = .ok (.iconst 1, 1) := by decide +kernel
theorem dX8_sees_17 : decode cX8_sees 17 = .ok (.if_icmp .le 5, 3) := by decide +kernel
theorem dX8_sees_20 : decode cX8_sees 20 = .ok (.iconst (-1), 1) := by decide +kernel
theorem dX8_sees_21 : decode cX8_sees 21 = .ok (.ireturn, 1) := by decide +kernel
theorem dX8_sees_22 : decode cX8_sees 22 = .ok (.aload_n 0, 1) := by decide +kernel
theorem dX8_sees_23 : decode cX8_sees 23 = .ok (.getfield 50, 3) := by decide +kernel
theorem dX8_sees_26 : decode cX8_sees 26 = .ok (.iload_n 1, 1) := by decide +kernel
theorem dX8_sees_27 : decode cX8_sees 27 = .ok (.iload_n 2, 1) := by decide +kernel
theorem dX8_sees_28 : decode cX8_sees 28 = .ok (.invokevirtual 220, 3) := by decide +kernel
theorem dX8_sees_31 : decode cX8_sees 31 = .ok (.ifCond .eq 13, 3) := by decide +kernel
theorem dX8_sees_34 : decode cX8_sees 34 = .ok (.aload_n 0, 1) := by decide +kernel
theorem dX8_sees_35 : decode cX8_sees 35 = .ok (.getfield 50, 3) := by decide +kernel
theorem dX8_sees_38 : decode cX8_sees 38 = .ok (.getfield 221, 3) := by decide +kernel
theorem dX8_sees_41 : decode cX8_sees 41 = .ok (.goto 5, 3) := by decide +kernel
theorem dX8_sees_44 : decode cX8_sees 44 = .ok (.bipush (-3), 2) := by decide +kernel
theorem dX8_sees_46 : decode cX8_sees 46 = .ok (.ireturn, 1) := by decide +kernel
set_option maxRecDepth 20000 in
theorem ggX8_forget_X5_empty : GoodIn wsX8_forget wsX5_empty := goodIn_r _ [7, 8, 9, 10, 22, 23, 24, 25, 26, 27] (by decide +kernel) (by decide +kernel)
set_option maxRecDepth 20000 in
theorem gX8_forget_X5_empty : GoodIn wsX8_forget (wsV RX8 96 RX5 yX5_empty wsX5_empty) := goodIn_app (goodIn_of _ (by decide +kernel)) ggX8_forget_X5_empty
theorem dX8_forget_0 : decode cX8_forget 0 = .ok (.aload_n 0, 1) := by decide +kernel
theorem dX8_forget_1 : decode cX8_forget 1 = .ok (.getfield 50, 3) := by decide +kernel
theorem dX8_forget_4 : decode cX8_forget 4 = .ok (.getfield 221, 3) := by decide +kernel
theorem dX8_forget_7 : decode cX8_forget 7 = .ok (.istore_n 1, 1) := by decide +kernel
theorem dX8_forget_8 : decode cX8_forget 8 = .ok (.aload_n 0, 1) := by decide +kernel
theorem dX8_forget_9 : decode cX8_forget 9 = .ok (.getfield 50, 3) := by decide +kernel
theorem dX8_forget_12 : decode cX8_forget 12 = .ok (.invokevirtual 96, 3) := by decide +kernel
theorem dX8_forget_15 : decode cX8_forget 15 = .ok (.iload_n 1, 1) := by decide +kernel
theorem dX8_forget_16 : decode cX8_forget 16 = .ok (.ireturn, 1) := by decide +kernel
set_option maxRecDepth 20000 in
theorem ggX8_unseen_X5_weigh : GoodIn wsX8_unseen wsX5_weigh := goodIn_r _ [9, 10, 11, 12, 13, 14, 15, 16, 17, 18, 19, 20, 21, 22, 23, 24, 25, 26, 27, 28, 29, 30, 31, 32, 33, 34, 35, 36, 37, 38, 39, 40, 41, 42, 43, 44, 45, 46, 47, 48, 49, 50, 51, 52, 53, 54, 55, 56, 57, 58, 59, 60, 61, 62, 63, 64, 65, 66, 67, 68, 69, 70, 71, 8, 72, 73, 74, 86, 87, 88, 89, 90, 91, 92, 93, 94, 95, 96, 97, 98] (by decide +kernel) (by decide +kernel)
set_option maxRecDepth 20000 in
theorem gX8_unseen_X5_weigh : GoodIn wsX8_unseen (wsV RX8 222 RX5 yX5_weigh wsX5_weigh) := goodIn_app (goodIn_of _ (by decide +kernel)) ggX8_unseen_X5_weigh
theorem dX8_unseen_0 : decode cX8_unseen 0 = .ok (.iload_n 1, 1) := by decide +kernel
theorem dX8_unseen_1 : decode cX8_unseen 1 = .ok (.ifCond .lt 8, 3) := by decide +kernel
theorem dX8_unseen_4 : decode cX8_unseen 4 = .ok (.iload_n 1, 1) := by decide +kernel
theorem dX8_unseen_5 : decode cX8_unseen 5 = .ok (.iconst 1, 1) := by decide +kernel
theorem dX8_unseen_6 : decode cX8_unseen 6 = .ok (.if_icmp .le 5, 3) := by decide +kernel
theorem dX8_unseen_9 : decode cX8_unseen 9 = .ok (.iconst (-1), 1) := by decide +kernel
theorem dX8_unseen_10 : decode cX8_unseen 10 = .ok (.ireturn, 1) := by decide +kernel
theorem dX8_unseen_11 : decode cX8_unseen 11 = .ok (.aload_n 0, 1) := by decide +kernel
theorem dX8_unseen_12 : decode cX8_unseen 12 = .ok (.getfield 50, 3) := by decide +kernel
theorem dX8_unseen_15 : decode cX8_unseen 15 = .ok (.aload_n 0, 1) := by decide +kernel
theorem dX8_unseen_16 : decode cX8_unseen 16 = .ok (.getfield 10, 3) := by decide +kernel
theorem dX8_unseen_19 : decode cX8_unseen 19 = .ok (.invokevirtual 222, 3) := by decide +kernel
theorem dX8_unseen_22 : decode cX8_unseen 22 = .ok (.iload_n 1, 1) := by decide +kernel
theorem dX8_unseen_23 : decode cX8_unseen 23 = .ok (.ifCond .ne 13, 3) := by decide +kernel
theorem dX8_unseen_26 : decode cX8_unseen 26 = .ok (.aload_n 0, 1) := by decide +kernel
theorem dX8_unseen_27 : decode cX8_unseen 27 = .ok (.getfield 50, 3) := by decide +kernel
theorem dX8_unseen_30 : decode cX8_unseen 30 = .ok (.getfield 225, 3) := by decide +kernel
theorem dX8_unseen_33 : decode cX8_unseen 33 = .ok (.goto 10, 3) := by decide +kernel
theorem dX8_unseen_36 : decode cX8_unseen 36 = .ok (.aload_n 0, 1) := by decide +kernel
theorem dX8_unseen_37 : decode cX8_unseen 37 = .ok (.getfield 50, 3) := by decide +kernel
theorem dX8_unseen_40 : decode cX8_unseen 40 = .ok (.getfield 228, 3) := by decide +kernel
theorem dX8_unseen_43 : decode cX8_unseen 43 = .ok (.ireturn, 1) := by decide +kernel
set_option maxRecDepth 20000 in
theorem ggX8_look_X5_weigh : GoodIn wsX8_look wsX5_weigh := goodIn_r _ [7, 8, 9, 10, 11, 12, 13, 14, 15, 16, 17, 18, 19, 20, 21, 22, 23, 24, 25, 26, 27, 28, 29, 30, 31, 32, 33, 34, 35, 36, 37, 38, 39, 40, 41, 42, 43, 44, 45, 46, 47, 48, 49, 50, 51, 52, 53, 54, 55, 56, 57, 58, 59, 60, 61, 62, 63, 64, 65, 66, 67, 68, 69, 6, 70, 71, 72, 92, 93, 94, 95, 96, 97, 98, 99, 100, 101, 102, 103, 104] (by decide +kernel) (by decide +kernel)
set_option maxRecDepth 20000 in
theorem gX8_look_X5_weigh : GoodIn wsX8_look (wsV RX8 222 RX5 yX5_weigh wsX5_weigh) := goodIn_app (goodIn_of _ (by decide +kernel)) ggX8_look_X5_weigh
set_option maxRecDepth 20000 in
theorem ggX8_look_X5_bestItem : GoodIn wsX8_look wsX5_bestItem := goodIn_r _ [76, 8, 11, 10, 77, 78, 79, 80, 92, 93, 94, 95, 96, 97, 98, 99, 100, 101, 102, 103, 104] (by decide +kernel) (by decide +kernel)
set_option maxRecDepth 20000 in
theorem gX8_look_X5_bestItem : GoodIn wsX8_look (wsV RX8 231 RX5 yX5_bestItem wsX5_bestItem) := goodIn_app (goodIn_of _ (by decide +kernel)) ggX8_look_X5_bestItem
theorem dX8_look_0 : decode cX8_look 0 = .ok (.aload_n 0, 1) := by decide +kernel
theorem dX8_look_1 : decode cX8_look 1 = .ok (.getfield 50, 3) := by decide +kernel
theorem dX8_look_4 : decode cX8_look 4 = .ok (.aload_n 0, 1) := by decide +kernel
theorem dX8_look_5 : decode cX8_look 5 = .ok (.getfield 10, 3) := by decide +kernel
theorem dX8_look_8 : decode cX8_look 8 = .ok (.invokevirtual 222, 3) := by decide +kernel
theorem dX8_look_11 : decode cX8_look 11 = .ok (.aload_n 0, 1) := by decide +kernel
theorem dX8_look_12 : decode cX8_look 12 = .ok (.getfield 50, 3) := by decide +kernel
theorem dX8_look_15 : decode cX8_look 15 = .ok (.aload_n 0, 1) := by decide +kernel
theorem dX8_look_16 : decode cX8_look 16 = .ok (.getfield 10, 3) := by decide +kernel
theorem dX8_look_19 : decode cX8_look 19 = .ok (.invokevirtual 231, 3) := by decide +kernel
theorem dX8_look_22 : decode cX8_look 22 = .ok (.ireturn, 1) := by decide +kernel
set_option maxRecDepth 20000 in
theorem ggX8_keep_X3_copyOf : GoodIn wsX8_keep wsX3_copyOf := goodIn_r _ [9, 10, 11, 12, 13, 14, 15, 16, 17, 18, 19, 31, 32, 33, 34, 35, 36, 37] (by decide +kernel) (by decide +kernel)
set_option maxRecDepth 20000 in
theorem gX8_keep_X3_copyOf : GoodIn wsX8_keep (wsV RX8 88 RX3 yX3_copyOf wsX3_copyOf) := goodIn_app (goodIn_of _ (by decide +kernel)) ggX8_keep_X3_copyOf
theorem dX8_keep_0 : decode cX8_keep 0 = .ok (.iload_n 1, 1) := by decide +kernel
theorem dX8_keep_1 : decode cX8_keep 1 = .ok (.ifCond .lt 8, 3) := by decide +kernel
theorem dX8_keep_4 : decode cX8_keep 4 = .ok (.iload_n 1, 1) := by decide +kernel
theorem dX8_keep_5 : decode cX8_keep 5 = .ok (.iconst 2, 1) := by decide +kernel
theorem dX8_keep_6 : decode cX8_keep 6 = .ok (.if_icmp .lt 5, 3) := by decide +kernel
theorem dX8_keep_9 : decode cX8_keep 9 = .ok (.iconst (-1), 1) := by decide +kernel
theorem dX8_keep_10 : decode cX8_keep 10 = .ok (.ireturn, 1) := by decide +kernel
theorem dX8_keep_11 : decode cX8_keep 11 = .ok (.aload_n 0, 1) := by decide +kernel
theorem dX8_keep_12 : decode cX8_keep 12 = .ok (.getfield 68, 3) := by decide +kernel
theorem dX8_keep_15 : decode cX8_keep 15 = .ok (.iload_n 1, 1) := by decide +kernel
theorem dX8_keep_16 : decode cX8_keep 16 = .ok (.aaload, 1) := by decide +kernel
theorem dX8_keep_17 : decode cX8_keep 17 = .ok (.aload_n 0, 1) := by decide +kernel
theorem dX8_keep_18 : decode cX8_keep 18 = .ok (.getfield 10, 3) := by decide +kernel
theorem dX8_keep_21 : decode cX8_keep 21 = .ok (.invokevirtual 88, 3) := by decide +kernel
theorem dX8_keep_24 : decode cX8_keep 24 = .ok (.aload_n 0, 1) := by decide +kernel
theorem dX8_keep_25 : decode cX8_keep 25 = .ok (.getfield 72, 3) := by decide +kernel
theorem dX8_keep_28 : decode cX8_keep 28 = .ok (.iload_n 1, 1) := by decide +kernel
theorem dX8_keep_29 : decode cX8_keep 29 = .ok (.iconst 1, 1) := by decide +kernel
theorem dX8_keep_30 : decode cX8_keep 30 = .ok (.bastore, 1) := by decide +kernel
theorem dX8_keep_31 : decode cX8_keep 31 = .ok (.aload_n 0, 1) := by decide +kernel
theorem dX8_keep_32 : decode cX8_keep 32 = .ok (.getfield 10, 3) := by decide +kernel
theorem dX8_keep_35 : decode cX8_keep 35 = .ok (.getfield 130, 3) := by decide +kernel
theorem dX8_keep_38 : decode cX8_keep 38 = .ok (.ireturn, 1) := by decide +kernel
set_option maxRecDepth 20000 in
theorem ggX8_back_X3_copyOf : GoodIn wsX8_back wsX3_copyOf := goodIn_r _ [11, 12, 13, 14, 15, 16, 17, 18, 19, 20, 21, 35, 36, 37, 38, 39, 40, 41] (by decide +kernel) (by decide +kernel)
set_option maxRecDepth 20000 in
theorem gX8_back_X3_copyOf : GoodIn wsX8_back (wsV RX8 88 RX3 yX3_copyOf wsX3_copyOf) := goodIn_app (goodIn_of _ (by decide +kernel)) ggX8_back_X3_copyOf
theorem dX8_back_0 : decode cX8_back 0 = .ok (.iload_n 1, 1) := by decide +kernel
theorem dX8_back_1 : decode cX8_back 1 = .ok (.ifCond .lt 8, 3) := by decide +kernel
theorem dX8_back_4 : decode cX8_back 4 = .ok (.iload_n 1, 1) := by decide +kernel
theorem dX8_back_5 : decode cX8_back 5 = .ok (.iconst 2, 1) := by decide +kernel
theorem dX8_back_6 : decode cX8_back 6 = .ok (.if_icmp .lt 5, 3) := by decide +kernel
theorem dX8_back_9 : decode cX8_back 9 = .ok (.iconst (-1), 1) := by decide +kernel
theorem dX8_back_10 : decode cX8_back 10 = .ok (.ireturn, 1) := by decide +kernel
theorem dX8_back_11 : decode cX8_back 11 = .ok (.aload_n 0, 1) := by decide +kernel
theorem dX8_back_12 : decode cX8_back 12 = .ok (.getfield 72, 3) := by decide +kernel
theorem dX8_back_15 : decode cX8_back 15 = .ok (.iload_n 1, 1) := by decide +kernel
theorem dX8_back_16 : decode cX8_back 16 = .ok (.baload, 1) := by decide +kernel
theorem dX8_back_17 : decode cX8_back 17 = .ok (.ifCond .ne 6, 3) := by decide +kernel
theorem dX8_back_20 : decode cX8_back 20 = .ok (.bipush (-2), 2) := by decide +kernel
theorem dX8_back_22 : decode cX8_back 22 = .ok (.ireturn, 1) := by decide +kernel
theorem dX8_back_23 : decode cX8_back 23 = .ok (.aload_n 0, 1) := by decide +kernel
theorem dX8_back_24 : decode cX8_back 24 = .ok (.getfield 10, 3) := by decide +kernel
theorem dX8_back_27 : decode cX8_back 27 = .ok (.aload_n 0, 1) := by decide +kernel
theorem dX8_back_28 : decode cX8_back 28 = .ok (.getfield 68, 3) := by decide +kernel
theorem dX8_back_31 : decode cX8_back 31 = .ok (.iload_n 1, 1) := by decide +kernel
theorem dX8_back_32 : decode cX8_back 32 = .ok (.aaload, 1) := by decide +kernel
theorem dX8_back_33 : decode cX8_back 33 = .ok (.invokevirtual 88, 3) := by decide +kernel
theorem dX8_back_36 : decode cX8_back 36 = .ok (.aload_n 0, 1) := by decide +kernel
theorem dX8_back_37 : decode cX8_back 37 = .ok (.getfield 36, 3) := by decide +kernel
theorem dX8_back_40 : decode cX8_back 40 = .ok (.iconst 0, 1) := by decide +kernel
theorem dX8_back_41 : decode cX8_back 41 = .ok (.putfield 95, 3) := by decide +kernel
theorem dX8_back_44 : decode cX8_back 44 = .ok (.aload_n 0, 1) := by decide +kernel
theorem dX8_back_45 : decode cX8_back 45 = .ok (.getfield 10, 3) := by decide +kernel
theorem dX8_back_48 : decode cX8_back 48 = .ok (.getfield 130, 3) := by decide +kernel
theorem dX8_back_51 : decode cX8_back 51 = .ok (.ireturn, 1) := by decide +kernel
theorem dX8_count_0 : decode cX8_count 0 = .ok (.iload_n 1, 1) := by decide +kernel
theorem dX8_count_1 : decode cX8_count 1 = .ok (.tableswitch 63 0 3 #[31, 39, 47, 55], 31) := by decide +kernel
theorem dX8_count_32 : decode cX8_count 32 = .ok (.aload_n 0, 1) := by decide +kernel
theorem dX8_count_33 : decode cX8_count 33 = .ok (.getfield 10, 3) := by decide +kernel
theorem dX8_count_36 : decode cX8_count 36 = .ok (.getfield 121, 3) := by decide +kernel
theorem dX8_count_39 : decode cX8_count 39 = .ok (.ireturn, 1) := by decide +kernel
theorem dX8_count_40 : decode cX8_count 40 = .ok (.aload_n 0, 1) := by decide +kernel
theorem dX8_count_41 : decode cX8_count 41 = .ok (.getfield 29, 3) := by decide +kernel
theorem dX8_count_44 : decode cX8_count 44 = .ok (.getfield 92, 3) := by decide +kernel
theorem dX8_count_47 : decode cX8_count 47 = .ok (.ireturn, 1) := by decide +kernel
theorem dX8_count_48 : decode cX8_count 48 = .ok (.aload_n 0, 1) := by decide +kernel
theorem dX8_count_49 : decode cX8_count 49 = .ok (.getfield 50, 3) := by decide +kernel
theorem dX8_count_52 : decode cX8_count 52 = .ok (.getfield 221, 3) := by decide +kernel
theorem dX8_count_55 : decode cX8_count 55 = .ok (.ireturn, 1) := by decide +kernel
theorem dX8_count_56 : decode cX8_count 56 = .ok (.aload_n 0, 1) := by decide +kernel
theorem dX8_count_57 : decode cX8_count 57 = .ok (.getfield 22, 3) := by decide +kernel
theorem dX8_count_60 : decode cX8_count 60 = .ok (.getfield 80, 3) := by decide +kernel
theorem dX8_count_63 : decode cX8_count 63 = .ok (.ireturn, 1) := by decide +kernel
theorem dX8_count_64 : decode cX8_count 64 = .ok (.iconst (-1), 1) := by decide +kernel
theorem dX8_count_65 : decode cX8_count 65 = .ok (.ireturn, 1) := by decide +kernel
set_option maxRecDepth 20000 in
theorem ggX8_putListed_X3_closesRing : GoodIn wsX8_putListed wsX3_closesRing := goodIn_r _ [11, 12, 13, 14, 15, 10, 16, 17, 18, 19, 20, 21, 107, 108, 109, 110, 111, 112, 113] (by decide +kernel) (by decide +kernel)
set_option maxRecDepth 20000 in
theorem gX8_putListed_X3_closesRing : GoodIn wsX8_putListed (wsV RX8 153 RX3 yX3_closesRing wsX3_closesRing) := goodIn_app (goodIn_of _ (by decide +kernel)) ggX8_putListed_X3_closesRing
set_option maxRecDepth 20000 in
theorem ggX8_putListed_X2_trace : GoodIn wsX8_putListed wsX2_trace := goodIn_r _ [26, 27, 28, 29, 30, 31, 32, 25, 33, 34, 35, 36, 37, 38, 39, 40, 41, 42, 43, 44, 45, 46, 47, 10, 48, 49, 19, 20, 21, 50, 51, 52, 53, 114, 115, 116, 107, 108, 109, 110, 111, 112, 113] (by decide +kernel) (by decide +kernel)
set_option maxRecDepth 20000 in
theorem gX8_putListed_X2_trace : GoodIn wsX8_putListed (wsV RX8 156 RX2 yX2_trace wsX2_trace) := goodIn_app (goodIn_of _ (by decide +kernel)) ggX8_putListed_X2_trace
set_option maxRecDepth 20000 in
theorem ggX8_putListed_X3_put : GoodIn wsX8_putListed wsX3_put := goodIn_r _ [57, 49, 18, 58, 59, 8, 9, 10, 11, 12, 13, 14, 15, 16, 17, 19, 20, 21, 60, 61, 62, 63, 64, 65, 66, 67, 68, 69, 70, 71, 72, 73, 74, 75, 76, 77, 78, 79, 80, 81, 82, 83, 84, 85, 86, 87, 88, 89, 90, 91, 92, 107, 108, 109, 110, 111, 112, 113] (by decide +kernel) (by decide +kernel)
set_option maxRecDepth 20000 in
theorem gX8_putListed_X3_put : GoodIn wsX8_putListed (wsV RX8 163 RX3 yX3_put wsX3_put) := goodIn_app (goodIn_of _ (by decide +kernel)) ggX8_putListed_X3_put
theorem dX8_putListed_0 : decode cX8_putListed 0 = .ok (.iconst 0, 1) := by decide +kernel
theorem dX8_putListed_1 : decode cX8_putListed 1 = .ok (.istore_n 1, 1) := by decide +kernel
theorem dX8_putListed_2 : decode cX8_putListed 2 = .ok (.iload_n 1, 1) := by decide +kernel
theorem dX8_putListed_3 : decode cX8_putListed 3 = .ok (.aload_n 0, 1) := by decide +kernel
theorem dX8_putListed_4 : decode cX8_putListed 4 = .ok (.getfield 29, 3) := by decide +kernel
theorem dX8_putListed_7 : decode cX8_putListed 7 = .ok (.getfield 92, 3) := by decide +kernel
theorem dX8_putListed_10 : decode cX8_putListed 10 = .ok (.if_icmp .ge 66, 3) := by decide +kernel
theorem dX8_putListed_13 : decode cX8_putListed 13 = .ok (.aload_n 0, 1) := by decide +kernel
theorem dX8_putListed_14 : decode cX8_putListed 14 = .ok (.getfield 29, 3) := by decide +kernel
theorem dX8_putListed_17 : decode cX8_putListed 17 = .ok (.getfield 234, 3) := by decide +kernel
theorem dX8_putListed_20 : decode cX8_putListed 20 = .ok (.iload_n 1, 1) := by decide +kernel
theorem dX8_putListed_21 : decode cX8_putListed 21 = .ok (.iaload, 1) := by decide +kernel
theorem dX8_putListed_22 : decode cX8_putListed 22 = .ok (.istore_n 2, 1) := by decide +kernel
theorem dX8_putListed_23 : decode cX8_putListed 23 = .ok (.aload_n 0, 1) := by decide +kernel
theorem dX8_putListed_24 : decode cX8_putListed 24 = .ok (.getfield 29, 3) := by decide +kernel
theorem dX8_putListed_27 : decode cX8_putListed 27 = .ok (.getfield 237, 3) := by decide +kernel
theorem dX8_putListed_30 : decode cX8_putListed 30 = .ok (.iload_n 1, 1) := by decide +kernel
theorem dX8_putListed_31 : decode cX8_putListed 31 = .ok (.iaload, 1) := by decide +kernel
theorem dX8_putListed_32 : decode cX8_putListed 32 = .ok (.istore_n 3, 1) := by decide +kernel
theorem dX8_putListed_33 : decode cX8_putListed 33 = .ok (.aload_n 0, 1) := by decide +kernel
theorem dX8_putListed_34 : decode cX8_putListed 34 = .ok (.getfield 10, 3) := by decide +kernel
theorem dX8_putListed_37 : decode cX8_putListed 37 = .ok (.iload_n 2, 1) := by decide +kernel
theorem dX8_putListed_38 : decode cX8_putListed 38 = .ok (.iload_n 3, 1) := by decide +kernel
theorem dX8_putListed_39 : decode cX8_putListed 39 = .ok (.invokevirtual 153, 3) := by decide +kernel
theorem dX8_putListed_42 : decode cX8_putListed 42 = .ok (.ifCond .eq 18, 3) := by decide +kernel
theorem dX8_putListed_45 : decode cX8_putListed 45 = .ok (.aload_n 0, 1) := by decide +kernel
theorem dX8_putListed_46 : decode cX8_putListed 46 = .ok (.getfield 43, 3) := by decide +kernel
theorem dX8_putListed_49 : decode cX8_putListed 49 = .ok (.aload_n 0, 1) := by decide +kernel
theorem dX8_putListed_50 : decode cX8_putListed 50 = .ok (.getfield 10, 3) := by decide +kernel
theorem dX8_putListed_53 : decode cX8_putListed 53 = .ok (.iload_n 2, 1) := by decide +kernel
theorem dX8_putListed_54 : decode cX8_putListed 54 = .ok (.iload_n 3, 1) := by decide +kernel
theorem dX8_putListed_55 : decode cX8_putListed 55 = .ok (.invokevirtual 156, 3) := by decide +kernel
theorem dX8_putListed_58 : decode cX8_putListed 58 = .ok (.iconst 0, 1) := by decide +kernel
theorem dX8_putListed_59 : decode cX8_putListed 59 = .ok (.ireturn, 1) := by decide +kernel
theorem dX8_putListed_60 : decode cX8_putListed 60 = .ok (.aload_n 0, 1) := by decide +kernel
theorem dX8_putListed_61 : decode cX8_putListed 61 = .ok (.getfield 10, 3) := by decide +kernel
theorem dX8_putListed_64 : decode cX8_putListed 64 = .ok (.iload_n 2, 1) := by decide +kernel
theorem dX8_putListed_65 : decode cX8_putListed 65 = .ok (.iload_n 3, 1) := by decide +kernel
theorem dX8_putListed_66 : decode cX8_putListed 66 = .ok (.invokevirtual 163, 3) := by decide +kernel
theorem dX8_putListed_69 : decode cX8_putListed 69 = .ok (.pop, 1) := by decide +kernel
theorem dX8_putListed_70 : decode cX8_putListed 70 = .ok (.iinc 1 1, 3) := by decide +kernel
theorem dX8_putListed_73 : decode cX8_putListed 73 = .ok (.goto (-71), 3) := by decide +kernel
theorem dX8_putListed_76 : decode cX8_putListed 76 = .ok (.iconst 1, 1) := by decide +kernel
theorem dX8_putListed_77 : decode cX8_putListed 77 = .ok (.ireturn, 1) := by decide +kernel
set_option maxRecDepth 20000 in
theorem ggX8_freeArcs_X3_canTake : GoodIn wsX8_freeArcs wsX3_canTake := goodIn_r _ [7, 8, 9, 10, 6, 11, 12, 13, 14, 15, 16, 17, 18, 19, 20, 21, 22, 23, 24, 25, 26, 27, 28, 29, 30, 31, 32, 33, 34, 35, 63, 64, 65, 66, 67, 68, 69] (by decide +kernel) (by decide +kernel)
set_option maxRecDepth 20000 in
theorem gX8_freeArcs_X3_canTake : GoodIn wsX8_freeArcs (wsV RX8 240 RX3 yX3_canTake wsX3_canTake) := goodIn_app (goodIn_of _ (by decide +kernel)) ggX8_freeArcs_X3_canTake
set_option maxRecDepth 20000 in
theorem ggX8_freeArcs_X3_movedBy : GoodIn wsX8_freeArcs wsX3_movedBy := goodIn_r _ [39, 25, 26, 27, 6, 28, 29, 30, 31, 32, 33, 34, 35, 22, 23, 24, 40, 41, 42, 43, 44, 45, 46, 47, 21, 48, 49, 50, 51, 63, 64, 65, 66, 67, 68, 69] (by decide +kernel) (by decide +kernel)
set_option maxRecDepth 20000 in
theorem gX8_freeArcs_X3_movedBy : GoodIn wsX8_freeArcs (wsV RX8 196 RX3 yX3_movedBy wsX3_movedBy) := goodIn_app (goodIn_of _ (by decide +kernel)) ggX8_freeArcs_X3_movedBy
theorem dX8_freeArcs_0 : decode cX8_freeArcs 0 = .ok (.iconst 0, 1) := by decide +kernel
theorem dX8_freeArcs_1 : decode cX8_freeArcs 1 = .ok (.istore_n 1, 1) := by decide +kernel
theorem dX8_freeArcs_2 : decode cX8_freeArcs 2 = .ok (.iconst 0, 1) := by decide +kernel
theorem dX8_freeArcs_3 : decode cX8_freeArcs 3 = .ok (.istore_n 2, 1) := by decide +kernel
theorem dX8_freeArcs_4 : decode cX8_freeArcs 4 = .ok (.iload_n 2, 1) := by decide +kernel
theorem dX8_freeArcs_5 : decode cX8_freeArcs 5 = .ok (.aload_n 0, 1) := by decide +kernel
theorem dX8_freeArcs_6 : decode cX8_freeArcs 6 = .ok (.getfield 10, 3) := by decide +kernel
theorem dX8_freeArcs_9 : decode cX8_freeArcs 9 = .ok (.getfield 121, 3) := by decide +kernel
theorem dX8_freeArcs_12 : decode cX8_freeArcs 12 = .ok (.if_icmp .ge 55, 3) := by decide +kernel
theorem dX8_freeArcs_15 : decode cX8_freeArcs 15 = .ok (.iconst 0, 1) := by decide +kernel
theorem dX8_freeArcs_16 : decode cX8_freeArcs 16 = .ok (.istore_n 3, 1) := by decide +kernel
theorem dX8_freeArcs_17 : decode cX8_freeArcs 17 = .ok (.iload_n 3, 1) := by decide +kernel
theorem dX8_freeArcs_18 : decode cX8_freeArcs 18 = .ok (.aload_n 0, 1) := by decide +kernel
theorem dX8_freeArcs_19 : decode cX8_freeArcs 19 = .ok (.getfield 10, 3) := by decide +kernel
theorem dX8_freeArcs_22 : decode cX8_freeArcs 22 = .ok (.getfield 121, 3) := by decide +kernel
theorem dX8_freeArcs_25 : decode cX8_freeArcs 25 = .ok (.if_icmp .ge 36, 3) := by decide +kernel
theorem dX8_freeArcs_28 : decode cX8_freeArcs 28 = .ok (.aload_n 0, 1) := by decide +kernel
theorem dX8_freeArcs_29 : decode cX8_freeArcs 29 = .ok (.getfield 10, 3) := by decide +kernel
theorem dX8_freeArcs_32 : decode cX8_freeArcs 32 = .ok (.iload_n 2, 1) := by decide +kernel
theorem dX8_freeArcs_33 : decode cX8_freeArcs 33 = .ok (.iload_n 3, 1) := by decide +kernel
theorem dX8_freeArcs_34 : decode cX8_freeArcs 34 = .ok (.invokevirtual 240, 3) := by decide +kernel
theorem dX8_freeArcs_37 : decode cX8_freeArcs 37 = .ok (.ifCond .eq 18, 3) := by decide +kernel
theorem dX8_freeArcs_40 : decode cX8_freeArcs 40 = .ok (.aload_n 0, 1) := by decide +kernel
theorem dX8_freeArcs_41 : decode cX8_freeArcs 41 = .ok (.getfield 10, 3) := by decide +kernel
theorem dX8_freeArcs_44 : decode cX8_freeArcs 44 = .ok (.iload_n 2, 1) := by decide +kernel
theorem dX8_freeArcs_45 : decode cX8_freeArcs 45 = .ok (.iload_n 3, 1) := by decide +kernel
theorem dX8_freeArcs_46 : decode cX8_freeArcs 46 = .ok (.invokevirtual 196, 3) := by decide +kernel
theorem dX8_freeArcs_49 : decode cX8_freeArcs 49 = .ok (.ifCond .ne 6, 3) := by decide +kernel
theorem dX8_freeArcs_52 : decode cX8_freeArcs 52 = .ok (.iinc 1 1, 3) := by decide +kernel
theorem dX8_freeArcs_55 : decode cX8_freeArcs 55 = .ok (.iinc 3 1, 3) := by decide +kernel
theorem dX8_freeArcs_58 : decode cX8_freeArcs 58 = .ok (.goto (-41), 3) := by decide +kernel
theorem dX8_freeArcs_61 : decode cX8_freeArcs 61 = .ok (.iinc 2 1, 3) := by decide +kernel
theorem dX8_freeArcs_64 : decode cX8_freeArcs 64 = .ok (.goto (-60), 3) := by decide +kernel
theorem dX8_freeArcs_67 : decode cX8_freeArcs 67 = .ok (.iload_n 1, 1) := by decide +kernel
theorem dX8_freeArcs_68 : decode cX8_freeArcs 68 = .ok (.ireturn, 1) := by decide +kernel
set_option maxRecDepth 20000 in
theorem ggX8_arcMovingMost_X3_canTake : GoodIn wsX8_arcMovingMost wsX3_canTake := goodIn_r _ [7, 8, 9, 10, 6, 11, 12, 13, 14, 15, 16, 17, 18, 19, 20, 21, 22, 23, 24, 25, 26, 27, 28, 29, 30, 31, 32, 33, 34, 35, 73, 74, 75, 76, 77, 78, 79] (by decide +kernel) (by decide +kernel)
set_option maxRecDepth 20000 in
theorem gX8_arcMovingMost_X3_canTake : GoodIn wsX8_arcMovingMost (wsV RX8 240 RX3 yX3_canTake wsX3_canTake) := goodIn_app (goodIn_of _ (by decide +kernel)) ggX8_arcMovingMost_X3_canTake
set_option maxRecDepth 20000 in
theorem ggX8_arcMovingMost_X3_movedBy : GoodIn wsX8_arcMovingMost wsX3_movedBy := goodIn_r _ [39, 25, 26, 27, 6, 28, 29, 30, 31, 32, 33, 34, 35, 22, 23, 24, 40, 41, 42, 43, 44, 45, 46, 47, 21, 48, 49, 50, 51, 73, 74, 75, 76, 77, 78, 79] (by decide +kernel) (by decide +kernel)
set_option maxRecDepth 20000 in
theorem gX8_arcMovingMost_X3_movedBy : GoodIn wsX8_arcMovingMost (wsV RX8 196 RX3 yX3_movedBy wsX3_movedBy) := goodIn_app (goodIn_of _ (by decide +kernel)) ggX8_arcMovingMost_X3_movedBy
set_option maxRecDepth 20000 in
theorem ggX8_arcMovingMost_J6_bitCount_0f7a4 : GoodIn wsX8_arcMovingMost wsJ6_bitCount_0f7a4 := goodIn_r _ [55, 56, 57, 58] (by decide +kernel) (by decide +kernel)
set_option maxRecDepth 20000 in
theorem gX8_arcMovingMost_J6_bitCount_0f7a4 : GoodIn wsX8_arcMovingMost (va_wsS RX8 116 yJ6_bitCount_0f7a4 wsJ6_bitCount_0f7a4) := goodIn_app (goodIn_of _ (by decide +kernel)) ggX8_arcMovingMost_J6_bitCount_0f7a4
set_option maxRecDepth 20000 in
theorem ggX8_arcMovingMost_X8_codeOf : GoodIn wsX8_arcMovingMost wsX8_codeOf := goodIn_r _ [61] (by decide +kernel) (by decide +kernel)
set_option maxRecDepth 20000 in
theorem gX8_arcMovingMost_X8_codeOf : GoodIn wsX8_arcMovingMost (va_wsS RX8 243 yX8_codeOf wsX8_codeOf) := goodIn_app (goodIn_of _ (by decide +kernel)) ggX8_arcMovingMost_X8_codeOf
theorem dX8_arcMovingMost_0 : decode cX8_arcMovingMost 0 = .ok (.bipush (-9), 2) := by decide +kernel
theorem dX8_arcMovingMost_2 : decode cX8_arcMovingMost 2 = .ok (.istore_n 1, 1) := by decide +kernel
theorem dX8_arcMovingMost_3 : decode cX8_arcMovingMost 3 = .ok (.iconst (-1), 1) := by decide +kernel
theorem dX8_arcMovingMost_4 : decode cX8_arcMovingMost 4 = .ok (.istore_n 2, 1) := by decide +kernel
theorem dX8_arcMovingMost_5 : decode cX8_arcMovingMost 5 = .ok (.iconst 0, 1) := by decide +kernel
theorem dX8_arcMovingMost_6 : decode cX8_arcMovingMost 6 = .ok (.istore_n 3, 1) := by decide +kernel
theorem dX8_arcMovingMost_7 : decode cX8_arcMovingMost 7 = .ok (.iload_n 3, 1) := by decide +kernel
theorem dX8_arcMovingMost_8 : decode cX8_arcMovingMost 8 = .ok (.aload_n 0, 1) := by decide +kernel
theorem dX8_arcMovingMost_9 : decode cX8_arcMovingMost 9 = .ok (.getfield 10, 3) := by decide +kernel
theorem dX8_arcMovingMost_12 : decode cX8_arcMovingMost 12 = .ok (.getfield 121, 3) := by decide +kernel
theorem dX8_arcMovingMost_15 : decode cX8_arcMovingMost 15 = .ok (.if_icmp .ge 77, 3) := by decide +kernel
theorem dX8_arcMovingMost_18 : decode cX8_arcMovingMost 18 = .ok (.iconst 0, 1) := by decide +kernel
theorem dX8_arcMovingMost_19 : decode cX8_arcMovingMost 19 = .ok (.istore 4, 2) := by decide +kernel
theorem dX8_arcMovingMost_21 : decode cX8_arcMovingMost 21 = .ok (.iload 4, 2) := by decide +kernel
theorem dX8_arcMovingMost_23 : decode cX8_arcMovingMost 23 = .ok (.aload_n 0, 1) := by decide +kernel
theorem dX8_arcMovingMost_24 : decode cX8_arcMovingMost 24 = .ok (.getfield 10, 3) := by decide +kernel
theorem dX8_arcMovingMost_27 : decode cX8_arcMovingMost 27 = .ok (.getfield 121, 3) := by decide +kernel
theorem dX8_arcMovingMost_30 : decode cX8_arcMovingMost 30 = .ok (.if_icmp .ge 56, 3) := by decide +kernel
theorem dX8_arcMovingMost_33 : decode cX8_arcMovingMost 33 = .ok (.aload_n 0, 1) := by decide +kernel
theorem dX8_arcMovingMost_34 : decode cX8_arcMovingMost 34 = .ok (.getfield 10, 3) := by decide +kernel
theorem dX8_arcMovingMost_37 : decode cX8_arcMovingMost 37 = .ok (.iload_n 3, 1) := by decide +kernel
theorem dX8_arcMovingMost_38 : decode cX8_arcMovingMost 38 = .ok (.iload 4, 2) := by decide +kernel
theorem dX8_arcMovingMost_40 : decode cX8_arcMovingMost 40 = .ok (.invokevirtual 240, 3) := by decide +kernel
theorem dX8_arcMovingMost_43 : decode cX8_arcMovingMost 43 = .ok (.ifCond .ne 6, 3) := by decide +kernel
theorem dX8_arcMovingMost_46 : decode cX8_arcMovingMost 46 = .ok (.goto 34, 3) := by decide +kernel
theorem dX8_arcMovingMost_49 : decode cX8_arcMovingMost 49 = .ok (.aload_n 0, 1) := by decide +kernel
theorem dX8_arcMovingMost_50 : decode cX8_arcMovingMost 50 = .ok (.getfield 10, 3) := by decide +kernel
theorem dX8_arcMovingMost_53 : decode cX8_arcMovingMost 53 = .ok (.iload_n 3, 1) := by decide +kernel
theorem dX8_arcMovingMost_54 : decode cX8_arcMovingMost 54 = .ok (.iload 4, 2) := by decide +kernel
theorem dX8_arcMovingMost_56 : decode cX8_arcMovingMost 56 = .ok (.invokevirtual 196, 3) := by decide +kernel
theorem dX8_arcMovingMost_59 : decode cX8_arcMovingMost 59 = .ok (.invokestatic 116, 3) := by decide +kernel
theorem dX8_arcMovingMost_62 : decode cX8_arcMovingMost 62 = .ok (.istore 5, 2) := by decide +kernel
theorem dX8_arcMovingMost_64 : decode cX8_arcMovingMost 64 = .ok (.iload 5, 2) := by decide +kernel
theorem dX8_arcMovingMost_66 : decode cX8_arcMovingMost 66 = .ok (.iload_n 2, 1) := by decide +kernel
theorem dX8_arcMovingMost_67 : decode cX8_arcMovingMost 67 = .ok (.if_icmp .le 13, 3) := by decide +kernel
theorem dX8_arcMovingMost_70 : decode cX8_arcMovingMost 70 = .ok (.iload 5, 2) := by decide +kernel
theorem dX8_arcMovingMost_72 : decode cX8_arcMovingMost 72 = .ok (.istore_n 2, 1) := by decide +kernel
theorem dX8_arcMovingMost_73 : decode cX8_arcMovingMost 73 = .ok (.iload_n 3, 1) := by decide +kernel
theorem dX8_arcMovingMost_74 : decode cX8_arcMovingMost 74 = .ok (.iload 4, 2) := by decide +kernel
theorem dX8_arcMovingMost_76 : decode cX8_arcMovingMost 76 = .ok (.invokestatic 243, 3) := by decide +kernel
theorem dX8_arcMovingMost_79 : decode cX8_arcMovingMost 79 = .ok (.istore_n 1, 1) := by decide +kernel
theorem dX8_arcMovingMost_80 : decode cX8_arcMovingMost 80 = .ok (.iinc 4 1, 3) := by decide +kernel
theorem dX8_arcMovingMost_83 : decode cX8_arcMovingMost 83 = .ok (.goto (-62), 3) := by decide +kernel
theorem dX8_arcMovingMost_86 : decode cX8_arcMovingMost 86 = .ok (.iinc 3 1, 3) := by decide +kernel
theorem dX8_arcMovingMost_89 : decode cX8_arcMovingMost 89 = .ok (.goto (-82), 3) := by decide +kernel
theorem dX8_arcMovingMost_92 : decode cX8_arcMovingMost 92 = .ok (.iload_n 1, 1) := by decide +kernel
theorem dX8_arcMovingMost_93 : decode cX8_arcMovingMost 93 = .ok (.ireturn, 1) := by decide +kernel
set_option maxRecDepth 20000 in
theorem ggX8_spareArcs_X3_allBehind : GoodIn wsX8_spareArcs wsX3_allBehind := goodIn_r _ [8, 9, 10, 11, 12, 7, 13, 14, 15, 16, 36, 37, 38, 39, 40, 41, 42] (by decide +kernel) (by decide +kernel)
set_option maxRecDepth 20000 in
theorem gX8_spareArcs_X3_allBehind : GoodIn wsX8_spareArcs (wsV RX8 124 RX3 yX3_allBehind wsX3_allBehind) := goodIn_app (goodIn_of _ (by decide +kernel)) ggX8_spareArcs_X3_allBehind
set_option maxRecDepth 20000 in
theorem ggX8_spareArcs_X3_has : GoodIn wsX8_spareArcs wsX3_has := goodIn_r _ [20, 21, 22, 23, 24, 36, 37, 38, 39, 40, 41, 42] (by decide +kernel) (by decide +kernel)
set_option maxRecDepth 20000 in
theorem gX8_spareArcs_X3_has : GoodIn wsX8_spareArcs (wsV RX8 150 RX3 yX3_has wsX3_has) := goodIn_app (goodIn_of _ (by decide +kernel)) ggX8_spareArcs_X3_has
theorem dX8_spareArcs_0 : decode cX8_spareArcs 0 = .ok (.iconst 0, 1) := by decide +kernel
theorem dX8_spareArcs_1 : decode cX8_spareArcs 1 = .ok (.istore_n 1, 1) := by decide +kernel
theorem dX8_spareArcs_2 : decode cX8_spareArcs 2 = .ok (.iconst 0, 1) := by decide +kernel
theorem dX8_spareArcs_3 : decode cX8_spareArcs 3 = .ok (.istore_n 2, 1) := by decide +kernel
theorem dX8_spareArcs_4 : decode cX8_spareArcs 4 = .ok (.iload_n 2, 1) := by decide +kernel
theorem dX8_spareArcs_5 : decode cX8_spareArcs 5 = .ok (.aload_n 0, 1) := by decide +kernel
theorem dX8_spareArcs_6 : decode cX8_spareArcs 6 = .ok (.getfield 10, 3) := by decide +kernel
theorem dX8_spareArcs_9 : decode cX8_spareArcs 9 = .ok (.getfield 121, 3) := by decide +kernel
theorem dX8_spareArcs_12 : decode cX8_spareArcs 12 = .ok (.if_icmp .ge 70, 3) := by decide +kernel
theorem dX8_spareArcs_15 : decode cX8_spareArcs 15 = .ok (.aload_n 0, 1) := by decide +kernel
theorem dX8_spareArcs_16 : decode cX8_spareArcs 16 = .ok (.getfield 10, 3) := by decide +kernel
theorem dX8_spareArcs_19 : decode cX8_spareArcs 19 = .ok (.iload_n 2, 1) := by decide +kernel
theorem dX8_spareArcs_20 : decode cX8_spareArcs 20 = .ok (.invokevirtual 124, 3) := by decide +kernel
theorem dX8_spareArcs_23 : decode cX8_spareArcs 23 = .ok (.istore_n 3, 1) := by decide +kernel
theorem dX8_spareArcs_24 : decode cX8_spareArcs 24 = .ok (.iconst 0, 1) := by decide +kernel
theorem dX8_spareArcs_25 : decode cX8_spareArcs 25 = .ok (.istore 4, 2) := by decide +kernel
theorem dX8_spareArcs_27 : decode cX8_spareArcs 27 = .ok (.iload 4, 2) := by decide +kernel
theorem dX8_spareArcs_29 : decode cX8_spareArcs 29 = .ok (.aload_n 0, 1) := by decide +kernel
theorem dX8_spareArcs_30 : decode cX8_spareArcs 30 = .ok (.getfield 10, 3) := by decide +kernel
theorem dX8_spareArcs_33 : decode cX8_spareArcs 33 = .ok (.getfield 121, 3) := by decide +kernel
theorem dX8_spareArcs_36 : decode cX8_spareArcs 36 = .ok (.if_icmp .ge 40, 3) := by decide +kernel
theorem dX8_spareArcs_39 : decode cX8_spareArcs 39 = .ok (.aload_n 0, 1) := by decide +kernel
theorem dX8_spareArcs_40 : decode cX8_spareArcs 40 = .ok (.getfield 10, 3) := by decide +kernel
theorem dX8_spareArcs_43 : decode cX8_spareArcs 43 = .ok (.iload_n 2, 1) := by decide +kernel
theorem dX8_spareArcs_44 : decode cX8_spareArcs 44 = .ok (.iload 4, 2) := by decide +kernel
theorem dX8_spareArcs_46 : decode cX8_spareArcs 46 = .ok (.invokevirtual 150, 3) := by decide +kernel
theorem dX8_spareArcs_49 : decode cX8_spareArcs 49 = .ok (.ifCond .eq 21, 3) := by decide +kernel
theorem dX8_spareArcs_52 : decode cX8_spareArcs 52 = .ok (.aload_n 0, 1) := by decide +kernel
theorem dX8_spareArcs_53 : decode cX8_spareArcs 53 = .ok (.getfield 10, 3) := by decide +kernel
theorem dX8_spareArcs_56 : decode cX8_spareArcs 56 = .ok (.getfield 109, 3) := by decide +kernel
theorem dX8_spareArcs_59 : decode cX8_spareArcs 59 = .ok (.iload 4, 2) := by decide +kernel
theorem dX8_spareArcs_61 : decode cX8_spareArcs 61 = .ok (.iaload, 1) := by decide +kernel
theorem dX8_spareArcs_62 : decode cX8_spareArcs 62 = .ok (.iload_n 3, 1) := by decide +kernel
theorem dX8_spareArcs_63 : decode cX8_spareArcs 63 = .ok (.iand, 1) := by decide +kernel
theorem dX8_spareArcs_64 : decode cX8_spareArcs 64 = .ok (.ifCond .eq 6, 3) := by decide +kernel
theorem dX8_spareArcs_67 : decode cX8_spareArcs 67 = .ok (.iinc 1 1, 3) := by decide +kernel
theorem dX8_spareArcs_70 : decode cX8_spareArcs 70 = .ok (.iinc 4 1, 3) := by decide +kernel
theorem dX8_spareArcs_73 : decode cX8_spareArcs 73 = .ok (.goto (-46), 3) := by decide +kernel
theorem dX8_spareArcs_76 : decode cX8_spareArcs 76 = .ok (.iinc 2 1, 3) := by decide +kernel
theorem dX8_spareArcs_79 : decode cX8_spareArcs 79 = .ok (.goto (-75), 3) := by decide +kernel
theorem dX8_spareArcs_82 : decode cX8_spareArcs 82 = .ok (.iload_n 1, 1) := by decide +kernel
theorem dX8_spareArcs_83 : decode cX8_spareArcs 83 = .ok (.ireturn, 1) := by decide +kernel
theorem dX8_codeOf_0 : decode cX8_codeOf 0 = .ok (.bipush 16, 2) := by decide +kernel
theorem dX8_codeOf_2 : decode cX8_codeOf 2 = .ok (.iload_n 0, 1) := by decide +kernel
theorem dX8_codeOf_3 : decode cX8_codeOf 3 = .ok (.imul, 1) := by decide +kernel
theorem dX8_codeOf_4 : decode cX8_codeOf 4 = .ok (.iload_n 1, 1) := by decide +kernel
theorem dX8_codeOf_5 : decode cX8_codeOf 5 = .ok (.iadd, 1) := by decide +kernel
theorem dX8_codeOf_6 : decode cX8_codeOf 6 = .ok (.ireturn, 1) := by decide +kernel
theorem dX8_holdsBit_0 : decode cX8_holdsBit 0 = .ok (.iload_n 0, 1) := by decide +kernel
theorem dX8_holdsBit_1 : decode cX8_holdsBit 1 = .ok (.iload_n 1, 1) := by decide +kernel
theorem dX8_holdsBit_2 : decode cX8_holdsBit 2 = .ok (.ishr, 1) := by decide +kernel
theorem dX8_holdsBit_3 : decode cX8_holdsBit 3 = .ok (.iconst 1, 1) := by decide +kernel
theorem dX8_holdsBit_4 : decode cX8_holdsBit 4 = .ok (.iand, 1) := by decide +kernel
theorem dX8_holdsBit_5 : decode cX8_holdsBit 5 = .ok (.ifCond .eq 7, 3) := by decide +kernel
theorem dX8_holdsBit_8 : decode cX8_holdsBit 8 = .ok (.iconst 1, 1) := by decide +kernel
theorem dX8_holdsBit_9 : decode cX8_holdsBit 9 = .ok (.goto 4, 3) := by decide +kernel
theorem dX8_holdsBit_12 : decode cX8_holdsBit 12 = .ok (.iconst 0, 1) := by decide +kernel
theorem dX8_holdsBit_13 : decode cX8_holdsBit 13 = .ok (.ireturn, 1) := by decide +kernel
set_option maxRecDepth 20000 in
theorem ggX9_init_X9_begins : GoodIn wsX9_init wsX9_begins := goodIn_r _ [30, 31, 6, 44, 45, 46, 47, 48, 49, 50, 51, 52, 53, 54, 55, 56, 57, 58, 59, 60, 61, 62, 63, 64, 65, 66, 67, 68, 69, 70, 71, 72, 73, 74, 75, 76, 77, 78, 79] (by decide +kernel) (by decide +kernel)
set_option maxRecDepth 20000 in
theorem gX9_init_X9_begins : GoodIn wsX9_init (wsV RX9 69 RX9 yX9_begins wsX9_begins) := goodIn_app (goodIn_of _ (by decide +kernel)) ggX9_init_X9_begins
set_option maxRecDepth 20000 in
theorem ggX9_init_X9_settles : GoodIn wsX9_init wsX9_settles := goodIn_r _ [35, 31, 36, 6, 7, 37, 38, 39, 40, 12, 41, 42, 29, 43, 44, 45, 46, 47, 48, 49, 50, 51, 52, 53, 54, 55, 56, 57, 58, 59, 60, 61, 62, 63, 64, 65, 66, 67, 68, 69, 70, 71, 72, 73, 74, 75, 76, 77, 78, 79] (by decide +kernel) (by decide +kernel)
set_option maxRecDepth 20000 in
theorem gX9_init_X9_settles : GoodIn wsX9_init (wsV RX9 72 RX9 yX9_settles wsX9_settles) := goodIn_app (goodIn_of _ (by decide +kernel)) ggX9_init_X9_settles
end
section
theorem dX9_init_0 : decode cX9_init 0 = .ok (.aload_n 0, 1) := by decide +kernel
theorem dX9_init_1 : decode cX9_init 1 = .ok (.invokespecial 1, 3) := by decide +kernel
theorem dX9_init_4 : decode cX9_init 4 = .ok (.aload_n 0, 1) := by decide +kernel
theorem dX9_init_5 : decode cX9_init 5 = .ok (.bipush 120, 2) := by decide +kernel
theorem dX9_init_7 : decode cX9_init 7 = .ok (.newarray .int, 2) := by decide +kernel
theorem dX9_init_9 : decode cX9_init 9 = .ok (.putfield 7, 3) := by decide +kernel
theorem dX9_init_12 : decode cX9_init 12 = .ok (.aload_n 0, 1) := by decide +kernel
theorem dX9_init_13 : decode cX9_init 13 = .ok (.bipush 24, 2) := by decide +kernel
theorem dX9_init_15 : decode cX9_init 15 = .ok (.newarray .int, 2) := by decide +kernel
theorem dX9_init_17 : decode cX9_init 17 = .ok (.putfield 13, 3) := by decide +kernel
theorem dX9_init_20 : decode cX9_init 20 = .ok (.aload_n 0, 1) := by decide +kernel
theorem dX9_init_21 : decode cX9_init 21 = .ok (.bipush 24, 2) := by decide +kernel
theorem dX9_init_23 : decode cX9_init 23 = .ok (.newarray .int, 2) := by decide +kernel
theorem dX9_init_25 : decode cX9_init 25 = .ok (.putfield 16, 3) := by decide +kernel
theorem dX9_init_28 : decode cX9_init 28 = .ok (.aload_n 0, 1) := by decide +kernel
theorem dX9_init_29 : decode cX9_init 29 = .ok (.bipush 24, 2) := by decide +kernel
theorem dX9_init_31 : decode cX9_init 31 = .ok (.newarray .int, 2) := by decide +kernel
theorem dX9_init_33 : decode cX9_init 33 = .ok (.putfield 19, 3) := by decide +kernel
theorem dX9_init_36 : decode cX9_init 36 = .ok (.aload_n 0, 1) := by decide +kernel
theorem dX9_init_37 : decode cX9_init 37 = .ok (.bipush 24, 2) := by decide +kernel
theorem dX9_init_39 : decode cX9_init 39 = .ok (.newarray .int, 2) := by decide +kernel
theorem dX9_init_41 : decode cX9_init 41 = .ok (.putfield 22, 3) := by decide +kernel
theorem dX9_init_44 : decode cX9_init 44 = .ok (.aload_n 0, 1) := by decide +kernel
theorem dX9_init_45 : decode cX9_init 45 = .ok (.bipush 48, 2) := by decide +kernel
theorem dX9_init_47 : decode cX9_init 47 = .ok (.newarray .int, 2) := by decide +kernel
theorem dX9_init_49 : decode cX9_init 49 = .ok (.putfield 25, 3) := by decide +kernel
theorem dX9_init_52 : decode cX9_init 52 = .ok (.aload_n 0, 1) := by decide +kernel
theorem dX9_init_53 : decode cX9_init 53 = .ok (.iconst 2, 1) := by decide +kernel
theorem dX9_init_54 : decode cX9_init 54 = .ok (.newarray .boolean, 2) := by decide +kernel
theorem dX9_init_56 : decode cX9_init 56 = .ok (.putfield 28, 3) := by decide +kernel
theorem dX9_init_59 : decode cX9_init 59 = .ok (.aload_n 0, 1) := by decide +kernel
theorem dX9_init_60 : decode cX9_init 60 = .ok (.sipush 240, 3) := by decide +kernel
theorem dX9_init_63 : decode cX9_init 63 = .ok (.newarray .int, 2) := by decide +kernel
theorem dX9_init_65 : decode cX9_init 65 = .ok (.putfield 32, 3) := by decide +kernel
theorem dX9_init_68 : decode cX9_init 68 = .ok (.aload_n 0, 1) := by decide +kernel
theorem dX9_init_69 : decode cX9_init 69 = .ok (.bipush 8, 2) := by decide +kernel
theorem dX9_init_71 : decode cX9_init 71 = .ok (.newarray .int, 2) := by decide +kernel
theorem dX9_init_73 : decode cX9_init 73 = .ok (.putfield 35, 3) := by decide +kernel
theorem dX9_init_76 : decode cX9_init 76 = .ok (.aload_n 0, 1) := by decide +kernel
theorem dX9_init_77 : decode cX9_init 77 = .ok (.bipush 8, 2) := by decide +kernel
theorem dX9_init_79 : decode cX9_init 79 = .ok (.newarray .int, 2) := by decide +kernel
theorem dX9_init_81 : decode cX9_init 81 = .ok (.putfield 38, 3) := by decide +kernel
theorem dX9_init_84 : decode cX9_init 84 = .ok (.aload_n 0, 1) := by decide +kernel
theorem dX9_init_85 : decode cX9_init 85 = .ok (.bipush 12, 2) := by decide +kernel
theorem dX9_init_87 : decode cX9_init 87 = .ok (.newarray .int, 2) := by decide +kernel
theorem dX9_init_89 : decode cX9_init 89 = .ok (.putfield 41, 3) := by decide +kernel
theorem dX9_init_92 : decode cX9_init 92 = .ok (.aload_n 0, 1) := by decide +kernel
theorem dX9_init_93 : decode cX9_init 93 = .ok (.bipush 6, 2) := by decide +kernel
theorem dX9_init_95 : decode cX9_init 95 = .ok (.newarray .int, 2) := by decide +kernel
theorem dX9_init_97 : decode cX9_init 97 = .ok (.putfield 44, 3) := by decide +kernel
theorem dX9_init_100 : decode cX9_init 100 = .ok (.aload_n 0, 1) := by decide +kernel
theorem dX9_init_101 : decode cX9_init 101 = .ok (.bipush 6, 2) := by decide +kernel
theorem dX9_init_103 : decode cX9_init 103 = .ok (.newarray .int, 2) := by decide +kernel
theorem dX9_init_105 : decode cX9_init 105 = .ok (.putfield 47, 3) := by decide +kernel
theorem dX9_init_108 : decode cX9_init 108 = .ok (.aload_n 0, 1) := by decide +kernel
theorem dX9_init_109 : decode cX9_init 109 = .ok (.bipush 12, 2) := by decide +kernel
theorem dX9_init_111 : decode cX9_init 111 = .ok (.newarray .int, 2) := by decide +kernel
theorem dX9_init_113 : decode cX9_init 113 = .ok (.putfield 50, 3) := by decide +kernel
theorem dX9_init_116 : decode cX9_init 116 = .ok (.aload_n 0, 1) := by decide +kernel
theorem dX9_init_117 : decode cX9_init 117 = .ok (.sipush 4096, 3) := by decide +kernel
theorem dX9_init_120 : decode cX9_init 120 = .ok (.newarray .long, 2) := by decide +kernel
theorem dX9_init_122 : decode cX9_init 122 = .ok (.putfield 53, 3) := by decide +kernel
theorem dX9_init_125 : decode cX9_init 125 = .ok (.aload_n 0, 1) := by decide +kernel
theorem dX9_init_126 : decode cX9_init 126 = .ok (.sipush 4096, 3) := by decide +kernel
theorem dX9_init_129 : decode cX9_init 129 = .ok (.newarray .int, 2) := by decide +kernel
theorem dX9_init_131 : decode cX9_init 131 = .ok (.putfield 57, 3) := by decide +kernel
theorem dX9_init_134 : decode cX9_init 134 = .ok (.aload_n 0, 1) := by decide +kernel
theorem dX9_init_135 : decode cX9_init 135 = .ok (.bipush 12, 2) := by decide +kernel
theorem dX9_init_137 : decode cX9_init 137 = .ok (.newarray .int, 2) := by decide +kernel
theorem dX9_init_139 : decode cX9_init 139 = .ok (.putfield 60, 3) := by decide +kernel
theorem dX9_init_142 : decode cX9_init 142 = .ok (.aload_n 0, 1) := by decide +kernel
theorem dX9_init_143 : decode cX9_init 143 = .ok (.bipush 24, 2) := by decide +kernel
theorem dX9_init_145 : decode cX9_init 145 = .ok (.newarray .int, 2) := by decide +kernel
theorem dX9_init_147 : decode cX9_init 147 = .ok (.putfield 63, 3) := by decide +kernel
theorem dX9_init_150 : decode cX9_init 150 = .ok (.aload_n 0, 1) := by decide +kernel
theorem dX9_init_151 : decode cX9_init 151 = .ok (.bipush 12, 2) := by decide +kernel
theorem dX9_init_153 : decode cX9_init 153 = .ok (.newarray .int, 2) := by decide +kernel
theorem dX9_init_155 : decode cX9_init 155 = .ok (.putfield 66, 3) := by decide +kernel
theorem dX9_init_158 : decode cX9_init 158 = .ok (.aload_n 0, 1) := by decide +kernel
theorem dX9_init_159 : decode cX9_init 159 = .ok (.invokevirtual 69, 3) := by decide +kernel
theorem dX9_init_162 : decode cX9_init 162 = .ok (.aload_n 0, 1) := by decide +kernel
theorem dX9_init_163 : decode cX9_init 163 = .ok (.invokevirtual 72, 3) := by decide +kernel
theorem dX9_init_166 : decode cX9_init 166 = .ok (.return_, 1) := by decide +kernel
theorem dX9_in_0 : decode cX9_in 0 = .ok (.iload_n 0, 1) := by decide +kernel
theorem dX9_in_1 : decode cX9_in 1 = .ok (.iload_n 1, 1) := by decide +kernel
theorem dX9_in_2 : decode cX9_in 2 = .ok (.if_icmp .lt 12, 3) := by decide +kernel
theorem dX9_in_5 : decode cX9_in 5 = .ok (.iload_n 0, 1) := by decide +kernel
theorem dX9_in_6 : decode cX9_in 6 = .ok (.iload_n 2, 1) := by decide +kernel
theorem dX9_in_7 : decode cX9_in 7 = .ok (.if_icmp .gt 7, 3) := by decide +kernel
theorem dX9_in_10 : decode cX9_in 10 = .ok (.iconst 1, 1) := by decide +kernel
theorem dX9_in_11 : decode cX9_in 11 = .ok (.goto 4, 3) := by decide +kernel
theorem dX9_in_14 : decode cX9_in 14 = .ok (.iconst 0, 1) := by decide +kernel
theorem dX9_in_15 : decode cX9_in 15 = .ok (.ireturn, 1) := by decide +kernel
theorem dX9_has_0 : decode cX9_has 0 = .ok (.iload_n 0, 1) := by decide +kernel
theorem dX9_has_1 : decode cX9_has 1 = .ok (.iload_n 1, 1) := by decide +kernel
theorem dX9_has_2 : decode cX9_has 2 = .ok (.ishr, 1) := by decide +kernel
theorem dX9_has_3 : decode cX9_has 3 = .ok (.iconst 1, 1) := by decide +kernel
theorem dX9_has_4 : decode cX9_has 4 = .ok (.iand, 1) := by decide +kernel
theorem dX9_has_5 : decode cX9_has 5 = .ok (.iconst 1, 1) := by decide +kernel
theorem dX9_has_6 : decode cX9_has 6 = .ok (.if_icmp .ne 7, 3) := by decide +kernel
theorem dX9_has_9 : decode cX9_has 9 = .ok (.iconst 1, 1) := by decide +kernel
theorem dX9_has_10 : decode cX9_has 10 = .ok (.goto 4, 3) := by decide +kernel
theorem dX9_has_13 : decode cX9_has 13 = .ok (.iconst 0, 1) := by decide +kernel
theorem dX9_has_14 : decode cX9_has 14 = .ok (.ireturn, 1) := by decide +kernel
theorem dX9_ones_0 : decode cX9_ones 0 = .ok (.iconst 0, 1) := by decide +kernel
theorem dX9_ones_1 : decode cX9_ones 1 = .ok (.istore_n 1, 1) := by decide +kernel
theorem dX9_ones_2 : decode cX9_ones 2 = .ok (.iload_n 0, 1) := by decide +kernel
theorem dX9_ones_3 : decode cX9_ones 3 = .ok (.istore_n 2, 1) := by decide +kernel
theorem dX9_ones_4 : decode cX9_ones 4 = .ok (.iload_n 2, 1) := by decide +kernel
theorem dX9_ones_5 : decode cX9_ones 5 = .ok (.ifCond .eq 15, 3) := by decide +kernel
theorem dX9_ones_8 : decode cX9_ones 8 = .ok (.iinc 1 1, 3) := by decide +kernel
theorem dX9_ones_11 : decode cX9_ones 11 = .ok (.iload_n 2, 1) := by decide +kernel
theorem dX9_ones_12 : decode cX9_ones 12 = .ok (.iload_n 2, 1) := by decide +kernel
theorem dX9_ones_13 : decode cX9_ones 13 = .ok (.iconst 1, 1) := by decide +kernel
theorem dX9_ones_14 : decode cX9_ones 14 = .ok (.isub, 1) := by decide +kernel
theorem dX9_ones_15 : decode cX9_ones 15 = .ok (.iand, 1) := by decide +kernel
theorem dX9_ones_16 : decode cX9_ones 16 = .ok (.istore_n 2, 1) := by decide +kernel
theorem dX9_ones_17 : decode cX9_ones 17 = .ok (.goto (-13), 3) := by decide +kernel
theorem dX9_ones_20 : decode cX9_ones 20 = .ok (.iload_n 1, 1) := by decide +kernel
theorem dX9_ones_21 : decode cX9_ones 21 = .ok (.ireturn, 1) := by decide +kernel
set_option maxRecDepth 20000 in
theorem ggX9_type_X9_in : GoodIn wsX9_type wsX9_in := goodIn_r _ [7] (by decide +kernel) (by decide +kernel)
set_option maxRecDepth 20000 in
theorem gX9_type_X9_in : GoodIn wsX9_type (va_wsS RX9 79 yX9_in wsX9_in) := goodIn_app (goodIn_of _ (by decide +kernel)) ggX9_type_X9_in
theorem dX9_type_0 : decode cX9_type 0 = .ok (.aload_n 0, 1) := by decide +kernel
theorem dX9_type_1 : decode cX9_type 1 = .ok (.iconst 0, 1) := by decide +kernel
theorem dX9_type_2 : decode cX9_type 2 = .ok (.putfield 75, 3) := by decide +kernel
theorem dX9_type_5 : decode cX9_type 5 = .ok (.iload_n 1, 1) := by decide +kernel
theorem dX9_type_6 : decode cX9_type 6 = .ok (.iconst 0, 1) := by decide +kernel
theorem dX9_type_7 : decode cX9_type 7 = .ok (.sipush 255, 3) := by decide +kernel
theorem dX9_type_10 : decode cX9_type 10 = .ok (.invokestatic 79, 3) := by decide +kernel
theorem dX9_type_13 : decode cX9_type 13 = .ok (.ifCond .ne 5, 3) := by decide +kernel
theorem dX9_type_16 : decode cX9_type 16 = .ok (.iconst (-1), 1) := by decide +kernel
theorem dX9_type_17 : decode cX9_type 17 = .ok (.ireturn, 1) := by decide +kernel
theorem dX9_type_18 : decode cX9_type 18 = .ok (.aload_n 0, 1) := by decide +kernel
theorem dX9_type_19 : decode cX9_type 19 = .ok (.getfield 83, 3) := by decide +kernel
theorem dX9_type_22 : decode cX9_type 22 = .ok (.bipush 120, 2) := by decide +kernel
theorem dX9_type_24 : decode cX9_type 24 = .ok (.if_icmp .ne 6, 3) := by decide +kernel
theorem dX9_type_27 : decode cX9_type 27 = .ok (.bipush (-3), 2) := by decide +kernel
theorem dX9_type_29 : decode cX9_type 29 = .ok (.ireturn, 1) := by decide +kernel
theorem dX9_type_30 : decode cX9_type 30 = .ok (.aload_n 0, 1) := by decide +kernel
theorem dX9_type_31 : decode cX9_type 31 = .ok (.getfield 7, 3) := by decide +kernel
theorem dX9_type_34 : decode cX9_type 34 = .ok (.aload_n 0, 1) := by decide +kernel
theorem dX9_type_35 : decode cX9_type 35 = .ok (.getfield 83, 3) := by decide +kernel
theorem dX9_type_38 : decode cX9_type 38 = .ok (.iload_n 1, 1) := by decide +kernel
theorem dX9_type_39 : decode cX9_type 39 = .ok (.iastore, 1) := by decide +kernel
theorem dX9_type_40 : decode cX9_type 40 = .ok (.aload_n 0, 1) := by decide +kernel
theorem dX9_type_41 : decode cX9_type 41 = .ok (.dup, 1) := by decide +kernel
theorem dX9_type_42 : decode cX9_type 42 = .ok (.getfield 83, 3) := by decide +kernel
theorem dX9_type_45 : decode cX9_type 45 = .ok (.iconst 1, 1) := by decide +kernel
theorem dX9_type_46 : decode cX9_type 46 = .ok (.iadd, 1) := by decide +kernel
theorem dX9_type_47 : decode cX9_type 47 = .ok (.putfield 83, 3) := by decide +kernel
theorem dX9_type_50 : decode cX9_type 50 = .ok (.aload_n 0, 1) := by decide +kernel
theorem dX9_type_51 : decode cX9_type 51 = .ok (.getfield 83, 3) := by decide +kernel
theorem dX9_type_54 : decode cX9_type 54 = .ok (.ireturn, 1) := by decide +kernel
theorem dX9_clear_0 : decode cX9_clear 0 = .ok (.aload_n 0, 1) := by decide +kernel
theorem dX9_clear_1 : decode cX9_clear 1 = .ok (.iconst 0, 1) := by decide +kernel
theorem dX9_clear_2 : decode cX9_clear 2 = .ok (.putfield 75, 3) := by decide +kernel
theorem dX9_clear_5 : decode cX9_clear 5 = .ok (.aload_n 0, 1) := by decide +kernel
theorem dX9_clear_6 : decode cX9_clear 6 = .ok (.getfield 83, 3) := by decide +kernel
theorem dX9_clear_9 : decode cX9_clear 9 = .ok (.istore_n 1, 1) := by decide +kernel
theorem dX9_clear_10 : decode cX9_clear 10 = .ok (.aload_n 0, 1) := by decide +kernel
theorem dX9_clear_11 : decode cX9_clear 11 = .ok (.iconst 0, 1) := by decide +kernel
theorem dX9_clear_12 : decode cX9_clear 12 = .ok (.putfield 83, 3) := by decide +kernel
theorem dX9_clear_15 : decode cX9_clear 15 = .ok (.iload_n 1, 1) := by decide +kernel
theorem dX9_clear_16 : decode cX9_clear 16 = .ok (.ireturn, 1) := by decide +kernel
theorem dX9_letterAt_0 : decode cX9_letterAt 0 = .ok (.iload_n 1, 1) := by decide +kernel
theorem dX9_letterAt_1 : decode cX9_letterAt 1 = .ok (.aload_n 0, 1) := by decide +kernel
theorem dX9_letterAt_2 : decode cX9_letterAt 2 = .ok (.getfield 83, 3) := by decide +kernel
theorem dX9_letterAt_5 : decode cX9_letterAt 5 = .ok (.if_icmp .ge 12, 3) := by decide +kernel
theorem dX9_letterAt_8 : decode cX9_letterAt 8 = .ok (.aload_n 0, 1) := by decide +kernel
theorem dX9_letterAt_9 : decode cX9_letterAt 9 = .ok (.getfield 7, 3) := by decide +kernel
theorem dX9_letterAt_12 : decode cX9_letterAt 12 = .ok (.iload_n 1, 1) := by decide +kernel
theorem dX9_letterAt_13 : decode cX9_letterAt 13 = .ok (.iaload, 1) := by decide +kernel
theorem dX9_letterAt_14 : decode cX9_letterAt 14 = .ok (.goto 4, 3) := by decide +kernel
theorem dX9_letterAt_17 : decode cX9_letterAt 17 = .ok (.iconst (-1), 1) := by decide +kernel
theorem dX9_letterAt_18 : decode cX9_letterAt 18 = .ok (.ireturn, 1) := by decide +kernel
set_option maxRecDepth 20000 in
theorem ggX9_advances_X9_letterAt : GoodIn wsX9_advances wsX9_letterAt := goodIn_r _ [9, 10, 11, 15, 16, 17, 18, 19, 20, 21, 22, 23, 24, 25, 26, 27, 28, 29, 30, 31, 32, 33, 34, 35, 36, 37, 38, 39, 40, 41, 42, 43, 44, 45, 46, 47, 48, 49, 50] (by decide +kernel) (by decide +kernel)
set_option maxRecDepth 20000 in
theorem gX9_advances_X9_letterAt : GoodIn wsX9_advances (wsV RX9 89 RX9 yX9_letterAt wsX9_letterAt) := goodIn_app (goodIn_of _ (by decide +kernel)) ggX9_advances_X9_letterAt
set_option maxRecDepth 20000 in
theorem ggX9_advances_X9_in : GoodIn wsX9_advances wsX9_in := goodIn_r _ [14] (by decide +kernel) (by decide +kernel)
set_option maxRecDepth 20000 in
theorem gX9_advances_X9_in : GoodIn wsX9_advances (va_wsS RX9 79 yX9_in wsX9_in) := goodIn_app (goodIn_of _ (by decide +kernel)) ggX9_advances_X9_in
theorem dX9_advances_0 : decode cX9_advances 0 = .ok (.aload_n 0, 1) := by decide +kernel
theorem dX9_advances_1 : decode cX9_advances 1 = .ok (.aload_n 0, 1) := by decide +kernel
theorem dX9_advances_2 : decode cX9_advances 2 = .ok (.getfield 86, 3) := by decide +kernel
theorem dX9_advances_5 : decode cX9_advances 5 = .ok (.invokevirtual 89, 3) := by decide +kernel
theorem dX9_advances_8 : decode cX9_advances 8 = .ok (.bipush 32, 2) := by decide +kernel
theorem dX9_advances_10 : decode cX9_advances 10 = .ok (.if_icmp .ne 16, 3) := by decide +kernel
theorem dX9_advances_13 : decode cX9_advances 13 = .ok (.aload_n 0, 1) := by decide +kernel
theorem dX9_advances_14 : decode cX9_advances 14 = .ok (.dup, 1) := by decide +kernel
theorem dX9_advances_15 : decode cX9_advances 15 = .ok (.getfield 86, 3) := by decide +kernel
theorem dX9_advances_18 : decode cX9_advances 18 = .ok (.iconst 1, 1) := by decide +kernel
theorem dX9_advances_19 : decode cX9_advances 19 = .ok (.iadd, 1) := by decide +kernel
theorem dX9_advances_20 : decode cX9_advances 20 = .ok (.putfield 86, 3) := by decide +kernel
theorem dX9_advances_23 : decode cX9_advances 23 = .ok (.goto (-23), 3) := by decide +kernel
theorem dX9_advances_26 : decode cX9_advances 26 = .ok (.aload_n 0, 1) := by decide +kernel
theorem dX9_advances_27 : decode cX9_advances 27 = .ok (.aload_n 0, 1) := by decide +kernel
theorem dX9_advances_28 : decode cX9_advances 28 = .ok (.getfield 86, 3) := by decide +kernel
theorem dX9_advances_31 : decode cX9_advances 31 = .ok (.putfield 93, 3) := by decide +kernel
theorem dX9_advances_34 : decode cX9_advances 34 = .ok (.aload_n 0, 1) := by decide +kernel
theorem dX9_advances_35 : decode cX9_advances 35 = .ok (.aload_n 0, 1) := by decide +kernel
theorem dX9_advances_36 : decode cX9_advances 36 = .ok (.getfield 86, 3) := by decide +kernel
theorem dX9_advances_39 : decode cX9_advances 39 = .ok (.invokevirtual 89, 3) := by decide +kernel
theorem dX9_advances_42 : decode cX9_advances 42 = .ok (.istore_n 1, 1) := by decide +kernel
theorem dX9_advances_43 : decode cX9_advances 43 = .ok (.iload_n 1, 1) := by decide +kernel
theorem dX9_advances_44 : decode cX9_advances 44 = .ok (.ifCond .ge 11, 3) := by decide +kernel
theorem dX9_advances_47 : decode cX9_advances 47 = .ok (.aload_n 0, 1) := by decide +kernel
theorem dX9_advances_48 : decode cX9_advances 48 = .ok (.iconst 0, 1) := by decide +kernel
theorem dX9_advances_49 : decode cX9_advances 49 = .ok (.putfield 96, 3) := by decide +kernel
theorem dX9_advances_52 : decode cX9_advances 52 = .ok (.goto 175, 3) := by decide +kernel
theorem dX9_advances_55 : decode cX9_advances 55 = .ok (.iload_n 1, 1) := by decide +kernel
theorem dX9_advances_56 : decode cX9_advances 56 = .ok (.bipush 48, 2) := by decide +kernel
theorem dX9_advances_58 : decode cX9_advances 58 = .ok (.bipush 57, 2) := by decide +kernel
theorem dX9_advances_60 : decode cX9_advances 60 = .ok (.invokestatic 79, 3) := by decide +kernel
theorem dX9_advances_63 : decode cX9_advances 63 = .ok (.ifCond .eq 118, 3) := by decide +kernel
theorem dX9_advances_66 : decode cX9_advances 66 = .ok (.aload_n 0, 1) := by decide +kernel
theorem dX9_advances_67 : decode cX9_advances 67 = .ok (.iconst 0, 1) := by decide +kernel
theorem dX9_advances_68 : decode cX9_advances 68 = .ok (.putfield 99, 3) := by decide +kernel
theorem dX9_advances_71 : decode cX9_advances 71 = .ok (.aload_n 0, 1) := by decide +kernel
theorem dX9_advances_72 : decode cX9_advances 72 = .ok (.aload_n 0, 1) := by decide +kernel
theorem dX9_advances_73 : decode cX9_advances 73 = .ok (.getfield 86, 3) := by decide +kernel
theorem dX9_advances_76 : decode cX9_advances 76 = .ok (.invokevirtual 89, 3) := by decide +kernel
theorem dX9_advances_79 : decode cX9_advances 79 = .ok (.bipush 48, 2) := by decide +kernel
theorem dX9_advances_81 : decode cX9_advances 81 = .ok (.bipush 57, 2) := by decide +kernel
theorem dX9_advances_83 : decode cX9_advances 83 = .ok (.invokestatic 79, 3) := by decide +kernel
theorem dX9_advances_86 : decode cX9_advances 86 = .ok (.ifCond .eq 55, 3) := by decide +kernel
theorem dX9_advances_89 : decode cX9_advances 89 = .ok (.aload_n 0, 1) := by decide +kernel
theorem dX9_advances_90 : decode cX9_advances 90 = .ok (.aload_n 0, 1) := by decide +kernel
theorem dX9_advances_91 : decode cX9_advances 91 = .ok (.getfield 99, 3) := by decide +kernel
theorem dX9_advances_94 : decode cX9_advances 94 = .ok (.bipush 99, 2) := by decide +kernel
theorem dX9_advances_96 : decode cX9_advances 96 = .ok (.if_icmp .le 10, 3) := by decide +kernel
theorem dX9_advances_99 : decode cX9_advances 99 = .ok (.aload_n 0, 1) := by decide +kernel
theorem dX9_advances_100 : decode cX9_advances 100 = .ok (.getfield 99, 3) := by decide +kernel
theorem dX9_advances_103 : decode cX9_advances 103 = .ok (.goto 22, 3) := by decide +kernel
theorem dX9_advances_106 : decode cX9_advances 106 = .ok (.bipush 10, 2) := by decide +kernel
theorem dX9_advances_108 : decode cX9_advances 108 = .ok (.aload_n 0, 1) := by decide +kernel
theorem dX9_advances_109 : decode cX9_advances 109 = .ok (.getfield 99, 3) := by decide +kernel
theorem dX9_advances_112 : decode cX9_advances 112 = .ok (.imul, 1) := by decide +kernel
theorem dX9_advances_113 : decode cX9_advances 113 = .ok (.aload_n 0, 1) := by decide +kernel
theorem dX9_advances_114 : decode cX9_advances 114 = .ok (.aload_n 0, 1) := by decide +kernel
theorem dX9_advances_115 : decode cX9_advances 115 = .ok (.getfield 86, 3) := by decide +kernel
theorem dX9_advances_118 : decode cX9_advances 118 = .ok (.invokevirtual 89, 3) := by decide +kernel
theorem dX9_advances_121 : decode cX9_advances 121 = .ok (.iadd, 1) := by decide +kernel
theorem dX9_advances_122 : decode cX9_advances 122 = .ok (.bipush 48, 2) := by decide +kernel
theorem dX9_advances_124 : decode cX9_advances 124 = .ok (.isub, 1) := by decide +kernel
theorem dX9_advances_125 : decode cX9_advances 125 = .ok (.putfield 99, 3) := by decide +kernel
theorem dX9_advances_128 : decode cX9_advances 128 = .ok (.aload_n 0, 1) := by decide +kernel
theorem dX9_advances_129 : decode cX9_advances 129 = .ok (.dup, 1) := by decide +kernel
theorem dX9_advances_130 : decode cX9_advances 130 = .ok (.getfield 86, 3) := by decide +kernel
theorem dX9_advances_133 : decode cX9_advances 133 = .ok (.iconst 1, 1) := by decide +kernel
theorem dX9_advances_134 : decode cX9_advances 134 = .ok (.iadd, 1) := by decide +kernel
theorem dX9_advances_135 : decode cX9_advances 135 = .ok (.putfield 86, 3) := by decide +kernel
theorem dX9_advances_138 : decode cX9_advances 138 = .ok (.goto (-67), 3) := by decide +kernel
theorem dX9_advances_141 : decode cX9_advances 141 = .ok (.aload_n 0, 1) := by decide +kernel
theorem dX9_advances_142 : decode cX9_advances 142 = .ok (.aload_n 0, 1) := by decide +kernel
theorem dX9_advances_143 : decode cX9_advances 143 = .ok (.getfield 99, 3) := by decide +kernel
theorem dX9_advances_146 : decode cX9_advances 146 = .ok (.bipush 99, 2) := by decide +kernel
theorem dX9_advances_148 : decode cX9_advances 148 = .ok (.if_icmp .gt 22, 3) := by decide +kernel
theorem dX9_advances_151 : decode cX9_advances 151 = .ok (.iload_n 1, 1) := by decide +kernel
theorem dX9_advances_152 : decode cX9_advances 152 = .ok (.bipush 48, 2) := by decide +kernel
theorem dX9_advances_154 : decode cX9_advances 154 = .ok (.if_icmp .ne 20, 3) := by decide +kernel
theorem dX9_advances_157 : decode cX9_advances 157 = .ok (.aload_n 0, 1) := by decide +kernel
theorem dX9_advances_158 : decode cX9_advances 158 = .ok (.getfield 86, 3) := by decide +kernel
theorem dX9_advances_161 : decode cX9_advances 161 = .ok (.aload_n 0, 1) := by decide +kernel
theorem dX9_advances_162 : decode cX9_advances 162 = .ok (.getfield 93, 3) := by decide +kernel
theorem dX9_advances_165 : decode cX9_advances 165 = .ok (.isub, 1) := by decide +kernel
theorem dX9_advances_166 : decode cX9_advances 166 = .ok (.iconst 1, 1) := by decide +kernel
theorem dX9_advances_167 : decode cX9_advances 167 = .ok (.if_icmp .le 7, 3) := by decide +kernel
theorem dX9_advances_170 : decode cX9_advances 170 = .ok (.iconst 4, 1) := by decide +kernel
theorem dX9_advances_171 : decode cX9_advances 171 = .ok (.goto 4, 3) := by decide +kernel
theorem dX9_advances_174 : decode cX9_advances 174 = .ok (.iconst 2, 1) := by decide +kernel
theorem dX9_advances_175 : decode cX9_advances 175 = .ok (.putfield 96, 3) := by decide +kernel
theorem dX9_advances_178 : decode cX9_advances 178 = .ok (.goto 49, 3) := by decide +kernel
theorem dX9_advances_181 : decode cX9_advances 181 = .ok (.aload_n 0, 1) := by decide +kernel
theorem dX9_advances_182 : decode cX9_advances 182 = .ok (.dup, 1) := by decide +kernel
theorem dX9_advances_183 : decode cX9_advances 183 = .ok (.getfield 86, 3) := by decide +kernel
theorem dX9_advances_186 : decode cX9_advances 186 = .ok (.iconst 1, 1) := by decide +kernel
theorem dX9_advances_187 : decode cX9_advances 187 = .ok (.iadd, 1) := by decide +kernel
theorem dX9_advances_188 : decode cX9_advances 188 = .ok (.putfield 86, 3) := by decide +kernel
theorem dX9_advances_191 : decode cX9_advances 191 = .ok (.aload_n 0, 1) := by decide +kernel
theorem dX9_advances_192 : decode cX9_advances 192 = .ok (.iload_n 1, 1) := by decide +kernel
theorem dX9_advances_193 : decode cX9_advances 193 = .ok (.putfield 99, 3) := by decide +kernel
theorem dX9_advances_196 : decode cX9_advances 196 = .ok (.aload_n 0, 1) := by decide +kernel
theorem dX9_advances_197 : decode cX9_advances 197 = .ok (.iload_n 1, 1) := by decide +kernel
theorem dX9_advances_198 : decode cX9_advances 198 = .ok (.bipush 59, 2) := by decide +kernel
theorem dX9_advances_200 : decode cX9_advances 200 = .ok (.if_icmp .ne 7, 3) := by decide +kernel
theorem dX9_advances_203 : decode cX9_advances 203 = .ok (.iconst 3, 1) := by decide +kernel
theorem dX9_advances_204 : decode cX9_advances 204 = .ok (.goto 20, 3) := by decide +kernel
theorem dX9_advances_207 : decode cX9_advances 207 = .ok (.iload_n 1, 1) := by decide +kernel
theorem dX9_advances_208 : decode cX9_advances 208 = .ok (.bipush 110, 2) := by decide +kernel
theorem dX9_advances_210 : decode cX9_advances 210 = .ok (.if_icmp .eq 9, 3) := by decide +kernel
theorem dX9_advances_213 : decode cX9_advances 213 = .ok (.iload_n 1, 1) := by decide +kernel
theorem dX9_advances_214 : decode cX9_advances 214 = .ok (.bipush 97, 2) := by decide +kernel
theorem dX9_advances_216 : decode cX9_advances 216 = .ok (.if_icmp .ne 7, 3) := by decide +kernel
theorem dX9_advances_219 : decode cX9_advances 219 = .ok (.iconst 1, 1) := by decide +kernel
theorem dX9_advances_220 : decode cX9_advances 220 = .ok (.goto 4, 3) := by decide +kernel
theorem dX9_advances_223 : decode cX9_advances 223 = .ok (.iconst 4, 1) := by decide +kernel
theorem dX9_advances_224 : decode cX9_advances 224 = .ok (.putfield 96, 3) := by decide +kernel
theorem dX9_advances_227 : decode cX9_advances 227 = .ok (.return_, 1) := by decide +kernel
theorem dX9_isWell_0 : decode cX9_isWell 0 = .ok (.aload_n 0, 1) := by decide +kernel
theorem dX9_isWell_1 : decode cX9_isWell 1 = .ok (.getfield 102, 3) := by decide +kernel
theorem dX9_isWell_4 : decode cX9_isWell 4 = .ok (.ifCond .ge 7, 3) := by decide +kernel
theorem dX9_isWell_7 : decode cX9_isWell 7 = .ok (.iconst 1, 1) := by decide +kernel
theorem dX9_isWell_8 : decode cX9_isWell 8 = .ok (.goto 4, 3) := by decide +kernel
theorem dX9_isWell_11 : decode cX9_isWell 11 = .ok (.iconst 0, 1) := by decide +kernel
theorem dX9_isWell_12 : decode cX9_isWell 12 = .ok (.ireturn, 1) := by decide +kernel
set_option maxRecDepth 20000 in
theorem ggX9_takes_X9_isWell : GoodIn wsX9_takes wsX9_isWell := goodIn_r _ [8, 2, 24, 25, 26, 27, 28, 29, 30, 31, 32, 33, 34, 35, 36, 37, 38, 39, 40, 41, 42, 43, 44, 45, 46, 47, 48, 49, 50, 51, 52, 53, 54, 55, 56, 57, 58, 59] (by decide +kernel) (by decide +kernel)
set_option maxRecDepth 20000 in
theorem gX9_takes_X9_isWell : GoodIn wsX9_takes (wsV RX9 105 RX9 yX9_isWell wsX9_isWell) := goodIn_app (goodIn_of _ (by decide +kernel)) ggX9_takes_X9_isWell
set_option maxRecDepth 20000 in
theorem ggX9_takes_X9_advances : GoodIn wsX9_takes wsX9_advances := goodIn_r _ [12, 13, 1, 14, 3, 15, 16, 17, 7, 18, 19, 20, 21, 22, 23, 24, 25, 26, 27, 28, 29, 30, 31, 32, 33, 34, 35, 36, 37, 38, 39, 40, 41, 42, 43, 44, 45, 46, 47, 48, 49, 50, 51, 52, 53, 54, 55, 56, 57, 58, 59] (by decide +kernel) (by decide +kernel)
set_option maxRecDepth 20000 in
theorem gX9_takes_X9_advances : GoodIn wsX9_takes (wsV RX9 109 RX9 yX9_advances wsX9_advances) := goodIn_app (goodIn_of _ (by decide +kernel)) ggX9_takes_X9_advances
theorem dX9_takes_0 : decode cX9_takes 0 = .ok (.aload_n 0, 1) := by decide +kernel
theorem dX9_takes_1 : decode cX9_takes 1 = .ok (.invokevirtual 105, 3) := by decide +kernel
theorem dX9_takes_4 : decode cX9_takes 4 = .ok (.ifCond .ne 5, 3) := by decide +kernel
theorem dX9_takes_7 : decode cX9_takes 7 = .ok (.iconst 0, 1) := by decide +kernel
theorem dX9_takes_8 : decode cX9_takes 8 = .ok (.ireturn, 1) := by decide +kernel
theorem dX9_takes_9 : decode cX9_takes 9 = .ok (.iload_n 1, 1) := by decide +kernel
theorem dX9_takes_10 : decode cX9_takes 10 = .ok (.ifCond .ne 13, 3) := by decide +kernel
theorem dX9_takes_13 : decode cX9_takes 13 = .ok (.aload_n 0, 1) := by decide +kernel
theorem dX9_takes_14 : decode cX9_takes 14 = .ok (.aload_n 0, 1) := by decide +kernel
theorem dX9_takes_15 : decode cX9_takes 15 = .ok (.getfield 93, 3) := by decide +kernel
theorem dX9_takes_18 : decode cX9_takes 18 = .ok (.putfield 102, 3) := by decide +kernel
theorem dX9_takes_21 : decode cX9_takes 21 = .ok (.iconst 0, 1) := by decide +kernel
theorem dX9_takes_22 : decode cX9_takes 22 = .ok (.ireturn, 1) := by decide +kernel
theorem dX9_takes_23 : decode cX9_takes 23 = .ok (.aload_n 0, 1) := by decide +kernel
theorem dX9_takes_24 : decode cX9_takes 24 = .ok (.getfield 99, 3) := by decide +kernel
theorem dX9_takes_27 : decode cX9_takes 27 = .ok (.istore_n 2, 1) := by decide +kernel
theorem dX9_takes_28 : decode cX9_takes 28 = .ok (.aload_n 0, 1) := by decide +kernel
theorem dX9_takes_29 : decode cX9_takes 29 = .ok (.invokevirtual 109, 3) := by decide +kernel
theorem dX9_takes_32 : decode cX9_takes 32 = .ok (.iload_n 2, 1) := by decide +kernel
theorem dX9_takes_33 : decode cX9_takes 33 = .ok (.ireturn, 1) := by decide +kernel
set_option maxRecDepth 20000 in
theorem ggX9_isNumber_X9_in : GoodIn wsX9_isNumber wsX9_in := goodIn_r _ [6] (by decide +kernel) (by decide +kernel)
set_option maxRecDepth 20000 in
theorem gX9_isNumber_X9_in : GoodIn wsX9_isNumber (va_wsS RX9 79 yX9_in wsX9_in) := goodIn_app (goodIn_of _ (by decide +kernel)) ggX9_isNumber_X9_in
theorem dX9_isNumber_0 : decode cX9_isNumber 0 = .ok (.aload_n 0, 1) := by decide +kernel
theorem dX9_isNumber_1 : decode cX9_isNumber 1 = .ok (.getfield 96, 3) := by decide +kernel
theorem dX9_isNumber_4 : decode cX9_isNumber 4 = .ok (.iconst 2, 1) := by decide +kernel
theorem dX9_isNumber_5 : decode cX9_isNumber 5 = .ok (.if_icmp .ne 19, 3) := by decide +kernel
theorem dX9_isNumber_8 : decode cX9_isNumber 8 = .ok (.aload_n 0, 1) := by decide +kernel
theorem dX9_isNumber_9 : decode cX9_isNumber 9 = .ok (.getfield 99, 3) := by decide +kernel
theorem dX9_isNumber_12 : decode cX9_isNumber 12 = .ok (.iload_n 1, 1) := by decide +kernel
theorem dX9_isNumber_13 : decode cX9_isNumber 13 = .ok (.iload_n 2, 1) := by decide +kernel
theorem dX9_isNumber_14 : decode cX9_isNumber 14 = .ok (.invokestatic 79, 3) := by decide +kernel
theorem dX9_isNumber_17 : decode cX9_isNumber 17 = .ok (.ifCond .eq 7, 3) := by decide +kernel
theorem dX9_isNumber_20 : decode cX9_isNumber 20 = .ok (.iconst 1, 1) := by decide +kernel
theorem dX9_isNumber_21 : decode cX9_isNumber 21 = .ok (.goto 4, 3) := by decide +kernel
theorem dX9_isNumber_24 : decode cX9_isNumber 24 = .ok (.iconst 0, 1) := by decide +kernel
theorem dX9_isNumber_25 : decode cX9_isNumber 25 = .ok (.ireturn, 1) := by decide +kernel
theorem dX9_begins_0 : decode cX9_begins 0 = .ok (.aload_n 0, 1) := by decide +kernel
theorem dX9_begins_1 : decode cX9_begins 1 = .ok (.iconst 4, 1) := by decide +kernel
theorem dX9_begins_2 : decode cX9_begins 2 = .ok (.putfield 112, 3) := by decide +kernel
theorem dX9_begins_5 : decode cX9_begins 5 = .ok (.iconst 0, 1) := by decide +kernel
theorem dX9_begins_6 : decode cX9_begins 6 = .ok (.istore_n 1, 1) := by decide +kernel
theorem dX9_begins_7 : decode cX9_begins 7 = .ok (.iload_n 1, 1) := by decide +kernel
theorem dX9_begins_8 : decode cX9_begins 8 = .ok (.bipush 12, 2) := by decide +kernel
theorem dX9_begins_10 : decode cX9_begins 10 = .ok (.if_icmp .ge 28, 3) := by decide +kernel
theorem dX9_begins_13 : decode cX9_begins 13 = .ok (.aload_n 0, 1) := by decide +kernel
theorem dX9_begins_14 : decode cX9_begins 14 = .ok (.getfield 13, 3) := by decide +kernel
theorem dX9_begins_17 : decode cX9_begins 17 = .ok (.iconst 0, 1) := by decide +kernel
theorem dX9_begins_18 : decode cX9_begins 18 = .ok (.iload_n 1, 1) := by decide +kernel
theorem dX9_begins_19 : decode cX9_begins 19 = .ok (.iadd, 1) := by decide +kernel
theorem dX9_begins_20 : decode cX9_begins 20 = .ok (.iconst 0, 1) := by decide +kernel
theorem dX9_begins_21 : decode cX9_begins 21 = .ok (.iastore, 1) := by decide +kernel
theorem dX9_begins_22 : decode cX9_begins 22 = .ok (.aload_n 0, 1) := by decide +kernel
theorem dX9_begins_23 : decode cX9_begins 23 = .ok (.getfield 13, 3) := by decide +kernel
theorem dX9_begins_26 : decode cX9_begins 26 = .ok (.bipush 12, 2) := by decide +kernel
theorem dX9_begins_28 : decode cX9_begins 28 = .ok (.iload_n 1, 1) := by decide +kernel
theorem dX9_begins_29 : decode cX9_begins 29 = .ok (.iadd, 1) := by decide +kernel
theorem dX9_begins_30 : decode cX9_begins 30 = .ok (.iload_n 1, 1) := by decide +kernel
theorem dX9_begins_31 : decode cX9_begins 31 = .ok (.iastore, 1) := by decide +kernel
theorem dX9_begins_32 : decode cX9_begins 32 = .ok (.iinc 1 1, 3) := by decide +kernel
theorem dX9_begins_35 : decode cX9_begins 35 = .ok (.goto (-28), 3) := by decide +kernel
theorem dX9_begins_38 : decode cX9_begins 38 = .ok (.return_, 1) := by decide +kernel
set_option maxRecDepth 20000 in
theorem ggX9_canBe_X9_isNumber : GoodIn wsX9_canBe wsX9_isNumber := goodIn_r _ [9, 10, 2, 11, 12, 8, 13, 23, 24, 25, 26, 27, 28, 29, 30, 31, 32, 33, 34, 35, 36, 37, 38, 39, 40, 41, 42, 43, 44, 45, 46, 47, 48, 49, 50, 51, 52, 53, 54, 55, 56, 57, 58] (by decide +kernel) (by decide +kernel)
set_option maxRecDepth 20000 in
theorem gX9_canBe_X9_isNumber : GoodIn wsX9_canBe (wsV RX9 115 RX9 yX9_isNumber wsX9_isNumber) := goodIn_app (goodIn_of _ (by decide +kernel)) ggX9_canBe_X9_isNumber
set_option maxRecDepth 20000 in
theorem ggX9_canBe_X9_has : GoodIn wsX9_canBe wsX9_has := goodIn_r _ [16] (by decide +kernel) (by decide +kernel)
set_option maxRecDepth 20000 in
theorem gX9_canBe_X9_has : GoodIn wsX9_canBe (va_wsS RX9 119 yX9_has wsX9_has) := goodIn_app (goodIn_of _ (by decide +kernel)) ggX9_canBe_X9_has
set_option maxRecDepth 20000 in
theorem ggX9_canBe_X9_looks : GoodIn wsX9_canBe wsX9_looks := goodIn_r _ [20, 21, 22, 4, 11, 12, 8, 13, 14, 15, 16, 23, 24, 25, 26, 27, 28, 29, 30, 31, 32, 33, 34, 35, 36, 37, 38, 39, 40, 41, 42, 43, 44, 45, 46, 47, 48, 49, 50, 51, 52, 53, 54, 55, 56, 57, 58] (by decide +kernel) (by decide +kernel)
set_option maxRecDepth 20000 in
theorem gX9_canBe_X9_looks : GoodIn wsX9_canBe (wsV RX9 122 RX9 yX9_looks wsX9_looks) := goodIn_app (goodIn_of _ (by decide +kernel)) ggX9_canBe_X9_looks
theorem dX9_canBe_0 : decode cX9_canBe 0 = .ok (.aload_n 0, 1) := by decide +kernel
theorem dX9_canBe_1 : decode cX9_canBe 1 = .ok (.iconst 0, 1) := by decide +kernel
theorem dX9_canBe_2 : decode cX9_canBe 2 = .ok (.aload_n 0, 1) := by decide +kernel
theorem dX9_canBe_3 : decode cX9_canBe 3 = .ok (.getfield 112, 3) := by decide +kernel
theorem dX9_canBe_6 : decode cX9_canBe 6 = .ok (.iconst 1, 1) := by decide +kernel
theorem dX9_canBe_7 : decode cX9_canBe 7 = .ok (.isub, 1) := by decide +kernel
theorem dX9_canBe_8 : decode cX9_canBe 8 = .ok (.invokevirtual 115, 3) := by decide +kernel
theorem dX9_canBe_11 : decode cX9_canBe 11 = .ok (.ifCond .eq 29, 3) := by decide +kernel
theorem dX9_canBe_14 : decode cX9_canBe 14 = .ok (.aload_n 0, 1) := by decide +kernel
theorem dX9_canBe_15 : decode cX9_canBe 15 = .ok (.getfield 99, 3) := by decide +kernel
theorem dX9_canBe_18 : decode cX9_canBe 18 = .ok (.iload_n 1, 1) := by decide +kernel
theorem dX9_canBe_19 : decode cX9_canBe 19 = .ok (.if_icmp .eq 21, 3) := by decide +kernel
theorem dX9_canBe_22 : decode cX9_canBe 22 = .ok (.aload_n 0, 1) := by decide +kernel
theorem dX9_canBe_23 : decode cX9_canBe 23 = .ok (.getfield 13, 3) := by decide +kernel
theorem dX9_canBe_26 : decode cX9_canBe 26 = .ok (.iconst 0, 1) := by decide +kernel
theorem dX9_canBe_27 : decode cX9_canBe 27 = .ok (.iload_n 1, 1) := by decide +kernel
theorem dX9_canBe_28 : decode cX9_canBe 28 = .ok (.iadd, 1) := by decide +kernel
theorem dX9_canBe_29 : decode cX9_canBe 29 = .ok (.iaload, 1) := by decide +kernel
theorem dX9_canBe_30 : decode cX9_canBe 30 = .ok (.aload_n 0, 1) := by decide +kernel
theorem dX9_canBe_31 : decode cX9_canBe 31 = .ok (.getfield 99, 3) := by decide +kernel
theorem dX9_canBe_34 : decode cX9_canBe 34 = .ok (.invokestatic 119, 3) := by decide +kernel
theorem dX9_canBe_37 : decode cX9_canBe 37 = .ok (.ifCond .eq 5, 3) := by decide +kernel
theorem dX9_canBe_40 : decode cX9_canBe 40 = .ok (.iconst 0, 1) := by decide +kernel
theorem dX9_canBe_41 : decode cX9_canBe 41 = .ok (.ireturn, 1) := by decide +kernel
theorem dX9_canBe_42 : decode cX9_canBe 42 = .ok (.aload_n 0, 1) := by decide +kernel
theorem dX9_canBe_43 : decode cX9_canBe 43 = .ok (.aload_n 0, 1) := by decide +kernel
theorem dX9_canBe_44 : decode cX9_canBe 44 = .ok (.getfield 13, 3) := by decide +kernel
theorem dX9_canBe_47 : decode cX9_canBe 47 = .ok (.aload_n 0, 1) := by decide +kernel
theorem dX9_canBe_48 : decode cX9_canBe 48 = .ok (.getfield 112, 3) := by decide +kernel
theorem dX9_canBe_51 : decode cX9_canBe 51 = .ok (.iload_n 1, 1) := by decide +kernel
theorem dX9_canBe_52 : decode cX9_canBe 52 = .ok (.aload_n 0, 1) := by decide +kernel
theorem dX9_canBe_53 : decode cX9_canBe 53 = .ok (.getfield 99, 3) := by decide +kernel
theorem dX9_canBe_56 : decode cX9_canBe 56 = .ok (.invokevirtual 122, 3) := by decide +kernel
theorem dX9_canBe_59 : decode cX9_canBe 59 = .ok (.aload_n 0, 1) := by decide +kernel
theorem dX9_canBe_60 : decode cX9_canBe 60 = .ok (.getfield 126, 3) := by decide +kernel
theorem dX9_canBe_63 : decode cX9_canBe 63 = .ok (.ifCond .ne 7, 3) := by decide +kernel
theorem dX9_canBe_66 : decode cX9_canBe 66 = .ok (.iconst 1, 1) := by decide +kernel
theorem dX9_canBe_67 : decode cX9_canBe 67 = .ok (.goto 4, 3) := by decide +kernel
theorem dX9_canBe_70 : decode cX9_canBe 70 = .ok (.iconst 0, 1) := by decide +kernel
theorem dX9_canBe_71 : decode cX9_canBe 71 = .ok (.ireturn, 1) := by decide +kernel
set_option maxRecDepth 20000 in
theorem ggX9_readsEntry_X9_isNumber : GoodIn wsX9_readsEntry wsX9_isNumber := goodIn_r _ [7, 8, 9, 10, 11, 6, 12, 61, 62, 63, 64, 65, 66, 67, 68, 69, 70, 71, 72, 73, 74, 75, 76, 77, 78, 79, 80, 81, 82, 83, 84, 85, 86, 87, 88, 89, 90, 91, 92, 93, 94, 95, 96] (by decide +kernel) (by decide +kernel)
set_option maxRecDepth 20000 in
theorem gX9_readsEntry_X9_isNumber : GoodIn wsX9_readsEntry (wsV RX9 115 RX9 yX9_isNumber wsX9_isNumber) := goodIn_app (goodIn_of _ (by decide +kernel)) ggX9_readsEntry_X9_isNumber
set_option maxRecDepth 20000 in
theorem ggX9_readsEntry_X9_takes : GoodIn wsX9_readsEntry wsX9_takes := goodIn_r _ [16, 17, 18, 9, 19, 20, 21, 6, 22, 23, 24, 25, 26, 27, 8, 28, 29, 30, 31, 32, 33, 10, 11, 12, 61, 62, 63, 64, 65, 66, 67, 68, 69, 70, 71, 72, 73, 74, 75, 76, 77, 78, 79, 80, 81, 82, 83, 84, 85, 86, 87, 88, 89, 90, 91, 92, 93, 94, 95, 96] (by decide +kernel) (by decide +kernel)
set_option maxRecDepth 20000 in
theorem gX9_readsEntry_X9_takes : GoodIn wsX9_readsEntry (wsV RX9 130 RX9 yX9_takes wsX9_takes) := goodIn_app (goodIn_of _ (by decide +kernel)) ggX9_readsEntry_X9_takes
set_option maxRecDepth 20000 in
theorem ggX9_readsEntry_X9_isWell : GoodIn wsX9_readsEntry wsX9_isWell := goodIn_r _ [22, 18, 61, 62, 63, 64, 65, 66, 67, 68, 69, 70, 71, 72, 73, 74, 75, 76, 77, 78, 79, 80, 81, 82, 83, 84, 85, 86, 87, 88, 89, 90, 91, 92, 93, 94, 95, 96] (by decide +kernel) (by decide +kernel)
set_option maxRecDepth 20000 in
theorem gX9_readsEntry_X9_isWell : GoodIn wsX9_readsEntry (wsV RX9 105 RX9 yX9_isWell wsX9_isWell) := goodIn_app (goodIn_of _ (by decide +kernel)) ggX9_readsEntry_X9_isWell
set_option maxRecDepth 20000 in
theorem ggX9_readsEntry_X9_canBe : GoodIn wsX9_readsEntry wsX9_canBe := goodIn_r _ [37, 1, 9, 2, 38, 3, 4, 5, 6, 7, 8, 10, 11, 12, 39, 40, 41, 42, 43, 44, 45, 46, 47, 61, 62, 63, 64, 65, 66, 67, 68, 69, 70, 71, 72, 73, 74, 75, 76, 77, 78, 79, 80, 81, 82, 83, 84, 85, 86, 87, 88, 89, 90, 91, 92, 93, 94, 95, 96] (by decide +kernel) (by decide +kernel)
set_option maxRecDepth 20000 in
theorem gX9_readsEntry_X9_canBe : GoodIn wsX9_readsEntry (wsV RX9 134 RX9 yX9_canBe wsX9_canBe) := goodIn_app (goodIn_of _ (by decide +kernel)) ggX9_readsEntry_X9_canBe
set_option maxRecDepth 20000 in
theorem ggX9_readsEntry_X9_lays : GoodIn wsX9_readsEntry wsX9_lays := goodIn_r _ [51, 46, 42, 43, 44, 6, 45, 47, 38, 10, 11, 12, 39, 40, 41, 52, 53, 54, 55, 56, 57, 58, 59, 60, 61, 62, 63, 64, 65, 66, 67, 68, 69, 70, 71, 72, 73, 74, 75, 76, 77, 78, 79, 80, 81, 82, 83, 84, 85, 86, 87, 88, 89, 90, 91, 92, 93, 94, 95, 96] (by decide +kernel) (by decide +kernel)
set_option maxRecDepth 20000 in
theorem gX9_readsEntry_X9_lays : GoodIn wsX9_readsEntry (wsV RX9 138 RX9 yX9_lays wsX9_lays) := goodIn_app (goodIn_of _ (by decide +kernel)) ggX9_readsEntry_X9_lays
theorem dX9_readsEntry_0 : decode cX9_readsEntry 0 = .ok (.iload_n 1, 1) := by decide +kernel
theorem dX9_readsEntry_1 : decode cX9_readsEntry 1 = .ok (.bipush 110, 2) := by decide +kernel
theorem dX9_readsEntry_3 : decode cX9_readsEntry 3 = .ok (.if_icmp .ne 19, 3) := by decide +kernel
theorem dX9_readsEntry_6 : decode cX9_readsEntry 6 = .ok (.aload_n 0, 1) := by decide +kernel
theorem dX9_readsEntry_7 : decode cX9_readsEntry 7 = .ok (.aload_n 0, 1) := by decide +kernel
theorem dX9_readsEntry_8 : decode cX9_readsEntry 8 = .ok (.aload_n 0, 1) := by decide +kernel
theorem dX9_readsEntry_9 : decode cX9_readsEntry 9 = .ok (.iconst 1, 1) := by decide +kernel
theorem dX9_readsEntry_10 : decode cX9_readsEntry 10 = .ok (.bipush 12, 2) := by decide +kernel
theorem dX9_readsEntry_12 : decode cX9_readsEntry 12 = .ok (.invokevirtual 115, 3) := by decide +kernel
theorem dX9_readsEntry_15 : decode cX9_readsEntry 15 = .ok (.invokevirtual 130, 3) := by decide +kernel
theorem dX9_readsEntry_18 : decode cX9_readsEntry 18 = .ok (.putfield 112, 3) := by decide +kernel
theorem dX9_readsEntry_21 : decode cX9_readsEntry 21 = .ok (.return_, 1) := by decide +kernel
theorem dX9_readsEntry_22 : decode cX9_readsEntry 22 = .ok (.aload_n 0, 1) := by decide +kernel
theorem dX9_readsEntry_23 : decode cX9_readsEntry 23 = .ok (.aload_n 0, 1) := by decide +kernel
theorem dX9_readsEntry_24 : decode cX9_readsEntry 24 = .ok (.iconst 0, 1) := by decide +kernel
theorem dX9_readsEntry_25 : decode cX9_readsEntry 25 = .ok (.aload_n 0, 1) := by decide +kernel
theorem dX9_readsEntry_26 : decode cX9_readsEntry 26 = .ok (.getfield 112, 3) := by decide +kernel
theorem dX9_readsEntry_29 : decode cX9_readsEntry 29 = .ok (.iconst 1, 1) := by decide +kernel
theorem dX9_readsEntry_30 : decode cX9_readsEntry 30 = .ok (.isub, 1) := by decide +kernel
theorem dX9_readsEntry_31 : decode cX9_readsEntry 31 = .ok (.invokevirtual 115, 3) := by decide +kernel
theorem dX9_readsEntry_34 : decode cX9_readsEntry 34 = .ok (.invokevirtual 130, 3) := by decide +kernel
theorem dX9_readsEntry_37 : decode cX9_readsEntry 37 = .ok (.istore_n 2, 1) := by decide +kernel
theorem dX9_readsEntry_38 : decode cX9_readsEntry 38 = .ok (.aload_n 0, 1) := by decide +kernel
theorem dX9_readsEntry_39 : decode cX9_readsEntry 39 = .ok (.aload_n 0, 1) := by decide +kernel
theorem dX9_readsEntry_40 : decode cX9_readsEntry 40 = .ok (.invokevirtual 105, 3) := by decide +kernel
theorem dX9_readsEntry_43 : decode cX9_readsEntry 43 = .ok (.ifCond .eq 15, 3) := by decide +kernel
theorem dX9_readsEntry_46 : decode cX9_readsEntry 46 = .ok (.aload_n 0, 1) := by decide +kernel
theorem dX9_readsEntry_47 : decode cX9_readsEntry 47 = .ok (.iload_n 2, 1) := by decide +kernel
theorem dX9_readsEntry_48 : decode cX9_readsEntry 48 = .ok (.invokevirtual 134, 3) := by decide +kernel
theorem dX9_readsEntry_51 : decode cX9_readsEntry 51 = .ok (.ifCond .eq 7, 3) := by decide +kernel
theorem dX9_readsEntry_54 : decode cX9_readsEntry 54 = .ok (.iconst 1, 1) := by decide +kernel
theorem dX9_readsEntry_55 : decode cX9_readsEntry 55 = .ok (.goto 4, 3) := by decide +kernel
theorem dX9_readsEntry_58 : decode cX9_readsEntry 58 = .ok (.iconst 0, 1) := by decide +kernel
theorem dX9_readsEntry_59 : decode cX9_readsEntry 59 = .ok (.invokevirtual 130, 3) := by decide +kernel
theorem dX9_readsEntry_62 : decode cX9_readsEntry 62 = .ok (.istore_n 3, 1) := by decide +kernel
theorem dX9_readsEntry_63 : decode cX9_readsEntry 63 = .ok (.aload_n 0, 1) := by decide +kernel
theorem dX9_readsEntry_64 : decode cX9_readsEntry 64 = .ok (.invokevirtual 105, 3) := by decide +kernel
theorem dX9_readsEntry_67 : decode cX9_readsEntry 67 = .ok (.ifCond .eq 17, 3) := by decide +kernel
theorem dX9_readsEntry_70 : decode cX9_readsEntry 70 = .ok (.aload_n 0, 1) := by decide +kernel
theorem dX9_readsEntry_71 : decode cX9_readsEntry 71 = .ok (.aload_n 0, 1) := by decide +kernel
theorem dX9_readsEntry_72 : decode cX9_readsEntry 72 = .ok (.getfield 13, 3) := by decide +kernel
theorem dX9_readsEntry_75 : decode cX9_readsEntry 75 = .ok (.aload_n 0, 1) := by decide +kernel
theorem dX9_readsEntry_76 : decode cX9_readsEntry 76 = .ok (.getfield 112, 3) := by decide +kernel
theorem dX9_readsEntry_79 : decode cX9_readsEntry 79 = .ok (.iload_n 2, 1) := by decide +kernel
theorem dX9_readsEntry_80 : decode cX9_readsEntry 80 = .ok (.iload_n 3, 1) := by decide +kernel
theorem dX9_readsEntry_81 : decode cX9_readsEntry 81 = .ok (.invokevirtual 138, 3) := by decide +kernel
theorem dX9_readsEntry_84 : decode cX9_readsEntry 84 = .ok (.return_, 1) := by decide +kernel
set_option maxRecDepth 20000 in
theorem ggX9_store_X9_begins : GoodIn wsX9_store wsX9_begins := goodIn_r _ [10, 11, 12, 83, 84, 85, 86, 87, 88, 89, 90, 91, 92, 93, 94, 95, 96, 97, 98, 99, 100, 101, 102, 103, 104, 105, 106, 107, 108, 109, 110, 111, 112, 113, 114, 115, 116, 117, 118] (by decide +kernel) (by decide +kernel)
set_option maxRecDepth 20000 in
theorem gX9_store_X9_begins : GoodIn wsX9_store (wsV RX9 69 RX9 yX9_begins wsX9_begins) := goodIn_app (goodIn_of _ (by decide +kernel)) ggX9_store_X9_begins
set_option maxRecDepth 20000 in
theorem ggX9_store_X9_advances : GoodIn wsX9_store wsX9_advances := goodIn_r _ [16, 3, 17, 4, 5, 18, 19, 20, 9, 21, 22, 23, 24, 25, 26, 83, 84, 85, 86, 87, 88, 89, 90, 91, 92, 93, 94, 95, 96, 97, 98, 99, 100, 101, 102, 103, 104, 105, 106, 107, 108, 109, 110, 111, 112, 113, 114, 115, 116, 117, 118] (by decide +kernel) (by decide +kernel)
set_option maxRecDepth 20000 in
theorem gX9_store_X9_advances : GoodIn wsX9_store (wsV RX9 109 RX9 yX9_advances wsX9_advances) := goodIn_app (goodIn_of _ (by decide +kernel)) ggX9_store_X9_advances
set_option maxRecDepth 20000 in
theorem ggX9_store_X9_isWell : GoodIn wsX9_store wsX9_isWell := goodIn_r _ [30, 2, 83, 84, 85, 86, 87, 88, 89, 90, 91, 92, 93, 94, 95, 96, 97, 98, 99, 100, 101, 102, 103, 104, 105, 106, 107, 108, 109, 110, 111, 112, 113, 114, 115, 116, 117, 118] (by decide +kernel) (by decide +kernel)
set_option maxRecDepth 20000 in
theorem gX9_store_X9_isWell : GoodIn wsX9_store (wsV RX9 105 RX9 yX9_isWell wsX9_isWell) := goodIn_app (goodIn_of _ (by decide +kernel)) ggX9_store_X9_isWell
set_option maxRecDepth 20000 in
theorem ggX9_store_X9_takes : GoodIn wsX9_store wsX9_takes := goodIn_r _ [34, 17, 2, 5, 27, 28, 29, 9, 30, 13, 14, 15, 16, 3, 4, 18, 19, 20, 21, 22, 23, 24, 25, 26, 83, 84, 85, 86, 87, 88, 89, 90, 91, 92, 93, 94, 95, 96, 97, 98, 99, 100, 101, 102, 103, 104, 105, 106, 107, 108, 109, 110, 111, 112, 113, 114, 115, 116, 117, 118] (by decide +kernel) (by decide +kernel)
set_option maxRecDepth 20000 in
theorem gX9_store_X9_takes : GoodIn wsX9_store (wsV RX9 130 RX9 yX9_takes wsX9_takes) := goodIn_app (goodIn_of _ (by decide +kernel)) ggX9_store_X9_takes
set_option maxRecDepth 20000 in
theorem ggX9_store_X9_readsEntry : GoodIn wsX9_store wsX9_readsEntry := goodIn_r _ [38, 11, 12, 39, 40, 41, 9, 42, 4, 5, 24, 25, 26, 31, 32, 33, 34, 17, 2, 27, 28, 29, 30, 13, 14, 15, 16, 3, 18, 19, 20, 21, 22, 23, 43, 44, 45, 46, 47, 48, 49, 50, 51, 52, 53, 54, 55, 56, 57, 58, 59, 60, 61, 62, 63, 64, 65, 66, 67, 68, 69, 83, 84, 85, 86, 87, 88, 89, 90, 91, 92, 93, 94, 95, 96, 97, 98, 99, 100, 101, 102, 103, 104, 105, 106, 107, 108, 109, 110, 111, 112, 113, 114, 115, 116, 117, 118] (by decide +kernel) (by decide +kernel)
set_option maxRecDepth 20000 in
theorem gX9_store_X9_readsEntry : GoodIn wsX9_store (wsV RX9 141 RX9 yX9_readsEntry wsX9_readsEntry) := goodIn_app (goodIn_of _ (by decide +kernel)) ggX9_store_X9_readsEntry
set_option maxRecDepth 20000 in
theorem ggX9_store_X9_settles : GoodIn wsX9_store wsX9_settles := goodIn_r _ [73, 11, 74, 12, 75, 22, 76, 77, 78, 79, 80, 81, 9, 82, 83, 84, 85, 86, 87, 88, 89, 90, 91, 92, 93, 94, 95, 96, 97, 98, 99, 100, 101, 102, 103, 104, 105, 106, 107, 108, 109, 110, 111, 112, 113, 114, 115, 116, 117, 118] (by decide +kernel) (by decide +kernel)
set_option maxRecDepth 20000 in
theorem gX9_store_X9_settles : GoodIn wsX9_store (wsV RX9 72 RX9 yX9_settles wsX9_settles) := goodIn_app (goodIn_of _ (by decide +kernel)) ggX9_store_X9_settles
theorem dX9_store_0 : decode cX9_store 0 = .ok (.aload_n 0, 1) := by decide +kernel
theorem dX9_store_1 : decode cX9_store 1 = .ok (.iconst 0, 1) := by decide +kernel
theorem dX9_store_2 : decode cX9_store 2 = .ok (.putfield 75, 3) := by decide +kernel
theorem dX9_store_5 : decode cX9_store 5 = .ok (.aload_n 0, 1) := by decide +kernel
theorem dX9_store_6 : decode cX9_store 6 = .ok (.iconst (-1), 1) := by decide +kernel
theorem dX9_store_7 : decode cX9_store 7 = .ok (.putfield 102, 3) := by decide +kernel
theorem dX9_store_10 : decode cX9_store 10 = .ok (.aload_n 0, 1) := by decide +kernel
theorem dX9_store_11 : decode cX9_store 11 = .ok (.iconst 0, 1) := by decide +kernel
theorem dX9_store_12 : decode cX9_store 12 = .ok (.putfield 86, 3) := by decide +kernel
theorem dX9_store_15 : decode cX9_store 15 = .ok (.aload_n 0, 1) := by decide +kernel
theorem dX9_store_16 : decode cX9_store 16 = .ok (.invokevirtual 69, 3) := by decide +kernel
theorem dX9_store_19 : decode cX9_store 19 = .ok (.iconst 0, 1) := by decide +kernel
theorem dX9_store_20 : decode cX9_store 20 = .ok (.istore_n 1, 1) := by decide +kernel
theorem dX9_store_21 : decode cX9_store 21 = .ok (.aload_n 0, 1) := by decide +kernel
theorem dX9_store_22 : decode cX9_store 22 = .ok (.invokevirtual 109, 3) := by decide +kernel
theorem dX9_store_25 : decode cX9_store 25 = .ok (.aload_n 0, 1) := by decide +kernel
theorem dX9_store_26 : decode cX9_store 26 = .ok (.invokevirtual 105, 3) := by decide +kernel
theorem dX9_store_29 : decode cX9_store 29 = .ok (.ifCond .eq 77, 3) := by decide +kernel
theorem dX9_store_32 : decode cX9_store 32 = .ok (.aload_n 0, 1) := by decide +kernel
theorem dX9_store_33 : decode cX9_store 33 = .ok (.getfield 96, 3) := by decide +kernel
theorem dX9_store_36 : decode cX9_store 36 = .ok (.ifCond .eq 70, 3) := by decide +kernel
theorem dX9_store_39 : decode cX9_store 39 = .ok (.aload_n 0, 1) := by decide +kernel
theorem dX9_store_40 : decode cX9_store 40 = .ok (.aload_n 0, 1) := by decide +kernel
theorem dX9_store_41 : decode cX9_store 41 = .ok (.getfield 96, 3) := by decide +kernel
theorem dX9_store_44 : decode cX9_store 44 = .ok (.iconst 1, 1) := by decide +kernel
theorem dX9_store_45 : decode cX9_store 45 = .ok (.if_icmp .ne 20, 3) := by decide +kernel
theorem dX9_store_48 : decode cX9_store 48 = .ok (.aload_n 0, 1) := by decide +kernel
theorem dX9_store_49 : decode cX9_store 49 = .ok (.getfield 99, 3) := by decide +kernel
theorem dX9_store_52 : decode cX9_store 52 = .ok (.bipush 110, 2) := by decide +kernel
theorem dX9_store_54 : decode cX9_store 54 = .ok (.if_icmp .ne 7, 3) := by decide +kernel
theorem dX9_store_57 : decode cX9_store 57 = .ok (.iload_n 1, 1) := by decide +kernel
theorem dX9_store_58 : decode cX9_store 58 = .ok (.ifCond .ne 7, 3) := by decide +kernel
theorem dX9_store_61 : decode cX9_store 61 = .ok (.iconst 1, 1) := by decide +kernel
theorem dX9_store_62 : decode cX9_store 62 = .ok (.goto 4, 3) := by decide +kernel
theorem dX9_store_65 : decode cX9_store 65 = .ok (.iconst 0, 1) := by decide +kernel
theorem dX9_store_66 : decode cX9_store 66 = .ok (.invokevirtual 130, 3) := by decide +kernel
theorem dX9_store_69 : decode cX9_store 69 = .ok (.istore_n 2, 1) := by decide +kernel
theorem dX9_store_70 : decode cX9_store 70 = .ok (.aload_n 0, 1) := by decide +kernel
theorem dX9_store_71 : decode cX9_store 71 = .ok (.invokevirtual 105, 3) := by decide +kernel
theorem dX9_store_74 : decode cX9_store 74 = .ok (.ifCond .eq 8, 3) := by decide +kernel
theorem dX9_store_77 : decode cX9_store 77 = .ok (.aload_n 0, 1) := by decide +kernel
theorem dX9_store_78 : decode cX9_store 78 = .ok (.iload_n 2, 1) := by decide +kernel
theorem dX9_store_79 : decode cX9_store 79 = .ok (.invokevirtual 141, 3) := by decide +kernel
theorem dX9_store_82 : decode cX9_store 82 = .ok (.aload_n 0, 1) := by decide +kernel
theorem dX9_store_83 : decode cX9_store 83 = .ok (.aload_n 0, 1) := by decide +kernel
theorem dX9_store_84 : decode cX9_store 84 = .ok (.getfield 96, 3) := by decide +kernel
theorem dX9_store_87 : decode cX9_store 87 = .ok (.iconst 3, 1) := by decide +kernel
theorem dX9_store_88 : decode cX9_store 88 = .ok (.if_icmp .ne 7, 3) := by decide +kernel
theorem dX9_store_91 : decode cX9_store 91 = .ok (.iconst 1, 1) := by decide +kernel
theorem dX9_store_92 : decode cX9_store 92 = .ok (.goto 4, 3) := by decide +kernel
theorem dX9_store_95 : decode cX9_store 95 = .ok (.iconst 0, 1) := by decide +kernel
theorem dX9_store_96 : decode cX9_store 96 = .ok (.invokevirtual 130, 3) := by decide +kernel
theorem dX9_store_99 : decode cX9_store 99 = .ok (.pop, 1) := by decide +kernel
theorem dX9_store_100 : decode cX9_store 100 = .ok (.iinc 1 1, 3) := by decide +kernel
theorem dX9_store_103 : decode cX9_store 103 = .ok (.goto (-78), 3) := by decide +kernel
theorem dX9_store_106 : decode cX9_store 106 = .ok (.aload_n 0, 1) := by decide +kernel
theorem dX9_store_107 : decode cX9_store 107 = .ok (.invokevirtual 105, 3) := by decide +kernel
theorem dX9_store_110 : decode cX9_store 110 = .ok (.ifCond .ne 11, 3) := by decide +kernel
theorem dX9_store_113 : decode cX9_store 113 = .ok (.bipush (-10), 2) := by decide +kernel
theorem dX9_store_115 : decode cX9_store 115 = .ok (.aload_n 0, 1) := by decide +kernel
theorem dX9_store_116 : decode cX9_store 116 = .ok (.getfield 102, 3) := by decide +kernel
theorem dX9_store_119 : decode cX9_store 119 = .ok (.isub, 1) := by decide +kernel
theorem dX9_store_120 : decode cX9_store 120 = .ok (.ireturn, 1) := by decide +kernel
theorem dX9_store_121 : decode cX9_store 121 = .ok (.aload_n 0, 1) := by decide +kernel
theorem dX9_store_122 : decode cX9_store 122 = .ok (.invokevirtual 72, 3) := by decide +kernel
theorem dX9_store_125 : decode cX9_store 125 = .ok (.iload_n 1, 1) := by decide +kernel
theorem dX9_store_126 : decode cX9_store 126 = .ok (.ireturn, 1) := by decide +kernel
set_option maxRecDepth 20000 in
theorem ggX9_settles_X9_copies : GoodIn wsX9_settles wsX9_copies := goodIn_r _ [13] (by decide +kernel) (by decide +kernel)
set_option maxRecDepth 20000 in
theorem gX9_settles_X9_copies : GoodIn wsX9_settles (va_wsS RX9 148 yX9_copies wsX9_copies) := goodIn_app (goodIn_of _ (by decide +kernel)) ggX9_settles_X9_copies
theorem dX9_settles_0 : decode cX9_settles 0 = .ok (.aload_n 0, 1) := by decide +kernel
theorem dX9_settles_1 : decode cX9_settles 1 = .ok (.aload_n 0, 1) := by decide +kernel
theorem dX9_settles_2 : decode cX9_settles 2 = .ok (.getfield 112, 3) := by decide +kernel
theorem dX9_settles_5 : decode cX9_settles 5 = .ok (.putfield 145, 3) := by decide +kernel
theorem dX9_settles_8 : decode cX9_settles 8 = .ok (.aload_n 0, 1) := by decide +kernel
theorem dX9_settles_9 : decode cX9_settles 9 = .ok (.getfield 13, 3) := by decide +kernel
theorem dX9_settles_12 : decode cX9_settles 12 = .ok (.aload_n 0, 1) := by decide +kernel
theorem dX9_settles_13 : decode cX9_settles 13 = .ok (.getfield 16, 3) := by decide +kernel
theorem dX9_settles_16 : decode cX9_settles 16 = .ok (.invokestatic 148, 3) := by decide +kernel
theorem dX9_settles_19 : decode cX9_settles 19 = .ok (.aload_n 0, 1) := by decide +kernel
theorem dX9_settles_20 : decode cX9_settles 20 = .ok (.iconst 0, 1) := by decide +kernel
theorem dX9_settles_21 : decode cX9_settles 21 = .ok (.putfield 83, 3) := by decide +kernel
theorem dX9_settles_24 : decode cX9_settles 24 = .ok (.aload_n 0, 1) := by decide +kernel
theorem dX9_settles_25 : decode cX9_settles 25 = .ok (.iconst 0, 1) := by decide +kernel
theorem dX9_settles_26 : decode cX9_settles 26 = .ok (.putfield 152, 3) := by decide +kernel
theorem dX9_settles_29 : decode cX9_settles 29 = .ok (.aload_n 0, 1) := by decide +kernel
theorem dX9_settles_30 : decode cX9_settles 30 = .ok (.iconst 0, 1) := by decide +kernel
theorem dX9_settles_31 : decode cX9_settles 31 = .ok (.putfield 155, 3) := by decide +kernel
theorem dX9_settles_34 : decode cX9_settles 34 = .ok (.aload_n 0, 1) := by decide +kernel
theorem dX9_settles_35 : decode cX9_settles 35 = .ok (.iconst 0, 1) := by decide +kernel
theorem dX9_settles_36 : decode cX9_settles 36 = .ok (.putfield 158, 3) := by decide +kernel
theorem dX9_settles_39 : decode cX9_settles 39 = .ok (.aload_n 0, 1) := by decide +kernel
theorem dX9_settles_40 : decode cX9_settles 40 = .ok (.getfield 28, 3) := by decide +kernel
theorem dX9_settles_43 : decode cX9_settles 43 = .ok (.iconst 0, 1) := by decide +kernel
theorem dX9_settles_44 : decode cX9_settles 44 = .ok (.iconst 0, 1) := by decide +kernel
theorem dX9_settles_45 : decode cX9_settles 45 = .ok (.bastore, 1) := by decide +kernel
theorem dX9_settles_46 : decode cX9_settles 46 = .ok (.aload_n 0, 1) := by decide +kernel
theorem dX9_settles_47 : decode cX9_settles 47 = .ok (.getfield 28, 3) := by decide +kernel
theorem dX9_settles_50 : decode cX9_settles 50 = .ok (.iconst 1, 1) := by decide +kernel
theorem dX9_settles_51 : decode cX9_settles 51 = .ok (.iconst 0, 1) := by decide +kernel
theorem dX9_settles_52 : decode cX9_settles 52 = .ok (.bastore, 1) := by decide +kernel
theorem dX9_settles_53 : decode cX9_settles 53 = .ok (.return_, 1) := by decide +kernel
theorem dX9_copies_0 : decode cX9_copies 0 = .ok (.iconst 0, 1) := by decide +kernel
theorem dX9_copies_1 : decode cX9_copies 1 = .ok (.istore_n 2, 1) := by decide +kernel
theorem dX9_copies_2 : decode cX9_copies 2 = .ok (.iload_n 2, 1) := by decide +kernel
theorem dX9_copies_3 : decode cX9_copies 3 = .ok (.bipush 24, 2) := by decide +kernel
theorem dX9_copies_5 : decode cX9_copies 5 = .ok (.if_icmp .ge 15, 3) := by decide +kernel
theorem dX9_copies_8 : decode cX9_copies 8 = .ok (.aload_n 1, 1) := by decide +kernel
theorem dX9_copies_9 : decode cX9_copies 9 = .ok (.iload_n 2, 1) := by decide +kernel
theorem dX9_copies_10 : decode cX9_copies 10 = .ok (.aload_n 0, 1) := by decide +kernel
theorem dX9_copies_11 : decode cX9_copies 11 = .ok (.iload_n 2, 1) := by decide +kernel
theorem dX9_copies_12 : decode cX9_copies 12 = .ok (.iaload, 1) := by decide +kernel
theorem dX9_copies_13 : decode cX9_copies 13 = .ok (.iastore, 1) := by decide +kernel
theorem dX9_copies_14 : decode cX9_copies 14 = .ok (.iinc 2 1, 3) := by decide +kernel
theorem dX9_copies_17 : decode cX9_copies 17 = .ok (.goto (-15), 3) := by decide +kernel
theorem dX9_copies_20 : decode cX9_copies 20 = .ok (.return_, 1) := by decide +kernel
set_option maxRecDepth 20000 in
theorem ggX9_isItem_X9_in : GoodIn wsX9_isItem wsX9_in := goodIn_r _ [5] (by decide +kernel) (by decide +kernel)
set_option maxRecDepth 20000 in
theorem gX9_isItem_X9_in : GoodIn wsX9_isItem (va_wsS RX9 79 yX9_in wsX9_in) := goodIn_app (goodIn_of _ (by decide +kernel)) ggX9_isItem_X9_in
theorem dX9_isItem_0 : decode cX9_isItem 0 = .ok (.iload_n 1, 1) := by decide +kernel
theorem dX9_isItem_1 : decode cX9_isItem 1 = .ok (.iconst 0, 1) := by decide +kernel
theorem dX9_isItem_2 : decode cX9_isItem 2 = .ok (.aload_n 0, 1) := by decide +kernel
theorem dX9_isItem_3 : decode cX9_isItem 3 = .ok (.getfield 145, 3) := by decide +kernel
theorem dX9_isItem_6 : decode cX9_isItem 6 = .ok (.iconst 1, 1) := by decide +kernel
theorem dX9_isItem_7 : decode cX9_isItem 7 = .ok (.isub, 1) := by decide +kernel
theorem dX9_isItem_8 : decode cX9_isItem 8 = .ok (.invokestatic 79, 3) := by decide +kernel
theorem dX9_isItem_11 : decode cX9_isItem 11 = .ok (.ireturn, 1) := by decide +kernel
set_option maxRecDepth 20000 in
theorem ggX9_isTwo_X9_isItem : GoodIn wsX9_isTwo wsX9_isItem := goodIn_r _ [5, 6, 7, 8, 4, 9, 10, 11, 12, 13, 14, 15, 16, 17, 18, 19, 20, 21, 22, 23, 24, 25, 26, 27, 28, 29, 30, 31, 32, 33, 34, 35, 36, 37, 38, 39, 40, 41, 42, 43, 44, 45] (by decide +kernel) (by decide +kernel)
set_option maxRecDepth 20000 in
theorem gX9_isTwo_X9_isItem : GoodIn wsX9_isTwo (wsV RX9 161 RX9 yX9_isItem wsX9_isItem) := goodIn_app (goodIn_of _ (by decide +kernel)) ggX9_isTwo_X9_isItem
theorem dX9_isTwo_0 : decode cX9_isTwo 0 = .ok (.aload_n 0, 1) := by decide +kernel
theorem dX9_isTwo_1 : decode cX9_isTwo 1 = .ok (.iload_n 1, 1) := by decide +kernel
theorem dX9_isTwo_2 : decode cX9_isTwo 2 = .ok (.invokevirtual 161, 3) := by decide +kernel
theorem dX9_isTwo_5 : decode cX9_isTwo 5 = .ok (.ifCond .eq 20, 3) := by decide +kernel
theorem dX9_isTwo_8 : decode cX9_isTwo 8 = .ok (.aload_n 0, 1) := by decide +kernel
theorem dX9_isTwo_9 : decode cX9_isTwo 9 = .ok (.iload_n 2, 1) := by decide +kernel
theorem dX9_isTwo_10 : decode cX9_isTwo 10 = .ok (.invokevirtual 161, 3) := by decide +kernel
theorem dX9_isTwo_13 : decode cX9_isTwo 13 = .ok (.ifCond .eq 12, 3) := by decide +kernel
theorem dX9_isTwo_16 : decode cX9_isTwo 16 = .ok (.iload_n 1, 1) := by decide +kernel
theorem dX9_isTwo_17 : decode cX9_isTwo 17 = .ok (.iload_n 2, 1) := by decide +kernel
theorem dX9_isTwo_18 : decode cX9_isTwo 18 = .ok (.if_icmp .eq 7, 3) := by decide +kernel
theorem dX9_isTwo_21 : decode cX9_isTwo 21 = .ok (.iconst 1, 1) := by decide +kernel
theorem dX9_isTwo_22 : decode cX9_isTwo 22 = .ok (.goto 4, 3) := by decide +kernel
theorem dX9_isTwo_25 : decode cX9_isTwo 25 = .ok (.iconst 0, 1) := by decide +kernel
theorem dX9_isTwo_26 : decode cX9_isTwo 26 = .ok (.ireturn, 1) := by decide +kernel
set_option maxRecDepth 20000 in
theorem ggX9_looks_X9_in : GoodIn wsX9_looks wsX9_in := goodIn_r _ [7] (by decide +kernel) (by decide +kernel)
set_option maxRecDepth 20000 in
theorem gX9_looks_X9_in : GoodIn wsX9_looks (va_wsS RX9 79 yX9_in wsX9_in) := goodIn_app (goodIn_of _ (by decide +kernel)) ggX9_looks_X9_in
set_option maxRecDepth 20000 in
theorem ggX9_looks_X9_has : GoodIn wsX9_looks wsX9_has := goodIn_r _ [10] (by decide +kernel) (by decide +kernel)
set_option maxRecDepth 20000 in
theorem gX9_looks_X9_has : GoodIn wsX9_looks (va_wsS RX9 119 yX9_has wsX9_has) := goodIn_app (goodIn_of _ (by decide +kernel)) ggX9_looks_X9_has
theorem dX9_looks_0 : decode cX9_looks 0 = .ok (.aload_n 0, 1) := by decide +kernel
theorem dX9_looks_1 : decode cX9_looks 1 = .ok (.iconst 0, 1) := by decide +kernel
theorem dX9_looks_2 : decode cX9_looks 2 = .ok (.putfield 164, 3) := by decide +kernel
theorem dX9_looks_5 : decode cX9_looks 5 = .ok (.aload_n 0, 1) := by decide +kernel
theorem dX9_looks_6 : decode cX9_looks 6 = .ok (.iconst 0, 1) := by decide +kernel
theorem dX9_looks_7 : decode cX9_looks 7 = .ok (.putfield 167, 3) := by decide +kernel
theorem dX9_looks_10 : decode cX9_looks 10 = .ok (.aload_n 0, 1) := by decide +kernel
theorem dX9_looks_11 : decode cX9_looks 11 = .ok (.iconst 0, 1) := by decide +kernel
theorem dX9_looks_12 : decode cX9_looks 12 = .ok (.putfield 126, 3) := by decide +kernel
theorem dX9_looks_15 : decode cX9_looks 15 = .ok (.aload_n 1, 1) := by decide +kernel
theorem dX9_looks_16 : decode cX9_looks 16 = .ok (.bipush 12, 2) := by decide +kernel
theorem dX9_looks_18 : decode cX9_looks 18 = .ok (.iload_n 3, 1) := by decide +kernel
theorem dX9_looks_19 : decode cX9_looks 19 = .ok (.iadd, 1) := by decide +kernel
theorem dX9_looks_20 : decode cX9_looks 20 = .ok (.iaload, 1) := by decide +kernel
theorem dX9_looks_21 : decode cX9_looks 21 = .ok (.aload_n 1, 1) := by decide +kernel
theorem dX9_looks_22 : decode cX9_looks 22 = .ok (.bipush 12, 2) := by decide +kernel
theorem dX9_looks_24 : decode cX9_looks 24 = .ok (.iload 4, 2) := by decide +kernel
theorem dX9_looks_26 : decode cX9_looks 26 = .ok (.iadd, 1) := by decide +kernel
theorem dX9_looks_27 : decode cX9_looks 27 = .ok (.iaload, 1) := by decide +kernel
theorem dX9_looks_28 : decode cX9_looks 28 = .ok (.if_icmp .ge 4, 3) := by decide +kernel
theorem dX9_looks_31 : decode cX9_looks 31 = .ok (.return_, 1) := by decide +kernel
theorem dX9_looks_32 : decode cX9_looks 32 = .ok (.iconst 0, 1) := by decide +kernel
theorem dX9_looks_33 : decode cX9_looks 33 = .ok (.istore 5, 2) := by decide +kernel
theorem dX9_looks_35 : decode cX9_looks 35 = .ok (.iconst 0, 1) := by decide +kernel
theorem dX9_looks_36 : decode cX9_looks 36 = .ok (.istore 6, 2) := by decide +kernel
theorem dX9_looks_38 : decode cX9_looks 38 = .ok (.iload 6, 2) := by decide +kernel
theorem dX9_looks_40 : decode cX9_looks 40 = .ok (.iload_n 2, 1) := by decide +kernel
theorem dX9_looks_41 : decode cX9_looks 41 = .ok (.if_icmp .ge 48, 3) := by decide +kernel
theorem dX9_looks_44 : decode cX9_looks 44 = .ok (.iload 5, 2) := by decide +kernel
theorem dX9_looks_46 : decode cX9_looks 46 = .ok (.aload_n 1, 1) := by decide +kernel
theorem dX9_looks_47 : decode cX9_looks 47 = .ok (.bipush 12, 2) := by decide +kernel
theorem dX9_looks_49 : decode cX9_looks 49 = .ok (.iload 6, 2) := by decide +kernel
theorem dX9_looks_51 : decode cX9_looks 51 = .ok (.iadd, 1) := by decide +kernel
theorem dX9_looks_52 : decode cX9_looks 52 = .ok (.iaload, 1) := by decide +kernel
theorem dX9_looks_53 : decode cX9_looks 53 = .ok (.aload_n 1, 1) := by decide +kernel
theorem dX9_looks_54 : decode cX9_looks 54 = .ok (.bipush 12, 2) := by decide +kernel
theorem dX9_looks_56 : decode cX9_looks 56 = .ok (.iload 4, 2) := by decide +kernel
theorem dX9_looks_58 : decode cX9_looks 58 = .ok (.iadd, 1) := by decide +kernel
theorem dX9_looks_59 : decode cX9_looks 59 = .ok (.iaload, 1) := by decide +kernel
theorem dX9_looks_60 : decode cX9_looks 60 = .ok (.aload_n 1, 1) := by decide +kernel
theorem dX9_looks_61 : decode cX9_looks 61 = .ok (.bipush 12, 2) := by decide +kernel
theorem dX9_looks_63 : decode cX9_looks 63 = .ok (.iload_n 3, 1) := by decide +kernel
theorem dX9_looks_64 : decode cX9_looks 64 = .ok (.iadd, 1) := by decide +kernel
theorem dX9_looks_65 : decode cX9_looks 65 = .ok (.iaload, 1) := by decide +kernel
theorem dX9_looks_66 : decode cX9_looks 66 = .ok (.invokestatic 79, 3) := by decide +kernel
theorem dX9_looks_69 : decode cX9_looks 69 = .ok (.ifCond .eq 10, 3) := by decide +kernel
theorem dX9_looks_72 : decode cX9_looks 72 = .ok (.iconst 1, 1) := by decide +kernel
theorem dX9_looks_73 : decode cX9_looks 73 = .ok (.iload 6, 2) := by decide +kernel
theorem dX9_looks_75 : decode cX9_looks 75 = .ok (.ishl, 1) := by decide +kernel
theorem dX9_looks_76 : decode cX9_looks 76 = .ok (.goto 4, 3) := by decide +kernel
theorem dX9_looks_79 : decode cX9_looks 79 = .ok (.iconst 0, 1) := by decide +kernel
theorem dX9_looks_80 : decode cX9_looks 80 = .ok (.ior, 1) := by decide +kernel
theorem dX9_looks_81 : decode cX9_looks 81 = .ok (.istore 5, 2) := by decide +kernel
theorem dX9_looks_83 : decode cX9_looks 83 = .ok (.iinc 6 1, 3) := by decide +kernel
theorem dX9_looks_86 : decode cX9_looks 86 = .ok (.goto (-48), 3) := by decide +kernel
theorem dX9_looks_89 : decode cX9_looks 89 = .ok (.aload_n 0, 1) := by decide +kernel
theorem dX9_looks_90 : decode cX9_looks 90 = .ok (.iconst 1, 1) := by decide +kernel
theorem dX9_looks_91 : decode cX9_looks 91 = .ok (.iload 4, 2) := by decide +kernel
theorem dX9_looks_93 : decode cX9_looks 93 = .ok (.ishl, 1) := by decide +kernel
theorem dX9_looks_94 : decode cX9_looks 94 = .ok (.putfield 167, 3) := by decide +kernel
theorem dX9_looks_97 : decode cX9_looks 97 = .ok (.aload_n 0, 1) := by decide +kernel
theorem dX9_looks_98 : decode cX9_looks 98 = .ok (.iconst 1, 1) := by decide +kernel
theorem dX9_looks_99 : decode cX9_looks 99 = .ok (.iload_n 3, 1) := by decide +kernel
theorem dX9_looks_100 : decode cX9_looks 100 = .ok (.ishl, 1) := by decide +kernel
theorem dX9_looks_101 : decode cX9_looks 101 = .ok (.putfield 164, 3) := by decide +kernel
theorem dX9_looks_104 : decode cX9_looks 104 = .ok (.iconst 0, 1) := by decide +kernel
theorem dX9_looks_105 : decode cX9_looks 105 = .ok (.istore 6, 2) := by decide +kernel
theorem dX9_looks_107 : decode cX9_looks 107 = .ok (.iload 6, 2) := by decide +kernel
theorem dX9_looks_109 : decode cX9_looks 109 = .ok (.iload_n 2, 1) := by decide +kernel
theorem dX9_looks_110 : decode cX9_looks 110 = .ok (.if_icmp .ge 99, 3) := by decide +kernel
theorem dX9_looks_113 : decode cX9_looks 113 = .ok (.iconst 0, 1) := by decide +kernel
theorem dX9_looks_114 : decode cX9_looks 114 = .ok (.istore 7, 2) := by decide +kernel
theorem dX9_looks_116 : decode cX9_looks 116 = .ok (.iload 7, 2) := by decide +kernel
theorem dX9_looks_118 : decode cX9_looks 118 = .ok (.iload_n 2, 1) := by decide +kernel
theorem dX9_looks_119 : decode cX9_looks 119 = .ok (.if_icmp .ge 84, 3) := by decide +kernel
theorem dX9_looks_122 : decode cX9_looks 122 = .ok (.aload_n 0, 1) := by decide +kernel
theorem dX9_looks_123 : decode cX9_looks 123 = .ok (.dup, 1) := by decide +kernel
theorem dX9_looks_124 : decode cX9_looks 124 = .ok (.getfield 167, 3) := by decide +kernel
theorem dX9_looks_127 : decode cX9_looks 127 = .ok (.aload_n 0, 1) := by decide +kernel
theorem dX9_looks_128 : decode cX9_looks 128 = .ok (.getfield 167, 3) := by decide +kernel
theorem dX9_looks_131 : decode cX9_looks 131 = .ok (.iload 7, 2) := by decide +kernel
theorem dX9_looks_133 : decode cX9_looks 133 = .ok (.invokestatic 119, 3) := by decide +kernel
theorem dX9_looks_136 : decode cX9_looks 136 = .ok (.ifCond .eq 15, 3) := by decide +kernel
theorem dX9_looks_139 : decode cX9_looks 139 = .ok (.aload_n 1, 1) := by decide +kernel
theorem dX9_looks_140 : decode cX9_looks 140 = .ok (.iconst 0, 1) := by decide +kernel
theorem dX9_looks_141 : decode cX9_looks 141 = .ok (.iload 7, 2) := by decide +kernel
theorem dX9_looks_143 : decode cX9_looks 143 = .ok (.iadd, 1) := by decide +kernel
theorem dX9_looks_144 : decode cX9_looks 144 = .ok (.iaload, 1) := by decide +kernel
theorem dX9_looks_145 : decode cX9_looks 145 = .ok (.iload 5, 2) := by decide +kernel
theorem dX9_looks_147 : decode cX9_looks 147 = .ok (.iand, 1) := by decide +kernel
theorem dX9_looks_148 : decode cX9_looks 148 = .ok (.goto 4, 3) := by decide +kernel
theorem dX9_looks_151 : decode cX9_looks 151 = .ok (.iconst 0, 1) := by decide +kernel
theorem dX9_looks_152 : decode cX9_looks 152 = .ok (.ior, 1) := by decide +kernel
theorem dX9_looks_153 : decode cX9_looks 153 = .ok (.putfield 167, 3) := by decide +kernel
theorem dX9_looks_156 : decode cX9_looks 156 = .ok (.aload_n 0, 1) := by decide +kernel
theorem dX9_looks_157 : decode cX9_looks 157 = .ok (.dup, 1) := by decide +kernel
theorem dX9_looks_158 : decode cX9_looks 158 = .ok (.getfield 164, 3) := by decide +kernel
theorem dX9_looks_161 : decode cX9_looks 161 = .ok (.aload_n 1, 1) := by decide +kernel
theorem dX9_looks_162 : decode cX9_looks 162 = .ok (.iconst 0, 1) := by decide +kernel
theorem dX9_looks_163 : decode cX9_looks 163 = .ok (.iload 7, 2) := by decide +kernel
theorem dX9_looks_165 : decode cX9_looks 165 = .ok (.iadd, 1) := by decide +kernel
theorem dX9_looks_166 : decode cX9_looks 166 = .ok (.iaload, 1) := by decide +kernel
theorem dX9_looks_167 : decode cX9_looks 167 = .ok (.aload_n 0, 1) := by decide +kernel
theorem dX9_looks_168 : decode cX9_looks 168 = .ok (.getfield 164, 3) := by decide +kernel
theorem dX9_looks_171 : decode cX9_looks 171 = .ok (.iand, 1) := by decide +kernel
theorem dX9_looks_172 : decode cX9_looks 172 = .ok (.ifCond .eq 20, 3) := by decide +kernel
theorem dX9_looks_175 : decode cX9_looks 175 = .ok (.iload 5, 2) := by decide +kernel
theorem dX9_looks_177 : decode cX9_looks 177 = .ok (.iload 7, 2) := by decide +kernel
theorem dX9_looks_179 : decode cX9_looks 179 = .ok (.invokestatic 119, 3) := by decide +kernel
theorem dX9_looks_182 : decode cX9_looks 182 = .ok (.ifCond .eq 10, 3) := by decide +kernel
theorem dX9_looks_185 : decode cX9_looks 185 = .ok (.iconst 1, 1) := by decide +kernel
theorem dX9_looks_186 : decode cX9_looks 186 = .ok (.iload 7, 2) := by decide +kernel
theorem dX9_looks_188 : decode cX9_looks 188 = .ok (.ishl, 1) := by decide +kernel
theorem dX9_looks_189 : decode cX9_looks 189 = .ok (.goto 4, 3) := by decide +kernel
theorem dX9_looks_192 : decode cX9_looks 192 = .ok (.iconst 0, 1) := by decide +kernel
theorem dX9_looks_193 : decode cX9_looks 193 = .ok (.ior, 1) := by decide +kernel
theorem dX9_looks_194 : decode cX9_looks 194 = .ok (.putfield 164, 3) := by decide +kernel
theorem dX9_looks_197 : decode cX9_looks 197 = .ok (.iinc 7 1, 3) := by decide +kernel
theorem dX9_looks_200 : decode cX9_looks 200 = .ok (.goto (-84), 3) := by decide +kernel
theorem dX9_looks_203 : decode cX9_looks 203 = .ok (.iinc 6 1, 3) := by decide +kernel
theorem dX9_looks_206 : decode cX9_looks 206 = .ok (.goto (-99), 3) := by decide +kernel
theorem dX9_looks_209 : decode cX9_looks 209 = .ok (.aload_n 0, 1) := by decide +kernel
theorem dX9_looks_210 : decode cX9_looks 210 = .ok (.aload_n 0, 1) := by decide +kernel
theorem dX9_looks_211 : decode cX9_looks 211 = .ok (.getfield 167, 3) := by decide +kernel
theorem dX9_looks_214 : decode cX9_looks 214 = .ok (.iload_n 3, 1) := by decide +kernel
theorem dX9_looks_215 : decode cX9_looks 215 = .ok (.invokestatic 119, 3) := by decide +kernel
theorem dX9_looks_218 : decode cX9_looks 218 = .ok (.putfield 126, 3) := by decide +kernel
theorem dX9_looks_221 : decode cX9_looks 221 = .ok (.return_, 1) := by decide +kernel
theorem dX9_itemAt_0 : decode cX9_itemAt 0 = .ok (.iconst 0, 1) := by decide +kernel
theorem dX9_itemAt_1 : decode cX9_itemAt 1 = .ok (.istore_n 3, 1) := by decide +kernel
theorem dX9_itemAt_2 : decode cX9_itemAt 2 = .ok (.aload_n 0, 1) := by decide +kernel
theorem dX9_itemAt_3 : decode cX9_itemAt 3 = .ok (.bipush 12, 2) := by decide +kernel
theorem dX9_itemAt_5 : decode cX9_itemAt 5 = .ok (.iload_n 3, 1) := by decide +kernel
theorem dX9_itemAt_6 : decode cX9_itemAt 6 = .ok (.iadd, 1) := by decide +kernel
theorem dX9_itemAt_7 : decode cX9_itemAt 7 = .ok (.iaload, 1) := by decide +kernel
theorem dX9_itemAt_8 : decode cX9_itemAt 8 = .ok (.iload_n 2, 1) := by decide +kernel
theorem dX9_itemAt_9 : decode cX9_itemAt 9 = .ok (.if_icmp .eq 9, 3) := by decide +kernel
theorem dX9_itemAt_12 : decode cX9_itemAt 12 = .ok (.iinc 3 1, 3) := by decide +kernel
theorem dX9_itemAt_15 : decode cX9_itemAt 15 = .ok (.goto (-13), 3) := by decide +kernel
theorem dX9_itemAt_18 : decode cX9_itemAt 18 = .ok (.iload_n 3, 1) := by decide +kernel
theorem dX9_itemAt_19 : decode cX9_itemAt 19 = .ok (.ireturn, 1) := by decide +kernel
set_option maxRecDepth 20000 in
theorem ggX9_moves_X9_itemAt : GoodIn wsX9_moves wsX9_itemAt := goodIn_r _ [8] (by decide +kernel) (by decide +kernel)
set_option maxRecDepth 20000 in
theorem gX9_moves_X9_itemAt : GoodIn wsX9_moves (va_wsS RX9 170 yX9_itemAt wsX9_itemAt) := goodIn_app (goodIn_of _ (by decide +kernel)) ggX9_moves_X9_itemAt
set_option maxRecDepth 20000 in
theorem ggX9_moves_X9_has : GoodIn wsX9_moves wsX9_has := goodIn_r _ [11] (by decide +kernel) (by decide +kernel)
set_option maxRecDepth 20000 in
theorem gX9_moves_X9_has : GoodIn wsX9_moves (va_wsS RX9 119 yX9_has wsX9_has) := goodIn_app (goodIn_of _ (by decide +kernel)) ggX9_moves_X9_has
theorem dX9_moves_0 : decode cX9_moves 0 = .ok (.aload_n 0, 1) := by decide +kernel
theorem dX9_moves_1 : decode cX9_moves 1 = .ok (.getfield 164, 3) := by decide +kernel
theorem dX9_moves_4 : decode cX9_moves 4 = .ok (.aload_n 0, 1) := by decide +kernel
theorem dX9_moves_5 : decode cX9_moves 5 = .ok (.getfield 167, 3) := by decide +kernel
theorem dX9_moves_8 : decode cX9_moves 8 = .ok (.ior, 1) := by decide +kernel
theorem dX9_moves_9 : decode cX9_moves 9 = .ok (.istore_n 3, 1) := by decide +kernel
theorem dX9_moves_10 : decode cX9_moves 10 = .ok (.iconst 0, 1) := by decide +kernel
theorem dX9_moves_11 : decode cX9_moves 11 = .ok (.istore 4, 2) := by decide +kernel
theorem dX9_moves_13 : decode cX9_moves 13 = .ok (.iconst 0, 1) := by decide +kernel
theorem dX9_moves_14 : decode cX9_moves 14 = .ok (.istore 5, 2) := by decide +kernel
theorem dX9_moves_16 : decode cX9_moves 16 = .ok (.iload 5, 2) := by decide +kernel
theorem dX9_moves_18 : decode cX9_moves 18 = .ok (.iconst 2, 1) := by decide +kernel
theorem dX9_moves_19 : decode cX9_moves 19 = .ok (.if_icmp .ge 69, 3) := by decide +kernel
theorem dX9_moves_22 : decode cX9_moves 22 = .ok (.iconst 0, 1) := by decide +kernel
theorem dX9_moves_23 : decode cX9_moves 23 = .ok (.istore 6, 2) := by decide +kernel
theorem dX9_moves_25 : decode cX9_moves 25 = .ok (.iload 6, 2) := by decide +kernel
theorem dX9_moves_27 : decode cX9_moves 27 = .ok (.iload_n 2, 1) := by decide +kernel
theorem dX9_moves_28 : decode cX9_moves 28 = .ok (.if_icmp .ge 54, 3) := by decide +kernel
theorem dX9_moves_31 : decode cX9_moves 31 = .ok (.aload_n 1, 1) := by decide +kernel
theorem dX9_moves_32 : decode cX9_moves 32 = .ok (.iload_n 2, 1) := by decide +kernel
theorem dX9_moves_33 : decode cX9_moves 33 = .ok (.iload 6, 2) := by decide +kernel
theorem dX9_moves_35 : decode cX9_moves 35 = .ok (.invokestatic 170, 3) := by decide +kernel
theorem dX9_moves_38 : decode cX9_moves 38 = .ok (.istore 7, 2) := by decide +kernel
theorem dX9_moves_40 : decode cX9_moves 40 = .ok (.iload 5, 2) := by decide +kernel
theorem dX9_moves_42 : decode cX9_moves 42 = .ok (.ifCond .ne 10, 3) := by decide +kernel
theorem dX9_moves_45 : decode cX9_moves 45 = .ok (.aload_n 0, 1) := by decide +kernel
theorem dX9_moves_46 : decode cX9_moves 46 = .ok (.getfield 164, 3) := by decide +kernel
theorem dX9_moves_49 : decode cX9_moves 49 = .ok (.goto 7, 3) := by decide +kernel
theorem dX9_moves_52 : decode cX9_moves 52 = .ok (.aload_n 0, 1) := by decide +kernel
theorem dX9_moves_53 : decode cX9_moves 53 = .ok (.getfield 167, 3) := by decide +kernel
theorem dX9_moves_56 : decode cX9_moves 56 = .ok (.iload 7, 2) := by decide +kernel
theorem dX9_moves_58 : decode cX9_moves 58 = .ok (.invokestatic 119, 3) := by decide +kernel
theorem dX9_moves_61 : decode cX9_moves 61 = .ok (.ifCond .eq 15, 3) := by decide +kernel
theorem dX9_moves_64 : decode cX9_moves 64 = .ok (.aload_n 0, 1) := by decide +kernel
theorem dX9_moves_65 : decode cX9_moves 65 = .ok (.getfield 60, 3) := by decide +kernel
theorem dX9_moves_68 : decode cX9_moves 68 = .ok (.iload 4, 2) := by decide +kernel
theorem dX9_moves_70 : decode cX9_moves 70 = .ok (.iload 7, 2) := by decide +kernel
theorem dX9_moves_72 : decode cX9_moves 72 = .ok (.iastore, 1) := by decide +kernel
theorem dX9_moves_73 : decode cX9_moves 73 = .ok (.iinc 4 1, 3) := by decide +kernel
theorem dX9_moves_76 : decode cX9_moves 76 = .ok (.iinc 6 1, 3) := by decide +kernel
theorem dX9_moves_79 : decode cX9_moves 79 = .ok (.goto (-54), 3) := by decide +kernel
theorem dX9_moves_82 : decode cX9_moves 82 = .ok (.iinc 5 1, 3) := by decide +kernel
theorem dX9_moves_85 : decode cX9_moves 85 = .ok (.goto (-69), 3) := by decide +kernel
theorem dX9_moves_88 : decode cX9_moves 88 = .ok (.iconst 0, 1) := by decide +kernel
theorem dX9_moves_89 : decode cX9_moves 89 = .ok (.istore 4, 2) := by decide +kernel
theorem dX9_moves_91 : decode cX9_moves 91 = .ok (.iconst 0, 1) := by decide +kernel
theorem dX9_moves_92 : decode cX9_moves 92 = .ok (.istore 5, 2) := by decide +kernel
theorem dX9_moves_94 : decode cX9_moves 94 = .ok (.iload 5, 2) := by decide +kernel
theorem dX9_moves_96 : decode cX9_moves 96 = .ok (.iload_n 2, 1) := by decide +kernel
theorem dX9_moves_97 : decode cX9_moves 97 = .ok (.if_icmp .ge 25, 3) := by decide +kernel
theorem dX9_moves_100 : decode cX9_moves 100 = .ok (.aload_n 0, 1) := by decide +kernel
theorem dX9_moves_101 : decode cX9_moves 101 = .ok (.getfield 19, 3) := by decide +kernel
theorem dX9_moves_104 : decode cX9_moves 104 = .ok (.iconst 0, 1) := by decide +kernel
theorem dX9_moves_105 : decode cX9_moves 105 = .ok (.iload 5, 2) := by decide +kernel
theorem dX9_moves_107 : decode cX9_moves 107 = .ok (.iadd, 1) := by decide +kernel
theorem dX9_moves_108 : decode cX9_moves 108 = .ok (.aload_n 1, 1) := by decide +kernel
theorem dX9_moves_109 : decode cX9_moves 109 = .ok (.iload_n 2, 1) := by decide +kernel
theorem dX9_moves_110 : decode cX9_moves 110 = .ok (.iload 5, 2) := by decide +kernel
theorem dX9_moves_112 : decode cX9_moves 112 = .ok (.invokestatic 170, 3) := by decide +kernel
theorem dX9_moves_115 : decode cX9_moves 115 = .ok (.iastore, 1) := by decide +kernel
theorem dX9_moves_116 : decode cX9_moves 116 = .ok (.iinc 5 1, 3) := by decide +kernel
theorem dX9_moves_119 : decode cX9_moves 119 = .ok (.goto (-25), 3) := by decide +kernel
theorem dX9_moves_122 : decode cX9_moves 122 = .ok (.iconst 0, 1) := by decide +kernel
theorem dX9_moves_123 : decode cX9_moves 123 = .ok (.istore 5, 2) := by decide +kernel
theorem dX9_moves_125 : decode cX9_moves 125 = .ok (.iload 5, 2) := by decide +kernel
theorem dX9_moves_127 : decode cX9_moves 127 = .ok (.iload_n 2, 1) := by decide +kernel
theorem dX9_moves_128 : decode cX9_moves 128 = .ok (.if_icmp .ge 42, 3) := by decide +kernel
theorem dX9_moves_131 : decode cX9_moves 131 = .ok (.iload_n 3, 1) := by decide +kernel
theorem dX9_moves_132 : decode cX9_moves 132 = .ok (.aload_n 0, 1) := by decide +kernel
theorem dX9_moves_133 : decode cX9_moves 133 = .ok (.getfield 19, 3) := by decide +kernel
theorem dX9_moves_136 : decode cX9_moves 136 = .ok (.iconst 0, 1) := by decide +kernel
theorem dX9_moves_137 : decode cX9_moves 137 = .ok (.iload 5, 2) := by decide +kernel
theorem dX9_moves_139 : decode cX9_moves 139 = .ok (.iadd, 1) := by decide +kernel
theorem dX9_moves_140 : decode cX9_moves 140 = .ok (.iaload, 1) := by decide +kernel
theorem dX9_moves_141 : decode cX9_moves 141 = .ok (.invokestatic 119, 3) := by decide +kernel
theorem dX9_moves_144 : decode cX9_moves 144 = .ok (.ifCond .eq 20, 3) := by decide +kernel
theorem dX9_moves_147 : decode cX9_moves 147 = .ok (.aload_n 1, 1) := by decide +kernel
theorem dX9_moves_148 : decode cX9_moves 148 = .ok (.bipush 12, 2) := by decide +kernel
theorem dX9_moves_150 : decode cX9_moves 150 = .ok (.aload_n 0, 1) := by decide +kernel
theorem dX9_moves_151 : decode cX9_moves 151 = .ok (.getfield 60, 3) := by decide +kernel
theorem dX9_moves_154 : decode cX9_moves 154 = .ok (.iload 4, 2) := by decide +kernel
theorem dX9_moves_156 : decode cX9_moves 156 = .ok (.iaload, 1) := by decide +kernel
theorem dX9_moves_157 : decode cX9_moves 157 = .ok (.iadd, 1) := by decide +kernel
theorem dX9_moves_158 : decode cX9_moves 158 = .ok (.iload 5, 2) := by decide +kernel
theorem dX9_moves_160 : decode cX9_moves 160 = .ok (.iastore, 1) := by decide +kernel
theorem dX9_moves_161 : decode cX9_moves 161 = .ok (.iinc 4 1, 3) := by decide +kernel
theorem dX9_moves_164 : decode cX9_moves 164 = .ok (.iinc 5 1, 3) := by decide +kernel
theorem dX9_moves_167 : decode cX9_moves 167 = .ok (.goto (-42), 3) := by decide +kernel
theorem dX9_moves_170 : decode cX9_moves 170 = .ok (.return_, 1) := by decide +kernel
set_option maxRecDepth 20000 in
theorem ggX9_lays_X9_looks : GoodIn wsX9_lays wsX9_looks := goodIn_r _ [6, 1, 7, 8, 9, 10, 5, 11, 12, 13, 14, 24, 25, 26, 27, 28, 29, 30, 31, 32, 33, 34, 35, 36, 37, 38, 39, 40, 41, 42, 43, 44, 45, 46, 47, 48, 49, 50, 51, 52, 53, 54, 55, 56, 57, 58, 59] (by decide +kernel) (by decide +kernel)
set_option maxRecDepth 20000 in
theorem gX9_lays_X9_looks : GoodIn wsX9_lays (wsV RX9 122 RX9 yX9_looks wsX9_looks) := goodIn_app (goodIn_of _ (by decide +kernel)) ggX9_lays_X9_looks
set_option maxRecDepth 20000 in
theorem ggX9_lays_X9_moves : GoodIn wsX9_lays wsX9_moves := goodIn_r _ [18, 1, 7, 19, 20, 21, 22, 5, 23, 12, 13, 14, 24, 25, 26, 27, 28, 29, 30, 31, 32, 33, 34, 35, 36, 37, 38, 39, 40, 41, 42, 43, 44, 45, 46, 47, 48, 49, 50, 51, 52, 53, 54, 55, 56, 57, 58, 59] (by decide +kernel) (by decide +kernel)
set_option maxRecDepth 20000 in
theorem gX9_lays_X9_moves : GoodIn wsX9_lays (wsV RX9 174 RX9 yX9_moves wsX9_moves) := goodIn_app (goodIn_of _ (by decide +kernel)) ggX9_lays_X9_moves
theorem dX9_lays_0 : decode cX9_lays 0 = .ok (.aload_n 0, 1) := by decide +kernel
theorem dX9_lays_1 : decode cX9_lays 1 = .ok (.aload_n 1, 1) := by decide +kernel
theorem dX9_lays_2 : decode cX9_lays 2 = .ok (.iload_n 2, 1) := by decide +kernel
theorem dX9_lays_3 : decode cX9_lays 3 = .ok (.iload_n 3, 1) := by decide +kernel
theorem dX9_lays_4 : decode cX9_lays 4 = .ok (.iload 4, 2) := by decide +kernel
theorem dX9_lays_6 : decode cX9_lays 6 = .ok (.invokevirtual 122, 3) := by decide +kernel
theorem dX9_lays_9 : decode cX9_lays 9 = .ok (.aload_n 0, 1) := by decide +kernel
theorem dX9_lays_10 : decode cX9_lays 10 = .ok (.getfield 164, 3) := by decide +kernel
theorem dX9_lays_13 : decode cX9_lays 13 = .ok (.ifCond .eq 9, 3) := by decide +kernel
theorem dX9_lays_16 : decode cX9_lays 16 = .ok (.aload_n 0, 1) := by decide +kernel
theorem dX9_lays_17 : decode cX9_lays 17 = .ok (.aload_n 1, 1) := by decide +kernel
theorem dX9_lays_18 : decode cX9_lays 18 = .ok (.iload_n 2, 1) := by decide +kernel
theorem dX9_lays_19 : decode cX9_lays 19 = .ok (.invokevirtual 174, 3) := by decide +kernel
theorem dX9_lays_22 : decode cX9_lays 22 = .ok (.aload_n 1, 1) := by decide +kernel
theorem dX9_lays_23 : decode cX9_lays 23 = .ok (.iconst 0, 1) := by decide +kernel
theorem dX9_lays_24 : decode cX9_lays 24 = .ok (.iload_n 3, 1) := by decide +kernel
theorem dX9_lays_25 : decode cX9_lays 25 = .ok (.iadd, 1) := by decide +kernel
theorem dX9_lays_26 : decode cX9_lays 26 = .ok (.dup2, 1) := by decide +kernel
theorem dX9_lays_27 : decode cX9_lays 27 = .ok (.iaload, 1) := by decide +kernel
theorem dX9_lays_28 : decode cX9_lays 28 = .ok (.iconst 1, 1) := by decide +kernel
theorem dX9_lays_29 : decode cX9_lays 29 = .ok (.iload 4, 2) := by decide +kernel
theorem dX9_lays_31 : decode cX9_lays 31 = .ok (.ishl, 1) := by decide +kernel
theorem dX9_lays_32 : decode cX9_lays 32 = .ok (.ior, 1) := by decide +kernel
theorem dX9_lays_33 : decode cX9_lays 33 = .ok (.iastore, 1) := by decide +kernel
theorem dX9_lays_34 : decode cX9_lays 34 = .ok (.return_, 1) := by decide +kernel
theorem dX9_moved_0 : decode cX9_moved 0 = .ok (.iconst 0, 1) := by decide +kernel
theorem dX9_moved_1 : decode cX9_moved 1 = .ok (.istore_n 3, 1) := by decide +kernel
theorem dX9_moved_2 : decode cX9_moved 2 = .ok (.iconst 0, 1) := by decide +kernel
theorem dX9_moved_3 : decode cX9_moved 3 = .ok (.istore 4, 2) := by decide +kernel
theorem dX9_moved_5 : decode cX9_moved 5 = .ok (.iload 4, 2) := by decide +kernel
theorem dX9_moved_7 : decode cX9_moved 7 = .ok (.aload_n 0, 1) := by decide +kernel
theorem dX9_moved_8 : decode cX9_moved 8 = .ok (.getfield 145, 3) := by decide +kernel
theorem dX9_moved_11 : decode cX9_moved 11 = .ok (.if_icmp .ge 37, 3) := by decide +kernel
theorem dX9_moved_14 : decode cX9_moved 14 = .ok (.iload_n 3, 1) := by decide +kernel
theorem dX9_moved_15 : decode cX9_moved 15 = .ok (.aload_n 1, 1) := by decide +kernel
theorem dX9_moved_16 : decode cX9_moved 16 = .ok (.bipush 12, 2) := by decide +kernel
theorem dX9_moved_18 : decode cX9_moved 18 = .ok (.iload 4, 2) := by decide +kernel
theorem dX9_moved_20 : decode cX9_moved 20 = .ok (.iadd, 1) := by decide +kernel
theorem dX9_moved_21 : decode cX9_moved 21 = .ok (.iaload, 1) := by decide +kernel
theorem dX9_moved_22 : decode cX9_moved 22 = .ok (.aload_n 2, 1) := by decide +kernel
theorem dX9_moved_23 : decode cX9_moved 23 = .ok (.bipush 12, 2) := by decide +kernel
theorem dX9_moved_25 : decode cX9_moved 25 = .ok (.iload 4, 2) := by decide +kernel
theorem dX9_moved_27 : decode cX9_moved 27 = .ok (.iadd, 1) := by decide +kernel
theorem dX9_moved_28 : decode cX9_moved 28 = .ok (.iaload, 1) := by decide +kernel
theorem dX9_moved_29 : decode cX9_moved 29 = .ok (.if_icmp .eq 10, 3) := by decide +kernel
theorem dX9_moved_32 : decode cX9_moved 32 = .ok (.iconst 1, 1) := by decide +kernel
theorem dX9_moved_33 : decode cX9_moved 33 = .ok (.iload 4, 2) := by decide +kernel
theorem dX9_moved_35 : decode cX9_moved 35 = .ok (.ishl, 1) := by decide +kernel
theorem dX9_moved_36 : decode cX9_moved 36 = .ok (.goto 4, 3) := by decide +kernel
theorem dX9_moved_39 : decode cX9_moved 39 = .ok (.iconst 0, 1) := by decide +kernel
theorem dX9_moved_40 : decode cX9_moved 40 = .ok (.ior, 1) := by decide +kernel
theorem dX9_moved_41 : decode cX9_moved 41 = .ok (.istore_n 3, 1) := by decide +kernel
theorem dX9_moved_42 : decode cX9_moved 42 = .ok (.iinc 4 1, 3) := by decide +kernel
theorem dX9_moved_45 : decode cX9_moved 45 = .ok (.goto (-40), 3) := by decide +kernel
theorem dX9_moved_48 : decode cX9_moved 48 = .ok (.iload_n 3, 1) := by decide +kernel
theorem dX9_moved_49 : decode cX9_moved 49 = .ok (.ireturn, 1) := by decide +kernel
set_option maxRecDepth 20000 in
theorem ggX9_movedBy_X9_looks : GoodIn wsX9_movedBy wsX9_looks := goodIn_r _ [10, 4, 11, 3, 12, 13, 9, 14, 15, 16, 17, 34, 35, 36, 37, 38, 39, 40, 41, 42, 43, 44, 45, 46, 47, 48, 49, 50, 51, 52, 53, 54, 55, 56, 57, 58, 59, 60, 61, 62, 63, 64, 65, 66, 67, 68, 69] (by decide +kernel) (by decide +kernel)
set_option maxRecDepth 20000 in
theorem gX9_movedBy_X9_looks : GoodIn wsX9_movedBy (wsV RX9 122 RX9 yX9_looks wsX9_looks) := goodIn_app (goodIn_of _ (by decide +kernel)) ggX9_movedBy_X9_looks
set_option maxRecDepth 20000 in
theorem ggX9_movedBy_X9_copies : GoodIn wsX9_movedBy wsX9_copies := goodIn_r _ [20] (by decide +kernel) (by decide +kernel)
set_option maxRecDepth 20000 in
theorem gX9_movedBy_X9_copies : GoodIn wsX9_movedBy (va_wsS RX9 148 yX9_copies wsX9_copies) := goodIn_app (goodIn_of _ (by decide +kernel)) ggX9_movedBy_X9_copies
set_option maxRecDepth 20000 in
theorem ggX9_movedBy_X9_moves : GoodIn wsX9_movedBy wsX9_moves := goodIn_r _ [24, 4, 11, 25, 26, 27, 28, 9, 29, 15, 16, 17, 34, 35, 36, 37, 38, 39, 40, 41, 42, 43, 44, 45, 46, 47, 48, 49, 50, 51, 52, 53, 54, 55, 56, 57, 58, 59, 60, 61, 62, 63, 64, 65, 66, 67, 68, 69] (by decide +kernel) (by decide +kernel)
set_option maxRecDepth 20000 in
theorem gX9_movedBy_X9_moves : GoodIn wsX9_movedBy (wsV RX9 174 RX9 yX9_moves wsX9_moves) := goodIn_app (goodIn_of _ (by decide +kernel)) ggX9_movedBy_X9_moves
set_option maxRecDepth 20000 in
theorem ggX9_movedBy_X9_moved : GoodIn wsX9_movedBy wsX9_moved := goodIn_r _ [33, 2, 34, 35, 36, 37, 38, 39, 40, 41, 42, 43, 44, 45, 46, 47, 48, 49, 50, 51, 52, 53, 54, 55, 56, 57, 58, 59, 60, 61, 62, 63, 64, 65, 66, 67, 68, 69] (by decide +kernel) (by decide +kernel)
set_option maxRecDepth 20000 in
theorem gX9_movedBy_X9_moved : GoodIn wsX9_movedBy (wsV RX9 178 RX9 yX9_moved wsX9_moved) := goodIn_app (goodIn_of _ (by decide +kernel)) ggX9_movedBy_X9_moved
theorem dX9_movedBy_0 : decode cX9_movedBy 0 = .ok (.aload_n 0, 1) := by decide +kernel
theorem dX9_movedBy_1 : decode cX9_movedBy 1 = .ok (.aload_n 0, 1) := by decide +kernel
theorem dX9_movedBy_2 : decode cX9_movedBy 2 = .ok (.getfield 16, 3) := by decide +kernel
theorem dX9_movedBy_5 : decode cX9_movedBy 5 = .ok (.aload_n 0, 1) := by decide +kernel
theorem dX9_movedBy_6 : decode cX9_movedBy 6 = .ok (.getfield 145, 3) := by decide +kernel
theorem dX9_movedBy_9 : decode cX9_movedBy 9 = .ok (.iload_n 1, 1) := by decide +kernel
theorem dX9_movedBy_10 : decode cX9_movedBy 10 = .ok (.iload_n 2, 1) := by decide +kernel
theorem dX9_movedBy_11 : decode cX9_movedBy 11 = .ok (.invokevirtual 122, 3) := by decide +kernel
theorem dX9_movedBy_14 : decode cX9_movedBy 14 = .ok (.aload_n 0, 1) := by decide +kernel
theorem dX9_movedBy_15 : decode cX9_movedBy 15 = .ok (.getfield 126, 3) := by decide +kernel
theorem dX9_movedBy_18 : decode cX9_movedBy 18 = .ok (.ifCond .ne 10, 3) := by decide +kernel
theorem dX9_movedBy_21 : decode cX9_movedBy 21 = .ok (.aload_n 0, 1) := by decide +kernel
theorem dX9_movedBy_22 : decode cX9_movedBy 22 = .ok (.getfield 164, 3) := by decide +kernel
theorem dX9_movedBy_25 : decode cX9_movedBy 25 = .ok (.ifCond .ne 5, 3) := by decide +kernel
theorem dX9_movedBy_28 : decode cX9_movedBy 28 = .ok (.iconst 0, 1) := by decide +kernel
theorem dX9_movedBy_29 : decode cX9_movedBy 29 = .ok (.ireturn, 1) := by decide +kernel
theorem dX9_movedBy_30 : decode cX9_movedBy 30 = .ok (.aload_n 0, 1) := by decide +kernel
theorem dX9_movedBy_31 : decode cX9_movedBy 31 = .ok (.getfield 16, 3) := by decide +kernel
theorem dX9_movedBy_34 : decode cX9_movedBy 34 = .ok (.aload_n 0, 1) := by decide +kernel
theorem dX9_movedBy_35 : decode cX9_movedBy 35 = .ok (.getfield 63, 3) := by decide +kernel
theorem dX9_movedBy_38 : decode cX9_movedBy 38 = .ok (.invokestatic 148, 3) := by decide +kernel
theorem dX9_movedBy_41 : decode cX9_movedBy 41 = .ok (.aload_n 0, 1) := by decide +kernel
theorem dX9_movedBy_42 : decode cX9_movedBy 42 = .ok (.aload_n 0, 1) := by decide +kernel
theorem dX9_movedBy_43 : decode cX9_movedBy 43 = .ok (.getfield 63, 3) := by decide +kernel
theorem dX9_movedBy_46 : decode cX9_movedBy 46 = .ok (.aload_n 0, 1) := by decide +kernel
theorem dX9_movedBy_47 : decode cX9_movedBy 47 = .ok (.getfield 145, 3) := by decide +kernel
theorem dX9_movedBy_50 : decode cX9_movedBy 50 = .ok (.invokevirtual 174, 3) := by decide +kernel
theorem dX9_movedBy_53 : decode cX9_movedBy 53 = .ok (.aload_n 0, 1) := by decide +kernel
theorem dX9_movedBy_54 : decode cX9_movedBy 54 = .ok (.aload_n 0, 1) := by decide +kernel
theorem dX9_movedBy_55 : decode cX9_movedBy 55 = .ok (.getfield 63, 3) := by decide +kernel
theorem dX9_movedBy_58 : decode cX9_movedBy 58 = .ok (.aload_n 0, 1) := by decide +kernel
theorem dX9_movedBy_59 : decode cX9_movedBy 59 = .ok (.getfield 16, 3) := by decide +kernel
theorem dX9_movedBy_62 : decode cX9_movedBy 62 = .ok (.invokevirtual 178, 3) := by decide +kernel
theorem dX9_movedBy_65 : decode cX9_movedBy 65 = .ok (.ireturn, 1) := by decide +kernel
set_option maxRecDepth 20000 in
theorem ggX9_rings_X9_has : GoodIn wsX9_rings wsX9_has := goodIn_r _ [8] (by decide +kernel) (by decide +kernel)
set_option maxRecDepth 20000 in
theorem gX9_rings_X9_has : GoodIn wsX9_rings (va_wsS RX9 119 yX9_has wsX9_has) := goodIn_app (goodIn_of _ (by decide +kernel)) ggX9_rings_X9_has
theorem dX9_rings_0 : decode cX9_rings 0 = .ok (.iconst 0, 1) := by decide +kernel
theorem dX9_rings_1 : decode cX9_rings 1 = .ok (.istore 4, 2) := by decide +kernel
theorem dX9_rings_3 : decode cX9_rings 3 = .ok (.iload 4, 2) := by decide +kernel
theorem dX9_rings_5 : decode cX9_rings 5 = .ok (.aload_n 0, 1) := by decide +kernel
theorem dX9_rings_6 : decode cX9_rings 6 = .ok (.getfield 145, 3) := by decide +kernel
theorem dX9_rings_9 : decode cX9_rings 9 = .ok (.if_icmp .ge 27, 3) := by decide +kernel
theorem dX9_rings_12 : decode cX9_rings 12 = .ok (.aload_n 0, 1) := by decide +kernel
theorem dX9_rings_13 : decode cX9_rings 13 = .ok (.getfield 50, 3) := by decide +kernel
theorem dX9_rings_16 : decode cX9_rings 16 = .ok (.iload 4, 2) := by decide +kernel
theorem dX9_rings_18 : decode cX9_rings 18 = .ok (.iload 4, 2) := by decide +kernel
theorem dX9_rings_20 : decode cX9_rings 20 = .ok (.iload_n 3, 1) := by decide +kernel
theorem dX9_rings_21 : decode cX9_rings 21 = .ok (.if_icmp .ne 7, 3) := by decide +kernel
theorem dX9_rings_24 : decode cX9_rings 24 = .ok (.iconst 0, 1) := by decide +kernel
theorem dX9_rings_25 : decode cX9_rings 25 = .ok (.goto 4, 3) := by decide +kernel
theorem dX9_rings_28 : decode cX9_rings 28 = .ok (.iconst (-1), 1) := by decide +kernel
theorem dX9_rings_29 : decode cX9_rings 29 = .ok (.iastore, 1) := by decide +kernel
theorem dX9_rings_30 : decode cX9_rings 30 = .ok (.iinc 4 1, 3) := by decide +kernel
theorem dX9_rings_33 : decode cX9_rings 33 = .ok (.goto (-30), 3) := by decide +kernel
theorem dX9_rings_36 : decode cX9_rings 36 = .ok (.iconst 1, 1) := by decide +kernel
theorem dX9_rings_37 : decode cX9_rings 37 = .ok (.istore 4, 2) := by decide +kernel
theorem dX9_rings_39 : decode cX9_rings 39 = .ok (.iload 4, 2) := by decide +kernel
theorem dX9_rings_41 : decode cX9_rings 41 = .ok (.aload_n 0, 1) := by decide +kernel
theorem dX9_rings_42 : decode cX9_rings 42 = .ok (.getfield 145, 3) := by decide +kernel
theorem dX9_rings_45 : decode cX9_rings 45 = .ok (.if_icmp .ge 102, 3) := by decide +kernel
theorem dX9_rings_48 : decode cX9_rings 48 = .ok (.iconst 0, 1) := by decide +kernel
theorem dX9_rings_49 : decode cX9_rings 49 = .ok (.istore 5, 2) := by decide +kernel
theorem dX9_rings_51 : decode cX9_rings 51 = .ok (.iload 5, 2) := by decide +kernel
theorem dX9_rings_53 : decode cX9_rings 53 = .ok (.aload_n 0, 1) := by decide +kernel
theorem dX9_rings_54 : decode cX9_rings 54 = .ok (.getfield 145, 3) := by decide +kernel
theorem dX9_rings_57 : decode cX9_rings 57 = .ok (.if_icmp .ge 84, 3) := by decide +kernel
theorem dX9_rings_60 : decode cX9_rings 60 = .ok (.iconst 0, 1) := by decide +kernel
theorem dX9_rings_61 : decode cX9_rings 61 = .ok (.istore 6, 2) := by decide +kernel
theorem dX9_rings_63 : decode cX9_rings 63 = .ok (.iload 6, 2) := by decide +kernel
theorem dX9_rings_65 : decode cX9_rings 65 = .ok (.aload_n 0, 1) := by decide +kernel
theorem dX9_rings_66 : decode cX9_rings 66 = .ok (.getfield 145, 3) := by decide +kernel
theorem dX9_rings_69 : decode cX9_rings 69 = .ok (.if_icmp .ge 66, 3) := by decide +kernel
theorem dX9_rings_72 : decode cX9_rings 72 = .ok (.aload_n 0, 1) := by decide +kernel
theorem dX9_rings_73 : decode cX9_rings 73 = .ok (.getfield 50, 3) := by decide +kernel
theorem dX9_rings_76 : decode cX9_rings 76 = .ok (.iload 5, 2) := by decide +kernel
theorem dX9_rings_78 : decode cX9_rings 78 = .ok (.iaload, 1) := by decide +kernel
theorem dX9_rings_79 : decode cX9_rings 79 = .ok (.ifCond .ge 56, 3) := by decide +kernel
theorem dX9_rings_82 : decode cX9_rings 82 = .ok (.aload_n 0, 1) := by decide +kernel
theorem dX9_rings_83 : decode cX9_rings 83 = .ok (.getfield 50, 3) := by decide +kernel
theorem dX9_rings_86 : decode cX9_rings 86 = .ok (.iload 5, 2) := by decide +kernel
theorem dX9_rings_88 : decode cX9_rings 88 = .ok (.aload_n 1, 1) := by decide +kernel
theorem dX9_rings_89 : decode cX9_rings 89 = .ok (.iconst 0, 1) := by decide +kernel
theorem dX9_rings_90 : decode cX9_rings 90 = .ok (.iload 5, 2) := by decide +kernel
theorem dX9_rings_92 : decode cX9_rings 92 = .ok (.iadd, 1) := by decide +kernel
theorem dX9_rings_93 : decode cX9_rings 93 = .ok (.iaload, 1) := by decide +kernel
theorem dX9_rings_94 : decode cX9_rings 94 = .ok (.iload 6, 2) := by decide +kernel
theorem dX9_rings_96 : decode cX9_rings 96 = .ok (.invokestatic 119, 3) := by decide +kernel
theorem dX9_rings_99 : decode cX9_rings 99 = .ok (.ifCond .eq 22, 3) := by decide +kernel
theorem dX9_rings_102 : decode cX9_rings 102 = .ok (.aload_n 0, 1) := by decide +kernel
theorem dX9_rings_103 : decode cX9_rings 103 = .ok (.getfield 50, 3) := by decide +kernel
theorem dX9_rings_106 : decode cX9_rings 106 = .ok (.iload 6, 2) := by decide +kernel
theorem dX9_rings_108 : decode cX9_rings 108 = .ok (.iaload, 1) := by decide +kernel
theorem dX9_rings_109 : decode cX9_rings 109 = .ok (.iload 4, 2) := by decide +kernel
theorem dX9_rings_111 : decode cX9_rings 111 = .ok (.iconst 1, 1) := by decide +kernel
theorem dX9_rings_112 : decode cX9_rings 112 = .ok (.isub, 1) := by decide +kernel
theorem dX9_rings_113 : decode cX9_rings 113 = .ok (.if_icmp .ne 8, 3) := by decide +kernel
theorem dX9_rings_116 : decode cX9_rings 116 = .ok (.iload 4, 2) := by decide +kernel
theorem dX9_rings_118 : decode cX9_rings 118 = .ok (.goto 10, 3) := by decide +kernel
theorem dX9_rings_121 : decode cX9_rings 121 = .ok (.aload_n 0, 1) := by decide +kernel
theorem dX9_rings_122 : decode cX9_rings 122 = .ok (.getfield 50, 3) := by decide +kernel
theorem dX9_rings_125 : decode cX9_rings 125 = .ok (.iload 5, 2) := by decide +kernel
theorem dX9_rings_127 : decode cX9_rings 127 = .ok (.iaload, 1) := by decide +kernel
theorem dX9_rings_128 : decode cX9_rings 128 = .ok (.iastore, 1) := by decide +kernel
theorem dX9_rings_129 : decode cX9_rings 129 = .ok (.iinc 6 1, 3) := by decide +kernel
theorem dX9_rings_132 : decode cX9_rings 132 = .ok (.goto (-69), 3) := by decide +kernel
theorem dX9_rings_135 : decode cX9_rings 135 = .ok (.iinc 5 1, 3) := by decide +kernel
theorem dX9_rings_138 : decode cX9_rings 138 = .ok (.goto (-87), 3) := by decide +kernel
theorem dX9_rings_141 : decode cX9_rings 141 = .ok (.iinc 4 1, 3) := by decide +kernel
theorem dX9_rings_144 : decode cX9_rings 144 = .ok (.goto (-105), 3) := by decide +kernel
theorem dX9_rings_147 : decode cX9_rings 147 = .ok (.aload_n 0, 1) := by decide +kernel
theorem dX9_rings_148 : decode cX9_rings 148 = .ok (.aload_n 0, 1) := by decide +kernel
theorem dX9_rings_149 : decode cX9_rings 149 = .ok (.getfield 50, 3) := by decide +kernel
theorem dX9_rings_152 : decode cX9_rings 152 = .ok (.iload_n 2, 1) := by decide +kernel
theorem dX9_rings_153 : decode cX9_rings 153 = .ok (.iaload, 1) := by decide +kernel
theorem dX9_rings_154 : decode cX9_rings 154 = .ok (.iconst 1, 1) := by decide +kernel
theorem dX9_rings_155 : decode cX9_rings 155 = .ok (.iadd, 1) := by decide +kernel
theorem dX9_rings_156 : decode cX9_rings 156 = .ok (.putfield 182, 3) := by decide +kernel
theorem dX9_rings_159 : decode cX9_rings 159 = .ok (.iload_n 2, 1) := by decide +kernel
theorem dX9_rings_160 : decode cX9_rings 160 = .ok (.istore 4, 2) := by decide +kernel
theorem dX9_rings_162 : decode cX9_rings 162 = .ok (.iconst 0, 1) := by decide +kernel
theorem dX9_rings_163 : decode cX9_rings 163 = .ok (.istore 5, 2) := by decide +kernel
theorem dX9_rings_165 : decode cX9_rings 165 = .ok (.iload 5, 2) := by decide +kernel
theorem dX9_rings_167 : decode cX9_rings 167 = .ok (.aload_n 0, 1) := by decide +kernel
theorem dX9_rings_168 : decode cX9_rings 168 = .ok (.getfield 182, 3) := by decide +kernel
theorem dX9_rings_171 : decode cX9_rings 171 = .ok (.if_icmp .ge 75, 3) := by decide +kernel
theorem dX9_rings_174 : decode cX9_rings 174 = .ok (.aload_n 0, 1) := by decide +kernel
theorem dX9_rings_175 : decode cX9_rings 175 = .ok (.getfield 41, 3) := by decide +kernel
theorem dX9_rings_178 : decode cX9_rings 178 = .ok (.iload 5, 2) := by decide +kernel
theorem dX9_rings_180 : decode cX9_rings 180 = .ok (.iload 4, 2) := by decide +kernel
theorem dX9_rings_182 : decode cX9_rings 182 = .ok (.iastore, 1) := by decide +kernel
theorem dX9_rings_183 : decode cX9_rings 183 = .ok (.iconst 0, 1) := by decide +kernel
theorem dX9_rings_184 : decode cX9_rings 184 = .ok (.istore 6, 2) := by decide +kernel
theorem dX9_rings_186 : decode cX9_rings 186 = .ok (.iload 5, 2) := by decide +kernel
theorem dX9_rings_188 : decode cX9_rings 188 = .ok (.iconst 1, 1) := by decide +kernel
theorem dX9_rings_189 : decode cX9_rings 189 = .ok (.iadd, 1) := by decide +kernel
theorem dX9_rings_190 : decode cX9_rings 190 = .ok (.aload_n 0, 1) := by decide +kernel
theorem dX9_rings_191 : decode cX9_rings 191 = .ok (.getfield 182, 3) := by decide +kernel
theorem dX9_rings_194 : decode cX9_rings 194 = .ok (.if_icmp .ge 42, 3) := by decide +kernel
theorem dX9_rings_197 : decode cX9_rings 197 = .ok (.aload_n 1, 1) := by decide +kernel
theorem dX9_rings_198 : decode cX9_rings 198 = .ok (.iconst 0, 1) := by decide +kernel
theorem dX9_rings_199 : decode cX9_rings 199 = .ok (.iload 4, 2) := by decide +kernel
theorem dX9_rings_201 : decode cX9_rings 201 = .ok (.iadd, 1) := by decide +kernel
theorem dX9_rings_202 : decode cX9_rings 202 = .ok (.iaload, 1) := by decide +kernel
theorem dX9_rings_203 : decode cX9_rings 203 = .ok (.iload 6, 2) := by decide +kernel
theorem dX9_rings_205 : decode cX9_rings 205 = .ok (.invokestatic 119, 3) := by decide +kernel
theorem dX9_rings_208 : decode cX9_rings 208 = .ok (.ifCond .eq 22, 3) := by decide +kernel
theorem dX9_rings_211 : decode cX9_rings 211 = .ok (.aload_n 0, 1) := by decide +kernel
theorem dX9_rings_212 : decode cX9_rings 212 = .ok (.getfield 50, 3) := by decide +kernel
theorem dX9_rings_215 : decode cX9_rings 215 = .ok (.iload 6, 2) := by decide +kernel
theorem dX9_rings_217 : decode cX9_rings 217 = .ok (.iaload, 1) := by decide +kernel
theorem dX9_rings_218 : decode cX9_rings 218 = .ok (.aload_n 0, 1) := by decide +kernel
theorem dX9_rings_219 : decode cX9_rings 219 = .ok (.getfield 50, 3) := by decide +kernel
theorem dX9_rings_222 : decode cX9_rings 222 = .ok (.iload 4, 2) := by decide +kernel
theorem dX9_rings_224 : decode cX9_rings 224 = .ok (.iaload, 1) := by decide +kernel
theorem dX9_rings_225 : decode cX9_rings 225 = .ok (.iconst 1, 1) := by decide +kernel
theorem dX9_rings_226 : decode cX9_rings 226 = .ok (.isub, 1) := by decide +kernel
theorem dX9_rings_227 : decode cX9_rings 227 = .ok (.if_icmp .eq 9, 3) := by decide +kernel
theorem dX9_rings_230 : decode cX9_rings 230 = .ok (.iinc 6 1, 3) := by decide +kernel
theorem dX9_rings_233 : decode cX9_rings 233 = .ok (.goto (-47), 3) := by decide +kernel
theorem dX9_rings_236 : decode cX9_rings 236 = .ok (.iload 6, 2) := by decide +kernel
theorem dX9_rings_238 : decode cX9_rings 238 = .ok (.istore 4, 2) := by decide +kernel
theorem dX9_rings_240 : decode cX9_rings 240 = .ok (.iinc 5 1, 3) := by decide +kernel
theorem dX9_rings_243 : decode cX9_rings 243 = .ok (.goto (-78), 3) := by decide +kernel
theorem dX9_rings_246 : decode cX9_rings 246 = .ok (.return_, 1) := by decide +kernel
theorem dX9_lap_0 : decode cX9_lap 0 = .ok (.aload_n 0, 1) := by decide +kernel
theorem dX9_lap_1 : decode cX9_lap 1 = .ok (.iconst 0, 1) := by decide +kernel
theorem dX9_lap_2 : decode cX9_lap 2 = .ok (.putfield 75, 3) := by decide +kernel
theorem dX9_lap_5 : decode cX9_lap 5 = .ok (.iload_n 1, 1) := by decide +kernel
theorem dX9_lap_6 : decode cX9_lap 6 = .ok (.iconst (-1), 1) := by decide +kernel
theorem dX9_lap_7 : decode cX9_lap 7 = .ok (.if_icmp .ge 5, 3) := by decide +kernel
theorem dX9_lap_10 : decode cX9_lap 10 = .ok (.iconst (-1), 1) := by decide +kernel
theorem dX9_lap_11 : decode cX9_lap 11 = .ok (.ireturn, 1) := by decide +kernel
theorem dX9_lap_12 : decode cX9_lap 12 = .ok (.iload_n 1, 1) := by decide +kernel
theorem dX9_lap_13 : decode cX9_lap 13 = .ok (.ifCond .ge 10, 3) := by decide +kernel
theorem dX9_lap_16 : decode cX9_lap 16 = .ok (.aload_n 0, 1) := by decide +kernel
theorem dX9_lap_17 : decode cX9_lap 17 = .ok (.getfield 182, 3) := by decide +kernel
theorem dX9_lap_20 : decode cX9_lap 20 = .ok (.goto 22, 3) := by decide +kernel
theorem dX9_lap_23 : decode cX9_lap 23 = .ok (.iload_n 1, 1) := by decide +kernel
theorem dX9_lap_24 : decode cX9_lap 24 = .ok (.aload_n 0, 1) := by decide +kernel
theorem dX9_lap_25 : decode cX9_lap 25 = .ok (.getfield 182, 3) := by decide +kernel
theorem dX9_lap_28 : decode cX9_lap 28 = .ok (.if_icmp .ge 12, 3) := by decide +kernel
theorem dX9_lap_31 : decode cX9_lap 31 = .ok (.aload_n 0, 1) := by decide +kernel
theorem dX9_lap_32 : decode cX9_lap 32 = .ok (.getfield 41, 3) := by decide +kernel
theorem dX9_lap_35 : decode cX9_lap 35 = .ok (.iload_n 1, 1) := by decide +kernel
theorem dX9_lap_36 : decode cX9_lap 36 = .ok (.iaload, 1) := by decide +kernel
theorem dX9_lap_37 : decode cX9_lap 37 = .ok (.goto 5, 3) := by decide +kernel
theorem dX9_lap_40 : decode cX9_lap 40 = .ok (.bipush (-9), 2) := by decide +kernel
theorem dX9_lap_42 : decode cX9_lap 42 = .ok (.ireturn, 1) := by decide +kernel
set_option maxRecDepth 20000 in
theorem ggX9_behind_X9_has : GoodIn wsX9_behind wsX9_has := goodIn_r _ [6] (by decide +kernel) (by decide +kernel)
set_option maxRecDepth 20000 in
theorem gX9_behind_X9_has : GoodIn wsX9_behind (va_wsS RX9 119 yX9_has wsX9_has) := goodIn_app (goodIn_of _ (by decide +kernel)) ggX9_behind_X9_has
theorem dX9_behind_0 : decode cX9_behind 0 = .ok (.aload_n 0, 1) := by decide +kernel
theorem dX9_behind_1 : decode cX9_behind 1 = .ok (.getfield 16, 3) := by decide +kernel
theorem dX9_behind_4 : decode cX9_behind 4 = .ok (.iconst 0, 1) := by decide +kernel
theorem dX9_behind_5 : decode cX9_behind 5 = .ok (.iload_n 1, 1) := by decide +kernel
theorem dX9_behind_6 : decode cX9_behind 6 = .ok (.iadd, 1) := by decide +kernel
theorem dX9_behind_7 : decode cX9_behind 7 = .ok (.iaload, 1) := by decide +kernel
theorem dX9_behind_8 : decode cX9_behind 8 = .ok (.istore_n 2, 1) := by decide +kernel
theorem dX9_behind_9 : decode cX9_behind 9 = .ok (.iconst 0, 1) := by decide +kernel
theorem dX9_behind_10 : decode cX9_behind 10 = .ok (.istore_n 3, 1) := by decide +kernel
theorem dX9_behind_11 : decode cX9_behind 11 = .ok (.iload_n 3, 1) := by decide +kernel
theorem dX9_behind_12 : decode cX9_behind 12 = .ok (.aload_n 0, 1) := by decide +kernel
theorem dX9_behind_13 : decode cX9_behind 13 = .ok (.getfield 145, 3) := by decide +kernel
theorem dX9_behind_16 : decode cX9_behind 16 = .ok (.if_icmp .ge 52, 3) := by decide +kernel
theorem dX9_behind_19 : decode cX9_behind 19 = .ok (.iconst 0, 1) := by decide +kernel
theorem dX9_behind_20 : decode cX9_behind 20 = .ok (.istore 4, 2) := by decide +kernel
theorem dX9_behind_22 : decode cX9_behind 22 = .ok (.iload 4, 2) := by decide +kernel
theorem dX9_behind_24 : decode cX9_behind 24 = .ok (.aload_n 0, 1) := by decide +kernel
theorem dX9_behind_25 : decode cX9_behind 25 = .ok (.getfield 145, 3) := by decide +kernel
theorem dX9_behind_28 : decode cX9_behind 28 = .ok (.if_icmp .ge 34, 3) := by decide +kernel
theorem dX9_behind_31 : decode cX9_behind 31 = .ok (.iload_n 2, 1) := by decide +kernel
theorem dX9_behind_32 : decode cX9_behind 32 = .ok (.iload_n 2, 1) := by decide +kernel
theorem dX9_behind_33 : decode cX9_behind 33 = .ok (.iload 4, 2) := by decide +kernel
theorem dX9_behind_35 : decode cX9_behind 35 = .ok (.invokestatic 119, 3) := by decide +kernel
theorem dX9_behind_38 : decode cX9_behind 38 = .ok (.ifCond .eq 15, 3) := by decide +kernel
theorem dX9_behind_41 : decode cX9_behind 41 = .ok (.aload_n 0, 1) := by decide +kernel
theorem dX9_behind_42 : decode cX9_behind 42 = .ok (.getfield 16, 3) := by decide +kernel
theorem dX9_behind_45 : decode cX9_behind 45 = .ok (.iconst 0, 1) := by decide +kernel
theorem dX9_behind_46 : decode cX9_behind 46 = .ok (.iload 4, 2) := by decide +kernel
theorem dX9_behind_48 : decode cX9_behind 48 = .ok (.iadd, 1) := by decide +kernel
theorem dX9_behind_49 : decode cX9_behind 49 = .ok (.iaload, 1) := by decide +kernel
theorem dX9_behind_50 : decode cX9_behind 50 = .ok (.goto 4, 3) := by decide +kernel
theorem dX9_behind_53 : decode cX9_behind 53 = .ok (.iconst 0, 1) := by decide +kernel
theorem dX9_behind_54 : decode cX9_behind 54 = .ok (.ior, 1) := by decide +kernel
theorem dX9_behind_55 : decode cX9_behind 55 = .ok (.istore_n 2, 1) := by decide +kernel
theorem dX9_behind_56 : decode cX9_behind 56 = .ok (.iinc 4 1, 3) := by decide +kernel
theorem dX9_behind_59 : decode cX9_behind 59 = .ok (.goto (-37), 3) := by decide +kernel
theorem dX9_behind_62 : decode cX9_behind 62 = .ok (.iinc 3 1, 3) := by decide +kernel
theorem dX9_behind_65 : decode cX9_behind 65 = .ok (.goto (-54), 3) := by decide +kernel
theorem dX9_behind_68 : decode cX9_behind 68 = .ok (.iload_n 2, 1) := by decide +kernel
theorem dX9_behind_69 : decode cX9_behind 69 = .ok (.ireturn, 1) := by decide +kernel
set_option maxRecDepth 20000 in
theorem ggX9_ahead_X9_behind : GoodIn wsX9_ahead wsX9_behind := goodIn_r _ [6, 7, 1, 8, 9, 5, 10, 11, 12, 13, 14, 15, 16, 17, 18, 19, 20, 21, 22, 23, 24, 25, 26, 27, 28, 29, 30, 31, 32, 33, 34, 35, 36, 37, 38, 39, 40, 41, 42, 43, 44, 45, 46] (by decide +kernel) (by decide +kernel)
set_option maxRecDepth 20000 in
theorem gX9_ahead_X9_behind : GoodIn wsX9_ahead (wsV RX9 185 RX9 yX9_behind wsX9_behind) := goodIn_app (goodIn_of _ (by decide +kernel)) ggX9_ahead_X9_behind
set_option maxRecDepth 20000 in
theorem ggX9_ahead_X9_has : GoodIn wsX9_ahead wsX9_has := goodIn_r _ [10] (by decide +kernel) (by decide +kernel)
set_option maxRecDepth 20000 in
theorem gX9_ahead_X9_has : GoodIn wsX9_ahead (va_wsS RX9 119 yX9_has wsX9_has) := goodIn_app (goodIn_of _ (by decide +kernel)) ggX9_ahead_X9_has
theorem dX9_ahead_0 : decode cX9_ahead 0 = .ok (.iconst 0, 1) := by decide +kernel
theorem dX9_ahead_1 : decode cX9_ahead 1 = .ok (.istore_n 2, 1) := by decide +kernel
theorem dX9_ahead_2 : decode cX9_ahead 2 = .ok (.iconst 0, 1) := by decide +kernel
theorem dX9_ahead_3 : decode cX9_ahead 3 = .ok (.istore_n 3, 1) := by decide +kernel
theorem dX9_ahead_4 : decode cX9_ahead 4 = .ok (.iload_n 3, 1) := by decide +kernel
theorem dX9_ahead_5 : decode cX9_ahead 5 = .ok (.aload_n 0, 1) := by decide +kernel
theorem dX9_ahead_6 : decode cX9_ahead 6 = .ok (.getfield 145, 3) := by decide +kernel
theorem dX9_ahead_9 : decode cX9_ahead 9 = .ok (.if_icmp .ge 31, 3) := by decide +kernel
theorem dX9_ahead_12 : decode cX9_ahead 12 = .ok (.iload_n 2, 1) := by decide +kernel
theorem dX9_ahead_13 : decode cX9_ahead 13 = .ok (.aload_n 0, 1) := by decide +kernel
theorem dX9_ahead_14 : decode cX9_ahead 14 = .ok (.iload_n 3, 1) := by decide +kernel
theorem dX9_ahead_15 : decode cX9_ahead 15 = .ok (.invokevirtual 185, 3) := by decide +kernel
theorem dX9_ahead_18 : decode cX9_ahead 18 = .ok (.iload_n 1, 1) := by decide +kernel
theorem dX9_ahead_19 : decode cX9_ahead 19 = .ok (.invokestatic 119, 3) := by decide +kernel
theorem dX9_ahead_22 : decode cX9_ahead 22 = .ok (.ifCond .eq 9, 3) := by decide +kernel
theorem dX9_ahead_25 : decode cX9_ahead 25 = .ok (.iconst 1, 1) := by decide +kernel
theorem dX9_ahead_26 : decode cX9_ahead 26 = .ok (.iload_n 3, 1) := by decide +kernel
theorem dX9_ahead_27 : decode cX9_ahead 27 = .ok (.ishl, 1) := by decide +kernel
theorem dX9_ahead_28 : decode cX9_ahead 28 = .ok (.goto 4, 3) := by decide +kernel
theorem dX9_ahead_31 : decode cX9_ahead 31 = .ok (.iconst 0, 1) := by decide +kernel
theorem dX9_ahead_32 : decode cX9_ahead 32 = .ok (.ior, 1) := by decide +kernel
theorem dX9_ahead_33 : decode cX9_ahead 33 = .ok (.istore_n 2, 1) := by decide +kernel
theorem dX9_ahead_34 : decode cX9_ahead 34 = .ok (.iinc 3 1, 3) := by decide +kernel
theorem dX9_ahead_37 : decode cX9_ahead 37 = .ok (.goto (-33), 3) := by decide +kernel
theorem dX9_ahead_40 : decode cX9_ahead 40 = .ok (.iload_n 2, 1) := by decide +kernel
theorem dX9_ahead_41 : decode cX9_ahead 41 = .ok (.ireturn, 1) := by decide +kernel
set_option maxRecDepth 20000 in
theorem ggX9_into_X9_has : GoodIn wsX9_into wsX9_has := goodIn_r _ [6] (by decide +kernel) (by decide +kernel)
set_option maxRecDepth 20000 in
theorem gX9_into_X9_has : GoodIn wsX9_into (va_wsS RX9 119 yX9_has wsX9_has) := goodIn_app (goodIn_of _ (by decide +kernel)) ggX9_into_X9_has
theorem dX9_into_0 : decode cX9_into 0 = .ok (.iconst 0, 1) := by decide +kernel
theorem dX9_into_1 : decode cX9_into 1 = .ok (.istore_n 2, 1) := by decide +kernel
theorem dX9_into_2 : decode cX9_into 2 = .ok (.iconst 0, 1) := by decide +kernel
theorem dX9_into_3 : decode cX9_into 3 = .ok (.istore_n 3, 1) := by decide +kernel
theorem dX9_into_4 : decode cX9_into 4 = .ok (.iload_n 3, 1) := by decide +kernel
theorem dX9_into_5 : decode cX9_into 5 = .ok (.aload_n 0, 1) := by decide +kernel
theorem dX9_into_6 : decode cX9_into 6 = .ok (.getfield 145, 3) := by decide +kernel
theorem dX9_into_9 : decode cX9_into 9 = .ok (.if_icmp .ge 34, 3) := by decide +kernel
theorem dX9_into_12 : decode cX9_into 12 = .ok (.iload_n 2, 1) := by decide +kernel
theorem dX9_into_13 : decode cX9_into 13 = .ok (.aload_n 0, 1) := by decide +kernel
theorem dX9_into_14 : decode cX9_into 14 = .ok (.getfield 16, 3) := by decide +kernel
theorem dX9_into_17 : decode cX9_into 17 = .ok (.iconst 0, 1) := by decide +kernel
theorem dX9_into_18 : decode cX9_into 18 = .ok (.iload_n 3, 1) := by decide +kernel
theorem dX9_into_19 : decode cX9_into 19 = .ok (.iadd, 1) := by decide +kernel
theorem dX9_into_20 : decode cX9_into 20 = .ok (.iaload, 1) := by decide +kernel
theorem dX9_into_21 : decode cX9_into 21 = .ok (.iload_n 1, 1) := by decide +kernel
theorem dX9_into_22 : decode cX9_into 22 = .ok (.invokestatic 119, 3) := by decide +kernel
theorem dX9_into_25 : decode cX9_into 25 = .ok (.ifCond .eq 9, 3) := by decide +kernel
theorem dX9_into_28 : decode cX9_into 28 = .ok (.iconst 1, 1) := by decide +kernel
theorem dX9_into_29 : decode cX9_into 29 = .ok (.iload_n 3, 1) := by decide +kernel
theorem dX9_into_30 : decode cX9_into 30 = .ok (.ishl, 1) := by decide +kernel
theorem dX9_into_31 : decode cX9_into 31 = .ok (.goto 4, 3) := by decide +kernel
theorem dX9_into_34 : decode cX9_into 34 = .ok (.iconst 0, 1) := by decide +kernel
theorem dX9_into_35 : decode cX9_into 35 = .ok (.ior, 1) := by decide +kernel
theorem dX9_into_36 : decode cX9_into 36 = .ok (.istore_n 2, 1) := by decide +kernel
theorem dX9_into_37 : decode cX9_into 37 = .ok (.iinc 3 1, 3) := by decide +kernel
theorem dX9_into_40 : decode cX9_into 40 = .ok (.goto (-36), 3) := by decide +kernel
theorem dX9_into_43 : decode cX9_into 43 = .ok (.iload_n 2, 1) := by decide +kernel
theorem dX9_into_44 : decode cX9_into 44 = .ok (.ireturn, 1) := by decide +kernel
set_option maxRecDepth 20000 in
theorem ggX9_item_X9_isItem : GoodIn wsX9_item wsX9_isItem := goodIn_r _ [8, 3, 9, 10, 7, 11, 30, 31, 32, 33, 34, 35, 36, 37, 38, 39, 40, 41, 42, 43, 44, 45, 46, 47, 48, 49, 50, 51, 52, 53, 54, 55, 56, 57, 58, 59, 60, 61, 62, 63, 64, 65] (by decide +kernel) (by decide +kernel)
set_option maxRecDepth 20000 in
theorem gX9_item_X9_isItem : GoodIn wsX9_item (wsV RX9 161 RX9 yX9_isItem wsX9_isItem) := goodIn_app (goodIn_of _ (by decide +kernel)) ggX9_item_X9_isItem
set_option maxRecDepth 20000 in
theorem ggX9_item_X9_in : GoodIn wsX9_item wsX9_in := goodIn_r _ [11] (by decide +kernel) (by decide +kernel)
set_option maxRecDepth 20000 in
theorem gX9_item_X9_in : GoodIn wsX9_item (va_wsS RX9 79 yX9_in wsX9_in) := goodIn_app (goodIn_of _ (by decide +kernel)) ggX9_item_X9_in
set_option maxRecDepth 20000 in
theorem ggX9_item_X9_into : GoodIn wsX9_item wsX9_into := goodIn_r _ [15, 3, 2, 16, 17, 7, 18, 30, 31, 32, 33, 34, 35, 36, 37, 38, 39, 40, 41, 42, 43, 44, 45, 46, 47, 48, 49, 50, 51, 52, 53, 54, 55, 56, 57, 58, 59, 60, 61, 62, 63, 64, 65] (by decide +kernel) (by decide +kernel)
set_option maxRecDepth 20000 in
theorem gX9_item_X9_into : GoodIn wsX9_item (wsV RX9 188 RX9 yX9_into wsX9_into) := goodIn_app (goodIn_of _ (by decide +kernel)) ggX9_item_X9_into
set_option maxRecDepth 20000 in
theorem ggX9_item_X9_ahead : GoodIn wsX9_item wsX9_ahead := goodIn_r _ [22, 3, 23, 24, 25, 7, 26, 2, 16, 17, 18, 30, 31, 32, 33, 34, 35, 36, 37, 38, 39, 40, 41, 42, 43, 44, 45, 46, 47, 48, 49, 50, 51, 52, 53, 54, 55, 56, 57, 58, 59, 60, 61, 62, 63, 64, 65] (by decide +kernel) (by decide +kernel)
set_option maxRecDepth 20000 in
theorem gX9_item_X9_ahead : GoodIn wsX9_item (wsV RX9 191 RX9 yX9_ahead wsX9_ahead) := goodIn_app (goodIn_of _ (by decide +kernel)) ggX9_item_X9_ahead
set_option maxRecDepth 20000 in
theorem ggX9_item_X9_ones : GoodIn wsX9_item wsX9_ones := goodIn_r _ [29] (by decide +kernel) (by decide +kernel)
set_option maxRecDepth 20000 in
theorem gX9_item_X9_ones : GoodIn wsX9_item (va_wsS RX9 194 yX9_ones wsX9_ones) := goodIn_app (goodIn_of _ (by decide +kernel)) ggX9_item_X9_ones
set_option maxRecDepth 20000 in
theorem ggX9_item_X9_behind : GoodIn wsX9_item wsX9_behind := goodIn_r _ [26, 2, 3, 16, 17, 7, 18, 30, 31, 32, 33, 34, 35, 36, 37, 38, 39, 40, 41, 42, 43, 44, 45, 46, 47, 48, 49, 50, 51, 52, 53, 54, 55, 56, 57, 58, 59, 60, 61, 62, 63, 64, 65] (by decide +kernel) (by decide +kernel)
set_option maxRecDepth 20000 in
theorem gX9_item_X9_behind : GoodIn wsX9_item (wsV RX9 185 RX9 yX9_behind wsX9_behind) := goodIn_app (goodIn_of _ (by decide +kernel)) ggX9_item_X9_behind
theorem dX9_item_0 : decode cX9_item 0 = .ok (.aload_n 0, 1) := by decide +kernel
theorem dX9_item_1 : decode cX9_item 1 = .ok (.iconst 0, 1) := by decide +kernel
theorem dX9_item_2 : decode cX9_item 2 = .ok (.putfield 75, 3) := by decide +kernel
theorem dX9_item_5 : decode cX9_item 5 = .ok (.aload_n 0, 1) := by decide +kernel
theorem dX9_item_6 : decode cX9_item 6 = .ok (.iload_n 1, 1) := by decide +kernel
theorem dX9_item_7 : decode cX9_item 7 = .ok (.invokevirtual 161, 3) := by decide +kernel
theorem dX9_item_10 : decode cX9_item 10 = .ok (.ifCond .eq 13, 3) := by decide +kernel
theorem dX9_item_13 : decode cX9_item 13 = .ok (.iload_n 2, 1) := by decide +kernel
theorem dX9_item_14 : decode cX9_item 14 = .ok (.iconst 0, 1) := by decide +kernel
theorem dX9_item_15 : decode cX9_item 15 = .ok (.bipush 6, 2) := by decide +kernel
theorem dX9_item_17 : decode cX9_item 17 = .ok (.invokestatic 79, 3) := by decide +kernel
theorem dX9_item_20 : decode cX9_item 20 = .ok (.ifCond .ne 5, 3) := by decide +kernel
theorem dX9_item_23 : decode cX9_item 23 = .ok (.iconst (-1), 1) := by decide +kernel
theorem dX9_item_24 : decode cX9_item 24 = .ok (.ireturn, 1) := by decide +kernel
theorem dX9_item_25 : decode cX9_item 25 = .ok (.iload_n 2, 1) := by decide +kernel
theorem dX9_item_26 : decode cX9_item 26 = .ok (.iconst 3, 1) := by decide +kernel
theorem dX9_item_27 : decode cX9_item 27 = .ok (.if_icmp .ge 41, 3) := by decide +kernel
theorem dX9_item_30 : decode cX9_item 30 = .ok (.iload_n 2, 1) := by decide +kernel
theorem dX9_item_31 : decode cX9_item 31 = .ok (.ifCond .ne 15, 3) := by decide +kernel
theorem dX9_item_34 : decode cX9_item 34 = .ok (.aload_n 0, 1) := by decide +kernel
theorem dX9_item_35 : decode cX9_item 35 = .ok (.getfield 16, 3) := by decide +kernel
theorem dX9_item_38 : decode cX9_item 38 = .ok (.bipush 12, 2) := by decide +kernel
theorem dX9_item_40 : decode cX9_item 40 = .ok (.iload_n 1, 1) := by decide +kernel
theorem dX9_item_41 : decode cX9_item 41 = .ok (.iadd, 1) := by decide +kernel
theorem dX9_item_42 : decode cX9_item 42 = .ok (.iaload, 1) := by decide +kernel
theorem dX9_item_43 : decode cX9_item 43 = .ok (.goto 24, 3) := by decide +kernel
theorem dX9_item_46 : decode cX9_item 46 = .ok (.iload_n 2, 1) := by decide +kernel
theorem dX9_item_47 : decode cX9_item 47 = .ok (.iconst 1, 1) := by decide +kernel
theorem dX9_item_48 : decode cX9_item 48 = .ok (.if_icmp .ne 14, 3) := by decide +kernel
theorem dX9_item_51 : decode cX9_item 51 = .ok (.aload_n 0, 1) := by decide +kernel
theorem dX9_item_52 : decode cX9_item 52 = .ok (.getfield 16, 3) := by decide +kernel
theorem dX9_item_55 : decode cX9_item 55 = .ok (.iconst 0, 1) := by decide +kernel
theorem dX9_item_56 : decode cX9_item 56 = .ok (.iload_n 1, 1) := by decide +kernel
theorem dX9_item_57 : decode cX9_item 57 = .ok (.iadd, 1) := by decide +kernel
theorem dX9_item_58 : decode cX9_item 58 = .ok (.iaload, 1) := by decide +kernel
theorem dX9_item_59 : decode cX9_item 59 = .ok (.goto 8, 3) := by decide +kernel
theorem dX9_item_62 : decode cX9_item 62 = .ok (.aload_n 0, 1) := by decide +kernel
theorem dX9_item_63 : decode cX9_item 63 = .ok (.iload_n 1, 1) := by decide +kernel
theorem dX9_item_64 : decode cX9_item 64 = .ok (.invokevirtual 188, 3) := by decide +kernel
theorem dX9_item_67 : decode cX9_item 67 = .ok (.ireturn, 1) := by decide +kernel
theorem dX9_item_68 : decode cX9_item 68 = .ok (.iload_n 2, 1) := by decide +kernel
theorem dX9_item_69 : decode cX9_item 69 = .ok (.iconst 5, 1) := by decide +kernel
theorem dX9_item_70 : decode cX9_item 70 = .ok (.if_icmp .ge 35, 3) := by decide +kernel
theorem dX9_item_73 : decode cX9_item 73 = .ok (.iload_n 2, 1) := by decide +kernel
theorem dX9_item_74 : decode cX9_item 74 = .ok (.iconst 3, 1) := by decide +kernel
theorem dX9_item_75 : decode cX9_item 75 = .ok (.if_icmp .ne 14, 3) := by decide +kernel
theorem dX9_item_78 : decode cX9_item 78 = .ok (.aload_n 0, 1) := by decide +kernel
theorem dX9_item_79 : decode cX9_item 79 = .ok (.iload_n 1, 1) := by decide +kernel
theorem dX9_item_80 : decode cX9_item 80 = .ok (.invokevirtual 191, 3) := by decide +kernel
theorem dX9_item_83 : decode cX9_item 83 = .ok (.invokestatic 194, 3) := by decide +kernel
theorem dX9_item_86 : decode cX9_item 86 = .ok (.goto 18, 3) := by decide +kernel
theorem dX9_item_89 : decode cX9_item 89 = .ok (.aload_n 0, 1) := by decide +kernel
theorem dX9_item_90 : decode cX9_item 90 = .ok (.getfield 145, 3) := by decide +kernel
theorem dX9_item_93 : decode cX9_item 93 = .ok (.iconst 1, 1) := by decide +kernel
theorem dX9_item_94 : decode cX9_item 94 = .ok (.isub, 1) := by decide +kernel
theorem dX9_item_95 : decode cX9_item 95 = .ok (.aload_n 0, 1) := by decide +kernel
theorem dX9_item_96 : decode cX9_item 96 = .ok (.iload_n 1, 1) := by decide +kernel
theorem dX9_item_97 : decode cX9_item 97 = .ok (.invokevirtual 185, 3) := by decide +kernel
theorem dX9_item_100 : decode cX9_item 100 = .ok (.invokestatic 194, 3) := by decide +kernel
theorem dX9_item_103 : decode cX9_item 103 = .ok (.isub, 1) := by decide +kernel
theorem dX9_item_104 : decode cX9_item 104 = .ok (.ireturn, 1) := by decide +kernel
theorem dX9_item_105 : decode cX9_item 105 = .ok (.iload_n 2, 1) := by decide +kernel
theorem dX9_item_106 : decode cX9_item 106 = .ok (.iconst 5, 1) := by decide +kernel
theorem dX9_item_107 : decode cX9_item 107 = .ok (.if_icmp .ne 11, 3) := by decide +kernel
theorem dX9_item_110 : decode cX9_item 110 = .ok (.aload_n 0, 1) := by decide +kernel
theorem dX9_item_111 : decode cX9_item 111 = .ok (.iload_n 1, 1) := by decide +kernel
theorem dX9_item_112 : decode cX9_item 112 = .ok (.invokevirtual 185, 3) := by decide +kernel
theorem dX9_item_115 : decode cX9_item 115 = .ok (.goto 8, 3) := by decide +kernel
theorem dX9_item_118 : decode cX9_item 118 = .ok (.aload_n 0, 1) := by decide +kernel
theorem dX9_item_119 : decode cX9_item 119 = .ok (.iload_n 1, 1) := by decide +kernel
theorem dX9_item_120 : decode cX9_item 120 = .ok (.invokevirtual 191, 3) := by decide +kernel
theorem dX9_item_123 : decode cX9_item 123 = .ok (.ireturn, 1) := by decide +kernel
set_option maxRecDepth 20000 in
theorem ggX9_at_X9_isItem : GoodIn wsX9_at wsX9_isItem := goodIn_r _ [8, 3, 9, 10, 7, 11, 15, 16, 17, 18, 19, 20, 21, 22, 23, 24, 25, 26, 27, 28, 29, 30, 31, 32, 33, 34, 35, 36, 37, 38, 39, 40, 41, 42, 43, 44, 45, 46, 47, 48, 49, 50] (by decide +kernel) (by decide +kernel)
set_option maxRecDepth 20000 in
theorem gX9_at_X9_isItem : GoodIn wsX9_at (wsV RX9 161 RX9 yX9_isItem wsX9_isItem) := goodIn_app (goodIn_of _ (by decide +kernel)) ggX9_at_X9_isItem
set_option maxRecDepth 20000 in
theorem ggX9_at_X9_itemAt : GoodIn wsX9_at wsX9_itemAt := goodIn_r _ [14] (by decide +kernel) (by decide +kernel)
set_option maxRecDepth 20000 in
theorem gX9_at_X9_itemAt : GoodIn wsX9_at (va_wsS RX9 170 yX9_itemAt wsX9_itemAt) := goodIn_app (goodIn_of _ (by decide +kernel)) ggX9_at_X9_itemAt
theorem dX9_at_0 : decode cX9_at 0 = .ok (.aload_n 0, 1) := by decide +kernel
theorem dX9_at_1 : decode cX9_at 1 = .ok (.iconst 0, 1) := by decide +kernel
theorem dX9_at_2 : decode cX9_at 2 = .ok (.putfield 75, 3) := by decide +kernel
theorem dX9_at_5 : decode cX9_at 5 = .ok (.aload_n 0, 1) := by decide +kernel
theorem dX9_at_6 : decode cX9_at 6 = .ok (.iload_n 1, 1) := by decide +kernel
theorem dX9_at_7 : decode cX9_at 7 = .ok (.invokevirtual 161, 3) := by decide +kernel
theorem dX9_at_10 : decode cX9_at 10 = .ok (.ifCond .eq 18, 3) := by decide +kernel
theorem dX9_at_13 : decode cX9_at 13 = .ok (.aload_n 0, 1) := by decide +kernel
theorem dX9_at_14 : decode cX9_at 14 = .ok (.getfield 16, 3) := by decide +kernel
theorem dX9_at_17 : decode cX9_at 17 = .ok (.aload_n 0, 1) := by decide +kernel
theorem dX9_at_18 : decode cX9_at 18 = .ok (.getfield 145, 3) := by decide +kernel
theorem dX9_at_21 : decode cX9_at 21 = .ok (.iload_n 1, 1) := by decide +kernel
theorem dX9_at_22 : decode cX9_at 22 = .ok (.invokestatic 170, 3) := by decide +kernel
theorem dX9_at_25 : decode cX9_at 25 = .ok (.goto 4, 3) := by decide +kernel
theorem dX9_at_28 : decode cX9_at 28 = .ok (.iconst (-1), 1) := by decide +kernel
theorem dX9_at_29 : decode cX9_at 29 = .ok (.ireturn, 1) := by decide +kernel
set_option maxRecDepth 20000 in
theorem ggX9_arcs_X9_ones : GoodIn wsX9_arcs wsX9_ones := goodIn_r _ [6] (by decide +kernel) (by decide +kernel)
set_option maxRecDepth 20000 in
theorem gX9_arcs_X9_ones : GoodIn wsX9_arcs (va_wsS RX9 194 yX9_ones wsX9_ones) := goodIn_app (goodIn_of _ (by decide +kernel)) ggX9_arcs_X9_ones
theorem dX9_arcs_0 : decode cX9_arcs 0 = .ok (.iconst 0, 1) := by decide +kernel
theorem dX9_arcs_1 : decode cX9_arcs 1 = .ok (.istore_n 1, 1) := by decide +kernel
theorem dX9_arcs_2 : decode cX9_arcs 2 = .ok (.iconst 0, 1) := by decide +kernel
theorem dX9_arcs_3 : decode cX9_arcs 3 = .ok (.istore_n 2, 1) := by decide +kernel
theorem dX9_arcs_4 : decode cX9_arcs 4 = .ok (.iload_n 2, 1) := by decide +kernel
theorem dX9_arcs_5 : decode cX9_arcs 5 = .ok (.aload_n 0, 1) := by decide +kernel
theorem dX9_arcs_6 : decode cX9_arcs 6 = .ok (.getfield 145, 3) := by decide +kernel
theorem dX9_arcs_9 : decode cX9_arcs 9 = .ok (.if_icmp .ge 23, 3) := by decide +kernel
theorem dX9_arcs_12 : decode cX9_arcs 12 = .ok (.iload_n 1, 1) := by decide +kernel
theorem dX9_arcs_13 : decode cX9_arcs 13 = .ok (.aload_n 0, 1) := by decide +kernel
theorem dX9_arcs_14 : decode cX9_arcs 14 = .ok (.getfield 16, 3) := by decide +kernel
theorem dX9_arcs_17 : decode cX9_arcs 17 = .ok (.iconst 0, 1) := by decide +kernel
theorem dX9_arcs_18 : decode cX9_arcs 18 = .ok (.iload_n 2, 1) := by decide +kernel
theorem dX9_arcs_19 : decode cX9_arcs 19 = .ok (.iadd, 1) := by decide +kernel
theorem dX9_arcs_20 : decode cX9_arcs 20 = .ok (.iaload, 1) := by decide +kernel
theorem dX9_arcs_21 : decode cX9_arcs 21 = .ok (.invokestatic 194, 3) := by decide +kernel
theorem dX9_arcs_24 : decode cX9_arcs 24 = .ok (.iadd, 1) := by decide +kernel
theorem dX9_arcs_25 : decode cX9_arcs 25 = .ok (.istore_n 1, 1) := by decide +kernel
theorem dX9_arcs_26 : decode cX9_arcs 26 = .ok (.iinc 2 1, 3) := by decide +kernel
theorem dX9_arcs_29 : decode cX9_arcs 29 = .ok (.goto (-25), 3) := by decide +kernel
theorem dX9_arcs_32 : decode cX9_arcs 32 = .ok (.iload_n 1, 1) := by decide +kernel
theorem dX9_arcs_33 : decode cX9_arcs 33 = .ok (.ireturn, 1) := by decide +kernel
set_option maxRecDepth 20000 in
theorem ggX9_free_X9_has : GoodIn wsX9_free wsX9_has := goodIn_r _ [6] (by decide +kernel) (by decide +kernel)
set_option maxRecDepth 20000 in
theorem gX9_free_X9_has : GoodIn wsX9_free (va_wsS RX9 119 yX9_has wsX9_has) := goodIn_app (goodIn_of _ (by decide +kernel)) ggX9_free_X9_has
theorem dX9_free_0 : decode cX9_free 0 = .ok (.iconst 0, 1) := by decide +kernel
theorem dX9_free_1 : decode cX9_free 1 = .ok (.istore_n 1, 1) := by decide +kernel
theorem dX9_free_2 : decode cX9_free 2 = .ok (.iconst 0, 1) := by decide +kernel
theorem dX9_free_3 : decode cX9_free 3 = .ok (.istore_n 2, 1) := by decide +kernel
theorem dX9_free_4 : decode cX9_free 4 = .ok (.iload_n 2, 1) := by decide +kernel
theorem dX9_free_5 : decode cX9_free 5 = .ok (.aload_n 0, 1) := by decide +kernel
theorem dX9_free_6 : decode cX9_free 6 = .ok (.getfield 145, 3) := by decide +kernel
theorem dX9_free_9 : decode cX9_free 9 = .ok (.if_icmp .ge 69, 3) := by decide +kernel
theorem dX9_free_12 : decode cX9_free 12 = .ok (.iconst 0, 1) := by decide +kernel
theorem dX9_free_13 : decode cX9_free 13 = .ok (.istore_n 3, 1) := by decide +kernel
theorem dX9_free_14 : decode cX9_free 14 = .ok (.iload_n 3, 1) := by decide +kernel
theorem dX9_free_15 : decode cX9_free 15 = .ok (.aload_n 0, 1) := by decide +kernel
theorem dX9_free_16 : decode cX9_free 16 = .ok (.getfield 145, 3) := by decide +kernel
theorem dX9_free_19 : decode cX9_free 19 = .ok (.if_icmp .ge 53, 3) := by decide +kernel
theorem dX9_free_22 : decode cX9_free 22 = .ok (.iload_n 1, 1) := by decide +kernel
theorem dX9_free_23 : decode cX9_free 23 = .ok (.aload_n 0, 1) := by decide +kernel
theorem dX9_free_24 : decode cX9_free 24 = .ok (.getfield 16, 3) := by decide +kernel
theorem dX9_free_27 : decode cX9_free 27 = .ok (.bipush 12, 2) := by decide +kernel
theorem dX9_free_29 : decode cX9_free 29 = .ok (.iload_n 2, 1) := by decide +kernel
theorem dX9_free_30 : decode cX9_free 30 = .ok (.iadd, 1) := by decide +kernel
theorem dX9_free_31 : decode cX9_free 31 = .ok (.iaload, 1) := by decide +kernel
theorem dX9_free_32 : decode cX9_free 32 = .ok (.aload_n 0, 1) := by decide +kernel
theorem dX9_free_33 : decode cX9_free 33 = .ok (.getfield 16, 3) := by decide +kernel
theorem dX9_free_36 : decode cX9_free 36 = .ok (.bipush 12, 2) := by decide +kernel
theorem dX9_free_38 : decode cX9_free 38 = .ok (.iload_n 3, 1) := by decide +kernel
theorem dX9_free_39 : decode cX9_free 39 = .ok (.iadd, 1) := by decide +kernel
theorem dX9_free_40 : decode cX9_free 40 = .ok (.iaload, 1) := by decide +kernel
theorem dX9_free_41 : decode cX9_free 41 = .ok (.if_icmp .ge 22, 3) := by decide +kernel
theorem dX9_free_44 : decode cX9_free 44 = .ok (.aload_n 0, 1) := by decide +kernel
theorem dX9_free_45 : decode cX9_free 45 = .ok (.getfield 16, 3) := by decide +kernel
theorem dX9_free_48 : decode cX9_free 48 = .ok (.iconst 0, 1) := by decide +kernel
theorem dX9_free_49 : decode cX9_free 49 = .ok (.iload_n 2, 1) := by decide +kernel
theorem dX9_free_50 : decode cX9_free 50 = .ok (.iadd, 1) := by decide +kernel
theorem dX9_free_51 : decode cX9_free 51 = .ok (.iaload, 1) := by decide +kernel
theorem dX9_free_52 : decode cX9_free 52 = .ok (.iload_n 3, 1) := by decide +kernel
theorem dX9_free_53 : decode cX9_free 53 = .ok (.invokestatic 119, 3) := by decide +kernel
theorem dX9_free_56 : decode cX9_free 56 = .ok (.ifCond .ne 7, 3) := by decide +kernel
theorem dX9_free_59 : decode cX9_free 59 = .ok (.iconst 1, 1) := by decide +kernel
theorem dX9_free_60 : decode cX9_free 60 = .ok (.goto 4, 3) := by decide +kernel
theorem dX9_free_63 : decode cX9_free 63 = .ok (.iconst 0, 1) := by decide +kernel
theorem dX9_free_64 : decode cX9_free 64 = .ok (.iadd, 1) := by decide +kernel
theorem dX9_free_65 : decode cX9_free 65 = .ok (.istore_n 1, 1) := by decide +kernel
theorem dX9_free_66 : decode cX9_free 66 = .ok (.iinc 3 1, 3) := by decide +kernel
theorem dX9_free_69 : decode cX9_free 69 = .ok (.goto (-55), 3) := by decide +kernel
theorem dX9_free_72 : decode cX9_free 72 = .ok (.iinc 2 1, 3) := by decide +kernel
theorem dX9_free_75 : decode cX9_free 75 = .ok (.goto (-71), 3) := by decide +kernel
theorem dX9_free_78 : decode cX9_free 78 = .ok (.iload_n 1, 1) := by decide +kernel
theorem dX9_free_79 : decode cX9_free 79 = .ok (.ireturn, 1) := by decide +kernel
set_option maxRecDepth 20000 in
theorem ggX9_most_X9_has : GoodIn wsX9_most wsX9_has := goodIn_r _ [7] (by decide +kernel) (by decide +kernel)
set_option maxRecDepth 20000 in
theorem gX9_most_X9_has : GoodIn wsX9_most (va_wsS RX9 119 yX9_has wsX9_has) := goodIn_app (goodIn_of _ (by decide +kernel)) ggX9_most_X9_has
set_option maxRecDepth 20000 in
theorem ggX9_most_X9_movedBy : GoodIn wsX9_most wsX9_movedBy := goodIn_r _ [11, 2, 1, 3, 12, 13, 14, 15, 16, 6, 17, 18, 19, 20, 21, 4, 5, 7, 22, 23, 24, 25, 26, 27, 28, 29, 30, 31, 32, 33, 34, 35, 36, 37, 41, 42, 43, 44, 45, 46, 47, 48, 49, 50, 51, 52, 53, 54, 55, 56, 57, 58, 59, 60, 61, 62, 63, 64, 65, 66, 67, 68, 69, 70, 71, 72, 73, 74, 75, 76] (by decide +kernel) (by decide +kernel)
set_option maxRecDepth 20000 in
theorem gX9_most_X9_movedBy : GoodIn wsX9_most (wsV RX9 197 RX9 yX9_movedBy wsX9_movedBy) := goodIn_app (goodIn_of _ (by decide +kernel)) ggX9_most_X9_movedBy
set_option maxRecDepth 20000 in
theorem ggX9_most_X9_ones : GoodIn wsX9_most wsX9_ones := goodIn_r _ [40] (by decide +kernel) (by decide +kernel)
set_option maxRecDepth 20000 in
theorem gX9_most_X9_ones : GoodIn wsX9_most (va_wsS RX9 194 yX9_ones wsX9_ones) := goodIn_app (goodIn_of _ (by decide +kernel)) ggX9_most_X9_ones
theorem dX9_most_0 : decode cX9_most 0 = .ok (.bipush (-9), 2) := by decide +kernel
theorem dX9_most_2 : decode cX9_most 2 = .ok (.istore_n 1, 1) := by decide +kernel
theorem dX9_most_3 : decode cX9_most 3 = .ok (.iconst (-1), 1) := by decide +kernel
theorem dX9_most_4 : decode cX9_most 4 = .ok (.istore_n 2, 1) := by decide +kernel
theorem dX9_most_5 : decode cX9_most 5 = .ok (.iconst 0, 1) := by decide +kernel
theorem dX9_most_6 : decode cX9_most 6 = .ok (.istore_n 3, 1) := by decide +kernel
theorem dX9_most_7 : decode cX9_most 7 = .ok (.iload_n 3, 1) := by decide +kernel
theorem dX9_most_8 : decode cX9_most 8 = .ok (.aload_n 0, 1) := by decide +kernel
theorem dX9_most_9 : decode cX9_most 9 = .ok (.getfield 145, 3) := by decide +kernel
theorem dX9_most_12 : decode cX9_most 12 = .ok (.if_icmp .ge 85, 3) := by decide +kernel
theorem dX9_most_15 : decode cX9_most 15 = .ok (.iconst 0, 1) := by decide +kernel
theorem dX9_most_16 : decode cX9_most 16 = .ok (.istore 4, 2) := by decide +kernel
theorem dX9_most_18 : decode cX9_most 18 = .ok (.iload 4, 2) := by decide +kernel
theorem dX9_most_20 : decode cX9_most 20 = .ok (.aload_n 0, 1) := by decide +kernel
theorem dX9_most_21 : decode cX9_most 21 = .ok (.getfield 145, 3) := by decide +kernel
theorem dX9_most_24 : decode cX9_most 24 = .ok (.if_icmp .ge 67, 3) := by decide +kernel
theorem dX9_most_27 : decode cX9_most 27 = .ok (.iload_n 3, 1) := by decide +kernel
theorem dX9_most_28 : decode cX9_most 28 = .ok (.iload 4, 2) := by decide +kernel
theorem dX9_most_30 : decode cX9_most 30 = .ok (.if_icmp .eq 55, 3) := by decide +kernel
theorem dX9_most_33 : decode cX9_most 33 = .ok (.aload_n 0, 1) := by decide +kernel
theorem dX9_most_34 : decode cX9_most 34 = .ok (.getfield 16, 3) := by decide +kernel
theorem dX9_most_37 : decode cX9_most 37 = .ok (.iconst 0, 1) := by decide +kernel
theorem dX9_most_38 : decode cX9_most 38 = .ok (.iload_n 3, 1) := by decide +kernel
theorem dX9_most_39 : decode cX9_most 39 = .ok (.iadd, 1) := by decide +kernel
theorem dX9_most_40 : decode cX9_most 40 = .ok (.iaload, 1) := by decide +kernel
theorem dX9_most_41 : decode cX9_most 41 = .ok (.iload 4, 2) := by decide +kernel
theorem dX9_most_43 : decode cX9_most 43 = .ok (.invokestatic 119, 3) := by decide +kernel
theorem dX9_most_46 : decode cX9_most 46 = .ok (.ifCond .ne 39, 3) := by decide +kernel
theorem dX9_most_49 : decode cX9_most 49 = .ok (.aload_n 0, 1) := by decide +kernel
theorem dX9_most_50 : decode cX9_most 50 = .ok (.iload_n 3, 1) := by decide +kernel
theorem dX9_most_51 : decode cX9_most 51 = .ok (.iload 4, 2) := by decide +kernel
theorem dX9_most_53 : decode cX9_most 53 = .ok (.invokevirtual 197, 3) := by decide +kernel
theorem dX9_most_56 : decode cX9_most 56 = .ok (.invokestatic 194, 3) := by decide +kernel
theorem dX9_most_59 : decode cX9_most 59 = .ok (.istore 5, 2) := by decide +kernel
theorem dX9_most_61 : decode cX9_most 61 = .ok (.aload_n 0, 1) := by decide +kernel
theorem dX9_most_62 : decode cX9_most 62 = .ok (.getfield 126, 3) := by decide +kernel
theorem dX9_most_65 : decode cX9_most 65 = .ok (.ifCond .ne 20, 3) := by decide +kernel
theorem dX9_most_68 : decode cX9_most 68 = .ok (.iload 5, 2) := by decide +kernel
theorem dX9_most_70 : decode cX9_most 70 = .ok (.iload_n 2, 1) := by decide +kernel
theorem dX9_most_71 : decode cX9_most 71 = .ok (.if_icmp .le 14, 3) := by decide +kernel
theorem dX9_most_74 : decode cX9_most 74 = .ok (.bipush 16, 2) := by decide +kernel
theorem dX9_most_76 : decode cX9_most 76 = .ok (.iload_n 3, 1) := by decide +kernel
theorem dX9_most_77 : decode cX9_most 77 = .ok (.imul, 1) := by decide +kernel
theorem dX9_most_78 : decode cX9_most 78 = .ok (.iload 4, 2) := by decide +kernel
theorem dX9_most_80 : decode cX9_most 80 = .ok (.iadd, 1) := by decide +kernel
theorem dX9_most_81 : decode cX9_most 81 = .ok (.istore_n 1, 1) := by decide +kernel
theorem dX9_most_82 : decode cX9_most 82 = .ok (.iload 5, 2) := by decide +kernel
theorem dX9_most_84 : decode cX9_most 84 = .ok (.istore_n 2, 1) := by decide +kernel
theorem dX9_most_85 : decode cX9_most 85 = .ok (.iinc 4 1, 3) := by decide +kernel
theorem dX9_most_88 : decode cX9_most 88 = .ok (.goto (-70), 3) := by decide +kernel
theorem dX9_most_91 : decode cX9_most 91 = .ok (.iinc 3 1, 3) := by decide +kernel
theorem dX9_most_94 : decode cX9_most 94 = .ok (.goto (-87), 3) := by decide +kernel
theorem dX9_most_97 : decode cX9_most 97 = .ok (.iload_n 1, 1) := by decide +kernel
theorem dX9_most_98 : decode cX9_most 98 = .ok (.ireturn, 1) := by decide +kernel
set_option maxRecDepth 20000 in
theorem ggX9_chain_X9_itemAt : GoodIn wsX9_chain wsX9_itemAt := goodIn_r _ [7] (by decide +kernel) (by decide +kernel)
set_option maxRecDepth 20000 in
theorem gX9_chain_X9_itemAt : GoodIn wsX9_chain (va_wsS RX9 170 yX9_itemAt wsX9_itemAt) := goodIn_app (goodIn_of _ (by decide +kernel)) ggX9_chain_X9_itemAt
set_option maxRecDepth 20000 in
theorem ggX9_chain_X9_has : GoodIn wsX9_chain wsX9_has := goodIn_r _ [10] (by decide +kernel) (by decide +kernel)
set_option maxRecDepth 20000 in
theorem gX9_chain_X9_has : GoodIn wsX9_chain (va_wsS RX9 119 yX9_has wsX9_has) := goodIn_app (goodIn_of _ (by decide +kernel)) ggX9_chain_X9_has
theorem dX9_chain_0 : decode cX9_chain 0 = .ok (.iconst 0, 1) := by decide +kernel
end
section
theorem dX9_chain_1 : decode cX9_chain 1 = .ok (.istore_n 1, 1) := by decide +kernel
theorem dX9_chain_2 : decode cX9_chain 2 = .ok (.iconst 0, 1) := by decide +kernel
theorem dX9_chain_3 : decode cX9_chain 3 = .ok (.istore_n 2, 1) := by decide +kernel
theorem dX9_chain_4 : decode cX9_chain 4 = .ok (.iload_n 2, 1) := by decide +kernel
theorem dX9_chain_5 : decode cX9_chain 5 = .ok (.aload_n 0, 1) := by decide +kernel
theorem dX9_chain_6 : decode cX9_chain 6 = .ok (.getfield 145, 3) := by decide +kernel
theorem dX9_chain_9 : decode cX9_chain 9 = .ok (.if_icmp .ge 16, 3) := by decide +kernel
theorem dX9_chain_12 : decode cX9_chain 12 = .ok (.aload_n 0, 1) := by decide +kernel
theorem dX9_chain_13 : decode cX9_chain 13 = .ok (.getfield 50, 3) := by decide +kernel
theorem dX9_chain_16 : decode cX9_chain 16 = .ok (.iload_n 2, 1) := by decide +kernel
theorem dX9_chain_17 : decode cX9_chain 17 = .ok (.iconst 1, 1) := by decide +kernel
theorem dX9_chain_18 : decode cX9_chain 18 = .ok (.iastore, 1) := by decide +kernel
theorem dX9_chain_19 : decode cX9_chain 19 = .ok (.iinc 2 1, 3) := by decide +kernel
theorem dX9_chain_22 : decode cX9_chain 22 = .ok (.goto (-18), 3) := by decide +kernel
theorem dX9_chain_25 : decode cX9_chain 25 = .ok (.aload_n 0, 1) := by decide +kernel
theorem dX9_chain_26 : decode cX9_chain 26 = .ok (.getfield 145, 3) := by decide +kernel
theorem dX9_chain_29 : decode cX9_chain 29 = .ok (.iconst 1, 1) := by decide +kernel
theorem dX9_chain_30 : decode cX9_chain 30 = .ok (.isub, 1) := by decide +kernel
theorem dX9_chain_31 : decode cX9_chain 31 = .ok (.istore_n 2, 1) := by decide +kernel
theorem dX9_chain_32 : decode cX9_chain 32 = .ok (.iload_n 2, 1) := by decide +kernel
theorem dX9_chain_33 : decode cX9_chain 33 = .ok (.ifCond .lt 119, 3) := by decide +kernel
theorem dX9_chain_36 : decode cX9_chain 36 = .ok (.aload_n 0, 1) := by decide +kernel
theorem dX9_chain_37 : decode cX9_chain 37 = .ok (.getfield 16, 3) := by decide +kernel
theorem dX9_chain_40 : decode cX9_chain 40 = .ok (.aload_n 0, 1) := by decide +kernel
theorem dX9_chain_41 : decode cX9_chain 41 = .ok (.getfield 145, 3) := by decide +kernel
theorem dX9_chain_44 : decode cX9_chain 44 = .ok (.iload_n 2, 1) := by decide +kernel
theorem dX9_chain_45 : decode cX9_chain 45 = .ok (.invokestatic 170, 3) := by decide +kernel
theorem dX9_chain_48 : decode cX9_chain 48 = .ok (.istore_n 3, 1) := by decide +kernel
theorem dX9_chain_49 : decode cX9_chain 49 = .ok (.iconst 0, 1) := by decide +kernel
theorem dX9_chain_50 : decode cX9_chain 50 = .ok (.istore 4, 2) := by decide +kernel
theorem dX9_chain_52 : decode cX9_chain 52 = .ok (.iload 4, 2) := by decide +kernel
theorem dX9_chain_54 : decode cX9_chain 54 = .ok (.aload_n 0, 1) := by decide +kernel
theorem dX9_chain_55 : decode cX9_chain 55 = .ok (.getfield 145, 3) := by decide +kernel
theorem dX9_chain_58 : decode cX9_chain 58 = .ok (.if_icmp .ge 67, 3) := by decide +kernel
theorem dX9_chain_61 : decode cX9_chain 61 = .ok (.aload_n 0, 1) := by decide +kernel
theorem dX9_chain_62 : decode cX9_chain 62 = .ok (.getfield 50, 3) := by decide +kernel
theorem dX9_chain_65 : decode cX9_chain 65 = .ok (.iload_n 3, 1) := by decide +kernel
theorem dX9_chain_66 : decode cX9_chain 66 = .ok (.aload_n 0, 1) := by decide +kernel
theorem dX9_chain_67 : decode cX9_chain 67 = .ok (.getfield 16, 3) := by decide +kernel
theorem dX9_chain_70 : decode cX9_chain 70 = .ok (.iconst 0, 1) := by decide +kernel
theorem dX9_chain_71 : decode cX9_chain 71 = .ok (.iload_n 3, 1) := by decide +kernel
theorem dX9_chain_72 : decode cX9_chain 72 = .ok (.iadd, 1) := by decide +kernel
theorem dX9_chain_73 : decode cX9_chain 73 = .ok (.iaload, 1) := by decide +kernel
theorem dX9_chain_74 : decode cX9_chain 74 = .ok (.iload 4, 2) := by decide +kernel
theorem dX9_chain_76 : decode cX9_chain 76 = .ok (.invokestatic 119, 3) := by decide +kernel
theorem dX9_chain_79 : decode cX9_chain 79 = .ok (.ifCond .eq 33, 3) := by decide +kernel
theorem dX9_chain_82 : decode cX9_chain 82 = .ok (.aload_n 0, 1) := by decide +kernel
theorem dX9_chain_83 : decode cX9_chain 83 = .ok (.getfield 50, 3) := by decide +kernel
theorem dX9_chain_86 : decode cX9_chain 86 = .ok (.iload 4, 2) := by decide +kernel
theorem dX9_chain_88 : decode cX9_chain 88 = .ok (.iaload, 1) := by decide +kernel
theorem dX9_chain_89 : decode cX9_chain 89 = .ok (.iconst 1, 1) := by decide +kernel
theorem dX9_chain_90 : decode cX9_chain 90 = .ok (.iadd, 1) := by decide +kernel
theorem dX9_chain_91 : decode cX9_chain 91 = .ok (.aload_n 0, 1) := by decide +kernel
theorem dX9_chain_92 : decode cX9_chain 92 = .ok (.getfield 50, 3) := by decide +kernel
theorem dX9_chain_95 : decode cX9_chain 95 = .ok (.iload_n 3, 1) := by decide +kernel
theorem dX9_chain_96 : decode cX9_chain 96 = .ok (.iaload, 1) := by decide +kernel
theorem dX9_chain_97 : decode cX9_chain 97 = .ok (.if_icmp .le 15, 3) := by decide +kernel
theorem dX9_chain_100 : decode cX9_chain 100 = .ok (.aload_n 0, 1) := by decide +kernel
theorem dX9_chain_101 : decode cX9_chain 101 = .ok (.getfield 50, 3) := by decide +kernel
theorem dX9_chain_104 : decode cX9_chain 104 = .ok (.iload 4, 2) := by decide +kernel
theorem dX9_chain_106 : decode cX9_chain 106 = .ok (.iaload, 1) := by decide +kernel
theorem dX9_chain_107 : decode cX9_chain 107 = .ok (.iconst 1, 1) := by decide +kernel
theorem dX9_chain_108 : decode cX9_chain 108 = .ok (.iadd, 1) := by decide +kernel
theorem dX9_chain_109 : decode cX9_chain 109 = .ok (.goto 9, 3) := by decide +kernel
theorem dX9_chain_112 : decode cX9_chain 112 = .ok (.aload_n 0, 1) := by decide +kernel
theorem dX9_chain_113 : decode cX9_chain 113 = .ok (.getfield 50, 3) := by decide +kernel
theorem dX9_chain_116 : decode cX9_chain 116 = .ok (.iload_n 3, 1) := by decide +kernel
theorem dX9_chain_117 : decode cX9_chain 117 = .ok (.iaload, 1) := by decide +kernel
theorem dX9_chain_118 : decode cX9_chain 118 = .ok (.iastore, 1) := by decide +kernel
theorem dX9_chain_119 : decode cX9_chain 119 = .ok (.iinc 4 1, 3) := by decide +kernel
theorem dX9_chain_122 : decode cX9_chain 122 = .ok (.goto (-70), 3) := by decide +kernel
theorem dX9_chain_125 : decode cX9_chain 125 = .ok (.aload_n 0, 1) := by decide +kernel
theorem dX9_chain_126 : decode cX9_chain 126 = .ok (.getfield 50, 3) := by decide +kernel
theorem dX9_chain_129 : decode cX9_chain 129 = .ok (.iload_n 3, 1) := by decide +kernel
theorem dX9_chain_130 : decode cX9_chain 130 = .ok (.iaload, 1) := by decide +kernel
theorem dX9_chain_131 : decode cX9_chain 131 = .ok (.iload_n 1, 1) := by decide +kernel
theorem dX9_chain_132 : decode cX9_chain 132 = .ok (.if_icmp .le 12, 3) := by decide +kernel
theorem dX9_chain_135 : decode cX9_chain 135 = .ok (.aload_n 0, 1) := by decide +kernel
theorem dX9_chain_136 : decode cX9_chain 136 = .ok (.getfield 50, 3) := by decide +kernel
theorem dX9_chain_139 : decode cX9_chain 139 = .ok (.iload_n 3, 1) := by decide +kernel
theorem dX9_chain_140 : decode cX9_chain 140 = .ok (.iaload, 1) := by decide +kernel
theorem dX9_chain_141 : decode cX9_chain 141 = .ok (.goto 4, 3) := by decide +kernel
theorem dX9_chain_144 : decode cX9_chain 144 = .ok (.iload_n 1, 1) := by decide +kernel
theorem dX9_chain_145 : decode cX9_chain 145 = .ok (.istore_n 1, 1) := by decide +kernel
theorem dX9_chain_146 : decode cX9_chain 146 = .ok (.iinc 2 (-1), 3) := by decide +kernel
theorem dX9_chain_149 : decode cX9_chain 149 = .ok (.goto (-117), 3) := by decide +kernel
theorem dX9_chain_152 : decode cX9_chain 152 = .ok (.iload_n 1, 1) := by decide +kernel
theorem dX9_chain_153 : decode cX9_chain 153 = .ok (.ireturn, 1) := by decide +kernel
set_option maxRecDepth 20000 in
theorem ggX9_isSpare_X9_has : GoodIn wsX9_isSpare wsX9_has := goodIn_r _ [6] (by decide +kernel) (by decide +kernel)
set_option maxRecDepth 20000 in
theorem gX9_isSpare_X9_has : GoodIn wsX9_isSpare (va_wsS RX9 119 yX9_has wsX9_has) := goodIn_app (goodIn_of _ (by decide +kernel)) ggX9_isSpare_X9_has
set_option maxRecDepth 20000 in
theorem ggX9_isSpare_X9_behind : GoodIn wsX9_isSpare wsX9_behind := goodIn_r _ [10, 2, 1, 3, 4, 5, 6, 11, 12, 13, 14, 15, 16, 17, 18, 19, 20, 21, 22, 23, 24, 25, 26, 27, 28, 29, 30, 31, 32, 33, 34, 35, 36, 37, 38, 39, 40, 41, 42, 43, 44, 45, 46] (by decide +kernel) (by decide +kernel)
set_option maxRecDepth 20000 in
theorem gX9_isSpare_X9_behind : GoodIn wsX9_isSpare (wsV RX9 185 RX9 yX9_behind wsX9_behind) := goodIn_app (goodIn_of _ (by decide +kernel)) ggX9_isSpare_X9_behind
theorem dX9_isSpare_0 : decode cX9_isSpare 0 = .ok (.iconst 0, 1) := by decide +kernel
theorem dX9_isSpare_1 : decode cX9_isSpare 1 = .ok (.istore_n 3, 1) := by decide +kernel
theorem dX9_isSpare_2 : decode cX9_isSpare 2 = .ok (.iconst 0, 1) := by decide +kernel
theorem dX9_isSpare_3 : decode cX9_isSpare 3 = .ok (.istore 4, 2) := by decide +kernel
theorem dX9_isSpare_5 : decode cX9_isSpare 5 = .ok (.iload 4, 2) := by decide +kernel
theorem dX9_isSpare_7 : decode cX9_isSpare 7 = .ok (.aload_n 0, 1) := by decide +kernel
theorem dX9_isSpare_8 : decode cX9_isSpare 8 = .ok (.getfield 145, 3) := by decide +kernel
theorem dX9_isSpare_11 : decode cX9_isSpare 11 = .ok (.if_icmp .ge 54, 3) := by decide +kernel
theorem dX9_isSpare_14 : decode cX9_isSpare 14 = .ok (.iload_n 3, 1) := by decide +kernel
theorem dX9_isSpare_15 : decode cX9_isSpare 15 = .ok (.ifCond .ne 38, 3) := by decide +kernel
theorem dX9_isSpare_18 : decode cX9_isSpare 18 = .ok (.iload 4, 2) := by decide +kernel
theorem dX9_isSpare_20 : decode cX9_isSpare 20 = .ok (.iload_n 2, 1) := by decide +kernel
theorem dX9_isSpare_21 : decode cX9_isSpare 21 = .ok (.if_icmp .eq 36, 3) := by decide +kernel
theorem dX9_isSpare_24 : decode cX9_isSpare 24 = .ok (.aload_n 0, 1) := by decide +kernel
theorem dX9_isSpare_25 : decode cX9_isSpare 25 = .ok (.getfield 16, 3) := by decide +kernel
theorem dX9_isSpare_28 : decode cX9_isSpare 28 = .ok (.iconst 0, 1) := by decide +kernel
theorem dX9_isSpare_29 : decode cX9_isSpare 29 = .ok (.iload_n 1, 1) := by decide +kernel
theorem dX9_isSpare_30 : decode cX9_isSpare 30 = .ok (.iadd, 1) := by decide +kernel
theorem dX9_isSpare_31 : decode cX9_isSpare 31 = .ok (.iaload, 1) := by decide +kernel
theorem dX9_isSpare_32 : decode cX9_isSpare 32 = .ok (.iload 4, 2) := by decide +kernel
theorem dX9_isSpare_34 : decode cX9_isSpare 34 = .ok (.invokestatic 119, 3) := by decide +kernel
theorem dX9_isSpare_37 : decode cX9_isSpare 37 = .ok (.ifCond .eq 20, 3) := by decide +kernel
theorem dX9_isSpare_40 : decode cX9_isSpare 40 = .ok (.aload_n 0, 1) := by decide +kernel
theorem dX9_isSpare_41 : decode cX9_isSpare 41 = .ok (.iload 4, 2) := by decide +kernel
theorem dX9_isSpare_43 : decode cX9_isSpare 43 = .ok (.invokevirtual 185, 3) := by decide +kernel
theorem dX9_isSpare_46 : decode cX9_isSpare 46 = .ok (.iload_n 2, 1) := by decide +kernel
theorem dX9_isSpare_47 : decode cX9_isSpare 47 = .ok (.invokestatic 119, 3) := by decide +kernel
theorem dX9_isSpare_50 : decode cX9_isSpare 50 = .ok (.ifCond .eq 7, 3) := by decide +kernel
theorem dX9_isSpare_53 : decode cX9_isSpare 53 = .ok (.iconst 1, 1) := by decide +kernel
theorem dX9_isSpare_54 : decode cX9_isSpare 54 = .ok (.goto 4, 3) := by decide +kernel
theorem dX9_isSpare_57 : decode cX9_isSpare 57 = .ok (.iconst 0, 1) := by decide +kernel
theorem dX9_isSpare_58 : decode cX9_isSpare 58 = .ok (.istore_n 3, 1) := by decide +kernel
theorem dX9_isSpare_59 : decode cX9_isSpare 59 = .ok (.iinc 4 1, 3) := by decide +kernel
theorem dX9_isSpare_62 : decode cX9_isSpare 62 = .ok (.goto (-57), 3) := by decide +kernel
theorem dX9_isSpare_65 : decode cX9_isSpare 65 = .ok (.iload_n 3, 1) := by decide +kernel
theorem dX9_isSpare_66 : decode cX9_isSpare 66 = .ok (.ireturn, 1) := by decide +kernel
set_option maxRecDepth 20000 in
theorem ggX9_spares_X9_has : GoodIn wsX9_spares wsX9_has := goodIn_r _ [6] (by decide +kernel) (by decide +kernel)
set_option maxRecDepth 20000 in
theorem gX9_spares_X9_has : GoodIn wsX9_spares (va_wsS RX9 119 yX9_has wsX9_has) := goodIn_app (goodIn_of _ (by decide +kernel)) ggX9_spares_X9_has
set_option maxRecDepth 20000 in
theorem ggX9_spares_X9_isSpare : GoodIn wsX9_spares wsX9_isSpare := goodIn_r _ [10, 1, 2, 3, 4, 5, 6, 11, 12, 13, 14, 15, 16, 17, 18, 19, 20, 21, 22, 23, 24, 25, 26, 27, 28, 29, 30, 31, 32, 33, 34, 35, 36, 37, 38, 39, 40, 41, 42, 43, 44, 45, 46, 47, 48, 49, 50] (by decide +kernel) (by decide +kernel)
set_option maxRecDepth 20000 in
theorem gX9_spares_X9_isSpare : GoodIn wsX9_spares (wsV RX9 201 RX9 yX9_isSpare wsX9_isSpare) := goodIn_app (goodIn_of _ (by decide +kernel)) ggX9_spares_X9_isSpare
theorem dX9_spares_0 : decode cX9_spares 0 = .ok (.iconst 0, 1) := by decide +kernel
theorem dX9_spares_1 : decode cX9_spares 1 = .ok (.istore_n 1, 1) := by decide +kernel
theorem dX9_spares_2 : decode cX9_spares 2 = .ok (.iconst 0, 1) := by decide +kernel
theorem dX9_spares_3 : decode cX9_spares 3 = .ok (.istore_n 2, 1) := by decide +kernel
theorem dX9_spares_4 : decode cX9_spares 4 = .ok (.iload_n 2, 1) := by decide +kernel
theorem dX9_spares_5 : decode cX9_spares 5 = .ok (.aload_n 0, 1) := by decide +kernel
theorem dX9_spares_6 : decode cX9_spares 6 = .ok (.getfield 145, 3) := by decide +kernel
theorem dX9_spares_9 : decode cX9_spares 9 = .ok (.if_icmp .ge 57, 3) := by decide +kernel
theorem dX9_spares_12 : decode cX9_spares 12 = .ok (.iconst 0, 1) := by decide +kernel
theorem dX9_spares_13 : decode cX9_spares 13 = .ok (.istore_n 3, 1) := by decide +kernel
theorem dX9_spares_14 : decode cX9_spares 14 = .ok (.iload_n 3, 1) := by decide +kernel
theorem dX9_spares_15 : decode cX9_spares 15 = .ok (.aload_n 0, 1) := by decide +kernel
theorem dX9_spares_16 : decode cX9_spares 16 = .ok (.getfield 145, 3) := by decide +kernel
theorem dX9_spares_19 : decode cX9_spares 19 = .ok (.if_icmp .ge 41, 3) := by decide +kernel
theorem dX9_spares_22 : decode cX9_spares 22 = .ok (.iload_n 1, 1) := by decide +kernel
theorem dX9_spares_23 : decode cX9_spares 23 = .ok (.aload_n 0, 1) := by decide +kernel
theorem dX9_spares_24 : decode cX9_spares 24 = .ok (.getfield 16, 3) := by decide +kernel
theorem dX9_spares_27 : decode cX9_spares 27 = .ok (.iconst 0, 1) := by decide +kernel
theorem dX9_spares_28 : decode cX9_spares 28 = .ok (.iload_n 2, 1) := by decide +kernel
theorem dX9_spares_29 : decode cX9_spares 29 = .ok (.iadd, 1) := by decide +kernel
theorem dX9_spares_30 : decode cX9_spares 30 = .ok (.iaload, 1) := by decide +kernel
theorem dX9_spares_31 : decode cX9_spares 31 = .ok (.iload_n 3, 1) := by decide +kernel
theorem dX9_spares_32 : decode cX9_spares 32 = .ok (.invokestatic 119, 3) := by decide +kernel
theorem dX9_spares_35 : decode cX9_spares 35 = .ok (.ifCond .eq 16, 3) := by decide +kernel
theorem dX9_spares_38 : decode cX9_spares 38 = .ok (.aload_n 0, 1) := by decide +kernel
theorem dX9_spares_39 : decode cX9_spares 39 = .ok (.iload_n 2, 1) := by decide +kernel
theorem dX9_spares_40 : decode cX9_spares 40 = .ok (.iload_n 3, 1) := by decide +kernel
theorem dX9_spares_41 : decode cX9_spares 41 = .ok (.invokevirtual 201, 3) := by decide +kernel
theorem dX9_spares_44 : decode cX9_spares 44 = .ok (.ifCond .eq 7, 3) := by decide +kernel
theorem dX9_spares_47 : decode cX9_spares 47 = .ok (.iconst 1, 1) := by decide +kernel
theorem dX9_spares_48 : decode cX9_spares 48 = .ok (.goto 4, 3) := by decide +kernel
theorem dX9_spares_51 : decode cX9_spares 51 = .ok (.iconst 0, 1) := by decide +kernel
theorem dX9_spares_52 : decode cX9_spares 52 = .ok (.iadd, 1) := by decide +kernel
theorem dX9_spares_53 : decode cX9_spares 53 = .ok (.istore_n 1, 1) := by decide +kernel
theorem dX9_spares_54 : decode cX9_spares 54 = .ok (.iinc 3 1, 3) := by decide +kernel
theorem dX9_spares_57 : decode cX9_spares 57 = .ok (.goto (-43), 3) := by decide +kernel
theorem dX9_spares_60 : decode cX9_spares 60 = .ok (.iinc 2 1, 3) := by decide +kernel
theorem dX9_spares_63 : decode cX9_spares 63 = .ok (.goto (-59), 3) := by decide +kernel
theorem dX9_spares_66 : decode cX9_spares 66 = .ok (.iload_n 1, 1) := by decide +kernel
theorem dX9_spares_67 : decode cX9_spares 67 = .ok (.ireturn, 1) := by decide +kernel
set_option maxRecDepth 20000 in
theorem ggX9_now_X9_in : GoodIn wsX9_now wsX9_in := goodIn_r _ [6] (by decide +kernel) (by decide +kernel)
set_option maxRecDepth 20000 in
theorem gX9_now_X9_in : GoodIn wsX9_now (va_wsS RX9 79 yX9_in wsX9_in) := goodIn_app (goodIn_of _ (by decide +kernel)) ggX9_now_X9_in
set_option maxRecDepth 20000 in
theorem ggX9_now_X9_arcs : GoodIn wsX9_now wsX9_arcs := goodIn_r _ [10, 11, 12, 13, 14, 5, 15, 72, 73, 74, 75, 76, 77, 78, 79, 80, 81, 82, 83, 84, 85, 86, 87, 88, 89, 90, 91, 92, 93, 94, 95, 96, 97, 98, 99, 100, 101, 102, 103, 104, 105, 106, 107] (by decide +kernel) (by decide +kernel)
set_option maxRecDepth 20000 in
theorem gX9_now_X9_arcs : GoodIn wsX9_now (wsV RX9 204 RX9 yX9_arcs wsX9_arcs) := goodIn_app (goodIn_of _ (by decide +kernel)) ggX9_now_X9_arcs
set_option maxRecDepth 20000 in
theorem ggX9_now_X9_free : GoodIn wsX9_now wsX9_free := goodIn_r _ [19, 11, 12, 20, 21, 5, 22, 72, 73, 74, 75, 76, 77, 78, 79, 80, 81, 82, 83, 84, 85, 86, 87, 88, 89, 90, 91, 92, 93, 94, 95, 96, 97, 98, 99, 100, 101, 102, 103, 104, 105, 106, 107] (by decide +kernel) (by decide +kernel)
set_option maxRecDepth 20000 in
theorem gX9_now_X9_free : GoodIn wsX9_now (wsV RX9 208 RX9 yX9_free wsX9_free) := goodIn_app (goodIn_of _ (by decide +kernel)) ggX9_now_X9_free
set_option maxRecDepth 20000 in
theorem ggX9_now_X9_most : GoodIn wsX9_now wsX9_most := goodIn_r _ [26, 11, 12, 27, 20, 21, 5, 22, 28, 29, 30, 31, 32, 33, 34, 35, 36, 37, 38, 3, 4, 6, 39, 40, 41, 42, 43, 44, 45, 46, 47, 48, 49, 50, 51, 52, 53, 54, 13, 14, 15, 72, 73, 74, 75, 76, 77, 78, 79, 80, 81, 82, 83, 84, 85, 86, 87, 88, 89, 90, 91, 92, 93, 94, 95, 96, 97, 98, 99, 100, 101, 102, 103, 104, 105, 106, 107] (by decide +kernel) (by decide +kernel)
set_option maxRecDepth 20000 in
theorem gX9_now_X9_most : GoodIn wsX9_now (wsV RX9 211 RX9 yX9_most wsX9_most) := goodIn_app (goodIn_of _ (by decide +kernel)) ggX9_now_X9_most
set_option maxRecDepth 20000 in
theorem ggX9_now_X9_chain : GoodIn wsX9_now wsX9_chain := goodIn_r _ [58, 11, 59, 12, 48, 49, 5, 50, 20, 21, 22, 72, 73, 74, 75, 76, 77, 78, 79, 80, 81, 82, 83, 84, 85, 86, 87, 88, 89, 90, 91, 92, 93, 94, 95, 96, 97, 98, 99, 100, 101, 102, 103, 104, 105, 106, 107] (by decide +kernel) (by decide +kernel)
set_option maxRecDepth 20000 in
theorem gX9_now_X9_chain : GoodIn wsX9_now (wsV RX9 214 RX9 yX9_chain wsX9_chain) := goodIn_app (goodIn_of _ (by decide +kernel)) ggX9_now_X9_chain
set_option maxRecDepth 20000 in
theorem ggX9_now_X9_spares : GoodIn wsX9_now wsX9_spares := goodIn_r _ [63, 11, 12, 20, 21, 5, 22, 64, 65, 66, 67, 68, 69, 70, 71, 72, 73, 74, 75, 76, 77, 78, 79, 80, 81, 82, 83, 84, 85, 86, 87, 88, 89, 90, 91, 92, 93, 94, 95, 96, 97, 98, 99, 100, 101, 102, 103, 104, 105, 106, 107] (by decide +kernel) (by decide +kernel)
set_option maxRecDepth 20000 in
theorem gX9_now_X9_spares : GoodIn wsX9_now (wsV RX9 217 RX9 yX9_spares wsX9_spares) := goodIn_app (goodIn_of _ (by decide +kernel)) ggX9_now_X9_spares
theorem dX9_now_0 : decode cX9_now 0 = .ok (.aload_n 0, 1) := by decide +kernel
theorem dX9_now_1 : decode cX9_now 1 = .ok (.iconst 0, 1) := by decide +kernel
theorem dX9_now_2 : decode cX9_now 2 = .ok (.putfield 75, 3) := by decide +kernel
theorem dX9_now_5 : decode cX9_now 5 = .ok (.iload_n 1, 1) := by decide +kernel
theorem dX9_now_6 : decode cX9_now 6 = .ok (.iconst 0, 1) := by decide +kernel
theorem dX9_now_7 : decode cX9_now 7 = .ok (.iconst 5, 1) := by decide +kernel
theorem dX9_now_8 : decode cX9_now 8 = .ok (.invokestatic 79, 3) := by decide +kernel
theorem dX9_now_11 : decode cX9_now 11 = .ok (.ifCond .ne 5, 3) := by decide +kernel
theorem dX9_now_14 : decode cX9_now 14 = .ok (.iconst (-1), 1) := by decide +kernel
theorem dX9_now_15 : decode cX9_now 15 = .ok (.ireturn, 1) := by decide +kernel
theorem dX9_now_16 : decode cX9_now 16 = .ok (.iload_n 1, 1) := by decide +kernel
theorem dX9_now_17 : decode cX9_now 17 = .ok (.iconst 3, 1) := by decide +kernel
theorem dX9_now_18 : decode cX9_now 18 = .ok (.if_icmp .ge 31, 3) := by decide +kernel
theorem dX9_now_21 : decode cX9_now 21 = .ok (.iload_n 1, 1) := by decide +kernel
theorem dX9_now_22 : decode cX9_now 22 = .ok (.ifCond .ne 10, 3) := by decide +kernel
theorem dX9_now_25 : decode cX9_now 25 = .ok (.aload_n 0, 1) := by decide +kernel
theorem dX9_now_26 : decode cX9_now 26 = .ok (.invokevirtual 204, 3) := by decide +kernel
theorem dX9_now_29 : decode cX9_now 29 = .ok (.goto 19, 3) := by decide +kernel
theorem dX9_now_32 : decode cX9_now 32 = .ok (.iload_n 1, 1) := by decide +kernel
theorem dX9_now_33 : decode cX9_now 33 = .ok (.iconst 1, 1) := by decide +kernel
theorem dX9_now_34 : decode cX9_now 34 = .ok (.if_icmp .ne 10, 3) := by decide +kernel
theorem dX9_now_37 : decode cX9_now 37 = .ok (.aload_n 0, 1) := by decide +kernel
theorem dX9_now_38 : decode cX9_now 38 = .ok (.invokevirtual 208, 3) := by decide +kernel
theorem dX9_now_41 : decode cX9_now 41 = .ok (.goto 7, 3) := by decide +kernel
theorem dX9_now_44 : decode cX9_now 44 = .ok (.aload_n 0, 1) := by decide +kernel
theorem dX9_now_45 : decode cX9_now 45 = .ok (.invokevirtual 211, 3) := by decide +kernel
theorem dX9_now_48 : decode cX9_now 48 = .ok (.ireturn, 1) := by decide +kernel
theorem dX9_now_49 : decode cX9_now 49 = .ok (.iload_n 1, 1) := by decide +kernel
theorem dX9_now_50 : decode cX9_now 50 = .ok (.iconst 3, 1) := by decide +kernel
theorem dX9_now_51 : decode cX9_now 51 = .ok (.if_icmp .ne 10, 3) := by decide +kernel
theorem dX9_now_54 : decode cX9_now 54 = .ok (.aload_n 0, 1) := by decide +kernel
theorem dX9_now_55 : decode cX9_now 55 = .ok (.invokevirtual 214, 3) := by decide +kernel
theorem dX9_now_58 : decode cX9_now 58 = .ok (.goto 19, 3) := by decide +kernel
theorem dX9_now_61 : decode cX9_now 61 = .ok (.iload_n 1, 1) := by decide +kernel
theorem dX9_now_62 : decode cX9_now 62 = .ok (.iconst 4, 1) := by decide +kernel
theorem dX9_now_63 : decode cX9_now 63 = .ok (.if_icmp .ne 10, 3) := by decide +kernel
theorem dX9_now_66 : decode cX9_now 66 = .ok (.aload_n 0, 1) := by decide +kernel
theorem dX9_now_67 : decode cX9_now 67 = .ok (.invokevirtual 217, 3) := by decide +kernel
theorem dX9_now_70 : decode cX9_now 70 = .ok (.goto 7, 3) := by decide +kernel
theorem dX9_now_73 : decode cX9_now 73 = .ok (.aload_n 0, 1) := by decide +kernel
theorem dX9_now_74 : decode cX9_now 74 = .ok (.getfield 158, 3) := by decide +kernel
theorem dX9_now_77 : decode cX9_now 77 = .ok (.ireturn, 1) := by decide +kernel
theorem dX9_notes_0 : decode cX9_notes 0 = .ok (.aload_n 0, 1) := by decide +kernel
theorem dX9_notes_1 : decode cX9_notes 1 = .ok (.getfield 158, 3) := by decide +kernel
theorem dX9_notes_4 : decode cX9_notes 4 = .ok (.bipush 10, 2) := by decide +kernel
theorem dX9_notes_6 : decode cX9_notes 6 = .ok (.if_icmp .ne 39, 3) := by decide +kernel
theorem dX9_notes_9 : decode cX9_notes 9 = .ok (.iconst 0, 1) := by decide +kernel
theorem dX9_notes_10 : decode cX9_notes 10 = .ok (.istore_n 1, 1) := by decide +kernel
theorem dX9_notes_11 : decode cX9_notes 11 = .ok (.iload_n 1, 1) := by decide +kernel
theorem dX9_notes_12 : decode cX9_notes 12 = .ok (.sipush 216, 3) := by decide +kernel
theorem dX9_notes_15 : decode cX9_notes 15 = .ok (.if_icmp .ge 24, 3) := by decide +kernel
theorem dX9_notes_18 : decode cX9_notes 18 = .ok (.aload_n 0, 1) := by decide +kernel
theorem dX9_notes_19 : decode cX9_notes 19 = .ok (.getfield 32, 3) := by decide +kernel
theorem dX9_notes_22 : decode cX9_notes 22 = .ok (.iload_n 1, 1) := by decide +kernel
theorem dX9_notes_23 : decode cX9_notes 23 = .ok (.aload_n 0, 1) := by decide +kernel
theorem dX9_notes_24 : decode cX9_notes 24 = .ok (.getfield 32, 3) := by decide +kernel
theorem dX9_notes_27 : decode cX9_notes 27 = .ok (.iload_n 1, 1) := by decide +kernel
theorem dX9_notes_28 : decode cX9_notes 28 = .ok (.bipush 24, 2) := by decide +kernel
theorem dX9_notes_30 : decode cX9_notes 30 = .ok (.iadd, 1) := by decide +kernel
theorem dX9_notes_31 : decode cX9_notes 31 = .ok (.iaload, 1) := by decide +kernel
theorem dX9_notes_32 : decode cX9_notes 32 = .ok (.iastore, 1) := by decide +kernel
theorem dX9_notes_33 : decode cX9_notes 33 = .ok (.iinc 1 1, 3) := by decide +kernel
theorem dX9_notes_36 : decode cX9_notes 36 = .ok (.goto (-25), 3) := by decide +kernel
theorem dX9_notes_39 : decode cX9_notes 39 = .ok (.aload_n 0, 1) := by decide +kernel
theorem dX9_notes_40 : decode cX9_notes 40 = .ok (.bipush 9, 2) := by decide +kernel
theorem dX9_notes_42 : decode cX9_notes 42 = .ok (.putfield 158, 3) := by decide +kernel
theorem dX9_notes_45 : decode cX9_notes 45 = .ok (.iconst 0, 1) := by decide +kernel
theorem dX9_notes_46 : decode cX9_notes 46 = .ok (.istore_n 1, 1) := by decide +kernel
theorem dX9_notes_47 : decode cX9_notes 47 = .ok (.iload_n 1, 1) := by decide +kernel
theorem dX9_notes_48 : decode cX9_notes 48 = .ok (.bipush 24, 2) := by decide +kernel
theorem dX9_notes_50 : decode cX9_notes 50 = .ok (.if_icmp .ge 29, 3) := by decide +kernel
theorem dX9_notes_53 : decode cX9_notes 53 = .ok (.aload_n 0, 1) := by decide +kernel
theorem dX9_notes_54 : decode cX9_notes 54 = .ok (.getfield 32, 3) := by decide +kernel
theorem dX9_notes_57 : decode cX9_notes 57 = .ok (.bipush 24, 2) := by decide +kernel
theorem dX9_notes_59 : decode cX9_notes 59 = .ok (.aload_n 0, 1) := by decide +kernel
theorem dX9_notes_60 : decode cX9_notes 60 = .ok (.getfield 158, 3) := by decide +kernel
theorem dX9_notes_63 : decode cX9_notes 63 = .ok (.imul, 1) := by decide +kernel
theorem dX9_notes_64 : decode cX9_notes 64 = .ok (.iload_n 1, 1) := by decide +kernel
theorem dX9_notes_65 : decode cX9_notes 65 = .ok (.iadd, 1) := by decide +kernel
theorem dX9_notes_66 : decode cX9_notes 66 = .ok (.aload_n 0, 1) := by decide +kernel
theorem dX9_notes_67 : decode cX9_notes 67 = .ok (.getfield 16, 3) := by decide +kernel
theorem dX9_notes_70 : decode cX9_notes 70 = .ok (.iload_n 1, 1) := by decide +kernel
theorem dX9_notes_71 : decode cX9_notes 71 = .ok (.iaload, 1) := by decide +kernel
theorem dX9_notes_72 : decode cX9_notes 72 = .ok (.iastore, 1) := by decide +kernel
theorem dX9_notes_73 : decode cX9_notes 73 = .ok (.iinc 1 1, 3) := by decide +kernel
theorem dX9_notes_76 : decode cX9_notes 76 = .ok (.goto (-29), 3) := by decide +kernel
theorem dX9_notes_79 : decode cX9_notes 79 = .ok (.aload_n 0, 1) := by decide +kernel
theorem dX9_notes_80 : decode cX9_notes 80 = .ok (.dup, 1) := by decide +kernel
theorem dX9_notes_81 : decode cX9_notes 81 = .ok (.getfield 158, 3) := by decide +kernel
theorem dX9_notes_84 : decode cX9_notes 84 = .ok (.iconst 1, 1) := by decide +kernel
theorem dX9_notes_85 : decode cX9_notes 85 = .ok (.iadd, 1) := by decide +kernel
theorem dX9_notes_86 : decode cX9_notes 86 = .ok (.putfield 158, 3) := by decide +kernel
theorem dX9_notes_89 : decode cX9_notes 89 = .ok (.return_, 1) := by decide +kernel
set_option maxRecDepth 20000 in
theorem ggX9_puts_X9_isTwo : GoodIn wsX9_puts wsX9_isTwo := goodIn_r _ [9, 10, 11, 12, 8, 13, 4, 14, 15, 16, 67, 68, 69, 70, 71, 72, 73, 74, 75, 76, 77, 78, 79, 80, 81, 82, 83, 84, 85, 86, 87, 88, 89, 90, 91, 92, 93, 94, 95, 96, 97, 98, 99, 100, 101, 102] (by decide +kernel) (by decide +kernel)
set_option maxRecDepth 20000 in
theorem gX9_puts_X9_isTwo : GoodIn wsX9_puts (wsV RX9 220 RX9 yX9_isTwo wsX9_isTwo) := goodIn_app (goodIn_of _ (by decide +kernel)) ggX9_puts_X9_isTwo
set_option maxRecDepth 20000 in
theorem ggX9_puts_X9_has : GoodIn wsX9_puts wsX9_has := goodIn_r _ [19] (by decide +kernel) (by decide +kernel)
set_option maxRecDepth 20000 in
theorem gX9_puts_X9_has : GoodIn wsX9_puts (va_wsS RX9 119 yX9_has wsX9_has) := goodIn_app (goodIn_of _ (by decide +kernel)) ggX9_puts_X9_has
set_option maxRecDepth 20000 in
theorem ggX9_puts_X9_movedBy : GoodIn wsX9_puts wsX9_movedBy := goodIn_r _ [23, 2, 4, 3, 24, 25, 26, 27, 28, 8, 29, 30, 14, 15, 16, 17, 18, 19, 31, 32, 33, 34, 35, 36, 37, 38, 39, 40, 41, 42, 43, 44, 45, 46, 67, 68, 69, 70, 71, 72, 73, 74, 75, 76, 77, 78, 79, 80, 81, 82, 83, 84, 85, 86, 87, 88, 89, 90, 91, 92, 93, 94, 95, 96, 97, 98, 99, 100, 101, 102] (by decide +kernel) (by decide +kernel)
set_option maxRecDepth 20000 in
theorem gX9_puts_X9_movedBy : GoodIn wsX9_puts (wsV RX9 197 RX9 yX9_movedBy wsX9_movedBy) := goodIn_app (goodIn_of _ (by decide +kernel)) ggX9_puts_X9_movedBy
set_option maxRecDepth 20000 in
theorem ggX9_puts_X9_rings : GoodIn wsX9_puts wsX9_rings := goodIn_r _ [50, 4, 51, 52, 53, 17, 18, 8, 19, 67, 68, 69, 70, 71, 72, 73, 74, 75, 76, 77, 78, 79, 80, 81, 82, 83, 84, 85, 86, 87, 88, 89, 90, 91, 92, 93, 94, 95, 96, 97, 98, 99, 100, 101, 102] (by decide +kernel) (by decide +kernel)
set_option maxRecDepth 20000 in
theorem gX9_puts_X9_rings : GoodIn wsX9_puts (wsV RX9 223 RX9 yX9_rings wsX9_rings) := goodIn_app (goodIn_of _ (by decide +kernel)) ggX9_puts_X9_rings
set_option maxRecDepth 20000 in
theorem ggX9_puts_X9_notes : GoodIn wsX9_puts wsX9_notes := goodIn_r _ [57, 58, 59, 2, 67, 68, 69, 70, 71, 72, 73, 74, 75, 76, 77, 78, 79, 80, 81, 82, 83, 84, 85, 86, 87, 88, 89, 90, 91, 92, 93, 94, 95, 96, 97, 98, 99, 100, 101, 102] (by decide +kernel) (by decide +kernel)
set_option maxRecDepth 20000 in
theorem gX9_puts_X9_notes : GoodIn wsX9_puts (wsV RX9 227 RX9 yX9_notes wsX9_notes) := goodIn_app (goodIn_of _ (by decide +kernel)) ggX9_puts_X9_notes
set_option maxRecDepth 20000 in
theorem ggX9_puts_X9_lays : GoodIn wsX9_puts wsX9_lays := goodIn_r _ [63, 24, 26, 27, 28, 8, 29, 30, 3, 14, 15, 16, 17, 18, 19, 34, 35, 36, 37, 38, 39, 40, 41, 42, 67, 68, 69, 70, 71, 72, 73, 74, 75, 76, 77, 78, 79, 80, 81, 82, 83, 84, 85, 86, 87, 88, 89, 90, 91, 92, 93, 94, 95, 96, 97, 98, 99, 100, 101, 102] (by decide +kernel) (by decide +kernel)
set_option maxRecDepth 20000 in
theorem gX9_puts_X9_lays : GoodIn wsX9_puts (wsV RX9 138 RX9 yX9_lays wsX9_lays) := goodIn_app (goodIn_of _ (by decide +kernel)) ggX9_puts_X9_lays
set_option maxRecDepth 20000 in
theorem ggX9_puts_X9_ones : GoodIn wsX9_puts wsX9_ones := goodIn_r _ [66] (by decide +kernel) (by decide +kernel)
set_option maxRecDepth 20000 in
theorem gX9_puts_X9_ones : GoodIn wsX9_puts (va_wsS RX9 194 yX9_ones wsX9_ones) := goodIn_app (goodIn_of _ (by decide +kernel)) ggX9_puts_X9_ones
theorem dX9_puts_0 : decode cX9_puts 0 = .ok (.aload_n 0, 1) := by decide +kernel
theorem dX9_puts_1 : decode cX9_puts 1 = .ok (.iconst 0, 1) := by decide +kernel
theorem dX9_puts_2 : decode cX9_puts 2 = .ok (.putfield 75, 3) := by decide +kernel
theorem dX9_puts_5 : decode cX9_puts 5 = .ok (.aload_n 0, 1) := by decide +kernel
theorem dX9_puts_6 : decode cX9_puts 6 = .ok (.iload_n 1, 1) := by decide +kernel
theorem dX9_puts_7 : decode cX9_puts 7 = .ok (.iload_n 2, 1) := by decide +kernel
theorem dX9_puts_8 : decode cX9_puts 8 = .ok (.invokevirtual 220, 3) := by decide +kernel
theorem dX9_puts_11 : decode cX9_puts 11 = .ok (.ifCond .ne 5, 3) := by decide +kernel
theorem dX9_puts_14 : decode cX9_puts 14 = .ok (.iconst (-1), 1) := by decide +kernel
theorem dX9_puts_15 : decode cX9_puts 15 = .ok (.ireturn, 1) := by decide +kernel
theorem dX9_puts_16 : decode cX9_puts 16 = .ok (.aload_n 0, 1) := by decide +kernel
theorem dX9_puts_17 : decode cX9_puts 17 = .ok (.getfield 16, 3) := by decide +kernel
theorem dX9_puts_20 : decode cX9_puts 20 = .ok (.iconst 0, 1) := by decide +kernel
theorem dX9_puts_21 : decode cX9_puts 21 = .ok (.iload_n 1, 1) := by decide +kernel
theorem dX9_puts_22 : decode cX9_puts 22 = .ok (.iadd, 1) := by decide +kernel
theorem dX9_puts_23 : decode cX9_puts 23 = .ok (.iaload, 1) := by decide +kernel
theorem dX9_puts_24 : decode cX9_puts 24 = .ok (.iload_n 2, 1) := by decide +kernel
theorem dX9_puts_25 : decode cX9_puts 25 = .ok (.invokestatic 119, 3) := by decide +kernel
theorem dX9_puts_28 : decode cX9_puts 28 = .ok (.ifCond .eq 6, 3) := by decide +kernel
theorem dX9_puts_31 : decode cX9_puts 31 = .ok (.bipush (-2), 2) := by decide +kernel
theorem dX9_puts_33 : decode cX9_puts 33 = .ok (.ireturn, 1) := by decide +kernel
theorem dX9_puts_34 : decode cX9_puts 34 = .ok (.aload_n 0, 1) := by decide +kernel
theorem dX9_puts_35 : decode cX9_puts 35 = .ok (.iload_n 1, 1) := by decide +kernel
theorem dX9_puts_36 : decode cX9_puts 36 = .ok (.iload_n 2, 1) := by decide +kernel
theorem dX9_puts_37 : decode cX9_puts 37 = .ok (.invokevirtual 197, 3) := by decide +kernel
theorem dX9_puts_40 : decode cX9_puts 40 = .ok (.istore_n 3, 1) := by decide +kernel
theorem dX9_puts_41 : decode cX9_puts 41 = .ok (.aload_n 0, 1) := by decide +kernel
theorem dX9_puts_42 : decode cX9_puts 42 = .ok (.getfield 126, 3) := by decide +kernel
theorem dX9_puts_45 : decode cX9_puts 45 = .ok (.ifCond .eq 16, 3) := by decide +kernel
theorem dX9_puts_48 : decode cX9_puts 48 = .ok (.aload_n 0, 1) := by decide +kernel
theorem dX9_puts_49 : decode cX9_puts 49 = .ok (.aload_n 0, 1) := by decide +kernel
theorem dX9_puts_50 : decode cX9_puts 50 = .ok (.getfield 16, 3) := by decide +kernel
theorem dX9_puts_53 : decode cX9_puts 53 = .ok (.iload_n 2, 1) := by decide +kernel
theorem dX9_puts_54 : decode cX9_puts 54 = .ok (.iload_n 1, 1) := by decide +kernel
theorem dX9_puts_55 : decode cX9_puts 55 = .ok (.invokevirtual 223, 3) := by decide +kernel
theorem dX9_puts_58 : decode cX9_puts 58 = .ok (.bipush (-4), 2) := by decide +kernel
theorem dX9_puts_60 : decode cX9_puts 60 = .ok (.ireturn, 1) := by decide +kernel
theorem dX9_puts_61 : decode cX9_puts 61 = .ok (.aload_n 0, 1) := by decide +kernel
theorem dX9_puts_62 : decode cX9_puts 62 = .ok (.invokevirtual 227, 3) := by decide +kernel
theorem dX9_puts_65 : decode cX9_puts 65 = .ok (.aload_n 0, 1) := by decide +kernel
theorem dX9_puts_66 : decode cX9_puts 66 = .ok (.aload_n 0, 1) := by decide +kernel
theorem dX9_puts_67 : decode cX9_puts 67 = .ok (.getfield 16, 3) := by decide +kernel
theorem dX9_puts_70 : decode cX9_puts 70 = .ok (.aload_n 0, 1) := by decide +kernel
theorem dX9_puts_71 : decode cX9_puts 71 = .ok (.getfield 145, 3) := by decide +kernel
theorem dX9_puts_74 : decode cX9_puts 74 = .ok (.iload_n 1, 1) := by decide +kernel
theorem dX9_puts_75 : decode cX9_puts 75 = .ok (.iload_n 2, 1) := by decide +kernel
theorem dX9_puts_76 : decode cX9_puts 76 = .ok (.invokevirtual 138, 3) := by decide +kernel
theorem dX9_puts_79 : decode cX9_puts 79 = .ok (.iload_n 3, 1) := by decide +kernel
theorem dX9_puts_80 : decode cX9_puts 80 = .ok (.invokestatic 194, 3) := by decide +kernel
theorem dX9_puts_83 : decode cX9_puts 83 = .ok (.ireturn, 1) := by decide +kernel
set_option maxRecDepth 20000 in
theorem ggX9_lists_X9_isTwo : GoodIn wsX9_lists wsX9_isTwo := goodIn_r _ [10, 11, 12, 13, 9, 14, 15, 16, 17, 18, 22, 23, 24, 25, 26, 27, 28, 29, 30, 31, 32, 33, 34, 35, 36, 37, 38, 39, 40, 41, 42, 43, 44, 45, 46, 47, 48, 49, 50, 51, 52, 53, 54, 55, 56, 57] (by decide +kernel) (by decide +kernel)
set_option maxRecDepth 20000 in
theorem gX9_lists_X9_isTwo : GoodIn wsX9_lists (wsV RX9 220 RX9 yX9_isTwo wsX9_isTwo) := goodIn_app (goodIn_of _ (by decide +kernel)) ggX9_lists_X9_isTwo
set_option maxRecDepth 20000 in
theorem ggX9_lists_X9_has : GoodIn wsX9_lists wsX9_has := goodIn_r _ [21] (by decide +kernel) (by decide +kernel)
set_option maxRecDepth 20000 in
theorem gX9_lists_X9_has : GoodIn wsX9_lists (va_wsS RX9 119 yX9_has wsX9_has) := goodIn_app (goodIn_of _ (by decide +kernel)) ggX9_lists_X9_has
theorem dX9_lists_0 : decode cX9_lists 0 = .ok (.aload_n 0, 1) := by decide +kernel
theorem dX9_lists_1 : decode cX9_lists 1 = .ok (.iconst 0, 1) := by decide +kernel
theorem dX9_lists_2 : decode cX9_lists 2 = .ok (.putfield 75, 3) := by decide +kernel
theorem dX9_lists_5 : decode cX9_lists 5 = .ok (.aload_n 0, 1) := by decide +kernel
theorem dX9_lists_6 : decode cX9_lists 6 = .ok (.iload_n 1, 1) := by decide +kernel
theorem dX9_lists_7 : decode cX9_lists 7 = .ok (.iload_n 2, 1) := by decide +kernel
theorem dX9_lists_8 : decode cX9_lists 8 = .ok (.invokevirtual 220, 3) := by decide +kernel
theorem dX9_lists_11 : decode cX9_lists 11 = .ok (.ifCond .ne 5, 3) := by decide +kernel
theorem dX9_lists_14 : decode cX9_lists 14 = .ok (.iconst (-1), 1) := by decide +kernel
theorem dX9_lists_15 : decode cX9_lists 15 = .ok (.ireturn, 1) := by decide +kernel
theorem dX9_lists_16 : decode cX9_lists 16 = .ok (.aload_n 0, 1) := by decide +kernel
theorem dX9_lists_17 : decode cX9_lists 17 = .ok (.getfield 16, 3) := by decide +kernel
theorem dX9_lists_20 : decode cX9_lists 20 = .ok (.iconst 0, 1) := by decide +kernel
theorem dX9_lists_21 : decode cX9_lists 21 = .ok (.iload_n 1, 1) := by decide +kernel
theorem dX9_lists_22 : decode cX9_lists 22 = .ok (.iadd, 1) := by decide +kernel
theorem dX9_lists_23 : decode cX9_lists 23 = .ok (.iaload, 1) := by decide +kernel
theorem dX9_lists_24 : decode cX9_lists 24 = .ok (.iload_n 2, 1) := by decide +kernel
theorem dX9_lists_25 : decode cX9_lists 25 = .ok (.invokestatic 119, 3) := by decide +kernel
theorem dX9_lists_28 : decode cX9_lists 28 = .ok (.istore_n 3, 1) := by decide +kernel
theorem dX9_lists_29 : decode cX9_lists 29 = .ok (.iconst 0, 1) := by decide +kernel
theorem dX9_lists_30 : decode cX9_lists 30 = .ok (.istore 4, 2) := by decide +kernel
theorem dX9_lists_32 : decode cX9_lists 32 = .ok (.iload 4, 2) := by decide +kernel
theorem dX9_lists_34 : decode cX9_lists 34 = .ok (.aload_n 0, 1) := by decide +kernel
theorem dX9_lists_35 : decode cX9_lists 35 = .ok (.getfield 152, 3) := by decide +kernel
theorem dX9_lists_38 : decode cX9_lists 38 = .ok (.if_icmp .ge 41, 3) := by decide +kernel
theorem dX9_lists_41 : decode cX9_lists 41 = .ok (.iload_n 3, 1) := by decide +kernel
theorem dX9_lists_42 : decode cX9_lists 42 = .ok (.ifCond .ne 25, 3) := by decide +kernel
theorem dX9_lists_45 : decode cX9_lists 45 = .ok (.aload_n 0, 1) := by decide +kernel
theorem dX9_lists_46 : decode cX9_lists 46 = .ok (.getfield 35, 3) := by decide +kernel
theorem dX9_lists_49 : decode cX9_lists 49 = .ok (.iload 4, 2) := by decide +kernel
theorem dX9_lists_51 : decode cX9_lists 51 = .ok (.iaload, 1) := by decide +kernel
theorem dX9_lists_52 : decode cX9_lists 52 = .ok (.iload_n 1, 1) := by decide +kernel
theorem dX9_lists_53 : decode cX9_lists 53 = .ok (.if_icmp .ne 18, 3) := by decide +kernel
theorem dX9_lists_56 : decode cX9_lists 56 = .ok (.aload_n 0, 1) := by decide +kernel
theorem dX9_lists_57 : decode cX9_lists 57 = .ok (.getfield 38, 3) := by decide +kernel
theorem dX9_lists_60 : decode cX9_lists 60 = .ok (.iload 4, 2) := by decide +kernel
theorem dX9_lists_62 : decode cX9_lists 62 = .ok (.iaload, 1) := by decide +kernel
theorem dX9_lists_63 : decode cX9_lists 63 = .ok (.iload_n 2, 1) := by decide +kernel
theorem dX9_lists_64 : decode cX9_lists 64 = .ok (.if_icmp .ne 7, 3) := by decide +kernel
theorem dX9_lists_67 : decode cX9_lists 67 = .ok (.iconst 1, 1) := by decide +kernel
theorem dX9_lists_68 : decode cX9_lists 68 = .ok (.goto 4, 3) := by decide +kernel
theorem dX9_lists_71 : decode cX9_lists 71 = .ok (.iconst 0, 1) := by decide +kernel
theorem dX9_lists_72 : decode cX9_lists 72 = .ok (.istore_n 3, 1) := by decide +kernel
theorem dX9_lists_73 : decode cX9_lists 73 = .ok (.iinc 4 1, 3) := by decide +kernel
theorem dX9_lists_76 : decode cX9_lists 76 = .ok (.goto (-44), 3) := by decide +kernel
theorem dX9_lists_79 : decode cX9_lists 79 = .ok (.iload_n 3, 1) := by decide +kernel
theorem dX9_lists_80 : decode cX9_lists 80 = .ok (.ifCond .eq 6, 3) := by decide +kernel
theorem dX9_lists_83 : decode cX9_lists 83 = .ok (.bipush (-2), 2) := by decide +kernel
theorem dX9_lists_85 : decode cX9_lists 85 = .ok (.ireturn, 1) := by decide +kernel
theorem dX9_lists_86 : decode cX9_lists 86 = .ok (.aload_n 0, 1) := by decide +kernel
theorem dX9_lists_87 : decode cX9_lists 87 = .ok (.getfield 152, 3) := by decide +kernel
theorem dX9_lists_90 : decode cX9_lists 90 = .ok (.bipush 8, 2) := by decide +kernel
theorem dX9_lists_92 : decode cX9_lists 92 = .ok (.if_icmp .ne 6, 3) := by decide +kernel
theorem dX9_lists_95 : decode cX9_lists 95 = .ok (.bipush (-3), 2) := by decide +kernel
theorem dX9_lists_97 : decode cX9_lists 97 = .ok (.ireturn, 1) := by decide +kernel
theorem dX9_lists_98 : decode cX9_lists 98 = .ok (.aload_n 0, 1) := by decide +kernel
theorem dX9_lists_99 : decode cX9_lists 99 = .ok (.getfield 35, 3) := by decide +kernel
theorem dX9_lists_102 : decode cX9_lists 102 = .ok (.aload_n 0, 1) := by decide +kernel
theorem dX9_lists_103 : decode cX9_lists 103 = .ok (.getfield 152, 3) := by decide +kernel
theorem dX9_lists_106 : decode cX9_lists 106 = .ok (.iload_n 1, 1) := by decide +kernel
theorem dX9_lists_107 : decode cX9_lists 107 = .ok (.iastore, 1) := by decide +kernel
theorem dX9_lists_108 : decode cX9_lists 108 = .ok (.aload_n 0, 1) := by decide +kernel
theorem dX9_lists_109 : decode cX9_lists 109 = .ok (.getfield 38, 3) := by decide +kernel
theorem dX9_lists_112 : decode cX9_lists 112 = .ok (.aload_n 0, 1) := by decide +kernel
theorem dX9_lists_113 : decode cX9_lists 113 = .ok (.getfield 152, 3) := by decide +kernel
theorem dX9_lists_116 : decode cX9_lists 116 = .ok (.iload_n 2, 1) := by decide +kernel
theorem dX9_lists_117 : decode cX9_lists 117 = .ok (.iastore, 1) := by decide +kernel
theorem dX9_lists_118 : decode cX9_lists 118 = .ok (.aload_n 0, 1) := by decide +kernel
theorem dX9_lists_119 : decode cX9_lists 119 = .ok (.dup, 1) := by decide +kernel
theorem dX9_lists_120 : decode cX9_lists 120 = .ok (.getfield 152, 3) := by decide +kernel
theorem dX9_lists_123 : decode cX9_lists 123 = .ok (.iconst 1, 1) := by decide +kernel
theorem dX9_lists_124 : decode cX9_lists 124 = .ok (.iadd, 1) := by decide +kernel
theorem dX9_lists_125 : decode cX9_lists 125 = .ok (.putfield 152, 3) := by decide +kernel
theorem dX9_lists_128 : decode cX9_lists 128 = .ok (.aload_n 0, 1) := by decide +kernel
theorem dX9_lists_129 : decode cX9_lists 129 = .ok (.getfield 152, 3) := by decide +kernel
theorem dX9_lists_132 : decode cX9_lists 132 = .ok (.ireturn, 1) := by decide +kernel
set_option maxRecDepth 20000 in
theorem ggX9_adds_X9_has : GoodIn wsX9_adds wsX9_has := goodIn_r _ [12] (by decide +kernel) (by decide +kernel)
set_option maxRecDepth 20000 in
theorem gX9_adds_X9_has : GoodIn wsX9_adds (va_wsS RX9 119 yX9_has wsX9_has) := goodIn_app (goodIn_of _ (by decide +kernel)) ggX9_adds_X9_has
set_option maxRecDepth 20000 in
theorem ggX9_adds_X9_copies : GoodIn wsX9_adds wsX9_copies := goodIn_r _ [15] (by decide +kernel) (by decide +kernel)
set_option maxRecDepth 20000 in
theorem gX9_adds_X9_copies : GoodIn wsX9_adds (va_wsS RX9 148 yX9_copies wsX9_copies) := goodIn_app (goodIn_of _ (by decide +kernel)) ggX9_adds_X9_copies
set_option maxRecDepth 20000 in
theorem ggX9_adds_X9_looks : GoodIn wsX9_adds wsX9_looks := goodIn_r _ [19, 20, 21, 8, 22, 23, 11, 24, 9, 10, 12, 58, 59, 60, 61, 62, 63, 64, 65, 66, 67, 68, 69, 70, 71, 72, 73, 74, 75, 76, 77, 78, 79, 80, 81, 82, 83, 84, 85, 86, 87, 88, 89, 90, 91, 92, 93] (by decide +kernel) (by decide +kernel)
set_option maxRecDepth 20000 in
theorem gX9_adds_X9_looks : GoodIn wsX9_adds (wsV RX9 122 RX9 yX9_looks wsX9_looks) := goodIn_app (goodIn_of _ (by decide +kernel)) ggX9_adds_X9_looks
set_option maxRecDepth 20000 in
theorem ggX9_adds_X9_rings : GoodIn wsX9_adds wsX9_rings := goodIn_r _ [28, 7, 29, 30, 31, 9, 10, 11, 12, 58, 59, 60, 61, 62, 63, 64, 65, 66, 67, 68, 69, 70, 71, 72, 73, 74, 75, 76, 77, 78, 79, 80, 81, 82, 83, 84, 85, 86, 87, 88, 89, 90, 91, 92, 93] (by decide +kernel) (by decide +kernel)
set_option maxRecDepth 20000 in
theorem gX9_adds_X9_rings : GoodIn wsX9_adds (wsV RX9 223 RX9 yX9_rings wsX9_rings) := goodIn_app (goodIn_of _ (by decide +kernel)) ggX9_adds_X9_rings
set_option maxRecDepth 20000 in
theorem ggX9_adds_X9_lays : GoodIn wsX9_adds wsX9_lays := goodIn_r _ [35, 20, 16, 17, 18, 11, 19, 21, 8, 22, 23, 24, 9, 10, 12, 36, 37, 38, 39, 40, 41, 42, 43, 44, 58, 59, 60, 61, 62, 63, 64, 65, 66, 67, 68, 69, 70, 71, 72, 73, 74, 75, 76, 77, 78, 79, 80, 81, 82, 83, 84, 85, 86, 87, 88, 89, 90, 91, 92, 93] (by decide +kernel) (by decide +kernel)
set_option maxRecDepth 20000 in
theorem gX9_adds_X9_lays : GoodIn wsX9_adds (wsV RX9 138 RX9 yX9_lays wsX9_lays) := goodIn_app (goodIn_of _ (by decide +kernel)) ggX9_adds_X9_lays
set_option maxRecDepth 20000 in
theorem ggX9_adds_X9_notes : GoodIn wsX9_adds wsX9_notes := goodIn_r _ [48, 49, 50, 3, 58, 59, 60, 61, 62, 63, 64, 65, 66, 67, 68, 69, 70, 71, 72, 73, 74, 75, 76, 77, 78, 79, 80, 81, 82, 83, 84, 85, 86, 87, 88, 89, 90, 91, 92, 93] (by decide +kernel) (by decide +kernel)
set_option maxRecDepth 20000 in
theorem gX9_adds_X9_notes : GoodIn wsX9_adds (wsV RX9 227 RX9 yX9_notes wsX9_notes) := goodIn_app (goodIn_of _ (by decide +kernel)) ggX9_adds_X9_notes
set_option maxRecDepth 20000 in
theorem ggX9_adds_X9_moved : GoodIn wsX9_adds wsX9_moved := goodIn_r _ [54, 7, 58, 59, 60, 61, 62, 63, 64, 65, 66, 67, 68, 69, 70, 71, 72, 73, 74, 75, 76, 77, 78, 79, 80, 81, 82, 83, 84, 85, 86, 87, 88, 89, 90, 91, 92, 93] (by decide +kernel) (by decide +kernel)
set_option maxRecDepth 20000 in
theorem gX9_adds_X9_moved : GoodIn wsX9_adds (wsV RX9 178 RX9 yX9_moved wsX9_moved) := goodIn_app (goodIn_of _ (by decide +kernel)) ggX9_adds_X9_moved
set_option maxRecDepth 20000 in
theorem ggX9_adds_X9_ones : GoodIn wsX9_adds wsX9_ones := goodIn_r _ [57] (by decide +kernel) (by decide +kernel)
set_option maxRecDepth 20000 in
theorem gX9_adds_X9_ones : GoodIn wsX9_adds (va_wsS RX9 194 yX9_ones wsX9_ones) := goodIn_app (goodIn_of _ (by decide +kernel)) ggX9_adds_X9_ones
theorem dX9_adds_0 : decode cX9_adds 0 = .ok (.aload_n 0, 1) := by decide +kernel
theorem dX9_adds_1 : decode cX9_adds 1 = .ok (.iconst 0, 1) := by decide +kernel
theorem dX9_adds_2 : decode cX9_adds 2 = .ok (.putfield 75, 3) := by decide +kernel
theorem dX9_adds_5 : decode cX9_adds 5 = .ok (.aload_n 0, 1) := by decide +kernel
theorem dX9_adds_6 : decode cX9_adds 6 = .ok (.getfield 152, 3) := by decide +kernel
theorem dX9_adds_9 : decode cX9_adds 9 = .ok (.ifCond .ne 7, 3) := by decide +kernel
theorem dX9_adds_12 : decode cX9_adds 12 = .ok (.iconst 1, 1) := by decide +kernel
theorem dX9_adds_13 : decode cX9_adds 13 = .ok (.goto 4, 3) := by decide +kernel
theorem dX9_adds_16 : decode cX9_adds 16 = .ok (.iconst 0, 1) := by decide +kernel
theorem dX9_adds_17 : decode cX9_adds 17 = .ok (.istore_n 1, 1) := by decide +kernel
theorem dX9_adds_18 : decode cX9_adds 18 = .ok (.iconst 0, 1) := by decide +kernel
theorem dX9_adds_19 : decode cX9_adds 19 = .ok (.istore_n 2, 1) := by decide +kernel
theorem dX9_adds_20 : decode cX9_adds 20 = .ok (.iload_n 2, 1) := by decide +kernel
theorem dX9_adds_21 : decode cX9_adds 21 = .ok (.aload_n 0, 1) := by decide +kernel
theorem dX9_adds_22 : decode cX9_adds 22 = .ok (.getfield 152, 3) := by decide +kernel
theorem dX9_adds_25 : decode cX9_adds 25 = .ok (.if_icmp .ge 44, 3) := by decide +kernel
theorem dX9_adds_28 : decode cX9_adds 28 = .ok (.iload_n 1, 1) := by decide +kernel
theorem dX9_adds_29 : decode cX9_adds 29 = .ok (.ifCond .ne 28, 3) := by decide +kernel
theorem dX9_adds_32 : decode cX9_adds 32 = .ok (.aload_n 0, 1) := by decide +kernel
theorem dX9_adds_33 : decode cX9_adds 33 = .ok (.getfield 16, 3) := by decide +kernel
theorem dX9_adds_36 : decode cX9_adds 36 = .ok (.iconst 0, 1) := by decide +kernel
theorem dX9_adds_37 : decode cX9_adds 37 = .ok (.aload_n 0, 1) := by decide +kernel
theorem dX9_adds_38 : decode cX9_adds 38 = .ok (.getfield 35, 3) := by decide +kernel
theorem dX9_adds_41 : decode cX9_adds 41 = .ok (.iload_n 2, 1) := by decide +kernel
theorem dX9_adds_42 : decode cX9_adds 42 = .ok (.iaload, 1) := by decide +kernel
theorem dX9_adds_43 : decode cX9_adds 43 = .ok (.iadd, 1) := by decide +kernel
theorem dX9_adds_44 : decode cX9_adds 44 = .ok (.iaload, 1) := by decide +kernel
theorem dX9_adds_45 : decode cX9_adds 45 = .ok (.aload_n 0, 1) := by decide +kernel
theorem dX9_adds_46 : decode cX9_adds 46 = .ok (.getfield 38, 3) := by decide +kernel
theorem dX9_adds_49 : decode cX9_adds 49 = .ok (.iload_n 2, 1) := by decide +kernel
theorem dX9_adds_50 : decode cX9_adds 50 = .ok (.iaload, 1) := by decide +kernel
theorem dX9_adds_51 : decode cX9_adds 51 = .ok (.invokestatic 119, 3) := by decide +kernel
theorem dX9_adds_54 : decode cX9_adds 54 = .ok (.ifCond .eq 7, 3) := by decide +kernel
theorem dX9_adds_57 : decode cX9_adds 57 = .ok (.iconst 1, 1) := by decide +kernel
theorem dX9_adds_58 : decode cX9_adds 58 = .ok (.goto 4, 3) := by decide +kernel
theorem dX9_adds_61 : decode cX9_adds 61 = .ok (.iconst 0, 1) := by decide +kernel
theorem dX9_adds_62 : decode cX9_adds 62 = .ok (.istore_n 1, 1) := by decide +kernel
theorem dX9_adds_63 : decode cX9_adds 63 = .ok (.iinc 2 1, 3) := by decide +kernel
theorem dX9_adds_66 : decode cX9_adds 66 = .ok (.goto (-46), 3) := by decide +kernel
theorem dX9_adds_69 : decode cX9_adds 69 = .ok (.iload_n 1, 1) := by decide +kernel
theorem dX9_adds_70 : decode cX9_adds 70 = .ok (.ifCond .eq 6, 3) := by decide +kernel
theorem dX9_adds_73 : decode cX9_adds 73 = .ok (.bipush (-2), 2) := by decide +kernel
theorem dX9_adds_75 : decode cX9_adds 75 = .ok (.ireturn, 1) := by decide +kernel
theorem dX9_adds_76 : decode cX9_adds 76 = .ok (.aload_n 0, 1) := by decide +kernel
theorem dX9_adds_77 : decode cX9_adds 77 = .ok (.getfield 16, 3) := by decide +kernel
theorem dX9_adds_80 : decode cX9_adds 80 = .ok (.aload_n 0, 1) := by decide +kernel
theorem dX9_adds_81 : decode cX9_adds 81 = .ok (.getfield 22, 3) := by decide +kernel
theorem dX9_adds_84 : decode cX9_adds 84 = .ok (.invokestatic 148, 3) := by decide +kernel
theorem dX9_adds_87 : decode cX9_adds 87 = .ok (.iconst 0, 1) := by decide +kernel
theorem dX9_adds_88 : decode cX9_adds 88 = .ok (.istore_n 2, 1) := by decide +kernel
theorem dX9_adds_89 : decode cX9_adds 89 = .ok (.iload_n 2, 1) := by decide +kernel
theorem dX9_adds_90 : decode cX9_adds 90 = .ok (.aload_n 0, 1) := by decide +kernel
theorem dX9_adds_91 : decode cX9_adds 91 = .ok (.getfield 152, 3) := by decide +kernel
theorem dX9_adds_94 : decode cX9_adds 94 = .ok (.if_icmp .ge 92, 3) := by decide +kernel
theorem dX9_adds_97 : decode cX9_adds 97 = .ok (.aload_n 0, 1) := by decide +kernel
theorem dX9_adds_98 : decode cX9_adds 98 = .ok (.aload_n 0, 1) := by decide +kernel
theorem dX9_adds_99 : decode cX9_adds 99 = .ok (.getfield 22, 3) := by decide +kernel
theorem dX9_adds_102 : decode cX9_adds 102 = .ok (.aload_n 0, 1) := by decide +kernel
theorem dX9_adds_103 : decode cX9_adds 103 = .ok (.getfield 145, 3) := by decide +kernel
theorem dX9_adds_106 : decode cX9_adds 106 = .ok (.aload_n 0, 1) := by decide +kernel
theorem dX9_adds_107 : decode cX9_adds 107 = .ok (.getfield 35, 3) := by decide +kernel
theorem dX9_adds_110 : decode cX9_adds 110 = .ok (.iload_n 2, 1) := by decide +kernel
theorem dX9_adds_111 : decode cX9_adds 111 = .ok (.iaload, 1) := by decide +kernel
theorem dX9_adds_112 : decode cX9_adds 112 = .ok (.aload_n 0, 1) := by decide +kernel
theorem dX9_adds_113 : decode cX9_adds 113 = .ok (.getfield 38, 3) := by decide +kernel
theorem dX9_adds_116 : decode cX9_adds 116 = .ok (.iload_n 2, 1) := by decide +kernel
theorem dX9_adds_117 : decode cX9_adds 117 = .ok (.iaload, 1) := by decide +kernel
theorem dX9_adds_118 : decode cX9_adds 118 = .ok (.invokevirtual 122, 3) := by decide +kernel
theorem dX9_adds_121 : decode cX9_adds 121 = .ok (.aload_n 0, 1) := by decide +kernel
theorem dX9_adds_122 : decode cX9_adds 122 = .ok (.getfield 126, 3) := by decide +kernel
theorem dX9_adds_125 : decode cX9_adds 125 = .ok (.ifCond .eq 31, 3) := by decide +kernel
theorem dX9_adds_128 : decode cX9_adds 128 = .ok (.aload_n 0, 1) := by decide +kernel
theorem dX9_adds_129 : decode cX9_adds 129 = .ok (.aload_n 0, 1) := by decide +kernel
theorem dX9_adds_130 : decode cX9_adds 130 = .ok (.getfield 22, 3) := by decide +kernel
theorem dX9_adds_133 : decode cX9_adds 133 = .ok (.aload_n 0, 1) := by decide +kernel
theorem dX9_adds_134 : decode cX9_adds 134 = .ok (.getfield 38, 3) := by decide +kernel
theorem dX9_adds_137 : decode cX9_adds 137 = .ok (.iload_n 2, 1) := by decide +kernel
theorem dX9_adds_138 : decode cX9_adds 138 = .ok (.iaload, 1) := by decide +kernel
theorem dX9_adds_139 : decode cX9_adds 139 = .ok (.aload_n 0, 1) := by decide +kernel
theorem dX9_adds_140 : decode cX9_adds 140 = .ok (.getfield 35, 3) := by decide +kernel
theorem dX9_adds_143 : decode cX9_adds 143 = .ok (.iload_n 2, 1) := by decide +kernel
theorem dX9_adds_144 : decode cX9_adds 144 = .ok (.iaload, 1) := by decide +kernel
theorem dX9_adds_145 : decode cX9_adds 145 = .ok (.invokevirtual 223, 3) := by decide +kernel
theorem dX9_adds_148 : decode cX9_adds 148 = .ok (.aload_n 0, 1) := by decide +kernel
theorem dX9_adds_149 : decode cX9_adds 149 = .ok (.iconst 0, 1) := by decide +kernel
theorem dX9_adds_150 : decode cX9_adds 150 = .ok (.putfield 152, 3) := by decide +kernel
theorem dX9_adds_153 : decode cX9_adds 153 = .ok (.bipush (-4), 2) := by decide +kernel
theorem dX9_adds_155 : decode cX9_adds 155 = .ok (.ireturn, 1) := by decide +kernel
theorem dX9_adds_156 : decode cX9_adds 156 = .ok (.aload_n 0, 1) := by decide +kernel
theorem dX9_adds_157 : decode cX9_adds 157 = .ok (.aload_n 0, 1) := by decide +kernel
theorem dX9_adds_158 : decode cX9_adds 158 = .ok (.getfield 22, 3) := by decide +kernel
theorem dX9_adds_161 : decode cX9_adds 161 = .ok (.aload_n 0, 1) := by decide +kernel
theorem dX9_adds_162 : decode cX9_adds 162 = .ok (.getfield 145, 3) := by decide +kernel
theorem dX9_adds_165 : decode cX9_adds 165 = .ok (.aload_n 0, 1) := by decide +kernel
theorem dX9_adds_166 : decode cX9_adds 166 = .ok (.getfield 35, 3) := by decide +kernel
theorem dX9_adds_169 : decode cX9_adds 169 = .ok (.iload_n 2, 1) := by decide +kernel
theorem dX9_adds_170 : decode cX9_adds 170 = .ok (.iaload, 1) := by decide +kernel
theorem dX9_adds_171 : decode cX9_adds 171 = .ok (.aload_n 0, 1) := by decide +kernel
theorem dX9_adds_172 : decode cX9_adds 172 = .ok (.getfield 38, 3) := by decide +kernel
theorem dX9_adds_175 : decode cX9_adds 175 = .ok (.iload_n 2, 1) := by decide +kernel
theorem dX9_adds_176 : decode cX9_adds 176 = .ok (.iaload, 1) := by decide +kernel
theorem dX9_adds_177 : decode cX9_adds 177 = .ok (.invokevirtual 138, 3) := by decide +kernel
theorem dX9_adds_180 : decode cX9_adds 180 = .ok (.iinc 2 1, 3) := by decide +kernel
theorem dX9_adds_183 : decode cX9_adds 183 = .ok (.goto (-94), 3) := by decide +kernel
theorem dX9_adds_186 : decode cX9_adds 186 = .ok (.aload_n 0, 1) := by decide +kernel
theorem dX9_adds_187 : decode cX9_adds 187 = .ok (.invokevirtual 227, 3) := by decide +kernel
theorem dX9_adds_190 : decode cX9_adds 190 = .ok (.aload_n 0, 1) := by decide +kernel
theorem dX9_adds_191 : decode cX9_adds 191 = .ok (.iconst 0, 1) := by decide +kernel
theorem dX9_adds_192 : decode cX9_adds 192 = .ok (.putfield 152, 3) := by decide +kernel
theorem dX9_adds_195 : decode cX9_adds 195 = .ok (.aload_n 0, 1) := by decide +kernel
theorem dX9_adds_196 : decode cX9_adds 196 = .ok (.aload_n 0, 1) := by decide +kernel
theorem dX9_adds_197 : decode cX9_adds 197 = .ok (.getfield 22, 3) := by decide +kernel
theorem dX9_adds_200 : decode cX9_adds 200 = .ok (.aload_n 0, 1) := by decide +kernel
theorem dX9_adds_201 : decode cX9_adds 201 = .ok (.getfield 16, 3) := by decide +kernel
theorem dX9_adds_204 : decode cX9_adds 204 = .ok (.invokevirtual 178, 3) := by decide +kernel
theorem dX9_adds_207 : decode cX9_adds 207 = .ok (.invokestatic 194, 3) := by decide +kernel
theorem dX9_adds_210 : decode cX9_adds 210 = .ok (.istore_n 2, 1) := by decide +kernel
theorem dX9_adds_211 : decode cX9_adds 211 = .ok (.aload_n 0, 1) := by decide +kernel
theorem dX9_adds_212 : decode cX9_adds 212 = .ok (.getfield 22, 3) := by decide +kernel
theorem dX9_adds_215 : decode cX9_adds 215 = .ok (.aload_n 0, 1) := by decide +kernel
theorem dX9_adds_216 : decode cX9_adds 216 = .ok (.getfield 16, 3) := by decide +kernel
theorem dX9_adds_219 : decode cX9_adds 219 = .ok (.invokestatic 148, 3) := by decide +kernel
theorem dX9_adds_222 : decode cX9_adds 222 = .ok (.iload_n 2, 1) := by decide +kernel
theorem dX9_adds_223 : decode cX9_adds 223 = .ok (.ireturn, 1) := by decide +kernel
set_option maxRecDepth 20000 in
theorem ggX9_cuts_X9_isTwo : GoodIn wsX9_cuts wsX9_isTwo := goodIn_r _ [7, 8, 9, 10, 6, 11, 12, 13, 14, 15, 32, 33, 34, 35, 36, 37, 38, 39, 40, 41, 42, 43, 44, 45, 46, 47, 48, 49, 50, 51, 52, 53, 54, 55, 56, 57, 58, 59, 60, 61, 62, 63, 64, 65, 66, 67] (by decide +kernel) (by decide +kernel)
set_option maxRecDepth 20000 in
theorem gX9_cuts_X9_isTwo : GoodIn wsX9_cuts (wsV RX9 220 RX9 yX9_isTwo wsX9_isTwo) := goodIn_app (goodIn_of _ (by decide +kernel)) ggX9_cuts_X9_isTwo
set_option maxRecDepth 20000 in
theorem ggX9_cuts_X9_has : GoodIn wsX9_cuts wsX9_has := goodIn_r _ [18] (by decide +kernel) (by decide +kernel)
set_option maxRecDepth 20000 in
theorem gX9_cuts_X9_has : GoodIn wsX9_cuts (va_wsS RX9 119 yX9_has wsX9_has) := goodIn_app (goodIn_of _ (by decide +kernel)) ggX9_cuts_X9_has
set_option maxRecDepth 20000 in
theorem ggX9_cuts_X9_notes : GoodIn wsX9_cuts wsX9_notes := goodIn_r _ [22, 23, 24, 2, 32, 33, 34, 35, 36, 37, 38, 39, 40, 41, 42, 43, 44, 45, 46, 47, 48, 49, 50, 51, 52, 53, 54, 55, 56, 57, 58, 59, 60, 61, 62, 63, 64, 65, 66, 67] (by decide +kernel) (by decide +kernel)
set_option maxRecDepth 20000 in
theorem gX9_cuts_X9_notes : GoodIn wsX9_cuts (wsV RX9 227 RX9 yX9_notes wsX9_notes) := goodIn_app (goodIn_of _ (by decide +kernel)) ggX9_cuts_X9_notes
set_option maxRecDepth 20000 in
theorem ggX9_cuts_X9_arcs : GoodIn wsX9_cuts wsX9_arcs := goodIn_r _ [28, 12, 2, 29, 30, 6, 31, 32, 33, 34, 35, 36, 37, 38, 39, 40, 41, 42, 43, 44, 45, 46, 47, 48, 49, 50, 51, 52, 53, 54, 55, 56, 57, 58, 59, 60, 61, 62, 63, 64, 65, 66, 67] (by decide +kernel) (by decide +kernel)
set_option maxRecDepth 20000 in
theorem gX9_cuts_X9_arcs : GoodIn wsX9_cuts (wsV RX9 204 RX9 yX9_arcs wsX9_arcs) := goodIn_app (goodIn_of _ (by decide +kernel)) ggX9_cuts_X9_arcs
theorem dX9_cuts_0 : decode cX9_cuts 0 = .ok (.aload_n 0, 1) := by decide +kernel
theorem dX9_cuts_1 : decode cX9_cuts 1 = .ok (.iconst 0, 1) := by decide +kernel
theorem dX9_cuts_2 : decode cX9_cuts 2 = .ok (.putfield 75, 3) := by decide +kernel
theorem dX9_cuts_5 : decode cX9_cuts 5 = .ok (.aload_n 0, 1) := by decide +kernel
theorem dX9_cuts_6 : decode cX9_cuts 6 = .ok (.iload_n 1, 1) := by decide +kernel
theorem dX9_cuts_7 : decode cX9_cuts 7 = .ok (.iload_n 2, 1) := by decide +kernel
theorem dX9_cuts_8 : decode cX9_cuts 8 = .ok (.invokevirtual 220, 3) := by decide +kernel
theorem dX9_cuts_11 : decode cX9_cuts 11 = .ok (.ifCond .ne 5, 3) := by decide +kernel
theorem dX9_cuts_14 : decode cX9_cuts 14 = .ok (.iconst (-1), 1) := by decide +kernel
theorem dX9_cuts_15 : decode cX9_cuts 15 = .ok (.ireturn, 1) := by decide +kernel
theorem dX9_cuts_16 : decode cX9_cuts 16 = .ok (.aload_n 0, 1) := by decide +kernel
theorem dX9_cuts_17 : decode cX9_cuts 17 = .ok (.getfield 16, 3) := by decide +kernel
theorem dX9_cuts_20 : decode cX9_cuts 20 = .ok (.iconst 0, 1) := by decide +kernel
theorem dX9_cuts_21 : decode cX9_cuts 21 = .ok (.iload_n 1, 1) := by decide +kernel
theorem dX9_cuts_22 : decode cX9_cuts 22 = .ok (.iadd, 1) := by decide +kernel
theorem dX9_cuts_23 : decode cX9_cuts 23 = .ok (.iaload, 1) := by decide +kernel
theorem dX9_cuts_24 : decode cX9_cuts 24 = .ok (.iload_n 2, 1) := by decide +kernel
theorem dX9_cuts_25 : decode cX9_cuts 25 = .ok (.invokestatic 119, 3) := by decide +kernel
theorem dX9_cuts_28 : decode cX9_cuts 28 = .ok (.ifCond .ne 6, 3) := by decide +kernel
theorem dX9_cuts_31 : decode cX9_cuts 31 = .ok (.bipush (-2), 2) := by decide +kernel
theorem dX9_cuts_33 : decode cX9_cuts 33 = .ok (.ireturn, 1) := by decide +kernel
theorem dX9_cuts_34 : decode cX9_cuts 34 = .ok (.aload_n 0, 1) := by decide +kernel
theorem dX9_cuts_35 : decode cX9_cuts 35 = .ok (.invokevirtual 227, 3) := by decide +kernel
theorem dX9_cuts_38 : decode cX9_cuts 38 = .ok (.aload_n 0, 1) := by decide +kernel
theorem dX9_cuts_39 : decode cX9_cuts 39 = .ok (.getfield 16, 3) := by decide +kernel
theorem dX9_cuts_42 : decode cX9_cuts 42 = .ok (.iconst 0, 1) := by decide +kernel
theorem dX9_cuts_43 : decode cX9_cuts 43 = .ok (.iload_n 1, 1) := by decide +kernel
theorem dX9_cuts_44 : decode cX9_cuts 44 = .ok (.iadd, 1) := by decide +kernel
theorem dX9_cuts_45 : decode cX9_cuts 45 = .ok (.dup2, 1) := by decide +kernel
theorem dX9_cuts_46 : decode cX9_cuts 46 = .ok (.iaload, 1) := by decide +kernel
theorem dX9_cuts_47 : decode cX9_cuts 47 = .ok (.iconst 1, 1) := by decide +kernel
theorem dX9_cuts_48 : decode cX9_cuts 48 = .ok (.iload_n 2, 1) := by decide +kernel
theorem dX9_cuts_49 : decode cX9_cuts 49 = .ok (.ishl, 1) := by decide +kernel
theorem dX9_cuts_50 : decode cX9_cuts 50 = .ok (.ixor, 1) := by decide +kernel
theorem dX9_cuts_51 : decode cX9_cuts 51 = .ok (.iastore, 1) := by decide +kernel
theorem dX9_cuts_52 : decode cX9_cuts 52 = .ok (.aload_n 0, 1) := by decide +kernel
theorem dX9_cuts_53 : decode cX9_cuts 53 = .ok (.invokevirtual 204, 3) := by decide +kernel
theorem dX9_cuts_56 : decode cX9_cuts 56 = .ok (.ireturn, 1) := by decide +kernel
set_option maxRecDepth 20000 in
theorem ggX9_sorts_X9_notes : GoodIn wsX9_sorts wsX9_notes := goodIn_r _ [10, 11, 12, 2, 43, 44, 45, 46, 47, 48, 49, 50, 51, 52, 53, 54, 55, 56, 57, 58, 59, 60, 61, 62, 63, 64, 65, 66, 67, 68, 69, 70, 71, 72, 73, 74, 75, 76, 77, 78] (by decide +kernel) (by decide +kernel)
set_option maxRecDepth 20000 in
theorem gX9_sorts_X9_notes : GoodIn wsX9_sorts (wsV RX9 227 RX9 yX9_notes wsX9_notes) := goodIn_app (goodIn_of _ (by decide +kernel)) ggX9_sorts_X9_notes
set_option maxRecDepth 20000 in
theorem ggX9_sorts_X9_copies : GoodIn wsX9_sorts wsX9_copies := goodIn_r _ [15] (by decide +kernel) (by decide +kernel)
set_option maxRecDepth 20000 in
theorem gX9_sorts_X9_copies : GoodIn wsX9_sorts (va_wsS RX9 148 yX9_copies wsX9_copies) := goodIn_app (goodIn_of _ (by decide +kernel)) ggX9_sorts_X9_copies
set_option maxRecDepth 20000 in
theorem ggX9_sorts_X9_counts : GoodIn wsX9_sorts wsX9_counts := goodIn_r _ [19, 4, 20, 21, 22, 23, 9, 24, 25, 26, 27, 28, 29, 30, 31, 2, 43, 44, 45, 46, 47, 48, 49, 50, 51, 52, 53, 54, 55, 56, 57, 58, 59, 60, 61, 62, 63, 64, 65, 66, 67, 68, 69, 70, 71, 72, 73, 74, 75, 76, 77, 78] (by decide +kernel) (by decide +kernel)
set_option maxRecDepth 20000 in
theorem gX9_sorts_X9_counts : GoodIn wsX9_sorts (wsV RX9 230 RX9 yX9_counts wsX9_counts) := goodIn_app (goodIn_of _ (by decide +kernel)) ggX9_sorts_X9_counts
set_option maxRecDepth 20000 in
theorem ggX9_sorts_X9_orderOf : GoodIn wsX9_sorts wsX9_orderOf := goodIn_r _ [35, 4, 20, 5, 21, 22, 23, 9, 24, 25, 26, 27, 28, 29, 30, 31, 2, 43, 44, 45, 46, 47, 48, 49, 50, 51, 52, 53, 54, 55, 56, 57, 58, 59, 60, 61, 62, 63, 64, 65, 66, 67, 68, 69, 70, 71, 72, 73, 74, 75, 76, 77, 78] (by decide +kernel) (by decide +kernel)
set_option maxRecDepth 20000 in
theorem gX9_sorts_X9_orderOf : GoodIn wsX9_sorts (wsV RX9 233 RX9 yX9_orderOf wsX9_orderOf) := goodIn_app (goodIn_of _ (by decide +kernel)) ggX9_sorts_X9_orderOf
set_option maxRecDepth 20000 in
theorem ggX9_sorts_X9_moved : GoodIn wsX9_sorts wsX9_moved := goodIn_r _ [39, 4, 43, 44, 45, 46, 47, 48, 49, 50, 51, 52, 53, 54, 55, 56, 57, 58, 59, 60, 61, 62, 63, 64, 65, 66, 67, 68, 69, 70, 71, 72, 73, 74, 75, 76, 77, 78] (by decide +kernel) (by decide +kernel)
set_option maxRecDepth 20000 in
theorem gX9_sorts_X9_moved : GoodIn wsX9_sorts (wsV RX9 178 RX9 yX9_moved wsX9_moved) := goodIn_app (goodIn_of _ (by decide +kernel)) ggX9_sorts_X9_moved
set_option maxRecDepth 20000 in
theorem ggX9_sorts_X9_ones : GoodIn wsX9_sorts wsX9_ones := goodIn_r _ [42] (by decide +kernel) (by decide +kernel)
set_option maxRecDepth 20000 in
theorem gX9_sorts_X9_ones : GoodIn wsX9_sorts (va_wsS RX9 194 yX9_ones wsX9_ones) := goodIn_app (goodIn_of _ (by decide +kernel)) ggX9_sorts_X9_ones
theorem dX9_sorts_0 : decode cX9_sorts 0 = .ok (.aload_n 0, 1) := by decide +kernel
theorem dX9_sorts_1 : decode cX9_sorts 1 = .ok (.iconst 0, 1) := by decide +kernel
theorem dX9_sorts_2 : decode cX9_sorts 2 = .ok (.putfield 75, 3) := by decide +kernel
theorem dX9_sorts_5 : decode cX9_sorts 5 = .ok (.aload_n 0, 1) := by decide +kernel
theorem dX9_sorts_6 : decode cX9_sorts 6 = .ok (.invokevirtual 227, 3) := by decide +kernel
theorem dX9_sorts_9 : decode cX9_sorts 9 = .ok (.aload_n 0, 1) := by decide +kernel
theorem dX9_sorts_10 : decode cX9_sorts 10 = .ok (.getfield 16, 3) := by decide +kernel
theorem dX9_sorts_13 : decode cX9_sorts 13 = .ok (.aload_n 0, 1) := by decide +kernel
theorem dX9_sorts_14 : decode cX9_sorts 14 = .ok (.getfield 22, 3) := by decide +kernel
theorem dX9_sorts_17 : decode cX9_sorts 17 = .ok (.invokestatic 148, 3) := by decide +kernel
theorem dX9_sorts_20 : decode cX9_sorts 20 = .ok (.aload_n 0, 1) := by decide +kernel
theorem dX9_sorts_21 : decode cX9_sorts 21 = .ok (.invokevirtual 230, 3) := by decide +kernel
theorem dX9_sorts_24 : decode cX9_sorts 24 = .ok (.aload_n 0, 1) := by decide +kernel
theorem dX9_sorts_25 : decode cX9_sorts 25 = .ok (.lconst 0, 1) := by decide +kernel
theorem dX9_sorts_26 : decode cX9_sorts 26 = .ok (.invokevirtual 233, 3) := by decide +kernel
theorem dX9_sorts_29 : decode cX9_sorts 29 = .ok (.iconst 0, 1) := by decide +kernel
theorem dX9_sorts_30 : decode cX9_sorts 30 = .ok (.istore_n 1, 1) := by decide +kernel
theorem dX9_sorts_31 : decode cX9_sorts 31 = .ok (.iload_n 1, 1) := by decide +kernel
theorem dX9_sorts_32 : decode cX9_sorts 32 = .ok (.aload_n 0, 1) := by decide +kernel
theorem dX9_sorts_33 : decode cX9_sorts 33 = .ok (.getfield 145, 3) := by decide +kernel
theorem dX9_sorts_36 : decode cX9_sorts 36 = .ok (.if_icmp .ge 24, 3) := by decide +kernel
theorem dX9_sorts_39 : decode cX9_sorts 39 = .ok (.aload_n 0, 1) := by decide +kernel
theorem dX9_sorts_40 : decode cX9_sorts 40 = .ok (.getfield 16, 3) := by decide +kernel
theorem dX9_sorts_43 : decode cX9_sorts 43 = .ok (.bipush 12, 2) := by decide +kernel
theorem dX9_sorts_45 : decode cX9_sorts 45 = .ok (.aload_n 0, 1) := by decide +kernel
theorem dX9_sorts_46 : decode cX9_sorts 46 = .ok (.getfield 60, 3) := by decide +kernel
theorem dX9_sorts_49 : decode cX9_sorts 49 = .ok (.iload_n 1, 1) := by decide +kernel
theorem dX9_sorts_50 : decode cX9_sorts 50 = .ok (.iaload, 1) := by decide +kernel
theorem dX9_sorts_51 : decode cX9_sorts 51 = .ok (.iadd, 1) := by decide +kernel
theorem dX9_sorts_52 : decode cX9_sorts 52 = .ok (.iload_n 1, 1) := by decide +kernel
theorem dX9_sorts_53 : decode cX9_sorts 53 = .ok (.iastore, 1) := by decide +kernel
theorem dX9_sorts_54 : decode cX9_sorts 54 = .ok (.iinc 1 1, 3) := by decide +kernel
theorem dX9_sorts_57 : decode cX9_sorts 57 = .ok (.goto (-26), 3) := by decide +kernel
theorem dX9_sorts_60 : decode cX9_sorts 60 = .ok (.aload_n 0, 1) := by decide +kernel
theorem dX9_sorts_61 : decode cX9_sorts 61 = .ok (.aload_n 0, 1) := by decide +kernel
theorem dX9_sorts_62 : decode cX9_sorts 62 = .ok (.getfield 22, 3) := by decide +kernel
theorem dX9_sorts_65 : decode cX9_sorts 65 = .ok (.aload_n 0, 1) := by decide +kernel
theorem dX9_sorts_66 : decode cX9_sorts 66 = .ok (.getfield 16, 3) := by decide +kernel
theorem dX9_sorts_69 : decode cX9_sorts 69 = .ok (.invokevirtual 178, 3) := by decide +kernel
theorem dX9_sorts_72 : decode cX9_sorts 72 = .ok (.invokestatic 194, 3) := by decide +kernel
theorem dX9_sorts_75 : decode cX9_sorts 75 = .ok (.ireturn, 1) := by decide +kernel
theorem dX9_undo_0 : decode cX9_undo 0 = .ok (.aload_n 0, 1) := by decide +kernel
theorem dX9_undo_1 : decode cX9_undo 1 = .ok (.iconst 0, 1) := by decide +kernel
theorem dX9_undo_2 : decode cX9_undo 2 = .ok (.putfield 75, 3) := by decide +kernel
theorem dX9_undo_5 : decode cX9_undo 5 = .ok (.aload_n 0, 1) := by decide +kernel
theorem dX9_undo_6 : decode cX9_undo 6 = .ok (.getfield 158, 3) := by decide +kernel
theorem dX9_undo_9 : decode cX9_undo 9 = .ok (.ifCond .ne 6, 3) := by decide +kernel
theorem dX9_undo_12 : decode cX9_undo 12 = .ok (.bipush (-2), 2) := by decide +kernel
theorem dX9_undo_14 : decode cX9_undo 14 = .ok (.ireturn, 1) := by decide +kernel
theorem dX9_undo_15 : decode cX9_undo 15 = .ok (.aload_n 0, 1) := by decide +kernel
theorem dX9_undo_16 : decode cX9_undo 16 = .ok (.dup, 1) := by decide +kernel
theorem dX9_undo_17 : decode cX9_undo 17 = .ok (.getfield 158, 3) := by decide +kernel
theorem dX9_undo_20 : decode cX9_undo 20 = .ok (.iconst 1, 1) := by decide +kernel
theorem dX9_undo_21 : decode cX9_undo 21 = .ok (.isub, 1) := by decide +kernel
theorem dX9_undo_22 : decode cX9_undo 22 = .ok (.putfield 158, 3) := by decide +kernel
theorem dX9_undo_25 : decode cX9_undo 25 = .ok (.iconst 0, 1) := by decide +kernel
theorem dX9_undo_26 : decode cX9_undo 26 = .ok (.istore_n 1, 1) := by decide +kernel
theorem dX9_undo_27 : decode cX9_undo 27 = .ok (.iload_n 1, 1) := by decide +kernel
theorem dX9_undo_28 : decode cX9_undo 28 = .ok (.bipush 24, 2) := by decide +kernel
theorem dX9_undo_30 : decode cX9_undo 30 = .ok (.if_icmp .ge 29, 3) := by decide +kernel
theorem dX9_undo_33 : decode cX9_undo 33 = .ok (.aload_n 0, 1) := by decide +kernel
theorem dX9_undo_34 : decode cX9_undo 34 = .ok (.getfield 16, 3) := by decide +kernel
theorem dX9_undo_37 : decode cX9_undo 37 = .ok (.iload_n 1, 1) := by decide +kernel
theorem dX9_undo_38 : decode cX9_undo 38 = .ok (.aload_n 0, 1) := by decide +kernel
theorem dX9_undo_39 : decode cX9_undo 39 = .ok (.getfield 32, 3) := by decide +kernel
theorem dX9_undo_42 : decode cX9_undo 42 = .ok (.bipush 24, 2) := by decide +kernel
theorem dX9_undo_44 : decode cX9_undo 44 = .ok (.aload_n 0, 1) := by decide +kernel
theorem dX9_undo_45 : decode cX9_undo 45 = .ok (.getfield 158, 3) := by decide +kernel
theorem dX9_undo_48 : decode cX9_undo 48 = .ok (.imul, 1) := by decide +kernel
theorem dX9_undo_49 : decode cX9_undo 49 = .ok (.iload_n 1, 1) := by decide +kernel
theorem dX9_undo_50 : decode cX9_undo 50 = .ok (.iadd, 1) := by decide +kernel
theorem dX9_undo_51 : decode cX9_undo 51 = .ok (.iaload, 1) := by decide +kernel
theorem dX9_undo_52 : decode cX9_undo 52 = .ok (.iastore, 1) := by decide +kernel
theorem dX9_undo_53 : decode cX9_undo 53 = .ok (.iinc 1 1, 3) := by decide +kernel
theorem dX9_undo_56 : decode cX9_undo 56 = .ok (.goto (-29), 3) := by decide +kernel
theorem dX9_undo_59 : decode cX9_undo 59 = .ok (.aload_n 0, 1) := by decide +kernel
theorem dX9_undo_60 : decode cX9_undo 60 = .ok (.getfield 158, 3) := by decide +kernel
theorem dX9_undo_63 : decode cX9_undo 63 = .ok (.ireturn, 1) := by decide +kernel
set_option maxRecDepth 20000 in
theorem ggX9_arc_X9_isTwo : GoodIn wsX9_arc wsX9_isTwo := goodIn_r _ [10, 11, 12, 13, 9, 14, 15, 16, 17, 18, 47, 48, 49, 50, 51, 52, 53, 54, 55, 56, 57, 58, 59, 60, 61, 62, 63, 64, 65, 66, 67, 68, 69, 70, 71, 72, 73, 74, 75, 76, 77, 78, 79, 80, 81, 82] (by decide +kernel) (by decide +kernel)
set_option maxRecDepth 20000 in
theorem gX9_arc_X9_isTwo : GoodIn wsX9_arc (wsV RX9 220 RX9 yX9_isTwo wsX9_isTwo) := goodIn_app (goodIn_of _ (by decide +kernel)) ggX9_arc_X9_isTwo
set_option maxRecDepth 20000 in
theorem ggX9_arc_X9_in : GoodIn wsX9_arc wsX9_in := goodIn_r _ [18] (by decide +kernel) (by decide +kernel)
set_option maxRecDepth 20000 in
theorem gX9_arc_X9_in : GoodIn wsX9_arc (va_wsS RX9 79 yX9_in wsX9_in) := goodIn_app (goodIn_of _ (by decide +kernel)) ggX9_arc_X9_in
set_option maxRecDepth 20000 in
theorem ggX9_arc_X9_has : GoodIn wsX9_arc wsX9_has := goodIn_r _ [21] (by decide +kernel) (by decide +kernel)
set_option maxRecDepth 20000 in
theorem gX9_arc_X9_has : GoodIn wsX9_arc (va_wsS RX9 119 yX9_has wsX9_has) := goodIn_app (goodIn_of _ (by decide +kernel)) ggX9_arc_X9_has
set_option maxRecDepth 20000 in
theorem ggX9_arc_X9_movedBy : GoodIn wsX9_arc wsX9_movedBy := goodIn_r _ [25, 2, 15, 3, 4, 26, 27, 28, 29, 9, 30, 5, 16, 17, 18, 19, 20, 21, 31, 32, 33, 34, 35, 36, 37, 38, 39, 40, 41, 42, 43, 44, 45, 46, 47, 48, 49, 50, 51, 52, 53, 54, 55, 56, 57, 58, 59, 60, 61, 62, 63, 64, 65, 66, 67, 68, 69, 70, 71, 72, 73, 74, 75, 76, 77, 78, 79, 80, 81, 82] (by decide +kernel) (by decide +kernel)
set_option maxRecDepth 20000 in
theorem gX9_arc_X9_movedBy : GoodIn wsX9_arc (wsV RX9 197 RX9 yX9_movedBy wsX9_movedBy) := goodIn_app (goodIn_of _ (by decide +kernel)) ggX9_arc_X9_movedBy
theorem dX9_arc_0 : decode cX9_arc 0 = .ok (.aload_n 0, 1) := by decide +kernel
theorem dX9_arc_1 : decode cX9_arc 1 = .ok (.iconst 0, 1) := by decide +kernel
theorem dX9_arc_2 : decode cX9_arc 2 = .ok (.putfield 75, 3) := by decide +kernel
theorem dX9_arc_5 : decode cX9_arc 5 = .ok (.aload_n 0, 1) := by decide +kernel
theorem dX9_arc_6 : decode cX9_arc 6 = .ok (.iload_n 1, 1) := by decide +kernel
theorem dX9_arc_7 : decode cX9_arc 7 = .ok (.iload_n 2, 1) := by decide +kernel
theorem dX9_arc_8 : decode cX9_arc 8 = .ok (.invokevirtual 220, 3) := by decide +kernel
theorem dX9_arc_11 : decode cX9_arc 11 = .ok (.ifCond .eq 12, 3) := by decide +kernel
theorem dX9_arc_14 : decode cX9_arc 14 = .ok (.iload_n 3, 1) := by decide +kernel
theorem dX9_arc_15 : decode cX9_arc 15 = .ok (.iconst 0, 1) := by decide +kernel
theorem dX9_arc_16 : decode cX9_arc 16 = .ok (.iconst 3, 1) := by decide +kernel
theorem dX9_arc_17 : decode cX9_arc 17 = .ok (.invokestatic 79, 3) := by decide +kernel
theorem dX9_arc_20 : decode cX9_arc 20 = .ok (.ifCond .ne 5, 3) := by decide +kernel
theorem dX9_arc_23 : decode cX9_arc 23 = .ok (.iconst (-1), 1) := by decide +kernel
theorem dX9_arc_24 : decode cX9_arc 24 = .ok (.ireturn, 1) := by decide +kernel
theorem dX9_arc_25 : decode cX9_arc 25 = .ok (.aload_n 0, 1) := by decide +kernel
theorem dX9_arc_26 : decode cX9_arc 26 = .ok (.getfield 16, 3) := by decide +kernel
theorem dX9_arc_29 : decode cX9_arc 29 = .ok (.iconst 0, 1) := by decide +kernel
theorem dX9_arc_30 : decode cX9_arc 30 = .ok (.iload_n 1, 1) := by decide +kernel
theorem dX9_arc_31 : decode cX9_arc 31 = .ok (.iadd, 1) := by decide +kernel
theorem dX9_arc_32 : decode cX9_arc 32 = .ok (.iaload, 1) := by decide +kernel
theorem dX9_arc_33 : decode cX9_arc 33 = .ok (.iload_n 2, 1) := by decide +kernel
theorem dX9_arc_34 : decode cX9_arc 34 = .ok (.invokestatic 119, 3) := by decide +kernel
theorem dX9_arc_37 : decode cX9_arc 37 = .ok (.ifCond .eq 6, 3) := by decide +kernel
theorem dX9_arc_40 : decode cX9_arc 40 = .ok (.bipush (-2), 2) := by decide +kernel
theorem dX9_arc_42 : decode cX9_arc 42 = .ok (.ireturn, 1) := by decide +kernel
theorem dX9_arc_43 : decode cX9_arc 43 = .ok (.aload_n 0, 1) := by decide +kernel
theorem dX9_arc_44 : decode cX9_arc 44 = .ok (.iload_n 1, 1) := by decide +kernel
theorem dX9_arc_45 : decode cX9_arc 45 = .ok (.iload_n 2, 1) := by decide +kernel
theorem dX9_arc_46 : decode cX9_arc 46 = .ok (.invokevirtual 197, 3) := by decide +kernel
theorem dX9_arc_49 : decode cX9_arc 49 = .ok (.istore 4, 2) := by decide +kernel
theorem dX9_arc_51 : decode cX9_arc 51 = .ok (.iload_n 3, 1) := by decide +kernel
theorem dX9_arc_52 : decode cX9_arc 52 = .ok (.ifCond .ne 8, 3) := by decide +kernel
theorem dX9_arc_55 : decode cX9_arc 55 = .ok (.iload 4, 2) := by decide +kernel
theorem dX9_arc_57 : decode cX9_arc 57 = .ok (.goto 39, 3) := by decide +kernel
theorem dX9_arc_60 : decode cX9_arc 60 = .ok (.iload_n 3, 1) := by decide +kernel
theorem dX9_arc_61 : decode cX9_arc 61 = .ok (.iconst 1, 1) := by decide +kernel
theorem dX9_arc_62 : decode cX9_arc 62 = .ok (.if_icmp .ne 18, 3) := by decide +kernel
theorem dX9_arc_65 : decode cX9_arc 65 = .ok (.aload_n 0, 1) := by decide +kernel
theorem dX9_arc_66 : decode cX9_arc 66 = .ok (.getfield 126, 3) := by decide +kernel
theorem dX9_arc_69 : decode cX9_arc 69 = .ok (.ifCond .eq 7, 3) := by decide +kernel
theorem dX9_arc_72 : decode cX9_arc 72 = .ok (.iconst 1, 1) := by decide +kernel
theorem dX9_arc_73 : decode cX9_arc 73 = .ok (.goto 23, 3) := by decide +kernel
theorem dX9_arc_76 : decode cX9_arc 76 = .ok (.iconst 0, 1) := by decide +kernel
theorem dX9_arc_77 : decode cX9_arc 77 = .ok (.goto 19, 3) := by decide +kernel
theorem dX9_arc_80 : decode cX9_arc 80 = .ok (.iload_n 3, 1) := by decide +kernel
theorem dX9_arc_81 : decode cX9_arc 81 = .ok (.iconst 2, 1) := by decide +kernel
theorem dX9_arc_82 : decode cX9_arc 82 = .ok (.if_icmp .ne 10, 3) := by decide +kernel
theorem dX9_arc_85 : decode cX9_arc 85 = .ok (.aload_n 0, 1) := by decide +kernel
theorem dX9_arc_86 : decode cX9_arc 86 = .ok (.getfield 164, 3) := by decide +kernel
theorem dX9_arc_89 : decode cX9_arc 89 = .ok (.goto 7, 3) := by decide +kernel
theorem dX9_arc_92 : decode cX9_arc 92 = .ok (.aload_n 0, 1) := by decide +kernel
theorem dX9_arc_93 : decode cX9_arc 93 = .ok (.getfield 167, 3) := by decide +kernel
theorem dX9_arc_96 : decode cX9_arc 96 = .ok (.ireturn, 1) := by decide +kernel
set_option maxRecDepth 20000 in
theorem ggX9_canNext_X9_has : GoodIn wsX9_canNext wsX9_has := goodIn_r _ [4] (by decide +kernel) (by decide +kernel)
set_option maxRecDepth 20000 in
theorem gX9_canNext_X9_has : GoodIn wsX9_canNext (va_wsS RX9 119 yX9_has wsX9_has) := goodIn_app (goodIn_of _ (by decide +kernel)) ggX9_canNext_X9_has
set_option maxRecDepth 20000 in
theorem ggX9_canNext_X9_into : GoodIn wsX9_canNext wsX9_into := goodIn_r _ [8, 9, 10, 1, 2, 3, 4, 11, 12, 13, 14, 15, 16, 17, 18, 19, 20, 21, 22, 23, 24, 25, 26, 27, 28, 29, 30, 31, 32, 33, 34, 35, 36, 37, 38, 39, 40, 41, 42, 43, 44, 45, 46] (by decide +kernel) (by decide +kernel)
set_option maxRecDepth 20000 in
theorem gX9_canNext_X9_into : GoodIn wsX9_canNext (wsV RX9 188 RX9 yX9_into wsX9_into) := goodIn_app (goodIn_of _ (by decide +kernel)) ggX9_canNext_X9_into
theorem dX9_canNext_0 : decode cX9_canNext 0 = .ok (.iload_n 1, 1) := by decide +kernel
theorem dX9_canNext_1 : decode cX9_canNext 1 = .ok (.iload_n 2, 1) := by decide +kernel
theorem dX9_canNext_2 : decode cX9_canNext 2 = .ok (.invokestatic 119, 3) := by decide +kernel
theorem dX9_canNext_5 : decode cX9_canNext 5 = .ok (.ifCond .ne 19, 3) := by decide +kernel
theorem dX9_canNext_8 : decode cX9_canNext 8 = .ok (.aload_n 0, 1) := by decide +kernel
theorem dX9_canNext_9 : decode cX9_canNext 9 = .ok (.iload_n 2, 1) := by decide +kernel
theorem dX9_canNext_10 : decode cX9_canNext 10 = .ok (.invokevirtual 188, 3) := by decide +kernel
theorem dX9_canNext_13 : decode cX9_canNext 13 = .ok (.iload_n 1, 1) := by decide +kernel
theorem dX9_canNext_14 : decode cX9_canNext 14 = .ok (.iconst (-1), 1) := by decide +kernel
theorem dX9_canNext_15 : decode cX9_canNext 15 = .ok (.ixor, 1) := by decide +kernel
theorem dX9_canNext_16 : decode cX9_canNext 16 = .ok (.iand, 1) := by decide +kernel
theorem dX9_canNext_17 : decode cX9_canNext 17 = .ok (.ifCond .ne 7, 3) := by decide +kernel
theorem dX9_canNext_20 : decode cX9_canNext 20 = .ok (.iconst 1, 1) := by decide +kernel
theorem dX9_canNext_21 : decode cX9_canNext 21 = .ok (.goto 4, 3) := by decide +kernel
theorem dX9_canNext_24 : decode cX9_canNext 24 = .ok (.iconst 0, 1) := by decide +kernel
theorem dX9_canNext_25 : decode cX9_canNext 25 = .ok (.ireturn, 1) := by decide +kernel
set_option maxRecDepth 20000 in
theorem ggX9_counts_X9_canNext : GoodIn wsX9_counts wsX9_canNext := goodIn_r _ [7, 8, 9, 6, 10, 11, 12, 13, 14, 1, 15, 16, 17, 18, 19, 20, 21, 22, 23, 24, 25, 26, 27, 28, 29, 30, 31, 32, 33, 34, 35, 36, 37, 38, 39, 40, 41, 42, 43, 44, 45, 46, 47, 48, 49, 50, 51] (by decide +kernel) (by decide +kernel)
set_option maxRecDepth 20000 in
theorem gX9_counts_X9_canNext : GoodIn wsX9_counts (wsV RX9 237 RX9 yX9_canNext wsX9_canNext) := goodIn_app (goodIn_of _ (by decide +kernel)) ggX9_counts_X9_canNext
theorem dX9_counts_0 : decode cX9_counts 0 = .ok (.iconst 1, 1) := by decide +kernel
theorem dX9_counts_1 : decode cX9_counts 1 = .ok (.aload_n 0, 1) := by decide +kernel
theorem dX9_counts_2 : decode cX9_counts 2 = .ok (.getfield 145, 3) := by decide +kernel
theorem dX9_counts_5 : decode cX9_counts 5 = .ok (.ishl, 1) := by decide +kernel
theorem dX9_counts_6 : decode cX9_counts 6 = .ok (.iconst 1, 1) := by decide +kernel
theorem dX9_counts_7 : decode cX9_counts 7 = .ok (.isub, 1) := by decide +kernel
theorem dX9_counts_8 : decode cX9_counts 8 = .ok (.istore_n 1, 1) := by decide +kernel
theorem dX9_counts_9 : decode cX9_counts 9 = .ok (.iload_n 1, 1) := by decide +kernel
theorem dX9_counts_10 : decode cX9_counts 10 = .ok (.istore_n 2, 1) := by decide +kernel
theorem dX9_counts_11 : decode cX9_counts 11 = .ok (.iload_n 2, 1) := by decide +kernel
theorem dX9_counts_12 : decode cX9_counts 12 = .ok (.ifCond .lt 73, 3) := by decide +kernel
theorem dX9_counts_15 : decode cX9_counts 15 = .ok (.aload_n 0, 1) := by decide +kernel
theorem dX9_counts_16 : decode cX9_counts 16 = .ok (.getfield 53, 3) := by decide +kernel
theorem dX9_counts_19 : decode cX9_counts 19 = .ok (.iload_n 2, 1) := by decide +kernel
theorem dX9_counts_20 : decode cX9_counts 20 = .ok (.iload_n 2, 1) := by decide +kernel
theorem dX9_counts_21 : decode cX9_counts 21 = .ok (.iload_n 1, 1) := by decide +kernel
theorem dX9_counts_22 : decode cX9_counts 22 = .ok (.if_icmp .ne 7, 3) := by decide +kernel
theorem dX9_counts_25 : decode cX9_counts 25 = .ok (.lconst 1, 1) := by decide +kernel
theorem dX9_counts_26 : decode cX9_counts 26 = .ok (.goto 4, 3) := by decide +kernel
theorem dX9_counts_29 : decode cX9_counts 29 = .ok (.lconst 0, 1) := by decide +kernel
theorem dX9_counts_30 : decode cX9_counts 30 = .ok (.lastore, 1) := by decide +kernel
theorem dX9_counts_31 : decode cX9_counts 31 = .ok (.iconst 0, 1) := by decide +kernel
theorem dX9_counts_32 : decode cX9_counts 32 = .ok (.istore_n 3, 1) := by decide +kernel
theorem dX9_counts_33 : decode cX9_counts 33 = .ok (.iload_n 3, 1) := by decide +kernel
theorem dX9_counts_34 : decode cX9_counts 34 = .ok (.aload_n 0, 1) := by decide +kernel
theorem dX9_counts_35 : decode cX9_counts 35 = .ok (.getfield 145, 3) := by decide +kernel
theorem dX9_counts_38 : decode cX9_counts 38 = .ok (.if_icmp .ge 41, 3) := by decide +kernel
theorem dX9_counts_41 : decode cX9_counts 41 = .ok (.aload_n 0, 1) := by decide +kernel
theorem dX9_counts_42 : decode cX9_counts 42 = .ok (.getfield 53, 3) := by decide +kernel
theorem dX9_counts_45 : decode cX9_counts 45 = .ok (.iload_n 2, 1) := by decide +kernel
theorem dX9_counts_46 : decode cX9_counts 46 = .ok (.dup2, 1) := by decide +kernel
theorem dX9_counts_47 : decode cX9_counts 47 = .ok (.laload, 1) := by decide +kernel
theorem dX9_counts_48 : decode cX9_counts 48 = .ok (.aload_n 0, 1) := by decide +kernel
theorem dX9_counts_49 : decode cX9_counts 49 = .ok (.iload_n 2, 1) := by decide +kernel
theorem dX9_counts_50 : decode cX9_counts 50 = .ok (.iload_n 3, 1) := by decide +kernel
theorem dX9_counts_51 : decode cX9_counts 51 = .ok (.invokevirtual 237, 3) := by decide +kernel
theorem dX9_counts_54 : decode cX9_counts 54 = .ok (.ifCond .eq 16, 3) := by decide +kernel
theorem dX9_counts_57 : decode cX9_counts 57 = .ok (.aload_n 0, 1) := by decide +kernel
theorem dX9_counts_58 : decode cX9_counts 58 = .ok (.getfield 53, 3) := by decide +kernel
theorem dX9_counts_61 : decode cX9_counts 61 = .ok (.iload_n 2, 1) := by decide +kernel
theorem dX9_counts_62 : decode cX9_counts 62 = .ok (.iconst 1, 1) := by decide +kernel
theorem dX9_counts_63 : decode cX9_counts 63 = .ok (.iload_n 3, 1) := by decide +kernel
theorem dX9_counts_64 : decode cX9_counts 64 = .ok (.ishl, 1) := by decide +kernel
theorem dX9_counts_65 : decode cX9_counts 65 = .ok (.ior, 1) := by decide +kernel
theorem dX9_counts_66 : decode cX9_counts 66 = .ok (.laload, 1) := by decide +kernel
theorem dX9_counts_67 : decode cX9_counts 67 = .ok (.goto 4, 3) := by decide +kernel
theorem dX9_counts_70 : decode cX9_counts 70 = .ok (.lconst 0, 1) := by decide +kernel
theorem dX9_counts_71 : decode cX9_counts 71 = .ok (.ladd, 1) := by decide +kernel
theorem dX9_counts_72 : decode cX9_counts 72 = .ok (.lastore, 1) := by decide +kernel
theorem dX9_counts_73 : decode cX9_counts 73 = .ok (.iinc 3 1, 3) := by decide +kernel
theorem dX9_counts_76 : decode cX9_counts 76 = .ok (.goto (-43), 3) := by decide +kernel
theorem dX9_counts_79 : decode cX9_counts 79 = .ok (.iinc 2 (-1), 3) := by decide +kernel
theorem dX9_counts_82 : decode cX9_counts 82 = .ok (.goto (-71), 3) := by decide +kernel
theorem dX9_counts_85 : decode cX9_counts 85 = .ok (.return_, 1) := by decide +kernel
set_option maxRecDepth 20000 in
theorem ggX9_orderOf_X9_canNext : GoodIn wsX9_orderOf wsX9_canNext := goodIn_r _ [8, 9, 10, 7, 11, 12, 13, 14, 15, 1, 16, 17, 18, 19, 20, 21, 22, 23, 24, 25, 26, 27, 28, 29, 30, 31, 32, 33, 34, 35, 36, 37, 38, 39, 40, 41, 42, 43, 44, 45, 46, 47, 48, 49, 50, 51, 52] (by decide +kernel) (by decide +kernel)
set_option maxRecDepth 20000 in
theorem gX9_orderOf_X9_canNext : GoodIn wsX9_orderOf (wsV RX9 237 RX9 yX9_canNext wsX9_canNext) := goodIn_app (goodIn_of _ (by decide +kernel)) ggX9_orderOf_X9_canNext
theorem dX9_orderOf_0 : decode cX9_orderOf 0 = .ok (.lload_n 1, 1) := by decide +kernel
theorem dX9_orderOf_1 : decode cX9_orderOf 1 = .ok (.lstore_n 3, 1) := by decide +kernel
theorem dX9_orderOf_2 : decode cX9_orderOf 2 = .ok (.iconst 0, 1) := by decide +kernel
theorem dX9_orderOf_3 : decode cX9_orderOf 3 = .ok (.istore 5, 2) := by decide +kernel
theorem dX9_orderOf_5 : decode cX9_orderOf 5 = .ok (.iconst 0, 1) := by decide +kernel
theorem dX9_orderOf_6 : decode cX9_orderOf 6 = .ok (.istore 6, 2) := by decide +kernel
theorem dX9_orderOf_8 : decode cX9_orderOf 8 = .ok (.iload 6, 2) := by decide +kernel
theorem dX9_orderOf_10 : decode cX9_orderOf 10 = .ok (.aload_n 0, 1) := by decide +kernel
theorem dX9_orderOf_11 : decode cX9_orderOf 11 = .ok (.getfield 145, 3) := by decide +kernel
theorem dX9_orderOf_14 : decode cX9_orderOf 14 = .ok (.if_icmp .ge 94, 3) := by decide +kernel
theorem dX9_orderOf_17 : decode cX9_orderOf 17 = .ok (.iconst 0, 1) := by decide +kernel
theorem dX9_orderOf_18 : decode cX9_orderOf 18 = .ok (.istore 7, 2) := by decide +kernel
theorem dX9_orderOf_20 : decode cX9_orderOf 20 = .ok (.aload_n 0, 1) := by decide +kernel
theorem dX9_orderOf_21 : decode cX9_orderOf 21 = .ok (.iload 5, 2) := by decide +kernel
theorem dX9_orderOf_23 : decode cX9_orderOf 23 = .ok (.iload 7, 2) := by decide +kernel
theorem dX9_orderOf_25 : decode cX9_orderOf 25 = .ok (.invokevirtual 237, 3) := by decide +kernel
theorem dX9_orderOf_28 : decode cX9_orderOf 28 = .ok (.ifCond .eq 20, 3) := by decide +kernel
theorem dX9_orderOf_31 : decode cX9_orderOf 31 = .ok (.lload_n 3, 1) := by decide +kernel
theorem dX9_orderOf_32 : decode cX9_orderOf 32 = .ok (.aload_n 0, 1) := by decide +kernel
theorem dX9_orderOf_33 : decode cX9_orderOf 33 = .ok (.getfield 53, 3) := by decide +kernel
theorem dX9_orderOf_36 : decode cX9_orderOf 36 = .ok (.iload 5, 2) := by decide +kernel
theorem dX9_orderOf_38 : decode cX9_orderOf 38 = .ok (.iconst 1, 1) := by decide +kernel
theorem dX9_orderOf_39 : decode cX9_orderOf 39 = .ok (.iload 7, 2) := by decide +kernel
theorem dX9_orderOf_41 : decode cX9_orderOf 41 = .ok (.ishl, 1) := by decide +kernel
theorem dX9_orderOf_42 : decode cX9_orderOf 42 = .ok (.ior, 1) := by decide +kernel
theorem dX9_orderOf_43 : decode cX9_orderOf 43 = .ok (.laload, 1) := by decide +kernel
theorem dX9_orderOf_44 : decode cX9_orderOf 44 = .ok (.lcmp, 1) := by decide +kernel
theorem dX9_orderOf_45 : decode cX9_orderOf 45 = .ok (.ifCond .lt 39, 3) := by decide +kernel
theorem dX9_orderOf_48 : decode cX9_orderOf 48 = .ok (.lload_n 3, 1) := by decide +kernel
theorem dX9_orderOf_49 : decode cX9_orderOf 49 = .ok (.aload_n 0, 1) := by decide +kernel
theorem dX9_orderOf_50 : decode cX9_orderOf 50 = .ok (.iload 5, 2) := by decide +kernel
theorem dX9_orderOf_52 : decode cX9_orderOf 52 = .ok (.iload 7, 2) := by decide +kernel
theorem dX9_orderOf_54 : decode cX9_orderOf 54 = .ok (.invokevirtual 237, 3) := by decide +kernel
theorem dX9_orderOf_57 : decode cX9_orderOf 57 = .ok (.ifCond .eq 18, 3) := by decide +kernel
theorem dX9_orderOf_60 : decode cX9_orderOf 60 = .ok (.aload_n 0, 1) := by decide +kernel
theorem dX9_orderOf_61 : decode cX9_orderOf 61 = .ok (.getfield 53, 3) := by decide +kernel
theorem dX9_orderOf_64 : decode cX9_orderOf 64 = .ok (.iload 5, 2) := by decide +kernel
theorem dX9_orderOf_66 : decode cX9_orderOf 66 = .ok (.iconst 1, 1) := by decide +kernel
theorem dX9_orderOf_67 : decode cX9_orderOf 67 = .ok (.iload 7, 2) := by decide +kernel
theorem dX9_orderOf_69 : decode cX9_orderOf 69 = .ok (.ishl, 1) := by decide +kernel
theorem dX9_orderOf_70 : decode cX9_orderOf 70 = .ok (.ior, 1) := by decide +kernel
theorem dX9_orderOf_71 : decode cX9_orderOf 71 = .ok (.laload, 1) := by decide +kernel
theorem dX9_orderOf_72 : decode cX9_orderOf 72 = .ok (.goto 4, 3) := by decide +kernel
theorem dX9_orderOf_75 : decode cX9_orderOf 75 = .ok (.lconst 0, 1) := by decide +kernel
theorem dX9_orderOf_76 : decode cX9_orderOf 76 = .ok (.lsub, 1) := by decide +kernel
theorem dX9_orderOf_77 : decode cX9_orderOf 77 = .ok (.lstore_n 3, 1) := by decide +kernel
theorem dX9_orderOf_78 : decode cX9_orderOf 78 = .ok (.iinc 7 1, 3) := by decide +kernel
theorem dX9_orderOf_81 : decode cX9_orderOf 81 = .ok (.goto (-61), 3) := by decide +kernel
theorem dX9_orderOf_84 : decode cX9_orderOf 84 = .ok (.aload_n 0, 1) := by decide +kernel
theorem dX9_orderOf_85 : decode cX9_orderOf 85 = .ok (.getfield 60, 3) := by decide +kernel
theorem dX9_orderOf_88 : decode cX9_orderOf 88 = .ok (.iload 6, 2) := by decide +kernel
theorem dX9_orderOf_90 : decode cX9_orderOf 90 = .ok (.iload 7, 2) := by decide +kernel
theorem dX9_orderOf_92 : decode cX9_orderOf 92 = .ok (.iastore, 1) := by decide +kernel
theorem dX9_orderOf_93 : decode cX9_orderOf 93 = .ok (.iload 5, 2) := by decide +kernel
theorem dX9_orderOf_95 : decode cX9_orderOf 95 = .ok (.iconst 1, 1) := by decide +kernel
theorem dX9_orderOf_96 : decode cX9_orderOf 96 = .ok (.iload 7, 2) := by decide +kernel
theorem dX9_orderOf_98 : decode cX9_orderOf 98 = .ok (.ishl, 1) := by decide +kernel
theorem dX9_orderOf_99 : decode cX9_orderOf 99 = .ok (.ior, 1) := by decide +kernel
theorem dX9_orderOf_100 : decode cX9_orderOf 100 = .ok (.istore 5, 2) := by decide +kernel
theorem dX9_orderOf_102 : decode cX9_orderOf 102 = .ok (.iinc 6 1, 3) := by decide +kernel
theorem dX9_orderOf_105 : decode cX9_orderOf 105 = .ok (.goto (-97), 3) := by decide +kernel
theorem dX9_orderOf_108 : decode cX9_orderOf 108 = .ok (.return_, 1) := by decide +kernel
set_option maxRecDepth 20000 in
theorem ggX9_orders_X9_counts : GoodIn wsX9_orders wsX9_counts := goodIn_r _ [7, 8, 2, 9, 10, 11, 6, 12, 13, 14, 15, 16, 17, 18, 19, 20, 21, 22, 23, 24, 25, 26, 27, 28, 29, 30, 31, 32, 33, 34, 35, 36, 37, 38, 39, 40, 41, 42, 43, 44, 45, 46, 47, 48, 49, 50, 51, 52, 53, 54, 55, 56] (by decide +kernel) (by decide +kernel)
set_option maxRecDepth 20000 in
theorem gX9_orders_X9_counts : GoodIn wsX9_orders (wsV RX9 230 RX9 yX9_counts wsX9_counts) := goodIn_app (goodIn_of _ (by decide +kernel)) ggX9_orders_X9_counts
theorem dX9_orders_0 : decode cX9_orders 0 = .ok (.aload_n 0, 1) := by decide +kernel
theorem dX9_orders_1 : decode cX9_orders 1 = .ok (.iconst 0, 1) := by decide +kernel
theorem dX9_orders_2 : decode cX9_orders 2 = .ok (.putfield 75, 3) := by decide +kernel
theorem dX9_orders_5 : decode cX9_orders 5 = .ok (.aload_n 0, 1) := by decide +kernel
theorem dX9_orders_6 : decode cX9_orders 6 = .ok (.invokevirtual 230, 3) := by decide +kernel
theorem dX9_orders_9 : decode cX9_orders 9 = .ok (.aload_n 0, 1) := by decide +kernel
theorem dX9_orders_10 : decode cX9_orders 10 = .ok (.getfield 53, 3) := by decide +kernel
theorem dX9_orders_13 : decode cX9_orders 13 = .ok (.iconst 0, 1) := by decide +kernel
theorem dX9_orders_14 : decode cX9_orders 14 = .ok (.laload, 1) := by decide +kernel
theorem dX9_orders_15 : decode cX9_orders 15 = .ok (.lreturn, 1) := by decide +kernel
set_option maxRecDepth 20000 in
theorem ggX9_number_X9_counts : GoodIn wsX9_number wsX9_counts := goodIn_r _ [9, 2, 4, 10, 11, 12, 8, 13, 14, 15, 16, 17, 18, 19, 20, 3, 24, 25, 26, 27, 28, 29, 30, 31, 32, 33, 34, 35, 36, 37, 38, 39, 40, 41, 42, 43, 44, 45, 46, 47, 48, 49, 50, 51, 52, 53, 54, 55, 56, 57, 58, 59] (by decide +kernel) (by decide +kernel)
set_option maxRecDepth 20000 in
theorem gX9_number_X9_counts : GoodIn wsX9_number (wsV RX9 230 RX9 yX9_counts wsX9_counts) := goodIn_app (goodIn_of _ (by decide +kernel)) ggX9_number_X9_counts
set_option maxRecDepth 20000 in
theorem ggX9_number_X9_itemAt : GoodIn wsX9_number wsX9_itemAt := goodIn_r _ [23] (by decide +kernel) (by decide +kernel)
set_option maxRecDepth 20000 in
theorem gX9_number_X9_itemAt : GoodIn wsX9_number (va_wsS RX9 170 yX9_itemAt wsX9_itemAt) := goodIn_app (goodIn_of _ (by decide +kernel)) ggX9_number_X9_itemAt
set_option maxRecDepth 20000 in
theorem ggX9_number_X9_canNext : GoodIn wsX9_number wsX9_canNext := goodIn_r _ [13, 14, 15, 8, 16, 17, 18, 19, 20, 2, 3, 24, 25, 26, 27, 28, 29, 30, 31, 32, 33, 34, 35, 36, 37, 38, 39, 40, 41, 42, 43, 44, 45, 46, 47, 48, 49, 50, 51, 52, 53, 54, 55, 56, 57, 58, 59] (by decide +kernel) (by decide +kernel)
set_option maxRecDepth 20000 in
theorem gX9_number_X9_canNext : GoodIn wsX9_number (wsV RX9 237 RX9 yX9_canNext wsX9_canNext) := goodIn_app (goodIn_of _ (by decide +kernel)) ggX9_number_X9_canNext
theorem dX9_number_0 : decode cX9_number 0 = .ok (.aload_n 0, 1) := by decide +kernel
theorem dX9_number_1 : decode cX9_number 1 = .ok (.iconst 0, 1) := by decide +kernel
theorem dX9_number_2 : decode cX9_number 2 = .ok (.putfield 75, 3) := by decide +kernel
theorem dX9_number_5 : decode cX9_number 5 = .ok (.aload_n 0, 1) := by decide +kernel
theorem dX9_number_6 : decode cX9_number 6 = .ok (.invokevirtual 230, 3) := by decide +kernel
theorem dX9_number_9 : decode cX9_number 9 = .ok (.lconst 0, 1) := by decide +kernel
theorem dX9_number_10 : decode cX9_number 10 = .ok (.lstore_n 1, 1) := by decide +kernel
theorem dX9_number_11 : decode cX9_number 11 = .ok (.iconst 0, 1) := by decide +kernel
theorem dX9_number_12 : decode cX9_number 12 = .ok (.istore_n 3, 1) := by decide +kernel
theorem dX9_number_13 : decode cX9_number 13 = .ok (.iconst 0, 1) := by decide +kernel
theorem dX9_number_14 : decode cX9_number 14 = .ok (.istore 4, 2) := by decide +kernel
theorem dX9_number_16 : decode cX9_number 16 = .ok (.iload 4, 2) := by decide +kernel
theorem dX9_number_18 : decode cX9_number 18 = .ok (.aload_n 0, 1) := by decide +kernel
theorem dX9_number_19 : decode cX9_number 19 = .ok (.getfield 145, 3) := by decide +kernel
theorem dX9_number_22 : decode cX9_number 22 = .ok (.if_icmp .ge 75, 3) := by decide +kernel
theorem dX9_number_25 : decode cX9_number 25 = .ok (.aload_n 0, 1) := by decide +kernel
theorem dX9_number_26 : decode cX9_number 26 = .ok (.getfield 16, 3) := by decide +kernel
theorem dX9_number_29 : decode cX9_number 29 = .ok (.aload_n 0, 1) := by decide +kernel
theorem dX9_number_30 : decode cX9_number 30 = .ok (.getfield 145, 3) := by decide +kernel
theorem dX9_number_33 : decode cX9_number 33 = .ok (.iload 4, 2) := by decide +kernel
theorem dX9_number_35 : decode cX9_number 35 = .ok (.invokestatic 170, 3) := by decide +kernel
theorem dX9_number_38 : decode cX9_number 38 = .ok (.istore 5, 2) := by decide +kernel
theorem dX9_number_40 : decode cX9_number 40 = .ok (.iconst 0, 1) := by decide +kernel
theorem dX9_number_41 : decode cX9_number 41 = .ok (.istore 6, 2) := by decide +kernel
theorem dX9_number_43 : decode cX9_number 43 = .ok (.iload 6, 2) := by decide +kernel
theorem dX9_number_45 : decode cX9_number 45 = .ok (.iload 5, 2) := by decide +kernel
theorem dX9_number_47 : decode cX9_number 47 = .ok (.if_icmp .ge 37, 3) := by decide +kernel
theorem dX9_number_50 : decode cX9_number 50 = .ok (.lload_n 1, 1) := by decide +kernel
theorem dX9_number_51 : decode cX9_number 51 = .ok (.aload_n 0, 1) := by decide +kernel
theorem dX9_number_52 : decode cX9_number 52 = .ok (.iload_n 3, 1) := by decide +kernel
theorem dX9_number_53 : decode cX9_number 53 = .ok (.iload 6, 2) := by decide +kernel
theorem dX9_number_55 : decode cX9_number 55 = .ok (.invokevirtual 237, 3) := by decide +kernel
theorem dX9_number_58 : decode cX9_number 58 = .ok (.ifCond .eq 17, 3) := by decide +kernel
theorem dX9_number_61 : decode cX9_number 61 = .ok (.aload_n 0, 1) := by decide +kernel
theorem dX9_number_62 : decode cX9_number 62 = .ok (.getfield 53, 3) := by decide +kernel
theorem dX9_number_65 : decode cX9_number 65 = .ok (.iload_n 3, 1) := by decide +kernel
theorem dX9_number_66 : decode cX9_number 66 = .ok (.iconst 1, 1) := by decide +kernel
theorem dX9_number_67 : decode cX9_number 67 = .ok (.iload 6, 2) := by decide +kernel
theorem dX9_number_69 : decode cX9_number 69 = .ok (.ishl, 1) := by decide +kernel
theorem dX9_number_70 : decode cX9_number 70 = .ok (.ior, 1) := by decide +kernel
theorem dX9_number_71 : decode cX9_number 71 = .ok (.laload, 1) := by decide +kernel
theorem dX9_number_72 : decode cX9_number 72 = .ok (.goto 4, 3) := by decide +kernel
theorem dX9_number_75 : decode cX9_number 75 = .ok (.lconst 0, 1) := by decide +kernel
theorem dX9_number_76 : decode cX9_number 76 = .ok (.ladd, 1) := by decide +kernel
theorem dX9_number_77 : decode cX9_number 77 = .ok (.lstore_n 1, 1) := by decide +kernel
theorem dX9_number_78 : decode cX9_number 78 = .ok (.iinc 6 1, 3) := by decide +kernel
theorem dX9_number_81 : decode cX9_number 81 = .ok (.goto (-38), 3) := by decide +kernel
theorem dX9_number_84 : decode cX9_number 84 = .ok (.iload_n 3, 1) := by decide +kernel
theorem dX9_number_85 : decode cX9_number 85 = .ok (.iconst 1, 1) := by decide +kernel
theorem dX9_number_86 : decode cX9_number 86 = .ok (.iload 5, 2) := by decide +kernel
theorem dX9_number_88 : decode cX9_number 88 = .ok (.ishl, 1) := by decide +kernel
theorem dX9_number_89 : decode cX9_number 89 = .ok (.ior, 1) := by decide +kernel
theorem dX9_number_90 : decode cX9_number 90 = .ok (.istore_n 3, 1) := by decide +kernel
theorem dX9_number_91 : decode cX9_number 91 = .ok (.iinc 4 1, 3) := by decide +kernel
theorem dX9_number_94 : decode cX9_number 94 = .ok (.goto (-78), 3) := by decide +kernel
theorem dX9_number_97 : decode cX9_number 97 = .ok (.lload_n 1, 1) := by decide +kernel
theorem dX9_number_98 : decode cX9_number 98 = .ok (.lreturn, 1) := by decide +kernel
set_option maxRecDepth 20000 in
theorem ggX9_kth_X9_isItem : GoodIn wsX9_kth wsX9_isItem := goodIn_r _ [8, 9, 10, 11, 7, 12, 33, 34, 35, 36, 37, 38, 39, 40, 41, 42, 43, 44, 45, 46, 47, 48, 49, 50, 51, 52, 53, 54, 55, 56, 57, 58, 59, 60, 61, 62, 63, 64, 65, 66, 67, 68] (by decide +kernel) (by decide +kernel)
set_option maxRecDepth 20000 in
theorem gX9_kth_X9_isItem : GoodIn wsX9_kth (wsV RX9 161 RX9 yX9_isItem wsX9_isItem) := goodIn_app (goodIn_of _ (by decide +kernel)) ggX9_kth_X9_isItem
set_option maxRecDepth 20000 in
theorem ggX9_kth_X9_counts : GoodIn wsX9_kth wsX9_counts := goodIn_r _ [16, 9, 2, 17, 18, 19, 7, 20, 21, 22, 23, 24, 25, 26, 27, 28, 33, 34, 35, 36, 37, 38, 39, 40, 41, 42, 43, 44, 45, 46, 47, 48, 49, 50, 51, 52, 53, 54, 55, 56, 57, 58, 59, 60, 61, 62, 63, 64, 65, 66, 67, 68] (by decide +kernel) (by decide +kernel)
set_option maxRecDepth 20000 in
theorem gX9_kth_X9_counts : GoodIn wsX9_kth (wsV RX9 230 RX9 yX9_counts wsX9_counts) := goodIn_app (goodIn_of _ (by decide +kernel)) ggX9_kth_X9_counts
set_option maxRecDepth 20000 in
theorem ggX9_kth_X9_orderOf : GoodIn wsX9_kth wsX9_orderOf := goodIn_r _ [32, 9, 2, 3, 17, 18, 19, 7, 20, 21, 22, 23, 24, 25, 26, 27, 28, 33, 34, 35, 36, 37, 38, 39, 40, 41, 42, 43, 44, 45, 46, 47, 48, 49, 50, 51, 52, 53, 54, 55, 56, 57, 58, 59, 60, 61, 62, 63, 64, 65, 66, 67, 68] (by decide +kernel) (by decide +kernel)
set_option maxRecDepth 20000 in
theorem gX9_kth_X9_orderOf : GoodIn wsX9_kth (wsV RX9 233 RX9 yX9_orderOf wsX9_orderOf) := goodIn_app (goodIn_of _ (by decide +kernel)) ggX9_kth_X9_orderOf
theorem dX9_kth_0 : decode cX9_kth 0 = .ok (.aload_n 0, 1) := by decide +kernel
theorem dX9_kth_1 : decode cX9_kth 1 = .ok (.iconst 0, 1) := by decide +kernel
theorem dX9_kth_2 : decode cX9_kth 2 = .ok (.putfield 75, 3) := by decide +kernel
theorem dX9_kth_5 : decode cX9_kth 5 = .ok (.lload_n 1, 1) := by decide +kernel
theorem dX9_kth_6 : decode cX9_kth 6 = .ok (.lconst 0, 1) := by decide +kernel
theorem dX9_kth_7 : decode cX9_kth 7 = .ok (.lcmp, 1) := by decide +kernel
theorem dX9_kth_8 : decode cX9_kth 8 = .ok (.ifCond .lt 11, 3) := by decide +kernel
theorem dX9_kth_11 : decode cX9_kth 11 = .ok (.aload_n 0, 1) := by decide +kernel
theorem dX9_kth_12 : decode cX9_kth 12 = .ok (.iload_n 3, 1) := by decide +kernel
theorem dX9_kth_13 : decode cX9_kth 13 = .ok (.invokevirtual 161, 3) := by decide +kernel
theorem dX9_kth_16 : decode cX9_kth 16 = .ok (.ifCond .ne 5, 3) := by decide +kernel
theorem dX9_kth_19 : decode cX9_kth 19 = .ok (.iconst (-1), 1) := by decide +kernel
theorem dX9_kth_20 : decode cX9_kth 20 = .ok (.ireturn, 1) := by decide +kernel
theorem dX9_kth_21 : decode cX9_kth 21 = .ok (.aload_n 0, 1) := by decide +kernel
theorem dX9_kth_22 : decode cX9_kth 22 = .ok (.invokevirtual 230, 3) := by decide +kernel
theorem dX9_kth_25 : decode cX9_kth 25 = .ok (.lload_n 1, 1) := by decide +kernel
theorem dX9_kth_26 : decode cX9_kth 26 = .ok (.aload_n 0, 1) := by decide +kernel
theorem dX9_kth_27 : decode cX9_kth 27 = .ok (.getfield 53, 3) := by decide +kernel
theorem dX9_kth_30 : decode cX9_kth 30 = .ok (.iconst 0, 1) := by decide +kernel
theorem dX9_kth_31 : decode cX9_kth 31 = .ok (.laload, 1) := by decide +kernel
theorem dX9_kth_32 : decode cX9_kth 32 = .ok (.lcmp, 1) := by decide +kernel
theorem dX9_kth_33 : decode cX9_kth 33 = .ok (.ifCond .lt 6, 3) := by decide +kernel
theorem dX9_kth_36 : decode cX9_kth 36 = .ok (.bipush (-9), 2) := by decide +kernel
theorem dX9_kth_38 : decode cX9_kth 38 = .ok (.ireturn, 1) := by decide +kernel
theorem dX9_kth_39 : decode cX9_kth 39 = .ok (.aload_n 0, 1) := by decide +kernel
theorem dX9_kth_40 : decode cX9_kth 40 = .ok (.lload_n 1, 1) := by decide +kernel
theorem dX9_kth_41 : decode cX9_kth 41 = .ok (.invokevirtual 233, 3) := by decide +kernel
theorem dX9_kth_44 : decode cX9_kth 44 = .ok (.aload_n 0, 1) := by decide +kernel
theorem dX9_kth_45 : decode cX9_kth 45 = .ok (.getfield 60, 3) := by decide +kernel
theorem dX9_kth_48 : decode cX9_kth 48 = .ok (.iload_n 3, 1) := by decide +kernel
theorem dX9_kth_49 : decode cX9_kth 49 = .ok (.iaload, 1) := by decide +kernel
theorem dX9_kth_50 : decode cX9_kth 50 = .ok (.ireturn, 1) := by decide +kernel
set_option maxRecDepth 20000 in
theorem ggX9_makes_X9_ones : GoodIn wsX9_makes wsX9_ones := goodIn_r _ [5] (by decide +kernel) (by decide +kernel)
set_option maxRecDepth 20000 in
theorem gX9_makes_X9_ones : GoodIn wsX9_makes (va_wsS RX9 194 yX9_ones wsX9_ones) := goodIn_app (goodIn_of _ (by decide +kernel)) ggX9_makes_X9_ones
theorem dX9_makes_0 : decode cX9_makes 0 = .ok (.iload_n 2, 1) := by decide +kernel
theorem dX9_makes_1 : decode cX9_makes 1 = .ok (.istore 4, 2) := by decide +kernel
theorem dX9_makes_3 : decode cX9_makes 3 = .ok (.iload 4, 2) := by decide +kernel
theorem dX9_makes_5 : decode cX9_makes 5 = .ok (.ifCond .eq 62, 3) := by decide +kernel
theorem dX9_makes_8 : decode cX9_makes 8 = .ok (.iload_n 1, 1) := by decide +kernel
theorem dX9_makes_9 : decode cX9_makes 9 = .ok (.iload 4, 2) := by decide +kernel
theorem dX9_makes_11 : decode cX9_makes 11 = .ok (.ior, 1) := by decide +kernel
theorem dX9_makes_12 : decode cX9_makes 12 = .ok (.istore 5, 2) := by decide +kernel
theorem dX9_makes_14 : decode cX9_makes 14 = .ok (.iload 4, 2) := by decide +kernel
theorem dX9_makes_16 : decode cX9_makes 16 = .ok (.invokestatic 194, 3) := by decide +kernel
theorem dX9_makes_19 : decode cX9_makes 19 = .ok (.iload_n 3, 1) := by decide +kernel
theorem dX9_makes_20 : decode cX9_makes 20 = .ok (.if_icmp .gt 36, 3) := by decide +kernel
theorem dX9_makes_23 : decode cX9_makes 23 = .ok (.aload_n 0, 1) := by decide +kernel
theorem dX9_makes_24 : decode cX9_makes 24 = .ok (.getfield 57, 3) := by decide +kernel
theorem dX9_makes_27 : decode cX9_makes 27 = .ok (.iload 5, 2) := by decide +kernel
theorem dX9_makes_29 : decode cX9_makes 29 = .ok (.iaload, 1) := by decide +kernel
theorem dX9_makes_30 : decode cX9_makes 30 = .ok (.aload_n 0, 1) := by decide +kernel
theorem dX9_makes_31 : decode cX9_makes 31 = .ok (.getfield 57, 3) := by decide +kernel
theorem dX9_makes_34 : decode cX9_makes 34 = .ok (.iload_n 1, 1) := by decide +kernel
theorem dX9_makes_35 : decode cX9_makes 35 = .ok (.iaload, 1) := by decide +kernel
theorem dX9_makes_36 : decode cX9_makes 36 = .ok (.iconst 1, 1) := by decide +kernel
theorem dX9_makes_37 : decode cX9_makes 37 = .ok (.iadd, 1) := by decide +kernel
theorem dX9_makes_38 : decode cX9_makes 38 = .ok (.if_icmp .le 18, 3) := by decide +kernel
theorem dX9_makes_41 : decode cX9_makes 41 = .ok (.aload_n 0, 1) := by decide +kernel
theorem dX9_makes_42 : decode cX9_makes 42 = .ok (.getfield 57, 3) := by decide +kernel
theorem dX9_makes_45 : decode cX9_makes 45 = .ok (.iload 5, 2) := by decide +kernel
theorem dX9_makes_47 : decode cX9_makes 47 = .ok (.aload_n 0, 1) := by decide +kernel
theorem dX9_makes_48 : decode cX9_makes 48 = .ok (.getfield 57, 3) := by decide +kernel
theorem dX9_makes_51 : decode cX9_makes 51 = .ok (.iload_n 1, 1) := by decide +kernel
theorem dX9_makes_52 : decode cX9_makes 52 = .ok (.iaload, 1) := by decide +kernel
theorem dX9_makes_53 : decode cX9_makes 53 = .ok (.iconst 1, 1) := by decide +kernel
theorem dX9_makes_54 : decode cX9_makes 54 = .ok (.iadd, 1) := by decide +kernel
theorem dX9_makes_55 : decode cX9_makes 55 = .ok (.iastore, 1) := by decide +kernel
theorem dX9_makes_56 : decode cX9_makes 56 = .ok (.iload 4, 2) := by decide +kernel
theorem dX9_makes_58 : decode cX9_makes 58 = .ok (.iconst 1, 1) := by decide +kernel
theorem dX9_makes_59 : decode cX9_makes 59 = .ok (.isub, 1) := by decide +kernel
theorem dX9_makes_60 : decode cX9_makes 60 = .ok (.iload_n 2, 1) := by decide +kernel
theorem dX9_makes_61 : decode cX9_makes 61 = .ok (.iand, 1) := by decide +kernel
theorem dX9_makes_62 : decode cX9_makes 62 = .ok (.istore 4, 2) := by decide +kernel
theorem dX9_makes_64 : decode cX9_makes 64 = .ok (.goto (-61), 3) := by decide +kernel
theorem dX9_makes_67 : decode cX9_makes 67 = .ok (.return_, 1) := by decide +kernel
set_option maxRecDepth 20000 in
theorem ggX9_days_X9_in : GoodIn wsX9_days wsX9_in := goodIn_r _ [7] (by decide +kernel) (by decide +kernel)
set_option maxRecDepth 20000 in
theorem gX9_days_X9_in : GoodIn wsX9_days (va_wsS RX9 79 yX9_in wsX9_in) := goodIn_app (goodIn_of _ (by decide +kernel)) ggX9_days_X9_in
set_option maxRecDepth 20000 in
theorem ggX9_days_X9_canNext : GoodIn wsX9_days wsX9_canNext := goodIn_r _ [11, 12, 13, 6, 14, 15, 16, 17, 18, 2, 19, 27, 28, 29, 30, 31, 32, 33, 34, 35, 36, 37, 38, 39, 40, 41, 42, 43, 44, 45, 46, 47, 48, 49, 50, 51, 52, 53, 54, 55, 56, 57, 58, 59, 60, 61, 62] (by decide +kernel) (by decide +kernel)
set_option maxRecDepth 20000 in
theorem gX9_days_X9_canNext : GoodIn wsX9_days (wsV RX9 237 RX9 yX9_canNext wsX9_canNext) := goodIn_app (goodIn_of _ (by decide +kernel)) ggX9_days_X9_canNext
set_option maxRecDepth 20000 in
theorem ggX9_days_X9_makes : GoodIn wsX9_days wsX9_makes := goodIn_r _ [23, 3, 24, 25, 6, 26, 27, 28, 29, 30, 31, 32, 33, 34, 35, 36, 37, 38, 39, 40, 41, 42, 43, 44, 45, 46, 47, 48, 49, 50, 51, 52, 53, 54, 55, 56, 57, 58, 59, 60, 61, 62] (by decide +kernel) (by decide +kernel)
set_option maxRecDepth 20000 in
theorem gX9_days_X9_makes : GoodIn wsX9_days (wsV RX9 240 RX9 yX9_makes wsX9_makes) := goodIn_app (goodIn_of _ (by decide +kernel)) ggX9_days_X9_makes
theorem dX9_days_0 : decode cX9_days 0 = .ok (.aload_n 0, 1) := by decide +kernel
theorem dX9_days_1 : decode cX9_days 1 = .ok (.iconst 0, 1) := by decide +kernel
theorem dX9_days_2 : decode cX9_days 2 = .ok (.putfield 75, 3) := by decide +kernel
theorem dX9_days_5 : decode cX9_days 5 = .ok (.iload_n 1, 1) := by decide +kernel
theorem dX9_days_6 : decode cX9_days 6 = .ok (.iconst 1, 1) := by decide +kernel
theorem dX9_days_7 : decode cX9_days 7 = .ok (.iconst 3, 1) := by decide +kernel
theorem dX9_days_8 : decode cX9_days 8 = .ok (.invokestatic 79, 3) := by decide +kernel
theorem dX9_days_11 : decode cX9_days 11 = .ok (.ifCond .ne 5, 3) := by decide +kernel
theorem dX9_days_14 : decode cX9_days 14 = .ok (.iconst (-1), 1) := by decide +kernel
theorem dX9_days_15 : decode cX9_days 15 = .ok (.ireturn, 1) := by decide +kernel
theorem dX9_days_16 : decode cX9_days 16 = .ok (.iconst 1, 1) := by decide +kernel
theorem dX9_days_17 : decode cX9_days 17 = .ok (.aload_n 0, 1) := by decide +kernel
theorem dX9_days_18 : decode cX9_days 18 = .ok (.getfield 145, 3) := by decide +kernel
theorem dX9_days_21 : decode cX9_days 21 = .ok (.ishl, 1) := by decide +kernel
theorem dX9_days_22 : decode cX9_days 22 = .ok (.iconst 1, 1) := by decide +kernel
theorem dX9_days_23 : decode cX9_days 23 = .ok (.isub, 1) := by decide +kernel
theorem dX9_days_24 : decode cX9_days 24 = .ok (.istore_n 2, 1) := by decide +kernel
theorem dX9_days_25 : decode cX9_days 25 = .ok (.iconst 0, 1) := by decide +kernel
theorem dX9_days_26 : decode cX9_days 26 = .ok (.istore_n 3, 1) := by decide +kernel
theorem dX9_days_27 : decode cX9_days 27 = .ok (.iload_n 3, 1) := by decide +kernel
theorem dX9_days_28 : decode cX9_days 28 = .ok (.iload_n 2, 1) := by decide +kernel
theorem dX9_days_29 : decode cX9_days 29 = .ok (.if_icmp .gt 25, 3) := by decide +kernel
theorem dX9_days_32 : decode cX9_days 32 = .ok (.aload_n 0, 1) := by decide +kernel
theorem dX9_days_33 : decode cX9_days 33 = .ok (.getfield 57, 3) := by decide +kernel
theorem dX9_days_36 : decode cX9_days 36 = .ok (.iload_n 3, 1) := by decide +kernel
theorem dX9_days_37 : decode cX9_days 37 = .ok (.iload_n 3, 1) := by decide +kernel
theorem dX9_days_38 : decode cX9_days 38 = .ok (.ifCond .ne 7, 3) := by decide +kernel
theorem dX9_days_41 : decode cX9_days 41 = .ok (.iconst 0, 1) := by decide +kernel
theorem dX9_days_42 : decode cX9_days 42 = .ok (.goto 5, 3) := by decide +kernel
theorem dX9_days_45 : decode cX9_days 45 = .ok (.bipush 99, 2) := by decide +kernel
theorem dX9_days_47 : decode cX9_days 47 = .ok (.iastore, 1) := by decide +kernel
theorem dX9_days_48 : decode cX9_days 48 = .ok (.iinc 3 1, 3) := by decide +kernel
theorem dX9_days_51 : decode cX9_days 51 = .ok (.goto (-24), 3) := by decide +kernel
theorem dX9_days_54 : decode cX9_days 54 = .ok (.iconst 0, 1) := by decide +kernel
theorem dX9_days_55 : decode cX9_days 55 = .ok (.istore_n 3, 1) := by decide +kernel
theorem dX9_days_56 : decode cX9_days 56 = .ok (.iload_n 3, 1) := by decide +kernel
theorem dX9_days_57 : decode cX9_days 57 = .ok (.iload_n 2, 1) := by decide +kernel
theorem dX9_days_58 : decode cX9_days 58 = .ok (.if_icmp .ge 72, 3) := by decide +kernel
theorem dX9_days_61 : decode cX9_days 61 = .ok (.iconst 0, 1) := by decide +kernel
theorem dX9_days_62 : decode cX9_days 62 = .ok (.istore 4, 2) := by decide +kernel
theorem dX9_days_64 : decode cX9_days 64 = .ok (.iconst 0, 1) := by decide +kernel
theorem dX9_days_65 : decode cX9_days 65 = .ok (.istore 5, 2) := by decide +kernel
theorem dX9_days_67 : decode cX9_days 67 = .ok (.iload 5, 2) := by decide +kernel
theorem dX9_days_69 : decode cX9_days 69 = .ok (.aload_n 0, 1) := by decide +kernel
theorem dX9_days_70 : decode cX9_days 70 = .ok (.getfield 145, 3) := by decide +kernel
theorem dX9_days_73 : decode cX9_days 73 = .ok (.if_icmp .ge 32, 3) := by decide +kernel
theorem dX9_days_76 : decode cX9_days 76 = .ok (.iload 4, 2) := by decide +kernel
theorem dX9_days_78 : decode cX9_days 78 = .ok (.aload_n 0, 1) := by decide +kernel
theorem dX9_days_79 : decode cX9_days 79 = .ok (.iload_n 3, 1) := by decide +kernel
theorem dX9_days_80 : decode cX9_days 80 = .ok (.iload 5, 2) := by decide +kernel
theorem dX9_days_82 : decode cX9_days 82 = .ok (.invokevirtual 237, 3) := by decide +kernel
theorem dX9_days_85 : decode cX9_days 85 = .ok (.ifCond .eq 10, 3) := by decide +kernel
theorem dX9_days_88 : decode cX9_days 88 = .ok (.iconst 1, 1) := by decide +kernel
theorem dX9_days_89 : decode cX9_days 89 = .ok (.iload 5, 2) := by decide +kernel
theorem dX9_days_91 : decode cX9_days 91 = .ok (.ishl, 1) := by decide +kernel
theorem dX9_days_92 : decode cX9_days 92 = .ok (.goto 4, 3) := by decide +kernel
theorem dX9_days_95 : decode cX9_days 95 = .ok (.iconst 0, 1) := by decide +kernel
theorem dX9_days_96 : decode cX9_days 96 = .ok (.ior, 1) := by decide +kernel
theorem dX9_days_97 : decode cX9_days 97 = .ok (.istore 4, 2) := by decide +kernel
theorem dX9_days_99 : decode cX9_days 99 = .ok (.iinc 5 1, 3) := by decide +kernel
theorem dX9_days_102 : decode cX9_days 102 = .ok (.goto (-35), 3) := by decide +kernel
theorem dX9_days_105 : decode cX9_days 105 = .ok (.aload_n 0, 1) := by decide +kernel
theorem dX9_days_106 : decode cX9_days 106 = .ok (.getfield 57, 3) := by decide +kernel
theorem dX9_days_109 : decode cX9_days 109 = .ok (.iload_n 3, 1) := by decide +kernel
theorem dX9_days_110 : decode cX9_days 110 = .ok (.iaload, 1) := by decide +kernel
theorem dX9_days_111 : decode cX9_days 111 = .ok (.bipush 99, 2) := by decide +kernel
theorem dX9_days_113 : decode cX9_days 113 = .ok (.if_icmp .ge 11, 3) := by decide +kernel
theorem dX9_days_116 : decode cX9_days 116 = .ok (.aload_n 0, 1) := by decide +kernel
theorem dX9_days_117 : decode cX9_days 117 = .ok (.iload_n 3, 1) := by decide +kernel
theorem dX9_days_118 : decode cX9_days 118 = .ok (.iload 4, 2) := by decide +kernel
theorem dX9_days_120 : decode cX9_days 120 = .ok (.iload_n 1, 1) := by decide +kernel
theorem dX9_days_121 : decode cX9_days 121 = .ok (.invokevirtual 240, 3) := by decide +kernel
theorem dX9_days_124 : decode cX9_days 124 = .ok (.iinc 3 1, 3) := by decide +kernel
theorem dX9_days_127 : decode cX9_days 127 = .ok (.goto (-71), 3) := by decide +kernel
theorem dX9_days_130 : decode cX9_days 130 = .ok (.aload_n 0, 1) := by decide +kernel
theorem dX9_days_131 : decode cX9_days 131 = .ok (.getfield 57, 3) := by decide +kernel
theorem dX9_days_134 : decode cX9_days 134 = .ok (.iload_n 2, 1) := by decide +kernel
theorem dX9_days_135 : decode cX9_days 135 = .ok (.iaload, 1) := by decide +kernel
theorem dX9_days_136 : decode cX9_days 136 = .ok (.ireturn, 1) := by decide +kernel
set_option maxRecDepth 20000 in
theorem ggX9_sees_X9_isItem : GoodIn wsX9_sees wsX9_isItem := goodIn_r _ [9, 10, 11, 12, 8, 13, 14, 15, 16, 17, 18, 19, 20, 21, 22, 23, 24, 25, 26, 27, 28, 29, 30, 31, 32, 33, 34, 35, 36, 37, 38, 39, 40, 41, 42, 43, 44, 45, 46, 47, 48, 49] (by decide +kernel) (by decide +kernel)
set_option maxRecDepth 20000 in
theorem gX9_sees_X9_isItem : GoodIn wsX9_sees (wsV RX9 161 RX9 yX9_isItem wsX9_isItem) := goodIn_app (goodIn_of _ (by decide +kernel)) ggX9_sees_X9_isItem
set_option maxRecDepth 20000 in
theorem ggX9_sees_X9_in : GoodIn wsX9_sees wsX9_in := goodIn_r _ [13] (by decide +kernel) (by decide +kernel)
set_option maxRecDepth 20000 in
theorem gX9_sees_X9_in : GoodIn wsX9_sees (va_wsS RX9 79 yX9_in wsX9_in) := goodIn_app (goodIn_of _ (by decide +kernel)) ggX9_sees_X9_in
theorem dX9_sees_0 : decode cX9_sees 0 = .ok (.aload_n 0, 1) := by decide +kernel
theorem dX9_sees_1 : decode cX9_sees 1 = .ok (.iconst 0, 1) := by decide +kernel
theorem dX9_sees_2 : decode cX9_sees 2 = .ok (.putfield 75, 3) := by decide +kernel
theorem dX9_sees_5 : decode cX9_sees 5 = .ok (.aload_n 0, 1) := by decide +kernel
theorem dX9_sees_6 : decode cX9_sees 6 = .ok (.iload_n 1, 1) := by decide +kernel
theorem dX9_sees_7 : decode cX9_sees 7 = .ok (.invokevirtual 161, 3) := by decide +kernel
theorem dX9_sees_10 : decode cX9_sees 10 = .ok (.ifCond .eq 12, 3) := by decide +kernel
theorem dX9_sees_13 : decode cX9_sees 13 = .ok (.iload_n 2, 1) := by decide +kernel
theorem dX9_sees_14 : decode cX9_sees 14 = .ok (.iconst 0, 1) := by decide +kernel
theorem dX9_sees_15 : decode cX9_sees 15 = .ok (.iconst 1, 1) := by decide +kernel
theorem dX9_sees_16 : decode cX9_sees 16 = .ok (.invokestatic 79, 3) := by decide +kernel
theorem dX9_sees_19 : decode cX9_sees 19 = .ok (.ifCond .ne 5, 3) := by decide +kernel
theorem dX9_sees_22 : decode cX9_sees 22 = .ok (.iconst (-1), 1) := by decide +kernel
theorem dX9_sees_23 : decode cX9_sees 23 = .ok (.ireturn, 1) := by decide +kernel
theorem dX9_sees_24 : decode cX9_sees 24 = .ok (.aload_n 0, 1) := by decide +kernel
theorem dX9_sees_25 : decode cX9_sees 25 = .ok (.getfield 155, 3) := by decide +kernel
theorem dX9_sees_28 : decode cX9_sees 28 = .ok (.bipush 6, 2) := by decide +kernel
theorem dX9_sees_30 : decode cX9_sees 30 = .ok (.if_icmp .ne 6, 3) := by decide +kernel
theorem dX9_sees_33 : decode cX9_sees 33 = .ok (.bipush (-3), 2) := by decide +kernel
theorem dX9_sees_35 : decode cX9_sees 35 = .ok (.ireturn, 1) := by decide +kernel
theorem dX9_sees_36 : decode cX9_sees 36 = .ok (.aload_n 0, 1) := by decide +kernel
theorem dX9_sees_37 : decode cX9_sees 37 = .ok (.getfield 44, 3) := by decide +kernel
theorem dX9_sees_40 : decode cX9_sees 40 = .ok (.aload_n 0, 1) := by decide +kernel
theorem dX9_sees_41 : decode cX9_sees 41 = .ok (.getfield 155, 3) := by decide +kernel
theorem dX9_sees_44 : decode cX9_sees 44 = .ok (.iload_n 1, 1) := by decide +kernel
theorem dX9_sees_45 : decode cX9_sees 45 = .ok (.iastore, 1) := by decide +kernel
theorem dX9_sees_46 : decode cX9_sees 46 = .ok (.aload_n 0, 1) := by decide +kernel
theorem dX9_sees_47 : decode cX9_sees 47 = .ok (.getfield 47, 3) := by decide +kernel
theorem dX9_sees_50 : decode cX9_sees 50 = .ok (.aload_n 0, 1) := by decide +kernel
theorem dX9_sees_51 : decode cX9_sees 51 = .ok (.getfield 155, 3) := by decide +kernel
theorem dX9_sees_54 : decode cX9_sees 54 = .ok (.iload_n 2, 1) := by decide +kernel
theorem dX9_sees_55 : decode cX9_sees 55 = .ok (.iastore, 1) := by decide +kernel
theorem dX9_sees_56 : decode cX9_sees 56 = .ok (.aload_n 0, 1) := by decide +kernel
theorem dX9_sees_57 : decode cX9_sees 57 = .ok (.dup, 1) := by decide +kernel
theorem dX9_sees_58 : decode cX9_sees 58 = .ok (.getfield 155, 3) := by decide +kernel
theorem dX9_sees_61 : decode cX9_sees 61 = .ok (.iconst 1, 1) := by decide +kernel
theorem dX9_sees_62 : decode cX9_sees 62 = .ok (.iadd, 1) := by decide +kernel
theorem dX9_sees_63 : decode cX9_sees 63 = .ok (.putfield 155, 3) := by decide +kernel
theorem dX9_sees_66 : decode cX9_sees 66 = .ok (.aload_n 0, 1) := by decide +kernel
theorem dX9_sees_67 : decode cX9_sees 67 = .ok (.getfield 155, 3) := by decide +kernel
theorem dX9_sees_70 : decode cX9_sees 70 = .ok (.ireturn, 1) := by decide +kernel
theorem dX9_forget_0 : decode cX9_forget 0 = .ok (.aload_n 0, 1) := by decide +kernel
theorem dX9_forget_1 : decode cX9_forget 1 = .ok (.iconst 0, 1) := by decide +kernel
theorem dX9_forget_2 : decode cX9_forget 2 = .ok (.putfield 75, 3) := by decide +kernel
theorem dX9_forget_5 : decode cX9_forget 5 = .ok (.aload_n 0, 1) := by decide +kernel
theorem dX9_forget_6 : decode cX9_forget 6 = .ok (.getfield 155, 3) := by decide +kernel
theorem dX9_forget_9 : decode cX9_forget 9 = .ok (.istore_n 1, 1) := by decide +kernel
theorem dX9_forget_10 : decode cX9_forget 10 = .ok (.aload_n 0, 1) := by decide +kernel
theorem dX9_forget_11 : decode cX9_forget 11 = .ok (.iconst 0, 1) := by decide +kernel
theorem dX9_forget_12 : decode cX9_forget 12 = .ok (.putfield 155, 3) := by decide +kernel
theorem dX9_forget_15 : decode cX9_forget 15 = .ok (.iload_n 1, 1) := by decide +kernel
theorem dX9_forget_16 : decode cX9_forget 16 = .ok (.ireturn, 1) := by decide +kernel
set_option maxRecDepth 20000 in
theorem ggX9_unseenMany_X9_has : GoodIn wsX9_unseenMany wsX9_has := goodIn_r _ [12] (by decide +kernel) (by decide +kernel)
set_option maxRecDepth 20000 in
theorem gX9_unseenMany_X9_has : GoodIn wsX9_unseenMany (va_wsS RX9 119 yX9_has wsX9_has) := goodIn_app (goodIn_of _ (by decide +kernel)) ggX9_unseenMany_X9_has
set_option maxRecDepth 20000 in
theorem ggX9_unseenMany_X9_movedBy : GoodIn wsX9_unseenMany wsX9_movedBy := goodIn_r _ [16, 4, 3, 5, 17, 18, 19, 20, 21, 11, 22, 23, 24, 25, 26, 9, 10, 12, 27, 28, 29, 30, 31, 32, 33, 34, 35, 36, 37, 38, 39, 40, 41, 42, 43, 44, 45, 46, 47, 48, 49, 50, 51, 52, 53, 54, 55, 56, 57, 58, 59, 60, 61, 62, 63, 64, 65, 66, 67, 68, 69, 70, 71, 72, 73, 74, 75, 76, 77, 78] (by decide +kernel) (by decide +kernel)
set_option maxRecDepth 20000 in
theorem gX9_unseenMany_X9_movedBy : GoodIn wsX9_unseenMany (wsV RX9 197 RX9 yX9_movedBy wsX9_movedBy) := goodIn_app (goodIn_of _ (by decide +kernel)) ggX9_unseenMany_X9_movedBy
theorem dX9_unseenMany_0 : decode cX9_unseenMany 0 = .ok (.aload_n 0, 1) := by decide +kernel
theorem dX9_unseenMany_1 : decode cX9_unseenMany 1 = .ok (.bipush (-9), 2) := by decide +kernel
theorem dX9_unseenMany_3 : decode cX9_unseenMany 3 = .ok (.putfield 244, 3) := by decide +kernel
theorem dX9_unseenMany_6 : decode cX9_unseenMany 6 = .ok (.iconst 0, 1) := by decide +kernel
theorem dX9_unseenMany_7 : decode cX9_unseenMany 7 = .ok (.istore_n 1, 1) := by decide +kernel
theorem dX9_unseenMany_8 : decode cX9_unseenMany 8 = .ok (.iload_n 1, 1) := by decide +kernel
theorem dX9_unseenMany_9 : decode cX9_unseenMany 9 = .ok (.bipush 12, 2) := by decide +kernel
theorem dX9_unseenMany_11 : decode cX9_unseenMany 11 = .ok (.if_icmp .ge 16, 3) := by decide +kernel
theorem dX9_unseenMany_14 : decode cX9_unseenMany 14 = .ok (.aload_n 0, 1) := by decide +kernel
theorem dX9_unseenMany_15 : decode cX9_unseenMany 15 = .ok (.getfield 66, 3) := by decide +kernel
theorem dX9_unseenMany_18 : decode cX9_unseenMany 18 = .ok (.iload_n 1, 1) := by decide +kernel
theorem dX9_unseenMany_19 : decode cX9_unseenMany 19 = .ok (.iconst 0, 1) := by decide +kernel
theorem dX9_unseenMany_20 : decode cX9_unseenMany 20 = .ok (.iastore, 1) := by decide +kernel
theorem dX9_unseenMany_21 : decode cX9_unseenMany 21 = .ok (.iinc 1 1, 3) := by decide +kernel
theorem dX9_unseenMany_24 : decode cX9_unseenMany 24 = .ok (.goto (-16), 3) := by decide +kernel
theorem dX9_unseenMany_27 : decode cX9_unseenMany 27 = .ok (.iconst 0, 1) := by decide +kernel
theorem dX9_unseenMany_28 : decode cX9_unseenMany 28 = .ok (.istore_n 1, 1) := by decide +kernel
theorem dX9_unseenMany_29 : decode cX9_unseenMany 29 = .ok (.iconst 0, 1) := by decide +kernel
theorem dX9_unseenMany_30 : decode cX9_unseenMany 30 = .ok (.istore_n 2, 1) := by decide +kernel
theorem dX9_unseenMany_31 : decode cX9_unseenMany 31 = .ok (.iload_n 2, 1) := by decide +kernel
theorem dX9_unseenMany_32 : decode cX9_unseenMany 32 = .ok (.aload_n 0, 1) := by decide +kernel
theorem dX9_unseenMany_33 : decode cX9_unseenMany 33 = .ok (.getfield 145, 3) := by decide +kernel
theorem dX9_unseenMany_36 : decode cX9_unseenMany 36 = .ok (.if_icmp .ge 183, 3) := by decide +kernel
theorem dX9_unseenMany_39 : decode cX9_unseenMany 39 = .ok (.iconst 0, 1) := by decide +kernel
theorem dX9_unseenMany_40 : decode cX9_unseenMany 40 = .ok (.istore_n 3, 1) := by decide +kernel
theorem dX9_unseenMany_41 : decode cX9_unseenMany 41 = .ok (.iload_n 3, 1) := by decide +kernel
theorem dX9_unseenMany_42 : decode cX9_unseenMany 42 = .ok (.aload_n 0, 1) := by decide +kernel
theorem dX9_unseenMany_43 : decode cX9_unseenMany 43 = .ok (.getfield 145, 3) := by decide +kernel
theorem dX9_unseenMany_46 : decode cX9_unseenMany 46 = .ok (.if_icmp .ge 167, 3) := by decide +kernel
theorem dX9_unseenMany_49 : decode cX9_unseenMany 49 = .ok (.iload_n 2, 1) := by decide +kernel
theorem dX9_unseenMany_50 : decode cX9_unseenMany 50 = .ok (.iload_n 3, 1) := by decide +kernel
theorem dX9_unseenMany_51 : decode cX9_unseenMany 51 = .ok (.if_icmp .eq 156, 3) := by decide +kernel
theorem dX9_unseenMany_54 : decode cX9_unseenMany 54 = .ok (.aload_n 0, 1) := by decide +kernel
theorem dX9_unseenMany_55 : decode cX9_unseenMany 55 = .ok (.getfield 16, 3) := by decide +kernel
theorem dX9_unseenMany_58 : decode cX9_unseenMany 58 = .ok (.iconst 0, 1) := by decide +kernel
theorem dX9_unseenMany_59 : decode cX9_unseenMany 59 = .ok (.iload_n 2, 1) := by decide +kernel
theorem dX9_unseenMany_60 : decode cX9_unseenMany 60 = .ok (.iadd, 1) := by decide +kernel
theorem dX9_unseenMany_61 : decode cX9_unseenMany 61 = .ok (.iaload, 1) := by decide +kernel
theorem dX9_unseenMany_62 : decode cX9_unseenMany 62 = .ok (.iload_n 3, 1) := by decide +kernel
theorem dX9_unseenMany_63 : decode cX9_unseenMany 63 = .ok (.invokestatic 119, 3) := by decide +kernel
theorem dX9_unseenMany_66 : decode cX9_unseenMany 66 = .ok (.ifCond .ne 141, 3) := by decide +kernel
theorem dX9_unseenMany_69 : decode cX9_unseenMany 69 = .ok (.aload_n 0, 1) := by decide +kernel
theorem dX9_unseenMany_70 : decode cX9_unseenMany 70 = .ok (.iload_n 2, 1) := by decide +kernel
theorem dX9_unseenMany_71 : decode cX9_unseenMany 71 = .ok (.iload_n 3, 1) := by decide +kernel
theorem dX9_unseenMany_72 : decode cX9_unseenMany 72 = .ok (.invokevirtual 197, 3) := by decide +kernel
theorem dX9_unseenMany_75 : decode cX9_unseenMany 75 = .ok (.istore 4, 2) := by decide +kernel
theorem dX9_unseenMany_77 : decode cX9_unseenMany 77 = .ok (.aload_n 0, 1) := by decide +kernel
theorem dX9_unseenMany_78 : decode cX9_unseenMany 78 = .ok (.getfield 126, 3) := by decide +kernel
theorem dX9_unseenMany_81 : decode cX9_unseenMany 81 = .ok (.ifCond .ne 7, 3) := by decide +kernel
theorem dX9_unseenMany_84 : decode cX9_unseenMany 84 = .ok (.iconst 1, 1) := by decide +kernel
theorem dX9_unseenMany_85 : decode cX9_unseenMany 85 = .ok (.goto 4, 3) := by decide +kernel
theorem dX9_unseenMany_88 : decode cX9_unseenMany 88 = .ok (.iconst 0, 1) := by decide +kernel
theorem dX9_unseenMany_89 : decode cX9_unseenMany 89 = .ok (.istore 5, 2) := by decide +kernel
theorem dX9_unseenMany_91 : decode cX9_unseenMany 91 = .ok (.iconst 0, 1) := by decide +kernel
theorem dX9_unseenMany_92 : decode cX9_unseenMany 92 = .ok (.istore 6, 2) := by decide +kernel
theorem dX9_unseenMany_94 : decode cX9_unseenMany 94 = .ok (.iload 6, 2) := by decide +kernel
theorem dX9_unseenMany_96 : decode cX9_unseenMany 96 = .ok (.aload_n 0, 1) := by decide +kernel
theorem dX9_unseenMany_97 : decode cX9_unseenMany 97 = .ok (.getfield 155, 3) := by decide +kernel
theorem dX9_unseenMany_100 : decode cX9_unseenMany 100 = .ok (.if_icmp .ge 43, 3) := by decide +kernel
theorem dX9_unseenMany_103 : decode cX9_unseenMany 103 = .ok (.iload 5, 2) := by decide +kernel
theorem dX9_unseenMany_105 : decode cX9_unseenMany 105 = .ok (.ifCond .eq 29, 3) := by decide +kernel
theorem dX9_unseenMany_108 : decode cX9_unseenMany 108 = .ok (.iload 4, 2) := by decide +kernel
theorem dX9_unseenMany_110 : decode cX9_unseenMany 110 = .ok (.aload_n 0, 1) := by decide +kernel
theorem dX9_unseenMany_111 : decode cX9_unseenMany 111 = .ok (.getfield 44, 3) := by decide +kernel
theorem dX9_unseenMany_114 : decode cX9_unseenMany 114 = .ok (.iload 6, 2) := by decide +kernel
theorem dX9_unseenMany_116 : decode cX9_unseenMany 116 = .ok (.iaload, 1) := by decide +kernel
theorem dX9_unseenMany_117 : decode cX9_unseenMany 117 = .ok (.ishr, 1) := by decide +kernel
theorem dX9_unseenMany_118 : decode cX9_unseenMany 118 = .ok (.iconst 1, 1) := by decide +kernel
theorem dX9_unseenMany_119 : decode cX9_unseenMany 119 = .ok (.iand, 1) := by decide +kernel
theorem dX9_unseenMany_120 : decode cX9_unseenMany 120 = .ok (.aload_n 0, 1) := by decide +kernel
theorem dX9_unseenMany_121 : decode cX9_unseenMany 121 = .ok (.getfield 47, 3) := by decide +kernel
theorem dX9_unseenMany_124 : decode cX9_unseenMany 124 = .ok (.iload 6, 2) := by decide +kernel
theorem dX9_unseenMany_126 : decode cX9_unseenMany 126 = .ok (.iaload, 1) := by decide +kernel
theorem dX9_unseenMany_127 : decode cX9_unseenMany 127 = .ok (.if_icmp .ne 7, 3) := by decide +kernel
theorem dX9_unseenMany_130 : decode cX9_unseenMany 130 = .ok (.iconst 1, 1) := by decide +kernel
theorem dX9_unseenMany_131 : decode cX9_unseenMany 131 = .ok (.goto 4, 3) := by decide +kernel
theorem dX9_unseenMany_134 : decode cX9_unseenMany 134 = .ok (.iconst 0, 1) := by decide +kernel
theorem dX9_unseenMany_135 : decode cX9_unseenMany 135 = .ok (.istore 5, 2) := by decide +kernel
theorem dX9_unseenMany_137 : decode cX9_unseenMany 137 = .ok (.iinc 6 1, 3) := by decide +kernel
theorem dX9_unseenMany_140 : decode cX9_unseenMany 140 = .ok (.goto (-46), 3) := by decide +kernel
theorem dX9_unseenMany_143 : decode cX9_unseenMany 143 = .ok (.iload 5, 2) := by decide +kernel
theorem dX9_unseenMany_145 : decode cX9_unseenMany 145 = .ok (.ifCond .eq 62, 3) := by decide +kernel
theorem dX9_unseenMany_148 : decode cX9_unseenMany 148 = .ok (.aload_n 0, 1) := by decide +kernel
theorem dX9_unseenMany_149 : decode cX9_unseenMany 149 = .ok (.iload_n 1, 1) := by decide +kernel
theorem dX9_unseenMany_150 : decode cX9_unseenMany 150 = .ok (.ifCond .ne 12, 3) := by decide +kernel
theorem dX9_unseenMany_153 : decode cX9_unseenMany 153 = .ok (.bipush 16, 2) := by decide +kernel
theorem dX9_unseenMany_155 : decode cX9_unseenMany 155 = .ok (.iload_n 2, 1) := by decide +kernel
theorem dX9_unseenMany_156 : decode cX9_unseenMany 156 = .ok (.imul, 1) := by decide +kernel
theorem dX9_unseenMany_157 : decode cX9_unseenMany 157 = .ok (.iload_n 3, 1) := by decide +kernel
theorem dX9_unseenMany_158 : decode cX9_unseenMany 158 = .ok (.iadd, 1) := by decide +kernel
theorem dX9_unseenMany_159 : decode cX9_unseenMany 159 = .ok (.goto 7, 3) := by decide +kernel
theorem dX9_unseenMany_162 : decode cX9_unseenMany 162 = .ok (.aload_n 0, 1) := by decide +kernel
theorem dX9_unseenMany_163 : decode cX9_unseenMany 163 = .ok (.getfield 244, 3) := by decide +kernel
theorem dX9_unseenMany_166 : decode cX9_unseenMany 166 = .ok (.putfield 244, 3) := by decide +kernel
theorem dX9_unseenMany_169 : decode cX9_unseenMany 169 = .ok (.iinc 1 1, 3) := by decide +kernel
theorem dX9_unseenMany_172 : decode cX9_unseenMany 172 = .ok (.iconst 0, 1) := by decide +kernel
theorem dX9_unseenMany_173 : decode cX9_unseenMany 173 = .ok (.istore 6, 2) := by decide +kernel
theorem dX9_unseenMany_175 : decode cX9_unseenMany 175 = .ok (.iload 6, 2) := by decide +kernel
theorem dX9_unseenMany_177 : decode cX9_unseenMany 177 = .ok (.aload_n 0, 1) := by decide +kernel
theorem dX9_unseenMany_178 : decode cX9_unseenMany 178 = .ok (.getfield 145, 3) := by decide +kernel
theorem dX9_unseenMany_181 : decode cX9_unseenMany 181 = .ok (.if_icmp .ge 26, 3) := by decide +kernel
theorem dX9_unseenMany_184 : decode cX9_unseenMany 184 = .ok (.aload_n 0, 1) := by decide +kernel
theorem dX9_unseenMany_185 : decode cX9_unseenMany 185 = .ok (.getfield 66, 3) := by decide +kernel
theorem dX9_unseenMany_188 : decode cX9_unseenMany 188 = .ok (.iload 6, 2) := by decide +kernel
theorem dX9_unseenMany_190 : decode cX9_unseenMany 190 = .ok (.dup2, 1) := by decide +kernel
theorem dX9_unseenMany_191 : decode cX9_unseenMany 191 = .ok (.iaload, 1) := by decide +kernel
theorem dX9_unseenMany_192 : decode cX9_unseenMany 192 = .ok (.iload 4, 2) := by decide +kernel
theorem dX9_unseenMany_194 : decode cX9_unseenMany 194 = .ok (.iload 6, 2) := by decide +kernel
theorem dX9_unseenMany_196 : decode cX9_unseenMany 196 = .ok (.ishr, 1) := by decide +kernel
theorem dX9_unseenMany_197 : decode cX9_unseenMany 197 = .ok (.iconst 1, 1) := by decide +kernel
theorem dX9_unseenMany_198 : decode cX9_unseenMany 198 = .ok (.iand, 1) := by decide +kernel
theorem dX9_unseenMany_199 : decode cX9_unseenMany 199 = .ok (.iadd, 1) := by decide +kernel
theorem dX9_unseenMany_200 : decode cX9_unseenMany 200 = .ok (.iastore, 1) := by decide +kernel
theorem dX9_unseenMany_201 : decode cX9_unseenMany 201 = .ok (.iinc 6 1, 3) := by decide +kernel
theorem dX9_unseenMany_204 : decode cX9_unseenMany 204 = .ok (.goto (-29), 3) := by decide +kernel
theorem dX9_unseenMany_207 : decode cX9_unseenMany 207 = .ok (.iinc 3 1, 3) := by decide +kernel
theorem dX9_unseenMany_210 : decode cX9_unseenMany 210 = .ok (.goto (-169), 3) := by decide +kernel
theorem dX9_unseenMany_213 : decode cX9_unseenMany 213 = .ok (.iinc 2 1, 3) := by decide +kernel
theorem dX9_unseenMany_216 : decode cX9_unseenMany 216 = .ok (.goto (-185), 3) := by decide +kernel
theorem dX9_unseenMany_219 : decode cX9_unseenMany 219 = .ok (.iload_n 1, 1) := by decide +kernel
theorem dX9_unseenMany_220 : decode cX9_unseenMany 220 = .ok (.ireturn, 1) := by decide +kernel
set_option maxRecDepth 20000 in
theorem ggX9_unseen_X9_in : GoodIn wsX9_unseen wsX9_in := goodIn_r _ [6] (by decide +kernel) (by decide +kernel)
set_option maxRecDepth 20000 in
theorem gX9_unseen_X9_in : GoodIn wsX9_unseen (va_wsS RX9 79 yX9_in wsX9_in) := goodIn_app (goodIn_of _ (by decide +kernel)) ggX9_unseen_X9_in
set_option maxRecDepth 20000 in
theorem ggX9_unseen_X9_unseenMany : GoodIn wsX9_unseen wsX9_unseenMany := goodIn_r _ [10, 2, 11, 12, 13, 14, 15, 16, 17, 18, 19, 5, 20, 21, 22, 23, 24, 25, 26, 27, 28, 29, 30, 31, 3, 4, 6, 32, 33, 34, 35, 36, 37, 38, 39, 40, 41, 42, 43, 44, 45, 46, 47, 48, 49, 50, 51, 52, 53, 54, 55, 56, 57, 58, 59, 60, 61, 62, 63, 64, 65, 66, 67, 68, 69, 70, 71, 72, 73, 74, 75, 76, 77, 78, 79, 80, 81, 82, 83] (by decide +kernel) (by decide +kernel)
set_option maxRecDepth 20000 in
theorem gX9_unseen_X9_unseenMany : GoodIn wsX9_unseen (wsV RX9 247 RX9 yX9_unseenMany wsX9_unseenMany) := goodIn_app (goodIn_of _ (by decide +kernel)) ggX9_unseen_X9_unseenMany
theorem dX9_unseen_0 : decode cX9_unseen 0 = .ok (.aload_n 0, 1) := by decide +kernel
theorem dX9_unseen_1 : decode cX9_unseen 1 = .ok (.iconst 0, 1) := by decide +kernel
theorem dX9_unseen_2 : decode cX9_unseen 2 = .ok (.putfield 75, 3) := by decide +kernel
theorem dX9_unseen_5 : decode cX9_unseen 5 = .ok (.iload_n 1, 1) := by decide +kernel
theorem dX9_unseen_6 : decode cX9_unseen 6 = .ok (.iconst 0, 1) := by decide +kernel
theorem dX9_unseen_7 : decode cX9_unseen 7 = .ok (.iconst 1, 1) := by decide +kernel
theorem dX9_unseen_8 : decode cX9_unseen 8 = .ok (.invokestatic 79, 3) := by decide +kernel
theorem dX9_unseen_11 : decode cX9_unseen 11 = .ok (.ifCond .ne 5, 3) := by decide +kernel
theorem dX9_unseen_14 : decode cX9_unseen 14 = .ok (.iconst (-1), 1) := by decide +kernel
theorem dX9_unseen_15 : decode cX9_unseen 15 = .ok (.ireturn, 1) := by decide +kernel
theorem dX9_unseen_16 : decode cX9_unseen 16 = .ok (.aload_n 0, 1) := by decide +kernel
theorem dX9_unseen_17 : decode cX9_unseen 17 = .ok (.invokevirtual 247, 3) := by decide +kernel
theorem dX9_unseen_20 : decode cX9_unseen 20 = .ok (.istore_n 2, 1) := by decide +kernel
theorem dX9_unseen_21 : decode cX9_unseen 21 = .ok (.iload_n 1, 1) := by decide +kernel
theorem dX9_unseen_22 : decode cX9_unseen 22 = .ok (.ifCond .ne 7, 3) := by decide +kernel
theorem dX9_unseen_25 : decode cX9_unseen 25 = .ok (.iload_n 2, 1) := by decide +kernel
theorem dX9_unseen_26 : decode cX9_unseen 26 = .ok (.goto 7, 3) := by decide +kernel
theorem dX9_unseen_29 : decode cX9_unseen 29 = .ok (.aload_n 0, 1) := by decide +kernel
theorem dX9_unseen_30 : decode cX9_unseen 30 = .ok (.getfield 244, 3) := by decide +kernel
theorem dX9_unseen_33 : decode cX9_unseen 33 = .ok (.ireturn, 1) := by decide +kernel
set_option maxRecDepth 20000 in
theorem ggX9_look_X9_unseenMany : GoodIn wsX9_look wsX9_unseenMany := goodIn_r _ [8, 9, 3, 2, 10, 11, 12, 13, 14, 15, 16, 7, 17, 18, 19, 20, 21, 22, 23, 24, 25, 26, 27, 28, 29, 30, 31, 32, 33, 34, 35, 36, 37, 38, 39, 40, 41, 42, 43, 44, 45, 46, 47, 48, 49, 50, 51, 52, 53, 54, 55, 56, 57, 58, 59, 60, 61, 62, 63, 64, 65, 66, 67, 68, 69, 70, 71, 72, 73, 74, 75, 76, 77, 78, 79, 80, 81, 82, 83] (by decide +kernel) (by decide +kernel)
set_option maxRecDepth 20000 in
theorem gX9_look_X9_unseenMany : GoodIn wsX9_look (wsV RX9 247 RX9 yX9_unseenMany wsX9_unseenMany) := goodIn_app (goodIn_of _ (by decide +kernel)) ggX9_look_X9_unseenMany
theorem dX9_look_0 : decode cX9_look 0 = .ok (.aload_n 0, 1) := by decide +kernel
theorem dX9_look_1 : decode cX9_look 1 = .ok (.iconst 0, 1) := by decide +kernel
theorem dX9_look_2 : decode cX9_look 2 = .ok (.putfield 75, 3) := by decide +kernel
theorem dX9_look_5 : decode cX9_look 5 = .ok (.aload_n 0, 1) := by decide +kernel
theorem dX9_look_6 : decode cX9_look 6 = .ok (.invokevirtual 247, 3) := by decide +kernel
theorem dX9_look_9 : decode cX9_look 9 = .ok (.istore_n 1, 1) := by decide +kernel
theorem dX9_look_10 : decode cX9_look 10 = .ok (.bipush (-9), 2) := by decide +kernel
theorem dX9_look_12 : decode cX9_look 12 = .ok (.istore_n 2, 1) := by decide +kernel
theorem dX9_look_13 : decode cX9_look 13 = .ok (.sipush 999, 3) := by decide +kernel
theorem dX9_look_16 : decode cX9_look 16 = .ok (.istore_n 3, 1) := by decide +kernel
theorem dX9_look_17 : decode cX9_look 17 = .ok (.iconst 0, 1) := by decide +kernel
theorem dX9_look_18 : decode cX9_look 18 = .ok (.istore 4, 2) := by decide +kernel
theorem dX9_look_20 : decode cX9_look 20 = .ok (.iload 4, 2) := by decide +kernel
theorem dX9_look_22 : decode cX9_look 22 = .ok (.aload_n 0, 1) := by decide +kernel
theorem dX9_look_23 : decode cX9_look 23 = .ok (.getfield 145, 3) := by decide +kernel
theorem dX9_look_26 : decode cX9_look 26 = .ok (.if_icmp .ge 80, 3) := by decide +kernel
theorem dX9_look_29 : decode cX9_look 29 = .ok (.iload_n 1, 1) := by decide +kernel
theorem dX9_look_30 : decode cX9_look 30 = .ok (.iconst 1, 1) := by decide +kernel
theorem dX9_look_31 : decode cX9_look 31 = .ok (.if_icmp .le 75, 3) := by decide +kernel
theorem dX9_look_34 : decode cX9_look 34 = .ok (.aload_n 0, 1) := by decide +kernel
theorem dX9_look_35 : decode cX9_look 35 = .ok (.getfield 66, 3) := by decide +kernel
theorem dX9_look_38 : decode cX9_look 38 = .ok (.iload 4, 2) := by decide +kernel
theorem dX9_look_40 : decode cX9_look 40 = .ok (.iaload, 1) := by decide +kernel
theorem dX9_look_41 : decode cX9_look 41 = .ok (.iload_n 1, 1) := by decide +kernel
theorem dX9_look_42 : decode cX9_look 42 = .ok (.aload_n 0, 1) := by decide +kernel
theorem dX9_look_43 : decode cX9_look 43 = .ok (.getfield 66, 3) := by decide +kernel
theorem dX9_look_46 : decode cX9_look 46 = .ok (.iload 4, 2) := by decide +kernel
theorem dX9_look_48 : decode cX9_look 48 = .ok (.iaload, 1) := by decide +kernel
theorem dX9_look_49 : decode cX9_look 49 = .ok (.isub, 1) := by decide +kernel
theorem dX9_look_50 : decode cX9_look 50 = .ok (.if_icmp .le 13, 3) := by decide +kernel
theorem dX9_look_53 : decode cX9_look 53 = .ok (.aload_n 0, 1) := by decide +kernel
theorem dX9_look_54 : decode cX9_look 54 = .ok (.getfield 66, 3) := by decide +kernel
theorem dX9_look_57 : decode cX9_look 57 = .ok (.iload 4, 2) := by decide +kernel
theorem dX9_look_59 : decode cX9_look 59 = .ok (.iaload, 1) := by decide +kernel
theorem dX9_look_60 : decode cX9_look 60 = .ok (.goto 12, 3) := by decide +kernel
theorem dX9_look_63 : decode cX9_look 63 = .ok (.iload_n 1, 1) := by decide +kernel
theorem dX9_look_64 : decode cX9_look 64 = .ok (.aload_n 0, 1) := by decide +kernel
theorem dX9_look_65 : decode cX9_look 65 = .ok (.getfield 66, 3) := by decide +kernel
theorem dX9_look_68 : decode cX9_look 68 = .ok (.iload 4, 2) := by decide +kernel
theorem dX9_look_70 : decode cX9_look 70 = .ok (.iaload, 1) := by decide +kernel
theorem dX9_look_71 : decode cX9_look 71 = .ok (.isub, 1) := by decide +kernel
theorem dX9_look_72 : decode cX9_look 72 = .ok (.istore 5, 2) := by decide +kernel
theorem dX9_look_74 : decode cX9_look 74 = .ok (.iload 5, 2) := by decide +kernel
theorem dX9_look_76 : decode cX9_look 76 = .ok (.iload_n 3, 1) := by decide +kernel
theorem dX9_look_77 : decode cX9_look 77 = .ok (.if_icmp .ge 8, 3) := by decide +kernel
theorem dX9_look_80 : decode cX9_look 80 = .ok (.iload 4, 2) := by decide +kernel
theorem dX9_look_82 : decode cX9_look 82 = .ok (.goto 4, 3) := by decide +kernel
theorem dX9_look_85 : decode cX9_look 85 = .ok (.iload_n 2, 1) := by decide +kernel
theorem dX9_look_86 : decode cX9_look 86 = .ok (.istore_n 2, 1) := by decide +kernel
theorem dX9_look_87 : decode cX9_look 87 = .ok (.iload 5, 2) := by decide +kernel
theorem dX9_look_89 : decode cX9_look 89 = .ok (.iload_n 3, 1) := by decide +kernel
theorem dX9_look_90 : decode cX9_look 90 = .ok (.if_icmp .ge 8, 3) := by decide +kernel
theorem dX9_look_93 : decode cX9_look 93 = .ok (.iload 5, 2) := by decide +kernel
theorem dX9_look_95 : decode cX9_look 95 = .ok (.goto 4, 3) := by decide +kernel
theorem dX9_look_98 : decode cX9_look 98 = .ok (.iload_n 3, 1) := by decide +kernel
theorem dX9_look_99 : decode cX9_look 99 = .ok (.istore_n 3, 1) := by decide +kernel
theorem dX9_look_100 : decode cX9_look 100 = .ok (.iinc 4 1, 3) := by decide +kernel
theorem dX9_look_103 : decode cX9_look 103 = .ok (.goto (-83), 3) := by decide +kernel
theorem dX9_look_106 : decode cX9_look 106 = .ok (.iload_n 2, 1) := by decide +kernel
theorem dX9_look_107 : decode cX9_look 107 = .ok (.ireturn, 1) := by decide +kernel
set_option maxRecDepth 20000 in
theorem ggX9_keep_X9_in : GoodIn wsX9_keep wsX9_in := goodIn_r _ [8] (by decide +kernel) (by decide +kernel)
set_option maxRecDepth 20000 in
theorem gX9_keep_X9_in : GoodIn wsX9_keep (va_wsS RX9 79 yX9_in wsX9_in) := goodIn_app (goodIn_of _ (by decide +kernel)) ggX9_keep_X9_in
set_option maxRecDepth 20000 in
theorem ggX9_keep_X9_arcs : GoodIn wsX9_keep wsX9_arcs := goodIn_r _ [12, 13, 3, 14, 15, 7, 16, 17, 18, 19, 20, 21, 22, 23, 24, 25, 26, 27, 28, 29, 30, 31, 32, 33, 34, 35, 36, 37, 38, 39, 40, 41, 42, 43, 44, 45, 46, 47, 48, 49, 50, 51, 52] (by decide +kernel) (by decide +kernel)
set_option maxRecDepth 20000 in
theorem gX9_keep_X9_arcs : GoodIn wsX9_keep (wsV RX9 204 RX9 yX9_arcs wsX9_arcs) := goodIn_app (goodIn_of _ (by decide +kernel)) ggX9_keep_X9_arcs
theorem dX9_keep_0 : decode cX9_keep 0 = .ok (.aload_n 0, 1) := by decide +kernel
theorem dX9_keep_1 : decode cX9_keep 1 = .ok (.iconst 0, 1) := by decide +kernel
theorem dX9_keep_2 : decode cX9_keep 2 = .ok (.putfield 75, 3) := by decide +kernel
theorem dX9_keep_5 : decode cX9_keep 5 = .ok (.iload_n 1, 1) := by decide +kernel
theorem dX9_keep_6 : decode cX9_keep 6 = .ok (.iconst 0, 1) := by decide +kernel
theorem dX9_keep_7 : decode cX9_keep 7 = .ok (.iconst 1, 1) := by decide +kernel
theorem dX9_keep_8 : decode cX9_keep 8 = .ok (.invokestatic 79, 3) := by decide +kernel
theorem dX9_keep_11 : decode cX9_keep 11 = .ok (.ifCond .ne 5, 3) := by decide +kernel
theorem dX9_keep_14 : decode cX9_keep 14 = .ok (.iconst (-1), 1) := by decide +kernel
theorem dX9_keep_15 : decode cX9_keep 15 = .ok (.ireturn, 1) := by decide +kernel
theorem dX9_keep_16 : decode cX9_keep 16 = .ok (.iconst 0, 1) := by decide +kernel
theorem dX9_keep_17 : decode cX9_keep 17 = .ok (.istore_n 2, 1) := by decide +kernel
theorem dX9_keep_18 : decode cX9_keep 18 = .ok (.iload_n 2, 1) := by decide +kernel
theorem dX9_keep_19 : decode cX9_keep 19 = .ok (.bipush 24, 2) := by decide +kernel
theorem dX9_keep_21 : decode cX9_keep 21 = .ok (.if_icmp .ge 26, 3) := by decide +kernel
theorem dX9_keep_24 : decode cX9_keep 24 = .ok (.aload_n 0, 1) := by decide +kernel
theorem dX9_keep_25 : decode cX9_keep 25 = .ok (.getfield 25, 3) := by decide +kernel
theorem dX9_keep_28 : decode cX9_keep 28 = .ok (.bipush 24, 2) := by decide +kernel
theorem dX9_keep_30 : decode cX9_keep 30 = .ok (.iload_n 1, 1) := by decide +kernel
theorem dX9_keep_31 : decode cX9_keep 31 = .ok (.imul, 1) := by decide +kernel
theorem dX9_keep_32 : decode cX9_keep 32 = .ok (.iload_n 2, 1) := by decide +kernel
theorem dX9_keep_33 : decode cX9_keep 33 = .ok (.iadd, 1) := by decide +kernel
theorem dX9_keep_34 : decode cX9_keep 34 = .ok (.aload_n 0, 1) := by decide +kernel
theorem dX9_keep_35 : decode cX9_keep 35 = .ok (.getfield 16, 3) := by decide +kernel
theorem dX9_keep_38 : decode cX9_keep 38 = .ok (.iload_n 2, 1) := by decide +kernel
theorem dX9_keep_39 : decode cX9_keep 39 = .ok (.iaload, 1) := by decide +kernel
theorem dX9_keep_40 : decode cX9_keep 40 = .ok (.iastore, 1) := by decide +kernel
theorem dX9_keep_41 : decode cX9_keep 41 = .ok (.iinc 2 1, 3) := by decide +kernel
theorem dX9_keep_44 : decode cX9_keep 44 = .ok (.goto (-26), 3) := by decide +kernel
theorem dX9_keep_47 : decode cX9_keep 47 = .ok (.aload_n 0, 1) := by decide +kernel
theorem dX9_keep_48 : decode cX9_keep 48 = .ok (.getfield 28, 3) := by decide +kernel
theorem dX9_keep_51 : decode cX9_keep 51 = .ok (.iload_n 1, 1) := by decide +kernel
theorem dX9_keep_52 : decode cX9_keep 52 = .ok (.iconst 1, 1) := by decide +kernel
theorem dX9_keep_53 : decode cX9_keep 53 = .ok (.bastore, 1) := by decide +kernel
theorem dX9_keep_54 : decode cX9_keep 54 = .ok (.aload_n 0, 1) := by decide +kernel
theorem dX9_keep_55 : decode cX9_keep 55 = .ok (.invokevirtual 204, 3) := by decide +kernel
theorem dX9_keep_58 : decode cX9_keep 58 = .ok (.ireturn, 1) := by decide +kernel
set_option maxRecDepth 20000 in
theorem ggX9_back_X9_in : GoodIn wsX9_back wsX9_in := goodIn_r _ [9] (by decide +kernel) (by decide +kernel)
set_option maxRecDepth 20000 in
theorem gX9_back_X9_in : GoodIn wsX9_back (va_wsS RX9 79 yX9_in wsX9_in) := goodIn_app (goodIn_of _ (by decide +kernel)) ggX9_back_X9_in
set_option maxRecDepth 20000 in
theorem ggX9_back_X9_arcs : GoodIn wsX9_back wsX9_arcs := goodIn_r _ [13, 14, 3, 15, 16, 8, 17, 18, 19, 20, 21, 22, 23, 24, 25, 26, 27, 28, 29, 30, 31, 32, 33, 34, 35, 36, 37, 38, 39, 40, 41, 42, 43, 44, 45, 46, 47, 48, 49, 50, 51, 52, 53] (by decide +kernel) (by decide +kernel)
set_option maxRecDepth 20000 in
theorem gX9_back_X9_arcs : GoodIn wsX9_back (wsV RX9 204 RX9 yX9_arcs wsX9_arcs) := goodIn_app (goodIn_of _ (by decide +kernel)) ggX9_back_X9_arcs
theorem dX9_back_0 : decode cX9_back 0 = .ok (.aload_n 0, 1) := by decide +kernel
theorem dX9_back_1 : decode cX9_back 1 = .ok (.iconst 0, 1) := by decide +kernel
theorem dX9_back_2 : decode cX9_back 2 = .ok (.putfield 75, 3) := by decide +kernel
theorem dX9_back_5 : decode cX9_back 5 = .ok (.iload_n 1, 1) := by decide +kernel
theorem dX9_back_6 : decode cX9_back 6 = .ok (.iconst 0, 1) := by decide +kernel
theorem dX9_back_7 : decode cX9_back 7 = .ok (.iconst 1, 1) := by decide +kernel
theorem dX9_back_8 : decode cX9_back 8 = .ok (.invokestatic 79, 3) := by decide +kernel
theorem dX9_back_11 : decode cX9_back 11 = .ok (.ifCond .ne 5, 3) := by decide +kernel
theorem dX9_back_14 : decode cX9_back 14 = .ok (.iconst (-1), 1) := by decide +kernel
theorem dX9_back_15 : decode cX9_back 15 = .ok (.ireturn, 1) := by decide +kernel
theorem dX9_back_16 : decode cX9_back 16 = .ok (.aload_n 0, 1) := by decide +kernel
theorem dX9_back_17 : decode cX9_back 17 = .ok (.getfield 28, 3) := by decide +kernel
theorem dX9_back_20 : decode cX9_back 20 = .ok (.iload_n 1, 1) := by decide +kernel
theorem dX9_back_21 : decode cX9_back 21 = .ok (.baload, 1) := by decide +kernel
theorem dX9_back_22 : decode cX9_back 22 = .ok (.ifCond .ne 6, 3) := by decide +kernel
theorem dX9_back_25 : decode cX9_back 25 = .ok (.bipush (-2), 2) := by decide +kernel
theorem dX9_back_27 : decode cX9_back 27 = .ok (.ireturn, 1) := by decide +kernel
theorem dX9_back_28 : decode cX9_back 28 = .ok (.iconst 0, 1) := by decide +kernel
theorem dX9_back_29 : decode cX9_back 29 = .ok (.istore_n 2, 1) := by decide +kernel
theorem dX9_back_30 : decode cX9_back 30 = .ok (.iload_n 2, 1) := by decide +kernel
theorem dX9_back_31 : decode cX9_back 31 = .ok (.bipush 24, 2) := by decide +kernel
theorem dX9_back_33 : decode cX9_back 33 = .ok (.if_icmp .ge 26, 3) := by decide +kernel
theorem dX9_back_36 : decode cX9_back 36 = .ok (.aload_n 0, 1) := by decide +kernel
theorem dX9_back_37 : decode cX9_back 37 = .ok (.getfield 16, 3) := by decide +kernel
theorem dX9_back_40 : decode cX9_back 40 = .ok (.iload_n 2, 1) := by decide +kernel
theorem dX9_back_41 : decode cX9_back 41 = .ok (.aload_n 0, 1) := by decide +kernel
theorem dX9_back_42 : decode cX9_back 42 = .ok (.getfield 25, 3) := by decide +kernel
theorem dX9_back_45 : decode cX9_back 45 = .ok (.bipush 24, 2) := by decide +kernel
theorem dX9_back_47 : decode cX9_back 47 = .ok (.iload_n 1, 1) := by decide +kernel
theorem dX9_back_48 : decode cX9_back 48 = .ok (.imul, 1) := by decide +kernel
theorem dX9_back_49 : decode cX9_back 49 = .ok (.iload_n 2, 1) := by decide +kernel
theorem dX9_back_50 : decode cX9_back 50 = .ok (.iadd, 1) := by decide +kernel
theorem dX9_back_51 : decode cX9_back 51 = .ok (.iaload, 1) := by decide +kernel
theorem dX9_back_52 : decode cX9_back 52 = .ok (.iastore, 1) := by decide +kernel
theorem dX9_back_53 : decode cX9_back 53 = .ok (.iinc 2 1, 3) := by decide +kernel
theorem dX9_back_56 : decode cX9_back 56 = .ok (.goto (-26), 3) := by decide +kernel
theorem dX9_back_59 : decode cX9_back 59 = .ok (.aload_n 0, 1) := by decide +kernel
theorem dX9_back_60 : decode cX9_back 60 = .ok (.iconst 0, 1) := by decide +kernel
theorem dX9_back_61 : decode cX9_back 61 = .ok (.putfield 158, 3) := by decide +kernel
theorem dX9_back_64 : decode cX9_back 64 = .ok (.aload_n 0, 1) := by decide +kernel
theorem dX9_back_65 : decode cX9_back 65 = .ok (.invokevirtual 204, 3) := by decide +kernel
theorem dX9_back_68 : decode cX9_back 68 = .ok (.ireturn, 1) := by decide +kernel
theorem dX9_count_0 : decode cX9_count 0 = .ok (.aload_n 0, 1) := by decide +kernel
theorem dX9_count_1 : decode cX9_count 1 = .ok (.iconst 0, 1) := by decide +kernel
theorem dX9_count_2 : decode cX9_count 2 = .ok (.putfield 75, 3) := by decide +kernel
theorem dX9_count_5 : decode cX9_count 5 = .ok (.iload_n 1, 1) := by decide +kernel
theorem dX9_count_6 : decode cX9_count 6 = .ok (.ifCond .ne 10, 3) := by decide +kernel
theorem dX9_count_9 : decode cX9_count 9 = .ok (.aload_n 0, 1) := by decide +kernel
theorem dX9_count_10 : decode cX9_count 10 = .ok (.getfield 145, 3) := by decide +kernel
theorem dX9_count_13 : decode cX9_count 13 = .ok (.goto 40, 3) := by decide +kernel
theorem dX9_count_16 : decode cX9_count 16 = .ok (.iload_n 1, 1) := by decide +kernel
theorem dX9_count_17 : decode cX9_count 17 = .ok (.iconst 1, 1) := by decide +kernel
theorem dX9_count_18 : decode cX9_count 18 = .ok (.if_icmp .ne 10, 3) := by decide +kernel
theorem dX9_count_21 : decode cX9_count 21 = .ok (.aload_n 0, 1) := by decide +kernel
theorem dX9_count_22 : decode cX9_count 22 = .ok (.getfield 152, 3) := by decide +kernel
theorem dX9_count_25 : decode cX9_count 25 = .ok (.goto 28, 3) := by decide +kernel
theorem dX9_count_28 : decode cX9_count 28 = .ok (.iload_n 1, 1) := by decide +kernel
theorem dX9_count_29 : decode cX9_count 29 = .ok (.iconst 2, 1) := by decide +kernel
theorem dX9_count_30 : decode cX9_count 30 = .ok (.if_icmp .ne 10, 3) := by decide +kernel
theorem dX9_count_33 : decode cX9_count 33 = .ok (.aload_n 0, 1) := by decide +kernel
theorem dX9_count_34 : decode cX9_count 34 = .ok (.getfield 155, 3) := by decide +kernel
theorem dX9_count_37 : decode cX9_count 37 = .ok (.goto 16, 3) := by decide +kernel
theorem dX9_count_40 : decode cX9_count 40 = .ok (.iload_n 1, 1) := by decide +kernel
theorem dX9_count_41 : decode cX9_count 41 = .ok (.iconst 3, 1) := by decide +kernel
theorem dX9_count_42 : decode cX9_count 42 = .ok (.if_icmp .ne 10, 3) := by decide +kernel
theorem dX9_count_45 : decode cX9_count 45 = .ok (.aload_n 0, 1) := by decide +kernel
theorem dX9_count_46 : decode cX9_count 46 = .ok (.getfield 83, 3) := by decide +kernel
theorem dX9_count_49 : decode cX9_count 49 = .ok (.goto 4, 3) := by decide +kernel
theorem dX9_count_52 : decode cX9_count 52 = .ok (.iconst (-1), 1) := by decide +kernel
theorem dX9_count_53 : decode cX9_count 53 = .ok (.ireturn, 1) := by decide +kernel
theorem dJ6_bitCount_0f7a4_0 : decode cJ6_bitCount_0f7a4 0 = .ok (.iload_n 0, 1) := by decide +kernel
theorem dJ6_bitCount_0f7a4_1 : decode cJ6_bitCount_0f7a4 1 = .ok (.iload_n 0, 1) := by decide +kernel
theorem dJ6_bitCount_0f7a4_2 : decode cJ6_bitCount_0f7a4 2 = .ok (.iconst 1, 1) := by decide +kernel
theorem dJ6_bitCount_0f7a4_3 : decode cJ6_bitCount_0f7a4 3 = .ok (.iushr, 1) := by decide +kernel
theorem dJ6_bitCount_0f7a4_4 : decode cJ6_bitCount_0f7a4 4 = .ok (.ldc_w 265, 3) := by decide +kernel
theorem dJ6_bitCount_0f7a4_7 : decode cJ6_bitCount_0f7a4 7 = .ok (.iand, 1) := by decide +kernel
theorem dJ6_bitCount_0f7a4_8 : decode cJ6_bitCount_0f7a4 8 = .ok (.isub, 1) := by decide +kernel
theorem dJ6_bitCount_0f7a4_9 : decode cJ6_bitCount_0f7a4 9 = .ok (.istore_n 0, 1) := by decide +kernel
theorem dJ6_bitCount_0f7a4_10 : decode cJ6_bitCount_0f7a4 10 = .ok (.iload_n 0, 1) := by decide +kernel
theorem dJ6_bitCount_0f7a4_11 : decode cJ6_bitCount_0f7a4 11 = .ok (.ldc_w 266, 3) := by decide +kernel
theorem dJ6_bitCount_0f7a4_14 : decode cJ6_bitCount_0f7a4 14 = .ok (.iand, 1) := by decide +kernel
theorem dJ6_bitCount_0f7a4_15 : decode cJ6_bitCount_0f7a4 15 = .ok (.iload_n 0, 1) := by decide +kernel
theorem dJ6_bitCount_0f7a4_16 : decode cJ6_bitCount_0f7a4 16 = .ok (.iconst 2, 1) := by decide +kernel
theorem dJ6_bitCount_0f7a4_17 : decode cJ6_bitCount_0f7a4 17 = .ok (.iushr, 1) := by decide +kernel
theorem dJ6_bitCount_0f7a4_18 : decode cJ6_bitCount_0f7a4 18 = .ok (.ldc_w 266, 3) := by decide +kernel
theorem dJ6_bitCount_0f7a4_21 : decode cJ6_bitCount_0f7a4 21 = .ok (.iand, 1) := by decide +kernel
theorem dJ6_bitCount_0f7a4_22 : decode cJ6_bitCount_0f7a4 22 = .ok (.iadd, 1) := by decide +kernel
theorem dJ6_bitCount_0f7a4_23 : decode cJ6_bitCount_0f7a4 23 = .ok (.istore_n 0, 1) := by decide +kernel
theorem dJ6_bitCount_0f7a4_24 : decode cJ6_bitCount_0f7a4 24 = .ok (.iload_n 0, 1) := by decide +kernel
theorem dJ6_bitCount_0f7a4_25 : decode cJ6_bitCount_0f7a4 25 = .ok (.iload_n 0, 1) := by decide +kernel
theorem dJ6_bitCount_0f7a4_26 : decode cJ6_bitCount_0f7a4 26 = .ok (.iconst 4, 1) := by decide +kernel
theorem dJ6_bitCount_0f7a4_27 : decode cJ6_bitCount_0f7a4 27 = .ok (.iushr, 1) := by decide +kernel
theorem dJ6_bitCount_0f7a4_28 : decode cJ6_bitCount_0f7a4 28 = .ok (.iadd, 1) := by decide +kernel
theorem dJ6_bitCount_0f7a4_29 : decode cJ6_bitCount_0f7a4 29 = .ok (.ldc_w 267, 3) := by decide +kernel
theorem dJ6_bitCount_0f7a4_32 : decode cJ6_bitCount_0f7a4 32 = .ok (.iand, 1) := by decide +kernel
theorem dJ6_bitCount_0f7a4_33 : decode cJ6_bitCount_0f7a4 33 = .ok (.istore_n 0, 1) := by decide +kernel
theorem dJ6_bitCount_0f7a4_34 : decode cJ6_bitCount_0f7a4 34 = .ok (.iload_n 0, 1) := by decide +kernel
theorem dJ6_bitCount_0f7a4_35 : decode cJ6_bitCount_0f7a4 35 = .ok (.iload_n 0, 1) := by decide +kernel
theorem dJ6_bitCount_0f7a4_36 : decode cJ6_bitCount_0f7a4 36 = .ok (.bipush 8, 2) := by decide +kernel
theorem dJ6_bitCount_0f7a4_38 : decode cJ6_bitCount_0f7a4 38 = .ok (.iushr, 1) := by decide +kernel
theorem dJ6_bitCount_0f7a4_39 : decode cJ6_bitCount_0f7a4 39 = .ok (.iadd, 1) := by decide +kernel
theorem dJ6_bitCount_0f7a4_40 : decode cJ6_bitCount_0f7a4 40 = .ok (.istore_n 0, 1) := by decide +kernel
theorem dJ6_bitCount_0f7a4_41 : decode cJ6_bitCount_0f7a4 41 = .ok (.iload_n 0, 1) := by decide +kernel
theorem dJ6_bitCount_0f7a4_42 : decode cJ6_bitCount_0f7a4 42 = .ok (.iload_n 0, 1) := by decide +kernel
theorem dJ6_bitCount_0f7a4_43 : decode cJ6_bitCount_0f7a4 43 = .ok (.bipush 16, 2) := by decide +kernel
theorem dJ6_bitCount_0f7a4_45 : decode cJ6_bitCount_0f7a4 45 = .ok (.iushr, 1) := by decide +kernel
theorem dJ6_bitCount_0f7a4_46 : decode cJ6_bitCount_0f7a4 46 = .ok (.iadd, 1) := by decide +kernel
theorem dJ6_bitCount_0f7a4_47 : decode cJ6_bitCount_0f7a4 47 = .ok (.istore_n 0, 1) := by decide +kernel
theorem dJ6_bitCount_0f7a4_48 : decode cJ6_bitCount_0f7a4 48 = .ok (.iload_n 0, 1) := by decide +kernel
theorem dJ6_bitCount_0f7a4_49 : decode cJ6_bitCount_0f7a4 49 = .ok (.bipush 63, 2) := by decide +kernel
theorem dJ6_bitCount_0f7a4_51 : decode cJ6_bitCount_0f7a4 51 = .ok (.iand, 1) := by decide +kernel
theorem dJ6_bitCount_0f7a4_52 : decode cJ6_bitCount_0f7a4 52 = .ok (.ireturn, 1) := by decide +kernel
theorem dJ9_max_7cf53_0 : decode cJ9_max_7cf53 0 = .ok (.iload_n 0, 1) := by decide +kernel
theorem dJ9_max_7cf53_1 : decode cJ9_max_7cf53 1 = .ok (.iload_n 1, 1) := by decide +kernel
theorem dJ9_max_7cf53_2 : decode cJ9_max_7cf53 2 = .ok (.if_icmp .lt 7, 3) := by decide +kernel
theorem dJ9_max_7cf53_5 : decode cJ9_max_7cf53 5 = .ok (.iload_n 0, 1) := by decide +kernel
theorem dJ9_max_7cf53_6 : decode cJ9_max_7cf53 6 = .ok (.goto 4, 3) := by decide +kernel
theorem dJ9_max_7cf53_9 : decode cJ9_max_7cf53 9 = .ok (.iload_n 1, 1) := by decide +kernel
theorem dJ9_max_7cf53_10 : decode cJ9_max_7cf53 10 = .ok (.ireturn, 1) := by decide +kernel
theorem dJ9_min_7cf53_0 : decode cJ9_min_7cf53 0 = .ok (.iload_n 0, 1) := by decide +kernel
theorem dJ9_min_7cf53_1 : decode cJ9_min_7cf53 1 = .ok (.iload_n 1, 1) := by decide +kernel
theorem dJ9_min_7cf53_2 : decode cJ9_min_7cf53 2 = .ok (.if_icmp .gt 7, 3) := by decide +kernel
theorem dJ9_min_7cf53_5 : decode cJ9_min_7cf53 5 = .ok (.iload_n 0, 1) := by decide +kernel
theorem dJ9_min_7cf53_6 : decode cJ9_min_7cf53 6 = .ok (.goto 4, 3) := by decide +kernel
theorem dJ9_min_7cf53_9 : decode cJ9_min_7cf53 9 = .ok (.iload_n 1, 1) := by decide +kernel
theorem dJ9_min_7cf53_10 : decode cJ9_min_7cf53 10 = .ok (.ireturn, 1) := by decide +kernel
theorem dJ7_fill_53178_0 : decode cJ7_fill_53178 0 = .ok (.iconst 0, 1) := by decide +kernel
theorem dJ7_fill_53178_1 : decode cJ7_fill_53178 1 = .ok (.istore_n 2, 1) := by decide +kernel
theorem dJ7_fill_53178_2 : decode cJ7_fill_53178 2 = .ok (.aload_n 0, 1) := by decide +kernel
theorem dJ7_fill_53178_3 : decode cJ7_fill_53178 3 = .ok (.arraylength, 1) := by decide +kernel
theorem dJ7_fill_53178_4 : decode cJ7_fill_53178 4 = .ok (.istore_n 3, 1) := by decide +kernel
theorem dJ7_fill_53178_5 : decode cJ7_fill_53178 5 = .ok (.iload_n 2, 1) := by decide +kernel
theorem dJ7_fill_53178_6 : decode cJ7_fill_53178 6 = .ok (.iload_n 3, 1) := by decide +kernel
theorem dJ7_fill_53178_7 : decode cJ7_fill_53178 7 = .ok (.if_icmp .ge 13, 3) := by decide +kernel
theorem dJ7_fill_53178_10 : decode cJ7_fill_53178 10 = .ok (.aload_n 0, 1) := by decide +kernel
theorem dJ7_fill_53178_11 : decode cJ7_fill_53178 11 = .ok (.iload_n 2, 1) := by decide +kernel
theorem dJ7_fill_53178_12 : decode cJ7_fill_53178 12 = .ok (.iload_n 1, 1) := by decide +kernel
theorem dJ7_fill_53178_13 : decode cJ7_fill_53178 13 = .ok (.iastore, 1) := by decide +kernel
theorem dJ7_fill_53178_14 : decode cJ7_fill_53178 14 = .ok (.iinc 2 1, 3) := by decide +kernel
theorem dJ7_fill_53178_17 : decode cJ7_fill_53178 17 = .ok (.goto (-12), 3) := by decide +kernel
theorem dJ7_fill_53178_20 : decode cJ7_fill_53178 20 = .ok (.return_, 1) := by decide +kernel
end
section
set_option maxRecDepth 20000 in
theorem ggL_law_X8_init : GoodIn wsL_law wsX8_init := goodIn_r _ [9, 10, 11, 12, 13, 14, 15, 16, 17, 18, 19, 20, 21, 22, 23, 24, 25, 26, 27, 28, 29, 30, 31, 32, 33, 34, 35, 36, 37, 38, 39, 40, 41, 42, 43, 44, 45, 46, 47, 48, 49, 50, 51, 52, 53, 54, 55, 56, 57, 58, 59, 60, 61, 62, 63, 64, 65, 66, 67, 68, 69, 70, 71, 72, 73, 74, 75, 76, 77, 78, 79, 80, 81, 82, 83, 84, 85, 86, 87, 88, 89, 90, 91, 92, 93, 94, 95, 96, 97, 98, 99, 100, 101, 857, 858, 859, 860, 861, 862, 863, 810, 811, 812, 813, 814, 815, 816, 817, 818, 819, 820, 864, 865, 866, 867, 868, 869, 870, 871, 872, 873, 874, 875, 876, 877, 878, 879, 880, 881, 882, 883, 884, 885, 886, 887] (by decide +kernel) (by decide +kernel)
set_option maxRecDepth 20000 in
theorem gL_law_X8_init : GoodIn wsL_law (wsX8_init) := ggL_law_X8_init
set_option maxRecDepth 20000 in
theorem ggL_law_X9_init : GoodIn wsL_law wsX9_init := goodIn_r _ [104, 105, 11, 12, 53, 106, 107, 108, 109, 110, 111, 47, 112, 113, 114, 115, 116, 117, 118, 119, 93, 120, 121, 122, 123, 124, 125, 126, 127, 5, 128, 129, 130, 131, 132, 133, 134, 135, 136, 137, 138, 139, 140, 141, 821, 822, 823, 824, 825, 826, 827, 828, 829, 830, 831, 832, 833, 834, 835, 836, 837, 838, 839, 840, 841, 842, 843, 844, 845, 846, 847, 848, 849, 850, 851, 852, 853, 854, 855, 856] (by decide +kernel) (by decide +kernel)
set_option maxRecDepth 20000 in
theorem gL_law_X9_init : GoodIn wsL_law (wsX9_init) := ggL_law_X9_init
set_option maxRecDepth 20000 in
theorem ggL_law_X8_type : GoodIn wsL_law wsX8_type := goodIn_r _ [145, 21, 146, 147, 148, 149, 20, 150, 151, 68, 810, 811, 812, 813, 814, 815, 816, 817, 818, 819, 820, 864, 865, 866, 867, 868, 869] (by decide +kernel) (by decide +kernel)
set_option maxRecDepth 20000 in
theorem gL_law_X8_type : GoodIn wsL_law (wsV RL 13 RX8 yX8_type wsX8_type) := goodIn_app (goodIn_of _ (by decide +kernel)) ggL_law_X8_type
set_option maxRecDepth 20000 in
theorem ggL_law_X9_type : GoodIn wsL_law wsX9_type := goodIn_r _ [155, 156, 135, 106, 157, 158, 5, 159, 821, 822, 823, 824, 825, 826, 827, 828, 829, 830, 831, 832, 833, 834, 835, 836, 837, 838, 839, 840, 841, 842, 843, 844, 845, 846, 847, 848, 849, 850, 851, 852, 853, 854, 855, 856] (by decide +kernel) (by decide +kernel)
set_option maxRecDepth 20000 in
theorem gL_law_X9_type : GoodIn wsL_law (wsV RL 17 RX9 yX9_type wsX9_type) := goodIn_app (goodIn_of _ (by decide +kernel)) ggL_law_X9_type
set_option maxRecDepth 20000 in
theorem ggL_law_X8_clear : GoodIn wsL_law wsX8_clear := goodIn_r _ [163, 21, 146, 810, 811, 812, 813, 814, 815, 816, 817, 818, 819, 820, 864, 865, 866, 867, 868, 869] (by decide +kernel) (by decide +kernel)
set_option maxRecDepth 20000 in
theorem gL_law_X8_clear : GoodIn wsL_law (wsV RL 18 RX8 yX8_clear wsX8_clear) := goodIn_app (goodIn_of _ (by decide +kernel)) ggL_law_X8_clear
set_option maxRecDepth 20000 in
theorem ggL_law_X9_clear : GoodIn wsL_law wsX9_clear := goodIn_r _ [167, 156, 135, 821, 822, 823, 824, 825, 826, 827, 828, 829, 830, 831, 832, 833, 834, 835, 836, 837, 838, 839, 840, 841, 842, 843, 844, 845, 846, 847, 848, 849, 850, 851, 852, 853, 854, 855, 856] (by decide +kernel) (by decide +kernel)
set_option maxRecDepth 20000 in
theorem gL_law_X9_clear : GoodIn wsL_law (wsV RL 22 RX9 yX9_clear wsX9_clear) := goodIn_app (goodIn_of _ (by decide +kernel)) ggL_law_X9_clear
set_option maxRecDepth 20000 in
theorem ggL_law_X8_store : GoodIn wsL_law wsX8_store := goodIn_r _ [171, 21, 17, 16, 146, 25, 172, 29, 173, 37, 48, 174, 175, 176, 20, 177, 178, 179, 180, 181, 60, 61, 15, 62, 63, 64, 54, 55, 56, 57, 182, 183, 184, 185, 151, 68, 186, 187, 188, 189, 190, 191, 192, 193, 194, 195, 196, 197, 198, 199, 200, 201, 202, 203, 204, 205, 206, 207, 208, 209, 210, 211, 212, 213, 214, 215, 216, 217, 218, 219, 220, 221, 222, 223, 224, 225, 226, 227, 228, 229, 230, 231, 232, 2, 233, 234, 235, 236, 237, 238, 239, 240, 241, 242, 243, 244, 245, 246, 247, 248, 249, 250, 251, 252, 253, 254, 255, 256, 257, 258, 259, 260, 261, 58, 262, 263, 264, 265, 266, 267, 268, 269, 270, 271, 272, 273, 274, 275, 276, 277, 278, 279, 280, 281, 282, 283, 284, 285, 286, 287, 36, 288, 289, 290, 291, 810, 811, 812, 813, 814, 815, 816, 817, 818, 819, 820, 864, 865, 866, 867, 868, 869, 870, 871, 872, 873, 874, 857, 858, 859, 860, 861, 862, 863, 878, 879, 880, 881, 882, 883] (by decide +kernel) (by decide +kernel)
set_option maxRecDepth 20000 in
theorem gL_law_X8_store : GoodIn wsL_law (wsV RL 23 RX8 yX8_store wsX8_store) := goodIn_app (goodIn_of _ (by decide +kernel)) ggL_law_X8_store
set_option maxRecDepth 20000 in
theorem ggL_law_X9_store : GoodIn wsL_law wsX9_store := goodIn_r _ [295, 156, 296, 297, 298, 299, 125, 126, 127, 5, 128, 129, 107, 300, 301, 302, 303, 304, 305, 306, 307, 308, 135, 106, 157, 158, 159, 309, 310, 311, 312, 313, 314, 315, 316, 317, 318, 319, 320, 321, 322, 323, 324, 325, 326, 327, 328, 329, 330, 331, 332, 333, 334, 335, 336, 337, 338, 339, 340, 341, 342, 343, 344, 345, 346, 122, 109, 347, 348, 349, 130, 131, 132, 133, 134, 108, 136, 137, 138, 112, 139, 140, 141, 821, 822, 823, 824, 825, 826, 827, 828, 829, 830, 831, 832, 833, 834, 835, 836, 837, 838, 839, 840, 841, 842, 843, 844, 845, 846, 847, 848, 849, 850, 851, 852, 853, 854, 855, 856] (by decide +kernel) (by decide +kernel)
set_option maxRecDepth 20000 in
theorem gL_law_X9_store : GoodIn wsL_law (wsV RL 26 RX9 yX9_store wsX9_store) := goodIn_app (goodIn_of _ (by decide +kernel)) ggL_law_X9_store
set_option maxRecDepth 20000 in
theorem ggL_law_X8_item : GoodIn wsL_law wsX8_item := goodIn_r _ [353, 16, 354, 355, 356, 357, 358, 225, 226, 15, 227, 63, 359, 360, 361, 362, 250, 251, 252, 253, 57, 56, 54, 363, 271, 272, 273, 274, 275, 276, 364, 365, 366, 367, 238, 239, 240, 241, 55, 810, 811, 812, 813, 814, 815, 816, 817, 818, 819, 820, 857, 858, 859, 860, 861, 862, 863] (by decide +kernel) (by decide +kernel)
set_option maxRecDepth 20000 in
theorem gL_law_X8_item : GoodIn wsL_law (wsV RL 27 RX8 yX8_item wsX8_item) := goodIn_app (goodIn_of _ (by decide +kernel)) ggL_law_X8_item
set_option maxRecDepth 20000 in
theorem ggL_law_X9_item : GoodIn wsL_law wsX9_item := goodIn_r _ [371, 156, 108, 134, 372, 373, 374, 5, 375, 157, 158, 159, 376, 377, 378, 379, 330, 331, 332, 380, 381, 382, 383, 384, 385, 386, 387, 388, 389, 390, 821, 822, 823, 824, 825, 826, 827, 828, 829, 830, 831, 832, 833, 834, 835, 836, 837, 838, 839, 840, 841, 842, 843, 844, 845, 846, 847, 848, 849, 850, 851, 852, 853, 854, 855, 856] (by decide +kernel) (by decide +kernel)
set_option maxRecDepth 20000 in
theorem gL_law_X9_item : GoodIn wsL_law (wsV RL 31 RX9 yX9_item wsX9_item) := goodIn_app (goodIn_of _ (by decide +kernel)) ggL_law_X9_item
set_option maxRecDepth 20000 in
theorem ggL_law_X8_at : GoodIn wsL_law wsX8_at := goodIn_r _ [394, 16, 395, 358, 225, 226, 15, 227, 63, 810, 811, 812, 813, 814, 815, 816, 817, 818, 819, 820, 857, 858, 859, 860, 861, 862, 863] (by decide +kernel) (by decide +kernel)
set_option maxRecDepth 20000 in
theorem gL_law_X8_at : GoodIn wsL_law (wsV RL 32 RX8 yX8_at wsX8_at) := goodIn_app (goodIn_of _ (by decide +kernel)) ggL_law_X8_at
set_option maxRecDepth 20000 in
theorem ggL_law_X9_at : GoodIn wsL_law wsX9_at := goodIn_r _ [399, 156, 108, 134, 372, 373, 374, 5, 375, 157, 158, 159, 347, 348, 349, 821, 822, 823, 824, 825, 826, 827, 828, 829, 830, 831, 832, 833, 834, 835, 836, 837, 838, 839, 840, 841, 842, 843, 844, 845, 846, 847, 848, 849, 850, 851, 852, 853, 854, 855, 856] (by decide +kernel) (by decide +kernel)
set_option maxRecDepth 20000 in
theorem gL_law_X9_at : GoodIn wsL_law (wsV RL 35 RX9 yX9_at wsX9_at) := goodIn_app (goodIn_of _ (by decide +kernel)) ggL_law_X9_at
set_option maxRecDepth 20000 in
theorem ggL_law_X8_now : GoodIn wsL_law wsX8_now := goodIn_r _ [403, 16, 404, 29, 173, 405, 406, 407, 2, 408, 357, 409, 217, 218, 15, 219, 220, 221, 222, 223, 224, 225, 226, 227, 63, 228, 229, 230, 231, 54, 232, 233, 234, 235, 236, 237, 57, 238, 239, 240, 241, 56, 55, 410, 411, 412, 413, 246, 247, 248, 249, 250, 251, 252, 253, 254, 255, 256, 257, 414, 415, 416, 417, 363, 271, 272, 273, 274, 275, 276, 418, 419, 420, 421, 422, 423, 424, 425, 426, 427, 428, 429, 430, 431, 432, 433, 434, 435, 436, 437, 438, 439, 440, 356, 364, 365, 366, 367, 441, 810, 811, 812, 813, 814, 815, 816, 817, 818, 819, 820, 857, 858, 859, 860, 861, 862, 863, 873, 874] (by decide +kernel) (by decide +kernel)
set_option maxRecDepth 20000 in
theorem gL_law_X8_now : GoodIn wsL_law (wsV RL 36 RX8 yX8_now wsX8_now) := goodIn_app (goodIn_of _ (by decide +kernel)) ggL_law_X8_now
set_option maxRecDepth 20000 in
theorem ggL_law_X9_now : GoodIn wsL_law wsX9_now := goodIn_r _ [445, 156, 138, 157, 158, 5, 159, 446, 447, 448, 449, 134, 108, 388, 389, 390, 450, 451, 452, 453, 330, 331, 332, 454, 455, 456, 457, 329, 458, 459, 460, 461, 337, 123, 333, 334, 335, 336, 338, 139, 140, 141, 343, 344, 345, 346, 122, 109, 347, 348, 349, 462, 463, 464, 465, 466, 467, 468, 469, 119, 470, 471, 472, 473, 474, 475, 476, 477, 384, 385, 386, 387, 821, 822, 823, 824, 825, 826, 827, 828, 829, 830, 831, 832, 833, 834, 835, 836, 837, 838, 839, 840, 841, 842, 843, 844, 845, 846, 847, 848, 849, 850, 851, 852, 853, 854, 855, 856] (by decide +kernel) (by decide +kernel)
set_option maxRecDepth 20000 in
theorem gL_law_X9_now : GoodIn wsL_law (wsV RL 39 RX9 yX9_now wsX9_now) := goodIn_app (goodIn_of _ (by decide +kernel)) ggL_law_X9_now
set_option maxRecDepth 20000 in
theorem ggL_law_X8_puts : GoodIn wsL_law wsX8_puts := goodIn_r _ [481, 16, 33, 29, 482, 221, 222, 15, 223, 224, 225, 226, 227, 63, 441, 229, 230, 231, 54, 232, 2, 233, 483, 235, 236, 237, 57, 238, 239, 240, 241, 56, 55, 484, 485, 486, 32, 487, 84, 488, 85, 489, 490, 491, 492, 493, 494, 495, 496, 196, 197, 198, 497, 498, 499, 500, 501, 502, 503, 504, 505, 506, 507, 508, 28, 509, 510, 79, 511, 512, 513, 514, 515, 278, 279, 280, 64, 281, 282, 283, 284, 516, 243, 244, 245, 234, 246, 247, 248, 249, 250, 251, 252, 253, 254, 255, 256, 257, 258, 259, 260, 261, 58, 262, 263, 264, 265, 266, 267, 268, 269, 270, 271, 272, 273, 274, 275, 276, 810, 811, 812, 813, 814, 815, 816, 817, 818, 819, 820, 857, 858, 859, 860, 861, 862, 863, 875, 876, 877, 873, 874] (by decide +kernel) (by decide +kernel)
set_option maxRecDepth 20000 in
theorem gL_law_X8_puts : GoodIn wsL_law (wsV RL 40 RX8 yX8_puts wsX8_puts) := goodIn_app (goodIn_of _ (by decide +kernel)) ggL_law_X8_puts
set_option maxRecDepth 20000 in
theorem ggL_law_X9_puts : GoodIn wsL_law wsX9_puts := goodIn_r _ [520, 156, 108, 329, 134, 521, 522, 523, 5, 524, 372, 373, 374, 375, 157, 158, 159, 330, 331, 332, 458, 459, 460, 461, 337, 123, 333, 334, 335, 336, 338, 139, 140, 141, 343, 344, 345, 346, 122, 109, 347, 348, 349, 462, 463, 464, 465, 525, 526, 527, 528, 119, 529, 116, 530, 531, 532, 533, 138, 113, 339, 340, 341, 342, 388, 389, 390, 821, 822, 823, 824, 825, 826, 827, 828, 829, 830, 831, 832, 833, 834, 835, 836, 837, 838, 839, 840, 841, 842, 843, 844, 845, 846, 847, 848, 849, 850, 851, 852, 853, 854, 855, 856] (by decide +kernel) (by decide +kernel)
set_option maxRecDepth 20000 in
theorem gL_law_X9_puts : GoodIn wsL_law (wsV RL 43 RX9 yX9_puts wsX9_puts) := goodIn_app (goodIn_of _ (by decide +kernel)) ggL_law_X9_puts
set_option maxRecDepth 20000 in
theorem ggL_law_X8_lists : GoodIn wsL_law wsX8_lists := goodIn_r _ [537, 16, 25, 172, 482, 221, 222, 15, 223, 224, 225, 226, 227, 63, 441, 229, 230, 231, 54, 232, 2, 233, 538, 539, 540, 24, 541, 542, 72, 73, 543, 544, 545, 546, 810, 811, 812, 813, 814, 815, 816, 817, 818, 819, 820, 870, 871, 872, 857, 858, 859, 860, 861, 862, 863] (by decide +kernel) (by decide +kernel)
set_option maxRecDepth 20000 in
theorem gL_law_X8_lists : GoodIn wsL_law (wsV RL 44 RX8 yX8_lists wsX8_lists) := goodIn_app (goodIn_of _ (by decide +kernel)) ggL_law_X8_lists
set_option maxRecDepth 20000 in
theorem ggL_law_X9_lists : GoodIn wsL_law wsX9_lists := goodIn_r _ [550, 156, 108, 136, 114, 115, 521, 522, 523, 5, 524, 372, 373, 374, 375, 134, 157, 158, 159, 330, 331, 332, 821, 822, 823, 824, 825, 826, 827, 828, 829, 830, 831, 832, 833, 834, 835, 836, 837, 838, 839, 840, 841, 842, 843, 844, 845, 846, 847, 848, 849, 850, 851, 852, 853, 854, 855, 856] (by decide +kernel) (by decide +kernel)
set_option maxRecDepth 20000 in
theorem gL_law_X9_lists : GoodIn wsL_law (wsV RL 47 RX9 yX9_lists wsX9_lists) := goodIn_app (goodIn_of _ (by decide +kernel)) ggL_law_X9_lists
set_option maxRecDepth 20000 in
theorem ggL_law_X8_adds : GoodIn wsL_law wsX8_adds := goodIn_r _ [554, 25, 172, 16, 17, 29, 555, 556, 557, 24, 558, 542, 72, 73, 559, 229, 230, 15, 231, 54, 232, 2, 233, 277, 278, 279, 280, 63, 64, 281, 282, 283, 284, 55, 56, 57, 560, 561, 562, 563, 564, 565, 33, 483, 235, 236, 237, 238, 239, 240, 241, 484, 485, 486, 32, 487, 84, 488, 85, 489, 490, 491, 492, 493, 494, 495, 496, 196, 197, 198, 497, 498, 499, 500, 501, 502, 503, 504, 505, 516, 243, 244, 245, 234, 246, 247, 248, 249, 250, 251, 252, 253, 254, 255, 256, 257, 258, 259, 260, 261, 58, 262, 263, 264, 265, 266, 267, 268, 269, 270, 271, 272, 273, 274, 275, 276, 506, 507, 508, 28, 509, 510, 79, 511, 512, 513, 514, 515, 566, 567, 568, 569, 810, 811, 812, 813, 814, 815, 816, 817, 818, 819, 820, 870, 871, 872, 857, 858, 859, 860, 861, 862, 863, 875, 876, 877, 873, 874] (by decide +kernel) (by decide +kernel)
set_option maxRecDepth 20000 in
theorem gL_law_X8_adds : GoodIn wsL_law (wsV RL 48 RX8 yX8_adds wsX8_adds) := goodIn_app (goodIn_of _ (by decide +kernel)) ggL_law_X8_adds
set_option maxRecDepth 20000 in
theorem ggL_law_X9_adds : GoodIn wsL_law wsX9_adds := goodIn_r _ [573, 156, 136, 108, 114, 115, 110, 134, 329, 330, 331, 5, 332, 139, 140, 141, 333, 334, 335, 336, 337, 338, 157, 158, 159, 525, 526, 527, 528, 119, 529, 116, 339, 340, 341, 342, 343, 344, 345, 346, 122, 109, 347, 348, 349, 530, 531, 532, 533, 138, 113, 462, 463, 464, 465, 388, 389, 390, 821, 822, 823, 824, 825, 826, 827, 828, 829, 830, 831, 832, 833, 834, 835, 836, 837, 838, 839, 840, 841, 842, 843, 844, 845, 846, 847, 848, 849, 850, 851, 852, 853, 854, 855, 856] (by decide +kernel) (by decide +kernel)
set_option maxRecDepth 20000 in
theorem gL_law_X9_adds : GoodIn wsL_law (wsV RL 51 RX9 yX9_adds wsX9_adds) := goodIn_app (goodIn_of _ (by decide +kernel)) ggL_law_X9_adds
set_option maxRecDepth 20000 in
theorem ggL_law_X8_cuts : GoodIn wsL_law wsX8_cuts := goodIn_r _ [577, 16, 29, 404, 482, 221, 222, 15, 223, 224, 225, 226, 227, 63, 441, 229, 230, 231, 54, 232, 2, 233, 506, 507, 508, 28, 509, 510, 79, 511, 512, 513, 514, 515, 278, 279, 280, 64, 281, 282, 283, 284, 55, 56, 57, 578, 579, 580, 581, 810, 811, 812, 813, 814, 815, 816, 817, 818, 819, 820, 857, 858, 859, 860, 861, 862, 863, 873, 874] (by decide +kernel) (by decide +kernel)
set_option maxRecDepth 20000 in
theorem gL_law_X8_cuts : GoodIn wsL_law (wsV RL 52 RX8 yX8_cuts wsX8_cuts) := goodIn_app (goodIn_of _ (by decide +kernel)) ggL_law_X8_cuts
set_option maxRecDepth 20000 in
theorem ggL_law_X9_cuts : GoodIn wsL_law wsX9_cuts := goodIn_r _ [585, 156, 108, 521, 522, 523, 5, 524, 372, 373, 374, 375, 134, 157, 158, 159, 330, 331, 332, 530, 531, 532, 533, 138, 113, 446, 447, 448, 449, 388, 389, 390, 821, 822, 823, 824, 825, 826, 827, 828, 829, 830, 831, 832, 833, 834, 835, 836, 837, 838, 839, 840, 841, 842, 843, 844, 845, 846, 847, 848, 849, 850, 851, 852, 853, 854, 855, 856] (by decide +kernel) (by decide +kernel)
set_option maxRecDepth 20000 in
theorem gL_law_X9_cuts : GoodIn wsL_law (wsV RL 55 RX9 yX9_cuts wsX9_cuts) := goodIn_app (goodIn_of _ (by decide +kernel)) ggL_law_X9_cuts
set_option maxRecDepth 20000 in
theorem ggL_law_X8_sorts : GoodIn wsL_law wsX8_sorts := goodIn_r _ [589, 29, 16, 17, 506, 507, 508, 28, 509, 510, 79, 511, 512, 513, 514, 515, 278, 279, 15, 280, 63, 64, 54, 281, 282, 283, 284, 55, 56, 57, 277, 590, 591, 592, 593, 433, 434, 435, 436, 232, 2, 233, 266, 267, 268, 269, 566, 567, 568, 569, 810, 811, 812, 813, 814, 815, 816, 817, 818, 819, 820, 873, 874, 857, 858, 859, 860, 861, 862, 863] (by decide +kernel) (by decide +kernel)
set_option maxRecDepth 20000 in
theorem gL_law_X8_sorts : GoodIn wsL_law (wsV RL 56 RX8 yX8_sorts wsX8_sorts) := goodIn_app (goodIn_of _ (by decide +kernel)) ggL_law_X8_sorts
set_option maxRecDepth 20000 in
theorem ggL_law_X9_sorts : GoodIn wsL_law wsX9_sorts := goodIn_r _ [597, 156, 108, 110, 134, 122, 530, 531, 532, 5, 533, 138, 113, 139, 140, 141, 598, 599, 600, 601, 120, 602, 603, 604, 605, 330, 331, 332, 376, 377, 378, 379, 606, 607, 608, 609, 462, 463, 464, 465, 388, 389, 390, 821, 822, 823, 824, 825, 826, 827, 828, 829, 830, 831, 832, 833, 834, 835, 836, 837, 838, 839, 840, 841, 842, 843, 844, 845, 846, 847, 848, 849, 850, 851, 852, 853, 854, 855, 856] (by decide +kernel) (by decide +kernel)
set_option maxRecDepth 20000 in
theorem gL_law_X9_sorts : GoodIn wsL_law (wsV RL 59 RX9 yX9_sorts wsX9_sorts) := goodIn_app (goodIn_of _ (by decide +kernel)) ggL_law_X9_sorts
set_option maxRecDepth 20000 in
theorem ggL_law_X8_undo : GoodIn wsL_law wsX8_undo := goodIn_r _ [613, 29, 16, 173, 614, 615, 616, 28, 617, 510, 79, 515, 278, 279, 15, 280, 63, 64, 54, 281, 282, 283, 284, 55, 56, 57, 810, 811, 812, 813, 814, 815, 816, 817, 818, 819, 820, 873, 874, 857, 858, 859, 860, 861, 862, 863] (by decide +kernel) (by decide +kernel)
set_option maxRecDepth 20000 in
theorem gL_law_X8_undo : GoodIn wsL_law (wsV RL 60 RX8 yX8_undo wsX8_undo) := goodIn_app (goodIn_of _ (by decide +kernel)) ggL_law_X8_undo
set_option maxRecDepth 20000 in
theorem ggL_law_X9_undo : GoodIn wsL_law wsX9_undo := goodIn_r _ [621, 156, 138, 108, 113, 821, 822, 823, 824, 825, 826, 827, 828, 829, 830, 831, 832, 833, 834, 835, 836, 837, 838, 839, 840, 841, 842, 843, 844, 845, 846, 847, 848, 849, 850, 851, 852, 853, 854, 855, 856] (by decide +kernel) (by decide +kernel)
set_option maxRecDepth 20000 in
theorem gL_law_X9_undo : GoodIn wsL_law (wsV RL 63 RX9 yX9_undo wsX9_undo) := goodIn_app (goodIn_of _ (by decide +kernel)) ggL_law_X9_undo
set_option maxRecDepth 20000 in
theorem ggL_law_X8_lap : GoodIn wsL_law wsX8_lap := goodIn_r _ [625, 33, 626, 627, 810, 811, 812, 813, 814, 815, 816, 817, 818, 819, 820, 875, 876, 877] (by decide +kernel) (by decide +kernel)
set_option maxRecDepth 20000 in
theorem gL_law_X8_lap : GoodIn wsL_law (wsV RL 64 RX8 yX8_lap wsX8_lap) := goodIn_app (goodIn_of _ (by decide +kernel)) ggL_law_X8_lap
set_option maxRecDepth 20000 in
theorem ggL_law_X9_lap : GoodIn wsL_law wsX9_lap := goodIn_r _ [631, 156, 529, 116, 821, 822, 823, 824, 825, 826, 827, 828, 829, 830, 831, 832, 833, 834, 835, 836, 837, 838, 839, 840, 841, 842, 843, 844, 845, 846, 847, 848, 849, 850, 851, 852, 853, 854, 855, 856] (by decide +kernel) (by decide +kernel)
set_option maxRecDepth 20000 in
theorem gL_law_X9_lap : GoodIn wsL_law (wsV RL 67 RX9 yX9_lap wsX9_lap) := goodIn_app (goodIn_of _ (by decide +kernel)) ggL_law_X9_lap
set_option maxRecDepth 20000 in
theorem ggL_law_X8_arc : GoodIn wsL_law wsX8_arc := goodIn_r _ [635, 16, 482, 221, 222, 15, 223, 224, 225, 226, 227, 63, 441, 229, 230, 231, 54, 232, 2, 233, 410, 411, 412, 413, 234, 235, 236, 237, 57, 238, 239, 240, 241, 56, 55, 246, 247, 248, 249, 250, 251, 252, 253, 254, 255, 256, 257, 483, 636, 637, 810, 811, 812, 813, 814, 815, 816, 817, 818, 819, 820, 857, 858, 859, 860, 861, 862, 863] (by decide +kernel) (by decide +kernel)
set_option maxRecDepth 20000 in
theorem gL_law_X8_arc : GoodIn wsL_law (wsV RL 68 RX8 yX8_arc wsX8_arc) := goodIn_app (goodIn_of _ (by decide +kernel)) ggL_law_X8_arc
set_option maxRecDepth 20000 in
theorem ggL_law_X9_arc : GoodIn wsL_law wsX9_arc := goodIn_r _ [641, 156, 108, 329, 337, 338, 521, 522, 523, 5, 524, 372, 373, 374, 375, 134, 157, 158, 159, 330, 331, 332, 458, 459, 460, 461, 123, 333, 334, 335, 336, 139, 140, 141, 343, 344, 345, 346, 122, 109, 347, 348, 349, 462, 463, 464, 465, 821, 822, 823, 824, 825, 826, 827, 828, 829, 830, 831, 832, 833, 834, 835, 836, 837, 838, 839, 840, 841, 842, 843, 844, 845, 846, 847, 848, 849, 850, 851, 852, 853, 854, 855, 856] (by decide +kernel) (by decide +kernel)
set_option maxRecDepth 20000 in
theorem gL_law_X9_arc : GoodIn wsL_law (wsV RL 72 RX9 yX9_arc wsX9_arc) := goodIn_app (goodIn_of _ (by decide +kernel)) ggL_law_X9_arc
set_option maxRecDepth 20000 in
theorem ggL_law_X8_orders : GoodIn wsL_law wsX8_orders := goodIn_r _ [645, 41, 16, 646, 647, 648, 40, 649, 94, 650, 651, 652, 653, 654, 96, 655, 656, 657, 15, 658, 63, 54, 659, 426, 427, 428, 660, 661, 662, 663, 664, 665, 434, 435, 436, 55, 232, 2, 233, 666, 278, 279, 280, 64, 281, 282, 283, 284, 56, 57, 810, 811, 812, 813, 814, 815, 816, 817, 818, 819, 820, 884, 885, 886, 857, 858, 859, 860, 861, 862, 863] (by decide +kernel) (by decide +kernel)
set_option maxRecDepth 20000 in
theorem gL_law_X8_orders : GoodIn wsL_law (wsV RL 73 RX8 yX8_orders wsX8_orders) := goodIn_app (goodIn_of _ (by decide +kernel)) ggL_law_X8_orders
set_option maxRecDepth 20000 in
theorem ggL_law_X9_orders : GoodIn wsL_law wsX9_orders := goodIn_r _ [670, 156, 120, 598, 599, 600, 5, 601, 134, 602, 603, 604, 605, 330, 331, 332, 376, 377, 378, 379, 108, 821, 822, 823, 824, 825, 826, 827, 828, 829, 830, 831, 832, 833, 834, 835, 836, 837, 838, 839, 840, 841, 842, 843, 844, 845, 846, 847, 848, 849, 850, 851, 852, 853, 854, 855, 856] (by decide +kernel) (by decide +kernel)
set_option maxRecDepth 20000 in
theorem gL_law_X9_orders : GoodIn wsL_law (wsV RL 77 RX9 yX9_orders wsX9_orders) := goodIn_app (goodIn_of _ (by decide +kernel)) ggL_law_X9_orders
set_option maxRecDepth 20000 in
theorem ggL_law_X8_number : GoodIn wsL_law wsX8_number := goodIn_r _ [674, 41, 16, 675, 676, 677, 40, 678, 664, 679, 94, 650, 651, 652, 653, 654, 96, 655, 656, 657, 15, 658, 63, 54, 659, 426, 427, 428, 660, 661, 662, 663, 665, 434, 435, 436, 55, 232, 2, 233, 666, 278, 279, 280, 64, 281, 282, 283, 284, 56, 57, 810, 811, 812, 813, 814, 815, 816, 817, 818, 819, 820, 857, 858, 859, 860, 861, 862, 863, 884, 885, 886] (by decide +kernel) (by decide +kernel)
set_option maxRecDepth 20000 in
theorem gL_law_X8_number : GoodIn wsL_law (wsV RL 78 RX8 yX8_number wsX8_number) := goodIn_app (goodIn_of _ (by decide +kernel)) ggL_law_X8_number
set_option maxRecDepth 20000 in
theorem ggL_law_X9_number : GoodIn wsL_law wsX9_number := goodIn_r _ [683, 156, 134, 108, 120, 598, 599, 600, 5, 601, 602, 603, 604, 605, 330, 331, 332, 376, 377, 378, 379, 347, 348, 349, 821, 822, 823, 824, 825, 826, 827, 828, 829, 830, 831, 832, 833, 834, 835, 836, 837, 838, 839, 840, 841, 842, 843, 844, 845, 846, 847, 848, 849, 850, 851, 852, 853, 854, 855, 856] (by decide +kernel) (by decide +kernel)
set_option maxRecDepth 20000 in
theorem gL_law_X9_number : GoodIn wsL_law (wsV RL 81 RX9 yX9_number wsX9_number) := goodIn_app (goodIn_of _ (by decide +kernel)) ggL_law_X9_number
set_option maxRecDepth 20000 in
theorem ggL_law_X8_kth : GoodIn wsL_law wsX8_kth := goodIn_r _ [687, 16, 41, 358, 225, 226, 15, 227, 63, 688, 689, 690, 40, 691, 664, 94, 692, 647, 648, 649, 650, 651, 652, 653, 654, 96, 655, 656, 657, 658, 54, 659, 426, 427, 428, 660, 661, 662, 663, 665, 434, 435, 436, 55, 232, 2, 233, 666, 278, 279, 280, 64, 281, 282, 283, 284, 56, 57, 810, 811, 812, 813, 814, 815, 816, 817, 818, 819, 820, 857, 858, 859, 860, 861, 862, 863, 884, 885, 886] (by decide +kernel) (by decide +kernel)
set_option maxRecDepth 20000 in
theorem gL_law_X8_kth : GoodIn wsL_law (wsV RL 84 RX8 yX8_kth wsX8_kth) := goodIn_app (goodIn_of _ (by decide +kernel)) ggL_law_X8_kth
set_option maxRecDepth 20000 in
theorem ggL_law_X9_kth : GoodIn wsL_law wsX9_kth := goodIn_r _ [696, 156, 120, 122, 372, 373, 374, 5, 375, 134, 157, 158, 159, 598, 599, 600, 601, 602, 603, 604, 605, 330, 331, 332, 376, 377, 378, 379, 108, 606, 607, 608, 609, 821, 822, 823, 824, 825, 826, 827, 828, 829, 830, 831, 832, 833, 834, 835, 836, 837, 838, 839, 840, 841, 842, 843, 844, 845, 846, 847, 848, 849, 850, 851, 852, 853, 854, 855, 856] (by decide +kernel) (by decide +kernel)
set_option maxRecDepth 20000 in
theorem gL_law_X9_kth : GoodIn wsL_law (wsV RL 88 RX9 yX9_kth wsX9_kth) := goodIn_app (goodIn_of _ (by decide +kernel)) ggL_law_X9_kth
set_option maxRecDepth 20000 in
theorem ggL_law_X8_days : GoodIn wsL_law wsX8_days := goodIn_r _ [700, 45, 16, 701, 702, 703, 44, 704, 101, 705, 196, 197, 198, 706, 498, 499, 500, 707, 426, 427, 15, 428, 63, 708, 430, 431, 432, 433, 434, 435, 436, 55, 232, 2, 233, 709, 271, 272, 273, 274, 275, 276, 710, 711, 712, 810, 811, 812, 813, 814, 815, 816, 817, 818, 819, 820, 887, 857, 858, 859, 860, 861, 862, 863] (by decide +kernel) (by decide +kernel)
set_option maxRecDepth 20000 in
theorem gL_law_X8_days : GoodIn wsL_law (wsV RL 89 RX8 yX8_days wsX8_days) := goodIn_app (goodIn_of _ (by decide +kernel)) ggL_law_X8_days
set_option maxRecDepth 20000 in
theorem ggL_law_X9_days : GoodIn wsL_law wsX9_days := goodIn_r _ [716, 156, 134, 121, 157, 158, 5, 159, 602, 603, 604, 605, 330, 331, 332, 376, 377, 378, 379, 108, 717, 718, 719, 720, 388, 389, 390, 821, 822, 823, 824, 825, 826, 827, 828, 829, 830, 831, 832, 833, 834, 835, 836, 837, 838, 839, 840, 841, 842, 843, 844, 845, 846, 847, 848, 849, 850, 851, 852, 853, 854, 855, 856] (by decide +kernel) (by decide +kernel)
set_option maxRecDepth 20000 in
theorem gL_law_X9_days : GoodIn wsL_law (wsV RL 92 RX9 yX9_days wsX9_days) := goodIn_app (goodIn_of _ (by decide +kernel)) ggL_law_X9_days
set_option maxRecDepth 20000 in
theorem ggL_law_X8_sees : GoodIn wsL_law wsX8_sees := goodIn_r _ [724, 16, 37, 725, 358, 225, 226, 15, 227, 63, 726, 727, 728, 36, 729, 289, 290, 291, 810, 811, 812, 813, 814, 815, 816, 817, 818, 819, 820, 878, 879, 880, 881, 882, 883, 857, 858, 859, 860, 861, 862, 863] (by decide +kernel) (by decide +kernel)
set_option maxRecDepth 20000 in
theorem gL_law_X8_sees : GoodIn wsL_law (wsV RL 93 RX8 yX8_sees wsX8_sees) := goodIn_app (goodIn_of _ (by decide +kernel)) ggL_law_X8_sees
set_option maxRecDepth 20000 in
theorem ggL_law_X9_sees : GoodIn wsL_law wsX9_sees := goodIn_r _ [733, 156, 137, 117, 118, 372, 373, 374, 5, 375, 134, 157, 158, 159, 821, 822, 823, 824, 825, 826, 827, 828, 829, 830, 831, 832, 833, 834, 835, 836, 837, 838, 839, 840, 841, 842, 843, 844, 845, 846, 847, 848, 849, 850, 851, 852, 853, 854, 855, 856] (by decide +kernel) (by decide +kernel)
set_option maxRecDepth 20000 in
theorem gL_law_X9_sees : GoodIn wsL_law (wsV RL 96 RX9 yX9_sees wsX9_sees) := goodIn_app (goodIn_of _ (by decide +kernel)) ggL_law_X9_sees
set_option maxRecDepth 20000 in
theorem ggL_law_X8_forget : GoodIn wsL_law wsX8_forget := goodIn_r _ [737, 37, 725, 285, 286, 287, 36, 288, 289, 290, 291, 810, 811, 812, 813, 814, 815, 816, 817, 818, 819, 820, 878, 879, 880, 881, 882, 883] (by decide +kernel) (by decide +kernel)
set_option maxRecDepth 20000 in
theorem gL_law_X8_forget : GoodIn wsL_law (wsV RL 97 RX8 yX8_forget wsX8_forget) := goodIn_app (goodIn_of _ (by decide +kernel)) ggL_law_X8_forget
set_option maxRecDepth 20000 in
theorem ggL_law_X9_forget : GoodIn wsL_law wsX9_forget := goodIn_r _ [741, 156, 137, 821, 822, 823, 824, 825, 826, 827, 828, 829, 830, 831, 832, 833, 834, 835, 836, 837, 838, 839, 840, 841, 842, 843, 844, 845, 846, 847, 848, 849, 850, 851, 852, 853, 854, 855, 856] (by decide +kernel) (by decide +kernel)
set_option maxRecDepth 20000 in
theorem gL_law_X9_forget : GoodIn wsL_law (wsV RL 100 RX9 yX9_forget wsX9_forget) := goodIn_app (goodIn_of _ (by decide +kernel)) ggL_law_X9_forget
set_option maxRecDepth 20000 in
theorem ggL_law_X8_unseen : GoodIn wsL_law wsX8_unseen := goodIn_r _ [745, 37, 16, 746, 747, 748, 749, 750, 36, 751, 752, 753, 89, 754, 755, 498, 499, 500, 756, 217, 218, 15, 219, 220, 221, 222, 223, 224, 225, 226, 227, 63, 228, 229, 230, 231, 54, 232, 2, 233, 234, 235, 236, 237, 57, 238, 239, 240, 241, 56, 55, 419, 420, 757, 411, 412, 413, 246, 247, 248, 249, 250, 251, 252, 253, 254, 255, 256, 257, 758, 759, 760, 761, 290, 291, 810, 811, 812, 813, 814, 815, 816, 817, 818, 819, 820, 878, 879, 880, 881, 882, 883, 857, 858, 859, 860, 861, 862, 863] (by decide +kernel) (by decide +kernel)
set_option maxRecDepth 20000 in
theorem gL_law_X8_unseen : GoodIn wsL_law (wsV RL 101 RX8 yX8_unseen wsX8_unseen) := goodIn_app (goodIn_of _ (by decide +kernel)) ggL_law_X8_unseen
set_option maxRecDepth 20000 in
theorem ggL_law_X9_unseen : GoodIn wsL_law wsX9_unseen := goodIn_r _ [765, 156, 766, 157, 158, 5, 159, 767, 768, 769, 770, 124, 134, 108, 329, 137, 117, 118, 330, 331, 332, 458, 459, 460, 461, 337, 123, 333, 334, 335, 336, 338, 139, 140, 141, 343, 344, 345, 346, 122, 109, 347, 348, 349, 462, 463, 464, 465, 821, 822, 823, 824, 825, 826, 827, 828, 829, 830, 831, 832, 833, 834, 835, 836, 837, 838, 839, 840, 841, 842, 843, 844, 845, 846, 847, 848, 849, 850, 851, 852, 853, 854, 855, 856] (by decide +kernel) (by decide +kernel)
set_option maxRecDepth 20000 in
theorem gL_law_X9_unseen : GoodIn wsL_law (wsV RL 104 RX9 yX9_unseen wsX9_unseen) := goodIn_app (goodIn_of _ (by decide +kernel)) ggL_law_X9_unseen
set_option maxRecDepth 20000 in
theorem ggL_law_X8_look : GoodIn wsL_law wsX8_look := goodIn_r _ [774, 37, 16, 748, 749, 750, 36, 751, 752, 753, 89, 754, 755, 498, 499, 500, 756, 217, 218, 15, 219, 220, 221, 222, 223, 224, 225, 226, 227, 63, 228, 229, 230, 231, 54, 232, 2, 233, 234, 235, 236, 237, 57, 238, 239, 240, 241, 56, 55, 419, 420, 757, 411, 412, 413, 246, 247, 248, 249, 250, 251, 252, 253, 254, 255, 256, 257, 758, 759, 760, 761, 290, 291, 775, 776, 777, 778, 779, 780, 197, 781, 810, 811, 812, 813, 814, 815, 816, 817, 818, 819, 820, 878, 879, 880, 881, 882, 883, 857, 858, 859, 860, 861, 862, 863] (by decide +kernel) (by decide +kernel)
set_option maxRecDepth 20000 in
theorem gL_law_X8_look : GoodIn wsL_law (wsV RL 105 RX8 yX8_look wsX8_look) := goodIn_app (goodIn_of _ (by decide +kernel)) ggL_law_X8_look
set_option maxRecDepth 20000 in
theorem ggL_law_X9_look : GoodIn wsL_law wsX9_look := goodIn_r _ [785, 156, 134, 124, 767, 768, 769, 5, 770, 766, 108, 329, 137, 117, 118, 330, 331, 332, 458, 459, 460, 461, 337, 123, 333, 334, 335, 336, 338, 157, 158, 159, 139, 140, 141, 343, 344, 345, 346, 122, 109, 347, 348, 349, 462, 463, 464, 465, 821, 822, 823, 824, 825, 826, 827, 828, 829, 830, 831, 832, 833, 834, 835, 836, 837, 838, 839, 840, 841, 842, 843, 844, 845, 846, 847, 848, 849, 850, 851, 852, 853, 854, 855, 856] (by decide +kernel) (by decide +kernel)
set_option maxRecDepth 20000 in
theorem gL_law_X9_look : GoodIn wsL_law (wsV RL 108 RX9 yX9_look wsX9_look) := goodIn_app (goodIn_of _ (by decide +kernel)) ggL_law_X9_look
set_option maxRecDepth 20000 in
theorem ggL_law_X8_keep : GoodIn wsL_law wsX8_keep := goodIn_r _ [789, 46, 16, 48, 404, 277, 278, 279, 15, 280, 63, 64, 54, 281, 282, 283, 284, 55, 56, 57, 810, 811, 812, 813, 814, 815, 816, 817, 818, 819, 820, 857, 858, 859, 860, 861, 862, 863] (by decide +kernel) (by decide +kernel)
set_option maxRecDepth 20000 in
theorem gL_law_X8_keep : GoodIn wsL_law (wsV RL 109 RX8 yX8_keep wsX8_keep) := goodIn_app (goodIn_of _ (by decide +kernel)) ggL_law_X8_keep
set_option maxRecDepth 20000 in
theorem ggL_law_X9_keep : GoodIn wsL_law wsX9_keep := goodIn_r _ [793, 156, 111, 108, 112, 157, 158, 5, 159, 446, 447, 448, 449, 134, 388, 389, 390, 821, 822, 823, 824, 825, 826, 827, 828, 829, 830, 831, 832, 833, 834, 835, 836, 837, 838, 839, 840, 841, 842, 843, 844, 845, 846, 847, 848, 849, 850, 851, 852, 853, 854, 855, 856] (by decide +kernel) (by decide +kernel)
set_option maxRecDepth 20000 in
theorem gL_law_X9_keep : GoodIn wsL_law (wsV RL 112 RX9 yX9_keep wsX9_keep) := goodIn_app (goodIn_of _ (by decide +kernel)) ggL_law_X9_keep
set_option maxRecDepth 20000 in
theorem ggL_law_X8_back : GoodIn wsL_law wsX8_back := goodIn_r _ [797, 48, 16, 46, 29, 173, 404, 277, 278, 279, 15, 280, 63, 64, 54, 281, 282, 283, 284, 55, 56, 57, 810, 811, 812, 813, 814, 815, 816, 817, 818, 819, 820, 873, 874, 857, 858, 859, 860, 861, 862, 863] (by decide +kernel) (by decide +kernel)
set_option maxRecDepth 20000 in
theorem gL_law_X8_back : GoodIn wsL_law (wsV RL 113 RX8 yX8_back wsX8_back) := goodIn_app (goodIn_of _ (by decide +kernel)) ggL_law_X8_back
set_option maxRecDepth 20000 in
theorem ggL_law_X9_back : GoodIn wsL_law wsX9_back := goodIn_r _ [801, 156, 112, 108, 111, 138, 157, 158, 5, 159, 446, 447, 448, 449, 134, 388, 389, 390, 821, 822, 823, 824, 825, 826, 827, 828, 829, 830, 831, 832, 833, 834, 835, 836, 837, 838, 839, 840, 841, 842, 843, 844, 845, 846, 847, 848, 849, 850, 851, 852, 853, 854, 855, 856] (by decide +kernel) (by decide +kernel)
set_option maxRecDepth 20000 in
theorem gL_law_X9_back : GoodIn wsL_law (wsV RL 116 RX9 yX9_back wsX9_back) := goodIn_app (goodIn_of _ (by decide +kernel)) ggL_law_X9_back
set_option maxRecDepth 20000 in
theorem ggL_law_X8_count : GoodIn wsL_law wsX8_count := goodIn_r _ [805, 16, 357, 25, 172, 37, 725, 21, 146, 810, 811, 812, 813, 814, 815, 816, 817, 818, 819, 820, 857, 858, 859, 860, 861, 862, 863, 870, 871, 872, 878, 879, 880, 881, 882, 883, 864, 865, 866, 867, 868, 869] (by decide +kernel) (by decide +kernel)
set_option maxRecDepth 20000 in
theorem gL_law_X8_count : GoodIn wsL_law (wsV RL 117 RX8 yX8_count wsX8_count) := goodIn_app (goodIn_of _ (by decide +kernel)) ggL_law_X8_count
set_option maxRecDepth 20000 in
theorem ggL_law_X9_count : GoodIn wsL_law wsX9_count := goodIn_r _ [809, 156, 134, 136, 137, 135, 821, 822, 823, 824, 825, 826, 827, 828, 829, 830, 831, 832, 833, 834, 835, 836, 837, 838, 839, 840, 841, 842, 843, 844, 845, 846, 847, 848, 849, 850, 851, 852, 853, 854, 855, 856] (by decide +kernel) (by decide +kernel)
set_option maxRecDepth 20000 in
theorem gL_law_X9_count : GoodIn wsL_law (wsV RL 120 RX9 yX9_count wsX9_count) := goodIn_app (goodIn_of _ (by decide +kernel)) ggL_law_X9_count
theorem dL_law_0 : decode cL_law 0 = .ok (.new 7, 3) := by decide +kernel
theorem dL_law_3 : decode cL_law 3 = .ok (.dup, 1) := by decide +kernel
theorem dL_law_4 : decode cL_law 4 = .ok (.invokespecial 9, 3) := by decide +kernel
theorem dL_law_7 : decode cL_law 7 = .ok (.astore_n 1, 1) := by decide +kernel
theorem dL_law_8 : decode cL_law 8 = .ok (.new 10, 3) := by decide +kernel
theorem dL_law_11 : decode cL_law 11 = .ok (.dup, 1) := by decide +kernel
theorem dL_law_12 : decode cL_law 12 = .ok (.invokespecial 12, 3) := by decide +kernel
theorem dL_law_15 : decode cL_law 15 = .ok (.astore_n 2, 1) := by decide +kernel
theorem dL_law_16 : decode cL_law 16 = .ok (.iconst 0, 1) := by decide +kernel
theorem dL_law_17 : decode cL_law 17 = .ok (.istore_n 3, 1) := by decide +kernel
theorem dL_law_18 : decode cL_law 18 = .ok (.iload_n 3, 1) := by decide +kernel
theorem dL_law_19 : decode cL_law 19 = .ok (.aload_n 0, 1) := by decide +kernel
theorem dL_law_20 : decode cL_law 20 = .ok (.arraylength, 1) := by decide +kernel
theorem dL_law_21 : decode cL_law 21 = .ok (.iconst 4, 1) := by decide +kernel
theorem dL_law_22 : decode cL_law 22 = .ok (.isub, 1) := by decide +kernel
theorem dL_law_23 : decode cL_law 23 = .ok (.if_icmp .gt 728, 3) := by decide +kernel
theorem dL_law_26 : decode cL_law 26 = .ok (.aload_n 0, 1) := by decide +kernel
theorem dL_law_27 : decode cL_law 27 = .ok (.iload_n 3, 1) := by decide +kernel
theorem dL_law_28 : decode cL_law 28 = .ok (.iaload, 1) := by decide +kernel
theorem dL_law_29 : decode cL_law 29 = .ok (.bipush 31, 2) := by decide +kernel
theorem dL_law_31 : decode cL_law 31 = .ok (.iand, 1) := by decide +kernel
theorem dL_law_32 : decode cL_law 32 = .ok (.tableswitch 713 0 24 #[116, 139, 152, 165, 198, 221, 244, 277, 310, 323, 356, 369, 382, 405, 448, 462, 476, 539, 562, 595, 608, 631, 644, 667, 690], 116) := by decide +kernel
theorem dL_law_148 : decode cL_law 148 = .ok (.aload_n 1, 1) := by decide +kernel
theorem dL_law_149 : decode cL_law 149 = .ok (.aload_n 0, 1) := by decide +kernel
theorem dL_law_150 : decode cL_law 150 = .ok (.iload_n 3, 1) := by decide +kernel
theorem dL_law_151 : decode cL_law 151 = .ok (.iconst 1, 1) := by decide +kernel
theorem dL_law_152 : decode cL_law 152 = .ok (.iadd, 1) := by decide +kernel
theorem dL_law_153 : decode cL_law 153 = .ok (.iaload, 1) := by decide +kernel
theorem dL_law_154 : decode cL_law 154 = .ok (.invokevirtual 13, 3) := by decide +kernel
theorem dL_law_157 : decode cL_law 157 = .ok (.aload_n 2, 1) := by decide +kernel
theorem dL_law_158 : decode cL_law 158 = .ok (.aload_n 0, 1) := by decide +kernel
theorem dL_law_159 : decode cL_law 159 = .ok (.iload_n 3, 1) := by decide +kernel
theorem dL_law_160 : decode cL_law 160 = .ok (.iconst 1, 1) := by decide +kernel
theorem dL_law_161 : decode cL_law 161 = .ok (.iadd, 1) := by decide +kernel
theorem dL_law_162 : decode cL_law 162 = .ok (.iaload, 1) := by decide +kernel
theorem dL_law_163 : decode cL_law 163 = .ok (.invokevirtual 17, 3) := by decide +kernel
theorem dL_law_166 : decode cL_law 166 = .ok (.if_icmp .eq 579, 3) := by decide +kernel
theorem dL_law_169 : decode cL_law 169 = .ok (.iconst 0, 1) := by decide +kernel
theorem dL_law_170 : decode cL_law 170 = .ok (.ireturn, 1) := by decide +kernel
theorem dL_law_171 : decode cL_law 171 = .ok (.aload_n 1, 1) := by decide +kernel
theorem dL_law_172 : decode cL_law 172 = .ok (.invokevirtual 18, 3) := by decide +kernel
theorem dL_law_175 : decode cL_law 175 = .ok (.aload_n 2, 1) := by decide +kernel
theorem dL_law_176 : decode cL_law 176 = .ok (.invokevirtual 22, 3) := by decide +kernel
theorem dL_law_179 : decode cL_law 179 = .ok (.if_icmp .eq 566, 3) := by decide +kernel
theorem dL_law_182 : decode cL_law 182 = .ok (.iconst 0, 1) := by decide +kernel
theorem dL_law_183 : decode cL_law 183 = .ok (.ireturn, 1) := by decide +kernel
theorem dL_law_184 : decode cL_law 184 = .ok (.aload_n 1, 1) := by decide +kernel
theorem dL_law_185 : decode cL_law 185 = .ok (.invokevirtual 23, 3) := by decide +kernel
theorem dL_law_188 : decode cL_law 188 = .ok (.aload_n 2, 1) := by decide +kernel
theorem dL_law_189 : decode cL_law 189 = .ok (.invokevirtual 26, 3) := by decide +kernel
theorem dL_law_192 : decode cL_law 192 = .ok (.if_icmp .eq 553, 3) := by decide +kernel
theorem dL_law_195 : decode cL_law 195 = .ok (.iconst 0, 1) := by decide +kernel
theorem dL_law_196 : decode cL_law 196 = .ok (.ireturn, 1) := by decide +kernel
theorem dL_law_197 : decode cL_law 197 = .ok (.aload_n 1, 1) := by decide +kernel
theorem dL_law_198 : decode cL_law 198 = .ok (.aload_n 0, 1) := by decide +kernel
theorem dL_law_199 : decode cL_law 199 = .ok (.iload_n 3, 1) := by decide +kernel
theorem dL_law_200 : decode cL_law 200 = .ok (.iconst 1, 1) := by decide +kernel
theorem dL_law_201 : decode cL_law 201 = .ok (.iadd, 1) := by decide +kernel
theorem dL_law_202 : decode cL_law 202 = .ok (.iaload, 1) := by decide +kernel
theorem dL_law_203 : decode cL_law 203 = .ok (.aload_n 0, 1) := by decide +kernel
theorem dL_law_204 : decode cL_law 204 = .ok (.iload_n 3, 1) := by decide +kernel
theorem dL_law_205 : decode cL_law 205 = .ok (.iconst 2, 1) := by decide +kernel
theorem dL_law_206 : decode cL_law 206 = .ok (.iadd, 1) := by decide +kernel
theorem dL_law_207 : decode cL_law 207 = .ok (.iaload, 1) := by decide +kernel
theorem dL_law_208 : decode cL_law 208 = .ok (.invokevirtual 27, 3) := by decide +kernel
theorem dL_law_211 : decode cL_law 211 = .ok (.aload_n 2, 1) := by decide +kernel
theorem dL_law_212 : decode cL_law 212 = .ok (.aload_n 0, 1) := by decide +kernel
theorem dL_law_213 : decode cL_law 213 = .ok (.iload_n 3, 1) := by decide +kernel
theorem dL_law_214 : decode cL_law 214 = .ok (.iconst 1, 1) := by decide +kernel
theorem dL_law_215 : decode cL_law 215 = .ok (.iadd, 1) := by decide +kernel
theorem dL_law_216 : decode cL_law 216 = .ok (.iaload, 1) := by decide +kernel
theorem dL_law_217 : decode cL_law 217 = .ok (.aload_n 0, 1) := by decide +kernel
theorem dL_law_218 : decode cL_law 218 = .ok (.iload_n 3, 1) := by decide +kernel
theorem dL_law_219 : decode cL_law 219 = .ok (.iconst 2, 1) := by decide +kernel
theorem dL_law_220 : decode cL_law 220 = .ok (.iadd, 1) := by decide +kernel
theorem dL_law_221 : decode cL_law 221 = .ok (.iaload, 1) := by decide +kernel
theorem dL_law_222 : decode cL_law 222 = .ok (.invokevirtual 31, 3) := by decide +kernel
theorem dL_law_225 : decode cL_law 225 = .ok (.if_icmp .eq 520, 3) := by decide +kernel
theorem dL_law_228 : decode cL_law 228 = .ok (.iconst 0, 1) := by decide +kernel
theorem dL_law_229 : decode cL_law 229 = .ok (.ireturn, 1) := by decide +kernel
theorem dL_law_230 : decode cL_law 230 = .ok (.aload_n 1, 1) := by decide +kernel
theorem dL_law_231 : decode cL_law 231 = .ok (.aload_n 0, 1) := by decide +kernel
theorem dL_law_232 : decode cL_law 232 = .ok (.iload_n 3, 1) := by decide +kernel
theorem dL_law_233 : decode cL_law 233 = .ok (.iconst 1, 1) := by decide +kernel
theorem dL_law_234 : decode cL_law 234 = .ok (.iadd, 1) := by decide +kernel
theorem dL_law_235 : decode cL_law 235 = .ok (.iaload, 1) := by decide +kernel
theorem dL_law_236 : decode cL_law 236 = .ok (.invokevirtual 32, 3) := by decide +kernel
theorem dL_law_239 : decode cL_law 239 = .ok (.aload_n 2, 1) := by decide +kernel
theorem dL_law_240 : decode cL_law 240 = .ok (.aload_n 0, 1) := by decide +kernel
theorem dL_law_241 : decode cL_law 241 = .ok (.iload_n 3, 1) := by decide +kernel
theorem dL_law_242 : decode cL_law 242 = .ok (.iconst 1, 1) := by decide +kernel
theorem dL_law_243 : decode cL_law 243 = .ok (.iadd, 1) := by decide +kernel
theorem dL_law_244 : decode cL_law 244 = .ok (.iaload, 1) := by decide +kernel
theorem dL_law_245 : decode cL_law 245 = .ok (.invokevirtual 35, 3) := by decide +kernel
theorem dL_law_248 : decode cL_law 248 = .ok (.if_icmp .eq 497, 3) := by decide +kernel
theorem dL_law_251 : decode cL_law 251 = .ok (.iconst 0, 1) := by decide +kernel
theorem dL_law_252 : decode cL_law 252 = .ok (.ireturn, 1) := by decide +kernel
theorem dL_law_253 : decode cL_law 253 = .ok (.aload_n 1, 1) := by decide +kernel
theorem dL_law_254 : decode cL_law 254 = .ok (.aload_n 0, 1) := by decide +kernel
theorem dL_law_255 : decode cL_law 255 = .ok (.iload_n 3, 1) := by decide +kernel
theorem dL_law_256 : decode cL_law 256 = .ok (.iconst 1, 1) := by decide +kernel
theorem dL_law_257 : decode cL_law 257 = .ok (.iadd, 1) := by decide +kernel
theorem dL_law_258 : decode cL_law 258 = .ok (.iaload, 1) := by decide +kernel
theorem dL_law_259 : decode cL_law 259 = .ok (.invokevirtual 36, 3) := by decide +kernel
theorem dL_law_262 : decode cL_law 262 = .ok (.aload_n 2, 1) := by decide +kernel
theorem dL_law_263 : decode cL_law 263 = .ok (.aload_n 0, 1) := by decide +kernel
theorem dL_law_264 : decode cL_law 264 = .ok (.iload_n 3, 1) := by decide +kernel
theorem dL_law_265 : decode cL_law 265 = .ok (.iconst 1, 1) := by decide +kernel
theorem dL_law_266 : decode cL_law 266 = .ok (.iadd, 1) := by decide +kernel
theorem dL_law_267 : decode cL_law 267 = .ok (.iaload, 1) := by decide +kernel
theorem dL_law_268 : decode cL_law 268 = .ok (.invokevirtual 39, 3) := by decide +kernel
theorem dL_law_271 : decode cL_law 271 = .ok (.if_icmp .eq 474, 3) := by decide +kernel
theorem dL_law_274 : decode cL_law 274 = .ok (.iconst 0, 1) := by decide +kernel
theorem dL_law_275 : decode cL_law 275 = .ok (.ireturn, 1) := by decide +kernel
theorem dL_law_276 : decode cL_law 276 = .ok (.aload_n 1, 1) := by decide +kernel
theorem dL_law_277 : decode cL_law 277 = .ok (.aload_n 0, 1) := by decide +kernel
theorem dL_law_278 : decode cL_law 278 = .ok (.iload_n 3, 1) := by decide +kernel
theorem dL_law_279 : decode cL_law 279 = .ok (.iconst 1, 1) := by decide +kernel
theorem dL_law_280 : decode cL_law 280 = .ok (.iadd, 1) := by decide +kernel
theorem dL_law_281 : decode cL_law 281 = .ok (.iaload, 1) := by decide +kernel
theorem dL_law_282 : decode cL_law 282 = .ok (.aload_n 0, 1) := by decide +kernel
theorem dL_law_283 : decode cL_law 283 = .ok (.iload_n 3, 1) := by decide +kernel
theorem dL_law_284 : decode cL_law 284 = .ok (.iconst 2, 1) := by decide +kernel
theorem dL_law_285 : decode cL_law 285 = .ok (.iadd, 1) := by decide +kernel
theorem dL_law_286 : decode cL_law 286 = .ok (.iaload, 1) := by decide +kernel
theorem dL_law_287 : decode cL_law 287 = .ok (.invokevirtual 40, 3) := by decide +kernel
theorem dL_law_290 : decode cL_law 290 = .ok (.aload_n 2, 1) := by decide +kernel
theorem dL_law_291 : decode cL_law 291 = .ok (.aload_n 0, 1) := by decide +kernel
theorem dL_law_292 : decode cL_law 292 = .ok (.iload_n 3, 1) := by decide +kernel
theorem dL_law_293 : decode cL_law 293 = .ok (.iconst 1, 1) := by decide +kernel
theorem dL_law_294 : decode cL_law 294 = .ok (.iadd, 1) := by decide +kernel
theorem dL_law_295 : decode cL_law 295 = .ok (.iaload, 1) := by decide +kernel
theorem dL_law_296 : decode cL_law 296 = .ok (.aload_n 0, 1) := by decide +kernel
theorem dL_law_297 : decode cL_law 297 = .ok (.iload_n 3, 1) := by decide +kernel
theorem dL_law_298 : decode cL_law 298 = .ok (.iconst 2, 1) := by decide +kernel
theorem dL_law_299 : decode cL_law 299 = .ok (.iadd, 1) := by decide +kernel
theorem dL_law_300 : decode cL_law 300 = .ok (.iaload, 1) := by decide +kernel
theorem dL_law_301 : decode cL_law 301 = .ok (.invokevirtual 43, 3) := by decide +kernel
theorem dL_law_304 : decode cL_law 304 = .ok (.if_icmp .eq 441, 3) := by decide +kernel
theorem dL_law_307 : decode cL_law 307 = .ok (.iconst 0, 1) := by decide +kernel
theorem dL_law_308 : decode cL_law 308 = .ok (.ireturn, 1) := by decide +kernel
theorem dL_law_309 : decode cL_law 309 = .ok (.aload_n 1, 1) := by decide +kernel
theorem dL_law_310 : decode cL_law 310 = .ok (.aload_n 0, 1) := by decide +kernel
theorem dL_law_311 : decode cL_law 311 = .ok (.iload_n 3, 1) := by decide +kernel
theorem dL_law_312 : decode cL_law 312 = .ok (.iconst 1, 1) := by decide +kernel
theorem dL_law_313 : decode cL_law 313 = .ok (.iadd, 1) := by decide +kernel
theorem dL_law_314 : decode cL_law 314 = .ok (.iaload, 1) := by decide +kernel
theorem dL_law_315 : decode cL_law 315 = .ok (.aload_n 0, 1) := by decide +kernel
theorem dL_law_316 : decode cL_law 316 = .ok (.iload_n 3, 1) := by decide +kernel
theorem dL_law_317 : decode cL_law 317 = .ok (.iconst 2, 1) := by decide +kernel
theorem dL_law_318 : decode cL_law 318 = .ok (.iadd, 1) := by decide +kernel
theorem dL_law_319 : decode cL_law 319 = .ok (.iaload, 1) := by decide +kernel
theorem dL_law_320 : decode cL_law 320 = .ok (.invokevirtual 44, 3) := by decide +kernel
theorem dL_law_323 : decode cL_law 323 = .ok (.aload_n 2, 1) := by decide +kernel
theorem dL_law_324 : decode cL_law 324 = .ok (.aload_n 0, 1) := by decide +kernel
theorem dL_law_325 : decode cL_law 325 = .ok (.iload_n 3, 1) := by decide +kernel
theorem dL_law_326 : decode cL_law 326 = .ok (.iconst 1, 1) := by decide +kernel
theorem dL_law_327 : decode cL_law 327 = .ok (.iadd, 1) := by decide +kernel
theorem dL_law_328 : decode cL_law 328 = .ok (.iaload, 1) := by decide +kernel
theorem dL_law_329 : decode cL_law 329 = .ok (.aload_n 0, 1) := by decide +kernel
theorem dL_law_330 : decode cL_law 330 = .ok (.iload_n 3, 1) := by decide +kernel
theorem dL_law_331 : decode cL_law 331 = .ok (.iconst 2, 1) := by decide +kernel
theorem dL_law_332 : decode cL_law 332 = .ok (.iadd, 1) := by decide +kernel
theorem dL_law_333 : decode cL_law 333 = .ok (.iaload, 1) := by decide +kernel
theorem dL_law_334 : decode cL_law 334 = .ok (.invokevirtual 47, 3) := by decide +kernel
theorem dL_law_337 : decode cL_law 337 = .ok (.if_icmp .eq 408, 3) := by decide +kernel
theorem dL_law_340 : decode cL_law 340 = .ok (.iconst 0, 1) := by decide +kernel
theorem dL_law_341 : decode cL_law 341 = .ok (.ireturn, 1) := by decide +kernel
theorem dL_law_342 : decode cL_law 342 = .ok (.aload_n 1, 1) := by decide +kernel
theorem dL_law_343 : decode cL_law 343 = .ok (.invokevirtual 48, 3) := by decide +kernel
theorem dL_law_346 : decode cL_law 346 = .ok (.aload_n 2, 1) := by decide +kernel
theorem dL_law_347 : decode cL_law 347 = .ok (.invokevirtual 51, 3) := by decide +kernel
theorem dL_law_350 : decode cL_law 350 = .ok (.if_icmp .eq 395, 3) := by decide +kernel
theorem dL_law_353 : decode cL_law 353 = .ok (.iconst 0, 1) := by decide +kernel
theorem dL_law_354 : decode cL_law 354 = .ok (.ireturn, 1) := by decide +kernel
theorem dL_law_355 : decode cL_law 355 = .ok (.aload_n 1, 1) := by decide +kernel
theorem dL_law_356 : decode cL_law 356 = .ok (.aload_n 0, 1) := by decide +kernel
theorem dL_law_357 : decode cL_law 357 = .ok (.iload_n 3, 1) := by decide +kernel
theorem dL_law_358 : decode cL_law 358 = .ok (.iconst 1, 1) := by decide +kernel
theorem dL_law_359 : decode cL_law 359 = .ok (.iadd, 1) := by decide +kernel
theorem dL_law_360 : decode cL_law 360 = .ok (.iaload, 1) := by decide +kernel
theorem dL_law_361 : decode cL_law 361 = .ok (.aload_n 0, 1) := by decide +kernel
theorem dL_law_362 : decode cL_law 362 = .ok (.iload_n 3, 1) := by decide +kernel
theorem dL_law_363 : decode cL_law 363 = .ok (.iconst 2, 1) := by decide +kernel
theorem dL_law_364 : decode cL_law 364 = .ok (.iadd, 1) := by decide +kernel
theorem dL_law_365 : decode cL_law 365 = .ok (.iaload, 1) := by decide +kernel
theorem dL_law_366 : decode cL_law 366 = .ok (.invokevirtual 52, 3) := by decide +kernel
theorem dL_law_369 : decode cL_law 369 = .ok (.aload_n 2, 1) := by decide +kernel
theorem dL_law_370 : decode cL_law 370 = .ok (.aload_n 0, 1) := by decide +kernel
theorem dL_law_371 : decode cL_law 371 = .ok (.iload_n 3, 1) := by decide +kernel
theorem dL_law_372 : decode cL_law 372 = .ok (.iconst 1, 1) := by decide +kernel
theorem dL_law_373 : decode cL_law 373 = .ok (.iadd, 1) := by decide +kernel
theorem dL_law_374 : decode cL_law 374 = .ok (.iaload, 1) := by decide +kernel
theorem dL_law_375 : decode cL_law 375 = .ok (.aload_n 0, 1) := by decide +kernel
theorem dL_law_376 : decode cL_law 376 = .ok (.iload_n 3, 1) := by decide +kernel
theorem dL_law_377 : decode cL_law 377 = .ok (.iconst 2, 1) := by decide +kernel
theorem dL_law_378 : decode cL_law 378 = .ok (.iadd, 1) := by decide +kernel
theorem dL_law_379 : decode cL_law 379 = .ok (.iaload, 1) := by decide +kernel
theorem dL_law_380 : decode cL_law 380 = .ok (.invokevirtual 55, 3) := by decide +kernel
theorem dL_law_383 : decode cL_law 383 = .ok (.if_icmp .eq 362, 3) := by decide +kernel
theorem dL_law_386 : decode cL_law 386 = .ok (.iconst 0, 1) := by decide +kernel
theorem dL_law_387 : decode cL_law 387 = .ok (.ireturn, 1) := by decide +kernel
theorem dL_law_388 : decode cL_law 388 = .ok (.aload_n 1, 1) := by decide +kernel
theorem dL_law_389 : decode cL_law 389 = .ok (.invokevirtual 56, 3) := by decide +kernel
theorem dL_law_392 : decode cL_law 392 = .ok (.aload_n 2, 1) := by decide +kernel
theorem dL_law_393 : decode cL_law 393 = .ok (.invokevirtual 59, 3) := by decide +kernel
theorem dL_law_396 : decode cL_law 396 = .ok (.if_icmp .eq 349, 3) := by decide +kernel
theorem dL_law_399 : decode cL_law 399 = .ok (.iconst 0, 1) := by decide +kernel
theorem dL_law_400 : decode cL_law 400 = .ok (.ireturn, 1) := by decide +kernel
theorem dL_law_401 : decode cL_law 401 = .ok (.aload_n 1, 1) := by decide +kernel
theorem dL_law_402 : decode cL_law 402 = .ok (.invokevirtual 60, 3) := by decide +kernel
theorem dL_law_405 : decode cL_law 405 = .ok (.aload_n 2, 1) := by decide +kernel
theorem dL_law_406 : decode cL_law 406 = .ok (.invokevirtual 63, 3) := by decide +kernel
theorem dL_law_409 : decode cL_law 409 = .ok (.if_icmp .eq 336, 3) := by decide +kernel
theorem dL_law_412 : decode cL_law 412 = .ok (.iconst 0, 1) := by decide +kernel
theorem dL_law_413 : decode cL_law 413 = .ok (.ireturn, 1) := by decide +kernel
theorem dL_law_414 : decode cL_law 414 = .ok (.aload_n 1, 1) := by decide +kernel
theorem dL_law_415 : decode cL_law 415 = .ok (.aload_n 0, 1) := by decide +kernel
theorem dL_law_416 : decode cL_law 416 = .ok (.iload_n 3, 1) := by decide +kernel
theorem dL_law_417 : decode cL_law 417 = .ok (.iconst 1, 1) := by decide +kernel
theorem dL_law_418 : decode cL_law 418 = .ok (.iadd, 1) := by decide +kernel
theorem dL_law_419 : decode cL_law 419 = .ok (.iaload, 1) := by decide +kernel
theorem dL_law_420 : decode cL_law 420 = .ok (.invokevirtual 64, 3) := by decide +kernel
theorem dL_law_423 : decode cL_law 423 = .ok (.aload_n 2, 1) := by decide +kernel
theorem dL_law_424 : decode cL_law 424 = .ok (.aload_n 0, 1) := by decide +kernel
theorem dL_law_425 : decode cL_law 425 = .ok (.iload_n 3, 1) := by decide +kernel
theorem dL_law_426 : decode cL_law 426 = .ok (.iconst 1, 1) := by decide +kernel
theorem dL_law_427 : decode cL_law 427 = .ok (.iadd, 1) := by decide +kernel
theorem dL_law_428 : decode cL_law 428 = .ok (.iaload, 1) := by decide +kernel
theorem dL_law_429 : decode cL_law 429 = .ok (.invokevirtual 67, 3) := by decide +kernel
theorem dL_law_432 : decode cL_law 432 = .ok (.if_icmp .eq 313, 3) := by decide +kernel
theorem dL_law_435 : decode cL_law 435 = .ok (.iconst 0, 1) := by decide +kernel
theorem dL_law_436 : decode cL_law 436 = .ok (.ireturn, 1) := by decide +kernel
theorem dL_law_437 : decode cL_law 437 = .ok (.aload_n 1, 1) := by decide +kernel
theorem dL_law_438 : decode cL_law 438 = .ok (.aload_n 0, 1) := by decide +kernel
theorem dL_law_439 : decode cL_law 439 = .ok (.iload_n 3, 1) := by decide +kernel
theorem dL_law_440 : decode cL_law 440 = .ok (.iconst 1, 1) := by decide +kernel
theorem dL_law_441 : decode cL_law 441 = .ok (.iadd, 1) := by decide +kernel
theorem dL_law_442 : decode cL_law 442 = .ok (.iaload, 1) := by decide +kernel
theorem dL_law_443 : decode cL_law 443 = .ok (.aload_n 0, 1) := by decide +kernel
theorem dL_law_444 : decode cL_law 444 = .ok (.iload_n 3, 1) := by decide +kernel
theorem dL_law_445 : decode cL_law 445 = .ok (.iconst 2, 1) := by decide +kernel
theorem dL_law_446 : decode cL_law 446 = .ok (.iadd, 1) := by decide +kernel
theorem dL_law_447 : decode cL_law 447 = .ok (.iaload, 1) := by decide +kernel
theorem dL_law_448 : decode cL_law 448 = .ok (.aload_n 0, 1) := by decide +kernel
theorem dL_law_449 : decode cL_law 449 = .ok (.iload_n 3, 1) := by decide +kernel
theorem dL_law_450 : decode cL_law 450 = .ok (.iconst 3, 1) := by decide +kernel
theorem dL_law_451 : decode cL_law 451 = .ok (.iadd, 1) := by decide +kernel
theorem dL_law_452 : decode cL_law 452 = .ok (.iaload, 1) := by decide +kernel
theorem dL_law_453 : decode cL_law 453 = .ok (.invokevirtual 68, 3) := by decide +kernel
theorem dL_law_456 : decode cL_law 456 = .ok (.aload_n 2, 1) := by decide +kernel
theorem dL_law_457 : decode cL_law 457 = .ok (.aload_n 0, 1) := by decide +kernel
theorem dL_law_458 : decode cL_law 458 = .ok (.iload_n 3, 1) := by decide +kernel
theorem dL_law_459 : decode cL_law 459 = .ok (.iconst 1, 1) := by decide +kernel
theorem dL_law_460 : decode cL_law 460 = .ok (.iadd, 1) := by decide +kernel
theorem dL_law_461 : decode cL_law 461 = .ok (.iaload, 1) := by decide +kernel
theorem dL_law_462 : decode cL_law 462 = .ok (.aload_n 0, 1) := by decide +kernel
theorem dL_law_463 : decode cL_law 463 = .ok (.iload_n 3, 1) := by decide +kernel
theorem dL_law_464 : decode cL_law 464 = .ok (.iconst 2, 1) := by decide +kernel
theorem dL_law_465 : decode cL_law 465 = .ok (.iadd, 1) := by decide +kernel
theorem dL_law_466 : decode cL_law 466 = .ok (.iaload, 1) := by decide +kernel
theorem dL_law_467 : decode cL_law 467 = .ok (.aload_n 0, 1) := by decide +kernel
theorem dL_law_468 : decode cL_law 468 = .ok (.iload_n 3, 1) := by decide +kernel
theorem dL_law_469 : decode cL_law 469 = .ok (.iconst 3, 1) := by decide +kernel
theorem dL_law_470 : decode cL_law 470 = .ok (.iadd, 1) := by decide +kernel
theorem dL_law_471 : decode cL_law 471 = .ok (.iaload, 1) := by decide +kernel
theorem dL_law_472 : decode cL_law 472 = .ok (.invokevirtual 72, 3) := by decide +kernel
theorem dL_law_475 : decode cL_law 475 = .ok (.if_icmp .eq 270, 3) := by decide +kernel
theorem dL_law_478 : decode cL_law 478 = .ok (.iconst 0, 1) := by decide +kernel
theorem dL_law_479 : decode cL_law 479 = .ok (.ireturn, 1) := by decide +kernel
theorem dL_law_480 : decode cL_law 480 = .ok (.aload_n 1, 1) := by decide +kernel
theorem dL_law_481 : decode cL_law 481 = .ok (.invokevirtual 73, 3) := by decide +kernel
theorem dL_law_484 : decode cL_law 484 = .ok (.aload_n 2, 1) := by decide +kernel
theorem dL_law_485 : decode cL_law 485 = .ok (.invokevirtual 77, 3) := by decide +kernel
theorem dL_law_488 : decode cL_law 488 = .ok (.lcmp, 1) := by decide +kernel
theorem dL_law_489 : decode cL_law 489 = .ok (.ifCond .eq 256, 3) := by decide +kernel
theorem dL_law_492 : decode cL_law 492 = .ok (.iconst 0, 1) := by decide +kernel
theorem dL_law_493 : decode cL_law 493 = .ok (.ireturn, 1) := by decide +kernel
theorem dL_law_494 : decode cL_law 494 = .ok (.aload_n 1, 1) := by decide +kernel
theorem dL_law_495 : decode cL_law 495 = .ok (.invokevirtual 78, 3) := by decide +kernel
theorem dL_law_498 : decode cL_law 498 = .ok (.aload_n 2, 1) := by decide +kernel
theorem dL_law_499 : decode cL_law 499 = .ok (.invokevirtual 81, 3) := by decide +kernel
theorem dL_law_502 : decode cL_law 502 = .ok (.lcmp, 1) := by decide +kernel
theorem dL_law_503 : decode cL_law 503 = .ok (.ifCond .eq 242, 3) := by decide +kernel
theorem dL_law_506 : decode cL_law 506 = .ok (.iconst 0, 1) := by decide +kernel
theorem dL_law_507 : decode cL_law 507 = .ok (.ireturn, 1) := by decide +kernel
theorem dL_law_508 : decode cL_law 508 = .ok (.aload_n 1, 1) := by decide +kernel
theorem dL_law_509 : decode cL_law 509 = .ok (.aload_n 0, 1) := by decide +kernel
theorem dL_law_510 : decode cL_law 510 = .ok (.iload_n 3, 1) := by decide +kernel
theorem dL_law_511 : decode cL_law 511 = .ok (.iconst 1, 1) := by decide +kernel
theorem dL_law_512 : decode cL_law 512 = .ok (.iadd, 1) := by decide +kernel
theorem dL_law_513 : decode cL_law 513 = .ok (.iaload, 1) := by decide +kernel
theorem dL_law_514 : decode cL_law 514 = .ok (.i2l, 1) := by decide +kernel
theorem dL_law_515 : decode cL_law 515 = .ok (.bipush 32, 2) := by decide +kernel
theorem dL_law_517 : decode cL_law 517 = .ok (.lshl, 1) := by decide +kernel
theorem dL_law_518 : decode cL_law 518 = .ok (.aload_n 0, 1) := by decide +kernel
theorem dL_law_519 : decode cL_law 519 = .ok (.iload_n 3, 1) := by decide +kernel
theorem dL_law_520 : decode cL_law 520 = .ok (.iconst 2, 1) := by decide +kernel
theorem dL_law_521 : decode cL_law 521 = .ok (.iadd, 1) := by decide +kernel
theorem dL_law_522 : decode cL_law 522 = .ok (.iaload, 1) := by decide +kernel
theorem dL_law_523 : decode cL_law 523 = .ok (.i2l, 1) := by decide +kernel
theorem dL_law_524 : decode cL_law 524 = .ok (.ldc2_w 82, 3) := by decide +kernel
theorem dL_law_527 : decode cL_law 527 = .ok (.land, 1) := by decide +kernel
theorem dL_law_528 : decode cL_law 528 = .ok (.lor, 1) := by decide +kernel
theorem dL_law_529 : decode cL_law 529 = .ok (.aload_n 0, 1) := by decide +kernel
theorem dL_law_530 : decode cL_law 530 = .ok (.iload_n 3, 1) := by decide +kernel
theorem dL_law_531 : decode cL_law 531 = .ok (.iconst 3, 1) := by decide +kernel
theorem dL_law_532 : decode cL_law 532 = .ok (.iadd, 1) := by decide +kernel
theorem dL_law_533 : decode cL_law 533 = .ok (.iaload, 1) := by decide +kernel
theorem dL_law_534 : decode cL_law 534 = .ok (.invokevirtual 84, 3) := by decide +kernel
theorem dL_law_537 : decode cL_law 537 = .ok (.aload_n 2, 1) := by decide +kernel
theorem dL_law_538 : decode cL_law 538 = .ok (.aload_n 0, 1) := by decide +kernel
theorem dL_law_539 : decode cL_law 539 = .ok (.iload_n 3, 1) := by decide +kernel
theorem dL_law_540 : decode cL_law 540 = .ok (.iconst 1, 1) := by decide +kernel
theorem dL_law_541 : decode cL_law 541 = .ok (.iadd, 1) := by decide +kernel
theorem dL_law_542 : decode cL_law 542 = .ok (.iaload, 1) := by decide +kernel
theorem dL_law_543 : decode cL_law 543 = .ok (.i2l, 1) := by decide +kernel
theorem dL_law_544 : decode cL_law 544 = .ok (.bipush 32, 2) := by decide +kernel
theorem dL_law_546 : decode cL_law 546 = .ok (.lshl, 1) := by decide +kernel
theorem dL_law_547 : decode cL_law 547 = .ok (.aload_n 0, 1) := by decide +kernel
theorem dL_law_548 : decode cL_law 548 = .ok (.iload_n 3, 1) := by decide +kernel
theorem dL_law_549 : decode cL_law 549 = .ok (.iconst 2, 1) := by decide +kernel
theorem dL_law_550 : decode cL_law 550 = .ok (.iadd, 1) := by decide +kernel
theorem dL_law_551 : decode cL_law 551 = .ok (.iaload, 1) := by decide +kernel
theorem dL_law_552 : decode cL_law 552 = .ok (.i2l, 1) := by decide +kernel
theorem dL_law_553 : decode cL_law 553 = .ok (.ldc2_w 82, 3) := by decide +kernel
theorem dL_law_556 : decode cL_law 556 = .ok (.land, 1) := by decide +kernel
theorem dL_law_557 : decode cL_law 557 = .ok (.lor, 1) := by decide +kernel
theorem dL_law_558 : decode cL_law 558 = .ok (.aload_n 0, 1) := by decide +kernel
theorem dL_law_559 : decode cL_law 559 = .ok (.iload_n 3, 1) := by decide +kernel
theorem dL_law_560 : decode cL_law 560 = .ok (.iconst 3, 1) := by decide +kernel
theorem dL_law_561 : decode cL_law 561 = .ok (.iadd, 1) := by decide +kernel
theorem dL_law_562 : decode cL_law 562 = .ok (.iaload, 1) := by decide +kernel
theorem dL_law_563 : decode cL_law 563 = .ok (.invokevirtual 88, 3) := by decide +kernel
theorem dL_law_566 : decode cL_law 566 = .ok (.if_icmp .eq 179, 3) := by decide +kernel
theorem dL_law_569 : decode cL_law 569 = .ok (.iconst 0, 1) := by decide +kernel
theorem dL_law_570 : decode cL_law 570 = .ok (.ireturn, 1) := by decide +kernel
theorem dL_law_571 : decode cL_law 571 = .ok (.aload_n 1, 1) := by decide +kernel
theorem dL_law_572 : decode cL_law 572 = .ok (.aload_n 0, 1) := by decide +kernel
theorem dL_law_573 : decode cL_law 573 = .ok (.iload_n 3, 1) := by decide +kernel
theorem dL_law_574 : decode cL_law 574 = .ok (.iconst 1, 1) := by decide +kernel
theorem dL_law_575 : decode cL_law 575 = .ok (.iadd, 1) := by decide +kernel
theorem dL_law_576 : decode cL_law 576 = .ok (.iaload, 1) := by decide +kernel
theorem dL_law_577 : decode cL_law 577 = .ok (.invokevirtual 89, 3) := by decide +kernel
theorem dL_law_580 : decode cL_law 580 = .ok (.aload_n 2, 1) := by decide +kernel
theorem dL_law_581 : decode cL_law 581 = .ok (.aload_n 0, 1) := by decide +kernel
theorem dL_law_582 : decode cL_law 582 = .ok (.iload_n 3, 1) := by decide +kernel
theorem dL_law_583 : decode cL_law 583 = .ok (.iconst 1, 1) := by decide +kernel
theorem dL_law_584 : decode cL_law 584 = .ok (.iadd, 1) := by decide +kernel
theorem dL_law_585 : decode cL_law 585 = .ok (.iaload, 1) := by decide +kernel
theorem dL_law_586 : decode cL_law 586 = .ok (.invokevirtual 92, 3) := by decide +kernel
theorem dL_law_589 : decode cL_law 589 = .ok (.if_icmp .eq 156, 3) := by decide +kernel
theorem dL_law_592 : decode cL_law 592 = .ok (.iconst 0, 1) := by decide +kernel
theorem dL_law_593 : decode cL_law 593 = .ok (.ireturn, 1) := by decide +kernel
theorem dL_law_594 : decode cL_law 594 = .ok (.aload_n 1, 1) := by decide +kernel
theorem dL_law_595 : decode cL_law 595 = .ok (.aload_n 0, 1) := by decide +kernel
theorem dL_law_596 : decode cL_law 596 = .ok (.iload_n 3, 1) := by decide +kernel
theorem dL_law_597 : decode cL_law 597 = .ok (.iconst 1, 1) := by decide +kernel
theorem dL_law_598 : decode cL_law 598 = .ok (.iadd, 1) := by decide +kernel
theorem dL_law_599 : decode cL_law 599 = .ok (.iaload, 1) := by decide +kernel
theorem dL_law_600 : decode cL_law 600 = .ok (.aload_n 0, 1) := by decide +kernel
theorem dL_law_601 : decode cL_law 601 = .ok (.iload_n 3, 1) := by decide +kernel
theorem dL_law_602 : decode cL_law 602 = .ok (.iconst 2, 1) := by decide +kernel
theorem dL_law_603 : decode cL_law 603 = .ok (.iadd, 1) := by decide +kernel
theorem dL_law_604 : decode cL_law 604 = .ok (.iaload, 1) := by decide +kernel
theorem dL_law_605 : decode cL_law 605 = .ok (.invokevirtual 93, 3) := by decide +kernel
theorem dL_law_608 : decode cL_law 608 = .ok (.aload_n 2, 1) := by decide +kernel
theorem dL_law_609 : decode cL_law 609 = .ok (.aload_n 0, 1) := by decide +kernel
theorem dL_law_610 : decode cL_law 610 = .ok (.iload_n 3, 1) := by decide +kernel
theorem dL_law_611 : decode cL_law 611 = .ok (.iconst 1, 1) := by decide +kernel
theorem dL_law_612 : decode cL_law 612 = .ok (.iadd, 1) := by decide +kernel
theorem dL_law_613 : decode cL_law 613 = .ok (.iaload, 1) := by decide +kernel
theorem dL_law_614 : decode cL_law 614 = .ok (.aload_n 0, 1) := by decide +kernel
theorem dL_law_615 : decode cL_law 615 = .ok (.iload_n 3, 1) := by decide +kernel
theorem dL_law_616 : decode cL_law 616 = .ok (.iconst 2, 1) := by decide +kernel
theorem dL_law_617 : decode cL_law 617 = .ok (.iadd, 1) := by decide +kernel
theorem dL_law_618 : decode cL_law 618 = .ok (.iaload, 1) := by decide +kernel
theorem dL_law_619 : decode cL_law 619 = .ok (.invokevirtual 96, 3) := by decide +kernel
theorem dL_law_622 : decode cL_law 622 = .ok (.if_icmp .eq 123, 3) := by decide +kernel
theorem dL_law_625 : decode cL_law 625 = .ok (.iconst 0, 1) := by decide +kernel
theorem dL_law_626 : decode cL_law 626 = .ok (.ireturn, 1) := by decide +kernel
theorem dL_law_627 : decode cL_law 627 = .ok (.aload_n 1, 1) := by decide +kernel
theorem dL_law_628 : decode cL_law 628 = .ok (.invokevirtual 97, 3) := by decide +kernel
theorem dL_law_631 : decode cL_law 631 = .ok (.aload_n 2, 1) := by decide +kernel
theorem dL_law_632 : decode cL_law 632 = .ok (.invokevirtual 100, 3) := by decide +kernel
theorem dL_law_635 : decode cL_law 635 = .ok (.if_icmp .eq 110, 3) := by decide +kernel
theorem dL_law_638 : decode cL_law 638 = .ok (.iconst 0, 1) := by decide +kernel
theorem dL_law_639 : decode cL_law 639 = .ok (.ireturn, 1) := by decide +kernel
theorem dL_law_640 : decode cL_law 640 = .ok (.aload_n 1, 1) := by decide +kernel
theorem dL_law_641 : decode cL_law 641 = .ok (.aload_n 0, 1) := by decide +kernel
theorem dL_law_642 : decode cL_law 642 = .ok (.iload_n 3, 1) := by decide +kernel
theorem dL_law_643 : decode cL_law 643 = .ok (.iconst 1, 1) := by decide +kernel
theorem dL_law_644 : decode cL_law 644 = .ok (.iadd, 1) := by decide +kernel
theorem dL_law_645 : decode cL_law 645 = .ok (.iaload, 1) := by decide +kernel
theorem dL_law_646 : decode cL_law 646 = .ok (.invokevirtual 101, 3) := by decide +kernel
theorem dL_law_649 : decode cL_law 649 = .ok (.aload_n 2, 1) := by decide +kernel
theorem dL_law_650 : decode cL_law 650 = .ok (.aload_n 0, 1) := by decide +kernel
theorem dL_law_651 : decode cL_law 651 = .ok (.iload_n 3, 1) := by decide +kernel
theorem dL_law_652 : decode cL_law 652 = .ok (.iconst 1, 1) := by decide +kernel
theorem dL_law_653 : decode cL_law 653 = .ok (.iadd, 1) := by decide +kernel
theorem dL_law_654 : decode cL_law 654 = .ok (.iaload, 1) := by decide +kernel
theorem dL_law_655 : decode cL_law 655 = .ok (.invokevirtual 104, 3) := by decide +kernel
theorem dL_law_658 : decode cL_law 658 = .ok (.if_icmp .eq 87, 3) := by decide +kernel
theorem dL_law_661 : decode cL_law 661 = .ok (.iconst 0, 1) := by decide +kernel
theorem dL_law_662 : decode cL_law 662 = .ok (.ireturn, 1) := by decide +kernel
theorem dL_law_663 : decode cL_law 663 = .ok (.aload_n 1, 1) := by decide +kernel
theorem dL_law_664 : decode cL_law 664 = .ok (.invokevirtual 105, 3) := by decide +kernel
theorem dL_law_667 : decode cL_law 667 = .ok (.aload_n 2, 1) := by decide +kernel
theorem dL_law_668 : decode cL_law 668 = .ok (.invokevirtual 108, 3) := by decide +kernel
theorem dL_law_671 : decode cL_law 671 = .ok (.if_icmp .eq 74, 3) := by decide +kernel
theorem dL_law_674 : decode cL_law 674 = .ok (.iconst 0, 1) := by decide +kernel
theorem dL_law_675 : decode cL_law 675 = .ok (.ireturn, 1) := by decide +kernel
theorem dL_law_676 : decode cL_law 676 = .ok (.aload_n 1, 1) := by decide +kernel
theorem dL_law_677 : decode cL_law 677 = .ok (.aload_n 0, 1) := by decide +kernel
theorem dL_law_678 : decode cL_law 678 = .ok (.iload_n 3, 1) := by decide +kernel
theorem dL_law_679 : decode cL_law 679 = .ok (.iconst 1, 1) := by decide +kernel
theorem dL_law_680 : decode cL_law 680 = .ok (.iadd, 1) := by decide +kernel
theorem dL_law_681 : decode cL_law 681 = .ok (.iaload, 1) := by decide +kernel
theorem dL_law_682 : decode cL_law 682 = .ok (.invokevirtual 109, 3) := by decide +kernel
theorem dL_law_685 : decode cL_law 685 = .ok (.aload_n 2, 1) := by decide +kernel
theorem dL_law_686 : decode cL_law 686 = .ok (.aload_n 0, 1) := by decide +kernel
theorem dL_law_687 : decode cL_law 687 = .ok (.iload_n 3, 1) := by decide +kernel
theorem dL_law_688 : decode cL_law 688 = .ok (.iconst 1, 1) := by decide +kernel
theorem dL_law_689 : decode cL_law 689 = .ok (.iadd, 1) := by decide +kernel
theorem dL_law_690 : decode cL_law 690 = .ok (.iaload, 1) := by decide +kernel
theorem dL_law_691 : decode cL_law 691 = .ok (.invokevirtual 112, 3) := by decide +kernel
theorem dL_law_694 : decode cL_law 694 = .ok (.if_icmp .eq 51, 3) := by decide +kernel
theorem dL_law_697 : decode cL_law 697 = .ok (.iconst 0, 1) := by decide +kernel
theorem dL_law_698 : decode cL_law 698 = .ok (.ireturn, 1) := by decide +kernel
theorem dL_law_699 : decode cL_law 699 = .ok (.aload_n 1, 1) := by decide +kernel
theorem dL_law_700 : decode cL_law 700 = .ok (.aload_n 0, 1) := by decide +kernel
theorem dL_law_701 : decode cL_law 701 = .ok (.iload_n 3, 1) := by decide +kernel
theorem dL_law_702 : decode cL_law 702 = .ok (.iconst 1, 1) := by decide +kernel
theorem dL_law_703 : decode cL_law 703 = .ok (.iadd, 1) := by decide +kernel
theorem dL_law_704 : decode cL_law 704 = .ok (.iaload, 1) := by decide +kernel
theorem dL_law_705 : decode cL_law 705 = .ok (.invokevirtual 113, 3) := by decide +kernel
theorem dL_law_708 : decode cL_law 708 = .ok (.aload_n 2, 1) := by decide +kernel
theorem dL_law_709 : decode cL_law 709 = .ok (.aload_n 0, 1) := by decide +kernel
theorem dL_law_710 : decode cL_law 710 = .ok (.iload_n 3, 1) := by decide +kernel
theorem dL_law_711 : decode cL_law 711 = .ok (.iconst 1, 1) := by decide +kernel
theorem dL_law_712 : decode cL_law 712 = .ok (.iadd, 1) := by decide +kernel
theorem dL_law_713 : decode cL_law 713 = .ok (.iaload, 1) := by decide +kernel
theorem dL_law_714 : decode cL_law 714 = .ok (.invokevirtual 116, 3) := by decide +kernel
theorem dL_law_717 : decode cL_law 717 = .ok (.if_icmp .eq 28, 3) := by decide +kernel
theorem dL_law_720 : decode cL_law 720 = .ok (.iconst 0, 1) := by decide +kernel
theorem dL_law_721 : decode cL_law 721 = .ok (.ireturn, 1) := by decide +kernel
theorem dL_law_722 : decode cL_law 722 = .ok (.aload_n 1, 1) := by decide +kernel
theorem dL_law_723 : decode cL_law 723 = .ok (.aload_n 0, 1) := by decide +kernel
theorem dL_law_724 : decode cL_law 724 = .ok (.iload_n 3, 1) := by decide +kernel
theorem dL_law_725 : decode cL_law 725 = .ok (.iconst 1, 1) := by decide +kernel
theorem dL_law_726 : decode cL_law 726 = .ok (.iadd, 1) := by decide +kernel
theorem dL_law_727 : decode cL_law 727 = .ok (.iaload, 1) := by decide +kernel
theorem dL_law_728 : decode cL_law 728 = .ok (.invokevirtual 117, 3) := by decide +kernel
theorem dL_law_731 : decode cL_law 731 = .ok (.aload_n 2, 1) := by decide +kernel
theorem dL_law_732 : decode cL_law 732 = .ok (.aload_n 0, 1) := by decide +kernel
theorem dL_law_733 : decode cL_law 733 = .ok (.iload_n 3, 1) := by decide +kernel
theorem dL_law_734 : decode cL_law 734 = .ok (.iconst 1, 1) := by decide +kernel
theorem dL_law_735 : decode cL_law 735 = .ok (.iadd, 1) := by decide +kernel
theorem dL_law_736 : decode cL_law 736 = .ok (.iaload, 1) := by decide +kernel
theorem dL_law_737 : decode cL_law 737 = .ok (.invokevirtual 120, 3) := by decide +kernel
theorem dL_law_740 : decode cL_law 740 = .ok (.if_icmp .eq 5, 3) := by decide +kernel
theorem dL_law_743 : decode cL_law 743 = .ok (.iconst 0, 1) := by decide +kernel
theorem dL_law_744 : decode cL_law 744 = .ok (.ireturn, 1) := by decide +kernel
theorem dL_law_745 : decode cL_law 745 = .ok (.iinc 3 4, 3) := by decide +kernel
theorem dL_law_748 : decode cL_law 748 = .ok (.goto (-730), 3) := by decide +kernel
theorem dL_law_751 : decode cL_law 751 = .ok (.iconst 1, 1) := by decide +kernel
theorem dL_law_752 : decode cL_law 752 = .ok (.ireturn, 1) := by decide +kernel
end
section
theorem zz_last_0 : True := trivial
end
