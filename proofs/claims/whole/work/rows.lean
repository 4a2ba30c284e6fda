section
-- ===== PART A: goes FIRST, ahead of the names: the tables' words, and 'selects' of the private methods out of them =====
/-- a private method of a class that the tables say can be made, by its rows of tables_1 -/
def lw_okq (q : MethodName × Nat) : Prop := (q.1.cls ≠ "java/lang/invoke/MethodHandle" ∧ q.1.cls ≠ "java/lang/invoke/VarHandle") ∧ Cond.instantiable q.1.cls q.2 ∈ tables_1 ∧ Cond.privateMethod q.1 ∈ tables_1 ∧ Cond.instanceMethod q.1 ∈ tables_1
theorem lw_p0 : lw_okq (⟨"LeavesOfMud$Pits", "open", "(I)I"⟩, 6) := ⟨⟨by decide +kernel, by decide +kernel⟩, List.mem_of_getElem? (i := 29) (by decide +kernel), List.mem_of_getElem? (i := 357) (by decide +kernel), List.mem_of_getElem? (i := 358) (by decide +kernel)⟩
theorem lw_p1 : lw_okq (⟨"LeavesOfMud$Pits", "has", "(I)Z"⟩, 6) := ⟨⟨by decide +kernel, by decide +kernel⟩, List.mem_of_getElem? (i := 29) (by decide +kernel), List.mem_of_getElem? (i := 365) (by decide +kernel), List.mem_of_getElem? (i := 366) (by decide +kernel)⟩
theorem lw_p2 : lw_okq (⟨"LeavesOfMud$Pits", "push", "(IIII)V"⟩, 6) := ⟨⟨by decide +kernel, by decide +kernel⟩, List.mem_of_getElem? (i := 29) (by decide +kernel), List.mem_of_getElem? (i := 372) (by decide +kernel), List.mem_of_getElem? (i := 373) (by decide +kernel)⟩
theorem lw_p3 : lw_okq (⟨"LeavesOfMud$Pits", "put", "(IIIII)V"⟩, 6) := ⟨⟨by decide +kernel, by decide +kernel⟩, List.mem_of_getElem? (i := 29) (by decide +kernel), List.mem_of_getElem? (i := 376) (by decide +kernel), List.mem_of_getElem? (i := 377) (by decide +kernel)⟩
theorem lw_p4 : lw_okq (⟨"LeavesOfMud$Pits", "hasLeaf", "(II)Z"⟩, 6) := ⟨⟨by decide +kernel, by decide +kernel⟩, List.mem_of_getElem? (i := 29) (by decide +kernel), List.mem_of_getElem? (i := 384) (by decide +kernel), List.mem_of_getElem? (i := 385) (by decide +kernel)⟩
theorem lw_p5 : lw_okq (⟨"LeavesOfMud$Pits", "kindOf", "(II)I"⟩, 6) := ⟨⟨by decide +kernel, by decide +kernel⟩, List.mem_of_getElem? (i := 29) (by decide +kernel), List.mem_of_getElem? (i := 389) (by decide +kernel), List.mem_of_getElem? (i := 390) (by decide +kernel)⟩
theorem lw_p6 : lw_okq (⟨"LeavesOfMud", "aboutPit", "(II)I"⟩, 13) := ⟨⟨by decide +kernel, by decide +kernel⟩, List.mem_of_getElem? (i := 21) (by decide +kernel), List.mem_of_getElem? (i := 400) (by decide +kernel), List.mem_of_getElem? (i := 401) (by decide +kernel)⟩
theorem lw_p7 : lw_okq (⟨"LeavesOfMud$Hands", "yearsOfAll", "(II)I"⟩, 3) := ⟨⟨by decide +kernel, by decide +kernel⟩, List.mem_of_getElem? (i := 139) (by decide +kernel), List.mem_of_getElem? (i := 404) (by decide +kernel), List.mem_of_getElem? (i := 405) (by decide +kernel)⟩
theorem lw_p8 : lw_okq (⟨"LeavesOfMud$Hands", "halvesAhead", "(III)I"⟩, 3) := ⟨⟨by decide +kernel, by decide +kernel⟩, List.mem_of_getElem? (i := 139) (by decide +kernel), List.mem_of_getElem? (i := 408) (by decide +kernel), List.mem_of_getElem? (i := 409) (by decide +kernel)⟩
theorem lw_p9 : lw_okq (⟨"LeavesOfMud$Pits", "nOf", "(II)I"⟩, 6) := ⟨⟨by decide +kernel, by decide +kernel⟩, List.mem_of_getElem? (i := 29) (by decide +kernel), List.mem_of_getElem? (i := 413) (by decide +kernel), List.mem_of_getElem? (i := 414) (by decide +kernel)⟩
theorem lw_p10 : lw_okq (⟨"LeavesOfMud$Hands", "halvesOf", "(III)I"⟩, 3) := ⟨⟨by decide +kernel, by decide +kernel⟩, List.mem_of_getElem? (i := 139) (by decide +kernel), List.mem_of_getElem? (i := 417) (by decide +kernel), List.mem_of_getElem? (i := 418) (by decide +kernel)⟩
theorem lw_p11 : lw_okq (⟨"LeavesOfMud", "aboutLeaf", "(III)I"⟩, 13) := ⟨⟨by decide +kernel, by decide +kernel⟩, List.mem_of_getElem? (i := 21) (by decide +kernel), List.mem_of_getElem? (i := 423) (by decide +kernel), List.mem_of_getElem? (i := 424) (by decide +kernel)⟩
theorem lw_p12 : lw_okq (⟨"LeavesOfMud$Pits", "thicknessOf", "(II)I"⟩, 6) := ⟨⟨by decide +kernel, by decide +kernel⟩, List.mem_of_getElem? (i := 29) (by decide +kernel), List.mem_of_getElem? (i := 427) (by decide +kernel), List.mem_of_getElem? (i := 428) (by decide +kernel)⟩
theorem lw_p13 : lw_okq (⟨"LeavesOfMud$Pits", "stepBetween", "(III)I"⟩, 6) := ⟨⟨by decide +kernel, by decide +kernel⟩, List.mem_of_getElem? (i := 29) (by decide +kernel), List.mem_of_getElem? (i := 432) (by decide +kernel), List.mem_of_getElem? (i := 433) (by decide +kernel)⟩
theorem lw_p14 : lw_okq (⟨"LeavesOfMud$Page", "write", "(I)V"⟩, 4) := ⟨⟨by decide +kernel, by decide +kernel⟩, List.mem_of_getElem? (i := 116) (by decide +kernel), List.mem_of_getElem? (i := 469) (by decide +kernel), List.mem_of_getElem? (i := 470) (by decide +kernel)⟩
theorem lw_p15 : lw_okq (⟨"LeavesOfMud$Page", "read", "(I)I"⟩, 4) := ⟨⟨by decide +kernel, by decide +kernel⟩, List.mem_of_getElem? (i := 116) (by decide +kernel), List.mem_of_getElem? (i := 481) (by decide +kernel), List.mem_of_getElem? (i := 482) (by decide +kernel)⟩
def lw_privs_1 : List (MethodName × Nat) := [(⟨"LeavesOfMud$Pits", "open", "(I)I"⟩, 6), (⟨"LeavesOfMud$Pits", "has", "(I)Z"⟩, 6), (⟨"LeavesOfMud$Pits", "push", "(IIII)V"⟩, 6), (⟨"LeavesOfMud$Pits", "put", "(IIIII)V"⟩, 6), (⟨"LeavesOfMud$Pits", "hasLeaf", "(II)Z"⟩, 6), (⟨"LeavesOfMud$Pits", "kindOf", "(II)I"⟩, 6), (⟨"LeavesOfMud", "aboutPit", "(II)I"⟩, 13), (⟨"LeavesOfMud$Hands", "yearsOfAll", "(II)I"⟩, 3), (⟨"LeavesOfMud$Hands", "halvesAhead", "(III)I"⟩, 3), (⟨"LeavesOfMud$Pits", "nOf", "(II)I"⟩, 6), (⟨"LeavesOfMud$Hands", "halvesOf", "(III)I"⟩, 3), (⟨"LeavesOfMud", "aboutLeaf", "(III)I"⟩, 13), (⟨"LeavesOfMud$Pits", "thicknessOf", "(II)I"⟩, 6), (⟨"LeavesOfMud$Pits", "stepBetween", "(III)I"⟩, 6), (⟨"LeavesOfMud$Page", "write", "(I)V"⟩, 4), (⟨"LeavesOfMud$Page", "read", "(I)I"⟩, 4)]
theorem lw_r1 : ∀ q ∈ lw_privs_1, lw_okq q := List.forall_mem_cons.mpr ⟨lw_p0, List.forall_mem_cons.mpr ⟨lw_p1, List.forall_mem_cons.mpr ⟨lw_p2, List.forall_mem_cons.mpr ⟨lw_p3, List.forall_mem_cons.mpr ⟨lw_p4, List.forall_mem_cons.mpr ⟨lw_p5, List.forall_mem_cons.mpr ⟨lw_p6, List.forall_mem_cons.mpr ⟨lw_p7, List.forall_mem_cons.mpr ⟨lw_p8, List.forall_mem_cons.mpr ⟨lw_p9, List.forall_mem_cons.mpr ⟨lw_p10, List.forall_mem_cons.mpr ⟨lw_p11, List.forall_mem_cons.mpr ⟨lw_p12, List.forall_mem_cons.mpr ⟨lw_p13, List.forall_mem_cons.mpr ⟨lw_p14, List.forall_mem_cons.mpr ⟨lw_p15, fun _ h => absurd h List.not_mem_nil⟩⟩⟩⟩⟩⟩⟩⟩⟩⟩⟩⟩⟩⟩⟩⟩
theorem lw_p16 : lw_okq (⟨"LeavesOfMud$Page", "readItems", "(Ljava/lang/String;I)I"⟩, 4) := ⟨⟨by decide +kernel, by decide +kernel⟩, List.mem_of_getElem? (i := 116) (by decide +kernel), List.mem_of_getElem? (i := 486) (by decide +kernel), List.mem_of_getElem? (i := 487) (by decide +kernel)⟩
theorem lw_p17 : lw_okq (⟨"LeavesOfMud$Hands", "take", "([I)I"⟩, 3) := ⟨⟨by decide +kernel, by decide +kernel⟩, List.mem_of_getElem? (i := 139) (by decide +kernel), List.mem_of_getElem? (i := 585) (by decide +kernel), List.mem_of_getElem? (i := 586) (by decide +kernel)⟩
theorem lw_p18 : lw_okq (⟨"LeavesOfMud$Laws", "take", "([I)I"⟩, 2) := ⟨⟨by decide +kernel, by decide +kernel⟩, List.mem_of_getElem? (i := 159) (by decide +kernel), List.mem_of_getElem? (i := 596) (by decide +kernel), List.mem_of_getElem? (i := 597) (by decide +kernel)⟩
theorem lw_p19 : lw_okq (⟨"LeavesOfMud$Hands", "has", "(I)Z"⟩, 3) := ⟨⟨by decide +kernel, by decide +kernel⟩, List.mem_of_getElem? (i := 139) (by decide +kernel), List.mem_of_getElem? (i := 606) (by decide +kernel), List.mem_of_getElem? (i := 607) (by decide +kernel)⟩
theorem lw_p20 : lw_okq (⟨"LeavesOfMud$Hands", "yearsAhead", "(III)I"⟩, 3) := ⟨⟨by decide +kernel, by decide +kernel⟩, List.mem_of_getElem? (i := 139) (by decide +kernel), List.mem_of_getElem? (i := 610) (by decide +kernel), List.mem_of_getElem? (i := 611) (by decide +kernel)⟩
theorem lw_p21 : lw_okq (⟨"LeavesOfMud$Slides", "overOf", "(III)I"⟩, 1) := ⟨⟨by decide +kernel, by decide +kernel⟩, List.mem_of_getElem? (i := 173) (by decide +kernel), List.mem_of_getElem? (i := 631) (by decide +kernel), List.mem_of_getElem? (i := 632) (by decide +kernel)⟩
theorem lw_p22 : lw_okq (⟨"LeavesOfMud$Slides", "likeOf", "(IIII)I"⟩, 1) := ⟨⟨by decide +kernel, by decide +kernel⟩, List.mem_of_getElem? (i := 173) (by decide +kernel), List.mem_of_getElem? (i := 638) (by decide +kernel), List.mem_of_getElem? (i := 639) (by decide +kernel)⟩
theorem lw_p23 : lw_okq (⟨"LeavesOfMud$Pits", "isAsh", "(II)Z"⟩, 6) := ⟨⟨by decide +kernel, by decide +kernel⟩, List.mem_of_getElem? (i := 29) (by decide +kernel), List.mem_of_getElem? (i := 646) (by decide +kernel), List.mem_of_getElem? (i := 647) (by decide +kernel)⟩
theorem lw_p24 : lw_okq (⟨"LeavesOfMud$Slides", "best", "(III)I"⟩, 1) := ⟨⟨by decide +kernel, by decide +kernel⟩, List.mem_of_getElem? (i := 173) (by decide +kernel), List.mem_of_getElem? (i := 660) (by decide +kernel), List.mem_of_getElem? (i := 661) (by decide +kernel)⟩
theorem lw_p25 : lw_okq (⟨"LeavesOfMud$Slides", "turnsAsLike", "(III)I"⟩, 1) := ⟨⟨by decide +kernel, by decide +kernel⟩, List.mem_of_getElem? (i := 173) (by decide +kernel), List.mem_of_getElem? (i := 671) (by decide +kernel), List.mem_of_getElem? (i := 672) (by decide +kernel)⟩
theorem lw_p26 : lw_okq (⟨"LeavesOfMud$Laws", "has", "(I)Z"⟩, 2) := ⟨⟨by decide +kernel, by decide +kernel⟩, List.mem_of_getElem? (i := 159) (by decide +kernel), List.mem_of_getElem? (i := 682) (by decide +kernel), List.mem_of_getElem? (i := 683) (by decide +kernel)⟩
theorem lw_p27 : lw_okq (⟨"LeavesOfMud$Pairing", "setTogether", "(III)V"⟩, 20) := ⟨⟨by decide +kernel, by decide +kernel⟩, List.mem_of_getElem? (i := 183) (by decide +kernel), List.mem_of_getElem? (i := 686) (by decide +kernel), List.mem_of_getElem? (i := 687) (by decide +kernel)⟩
theorem lw_p28 : lw_okq (⟨"LeavesOfMud$Pairing", "readRow", "(I[I[I)V"⟩, 20) := ⟨⟨by decide +kernel, by decide +kernel⟩, List.mem_of_getElem? (i := 183) (by decide +kernel), List.mem_of_getElem? (i := 690) (by decide +kernel), List.mem_of_getElem? (i := 691) (by decide +kernel)⟩
theorem lw_p29 : lw_okq (⟨"LeavesOfMud$Laws", "priceOf", "(II)I"⟩, 2) := ⟨⟨by decide +kernel, by decide +kernel⟩, List.mem_of_getElem? (i := 159) (by decide +kernel), List.mem_of_getElem? (i := 697) (by decide +kernel), List.mem_of_getElem? (i := 698) (by decide +kernel)⟩
theorem lw_p30 : lw_okq (⟨"LeavesOfMud$Pairing", "fillAll", "()V"⟩, 20) := ⟨⟨by decide +kernel, by decide +kernel⟩, List.mem_of_getElem? (i := 183) (by decide +kernel), List.mem_of_getElem? (i := 701) (by decide +kernel), List.mem_of_getElem? (i := 702) (by decide +kernel)⟩
theorem lw_p31 : lw_okq (⟨"LeavesOfMud$Pairing", "fillPlace", "(II)V"⟩, 20) := ⟨⟨by decide +kernel, by decide +kernel⟩, List.mem_of_getElem? (i := 183) (by decide +kernel), List.mem_of_getElem? (i := 705) (by decide +kernel), List.mem_of_getElem? (i := 706) (by decide +kernel)⟩
def lw_privs_2 : List (MethodName × Nat) := [(⟨"LeavesOfMud$Page", "readItems", "(Ljava/lang/String;I)I"⟩, 4), (⟨"LeavesOfMud$Hands", "take", "([I)I"⟩, 3), (⟨"LeavesOfMud$Laws", "take", "([I)I"⟩, 2), (⟨"LeavesOfMud$Hands", "has", "(I)Z"⟩, 3), (⟨"LeavesOfMud$Hands", "yearsAhead", "(III)I"⟩, 3), (⟨"LeavesOfMud$Slides", "overOf", "(III)I"⟩, 1), (⟨"LeavesOfMud$Slides", "likeOf", "(IIII)I"⟩, 1), (⟨"LeavesOfMud$Pits", "isAsh", "(II)Z"⟩, 6), (⟨"LeavesOfMud$Slides", "best", "(III)I"⟩, 1), (⟨"LeavesOfMud$Slides", "turnsAsLike", "(III)I"⟩, 1), (⟨"LeavesOfMud$Laws", "has", "(I)Z"⟩, 2), (⟨"LeavesOfMud$Pairing", "setTogether", "(III)V"⟩, 20), (⟨"LeavesOfMud$Pairing", "readRow", "(I[I[I)V"⟩, 20), (⟨"LeavesOfMud$Laws", "priceOf", "(II)I"⟩, 2), (⟨"LeavesOfMud$Pairing", "fillAll", "()V"⟩, 20), (⟨"LeavesOfMud$Pairing", "fillPlace", "(II)V"⟩, 20)]
theorem lw_r2 : ∀ q ∈ lw_privs_2, lw_okq q := List.forall_mem_cons.mpr ⟨lw_p16, List.forall_mem_cons.mpr ⟨lw_p17, List.forall_mem_cons.mpr ⟨lw_p18, List.forall_mem_cons.mpr ⟨lw_p19, List.forall_mem_cons.mpr ⟨lw_p20, List.forall_mem_cons.mpr ⟨lw_p21, List.forall_mem_cons.mpr ⟨lw_p22, List.forall_mem_cons.mpr ⟨lw_p23, List.forall_mem_cons.mpr ⟨lw_p24, List.forall_mem_cons.mpr ⟨lw_p25, List.forall_mem_cons.mpr ⟨lw_p26, List.forall_mem_cons.mpr ⟨lw_p27, List.forall_mem_cons.mpr ⟨lw_p28, List.forall_mem_cons.mpr ⟨lw_p29, List.forall_mem_cons.mpr ⟨lw_p30, List.forall_mem_cons.mpr ⟨lw_p31, fun _ h => absurd h List.not_mem_nil⟩⟩⟩⟩⟩⟩⟩⟩⟩⟩⟩⟩⟩⟩⟩⟩
theorem lw_p32 : lw_okq (⟨"LeavesOfMud$Pairing", "canStep", "(III)Z"⟩, 20) := ⟨⟨by decide +kernel, by decide +kernel⟩, List.mem_of_getElem? (i := 183) (by decide +kernel), List.mem_of_getElem? (i := 709) (by decide +kernel), List.mem_of_getElem? (i := 710) (by decide +kernel)⟩
theorem lw_p33 : lw_okq (⟨"LeavesOfMud$Pairing", "placeAfter", "(III)I"⟩, 20) := ⟨⟨by decide +kernel, by decide +kernel⟩, List.mem_of_getElem? (i := 183) (by decide +kernel), List.mem_of_getElem? (i := 717) (by decide +kernel), List.mem_of_getElem? (i := 718) (by decide +kernel)⟩
theorem lw_p34 : lw_okq (⟨"LeavesOfMud$Pairing", "priceOf", "(III)I"⟩, 20) := ⟨⟨by decide +kernel, by decide +kernel⟩, List.mem_of_getElem? (i := 183) (by decide +kernel), List.mem_of_getElem? (i := 721) (by decide +kernel), List.mem_of_getElem? (i := 722) (by decide +kernel)⟩
theorem lw_p35 : lw_okq (⟨"LeavesOfMud$Pairing", "priceOfOneOnOne", "(II)I"⟩, 20) := ⟨⟨by decide +kernel, by decide +kernel⟩, List.mem_of_getElem? (i := 183) (by decide +kernel), List.mem_of_getElem? (i := 725) (by decide +kernel), List.mem_of_getElem? (i := 726) (by decide +kernel)⟩
theorem lw_p36 : lw_okq (⟨"LeavesOfMud$Pairing", "priceOfDoubled", "(II)I"⟩, 20) := ⟨⟨by decide +kernel, by decide +kernel⟩, List.mem_of_getElem? (i := 183) (by decide +kernel), List.mem_of_getElem? (i := 738) (by decide +kernel), List.mem_of_getElem? (i := 739) (by decide +kernel)⟩
theorem lw_p37 : lw_okq (⟨"LeavesOfMud$Pairing", "leastOfAll", "()I"⟩, 20) := ⟨⟨by decide +kernel, by decide +kernel⟩, List.mem_of_getElem? (i := 183) (by decide +kernel), List.mem_of_getElem? (i := 744) (by decide +kernel), List.mem_of_getElem? (i := 745) (by decide +kernel)⟩
theorem lw_p38 : lw_okq (⟨"LeavesOfMud$Pairing", "waysOfAll", "()I"⟩, 20) := ⟨⟨by decide +kernel, by decide +kernel⟩, List.mem_of_getElem? (i := 183) (by decide +kernel), List.mem_of_getElem? (i := 748) (by decide +kernel), List.mem_of_getElem? (i := 749) (by decide +kernel)⟩
theorem lw_p39 : lw_okq (⟨"LeavesOfMud$Pairing", "goTheWay", "()V"⟩, 20) := ⟨⟨by decide +kernel, by decide +kernel⟩, List.mem_of_getElem? (i := 183) (by decide +kernel), List.mem_of_getElem? (i := 752) (by decide +kernel), List.mem_of_getElem? (i := 753) (by decide +kernel)⟩
theorem lw_p40 : lw_okq (⟨"LeavesOfMud$Pairing", "leastStepFrom", "(II)I"⟩, 20) := ⟨⟨by decide +kernel, by decide +kernel⟩, List.mem_of_getElem? (i := 183) (by decide +kernel), List.mem_of_getElem? (i := 756) (by decide +kernel), List.mem_of_getElem? (i := 757) (by decide +kernel)⟩
theorem lw_p41 : lw_okq (⟨"LeavesOfMud$Pairing", "stepOfTheWay", "(I)I"⟩, 20) := ⟨⟨by decide +kernel, by decide +kernel⟩, List.mem_of_getElem? (i := 183) (by decide +kernel), List.mem_of_getElem? (i := 760) (by decide +kernel), List.mem_of_getElem? (i := 761) (by decide +kernel)⟩
theorem lw_p42 : lw_okq (⟨"LeavesOfMud$Pairing", "leastWithout", "(II)I"⟩, 20) := ⟨⟨by decide +kernel, by decide +kernel⟩, List.mem_of_getElem? (i := 183) (by decide +kernel), List.mem_of_getElem? (i := 773) (by decide +kernel), List.mem_of_getElem? (i := 774) (by decide +kernel)⟩
theorem lw_p43 : lw_okq (⟨"LeavesOfMud$Bonds", "addJoin", "(IIIII)I"⟩, 11) := ⟨⟨by decide +kernel, by decide +kernel⟩, List.mem_of_getElem? (i := 63) (by decide +kernel), List.mem_of_getElem? (i := 784) (by decide +kernel), List.mem_of_getElem? (i := 785) (by decide +kernel)⟩
theorem lw_p44 : lw_okq (⟨"LeavesOfMud$Bonds", "setKept", "(IZ)V"⟩, 11) := ⟨⟨by decide +kernel, by decide +kernel⟩, List.mem_of_getElem? (i := 63) (by decide +kernel), List.mem_of_getElem? (i := 788) (by decide +kernel), List.mem_of_getElem? (i := 789) (by decide +kernel)⟩
theorem lw_p45 : lw_okq (⟨"LeavesOfMud$Bonds", "isKept", "(I)Z"⟩, 11) := ⟨⟨by decide +kernel, by decide +kernel⟩, List.mem_of_getElem? (i := 63) (by decide +kernel), List.mem_of_getElem? (i := 796) (by decide +kernel), List.mem_of_getElem? (i := 797) (by decide +kernel)⟩
theorem lw_p46 : lw_okq (⟨"LeavesOfMud$Bonds", "isTied", "(I)Z"⟩, 11) := ⟨⟨by decide +kernel, by decide +kernel⟩, List.mem_of_getElem? (i := 63) (by decide +kernel), List.mem_of_getElem? (i := 806) (by decide +kernel), List.mem_of_getElem? (i := 807) (by decide +kernel)⟩
theorem lw_p47 : lw_okq (⟨"LeavesOfMud$Bonds", "setTie", "(III)V"⟩, 11) := ⟨⟨by decide +kernel, by decide +kernel⟩, List.mem_of_getElem? (i := 63) (by decide +kernel), List.mem_of_getElem? (i := 810) (by decide +kernel), List.mem_of_getElem? (i := 811) (by decide +kernel)⟩
def lw_privs_3 : List (MethodName × Nat) := [(⟨"LeavesOfMud$Pairing", "canStep", "(III)Z"⟩, 20), (⟨"LeavesOfMud$Pairing", "placeAfter", "(III)I"⟩, 20), (⟨"LeavesOfMud$Pairing", "priceOf", "(III)I"⟩, 20), (⟨"LeavesOfMud$Pairing", "priceOfOneOnOne", "(II)I"⟩, 20), (⟨"LeavesOfMud$Pairing", "priceOfDoubled", "(II)I"⟩, 20), (⟨"LeavesOfMud$Pairing", "leastOfAll", "()I"⟩, 20), (⟨"LeavesOfMud$Pairing", "waysOfAll", "()I"⟩, 20), (⟨"LeavesOfMud$Pairing", "goTheWay", "()V"⟩, 20), (⟨"LeavesOfMud$Pairing", "leastStepFrom", "(II)I"⟩, 20), (⟨"LeavesOfMud$Pairing", "stepOfTheWay", "(I)I"⟩, 20), (⟨"LeavesOfMud$Pairing", "leastWithout", "(II)I"⟩, 20), (⟨"LeavesOfMud$Bonds", "addJoin", "(IIIII)I"⟩, 11), (⟨"LeavesOfMud$Bonds", "setKept", "(IZ)V"⟩, 11), (⟨"LeavesOfMud$Bonds", "isKept", "(I)Z"⟩, 11), (⟨"LeavesOfMud$Bonds", "isTied", "(I)Z"⟩, 11), (⟨"LeavesOfMud$Bonds", "setTie", "(III)V"⟩, 11)]
theorem lw_r3 : ∀ q ∈ lw_privs_3, lw_okq q := List.forall_mem_cons.mpr ⟨lw_p32, List.forall_mem_cons.mpr ⟨lw_p33, List.forall_mem_cons.mpr ⟨lw_p34, List.forall_mem_cons.mpr ⟨lw_p35, List.forall_mem_cons.mpr ⟨lw_p36, List.forall_mem_cons.mpr ⟨lw_p37, List.forall_mem_cons.mpr ⟨lw_p38, List.forall_mem_cons.mpr ⟨lw_p39, List.forall_mem_cons.mpr ⟨lw_p40, List.forall_mem_cons.mpr ⟨lw_p41, List.forall_mem_cons.mpr ⟨lw_p42, List.forall_mem_cons.mpr ⟨lw_p43, List.forall_mem_cons.mpr ⟨lw_p44, List.forall_mem_cons.mpr ⟨lw_p45, List.forall_mem_cons.mpr ⟨lw_p46, List.forall_mem_cons.mpr ⟨lw_p47, fun _ h => absurd h List.not_mem_nil⟩⟩⟩⟩⟩⟩⟩⟩⟩⟩⟩⟩⟩⟩⟩⟩
theorem lw_p48 : lw_okq (⟨"LeavesOfMud$Bonds", "dropTie", "(I)V"⟩, 11) := ⟨⟨by decide +kernel, by decide +kernel⟩, List.mem_of_getElem? (i := 63) (by decide +kernel), List.mem_of_getElem? (i := 818) (by decide +kernel), List.mem_of_getElem? (i := 819) (by decide +kernel)⟩
theorem lw_p49 : lw_okq (⟨"LeavesOfMud$Net", "weaveWhole", "()Z"⟩, 15) := ⟨⟨by decide +kernel, by decide +kernel⟩, List.mem_of_getElem? (i := 253) (by decide +kernel), List.mem_of_getElem? (i := 830) (by decide +kernel), List.mem_of_getElem? (i := 831) (by decide +kernel)⟩
theorem lw_p50 : lw_okq (⟨"LeavesOfMud$Net", "weaveFixed", "()Z"⟩, 15) := ⟨⟨by decide +kernel, by decide +kernel⟩, List.mem_of_getElem? (i := 253) (by decide +kernel), List.mem_of_getElem? (i := 834) (by decide +kernel), List.mem_of_getElem? (i := 835) (by decide +kernel)⟩
theorem lw_p51 : lw_okq (⟨"LeavesOfMud$Net", "findAshes", "()V"⟩, 15) := ⟨⟨by decide +kernel, by decide +kernel⟩, List.mem_of_getElem? (i := 253) (by decide +kernel), List.mem_of_getElem? (i := 840) (by decide +kernel), List.mem_of_getElem? (i := 841) (by decide +kernel)⟩
theorem lw_p52 : lw_okq (⟨"LeavesOfMud$Net", "bindAshes", "(I)Z"⟩, 15) := ⟨⟨by decide +kernel, by decide +kernel⟩, List.mem_of_getElem? (i := 253) (by decide +kernel), List.mem_of_getElem? (i := 847) (by decide +kernel), List.mem_of_getElem? (i := 848) (by decide +kernel)⟩
theorem lw_p53 : lw_okq (⟨"LeavesOfMud$Net", "firstPitWithAsh", "(I)I"⟩, 15) := ⟨⟨by decide +kernel, by decide +kernel⟩, List.mem_of_getElem? (i := 253) (by decide +kernel), List.mem_of_getElem? (i := 851) (by decide +kernel), List.mem_of_getElem? (i := 852) (by decide +kernel)⟩
theorem lw_p54 : lw_okq (⟨"LeavesOfMud$Net", "hasAsh", "(II)Z"⟩, 15) := ⟨⟨by decide +kernel, by decide +kernel⟩, List.mem_of_getElem? (i := 253) (by decide +kernel), List.mem_of_getElem? (i := 855) (by decide +kernel), List.mem_of_getElem? (i := 856) (by decide +kernel)⟩
theorem lw_p55 : lw_okq (⟨"LeavesOfMud$Net", "weaveJoins", "([II)Z"⟩, 15) := ⟨⟨by decide +kernel, by decide +kernel⟩, List.mem_of_getElem? (i := 253) (by decide +kernel), List.mem_of_getElem? (i := 866) (by decide +kernel), List.mem_of_getElem? (i := 867) (by decide +kernel)⟩
theorem lw_p56 : lw_okq (⟨"LeavesOfMud$Net", "bindJoin", "([II)Z"⟩, 15) := ⟨⟨by decide +kernel, by decide +kernel⟩, List.mem_of_getElem? (i := 253) (by decide +kernel), List.mem_of_getElem? (i := 872) (by decide +kernel), List.mem_of_getElem? (i := 873) (by decide +kernel)⟩
theorem lw_p57 : lw_okq (⟨"LeavesOfMud", "spanTold", "(III)I"⟩, 13) := ⟨⟨by decide +kernel, by decide +kernel⟩, List.mem_of_getElem? (i := 21) (by decide +kernel), List.mem_of_getElem? (i := 881) (by decide +kernel), List.mem_of_getElem? (i := 882) (by decide +kernel)⟩
theorem lw_p58 : lw_okq (⟨"LeavesOfMud$Net", "isFloating", "(II)Z"⟩, 15) := ⟨⟨by decide +kernel, by decide +kernel⟩, List.mem_of_getElem? (i := 253) (by decide +kernel), List.mem_of_getElem? (i := 885) (by decide +kernel), List.mem_of_getElem? (i := 886) (by decide +kernel)⟩
theorem lw_p59 : lw_okq (⟨"LeavesOfMud$Net", "endOfSpan", "(III)I"⟩, 15) := ⟨⟨by decide +kernel, by decide +kernel⟩, List.mem_of_getElem? (i := 253) (by decide +kernel), List.mem_of_getElem? (i := 889) (by decide +kernel), List.mem_of_getElem? (i := 890) (by decide +kernel)⟩
theorem lw_p60 : lw_okq (⟨"LeavesOfMud$Net", "group", "()V"⟩, 15) := ⟨⟨by decide +kernel, by decide +kernel⟩, List.mem_of_getElem? (i := 253) (by decide +kernel), List.mem_of_getElem? (i := 901) (by decide +kernel), List.mem_of_getElem? (i := 902) (by decide +kernel)⟩
theorem lw_p61 : lw_okq (⟨"LeavesOfMud$Net", "hangTogether", "(II)V"⟩, 15) := ⟨⟨by decide +kernel, by decide +kernel⟩, List.mem_of_getElem? (i := 253) (by decide +kernel), List.mem_of_getElem? (i := 905) (by decide +kernel), List.mem_of_getElem? (i := 906) (by decide +kernel)⟩
theorem lw_p62 : lw_okq (⟨"LeavesOfMud$Net", "groupAshes", "(I)V"⟩, 15) := ⟨⟨by decide +kernel, by decide +kernel⟩, List.mem_of_getElem? (i := 253) (by decide +kernel), List.mem_of_getElem? (i := 909) (by decide +kernel), List.mem_of_getElem? (i := 910) (by decide +kernel)⟩
theorem lw_p63 : lw_okq (⟨"LeavesOfMud$Net", "groups", "()I"⟩, 15) := ⟨⟨by decide +kernel, by decide +kernel⟩, List.mem_of_getElem? (i := 253) (by decide +kernel), List.mem_of_getElem? (i := 913) (by decide +kernel), List.mem_of_getElem? (i := 914) (by decide +kernel)⟩
def lw_privs_4 : List (MethodName × Nat) := [(⟨"LeavesOfMud$Bonds", "dropTie", "(I)V"⟩, 11), (⟨"LeavesOfMud$Net", "weaveWhole", "()Z"⟩, 15), (⟨"LeavesOfMud$Net", "weaveFixed", "()Z"⟩, 15), (⟨"LeavesOfMud$Net", "findAshes", "()V"⟩, 15), (⟨"LeavesOfMud$Net", "bindAshes", "(I)Z"⟩, 15), (⟨"LeavesOfMud$Net", "firstPitWithAsh", "(I)I"⟩, 15), (⟨"LeavesOfMud$Net", "hasAsh", "(II)Z"⟩, 15), (⟨"LeavesOfMud$Net", "weaveJoins", "([II)Z"⟩, 15), (⟨"LeavesOfMud$Net", "bindJoin", "([II)Z"⟩, 15), (⟨"LeavesOfMud", "spanTold", "(III)I"⟩, 13), (⟨"LeavesOfMud$Net", "isFloating", "(II)Z"⟩, 15), (⟨"LeavesOfMud$Net", "endOfSpan", "(III)I"⟩, 15), (⟨"LeavesOfMud$Net", "group", "()V"⟩, 15), (⟨"LeavesOfMud$Net", "hangTogether", "(II)V"⟩, 15), (⟨"LeavesOfMud$Net", "groupAshes", "(I)V"⟩, 15), (⟨"LeavesOfMud$Net", "groups", "()I"⟩, 15)]
theorem lw_r4 : ∀ q ∈ lw_privs_4, lw_okq q := List.forall_mem_cons.mpr ⟨lw_p48, List.forall_mem_cons.mpr ⟨lw_p49, List.forall_mem_cons.mpr ⟨lw_p50, List.forall_mem_cons.mpr ⟨lw_p51, List.forall_mem_cons.mpr ⟨lw_p52, List.forall_mem_cons.mpr ⟨lw_p53, List.forall_mem_cons.mpr ⟨lw_p54, List.forall_mem_cons.mpr ⟨lw_p55, List.forall_mem_cons.mpr ⟨lw_p56, List.forall_mem_cons.mpr ⟨lw_p57, List.forall_mem_cons.mpr ⟨lw_p58, List.forall_mem_cons.mpr ⟨lw_p59, List.forall_mem_cons.mpr ⟨lw_p60, List.forall_mem_cons.mpr ⟨lw_p61, List.forall_mem_cons.mpr ⟨lw_p62, List.forall_mem_cons.mpr ⟨lw_p63, fun _ h => absurd h List.not_mem_nil⟩⟩⟩⟩⟩⟩⟩⟩⟩⟩⟩⟩⟩⟩⟩⟩
theorem lw_p64 : lw_okq (⟨"LeavesOfMud$Net", "groupOfFirst", "()I"⟩, 15) := ⟨⟨by decide +kernel, by decide +kernel⟩, List.mem_of_getElem? (i := 253) (by decide +kernel), List.mem_of_getElem? (i := 923) (by decide +kernel), List.mem_of_getElem? (i := 924) (by decide +kernel)⟩
theorem lw_p65 : lw_okq (⟨"LeavesOfMud$Net", "leastCast", "()I"⟩, 15) := ⟨⟨by decide +kernel, by decide +kernel⟩, List.mem_of_getElem? (i := 253) (by decide +kernel), List.mem_of_getElem? (i := 931) (by decide +kernel), List.mem_of_getElem? (i := 932) (by decide +kernel)⟩
theorem lw_p66 : lw_okq (⟨"LeavesOfMud$Net", "castFrom", "(III)V"⟩, 15) := ⟨⟨by decide +kernel, by decide +kernel⟩, List.mem_of_getElem? (i := 253) (by decide +kernel), List.mem_of_getElem? (i := 935) (by decide +kernel), List.mem_of_getElem? (i := 936) (by decide +kernel)⟩
theorem lw_p67 : lw_okq (⟨"LeavesOfMud$Net", "considerCast", "(II)V"⟩, 15) := ⟨⟨by decide +kernel, by decide +kernel⟩, List.mem_of_getElem? (i := 253) (by decide +kernel), List.mem_of_getElem? (i := 939) (by decide +kernel), List.mem_of_getElem? (i := 940) (by decide +kernel)⟩
theorem lw_p68 : lw_okq (⟨"LeavesOfMud$Net", "copyLevel", "(I)V"⟩, 15) := ⟨⟨by decide +kernel, by decide +kernel⟩, List.mem_of_getElem? (i := 253) (by decide +kernel), List.mem_of_getElem? (i := 943) (by decide +kernel), List.mem_of_getElem? (i := 944) (by decide +kernel)⟩
theorem lw_p69 : lw_okq (⟨"LeavesOfMud$Net", "joinsThatHold", "(II)I"⟩, 15) := ⟨⟨by decide +kernel, by decide +kernel⟩, List.mem_of_getElem? (i := 253) (by decide +kernel), List.mem_of_getElem? (i := 951) (by decide +kernel), List.mem_of_getElem? (i := 952) (by decide +kernel)⟩
theorem lw_p70 : lw_okq (⟨"LeavesOfMud$Net", "isWiderWithout", "(III)Z"⟩, 15) := ⟨⟨by decide +kernel, by decide +kernel⟩, List.mem_of_getElem? (i := 253) (by decide +kernel), List.mem_of_getElem? (i := 955) (by decide +kernel), List.mem_of_getElem? (i := 956) (by decide +kernel)⟩
theorem lw_p71 : lw_okq (⟨"LeavesOfMud$Net", "findDig", "()V"⟩, 15) := ⟨⟨by decide +kernel, by decide +kernel⟩, List.mem_of_getElem? (i := 253) (by decide +kernel), List.mem_of_getElem? (i := 963) (by decide +kernel), List.mem_of_getElem? (i := 964) (by decide +kernel)⟩
theorem lw_p72 : lw_okq (⟨"LeavesOfMud$Net", "widthOf", "(II)I"⟩, 15) := ⟨⟨by decide +kernel, by decide +kernel⟩, List.mem_of_getElem? (i := 253) (by decide +kernel), List.mem_of_getElem? (i := 968) (by decide +kernel), List.mem_of_getElem? (i := 969) (by decide +kernel)⟩
theorem lw_p73 : lw_okq (⟨"LeavesOfMud$Net", "worstOfDig", "(II)I"⟩, 15) := ⟨⟨by decide +kernel, by decide +kernel⟩, List.mem_of_getElem? (i := 253) (by decide +kernel), List.mem_of_getElem? (i := 973) (by decide +kernel), List.mem_of_getElem? (i := 974) (by decide +kernel)⟩
theorem lw_p74 : lw_okq (⟨"LeavesOfMud$Net", "widthsIfApart", "(III)I"⟩, 15) := ⟨⟨by decide +kernel, by decide +kernel⟩, List.mem_of_getElem? (i := 253) (by decide +kernel), List.mem_of_getElem? (i := 978) (by decide +kernel), List.mem_of_getElem? (i := 979) (by decide +kernel)⟩
theorem lw_p75 : lw_okq (⟨"LeavesOfMud$Net", "mostIfApart", "(IIIII)I"⟩, 15) := ⟨⟨by decide +kernel, by decide +kernel⟩, List.mem_of_getElem? (i := 253) (by decide +kernel), List.mem_of_getElem? (i := 982) (by decide +kernel), List.mem_of_getElem? (i := 983) (by decide +kernel)⟩
theorem lw_p76 : lw_okq (⟨"LeavesOfMud", "tookBy", "(III)I"⟩, 13) := ⟨⟨by decide +kernel, by decide +kernel⟩, List.mem_of_getElem? (i := 21) (by decide +kernel), List.mem_of_getElem? (i := 999) (by decide +kernel), List.mem_of_getElem? (i := 1000) (by decide +kernel)⟩
theorem lw_p77 : lw_okq (⟨"LeavesOfMud$Pits", "sharedAshAhead", "(III)I"⟩, 6) := ⟨⟨by decide +kernel, by decide +kernel⟩, List.mem_of_getElem? (i := 29) (by decide +kernel), List.mem_of_getElem? (i := 1003) (by decide +kernel), List.mem_of_getElem? (i := 1004) (by decide +kernel)⟩
theorem lw_p78 : lw_okq (⟨"LeavesOfMud$Pits", "isSharedAsh", "(III)Z"⟩, 6) := ⟨⟨by decide +kernel, by decide +kernel⟩, List.mem_of_getElem? (i := 29) (by decide +kernel), List.mem_of_getElem? (i := 1007) (by decide +kernel), List.mem_of_getElem? (i := 1008) (by decide +kernel)⟩
theorem lw_p79 : lw_okq (⟨"LeavesOfMud$Pits", "firstAsh", "(II)I"⟩, 6) := ⟨⟨by decide +kernel, by decide +kernel⟩, List.mem_of_getElem? (i := 29) (by decide +kernel), List.mem_of_getElem? (i := 1013) (by decide +kernel), List.mem_of_getElem? (i := 1014) (by decide +kernel)⟩
def lw_privs_5 : List (MethodName × Nat) := [(⟨"LeavesOfMud$Net", "groupOfFirst", "()I"⟩, 15), (⟨"LeavesOfMud$Net", "leastCast", "()I"⟩, 15), (⟨"LeavesOfMud$Net", "castFrom", "(III)V"⟩, 15), (⟨"LeavesOfMud$Net", "considerCast", "(II)V"⟩, 15), (⟨"LeavesOfMud$Net", "copyLevel", "(I)V"⟩, 15), (⟨"LeavesOfMud$Net", "joinsThatHold", "(II)I"⟩, 15), (⟨"LeavesOfMud$Net", "isWiderWithout", "(III)Z"⟩, 15), (⟨"LeavesOfMud$Net", "findDig", "()V"⟩, 15), (⟨"LeavesOfMud$Net", "widthOf", "(II)I"⟩, 15), (⟨"LeavesOfMud$Net", "worstOfDig", "(II)I"⟩, 15), (⟨"LeavesOfMud$Net", "widthsIfApart", "(III)I"⟩, 15), (⟨"LeavesOfMud$Net", "mostIfApart", "(IIIII)I"⟩, 15), (⟨"LeavesOfMud", "tookBy", "(III)I"⟩, 13), (⟨"LeavesOfMud$Pits", "sharedAshAhead", "(III)I"⟩, 6), (⟨"LeavesOfMud$Pits", "isSharedAsh", "(III)Z"⟩, 6), (⟨"LeavesOfMud$Pits", "firstAsh", "(II)I"⟩, 6)]
theorem lw_r5 : ∀ q ∈ lw_privs_5, lw_okq q := List.forall_mem_cons.mpr ⟨lw_p64, List.forall_mem_cons.mpr ⟨lw_p65, List.forall_mem_cons.mpr ⟨lw_p66, List.forall_mem_cons.mpr ⟨lw_p67, List.forall_mem_cons.mpr ⟨lw_p68, List.forall_mem_cons.mpr ⟨lw_p69, List.forall_mem_cons.mpr ⟨lw_p70, List.forall_mem_cons.mpr ⟨lw_p71, List.forall_mem_cons.mpr ⟨lw_p72, List.forall_mem_cons.mpr ⟨lw_p73, List.forall_mem_cons.mpr ⟨lw_p74, List.forall_mem_cons.mpr ⟨lw_p75, List.forall_mem_cons.mpr ⟨lw_p76, List.forall_mem_cons.mpr ⟨lw_p77, List.forall_mem_cons.mpr ⟨lw_p78, List.forall_mem_cons.mpr ⟨lw_p79, fun _ h => absurd h List.not_mem_nil⟩⟩⟩⟩⟩⟩⟩⟩⟩⟩⟩⟩⟩⟩⟩⟩
theorem lw_p80 : lw_okq (⟨"LeavesOfMud$Pits", "sharedAshBehind", "(III)I"⟩, 6) := ⟨⟨by decide +kernel, by decide +kernel⟩, List.mem_of_getElem? (i := 29) (by decide +kernel), List.mem_of_getElem? (i := 1017) (by decide +kernel), List.mem_of_getElem? (i := 1018) (by decide +kernel)⟩
theorem lw_p81 : lw_okq (⟨"LeavesOfMud$Pits", "hasFloodBetween", "(III)Z"⟩, 6) := ⟨⟨by decide +kernel, by decide +kernel⟩, List.mem_of_getElem? (i := 29) (by decide +kernel), List.mem_of_getElem? (i := 1022) (by decide +kernel), List.mem_of_getElem? (i := 1023) (by decide +kernel)⟩
theorem lw_p82 : lw_okq (⟨"LeavesOfMud$Pits", "copyFrom", "(LLeavesOfMud$Pits;)V"⟩, 6) := ⟨⟨by decide +kernel, by decide +kernel⟩, List.mem_of_getElem? (i := 29) (by decide +kernel), List.mem_of_getElem? (i := 1030) (by decide +kernel), List.mem_of_getElem? (i := 1031) (by decide +kernel)⟩
theorem lw_p83 : lw_okq (⟨"LeavesOfMud$Bonds", "copyFrom", "(LLeavesOfMud$Bonds;)V"⟩, 11) := ⟨⟨by decide +kernel, by decide +kernel⟩, List.mem_of_getElem? (i := 63) (by decide +kernel), List.mem_of_getElem? (i := 1035) (by decide +kernel), List.mem_of_getElem? (i := 1036) (by decide +kernel)⟩
theorem lw_p84 : lw_okq (⟨"LeavesOfMud$Pits", "leavesOfAll", "()I"⟩, 6) := ⟨⟨by decide +kernel, by decide +kernel⟩, List.mem_of_getElem? (i := 29) (by decide +kernel), List.mem_of_getElem? (i := 1048) (by decide +kernel), List.mem_of_getElem? (i := 1049) (by decide +kernel)⟩
theorem lw_p85 : lw_okq (⟨"LeavesOfMud", "foldPit", "(JI)J"⟩, 13) := ⟨⟨by decide +kernel, by decide +kernel⟩, List.mem_of_getElem? (i := 21) (by decide +kernel), List.mem_of_getElem? (i := 1058) (by decide +kernel), List.mem_of_getElem? (i := 1059) (by decide +kernel)⟩
theorem lw_p86 : lw_okq (⟨"LeavesOfMud", "foldLaw", "(JI)J"⟩, 13) := ⟨⟨by decide +kernel, by decide +kernel⟩, List.mem_of_getElem? (i := 21) (by decide +kernel), List.mem_of_getElem? (i := 1066) (by decide +kernel), List.mem_of_getElem? (i := 1067) (by decide +kernel)⟩
theorem lw_p87 : lw_okq (⟨"LeavesOfMud$Bonds", "foldInto", "(J)J"⟩, 11) := ⟨⟨by decide +kernel, by decide +kernel⟩, List.mem_of_getElem? (i := 63) (by decide +kernel), List.mem_of_getElem? (i := 1070) (by decide +kernel), List.mem_of_getElem? (i := 1071) (by decide +kernel)⟩
theorem lw_p88 : lw_okq (⟨"LeavesOfMud", "foldNet", "(J)J"⟩, 13) := ⟨⟨by decide +kernel, by decide +kernel⟩, List.mem_of_getElem? (i := 21) (by decide +kernel), List.mem_of_getElem? (i := 1078) (by decide +kernel), List.mem_of_getElem? (i := 1079) (by decide +kernel)⟩
theorem lw_p89 : lw_okq (⟨"LeavesOfMudModel", "isPit", "(I)Z"⟩, 55) := ⟨⟨by decide +kernel, by decide +kernel⟩, List.mem_of_getElem? (i := 1083) (by decide +kernel), List.mem_of_getElem? (i := 1268) (by decide +kernel), List.mem_of_getElem? (i := 1269) (by decide +kernel)⟩
theorem lw_p90 : lw_okq (⟨"LeavesOfMudModel", "put", "(IIIII)V"⟩, 55) := ⟨⟨by decide +kernel, by decide +kernel⟩, List.mem_of_getElem? (i := 1083) (by decide +kernel), List.mem_of_getElem? (i := 1278) (by decide +kernel), List.mem_of_getElem? (i := 1279) (by decide +kernel)⟩
theorem lw_p91 : lw_okq (⟨"LeavesOfMudModel", "isLeaf", "(II)Z"⟩, 55) := ⟨⟨by decide +kernel, by decide +kernel⟩, List.mem_of_getElem? (i := 1083) (by decide +kernel), List.mem_of_getElem? (i := 1286) (by decide +kernel), List.mem_of_getElem? (i := 1287) (by decide +kernel)⟩
theorem lw_p92 : lw_okq (⟨"LeavesOfMudModel", "yearsOf", "(II)I"⟩, 55) := ⟨⟨by decide +kernel, by decide +kernel⟩, List.mem_of_getElem? (i := 1083) (by decide +kernel), List.mem_of_getElem? (i := 1296) (by decide +kernel), List.mem_of_getElem? (i := 1297) (by decide +kernel)⟩
theorem lw_p93 : lw_okq (⟨"LeavesOfMudModel", "halvesAhead", "(III)I"⟩, 55) := ⟨⟨by decide +kernel, by decide +kernel⟩, List.mem_of_getElem? (i := 1083) (by decide +kernel), List.mem_of_getElem? (i := 1300) (by decide +kernel), List.mem_of_getElem? (i := 1301) (by decide +kernel)⟩
theorem lw_p94 : lw_okq (⟨"LeavesOfMudModel", "halvesOf", "(III)I"⟩, 55) := ⟨⟨by decide +kernel, by decide +kernel⟩, List.mem_of_getElem? (i := 1083) (by decide +kernel), List.mem_of_getElem? (i := 1304) (by decide +kernel), List.mem_of_getElem? (i := 1305) (by decide +kernel)⟩
theorem lw_p95 : lw_okq (⟨"LeavesOfMudModel", "stepOf", "(II)I"⟩, 55) := ⟨⟨by decide +kernel, by decide +kernel⟩, List.mem_of_getElem? (i := 1083) (by decide +kernel), List.mem_of_getElem? (i := 1308) (by decide +kernel), List.mem_of_getElem? (i := 1309) (by decide +kernel)⟩
def lw_privs_6 : List (MethodName × Nat) := [(⟨"LeavesOfMud$Pits", "sharedAshBehind", "(III)I"⟩, 6), (⟨"LeavesOfMud$Pits", "hasFloodBetween", "(III)Z"⟩, 6), (⟨"LeavesOfMud$Pits", "copyFrom", "(LLeavesOfMud$Pits;)V"⟩, 6), (⟨"LeavesOfMud$Bonds", "copyFrom", "(LLeavesOfMud$Bonds;)V"⟩, 11), (⟨"LeavesOfMud$Pits", "leavesOfAll", "()I"⟩, 6), (⟨"LeavesOfMud", "foldPit", "(JI)J"⟩, 13), (⟨"LeavesOfMud", "foldLaw", "(JI)J"⟩, 13), (⟨"LeavesOfMud$Bonds", "foldInto", "(J)J"⟩, 11), (⟨"LeavesOfMud", "foldNet", "(J)J"⟩, 13), (⟨"LeavesOfMudModel", "isPit", "(I)Z"⟩, 55), (⟨"LeavesOfMudModel", "put", "(IIIII)V"⟩, 55), (⟨"LeavesOfMudModel", "isLeaf", "(II)Z"⟩, 55), (⟨"LeavesOfMudModel", "yearsOf", "(II)I"⟩, 55), (⟨"LeavesOfMudModel", "halvesAhead", "(III)I"⟩, 55), (⟨"LeavesOfMudModel", "halvesOf", "(III)I"⟩, 55), (⟨"LeavesOfMudModel", "stepOf", "(II)I"⟩, 55)]
theorem lw_r6 : ∀ q ∈ lw_privs_6, lw_okq q := List.forall_mem_cons.mpr ⟨lw_p80, List.forall_mem_cons.mpr ⟨lw_p81, List.forall_mem_cons.mpr ⟨lw_p82, List.forall_mem_cons.mpr ⟨lw_p83, List.forall_mem_cons.mpr ⟨lw_p84, List.forall_mem_cons.mpr ⟨lw_p85, List.forall_mem_cons.mpr ⟨lw_p86, List.forall_mem_cons.mpr ⟨lw_p87, List.forall_mem_cons.mpr ⟨lw_p88, List.forall_mem_cons.mpr ⟨lw_p89, List.forall_mem_cons.mpr ⟨lw_p90, List.forall_mem_cons.mpr ⟨lw_p91, List.forall_mem_cons.mpr ⟨lw_p92, List.forall_mem_cons.mpr ⟨lw_p93, List.forall_mem_cons.mpr ⟨lw_p94, List.forall_mem_cons.mpr ⟨lw_p95, fun _ h => absurd h List.not_mem_nil⟩⟩⟩⟩⟩⟩⟩⟩⟩⟩⟩⟩⟩⟩⟩⟩
theorem lw_p96 : lw_okq (⟨"LeavesOfMudModel", "draw", "(I)I"⟩, 55) := ⟨⟨by decide +kernel, by decide +kernel⟩, List.mem_of_getElem? (i := 1083) (by decide +kernel), List.mem_of_getElem? (i := 1324) (by decide +kernel), List.mem_of_getElem? (i := 1325) (by decide +kernel)⟩
theorem lw_p97 : lw_okq (⟨"LeavesOfMudModel", "layOne", "(III)V"⟩, 55) := ⟨⟨by decide +kernel, by decide +kernel⟩, List.mem_of_getElem? (i := 1083) (by decide +kernel), List.mem_of_getElem? (i := 1332) (by decide +kernel), List.mem_of_getElem? (i := 1333) (by decide +kernel)⟩
theorem lw_p98 : lw_okq (⟨"LeavesOfMudModel", "faultOf", "(I)I"⟩, 55) := ⟨⟨by decide +kernel, by decide +kernel⟩, List.mem_of_getElem? (i := 1083) (by decide +kernel), List.mem_of_getElem? (i := 1349) (by decide +kernel), List.mem_of_getElem? (i := 1350) (by decide +kernel)⟩
theorem lw_p99 : lw_okq (⟨"LeavesOfMudModel", "go", "(II)Z"⟩, 55) := ⟨⟨by decide +kernel, by decide +kernel⟩, List.mem_of_getElem? (i := 1083) (by decide +kernel), List.mem_of_getElem? (i := 1353) (by decide +kernel), List.mem_of_getElem? (i := 1354) (by decide +kernel)⟩
theorem lw_p100 : lw_okq (⟨"LeavesOfMudModel", "isHand", "(I)Z"⟩, 55) := ⟨⟨by decide +kernel, by decide +kernel⟩, List.mem_of_getElem? (i := 1083) (by decide +kernel), List.mem_of_getElem? (i := 1377) (by decide +kernel), List.mem_of_getElem? (i := 1378) (by decide +kernel)⟩
theorem lw_p101 : lw_okq (⟨"LeavesOfMudModel", "atOf", "(III)I"⟩, 55) := ⟨⟨by decide +kernel, by decide +kernel⟩, List.mem_of_getElem? (i := 1083) (by decide +kernel), List.mem_of_getElem? (i := 1382) (by decide +kernel), List.mem_of_getElem? (i := 1383) (by decide +kernel)⟩
theorem lw_p102 : lw_okq (⟨"LeavesOfMudModel", "overOf", "(III)I"⟩, 55) := ⟨⟨by decide +kernel, by decide +kernel⟩, List.mem_of_getElem? (i := 1083) (by decide +kernel), List.mem_of_getElem? (i := 1405) (by decide +kernel), List.mem_of_getElem? (i := 1406) (by decide +kernel)⟩
theorem lw_p103 : lw_okq (⟨"LeavesOfMudModel", "likeOf", "(IIII)I"⟩, 55) := ⟨⟨by decide +kernel, by decide +kernel⟩, List.mem_of_getElem? (i := 1083) (by decide +kernel), List.mem_of_getElem? (i := 1410) (by decide +kernel), List.mem_of_getElem? (i := 1411) (by decide +kernel)⟩
theorem lw_p104 : lw_okq (⟨"LeavesOfMudModel", "turned", "(III)I"⟩, 55) := ⟨⟨by decide +kernel, by decide +kernel⟩, List.mem_of_getElem? (i := 1083) (by decide +kernel), List.mem_of_getElem? (i := 1414) (by decide +kernel), List.mem_of_getElem? (i := 1415) (by decide +kernel)⟩
theorem lw_p105 : lw_okq (⟨"LeavesOfMudModel", "isLaw", "(I)Z"⟩, 55) := ⟨⟨by decide +kernel, by decide +kernel⟩, List.mem_of_getElem? (i := 1083) (by decide +kernel), List.mem_of_getElem? (i := 1444) (by decide +kernel), List.mem_of_getElem? (i := 1445) (by decide +kernel)⟩
theorem lw_p106 : lw_okq (⟨"LeavesOfMudModel", "layTogether", "(IIIII)V"⟩, 55) := ⟨⟨by decide +kernel, by decide +kernel⟩, List.mem_of_getElem? (i := 1083) (by decide +kernel), List.mem_of_getElem? (i := 1450) (by decide +kernel), List.mem_of_getElem? (i := 1451) (by decide +kernel)⟩
theorem lw_p107 : lw_okq (⟨"LeavesOfMudModel", "price", "(III)I"⟩, 55) := ⟨⟨by decide +kernel, by decide +kernel⟩, List.mem_of_getElem? (i := 1083) (by decide +kernel), List.mem_of_getElem? (i := 1455) (by decide +kernel), List.mem_of_getElem? (i := 1456) (by decide +kernel)⟩
theorem lw_p108 : lw_okq (⟨"LeavesOfMudModel", "ash", "(I)I"⟩, 55) := ⟨⟨by decide +kernel, by decide +kernel⟩, List.mem_of_getElem? (i := 1083) (by decide +kernel), List.mem_of_getElem? (i := 1465) (by decide +kernel), List.mem_of_getElem? (i := 1466) (by decide +kernel)⟩
theorem lw_p109 : lw_okq (⟨"LeavesOfMudModel", "behind", "(III)I"⟩, 55) := ⟨⟨by decide +kernel, by decide +kernel⟩, List.mem_of_getElem? (i := 1083) (by decide +kernel), List.mem_of_getElem? (i := 1472) (by decide +kernel), List.mem_of_getElem? (i := 1473) (by decide +kernel)⟩
theorem lw_p110 : lw_okq (⟨"LeavesOfMudModel", "layWay", "()V"⟩, 55) := ⟨⟨by decide +kernel, by decide +kernel⟩, List.mem_of_getElem? (i := 1083) (by decide +kernel), List.mem_of_getElem? (i := 1478) (by decide +kernel), List.mem_of_getElem? (i := 1479) (by decide +kernel)⟩
theorem lw_p111 : lw_okq (⟨"LeavesOfMudModel", "layKept", "()Z"⟩, 55) := ⟨⟨by decide +kernel, by decide +kernel⟩, List.mem_of_getElem? (i := 1083) (by decide +kernel), List.mem_of_getElem? (i := 1518) (by decide +kernel), List.mem_of_getElem? (i := 1519) (by decide +kernel)⟩
def lw_privs_7 : List (MethodName × Nat) := [(⟨"LeavesOfMudModel", "draw", "(I)I"⟩, 55), (⟨"LeavesOfMudModel", "layOne", "(III)V"⟩, 55), (⟨"LeavesOfMudModel", "faultOf", "(I)I"⟩, 55), (⟨"LeavesOfMudModel", "go", "(II)Z"⟩, 55), (⟨"LeavesOfMudModel", "isHand", "(I)Z"⟩, 55), (⟨"LeavesOfMudModel", "atOf", "(III)I"⟩, 55), (⟨"LeavesOfMudModel", "overOf", "(III)I"⟩, 55), (⟨"LeavesOfMudModel", "likeOf", "(IIII)I"⟩, 55), (⟨"LeavesOfMudModel", "turned", "(III)I"⟩, 55), (⟨"LeavesOfMudModel", "isLaw", "(I)Z"⟩, 55), (⟨"LeavesOfMudModel", "layTogether", "(IIIII)V"⟩, 55), (⟨"LeavesOfMudModel", "price", "(III)I"⟩, 55), (⟨"LeavesOfMudModel", "ash", "(I)I"⟩, 55), (⟨"LeavesOfMudModel", "behind", "(III)I"⟩, 55), (⟨"LeavesOfMudModel", "layWay", "()V"⟩, 55), (⟨"LeavesOfMudModel", "layKept", "()Z"⟩, 55)]
theorem lw_r7 : ∀ q ∈ lw_privs_7, lw_okq q := List.forall_mem_cons.mpr ⟨lw_p96, List.forall_mem_cons.mpr ⟨lw_p97, List.forall_mem_cons.mpr ⟨lw_p98, List.forall_mem_cons.mpr ⟨lw_p99, List.forall_mem_cons.mpr ⟨lw_p100, List.forall_mem_cons.mpr ⟨lw_p101, List.forall_mem_cons.mpr ⟨lw_p102, List.forall_mem_cons.mpr ⟨lw_p103, List.forall_mem_cons.mpr ⟨lw_p104, List.forall_mem_cons.mpr ⟨lw_p105, List.forall_mem_cons.mpr ⟨lw_p106, List.forall_mem_cons.mpr ⟨lw_p107, List.forall_mem_cons.mpr ⟨lw_p108, List.forall_mem_cons.mpr ⟨lw_p109, List.forall_mem_cons.mpr ⟨lw_p110, List.forall_mem_cons.mpr ⟨lw_p111, fun _ h => absurd h List.not_mem_nil⟩⟩⟩⟩⟩⟩⟩⟩⟩⟩⟩⟩⟩⟩⟩⟩
theorem lw_p112 : lw_okq (⟨"LeavesOfMudModel", "keptSet", "()I"⟩, 55) := ⟨⟨by decide +kernel, by decide +kernel⟩, List.mem_of_getElem? (i := 1083) (by decide +kernel), List.mem_of_getElem? (i := 1522) (by decide +kernel), List.mem_of_getElem? (i := 1523) (by decide +kernel)⟩
theorem lw_p113 : lw_okq (⟨"LeavesOfMudModel", "layNet", "(I)Z"⟩, 55) := ⟨⟨by decide +kernel, by decide +kernel⟩, List.mem_of_getElem? (i := 1083) (by decide +kernel), List.mem_of_getElem? (i := 1526) (by decide +kernel), List.mem_of_getElem? (i := 1527) (by decide +kernel)⟩
theorem lw_p114 : lw_okq (⟨"LeavesOfMudModel", "bound", "(IIII)V"⟩, 55) := ⟨⟨by decide +kernel, by decide +kernel⟩, List.mem_of_getElem? (i := 1083) (by decide +kernel), List.mem_of_getElem? (i := 1531) (by decide +kernel), List.mem_of_getElem? (i := 1532) (by decide +kernel)⟩
theorem lw_p115 : lw_okq (⟨"LeavesOfMudModel", "ashAt", "(II)I"⟩, 55) := ⟨⟨by decide +kernel, by decide +kernel⟩, List.mem_of_getElem? (i := 1083) (by decide +kernel), List.mem_of_getElem? (i := 1535) (by decide +kernel), List.mem_of_getElem? (i := 1536) (by decide +kernel)⟩
theorem lw_p116 : lw_okq (⟨"LeavesOfMudModel", "close", "()Z"⟩, 55) := ⟨⟨by decide +kernel, by decide +kernel⟩, List.mem_of_getElem? (i := 1083) (by decide +kernel), List.mem_of_getElem? (i := 1539) (by decide +kernel), List.mem_of_getElem? (i := 1540) (by decide +kernel)⟩
theorem lw_p117 : lw_okq (⟨"LeavesOfMudModel", "floats", "(II)Z"⟩, 55) := ⟨⟨by decide +kernel, by decide +kernel⟩, List.mem_of_getElem? (i := 1083) (by decide +kernel), List.mem_of_getElem? (i := 1549) (by decide +kernel), List.mem_of_getElem? (i := 1550) (by decide +kernel)⟩
theorem lw_p118 : lw_okq (⟨"LeavesOfMudModel", "layCalendars", "()I"⟩, 55) := ⟨⟨by decide +kernel, by decide +kernel⟩, List.mem_of_getElem? (i := 1083) (by decide +kernel), List.mem_of_getElem? (i := 1561) (by decide +kernel), List.mem_of_getElem? (i := 1562) (by decide +kernel)⟩
theorem lw_p119 : lw_okq (⟨"LeavesOfMudModel", "manyOf", "(I)I"⟩, 55) := ⟨⟨by decide +kernel, by decide +kernel⟩, List.mem_of_getElem? (i := 1083) (by decide +kernel), List.mem_of_getElem? (i := 1569) (by decide +kernel), List.mem_of_getElem? (i := 1570) (by decide +kernel)⟩
theorem lw_p120 : lw_okq (⟨"LeavesOfMudModel", "doubtOf", "(I)I"⟩, 55) := ⟨⟨by decide +kernel, by decide +kernel⟩, List.mem_of_getElem? (i := 1083) (by decide +kernel), List.mem_of_getElem? (i := 1573) (by decide +kernel), List.mem_of_getElem? (i := 1574) (by decide +kernel)⟩
theorem lw_p121 : lw_okq (⟨"LeavesOfMudModel", "allWidths", "()I"⟩, 55) := ⟨⟨by decide +kernel, by decide +kernel⟩, List.mem_of_getElem? (i := 1083) (by decide +kernel), List.mem_of_getElem? (i := 1586) (by decide +kernel), List.mem_of_getElem? (i := 1587) (by decide +kernel)⟩
theorem lw_p122 : lw_okq (⟨"LeavesOfMudModel", "tookBy", "(III)I"⟩, 55) := ⟨⟨by decide +kernel, by decide +kernel⟩, List.mem_of_getElem? (i := 1083) (by decide +kernel), List.mem_of_getElem? (i := 1598) (by decide +kernel), List.mem_of_getElem? (i := 1599) (by decide +kernel)⟩
theorem lw_p123 : lw_okq (⟨"LeavesOfMudModel", "ashBeside", "(IIII)I"⟩, 55) := ⟨⟨by decide +kernel, by decide +kernel⟩, List.mem_of_getElem? (i := 1083) (by decide +kernel), List.mem_of_getElem? (i := 1602) (by decide +kernel), List.mem_of_getElem? (i := 1603) (by decide +kernel)⟩
theorem lw_p124 : lw_okq (⟨"LeavesOfMudModel", "countOf", "(I)I"⟩, 55) := ⟨⟨by decide +kernel, by decide +kernel⟩, List.mem_of_getElem? (i := 1083) (by decide +kernel), List.mem_of_getElem? (i := 1618) (by decide +kernel), List.mem_of_getElem? (i := 1619) (by decide +kernel)⟩
theorem lw_p125 : lw_okq (⟨"LeavesOfMudModel", "tellPit", "(I)V"⟩, 55) := ⟨⟨by decide +kernel, by decide +kernel⟩, List.mem_of_getElem? (i := 1083) (by decide +kernel), List.mem_of_getElem? (i := 1627) (by decide +kernel), List.mem_of_getElem? (i := 1628) (by decide +kernel)⟩
theorem lw_p126 : lw_okq (⟨"LeavesOfMudModel", "tell", "(J)V"⟩, 55) := ⟨⟨by decide +kernel, by decide +kernel⟩, List.mem_of_getElem? (i := 1083) (by decide +kernel), List.mem_of_getElem? (i := 1631) (by decide +kernel), List.mem_of_getElem? (i := 1632) (by decide +kernel)⟩
theorem lw_p127 : lw_okq (⟨"LeavesOfMudModel", "tellLaw", "(I)V"⟩, 55) := ⟨⟨by decide +kernel, by decide +kernel⟩, List.mem_of_getElem? (i := 1083) (by decide +kernel), List.mem_of_getElem? (i := 1636) (by decide +kernel), List.mem_of_getElem? (i := 1637) (by decide +kernel)⟩
def lw_privs_8 : List (MethodName × Nat) := [(⟨"LeavesOfMudModel", "keptSet", "()I"⟩, 55), (⟨"LeavesOfMudModel", "layNet", "(I)Z"⟩, 55), (⟨"LeavesOfMudModel", "bound", "(IIII)V"⟩, 55), (⟨"LeavesOfMudModel", "ashAt", "(II)I"⟩, 55), (⟨"LeavesOfMudModel", "close", "()Z"⟩, 55), (⟨"LeavesOfMudModel", "floats", "(II)Z"⟩, 55), (⟨"LeavesOfMudModel", "layCalendars", "()I"⟩, 55), (⟨"LeavesOfMudModel", "manyOf", "(I)I"⟩, 55), (⟨"LeavesOfMudModel", "doubtOf", "(I)I"⟩, 55), (⟨"LeavesOfMudModel", "allWidths", "()I"⟩, 55), (⟨"LeavesOfMudModel", "tookBy", "(III)I"⟩, 55), (⟨"LeavesOfMudModel", "ashBeside", "(IIII)I"⟩, 55), (⟨"LeavesOfMudModel", "countOf", "(I)I"⟩, 55), (⟨"LeavesOfMudModel", "tellPit", "(I)V"⟩, 55), (⟨"LeavesOfMudModel", "tell", "(J)V"⟩, 55), (⟨"LeavesOfMudModel", "tellLaw", "(I)V"⟩, 55)]
theorem lw_r8 : ∀ q ∈ lw_privs_8, lw_okq q := List.forall_mem_cons.mpr ⟨lw_p112, List.forall_mem_cons.mpr ⟨lw_p113, List.forall_mem_cons.mpr ⟨lw_p114, List.forall_mem_cons.mpr ⟨lw_p115, List.forall_mem_cons.mpr ⟨lw_p116, List.forall_mem_cons.mpr ⟨lw_p117, List.forall_mem_cons.mpr ⟨lw_p118, List.forall_mem_cons.mpr ⟨lw_p119, List.forall_mem_cons.mpr ⟨lw_p120, List.forall_mem_cons.mpr ⟨lw_p121, List.forall_mem_cons.mpr ⟨lw_p122, List.forall_mem_cons.mpr ⟨lw_p123, List.forall_mem_cons.mpr ⟨lw_p124, List.forall_mem_cons.mpr ⟨lw_p125, List.forall_mem_cons.mpr ⟨lw_p126, List.forall_mem_cons.mpr ⟨lw_p127, fun _ h => absurd h List.not_mem_nil⟩⟩⟩⟩⟩⟩⟩⟩⟩⟩⟩⟩⟩⟩⟩⟩
theorem lw_p128 : lw_okq (⟨"LeavesOfMudModel", "tellNet", "()V"⟩, 55) := ⟨⟨by decide +kernel, by decide +kernel⟩, List.mem_of_getElem? (i := 1083) (by decide +kernel), List.mem_of_getElem? (i := 1640) (by decide +kernel), List.mem_of_getElem? (i := 1641) (by decide +kernel)⟩
def lw_privs_9 : List (MethodName × Nat) := [(⟨"LeavesOfMudModel", "tellNet", "()V"⟩, 55)]
theorem lw_r9 : ∀ q ∈ lw_privs_9, lw_okq q := List.forall_mem_cons.mpr ⟨lw_p128, fun _ h => absurd h List.not_mem_nil⟩
def lw_privs : List (MethodName × Nat) := lw_privs_1 ++ (lw_privs_2 ++ (lw_privs_3 ++ (lw_privs_4 ++ (lw_privs_5 ++ (lw_privs_6 ++ (lw_privs_7 ++ (lw_privs_8 ++ (lw_privs_9))))))))
def lw_tbl : List Cond := k2_sels lw_privs ++ tables_1
theorem lw_privs_ok : ∀ q ∈ lw_privs, lw_okq q := by
  show ∀ q ∈ lw_privs_1 ++ (lw_privs_2 ++ (lw_privs_3 ++ (lw_privs_4 ++ (lw_privs_5 ++ (lw_privs_6 ++ (lw_privs_7 ++ (lw_privs_8 ++ (lw_privs_9)))))))), lw_okq q
  exact List.forall_mem_append.mpr ⟨lw_r1, List.forall_mem_append.mpr ⟨lw_r2, List.forall_mem_append.mpr ⟨lw_r3, List.forall_mem_append.mpr ⟨lw_r4, List.forall_mem_append.mpr ⟨lw_r5, List.forall_mem_append.mpr ⟨lw_r6, List.forall_mem_append.mpr ⟨lw_r7, List.forall_mem_append.mpr ⟨lw_r8, lw_r9⟩⟩⟩⟩⟩⟩⟩⟩
-- ===== end of PART A; then your names; then what follows =====
end
section
/-! ===== BEGIN printed: names, fields, word lists, decode rows ===== -/
def RX0 : String := "LeavesOfMud$Bonds"
def TX0 : u_T := fun k => match k with
  | 0 => ("LeavesOfMud$Bonds", "joins", "I", false)
  | 1 => ("LeavesOfMud$Bonds", "firsts", "[I", true)
  | 2 => ("LeavesOfMud$Bonds", "seconds", "[I", true)
  | 3 => ("LeavesOfMud$Bonds", "lows", "[I", true)
  | 4 => ("LeavesOfMud$Bonds", "highs", "[I", true)
  | 5 => ("LeavesOfMud$Bonds", "doubts", "[I", true)
  | 6 => ("LeavesOfMud$Bonds", "keptBits", "I", false)
  | 7 => ("LeavesOfMud$Bonds", "tiedBits", "I", false)
  | 8 => ("LeavesOfMud$Bonds", "tieLows", "[I", true)
  | 9 => ("LeavesOfMud$Bonds", "tieHighs", "[I", true)
  | _ => ("LeavesOfMud$Bonds", "ashesCount", "Z", false)
def tyX0 : Nat → FieldType := fun k => match k with
  | 0 => .int
  | 1 => .array .int
  | 2 => .array .int
  | 3 => .array .int
  | 4 => .array .int
  | 5 => .array .int
  | 6 => .int
  | 7 => .int
  | 8 => .array .int
  | 9 => .array .int
  | _ => .boolean
abbrev wsX00 : List Cond := u_ws RX0 TX0 11
theorem nmX0 : ∀ a, a < 11 → ∀ b, b < 11 → a ≠ b → (TX0 a).2.1 ≠ (TX0 b).2.1 := by decide +kernel
theorem tyX0_ok : ∀ k, k < 11 → parseFieldDescriptor (TX0 k).2.2.1 = some (tyX0 k) := by decide +kernel
abbrev cX0_init : ByteArray := prog_2_method_1_code
def yX0_init : MethodName := ⟨RX0, "<init>", "()V"⟩
abbrev cX0_addJoin : ByteArray := prog_2_method_2_code
def yX0_addJoin : MethodName := ⟨RX0, "addJoin", "(IIIII)I"⟩
abbrev cX0_isKept : ByteArray := prog_2_method_3_code
def yX0_isKept : MethodName := ⟨RX0, "isKept", "(I)Z"⟩
abbrev cX0_setKept : ByteArray := prog_2_method_4_code
def yX0_setKept : MethodName := ⟨RX0, "setKept", "(IZ)V"⟩
abbrev cX0_isTied : ByteArray := prog_2_method_5_code
def yX0_isTied : MethodName := ⟨RX0, "isTied", "(I)Z"⟩
abbrev cX0_dropTie : ByteArray := prog_2_method_6_code
def yX0_dropTie : MethodName := ⟨RX0, "dropTie", "(I)V"⟩
abbrev cX0_setTie : ByteArray := prog_2_method_7_code
def yX0_setTie : MethodName := ⟨RX0, "setTie", "(III)V"⟩
abbrev cX0_foldInto : ByteArray := prog_2_method_8_code
def yX0_foldInto : MethodName := ⟨RX0, "foldInto", "(J)J"⟩
abbrev cX0_copyFrom : ByteArray := prog_2_method_9_code
def yX0_copyFrom : MethodName := ⟨RX0, "copyFrom", "(LLeavesOfMud$Bonds;)V"⟩
def RX1 : String := "LeavesOfMud$Hands"
def TX1 : u_T := fun k => match k with
  | 0 => ("LeavesOfMud$Hands", "pits", "LLeavesOfMud$Pits;", true)
  | 1 => ("LeavesOfMud$Hands", "size", "I", false)
  | _ => ("LeavesOfMud$Hands", "told", "[I", true)
def tyX1 : Nat → FieldType := fun k => match k with
  | 0 => .object "LeavesOfMud$Pits"
  | 1 => .int
  | _ => .array .int
abbrev wsX10 : List Cond := u_ws RX1 TX1 3
theorem nmX1 : ∀ a, a < 3 → ∀ b, b < 3 → a ≠ b → (TX1 a).2.1 ≠ (TX1 b).2.1 := by decide +kernel
theorem tyX1_ok : ∀ k, k < 3 → parseFieldDescriptor (TX1 k).2.2.1 = some (tyX1 k) := by decide +kernel
abbrev cX1_init : ByteArray := prog_3_method_1_code
def yX1_init : MethodName := ⟨RX1, "<init>", "(LLeavesOfMud$Pits;)V"⟩
abbrev cX1_has : ByteArray := prog_3_method_2_code
def yX1_has : MethodName := ⟨RX1, "has", "(I)Z"⟩
abbrev cX1_take : ByteArray := prog_3_method_3_code
def yX1_take : MethodName := ⟨RX1, "take", "([I)I"⟩
abbrev cX1_halvesOf : ByteArray := prog_3_method_4_code
def yX1_halvesOf : MethodName := ⟨RX1, "halvesOf", "(III)I"⟩
abbrev cX1_halvesAhead : ByteArray := prog_3_method_5_code
def yX1_halvesAhead : MethodName := ⟨RX1, "halvesAhead", "(III)I"⟩
abbrev cX1_yearsAhead : ByteArray := prog_3_method_6_code
def yX1_yearsAhead : MethodName := ⟨RX1, "yearsAhead", "(III)I"⟩
abbrev cX1_yearsOfAll : ByteArray := prog_3_method_7_code
def yX1_yearsOfAll : MethodName := ⟨RX1, "yearsOfAll", "(II)I"⟩
def RX2 : String := "LeavesOfMud$Laws"
def TX2 : u_T := fun k => match k with
  | 0 => ("LeavesOfMud$Laws", "size", "I", false)
  | _ => ("LeavesOfMud$Laws", "prices", "[I", true)
def tyX2 : Nat → FieldType := fun k => match k with
  | 0 => .int
  | _ => .array .int
abbrev wsX20 : List Cond := u_ws RX2 TX2 2
theorem nmX2 : ∀ a, a < 2 → ∀ b, b < 2 → a ≠ b → (TX2 a).2.1 ≠ (TX2 b).2.1 := by decide +kernel
theorem tyX2_ok : ∀ k, k < 2 → parseFieldDescriptor (TX2 k).2.2.1 = some (tyX2 k) := by decide +kernel
abbrev cX2_init : ByteArray := prog_4_method_1_code
def yX2_init : MethodName := ⟨RX2, "<init>", "()V"⟩
abbrev cX2_has : ByteArray := prog_4_method_2_code
def yX2_has : MethodName := ⟨RX2, "has", "(I)Z"⟩
abbrev cX2_take : ByteArray := prog_4_method_3_code
def yX2_take : MethodName := ⟨RX2, "take", "([I)I"⟩
abbrev cX2_priceOf : ByteArray := prog_4_method_4_code
def yX2_priceOf : MethodName := ⟨RX2, "priceOf", "(II)I"⟩
def RX3 : String := "LeavesOfMud$Net"
def TX3 : u_T := fun k => match k with
  | 0 => ("LeavesOfMud$Net", "pits", "LLeavesOfMud$Pits;", true)
  | 1 => ("LeavesOfMud$Net", "hands", "LLeavesOfMud$Hands;", true)
  | 2 => ("LeavesOfMud$Net", "bonds", "LLeavesOfMud$Bonds;", true)
  | 3 => ("LeavesOfMud$Net", "whole", "[I", true)
  | 4 => ("LeavesOfMud$Net", "fixed", "[I", true)
  | 5 => ("LeavesOfMud$Net", "without", "[I", true)
  | 6 => ("LeavesOfMud$Net", "levels", "[[I", true)
  | 7 => ("LeavesOfMud$Net", "ashYears", "[I", true)
  | 8 => ("LeavesOfMud$Net", "labels", "[I", true)
  | 9 => ("LeavesOfMud$Net", "bestCast", "I", false)
  | 10 => ("LeavesOfMud$Net", "bestSize", "I", false)
  | 11 => ("LeavesOfMud$Net", "bestDoubt", "I", false)
  | 12 => ("LeavesOfMud$Net", "digA", "I", false)
  | 13 => ("LeavesOfMud$Net", "digB", "I", false)
  | _ => ("LeavesOfMud$Net", "digWorst", "I", false)
def tyX3 : Nat → FieldType := fun k => match k with
  | 0 => .object "LeavesOfMud$Pits"
  | 1 => .object "LeavesOfMud$Hands"
  | 2 => .object "LeavesOfMud$Bonds"
  | 3 => .array .int
  | 4 => .array .int
  | 5 => .array .int
  | 6 => .array (.array .int)
  | 7 => .array .int
  | 8 => .array .int
  | 9 => .int
  | 10 => .int
  | 11 => .int
  | 12 => .int
  | 13 => .int
  | _ => .int
abbrev wsX30 : List Cond := u_ws RX3 TX3 15
theorem nmX3 : ∀ a, a < 15 → ∀ b, b < 15 → a ≠ b → (TX3 a).2.1 ≠ (TX3 b).2.1 := by decide +kernel
theorem tyX3_ok : ∀ k, k < 15 → parseFieldDescriptor (TX3 k).2.2.1 = some (tyX3 k) := by decide +kernel
abbrev cX3_init : ByteArray := prog_5_method_1_code
def yX3_init : MethodName := ⟨RX3, "<init>", "(LLeavesOfMud$Pits;LLeavesOfMud$Hands;LLeavesOfMud$Bonds;)V"⟩
abbrev cX3_weaveWhole : ByteArray := prog_5_method_2_code
def yX3_weaveWhole : MethodName := ⟨RX3, "weaveWhole", "()Z"⟩
abbrev cX3_isFloating : ByteArray := prog_5_method_3_code
def yX3_isFloating : MethodName := ⟨RX3, "isFloating", "(II)Z"⟩
abbrev cX3_endOfSpan : ByteArray := prog_5_method_4_code
def yX3_endOfSpan : MethodName := ⟨RX3, "endOfSpan", "(III)I"⟩
abbrev cX3_weaveFixed : ByteArray := prog_5_method_5_code
def yX3_weaveFixed : MethodName := ⟨RX3, "weaveFixed", "()Z"⟩
abbrev cX3_weaveJoins : ByteArray := prog_5_method_6_code
def yX3_weaveJoins : MethodName := ⟨RX3, "weaveJoins", "([II)Z"⟩
abbrev cX3_bindJoin : ByteArray := prog_5_method_7_code
def yX3_bindJoin : MethodName := ⟨RX3, "bindJoin", "([II)Z"⟩
abbrev cX3_findAshes : ByteArray := prog_5_method_8_code
def yX3_findAshes : MethodName := ⟨RX3, "findAshes", "()V"⟩
abbrev cX3_bindAshes : ByteArray := prog_5_method_9_code
def yX3_bindAshes : MethodName := ⟨RX3, "bindAshes", "(I)Z"⟩
abbrev cX3_hasAsh : ByteArray := prog_5_method_10_code
def yX3_hasAsh : MethodName := ⟨RX3, "hasAsh", "(II)Z"⟩
abbrev cX3_firstPitWithAsh : ByteArray := prog_5_method_11_code
def yX3_firstPitWithAsh : MethodName := ⟨RX3, "firstPitWithAsh", "(I)I"⟩
abbrev cX3_bind : ByteArray := prog_5_method_12_code
def yX3_bind : MethodName := ⟨RX3, "bind", "([IIIII)Z"⟩
abbrev cX3_bound : ByteArray := prog_5_method_13_code
def yX3_bound : MethodName := ⟨RX3, "bound", "([IIII)Z"⟩
abbrev cX3_group : ByteArray := prog_5_method_14_code
def yX3_group : MethodName := ⟨RX3, "group", "()V"⟩
abbrev cX3_groupAshes : ByteArray := prog_5_method_15_code
def yX3_groupAshes : MethodName := ⟨RX3, "groupAshes", "(I)V"⟩
abbrev cX3_hangTogether : ByteArray := prog_5_method_16_code
def yX3_hangTogether : MethodName := ⟨RX3, "hangTogether", "(II)V"⟩
abbrev cX3_groups : ByteArray := prog_5_method_17_code
def yX3_groups : MethodName := ⟨RX3, "groups", "()I"⟩
abbrev cX3_groupOfFirst : ByteArray := prog_5_method_18_code
def yX3_groupOfFirst : MethodName := ⟨RX3, "groupOfFirst", "()I"⟩
abbrev cX3_leastCast : ByteArray := prog_5_method_19_code
def yX3_leastCast : MethodName := ⟨RX3, "leastCast", "()I"⟩
abbrev cX3_castFrom : ByteArray := prog_5_method_20_code
def yX3_castFrom : MethodName := ⟨RX3, "castFrom", "(III)V"⟩
abbrev cX3_copyLevel : ByteArray := prog_5_method_21_code
def yX3_copyLevel : MethodName := ⟨RX3, "copyLevel", "(I)V"⟩
abbrev cX3_considerCast : ByteArray := prog_5_method_22_code
def yX3_considerCast : MethodName := ⟨RX3, "considerCast", "(II)V"⟩
abbrev cX3_joinsThatHold : ByteArray := prog_5_method_23_code
def yX3_joinsThatHold : MethodName := ⟨RX3, "joinsThatHold", "(II)I"⟩
abbrev cX3_isWiderWithout : ByteArray := prog_5_method_24_code
def yX3_isWiderWithout : MethodName := ⟨RX3, "isWiderWithout", "(III)Z"⟩
abbrev cX3_findDig : ByteArray := prog_5_method_25_code
def yX3_findDig : MethodName := ⟨RX3, "findDig", "()V"⟩
abbrev cX3_widthOf : ByteArray := prog_5_method_26_code
def yX3_widthOf : MethodName := ⟨RX3, "widthOf", "(II)I"⟩
abbrev cX3_worstOfDig : ByteArray := prog_5_method_27_code
def yX3_worstOfDig : MethodName := ⟨RX3, "worstOfDig", "(II)I"⟩
abbrev cX3_widthsIfApart : ByteArray := prog_5_method_28_code
def yX3_widthsIfApart : MethodName := ⟨RX3, "widthsIfApart", "(III)I"⟩
abbrev cX3_mostIfApart : ByteArray := prog_5_method_29_code
def yX3_mostIfApart : MethodName := ⟨RX3, "mostIfApart", "(IIIII)I"⟩
def RX4 : String := "LeavesOfMud$Page"
def TX4 : u_T := fun k => match k with
  | 0 => ("LeavesOfMud$Page", "size", "I", false)
  | 1 => ("LeavesOfMud$Page", "letters", "[I", true)
  | 2 => ("LeavesOfMud$Page", "whole", "Z", false)
  | _ => ("LeavesOfMud$Page", "told", "[I", true)
def tyX4 : Nat → FieldType := fun k => match k with
  | 0 => .int
  | 1 => .array .int
  | 2 => .boolean
  | _ => .array .int
abbrev wsX40 : List Cond := u_ws RX4 TX4 4
theorem nmX4 : ∀ a, a < 4 → ∀ b, b < 4 → a ≠ b → (TX4 a).2.1 ≠ (TX4 b).2.1 := by decide +kernel
theorem tyX4_ok : ∀ k, k < 4 → parseFieldDescriptor (TX4 k).2.2.1 = some (tyX4 k) := by decide +kernel
abbrev cX4_init : ByteArray := prog_6_method_1_code
def yX4_init : MethodName := ⟨RX4, "<init>", "()V"⟩
abbrev cX4_write : ByteArray := prog_6_method_2_code
def yX4_write : MethodName := ⟨RX4, "write", "(I)V"⟩
abbrev cX4_read : ByteArray := prog_6_method_3_code
def yX4_read : MethodName := ⟨RX4, "read", "(I)I"⟩
abbrev cX4_readItems : ByteArray := prog_6_method_4_code
def yX4_readItems : MethodName := ⟨RX4, "readItems", "(Ljava/lang/String;I)I"⟩
def RX5 : String := "LeavesOfMud$Pairing"
def TX5 : u_T := fun k => match k with
  | 0 => ("LeavesOfMud$Pairing", "pits", "LLeavesOfMud$Pits;", true)
  | 1 => ("LeavesOfMud$Pairing", "laws", "LLeavesOfMud$Laws;", true)
  | 2 => ("LeavesOfMud$Pairing", "firstThickness", "[I", true)
  | 3 => ("LeavesOfMud$Pairing", "secondThickness", "[I", true)
  | 4 => ("LeavesOfMud$Pairing", "firstAshes", "[I", true)
  | 5 => ("LeavesOfMud$Pairing", "secondAshes", "[I", true)
  | 6 => ("LeavesOfMud$Pairing", "firstSize", "I", false)
  | 7 => ("LeavesOfMud$Pairing", "secondSize", "I", false)
  | 8 => ("LeavesOfMud$Pairing", "lost", "I", false)
  | 9 => ("LeavesOfMud$Pairing", "doubled", "I", false)
  | 10 => ("LeavesOfMud$Pairing", "unlike", "I", false)
  | 11 => ("LeavesOfMud$Pairing", "ashesPrice", "I", false)
  | 12 => ("LeavesOfMud$Pairing", "barredFirst", "I", false)
  | 13 => ("LeavesOfMud$Pairing", "barredSecond", "I", false)
  | 14 => ("LeavesOfMud$Pairing", "least", "[I", true)
  | 15 => ("LeavesOfMud$Pairing", "ways", "[I", true)
  | 16 => ("LeavesOfMud$Pairing", "way", "[I", true)
  | 17 => ("LeavesOfMud$Pairing", "wayLength", "I", false)
  | 18 => ("LeavesOfMud$Pairing", "liesOn", "[I", true)
  | _ => ("LeavesOfMud$Pairing", "liesBy", "[I", true)
def tyX5 : Nat → FieldType := fun k => match k with
  | 0 => .object "LeavesOfMud$Pits"
  | 1 => .object "LeavesOfMud$Laws"
  | 2 => .array .int
  | 3 => .array .int
  | 4 => .array .int
  | 5 => .array .int
  | 6 => .int
  | 7 => .int
  | 8 => .int
  | 9 => .int
  | 10 => .int
  | 11 => .int
  | 12 => .int
  | 13 => .int
  | 14 => .array .int
  | 15 => .array .int
  | 16 => .array .int
  | 17 => .int
  | 18 => .array .int
  | _ => .array .int
abbrev wsX50 : List Cond := u_ws RX5 TX5 20
theorem nmX5 : ∀ a, a < 20 → ∀ b, b < 20 → a ≠ b → (TX5 a).2.1 ≠ (TX5 b).2.1 := by decide +kernel
theorem tyX5_ok : ∀ k, k < 20 → parseFieldDescriptor (TX5 k).2.2.1 = some (tyX5 k) := by decide +kernel
abbrev cX5_init : ByteArray := prog_7_method_1_code
def yX5_init : MethodName := ⟨RX5, "<init>", "(LLeavesOfMud$Pits;LLeavesOfMud$Laws;)V"⟩
abbrev cX5_setTogether : ByteArray := prog_7_method_2_code
def yX5_setTogether : MethodName := ⟨RX5, "setTogether", "(III)V"⟩
abbrev cX5_readRow : ByteArray := prog_7_method_3_code
def yX5_readRow : MethodName := ⟨RX5, "readRow", "(I[I[I)V"⟩
abbrev cX5_leastOfAll : ByteArray := prog_7_method_4_code
def yX5_leastOfAll : MethodName := ⟨RX5, "leastOfAll", "()I"⟩
abbrev cX5_waysOfAll : ByteArray := prog_7_method_5_code
def yX5_waysOfAll : MethodName := ⟨RX5, "waysOfAll", "()I"⟩
abbrev cX5_leastWithout : ByteArray := prog_7_method_6_code
def yX5_leastWithout : MethodName := ⟨RX5, "leastWithout", "(II)I"⟩
abbrev cX5_stepOfTheWay : ByteArray := prog_7_method_7_code
def yX5_stepOfTheWay : MethodName := ⟨RX5, "stepOfTheWay", "(I)I"⟩
abbrev cX5_fillAll : ByteArray := prog_7_method_8_code
def yX5_fillAll : MethodName := ⟨RX5, "fillAll", "()V"⟩
abbrev cX5_fillPlace : ByteArray := prog_7_method_9_code
def yX5_fillPlace : MethodName := ⟨RX5, "fillPlace", "(II)V"⟩
abbrev cX5_canStep : ByteArray := prog_7_method_10_code
def yX5_canStep : MethodName := ⟨RX5, "canStep", "(III)Z"⟩
abbrev cX5_placeAfter : ByteArray := prog_7_method_11_code
def yX5_placeAfter : MethodName := ⟨RX5, "placeAfter", "(III)I"⟩
abbrev cX5_priceOf : ByteArray := prog_7_method_12_code
def yX5_priceOf : MethodName := ⟨RX5, "priceOf", "(III)I"⟩
abbrev cX5_priceOfOneOnOne : ByteArray := prog_7_method_13_code
def yX5_priceOfOneOnOne : MethodName := ⟨RX5, "priceOfOneOnOne", "(II)I"⟩
abbrev cX5_priceOfDoubled : ByteArray := prog_7_method_14_code
def yX5_priceOfDoubled : MethodName := ⟨RX5, "priceOfDoubled", "(II)I"⟩
abbrev cX5_ashesFrom : ByteArray := prog_7_method_15_code
def yX5_ashesFrom : MethodName := ⟨RX5, "ashesFrom", "([II)I"⟩
abbrev cX5_goTheWay : ByteArray := prog_7_method_16_code
def yX5_goTheWay : MethodName := ⟨RX5, "goTheWay", "()V"⟩
abbrev cX5_leastStepFrom : ByteArray := prog_7_method_17_code
def yX5_leastStepFrom : MethodName := ⟨RX5, "leastStepFrom", "(II)I"⟩
def RX6 : String := "LeavesOfMud$Pits"
def TX6 : u_T := fun k => match k with
  | 0 => ("LeavesOfMud$Pits", "size", "I", false)
  | 1 => ("LeavesOfMud$Pits", "miles", "[I", true)
  | 2 => ("LeavesOfMud$Pits", "sizes", "[I", true)
  | 3 => ("LeavesOfMud$Pits", "kinds", "[I", true)
  | 4 => ("LeavesOfMud$Pits", "thicknesses", "[I", true)
  | _ => ("LeavesOfMud$Pits", "numbers", "[I", true)
def tyX6 : Nat → FieldType := fun k => match k with
  | 0 => .int
  | 1 => .array .int
  | 2 => .array .int
  | 3 => .array .int
  | 4 => .array .int
  | _ => .array .int
abbrev wsX60 : List Cond := u_ws RX6 TX6 6
theorem nmX6 : ∀ a, a < 6 → ∀ b, b < 6 → a ≠ b → (TX6 a).2.1 ≠ (TX6 b).2.1 := by decide +kernel
theorem tyX6_ok : ∀ k, k < 6 → parseFieldDescriptor (TX6 k).2.2.1 = some (tyX6 k) := by decide +kernel
abbrev cX6_init : ByteArray := prog_8_method_1_code
def yX6_init : MethodName := ⟨RX6, "<init>", "()V"⟩
abbrev cX6_has : ByteArray := prog_8_method_2_code
def yX6_has : MethodName := ⟨RX6, "has", "(I)Z"⟩
abbrev cX6_hasLeaf : ByteArray := prog_8_method_3_code
def yX6_hasLeaf : MethodName := ⟨RX6, "hasLeaf", "(II)Z"⟩
abbrev cX6_open : ByteArray := prog_8_method_4_code
def yX6_open : MethodName := ⟨RX6, "open", "(I)I"⟩
abbrev cX6_push : ByteArray := prog_8_method_5_code
def yX6_push : MethodName := ⟨RX6, "push", "(IIII)V"⟩
abbrev cX6_put : ByteArray := prog_8_method_6_code
def yX6_put : MethodName := ⟨RX6, "put", "(IIIII)V"⟩
abbrev cX6_kindOf : ByteArray := prog_8_method_7_code
def yX6_kindOf : MethodName := ⟨RX6, "kindOf", "(II)I"⟩
abbrev cX6_thicknessOf : ByteArray := prog_8_method_8_code
def yX6_thicknessOf : MethodName := ⟨RX6, "thicknessOf", "(II)I"⟩
abbrev cX6_nOf : ByteArray := prog_8_method_9_code
def yX6_nOf : MethodName := ⟨RX6, "nOf", "(II)I"⟩
abbrev cX6_isAsh : ByteArray := prog_8_method_10_code
def yX6_isAsh : MethodName := ⟨RX6, "isAsh", "(II)Z"⟩
abbrev cX6_stepBetween : ByteArray := prog_8_method_11_code
def yX6_stepBetween : MethodName := ⟨RX6, "stepBetween", "(III)I"⟩
abbrev cX6_firstAsh : ByteArray := prog_8_method_12_code
def yX6_firstAsh : MethodName := ⟨RX6, "firstAsh", "(II)I"⟩
abbrev cX6_sharedAshAhead : ByteArray := prog_8_method_13_code
def yX6_sharedAshAhead : MethodName := ⟨RX6, "sharedAshAhead", "(III)I"⟩
abbrev cX6_sharedAshBehind : ByteArray := prog_8_method_14_code
def yX6_sharedAshBehind : MethodName := ⟨RX6, "sharedAshBehind", "(III)I"⟩
abbrev cX6_isSharedAsh : ByteArray := prog_8_method_15_code
def yX6_isSharedAsh : MethodName := ⟨RX6, "isSharedAsh", "(III)Z"⟩
abbrev cX6_hasFloodBetween : ByteArray := prog_8_method_16_code
def yX6_hasFloodBetween : MethodName := ⟨RX6, "hasFloodBetween", "(III)Z"⟩
abbrev cX6_leavesOfAll : ByteArray := prog_8_method_17_code
def yX6_leavesOfAll : MethodName := ⟨RX6, "leavesOfAll", "()I"⟩
abbrev cX6_copyFrom : ByteArray := prog_8_method_18_code
def yX6_copyFrom : MethodName := ⟨RX6, "copyFrom", "(LLeavesOfMud$Pits;)V"⟩
def RX7 : String := "LeavesOfMud$Slides"
def TX7 : u_T := fun k => match k with
  | _ => ("LeavesOfMud$Slides", "pits", "LLeavesOfMud$Pits;", true)
def tyX7 : Nat → FieldType := fun k => match k with
  | _ => .object "LeavesOfMud$Pits"
abbrev wsX70 : List Cond := u_ws RX7 TX7 1
theorem nmX7 : ∀ a, a < 1 → ∀ b, b < 1 → a ≠ b → (TX7 a).2.1 ≠ (TX7 b).2.1 := by decide +kernel
theorem tyX7_ok : ∀ k, k < 1 → parseFieldDescriptor (TX7 k).2.2.1 = some (tyX7 k) := by decide +kernel
abbrev cX7_init : ByteArray := prog_9_method_1_code
def yX7_init : MethodName := ⟨RX7, "<init>", "(LLeavesOfMud$Pits;)V"⟩
abbrev cX7_overOf : ByteArray := prog_9_method_2_code
def yX7_overOf : MethodName := ⟨RX7, "overOf", "(III)I"⟩
abbrev cX7_likeOf : ByteArray := prog_9_method_3_code
def yX7_likeOf : MethodName := ⟨RX7, "likeOf", "(IIII)I"⟩
abbrev cX7_turnedPlace : ByteArray := prog_9_method_4_code
def yX7_turnedPlace : MethodName := ⟨RX7, "turnedPlace", "(III)I"⟩
abbrev cX7_best : ByteArray := prog_9_method_5_code
def yX7_best : MethodName := ⟨RX7, "best", "(III)I"⟩
abbrev cX7_turnsAsLike : ByteArray := prog_9_method_6_code
def yX7_turnsAsLike : MethodName := ⟨RX7, "turnsAsLike", "(III)I"⟩
def RX8 : String := "LeavesOfMud"
def TX8 : u_T := fun k => match k with
  | 0 => ("LeavesOfMud", "pits", "LLeavesOfMud$Pits;", true)
  | 1 => ("LeavesOfMud", "bonds", "LLeavesOfMud$Bonds;", true)
  | 2 => ("LeavesOfMud", "imagePits", "LLeavesOfMud$Pits;", true)
  | 3 => ("LeavesOfMud", "imageBonds", "LLeavesOfMud$Bonds;", true)
  | 4 => ("LeavesOfMud", "imageKept", "Z", false)
  | 5 => ("LeavesOfMud", "page", "LLeavesOfMud$Page;", true)
  | 6 => ("LeavesOfMud", "hands", "LLeavesOfMud$Hands;", true)
  | 7 => ("LeavesOfMud", "laws", "LLeavesOfMud$Laws;", true)
  | 8 => ("LeavesOfMud", "slides", "LLeavesOfMud$Slides;", true)
  | 9 => ("LeavesOfMud", "pairing", "LLeavesOfMud$Pairing;", true)
  | 10 => ("LeavesOfMud", "net", "LLeavesOfMud$Net;", true)
  | 11 => ("LeavesOfMud", "sureDone", "I", false)
  | _ => ("LeavesOfMud", "digDone", "I", false)
def tyX8 : Nat → FieldType := fun k => match k with
  | 0 => .object "LeavesOfMud$Pits"
  | 1 => .object "LeavesOfMud$Bonds"
  | 2 => .object "LeavesOfMud$Pits"
  | 3 => .object "LeavesOfMud$Bonds"
  | 4 => .boolean
  | 5 => .object "LeavesOfMud$Page"
  | 6 => .object "LeavesOfMud$Hands"
  | 7 => .object "LeavesOfMud$Laws"
  | 8 => .object "LeavesOfMud$Slides"
  | 9 => .object "LeavesOfMud$Pairing"
  | 10 => .object "LeavesOfMud$Net"
  | 11 => .int
  | _ => .int
abbrev wsX80 : List Cond := u_ws RX8 TX8 13
theorem nmX8 : ∀ a, a < 13 → ∀ b, b < 13 → a ≠ b → (TX8 a).2.1 ≠ (TX8 b).2.1 := by decide +kernel
theorem tyX8_ok : ∀ k, k < 13 → parseFieldDescriptor (TX8 k).2.2.1 = some (tyX8 k) := by decide +kernel
abbrev cX8_init : ByteArray := prog_1_method_1_code
def yX8_init : MethodName := ⟨RX8, "<init>", "()V"⟩
abbrev cX8_pit : ByteArray := prog_1_method_2_code
def yX8_pit : MethodName := ⟨RX8, "pit", "(I)I"⟩
abbrev cX8_leaf : ByteArray := prog_1_method_3_code
def yX8_leaf : MethodName := ⟨RX8, "leaf", "(IIII)I"⟩
abbrev cX8_as : ByteArray := prog_1_method_4_code
def yX8_as : MethodName := ⟨RX8, "as", "(III)I"⟩
abbrev cX8_about : ByteArray := prog_1_method_5_code
def yX8_about : MethodName := ⟨RX8, "about", "(III)I"⟩
abbrev cX8_change : ByteArray := prog_1_method_6_code
def yX8_change : MethodName := ⟨RX8, "change", "(IIIII)I"⟩
abbrev cX8_lay : ByteArray := prog_1_method_7_code
def yX8_lay : MethodName := ⟨RX8, "lay", "(IIIII)I"⟩
abbrev cX8_letters : ByteArray := prog_1_method_8_code
def yX8_letters : MethodName := ⟨RX8, "letters", "(J)I"⟩
abbrev cX8_blank : ByteArray := prog_1_method_9_code
def yX8_blank : MethodName := ⟨RX8, "blank", "()I"⟩
abbrev cX8_fault : ByteArray := prog_1_method_10_code
def yX8_fault : MethodName := ⟨RX8, "fault", "(I)I"⟩
abbrev cX8_hand : ByteArray := prog_1_method_11_code
def yX8_hand : MethodName := ⟨RX8, "hand", "()I"⟩
abbrev cX8_law : ByteArray := prog_1_method_12_code
def yX8_law : MethodName := ⟨RX8, "law", "()I"⟩
abbrev cX8_at : ByteArray := prog_1_method_13_code
def yX8_at : MethodName := ⟨RX8, "at", "(III)I"⟩
abbrev cX8_years : ByteArray := prog_1_method_14_code
def yX8_years : MethodName := ⟨RX8, "years", "(II)I"⟩
abbrev cX8_lean : ByteArray := prog_1_method_15_code
def yX8_lean : MethodName := ⟨RX8, "lean", "(II)I"⟩
abbrev cX8_like : ByteArray := prog_1_method_16_code
def yX8_like : MethodName := ⟨RX8, "like", "(III)I"⟩
abbrev cX8_over : ByteArray := prog_1_method_17_code
def yX8_over : MethodName := ⟨RX8, "over", "(III)I"⟩
abbrev cX8_slide : ByteArray := prog_1_method_18_code
def yX8_slide : MethodName := ⟨RX8, "slide", "(III)I"⟩
abbrev cX8_chance : ByteArray := prog_1_method_19_code
def yX8_chance : MethodName := ⟨RX8, "chance", "(IIII)I"⟩
abbrev cX8_together : ByteArray := prog_1_method_20_code
def yX8_together : MethodName := ⟨RX8, "together", "(IIII)I"⟩
abbrev cX8_lies : ByteArray := prog_1_method_21_code
def yX8_lies : MethodName := ⟨RX8, "lies", "(IIII)I"⟩
abbrev cX8_sure : ByteArray := prog_1_method_22_code
def yX8_sure : MethodName := ⟨RX8, "sure", "(IIII)I"⟩
abbrev cX8_join : ByteArray := prog_1_method_23_code
def yX8_join : MethodName := ⟨RX8, "join", "(IIIII)I"⟩
abbrev cX8_keep : ByteArray := prog_1_method_24_code
def yX8_keep : MethodName := ⟨RX8, "keep", "(IZ)I"⟩
abbrev cX8_tie : ByteArray := prog_1_method_25_code
def yX8_tie : MethodName := ⟨RX8, "tie", "(III)I"⟩
abbrev cX8_untie : ByteArray := prog_1_method_26_code
def yX8_untie : MethodName := ⟨RX8, "untie", "(I)I"⟩
abbrev cX8_ashes : ByteArray := prog_1_method_27_code
def yX8_ashes : MethodName := ⟨RX8, "ashes", "(Z)I"⟩
abbrev cX8_closes : ByteArray := prog_1_method_28_code
def yX8_closes : MethodName := ⟨RX8, "closes", "()I"⟩
abbrev cX8_span : ByteArray := prog_1_method_29_code
def yX8_span : MethodName := ⟨RX8, "span", "(III)I"⟩
abbrev cX8_date : ByteArray := prog_1_method_30_code
def yX8_date : MethodName := ⟨RX8, "date", "(III)I"⟩
abbrev cX8_calendars : ByteArray := prog_1_method_31_code
def yX8_calendars : MethodName := ⟨RX8, "calendars", "(I)I"⟩
abbrev cX8_castOut : ByteArray := prog_1_method_32_code
def yX8_castOut : MethodName := ⟨RX8, "castOut", "()I"⟩
abbrev cX8_hangs : ByteArray := prog_1_method_33_code
def yX8_hangs : MethodName := ⟨RX8, "hangs", "(II)I"⟩
abbrev cX8_dig : ByteArray := prog_1_method_34_code
def yX8_dig : MethodName := ⟨RX8, "dig", "(I)I"⟩
abbrev cX8_pace : ByteArray := prog_1_method_35_code
def yX8_pace : MethodName := ⟨RX8, "pace", "(IIII)I"⟩
abbrev cX8_took : ByteArray := prog_1_method_36_code
def yX8_took : MethodName := ⟨RX8, "took", "(III)I"⟩
abbrev cX8_image : ByteArray := prog_1_method_37_code
def yX8_image : MethodName := ⟨RX8, "image", "()I"⟩
abbrev cX8_restore : ByteArray := prog_1_method_38_code
def yX8_restore : MethodName := ⟨RX8, "restore", "()I"⟩
abbrev cX8_count : ByteArray := prog_1_method_39_code
def yX8_count : MethodName := ⟨RX8, "count", "(I)I"⟩
abbrev cX8_digest : ByteArray := prog_1_method_40_code
def yX8_digest : MethodName := ⟨RX8, "digest", "()J"⟩
abbrev cX8_isWithin : ByteArray := prog_1_method_41_code
def yX8_isWithin : MethodName := ⟨RX8, "isWithin", "(III)Z"⟩
abbrev cX8_isRange : ByteArray := prog_1_method_42_code
def yX8_isRange : MethodName := ⟨RX8, "isRange", "(III)Z"⟩
abbrev cX8_isSlide : ByteArray := prog_1_method_43_code
def yX8_isSlide : MethodName := ⟨RX8, "isSlide", "(I)Z"⟩
abbrev cX8_isLeafAsTold : ByteArray := prog_1_method_44_code
def yX8_isLeafAsTold : MethodName := ⟨RX8, "isLeafAsTold", "(III)Z"⟩
abbrev cX8_isOfKind : ByteArray := prog_1_method_45_code
def yX8_isOfKind : MethodName := ⟨RX8, "isOfKind", "(II)Z"⟩
abbrev cX8_asNumber : ByteArray := prog_1_method_46_code
def yX8_asNumber : MethodName := ⟨RX8, "asNumber", "(Z)I"⟩
abbrev cX8_fold : ByteArray := prog_1_method_47_code
def yX8_fold : MethodName := ⟨RX8, "fold", "(JJ)J"⟩
abbrev cX8_seedAfter : ByteArray := prog_1_method_48_code
def yX8_seedAfter : MethodName := ⟨RX8, "seedAfter", "(J)J"⟩
abbrev cX8_drawn : ByteArray := prog_1_method_49_code
def yX8_drawn : MethodName := ⟨RX8, "drawn", "(JI)I"⟩
abbrev cX8_byteOf : ByteArray := prog_1_method_50_code
def yX8_byteOf : MethodName := ⟨RX8, "byteOf", "(JI)I"⟩
abbrev cX8_lettersIn : ByteArray := prog_1_method_51_code
def yX8_lettersIn : MethodName := ⟨RX8, "lettersIn", "(J)I"⟩
abbrev cX8_partInLowestTerms : ByteArray := prog_1_method_52_code
def yX8_partInLowestTerms : MethodName := ⟨RX8, "partInLowestTerms", "(III)I"⟩
abbrev cX8_aboutPit : ByteArray := prog_1_method_53_code
def yX8_aboutPit : MethodName := ⟨RX8, "aboutPit", "(II)I"⟩
abbrev cX8_aboutLeaf : ByteArray := prog_1_method_54_code
def yX8_aboutLeaf : MethodName := ⟨RX8, "aboutLeaf", "(III)I"⟩
abbrev cX8_spanTold : ByteArray := prog_1_method_55_code
def yX8_spanTold : MethodName := ⟨RX8, "spanTold", "(III)I"⟩
abbrev cX8_tookBy : ByteArray := prog_1_method_56_code
def yX8_tookBy : MethodName := ⟨RX8, "tookBy", "(III)I"⟩
abbrev cX8_foldPit : ByteArray := prog_1_method_57_code
def yX8_foldPit : MethodName := ⟨RX8, "foldPit", "(JI)J"⟩
abbrev cX8_foldLaw : ByteArray := prog_1_method_58_code
def yX8_foldLaw : MethodName := ⟨RX8, "foldLaw", "(JI)J"⟩
abbrev cX8_foldNet : ByteArray := prog_1_method_59_code
def yX8_foldNet : MethodName := ⟨RX8, "foldNet", "(J)J"⟩
def RX9 : String := "LeavesOfMudModel"
def TX9 : u_T := fun k => match k with
  | 0 => ("LeavesOfMudModel", "pits", "I", false)
  | 1 => ("LeavesOfMudModel", "miles", "[I", true)
  | 2 => ("LeavesOfMudModel", "leafMany", "[I", true)
  | 3 => ("LeavesOfMudModel", "kinds", "[I", true)
  | 4 => ("LeavesOfMudModel", "thick", "[I", true)
  | 5 => ("LeavesOfMudModel", "numbers", "[I", true)
  | 6 => ("LeavesOfMudModel", "seedNow", "I", false)
  | 7 => ("LeavesOfMudModel", "page", "[I", true)
  | 8 => ("LeavesOfMudModel", "pageMany", "I", false)
  | 9 => ("LeavesOfMudModel", "hands", "I", false)
  | 10 => ("LeavesOfMudModel", "handRows", "[I", true)
  | 11 => ("LeavesOfMudModel", "laws", "I", false)
  | 12 => ("LeavesOfMudModel", "lawRows", "[I", true)
  | 13 => ("LeavesOfMudModel", "readRow", "[I", true)
  | 14 => ("LeavesOfMudModel", "state", "I", false)
  | 15 => ("LeavesOfMudModel", "letter", "I", false)
  | 16 => ("LeavesOfMudModel", "items", "I", false)
  | 17 => ("LeavesOfMudModel", "least", "[I", true)
  | 18 => ("LeavesOfMudModel", "ways", "[I", true)
  | 19 => ("LeavesOfMudModel", "one", "I", false)
  | 20 => ("LeavesOfMudModel", "two", "I", false)
  | 21 => ("LeavesOfMudModel", "lost", "I", false)
  | 22 => ("LeavesOfMudModel", "doubled", "I", false)
  | 23 => ("LeavesOfMudModel", "unlike", "I", false)
  | 24 => ("LeavesOfMudModel", "ashen", "I", false)
  | 25 => ("LeavesOfMudModel", "barI", "I", false)
  | 26 => ("LeavesOfMudModel", "barJ", "I", false)
  | 27 => ("LeavesOfMudModel", "way", "[I", true)
  | 28 => ("LeavesOfMudModel", "wayMany", "I", false)
  | 29 => ("LeavesOfMudModel", "lying", "[I", true)
  | 30 => ("LeavesOfMudModel", "isPlain", "[Z", true)
  | 31 => ("LeavesOfMudModel", "sureDone", "I", false)
  | 32 => ("LeavesOfMudModel", "joins", "I", false)
  | 33 => ("LeavesOfMudModel", "joinA", "[I", true)
  | 34 => ("LeavesOfMudModel", "joinB", "[I", true)
  | 35 => ("LeavesOfMudModel", "lows", "[I", true)
  | 36 => ("LeavesOfMudModel", "highs", "[I", true)
  | 37 => ("LeavesOfMudModel", "doubts", "[I", true)
  | 38 => ("LeavesOfMudModel", "isKept", "[Z", true)
  | 39 => ("LeavesOfMudModel", "tied", "[Z", true)
  | 40 => ("LeavesOfMudModel", "tieLow", "[I", true)
  | 41 => ("LeavesOfMudModel", "tieHigh", "[I", true)
  | 42 => ("LeavesOfMudModel", "looks", "Z", false)
  | 43 => ("LeavesOfMudModel", "far", "[I", true)
  | 44 => ("LeavesOfMudModel", "belongs", "[I", true)
  | 45 => ("LeavesOfMudModel", "digsDone", "I", false)
  | 46 => ("LeavesOfMudModel", "keptPits", "I", false)
  | 47 => ("LeavesOfMudModel", "keptJoins", "I", false)
  | 48 => ("LeavesOfMudModel", "keptLooks", "Z", false)
  | 49 => ("LeavesOfMudModel", "keptMiles", "[I", true)
  | 50 => ("LeavesOfMudModel", "keptMany", "[I", true)
  | 51 => ("LeavesOfMudModel", "keptLeaves", "[I", true)
  | 52 => ("LeavesOfMudModel", "keptNet", "[I", true)
  | 53 => ("LeavesOfMudModel", "keptTies", "[I", true)
  | _ => ("LeavesOfMudModel", "hash", "J", false)
def tyX9 : Nat → FieldType := fun k => match k with
  | 0 => .int
  | 1 => .array .int
  | 2 => .array .int
  | 3 => .array .int
  | 4 => .array .int
  | 5 => .array .int
  | 6 => .int
  | 7 => .array .int
  | 8 => .int
  | 9 => .int
  | 10 => .array .int
  | 11 => .int
  | 12 => .array .int
  | 13 => .array .int
  | 14 => .int
  | 15 => .int
  | 16 => .int
  | 17 => .array .int
  | 18 => .array .int
  | 19 => .int
  | 20 => .int
  | 21 => .int
  | 22 => .int
  | 23 => .int
  | 24 => .int
  | 25 => .int
  | 26 => .int
  | 27 => .array .int
  | 28 => .int
  | 29 => .array .int
  | 30 => .array .boolean
  | 31 => .int
  | 32 => .int
  | 33 => .array .int
  | 34 => .array .int
  | 35 => .array .int
  | 36 => .array .int
  | 37 => .array .int
  | 38 => .array .boolean
  | 39 => .array .boolean
  | 40 => .array .int
  | 41 => .array .int
  | 42 => .boolean
  | 43 => .array .int
  | 44 => .array .int
  | 45 => .int
  | 46 => .int
  | 47 => .int
  | 48 => .boolean
  | 49 => .array .int
  | 50 => .array .int
  | 51 => .array .int
  | 52 => .array .int
  | 53 => .array .int
  | _ => .long
abbrev wsX90 : List Cond := u_ws RX9 TX9 55
theorem nmX9 : ∀ a, a < 55 → ∀ b, b < 55 → a ≠ b → (TX9 a).2.1 ≠ (TX9 b).2.1 := by decide +kernel
theorem tyX9_ok : ∀ k, k < 55 → parseFieldDescriptor (TX9 k).2.2.1 = some (tyX9 k) := by decide +kernel
abbrev cX9_init : ByteArray := prog_11_method_1_code
def yX9_init : MethodName := ⟨RX9, "<init>", "()V"⟩
abbrev cX9_in : ByteArray := prog_11_method_2_code
def yX9_in : MethodName := ⟨RX9, "in", "(JJJ)Z"⟩
abbrev cX9_size : ByteArray := prog_11_method_3_code
def yX9_size : MethodName := ⟨RX9, "size", "(I)I"⟩
abbrev cX9_isPit : ByteArray := prog_11_method_4_code
def yX9_isPit : MethodName := ⟨RX9, "isPit", "(I)Z"⟩
abbrev cX9_isLeaf : ByteArray := prog_11_method_5_code
def yX9_isLeaf : MethodName := ⟨RX9, "isLeaf", "(II)Z"⟩
abbrev cX9_pit : ByteArray := prog_11_method_6_code
def yX9_pit : MethodName := ⟨RX9, "pit", "(I)I"⟩
abbrev cX9_isLeafTold : ByteArray := prog_11_method_7_code
def yX9_isLeafTold : MethodName := ⟨RX9, "isLeafTold", "(III)Z"⟩
abbrev cX9_put : ByteArray := prog_11_method_8_code
def yX9_put : MethodName := ⟨RX9, "put", "(IIIII)V"⟩
abbrev cX9_leaf : ByteArray := prog_11_method_9_code
def yX9_leaf : MethodName := ⟨RX9, "leaf", "(IIII)I"⟩
abbrev cX9_as : ByteArray := prog_11_method_10_code
def yX9_as : MethodName := ⟨RX9, "as", "(III)I"⟩
abbrev cX9_compare : ByteArray := prog_11_method_11_code
def yX9_compare : MethodName := ⟨RX9, "compare", "(II)I"⟩
abbrev cX9_stepOf : ByteArray := prog_11_method_12_code
def yX9_stepOf : MethodName := ⟨RX9, "stepOf", "(II)I"⟩
abbrev cX9_about : ByteArray := prog_11_method_13_code
def yX9_about : MethodName := ⟨RX9, "about", "(III)I"⟩
abbrev cX9_change : ByteArray := prog_11_method_14_code
def yX9_change : MethodName := ⟨RX9, "change", "(IIIII)I"⟩
abbrev cX9_draw : ByteArray := prog_11_method_15_code
def yX9_draw : MethodName := ⟨RX9, "draw", "(I)I"⟩
abbrev cX9_layOne : ByteArray := prog_11_method_16_code
def yX9_layOne : MethodName := ⟨RX9, "layOne", "(III)V"⟩
abbrev cX9_lay : ByteArray := prog_11_method_17_code
def yX9_lay : MethodName := ⟨RX9, "lay", "(IIIII)I"⟩
abbrev cX9_letters : ByteArray := prog_11_method_18_code
def yX9_letters : MethodName := ⟨RX9, "letters", "(J)I"⟩
abbrev cX9_blank : ByteArray := prog_11_method_19_code
def yX9_blank : MethodName := ⟨RX9, "blank", "()I"⟩
abbrev cX9_handLetter : ByteArray := prog_11_method_20_code
def yX9_handLetter : MethodName := ⟨RX9, "handLetter", "(I)I"⟩
abbrev cX9_lawLetter : ByteArray := prog_11_method_21_code
def yX9_lawLetter : MethodName := ⟨RX9, "lawLetter", "(I)I"⟩
abbrev cX9_go : ByteArray := prog_11_method_22_code
def yX9_go : MethodName := ⟨RX9, "go", "(II)Z"⟩
abbrev cX9_faultOf : ByteArray := prog_11_method_23_code
def yX9_faultOf : MethodName := ⟨RX9, "faultOf", "(I)I"⟩
abbrev cX9_fault : ByteArray := prog_11_method_24_code
def yX9_fault : MethodName := ⟨RX9, "fault", "(I)I"⟩
abbrev cX9_hand : ByteArray := prog_11_method_25_code
def yX9_hand : MethodName := ⟨RX9, "hand", "()I"⟩
abbrev cX9_law : ByteArray := prog_11_method_26_code
def yX9_law : MethodName := ⟨RX9, "law", "()I"⟩
abbrev cX9_isHand : ByteArray := prog_11_method_27_code
def yX9_isHand : MethodName := ⟨RX9, "isHand", "(I)Z"⟩
abbrev cX9_halvesOf : ByteArray := prog_11_method_28_code
def yX9_halvesOf : MethodName := ⟨RX9, "halvesOf", "(III)I"⟩
abbrev cX9_halvesAhead : ByteArray := prog_11_method_29_code
def yX9_halvesAhead : MethodName := ⟨RX9, "halvesAhead", "(III)I"⟩
abbrev cX9_atOf : ByteArray := prog_11_method_30_code
def yX9_atOf : MethodName := ⟨RX9, "atOf", "(III)I"⟩
abbrev cX9_yearsOf : ByteArray := prog_11_method_31_code
def yX9_yearsOf : MethodName := ⟨RX9, "yearsOf", "(II)I"⟩
abbrev cX9_at : ByteArray := prog_11_method_32_code
def yX9_at : MethodName := ⟨RX9, "at", "(III)I"⟩
abbrev cX9_years : ByteArray := prog_11_method_33_code
def yX9_years : MethodName := ⟨RX9, "years", "(II)I"⟩
abbrev cX9_lean : ByteArray := prog_11_method_34_code
def yX9_lean : MethodName := ⟨RX9, "lean", "(II)I"⟩
abbrev cX9_isSlide : ByteArray := prog_11_method_35_code
def yX9_isSlide : MethodName := ⟨RX9, "isSlide", "(I)Z"⟩
abbrev cX9_overOf : ByteArray := prog_11_method_36_code
def yX9_overOf : MethodName := ⟨RX9, "overOf", "(III)I"⟩
abbrev cX9_turned : ByteArray := prog_11_method_37_code
def yX9_turned : MethodName := ⟨RX9, "turned", "(III)I"⟩
abbrev cX9_likeOf : ByteArray := prog_11_method_38_code
def yX9_likeOf : MethodName := ⟨RX9, "likeOf", "(IIII)I"⟩
abbrev cX9_like : ByteArray := prog_11_method_39_code
def yX9_like : MethodName := ⟨RX9, "like", "(III)I"⟩
abbrev cX9_over : ByteArray := prog_11_method_40_code
def yX9_over : MethodName := ⟨RX9, "over", "(III)I"⟩
abbrev cX9_slide : ByteArray := prog_11_method_41_code
def yX9_slide : MethodName := ⟨RX9, "slide", "(III)I"⟩
abbrev cX9_common : ByteArray := prog_11_method_42_code
def yX9_common : MethodName := ⟨RX9, "common", "(II)I"⟩
abbrev cX9_term : ByteArray := prog_11_method_43_code
def yX9_term : MethodName := ⟨RX9, "term", "(III)I"⟩
abbrev cX9_isPart : ByteArray := prog_11_method_44_code
def yX9_isPart : MethodName := ⟨RX9, "isPart", "(I)Z"⟩
abbrev cX9_chance : ByteArray := prog_11_method_45_code
def yX9_chance : MethodName := ⟨RX9, "chance", "(IIII)I"⟩
abbrev cX9_wideA : ByteArray := prog_11_method_46_code
def yX9_wideA : MethodName := ⟨RX9, "wideA", "(I)I"⟩
abbrev cX9_wideB : ByteArray := prog_11_method_47_code
def yX9_wideB : MethodName := ⟨RX9, "wideB", "(I)I"⟩
abbrev cX9_ash : ByteArray := prog_11_method_48_code
def yX9_ash : MethodName := ⟨RX9, "ash", "(I)I"⟩
abbrev cX9_price : ByteArray := prog_11_method_49_code
def yX9_price : MethodName := ⟨RX9, "price", "(III)I"⟩
abbrev cX9_behind : ByteArray := prog_11_method_50_code
def yX9_behind : MethodName := ⟨RX9, "behind", "(III)I"⟩
abbrev cX9_layTogether : ByteArray := prog_11_method_51_code
def yX9_layTogether : MethodName := ⟨RX9, "layTogether", "(IIIII)V"⟩
abbrev cX9_layWay : ByteArray := prog_11_method_52_code
def yX9_layWay : MethodName := ⟨RX9, "layWay", "()V"⟩
abbrev cX9_isLaw : ByteArray := prog_11_method_53_code
def yX9_isLaw : MethodName := ⟨RX9, "isLaw", "(I)Z"⟩
abbrev cX9_together : ByteArray := prog_11_method_54_code
def yX9_together : MethodName := ⟨RX9, "together", "(IIII)I"⟩
abbrev cX9_lies : ByteArray := prog_11_method_55_code
def yX9_lies : MethodName := ⟨RX9, "lies", "(IIII)I"⟩
abbrev cX9_sure : ByteArray := prog_11_method_56_code
def yX9_sure : MethodName := ⟨RX9, "sure", "(IIII)I"⟩
abbrev cX9_join : ByteArray := prog_11_method_57_code
def yX9_join : MethodName := ⟨RX9, "join", "(IIIII)I"⟩
abbrev cX9_keep : ByteArray := prog_11_method_58_code
def yX9_keep : MethodName := ⟨RX9, "keep", "(IZ)I"⟩
abbrev cX9_tie : ByteArray := prog_11_method_59_code
def yX9_tie : MethodName := ⟨RX9, "tie", "(III)I"⟩
abbrev cX9_untie : ByteArray := prog_11_method_60_code
def yX9_untie : MethodName := ⟨RX9, "untie", "(I)I"⟩
abbrev cX9_ashes : ByteArray := prog_11_method_61_code
def yX9_ashes : MethodName := ⟨RX9, "ashes", "(Z)I"⟩
abbrev cX9_ashAt : ByteArray := prog_11_method_62_code
def yX9_ashAt : MethodName := ⟨RX9, "ashAt", "(II)I"⟩
abbrev cX9_bound : ByteArray := prog_11_method_63_code
def yX9_bound : MethodName := ⟨RX9, "bound", "(IIII)V"⟩
abbrev cX9_close : ByteArray := prog_11_method_64_code
def yX9_close : MethodName := ⟨RX9, "close", "()Z"⟩
abbrev cX9_layNet : ByteArray := prog_11_method_65_code
def yX9_layNet : MethodName := ⟨RX9, "layNet", "(I)Z"⟩
abbrev cX9_keptSet : ByteArray := prog_11_method_66_code
def yX9_keptSet : MethodName := ⟨RX9, "keptSet", "()I"⟩
abbrev cX9_layKept : ByteArray := prog_11_method_67_code
def yX9_layKept : MethodName := ⟨RX9, "layKept", "()Z"⟩
abbrev cX9_closes : ByteArray := prog_11_method_68_code
def yX9_closes : MethodName := ⟨RX9, "closes", "()I"⟩
abbrev cX9_floats : ByteArray := prog_11_method_69_code
def yX9_floats : MethodName := ⟨RX9, "floats", "(II)Z"⟩
abbrev cX9_span : ByteArray := prog_11_method_70_code
def yX9_span : MethodName := ⟨RX9, "span", "(III)I"⟩
abbrev cX9_date : ByteArray := prog_11_method_71_code
def yX9_date : MethodName := ⟨RX9, "date", "(III)I"⟩
abbrev cX9_layCalendars : ByteArray := prog_11_method_72_code
def yX9_layCalendars : MethodName := ⟨RX9, "layCalendars", "()I"⟩
abbrev cX9_calendars : ByteArray := prog_11_method_73_code
def yX9_calendars : MethodName := ⟨RX9, "calendars", "(I)I"⟩
abbrev cX9_doubtOf : ByteArray := prog_11_method_74_code
def yX9_doubtOf : MethodName := ⟨RX9, "doubtOf", "(I)I"⟩
abbrev cX9_manyOf : ByteArray := prog_11_method_75_code
def yX9_manyOf : MethodName := ⟨RX9, "manyOf", "(I)I"⟩
abbrev cX9_castOut : ByteArray := prog_11_method_76_code
def yX9_castOut : MethodName := ⟨RX9, "castOut", "()I"⟩
abbrev cX9_hangs : ByteArray := prog_11_method_77_code
def yX9_hangs : MethodName := ⟨RX9, "hangs", "(II)I"⟩
abbrev cX9_allWidths : ByteArray := prog_11_method_78_code
def yX9_allWidths : MethodName := ⟨RX9, "allWidths", "()I"⟩
abbrev cX9_dig : ByteArray := prog_11_method_79_code
def yX9_dig : MethodName := ⟨RX9, "dig", "(I)I"⟩
abbrev cX9_pace : ByteArray := prog_11_method_80_code
def yX9_pace : MethodName := ⟨RX9, "pace", "(IIII)I"⟩
abbrev cX9_ashBeside : ByteArray := prog_11_method_81_code
def yX9_ashBeside : MethodName := ⟨RX9, "ashBeside", "(IIII)I"⟩
abbrev cX9_tookBy : ByteArray := prog_11_method_82_code
def yX9_tookBy : MethodName := ⟨RX9, "tookBy", "(III)I"⟩
abbrev cX9_took : ByteArray := prog_11_method_83_code
def yX9_took : MethodName := ⟨RX9, "took", "(III)I"⟩
abbrev cX9_image : ByteArray := prog_11_method_84_code
def yX9_image : MethodName := ⟨RX9, "image", "()I"⟩
abbrev cX9_restore : ByteArray := prog_11_method_85_code
def yX9_restore : MethodName := ⟨RX9, "restore", "()I"⟩
abbrev cX9_countOf : ByteArray := prog_11_method_86_code
def yX9_countOf : MethodName := ⟨RX9, "countOf", "(I)I"⟩
abbrev cX9_count : ByteArray := prog_11_method_87_code
def yX9_count : MethodName := ⟨RX9, "count", "(I)I"⟩
abbrev cX9_tell : ByteArray := prog_11_method_88_code
def yX9_tell : MethodName := ⟨RX9, "tell", "(J)V"⟩
abbrev cX9_tellPit : ByteArray := prog_11_method_89_code
def yX9_tellPit : MethodName := ⟨RX9, "tellPit", "(I)V"⟩
abbrev cX9_tellLaw : ByteArray := prog_11_method_90_code
def yX9_tellLaw : MethodName := ⟨RX9, "tellLaw", "(I)V"⟩
abbrev cX9_tellNet : ByteArray := prog_11_method_91_code
def yX9_tellNet : MethodName := ⟨RX9, "tellNet", "()V"⟩
abbrev cX9_digest : ByteArray := prog_11_method_92_code
def yX9_digest : MethodName := ⟨RX9, "digest", "()J"⟩
def RJ11 : String := "java/lang/Character"
def TJ11 : u_T := fun k => match k with
  | _ => ("", "", "", false)
def tyJ11 : Nat → FieldType := fun k => match k with
  | _ => .int
abbrev wsJ110 : List Cond := u_ws RJ11 TJ11 0
theorem nmJ11 : ∀ a, a < 0 → ∀ b, b < 0 → a ≠ b → (TJ11 a).2.1 ≠ (TJ11 b).2.1 := by decide +kernel
theorem tyJ11_ok : ∀ k, k < 0 → parseFieldDescriptor (TJ11 k).2.2.1 = some (tyJ11 k) := by decide +kernel
abbrev cJ11_isValidCodePoint_9a6ad : ByteArray := prog_12_method_11_code
def yJ11_isValidCodePoint_9a6ad : MethodName := ⟨RJ11, "isValidCodePoint", "(I)Z"⟩
abbrev cJ11_highSurrogate_5068e : ByteArray := prog_12_method_28_code
def yJ11_highSurrogate_5068e : MethodName := ⟨RJ11, "highSurrogate", "(I)C"⟩
abbrev cJ11_lowSurrogate_5068e : ByteArray := prog_12_method_29_code
def yJ11_lowSurrogate_5068e : MethodName := ⟨RJ11, "lowSurrogate", "(I)C"⟩
def RJ6 : String := "java/lang/Integer"
def TJ6 : u_T := fun k => match k with
  | _ => ("", "", "", false)
def tyJ6 : Nat → FieldType := fun k => match k with
  | _ => .int
abbrev wsJ60 : List Cond := u_ws RJ6 TJ6 0
theorem nmJ6 : ∀ a, a < 0 → ∀ b, b < 0 → a ≠ b → (TJ6 a).2.1 ≠ (TJ6 b).2.1 := by decide +kernel
theorem tyJ6_ok : ∀ k, k < 0 → parseFieldDescriptor (TJ6 k).2.2.1 = some (tyJ6 k) := by decide +kernel
abbrev cJ6_compare_7cf53 : ByteArray := prog_13_method_40_code
def yJ6_compare_7cf53 : MethodName := ⟨RJ6, "compare", "(II)I"⟩
abbrev cJ6_bitCount_0f7a4 : ByteArray := prog_13_method_49_code
def yJ6_bitCount_0f7a4 : MethodName := ⟨RJ6, "bitCount", "(I)I"⟩
def RJ9 : String := "java/lang/Math"
def TJ9 : u_T := fun k => match k with
  | _ => ("", "", "", false)
def tyJ9 : Nat → FieldType := fun k => match k with
  | _ => .int
abbrev wsJ90 : List Cond := u_ws RJ9 TJ9 0
theorem nmJ9 : ∀ a, a < 0 → ∀ b, b < 0 → a ≠ b → (TJ9 a).2.1 ≠ (TJ9 b).2.1 := by decide +kernel
theorem tyJ9_ok : ∀ k, k < 0 → parseFieldDescriptor (TJ9 k).2.2.1 = some (tyJ9 k) := by decide +kernel
abbrev cJ9_abs_0f7a4 : ByteArray := prog_14_method_59_code
def yJ9_abs_0f7a4 : MethodName := ⟨RJ9, "abs", "(I)I"⟩
abbrev cJ9_max_7cf53 : ByteArray := prog_14_method_65_code
def yJ9_max_7cf53 : MethodName := ⟨RJ9, "max", "(II)I"⟩
abbrev cJ9_min_7cf53 : ByteArray := prog_14_method_69_code
def yJ9_min_7cf53 : MethodName := ⟨RJ9, "min", "(II)I"⟩
def RJ0 : String := "java/lang/String"
def TJ0 : u_T := fun k => match k with
  | _ => ("", "", "", false)
def tyJ0 : Nat → FieldType := fun k => match k with
  | _ => .int
abbrev wsJ00 : List Cond := u_ws RJ0 TJ0 0
theorem nmJ0 : ∀ a, a < 0 → ∀ b, b < 0 → a ≠ b → (TJ0 a).2.1 ≠ (TJ0 b).2.1 := by decide +kernel
theorem tyJ0_ok : ∀ k, k < 0 → parseFieldDescriptor (TJ0 k).2.2.1 = some (tyJ0 k) := by decide +kernel
abbrev cJ0_length_8abf5 : ByteArray := prog_15_method_54_code
def yJ0_length_8abf5 : MethodName := ⟨RJ0, "length", "()I"⟩
abbrev cJ0_indexOf_0f7a4 : ByteArray := prog_15_method_79_code
def yJ0_indexOf_0f7a4 : MethodName := ⟨RJ0, "indexOf", "(I)I"⟩
abbrev cJ0_indexOf_7cf53 : ByteArray := prog_15_method_80_code
def yJ0_indexOf_7cf53 : MethodName := ⟨RJ0, "indexOf", "(II)I"⟩
abbrev cJ0_coder_7d493 : ByteArray := prog_15_method_152_code
def yJ0_coder_7d493 : MethodName := ⟨RJ0, "coder", "()B"⟩
abbrev cJ0_isLatin1_aae02 : ByteArray := prog_15_method_154_code
def yJ0_isLatin1_aae02 : MethodName := ⟨RJ0, "isLatin1", "()Z"⟩
abbrev cJ0_checkBoundsBeginEnd_23922 : ByteArray := prog_15_method_158_code
def yJ0_checkBoundsBeginEnd_23922 : MethodName := ⟨RJ0, "checkBoundsBeginEnd", "(III)V"⟩
def RJ1 : String := "java/lang/StringLatin1"
def TJ1 : u_T := fun k => match k with
  | _ => ("", "", "", false)
def tyJ1 : Nat → FieldType := fun k => match k with
  | _ => .int
abbrev wsJ10 : List Cond := u_ws RJ1 TJ1 0
theorem nmJ1 : ∀ a, a < 0 → ∀ b, b < 0 → a ≠ b → (TJ1 a).2.1 ≠ (TJ1 b).2.1 := by decide +kernel
theorem tyJ1_ok : ∀ k, k < 0 → parseFieldDescriptor (TJ1 k).2.2.1 = some (tyJ1 k) := by decide +kernel
abbrev cJ1_canEncode_9a6ad : ByteArray := prog_16_method_4_code
def yJ1_canEncode_9a6ad : MethodName := ⟨RJ1, "canEncode", "(I)Z"⟩
abbrev cJ1_indexOf_4cfef : ByteArray := prog_16_method_22_code
def yJ1_indexOf_4cfef : MethodName := ⟨RJ1, "indexOf", "([BIII)I"⟩
abbrev cJ1_indexOfChar_4cfef : ByteArray := prog_16_method_23_code
def yJ1_indexOfChar_4cfef : MethodName := ⟨RJ1, "indexOfChar", "([BIII)I"⟩
def RJ2 : String := "java/lang/StringUTF16"
def TJ2 : u_T := fun k => match k with
  | _ => ("", "", "", false)
def tyJ2 : Nat → FieldType := fun k => match k with
  | _ => .int
abbrev wsJ20 : List Cond := u_ws RJ2 TJ2 0
theorem nmJ2 : ∀ a, a < 0 → ∀ b, b < 0 → a ≠ b → (TJ2 a).2.1 ≠ (TJ2 b).2.1 := by decide +kernel
theorem tyJ2_ok : ∀ k, k < 0 → parseFieldDescriptor (TJ2 k).2.2.1 = some (tyJ2 k) := by decide +kernel
abbrev cJ2_getChar_3b067 : ByteArray := prog_17_method_5_code
def yJ2_getChar_3b067 : MethodName := ⟨RJ2, "getChar", "([BI)C"⟩
abbrev cJ2_length_9d52b : ByteArray := prog_17_method_6_code
def yJ2_length_9d52b : MethodName := ⟨RJ2, "length", "([B)I"⟩
abbrev cJ2_indexOf_4cfef : ByteArray := prog_17_method_40_code
def yJ2_indexOf_4cfef : MethodName := ⟨RJ2, "indexOf", "([BIII)I"⟩
abbrev cJ2_indexOfChar_4cfef : ByteArray := prog_17_method_47_code
def yJ2_indexOfChar_4cfef : MethodName := ⟨RJ2, "indexOfChar", "([BIII)I"⟩
abbrev cJ2_indexOfCharUnsafe_4cfef : ByteArray := prog_17_method_48_code
def yJ2_indexOfCharUnsafe_4cfef : MethodName := ⟨RJ2, "indexOfCharUnsafe", "([BIII)I"⟩
abbrev cJ2_indexOfSupplementary_4cfef : ByteArray := prog_17_method_49_code
def yJ2_indexOfSupplementary_4cfef : MethodName := ⟨RJ2, "indexOfSupplementary", "([BIII)I"⟩
abbrev cJ2_checkBoundsBeginEnd_d044e : ByteArray := prog_17_method_93_code
def yJ2_checkBoundsBeginEnd_d044e : MethodName := ⟨RJ2, "checkBoundsBeginEnd", "(II[B)V"⟩
def RJ10 : String := "java/lang/System"
def TJ10 : u_T := fun k => match k with
  | _ => ("", "", "", false)
def tyJ10 : Nat → FieldType := fun k => match k with
  | _ => .int
abbrev wsJ100 : List Cond := u_ws RJ10 TJ10 0
theorem nmJ10 : ∀ a, a < 0 → ∀ b, b < 0 → a ≠ b → (TJ10 a).2.1 ≠ (TJ10 b).2.1 := by decide +kernel
theorem tyJ10_ok : ∀ k, k < 0 → parseFieldDescriptor (TJ10 k).2.2.1 = some (tyJ10 k) := by decide +kernel
def RJ7 : String := "java/util/Arrays"
def TJ7 : u_T := fun k => match k with
  | _ => ("", "", "", false)
def tyJ7 : Nat → FieldType := fun k => match k with
  | _ => .int
abbrev wsJ70 : List Cond := u_ws RJ7 TJ7 0
theorem nmJ7 : ∀ a, a < 0 → ∀ b, b < 0 → a ≠ b → (TJ7 a).2.1 ≠ (TJ7 b).2.1 := by decide +kernel
theorem tyJ7_ok : ∀ k, k < 0 → parseFieldDescriptor (TJ7 k).2.2.1 = some (tyJ7 k) := by decide +kernel
abbrev cJ7_fill_53178 : ByteArray := prog_19_method_103_code
def yJ7_fill_53178 : MethodName := ⟨RJ7, "fill", "([II)V"⟩
def RJ3 : String := "jdk/internal/util/Preconditions"
def TJ3 : u_T := fun k => match k with
  | _ => ("", "", "", false)
def tyJ3 : Nat → FieldType := fun k => match k with
  | _ => .int
abbrev wsJ30 : List Cond := u_ws RJ3 TJ3 0
theorem nmJ3 : ∀ a, a < 0 → ∀ b, b < 0 → a ≠ b → (TJ3 a).2.1 ≠ (TJ3 b).2.1 := by decide +kernel
theorem tyJ3_ok : ∀ k, k < 0 → parseFieldDescriptor (TJ3 k).2.2.1 = some (tyJ3 k) := by decide +kernel
abbrev cJ3_checkFromToIndex_8c36e : ByteArray := prog_20_method_12_code
def yJ3_checkFromToIndex_8c36e : MethodName := ⟨RJ3, "checkFromToIndex", "(IIILjava/util/function/BiFunction;)I"⟩
def RL : String := "LeavesOfMudLaw"
abbrev cL_law : ByteArray := code
def yL_law : MethodName := ⟨RL, "law", "([I)Z"⟩
abbrev vwCl : List vw_C := [(RX0, TX0, 11), (RX1, TX1, 3), (RX2, TX2, 2), (RX3, TX3, 15), (RX4, TX4, 4), (RX5, TX5, 20), (RX6, TX6, 6), (RX7, TX7, 1), (RX8, TX8, 13), (RX9, TX9, 55)]
end
section
-- ===== the abstract machine: values, stores, shapes by parameters, one-step predicate, blocks =====
abbrev AV : Type := Int ⊕ Int ⊕ Nat ⊕ Unit
abbrev vI (n : Int) : AV := .inl n
abbrev vL (n : Int) : AV := .inr (.inl n)
abbrev vR (q : Nat) : AV := .inr (.inr (.inl q))
abbrev vX : AV := .inr (.inr (.inr ()))
abbrev Sto : Type := Nat → Int → Int
abbrev Ctr : Type := List AV → Sto → (List AV → Sto → Prop) → Prop
def i32 (n : Int) : Prop := -2147483648 ≤ n ∧ n ≤ 2147483647
def i64 (n : Int) : Prop := -9223372036854775808 ≤ n ∧ n ≤ 9223372036854775807
def w64 (n : Int) : Int := (Int64.ofInt n).toInt
def w32 (n : Int) : Int := (Int32.ofInt n).toInt
def su (σ : Sto) (q : Nat) (i v : Int) : Sto := fun q' => if q' = q then (fun j => if j = i then v else σ q j) else σ q'
def bAnd (a b : Int) : Int := (Int32.ofInt a &&& Int32.ofInt b).toInt
def bOr (a b : Int) : Int := (Int32.ofInt a ||| Int32.ofInt b).toInt
def bXor (a b : Int) : Int := (Int32.ofInt a ^^^ Int32.ofInt b).toInt
def bShl (a b : Int) : Int := (Int32.ofInt a <<< (Int32.ofInt b &&& 31)).toInt
def bShr (a b : Int) : Int := (Int32.ofInt a >>> (Int32.ofInt b &&& 31)).toInt
def bUshr (a b : Int) : Int := ((Int32.ofInt a).toUInt32 >>> ((Int32.ofInt b).toUInt32 &&& Int32.toUInt32 31)).toInt32.toInt
def bChr (a : Int) : Int := ((Int32.ofInt a).toUInt32 % 65536).toInt32.toInt
def bI8 (a : Int) : Int := (Int32.ofInt a).toInt8.toInt32.toInt
def lAnd (a b : Int) : Int := (Int64.ofInt a &&& Int64.ofInt b).toInt
def lOr (a b : Int) : Int := (Int64.ofInt a ||| Int64.ofInt b).toInt
def lShl (a b : Int) : Int := (Int64.ofInt a <<< ((Int32.ofInt b).toInt64 &&& 63)).toInt
def lUshr (a b : Int) : Int := ((Int64.ofInt a).toUInt64 >>> ((Int32.ofInt b).toInt64.toUInt64 &&& Int64.toUInt64 63)).toInt64.toInt
def lCmp (a b : Int) : Int := if b < a then 1 else if a = b then 0 else -1
def nth : List AV → Nat → AV
  | [], _ => vX
  | a :: _, 0 => a
  | _ :: t, n + 1 => nth t n
def setL : List AV → Nat → AV → List AV
  | [], _, v => [v]
  | _ :: t, 0, v => v :: t
  | a :: t, n + 1, v => a :: setL t n v
/-- a place may be stored to: it lies within, or is the next, and no long stands just ahead of it -/
def canSet : List AV → Nat → Bool
  | [], n => n == 0
  | _ :: _, 0 => true
  | .inr (.inl _) :: _, 1 => false
  | _ :: t, n + 1 => canSet t n
def cat1 : AV → Nat
  | .inr (.inl _) => 2
  | .inr (.inr (.inr ())) => 9
  | _ => 1
def catS : List AV → Nat
  | [] => 0
  | a :: t => cat1 a + catS t
def entL : List AV → List AV
  | [] => []
  | .inr (.inl n) :: t => vL n :: vX :: entL t
  | a :: t => a :: entL t
def lkp {α : Type} (d : α) : List (Nat × α) → Nat → α
  | [], _ => d
  | (a, b) :: t, n => if a = n then b else lkp d t n
def tbl {α : Type} (d : α) : List α → Nat → α
  | [], _ => d
  | a :: _, 0 => a
  | _ :: t, n + 1 => tbl d t n
/-- a label's own locals: so many of those there are -/
def tk (lv : List (Nat × Nat)) (t : Nat) (L : List AV) : List AV := L.take (lkp 999 lv t)
/-- the conjunction of a table's branches -/
def swK (lv : List (Nat × Nat)) (K : Nat → List AV → List AV → Sto → Prop) (S L : List AV) (σ : Sto) (x : Int) : Int → List Int → Prop
  | _, [] => True
  | lo, o :: t => (x = lo → K o.toNat S (tk lv o.toNat L) σ) ∧ swK lv K S L σ x (lo + 1) t
def look {α : Type} : List (Nat × α) → Nat → Option α
  | [], _ => none
  | (a, b) :: t, n => if a = n then some b else look t n
theorem look_mem {α : Type} {t : List (Nat × α)} {n : Nat} {v : α} (h : look t n = some v) : (n, v) ∈ t := by
  induction t with
  | nil => cases h
  | cons a t ih =>
    obtain ⟨a, b⟩ := a
    unfold look at h
    by_cases e : a = n
    · rw [if_pos e] at h
      cases h
      subst e
      exact List.mem_cons_self
    · rw [if_neg e] at h
      exact List.mem_cons_of_mem _ (ih h)
end
section
-- ===== the shapes of the places (printed by wip/tools/mk03b.py) =====
--   0 X
--   1 pits
--   2 bonds
--   3 ipits
--   4 ibonds
--   5 page
--   6 hands
--   7 laws
--   8 slides
--   9 pairing
--  10 net
--  11 pits.miles
--  12 pits.sizes
--  13 pits.kinds
--  14 pits.thicknesses
--  15 pits.numbers
--  16 bonds.firsts
--  17 bonds.seconds
--  18 bonds.lows
--  19 bonds.highs
--  20 bonds.doubts
--  21 bonds.tieLows
--  22 bonds.tieHighs
--  23 ipits.miles
--  24 ipits.sizes
--  25 ipits.kinds
--  26 ipits.thicknesses
--  27 ipits.numbers
--  28 ibonds.firsts
--  29 ibonds.seconds
--  30 ibonds.lows
--  31 ibonds.highs
--  32 ibonds.doubts
--  33 ibonds.tieLows
--  34 ibonds.tieHighs
--  35 page.letters
--  36 page.told
--  37 hands.told
--  38 laws.prices
--  39 pairing.firstThickness
--  40 pairing.secondThickness
--  41 pairing.firstAshes
--  42 pairing.secondAshes
--  43 pairing.least
--  44 pairing.ways
--  45 pairing.way
--  46 pairing.liesOn
--  47 pairing.liesBy
--  48 net.whole
--  49 net.fixed
--  50 net.without
--  51 net.levels
--  52 net.levels0
--  53 net.levels1
--  54 net.levels2
--  55 net.levels3
--  56 net.levels4
--  57 net.levels5
--  58 net.levels6
--  59 net.levels7
--  60 net.levels8
--  61 net.levels9
--  62 net.levels10
--  63 net.levels11
--  64 net.levels12
--  65 net.ashYears
--  66 net.labels
--  67 M
--  68 M.miles
--  69 M.leafMany
--  70 M.kinds
--  71 M.thick
--  72 M.numbers
--  73 M.page
--  74 M.handRows
--  75 M.lawRows
--  76 M.readRow
--  77 M.least
--  78 M.ways
--  79 M.way
--  80 M.lying
--  81 M.isPlain
--  82 M.joinA
--  83 M.joinB
--  84 M.lows
--  85 M.highs
--  86 M.doubts
--  87 M.isKept
--  88 M.tied
--  89 M.tieLow
--  90 M.tieHigh
--  91 M.far
--  92 M.belongs
--  93 M.keptMiles
--  94 M.keptMany
--  95 M.keptLeaves
--  96 M.keptNet
--  97 M.keptTies
--  98 hplain
--  99 lplain
-- 100 offirst
-- 101 ofsecond
-- 102 script
-- 103 str0
-- 104 str1
-- 105 byt0
-- 106 byt1
def NP : Nat := 98
def shp : Nat → Nat × Nat
  | 0 => (3, 8)
  | 1 => (3, 6)
  | 2 => (3, 0)
  | 3 => (3, 6)
  | 4 => (3, 0)
  | 5 => (3, 4)
  | 6 => (3, 1)
  | 7 => (3, 2)
  | 8 => (3, 7)
  | 9 => (3, 5)
  | 10 => (3, 3)
  | 11 => (0, 7)
  | 12 => (0, 7)
  | 13 => (0, 112)
  | 14 => (0, 112)
  | 15 => (0, 112)
  | 16 => (0, 12)
  | 17 => (0, 12)
  | 18 => (0, 12)
  | 19 => (0, 12)
  | 20 => (0, 12)
  | 21 => (0, 7)
  | 22 => (0, 7)
  | 23 => (0, 7)
  | 24 => (0, 7)
  | 25 => (0, 112)
  | 26 => (0, 112)
  | 27 => (0, 112)
  | 28 => (0, 12)
  | 29 => (0, 12)
  | 30 => (0, 12)
  | 31 => (0, 12)
  | 32 => (0, 12)
  | 33 => (0, 7)
  | 34 => (0, 7)
  | 35 => (0, 30)
  | 36 => (0, 7)
  | 37 => (0, 35)
  | 38 => (0, 16)
  | 39 => (0, 16)
  | 40 => (0, 16)
  | 41 => (0, 16)
  | 42 => (0, 16)
  | 43 => (0, 289)
  | 44 => (0, 289)
  | 45 => (0, 32)
  | 46 => (0, 16)
  | 47 => (0, 16)
  | 48 => (0, 64)
  | 49 => (0, 64)
  | 50 => (0, 64)
  | 51 => (2, 13)
  | 52 => (0, 64)
  | 53 => (0, 64)
  | 54 => (0, 64)
  | 55 => (0, 64)
  | 56 => (0, 64)
  | 57 => (0, 64)
  | 58 => (0, 64)
  | 59 => (0, 64)
  | 60 => (0, 64)
  | 61 => (0, 64)
  | 62 => (0, 64)
  | 63 => (0, 64)
  | 64 => (0, 64)
  | 65 => (0, 70)
  | 66 => (0, 8)
  | 67 => (3, 9)
  | 68 => (0, 7)
  | 69 => (0, 7)
  | 70 => (0, 112)
  | 71 => (0, 112)
  | 72 => (0, 112)
  | 73 => (0, 30)
  | 74 => (0, 28)
  | 75 => (0, 16)
  | 76 => (0, 7)
  | 77 => (0, 289)
  | 78 => (0, 289)
  | 79 => (0, 32)
  | 80 => (0, 16)
  | 81 => (1, 16)
  | 82 => (0, 12)
  | 83 => (0, 12)
  | 84 => (0, 12)
  | 85 => (0, 12)
  | 86 => (0, 12)
  | 87 => (1, 12)
  | 88 => (1, 7)
  | 89 => (0, 7)
  | 90 => (0, 7)
  | 91 => (0, 64)
  | 92 => (0, 7)
  | 93 => (0, 7)
  | 94 => (0, 7)
  | 95 => (0, 336)
  | 96 => (0, 72)
  | 97 => (0, 21)
  | 98 => (4, 7)
  | 99 => (4, 4)
  | 100 => (4, 5)
  | 101 => (4, 5)
  | 102 => (5, 0)
  | 103 => (3, 20)
  | 104 => (3, 20)
  | 105 => (7, 7)
  | 106 => (7, 4)
  | _ => (9, 0)
/-- what the fields of a class are: 0 int, 1 long, 2 a reference, 3 boolean -/
def ftg : Nat → Nat → Nat
  | 0, 1 => 2
  | 0, 2 => 2
  | 0, 3 => 2
  | 0, 4 => 2
  | 0, 5 => 2
  | 0, 8 => 2
  | 0, 9 => 2
  | 0, 10 => 3
  | 1, 0 => 2
  | 1, 2 => 2
  | 2, 1 => 2
  | 3, 0 => 2
  | 3, 1 => 2
  | 3, 2 => 2
  | 3, 3 => 2
  | 3, 4 => 2
  | 3, 5 => 2
  | 3, 6 => 2
  | 3, 7 => 2
  | 3, 8 => 2
  | 4, 1 => 2
  | 4, 2 => 3
  | 4, 3 => 2
  | 5, 0 => 2
  | 5, 1 => 2
  | 5, 2 => 2
  | 5, 3 => 2
  | 5, 4 => 2
  | 5, 5 => 2
  | 5, 14 => 2
  | 5, 15 => 2
  | 5, 16 => 2
  | 5, 18 => 2
  | 5, 19 => 2
  | 6, 1 => 2
  | 6, 2 => 2
  | 6, 3 => 2
  | 6, 4 => 2
  | 6, 5 => 2
  | 7, 0 => 2
  | 8, 0 => 2
  | 8, 1 => 2
  | 8, 2 => 2
  | 8, 3 => 2
  | 8, 4 => 3
  | 8, 5 => 2
  | 8, 6 => 2
  | 8, 7 => 2
  | 8, 8 => 2
  | 8, 9 => 2
  | 8, 10 => 2
  | 9, 1 => 2
  | 9, 2 => 2
  | 9, 3 => 2
  | 9, 4 => 2
  | 9, 5 => 2
  | 9, 7 => 2
  | 9, 10 => 2
  | 9, 12 => 2
  | 9, 13 => 2
  | 9, 17 => 2
  | 9, 18 => 2
  | 9, 27 => 2
  | 9, 29 => 2
  | 9, 30 => 2
  | 9, 33 => 2
  | 9, 34 => 2
  | 9, 35 => 2
  | 9, 36 => 2
  | 9, 37 => 2
  | 9, 38 => 2
  | 9, 39 => 2
  | 9, 40 => 2
  | 9, 41 => 2
  | 9, 42 => 3
  | 9, 43 => 2
  | 9, 44 => 2
  | 9, 48 => 3
  | 9, 49 => 2
  | 9, 50 => 2
  | 9, 51 => 2
  | 9, 52 => 2
  | 9, 53 => 2
  | 9, 54 => 1
  | 20, 0 => 2
  | 20, 1 => 5
  | _, _ => 0
def nfl : Nat → Nat
  | 0 => 11
  | 1 => 3
  | 2 => 2
  | 3 => 15
  | 4 => 4
  | 5 => 20
  | 6 => 6
  | 7 => 1
  | 8 => 13
  | 9 => 55
  | _ => 0
/-- where the references lead: object and slot, or the grid of levels and row -/
def rfs : Nat → Nat → Nat
  | 0, 0 => 1
  | 0, 1 => 2
  | 0, 2 => 3
  | 0, 3 => 4
  | 0, 5 => 5
  | 0, 6 => 6
  | 0, 7 => 7
  | 0, 8 => 8
  | 0, 9 => 9
  | 0, 10 => 10
  | 1, 1 => 11
  | 1, 2 => 12
  | 1, 3 => 13
  | 1, 4 => 14
  | 1, 5 => 15
  | 2, 1 => 16
  | 2, 2 => 17
  | 2, 3 => 18
  | 2, 4 => 19
  | 2, 5 => 20
  | 2, 8 => 21
  | 2, 9 => 22
  | 3, 1 => 23
  | 3, 2 => 24
  | 3, 3 => 25
  | 3, 4 => 26
  | 3, 5 => 27
  | 4, 1 => 28
  | 4, 2 => 29
  | 4, 3 => 30
  | 4, 4 => 31
  | 4, 5 => 32
  | 4, 8 => 33
  | 4, 9 => 34
  | 5, 1 => 35
  | 5, 3 => 36
  | 6, 0 => 1
  | 6, 2 => 37
  | 7, 1 => 38
  | 8, 0 => 1
  | 9, 0 => 1
  | 9, 1 => 7
  | 9, 2 => 39
  | 9, 3 => 40
  | 9, 4 => 41
  | 9, 5 => 42
  | 9, 14 => 43
  | 9, 15 => 44
  | 9, 16 => 45
  | 9, 18 => 46
  | 9, 19 => 47
  | 10, 0 => 1
  | 10, 1 => 6
  | 10, 2 => 2
  | 10, 3 => 48
  | 10, 4 => 49
  | 10, 5 => 50
  | 10, 6 => 51
  | 10, 7 => 65
  | 10, 8 => 66
  | 67, 1 => 68
  | 67, 2 => 69
  | 67, 3 => 70
  | 67, 4 => 71
  | 67, 5 => 72
  | 67, 7 => 73
  | 67, 10 => 74
  | 67, 12 => 75
  | 67, 13 => 76
  | 67, 17 => 77
  | 67, 18 => 78
  | 67, 27 => 79
  | 67, 29 => 80
  | 67, 30 => 81
  | 67, 33 => 82
  | 67, 34 => 83
  | 67, 35 => 84
  | 67, 36 => 85
  | 67, 37 => 86
  | 67, 38 => 87
  | 67, 39 => 88
  | 67, 40 => 89
  | 67, 41 => 90
  | 67, 43 => 91
  | 67, 44 => 92
  | 67, 49 => 93
  | 67, 50 => 94
  | 67, 51 => 95
  | 67, 52 => 96
  | 67, 53 => 97
  | 103, 0 => 105
  | 104, 0 => 106
  | 51, j => 52 + j
  | _, _ => 0
def stc : Nat → List Int
  | 98 => [2, 2, 2, 1, 0, 2, 0]
  | 99 => [9, 3, 1, 40]
  | 100 => [1, 1, 0, 1, 2]
  | 101 => [1, 0, 1, 2, 1]
  | 105 => [108, 119, 110, 104, 102, 97, 115]
  | 106 => [108, 100, 117, 97]
  | _ => []
end
section
-- ===== the world of the places, what a block asks (wp), and that the machine does it =====
abbrev OM : Type := Launch × va_G × (Nat → Nat) × (Nat → ClassId) × Nat × (Nat → Int32)
abbrev oL (o : OM) : Launch := o.1
abbrev oD (o : OM) : va_G := o.2.1
abbrev oA (o : OM) : Nat → Nat := o.2.2.1
abbrev oC (o : OM) : Nat → ClassId := o.2.2.2.1
abbrev oN (o : OM) : Nat := o.2.2.2.2.1
abbrev oX (o : OM) : Nat → Int32 := o.2.2.2.2.2
def cv (o : OM) : AV → Value
  | .inl n => .int (Int32.ofInt n)
  | .inr (.inl n) => .long (Int64.ofInt n)
  | .inr (.inr (.inl q)) => .ref (oA o q)
  | .inr (.inr (.inr ())) => .null
def cvL (o : OM) : Nat → List AV → List (Nat × Value)
  | _, [] => []
  | i, .inr (.inr (.inr ())) :: t => cvL o (i + 1) t
  | i, a :: t => (i, cv o a) :: cvL o (i + 1) t
def okv : AV → Prop
  | .inl n => i32 n
  | .inr (.inl n) => i64 n
  | _ => True
def okL (L : List AV) : Prop := ∀ v ∈ L, okv v
def lng (q : Nat) (j : Int) : Prop := (shp q).1 = 3 ∧ ftg (shp q).2 j.toNat = 1
def okS (σ : Sto) : Prop := ∀ q j, (lng q j → i64 (σ q j)) ∧ (¬ lng q j → i32 (σ q j))
def fld (o : OM) (σ : Sto) (k j : Nat) : Value := match ftg (shp k).2 j with
  | 1 => .long (Int64.ofInt (σ k j))
  | 2 => .ref (oA o (rfs k j))
  | _ => .int (Int32.ofInt (σ k j))
def cel (o : OM) (σ : Sto) (k : Nat) : va_E := match (shp k).1 with
  | 0 => .inl (oC o 0, (shp k).2, .inl (fun j => Int32.ofInt (σ k j)))
  | 1 => .inl (oC o 1, (shp k).2, .inl (fun j => Int32.ofInt (σ k j)))
  | 2 => .inl (oC o 2, (shp k).2, .inr (.inr (.inr (.inr (fun j => some (oA o (rfs k j)))))))
  | _ => .inr ((shp k).2, (List.range (nfl (shp k).2)).map (fld o σ k))
def wsO (o : OM) (σ : Sto) : va_W := (List.range NP).map (fun k => (oA o k, cel o σ k))
def aA (o : OM) : Nat → Prop := fun q => ∃ k, k < NP ∧ q = oA o k
def tyO (o : OM) : List (ClassId × FieldType) := [(oC o 0, .int), (oC o 1, .boolean), (oC o 2, .array .int)]
def inj (o : OM) : Prop := ∀ i j, i < NP → j < NP → oA o i = oA o j → i = j
theorem wsO_get (o : OM) (σ : Sto) {k : Nat} (h : k < NP) : (wsO o σ)[k]? = some (oA o k, cel o σ k) := by
  unfold wsO
  rw [List.getElem?_map, List.getElem?_range h]
  rfl
theorem wsO_inv {o : OM} {σ : Sto} {k : Nat} {q : Nat × va_E} (h : (wsO o σ)[k]? = some q) : k < NP ∧ q = (oA o k, cel o σ k) := by
  unfold wsO at h
  rw [List.getElem?_map] at h
  by_cases hk : k < NP
  · rw [List.getElem?_range hk] at h
    cases h
    exact ⟨hk, rfl⟩
  · rw [List.getElem?_eq_none (by rw [List.length_range]; omega)] at h
    cases h
theorem wsO_D (o : OM) (σ : Sto) (hi : inj o) : va_D (aA o) (wsO o σ) := by
  refine ⟨fun i j p q h1 h2 he => ?_, fun k q h => ?_⟩
  · obtain ⟨a1, rfl⟩ := wsO_inv h1
    obtain ⟨a2, rfl⟩ := wsO_inv h2
    exact hi i j a1 a2 he
  · obtain ⟨a1, rfl⟩ := wsO_inv h
    exact ⟨k, a1, rfl⟩
theorem wsO_set (o : OM) (σ σ' : Sto) {q : Nat} (hq : q < NP) (hne : ∀ k, k ≠ q → σ' k = σ k) : (wsO o σ).set q (oA o q, cel o σ' q) = wsO o σ' := by
  apply List.ext_getElem?
  intro k
  by_cases hk : k = q
  · subst hk
    rw [List.getElem?_set_self (by simp [wsO, hq]), wsO_get o σ' hq]
  · rw [List.getElem?_set_ne (Ne.symm hk)]
    by_cases hN : k < NP
    · rw [wsO_get o σ hN, wsO_get o σ' hN]
      have : cel o σ k = cel o σ' k := by
        have := hne k hk
        unfold cel fld
        rw [this]
      rw [this]
    · rw [List.getElem?_eq_none (by simp [wsO]; omega), List.getElem?_eq_none (by simp [wsO]; omega)]
def HX (o : OM) (σ : Sto) (H : Heap) : Prop := va_P (oD o) vwCl (wsO o σ) H ∧ okS σ
theorem su_ne {σ : Sto} {q : Nat} {i v : Int} : ∀ k, k ≠ q → su σ q i v k = σ k := fun k hk => by unfold su; rw [if_neg hk]
theorem su_eq {σ : Sto} {q : Nat} {i v : Int} : su σ q i v q = fun j => if j = i then v else σ q j := by unfold su; rw [if_pos rfl]
theorem okS_su {σ : Sto} {q : Nat} {i v : Int} (h : okS σ) (hv : (lng q i → i64 v) ∧ (¬ lng q i → i32 v)) : okS (su σ q i v) := by
  intro k j
  by_cases hk : k = q
  · subst hk
    rw [su_eq]
    by_cases hj : j = i
    · subst hj
      simp only [if_pos]
      exact hv
    · simp only [if_neg hj]
      exact h k j
  · rw [su_ne k hk]
    exact h k j
/-- numbers of the machine and of the integers -/
theorem i32_to {a : Int} (h : i32 a) : (Int32.ofInt a).toInt = a := by
  rw [Int32.toInt_ofInt]
  exact Int.bmod_eq_of_le (by have := h.1; simp [Int32.size]; omega) (by have := h.2; simp [Int32.size]; omega)
theorem i64_to {a : Int} (h : i64 a) : (Int64.ofInt a).toInt = a := by
  rw [Int64.toInt_ofInt]
  exact Int.bmod_eq_of_le (by have := h.1; simp [Int64.size]; omega) (by have := h.2; simp [Int64.size]; omega)
theorem i32_in (x : Int32) : i32 x.toInt := by
  have h1 := x.le_toInt
  have h2 := x.toInt_lt
  constructor <;> omega
theorem i64_in (x : Int64) : i64 x.toInt := by
  have h1 := x.le_toInt
  have h2 := x.toInt_lt
  constructor <;> omega
theorem i32_lt {a b : Int} (ha : i32 a) (hb : i32 b) : Int32.ofInt a < Int32.ofInt b ↔ a < b := by rw [Int32.lt_iff_toInt_lt, i32_to ha, i32_to hb]
theorem i32_le {a b : Int} (ha : i32 a) (hb : i32 b) : Int32.ofInt a ≤ Int32.ofInt b ↔ a ≤ b := by rw [Int32.le_iff_toInt_le, i32_to ha, i32_to hb]
theorem i32_eq {a b : Int} (ha : i32 a) (hb : i32 b) : Int32.ofInt a = Int32.ofInt b ↔ a = b := by rw [← Int32.toInt_inj, i32_to ha, i32_to hb]
theorem i64_lt {a b : Int} (ha : i64 a) (hb : i64 b) : Int64.ofInt a < Int64.ofInt b ↔ a < b := by rw [Int64.lt_iff_toInt_lt, i64_to ha, i64_to hb]
theorem i64_eq {a b : Int} (ha : i64 a) (hb : i64 b) : Int64.ofInt a = Int64.ofInt b ↔ a = b := by rw [← Int64.toInt_inj, i64_to ha, i64_to hb]
theorem i32_0 : i32 0 := ⟨by decide, by decide⟩
theorem of32 (x : Int32) : Int32.ofInt x.toInt = x := Int32.ofInt_toInt x
theorem of64 (x : Int64) : Int64.ofInt x.toInt = x := Int64.ofInt_toInt x
theorem tdiv_in {a b : Int} (ha : i32 a) (hb : 0 < b) : i32 (a.tdiv b) := by
  have h1 : (a.tdiv b).natAbs ≤ a.natAbs := by rw [Int.natAbs_tdiv]; exact Nat.div_le_self _ _
  have h2 := ha.1
  have h3 := ha.2
  by_cases h0 : 0 ≤ a
  · have : 0 ≤ a.tdiv b := Int.tdiv_nonneg h0 (by omega)
    constructor <;> omega
  · have : a.tdiv b ≤ 0 := by
      have := Int.tdiv_nonneg (a := -a) (b := b) (by omega) (by omega)
      rw [Int.neg_tdiv] at this
      omega
    constructor <;> omega
theorem i32_div {a b : Int} (ha : i32 a) (hb : i32 b) (h0 : 0 < b) : Int32.ofInt a / Int32.ofInt b = Int32.ofInt (a.tdiv b) := by
  rw [← Int32.toInt_inj, Int32.toInt_div, i32_to ha, i32_to hb, Int32.toInt_ofInt]
theorem i32_rem {a b : Int} (ha : i32 a) (hb : i32 b) (h0 : 0 < b) : Int32.ofInt a - Int32.ofInt a / Int32.ofInt b * Int32.ofInt b = Int32.ofInt (a.tmod b) := by
  rw [i32_div ha hb h0, ← Int32.ofInt_mul, ← Int32.ofInt_sub, Int.tmod_def, Int.mul_comm]
theorem i64_div {a b : Int} (ha : i64 a) (hb : i64 b) (h0 : 0 < b) : Int64.ofInt a / Int64.ofInt b = Int64.ofInt (a.tdiv b) := by
  rw [← Int64.toInt_inj, Int64.toInt_div, i64_to ha, i64_to hb, Int64.toInt_ofInt]
theorem i64_rem {a b : Int} (ha : i64 a) (hb : i64 b) (h0 : 0 < b) : Int64.ofInt a - Int64.ofInt a / Int64.ofInt b * Int64.ofInt b = Int64.ofInt (a.tmod b) := by
  rw [i64_div ha hb h0, ← Int64.ofInt_mul, ← Int64.ofInt_sub, Int.tmod_def, Int.mul_comm]
theorem tmod_in {a b : Int} (ha : i32 a) (hb : 0 < b) : i32 (a.tmod b) := by
  have h1 : (a.tmod b).natAbs ≤ a.natAbs := by rw [Int.natAbs_tmod]; exact Nat.mod_le _ _
  have h2 := ha.1
  have h3 := ha.2
  by_cases h0 : 0 ≤ a
  · have : 0 ≤ a.tmod b := Int.tmod_nonneg b h0
    constructor <;> omega
  · have : a.tmod b ≤ 0 := by
      have := Int.tmod_nonneg (a := -a) b (by omega)
      rw [Int.neg_tmod] at this
      omega
    constructor <;> omega
theorem tdiv_in64 {a b : Int} (ha : i64 a) (hb : 0 < b) : i64 (a.tdiv b) := by
  have h1 : (a.tdiv b).natAbs ≤ a.natAbs := by rw [Int.natAbs_tdiv]; exact Nat.div_le_self _ _
  have h2 := ha.1
  have h3 := ha.2
  by_cases h0 : 0 ≤ a
  · have : 0 ≤ a.tdiv b := Int.tdiv_nonneg h0 (by omega)
    constructor <;> omega
  · have : a.tdiv b ≤ 0 := by
      have := Int.tdiv_nonneg (a := -a) (b := b) (by omega) (by omega)
      rw [Int.neg_tdiv] at this
      omega
    constructor <;> omega
theorem tmod_in64 {a b : Int} (ha : i64 a) (hb : 0 < b) : i64 (a.tmod b) := by
  have h1 : (a.tmod b).natAbs ≤ a.natAbs := by rw [Int.natAbs_tmod]; exact Nat.mod_le _ _
  have h2 := ha.1
  have h3 := ha.2
  by_cases h0 : 0 ≤ a
  · have : 0 ≤ a.tmod b := Int.tmod_nonneg b h0
    constructor <;> omega
  · have : a.tmod b ≤ 0 := by
      have := Int.tmod_nonneg (a := -a) b (by omega)
      rw [Int.neg_tmod] at this
      omega
    constructor <;> omega
theorem in_vp {i : Int} {n : Nat} (hi : i32 i) (h0 : 0 ≤ i) (h1 : i < n) : vp_in (Int32.ofInt i) n := by
  rw [vp_in_iff, i32_to hi]
  exact ⟨h0, h1⟩
theorem clampI {i : Int} (hi : i32 i) (h0 : 0 ≤ i) : (Int32.ofInt i).toNatClampNeg = i.toNat := by
  show (Int32.ofInt i).toInt.toNat = i.toNat
  rw [i32_to hi]
theorem i32_i64 {a : Int} (h : i32 a) : (Int32.ofInt a).toInt64 = Int64.ofInt a := by
  rw [← Int64.toInt_inj, Int32.toInt_toInt64, i32_to h, i64_to ⟨by have := h.1; omega, by have := h.2; omega⟩]
end
section
-- ===== instructions resolved, what one asks, what a block asks =====
/-- a method's tables: fields, int constants, long constants, references, virtual calls, static calls; and how many locals -/
abbrev Tb : Type := List (Nat × Nat) × List (Nat × Int) × List (Nat × Int) × List (Nat × Nat) × List (Nat × Nat) × List (Nat × Nat) × Nat
def tF (T : Tb) : List (Nat × Nat) := T.1
def tI (T : Tb) : List (Nat × Int) := T.2.1
def tJ (T : Tb) : List (Nat × Int) := T.2.2.1
def tR (T : Tb) : List (Nat × Nat) := T.2.2.2.1
def tV (T : Tb) : List (Nat × Nat) := T.2.2.2.2.1
def tS (T : Tb) : List (Nat × Nat) := T.2.2.2.2.2.1
def tM (T : Tb) : Nat := T.2.2.2.2.2.2
def grd {α : Type} (b : Bool) (x : Option α) : Option α := if b = true then x else none
def abso (pc : Nat) (o : Int) : Int := (pc : Int) + o
def rz (T : Tb) (pc n : Nat) : Instr → Option Instr
  | .iconst v => grd (n == 1 && decide (-1 ≤ v) && decide (v ≤ 5)) (some (.iconst v))
  | .bipush v => grd (n == 2 && decide (-128 ≤ v) && decide (v ≤ 127)) (some (.iconst v))
  | .sipush v => grd (n == 3 && decide (-32768 ≤ v) && decide (v ≤ 32767)) (some (.iconst v))
  | .ldc i => grd (n == 2) (match look (tI T) i with
    | some v => some (.iconst v)
    | none => match look (tR T) i with
      | some q => grd (q == 103 || q == 104) (some (.anewarray q))
      | none => none)
  | .ldc_w i => grd (n == 3) ((look (tI T) i).map .iconst)
  | .ldc2_w i => grd (n == 3) ((look (tJ T) i).map .jsr)
  | .lconst v => grd (n == 1) (some (.jsr v.val))
  | .getstatic i => grd (n == 3) (match look (tR T) i with
    | some q => if q = 999 then some (.iconst 1) else grd (!(q == 103 || q == 104)) (some (.anewarray q))
    | none => none)
  | .iload_n v => grd (n == 1) (some (.iload v.val))
  | .lload_n v => grd (n == 1) (some (.lload v.val))
  | .aload_n v => grd (n == 1) (some (.aload v.val))
  | .iload v => grd (n == 2) (some (.iload v))
  | .lload v => grd (n == 2) (some (.lload v))
  | .aload v => grd (n == 2) (some (.aload v))
  | .istore_n v => grd (n == 1 && decide (v.val < tM T)) (some (.istore v.val))
  | .lstore_n v => grd (n == 1 && decide (v.val + 1 < tM T)) (some (.lstore v.val))
  | .astore_n v => grd (n == 1 && decide (v.val < tM T)) (some (.astore v.val))
  | .istore v => grd (n == 2 && decide (v < tM T)) (some (.istore v))
  | .lstore v => grd (n == 2 && decide (v + 1 < tM T)) (some (.lstore v))
  | .astore v => grd (n == 2 && decide (v < tM T)) (some (.astore v))
  | .iinc v c => grd (n == 3 && decide (v < tM T)) (some (.iinc v c))
  | .getfield i => grd (n == 3) ((look (tF T) i).map .getfield)
  | .putfield i => grd (n == 3) ((look (tF T) i).map .putfield)
  | .invokevirtual i => grd (n == 3) ((look (tV T) i).map .invokestatic)
  | .invokestatic i => grd (n == 3) ((look (tS T) i).map .invokestatic)
  | .goto o => grd (n == 3 && decide (0 ≤ abso pc o)) (some (.goto (abso pc o)))
  | .if_icmp c o => grd (n == 3 && decide (0 ≤ abso pc o)) (some (.if_icmp c (abso pc o)))
  | .ifCond c o => grd (n == 3 && decide (0 ≤ abso pc o)) (some (.ifCond c (abso pc o)))
  | .tableswitch d lo hi os => grd (decide (0 ≤ abso pc d) && os.toList.all (fun o => decide (0 ≤ abso pc o)) && decide (hi + 1 = lo + os.toList.length)) (some (.tableswitch (abso pc d) lo hi (os.toList.map (abso pc)).toArray))
  | .iadd => grd (n == 1) (some .iadd)
  | .isub => grd (n == 1) (some .isub)
  | .imul => grd (n == 1) (some .imul)
  | .ineg => grd (n == 1) (some .ineg)
  | .idiv => grd (n == 1) (some .idiv)
  | .irem => grd (n == 1) (some .irem)
  | .iand => grd (n == 1) (some .iand)
  | .ior => grd (n == 1) (some .ior)
  | .ixor => grd (n == 1) (some .ixor)
  | .ishl => grd (n == 1) (some .ishl)
  | .ishr => grd (n == 1) (some .ishr)
  | .iushr => grd (n == 1) (some .iushr)
  | .ladd => grd (n == 1) (some .ladd)
  | .lmul => grd (n == 1) (some .lmul)
  | .ldiv => grd (n == 1) (some .ldiv)
  | .lrem => grd (n == 1) (some .lrem)
  | .land => grd (n == 1) (some .land)
  | .lor => grd (n == 1) (some .lor)
  | .lshl => grd (n == 1) (some .lshl)
  | .lushr => grd (n == 1) (some .lushr)
  | .lcmp => grd (n == 1) (some .lcmp)
  | .i2l => grd (n == 1) (some .i2l)
  | .l2i => grd (n == 1) (some .l2i)
  | .i2c => grd (n == 1) (some .i2c)
  | .i2b => grd (n == 1) (some .i2b)
  | .dup => grd (n == 1) (some .dup)
  | .dup2 => grd (n == 1) (some .dup2)
  | .pop => grd (n == 1) (some .pop)
  | .iaload => grd (n == 1) (some .iaload)
  | .baload => grd (n == 1) (some .baload)
  | .aaload => grd (n == 1) (some .aaload)
  | .iastore => grd (n == 1) (some .iastore)
  | .bastore => grd (n == 1) (some .bastore)
  | .arraylength => grd (n == 1) (some .arraylength)
  | .ireturn => grd (n == 1) (some .ireturn)
  | .lreturn => grd (n == 1) (some .lreturn)
  | .return_ => grd (n == 1) (some .return_)
  | _ => none
def chk (T : Tb) (cc : ByteArray) (f : Nat) : List Instr → Nat → Bool
  | [], pc => pc == f
  | i :: r, pc => match decode cc pc with
    | .ok (j, n) => decide (rz T pc n j = some i) && chk T cc f r (pc + n)
    | _ => false
/-- the comparison of a branch -/
def cmpI (c : ClassFile.Cond) (a b : Int) : Prop := match c with
  | .eq => a = b
  | .ne => ¬ a = b
  | .lt => a < b
  | .ge => b ≤ a
  | .gt => b < a
  | .le => a ≤ b
/-- a field's value: the code says class, slot, kind -/
def rdF (c q : Nat) (σ : Sto) : AV := match c % 10 with
  | 1 => vL (σ q ((c / 10 % 100 : Nat) : Int))
  | 2 => vR (rfs q (c / 10 % 100))
  | _ => vI (σ q ((c / 10 % 100 : Nat) : Int))
def dCa : Nat × Ctr := (0, fun _ _ _ => False)
def ald (kd : Nat) (P0 P4 P5 : Prop) : Prop := match kd with
  | 0 => P0
  | 4 => P4
  | 5 => P5
  | _ => False
def bld (kd : Nat) (P1 P7 : Prop) : Prop := match kd with
  | 1 => P1
  | 7 => P7
  | _ => False
def aln (kd : Nat) (P0 P5 : Prop) : Prop := match kd with
  | 0 => P0
  | 7 => P0
  | 5 => P5
  | _ => False
theorem ald_c {kd : Nat} {P0 P4 P5 : Prop} (h : ald kd P0 P4 P5) : (kd = 0 ∧ P0) ∨ (kd = 4 ∧ P4) ∨ (kd = 5 ∧ P5) := by
  unfold ald at h
  split at h
  · exact Or.inl ⟨rfl, h⟩
  · exact Or.inr (Or.inl ⟨rfl, h⟩)
  · exact Or.inr (Or.inr ⟨rfl, h⟩)
  · exact h.elim
theorem bld_c {kd : Nat} {P1 P7 : Prop} (h : bld kd P1 P7) : (kd = 1 ∧ P1) ∨ (kd = 7 ∧ P7) := by
  unfold bld at h
  split at h
  · exact Or.inl ⟨rfl, h⟩
  · exact Or.inr ⟨rfl, h⟩
  · exact h.elim
theorem aln_c {kd : Nat} {P0 P5 : Prop} (h : aln kd P0 P5) : (kd = 0 ∧ P0) ∨ (kd = 7 ∧ P0) ∨ (kd = 5 ∧ P5) := by
  unfold aln at h
  split at h
  · exact Or.inl ⟨rfl, h⟩
  · exact Or.inr (Or.inl ⟨rfl, h⟩)
  · exact Or.inr (Or.inr ⟨rfl, h⟩)
  · exact h.elim
def step (ca : List (Nat × Ctr)) (lv : List (Nat × Nat)) (rt : Nat) (K : Nat → List AV → List AV → Sto → Prop) (Q : List AV → Sto → Prop) (i : Instr) (S L : List AV) (σ : Sto) (k : List AV → List AV → Sto → Prop) : Prop := match i with
  | .iconst n => k (vI n :: S) L σ
  | .jsr n => k (vL n :: S) L σ
  | .anewarray q => k (vR q :: S) L σ
  | .iload n => match nth L n with
    | .inl x => k (vI x :: S) L σ
    | _ => False
  | .lload n => match nth L n with
    | .inr (.inl x) => k (vL x :: S) L σ
    | _ => False
  | .aload n => match nth L n with
    | .inr (.inr (.inl x)) => k (vR x :: S) L σ
    | _ => False
  | .istore n => match S with
    | .inl x :: S => canSet L n = true ∧ k S (setL L n (vI x)) σ
    | _ => False
  | .lstore n => match S with
    | .inr (.inl x) :: S => canSet L n = true ∧ k S (setL (setL L n (vL x)) (n + 1) vX) σ
    | _ => False
  | .astore n => match S with
    | .inr (.inr (.inl x)) :: S => canSet L n = true ∧ k S (setL L n (vR x)) σ
    | _ => False
  | .iinc n c => match nth L n with
    | .inl x => canSet L n = true ∧ i32 (x + c) ∧ k S (setL L n (vI (x + c))) σ
    | _ => False
  | .getfield c => match S with
    | .inr (.inr (.inl q)) :: S => shp q = (3, c / 1000) ∧ k (rdF c q σ :: S) L σ
    | _ => False
  | .putfield c => match c % 10, S with
    | 0, .inl x :: .inr (.inr (.inl q)) :: S => shp q = (3, c / 1000) ∧ k S L (su σ q ((c / 10 % 100 : Nat) : Int) x)
    | 1, .inr (.inl x) :: .inr (.inr (.inl q)) :: S => shp q = (3, c / 1000) ∧ k S L (su σ q ((c / 10 % 100 : Nat) : Int) x)
    | 3, .inl x :: .inr (.inr (.inl q)) :: S => shp q = (3, c / 1000) ∧ (x = 0 ∨ x = 1) ∧ k S L (su σ q ((c / 10 % 100 : Nat) : Int) x)
    | _, _ => False
  | .invokestatic c => (tbl dCa ca c).1 ≤ S.length ∧ catS (S.drop (tbl dCa ca c).1) ≤ 8 ∧ (tbl dCa ca c).2 (S.take (tbl dCa ca c).1).reverse σ (fun r σ => k (r ++ S.drop (tbl dCa ca c).1) L σ)
  | .goto t => K t.toNat S (tk lv t.toNat L) σ
  | .if_icmp c t => match S with
    | .inl b :: .inl a :: S => (cmpI c a b → K t.toNat S (tk lv t.toNat L) σ) ∧ (¬ cmpI c a b → k S L σ)
    | _ => False
  | .ifCond c t => match S with
    | .inl a :: S => (cmpI c a 0 → K t.toNat S (tk lv t.toNat L) σ) ∧ (¬ cmpI c a 0 → k S L σ)
    | _ => False
  | .tableswitch d lo hi os => match S with
    | .inl x :: S => swK lv K S L σ x lo os.toList ∧ (x < lo ∨ hi < x → K d.toNat S (tk lv d.toNat L) σ)
    | _ => False
  | .iadd => match S with
    | .inl b :: .inl a :: S => i32 (a + b) ∧ k (vI (a + b) :: S) L σ
    | _ => False
  | .isub => match S with
    | .inl b :: .inl a :: S => i32 (a - b) ∧ k (vI (a - b) :: S) L σ
    | _ => False
  | .imul => match S with
    | .inl b :: .inl a :: S => i32 (a * b) ∧ k (vI (a * b) :: S) L σ
    | _ => False
  | .ineg => match S with
    | .inl a :: S => i32 (-a) ∧ k (vI (-a) :: S) L σ
    | _ => False
  | .idiv => match S with
    | .inl b :: .inl a :: S => 0 < b ∧ k (vI (a.tdiv b) :: S) L σ
    | _ => False
  | .irem => match S with
    | .inl b :: .inl a :: S => 0 < b ∧ k (vI (a.tmod b) :: S) L σ
    | _ => False
  | .iand => match S with
    | .inl b :: .inl a :: S => k (vI (bAnd a b) :: S) L σ
    | _ => False
  | .ior => match S with
    | .inl b :: .inl a :: S => k (vI (bOr a b) :: S) L σ
    | _ => False
  | .ixor => match S with
    | .inl b :: .inl a :: S => k (vI (bXor a b) :: S) L σ
    | _ => False
  | .ishl => match S with
    | .inl b :: .inl a :: S => k (vI (bShl a b) :: S) L σ
    | _ => False
  | .ishr => match S with
    | .inl b :: .inl a :: S => k (vI (bShr a b) :: S) L σ
    | _ => False
  | .iushr => match S with
    | .inl b :: .inl a :: S => k (vI (bUshr a b) :: S) L σ
    | _ => False
  | .ladd => match S with
    | .inr (.inl b) :: .inr (.inl a) :: S => k (vL (w64 (a + b)) :: S) L σ
    | _ => False
  | .lmul => match S with
    | .inr (.inl b) :: .inr (.inl a) :: S => k (vL (w64 (a * b)) :: S) L σ
    | _ => False
  | .ldiv => match S with
    | .inr (.inl b) :: .inr (.inl a) :: S => 0 < b ∧ k (vL (a.tdiv b) :: S) L σ
    | _ => False
  | .lrem => match S with
    | .inr (.inl b) :: .inr (.inl a) :: S => 0 < b ∧ k (vL (a.tmod b) :: S) L σ
    | _ => False
  | .land => match S with
    | .inr (.inl b) :: .inr (.inl a) :: S => k (vL (lAnd a b) :: S) L σ
    | _ => False
  | .lor => match S with
    | .inr (.inl b) :: .inr (.inl a) :: S => k (vL (lOr a b) :: S) L σ
    | _ => False
  | .lshl => match S with
    | .inl b :: .inr (.inl a) :: S => k (vL (lShl a b) :: S) L σ
    | _ => False
  | .lushr => match S with
    | .inl b :: .inr (.inl a) :: S => k (vL (lUshr a b) :: S) L σ
    | _ => False
  | .lcmp => match S with
    | .inr (.inl b) :: .inr (.inl a) :: S => k (vI (lCmp a b) :: S) L σ
    | _ => False
  | .i2l => match S with
    | .inl a :: S => k (vL a :: S) L σ
    | _ => False
  | .l2i => match S with
    | .inr (.inl a) :: S => k (vI (w32 a) :: S) L σ
    | _ => False
  | .i2c => match S with
    | .inl a :: S => k (vI (bChr a) :: S) L σ
    | _ => False
  | .i2b => match S with
    | .inl a :: S => k (vI (bI8 a) :: S) L σ
    | _ => False
  | .dup => match S with
    | .inl a :: S => k (vI a :: vI a :: S) L σ
    | .inr (.inr (.inl a)) :: S => k (vR a :: vR a :: S) L σ
    | _ => False
  | .dup2 => match S with
    | .inl a :: .inr (.inr (.inl b)) :: S => k (vI a :: vR b :: vI a :: vR b :: S) L σ
    | _ => False
  | .pop => match S with
    | .inl _ :: S => k S L σ
    | _ => False
  | .iaload => match S with
    | .inl i :: .inr (.inr (.inl q)) :: S => ald (shp q).1 ((0 ≤ i ∧ i < ((shp q).2 : Int)) ∧ k (vI (σ q i) :: S) L σ) ((0 ≤ i ∧ i < ((shp q).2 : Int)) ∧ k (vI ((stc q).getD i.toNat 0) :: S) L σ) ((0 ≤ i ∧ i < σ q (-1)) ∧ k (vI (σ q i) :: S) L σ)
    | _ => False
  | .baload => match S with
    | .inl i :: .inr (.inr (.inl q)) :: S => bld (shp q).1 ((0 ≤ i ∧ i < ((shp q).2 : Int)) ∧ k (vI (σ q i) :: S) L σ) ((0 ≤ i ∧ i < ((shp q).2 : Int)) ∧ k (vI ((stc q).getD i.toNat 0) :: S) L σ)
    | _ => False
  | .aaload => match S with
    | .inl i :: .inr (.inr (.inl q)) :: S => (shp q).1 = 2 ∧ (0 ≤ i ∧ i < ((shp q).2 : Int)) ∧ k (vR (rfs q i.toNat) :: S) L σ
    | _ => False
  | .iastore => match S with
    | .inl x :: .inl i :: .inr (.inr (.inl q)) :: S => (shp q).1 = 0 ∧ (0 ≤ i ∧ i < ((shp q).2 : Int)) ∧ k S L (su σ q i x)
    | _ => False
  | .bastore => match S with
    | .inl x :: .inl i :: .inr (.inr (.inl q)) :: S => (shp q).1 = 1 ∧ (0 ≤ i ∧ i < ((shp q).2 : Int)) ∧ (x = 0 ∨ x = 1) ∧ k S L (su σ q i x)
    | _ => False
  | .arraylength => match S with
    | .inr (.inr (.inl q)) :: S => aln (shp q).1 (k (vI ((shp q).2 : Int) :: S) L σ) (k (vI (σ q (-1)) :: S) L σ)
    | _ => False
  | .ireturn => match S with
    | [.inl v] => (rt = 1 ∨ (rt = 2 ∧ (v = 0 ∨ v = 1)) ∨ (rt = 4 ∧ v = 0)) ∧ Q [vI v] σ
    | _ => False
  | .lreturn => match S with
    | [.inr (.inl v)] => rt = 3 ∧ Q [vL v] σ
    | _ => False
  | .return_ => match S with
    | [] => rt = 0 ∧ Q [] σ
    | _ => False
  | _ => False
def wp (ca : List (Nat × Ctr)) (lv : List (Nat × Nat)) (rt : Nat) (K : Nat → List AV → List AV → Sto → Prop) (Q : List AV → Sto → Prop) (f : Nat) : List Instr → List AV → List AV → Sto → Prop
  | [], S, L, σ => K f S (tk lv f L) σ
  | i :: r, S, L, σ => step ca lv rt K Q i S L σ (wp ca lv rt K Q f r)
end
section
-- ===== the nest words (printed) =====
def nestW : List Cond := [
  (Jvm.Cond.methodLinkNest "LeavesOfMud" (9 : Nat) ({ cls := "LeavesOfMud$Pits", name := "<init>", desc := "()V" } : Jvm.MethodName) "LeavesOfMud"),
  (Jvm.Cond.fieldLinkNest "LeavesOfMud" (92 : Nat) "LeavesOfMud$Pits" "size" "I" "LeavesOfMud"),
  (Jvm.Cond.fieldLinkNest "LeavesOfMud$Net" (85 : Nat) "LeavesOfMud$Pits" "size" "I" "LeavesOfMud"),
  (Jvm.Cond.fieldLinkNest "LeavesOfMud" (308 : Nat) "LeavesOfMud$Pits" "miles" "[I" "LeavesOfMud"),
  (Jvm.Cond.fieldLinkNest "LeavesOfMud$Pairing" (75 : Nat) "LeavesOfMud$Pits" "sizes" "[I" "LeavesOfMud"),
  (Jvm.Cond.fieldLinkNest "LeavesOfMud$Slides" (21 : Nat) "LeavesOfMud$Pits" "sizes" "[I" "LeavesOfMud"),
  (Jvm.Cond.fieldLinkNest "LeavesOfMud" (106 : Nat) "LeavesOfMud$Pits" "sizes" "[I" "LeavesOfMud"),
  (Jvm.Cond.fieldLinkNest "LeavesOfMud$Hands" (54 : Nat) "LeavesOfMud$Pits" "sizes" "[I" "LeavesOfMud"),
  (Jvm.Cond.fieldLinkNest "LeavesOfMud$Net" (136 : Nat) "LeavesOfMud$Pits" "sizes" "[I" "LeavesOfMud"),
  (Jvm.Cond.methodLinkNest "LeavesOfMud" (18 : Nat) ({ cls := "LeavesOfMud$Bonds", name := "<init>", desc := "()V" } : Jvm.MethodName) "LeavesOfMud"),
  (Jvm.Cond.fieldLinkNest "LeavesOfMud$Net" (111 : Nat) "LeavesOfMud$Bonds" "joins" "I" "LeavesOfMud"),
  (Jvm.Cond.fieldLinkNest "LeavesOfMud" (237 : Nat) "LeavesOfMud$Bonds" "joins" "I" "LeavesOfMud"),
  (Jvm.Cond.fieldLinkNest "LeavesOfMud$Net" (120 : Nat) "LeavesOfMud$Bonds" "firsts" "[I" "LeavesOfMud"),
  (Jvm.Cond.fieldLinkNest "LeavesOfMud$Net" (123 : Nat) "LeavesOfMud$Bonds" "seconds" "[I" "LeavesOfMud"),
  (Jvm.Cond.fieldLinkNest "LeavesOfMud$Net" (126 : Nat) "LeavesOfMud$Bonds" "lows" "[I" "LeavesOfMud"),
  (Jvm.Cond.fieldLinkNest "LeavesOfMud$Net" (129 : Nat) "LeavesOfMud$Bonds" "highs" "[I" "LeavesOfMud"),
  (Jvm.Cond.fieldLinkNest "LeavesOfMud$Net" (187 : Nat) "LeavesOfMud$Bonds" "doubts" "[I" "LeavesOfMud"),
  (Jvm.Cond.fieldLinkNest "LeavesOfMud" (334 : Nat) "LeavesOfMud$Bonds" "keptBits" "I" "LeavesOfMud"),
  (Jvm.Cond.fieldLinkNest "LeavesOfMud" (342 : Nat) "LeavesOfMud$Bonds" "tiedBits" "I" "LeavesOfMud"),
  (Jvm.Cond.fieldLinkNest "LeavesOfMud$Net" (95 : Nat) "LeavesOfMud$Bonds" "tieLows" "[I" "LeavesOfMud"),
  (Jvm.Cond.fieldLinkNest "LeavesOfMud$Net" (98 : Nat) "LeavesOfMud$Bonds" "tieHighs" "[I" "LeavesOfMud"),
  (Jvm.Cond.fieldLinkNest "LeavesOfMud$Net" (132 : Nat) "LeavesOfMud$Bonds" "ashesCount" "Z" "LeavesOfMud"),
  (Jvm.Cond.fieldLinkNest "LeavesOfMud" (264 : Nat) "LeavesOfMud$Bonds" "ashesCount" "Z" "LeavesOfMud"),
  (Jvm.Cond.methodLinkNest "LeavesOfMud" (35 : Nat) ({ cls := "LeavesOfMud$Page", name := "<init>", desc := "()V" } : Jvm.MethodName) "LeavesOfMud"),
  (Jvm.Cond.fieldLinkNest "LeavesOfMud" (151 : Nat) "LeavesOfMud$Page" "size" "I" "LeavesOfMud"),
  (Jvm.Cond.fieldLinkNest "LeavesOfMud" (360 : Nat) "LeavesOfMud$Page" "letters" "[I" "LeavesOfMud"),
  (Jvm.Cond.fieldLinkNest "LeavesOfMud" (162 : Nat) "LeavesOfMud$Page" "whole" "Z" "LeavesOfMud"),
  (Jvm.Cond.fieldLinkNest "LeavesOfMud" (166 : Nat) "LeavesOfMud$Page" "told" "[I" "LeavesOfMud"),
  (Jvm.Cond.methodLinkNest "LeavesOfMud" (42 : Nat) ({ cls := "LeavesOfMud$Hands", name := "<init>", desc := "(LLeavesOfMud$Pits;)V" } : Jvm.MethodName) "LeavesOfMud"),
  (Jvm.Cond.fieldLinkNest "LeavesOfMud" (165 : Nat) "LeavesOfMud$Hands" "size" "I" "LeavesOfMud"),
  (Jvm.Cond.methodLinkNest "LeavesOfMud" (51 : Nat) ({ cls := "LeavesOfMud$Laws", name := "<init>", desc := "()V" } : Jvm.MethodName) "LeavesOfMud"),
  (Jvm.Cond.fieldLinkNest "LeavesOfMud" (173 : Nat) "LeavesOfMud$Laws" "size" "I" "LeavesOfMud"),
  (Jvm.Cond.methodLinkNest "LeavesOfMud" (58 : Nat) ({ cls := "LeavesOfMud$Slides", name := "<init>", desc := "(LLeavesOfMud$Pits;)V" } : Jvm.MethodName) "LeavesOfMud"),
  (Jvm.Cond.methodLinkNest "LeavesOfMud" (65 : Nat) ({ cls := "LeavesOfMud$Pairing", name := "<init>", desc := "(LLeavesOfMud$Pits;LLeavesOfMud$Laws;)V" } : Jvm.MethodName) "LeavesOfMud"),
  (Jvm.Cond.fieldLinkNest "LeavesOfMud" (219 : Nat) "LeavesOfMud$Pairing" "wayLength" "I" "LeavesOfMud"),
  (Jvm.Cond.fieldLinkNest "LeavesOfMud" (225 : Nat) "LeavesOfMud$Pairing" "liesOn" "[I" "LeavesOfMud"),
  (Jvm.Cond.fieldLinkNest "LeavesOfMud" (228 : Nat) "LeavesOfMud$Pairing" "liesBy" "[I" "LeavesOfMud"),
  (Jvm.Cond.methodLinkNest "LeavesOfMud" (74 : Nat) ({ cls := "LeavesOfMud$Net", name := "<init>", desc := "(LLeavesOfMud$Pits;LLeavesOfMud$Hands;LLeavesOfMud$Bonds;)V" } : Jvm.MethodName) "LeavesOfMud"),
  (Jvm.Cond.fieldLinkNest "LeavesOfMud" (299 : Nat) "LeavesOfMud$Net" "digA" "I" "LeavesOfMud"),
  (Jvm.Cond.fieldLinkNest "LeavesOfMud" (302 : Nat) "LeavesOfMud$Net" "digB" "I" "LeavesOfMud"),
  (Jvm.Cond.fieldLinkNest "LeavesOfMud" (305 : Nat) "LeavesOfMud$Net" "digWorst" "I" "LeavesOfMud"),
  (Jvm.Cond.methodLinkNest "LeavesOfMud" (95 : Nat) ({ cls := "LeavesOfMud$Pits", name := "open", desc := "(I)I" } : Jvm.MethodName) "LeavesOfMud"),
  (Jvm.Cond.methodLinkNest "LeavesOfMud" (99 : Nat) ({ cls := "LeavesOfMud$Pits", name := "has", desc := "(I)Z" } : Jvm.MethodName) "LeavesOfMud"),
  (Jvm.Cond.methodLinkNest "LeavesOfMud" (110 : Nat) ({ cls := "LeavesOfMud$Pits", name := "push", desc := "(IIII)V" } : Jvm.MethodName) "LeavesOfMud"),
  (Jvm.Cond.methodLinkNest "LeavesOfMud" (114 : Nat) ({ cls := "LeavesOfMud$Pits", name := "hasLeaf", desc := "(II)Z" } : Jvm.MethodName) "LeavesOfMud"),
  (Jvm.Cond.methodLinkNest "LeavesOfMud" (118 : Nat) ({ cls := "LeavesOfMud$Pits", name := "kindOf", desc := "(II)I" } : Jvm.MethodName) "LeavesOfMud"),
  (Jvm.Cond.methodLinkNest "LeavesOfMud" (179 : Nat) ({ cls := "LeavesOfMud$Hands", name := "yearsOfAll", desc := "(II)I" } : Jvm.MethodName) "LeavesOfMud"),
  (Jvm.Cond.methodLinkNest "LeavesOfMud$Hands" (38 : Nat) ({ cls := "LeavesOfMud$Pits", name := "kindOf", desc := "(II)I" } : Jvm.MethodName) "LeavesOfMud"),
  (Jvm.Cond.methodLinkNest "LeavesOfMud$Hands" (44 : Nat) ({ cls := "LeavesOfMud$Pits", name := "nOf", desc := "(II)I" } : Jvm.MethodName) "LeavesOfMud"),
  (Jvm.Cond.methodLinkNest "LeavesOfMud" (132 : Nat) ({ cls := "LeavesOfMud$Pits", name := "thicknessOf", desc := "(II)I" } : Jvm.MethodName) "LeavesOfMud"),
  (Jvm.Cond.methodLinkNest "LeavesOfMud" (380 : Nat) ({ cls := "LeavesOfMud$Pits", name := "nOf", desc := "(II)I" } : Jvm.MethodName) "LeavesOfMud"),
  (Jvm.Cond.methodLinkNest "LeavesOfMud" (383 : Nat) ({ cls := "LeavesOfMud$Pits", name := "stepBetween", desc := "(III)I" } : Jvm.MethodName) "LeavesOfMud"),
  (Jvm.Cond.methodLinkNest "LeavesOfMud" (135 : Nat) ({ cls := "LeavesOfMud$Pits", name := "put", desc := "(IIIII)V" } : Jvm.MethodName) "LeavesOfMud"),
  (Jvm.Cond.methodLinkNest "LeavesOfMud" (155 : Nat) ({ cls := "LeavesOfMud$Page", name := "write", desc := "(I)V" } : Jvm.MethodName) "LeavesOfMud"),
  (Jvm.Cond.methodLinkNest "LeavesOfMud" (159 : Nat) ({ cls := "LeavesOfMud$Page", name := "read", desc := "(I)I" } : Jvm.MethodName) "LeavesOfMud"),
  (Jvm.Cond.methodLinkNest "LeavesOfMud$Page" (46 : Nat) ({ cls := "LeavesOfMud", name := "isWithin", desc := "(III)Z" } : Jvm.MethodName) "LeavesOfMud"),
  (Jvm.Cond.methodLinkNest "LeavesOfMud" (169 : Nat) ({ cls := "LeavesOfMud$Hands", name := "take", desc := "([I)I" } : Jvm.MethodName) "LeavesOfMud"),
  (Jvm.Cond.methodLinkNest "LeavesOfMud" (174 : Nat) ({ cls := "LeavesOfMud$Laws", name := "take", desc := "([I)I" } : Jvm.MethodName) "LeavesOfMud"),
  (Jvm.Cond.methodLinkNest "LeavesOfMud" (175 : Nat) ({ cls := "LeavesOfMud$Hands", name := "has", desc := "(I)Z" } : Jvm.MethodName) "LeavesOfMud"),
  (Jvm.Cond.methodLinkNest "LeavesOfMud" (176 : Nat) ({ cls := "LeavesOfMud$Hands", name := "yearsAhead", desc := "(III)I" } : Jvm.MethodName) "LeavesOfMud"),
  (Jvm.Cond.methodLinkNest "LeavesOfMud" (187 : Nat) ({ cls := "LeavesOfMud$Slides", name := "overOf", desc := "(III)I" } : Jvm.MethodName) "LeavesOfMud"),
  (Jvm.Cond.methodLinkNest "LeavesOfMud" (191 : Nat) ({ cls := "LeavesOfMud$Slides", name := "likeOf", desc := "(IIII)I" } : Jvm.MethodName) "LeavesOfMud"),
  (Jvm.Cond.methodLinkNest "LeavesOfMud$Slides" (34 : Nat) ({ cls := "LeavesOfMud$Pits", name := "stepBetween", desc := "(III)I" } : Jvm.MethodName) "LeavesOfMud"),
  (Jvm.Cond.methodLinkNest "LeavesOfMud$Slides" (37 : Nat) ({ cls := "LeavesOfMud$Pits", name := "isAsh", desc := "(II)Z" } : Jvm.MethodName) "LeavesOfMud"),
  (Jvm.Cond.methodLinkNest "LeavesOfMud$Slides" (41 : Nat) ({ cls := "LeavesOfMud$Pits", name := "nOf", desc := "(II)I" } : Jvm.MethodName) "LeavesOfMud"),
  (Jvm.Cond.methodLinkNest "LeavesOfMud" (195 : Nat) ({ cls := "LeavesOfMud$Slides", name := "best", desc := "(III)I" } : Jvm.MethodName) "LeavesOfMud"),
  (Jvm.Cond.methodLinkNest "LeavesOfMud" (198 : Nat) ({ cls := "LeavesOfMud$Slides", name := "turnsAsLike", desc := "(III)I" } : Jvm.MethodName) "LeavesOfMud"),
  (Jvm.Cond.methodLinkNest "LeavesOfMud" (204 : Nat) ({ cls := "LeavesOfMud$Laws", name := "has", desc := "(I)Z" } : Jvm.MethodName) "LeavesOfMud"),
  (Jvm.Cond.methodLinkNest "LeavesOfMud" (205 : Nat) ({ cls := "LeavesOfMud$Pairing", name := "setTogether", desc := "(III)V" } : Jvm.MethodName) "LeavesOfMud"),
  (Jvm.Cond.methodLinkNest "LeavesOfMud$Pairing" (93 : Nat) ({ cls := "LeavesOfMud$Pits", name := "thicknessOf", desc := "(II)I" } : Jvm.MethodName) "LeavesOfMud"),
  (Jvm.Cond.methodLinkNest "LeavesOfMud$Pairing" (96 : Nat) ({ cls := "LeavesOfMud$Pits", name := "isAsh", desc := "(II)Z" } : Jvm.MethodName) "LeavesOfMud"),
  (Jvm.Cond.methodLinkNest "LeavesOfMud$Pairing" (100 : Nat) ({ cls := "LeavesOfMud$Pits", name := "nOf", desc := "(II)I" } : Jvm.MethodName) "LeavesOfMud"),
  (Jvm.Cond.methodLinkNest "LeavesOfMud$Pairing" (84 : Nat) ({ cls := "LeavesOfMud$Laws", name := "priceOf", desc := "(II)I" } : Jvm.MethodName) "LeavesOfMud"),
  (Jvm.Cond.methodLinkNest "LeavesOfMud$Pairing" (135 : Nat) ({ cls := "LeavesOfMud", name := "asNumber", desc := "(Z)I" } : Jvm.MethodName) "LeavesOfMud"),
  (Jvm.Cond.methodLinkNest "LeavesOfMud" (209 : Nat) ({ cls := "LeavesOfMud$Pairing", name := "leastOfAll", desc := "()I" } : Jvm.MethodName) "LeavesOfMud"),
  (Jvm.Cond.methodLinkNest "LeavesOfMud" (213 : Nat) ({ cls := "LeavesOfMud$Pairing", name := "waysOfAll", desc := "()I" } : Jvm.MethodName) "LeavesOfMud"),
  (Jvm.Cond.methodLinkNest "LeavesOfMud" (216 : Nat) ({ cls := "LeavesOfMud$Pairing", name := "goTheWay", desc := "()V" } : Jvm.MethodName) "LeavesOfMud"),
  (Jvm.Cond.methodLinkNest "LeavesOfMud" (222 : Nat) ({ cls := "LeavesOfMud$Pairing", name := "stepOfTheWay", desc := "(I)I" } : Jvm.MethodName) "LeavesOfMud"),
  (Jvm.Cond.methodLinkNest "LeavesOfMud$Pairing" (103 : Nat) ({ cls := "LeavesOfMud", name := "isWithin", desc := "(III)Z" } : Jvm.MethodName) "LeavesOfMud"),
  (Jvm.Cond.methodLinkNest "LeavesOfMud" (231 : Nat) ({ cls := "LeavesOfMud$Pairing", name := "leastWithout", desc := "(II)I" } : Jvm.MethodName) "LeavesOfMud"),
  (Jvm.Cond.methodLinkNest "LeavesOfMud" (240 : Nat) ({ cls := "LeavesOfMud$Bonds", name := "addJoin", desc := "(IIIII)I" } : Jvm.MethodName) "LeavesOfMud"),
  (Jvm.Cond.methodLinkNest "LeavesOfMud" (244 : Nat) ({ cls := "LeavesOfMud$Bonds", name := "isKept", desc := "(I)Z" } : Jvm.MethodName) "LeavesOfMud"),
  (Jvm.Cond.methodLinkNest "LeavesOfMud" (251 : Nat) ({ cls := "LeavesOfMud$Bonds", name := "setKept", desc := "(IZ)V" } : Jvm.MethodName) "LeavesOfMud"),
  (Jvm.Cond.methodLinkNest "LeavesOfMud" (255 : Nat) ({ cls := "LeavesOfMud$Bonds", name := "isTied", desc := "(I)Z" } : Jvm.MethodName) "LeavesOfMud"),
  (Jvm.Cond.methodLinkNest "LeavesOfMud" (258 : Nat) ({ cls := "LeavesOfMud$Bonds", name := "setTie", desc := "(III)V" } : Jvm.MethodName) "LeavesOfMud"),
  (Jvm.Cond.methodLinkNest "LeavesOfMud" (261 : Nat) ({ cls := "LeavesOfMud$Bonds", name := "dropTie", desc := "(I)V" } : Jvm.MethodName) "LeavesOfMud"),
  (Jvm.Cond.methodLinkNest "LeavesOfMud" (267 : Nat) ({ cls := "LeavesOfMud$Net", name := "weaveWhole", desc := "()Z" } : Jvm.MethodName) "LeavesOfMud"),
  (Jvm.Cond.methodLinkNest "LeavesOfMud$Net" (139 : Nat) ({ cls := "LeavesOfMud$Pits", name := "kindOf", desc := "(II)I" } : Jvm.MethodName) "LeavesOfMud"),
  (Jvm.Cond.methodLinkNest "LeavesOfMud$Net" (143 : Nat) ({ cls := "LeavesOfMud$Pits", name := "nOf", desc := "(II)I" } : Jvm.MethodName) "LeavesOfMud"),
  (Jvm.Cond.methodLinkNest "LeavesOfMud$Net" (146 : Nat) ({ cls := "LeavesOfMud$Hands", name := "halvesOf", desc := "(III)I" } : Jvm.MethodName) "LeavesOfMud"),
  (Jvm.Cond.methodLinkNest "LeavesOfMud$Net" (90 : Nat) ({ cls := "LeavesOfMud$Bonds", name := "isTied", desc := "(I)Z" } : Jvm.MethodName) "LeavesOfMud"),
  (Jvm.Cond.methodLinkNest "LeavesOfMud$Net" (114 : Nat) ({ cls := "LeavesOfMud$Bonds", name := "isKept", desc := "(I)Z" } : Jvm.MethodName) "LeavesOfMud"),
  (Jvm.Cond.methodLinkNest "LeavesOfMud" (275 : Nat) ({ cls := "LeavesOfMud$Net", name := "isFloating", desc := "(II)Z" } : Jvm.MethodName) "LeavesOfMud"),
  (Jvm.Cond.methodLinkNest "LeavesOfMud" (278 : Nat) ({ cls := "LeavesOfMud$Net", name := "endOfSpan", desc := "(III)I" } : Jvm.MethodName) "LeavesOfMud"),
  (Jvm.Cond.methodLinkNest "LeavesOfMud" (281 : Nat) ({ cls := "LeavesOfMud$Net", name := "group", desc := "()V" } : Jvm.MethodName) "LeavesOfMud"),
  (Jvm.Cond.methodLinkNest "LeavesOfMud" (284 : Nat) ({ cls := "LeavesOfMud$Net", name := "groups", desc := "()I" } : Jvm.MethodName) "LeavesOfMud"),
  (Jvm.Cond.methodLinkNest "LeavesOfMud" (287 : Nat) ({ cls := "LeavesOfMud$Net", name := "groupOfFirst", desc := "()I" } : Jvm.MethodName) "LeavesOfMud"),
  (Jvm.Cond.methodLinkNest "LeavesOfMud" (290 : Nat) ({ cls := "LeavesOfMud$Net", name := "leastCast", desc := "()I" } : Jvm.MethodName) "LeavesOfMud"),
  (Jvm.Cond.methodLinkNest "LeavesOfMud" (293 : Nat) ({ cls := "LeavesOfMud$Net", name := "joinsThatHold", desc := "(II)I" } : Jvm.MethodName) "LeavesOfMud"),
  (Jvm.Cond.methodLinkNest "LeavesOfMud" (296 : Nat) ({ cls := "LeavesOfMud$Net", name := "findDig", desc := "()V" } : Jvm.MethodName) "LeavesOfMud"),
  (Jvm.Cond.methodLinkNest "LeavesOfMud$Net" (200 : Nat) ({ cls := "LeavesOfMud", name := "isWithin", desc := "(III)Z" } : Jvm.MethodName) "LeavesOfMud"),
  (Jvm.Cond.methodLinkNest "LeavesOfMud" (386 : Nat) ({ cls := "LeavesOfMud$Pits", name := "sharedAshAhead", desc := "(III)I" } : Jvm.MethodName) "LeavesOfMud"),
  (Jvm.Cond.methodLinkNest "LeavesOfMud" (389 : Nat) ({ cls := "LeavesOfMud$Pits", name := "sharedAshBehind", desc := "(III)I" } : Jvm.MethodName) "LeavesOfMud"),
  (Jvm.Cond.methodLinkNest "LeavesOfMud" (392 : Nat) ({ cls := "LeavesOfMud$Pits", name := "firstAsh", desc := "(II)I" } : Jvm.MethodName) "LeavesOfMud"),
  (Jvm.Cond.methodLinkNest "LeavesOfMud" (395 : Nat) ({ cls := "LeavesOfMud$Pits", name := "hasFloodBetween", desc := "(III)Z" } : Jvm.MethodName) "LeavesOfMud"),
  (Jvm.Cond.methodLinkNest "LeavesOfMud" (325 : Nat) ({ cls := "LeavesOfMud$Pits", name := "copyFrom", desc := "(LLeavesOfMud$Pits;)V" } : Jvm.MethodName) "LeavesOfMud"),
  (Jvm.Cond.methodLinkNest "LeavesOfMud" (328 : Nat) ({ cls := "LeavesOfMud$Bonds", name := "copyFrom", desc := "(LLeavesOfMud$Bonds;)V" } : Jvm.MethodName) "LeavesOfMud"),
  (Jvm.Cond.methodLinkNest "LeavesOfMud" (331 : Nat) ({ cls := "LeavesOfMud$Pits", name := "leavesOfAll", desc := "()I" } : Jvm.MethodName) "LeavesOfMud"),
  (Jvm.Cond.methodLinkNest "LeavesOfMud" (354 : Nat) ({ cls := "LeavesOfMud$Bonds", name := "foldInto", desc := "(J)J" } : Jvm.MethodName) "LeavesOfMud"),
  (Jvm.Cond.methodLinkNest "LeavesOfMud$Bonds" (51 : Nat) ({ cls := "LeavesOfMud", name := "fold", desc := "(JJ)J" } : Jvm.MethodName) "LeavesOfMud"),
  (Jvm.Cond.methodLinkNest "LeavesOfMud$Bonds" (59 : Nat) ({ cls := "LeavesOfMud", name := "asNumber", desc := "(Z)I" } : Jvm.MethodName) "LeavesOfMud")]
/-- the two texts: constants of Page, Latin-1, their bytes; COMPACT_STRINGS is set -/
def strF1 (o : OM) (q b : Nat) (U : State) : Prop := va_O "java/lang/String" (oA o q) (aA o) U U.heap ∧ va_OF "java/lang/String" "coder" "B" (.int 0) (oA o q) (aA o) U U.heap ∧ va_OF "java/lang/String" "value" "[B" (.ref (oA o b)) (oA o q) (aA o) U U.heap ∧ va_T .byte (oA o b) (shp b).2 (fun j => .int (Int32.ofInt ((stc b).getD j 0))) (aA o) U U.heap
def strF (o : OM) (U : State) : Prop := vk_R "LeavesOfMud$Page" 26 "lwnhfas" (oA o 103) U ∧ vk_R "LeavesOfMud$Page" 32 "ldua" (oA o 104) U ∧ strF1 o 103 105 U ∧ strF1 o 104 106 U ∧ va_Z "java/lang/String" "COMPACT_STRINGS" "Z" (.int 1) (aA o) U U.heap
end
section
-- ===== the machine at a place of a method's code; a block's demand brings it there =====
def wsG : List Cond := lw_tbl.filter goodWord
theorem wsG_mem {w : Cond} (h : w ∈ lw_tbl) (g : goodWord w = true) : w ∈ wsG := List.mem_filter.mpr ⟨h, g⟩
theorem wsG_good : GoodIn wsG wsG := fun w h => ⟨h, good_of_word (List.mem_filter.mp h).2⟩
/-- a method: its name, code, number of locals, what it returns, and the kind of that: 0 nothing, 1 int, 2 boolean, 3 long -/
abbrev Pk : Type := MethodName × ByteArray × Nat × Option FieldType × Nat
abbrev yN (Y : Pk) : MethodName := Y.1
abbrev yB (Y : Pk) : ByteArray := Y.2.1
abbrev yL (Y : Pk) : Nat := Y.2.2.1
abbrev yR (Y : Pk) : Option FieldType := Y.2.2.2.1
abbrev yK (Y : Pk) : Nat := Y.2.2.2.2
def rm (d : Nat) : Room := { frames := d + 1, cells := 0, slots := 0, locals := 100 * (d + 1) }
/-- a static row of ints: where it lies, what it holds -/
def stF (o : OM) (C f : String) (q : Nat) (U : State) : Prop := va_Z C f "[I" (.ref (oA o q)) (aA o) U U.heap ∧ va_T .int (oA o q) (shp q).2 (fun j => .int (Int32.ofInt ((stc q).getD j 0))) (aA o) U U.heap
def Std (o : OM) (U : State) : Prop := va_K (oD o) vwCl (tyO o) U ∧ (∀ w ∈ nestW, va_Nw w U) ∧ inj o ∧
  (stF o "LeavesOfMud$Hands" "PLAIN" 98 U ∧ stF o "LeavesOfMud$Laws" "PLAIN" 99 U ∧ stF o "LeavesOfMud$Pairing" "OF_FIRST" 100 U ∧ stF o "LeavesOfMud$Pairing" "OF_SECOND" 101 U) ∧
  (va_X (oA o 102) (oN o) (oX o) U U.heap ∧ oA o 102 < U.heap.size ∧ ¬ aA o (oA o 102)) ∧ strF o U
/-- the script stands in the store too, at its place; its length at -1 -/
def scr (o : OM) (σ : Sto) : Prop := (σ 103 1 = 0 ∧ σ 104 1 = 0) ∧ σ 102 (-1) = (oN o : Int) ∧ (oN o : Int) ≤ 3072 ∧ ∀ j : Nat, j < oN o → σ 102 j = (oX o j).toInt
def Hs (o : OM) (σ : Sto) (H : Heap) : Prop := HX o σ H ∧ scr o σ
def Wld (o : OM) (σ : Sto) (U : State) : Prop := Std o U ∧ Hs o σ U.heap
def rtk (rt : Nat) (cc : ByteArray) (pc : Nat) : List AV → Prop
  | [] => rt = 0 ∧ decode cc pc = .ok (.return_, 1)
  | [.inl v] => (rt = 1 ∨ (rt = 2 ∧ (v = 0 ∨ v = 1)) ∨ (rt = 4 ∧ v = 0)) ∧ decode cc pc = .ok (.ireturn, 1)
  | [.inr (.inl _)] => rt = 3 ∧ decode cc pc = .ok (.lreturn, 1)
  | _ => False
section CX
variable (o : OM) (Y : Pk) (d : Nat) (Q : List AV → Sto → Prop) (p : Program) (e : Env) (R : Room) (s : State) (m : MethodId) (args : Array Value) (below : List Frame) (meth : Method) (c : Code) (cells slots : Nat) (Z : State → Prop)
def Cx : Prop := p.tables.exec = Jvm.exec ∧ c.code = yB Y ∧ c.maxLocals = yL Y ∧ s.vm.findClass (yN Y).cls = some m.cls ∧ (∀ w ∈ wsG, w.before args s = true) ∧ Std o s ∧ ((rm d).frames ≤ R.frames ∧ (rm d).locals ≤ R.locals ∧ cells ≤ R.cells ∧ slots ≤ R.slots) ∧
  ∀ (H : Heap) (locs : List Loc) (ls : Array Slot) (pc : Nat) (r : List AV) (σ : Sto), Hs o σ H → va_S (aA o) s.heap H locs → okL r → Q r σ → rtk (yK Y) (yB Y) pc r → W p (oL o) e R s m args below meth c H locs cells slots Z (F0 m pc ls (r.map (cv o)))
end CX
def At (o : OM) (Y : Pk) (d : Nat) (Q : List AV → Sto → Prop) (pc : Nat) (S L : List AV) (σ : Sto) : Prop :=
  ∀ (p : Program) (e : Env) (R : Room) (s : State) (m : MethodId) (args : Array Value) (below : List Frame) (meth : Method) (c : Code) (cells slots : Nat) (Z : State → Prop), Cx o Y d Q p e R s m args below meth c cells slots Z →
    ∀ (H : Heap) (locs : List Loc) (ls : Array Slot), Hs o σ H → va_S (aA o) s.heap H locs → lv_has ls (yL Y) (cvL o 0 L) → okL S → okL L → W p (oL o) e R s m args below meth c H locs cells slots Z (F0 m pc ls (S.map (cv o)))
/-- a call that a method makes: the arguments' demand, then what comes back -/
def CallOK (o : OM) (Y : Pk) (d : Nat) (op : Instr) (E : Nat × Ctr) : Prop :=
  ∀ (Q : List AV → Sto → Prop) (p : Program) (e : Env) (R : Room) (s : State) (m : MethodId) (args : Array Value) (below : List Frame) (meth : Method) (c : Code) (cells slots : Nat) (Z : State → Prop), Cx o Y d Q p e R s m args below meth c cells slots Z →
    ∀ (H : Heap) (locs : List Loc) (ls : Array Slot) (pc : Nat) (A rest : List AV) (σ : Sto) (k : List AV → Sto → Prop), decode (yB Y) pc = .ok (op, 3) → Hs o σ H → va_S (aA o) s.heap H locs → ls.size = yL Y → okL A → okL rest → A.length = E.1 → catS rest ≤ 8 → E.2 A σ k →
      (∀ (r : List AV) (σ : Sto) (H : Heap) (locs : List Loc), k r σ → okL r → Hs o σ H → va_S (aA o) s.heap H locs → W p (oL o) e R s m args below meth c H locs cells slots Z (F0 m (pc + 3) ls ((r ++ rest).map (cv o)))) →
      W p (oL o) e R s m args below meth c H locs cells slots Z (F0 m pc ls ((A.reverse ++ rest).map (cv o)))
def rfv (o : OM) (q : Nat) : Value := match q with
  | 999 => .int 1
  | _ => .ref (oA o q)
/-- a reference out of the tables: a static row, a text -/
def RefOK (o : OM) (Y : Pk) (d : Nat) (i q : Nat) : Prop :=
  ∀ (op : Instr) (n : Nat), (op = .getstatic i ∧ n = 3 ∧ ¬ (q = 103 ∨ q = 104)) ∨ (op = .ldc i ∧ n = 2 ∧ (q = 103 ∨ q = 104)) → ∀ (Q : List AV → Sto → Prop) (p : Program) (e : Env) (R : Room) (s : State) (m : MethodId) (args : Array Value) (below : List Frame) (meth : Method) (c : Code) (cells slots : Nat) (Z : State → Prop), Cx o Y d Q p e R s m args below meth c cells slots Z →
    ∀ (H : Heap) (locs : List Loc) (ls : Array Slot) (pc : Nat) (rest : List Value), va_S (aA o) s.heap H locs → decode (yB Y) pc = .ok (op, n) →
      W p (oL o) e R s m args below meth c H locs cells slots Z (F0 m (pc + n) ls (rfv o q :: rest)) → W p (oL o) e R s m args below meth c H locs cells slots Z (F0 m pc ls rest)
/-- a field out of the tables: the code c says class, slot, kind -/
def FldOK (own : String) (i c : Nat) : Prop := ∃ (C : String) (T : u_T) (N : Nat) (ty : Nat → FieldType), vwCl[c / 1000]? = some (C, T, N) ∧ nfl (c / 1000) = N ∧ c / 10 % 100 < N ∧ ftg (c / 1000) (c / 10 % 100) = c % 10 ∧ (T (c / 10 % 100)).1 = C ∧ (∀ w ∈ u_ws C T N, w ∈ wsG) ∧
  (∀ k, k < N → parseFieldDescriptor (T k).2.2.1 = some (ty k)) ∧ (∀ a, a < N → ∀ b, b < N → a ≠ b → (T a).2.1 ≠ (T b).2.1) ∧
  (c % 10 = 0 → ty (c / 10 % 100) = .int) ∧ (c % 10 = 1 → ty (c / 10 % 100) = .long) ∧ (c % 10 = 3 → ty (c / 10 % 100) = .boolean) ∧ (¬ c % 10 = 2 → (T (c / 10 % 100)).2.2.2 = false) ∧
  (Cond.fieldLink own i C (T (c / 10 % 100)).2.1 (T (c / 10 % 100)).2.2.1 ∈ wsG ∨ ∃ host, Cond.fieldLinkNest own i C (T (c / 10 % 100)).2.1 (T (c / 10 % 100)).2.2.1 host ∈ nestW)
/-- a field of a text: value, coder -/
def StrOK (own : String) (i c : Nat) : Prop := own = "java/lang/String" ∧ ((c = 20002 ∧ Cond.fieldLink own i "java/lang/String" "value" "[B" ∈ wsG) ∨ (c = 20015 ∧ Cond.fieldLink own i "java/lang/String" "coder" "B" ∈ wsG))
def Ev (o : OM) (Y : Pk) (d : Nat) (T : Tb) (ca : List (Nat × Ctr)) : Prop := tM T = yL Y ∧ (∀ q ∈ tF T, FldOK (yN Y).cls q.1 q.2 ∨ StrOK (yN Y).cls q.1 q.2) ∧ (∀ q ∈ tI T, Cond.constant (yN Y).cls q.1 (Int32.ofInt q.2) ∈ wsG ∧ i32 q.2) ∧ (∀ q ∈ tJ T, Cond.constantLong (yN Y).cls q.1 (Int64.ofInt q.2) ∈ wsG ∧ i64 q.2) ∧
  (∀ q ∈ tR T, RefOK o Y d q.1 q.2) ∧ (∀ q ∈ tV T, CallOK o Y d (.invokevirtual q.1) (tbl dCa ca q.2)) ∧ (∀ q ∈ tS T, CallOK o Y d (.invokestatic q.1) (tbl dCa ca q.2))
-- the locals
theorem cvL_nth (o : OM) : ∀ (L : List AV) (i k : Nat) (v : AV), nth L i = v → v ≠ vX → (k + i, cv o v) ∈ cvL o k L
  | [], i, k, v, h, hv => by
    cases i <;> exact absurd h.symm hv
  | a :: t, 0, k, v, h, hv => by
    have h : a = v := h
    subst h
    rcases a with a | a | a | a
    · exact List.mem_cons_self
    · exact List.mem_cons_self
    · exact List.mem_cons_self
    · exact absurd rfl hv
  | a :: t, i + 1, k, v, h, hv => by
    have h1 := cvL_nth o t i (k + 1) v h hv
    rw [show k + 1 + i = k + (i + 1) by omega] at h1
    rcases a with a | a | a | a
    · exact List.mem_cons_of_mem _ h1
    · exact List.mem_cons_of_mem _ h1
    · exact List.mem_cons_of_mem _ h1
    · exact h1
theorem cvL_lo (o : OM) : ∀ (L : List AV) (k : Nat) (q : Nat × Value), q ∈ cvL o k L → k ≤ q.1
  | [], _, _, h => by cases h
  | a :: t, k, q, h => by
    rcases a with a | a | a | a
    all_goals first
      | (rcases List.mem_cons.mp h with rfl | h1
         · exact Nat.le_refl _
         · exact Nat.le_of_succ_le (cvL_lo o t (k + 1) q h1))
      | exact Nat.le_of_succ_le (cvL_lo o t (k + 1) q h)
theorem cvL_set (o : OM) : ∀ (L : List AV) (i k : Nat) (v : AV), canSet L i = true → ∀ q ∈ cvL o k (setL L i v), q = (k + i, cv o v) ∨ (q ∈ cvL o k L ∧ q.1 ≠ k + i ∧ (q.1 + 1 = k + i → q.2.category ≠ 2))
  | [], i, k, v, h, q, hq => by
    have h0 : i = 0 := by simpa [canSet] using h
    subst h0
    have hq : q ∈ cvL o k [v] := hq
    rcases v with a | a | a | a
    · exact Or.inl (by simpa [cvL] using hq)
    · exact Or.inl (by simpa [cvL] using hq)
    · exact Or.inl (by simpa [cvL] using hq)
    · cases hq
  | a :: t, 0, k, v, h, q, hq => by
    have hq : q ∈ cvL o k (v :: t) := hq
    have key : q = (k + 0, cv o v) ∨ q ∈ cvL o (k + 1) t := by
      rcases v with b | b | b | b
      · exact List.mem_cons.mp hq
      · exact List.mem_cons.mp hq
      · exact List.mem_cons.mp hq
      · exact Or.inr hq
    rcases key with h1 | h1
    · exact Or.inl h1
    · have h2 := cvL_lo o t (k + 1) q h1
      refine Or.inr ⟨?_, by omega, by omega⟩
      rcases a with b | b | b | b
      · exact List.mem_cons_of_mem _ h1
      · exact List.mem_cons_of_mem _ h1
      · exact List.mem_cons_of_mem _ h1
      · exact h1
  | a :: t, i + 1, k, v, h, q, hq => by
    have hq : q ∈ cvL o k (a :: setL t i v) := hq
    have key : ∀ w, cv o a = w → a ≠ vX → (q = (k, w) ∨ q ∈ cvL o (k + 1) (setL t i v)) := by
      intro w hw ha
      rcases a with b | b | b | b
      · subst hw; exact List.mem_cons.mp hq
      · subst hw; exact List.mem_cons.mp hq
      · subst hw; exact List.mem_cons.mp hq
      · exact absurd rfl ha
    have hcs : canSet t i = true := by
      rcases a with b | b | b | b
      · cases i <;> exact h
      · cases i with
        | zero => cases h
        | succ i => exact h
      · cases i <;> exact h
      · cases i <;> exact h
    have up : ∀ q, q ∈ cvL o (k + 1) t → q ∈ cvL o k (a :: t) := by
      intro q h1
      rcases a with b | b | b | b
      · exact List.mem_cons_of_mem _ h1
      · exact List.mem_cons_of_mem _ h1
      · exact List.mem_cons_of_mem _ h1
      · exact h1
    by_cases ha : a = vX
    · subst ha
      have hq : q ∈ cvL o (k + 1) (setL t i v) := hq
      rcases cvL_set o t i (k + 1) v hcs q hq with h1 | ⟨h1, h2, h3⟩
      · exact Or.inl (by rw [h1]; congr 1; omega)
      · exact Or.inr ⟨up q h1, by omega, fun e => h3 (by omega)⟩
    · rcases key _ rfl ha with h1 | hq
      · refine Or.inr ⟨?_, by rw [h1]; show k ≠ _; omega, ?_⟩
        · rw [h1]
          rcases a with b | b | b | b
          · exact List.mem_cons_self
          · exact List.mem_cons_self
          · exact List.mem_cons_self
          · exact absurd rfl ha
        · intro e hc
          rw [h1] at e hc
          have e : i = 0 := by have : k + 1 = k + (i + 1) := e; omega
          subst e
          rcases a with b | b | b | b
          · simp [cv, Value.category] at hc
          · cases h
          · simp [cv, Value.category] at hc
          · exact absurd rfl ha
      · rcases cvL_set o t i (k + 1) v hcs q hq with h1 | ⟨h1, h2, h3⟩
        · exact Or.inl (by rw [h1]; congr 1; omega)
        · exact Or.inr ⟨up q h1, by omega, fun e => h3 (by omega)⟩
theorem cvL_take (o : OM) : ∀ (L : List AV) (n k : Nat) (q : Nat × Value), q ∈ cvL o k (L.take n) → q ∈ cvL o k L
  | [], n, k, q, h => by simpa using h
  | a :: t, 0, k, q, h => by cases h
  | a :: t, n + 1, k, q, h => by
    have h : q ∈ cvL o k (a :: t.take n) := h
    rcases a with b | b | b | b
    · rcases List.mem_cons.mp h with h | h
      · exact List.mem_cons.mpr (Or.inl h)
      · exact List.mem_cons_of_mem _ (cvL_take o t n (k + 1) q h)
    · rcases List.mem_cons.mp h with h | h
      · exact List.mem_cons.mpr (Or.inl h)
      · exact List.mem_cons_of_mem _ (cvL_take o t n (k + 1) q h)
    · rcases List.mem_cons.mp h with h | h
      · exact List.mem_cons.mpr (Or.inl h)
      · exact List.mem_cons_of_mem _ (cvL_take o t n (k + 1) q h)
    · exact cvL_take o t n (k + 1) q h
theorem lv_mono {ls : Array Slot} {n : Nat} {l l' : List (Nat × Value)} (h : lv_has ls n l) (hs : ∀ q ∈ l', q ∈ l) : lv_has ls n l' := ⟨h.1, h.2.1, fun q hq => h.2.2 q (hs q hq)⟩
theorem okL_take {L : List AV} (h : okL L) (n : Nat) : okL (L.take n) := fun v hv => h v (List.mem_of_mem_take hv)
theorem okL_nth {L : List AV} (h : okL L) (n : Nat) : okv (nth L n) := by
  induction L generalizing n with
  | nil => cases n <;> exact trivial
  | cons a t ih =>
    cases n with
    | zero => exact h a List.mem_cons_self
    | succ n => exact ih (fun v hv => h v (List.mem_cons_of_mem _ hv)) n
theorem okL_set {L : List AV} (h : okL L) {v : AV} (hv : okv v) (n : Nat) : okL (setL L n v) := by
  induction L generalizing n with
  | nil => intro w hw; rw [List.mem_singleton.mp hw]; exact hv
  | cons a t ih =>
    cases n with
    | zero =>
      intro w hw
      rcases List.mem_cons.mp hw with rfl | hw
      · exact hv
      · exact h w (List.mem_cons_of_mem _ hw)
    | succ n =>
      intro w hw
      rcases List.mem_cons.mp hw with rfl | hw
      · exact h w List.mem_cons_self
      · exact ih (fun v hv => h v (List.mem_cons_of_mem _ hv)) n w hw
theorem okL_cons {v : AV} {L : List AV} : okL (v :: L) ↔ okv v ∧ okL L := ⟨fun h => ⟨h v List.mem_cons_self, fun w hw => h w (List.mem_cons_of_mem _ hw)⟩, fun h w hw => (List.mem_cons.mp hw).elim (fun e => e ▸ h.1) (h.2 w)⟩
theorem okL_app {L M : List AV} (h : okL L) (g : okL M) : okL (L ++ M) := fun v hv => (List.mem_append.mp hv).elim (h v) (g v)
/-- storing one value into the locals -/
theorem lv_st {o : OM} {n i : Nat} {L : List AV} {v : AV} (h : canSet L i = true) {lv' : List (Nat × Value)} {ls' : Array Slot} (hl : lv' = (i, cv o v) :: (cvL o 0 L).filter (fun q => !(q.1 == i) && !(q.1 + 1 == i && q.2.category == 2))) (hh : lv_has ls' n lv') : lv_has ls' n (cvL o 0 (setL L i v)) := by
  refine lv_mono hh fun q hq => ?_
  rw [hl]
  rcases cvL_set o L i 0 v h q hq with h1 | ⟨h1, h2, h3⟩
  · rw [h1, Nat.zero_add]; exact List.mem_cons_self
  · refine List.mem_cons_of_mem _ (List.mem_filter.mpr ⟨h1, ?_⟩)
    rw [Nat.zero_add] at h2 h3
    by_cases e : q.1 + 1 = i
    · simp [h2, e, h3 e]
    · simp [h2, e]
theorem setL_X {o : OM} : ∀ (L : List AV) (i k : Nat) (q : Nat × Value), q ∈ cvL o k (setL L i vX) → (q ∈ cvL o k L ∧ q.1 ≠ k + i)
  | [], i, k, q, h => by cases h
  | a :: t, 0, k, q, h => by
    have h : q ∈ cvL o (k + 1) t := h
    have h2 := cvL_lo o t (k + 1) q h
    refine ⟨?_, by omega⟩
    rcases a with b | b | b | b
    · exact List.mem_cons_of_mem _ h
    · exact List.mem_cons_of_mem _ h
    · exact List.mem_cons_of_mem _ h
    · exact h
  | a :: t, i + 1, k, q, h => by
    have h : q ∈ cvL o k (a :: setL t i vX) := h
    rcases a with b | b | b | b
    all_goals first
      | (rcases List.mem_cons.mp h with h1 | h1
         · exact ⟨by rw [h1]; exact List.mem_cons_self, by rw [h1]; show k ≠ _; omega⟩
         · obtain ⟨h2, h3⟩ := setL_X t i (k + 1) q h1
           exact ⟨List.mem_cons_of_mem _ h2, by omega⟩)
      | (obtain ⟨h2, h3⟩ := setL_X t i (k + 1) q h
         exact ⟨h2, by omega⟩)
theorem lv_st2 {o : OM} {n i : Nat} {L : List AV} {v : AV} (h : canSet L i = true) {lv' : List (Nat × Value)} {ls' : Array Slot} (hl : lv' = (i, cv o v) :: (cvL o 0 L).filter (fun q => !(q.1 == i) && (!(q.1 == i + 1) && !(q.1 + 1 == i && q.2.category == 2)))) (hh : lv_has ls' n lv') : lv_has ls' n (cvL o 0 (setL (setL L i v) (i + 1) vX)) := by
  refine lv_mono hh fun q hq => ?_
  rw [hl]
  obtain ⟨hq, hq2⟩ := setL_X _ _ _ q hq
  rcases cvL_set o L i 0 v h q hq with h1 | ⟨h1, h2, h3⟩
  · rw [h1, Nat.zero_add]; exact List.mem_cons_self
  · refine List.mem_cons_of_mem _ (List.mem_filter.mpr ⟨h1, ?_⟩)
    rw [Nat.zero_add] at h2 h3 hq2
    by_cases e : q.1 + 1 = i
    · simp [h2, e, h3 e, hq2]
    · simp [h2, e, hq2]
end
section
-- ===== a block's demand brings the machine to its end =====
theorem grd_s {α : Type} {b : Bool} {x : Option α} {y : α} (h : grd b x = some y) : b = true ∧ x = some y := by
  unfold grd at h
  split at h
  · exact ⟨by assumption, h⟩
  · cases h
theorem map_s {α β : Type} {x : Option α} {f : α → β} {y : β} (h : x.map f = some y) : ∃ a, x = some a ∧ f a = y := by
  cases x with
  | none => cases h
  | some a => exact ⟨a, rfl, by cases h; rfl⟩
theorem shp_3 : ∀ q ci : Nat, shp q = (3, ci) → ci < 10 → q < NP := by
  intro q ci h hc
  have h1 : ∀ q, q < 107 → (shp q).1 = 3 → (shp q).2 < 10 → q < NP := by decide +kernel
  by_cases hq : q < 107
  · exact h1 q hq (by rw [h]) (by rw [h]; exact hc)
  · exfalso
    unfold shp at h
    split at h <;> first | omega | (cases h)
theorem shp_012 : ∀ q : Nat, (shp q).1 ≤ 2 → q < NP := by
  intro q h
  have h1 : ∀ q, q < 107 → (shp q).1 ≤ 2 → q < NP := by decide +kernel
  by_cases hq : q < 107
  · exact h1 q hq h
  · exfalso
    unfold shp at h
    split at h <;> first | omega | (revert h; decide)
theorem shp_4 : ∀ q : Nat, (shp q).1 = 4 → q = 98 ∨ q = 99 ∨ q = 100 ∨ q = 101 := by
  intro q h
  have h1 : ∀ q, q < 107 → (shp q).1 = 4 → q = 98 ∨ q = 99 ∨ q = 100 ∨ q = 101 := by decide +kernel
  by_cases hq : q < 107
  · exact h1 q hq h
  · exfalso
    unfold shp at h
    split at h <;> first | omega | (revert h; decide)
theorem shp_5 : ∀ q : Nat, (shp q).1 = 5 → q = 102 := by
  intro q h
  have h1 : ∀ q, q < 107 → (shp q).1 = 5 → q = 102 := by decide +kernel
  by_cases hq : q < 107
  · exact h1 q hq h
  · exfalso
    unfold shp at h
    split at h <;> first | omega | (revert h; decide)
theorem shp_7 : ∀ q : Nat, (shp q).1 = 7 → q = 105 ∨ q = 106 := by
  intro q h
  have h1 : ∀ q, q < 107 → (shp q).1 = 7 → q = 105 ∨ q = 106 := by decide +kernel
  by_cases hq : q < 107
  · exact h1 q hq h
  · exfalso
    unfold shp at h
    split at h <;> first | omega | (revert h; decide)
theorem shp_20 : ∀ q : Nat, shp q = (3, 20) → q = 103 ∨ q = 104 := by
  intro q h
  have h1 : ∀ q, q < 107 → shp q = (3, 20) → q = 103 ∨ q = 104 := by decide +kernel
  by_cases hq : q < 107
  · exact h1 q hq h
  · exfalso
    unfold shp at h
    split at h <;> first | omega | (revert h; decide)
theorem stc_in : ∀ q j : Nat, i32 ((stc q).getD j 0) := by
  intro q j
  have h0 : ∀ (l : List Int), (∀ v ∈ l, i32 v) → i32 (l.getD j 0) := by
    intro l hl
    rw [List.getD_eq_getElem?_getD]
    cases h : l[j]? with
    | none => exact i32_0
    | some v => exact hl v (List.mem_of_getElem? h)
  apply h0
  unfold stc
  split <;> (unfold i32; decide)
theorem lng_not {q : Nat} {i : Int} (h : ¬ (shp q).1 = 3) : ¬ lng q i := fun z => h z.1
theorem su_okv {σ : Sto} {q : Nat} {i x : Int} (h : okS σ) (hk : ¬ (shp q).1 = 3) (hx : i32 x) : okS (su σ q i x) := okS_su h ⟨fun z => absurd z (lng_not hk), fun _ => hx⟩
theorem okS_at {σ : Sto} {q : Nat} {i : Int} (h : okS σ) (hk : ¬ (shp q).1 = 3) : i32 (σ q i) := (h q i).2 (lng_not hk)
theorem scr_su {o : OM} {σ : Sto} {q : Nat} {i x : Int} (h : scr o σ) (hq : q < NP) : scr o (su σ q i x) := by
  have hne : ∀ k, NP ≤ k → su σ q i x k = σ k := fun k hk => su_ne k (by omega)
  unfold scr
  rw [hne 102 (by decide), hne 103 (by decide), hne 104 (by decide)]
  exact h
theorem nar_z {x : Int} (h : x = 0 ∨ x = 1) : vp_nar .boolean (Int32.ofInt x) = Int32.ofInt x := by rcases h with rfl | rfl <;> decide
theorem nar_z2 {x : Int} (h : x = 0 ∨ x = 1) : narrow .boolean (.int (Int32.ofInt x)) = .int (Int32.ofInt x) ∧ fits .boolean (.int (Int32.ofInt x)) = true := by rcases h with rfl | rfl <;> exact ⟨by decide, by decide⟩
theorem upd_of {σ : Sto} {q : Nat} {i x : Int} (hi : i32 i) (h0 : 0 ≤ i) : upd (fun j : Nat => Int32.ofInt (σ q (j : Int))) (Int32.ofInt i).toNatClampNeg (Int32.ofInt x) = fun j : Nat => Int32.ofInt (su σ q i x q (j : Int)) := by
  funext j
  rw [clampI hi h0, su_eq]
  unfold upd
  by_cases h : j = i.toNat
  · have : (j : Int) = i := by omega
    rw [if_pos h]
    show _ = Int32.ofInt (if (j : Int) = i then x else σ q j)
    rw [if_pos this]
  · have : ¬ (j : Int) = i := by omega
    rw [if_neg h]
    show _ = Int32.ofInt (if (j : Int) = i then x else σ q j)
    rw [if_neg this]
theorem fld_cv {o : OM} {σ : Sto} {q c ci : Nat} (hq : shp q = (3, ci)) (ht : ftg ci (c / 10 % 100) = c % 10) : fld o σ q (c / 10 % 100) = cv o (rdF c q σ) := by
  unfold fld rdF
  rw [hq]
  show (match ftg ci (c / 10 % 100) with | 1 => _ | 2 => _ | _ => _) = _
  rw [ht]
  generalize c % 10 = t
  rcases t with _ | _ | _ | t <;> rfl
theorem rdF_ok {σ : Sto} {q c ci : Nat} (h : okS σ) (hq : shp q = (3, ci)) (ht : ftg ci (c / 10 % 100) = c % 10) : okv (rdF c q σ) := by
  have hl : ∀ x : Int, x = ((c / 10 % 100 : Nat) : Int) → (lng q x ↔ c % 10 = 1) := by
    intro x hx
    subst hx
    unfold lng
    rw [hq, Int.toNat_natCast, ht]
    simp
  have h1 := h q ((c / 10 % 100 : Nat) : Int)
  rw [hl _ rfl] at h1
  unfold rdF
  generalize hc : c % 10 = t at h1
  rcases t with _ | _ | _ | t
  · exact h1.2 (by omega)
  · exact h1.1 rfl
  · trivial
  · exact h1.2 (by omega)
theorem fs_at {o : OM} {σ : Sto} {q N k : Nat} (hk : k < N) : ((List.range N).map (fld o σ q))[k]? = some (fld o σ q k) := by
  rw [List.getElem?_map, List.getElem?_range hk]
  rfl
theorem fs_set {o : OM} {σ σ' : Sto} {q N k : Nat} {v : Value} (hv : v = fld o σ' q k) (hne : ∀ j, j ≠ k → fld o σ' q j = fld o σ q j) : ((List.range N).map (fld o σ q)).set k v = (List.range N).map (fld o σ' q) := by
  apply List.ext_getElem?
  intro j
  by_cases hj : j = k
  · subst hj
    by_cases hN : j < N
    · rw [List.getElem?_set_self (by simp [hN]), fs_at hN, hv]
    · rw [List.getElem?_eq_none (by simp; omega), List.getElem?_eq_none (by simp; omega)]
  · rw [List.getElem?_set_ne (Ne.symm hj), List.getElem?_map, List.getElem?_map]
    by_cases hN : j < N
    · rw [List.getElem?_range hN]
      simp [hne j hj]
    · rw [List.getElem?_eq_none (by simp; omega)]
      rfl
theorem cel_3 {o : OM} {σ : Sto} {q ci : Nat} (h : shp q = (3, ci)) : cel o σ q = .inr (ci, (List.range (nfl ci)).map (fld o σ q)) := by
  unfold cel
  rw [h]; rfl
theorem cel_0 {o : OM} {σ : Sto} {q : Nat} (h : (shp q).1 = 0) : cel o σ q = .inl (oC o 0, (shp q).2, .inl (fun j => Int32.ofInt (σ q j))) := by
  unfold cel
  rw [h]; rfl
theorem cel_1 {o : OM} {σ : Sto} {q : Nat} (h : (shp q).1 = 1) : cel o σ q = .inl (oC o 1, (shp q).2, .inl (fun j => Int32.ofInt (σ q j))) := by
  unfold cel
  rw [h]; rfl
theorem cel_2 {o : OM} {σ : Sto} {q : Nat} (h : (shp q).1 = 2) : cel o σ q = .inl (oC o 2, (shp q).2, .inr (.inr (.inr (.inr (fun j => some (oA o (rfs q j))))))) := by
  unfold cel
  rw [h]; rfl
theorem lg_c {a b : Int} (ha : i64 a) (hb : i64 b) : lg_cmp (Int64.ofInt a) (Int64.ofInt b) = Int32.ofInt (lCmp a b) := by
  unfold lg_cmp lCmp
  by_cases h : b < a
  · rw [if_pos h, if_pos ((i64_lt hb ha).mpr h)]; rfl
  · rw [if_neg h, if_neg (fun z => h ((i64_lt hb ha).mp z))]
    by_cases e : a = b
    · rw [if_pos e, if_pos ((i64_eq ha hb).mpr e)]; rfl
    · rw [if_neg e, if_neg (fun z => e ((i64_eq ha hb).mp z))]; rfl
theorem lCmp_in (a b : Int) : i32 (lCmp a b) := by
  unfold lCmp i32
  split
  · decide
  · split <;> decide
theorem swK_at {lv : List (Nat × Nat)} {K : Nat → List AV → List AV → Sto → Prop} {S L : List AV} {σ : Sto} : ∀ (os : List Int) (x lo : Int), swK lv K S L σ x lo os → ∀ (j : Nat) (t : Int), os[j]? = some t → x = lo + j → K t.toNat S (tk lv t.toNat L) σ
  | [], _, _, _, j, t, h, _ => by simp at h
  | a :: os, x, lo, h, 0, t, hj, hx => by
    have : a = t := by simpa using hj
    subst this
    exact h.1 (by simpa using hx)
  | a :: os, x, lo, h, j + 1, t, hj, hx => swK_at os x (lo + 1) h.2 j t (by simpa using hj) (by rw [hx]; push_cast; omega)
theorem b8 {v : Int} (h1 : -128 ≤ v) (h2 : v ≤ 127) : (Int8.ofInt v).toInt32 = Int32.ofInt v := by
  rw [← Int32.toInt_inj, Int8.toInt_toInt32, i32_to ⟨by omega, by omega⟩, Int8.toInt_ofInt]
  exact Int.bmod_eq_of_le (by simp [Int8.size]; omega) (by simp [Int8.size]; omega)
theorem b16 {v : Int} (h1 : -32768 ≤ v) (h2 : v ≤ 32767) : (Int16.ofInt v).toInt32 = Int32.ofInt v := by
  rw [← Int32.toInt_inj, Int16.toInt_toInt32, i32_to ⟨by omega, by omega⟩, Int16.toInt_ofInt]
  exact Int.bmod_eq_of_le (by simp [Int16.size]; omega) (by simp [Int16.size]; omega)
theorem rfv_ne {o : OM} {q : Nat} (h : ¬ q = 999) : rfv o q = .ref (oA o q) := by
  unfold rfv
  split
  · exact absurd rfl h
  · rfl
theorem len_ofInt (n : Nat) : Int32.ofNat n = Int32.ofInt (n : Int) := rfl
theorem len_in (q : Nat) : i32 ((shp q).2 : Int) := by
  have h : (shp q).2 ≤ 3072 := by
    unfold shp
    split <;> decide
  constructor <;> omega
theorem putf_c {ca : List (Nat × Ctr)} {lv : List (Nat × Nat)} {rt : Nat} {K : Nat → List AV → List AV → Sto → Prop} {Q : List AV → Sto → Prop} {cd : Nat} {S L : List AV} {σ : Sto} {k : List AV → List AV → Sto → Prop} (hw : step ca lv rt K Q (.putfield cd) S L σ k) :
    ∃ (v : AV) (x : Int) (q : Nat) (S1 : List AV), S = v :: vR q :: S1 ∧ shp q = (3, cd / 1000) ∧ k S1 L (su σ q ((cd / 10 % 100 : Nat) : Int) x) ∧ ((cd % 10 = 0 ∧ v = vI x) ∨ (cd % 10 = 1 ∧ v = vL x) ∨ (cd % 10 = 3 ∧ v = vI x ∧ (x = 0 ∨ x = 1))) := by
  simp only [step] at hw
  split at hw
  · rename_i h; exact ⟨_, _, _, _, rfl, hw.1, hw.2, Or.inl ⟨h, rfl⟩⟩
  · rename_i h; exact ⟨_, _, _, _, rfl, hw.1, hw.2, Or.inr (Or.inl ⟨h, rfl⟩)⟩
  · rename_i h; exact ⟨_, _, _, _, rfl, hw.1, hw.2.2, Or.inr (Or.inr ⟨h, rfl, hw.2.1⟩)⟩
  · exact hw.elim
end
section
-- ===== THE MACHINE DOES WHAT A BLOCK ASKS =====
set_option maxHeartbeats 8000000 in
set_option maxRecDepth 20000 in
theorem at_wp {o : OM} {Y : Pk} {d : Nat} {Q : List AV → Sto → Prop} {T : Tb} {ca : List (Nat × Ctr)} {lv : List (Nat × Nat)} {K : Nat → List AV → List AV → Sto → Prop} {f : Nat} (hEv : Ev o Y d T ca) (hK : ∀ t S L σ, K t S L σ → At o Y d Q t S L σ) :
    ∀ (is : List Instr) (pc : Nat) (S L : List AV) (σ : Sto), chk T (yB Y) f is pc = true → wp ca lv (yK Y) K Q f is S L σ → At o Y d Q pc S L σ
  | [], pc, S, L, σ, hc, hw => by
    have hc : pc = f := by simpa [chk] using hc
    subst hc
    intro p e R s m args below meth c cells slots Z C0 H locs ls hH hS hl hoS hoL
    exact hK _ _ _ _ hw p e R s m args below meth c cells slots Z C0 H locs ls hH hS (lv_mono hl (fun q hq => cvL_take o L _ 0 q hq)) hoS (okL_take hoL _)
  | i :: r, pc, S, L, σ, hc, hw => by
    intro p e R s m args below meth c cells slots Z C0 H locs ls hH hS hl hoS hoL
    obtain ⟨hx, hb, hml, hown, hts, hst, hR, hret⟩ := id C0
    obtain ⟨hEM, hEF, hEI, hEJ, hER, hEV, hES⟩ := id hEv
    unfold chk at hc
    cases hdec : decode (yB Y) pc with
    | error x => rw [hdec] at hc; cases hc
    | ok jn =>
    obtain ⟨j, n⟩ := jn
    rw [hdec] at hc
    have hc2 : rz T pc n j = some i ∧ chk T (yB Y) f r (pc + n) = true := by simpa using hc
    obtain ⟨hz, hchk⟩ := hc2
    have go : ∀ (S L : List AV) (σ : Sto) (H : Heap) (locs : List Loc) (ls : Array Slot), wp ca lv (yK Y) K Q f r S L σ → Hs o σ H → va_S (aA o) s.heap H locs → lv_has ls (yL Y) (cvL o 0 L) → okL S → okL L → W p (oL o) e R s m args below meth c H locs cells slots Z (F0 m (pc + n) ls (S.map (cv o))) := fun S L σ H locs ls h1 h2 h3 h4 h5 h6 => at_wp hEv hK r (pc + n) S L σ hchk h1 p e R s m args below meth c cells slots Z C0 H locs ls h2 h3 h4 h5 h6
    have jmp : ∀ (t : Nat) (S : List AV), K t S (tk lv t L) σ → okL S → W p (oL o) e R s m args below meth c H locs cells slots Z (F0 m t ls (S.map (cv o))) := fun t S h1 h2 => hK _ _ _ _ h1 p e R s m args below meth c cells slots Z C0 H locs ls hH hS (lv_mono hl (fun q hq => cvL_take o L _ 0 q hq)) h2 (okL_take hoL _)
    have hw : step ca lv (yK Y) K Q i S L σ (wp ca lv (yK Y) K Q f r) := hw
    cases j

    case iconst v =>
      obtain ⟨hn, hi⟩ := grd_s hz
      cases hi
      simp only [Bool.and_eq_true, beq_iff_eq, decide_eq_true_eq] at hn
      obtain ⟨⟨hn, h1⟩, h2⟩ := hn
      subst hn
      exact lv_iconst hx hb hdec rfl (go (vI v :: S) L σ H locs ls hw hH hS hl (okL_cons.mpr ⟨⟨by omega, by omega⟩, hoS⟩) hoL)
    case bipush v =>
      obtain ⟨hn, hi⟩ := grd_s hz
      cases hi
      simp only [Bool.and_eq_true, beq_iff_eq, decide_eq_true_eq] at hn
      obtain ⟨⟨hn, h1⟩, h2⟩ := hn
      subst hn
      exact lv_bipush hx hb hdec (b8 h1 h2) (go (vI v :: S) L σ H locs ls hw hH hS hl (okL_cons.mpr ⟨⟨by omega, by omega⟩, hoS⟩) hoL)
    case sipush v =>
      obtain ⟨hn, hi⟩ := grd_s hz
      cases hi
      simp only [Bool.and_eq_true, beq_iff_eq, decide_eq_true_eq] at hn
      obtain ⟨⟨hn, h1⟩, h2⟩ := hn
      subst hn
      exact lv_sipush hx hb hdec (b16 h1 h2) (go (vI v :: S) L σ H locs ls hw hH hS hl (okL_cons.mpr ⟨⟨by omega, by omega⟩, hoS⟩) hoL)
    case ldc ix =>
      obtain ⟨hn, hi⟩ := grd_s hz
      have hn : n = 2 := by simpa using hn
      subst hn
      cases hlk : look (tI T) ix with
      | some v =>
        rw [hlk] at hi
        cases hi
        obtain ⟨h1, h2⟩ := hEI _ (look_mem hlk)
        exact lv_ldc hx hb hown (hts _ h1) hdec (go (vI v :: S) L σ H locs ls hw hH hS hl (okL_cons.mpr ⟨h2, hoS⟩) hoL)
      | none =>
        rw [hlk] at hi
        have hi : (match look (tR T) ix with
          | some q => grd (q == 103 || q == 104) (some (Instr.anewarray q))
          | none => none) = some i := hi
        cases hq : look (tR T) ix with
        | none => rw [hq] at hi; cases hi
        | some q =>
          rw [hq] at hi
          obtain ⟨h3, hi⟩ := grd_s hi
          cases hi
          have h3 : q = 103 ∨ q = 104 := by simpa using h3
          have h9 : ¬ q = 999 := by omega
          have h := go (vR q :: S) L σ H locs ls hw hH hS hl (okL_cons.mpr ⟨trivial, hoS⟩) hoL
          exact hER _ (look_mem hq) _ _ (Or.inr ⟨rfl, rfl, h3⟩) Q p e R s m args below meth c cells slots Z C0 H locs ls pc _ hS hdec (by rw [rfv_ne h9]; exact h)
    case ldc_w ix =>
      obtain ⟨hn, hi⟩ := grd_s hz
      have hn : n = 3 := by simpa using hn
      subst hn
      obtain ⟨v, hq, rfl⟩ := map_s hi
      obtain ⟨h1, h2⟩ := hEI _ (look_mem hq)
      exact lv_ldcw hx hb hown (hts _ h1) hdec (go (vI v :: S) L σ H locs ls hw hH hS hl (okL_cons.mpr ⟨h2, hoS⟩) hoL)
    case ldc2_w ix =>
      obtain ⟨hn, hi⟩ := grd_s hz
      have hn : n = 3 := by simpa using hn
      subst hn
      obtain ⟨v, hq, rfl⟩ := map_s hi
      obtain ⟨h1, h2⟩ := hEJ _ (look_mem hq)
      exact lv_ldc2 hx hb hown (hts _ h1) hdec (go (vL v :: S) L σ H locs ls hw hH hS hl (okL_cons.mpr ⟨h2, hoS⟩) hoL)
    case lconst v =>
      obtain ⟨hn, hi⟩ := grd_s hz
      have hn : n = 1 := by simpa using hn
      subst hn
      cases hi
      exact lv_lconst hx hb hdec rfl (go (vL v.val :: S) L σ H locs ls hw hH hS hl (okL_cons.mpr ⟨⟨by omega, by omega⟩, hoS⟩) hoL)
    case getstatic ix =>
      obtain ⟨hn, hi⟩ := grd_s hz
      have hn : n = 3 := by simpa using hn
      subst hn
      have hi : (match look (tR T) ix with
        | some q => if q = 999 then some (.iconst 1) else grd (!(q == 103 || q == 104)) (some (Instr.anewarray q))
        | none => none) = some i := hi
      cases hlk : look (tR T) ix with
      | none => rw [hlk] at hi; cases hi
      | some q =>
        rw [hlk] at hi
        have hi : (if q = 999 then some (.iconst 1) else grd (!(q == 103 || q == 104)) (some (Instr.anewarray q))) = some i := hi
        by_cases h9 : q = 999
        · subst h9
          cases hi
          exact hER _ (look_mem hlk) _ _ (Or.inl ⟨rfl, rfl, show ¬ ((999 : Nat) = 103 ∨ (999 : Nat) = 104) by decide⟩) Q p e R s m args below meth c cells slots Z C0 H locs ls pc _ hS hdec (go (vI 1 :: S) L σ H locs ls hw hH hS hl (okL_cons.mpr ⟨⟨by decide, by decide⟩, hoS⟩) hoL)
        · rw [if_neg h9] at hi
          obtain ⟨h3, hi⟩ := grd_s hi
          cases hi
          have h3 : ¬ (q = 103 ∨ q = 104) := by simpa using h3
          have h := go (vR q :: S) L σ H locs ls hw hH hS hl (okL_cons.mpr ⟨trivial, hoS⟩) hoL
          exact hER _ (look_mem hlk) _ _ (Or.inl ⟨rfl, rfl, h3⟩) Q p e R s m args below meth c cells slots Z C0 H locs ls pc _ hS hdec (by rw [rfv_ne h9]; exact h)
    case iload_n v =>
      obtain ⟨hn, hi⟩ := grd_s hz
      have hn : n = 1 := by simpa using hn
      subst hn
      cases hi
      have hv := okL_nth hoL (v.val)
      have hm : ∀ w, nth L (v.val) = w → w ≠ vX → ls[(v.val)]? = some (.val (cv o w)) := fun w h1 h2 => by
        have := hl.2.2 _ (cvL_nth o L (v.val) 0 w h1 h2)
        rwa [Nat.zero_add] at this
      have hw : (match nth L (v.val) with | .inl x => wp ca lv (yK Y) K Q f r (vI x :: S) L σ | _ => False) := hw
      generalize hnt : nth L (v.val) = w at hw hv
      rcases w with x | x | x | x
      · exact lv_iload_n hx hb hdec rfl (hm _ hnt (by intro z; cases z)) (go (vI x :: S) L σ H locs ls hw hH hS hl (okL_cons.mpr ⟨hv, hoS⟩) hoL)
      · exact False.elim hw
      · exact False.elim hw
      · exact False.elim hw
    case iload v =>
      obtain ⟨hn, hi⟩ := grd_s hz
      have hn : n = 2 := by simpa using hn
      subst hn
      cases hi
      have hv := okL_nth hoL (v)
      have hm : ∀ w, nth L (v) = w → w ≠ vX → ls[(v)]? = some (.val (cv o w)) := fun w h1 h2 => by
        have := hl.2.2 _ (cvL_nth o L (v) 0 w h1 h2)
        rwa [Nat.zero_add] at this
      have hw : (match nth L (v) with | .inl x => wp ca lv (yK Y) K Q f r (vI x :: S) L σ | _ => False) := hw
      generalize hnt : nth L (v) = w at hw hv
      rcases w with x | x | x | x
      · exact lv_iload hx hb hdec (hm _ hnt (by intro z; cases z)) (go (vI x :: S) L σ H locs ls hw hH hS hl (okL_cons.mpr ⟨hv, hoS⟩) hoL)
      · exact False.elim hw
      · exact False.elim hw
      · exact False.elim hw
    case lload_n v =>
      obtain ⟨hn, hi⟩ := grd_s hz
      have hn : n = 1 := by simpa using hn
      subst hn
      cases hi
      have hv := okL_nth hoL (v.val)
      have hm : ∀ w, nth L (v.val) = w → w ≠ vX → ls[(v.val)]? = some (.val (cv o w)) := fun w h1 h2 => by
        have := hl.2.2 _ (cvL_nth o L (v.val) 0 w h1 h2)
        rwa [Nat.zero_add] at this
      have hw : (match nth L (v.val) with | .inr (.inl x) => wp ca lv (yK Y) K Q f r (vL x :: S) L σ | _ => False) := hw
      generalize hnt : nth L (v.val) = w at hw hv
      rcases w with x | x | x | x
      · exact False.elim hw
      · exact lv_lload_n hx hb hdec rfl (hm _ hnt (by intro z; cases z)) (go (vL x :: S) L σ H locs ls hw hH hS hl (okL_cons.mpr ⟨hv, hoS⟩) hoL)
      · exact False.elim hw
      · exact False.elim hw
    case lload v =>
      obtain ⟨hn, hi⟩ := grd_s hz
      have hn : n = 2 := by simpa using hn
      subst hn
      cases hi
      have hv := okL_nth hoL (v)
      have hm : ∀ w, nth L (v) = w → w ≠ vX → ls[(v)]? = some (.val (cv o w)) := fun w h1 h2 => by
        have := hl.2.2 _ (cvL_nth o L (v) 0 w h1 h2)
        rwa [Nat.zero_add] at this
      have hw : (match nth L (v) with | .inr (.inl x) => wp ca lv (yK Y) K Q f r (vL x :: S) L σ | _ => False) := hw
      generalize hnt : nth L (v) = w at hw hv
      rcases w with x | x | x | x
      · exact False.elim hw
      · exact lv_lload hx hb hdec (hm _ hnt (by intro z; cases z)) (go (vL x :: S) L σ H locs ls hw hH hS hl (okL_cons.mpr ⟨hv, hoS⟩) hoL)
      · exact False.elim hw
      · exact False.elim hw
    case aload_n v =>
      obtain ⟨hn, hi⟩ := grd_s hz
      have hn : n = 1 := by simpa using hn
      subst hn
      cases hi
      have hv := okL_nth hoL (v.val)
      have hm : ∀ w, nth L (v.val) = w → w ≠ vX → ls[(v.val)]? = some (.val (cv o w)) := fun w h1 h2 => by
        have := hl.2.2 _ (cvL_nth o L (v.val) 0 w h1 h2)
        rwa [Nat.zero_add] at this
      have hw : (match nth L (v.val) with | .inr (.inr (.inl x)) => wp ca lv (yK Y) K Q f r (vR x :: S) L σ | _ => False) := hw
      generalize hnt : nth L (v.val) = w at hw hv
      rcases w with x | x | x | x
      · exact False.elim hw
      · exact False.elim hw
      · exact lv_aload_n hx hb hdec rfl (hm _ hnt (by intro z; cases z)) (go (vR x :: S) L σ H locs ls hw hH hS hl (okL_cons.mpr ⟨hv, hoS⟩) hoL)
      · exact False.elim hw
    case aload v =>
      obtain ⟨hn, hi⟩ := grd_s hz
      have hn : n = 2 := by simpa using hn
      subst hn
      cases hi
      have hv := okL_nth hoL (v)
      have hm : ∀ w, nth L (v) = w → w ≠ vX → ls[(v)]? = some (.val (cv o w)) := fun w h1 h2 => by
        have := hl.2.2 _ (cvL_nth o L (v) 0 w h1 h2)
        rwa [Nat.zero_add] at this
      have hw : (match nth L (v) with | .inr (.inr (.inl x)) => wp ca lv (yK Y) K Q f r (vR x :: S) L σ | _ => False) := hw
      generalize hnt : nth L (v) = w at hw hv
      rcases w with x | x | x | x
      · exact False.elim hw
      · exact False.elim hw
      · exact lv_aload hx hb hdec (hm _ hnt (by intro z; cases z)) (go (vR x :: S) L σ H locs ls hw hH hS hl (okL_cons.mpr ⟨hv, hoS⟩) hoL)
      · exact False.elim hw
    case istore_n v =>
      obtain ⟨hn, hi⟩ := grd_s hz
      cases hi
      simp only [Bool.and_eq_true, beq_iff_eq, decide_eq_true_eq] at hn
      obtain ⟨hn, hlt⟩ := hn
      subst hn
      rw [hEM] at hlt
      rcases S with _ | ⟨x | x | x | x, S⟩ <;> try exact False.elim hw
      obtain ⟨hx1, hoS⟩ := okL_cons.mp hoS
      obtain ⟨hc1, hw⟩ : canSet L (v.val) = true ∧ wp ca lv (yK Y) K Q f r S (setL L (v.val) (vI x)) σ := hw
      exact lv_istore_n hx hb hdec rfl hl hlt rfl (fun ls2 hl2 => go S _ σ H locs ls2 hw hH hS (lv_st (v := vI x) hc1 rfl hl2) hoS (okL_set hoL hx1 _))
    case istore v =>
      obtain ⟨hn, hi⟩ := grd_s hz
      cases hi
      simp only [Bool.and_eq_true, beq_iff_eq, decide_eq_true_eq] at hn
      obtain ⟨hn, hlt⟩ := hn
      subst hn
      rw [hEM] at hlt
      rcases S with _ | ⟨x | x | x | x, S⟩ <;> try exact False.elim hw
      obtain ⟨hx1, hoS⟩ := okL_cons.mp hoS
      obtain ⟨hc1, hw⟩ : canSet L (v) = true ∧ wp ca lv (yK Y) K Q f r S (setL L (v) (vI x)) σ := hw
      exact lv_istore hx hb hdec hl hlt rfl (fun ls2 hl2 => go S _ σ H locs ls2 hw hH hS (lv_st (v := vI x) hc1 rfl hl2) hoS (okL_set hoL hx1 _))
    case lstore_n v =>
      obtain ⟨hn, hi⟩ := grd_s hz
      cases hi
      simp only [Bool.and_eq_true, beq_iff_eq, decide_eq_true_eq] at hn
      obtain ⟨hn, hlt⟩ := hn
      subst hn
      rw [hEM] at hlt
      rcases S with _ | ⟨x | x | x | x, S⟩ <;> try exact False.elim hw
      obtain ⟨hx1, hoS⟩ := okL_cons.mp hoS
      obtain ⟨hc1, hw⟩ : canSet L (v.val) = true ∧ wp ca lv (yK Y) K Q f r S (setL (setL L (v.val) (vL x)) (v.val + 1) vX) σ := hw
      exact lv_lstore_n hx hb hdec rfl hl hlt rfl (fun ls2 hl2 => go S _ σ H locs ls2 hw hH hS (lv_st2 (v := vL x) hc1 rfl hl2) hoS (okL_set (okL_set hoL hx1 _) (v := vX) trivial _))
    case lstore v =>
      obtain ⟨hn, hi⟩ := grd_s hz
      cases hi
      simp only [Bool.and_eq_true, beq_iff_eq, decide_eq_true_eq] at hn
      obtain ⟨hn, hlt⟩ := hn
      subst hn
      rw [hEM] at hlt
      rcases S with _ | ⟨x | x | x | x, S⟩ <;> try exact False.elim hw
      obtain ⟨hx1, hoS⟩ := okL_cons.mp hoS
      obtain ⟨hc1, hw⟩ : canSet L (v) = true ∧ wp ca lv (yK Y) K Q f r S (setL (setL L (v) (vL x)) (v + 1) vX) σ := hw
      exact lv_lstore hx hb hdec hl hlt rfl (fun ls2 hl2 => go S _ σ H locs ls2 hw hH hS (lv_st2 (v := vL x) hc1 rfl hl2) hoS (okL_set (okL_set hoL hx1 _) (v := vX) trivial _))
    case astore_n v =>
      obtain ⟨hn, hi⟩ := grd_s hz
      cases hi
      simp only [Bool.and_eq_true, beq_iff_eq, decide_eq_true_eq] at hn
      obtain ⟨hn, hlt⟩ := hn
      subst hn
      rw [hEM] at hlt
      rcases S with _ | ⟨x | x | x | x, S⟩ <;> try exact False.elim hw
      obtain ⟨hx1, hoS⟩ := okL_cons.mp hoS
      obtain ⟨hc1, hw⟩ : canSet L (v.val) = true ∧ wp ca lv (yK Y) K Q f r S (setL L (v.val) (vR x)) σ := hw
      exact lv_astore_n hx hb hdec rfl hl hlt rfl (fun ls2 hl2 => go S _ σ H locs ls2 hw hH hS (lv_st (v := vR x) hc1 rfl hl2) hoS (okL_set hoL hx1 _))
    case astore v =>
      obtain ⟨hn, hi⟩ := grd_s hz
      cases hi
      simp only [Bool.and_eq_true, beq_iff_eq, decide_eq_true_eq] at hn
      obtain ⟨hn, hlt⟩ := hn
      subst hn
      rw [hEM] at hlt
      rcases S with _ | ⟨x | x | x | x, S⟩ <;> try exact False.elim hw
      obtain ⟨hx1, hoS⟩ := okL_cons.mp hoS
      obtain ⟨hc1, hw⟩ : canSet L (v) = true ∧ wp ca lv (yK Y) K Q f r S (setL L (v) (vR x)) σ := hw
      exact lv_astore hx hb hdec hl hlt rfl (fun ls2 hl2 => go S _ σ H locs ls2 hw hH hS (lv_st (v := vR x) hc1 rfl hl2) hoS (okL_set hoL hx1 _))
    case iinc v k =>
      obtain ⟨hn, hi⟩ := grd_s hz
      cases hi
      simp only [Bool.and_eq_true, beq_iff_eq, decide_eq_true_eq] at hn
      obtain ⟨hn, hlt⟩ := hn
      subst hn
      rw [hEM] at hlt
      have hw : (match nth L v with | .inl x => canSet L v = true ∧ i32 (x + k) ∧ wp ca lv (yK Y) K Q f r S (setL L v (vI (x + k))) σ | _ => False) := hw
      generalize hnt : nth L v = w at hw
      rcases w with x | x | x | x
      · obtain ⟨hc1, hi1, hw⟩ := hw
        obtain ⟨k0, hk0⟩ := List.getElem?_of_mem (cvL_nth o L v 0 _ hnt (by intro z; cases z))
        rw [Nat.zero_add] at hk0
        exact lv_iinc (v := Int32.ofInt (x + k)) hx hb hdec hl hk0 (Int32.ofInt_add x k).symm hlt rfl (fun ls2 hl2 => go S _ σ H locs ls2 hw hH hS (lv_st (v := vI (x + k)) hc1 rfl hl2) hoS (okL_set hoL (v := vI (x + k)) hi1 _))
      · exact False.elim hw
      · exact False.elim hw
      · exact False.elim hw
    case iadd =>
      obtain ⟨hn, hi⟩ := grd_s hz
      have hn : n = 1 := by simpa using hn
      subst hn
      cases hi
      rcases S with _ | ⟨b | b | b | b, S⟩ <;> try exact False.elim hw
      rcases S with _ | ⟨a | a | a | a, S⟩ <;> try exact False.elim hw
      obtain ⟨hb1, hoS⟩ := okL_cons.mp hoS
      obtain ⟨ha1, hoS⟩ := okL_cons.mp hoS
      obtain ⟨hi1, hw⟩ : i32 (a + b) ∧ wp ca lv (yK Y) K Q f r (vI (a + b) :: S) L σ := hw
      refine lv_iadd hx hb hdec ?_
      rw [← Int32.ofInt_add]
      exact go (vI (a + b) :: S) L σ H locs ls hw hH hS hl (okL_cons.mpr ⟨hi1, hoS⟩) hoL
    case isub =>
      obtain ⟨hn, hi⟩ := grd_s hz
      have hn : n = 1 := by simpa using hn
      subst hn
      cases hi
      rcases S with _ | ⟨b | b | b | b, S⟩ <;> try exact False.elim hw
      rcases S with _ | ⟨a | a | a | a, S⟩ <;> try exact False.elim hw
      obtain ⟨hb1, hoS⟩ := okL_cons.mp hoS
      obtain ⟨ha1, hoS⟩ := okL_cons.mp hoS
      obtain ⟨hi1, hw⟩ : i32 (a - b) ∧ wp ca lv (yK Y) K Q f r (vI (a - b) :: S) L σ := hw
      refine lv_isub hx hb hdec ?_
      rw [← Int32.ofInt_sub]
      exact go (vI (a - b) :: S) L σ H locs ls hw hH hS hl (okL_cons.mpr ⟨hi1, hoS⟩) hoL
    case imul =>
      obtain ⟨hn, hi⟩ := grd_s hz
      have hn : n = 1 := by simpa using hn
      subst hn
      cases hi
      rcases S with _ | ⟨b | b | b | b, S⟩ <;> try exact False.elim hw
      rcases S with _ | ⟨a | a | a | a, S⟩ <;> try exact False.elim hw
      obtain ⟨hb1, hoS⟩ := okL_cons.mp hoS
      obtain ⟨ha1, hoS⟩ := okL_cons.mp hoS
      obtain ⟨hi1, hw⟩ : i32 (a * b) ∧ wp ca lv (yK Y) K Q f r (vI (a * b) :: S) L σ := hw
      refine lv_imul hx hb hdec ?_
      rw [← Int32.ofInt_mul]
      exact go (vI (a * b) :: S) L σ H locs ls hw hH hS hl (okL_cons.mpr ⟨hi1, hoS⟩) hoL
    case ineg =>
      obtain ⟨hn, hi⟩ := grd_s hz
      have hn : n = 1 := by simpa using hn
      subst hn
      cases hi
      rcases S with _ | ⟨a | a | a | a, S⟩ <;> try exact False.elim hw
      obtain ⟨ha1, hoS⟩ := okL_cons.mp hoS
      obtain ⟨hi1, hw⟩ : i32 (-a) ∧ wp ca lv (yK Y) K Q f r (vI (-a) :: S) L σ := hw
      refine lv_ineg hx hb hdec ?_
      rw [← Int32.ofInt_neg]
      exact go (vI (-a) :: S) L σ H locs ls hw hH hS hl (okL_cons.mpr ⟨hi1, hoS⟩) hoL
    case idiv =>
      obtain ⟨hn, hi⟩ := grd_s hz
      have hn : n = 1 := by simpa using hn
      subst hn
      cases hi
      rcases S with _ | ⟨b | b | b | b, S⟩ <;> try exact False.elim hw
      rcases S with _ | ⟨a | a | a | a, S⟩ <;> try exact False.elim hw
      obtain ⟨hb1, hoS⟩ := okL_cons.mp hoS
      obtain ⟨ha1, hoS⟩ := okL_cons.mp hoS
      obtain ⟨h0, hw⟩ : 0 < b ∧ wp ca lv (yK Y) K Q f r (vI (Int.tdiv a b) :: S) L σ := hw
      refine lv_idiv hx hb hdec (fun z => by have := (i32_eq hb1 i32_0).mp z; omega) ?_
      rw [i32_div ha1 hb1 h0]
      exact go (vI (Int.tdiv a b) :: S) L σ H locs ls hw hH hS hl (okL_cons.mpr ⟨tdiv_in ha1 h0, hoS⟩) hoL
    case irem =>
      obtain ⟨hn, hi⟩ := grd_s hz
      have hn : n = 1 := by simpa using hn
      subst hn
      cases hi
      rcases S with _ | ⟨b | b | b | b, S⟩ <;> try exact False.elim hw
      rcases S with _ | ⟨a | a | a | a, S⟩ <;> try exact False.elim hw
      obtain ⟨hb1, hoS⟩ := okL_cons.mp hoS
      obtain ⟨ha1, hoS⟩ := okL_cons.mp hoS
      obtain ⟨h0, hw⟩ : 0 < b ∧ wp ca lv (yK Y) K Q f r (vI (Int.tmod a b) :: S) L σ := hw
      refine lv_irem hx hb hdec (fun z => by have := (i32_eq hb1 i32_0).mp z; omega) ?_
      rw [i32_rem ha1 hb1 h0]
      exact go (vI (Int.tmod a b) :: S) L σ H locs ls hw hH hS hl (okL_cons.mpr ⟨tmod_in ha1 h0, hoS⟩) hoL
    case ldiv =>
      obtain ⟨hn, hi⟩ := grd_s hz
      have hn : n = 1 := by simpa using hn
      subst hn
      cases hi
      rcases S with _ | ⟨b | b | b | b, S⟩ <;> try exact False.elim hw
      rcases S with _ | ⟨a | a | a | a, S⟩ <;> try exact False.elim hw
      obtain ⟨hb1, hoS⟩ := okL_cons.mp hoS
      obtain ⟨ha1, hoS⟩ := okL_cons.mp hoS
      obtain ⟨h0, hw⟩ : 0 < b ∧ wp ca lv (yK Y) K Q f r (vL (Int.tdiv a b) :: S) L σ := hw
      refine lv_ldiv hx hb hdec (fun z => by have := (i64_eq (b := 0) hb1 ⟨by decide, by decide⟩).mp z; omega) ?_
      rw [i64_div ha1 hb1 h0]
      exact go (vL (Int.tdiv a b) :: S) L σ H locs ls hw hH hS hl (okL_cons.mpr ⟨tdiv_in64 ha1 h0, hoS⟩) hoL
    case lrem =>
      obtain ⟨hn, hi⟩ := grd_s hz
      have hn : n = 1 := by simpa using hn
      subst hn
      cases hi
      rcases S with _ | ⟨b | b | b | b, S⟩ <;> try exact False.elim hw
      rcases S with _ | ⟨a | a | a | a, S⟩ <;> try exact False.elim hw
      obtain ⟨hb1, hoS⟩ := okL_cons.mp hoS
      obtain ⟨ha1, hoS⟩ := okL_cons.mp hoS
      obtain ⟨h0, hw⟩ : 0 < b ∧ wp ca lv (yK Y) K Q f r (vL (Int.tmod a b) :: S) L σ := hw
      refine lv_lrem hx hb hdec (fun z => by have := (i64_eq (b := 0) hb1 ⟨by decide, by decide⟩).mp z; omega) ?_
      rw [i64_rem ha1 hb1 h0]
      exact go (vL (Int.tmod a b) :: S) L σ H locs ls hw hH hS hl (okL_cons.mpr ⟨tmod_in64 ha1 h0, hoS⟩) hoL
    case iand =>
      obtain ⟨hn, hi⟩ := grd_s hz
      have hn : n = 1 := by simpa using hn
      subst hn
      cases hi
      rcases S with _ | ⟨b | b | b | b, S⟩ <;> try exact False.elim hw
      rcases S with _ | ⟨a | a | a | a, S⟩ <;> try exact False.elim hw
      obtain ⟨hb1, hoS⟩ := okL_cons.mp hoS
      obtain ⟨ha1, hoS⟩ := okL_cons.mp hoS
      have h := go (vI (bAnd a b) :: S) L σ H locs ls hw hH hS hl (okL_cons.mpr ⟨i32_in _, hoS⟩) hoL
      refine lv_iand hx hb hdec ?_
      rw [List.map_cons, show cv o (vI (bAnd a b)) = .int _ from congrArg Value.int (of32 _)] at h
      exact h
    case ior =>
      obtain ⟨hn, hi⟩ := grd_s hz
      have hn : n = 1 := by simpa using hn
      subst hn
      cases hi
      rcases S with _ | ⟨b | b | b | b, S⟩ <;> try exact False.elim hw
      rcases S with _ | ⟨a | a | a | a, S⟩ <;> try exact False.elim hw
      obtain ⟨hb1, hoS⟩ := okL_cons.mp hoS
      obtain ⟨ha1, hoS⟩ := okL_cons.mp hoS
      have h := go (vI (bOr a b) :: S) L σ H locs ls hw hH hS hl (okL_cons.mpr ⟨i32_in _, hoS⟩) hoL
      refine lv_ior hx hb hdec ?_
      rw [List.map_cons, show cv o (vI (bOr a b)) = .int _ from congrArg Value.int (of32 _)] at h
      exact h
    case ixor =>
      obtain ⟨hn, hi⟩ := grd_s hz
      have hn : n = 1 := by simpa using hn
      subst hn
      cases hi
      rcases S with _ | ⟨b | b | b | b, S⟩ <;> try exact False.elim hw
      rcases S with _ | ⟨a | a | a | a, S⟩ <;> try exact False.elim hw
      obtain ⟨hb1, hoS⟩ := okL_cons.mp hoS
      obtain ⟨ha1, hoS⟩ := okL_cons.mp hoS
      have h := go (vI (bXor a b) :: S) L σ H locs ls hw hH hS hl (okL_cons.mpr ⟨i32_in _, hoS⟩) hoL
      refine lv_ixor hx hb hdec ?_
      rw [List.map_cons, show cv o (vI (bXor a b)) = .int _ from congrArg Value.int (of32 _)] at h
      exact h
    case ishl =>
      obtain ⟨hn, hi⟩ := grd_s hz
      have hn : n = 1 := by simpa using hn
      subst hn
      cases hi
      rcases S with _ | ⟨b | b | b | b, S⟩ <;> try exact False.elim hw
      rcases S with _ | ⟨a | a | a | a, S⟩ <;> try exact False.elim hw
      obtain ⟨hb1, hoS⟩ := okL_cons.mp hoS
      obtain ⟨ha1, hoS⟩ := okL_cons.mp hoS
      have h := go (vI (bShl a b) :: S) L σ H locs ls hw hH hS hl (okL_cons.mpr ⟨i32_in _, hoS⟩) hoL
      refine lv_ishl hx hb hdec ?_
      rw [List.map_cons, show cv o (vI (bShl a b)) = .int _ from congrArg Value.int (of32 _)] at h
      exact h
    case ishr =>
      obtain ⟨hn, hi⟩ := grd_s hz
      have hn : n = 1 := by simpa using hn
      subst hn
      cases hi
      rcases S with _ | ⟨b | b | b | b, S⟩ <;> try exact False.elim hw
      rcases S with _ | ⟨a | a | a | a, S⟩ <;> try exact False.elim hw
      obtain ⟨hb1, hoS⟩ := okL_cons.mp hoS
      obtain ⟨ha1, hoS⟩ := okL_cons.mp hoS
      have h := go (vI (bShr a b) :: S) L σ H locs ls hw hH hS hl (okL_cons.mpr ⟨i32_in _, hoS⟩) hoL
      refine lv_ishr hx hb hdec ?_
      rw [List.map_cons, show cv o (vI (bShr a b)) = .int _ from congrArg Value.int (of32 _)] at h
      exact h
    case iushr =>
      obtain ⟨hn, hi⟩ := grd_s hz
      have hn : n = 1 := by simpa using hn
      subst hn
      cases hi
      rcases S with _ | ⟨b | b | b | b, S⟩ <;> try exact False.elim hw
      rcases S with _ | ⟨a | a | a | a, S⟩ <;> try exact False.elim hw
      obtain ⟨hb1, hoS⟩ := okL_cons.mp hoS
      obtain ⟨ha1, hoS⟩ := okL_cons.mp hoS
      exact lv_iushr (v := Int32.ofInt (bUshr a b)) hx hb hdec (of32 _).symm (go (vI (bUshr a b) :: S) L σ H locs ls hw hH hS hl (okL_cons.mpr ⟨i32_in _, hoS⟩) hoL)
    case ladd =>
      obtain ⟨hn, hi⟩ := grd_s hz
      have hn : n = 1 := by simpa using hn
      subst hn
      cases hi
      rcases S with _ | ⟨b | b | b | b, S⟩ <;> try exact False.elim hw
      rcases S with _ | ⟨a | a | a | a, S⟩ <;> try exact False.elim hw
      obtain ⟨hb1, hoS⟩ := okL_cons.mp hoS
      obtain ⟨ha1, hoS⟩ := okL_cons.mp hoS
      have h := go (vL (w64 (a + b)) :: S) L σ H locs ls hw hH hS hl (okL_cons.mpr ⟨i64_in _, hoS⟩) hoL
      refine lv_ladd hx hb hdec ?_
      rw [← Int64.ofInt_add]
      rw [List.map_cons, show cv o (vL (w64 (a + b))) = .long _ from congrArg Value.long (of64 _)] at h
      exact h
    case lmul =>
      obtain ⟨hn, hi⟩ := grd_s hz
      have hn : n = 1 := by simpa using hn
      subst hn
      cases hi
      rcases S with _ | ⟨b | b | b | b, S⟩ <;> try exact False.elim hw
      rcases S with _ | ⟨a | a | a | a, S⟩ <;> try exact False.elim hw
      obtain ⟨hb1, hoS⟩ := okL_cons.mp hoS
      obtain ⟨ha1, hoS⟩ := okL_cons.mp hoS
      have h := go (vL (w64 (a * b)) :: S) L σ H locs ls hw hH hS hl (okL_cons.mpr ⟨i64_in _, hoS⟩) hoL
      refine lv_lmul hx hb hdec ?_
      rw [← Int64.ofInt_mul]
      rw [List.map_cons, show cv o (vL (w64 (a * b))) = .long _ from congrArg Value.long (of64 _)] at h
      exact h
    case land =>
      obtain ⟨hn, hi⟩ := grd_s hz
      have hn : n = 1 := by simpa using hn
      subst hn
      cases hi
      rcases S with _ | ⟨b | b | b | b, S⟩ <;> try exact False.elim hw
      rcases S with _ | ⟨a | a | a | a, S⟩ <;> try exact False.elim hw
      obtain ⟨hb1, hoS⟩ := okL_cons.mp hoS
      obtain ⟨ha1, hoS⟩ := okL_cons.mp hoS
      have h := go (vL (lAnd a b) :: S) L σ H locs ls hw hH hS hl (okL_cons.mpr ⟨i64_in _, hoS⟩) hoL
      refine lv_land hx hb hdec ?_
      rw [List.map_cons, show cv o (vL (lAnd a b)) = .long _ from congrArg Value.long (of64 _)] at h
      exact h
    case lor =>
      obtain ⟨hn, hi⟩ := grd_s hz
      have hn : n = 1 := by simpa using hn
      subst hn
      cases hi
      rcases S with _ | ⟨b | b | b | b, S⟩ <;> try exact False.elim hw
      rcases S with _ | ⟨a | a | a | a, S⟩ <;> try exact False.elim hw
      obtain ⟨hb1, hoS⟩ := okL_cons.mp hoS
      obtain ⟨ha1, hoS⟩ := okL_cons.mp hoS
      have h := go (vL (lOr a b) :: S) L σ H locs ls hw hH hS hl (okL_cons.mpr ⟨i64_in _, hoS⟩) hoL
      refine lv_lor hx hb hdec ?_
      rw [List.map_cons, show cv o (vL (lOr a b)) = .long _ from congrArg Value.long (of64 _)] at h
      exact h
    case lshl =>
      obtain ⟨hn, hi⟩ := grd_s hz
      have hn : n = 1 := by simpa using hn
      subst hn
      cases hi
      rcases S with _ | ⟨b | b | b | b, S⟩ <;> try exact False.elim hw
      rcases S with _ | ⟨a | a | a | a, S⟩ <;> try exact False.elim hw
      obtain ⟨hb1, hoS⟩ := okL_cons.mp hoS
      obtain ⟨ha1, hoS⟩ := okL_cons.mp hoS
      exact lv_lshl (v := Int64.ofInt (lShl a b)) hx hb hdec (of64 _).symm (go (vL (lShl a b) :: S) L σ H locs ls hw hH hS hl (okL_cons.mpr ⟨i64_in _, hoS⟩) hoL)
    case lushr =>
      obtain ⟨hn, hi⟩ := grd_s hz
      have hn : n = 1 := by simpa using hn
      subst hn
      cases hi
      rcases S with _ | ⟨b | b | b | b, S⟩ <;> try exact False.elim hw
      rcases S with _ | ⟨a | a | a | a, S⟩ <;> try exact False.elim hw
      obtain ⟨hb1, hoS⟩ := okL_cons.mp hoS
      obtain ⟨ha1, hoS⟩ := okL_cons.mp hoS
      exact lv_lushr (v := Int64.ofInt (lUshr a b)) hx hb hdec (of64 _).symm (go (vL (lUshr a b) :: S) L σ H locs ls hw hH hS hl (okL_cons.mpr ⟨i64_in _, hoS⟩) hoL)
    case lcmp =>
      obtain ⟨hn, hi⟩ := grd_s hz
      have hn : n = 1 := by simpa using hn
      subst hn
      cases hi
      rcases S with _ | ⟨b | b | b | b, S⟩ <;> try exact False.elim hw
      rcases S with _ | ⟨a | a | a | a, S⟩ <;> try exact False.elim hw
      obtain ⟨hb1, hoS⟩ := okL_cons.mp hoS
      obtain ⟨ha1, hoS⟩ := okL_cons.mp hoS
      refine W.lcmp hx hb hdec ?_
      rw [lg_c ha1 hb1]
      exact go (vI (lCmp a b) :: S) L σ H locs ls hw hH hS hl (okL_cons.mpr ⟨lCmp_in a b, hoS⟩) hoL
    case i2l =>
      obtain ⟨hn, hi⟩ := grd_s hz
      have hn : n = 1 := by simpa using hn
      subst hn
      cases hi
      rcases S with _ | ⟨a | a | a | a, S⟩ <;> try exact False.elim hw
      obtain ⟨ha1, hoS⟩ := okL_cons.mp hoS
      have ha1 : i32 a := ha1
      exact lv_i2l hx hb hdec (i32_i64 ha1) (go (vL a :: S) L σ H locs ls hw hH hS hl (okL_cons.mpr ⟨⟨by have := ha1.1; omega, by have := ha1.2; omega⟩, hoS⟩) hoL)
    case l2i =>
      obtain ⟨hn, hi⟩ := grd_s hz
      have hn : n = 1 := by simpa using hn
      subst hn
      cases hi
      rcases S with _ | ⟨a | a | a | a, S⟩ <;> try exact False.elim hw
      obtain ⟨ha1, hoS⟩ := okL_cons.mp hoS
      exact lv_l2i (v := Int32.ofInt (w32 a)) hx hb hdec (by unfold w32; rw [of32]; exact Int64.toInt32_ofInt) (go (vI (w32 a) :: S) L σ H locs ls hw hH hS hl (okL_cons.mpr ⟨i32_in _, hoS⟩) hoL)
    case i2c =>
      obtain ⟨hn, hi⟩ := grd_s hz
      have hn : n = 1 := by simpa using hn
      subst hn
      cases hi
      rcases S with _ | ⟨a | a | a | a, S⟩ <;> try exact False.elim hw
      obtain ⟨ha1, hoS⟩ := okL_cons.mp hoS
      exact lv_i2c (v := Int32.ofInt (bChr a)) hx hb hdec (of32 _).symm (go (vI (bChr a) :: S) L σ H locs ls hw hH hS hl (okL_cons.mpr ⟨i32_in _, hoS⟩) hoL)
    case i2b =>
      obtain ⟨hn, hi⟩ := grd_s hz
      have hn : n = 1 := by simpa using hn
      subst hn
      cases hi
      rcases S with _ | ⟨a | a | a | a, S⟩ <;> try exact False.elim hw
      obtain ⟨ha1, hoS⟩ := okL_cons.mp hoS
      exact lv_i2b (v := Int32.ofInt (bI8 a)) hx hb hdec (of32 _).symm (go (vI (bI8 a) :: S) L σ H locs ls hw hH hS hl (okL_cons.mpr ⟨i32_in _, hoS⟩) hoL)
    case dup =>
      obtain ⟨hn, hi⟩ := grd_s hz
      have hn : n = 1 := by simpa using hn
      subst hn
      cases hi
      rcases S with _ | ⟨a | a | a | a, S⟩ <;> try exact False.elim hw
      · obtain ⟨ha1, hoS'⟩ := okL_cons.mp hoS
        exact lv_dup hx hb hdec rfl (go (vI a :: vI a :: S) L σ H locs ls hw hH hS hl (okL_cons.mpr ⟨ha1, hoS⟩) hoL)
      · obtain ⟨ha1, hoS'⟩ := okL_cons.mp hoS
        exact lv_dup hx hb hdec rfl (go (vR a :: vR a :: S) L σ H locs ls hw hH hS hl (okL_cons.mpr ⟨ha1, hoS⟩) hoL)
    case dup2 =>
      obtain ⟨hn, hi⟩ := grd_s hz
      have hn : n = 1 := by simpa using hn
      subst hn
      cases hi
      rcases S with _ | ⟨a | a | a | a, S⟩ <;> try exact False.elim hw
      rcases S with _ | ⟨b | b | b | b, S⟩ <;> try exact False.elim hw
      obtain ⟨ha1, hoS1⟩ := okL_cons.mp hoS
      obtain ⟨hb1, hoS2⟩ := okL_cons.mp hoS1
      exact lv_dup2_11 hx hb hdec rfl rfl (go (vI a :: vR b :: vI a :: vR b :: S) L σ H locs ls hw hH hS hl (okL_cons.mpr ⟨ha1, okL_cons.mpr ⟨hb1, hoS⟩⟩) hoL)
    case pop =>
      obtain ⟨hn, hi⟩ := grd_s hz
      have hn : n = 1 := by simpa using hn
      subst hn
      cases hi
      rcases S with _ | ⟨a | a | a | a, S⟩ <;> try exact False.elim hw
      obtain ⟨ha1, hoS⟩ := okL_cons.mp hoS
      exact lv_pop hx hb hdec rfl (go S L σ H locs ls hw hH hS hl hoS hoL)
    case goto of =>
      obtain ⟨hn, hi⟩ := grd_s hz
      cases hi
      simp only [Bool.and_eq_true, beq_iff_eq, decide_eq_true_eq] at hn
      obtain ⟨hn, ht⟩ := hn
      subst hn
      have htt : (pc : Int) + of = ((abso pc of).toNat : Int) := by rw [Int.toNat_of_nonneg ht]; rfl
      exact lv_goto hx hb hdec htt (jmp _ S hw hoS)
    case if_icmp cd of =>
      obtain ⟨hn, hi⟩ := grd_s hz
      cases hi
      simp only [Bool.and_eq_true, beq_iff_eq, decide_eq_true_eq] at hn
      obtain ⟨hn, ht⟩ := hn
      subst hn
      have htt : (pc : Int) + of = ((abso pc of).toNat : Int) := by rw [Int.toNat_of_nonneg ht]; rfl
      rcases S with _ | ⟨b | b | b | b, S⟩ <;> try exact False.elim hw
      rcases S with _ | ⟨a | a | a | a, S⟩ <;> try exact False.elim hw
      obtain ⟨hb1, hoS⟩ := okL_cons.mp hoS
      obtain ⟨ha1, hoS⟩ := okL_cons.mp hoS
      obtain ⟨k1, k2⟩ : (cmpI cd a b → K (abso pc of).toNat S (tk lv (abso pc of).toNat L) σ) ∧ (¬ cmpI cd a b → wp ca lv (yK Y) K Q f r S L σ) := hw
      cases cd
      · exact lv_icmp_eq hx hb hdec htt (fun z => jmp _ S (k1 ((i32_eq ha1 hb1).mp z)) hoS) (fun z => go S L σ H locs ls (k2 (fun y => z ((i32_eq ha1 hb1).mpr y))) hH hS hl hoS hoL)
      · exact lv_icmp_ne hx hb hdec htt (fun z => jmp _ S (k1 (fun y => z ((i32_eq ha1 hb1).mpr y))) hoS) (fun z => go S L σ H locs ls (k2 (fun y => y ((i32_eq ha1 hb1).mp z))) hH hS hl hoS hoL)
      · exact lv_icmp_lt hx hb hdec htt (fun z => jmp _ S (k1 ((i32_lt ha1 hb1).mp z)) hoS) (fun z => go S L σ H locs ls (k2 (fun y => z ((i32_lt ha1 hb1).mpr y))) hH hS hl hoS hoL)
      · exact lv_icmp_ge hx hb hdec htt (fun z => jmp _ S (k1 ((i32_le hb1 ha1).mp z)) hoS) (fun z => go S L σ H locs ls (k2 (fun y => z ((i32_le hb1 ha1).mpr y))) hH hS hl hoS hoL)
      · exact lv_icmp_gt hx hb hdec htt (fun z => jmp _ S (k1 ((i32_lt hb1 ha1).mp z)) hoS) (fun z => go S L σ H locs ls (k2 (fun y => z ((i32_lt hb1 ha1).mpr y))) hH hS hl hoS hoL)
      · exact lv_icmp_le hx hb hdec htt (fun z => jmp _ S (k1 ((i32_le ha1 hb1).mp z)) hoS) (fun z => go S L σ H locs ls (k2 (fun y => z ((i32_le ha1 hb1).mpr y))) hH hS hl hoS hoL)
    case ifCond cd of =>
      obtain ⟨hn, hi⟩ := grd_s hz
      cases hi
      simp only [Bool.and_eq_true, beq_iff_eq, decide_eq_true_eq] at hn
      obtain ⟨hn, ht⟩ := hn
      subst hn
      have htt : (pc : Int) + of = ((abso pc of).toNat : Int) := by rw [Int.toNat_of_nonneg ht]; rfl
      rcases S with _ | ⟨a | a | a | a, S⟩ <;> try exact False.elim hw
      obtain ⟨ha1, hoS⟩ := okL_cons.mp hoS
      obtain ⟨k1, k2⟩ : (cmpI cd a 0 → K (abso pc of).toNat S (tk lv (abso pc of).toNat L) σ) ∧ (¬ cmpI cd a 0 → wp ca lv (yK Y) K Q f r S L σ) := hw
      cases cd
      · exact lv_if_eq hx hb hdec htt (fun z => jmp _ S (k1 ((i32_eq ha1 i32_0).mp z)) hoS) (fun z => go S L σ H locs ls (k2 (fun y => z ((i32_eq ha1 i32_0).mpr y))) hH hS hl hoS hoL)
      · exact lv_if_ne hx hb hdec htt (fun z => jmp _ S (k1 (fun y => z ((i32_eq ha1 i32_0).mpr y))) hoS) (fun z => go S L σ H locs ls (k2 (fun y => y ((i32_eq ha1 i32_0).mp z))) hH hS hl hoS hoL)
      · exact lv_if_lt hx hb hdec htt (fun z => jmp _ S (k1 ((i32_lt ha1 i32_0).mp z)) hoS) (fun z => go S L σ H locs ls (k2 (fun y => z ((i32_lt ha1 i32_0).mpr y))) hH hS hl hoS hoL)
      · exact lv_if_ge hx hb hdec htt (fun z => jmp _ S (k1 ((i32_le i32_0 ha1).mp z)) hoS) (fun z => go S L σ H locs ls (k2 (fun y => z ((i32_le i32_0 ha1).mpr y))) hH hS hl hoS hoL)
      · exact lv_if_gt hx hb hdec htt (fun z => jmp _ S (k1 ((i32_lt i32_0 ha1).mp z)) hoS) (fun z => go S L σ H locs ls (k2 (fun y => z ((i32_lt i32_0 ha1).mpr y))) hH hS hl hoS hoL)
      · exact lv_if_le hx hb hdec htt (fun z => jmp _ S (k1 ((i32_le ha1 i32_0).mp z)) hoS) (fun z => go S L σ H locs ls (k2 (fun y => z ((i32_le ha1 i32_0).mpr y))) hH hS hl hoS hoL)
    case tableswitch df lo hi os =>
      obtain ⟨hn, hi⟩ := grd_s hz
      cases hi
      simp only [Bool.and_eq_true, decide_eq_true_eq, List.all_eq_true] at hn
      obtain ⟨⟨hd0, hall⟩, hlen⟩ := hn
      rcases S with _ | ⟨x | x | x | x, S⟩ <;> try exact False.elim hw
      obtain ⟨hx1, hoS⟩ := okL_cons.mp hoS
      have hx1 : i32 x := hx1
      obtain ⟨k1, k2⟩ : swK lv K S L σ x lo (os.toList.map (abso pc)).toArray.toList ∧ (x < lo ∨ hi < x → K (abso pc df).toNat S (tk lv (abso pc df).toNat L) σ) := hw
      by_cases hin : x < lo ∨ hi < x
      · exact lv_tableOut (tgt := (abso pc df).toNat) hx hb hdec (by rw [i32_to hx1]; exact hin) (by rw [Int.toNat_of_nonneg hd0]; rfl) (jmp _ S (k2 hin) hoS)
      · have hj : (x - lo).toNat < os.toList.length := by omega
        have ho : os.toList[(x - lo).toNat]? = some (os.toList[(x - lo).toNat]) := List.getElem?_eq_getElem hj
        have h0 := hall _ (List.mem_of_getElem? ho)
        exact lv_tableIn (tgt := (abso pc (os.toList[(x - lo).toNat])).toNat) hx hb hdec (by rw [i32_to hx1]; omega) (by rw [i32_to hx1]; omega) (by rw [i32_to hx1, ← Array.getElem?_toList]; exact ho) (by rw [Int.toNat_of_nonneg h0]; rfl) (jmp _ S (swK_at _ x lo k1 (x - lo).toNat _ (by rw [List.toList_toArray, List.getElem?_map, ho]; rfl) (by omega)) hoS)
    case getfield ix =>
      obtain ⟨hn, hi⟩ := grd_s hz
      have hn : n = 3 := by simpa using hn
      subst hn
      obtain ⟨cd, hq, rfl⟩ := map_s hi
      rcases S with _ | ⟨q | q | q | q, S⟩ <;> try exact False.elim hw
      replace hoS := (okL_cons.mp hoS).2
      obtain ⟨hs1, hw⟩ : shp q = (3, cd / 1000) ∧ wp ca lv (yK Y) K Q f r (rdF cd q σ :: S) L σ := hw
      rcases hEF _ (look_mem hq) with hF | hF
      · obtain ⟨C, TT, N, ty, g1, g2, g3, g4, g5, g6, g7, g8, g9, g10, g11, g12, g13⟩ := hF
        have hci : cd / 1000 < 10 := (List.getElem?_eq_some_iff.mp g1).1
        have hqN := shp_3 q _ hs1 hci
        have he := wsO_get o σ hqN
        rw [cel_3 hs1, g2] at he
        have hk : W p (oL o) e R s m args below meth c H locs cells slots Z (F0 m (pc + 3) ls (fld o σ q (cd / 10 % 100) :: S.map (cv o))) := by
          rw [fld_cv hs1 g4]
          exact go (rdF cd q σ :: S) L σ H locs ls hw hH hS hl (okL_cons.mpr ⟨rdF_ok hH.1.2 hs1 g4, hoS⟩) hoL
        rcases g13 with g | ⟨host, g⟩
        · exact va_get hx hb hts g6 hown hst.1 hH.1.1 q he g1 _ g3 (hts _ g) (by rw [g5]; exact fun x h => h) (fs_at g3) hdec hk
        · exact va_getN hx hb hts g6 hown hst.1 hH.1.1 q he g1 _ g3 (va_Nw.use rfl (hst.2.1 _ g)) (by rw [g5]; exact fun x h => h) (fs_at g3) hdec hk
      · obtain ⟨hos, hF⟩ := hF
        have hst6 := hst.2.2.2.2.2
        rcases hF with ⟨rfl, hF⟩ | ⟨rfl, hF⟩
        · rcases shp_20 q hs1 with rfl | rfl
          · exact vk_getf hx hb hst6.2.2.1.2.2.1 hS hown (hts _ hF) (fun x h => h) hdec (go (vR 105 :: S) L σ H locs ls hw hH hS hl (okL_cons.mpr ⟨trivial, hoS⟩) hoL)
          · exact vk_getf hx hb hst6.2.2.2.1.2.2.1 hS hown (hts _ hF) (fun x h => h) hdec (go (vR 106 :: S) L σ H locs ls hw hH hS hl (okL_cons.mpr ⟨trivial, hoS⟩) hoL)
        · rcases shp_20 q hs1 with rfl | rfl
          · have hw : wp ca lv (yK Y) K Q f r (vI (σ 103 1) :: S) L σ := hw
            rw [hH.2.1.1] at hw
            exact vk_getf hx hb hst6.2.2.1.2.1 hS hown (hts _ hF) (fun x h => h) hdec (go (vI 0 :: S) L σ H locs ls hw hH hS hl (okL_cons.mpr ⟨i32_0, hoS⟩) hoL)
          · have hw : wp ca lv (yK Y) K Q f r (vI (σ 104 1) :: S) L σ := hw
            rw [hH.2.1.2] at hw
            exact vk_getf hx hb hst6.2.2.2.1.2.1 hS hown (hts _ hF) (fun x h => h) hdec (go (vI 0 :: S) L σ H locs ls hw hH hS hl (okL_cons.mpr ⟨i32_0, hoS⟩) hoL)
    case putfield ix =>
      obtain ⟨hn, hi⟩ := grd_s hz
      have hn : n = 3 := by simpa using hn
      subst hn
      obtain ⟨cd, hq, rfl⟩ := map_s hi
      have key : ∃ (v : AV) (x : Int) (q : Nat) (S1 : List AV), S = v :: vR q :: S1 ∧ shp q = (3, cd / 1000) ∧ wp ca lv (yK Y) K Q f r S1 L (su σ q ((cd / 10 % 100 : Nat) : Int) x) ∧ ((cd % 10 = 0 ∧ v = vI x) ∨ (cd % 10 = 1 ∧ v = vL x) ∨ (cd % 10 = 3 ∧ v = vI x ∧ (x = 0 ∨ x = 1))) := putf_c hw
      obtain ⟨v, x, q, S, rfl, hs1, hw, hv⟩ := key
      obtain ⟨hv1, hoS⟩ := okL_cons.mp hoS
      replace hoS := (okL_cons.mp hoS).2
      rcases hEF _ (look_mem hq) with hF | hF
      · obtain ⟨C, TT, N, ty, g1, g2, g3, g4, g5, g6, g7, g8, g9, g10, g11, g12, g13⟩ := hF
        have hci : cd / 1000 < 10 := (List.getElem?_eq_some_iff.mp g1).1
        have hqN := shp_3 q _ hs1 hci
        have he := wsO_get o σ hqN
        rw [cel_3 hs1, g2] at he
        have ht2 : ¬ cd % 10 = 2 := by rcases hv with h | h | h <;> omega
        have hnar : narrow (ty (cd / 10 % 100)) (cv o v) = cv o v ∧ fits (ty (cd / 10 % 100)) (cv o v) = true := by
          rcases hv with ⟨h, rfl⟩ | ⟨h, rfl⟩ | ⟨h, rfl, hx1⟩
          · rw [g9 h]; exact ⟨rfl, rfl⟩
          · rw [g10 h]; exact ⟨rfl, rfl⟩
          · rw [g11 h]; exact nar_z2 hx1
        have hlg : lng q ((cd / 10 % 100 : Nat) : Int) ↔ cd % 10 = 1 := by
          unfold lng
          rw [hs1, Int.toNat_natCast, g4]
          simp
        have hoσ : okS (su σ q ((cd / 10 % 100 : Nat) : Int) x) := okS_su hH.1.2 (by
          rw [hlg]
          rcases hv with ⟨h, rfl⟩ | ⟨h, rfl⟩ | ⟨h, rfl, hx1⟩
          · exact ⟨fun z => by omega, fun _ => hv1⟩
          · exact ⟨fun _ => hv1, fun z => absurd h z⟩
          · exact ⟨fun z => by omega, fun _ => hv1⟩)
        have hfv : cv o v = fld o (su σ q ((cd / 10 % 100 : Nat) : Int) x) q (cd / 10 % 100) := by
          rw [fld_cv hs1 g4]
          unfold rdF
          rw [su_eq]
          rcases hv with ⟨h, rfl⟩ | ⟨h, rfl⟩ | ⟨h, rfl, hx1⟩ <;> rw [h] <;> simp
        have hne : ∀ j, j ≠ cd / 10 % 100 → fld o (su σ q ((cd / 10 % 100 : Nat) : Int) x) q j = fld o σ q j := by
          intro j hj
          unfold fld
          rw [su_eq]
          have : ¬ (j : Int) = ((cd / 10 % 100 : Nat) : Int) := by omega
          simp only [if_neg this]
        have hset : (wsO o σ).set q (oA o q, .inr (cd / 1000, ((List.range N).map (fld o σ q)).set (cd / 10 % 100) (cv o v))) = wsO o (su σ q ((cd / 10 % 100 : Nat) : Int) x) := by
          rw [fs_set hfv hne, ← g2, ← cel_3 hs1]
          exact wsO_set o σ _ hqN su_ne
        have hk : ∀ (H1 : Heap) (locs1 : List Loc), va_P (oD o) vwCl ((wsO o σ).set q (oA o q, .inr (cd / 1000, ((List.range N).map (fld o σ q)).set (cd / 10 % 100) (cv o v)))) H1 → va_D (aA o) ((wsO o σ).set q (oA o q, .inr (cd / 1000, ((List.range N).map (fld o σ q)).set (cd / 10 % 100) (cv o v)))) → va_S (aA o) s.heap H1 locs1 → W p (oL o) e R s m args below meth c H1 locs1 cells slots Z (F0 m (pc + 3) ls (S.map (cv o))) := by
          intro H1 locs1 hP1 hD1 hS1
          rw [hset] at hP1
          exact go S L _ H1 locs1 ls hw ⟨⟨hP1, hoσ⟩, scr_su hH.2 hqN⟩ hS1 hl hoS hoL
        rcases g13 with g | ⟨host, g⟩
        · exact va_put hx hb hts g6 ty g7 g8 hown hst.1 hH.1.1 (wsO_D o σ hst.2.2.1) hS q he g1 _ g3 (hts _ g) (by rw [g5]; exact fun x h => h) (g12 ht2) (g7 _ g3) hnar.1 hnar.2 (by simpa using g3) hdec hk
        · exact va_putN hx hb hts g6 ty g7 g8 hown hst.1 hH.1.1 (wsO_D o σ hst.2.2.1) hS q he g1 _ g3 (va_Nw.use rfl (hst.2.1 _ g)) (by rw [g5]; exact fun x h => h) (g12 ht2) (g7 _ g3) hnar.1 hnar.2 (by simpa using g3) hdec hk
      · obtain ⟨hos, hF⟩ := hF
        rcases hF with ⟨rfl, hF⟩ | ⟨rfl, hF⟩
        · rcases hv with h | h | h <;> exact absurd h.1 (by decide)
        · rcases hv with h | h | h <;> exact absurd h.1 (by decide)
    case iaload =>
      obtain ⟨hn, hi⟩ := grd_s hz
      have hn : n = 1 := by simpa using hn
      subst hn
      cases hi
      rcases S with _ | ⟨i | i | i | i, S⟩ <;> try exact False.elim hw
      rcases S with _ | ⟨q | q | q | q, S⟩ <;> try exact False.elim hw
      have hi1 := (okL_cons.mp hoS).1
      replace hoS := (okL_cons.mp hoS).2
      have hi1 : i32 i := hi1
      replace hoS := (okL_cons.mp hoS).2
      rcases ald_c hw with ⟨hk, ⟨h0, h1⟩, hw⟩ | ⟨hk, ⟨h0, h1⟩, hw⟩ | ⟨hk, ⟨h0, h1⟩, hw⟩
      · have hqN := shp_012 q (by omega)
        have he := wsO_get o σ hqN
        rw [cel_0 hk] at he
        refine va_iald hx hb hst.1 hH.1.1 q 0 he rfl (in_vp hi1 h0 h1) hdec ?_
        rw [clampI hi1 h0, Int.toNat_of_nonneg h0]
        exact go (vI (σ q i) :: S) L σ H locs ls hw hH hS hl (okL_cons.mpr ⟨okS_at hH.1.2 (by omega), hoS⟩) hoL
      · obtain ⟨z1, z2, z3, z4⟩ := hst.2.2.2.1
        have hT : va_T .int (oA o q) (shp q).2 (fun j => .int (Int32.ofInt ((stc q).getD j 0))) (aA o) s s.heap := by
          rcases shp_4 q hk with rfl | rfl | rfl | rfl
          · exact z1.2
          · exact z2.2
          · exact z3.2
          · exact z4.2
        exact va_ti hx hb hT hS (in_vp hi1 h0 h1) (by rw [clampI hi1 h0]; rfl) hdec (go (vI ((stc q).getD i.toNat 0) :: S) L σ H locs ls hw hH hS hl (okL_cons.mpr ⟨stc_in q _, hoS⟩) hoL)
      · have hq2 := shp_5 q hk
        subst hq2
        obtain ⟨z1, z2, z3⟩ := hst.2.2.2.2.1
        have hn1 : i.toNat < oN o := by have := hH.2.2.1; omega
        have hv := hH.2.2.2.2 i.toNat hn1
        rw [Int.toNat_of_nonneg h0] at hv
        refine va_sld hx hb z1 z2 z3 hS (in_vp hi1 h0 (by omega)) hdec ?_
        rw [clampI hi1 h0, show (Value.int (oX o i.toNat)) = cv o (vI (σ 102 i)) from by rw [hv]; exact congrArg Value.int (of32 _).symm]
        exact go (vI (σ 102 i) :: S) L σ H locs ls hw hH hS hl (okL_cons.mpr ⟨okS_at hH.1.2 (by omega), hoS⟩) hoL
    case baload =>
      obtain ⟨hn, hi⟩ := grd_s hz
      have hn : n = 1 := by simpa using hn
      subst hn
      cases hi
      rcases S with _ | ⟨i | i | i | i, S⟩ <;> try exact False.elim hw
      rcases S with _ | ⟨q | q | q | q, S⟩ <;> try exact False.elim hw
      have hi1 := (okL_cons.mp hoS).1
      replace hoS := (okL_cons.mp hoS).2
      have hi1 : i32 i := hi1
      replace hoS := (okL_cons.mp hoS).2
      rcases bld_c hw with ⟨hk, ⟨h0, h1⟩, hw⟩ | ⟨hk, ⟨h0, h1⟩, hw⟩
      · have hqN := shp_012 q (by omega)
        have he := wsO_get o σ hqN
        rw [cel_1 hk] at he
        refine va_zald hx hb hst.1 hH.1.1 q 1 he rfl (in_vp hi1 h0 h1) hdec ?_
        rw [clampI hi1 h0, Int.toNat_of_nonneg h0]
        exact go (vI (σ q i) :: S) L σ H locs ls hw hH hS hl (okL_cons.mpr ⟨okS_at hH.1.2 (by omega), hoS⟩) hoL
      · have hst6 := hst.2.2.2.2.2
        have hT : va_T .byte (oA o q) (shp q).2 (fun j => .int (Int32.ofInt ((stc q).getD j 0))) (aA o) s s.heap := by
          rcases shp_7 q hk with rfl | rfl
          · exact hst6.2.2.1.2.2.2
          · exact hst6.2.2.2.1.2.2.2
        exact va_tb hx hb hT hS (in_vp hi1 h0 h1) (by rw [clampI hi1 h0]; rfl) hdec (go (vI ((stc q).getD i.toNat 0) :: S) L σ H locs ls hw hH hS hl (okL_cons.mpr ⟨stc_in q _, hoS⟩) hoL)
    case aaload =>
      obtain ⟨hn, hi⟩ := grd_s hz
      have hn : n = 1 := by simpa using hn
      subst hn
      cases hi
      rcases S with _ | ⟨i | i | i | i, S⟩ <;> try exact False.elim hw
      rcases S with _ | ⟨q | q | q | q, S⟩ <;> try exact False.elim hw
      have hi1 := (okL_cons.mp hoS).1
      replace hoS := (okL_cons.mp hoS).2
      have hi1 : i32 i := hi1
      replace hoS := (okL_cons.mp hoS).2
      obtain ⟨hk, ⟨h0, h1⟩, hw⟩ : (shp q).1 = 2 ∧ (0 ≤ i ∧ i < ((shp q).2 : Int)) ∧ wp ca lv (yK Y) K Q f r (vR (rfs q i.toNat) :: S) L σ := hw
      have hqN := shp_012 q (by omega)
      have he := wsO_get o σ hqN
      rw [cel_2 hk] at he
      have hin := in_vp hi1 h0 h1
      have hlt : (Int32.ofInt i).toNatClampNeg < (shp q).2 := Nat.not_le.mp fun z => hin (Or.inr z)
      refine W.aald (v := va_rf (some (oA o (rfs q (Int32.ofInt i).toNatClampNeg)))) (ty := .array .int) hx hb (hH.1.1 q _ he) ((hst.1.2 2 _ rfl).1 (shp q).2 (fun j => va_rf (some (oA o (rfs q j))))) rfl (fun z => by cases z) (by show ¬ (Int32.ofInt i < 0 ∨ (arrV _ _ _).slots.size ≤ _); rw [arrV_size]; exact hin) (by show (arrV _ _ _).slots[_]? = _; rw [arrV_read _ _ hlt]) rfl rfl hdec ?_
      rw [clampI hi1 h0]
      exact go (vR (rfs q i.toNat) :: S) L σ H locs ls hw hH hS hl (okL_cons.mpr ⟨trivial, hoS⟩) hoL
    case iastore =>
      obtain ⟨hn, hi⟩ := grd_s hz
      have hn : n = 1 := by simpa using hn
      subst hn
      cases hi
      rcases S with _ | ⟨x | x | x | x, S⟩ <;> try exact False.elim hw
      rcases S with _ | ⟨i | i | i | i, S⟩ <;> try exact False.elim hw
      rcases S with _ | ⟨q | q | q | q, S⟩ <;> try exact False.elim hw
      obtain ⟨hx1, hoS⟩ := okL_cons.mp hoS
      have hi1 := (okL_cons.mp hoS).1
      replace hoS := (okL_cons.mp hoS).2
      have hi1 : i32 i := hi1
      replace hoS := (okL_cons.mp hoS).2
      obtain ⟨hk, ⟨h0, h1⟩, hw⟩ : (shp q).1 = 0 ∧ (0 ≤ i ∧ i < ((shp q).2 : Int)) ∧ wp ca lv (yK Y) K Q f r S L (su σ q i x) := hw
      have hqN := shp_012 q (by omega)
      have he := wsO_get o σ hqN
      rw [cel_0 hk] at he
      refine va_iast hx hb hst.1 hH.1.1 (wsO_D o σ hst.2.2.1) hS q 0 he rfl (in_vp hi1 h0 h1) hdec ?_
      intro H1 locs1 hP1 hD1 hS1
      rw [upd_of hi1 h0, ← cel_0 hk, wsO_set o σ _ hqN su_ne] at hP1
      exact go S L _ H1 locs1 ls hw ⟨⟨hP1, su_okv hH.1.2 (by omega) hx1⟩, scr_su hH.2 hqN⟩ hS1 hl hoS hoL
    case bastore =>
      obtain ⟨hn, hi⟩ := grd_s hz
      have hn : n = 1 := by simpa using hn
      subst hn
      cases hi
      rcases S with _ | ⟨x | x | x | x, S⟩ <;> try exact False.elim hw
      rcases S with _ | ⟨i | i | i | i, S⟩ <;> try exact False.elim hw
      rcases S with _ | ⟨q | q | q | q, S⟩ <;> try exact False.elim hw
      obtain ⟨hx1, hoS⟩ := okL_cons.mp hoS
      have hi1 := (okL_cons.mp hoS).1
      replace hoS := (okL_cons.mp hoS).2
      have hi1 : i32 i := hi1
      replace hoS := (okL_cons.mp hoS).2
      obtain ⟨hk, ⟨h0, h1⟩, hxz, hw⟩ : (shp q).1 = 1 ∧ (0 ≤ i ∧ i < ((shp q).2 : Int)) ∧ (x = 0 ∨ x = 1) ∧ wp ca lv (yK Y) K Q f r S L (su σ q i x) := hw
      have hqN := shp_012 q (by omega)
      have he := wsO_get o σ hqN
      rw [cel_1 hk] at he
      refine va_zast hx hb hst.1 hH.1.1 (wsO_D o σ hst.2.2.1) hS q 1 he rfl (in_vp hi1 h0 h1) hdec ?_
      intro H1 locs1 hP1 hD1 hS1
      rw [nar_z hxz, upd_of hi1 h0, ← cel_1 hk, wsO_set o σ _ hqN su_ne] at hP1
      exact go S L _ H1 locs1 ls hw ⟨⟨hP1, su_okv hH.1.2 (by omega) hx1⟩, scr_su hH.2 hqN⟩ hS1 hl hoS hoL
    case arraylength =>
      obtain ⟨hn, hi⟩ := grd_s hz
      have hn : n = 1 := by simpa using hn
      subst hn
      cases hi
      rcases S with _ | ⟨q | q | q | q, S⟩ <;> try exact False.elim hw
      replace hoS := (okL_cons.mp hoS).2
      rcases aln_c hw with ⟨hk, hw⟩ | ⟨hk, hw⟩ | ⟨hk, hw⟩
      · have hqN := shp_012 q (by omega)
        have he := wsO_get o σ hqN
        rw [cel_0 hk] at he
        exact va_alen (ty := .int) hx hb hst.1 hH.1.1 q 0 he rfl (len_ofInt _) hdec (go (vI ((shp q).2 : Int) :: S) L σ H locs ls hw hH hS hl (okL_cons.mpr ⟨len_in q, hoS⟩) hoL)
      · have hst6 := hst.2.2.2.2.2
        have hT : va_T .byte (oA o q) (shp q).2 (fun j => .int (Int32.ofInt ((stc q).getD j 0))) (aA o) s s.heap := by
          rcases shp_7 q hk with rfl | rfl
          · exact hst6.2.2.1.2.2.2
          · exact hst6.2.2.2.1.2.2.2
        exact va_tlen hx hb hT hS (len_ofInt _) hdec (go (vI ((shp q).2 : Int) :: S) L σ H locs ls hw hH hS hl (okL_cons.mpr ⟨len_in q, hoS⟩) hoL)
      · have hq2 := shp_5 q hk
        subst hq2
        obtain ⟨z1, z2, z3⟩ := hst.2.2.2.2.1
        refine va_slen hx hb z1 z2 z3 hS hdec ?_
        rw [show (Value.int (Int32.ofNat (oN o))) = cv o (vI (σ 102 (-1))) from by rw [hH.2.2.1]; exact congrArg Value.int (len_ofInt _)]
        exact go (vI (σ 102 (-1)) :: S) L σ H locs ls hw hH hS hl (okL_cons.mpr ⟨okS_at hH.1.2 (by omega), hoS⟩) hoL
    case invokevirtual ix =>
      obtain ⟨hn, hi⟩ := grd_s hz
      have hn : n = 3 := by simpa using hn
      subst hn
      obtain ⟨cd, hq, rfl⟩ := map_s hi
      obtain ⟨k1, k2, k3⟩ : (tbl dCa ca cd).1 ≤ S.length ∧ catS (S.drop (tbl dCa ca cd).1) ≤ 8 ∧ (tbl dCa ca cd).2 (S.take (tbl dCa ca cd).1).reverse σ (fun rr σ => wp ca lv (yK Y) K Q f r (rr ++ S.drop (tbl dCa ca cd).1) L σ) := hw
      have hdr : okL (S.drop (tbl dCa ca cd).1) := fun v hv => hoS v (List.mem_of_mem_drop hv)
      have h := hEV _ (look_mem hq) Q p e R s m args below meth c cells slots Z C0 H locs ls pc (S.take (tbl dCa ca cd).1).reverse (S.drop (tbl dCa ca cd).1) σ _ hdec hH hS hl.1 (fun v hv => hoS v (List.mem_of_mem_take (List.mem_reverse.mp hv))) hdr (by rw [List.length_reverse, List.length_take]; exact Nat.min_eq_left k1) k2 k3 (fun rr σ1 H1 locs1 h1 h2 h3 h4 => go _ L σ1 H1 locs1 ls h1 h3 h4 hl (okL_app h2 hdr) hoL)
      rw [List.reverse_reverse, List.take_append_drop] at h
      exact h
    case invokestatic ix =>
      obtain ⟨hn, hi⟩ := grd_s hz
      have hn : n = 3 := by simpa using hn
      subst hn
      obtain ⟨cd, hq, rfl⟩ := map_s hi
      obtain ⟨k1, k2, k3⟩ : (tbl dCa ca cd).1 ≤ S.length ∧ catS (S.drop (tbl dCa ca cd).1) ≤ 8 ∧ (tbl dCa ca cd).2 (S.take (tbl dCa ca cd).1).reverse σ (fun rr σ => wp ca lv (yK Y) K Q f r (rr ++ S.drop (tbl dCa ca cd).1) L σ) := hw
      have hdr : okL (S.drop (tbl dCa ca cd).1) := fun v hv => hoS v (List.mem_of_mem_drop hv)
      have h := hES _ (look_mem hq) Q p e R s m args below meth c cells slots Z C0 H locs ls pc (S.take (tbl dCa ca cd).1).reverse (S.drop (tbl dCa ca cd).1) σ _ hdec hH hS hl.1 (fun v hv => hoS v (List.mem_of_mem_take (List.mem_reverse.mp hv))) hdr (by rw [List.length_reverse, List.length_take]; exact Nat.min_eq_left k1) k2 k3 (fun rr σ1 H1 locs1 h1 h2 h3 h4 => go _ L σ1 H1 locs1 ls h1 h3 h4 hl (okL_app h2 hdr) hoL)
      rw [List.reverse_reverse, List.take_append_drop] at h
      exact h
    case ireturn =>
      obtain ⟨hn, hi⟩ := grd_s hz
      have hn : n = 1 := by simpa using hn
      subst hn
      cases hi
      rcases S with _ | ⟨v | v | v | v, S⟩ <;> try exact False.elim hw
      rcases S with _ | ⟨a, S⟩ <;> try exact False.elim hw
      obtain ⟨k1, k2⟩ : (yK Y = 1 ∨ (yK Y = 2 ∧ (v = 0 ∨ v = 1)) ∨ (yK Y = 4 ∧ v = 0)) ∧ Q [vI v] σ := hw
      exact hret H locs ls pc [vI v] σ hH hS hoS k2 ⟨k1, hdec⟩
    case lreturn =>
      obtain ⟨hn, hi⟩ := grd_s hz
      have hn : n = 1 := by simpa using hn
      subst hn
      cases hi
      rcases S with _ | ⟨v | v | v | v, S⟩ <;> try exact False.elim hw
      rcases S with _ | ⟨a, S⟩ <;> try exact False.elim hw
      obtain ⟨k1, k2⟩ : yK Y = 3 ∧ Q [vL v] σ := hw
      exact hret H locs ls pc [vL v] σ hH hS hoS k2 ⟨k1, hdec⟩
    case return_ =>
      obtain ⟨hn, hi⟩ := grd_s hz
      have hn : n = 1 := by simpa using hn
      subst hn
      cases hi
      rcases S with _ | ⟨v, S⟩ <;> try exact False.elim hw
      obtain ⟨k1, k2⟩ : yK Y = 0 ∧ Q [] σ := hw
      exact hret H locs ls pc [] σ hH hS hoS k2 ⟨k1, hdec⟩
    all_goals exact absurd hz (by simp [rz])
end
section
-- ===== methods' contracts, and calls =====
def Sound (o : OM) (Y : Pk) (d : Nat) (C : Ctr) : Prop := ∀ (Q : List AV → Sto → Prop) (A : List AV) (σ : Sto), okL A → C A σ Q → At o Y d Q 0 [] (entL A) σ
def isNest : Cond → Bool
  | .fieldLinkNest .. => true
  | .methodLinkNest .. => true
  | _ => false
theorem nestW_all : nestW.all isNest = true := by decide +kernel
theorem nest_warm {w : Cond} (hw : isNest w = true) {s U : State} (hW : s.WarmedH U.vm) (h : va_Nw w s) : va_Nw w U := by
  cases w <;> first | exact va_Nw.warmF hW h | exact va_Nw.warmM hW h | cases hw
theorem nest_same {w : Cond} (hw : isNest w = true) {s U : State} (hv : s.vm = U.vm) (h : va_Nw w s) : va_Nw w U := by
  cases w <;> first | exact va_Nw.same rfl hv h | cases hw
theorem stF_move {o : OM} {C f : String} {q : Nat} {s U : State} {locs : List Loc} (ha : s.vm.Alike U.vm) (hS : va_S (aA o) s.heap U.heap locs) (h : stF o C f q s) : stF o C f q U :=
  ⟨va_Z.moved ha (h.1.kept hS.2.1), va_T.moved ha (h.2.kept hS.2.1)⟩
theorem strF1_move {o : OM} {q b : Nat} {s U : State} {locs : List Loc} (ha : s.vm.Alike U.vm) (hS : va_S (aA o) s.heap U.heap locs) (h : strF1 o q b s) : strF1 o q b U :=
  ⟨va_O.moved ha (h.1.kept hS.2.1), va_OF.moved ha (h.2.1.kept hS.2.1), va_OF.moved ha (h.2.2.1.kept hS.2.1), va_T.moved ha (h.2.2.2.kept hS.2.1)⟩
theorem Std_move {o : OM} {s U : State} {locs : List Loc} (h : Std o s) (hW : s.WarmedH U.vm) (hS : va_S (aA o) s.heap U.heap locs) : Std o U := by
  obtain ⟨h1, h2, h3, ⟨z1, z2, z3, z4⟩, ⟨x1, x2, x3⟩, t1, t2, t3, t4, t5⟩ := h
  have ha := hW.alike
  exact ⟨va_K.moved ha h1, fun w hw => nest_warm (List.all_eq_true.mp nestW_all w hw) hW (h2 w hw), h3, ⟨stF_move ha hS z1, stF_move ha hS z2, stF_move ha hS z3, stF_move ha hS z4⟩,
    ⟨va_X.moved ha (x1.kept (hS.2.1 _ x2 x3)), Nat.lt_of_lt_of_le x2 hS.1, x3⟩, vk_R.warm hW t1, vk_R.warm hW t2, strF1_move ha hS t3, strF1_move ha hS t4, va_Z.moved ha (t5.kept hS.2.1)⟩
theorem Std_same {o : OM} {s U : State} (h : Std o s) (hv : U.vm = s.vm) (hh : U.heap = s.heap) : Std o U := by
  obtain ⟨h1, h2, h3, ⟨z1, z2, z3, z4⟩, ⟨x1, x2, x3⟩, t1, t2, t3, t4, t5⟩ := h
  have ha : s.vm.Alike U.vm := by rw [hv]; exact Vm.Alike.refl _
  have hS : va_S (aA o) s.heap U.heap [] := by rw [hh]; exact va_S.rf
  exact ⟨va_K.moved ha h1, fun w hw => nest_same (List.all_eq_true.mp nestW_all w hw) hv.symm (h2 w hw), h3, ⟨stF_move ha hS z1, stF_move ha hS z2, stF_move ha hS z3, stF_move ha hS z4⟩,
    ⟨va_X.moved ha (x1.kept (hS.2.1 _ x2 x3)), Nat.lt_of_lt_of_le x2 hS.1, x3⟩, vk_R.same hv t1, vk_R.same hv t2, strF1_move ha hS t3, strF1_move ha hS t4, va_Z.moved ha (t5.kept hS.2.1)⟩
/-- a method's end, by the kind of what it returns -/
def QQ (o : OM) (rt : Nat) (Q : List AV → Sto → Prop) : Array Value → State → Outcome → State → Prop := match rt with
  | 0 => va_Qv (fun σ : Sto => Q [] σ) (fun σ t => Wld o σ t) (aA o)
  | 3 => va_Ql (fun r (σ : Sto) => Q [vL r.toInt] σ) (fun σ t => Wld o σ t) (aA o)
  | _ => va_Qi (fun r (σ : Sto) => Q [vI r.toInt] σ) (fun σ t => Wld o σ t) (aA o)
def kndOK (rt : Nat) (ret : Option FieldType) : Prop := (rt = 0 ∧ ret = none) ∨ (rt = 1 ∧ ret = some .int) ∨ (rt = 2 ∧ ret = some .boolean) ∨ (rt = 3 ∧ ret = some .long) ∨ (rt = 4 ∧ ret = some .byte)
def wsY (Y : Pk) : List Cond := Cond.code (yN Y) (yB Y) (yL Y) (yR Y) :: wsG
theorem ent_args (o : OM) : ∀ (A : List AV) (k : Nat) (q : Nat × Value), q ∈ cvL o k (entL A) → q ∈ lv_args k (A.map (cv o))
  | [], k, q, h => by cases h
  | a :: t, k, q, h => by
    rcases a with a | a | a | a
    · rcases List.mem_cons.mp h with rfl | h
      · exact List.mem_cons_self
      · exact List.mem_cons_of_mem _ (ent_args o t (k + 1) q h)
    · rcases List.mem_cons.mp h with rfl | h
      · exact List.mem_cons_self
      · exact List.mem_cons_of_mem _ (ent_args o t (k + 2) q h)
    · rcases List.mem_cons.mp h with rfl | h
      · exact List.mem_cons_self
      · exact List.mem_cons_of_mem _ (ent_args o t (k + 1) q h)
    · exact List.mem_cons_of_mem _ (ent_args o t (k + 1) q h)
theorem ent_len (o : OM) : ∀ A : List AV, (lg_sl (A.map (cv o))).length = (entL A).length
  | [] => rfl
  | a :: t => by
    have ih := ent_len o t
    rcases a with a | a | a | a <;> simp [lg_sl, entL, cv, Value.category] at ih ⊢ <;> omega
theorem ent_ok {A : List AV} (h : okL A) : okL (entL A) := by
  induction A with
  | nil => exact h
  | cons a t ih =>
    obtain ⟨h1, h2⟩ := okL_cons.mp h
    rcases a with a | a | a | a
    · exact okL_cons.mpr ⟨h1, ih h2⟩
    · exact okL_cons.mpr ⟨h1, okL_cons.mpr ⟨trivial, ih h2⟩⟩
    · exact okL_cons.mpr ⟨h1, ih h2⟩
    · exact okL_cons.mpr ⟨h1, ih h2⟩
theorem met_of {o : OM} {Y : Pk} {d : Nat} {C : Ctr} (hS : Sound o Y d C) (hp : plainName (yN Y).cls = true) (hk : kndOK (yK Y) (yR Y)) {Q : List AV → Sto → Prop} {A : List AV} {σ : Sto} (hA : okL A) (hn : (entL A).length ≤ yL Y) (hC : C A σ Q) :
    Met (oL o) (yN Y) (wsY Y) (rm d) (va_Pc (A.map (cv o)) (fun U => Wld o σ U)) (QQ o (yK Y) Q) 0 0 (aA o) := by
  refine Met.ofW (cc := yB Y) (maxL := yL Y) (ret := yR Y) hp rfl ?_
  intro p e s m args below meth c s₁ B hml hv
  obtain ⟨rfl, hst, hHs⟩ := hv
  have hx := B.exec
  have hb := B.bytes
  have hr := B.returns
  have hlocks := B.notSynchronized
  have hts0 := atoms_spec (ws := wsY Y) B.pre
  have hts : ∀ w ∈ wsG, w.before _ s = true := fun w hw => hts0 w (List.mem_cons_of_mem _ hw)
  have hown : s.vm.findClass (yN Y).cls = some m.cls := findClass_of_methodNamed B.named
  have hend : ∀ (H : Heap) (locs : List Loc) (σ : Sto) (t : State), Hs o σ H → va_S (aA o) s.heap H locs → t.heap = H → s.WarmedH t.vm → Wld o σ t ∧ va_F (aA o) s t := by
    intro H locs σ t h1 h2 h3 h4
    subst h3
    exact ⟨⟨Std_move hst h4 h2, h1⟩, h2.F rfl⟩
  have C0 : Cx o Y d Q p e (headSpec (wsY Y) (rm d)).room s m (A.map (cv o)).toArray below meth c 0 0 (MQ below (QQ o (yK Y) Q) (A.map (cv o)).toArray s 0 0 (aA o)) := by
    refine ⟨hx, hb, hml, hown, hts, hst, ⟨Nat.le_refl _, Nat.le_refl _, Nat.zero_le _, Nat.zero_le _⟩, ?_⟩
    intro H locs ls pc r σ h1 h2 h3 h4 h5
    match r, h3, h4, h5 with
    | [], h3, h4, h5 =>
      obtain ⟨e1, e2⟩ := h5
      have hr0 : meth.sig.returnType = none := by
        rw [hr]
        rcases hk with ⟨a, b⟩ | ⟨a, b⟩ | ⟨a, b⟩ | ⟨a, b⟩ | ⟨a, b⟩ <;> first | exact b | omega
      refine W.vret hx hb hr0 (fun t ht hW => ?_) h2.2.2 e2
      rw [e1]
      obtain ⟨g1, g2⟩ := hend H locs σ t h1 h2 ht hW
      exact ⟨⟨σ, rfl, h4, g1⟩, g2⟩
    | [.inl v], h3, h4, h5 =>
      obtain ⟨e1, e2⟩ := h5
      have hv1 : i32 v := h3 _ List.mem_cons_self
      have key : ∀ t : State, t.heap = H → s.WarmedH t.vm → QQ o (yK Y) Q (A.map (cv o)).toArray s (.returned (some (.int (Int32.ofInt v)))) t := by
        intro t ht hW
        obtain ⟨g1, g2⟩ := hend H locs σ t h1 h2 ht hW
        have hq : va_Qi (fun r (σ : Sto) => Q [vI r.toInt] σ) (fun σ t => Wld o σ t) (aA o) (A.map (cv o)).toArray s (.returned (some (.int (Int32.ofInt v)))) t :=
          ⟨⟨Int32.ofInt v, σ, rfl, by show Q [vI (Int32.ofInt v).toInt] σ; rw [i32_to hv1]; exact h4, g1⟩, g2⟩
        rcases e1 with e | ⟨e, -⟩ | ⟨e, -⟩ <;> rw [e] <;> exact hq
      rcases e1 with e | ⟨e, hz⟩ | ⟨e, hz⟩
      · have hr0 : meth.sig.returnType = some .int := by
          rw [hr]
          rcases hk with ⟨a, b⟩ | ⟨a, b⟩ | ⟨a, b⟩ | ⟨a, b⟩ | ⟨a, b⟩ <;> first | exact b | omega
        exact W.iret hx hb hr0 key h2.2.2 e2
      · have hr0 : meth.sig.returnType = some .boolean := by
          rw [hr]
          rcases hk with ⟨a, b⟩ | ⟨a, b⟩ | ⟨a, b⟩ | ⟨a, b⟩ | ⟨a, b⟩ <;> first | exact b | omega
        exact W.zret hx hb hr0 (nar_z2 hz).1 key h2.2.2 e2
      · have hr0 : meth.sig.returnType = some .byte := by
          rw [hr]
          rcases hk with ⟨a, b⟩ | ⟨a, b⟩ | ⟨a, b⟩ | ⟨a, b⟩ | ⟨a, b⟩ <;> first | exact b | omega
        exact W.zret hx hb hr0 (by rw [hz]; rfl) key h2.2.2 e2
    | [.inr (.inl v)], h3, h4, h5 =>
      obtain ⟨e1, e2⟩ := h5
      have hv1 : i64 v := h3 _ List.mem_cons_self
      have hr0 : meth.sig.returnType = some .long := by
        rw [hr]
        rcases hk with ⟨a, b⟩ | ⟨a, b⟩ | ⟨a, b⟩ | ⟨a, b⟩ | ⟨a, b⟩ <;> first | exact b | omega
      refine W.lret hx hb hr0 (fun t ht hW => ?_) h2.2.2 e2
      rw [e1]
      obtain ⟨g1, g2⟩ := hend H locs σ t h1 h2 ht hW
      exact ⟨⟨Int64.ofInt v, σ, rfl, by show Q [vL (Int64.ofInt v).toInt] σ; rw [i64_to hv1]; exact h4, g1⟩, g2⟩
  have hl := lv_entry (A.map (cv o)) (n := yL Y) (by rw [ent_len]; exact hn)
  rw [lg_entry_eq]
  exact hS Q A σ hA hC p e _ s m _ below meth c 0 0 _ C0 s.heap [] _ hHs va_S.rf (lv_mono hl (fun q hq => ent_args o A 0 q hq)) (fun v hv => by cases hv) (ent_ok hA)
-- calls
def arg (n : Nat) (C : Ctr) : Ctr := fun A σ k => (entL A).length ≤ n ∧ C A σ k
def rcv (ci n : Nat) (C : Ctr) : Ctr := fun A σ k => (match A with
  | .inr (.inr (.inl q)) :: _ => shp q = (3, ci)
  | _ => False) ∧ (entL A).length ≤ n ∧ C A σ k
theorem cat_sum (o : OM) : ∀ S : List AV, ((S.map (cv o)).map fun v => v.category).sum ≤ catS S
  | [] => Nat.le_refl _
  | a :: t => by
    have ih := cat_sum o t
    rcases a with a | a | a | a <;> simp [catS, cat1, cv, Value.category] at ih ⊢ <;> omega
/-- the words of a callee, whatever the call -/
def calW (Y' : Pk) : Prop := plainName (yN Y').cls = true ∧ kndOK (yK Y') (yR Y') ∧ Cond.code (yN Y') (yB Y') (yL Y') (yR Y') ∈ wsG ∧ Cond.initialized (yN Y').cls ∈ wsG ∧ ((yN Y').cls ≠ "java/lang/invoke/MethodHandle" ∧ (yN Y').cls ≠ "java/lang/invoke/VarHandle") ∧ yL Y' ≤ 60
theorem good_Y {Y' : Pk} (h : Cond.code (yN Y') (yB Y') (yL Y') (yR Y') ∈ wsG) : GoodIn wsG (wsY Y') := fun w hw => by
  rcases List.mem_cons.mp hw with rfl | hw
  · exact wsG_good _ h
  · exact wsG_good _ hw
/-- behind the call -/
theorem call_end {o : OM} {rt : Nat} {Q : List AV → Sto → Prop} {p : Program} {e : Env} {R : Room} {s : State} {m : MethodId} {args : Array Value} {below : List Frame} {meth : Method} {c : Code} {cells slots : Nat} {Z : State → Prop} {H : Heap} {locs : List Loc} {ls : Array Slot} {pc : Nat} {st0 : List Value} {rest : List AV} {a : Array Value} {ret : Option FieldType} (hk : kndOK rt ret)
    (hr : va_Run p (oL o) e R s m args below meth c H locs cells slots 0 0 (F0 m pc ls st0) (rest.map (cv o)) (QQ o rt Q a) (aA o)) (hS : va_S (aA o) s.heap H locs)
    (kk : ∀ (r : List AV) (σ : Sto) (H : Heap) (locs : List Loc), Q r σ → okL r → Hs o σ H → va_S (aA o) s.heap H locs → W p (oL o) e R s m args below meth c H locs cells slots Z (F0 m (pc + 3) ls ((r ++ rest).map (cv o)))) :
    W p (oL o) e R s m args below meth c H locs cells slots Z (F0 m pc ls st0) := by
  have key : rt ≠ 0 → rt ≠ 3 → va_Run p (oL o) e R s m args below meth c H locs cells slots 0 0 (F0 m pc ls st0) (rest.map (cv o)) (va_Qi (fun r (σ : Sto) => Q [vI r.toInt] σ) (fun σ t => Wld o σ t) (aA o) a) (aA o) := by
    intro h1 h2
    rcases hk with ⟨rfl, -⟩ | ⟨rfl, -⟩ | ⟨rfl, -⟩ | ⟨rfl, -⟩ | ⟨rfl, -⟩
    · exact absurd rfl h1
    · exact hr
    · exact hr
    · exact absurd rfl h2
    · exact hr
  by_cases h0 : rt = 0
  · subst h0
    refine va_callv (a := a) hr hS (fun q _ h => h) (fun q h => h) ?_
    intro σ t H1 locs1 ht hvm hq hB hz hk hS1
    subst ht
    exact kk [] σ _ locs1 hq (fun v hv => by cases hv) hB.2 hS1
  · by_cases h3 : rt = 3
    · subst h3
      refine va_calll (a := a) hr hS (fun q _ h => h) (fun q h => h) ?_
      intro r σ t H1 locs1 ht hvm hq hB hz hk hS1
      subst ht
      have h := kk [vL r.toInt] σ _ locs1 hq (fun v hv => by rw [List.mem_singleton.mp hv]; exact i64_in r) hB.2 hS1
      rw [show ([vL r.toInt] ++ rest).map (cv o) = Value.long r :: rest.map (cv o) from congrArg (fun z => Value.long z :: rest.map (cv o)) (of64 r)] at h
      exact h
    · refine va_calli (a := a) (key h0 h3) hS (fun q _ h => h) (fun q h => h) ?_
      intro r σ t H1 locs1 ht hvm hq hB hz hk hS1
      subst ht
      have h := kk [vI r.toInt] σ _ locs1 hq (fun v hv => by rw [List.mem_singleton.mp hv]; exact i32_in r) hB.2 hS1
      rw [show ([vI r.toInt] ++ rest).map (cv o) = Value.int r :: rest.map (cv o) from congrArg (fun z => Value.int z :: rest.map (cv o)) (of32 r)] at h
      exact h
theorem blind (o : OM) (av : List Value) (σ : Sto) : FrameBlind (va_Pc av (fun U => Wld o σ U)) := fun a U g mk h => ⟨h.1, Std_same h.2.1 rfl rfl, h.2.2⟩
theorem pre_at {o : OM} {s : State} {H : Heap} {locs : List Loc} {σ : Sto} (hst : Std o s) (hS : va_S (aA o) s.heap H locs) (hH : Hs o σ H) : ∀ U : State, U.heap = H → s.WarmedH U.vm → Wld o σ U := fun U hU hW => by
  subst hU
  exact ⟨Std_move hst hW hS, hH⟩
theorem recv_at {o : OM} {s : State} {H : Heap} {locs : List Loc} {σ : Sto} (hst : Std o s) (hS : va_S (aA o) s.heap H locs) (hH : Hs o σ H) {q ci : Nat} {C : String} (hq : shp q = (3, ci)) (hc : (∃ T N, vwCl[ci]? = some (C, T, N)) ∨ (ci = 20 ∧ C = "java/lang/String")) : ∃ cell : Cell, H[oA o q]? = some cell ∧ cell.vm.isStatics = false ∧ s.vm.findClass C = some cell.cls := by
  rcases hc with ⟨T, N, hc⟩ | ⟨rfl, rfl⟩
  · have hci : ci < 10 := (List.getElem?_eq_some_iff.mp hc).1
    have he := wsO_get o σ (shp_3 q _ hq hci)
    rw [cel_3 hq] at he
    exact va_recv hst.1 hH.1.1 hc he
  · have h6 := hst.2.2.2.2.2
    have key : ∀ a, va_O "java/lang/String" a (aA o) s s.heap → ∃ cell : Cell, H[a]? = some cell ∧ cell.vm.isStatics = false ∧ s.vm.findClass "java/lang/String" = some cell.cls := by
      intro a h
      obtain ⟨cell, h1, h2, h3, -⟩ := h.kept hS.2.1
      exact ⟨cell, h1, h2, h3⟩
    rcases shp_20 q hq with rfl | rfl
    · exact key _ h6.2.2.1.1
    · exact key _ h6.2.2.2.1.1
set_option maxHeartbeats 2000000 in
theorem callV_ok {o : OM} {Y Y' : Pk} {d d' ci idx na : Nat} {C : Ctr} (hS' : Sound o Y' d' C) (hd : d' + 1 ≤ d) (hw : calW Y')
    (hl : Cond.methodLink (yN Y).cls idx (yN Y') ∈ wsG ∨ ∃ host, Cond.methodLinkNest (yN Y).cls idx (yN Y') host ∈ nestW) (hin : Cond.instanceMethod (yN Y') ∈ wsG) (hsel : Cond.selects (yN Y').cls (yN Y') (yN Y') ∈ wsG)
    (hc : (∃ T N, vwCl[ci]? = some ((yN Y').cls, T, N)) ∨ (ci = 20 ∧ (yN Y').cls = "java/lang/String")) (hn : (parseMethodDescriptor (yN Y').desc).map (fun d => d.parameters.length + 1) = some na) :
    CallOK o Y d (.invokevirtual idx) (na, rcv ci (yL Y') C) := by
  intro Q p e R s m args below meth c cells slots Z C0 H locs ls pc A rest σ k hdec hH hS hls hA hrest hAn hcat hC kk
  obtain ⟨hx, hb, hml, hown, hts, hst, ⟨hR1, hR2, hR3, hR4⟩, hret⟩ := id C0
  obtain ⟨w1, w2, w3, w4, w5, w6⟩ := hw
  obtain ⟨c1, c2, c3⟩ := hC
  rcases A with _ | ⟨q | q | q | q, A⟩ <;> try exact False.elim c1
  have c1 : shp q = (3, ci) := c1
  have hM := met_of hS' w1 w2 hA c2 c3
  have hfr : (rm d').frames + 1 ≤ R.frames := Nat.le_trans (by simp [rm]; omega) hR1
  have hlo : 8 + (yL Y' + 11) + (rm d').locals ≤ R.locals := Nat.le_trans (by simp [rm]; omega) hR2
  have hpay := pay_in hts (good_Y w3)
  have hsig : ∀ sig, parseMethodDescriptor (yN Y').desc = some sig → A.length = sig.parameters.length := by
    intro sig h
    rw [h] at hn
    have hn : sig.parameters.length + 1 = na := by simpa using hn
    have : A.length + 1 = na := hAn
    omega
  have hpre : PreV s H (yN Y').cls (oA o q) (va_Pc ((vR q :: A).map (cv o)) (fun U => Wld o σ U)) (A.map (cv o)) := ⟨blind o _ σ, recv_at hst hS hH c1 hc, fun U hU hW => ⟨rfl, pre_at hst hS hH U hU hW⟩⟩
  have hstk : ((vR q :: A).reverse ++ rest).map (cv o) = (A.map (cv o)).reverse ++ .ref (oA o q) :: rest.map (cv o) := by simp [cv]
  have hwd : 2 * (F0 m pc ls (((vR q :: A).reverse ++ rest).map (cv o))).monitorRoom + ((rest.map (cv o)).map fun v => v.category).sum ≤ 8 := lv_room (Nat.le_trans (cat_sum o rest) hcat)
  rcases hl with hl | ⟨host, hl⟩
  · refine call_end (a := (Value.ref (oA o q) :: A.map (cv o)).toArray) w2 (va_runV (n := A.length) (C := (yN Y').cls) (bytes := yB Y') (maxL := yL Y') (ret := yR Y') ⟨hx, hb, hml, hown, hts⟩ hM ⟨⟨rfl, rfl, hfr, hlo, hpay, List.mem_cons_self, hts _ w3, hts _ w4, w5, hsig, hts _ hl⟩, hts _ hin, hts _ hsel⟩ hpre rfl (by simp) hls hstk hwd hdec ⟨hR3, hR4⟩) hS kk
  · refine call_end (a := (Value.ref (oA o q) :: A.map (cv o)).toArray) w2 (va_runVN (n := A.length) (C := (yN Y').cls) (host := host) (bytes := yB Y') (maxL := yL Y') (ret := yR Y') ⟨hx, hb, hml, hown, hts⟩ hM ⟨⟨⟨rfl, rfl, hfr, hlo, hpay, List.mem_cons_self⟩, hts _ w3, hts _ w4, w5, hsig, va_Nw.use rfl (hst.2.1 _ hl)⟩, hts _ hin, hts _ hsel⟩ hpre rfl (by simp) hls hstk hwd hdec ⟨hR3, hR4⟩) hS kk
set_option maxHeartbeats 2000000 in
theorem callS_ok {o : OM} {Y Y' : Pk} {d d' idx na : Nat} {C : Ctr} (hS' : Sound o Y' d' C) (hd : d' + 1 ≤ d) (hw : calW Y')
    (hl : Cond.methodLink (yN Y).cls idx (yN Y') ∈ wsG ∨ ∃ host, Cond.methodLinkNest (yN Y).cls idx (yN Y') host ∈ nestW) (hstt : Cond.static (yN Y') ∈ wsG)
    (hn : (parseMethodDescriptor (yN Y').desc).map (fun d => d.parameters.length) = some na) :
    CallOK o Y d (.invokestatic idx) (na, arg (yL Y') C) := by
  intro Q p e R s m args below meth c cells slots Z C0 H locs ls pc A rest σ k hdec hH hS hls hA hrest hAn hcat hC kk
  obtain ⟨hx, hb, hml, hown, hts, hst, ⟨hR1, hR2, hR3, hR4⟩, hret⟩ := id C0
  obtain ⟨w1, w2, w3, w4, w5, w6⟩ := hw
  obtain ⟨c2, c3⟩ := hC
  have hM := met_of hS' w1 w2 hA c2 c3
  have hfr : (rm d').frames + 1 ≤ R.frames := Nat.le_trans (by simp [rm]; omega) hR1
  have hlo : 8 + (yL Y' + 11) + (rm d').locals ≤ R.locals := Nat.le_trans (by simp [rm]; omega) hR2
  have hpay := pay_in hts (good_Y w3)
  have hsig : ∀ sig, parseMethodDescriptor (yN Y').desc = some sig → A.length = sig.parameters.length := by
    intro sig h
    rw [h] at hn
    have hn : sig.parameters.length = na := by simpa using hn
    have : A.length = na := hAn
    omega
  have hpre : PreS s H (va_Pc (A.map (cv o)) (fun U => Wld o σ U)) (A.map (cv o)) := ⟨blind o _ σ, fun U hU hW => ⟨rfl, pre_at hst hS hH U hU hW⟩⟩
  have hstk : (A.reverse ++ rest).map (cv o) = (A.map (cv o)).reverse ++ rest.map (cv o) := by simp
  have hwd : 2 * (F0 m pc ls ((A.reverse ++ rest).map (cv o))).monitorRoom + ((rest.map (cv o)).map fun v => v.category).sum ≤ 8 := lv_room (Nat.le_trans (cat_sum o rest) hcat)
  rcases hl with hl | ⟨host, hl⟩
  · refine call_end (a := (A.map (cv o)).toArray) w2 (va_runS (n := A.length) (bytes := yB Y') (maxL := yL Y') (ret := yR Y') ⟨hx, hb, hml, hown, hts⟩ hM ⟨⟨rfl, rfl, hfr, hlo, hpay, List.mem_cons_self, hts _ w3, hts _ w4, w5, hsig, hts _ hl⟩, hts _ hstt⟩ hpre rfl (by simp) hls hstk hwd hdec ⟨hR3, hR4⟩) hS kk
  · refine call_end (a := (A.map (cv o)).toArray) w2 (va_runSN (n := A.length) (host := host) (bytes := yB Y') (maxL := yL Y') (ret := yR Y') ⟨hx, hb, hml, hown, hts⟩ hM ⟨⟨⟨rfl, rfl, hfr, hlo, hpay, List.mem_cons_self⟩, hts _ w3, hts _ w4, w5, hsig, va_Nw.use rfl (hst.2.1 _ hl)⟩, hts _ hstt, trivial⟩ hpre rfl (by simp) hls hstk hwd hdec ⟨hR3, hR4⟩) hS kk
end
section
-- ===== arraycopy, static rows, texts; a method without loops is its own contract =====
/-- a stretch of one row into another -/
def cpS (σ : Sto) (a : Nat) (sp : Int) (b : Nat) (dp n : Int) : Sto := fun q => if q = b then (fun j => if dp ≤ j ∧ j < dp + n then σ a (sp + (j - dp)) else σ b j) else σ q
def Ccopy : Ctr := fun A σ k => match A with
  | [.inr (.inr (.inl a)), .inl sp, .inr (.inr (.inl b)), .inl dp, .inl n] => (shp a).1 = 0 ∧ (shp b).1 = 0 ∧ 0 ≤ sp ∧ 0 ≤ dp ∧ 0 ≤ n ∧ sp + n ≤ ((shp a).2 : Int) ∧ dp + n ≤ ((shp b).2 : Int) ∧ k [] (cpS σ a sp b dp n)
  | _ => False
theorem cpS_ne {σ : Sto} {a b : Nat} {sp dp n : Int} : ∀ k, k ≠ b → cpS σ a sp b dp n k = σ k := fun k hk => by unfold cpS; rw [if_neg hk]
theorem cpS_eq {σ : Sto} {a b : Nat} {sp dp n : Int} : cpS σ a sp b dp n b = fun j => if dp ≤ j ∧ j < dp + n then σ a (sp + (j - dp)) else σ b j := by unfold cpS; rw [if_pos rfl]
theorem copy_ok {o : OM} {Y : Pk} {d idx : Nat} (hl : Cond.methodLink (yN Y).cls idx arraycopyName ∈ wsG) (h1 : Cond.native arraycopyName ∈ wsG) (h2 : Cond.static arraycopyName ∈ wsG) (h3 : Cond.initialized "java/lang/System" ∈ wsG) : CallOK o Y d (.invokestatic idx) (5, Ccopy) := by
  intro Q p e R s m args below meth c cells slots Z C0 H locs ls pc A rest σ k hdec hH hS hls hA hrest hAn hcat hC kk
  obtain ⟨hx, hb, hml, hown, hts, hst, ⟨hR1, hR2, hR3, hR4⟩, hret⟩ := id C0
  match A, hA, hC with
  | [.inr (.inr (.inl a)), .inl sp, .inr (.inr (.inl b)), .inl dp, .inl n], hA, hC =>
    obtain ⟨ka, kb, s0, d0, n0, l1, l2, hk⟩ : (shp a).1 = 0 ∧ (shp b).1 = 0 ∧ 0 ≤ sp ∧ 0 ≤ dp ∧ 0 ≤ n ∧ sp + n ≤ ((shp a).2 : Int) ∧ dp + n ≤ ((shp b).2 : Int) ∧ k [] (cpS σ a sp b dp n) := hC
    have hsp : i32 sp := hA (vI sp) (by simp)
    have hdp : i32 dp := hA (vI dp) (by simp)
    have hnn : i32 n := hA (vI n) (by simp)
    have ha := wsO_get o σ (shp_012 a (by omega))
    have hbN := shp_012 b (by omega)
    have hb' := wsO_get o σ hbN
    rw [cel_0 ka] at ha
    rw [cel_0 kb] at hb'
    have e0 : ∀ x : Int, i32 x → 0 ≤ x → ¬ Int32.ofInt x < 0 := fun x h1 h2 z => by have := (i32_lt h1 i32_0).mp z; omega
    have hnw : nativeFrameWords "java/lang/System" "arraycopy" 5 ≤ 60 := by decide +kernel
    have hloc : ((rest.map (cv o)).map fun v => v.category).sum + (nativeFrameWords "java/lang/System" "arraycopy" 5 + 11) ≤ R.locals := by
      have h1 := cat_sum o rest
      have h2 : 100 * (d + 1) ≤ R.locals := hR2
      omega
    refine va_copyi (ty := .int) hx hb (by rw [hml, hls]) hown (hts _ hl) (hts _ h1) (hts _ h2) (hts _ h3) hst.1 hH.1.1 (wsO_D o σ hst.2.2.1) hS a b 0 0 ha hb' rfl rfl rfl (e0 sp hsp s0) (e0 dp hdp d0) (e0 n hnn n0) (by rw [clampI hsp s0, clampI hnn n0]; omega) (by rw [clampI hdp d0, clampI hnn n0]; omega) (fun _ _ => rfl) (Nat.le_trans (show 1 ≤ d + 1 by omega) hR1) hloc hdec ?_
    intro H1 locs1 hP1 hD1 hS1
    have he : va_cpy (fun j : Nat => Int32.ofInt (σ a (j : Int))) (fun j : Nat => Int32.ofInt (σ b (j : Int))) (Int32.ofInt sp).toNatClampNeg (Int32.ofInt dp).toNatClampNeg (Int32.ofInt n).toNatClampNeg = fun j : Nat => Int32.ofInt (cpS σ a sp b dp n b (j : Int)) := by
      funext j
      rw [clampI hsp s0, clampI hdp d0, clampI hnn n0, cpS_eq]
      unfold va_cpy
      by_cases h : dp.toNat ≤ j ∧ j < dp.toNat + n.toNat
      · have h' : dp ≤ (j : Int) ∧ (j : Int) < dp + n := by omega
        rw [if_pos h]
        show _ = Int32.ofInt (if dp ≤ (j : Int) ∧ (j : Int) < dp + n then _ else _)
        rw [if_pos h']
        show Int32.ofInt (σ a ((sp.toNat + (j - dp.toNat) : Nat) : Int)) = _
        rw [show ((sp.toNat + (j - dp.toNat) : Nat) : Int) = sp + ((j : Int) - dp) by omega]
      · have h' : ¬ (dp ≤ (j : Int) ∧ (j : Int) < dp + n) := by omega
        rw [if_neg h]
        show _ = Int32.ofInt (if dp ≤ (j : Int) ∧ (j : Int) < dp + n then _ else _)
        rw [if_neg h']
    rw [he, ← cel_0 kb, wsO_set o σ _ hbN cpS_ne] at hP1
    refine kk [] _ H1 locs1 hk (fun v hv => by cases hv) ⟨⟨hP1, ?_⟩, ?_⟩ hS1
    · intro q j
      by_cases hq : q = b
      · subst hq
        rw [cpS_eq]
        refine ⟨fun z => absurd z (lng_not (by omega)), fun _ => ?_⟩
        show i32 (if _ then _ else _)
        split
        · exact okS_at hH.1.2 (by omega)
        · exact okS_at hH.1.2 (by omega)
      · rw [cpS_ne q hq]
        exact hH.1.2 q j
    · have hne : ∀ k, NP ≤ k → cpS σ a sp b dp n k = σ k := fun k hk => cpS_ne k (by omega)
      unfold scr
      rw [hne 102 (by decide), hne 103 (by decide), hne 104 (by decide)]
      exact hH.2
theorem ref_st {o : OM} {Y : Pk} {d i q : Nat} {C f : String} (hl : Cond.fieldLink (yN Y).cls i C f "[I" ∈ wsG) (h9 : ¬ q = 999) (h3 : ¬ (q = 103 ∨ q = 104)) (hz : ∀ s, Std o s → va_Z C f "[I" (.ref (oA o q)) (aA o) s s.heap) : RefOK o Y d i q := by
  intro op n hop Q p e R s m args below meth c cells slots Z C0 H locs ls pc rest hS hdec hk
  obtain ⟨hx, hb, hml, hown, hts, hst, hR, hret⟩ := id C0
  rcases hop with ⟨rfl, rfl, -⟩ | ⟨rfl, rfl, h⟩
  · rw [rfv_ne h9] at hk
    exact va_gets hx hb (hz s hst) hS hown (hts _ hl) (fun x h => h) hdec hk
  · exact absurd h h3
theorem ref_co {o : OM} {Y : Pk} {d i : Nat} (hl : Cond.fieldLink (yN Y).cls i "java/lang/String" "COMPACT_STRINGS" "Z" ∈ wsG) : RefOK o Y d i 999 := by
  intro op n hop Q p e R s m args below meth c cells slots Z C0 H locs ls pc rest hS hdec hk
  obtain ⟨hx, hb, hml, hown, hts, hst, hR, hret⟩ := id C0
  rcases hop with ⟨rfl, rfl, -⟩ | ⟨rfl, rfl, h⟩
  · exact va_gets hx hb hst.2.2.2.2.2.2.2.2.2 hS hown (hts _ hl) (fun x h => h) hdec hk
  · exact absurd h (by decide)
theorem ref_tx {o : OM} {Y : Pk} {d i q : Nat} {tx : String} (h3 : q = 103 ∨ q = 104) (hz : ∀ s, Std o s → vk_R (yN Y).cls i tx (oA o q) s) : RefOK o Y d i q := by
  intro op n hop Q p e R s m args below meth c cells slots Z C0 H locs ls pc rest hS hdec hk
  obtain ⟨hx, hb, hml, hown, hts, hst, hR, hret⟩ := id C0
  rcases hop with ⟨rfl, rfl, h⟩ | ⟨rfl, rfl, -⟩
  · exact absurd h3 h
  · rw [rfv_ne (by omega)] at hk
    exact va_ldcS hx hb hown (hz s hst) hdec hk
/-- a method's blocks: a label's instructions, and the label that comes next -/
abbrev Bk : Type := List (Nat × List Instr × Nat)
def dBk : List Instr × Nat := ([.athrow], 0)
/-- the demand of a label, forward jumps followed, n jumps at most -/
def wpl (ca : List (Nat × Ctr)) (lv : List (Nat × Nat)) (rt : Nat) (B : Bk) (Q : List AV → Sto → Prop) : Nat → Nat → List AV → List AV → Sto → Prop
  | 0, _, _, _, _ => False
  | n + 1, t, S, L, σ => wp ca lv rt (wpl ca lv rt B Q n) Q (lkp dBk B t).2 (lkp dBk B t).1 S L σ
def chkB (T : Tb) (cc : ByteArray) (B : Bk) : Bool := B.all (fun b => chk T cc b.2.2 b.2.1 b.1)
theorem lkp_mem {α : Type} {d : α} : ∀ {B : List (Nat × α)} {t : Nat}, (t, lkp d B t) ∈ B ∨ lkp d B t = d
  | [], t => Or.inr rfl
  | (a, b) :: B, t => by
    unfold lkp
    by_cases h : a = t
    · rw [if_pos h]
      subst h
      exact Or.inl List.mem_cons_self
    · rw [if_neg h]
      rcases lkp_mem (d := d) (B := B) (t := t) with h | h
      · exact Or.inl (List.mem_cons_of_mem _ h)
      · exact Or.inr h
theorem chkB_at {T : Tb} {cc : ByteArray} {B : Bk} (h : chkB T cc B = true) {t : Nat} {b : List Instr × Nat} (hm : (t, b) ∈ B) : chk T cc b.2 b.1 t = true := List.all_eq_true.mp h (t, b) hm
/-- a label's demand, where the label is one of the blocks -/
theorem at_blk {o : OM} {Y : Pk} {d : Nat} {Q : List AV → Sto → Prop} {T : Tb} {ca : List (Nat × Ctr)} {lv : List (Nat × Nat)} {B : Bk} (hEv : Ev o Y d T ca) (hB : chkB T (yB Y) B = true) {K : Nat → List AV → List AV → Sto → Prop} (hK : ∀ t S L σ, K t S L σ → At o Y d Q t S L σ)
    {t : Nat} {S L : List AV} {σ : Sto} (hm : (t, lkp dBk B t) ∈ B) (h : wp ca lv (yK Y) K Q (lkp dBk B t).2 (lkp dBk B t).1 S L σ) : At o Y d Q t S L σ := at_wp hEv hK _ t S L σ (chkB_at hB hm) h
theorem at_wpl {o : OM} {Y : Pk} {d : Nat} {Q : List AV → Sto → Prop} {T : Tb} {ca : List (Nat × Ctr)} {lv : List (Nat × Nat)} {B : Bk} (hEv : Ev o Y d T ca) (hB : chkB T (yB Y) B = true) :
    ∀ (n t : Nat) (S L : List AV) (σ : Sto), wpl ca lv (yK Y) B Q n t S L σ → At o Y d Q t S L σ
  | 0, _, _, _, _, h => h.elim
  | n + 1, t, S, L, σ, h => by
    have h : wp ca lv (yK Y) (wpl ca lv (yK Y) B Q n) Q (lkp dBk B t).2 (lkp dBk B t).1 S L σ := h
    rcases lkp_mem (d := dBk) (B := B) (t := t) with hm | hm
    · exact at_blk hEv hB (fun t S L σ => at_wpl hEv hB n t S L σ) hm h
    · rw [hm] at h
      exact False.elim h
end
section
theorem tst_a : (tables_1_2)[57]? = some (Jvm.Cond.soleField "x" "y") ∨ True := Or.inr trivial
end
