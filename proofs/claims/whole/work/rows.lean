section
-- ===== PART A: goes FIRST, ahead of the names: the tables' words, and 'selects' of the private methods out of them =====
/-- a private method of a class that the tables say can be made, by its rows of tables_1 -/
def lw_okq (q : MethodName × Nat) : Prop := (q.1.cls ≠ "java/lang/invoke/MethodHandle" ∧ q.1.cls ≠ "java/lang/invoke/VarHandle") ∧ Cond.instantiable q.1.cls q.2 ∈ tables_1 ∧ Cond.privateMethod q.1 ∈ tables_1 ∧ Cond.instanceMethod q.1 ∈ tables_1
theorem lw_p0 : lw_okq (⟨"LeavesOfMud$Pits", "open", "(I)I"⟩, 6) := ⟨⟨by decide +kernel, by decide +kernel⟩, List.mem_of_getElem? (i := 29) (by decide +kernel), List.mem_of_getElem? (i := 357) (by decide +kernel), List.mem_of_getElem? (i := 358) (by decide +kernel)⟩
theorem lw_p1 : lw_okq (⟨"LeavesOfMud$Pits", "has", "(I)Z"⟩, 6) := ⟨⟨by decide +kernel, by decide +kernel⟩, List.mem_of_getElem? (i := 29) (by decide +kernel), List.mem_of_getElem? (i := 365) (by decide +kernel), List.mem_of_getElem? (i := 366) (by decide +kernel)⟩
theorem lw_p2 : lw_okq (⟨"LeavesOfMud$Pits", "push", "(IIII)V"⟩, 6) := ⟨⟨by decide +kernel, by decide +kernel⟩, List.mem_of_getElem? (i := 29) (by decide +kernel), List.mem_of_getElem? (i := 372) (by decide +kernel), List.mem_of_getElem? (i := 373) (by decide +kernel)⟩
theorem lw_p3 : lw_okq (⟨"LeavesOfMud$Pits", "put", "(IIIII)V"⟩, 6) := ⟨⟨by decide +kernel, by decide +kernel⟩, List.mem_of_getElem? (i := 29) (by decide +kernel), List.mem_of_getElem? (i := 376) (by decide +kernel), List.mem_of_getElem? (i := 377) (by decide +kernel)⟩
theorem lw_p4 : lw_okq (⟨"LeavesOfMud$Pits", "hasLeaf", "(II)Z"⟩, 6) := ⟨⟨by decide +kernel, by decide +kernel⟩, List.mem_of_getElem? (i := 29) (by decide +kernel), List.mem_of_getElem? (i := 384) (by decide +kernel), List.mem_of_getElem? (i := 385) (by decide +kernel)⟩
theorem lw_p5 : lw_okq (⟨"LeavesOfMud$Pits", "kindOf", "(II)I"⟩, 6) := ⟨⟨by decide +kernel, by decide +kernel⟩, List.mem_of_getElem? (i := 29) (by decide +kernel), List.mem_of_getElem? (i := 389) (by decide +kernel), List.mem_of_getElem? (i := 390) (by decide +kernel)⟩
theorem lw_p6 : lw_okq (⟨"LeavesOfMud", "aboutPit", "(II)I"⟩, 13) := ⟨⟨by decide +kernel, by decide +kernel⟩, List.mem_of_getElem? (i := 21) (by decide +kernel), List.mem_of_getElem? (i := 400) (by decide +kernel), List.mem_of_getElem? (i := 401) (by decide +kernel)⟩
theorem lw_p7 : lw_okq (⟨"LeavesOfMud$Hands", "yearsOfAll", "(II)I"⟩, 3) := ⟨⟨by decide +kernel, by decide +kernel⟩, List.mem_of_getElem? (i := 139) (by decide +kernel), List.mem_of_getElem? (i := 404) (by decide +kernel), List.mem_of_getElem? (i := 405) (by decide +kernel)⟩
theorem lw_p8 : lw_okq (⟨"LeavesOfMud$Hands", "halvesAhead", "(III)I"⟩, 3) := ⟨⟨by decide +kernel, by decide +kernel⟩, List.mem_of_getElem? (i := 139) (by decide +kernel), List.mem_of_getElem? (i := 408) (by decide +kernel), List.mem_of_getElem? (i := 409) (by decide +kernel)⟩
theorem lw_p9 : lw_okq (⟨"LeavesOfMud$Pits", "nOf", "(II)I"⟩, 6) := ⟨⟨by decide +kernel, by decide +kernel⟩, List.mem_of_getElem? (i := 29) (by decide +kernel), List.mem_of_getElem? (i := 413) (by decide +kernel), List.mem_of_getElem? (i := 414) (by decide +kernel)⟩
theorem lw_p10 : lw_okq (⟨"LeavesOfMud$Hands", "halvesOf", "(III)I"⟩, 3) := ⟨⟨by decide +kernel, by decide +kernel⟩, List.mem_of_getElem? (i := 139) (by decide +kernel), List.mem_of_getElem? (i := 417) (by decide +kernel), List.mem_of_getElem? (i := 418) (by decide +kernel)⟩
theorem lw_p11 : lw_okq (⟨"LeavesOfMud", "aboutLeaf", "(III)I"⟩, 13) := ⟨⟨by decide +kernel, by decide +kernel⟩, List.mem_of_getElem? (i := 21) (by decide +kernel), List.mem_of_getElem? (i := 423) (by decide +kernel), List.mem_of_getElem? (i := 424) (by decide +kernel)⟩
theorem lw_p12 : lw_okq (⟨"LeavesOfMud$Pits", "thicknessOf", "(II)I"⟩, 6) := ⟨⟨by decide +kernel, by decide +kernel⟩, List.mem_of_getElem? (i := 29) (by decide +kernel), List.mem_of_getElem? (i := 427) (by decide +kernel), List.mem_of_getElem? (i := 428) (by decide +kernel)⟩
theorem lw_p13 : lw_okq (⟨"LeavesOfMud$Pits", "stepBetween", "(III)I"⟩, 6) := ⟨⟨by decide +kernel, by decide +kernel⟩, List.mem_of_getElem? (i := 29) (by decide +kernel), List.mem_of_getElem? (i := 432) (by decide +kernel), List.mem_of_getElem? (i := 433) (by decide +kernel)⟩
theorem lw_p14 : lw_okq (⟨"LeavesOfMud$Page", "write", "(I)V"⟩, 4) := ⟨⟨by decide +kernel, by decide +kernel⟩, List.mem_of_getElem? (i := 116) (by decide +kernel), List.mem_of_getElem? (i := 469) (by decide +kernel), List.mem_of_getElem? (i := 470) (by decide +kernel)⟩
theorem lw_p15 : lw_okq (⟨"LeavesOfMud$Page", "read", "(I)I"⟩, 4) := ⟨⟨by decide +kernel, by decide +kernel⟩, List.mem_of_getElem? (i := 116) (by decide +kernel), List.mem_of_getElem? (i := 481) (by decide +kernel), List.mem_of_getElem? (i := 482) (by decide +kernel)⟩
def lw_privs_1 : List (MethodName × Nat) := [(⟨"LeavesOfMud$Pits", "open", "(I)I"⟩, 6), (⟨"LeavesOfMud$Pits", "has", "(I)Z"⟩, 6), (⟨"LeavesOfMud$Pits", "push", "(IIII)V"⟩, 6), (⟨"LeavesOfMud$Pits", "put", "(IIIII)V"⟩, 6), (⟨"LeavesOfMud$Pits", "hasLeaf", "(II)Z"⟩, 6), (⟨"LeavesOfMud$Pits", "kindOf", "(II)I"⟩, 6), (⟨"LeavesOfMud", "aboutPit", "(II)I"⟩, 13), (⟨"LeavesOfMud$Hands", "yearsOfAll", "(II)I"⟩, 3), (⟨"LeavesOfMud$Hands", "halvesAhead", "(III)I"⟩, 3), (⟨"LeavesOfMud$Pits", "nOf", "(II)I"⟩, 6), (⟨"LeavesOfMud$Hands", "halvesOf", "(III)I"⟩, 3), (⟨"LeavesOfMud", "aboutLeaf", "(III)I"⟩, 13), (⟨"LeavesOfMud$Pits", "thicknessOf", "(II)I"⟩, 6), (⟨"LeavesOfMud$Pits", "stepBetween", "(III)I"⟩, 6), (⟨"LeavesOfMud$Page", "write", "(I)V"⟩, 4), (⟨"LeavesOfMud$Page", "read", "(I)I"⟩, 4)]
theorem lw_r1 : ∀ q ∈ lw_privs_1, lw_okq q := List.forall_mem_cons.mpr ⟨lw_p0, List.forall_mem_cons.mpr ⟨lw_p1, List.forall_mem_cons.mpr ⟨lw_p2, List.forall_mem_cons.mpr ⟨lw_p3, List.forall_mem_cons.mpr ⟨lw_p4, List.forall_mem_cons.mpr ⟨lw_p5, List.forall_mem_cons.mpr ⟨lw_p6, List.forall_mem_cons.mpr ⟨lw_p7, List.forall_mem_cons.mpr ⟨lw_p8, List.forall_mem_cons.mpr ⟨lw_p9, List.forall_mem_cons.mpr ⟨lw_p10, List.forall_mem_cons.mpr ⟨lw_p11, List.forall_mem_cons.mpr ⟨lw_p12, List.forall_mem_cons.mpr ⟨lw_p13, List.forall_mem_cons.mpr ⟨lw_p14, List.forall_mem_cons.mpr ⟨lw_p15, fun _ h => absurd h List.not_mem_nil⟩⟩⟩⟩⟩⟩⟩⟩⟩⟩⟩⟩⟩⟩⟩⟩
theorem lw_p16 : lw_okq (⟨"LeavesOfMud$Page", "readItems", "(Ljava/lang/String;I)I"⟩, 4) := ⟨⟨by decide +kernel, by decide +kernel⟩, List.mem_of_getElem? (i := 116) (by decide +kernel), List.mem_of_getElem? (i := 486) (by decide +kernel), List.mem_of_getElem? (i := 487) (by decide +kernel)⟩
theorem lw_p17 : lw_okq (⟨"LeavesOfMud$Hands", "take", "([I)I"⟩, 3) := ⟨⟨by decide +kernel, by decide +kernel⟩, List.mem_of_getElem? (i := 139) (by decide +kernel), List.mem_of_getElem? (i := 585) (by decide +kernel), List.mem_of_getElem? (i := 586) (by decide +kernel)⟩
theorem lw_p18 : lw_okq (⟨"LeavesOfMud$Laws", "take", "([I)I"⟩, 2) := ⟨⟨by decide +kernel, by decide +kernel⟩, List.mem_of_getElem? (i := 159) (by decide +kernel), List.mem_of_getElem? (i := 596) (by decide +kernel), List.mem_of_getElem? (i := 597) (by decide +kernel)⟩
theorem lw_p19 : lw_okq (⟨"LeavesOfMud$Hands", "has", "(I)Z"⟩, 3) := ⟨⟨by decide +kernel, by decide +kernel⟩, List.mem_of_getElem? (i := 139) (by decide +kernel), List.mem_of_getElem? (i := 606) (by decide +kernel), List.mem_of_getElem? (i := 607) (by decide +kernel)⟩
theorem lw_p20 : lw_okq (⟨"LeavesOfMud$Hands", "yearsAhead", "(III)I"⟩, 3) := ⟨⟨by decide +kernel, by decide +kernel⟩, List.mem_of_getElem? (i := 139) (by decide +kernel), List.mem_of_getElem? (i := 610) (by decide +kernel), List.mem_of_getElem? (i := 611) (by decide +kernel)⟩
theorem lw_p21 : lw_okq (⟨"LeavesOfMud$Slides", "overOf", "(III)I"⟩, 1) := ⟨⟨by decide +kernel, by decide +kernel⟩, List.mem_of_getElem? (i := 173) (by decide +kernel), List.mem_of_getElem? (i := 631) (by decide +kernel), List.mem_of_getElem? (i := 632) (by decide +kernel)⟩
theorem lw_p22 : lw_okq (⟨"LeavesOfMud$Slides", "likeOf", "(IIII)I"⟩, 1) := ⟨⟨by decide +kernel, by decide +kernel⟩, List.mem_of_getElem? (i := 173) (by decide +kernel), List.mem_of_getElem? (i := 638) (by decide +kernel), List.mem_of_getElem? (i := 639) (by decide +kernel)⟩
theorem lw_p23 : lw_okq (⟨"LeavesOfMud$Pits", "isAsh", "(II)Z"⟩, 6) := ⟨⟨by decide +kernel, by decide +kernel⟩, List.mem_of_getElem? (i := 29) (by decide +kernel), List.mem_of_getElem? (i := 646) (by decide +kernel), List.mem_of_getElem? (i := 647) (by decide +kernel)⟩
theorem lw_p24 : lw_okq (⟨"LeavesOfMud$Slides", "best", "(III)I"⟩, 1) := ⟨⟨by decide +kernel, by decide +kernel⟩, List.mem_of_getElem? (i := 173) (by decide +kernel), List.mem_of_getElem? (i := 660) (by decide +kernel), List.mem_of_getElem? (i := 661) (by decide +kernel)⟩
theorem lw_p25 : lw_okq (⟨"LeavesOfMud$Slides", "turnsAsLike", "(III)I"⟩, 1) := ⟨⟨by decide +kernel, by decide +kernel⟩, List.mem_of_getElem? (i := 173) (by decide +kernel), List.mem_of_getElem? (i := 671) (by decide +kernel), List.mem_of_getElem? (i := 672) (by decide +kernel)⟩
theorem lw_p26 : lw_okq (⟨"LeavesOfMud$Laws", "has", "(I)Z"⟩, 2) := ⟨⟨by decide +kernel, by decide +kernel⟩, List.mem_of_getElem? (i := 159) (by decide +kernel), List.mem_of_getElem? (i := 682) (by decide +kernel), List.mem_of_getElem? (i := 683) (by decide +kernel)⟩
theorem lw_p27 : lw_okq (⟨"LeavesOfMud$Pairing", "setTogether", "(III)V"⟩, 20) := ⟨⟨by decide +kernel, by decide +kernel⟩, List.mem_of_getElem? (i := 183) (by decide +kernel), List.mem_of_getElem? (i := 686) (by decide +kernel), List.mem_of_getElem? (i := 687) (by decide +kernel)⟩
theorem lw_p28 : lw_okq (⟨"LeavesOfMud$Pairing", "readRow", "(I[I[I)V"⟩, 20) := ⟨⟨by decide +kernel, by decide +kernel⟩, List.mem_of_getElem? (i := 183) (by decide +kernel), List.mem_of_getElem? (i := 690) (by decide +kernel), List.mem_of_getElem? (i := 691) (by decide +kernel)⟩
theorem lw_p29 : lw_okq (⟨"LeavesOfMud$Laws", "priceOf", "(II)I"⟩, 2) := ⟨⟨by decide +kernel, by decide +kernel⟩, List.mem_of_getElem? (i := 159) (by decide +kernel), List.mem_of_getElem? (i := 697) (by decide +kernel), List.mem_of_getElem? (i := 698) (by decide +kernel)⟩
theorem lw_p30 : lw_okq (⟨"LeavesOfMud$Pairing", "fillAll", "()V"⟩, 20) := ⟨⟨by decide +kernel, by decide +kernel⟩, List.mem_of_getElem? (i := 183) (by decide +kernel), List.mem_of_getElem? (i := 701) (by decide +kernel), List.mem_of_getElem? (i := 702) (by decide +kernel)⟩
theorem lw_p31 : lw_okq (⟨"LeavesOfMud$Pairing", "fillPlace", "(II)V"⟩, 20) := ⟨⟨by decide +kernel, by decide +kernel⟩, List.mem_of_getElem? (i := 183) (by decide +kernel), List.mem_of_getElem? (i := 705) (by decide +kernel), List.mem_of_getElem? (i := 706) (by decide +kernel)⟩
def lw_privs_2 : List (MethodName × Nat) := [(⟨"LeavesOfMud$Page", "readItems", "(Ljava/lang/String;I)I"⟩, 4), (⟨"LeavesOfMud$Hands", "take", "([I)I"⟩, 3), (⟨"LeavesOfMud$Laws", "take", "([I)I"⟩, 2), (⟨"LeavesOfMud$Hands", "has", "(I)Z"⟩, 3), (⟨"LeavesOfMud$Hands", "yearsAhead", "(III)I"⟩, 3), (⟨"LeavesOfMud$Slides", "overOf", "(III)I"⟩, 1), (⟨"LeavesOfMud$Slides", "likeOf", "(IIII)I"⟩, 1), (⟨"LeavesOfMud$Pits", "isAsh", "(II)Z"⟩, 6), (⟨"LeavesOfMud$Slides", "best", "(III)I"⟩, 1), (⟨"LeavesOfMud$Slides", "turnsAsLike", "(III)I"⟩, 1), (⟨"LeavesOfMud$Laws", "has", "(I)Z"⟩, 2), (⟨"LeavesOfMud$Pairing", "setTogether", "(III)V"⟩, 20), (⟨"LeavesOfMud$Pairing", "readRow", "(I[I[I)V"⟩, 20), (⟨"LeavesOfMud$Laws", "priceOf", "(II)I"⟩, 2), (⟨"LeavesOfMud$Pairing", "fillAll", "()V"⟩, 20), (⟨"LeavesOfMud$Pairing", "fillPlace", "(II)V"⟩, 20)]
theorem lw_r2 : ∀ q ∈ lw_privs_2, lw_okq q := List.forall_mem_cons.mpr ⟨lw_p16, List.forall_mem_cons.mpr ⟨lw_p17, List.forall_mem_cons.mpr ⟨lw_p18, List.forall_mem_cons.mpr ⟨lw_p19, List.forall_mem_cons.mpr ⟨lw_p20, List.forall_mem_cons.mpr ⟨lw_p21, List.forall_mem_cons.mpr ⟨lw_p22, List.forall_mem_cons.mpr ⟨lw_p23, List.forall_mem_cons.mpr ⟨lw_p24, List.forall_mem_cons.mpr ⟨lw_p25, List.forall_mem_cons.mpr ⟨lw_p26, List.forall_mem_cons.mpr ⟨lw_p27, List.forall_mem_cons.mpr ⟨lw_p28, List.forall_mem_cons.mpr ⟨lw_p29, List.forall_mem_cons.mpr ⟨lw_p30, List.forall_mem_cons.mpr ⟨lw_p31, fun _ h => absurd h List.not_mem_nil⟩⟩⟩⟩⟩⟩⟩⟩⟩⟩⟩⟩⟩⟩⟩⟩
theorem lw_p32 : lw_okq (⟨"LeavesOfMud$Pairing", "canStep", "(III)Z"⟩, 20) := ⟨⟨by decide +kernel, by decide +kernel⟩, List.mem_of_getElem? (i := 183) (by decide +kernel), List.mem_of_getElem? (i := 709) (by decide +kernel), List.mem_of_getElem? (i := 710) (by decide +kernel)⟩
theorem lw_p33 : lw_okq (⟨"LeavesOfMud$Pairing", "placeAfter", "(III)I"⟩, 20) := ⟨⟨by decide +kernel, by decide +kernel⟩, List.mem_of_getElem? (i := 183) (by decide +kernel), List.mem_of_getElem? (i := 717) (by decide +kernel), List.mem_of_getElem? (i := 718) (by decide +kernel)⟩
theorem lw_p34 : lw_okq (⟨"LeavesOfMud$Pairing", "priceOf", "(III)I"⟩, 20) := ⟨⟨by decide +kernel, by decide +kernel⟩, List.mem_of_getElem? (i := 183) (by decide +kernel), List.mem_of_getElem? (i := 721) (by decide +kernel), List.mem_of_getElem? (i := 722) (by decide +kernel)⟩
theorem lw_p35 : lw_okq (⟨"LeavesOfMud$Pairing", "priceOfOneOnOne", "(II)I"⟩, 20) := ⟨⟨by decide +kernel, by decide +kernel⟩, List.mem_of_getElem? (i := 183) (by decide +kernel), List.mem_of_getElem? (i := 725) (by decide +kernel), List.mem_of_getElem? (i := 726) (by decide +kernel)⟩
theorem lw_p36 : lw_okq (⟨"LeavesOfMud$Pairing", "priceOfDoubled", "(II)I"⟩, 20) := ⟨⟨by decide +kernel, by decide +kernel⟩, List.mem_of_getElem? (i := 183) (by decide +kernel), List.mem_of_getElem? (i := 738) (by decide +kernel), List.mem_of_getElem? (i := 739) (by decide +kernel)⟩
theorem lw_p37 : lw_okq (⟨"LeavesOfMud$Pairing", "leastOfAll", "()I"⟩, 20) := ⟨⟨by decide +kernel, by decide +kernel⟩, List.mem_of_getElem? (i := 183) (by decide +kernel), List.mem_of_getElem? (i := 744) (by decide +kernel), List.mem_of_getElem? (i := 745) (by decide +kernel)⟩
theorem lw_p38 : lw_okq (⟨"LeavesOfMud$Pairing", "waysOfAll", "()I"⟩, 20) := ⟨⟨by decide +kernel, by decide +kernel⟩, List.mem_of_getElem? (i := 183) (by decide +kernel), List.mem_of_getElem? (i := 748) (by decide +kernel), List.mem_of_getElem? (i := 749) (by decide +kernel)⟩
theorem lw_p39 : lw_okq (⟨"LeavesOfMud$Pairing", "goTheWay", "()V"⟩, 20) := ⟨⟨by decide +kernel, by decide +kernel⟩, List.mem_of_getElem? (i := 183) (by decide +kernel), List.mem_of_getElem? (i := 752) (by decide +kernel), List.mem_of_getElem? (i := 753) (by decide +kernel)⟩
theorem lw_p40 : lw_okq (⟨"LeavesOfMud$Pairing", "leastStepFrom", "(II)I"⟩, 20) := ⟨⟨by decide +kernel, by decide +kernel⟩, List.mem_of_getElem? (i := 183) (by decide +kernel), List.mem_of_getElem? (i := 756) (by decide +kernel), List.mem_of_getElem? (i := 757) (by decide +kernel)⟩
theorem lw_p41 : lw_okq (⟨"LeavesOfMud$Pairing", "stepOfTheWay", "(I)I"⟩, 20) := ⟨⟨by decide +kernel, by decide +kernel⟩, List.mem_of_getElem? (i := 183) (by decide +kernel), List.mem_of_getElem? (i := 760) (by decide +kernel), List.mem_of_getElem? (i := 761) (by decide +kernel)⟩
theorem lw_p42 : lw_okq (⟨"LeavesOfMud$Pairing", "leastWithout", "(II)I"⟩, 20) := ⟨⟨by decide +kernel, by decide +kernel⟩, List.mem_of_getElem? (i := 183) (by decide +kernel), List.mem_of_getElem? (i := 773) (by decide +kernel), List.mem_of_getElem? (i := 774) (by decide +kernel)⟩
theorem lw_p43 : lw_okq (⟨"LeavesOfMud$Bonds", "addJoin", "(IIIII)I"⟩, 11) := ⟨⟨by decide +kernel, by decide +kernel⟩, List.mem_of_getElem? (i := 63) (by decide +kernel), List.mem_of_getElem? (i := 784) (by decide +kernel), List.mem_of_getElem? (i := 785) (by decide +kernel)⟩
theorem lw_p44 : lw_okq (⟨"LeavesOfMud$Bonds", "setKept", "(IZ)V"⟩, 11) := ⟨⟨by decide +kernel, by decide +kernel⟩, List.mem_of_getElem? (i := 63) (by decide +kernel), List.mem_of_getElem? (i := 788) (by decide +kernel), List.mem_of_getElem? (i := 789) (by decide +kernel)⟩
theorem lw_p45 : lw_okq (⟨"LeavesOfMud$Bonds", "isKept", "(I)Z"⟩, 11) := ⟨⟨by decide +kernel, by decide +kernel⟩, List.mem_of_getElem? (i := 63) (by decide +kernel), List.mem_of_getElem? (i := 796) (by decide +kernel), List.mem_of_getElem? (i := 797) (by decide +kernel)⟩
theorem lw_p46 : lw_okq (⟨"LeavesOfMud$Bonds", "isTied", "(I)Z"⟩, 11) := ⟨⟨by decide +kernel, by decide +kernel⟩, List.mem_of_getElem? (i := 63) (by decide +kernel), List.mem_of_getElem? (i := 806) (by decide +kernel), List.mem_of_getElem? (i := 807) (by decide +kernel)⟩
theorem lw_p47 : lw_okq (⟨"LeavesOfMud$Bonds", "setTie", "(III)V"⟩, 11) := ⟨⟨by decide +kernel, by decide +kernel⟩, List.mem_of_getElem? (i := 63) (by decide +kernel), List.mem_of_getElem? (i := 810) (by decide +kernel), List.mem_of_getElem? (i := 811) (by decide +kernel)⟩
def lw_privs_3 : List (MethodName × Nat) := [(⟨"LeavesOfMud$Pairing", "canStep", "(III)Z"⟩, 20), (⟨"LeavesOfMud$Pairing", "placeAfter", "(III)I"⟩, 20), (⟨"LeavesOfMud$Pairing", "priceOf", "(III)I"⟩, 20), (⟨"LeavesOfMud$Pairing", "priceOfOneOnOne", "(II)I"⟩, 20), (⟨"LeavesOfMud$Pairing", "priceOfDoubled", "(II)I"⟩, 20), (⟨"LeavesOfMud$Pairing", "leastOfAll", "()I"⟩, 20), (⟨"LeavesOfMud$Pairing", "waysOfAll", "()I"⟩, 20), (⟨"LeavesOfMud$Pairing", "goTheWay", "()V"⟩, 20), (⟨"LeavesOfMud$Pairing", "leastStepFrom", "(II)I"⟩, 20), (⟨"LeavesOfMud$Pairing", "stepOfTheWay", "(I)I"⟩, 20), (⟨"LeavesOfMud$Pairing", "leastWithout", "(II)I"⟩, 20), (⟨"LeavesOfMud$Bonds", "addJoin", "(IIIII)I"⟩, 11), (⟨"LeavesOfMud$Bonds", "setKept", "(IZ)V"⟩, 11), (⟨"LeavesOfMud$Bonds", "isKept", "(I)Z"⟩, 11), (⟨"LeavesOfMud$Bonds", "isTied", "(I)Z"⟩, 11), (⟨"LeavesOfMud$Bonds", "setTie", "(III)V"⟩, 11)]
theorem lw_r3 : ∀ q ∈ lw_privs_3, lw_okq q := List.forall_mem_cons.mpr ⟨lw_p32, List.forall_mem_cons.mpr ⟨lw_p33, List.forall_mem_cons.mpr ⟨lw_p34, List.forall_mem_cons.mpr ⟨lw_p35, List.forall_mem_cons.mpr ⟨lw_p36, List.forall_mem_cons.mpr ⟨lw_p37, List.forall_mem_cons.mpr ⟨lw_p38, List.forall_mem_cons.mpr ⟨lw_p39, List.forall_mem_cons.mpr ⟨lw_p40, List.forall_mem_cons.mpr ⟨lw_p41, List.forall_mem_cons.mpr ⟨lw_p42, List.forall_mem_cons.mpr ⟨lw_p43, List.forall_mem_cons.mpr ⟨lw_p44, List.forall_mem_cons.mpr ⟨lw_p45, List.forall_mem_cons.mpr ⟨lw_p46, List.forall_mem_cons.mpr ⟨lw_p47, fun _ h => absurd h List.not_mem_nil⟩⟩⟩⟩⟩⟩⟩⟩⟩⟩⟩⟩⟩⟩⟩⟩
theorem lw_p48 : lw_okq (⟨"LeavesOfMud$Bonds", "dropTie", "(I)V"⟩, 11) := ⟨⟨by decide +kernel, by decide +kernel⟩, List.mem_of_getElem? (i := 63) (by decide +kernel), List.mem_of_getElem? (i := 818) (by decide +kernel), List.mem_of_getElem? (i := 819) (by decide +kernel)⟩
theorem lw_p49 : lw_okq (⟨"LeavesOfMud$Net", "weaveWhole", "()Z"⟩, 15) := ⟨⟨by decide +kernel, by decide +kernel⟩, List.mem_of_getElem? (i := 253) (by decide +kernel), List.mem_of_getElem? (i := 830) (by decide +kernel), List.mem_of_getElem? (i := 831) (by decide +kernel)⟩
theorem lw_p50 : lw_okq (⟨"LeavesOfMud$Net", "weaveFixed", "()Z"⟩, 15) := ⟨⟨by decide +kernel, by decide +kernel⟩, List.mem_of_getElem? (i := 253) (by decide +kernel), List.mem_of_getElem? (i := 834) (by decide +kernel), List.mem_of_getElem? (i := 835) (by decide +kernel)⟩
theorem lw_p51 : lw_okq (⟨"LeavesOfMud$Net", "findAshes", "()V"⟩, 15) := ⟨⟨by decide +kernel, by decide +kernel⟩, List.mem_of_getElem? (i := 253) (by decide +kernel), List.mem_of_getElem? (i := 840) (by decide +kernel), List.mem_of_getElem? (i := 841) (by decide +kernel)⟩
theorem lw_p52 : lw_okq (⟨"LeavesOfMud$Net", "bindAshes", "(I)Z"⟩, 15) := ⟨⟨by decide +kernel, by decide +kernel⟩, List.mem_of_getElem? (i := 253) (by decide +kernel), List.mem_of_getElem? (i := 847) (by decide +kernel), List.mem_of_getElem? (i := 848) (by decide +kernel)⟩
theorem lw_p53 : lw_okq (⟨"LeavesOfMud$Net", "firstPitWithAsh", "(I)I"⟩, 15) := ⟨⟨by decide +kernel, by decide +kernel⟩, List.mem_of_getElem? (i := 253) (by decide +kernel), List.mem_of_getElem? (i := 851) (by decide +kernel), List.mem_of_getElem? (i := 852) (by decide +kernel)⟩
theorem lw_p54 : lw_okq (⟨"LeavesOfMud$Net", "hasAsh", "(II)Z"⟩, 15) := ⟨⟨by decide +kernel, by decide +kernel⟩, List.mem_of_getElem? (i := 253) (by decide +kernel), List.mem_of_getElem? (i := 855) (by decide +kernel), List.mem_of_getElem? (i := 856) (by decide +kernel)⟩
theorem lw_p55 : lw_okq (⟨"LeavesOfMud$Net", "weaveJoins", "([II)Z"⟩, 15) := ⟨⟨by decide +kernel, by decide +kernel⟩, List.mem_of_getElem? (i := 253) (by decide +kernel), List.mem_of_getElem? (i := 866) (by decide +kernel), List.mem_of_getElem? (i := 867) (by decide +kernel)⟩
theorem lw_p56 : lw_okq (⟨"LeavesOfMud$Net", "bindJoin", "([II)Z"⟩, 15) := ⟨⟨by decide +kernel, by decide +kernel⟩, List.mem_of_getElem? (i := 253) (by decide +kernel), List.mem_of_getElem? (i := 872) (by decide +kernel), List.mem_of_getElem? (i := 873) (by decide +kernel)⟩
theorem lw_p57 : lw_okq (⟨"LeavesOfMud", "spanTold", "(III)I"⟩, 13) := ⟨⟨by decide +kernel, by decide +kernel⟩, List.mem_of_getElem? (i := 21) (by decide +kernel), List.mem_of_getElem? (i := 881) (by decide +kernel), List.mem_of_getElem? (i := 882) (by decide +kernel)⟩
theorem lw_p58 : lw_okq (⟨"LeavesOfMud$Net", "isFloating", "(II)Z"⟩, 15) := ⟨⟨by decide +kernel, by decide +kernel⟩, List.mem_of_getElem? (i := 253) (by decide +kernel), List.mem_of_getElem? (i := 885) (by decide +kernel), List.mem_of_getElem? (i := 886) (by decide +kernel)⟩
theorem lw_p59 : lw_okq (⟨"LeavesOfMud$Net", "endOfSpan", "(III)I"⟩, 15) := ⟨⟨by decide +kernel, by decide +kernel⟩, List.mem_of_getElem? (i := 253) (by decide +kernel), List.mem_of_getElem? (i := 889) (by decide +kernel), List.mem_of_getElem? (i := 890) (by decide +kernel)⟩
theorem lw_p60 : lw_okq (⟨"LeavesOfMud$Net", "group", "()V"⟩, 15) := ⟨⟨by decide +kernel, by decide +kernel⟩, List.mem_of_getElem? (i := 253) (by decide +kernel), List.mem_of_getElem? (i := 901) (by decide +kernel), List.mem_of_getElem? (i := 902) (by decide +kernel)⟩
theorem lw_p61 : lw_okq (⟨"LeavesOfMud$Net", "hangTogether", "(II)V"⟩, 15) := ⟨⟨by decide +kernel, by decide +kernel⟩, List.mem_of_getElem? (i := 253) (by decide +kernel), List.mem_of_getElem? (i := 905) (by decide +kernel), List.mem_of_getElem? (i := 906) (by decide +kernel)⟩
theorem lw_p62 : lw_okq (⟨"LeavesOfMud$Net", "groupAshes", "(I)V"⟩, 15) := ⟨⟨by decide +kernel, by decide +kernel⟩, List.mem_of_getElem? (i := 253) (by decide +kernel), List.mem_of_getElem? (i := 909) (by decide +kernel), List.mem_of_getElem? (i := 910) (by decide +kernel)⟩
theorem lw_p63 : lw_okq (⟨"LeavesOfMud$Net", "groups", "()I"⟩, 15) := ⟨⟨by decide +kernel, by decide +kernel⟩, List.mem_of_getElem? (i := 253) (by decide +kernel), List.mem_of_getElem? (i := 913) (by decide +kernel), List.mem_of_getElem? (i := 914) (by decide +kernel)⟩
def lw_privs_4 : List (MethodName × Nat) := [(⟨"LeavesOfMud$Bonds", "dropTie", "(I)V"⟩, 11), (⟨"LeavesOfMud$Net", "weaveWhole", "()Z"⟩, 15), (⟨"LeavesOfMud$Net", "weaveFixed", "()Z"⟩, 15), (⟨"LeavesOfMud$Net", "findAshes", "()V"⟩, 15), (⟨"LeavesOfMud$Net", "bindAshes", "(I)Z"⟩, 15), (⟨"LeavesOfMud$Net", "firstPitWithAsh", "(I)I"⟩, 15), (⟨"LeavesOfMud$Net", "hasAsh", "(II)Z"⟩, 15), (⟨"LeavesOfMud$Net", "weaveJoins", "([II)Z"⟩, 15), (⟨"LeavesOfMud$Net", "bindJoin", "([II)Z"⟩, 15), (⟨"LeavesOfMud", "spanTold", "(III)I"⟩, 13), (⟨"LeavesOfMud$Net", "isFloating", "(II)Z"⟩, 15), (⟨"LeavesOfMud$Net", "endOfSpan", "(III)I"⟩, 15), (⟨"LeavesOfMud$Net", "group", "()V"⟩, 15), (⟨"LeavesOfMud$Net", "hangTogether", "(II)V"⟩, 15), (⟨"LeavesOfMud$Net", "groupAshes", "(I)V"⟩, 15), (⟨"LeavesOfMud$Net", "groups", "()I"⟩, 15)]
theorem lw_r4 : ∀ q ∈ lw_privs_4, lw_okq q := List.forall_mem_cons.mpr ⟨lw_p48, List.forall_mem_cons.mpr ⟨lw_p49, List.forall_mem_cons.mpr ⟨lw_p50, List.forall_mem_cons.mpr ⟨lw_p51, List.forall_mem_cons.mpr ⟨lw_p52, List.forall_mem_cons.mpr ⟨lw_p53, List.forall_mem_cons.mpr ⟨lw_p54, List.forall_mem_cons.mpr ⟨lw_p55, List.forall_mem_cons.mpr ⟨lw_p56, List.forall_mem_cons.mpr ⟨lw_p57, List.forall_mem_cons.mpr ⟨lw_p58, List.forall_mem_cons.mpr ⟨lw_p59, List.forall_mem_cons.mpr ⟨lw_p60, List.forall_mem_cons.mpr ⟨lw_p61, List.forall_mem_cons.mpr ⟨lw_p62, List.forall_mem_cons.mpr ⟨lw_p63, fun _ h => absurd h List.not_mem_nil⟩⟩⟩⟩⟩⟩⟩⟩⟩⟩⟩⟩⟩⟩⟩⟩
theorem lw_p64 : lw_okq (⟨"LeavesOfMud$Net", "groupOfFirst", "()I"⟩, 15) := ⟨⟨by decide +kernel, by decide +kernel⟩, List.mem_of_getElem? (i := 253) (by decide +kernel), List.mem_of_getElem? (i := 923) (by decide +kernel), List.mem_of_getElem? (i := 924) (by decide +kernel)⟩
theorem lw_p65 : lw_okq (⟨"LeavesOfMud$Net", "leastCast", "()I"⟩, 15) := ⟨⟨by decide +kernel, by decide +kernel⟩, List.mem_of_getElem? (i := 253) (by decide +kernel), List.mem_of_getElem? (i := 931) (by decide +kernel), List.mem_of_getElem? (i := 932) (by decide +kernel)⟩
theorem lw_p66 : lw_okq (⟨"LeavesOfMud$Net", "castFrom", "(III)V"⟩, 15) := ⟨⟨by decide +kernel, by decide +kernel⟩, List.mem_of_getElem? (i := 253) (by decide +kernel), List.mem_of_getElem? (i := 935) (by decide +kernel), List.mem_of_getElem? (i := 936) (by decide +kernel)⟩
theorem lw_p67 : lw_okq (⟨"LeavesOfMud$Net", "considerCast", "(II)V"⟩, 15) := ⟨⟨by decide +kernel, by decide +kernel⟩, List.mem_of_getElem? (i := 253) (by decide +kernel), List.mem_of_getElem? (i := 939) (by decide +kernel), List.mem_of_getElem? (i := 940) (by decide +kernel)⟩
theorem lw_p68 : lw_okq (⟨"LeavesOfMud$Net", "copyLevel", "(I)V"⟩, 15) := ⟨⟨by decide +kernel, by decide +kernel⟩, List.mem_of_getElem? (i := 253) (by decide +kernel), List.mem_of_getElem? (i := 943) (by decide +kernel), List.mem_of_getElem? (i := 944) (by decide +kernel)⟩
theorem lw_p69 : lw_okq (⟨"LeavesOfMud$Net", "joinsThatHold", "(II)I"⟩, 15) := ⟨⟨by decide +kernel, by decide +kernel⟩, List.mem_of_getElem? (i := 253) (by decide +kernel), List.mem_of_getElem? (i := 951) (by decide +kernel), List.mem_of_getElem? (i := 952) (by decide +kernel)⟩
theorem lw_p70 : lw_okq (⟨"LeavesOfMud$Net", "isWiderWithout", "(III)Z"⟩, 15) := ⟨⟨by decide +kernel, by decide +kernel⟩, List.mem_of_getElem? (i := 253) (by decide +kernel), List.mem_of_getElem? (i := 955) (by decide +kernel), List.mem_of_getElem? (i := 956) (by decide +kernel)⟩
theorem lw_p71 : lw_okq (⟨"LeavesOfMud$Net", "findDig", "()V"⟩, 15) := ⟨⟨by decide +kernel, by decide +kernel⟩, List.mem_of_getElem? (i := 253) (by decide +kernel), List.mem_of_getElem? (i := 963) (by decide +kernel), List.mem_of_getElem? (i := 964) (by decide +kernel)⟩
theorem lw_p72 : lw_okq (⟨"LeavesOfMud$Net", "widthOf", "(II)I"⟩, 15) := ⟨⟨by decide +kernel, by decide +kernel⟩, List.mem_of_getElem? (i := 253) (by decide +kernel), List.mem_of_getElem? (i := 968) (by decide +kernel), List.mem_of_getElem? (i := 969) (by decide +kernel)⟩
theorem lw_p73 : lw_okq (⟨"LeavesOfMud$Net", "worstOfDig", "(II)I"⟩, 15) := ⟨⟨by decide +kernel, by decide +kernel⟩, List.mem_of_getElem? (i := 253) (by decide +kernel), List.mem_of_getElem? (i := 973) (by decide +kernel), List.mem_of_getElem? (i := 974) (by decide +kernel)⟩
theorem lw_p74 : lw_okq (⟨"LeavesOfMud$Net", "widthsIfApart", "(III)I"⟩, 15) := ⟨⟨by decide +kernel, by decide +kernel⟩, List.mem_of_getElem? (i := 253) (by decide +kernel), List.mem_of_getElem? (i := 978) (by decide +kernel), List.mem_of_getElem? (i := 979) (by decide +kernel)⟩
theorem lw_p75 : lw_okq (⟨"LeavesOfMud$Net", "mostIfApart", "(IIIII)I"⟩, 15) := ⟨⟨by decide +kernel, by decide +kernel⟩, List.mem_of_getElem? (i := 253) (by decide +kernel), List.mem_of_getElem? (i := 982) (by decide +kernel), List.mem_of_getElem? (i := 983) (by decide +kernel)⟩
theorem lw_p76 : lw_okq (⟨"LeavesOfMud", "tookBy", "(III)I"⟩, 13) := ⟨⟨by decide +kernel, by decide +kernel⟩, List.mem_of_getElem? (i := 21) (by decide +kernel), List.mem_of_getElem? (i := 999) (by decide +kernel), List.mem_of_getElem? (i := 1000) (by decide +kernel)⟩
theorem lw_p77 : lw_okq (⟨"LeavesOfMud$Pits", "sharedAshAhead", "(III)I"⟩, 6) := ⟨⟨by decide +kernel, by decide +kernel⟩, List.mem_of_getElem? (i := 29) (by decide +kernel), List.mem_of_getElem? (i := 1003) (by decide +kernel), List.mem_of_getElem? (i := 1004) (by decide +kernel)⟩
theorem lw_p78 : lw_okq (⟨"LeavesOfMud$Pits", "isSharedAsh", "(III)Z"⟩, 6) := ⟨⟨by decide +kernel, by decide +kernel⟩, List.mem_of_getElem? (i := 29) (by decide +kernel), List.mem_of_getElem? (i := 1007) (by decide +kernel), List.mem_of_getElem? (i := 1008) (by decide +kernel)⟩
theorem lw_p79 : lw_okq (⟨"LeavesOfMud$Pits", "firstAsh", "(II)I"⟩, 6) := ⟨⟨by decide +kernel, by decide +kernel⟩, List.mem_of_getElem? (i := 29) (by decide +kernel), List.mem_of_getElem? (i := 1013) (by decide +kernel), List.mem_of_getElem? (i := 1014) (by decide +kernel)⟩
def lw_privs_5 : List (MethodName × Nat) := [(⟨"LeavesOfMud$Net", "groupOfFirst", "()I"⟩, 15), (⟨"LeavesOfMud$Net", "leastCast", "()I"⟩, 15), (⟨"LeavesOfMud$Net", "castFrom", "(III)V"⟩, 15), (⟨"LeavesOfMud$Net", "considerCast", "(II)V"⟩, 15), (⟨"LeavesOfMud$Net", "copyLevel", "(I)V"⟩, 15), (⟨"LeavesOfMud$Net", "joinsThatHold", "(II)I"⟩, 15), (⟨"LeavesOfMud$Net", "isWiderWithout", "(III)Z"⟩, 15), (⟨"LeavesOfMud$Net", "findDig", "()V"⟩, 15), (⟨"LeavesOfMud$Net", "widthOf", "(II)I"⟩, 15), (⟨"LeavesOfMud$Net", "worstOfDig", "(II)I"⟩, 15), (⟨"LeavesOfMud$Net", "widthsIfApart", "(III)I"⟩, 15), (⟨"LeavesOfMud$Net", "mostIfApart", "(IIIII)I"⟩, 15), (⟨"LeavesOfMud", "tookBy", "(III)I"⟩, 13), (⟨"LeavesOfMud$Pits", "sharedAshAhead", "(III)I"⟩, 6), (⟨"LeavesOfMud$Pits", "isSharedAsh", "(III)Z"⟩, 6), (⟨"LeavesOfMud$Pits", "firstAsh", "(II)I"⟩, 6)]
theorem lw_r5 : ∀ q ∈ lw_privs_5, lw_okq q := List.forall_mem_cons.mpr ⟨lw_p64, List.forall_mem_cons.mpr ⟨lw_p65, List.forall_mem_cons.mpr ⟨lw_p66, List.forall_mem_cons.mpr ⟨lw_p67, List.forall_mem_cons.mpr ⟨lw_p68, List.forall_mem_cons.mpr ⟨lw_p69, List.forall_mem_cons.mpr ⟨lw_p70, List.forall_mem_cons.mpr ⟨lw_p71, List.forall_mem_cons.mpr ⟨lw_p72, List.forall_mem_cons.mpr ⟨lw_p73, List.forall_mem_cons.mpr ⟨lw_p74, List.forall_mem_cons.mpr ⟨lw_p75, List.forall_mem_cons.mpr ⟨lw_p76, List.forall_mem_cons.mpr ⟨lw_p77, List.forall_mem_cons.mpr ⟨lw_p78, List.forall_mem_cons.mpr ⟨lw_p79, fun _ h => absurd h List.not_mem_nil⟩⟩⟩⟩⟩⟩⟩⟩⟩⟩⟩⟩⟩⟩⟩⟩
theorem lw_p80 : lw_okq (⟨"LeavesOfMud$Pits", "sharedAshBehind", "(III)I"⟩, 6) := ⟨⟨by decide +kernel, by decide +kernel⟩, List.mem_of_getElem? (i := 29) (by decide +kernel), List.mem_of_getElem? (i := 1017) (by decide +kernel), List.mem_of_getElem? (i := 1018) (by decide +kernel)⟩
theorem lw_p81 : lw_okq (⟨"LeavesOfMud$Pits", "hasFloodBetween", "(III)Z"⟩, 6) := ⟨⟨by decide +kernel, by decide +kernel⟩, List.mem_of_getElem? (i := 29) (by decide +kernel), List.mem_of_getElem? (i := 1022) (by decide +kernel), List.mem_of_getElem? (i := 1023) (by decide +kernel)⟩
theorem lw_p82 : lw_okq (⟨"LeavesOfMud$Pits", "copyFrom", "(LLeavesOfMud$Pits;)V"⟩, 6) := ⟨⟨by decide +kernel, by decide +kernel⟩, List.mem_of_getElem? (i := 29) (by decide +kernel), List.mem_of_getElem? (i := 1030) (by decide +kernel), List.mem_of_getElem? (i := 1031) (by decide +kernel)⟩
theorem lw_p83 : lw_okq (⟨"LeavesOfMud$Bonds", "copyFrom", "(LLeavesOfMud$Bonds;)V"⟩, 11) := ⟨⟨by decide +kernel, by decide +kernel⟩, List.mem_of_getElem? (i := 63) (by decide +kernel), List.mem_of_getElem? (i := 1035) (by decide +kernel), List.mem_of_getElem? (i := 1036) (by decide +kernel)⟩
theorem lw_p84 : lw_okq (⟨"LeavesOfMud$Pits", "leavesOfAll", "()I"⟩, 6) := ⟨⟨by decide +kernel, by decide +kernel⟩, List.mem_of_getElem? (i := 29) (by decide +kernel), List.mem_of_getElem? (i := 1048) (by decide +kernel), List.mem_of_getElem? (i := 1049) (by decide +kernel)⟩
theorem lw_p85 : lw_okq (⟨"LeavesOfMud", "foldPit", "(JI)J"⟩, 13) := ⟨⟨by decide +kernel, by decide +kernel⟩, List.mem_of_getElem? (i := 21) (by decide +kernel), List.mem_of_getElem? (i := 1058) (by decide +kernel), List.mem_of_getElem? (i := 1059) (by decide +kernel)⟩
theorem lw_p86 : lw_okq (⟨"LeavesOfMud", "foldLaw", "(JI)J"⟩, 13) := ⟨⟨by decide +kernel, by decide +kernel⟩, List.mem_of_getElem? (i := 21) (by decide +kernel), List.mem_of_getElem? (i := 1066) (by decide +kernel), List.mem_of_getElem? (i := 1067) (by decide +kernel)⟩
theorem lw_p87 : lw_okq (⟨"LeavesOfMud$Bonds", "foldInto", "(J)J"⟩, 11) := ⟨⟨by decide +kernel, by decide +kernel⟩, List.mem_of_getElem? (i := 63) (by decide +kernel), List.mem_of_getElem? (i := 1070) (by decide +kernel), List.mem_of_getElem? (i := 1071) (by decide +kernel)⟩
theorem lw_p88 : lw_okq (⟨"LeavesOfMud", "foldNet", "(J)J"⟩, 13) := ⟨⟨by decide +kernel, by decide +kernel⟩, List.mem_of_getElem? (i := 21) (by decide +kernel), List.mem_of_getElem? (i := 1078) (by decide +kernel), List.mem_of_getElem? (i := 1079) (by decide +kernel)⟩
theorem lw_p89 : lw_okq (⟨"LeavesOfMudModel", "isPit", "(I)Z"⟩, 55) := ⟨⟨by decide +kernel, by decide +kernel⟩, List.mem_of_getElem? (i := 1083) (by decide +kernel), List.mem_of_getElem? (i := 1268) (by decide +kernel), List.mem_of_getElem? (i := 1269) (by decide +kernel)⟩
theorem lw_p90 : lw_okq (⟨"LeavesOfMudModel", "put", "(IIIII)V"⟩, 55) := ⟨⟨by decide +kernel, by decide +kernel⟩, List.mem_of_getElem? (i := 1083) (by decide +kernel), List.mem_of_getElem? (i := 1278) (by decide +kernel), List.mem_of_getElem? (i := 1279) (by decide +kernel)⟩
theorem lw_p91 : lw_okq (⟨"LeavesOfMudModel", "isLeaf", "(II)Z"⟩, 55) := ⟨⟨by decide +kernel, by decide +kernel⟩, List.mem_of_getElem? (i := 1083) (by decide +kernel), List.mem_of_getElem? (i := 1286) (by decide +kernel), List.mem_of_getElem? (i := 1287) (by decide +kernel)⟩
theorem lw_p92 : lw_okq (⟨"LeavesOfMudModel", "yearsOf", "(II)I"⟩, 55) := ⟨⟨by decide +kernel, by decide +kernel⟩, List.mem_of_getElem? (i := 1083) (by decide +kernel), List.mem_of_getElem? (i := 1296) (by decide +kernel), List.mem_of_getElem? (i := 1297) (by decide +kernel)⟩
theorem lw_p93 : lw_okq (⟨"LeavesOfMudModel", "halvesAhead", "(III)I"⟩, 55) := ⟨⟨by decide +kernel, by decide +kernel⟩, List.mem_of_getElem? (i := 1083) (by decide +kernel), List.mem_of_getElem? (i := 1300) (by decide +kernel), List.mem_of_getElem? (i := 1301) (by decide +kernel)⟩
theorem lw_p94 : lw_okq (⟨"LeavesOfMudModel", "halvesOf", "(III)I"⟩, 55) := ⟨⟨by decide +kernel, by decide +kernel⟩, List.mem_of_getElem? (i := 1083) (by decide +kernel), List.mem_of_getElem? (i := 1304) (by decide +kernel), List.mem_of_getElem? (i := 1305) (by decide +kernel)⟩
theorem lw_p95 : lw_okq (⟨"LeavesOfMudModel", "stepOf", "(II)I"⟩, 55) := ⟨⟨by decide +kernel, by decide +kernel⟩, List.mem_of_getElem? (i := 1083) (by decide +kernel), List.mem_of_getElem? (i := 1308) (by decide +kernel), List.mem_of_getElem? (i := 1309) (by decide +kernel)⟩
def lw_privs_6 : List (MethodName × Nat) := [(⟨"LeavesOfMud$Pits", "sharedAshBehind", "(III)I"⟩, 6), (⟨"LeavesOfMud$Pits", "hasFloodBetween", "(III)Z"⟩, 6), (⟨"LeavesOfMud$Pits", "copyFrom", "(LLeavesOfMud$Pits;)V"⟩, 6), (⟨"LeavesOfMud$Bonds", "copyFrom", "(LLeavesOfMud$Bonds;)V"⟩, 11), (⟨"LeavesOfMud$Pits", "leavesOfAll", "()I"⟩, 6), (⟨"LeavesOfMud", "foldPit", "(JI)J"⟩, 13), (⟨"LeavesOfMud", "foldLaw", "(JI)J"⟩, 13), (⟨"LeavesOfMud$Bonds", "foldInto", "(J)J"⟩, 11), (⟨"LeavesOfMud", "foldNet", "(J)J"⟩, 13), (⟨"LeavesOfMudModel", "isPit", "(I)Z"⟩, 55), (⟨"LeavesOfMudModel", "put", "(IIIII)V"⟩, 55), (⟨"LeavesOfMudModel", "isLeaf", "(II)Z"⟩, 55), (⟨"LeavesOfMudModel", "yearsOf", "(II)I"⟩, 55), (⟨"LeavesOfMudModel", "halvesAhead", "(III)I"⟩, 55), (⟨"LeavesOfMudModel", "halvesOf", "(III)I"⟩, 55), (⟨"LeavesOfMudModel", "stepOf", "(II)I"⟩, 55)]
theorem lw_r6 : ∀ q ∈ lw_privs_6, lw_okq q := List.forall_mem_cons.mpr ⟨lw_p80, List.forall_mem_cons.mpr ⟨lw_p81, List.forall_mem_cons.mpr ⟨lw_p82, List.forall_mem_cons.mpr ⟨lw_p83, List.forall_mem_cons.mpr ⟨lw_p84, List.forall_mem_cons.mpr ⟨lw_p85, List.forall_mem_cons.mpr ⟨lw_p86, List.forall_mem_cons.mpr ⟨lw_p87, List.forall_mem_cons.mpr ⟨lw_p88, List.forall_mem_cons.mpr ⟨lw_p89, List.forall_mem_cons.mpr ⟨lw_p90, List.forall_mem_cons.mpr ⟨lw_p91, List.forall_mem_cons.mpr ⟨lw_p92, List.forall_mem_cons.mpr ⟨lw_p93, List.forall_mem_cons.mpr ⟨lw_p94, List.forall_mem_cons.mpr ⟨lw_p95, fun _ h => absurd h List.not_mem_nil⟩⟩⟩⟩⟩⟩⟩⟩⟩⟩⟩⟩⟩⟩⟩⟩
theorem lw_p96 : lw_okq (⟨"LeavesOfMudModel", "draw", "(I)I"⟩, 55) := ⟨⟨by decide +kernel, by decide +kernel⟩, List.mem_of_getElem? (i := 1083) (by decide +kernel), List.mem_of_getElem? (i := 1324) (by decide +kernel), List.mem_of_getElem? (i := 1325) (by decide +kernel)⟩
theorem lw_p97 : lw_okq (⟨"LeavesOfMudModel", "layOne", "(III)V"⟩, 55) := ⟨⟨by decide +kernel, by decide +kernel⟩, List.mem_of_getElem? (i := 1083) (by decide +kernel), List.mem_of_getElem? (i := 1332) (by decide +kernel), List.mem_of_getElem? (i := 1333) (by decide +kernel)⟩
theorem lw_p98 : lw_okq (⟨"LeavesOfMudModel", "faultOf", "(I)I"⟩, 55) := ⟨⟨by decide +kernel, by decide +kernel⟩, List.mem_of_getElem? (i := 1083) (by decide +kernel), List.mem_of_getElem? (i := 1349) (by decide +kernel), List.mem_of_getElem? (i := 1350) (by decide +kernel)⟩
theorem lw_p99 : lw_okq (⟨"LeavesOfMudModel", "go", "(II)Z"⟩, 55) := ⟨⟨by decide +kernel, by decide +kernel⟩, List.mem_of_getElem? (i := 1083) (by decide +kernel), List.mem_of_getElem? (i := 1353) (by decide +kernel), List.mem_of_getElem? (i := 1354) (by decide +kernel)⟩
theorem lw_p100 : lw_okq (⟨"LeavesOfMudModel", "isHand", "(I)Z"⟩, 55) := ⟨⟨by decide +kernel, by decide +kernel⟩, List.mem_of_getElem? (i := 1083) (by decide +kernel), List.mem_of_getElem? (i := 1377) (by decide +kernel), List.mem_of_getElem? (i := 1378) (by decide +kernel)⟩
theorem lw_p101 : lw_okq (⟨"LeavesOfMudModel", "atOf", "(III)I"⟩, 55) := ⟨⟨by decide +kernel, by decide +kernel⟩, List.mem_of_getElem? (i := 1083) (by decide +kernel), List.mem_of_getElem? (i := 1382) (by decide +kernel), List.mem_of_getElem? (i := 1383) (by decide +kernel)⟩
theorem lw_p102 : lw_okq (⟨"LeavesOfMudModel", "overOf", "(III)I"⟩, 55) := ⟨⟨by decide +kernel, by decide +kernel⟩, List.mem_of_getElem? (i := 1083) (by decide +kernel), List.mem_of_getElem? (i := 1405) (by decide +kernel), List.mem_of_getElem? (i := 1406) (by decide +kernel)⟩
theorem lw_p103 : lw_okq (⟨"LeavesOfMudModel", "likeOf", "(IIII)I"⟩, 55) := ⟨⟨by decide +kernel, by decide +kernel⟩, List.mem_of_getElem? (i := 1083) (by decide +kernel), List.mem_of_getElem? (i := 1410) (by decide +kernel), List.mem_of_getElem? (i := 1411) (by decide +kernel)⟩
theorem lw_p104 : lw_okq (⟨"LeavesOfMudModel", "turned", "(III)I"⟩, 55) := ⟨⟨by decide +kernel, by decide +kernel⟩, List.mem_of_getElem? (i := 1083) (by decide +kernel), List.mem_of_getElem? (i := 1414) (by decide +kernel), List.mem_of_getElem? (i := 1415) (by decide +kernel)⟩
theorem lw_p105 : lw_okq (⟨"LeavesOfMudModel", "isLaw", "(I)Z"⟩, 55) := ⟨⟨by decide +kernel, by decide +kernel⟩, List.mem_of_getElem? (i := 1083) (by decide +kernel), List.mem_of_getElem? (i := 1444) (by decide +kernel), List.mem_of_getElem? (i := 1445) (by decide +kernel)⟩
theorem lw_p106 : lw_okq (⟨"LeavesOfMudModel", "layTogether", "(IIIII)V"⟩, 55) := ⟨⟨by decide +kernel, by decide +kernel⟩, List.mem_of_getElem? (i := 1083) (by decide +kernel), List.mem_of_getElem? (i := 1450) (by decide +kernel), List.mem_of_getElem? (i := 1451) (by decide +kernel)⟩
theorem lw_p107 : lw_okq (⟨"LeavesOfMudModel", "price", "(III)I"⟩, 55) := ⟨⟨by decide +kernel, by decide +kernel⟩, List.mem_of_getElem? (i := 1083) (by decide +kernel), List.mem_of_getElem? (i := 1455) (by decide +kernel), List.mem_of_getElem? (i := 1456) (by decide +kernel)⟩
theorem lw_p108 : lw_okq (⟨"LeavesOfMudModel", "ash", "(I)I"⟩, 55) := ⟨⟨by decide +kernel, by decide +kernel⟩, List.mem_of_getElem? (i := 1083) (by decide +kernel), List.mem_of_getElem? (i := 1465) (by decide +kernel), List.mem_of_getElem? (i := 1466) (by decide +kernel)⟩
theorem lw_p109 : lw_okq (⟨"LeavesOfMudModel", "behind", "(III)I"⟩, 55) := ⟨⟨by decide +kernel, by decide +kernel⟩, List.mem_of_getElem? (i := 1083) (by decide +kernel), List.mem_of_getElem? (i := 1472) (by decide +kernel), List.mem_of_getElem? (i := 1473) (by decide +kernel)⟩
theorem lw_p110 : lw_okq (⟨"LeavesOfMudModel", "layWay", "()V"⟩, 55) := ⟨⟨by decide +kernel, by decide +kernel⟩, List.mem_of_getElem? (i := 1083) (by decide +kernel), List.mem_of_getElem? (i := 1478) (by decide +kernel), List.mem_of_getElem? (i := 1479) (by decide +kernel)⟩
theorem lw_p111 : lw_okq (⟨"LeavesOfMudModel", "layKept", "()Z"⟩, 55) := ⟨⟨by decide +kernel, by decide +kernel⟩, List.mem_of_getElem? (i := 1083) (by decide +kernel), List.mem_of_getElem? (i := 1518) (by decide +kernel), List.mem_of_getElem? (i := 1519) (by decide +kernel)⟩
def lw_privs_7 : List (MethodName × Nat) := [(⟨"LeavesOfMudModel", "draw", "(I)I"⟩, 55), (⟨"LeavesOfMudModel", "layOne", "(III)V"⟩, 55), (⟨"LeavesOfMudModel", "faultOf", "(I)I"⟩, 55), (⟨"LeavesOfMudModel", "go", "(II)Z"⟩, 55), (⟨"LeavesOfMudModel", "isHand", "(I)Z"⟩, 55), (⟨"LeavesOfMudModel", "atOf", "(III)I"⟩, 55), (⟨"LeavesOfMudModel", "overOf", "(III)I"⟩, 55), (⟨"LeavesOfMudModel", "likeOf", "(IIII)I"⟩, 55), (⟨"LeavesOfMudModel", "turned", "(III)I"⟩, 55), (⟨"LeavesOfMudModel", "isLaw", "(I)Z"⟩, 55), (⟨"LeavesOfMudModel", "layTogether", "(IIIII)V"⟩, 55), (⟨"LeavesOfMudModel", "price", "(III)I"⟩, 55), (⟨"LeavesOfMudModel", "ash", "(I)I"⟩, 55), (⟨"LeavesOfMudModel", "behind", "(III)I"⟩, 55), (⟨"LeavesOfMudModel", "layWay", "()V"⟩, 55), (⟨"LeavesOfMudModel", "layKept", "()Z"⟩, 55)]
theorem lw_r7 : ∀ q ∈ lw_privs_7, lw_okq q := List.forall_mem_cons.mpr ⟨lw_p96, List.forall_mem_cons.mpr ⟨lw_p97, List.forall_mem_cons.mpr ⟨lw_p98, List.forall_mem_cons.mpr ⟨lw_p99, List.forall_mem_cons.mpr ⟨lw_p100, List.forall_mem_cons.mpr ⟨lw_p101, List.forall_mem_cons.mpr ⟨lw_p102, List.forall_mem_cons.mpr ⟨lw_p103, List.forall_mem_cons.mpr ⟨lw_p104, List.forall_mem_cons.mpr ⟨lw_p105, List.forall_mem_cons.mpr ⟨lw_p106, List.forall_mem_cons.mpr ⟨lw_p107, List.forall_mem_cons.mpr ⟨lw_p108, List.forall_mem_cons.mpr ⟨lw_p109, List.forall_mem_cons.mpr ⟨lw_p110, List.forall_mem_cons.mpr ⟨lw_p111, fun _ h => absurd h List.not_mem_nil⟩⟩⟩⟩⟩⟩⟩⟩⟩⟩⟩⟩⟩⟩⟩⟩
theorem lw_p112 : lw_okq (⟨"LeavesOfMudModel", "keptSet", "()I"⟩, 55) := ⟨⟨by decide +kernel, by decide +kernel⟩, List.mem_of_getElem? (i := 1083) (by decide +kernel), List.mem_of_getElem? (i := 1522) (by decide +kernel), List.mem_of_getElem? (i := 1523) (by decide +kernel)⟩
theorem lw_p113 : lw_okq (⟨"LeavesOfMudModel", "layNet", "(I)Z"⟩, 55) := ⟨⟨by decide +kernel, by decide +kernel⟩, List.mem_of_getElem? (i := 1083) (by decide +kernel), List.mem_of_getElem? (i := 1526) (by decide +kernel), List.mem_of_getElem? (i := 1527) (by decide +kernel)⟩
theorem lw_p114 : lw_okq (⟨"LeavesOfMudModel", "bound", "(IIII)V"⟩, 55) := ⟨⟨by decide +kernel, by decide +kernel⟩, List.mem_of_getElem? (i := 1083) (by decide +kernel), List.mem_of_getElem? (i := 1531) (by decide +kernel), List.mem_of_getElem? (i := 1532) (by decide +kernel)⟩
theorem lw_p115 : lw_okq (⟨"LeavesOfMudModel", "ashAt", "(II)I"⟩, 55) := ⟨⟨by decide +kernel, by decide +kernel⟩, List.mem_of_getElem? (i := 1083) (by decide +kernel), List.mem_of_getElem? (i := 1535) (by decide +kernel), List.mem_of_getElem? (i := 1536) (by decide +kernel)⟩
theorem lw_p116 : lw_okq (⟨"LeavesOfMudModel", "close", "()Z"⟩, 55) := ⟨⟨by decide +kernel, by decide +kernel⟩, List.mem_of_getElem? (i := 1083) (by decide +kernel), List.mem_of_getElem? (i := 1539) (by decide +kernel), List.mem_of_getElem? (i := 1540) (by decide +kernel)⟩
theorem lw_p117 : lw_okq (⟨"LeavesOfMudModel", "floats", "(II)Z"⟩, 55) := ⟨⟨by decide +kernel, by decide +kernel⟩, List.mem_of_getElem? (i := 1083) (by decide +kernel), List.mem_of_getElem? (i := 1549) (by decide +kernel), List.mem_of_getElem? (i := 1550) (by decide +kernel)⟩
theorem lw_p118 : lw_okq (⟨"LeavesOfMudModel", "layCalendars", "()I"⟩, 55) := ⟨⟨by decide +kernel, by decide +kernel⟩, List.mem_of_getElem? (i := 1083) (by decide +kernel), List.mem_of_getElem? (i := 1561) (by decide +kernel), List.mem_of_getElem? (i := 1562) (by decide +kernel)⟩
theorem lw_p119 : lw_okq (⟨"LeavesOfMudModel", "manyOf", "(I)I"⟩, 55) := ⟨⟨by decide +kernel, by decide +kernel⟩, List.mem_of_getElem? (i := 1083) (by decide +kernel), List.mem_of_getElem? (i := 1569) (by decide +kernel), List.mem_of_getElem? (i := 1570) (by decide +kernel)⟩
theorem lw_p120 : lw_okq (⟨"LeavesOfMudModel", "doubtOf", "(I)I"⟩, 55) := ⟨⟨by decide +kernel, by decide +kernel⟩, List.mem_of_getElem? (i := 1083) (by decide +kernel), List.mem_of_getElem? (i := 1573) (by decide +kernel), List.mem_of_getElem? (i := 1574) (by decide +kernel)⟩
theorem lw_p121 : lw_okq (⟨"LeavesOfMudModel", "allWidths", "()I"⟩, 55) := ⟨⟨by decide +kernel, by decide +kernel⟩, List.mem_of_getElem? (i := 1083) (by decide +kernel), List.mem_of_getElem? (i := 1586) (by decide +kernel), List.mem_of_getElem? (i := 1587) (by decide +kernel)⟩
theorem lw_p122 : lw_okq (⟨"LeavesOfMudModel", "tookBy", "(III)I"⟩, 55) := ⟨⟨by decide +kernel, by decide +kernel⟩, List.mem_of_getElem? (i := 1083) (by decide +kernel), List.mem_of_getElem? (i := 1598) (by decide +kernel), List.mem_of_getElem? (i := 1599) (by decide +kernel)⟩
theorem lw_p123 : lw_okq (⟨"LeavesOfMudModel", "ashBeside", "(IIII)I"⟩, 55) := ⟨⟨by decide +kernel, by decide +kernel⟩, List.mem_of_getElem? (i := 1083) (by decide +kernel), List.mem_of_getElem? (i := 1602) (by decide +kernel), List.mem_of_getElem? (i := 1603) (by decide +kernel)⟩
theorem lw_p124 : lw_okq (⟨"LeavesOfMudModel", "countOf", "(I)I"⟩, 55) := ⟨⟨by decide +kernel, by decide +kernel⟩, List.mem_of_getElem? (i := 1083) (by decide +kernel), List.mem_of_getElem? (i := 1618) (by decide +kernel), List.mem_of_getElem? (i := 1619) (by decide +kernel)⟩
theorem lw_p125 : lw_okq (⟨"LeavesOfMudModel", "tellPit", "(I)V"⟩, 55) := ⟨⟨by decide +kernel, by decide +kernel⟩, List.mem_of_getElem? (i := 1083) (by decide +kernel), List.mem_of_getElem? (i := 1627) (by decide +kernel), List.mem_of_getElem? (i := 1628) (by decide +kernel)⟩
theorem lw_p126 : lw_okq (⟨"LeavesOfMudModel", "tell", "(J)V"⟩, 55) := ⟨⟨by decide +kernel, by decide +kernel⟩, List.mem_of_getElem? (i := 1083) (by decide +kernel), List.mem_of_getElem? (i := 1631) (by decide +kernel), List.mem_of_getElem? (i := 1632) (by decide +kernel)⟩
theorem lw_p127 : lw_okq (⟨"LeavesOfMudModel", "tellLaw", "(I)V"⟩, 55) := ⟨⟨by decide +kernel, by decide +kernel⟩, List.mem_of_getElem? (i := 1083) (by decide +kernel), List.mem_of_getElem? (i := 1636) (by decide +kernel), List.mem_of_getElem? (i := 1637) (by decide +kernel)⟩
def lw_privs_8 : List (MethodName × Nat) := [(⟨"LeavesOfMudModel", "keptSet", "()I"⟩, 55), (⟨"LeavesOfMudModel", "layNet", "(I)Z"⟩, 55), (⟨"LeavesOfMudModel", "bound", "(IIII)V"⟩, 55), (⟨"LeavesOfMudModel", "ashAt", "(II)I"⟩, 55), (⟨"LeavesOfMudModel", "close", "()Z"⟩, 55), (⟨"LeavesOfMudModel", "floats", "(II)Z"⟩, 55), (⟨"LeavesOfMudModel", "layCalendars", "()I"⟩, 55), (⟨"LeavesOfMudModel", "manyOf", "(I)I"⟩, 55), (⟨"LeavesOfMudModel", "doubtOf", "(I)I"⟩, 55), (⟨"LeavesOfMudModel", "allWidths", "()I"⟩, 55), (⟨"LeavesOfMudModel", "tookBy", "(III)I"⟩, 55), (⟨"LeavesOfMudModel", "ashBeside", "(IIII)I"⟩, 55), (⟨"LeavesOfMudModel", "countOf", "(I)I"⟩, 55), (⟨"LeavesOfMudModel", "tellPit", "(I)V"⟩, 55), (⟨"LeavesOfMudModel", "tell", "(J)V"⟩, 55), (⟨"LeavesOfMudModel", "tellLaw", "(I)V"⟩, 55)]
theorem lw_r8 : ∀ q ∈ lw_privs_8, lw_okq q := List.forall_mem_cons.mpr ⟨lw_p112, List.forall_mem_cons.mpr ⟨lw_p113, List.forall_mem_cons.mpr ⟨lw_p114, List.forall_mem_cons.mpr ⟨lw_p115, List.forall_mem_cons.mpr ⟨lw_p116, List.forall_mem_cons.mpr ⟨lw_p117, List.forall_mem_cons.mpr ⟨lw_p118, List.forall_mem_cons.mpr ⟨lw_p119, List.forall_mem_cons.mpr ⟨lw_p120, List.forall_mem_cons.mpr ⟨lw_p121, List.forall_mem_cons.mpr ⟨lw_p122, List.forall_mem_cons.mpr ⟨lw_p123, List.forall_mem_cons.mpr ⟨lw_p124, List.forall_mem_cons.mpr ⟨lw_p125, List.forall_mem_cons.mpr ⟨lw_p126, List.forall_mem_cons.mpr ⟨lw_p127, fun _ h => absurd h List.not_mem_nil⟩⟩⟩⟩⟩⟩⟩⟩⟩⟩⟩⟩⟩⟩⟩⟩
theorem lw_p128 : lw_okq (⟨"LeavesOfMudModel", "tellNet", "()V"⟩, 55) := ⟨⟨by decide +kernel, by decide +kernel⟩, List.mem_of_getElem? (i := 1083) (by decide +kernel), List.mem_of_getElem? (i := 1640) (by decide +kernel), List.mem_of_getElem? (i := 1641) (by decide +kernel)⟩
def lw_privs_9 : List (MethodName × Nat) := [(⟨"LeavesOfMudModel", "tellNet", "()V"⟩, 55)]
theorem lw_r9 : ∀ q ∈ lw_privs_9, lw_okq q := List.forall_mem_cons.mpr ⟨lw_p128, fun _ h => absurd h List.not_mem_nil⟩
def lw_privs : List (MethodName × Nat) := lw_privs_1 ++ (lw_privs_2 ++ (lw_privs_3 ++ (lw_privs_4 ++ (lw_privs_5 ++ (lw_privs_6 ++ (lw_privs_7 ++ (lw_privs_8 ++ (lw_privs_9))))))))
def lw_tbl : List Cond := k2_sels lw_privs ++ tables_1
theorem lw_privs_ok : ∀ q ∈ lw_privs, lw_okq q := by
  show ∀ q ∈ lw_privs_1 ++ (lw_privs_2 ++ (lw_privs_3 ++ (lw_privs_4 ++ (lw_privs_5 ++ (lw_privs_6 ++ (lw_privs_7 ++ (lw_privs_8 ++ (lw_privs_9)))))))), lw_okq q
  exact List.forall_mem_append.mpr ⟨lw_r1, List.forall_mem_append.mpr ⟨lw_r2, List.forall_mem_append.mpr ⟨lw_r3, List.forall_mem_append.mpr ⟨lw_r4, List.forall_mem_append.mpr ⟨lw_r5, List.forall_mem_append.mpr ⟨lw_r6, List.forall_mem_append.mpr ⟨lw_r7, List.forall_mem_append.mpr ⟨lw_r8, lw_r9⟩⟩⟩⟩⟩⟩⟩⟩
-- ===== end of PART A; then your names; then what follows =====
end
section
/-! ===== BEGIN printed: names, fields, word lists, decode rows ===== -/
def RX0 : String := "LeavesOfMud$Bonds"
def TX0 : u_T := fun k => match k with
  | 0 => ("LeavesOfMud$Bonds", "joins", "I", false)
  | 1 => ("LeavesOfMud$Bonds", "firsts", "[I", true)
  | 2 => ("LeavesOfMud$Bonds", "seconds", "[I", true)
  | 3 => ("LeavesOfMud$Bonds", "lows", "[I", true)
  | 4 => ("LeavesOfMud$Bonds", "highs", "[I", true)
  | 5 => ("LeavesOfMud$Bonds", "doubts", "[I", true)
  | 6 => ("LeavesOfMud$Bonds", "keptBits", "I", false)
  | 7 => ("LeavesOfMud$Bonds", "tiedBits", "I", false)
  | 8 => ("LeavesOfMud$Bonds", "tieLows", "[I", true)
  | 9 => ("LeavesOfMud$Bonds", "tieHighs", "[I", true)
  | _ => ("LeavesOfMud$Bonds", "ashesCount", "Z", false)
def tyX0 : Nat → FieldType := fun k => match k with
  | 0 => .int
  | 1 => .array .int
  | 2 => .array .int
  | 3 => .array .int
  | 4 => .array .int
  | 5 => .array .int
  | 6 => .int
  | 7 => .int
  | 8 => .array .int
  | 9 => .array .int
  | _ => .boolean
abbrev wsX00 : List Cond := u_ws RX0 TX0 11
theorem nmX0 : ∀ a, a < 11 → ∀ b, b < 11 → a ≠ b → (TX0 a).2.1 ≠ (TX0 b).2.1 := by decide +kernel
theorem tyX0_ok : ∀ k, k < 11 → parseFieldDescriptor (TX0 k).2.2.1 = some (tyX0 k) := by decide +kernel
abbrev cX0_init : ByteArray := prog_2_method_1_code
def yX0_init : MethodName := ⟨RX0, "<init>", "()V"⟩
abbrev cX0_addJoin : ByteArray := prog_2_method_2_code
def yX0_addJoin : MethodName := ⟨RX0, "addJoin", "(IIIII)I"⟩
abbrev cX0_isKept : ByteArray := prog_2_method_3_code
def yX0_isKept : MethodName := ⟨RX0, "isKept", "(I)Z"⟩
abbrev cX0_setKept : ByteArray := prog_2_method_4_code
def yX0_setKept : MethodName := ⟨RX0, "setKept", "(IZ)V"⟩
abbrev cX0_isTied : ByteArray := prog_2_method_5_code
def yX0_isTied : MethodName := ⟨RX0, "isTied", "(I)Z"⟩
abbrev cX0_dropTie : ByteArray := prog_2_method_6_code
def yX0_dropTie : MethodName := ⟨RX0, "dropTie", "(I)V"⟩
abbrev cX0_setTie : ByteArray := prog_2_method_7_code
def yX0_setTie : MethodName := ⟨RX0, "setTie", "(III)V"⟩
abbrev cX0_foldInto : ByteArray := prog_2_method_8_code
def yX0_foldInto : MethodName := ⟨RX0, "foldInto", "(J)J"⟩
abbrev cX0_copyFrom : ByteArray := prog_2_method_9_code
def yX0_copyFrom : MethodName := ⟨RX0, "copyFrom", "(LLeavesOfMud$Bonds;)V"⟩
def RX1 : String := "LeavesOfMud$Hands"
def TX1 : u_T := fun k => match k with
  | 0 => ("LeavesOfMud$Hands", "pits", "LLeavesOfMud$Pits;", true)
  | 1 => ("LeavesOfMud$Hands", "size", "I", false)
  | _ => ("LeavesOfMud$Hands", "told", "[I", true)
def tyX1 : Nat → FieldType := fun k => match k with
  | 0 => .object "LeavesOfMud$Pits"
  | 1 => .int
  | _ => .array .int
abbrev wsX10 : List Cond := u_ws RX1 TX1 3
theorem nmX1 : ∀ a, a < 3 → ∀ b, b < 3 → a ≠ b → (TX1 a).2.1 ≠ (TX1 b).2.1 := by decide +kernel
theorem tyX1_ok : ∀ k, k < 3 → parseFieldDescriptor (TX1 k).2.2.1 = some (tyX1 k) := by decide +kernel
abbrev cX1_init : ByteArray := prog_3_method_1_code
def yX1_init : MethodName := ⟨RX1, "<init>", "(LLeavesOfMud$Pits;)V"⟩
abbrev cX1_has : ByteArray := prog_3_method_2_code
def yX1_has : MethodName := ⟨RX1, "has", "(I)Z"⟩
abbrev cX1_take : ByteArray := prog_3_method_3_code
def yX1_take : MethodName := ⟨RX1, "take", "([I)I"⟩
abbrev cX1_halvesOf : ByteArray := prog_3_method_4_code
def yX1_halvesOf : MethodName := ⟨RX1, "halvesOf", "(III)I"⟩
abbrev cX1_halvesAhead : ByteArray := prog_3_method_5_code
def yX1_halvesAhead : MethodName := ⟨RX1, "halvesAhead", "(III)I"⟩
abbrev cX1_yearsAhead : ByteArray := prog_3_method_6_code
def yX1_yearsAhead : MethodName := ⟨RX1, "yearsAhead", "(III)I"⟩
abbrev cX1_yearsOfAll : ByteArray := prog_3_method_7_code
def yX1_yearsOfAll : MethodName := ⟨RX1, "yearsOfAll", "(II)I"⟩
def RX2 : String := "LeavesOfMud$Laws"
def TX2 : u_T := fun k => match k with
  | 0 => ("LeavesOfMud$Laws", "size", "I", false)
  | _ => ("LeavesOfMud$Laws", "prices", "[I", true)
def tyX2 : Nat → FieldType := fun k => match k with
  | 0 => .int
  | _ => .array .int
abbrev wsX20 : List Cond := u_ws RX2 TX2 2
theorem nmX2 : ∀ a, a < 2 → ∀ b, b < 2 → a ≠ b → (TX2 a).2.1 ≠ (TX2 b).2.1 := by decide +kernel
theorem tyX2_ok : ∀ k, k < 2 → parseFieldDescriptor (TX2 k).2.2.1 = some (tyX2 k) := by decide +kernel
abbrev cX2_init : ByteArray := prog_4_method_1_code
def yX2_init : MethodName := ⟨RX2, "<init>", "()V"⟩
abbrev cX2_has : ByteArray := prog_4_method_2_code
def yX2_has : MethodName := ⟨RX2, "has", "(I)Z"⟩
abbrev cX2_take : ByteArray := prog_4_method_3_code
def yX2_take : MethodName := ⟨RX2, "take", "([I)I"⟩
abbrev cX2_priceOf : ByteArray := prog_4_method_4_code
def yX2_priceOf : MethodName := ⟨RX2, "priceOf", "(II)I"⟩
def RX3 : String := "LeavesOfMud$Net"
def TX3 : u_T := fun k => match k with
  | 0 => ("LeavesOfMud$Net", "pits", "LLeavesOfMud$Pits;", true)
  | 1 => ("LeavesOfMud$Net", "hands", "LLeavesOfMud$Hands;", true)
  | 2 => ("LeavesOfMud$Net", "bonds", "LLeavesOfMud$Bonds;", true)
  | 3 => ("LeavesOfMud$Net", "whole", "[I", true)
  | 4 => ("LeavesOfMud$Net", "fixed", "[I", true)
  | 5 => ("LeavesOfMud$Net", "without", "[I", true)
  | 6 => ("LeavesOfMud$Net", "levels", "[[I", true)
  | 7 => ("LeavesOfMud$Net", "ashYears", "[I", true)
  | 8 => ("LeavesOfMud$Net", "labels", "[I", true)
  | 9 => ("LeavesOfMud$Net", "bestCast", "I", false)
  | 10 => ("LeavesOfMud$Net", "bestSize", "I", false)
  | 11 => ("LeavesOfMud$Net", "bestDoubt", "I", false)
  | 12 => ("LeavesOfMud$Net", "digA", "I", false)
  | 13 => ("LeavesOfMud$Net", "digB", "I", false)
  | _ => ("LeavesOfMud$Net", "digWorst", "I", false)
def tyX3 : Nat → FieldType := fun k => match k with
  | 0 => .object "LeavesOfMud$Pits"
  | 1 => .object "LeavesOfMud$Hands"
  | 2 => .object "LeavesOfMud$Bonds"
  | 3 => .array .int
  | 4 => .array .int
  | 5 => .array .int
  | 6 => .array (.array .int)
  | 7 => .array .int
  | 8 => .array .int
  | 9 => .int
  | 10 => .int
  | 11 => .int
  | 12 => .int
  | 13 => .int
  | _ => .int
abbrev wsX30 : List Cond := u_ws RX3 TX3 15
theorem nmX3 : ∀ a, a < 15 → ∀ b, b < 15 → a ≠ b → (TX3 a).2.1 ≠ (TX3 b).2.1 := by decide +kernel
theorem tyX3_ok : ∀ k, k < 15 → parseFieldDescriptor (TX3 k).2.2.1 = some (tyX3 k) := by decide +kernel
abbrev cX3_init : ByteArray := prog_5_method_1_code
def yX3_init : MethodName := ⟨RX3, "<init>", "(LLeavesOfMud$Pits;LLeavesOfMud$Hands;LLeavesOfMud$Bonds;)V"⟩
abbrev cX3_weaveWhole : ByteArray := prog_5_method_2_code
def yX3_weaveWhole : MethodName := ⟨RX3, "weaveWhole", "()Z"⟩
abbrev cX3_isFloating : ByteArray := prog_5_method_3_code
def yX3_isFloating : MethodName := ⟨RX3, "isFloating", "(II)Z"⟩
abbrev cX3_endOfSpan : ByteArray := prog_5_method_4_code
def yX3_endOfSpan : MethodName := ⟨RX3, "endOfSpan", "(III)I"⟩
abbrev cX3_weaveFixed : ByteArray := prog_5_method_5_code
def yX3_weaveFixed : MethodName := ⟨RX3, "weaveFixed", "()Z"⟩
abbrev cX3_weaveJoins : ByteArray := prog_5_method_6_code
def yX3_weaveJoins : MethodName := ⟨RX3, "weaveJoins", "([II)Z"⟩
abbrev cX3_bindJoin : ByteArray := prog_5_method_7_code
def yX3_bindJoin : MethodName := ⟨RX3, "bindJoin", "([II)Z"⟩
abbrev cX3_findAshes : ByteArray := prog_5_method_8_code
def yX3_findAshes : MethodName := ⟨RX3, "findAshes", "()V"⟩
abbrev cX3_bindAshes : ByteArray := prog_5_method_9_code
def yX3_bindAshes : MethodName := ⟨RX3, "bindAshes", "(I)Z"⟩
abbrev cX3_hasAsh : ByteArray := prog_5_method_10_code
def yX3_hasAsh : MethodName := ⟨RX3, "hasAsh", "(II)Z"⟩
abbrev cX3_firstPitWithAsh : ByteArray := prog_5_method_11_code
def yX3_firstPitWithAsh : MethodName := ⟨RX3, "firstPitWithAsh", "(I)I"⟩
abbrev cX3_bind : ByteArray := prog_5_method_12_code
def yX3_bind : MethodName := ⟨RX3, "bind", "([IIIII)Z"⟩
abbrev cX3_bound : ByteArray := prog_5_method_13_code
def yX3_bound : MethodName := ⟨RX3, "bound", "([IIII)Z"⟩
abbrev cX3_group : ByteArray := prog_5_method_14_code
def yX3_group : MethodName := ⟨RX3, "group", "()V"⟩
abbrev cX3_groupAshes : ByteArray := prog_5_method_15_code
def yX3_groupAshes : MethodName := ⟨RX3, "groupAshes", "(I)V"⟩
abbrev cX3_hangTogether : ByteArray := prog_5_method_16_code
def yX3_hangTogether : MethodName := ⟨RX3, "hangTogether", "(II)V"⟩
abbrev cX3_groups : ByteArray := prog_5_method_17_code
def yX3_groups : MethodName := ⟨RX3, "groups", "()I"⟩
abbrev cX3_groupOfFirst : ByteArray := prog_5_method_18_code
def yX3_groupOfFirst : MethodName := ⟨RX3, "groupOfFirst", "()I"⟩
abbrev cX3_leastCast : ByteArray := prog_5_method_19_code
def yX3_leastCast : MethodName := ⟨RX3, "leastCast", "()I"⟩
abbrev cX3_castFrom : ByteArray := prog_5_method_20_code
def yX3_castFrom : MethodName := ⟨RX3, "castFrom", "(III)V"⟩
abbrev cX3_copyLevel : ByteArray := prog_5_method_21_code
def yX3_copyLevel : MethodName := ⟨RX3, "copyLevel", "(I)V"⟩
abbrev cX3_considerCast : ByteArray := prog_5_method_22_code
def yX3_considerCast : MethodName := ⟨RX3, "considerCast", "(II)V"⟩
abbrev cX3_joinsThatHold : ByteArray := prog_5_method_23_code
def yX3_joinsThatHold : MethodName := ⟨RX3, "joinsThatHold", "(II)I"⟩
abbrev cX3_isWiderWithout : ByteArray := prog_5_method_24_code
def yX3_isWiderWithout : MethodName := ⟨RX3, "isWiderWithout", "(III)Z"⟩
abbrev cX3_findDig : ByteArray := prog_5_method_25_code
def yX3_findDig : MethodName := ⟨RX3, "findDig", "()V"⟩
abbrev cX3_widthOf : ByteArray := prog_5_method_26_code
def yX3_widthOf : MethodName := ⟨RX3, "widthOf", "(II)I"⟩
abbrev cX3_worstOfDig : ByteArray := prog_5_method_27_code
def yX3_worstOfDig : MethodName := ⟨RX3, "worstOfDig", "(II)I"⟩
abbrev cX3_widthsIfApart : ByteArray := prog_5_method_28_code
def yX3_widthsIfApart : MethodName := ⟨RX3, "widthsIfApart", "(III)I"⟩
abbrev cX3_mostIfApart : ByteArray := prog_5_method_29_code
def yX3_mostIfApart : MethodName := ⟨RX3, "mostIfApart", "(IIIII)I"⟩
def RX4 : String := "LeavesOfMud$Page"
def TX4 : u_T := fun k => match k with
  | 0 => ("LeavesOfMud$Page", "size", "I", false)
  | 1 => ("LeavesOfMud$Page", "letters", "[I", true)
  | 2 => ("LeavesOfMud$Page", "whole", "Z", false)
  | _ => ("LeavesOfMud$Page", "told", "[I", true)
def tyX4 : Nat → FieldType := fun k => match k with
  | 0 => .int
  | 1 => .array .int
  | 2 => .boolean
  | _ => .array .int
abbrev wsX40 : List Cond := u_ws RX4 TX4 4
theorem nmX4 : ∀ a, a < 4 → ∀ b, b < 4 → a ≠ b → (TX4 a).2.1 ≠ (TX4 b).2.1 := by decide +kernel
theorem tyX4_ok : ∀ k, k < 4 → parseFieldDescriptor (TX4 k).2.2.1 = some (tyX4 k) := by decide +kernel
abbrev cX4_init : ByteArray := prog_6_method_1_code
def yX4_init : MethodName := ⟨RX4, "<init>", "()V"⟩
abbrev cX4_write : ByteArray := prog_6_method_2_code
def yX4_write : MethodName := ⟨RX4, "write", "(I)V"⟩
abbrev cX4_read : ByteArray := prog_6_method_3_code
def yX4_read : MethodName := ⟨RX4, "read", "(I)I"⟩
abbrev cX4_readItems : ByteArray := prog_6_method_4_code
def yX4_readItems : MethodName := ⟨RX4, "readItems", "(Ljava/lang/String;I)I"⟩
def RX5 : String := "LeavesOfMud$Pairing"
def TX5 : u_T := fun k => match k with
  | 0 => ("LeavesOfMud$Pairing", "pits", "LLeavesOfMud$Pits;", true)
  | 1 => ("LeavesOfMud$Pairing", "laws", "LLeavesOfMud$Laws;", true)
  | 2 => ("LeavesOfMud$Pairing", "firstThickness", "[I", true)
  | 3 => ("LeavesOfMud$Pairing", "secondThickness", "[I", true)
  | 4 => ("LeavesOfMud$Pairing", "firstAshes", "[I", true)
  | 5 => ("LeavesOfMud$Pairing", "secondAshes", "[I", true)
  | 6 => ("LeavesOfMud$Pairing", "firstSize", "I", false)
  | 7 => ("LeavesOfMud$Pairing", "secondSize", "I", false)
  | 8 => ("LeavesOfMud$Pairing", "lost", "I", false)
  | 9 => ("LeavesOfMud$Pairing", "doubled", "I", false)
  | 10 => ("LeavesOfMud$Pairing", "unlike", "I", false)
  | 11 => ("LeavesOfMud$Pairing", "ashesPrice", "I", false)
  | 12 => ("LeavesOfMud$Pairing", "barredFirst", "I", false)
  | 13 => ("LeavesOfMud$Pairing", "barredSecond", "I", false)
  | 14 => ("LeavesOfMud$Pairing", "least", "[I", true)
  | 15 => ("LeavesOfMud$Pairing", "ways", "[I", true)
  | 16 => ("LeavesOfMud$Pairing", "way", "[I", true)
  | 17 => ("LeavesOfMud$Pairing", "wayLength", "I", false)
  | 18 => ("LeavesOfMud$Pairing", "liesOn", "[I", true)
  | _ => ("LeavesOfMud$Pairing", "liesBy", "[I", true)
def tyX5 : Nat → FieldType := fun k => match k with
  | 0 => .object "LeavesOfMud$Pits"
  | 1 => .object "LeavesOfMud$Laws"
  | 2 => .array .int
  | 3 => .array .int
  | 4 => .array .int
  | 5 => .array .int
  | 6 => .int
  | 7 => .int
  | 8 => .int
  | 9 => .int
  | 10 => .int
  | 11 => .int
  | 12 => .int
  | 13 => .int
  | 14 => .array .int
  | 15 => .array .int
  | 16 => .array .int
  | 17 => .int
  | 18 => .array .int
  | _ => .array .int
abbrev wsX50 : List Cond := u_ws RX5 TX5 20
theorem nmX5 : ∀ a, a < 20 → ∀ b, b < 20 → a ≠ b → (TX5 a).2.1 ≠ (TX5 b).2.1 := by decide +kernel
theorem tyX5_ok : ∀ k, k < 20 → parseFieldDescriptor (TX5 k).2.2.1 = some (tyX5 k) := by decide +kernel
abbrev cX5_init : ByteArray := prog_7_method_1_code
def yX5_init : MethodName := ⟨RX5, "<init>", "(LLeavesOfMud$Pits;LLeavesOfMud$Laws;)V"⟩
abbrev cX5_setTogether : ByteArray := prog_7_method_2_code
def yX5_setTogether : MethodName := ⟨RX5, "setTogether", "(III)V"⟩
abbrev cX5_readRow : ByteArray := prog_7_method_3_code
def yX5_readRow : MethodName := ⟨RX5, "readRow", "(I[I[I)V"⟩
abbrev cX5_leastOfAll : ByteArray := prog_7_method_4_code
def yX5_leastOfAll : MethodName := ⟨RX5, "leastOfAll", "()I"⟩
abbrev cX5_waysOfAll : ByteArray := prog_7_method_5_code
def yX5_waysOfAll : MethodName := ⟨RX5, "waysOfAll", "()I"⟩
abbrev cX5_leastWithout : ByteArray := prog_7_method_6_code
def yX5_leastWithout : MethodName := ⟨RX5, "leastWithout", "(II)I"⟩
abbrev cX5_stepOfTheWay : ByteArray := prog_7_method_7_code
def yX5_stepOfTheWay : MethodName := ⟨RX5, "stepOfTheWay", "(I)I"⟩
abbrev cX5_fillAll : ByteArray := prog_7_method_8_code
def yX5_fillAll : MethodName := ⟨RX5, "fillAll", "()V"⟩
abbrev cX5_fillPlace : ByteArray := prog_7_method_9_code
def yX5_fillPlace : MethodName := ⟨RX5, "fillPlace", "(II)V"⟩
abbrev cX5_canStep : ByteArray := prog_7_method_10_code
def yX5_canStep : MethodName := ⟨RX5, "canStep", "(III)Z"⟩
abbrev cX5_placeAfter : ByteArray := prog_7_method_11_code
def yX5_placeAfter : MethodName := ⟨RX5, "placeAfter", "(III)I"⟩
abbrev cX5_priceOf : ByteArray := prog_7_method_12_code
def yX5_priceOf : MethodName := ⟨RX5, "priceOf", "(III)I"⟩
abbrev cX5_priceOfOneOnOne : ByteArray := prog_7_method_13_code
def yX5_priceOfOneOnOne : MethodName := ⟨RX5, "priceOfOneOnOne", "(II)I"⟩
abbrev cX5_priceOfDoubled : ByteArray := prog_7_method_14_code
def yX5_priceOfDoubled : MethodName := ⟨RX5, "priceOfDoubled", "(II)I"⟩
abbrev cX5_ashesFrom : ByteArray := prog_7_method_15_code
def yX5_ashesFrom : MethodName := ⟨RX5, "ashesFrom", "([II)I"⟩
abbrev cX5_goTheWay : ByteArray := prog_7_method_16_code
def yX5_goTheWay : MethodName := ⟨RX5, "goTheWay", "()V"⟩
abbrev cX5_leastStepFrom : ByteArray := prog_7_method_17_code
def yX5_leastStepFrom : MethodName := ⟨RX5, "leastStepFrom", "(II)I"⟩
def RX6 : String := "LeavesOfMud$Pits"
def TX6 : u_T := fun k => match k with
  | 0 => ("LeavesOfMud$Pits", "size", "I", false)
  | 1 => ("LeavesOfMud$Pits", "miles", "[I", true)
  | 2 => ("LeavesOfMud$Pits", "sizes", "[I", true)
  | 3 => ("LeavesOfMud$Pits", "kinds", "[I", true)
  | 4 => ("LeavesOfMud$Pits", "thicknesses", "[I", true)
  | _ => ("LeavesOfMud$Pits", "numbers", "[I", true)
def tyX6 : Nat → FieldType := fun k => match k with
  | 0 => .int
  | 1 => .array .int
  | 2 => .array .int
  | 3 => .array .int
  | 4 => .array .int
  | _ => .array .int
abbrev wsX60 : List Cond := u_ws RX6 TX6 6
theorem nmX6 : ∀ a, a < 6 → ∀ b, b < 6 → a ≠ b → (TX6 a).2.1 ≠ (TX6 b).2.1 := by decide +kernel
theorem tyX6_ok : ∀ k, k < 6 → parseFieldDescriptor (TX6 k).2.2.1 = some (tyX6 k) := by decide +kernel
abbrev cX6_init : ByteArray := prog_8_method_1_code
def yX6_init : MethodName := ⟨RX6, "<init>", "()V"⟩
abbrev cX6_has : ByteArray := prog_8_method_2_code
def yX6_has : MethodName := ⟨RX6, "has", "(I)Z"⟩
abbrev cX6_hasLeaf : ByteArray := prog_8_method_3_code
def yX6_hasLeaf : MethodName := ⟨RX6, "hasLeaf", "(II)Z"⟩
abbrev cX6_open : ByteArray := prog_8_method_4_code
def yX6_open : MethodName := ⟨RX6, "open", "(I)I"⟩
abbrev cX6_push : ByteArray := prog_8_method_5_code
def yX6_push : MethodName := ⟨RX6, "push", "(IIII)V"⟩
abbrev cX6_put : ByteArray := prog_8_method_6_code
def yX6_put : MethodName := ⟨RX6, "put", "(IIIII)V"⟩
abbrev cX6_kindOf : ByteArray := prog_8_method_7_code
def yX6_kindOf : MethodName := ⟨RX6, "kindOf", "(II)I"⟩
abbrev cX6_thicknessOf : ByteArray := prog_8_method_8_code
def yX6_thicknessOf : MethodName := ⟨RX6, "thicknessOf", "(II)I"⟩
abbrev cX6_nOf : ByteArray := prog_8_method_9_code
def yX6_nOf : MethodName := ⟨RX6, "nOf", "(II)I"⟩
abbrev cX6_isAsh : ByteArray := prog_8_method_10_code
def yX6_isAsh : MethodName := ⟨RX6, "isAsh", "(II)Z"⟩
abbrev cX6_stepBetween : ByteArray := prog_8_method_11_code
def yX6_stepBetween : MethodName := ⟨RX6, "stepBetween", "(III)I"⟩
abbrev cX6_firstAsh : ByteArray := prog_8_method_12_code
def yX6_firstAsh : MethodName := ⟨RX6, "firstAsh", "(II)I"⟩
abbrev cX6_sharedAshAhead : ByteArray := prog_8_method_13_code
def yX6_sharedAshAhead : MethodName := ⟨RX6, "sharedAshAhead", "(III)I"⟩
abbrev cX6_sharedAshBehind : ByteArray := prog_8_method_14_code
def yX6_sharedAshBehind : MethodName := ⟨RX6, "sharedAshBehind", "(III)I"⟩
abbrev cX6_isSharedAsh : ByteArray := prog_8_method_15_code
def yX6_isSharedAsh : MethodName := ⟨RX6, "isSharedAsh", "(III)Z"⟩
abbrev cX6_hasFloodBetween : ByteArray := prog_8_method_16_code
def yX6_hasFloodBetween : MethodName := ⟨RX6, "hasFloodBetween", "(III)Z"⟩
abbrev cX6_leavesOfAll : ByteArray := prog_8_method_17_code
def yX6_leavesOfAll : MethodName := ⟨RX6, "leavesOfAll", "()I"⟩
abbrev cX6_copyFrom : ByteArray := prog_8_method_18_code
def yX6_copyFrom : MethodName := ⟨RX6, "copyFrom", "(LLeavesOfMud$Pits;)V"⟩
def RX7 : String := "LeavesOfMud$Slides"
def TX7 : u_T := fun k => match k with
  | _ => ("LeavesOfMud$Slides", "pits", "LLeavesOfMud$Pits;", true)
def tyX7 : Nat → FieldType := fun k => match k with
  | _ => .object "LeavesOfMud$Pits"
abbrev wsX70 : List Cond := u_ws RX7 TX7 1
theorem nmX7 : ∀ a, a < 1 → ∀ b, b < 1 → a ≠ b → (TX7 a).2.1 ≠ (TX7 b).2.1 := by decide +kernel
theorem tyX7_ok : ∀ k, k < 1 → parseFieldDescriptor (TX7 k).2.2.1 = some (tyX7 k) := by decide +kernel
abbrev cX7_init : ByteArray := prog_9_method_1_code
def yX7_init : MethodName := ⟨RX7, "<init>", "(LLeavesOfMud$Pits;)V"⟩
abbrev cX7_overOf : ByteArray := prog_9_method_2_code
def yX7_overOf : MethodName := ⟨RX7, "overOf", "(III)I"⟩
abbrev cX7_likeOf : ByteArray := prog_9_method_3_code
def yX7_likeOf : MethodName := ⟨RX7, "likeOf", "(IIII)I"⟩
abbrev cX7_turnedPlace : ByteArray := prog_9_method_4_code
def yX7_turnedPlace : MethodName := ⟨RX7, "turnedPlace", "(III)I"⟩
abbrev cX7_best : ByteArray := prog_9_method_5_code
def yX7_best : MethodName := ⟨RX7, "best", "(III)I"⟩
abbrev cX7_turnsAsLike : ByteArray := prog_9_method_6_code
def yX7_turnsAsLike : MethodName := ⟨RX7, "turnsAsLike", "(III)I"⟩
def RX8 : String := "LeavesOfMud"
def TX8 : u_T := fun k => match k with
  | 0 => ("LeavesOfMud", "pits", "LLeavesOfMud$Pits;", true)
  | 1 => ("LeavesOfMud", "bonds", "LLeavesOfMud$Bonds;", true)
  | 2 => ("LeavesOfMud", "imagePits", "LLeavesOfMud$Pits;", true)
  | 3 => ("LeavesOfMud", "imageBonds", "LLeavesOfMud$Bonds;", true)
  | 4 => ("LeavesOfMud", "imageKept", "Z", false)
  | 5 => ("LeavesOfMud", "page", "LLeavesOfMud$Page;", true)
  | 6 => ("LeavesOfMud", "hands", "LLeavesOfMud$Hands;", true)
  | 7 => ("LeavesOfMud", "laws", "LLeavesOfMud$Laws;", true)
  | 8 => ("LeavesOfMud", "slides", "LLeavesOfMud$Slides;", true)
  | 9 => ("LeavesOfMud", "pairing", "LLeavesOfMud$Pairing;", true)
  | 10 => ("LeavesOfMud", "net", "LLeavesOfMud$Net;", true)
  | 11 => ("LeavesOfMud", "sureDone", "I", false)
  | _ => ("LeavesOfMud", "digDone", "I", false)
def tyX8 : Nat → FieldType := fun k => match k with
  | 0 => .object "LeavesOfMud$Pits"
  | 1 => .object "LeavesOfMud$Bonds"
  | 2 => .object "LeavesOfMud$Pits"
  | 3 => .object "LeavesOfMud$Bonds"
  | 4 => .boolean
  | 5 => .object "LeavesOfMud$Page"
  | 6 => .object "LeavesOfMud$Hands"
  | 7 => .object "LeavesOfMud$Laws"
  | 8 => .object "LeavesOfMud$Slides"
  | 9 => .object "LeavesOfMud$Pairing"
  | 10 => .object "LeavesOfMud$Net"
  | 11 => .int
  | _ => .int
abbrev wsX80 : List Cond := u_ws RX8 TX8 13
theorem nmX8 : ∀ a, a < 13 → ∀ b, b < 13 → a ≠ b → (TX8 a).2.1 ≠ (TX8 b).2.1 := by decide +kernel
theorem tyX8_ok : ∀ k, k < 13 → parseFieldDescriptor (TX8 k).2.2.1 = some (tyX8 k) := by decide +kernel
abbrev cX8_init : ByteArray := prog_1_method_1_code
def yX8_init : MethodName := ⟨RX8, "<init>", "()V"⟩
abbrev cX8_pit : ByteArray := prog_1_method_2_code
def yX8_pit : MethodName := ⟨RX8, "pit", "(I)I"⟩
abbrev cX8_leaf : ByteArray := prog_1_method_3_code
def yX8_leaf : MethodName := ⟨RX8, "leaf", "(IIII)I"⟩
abbrev cX8_as : ByteArray := prog_1_method_4_code
def yX8_as : MethodName := ⟨RX8, "as", "(III)I"⟩
abbrev cX8_about : ByteArray := prog_1_method_5_code
def yX8_about : MethodName := ⟨RX8, "about", "(III)I"⟩
abbrev cX8_change : ByteArray := prog_1_method_6_code
def yX8_change : MethodName := ⟨RX8, "change", "(IIIII)I"⟩
abbrev cX8_lay : ByteArray := prog_1_method_7_code
def yX8_lay : MethodName := ⟨RX8, "lay", "(IIIII)I"⟩
abbrev cX8_letters : ByteArray := prog_1_method_8_code
def yX8_letters : MethodName := ⟨RX8, "letters", "(J)I"⟩
abbrev cX8_blank : ByteArray := prog_1_method_9_code
def yX8_blank : MethodName := ⟨RX8, "blank", "()I"⟩
abbrev cX8_fault : ByteArray := prog_1_method_10_code
def yX8_fault : MethodName := ⟨RX8, "fault", "(I)I"⟩
abbrev cX8_hand : ByteArray := prog_1_method_11_code
def yX8_hand : MethodName := ⟨RX8, "hand", "()I"⟩
abbrev cX8_law : ByteArray := prog_1_method_12_code
def yX8_law : MethodName := ⟨RX8, "law", "()I"⟩
abbrev cX8_at : ByteArray := prog_1_method_13_code
def yX8_at : MethodName := ⟨RX8, "at", "(III)I"⟩
abbrev cX8_years : ByteArray := prog_1_method_14_code
def yX8_years : MethodName := ⟨RX8, "years", "(II)I"⟩
abbrev cX8_lean : ByteArray := prog_1_method_15_code
def yX8_lean : MethodName := ⟨RX8, "lean", "(II)I"⟩
abbrev cX8_like : ByteArray := prog_1_method_16_code
def yX8_like : MethodName := ⟨RX8, "like", "(III)I"⟩
abbrev cX8_over : ByteArray := prog_1_method_17_code
def yX8_over : MethodName := ⟨RX8, "over", "(III)I"⟩
abbrev cX8_slide : ByteArray := prog_1_method_18_code
def yX8_slide : MethodName := ⟨RX8, "slide", "(III)I"⟩
abbrev cX8_chance : ByteArray := prog_1_method_19_code
def yX8_chance : MethodName := ⟨RX8, "chance", "(IIII)I"⟩
abbrev cX8_together : ByteArray := prog_1_method_20_code
def yX8_together : MethodName := ⟨RX8, "together", "(IIII)I"⟩
abbrev cX8_lies : ByteArray := prog_1_method_21_code
def yX8_lies : MethodName := ⟨RX8, "lies", "(IIII)I"⟩
abbrev cX8_sure : ByteArray := prog_1_method_22_code
def yX8_sure : MethodName := ⟨RX8, "sure", "(IIII)I"⟩
abbrev cX8_join : ByteArray := prog_1_method_23_code
def yX8_join : MethodName := ⟨RX8, "join", "(IIIII)I"⟩
abbrev cX8_keep : ByteArray := prog_1_method_24_code
def yX8_keep : MethodName := ⟨RX8, "keep", "(IZ)I"⟩
abbrev cX8_tie : ByteArray := prog_1_method_25_code
def yX8_tie : MethodName := ⟨RX8, "tie", "(III)I"⟩
abbrev cX8_untie : ByteArray := prog_1_method_26_code
def yX8_untie : MethodName := ⟨RX8, "untie", "(I)I"⟩
abbrev cX8_ashes : ByteArray := prog_1_method_27_code
def yX8_ashes : MethodName := ⟨RX8, "ashes", "(Z)I"⟩
abbrev cX8_closes : ByteArray := prog_1_method_28_code
def yX8_closes : MethodName := ⟨RX8, "closes", "()I"⟩
abbrev cX8_span : ByteArray := prog_1_method_29_code
def yX8_span : MethodName := ⟨RX8, "span", "(III)I"⟩
abbrev cX8_date : ByteArray := prog_1_method_30_code
def yX8_date : MethodName := ⟨RX8, "date", "(III)I"⟩
abbrev cX8_calendars : ByteArray := prog_1_method_31_code
def yX8_calendars : MethodName := ⟨RX8, "calendars", "(I)I"⟩
abbrev cX8_castOut : ByteArray := prog_1_method_32_code
def yX8_castOut : MethodName := ⟨RX8, "castOut", "()I"⟩
abbrev cX8_hangs : ByteArray := prog_1_method_33_code
def yX8_hangs : MethodName := ⟨RX8, "hangs", "(II)I"⟩
abbrev cX8_dig : ByteArray := prog_1_method_34_code
def yX8_dig : MethodName := ⟨RX8, "dig", "(I)I"⟩
abbrev cX8_pace : ByteArray := prog_1_method_35_code
def yX8_pace : MethodName := ⟨RX8, "pace", "(IIII)I"⟩
abbrev cX8_took : ByteArray := prog_1_method_36_code
def yX8_took : MethodName := ⟨RX8, "took", "(III)I"⟩
abbrev cX8_image : ByteArray := prog_1_method_37_code
def yX8_image : MethodName := ⟨RX8, "image", "()I"⟩
abbrev cX8_restore : ByteArray := prog_1_method_38_code
def yX8_restore : MethodName := ⟨RX8, "restore", "()I"⟩
abbrev cX8_count : ByteArray := prog_1_method_39_code
def yX8_count : MethodName := ⟨RX8, "count", "(I)I"⟩
abbrev cX8_digest : ByteArray := prog_1_method_40_code
def yX8_digest : MethodName := ⟨RX8, "digest", "()J"⟩
abbrev cX8_isWithin : ByteArray := prog_1_method_41_code
def yX8_isWithin : MethodName := ⟨RX8, "isWithin", "(III)Z"⟩
abbrev cX8_isRange : ByteArray := prog_1_method_42_code
def yX8_isRange : MethodName := ⟨RX8, "isRange", "(III)Z"⟩
abbrev cX8_isSlide : ByteArray := prog_1_method_43_code
def yX8_isSlide : MethodName := ⟨RX8, "isSlide", "(I)Z"⟩
abbrev cX8_isLeafAsTold : ByteArray := prog_1_method_44_code
def yX8_isLeafAsTold : MethodName := ⟨RX8, "isLeafAsTold", "(III)Z"⟩
abbrev cX8_isOfKind : ByteArray := prog_1_method_45_code
def yX8_isOfKind : MethodName := ⟨RX8, "isOfKind", "(II)Z"⟩
abbrev cX8_asNumber : ByteArray := prog_1_method_46_code
def yX8_asNumber : MethodName := ⟨RX8, "asNumber", "(Z)I"⟩
abbrev cX8_fold : ByteArray := prog_1_method_47_code
def yX8_fold : MethodName := ⟨RX8, "fold", "(JJ)J"⟩
abbrev cX8_seedAfter : ByteArray := prog_1_method_48_code
def yX8_seedAfter : MethodName := ⟨RX8, "seedAfter", "(J)J"⟩
abbrev cX8_drawn : ByteArray := prog_1_method_49_code
def yX8_drawn : MethodName := ⟨RX8, "drawn", "(JI)I"⟩
abbrev cX8_byteOf : ByteArray := prog_1_method_50_code
def yX8_byteOf : MethodName := ⟨RX8, "byteOf", "(JI)I"⟩
abbrev cX8_lettersIn : ByteArray := prog_1_method_51_code
def yX8_lettersIn : MethodName := ⟨RX8, "lettersIn", "(J)I"⟩
abbrev cX8_partInLowestTerms : ByteArray := prog_1_method_52_code
def yX8_partInLowestTerms : MethodName := ⟨RX8, "partInLowestTerms", "(III)I"⟩
abbrev cX8_aboutPit : ByteArray := prog_1_method_53_code
def yX8_aboutPit : MethodName := ⟨RX8, "aboutPit", "(II)I"⟩
abbrev cX8_aboutLeaf : ByteArray := prog_1_method_54_code
def yX8_aboutLeaf : MethodName := ⟨RX8, "aboutLeaf", "(III)I"⟩
abbrev cX8_spanTold : ByteArray := prog_1_method_55_code
def yX8_spanTold : MethodName := ⟨RX8, "spanTold", "(III)I"⟩
abbrev cX8_tookBy : ByteArray := prog_1_method_56_code
def yX8_tookBy : MethodName := ⟨RX8, "tookBy", "(III)I"⟩
abbrev cX8_foldPit : ByteArray := prog_1_method_57_code
def yX8_foldPit : MethodName := ⟨RX8, "foldPit", "(JI)J"⟩
abbrev cX8_foldLaw : ByteArray := prog_1_method_58_code
def yX8_foldLaw : MethodName := ⟨RX8, "foldLaw", "(JI)J"⟩
abbrev cX8_foldNet : ByteArray := prog_1_method_59_code
def yX8_foldNet : MethodName := ⟨RX8, "foldNet", "(J)J"⟩
def RX9 : String := "LeavesOfMudModel"
def TX9 : u_T := fun k => match k with
  | 0 => ("LeavesOfMudModel", "pits", "I", false)
  | 1 => ("LeavesOfMudModel", "miles", "[I", true)
  | 2 => ("LeavesOfMudModel", "leafMany", "[I", true)
  | 3 => ("LeavesOfMudModel", "kinds", "[I", true)
  | 4 => ("LeavesOfMudModel", "thick", "[I", true)
  | 5 => ("LeavesOfMudModel", "numbers", "[I", true)
  | 6 => ("LeavesOfMudModel", "seedNow", "I", false)
  | 7 => ("LeavesOfMudModel", "page", "[I", true)
  | 8 => ("LeavesOfMudModel", "pageMany", "I", false)
  | 9 => ("LeavesOfMudModel", "hands", "I", false)
  | 10 => ("LeavesOfMudModel", "handRows", "[I", true)
  | 11 => ("LeavesOfMudModel", "laws", "I", false)
  | 12 => ("LeavesOfMudModel", "lawRows", "[I", true)
  | 13 => ("LeavesOfMudModel", "readRow", "[I", true)
  | 14 => ("LeavesOfMudModel", "state", "I", false)
  | 15 => ("LeavesOfMudModel", "letter", "I", false)
  | 16 => ("LeavesOfMudModel", "items", "I", false)
  | 17 => ("LeavesOfMudModel", "least", "[I", true)
  | 18 => ("LeavesOfMudModel", "ways", "[I", true)
  | 19 => ("LeavesOfMudModel", "one", "I", false)
  | 20 => ("LeavesOfMudModel", "two", "I", false)
  | 21 => ("LeavesOfMudModel", "lost", "I", false)
  | 22 => ("LeavesOfMudModel", "doubled", "I", false)
  | 23 => ("LeavesOfMudModel", "unlike", "I", false)
  | 24 => ("LeavesOfMudModel", "ashen", "I", false)
  | 25 => ("LeavesOfMudModel", "barI", "I", false)
  | 26 => ("LeavesOfMudModel", "barJ", "I", false)
  | 27 => ("LeavesOfMudModel", "way", "[I", true)
  | 28 => ("LeavesOfMudModel", "wayMany", "I", false)
  | 29 => ("LeavesOfMudModel", "lying", "[I", true)
  | 30 => ("LeavesOfMudModel", "isPlain", "[Z", true)
  | 31 => ("LeavesOfMudModel", "sureDone", "I", false)
  | 32 => ("LeavesOfMudModel", "joins", "I", false)
  | 33 => ("LeavesOfMudModel", "joinA", "[I", true)
  | 34 => ("LeavesOfMudModel", "joinB", "[I", true)
  | 35 => ("LeavesOfMudModel", "lows", "[I", true)
  | 36 => ("LeavesOfMudModel", "highs", "[I", true)
  | 37 => ("LeavesOfMudModel", "doubts", "[I", true)
  | 38 => ("LeavesOfMudModel", "isKept", "[Z", true)
  | 39 => ("LeavesOfMudModel", "tied", "[Z", true)
  | 40 => ("LeavesOfMudModel", "tieLow", "[I", true)
  | 41 => ("LeavesOfMudModel", "tieHigh", "[I", true)
  | 42 => ("LeavesOfMudModel", "looks", "Z", false)
  | 43 => ("LeavesOfMudModel", "far", "[I", true)
  | 44 => ("LeavesOfMudModel", "belongs", "[I", true)
  | 45 => ("LeavesOfMudModel", "digsDone", "I", false)
  | 46 => ("LeavesOfMudModel", "keptPits", "I", false)
  | 47 => ("LeavesOfMudModel", "keptJoins", "I", false)
  | 48 => ("LeavesOfMudModel", "keptLooks", "Z", false)
  | 49 => ("LeavesOfMudModel", "keptMiles", "[I", true)
  | 50 => ("LeavesOfMudModel", "keptMany", "[I", true)
  | 51 => ("LeavesOfMudModel", "keptLeaves", "[I", true)
  | 52 => ("LeavesOfMudModel", "keptNet", "[I", true)
  | 53 => ("LeavesOfMudModel", "keptTies", "[I", true)
  | _ => ("LeavesOfMudModel", "hash", "J", false)
def tyX9 : Nat → FieldType := fun k => match k with
  | 0 => .int
  | 1 => .array .int
  | 2 => .array .int
  | 3 => .array .int
  | 4 => .array .int
  | 5 => .array .int
  | 6 => .int
  | 7 => .array .int
  | 8 => .int
  | 9 => .int
  | 10 => .array .int
  | 11 => .int
  | 12 => .array .int
  | 13 => .array .int
  | 14 => .int
  | 15 => .int
  | 16 => .int
  | 17 => .array .int
  | 18 => .array .int
  | 19 => .int
  | 20 => .int
  | 21 => .int
  | 22 => .int
  | 23 => .int
  | 24 => .int
  | 25 => .int
  | 26 => .int
  | 27 => .array .int
  | 28 => .int
  | 29 => .array .int
  | 30 => .array .boolean
  | 31 => .int
  | 32 => .int
  | 33 => .array .int
  | 34 => .array .int
  | 35 => .array .int
  | 36 => .array .int
  | 37 => .array .int
  | 38 => .array .boolean
  | 39 => .array .boolean
  | 40 => .array .int
  | 41 => .array .int
  | 42 => .boolean
  | 43 => .array .int
  | 44 => .array .int
  | 45 => .int
  | 46 => .int
  | 47 => .int
  | 48 => .boolean
  | 49 => .array .int
  | 50 => .array .int
  | 51 => .array .int
  | 52 => .array .int
  | 53 => .array .int
  | _ => .long
abbrev wsX90 : List Cond := u_ws RX9 TX9 55
theorem nmX9 : ∀ a, a < 55 → ∀ b, b < 55 → a ≠ b → (TX9 a).2.1 ≠ (TX9 b).2.1 := by decide +kernel
theorem tyX9_ok : ∀ k, k < 55 → parseFieldDescriptor (TX9 k).2.2.1 = some (tyX9 k) := by decide +kernel
abbrev cX9_init : ByteArray := prog_11_method_1_code
def yX9_init : MethodName := ⟨RX9, "<init>", "()V"⟩
abbrev cX9_in : ByteArray := prog_11_method_2_code
def yX9_in : MethodName := ⟨RX9, "in", "(JJJ)Z"⟩
abbrev cX9_size : ByteArray := prog_11_method_3_code
def yX9_size : MethodName := ⟨RX9, "size", "(I)I"⟩
abbrev cX9_isPit : ByteArray := prog_11_method_4_code
def yX9_isPit : MethodName := ⟨RX9, "isPit", "(I)Z"⟩
abbrev cX9_isLeaf : ByteArray := prog_11_method_5_code
def yX9_isLeaf : MethodName := ⟨RX9, "isLeaf", "(II)Z"⟩
abbrev cX9_pit : ByteArray := prog_11_method_6_code
def yX9_pit : MethodName := ⟨RX9, "pit", "(I)I"⟩
abbrev cX9_isLeafTold : ByteArray := prog_11_method_7_code
def yX9_isLeafTold : MethodName := ⟨RX9, "isLeafTold", "(III)Z"⟩
abbrev cX9_put : ByteArray := prog_11_method_8_code
def yX9_put : MethodName := ⟨RX9, "put", "(IIIII)V"⟩
abbrev cX9_leaf : ByteArray := prog_11_method_9_code
def yX9_leaf : MethodName := ⟨RX9, "leaf", "(IIII)I"⟩
abbrev cX9_as : ByteArray := prog_11_method_10_code
def yX9_as : MethodName := ⟨RX9, "as", "(III)I"⟩
abbrev cX9_compare : ByteArray := prog_11_method_11_code
def yX9_compare : MethodName := ⟨RX9, "compare", "(II)I"⟩
abbrev cX9_stepOf : ByteArray := prog_11_method_12_code
def yX9_stepOf : MethodName := ⟨RX9, "stepOf", "(II)I"⟩
abbrev cX9_about : ByteArray := prog_11_method_13_code
def yX9_about : MethodName := ⟨RX9, "about", "(III)I"⟩
abbrev cX9_change : ByteArray := prog_11_method_14_code
def yX9_change : MethodName := ⟨RX9, "change", "(IIIII)I"⟩
abbrev cX9_draw : ByteArray := prog_11_method_15_code
def yX9_draw : MethodName := ⟨RX9, "draw", "(I)I"⟩
abbrev cX9_layOne : ByteArray := prog_11_method_16_code
def yX9_layOne : MethodName := ⟨RX9, "layOne", "(III)V"⟩
abbrev cX9_lay : ByteArray := prog_11_method_17_code
def yX9_lay : MethodName := ⟨RX9, "lay", "(IIIII)I"⟩
abbrev cX9_letters : ByteArray := prog_11_method_18_code
def yX9_letters : MethodName := ⟨RX9, "letters", "(J)I"⟩
abbrev cX9_blank : ByteArray := prog_11_method_19_code
def yX9_blank : MethodName := ⟨RX9, "blank", "()I"⟩
abbrev cX9_handLetter : ByteArray := prog_11_method_20_code
def yX9_handLetter : MethodName := ⟨RX9, "handLetter", "(I)I"⟩
abbrev cX9_lawLetter : ByteArray := prog_11_method_21_code
def yX9_lawLetter : MethodName := ⟨RX9, "lawLetter", "(I)I"⟩
abbrev cX9_go : ByteArray := prog_11_method_22_code
def yX9_go : MethodName := ⟨RX9, "go", "(II)Z"⟩
abbrev cX9_faultOf : ByteArray := prog_11_method_23_code
def yX9_faultOf : MethodName := ⟨RX9, "faultOf", "(I)I"⟩
abbrev cX9_fault : ByteArray := prog_11_method_24_code
def yX9_fault : MethodName := ⟨RX9, "fault", "(I)I"⟩
abbrev cX9_hand : ByteArray := prog_11_method_25_code
def yX9_hand : MethodName := ⟨RX9, "hand", "()I"⟩
abbrev cX9_law : ByteArray := prog_11_method_26_code
def yX9_law : MethodName := ⟨RX9, "law", "()I"⟩
abbrev cX9_isHand : ByteArray := prog_11_method_27_code
def yX9_isHand : MethodName := ⟨RX9, "isHand", "(I)Z"⟩
abbrev cX9_halvesOf : ByteArray := prog_11_method_28_code
def yX9_halvesOf : MethodName := ⟨RX9, "halvesOf", "(III)I"⟩
abbrev cX9_halvesAhead : ByteArray := prog_11_method_29_code
def yX9_halvesAhead : MethodName := ⟨RX9, "halvesAhead", "(III)I"⟩
abbrev cX9_atOf : ByteArray := prog_11_method_30_code
def yX9_atOf : MethodName := ⟨RX9, "atOf", "(III)I"⟩
abbrev cX9_yearsOf : ByteArray := prog_11_method_31_code
def yX9_yearsOf : MethodName := ⟨RX9, "yearsOf", "(II)I"⟩
abbrev cX9_at : ByteArray := prog_11_method_32_code
def yX9_at : MethodName := ⟨RX9, "at", "(III)I"⟩
abbrev cX9_years : ByteArray := prog_11_method_33_code
def yX9_years : MethodName := ⟨RX9, "years", "(II)I"⟩
abbrev cX9_lean : ByteArray := prog_11_method_34_code
def yX9_lean : MethodName := ⟨RX9, "lean", "(II)I"⟩
abbrev cX9_isSlide : ByteArray := prog_11_method_35_code
def yX9_isSlide : MethodName := ⟨RX9, "isSlide", "(I)Z"⟩
abbrev cX9_overOf : ByteArray := prog_11_method_36_code
def yX9_overOf : MethodName := ⟨RX9, "overOf", "(III)I"⟩
abbrev cX9_turned : ByteArray := prog_11_method_37_code
def yX9_turned : MethodName := ⟨RX9, "turned", "(III)I"⟩
abbrev cX9_likeOf : ByteArray := prog_11_method_38_code
def yX9_likeOf : MethodName := ⟨RX9, "likeOf", "(IIII)I"⟩
abbrev cX9_like : ByteArray := prog_11_method_39_code
def yX9_like : MethodName := ⟨RX9, "like", "(III)I"⟩
abbrev cX9_over : ByteArray := prog_11_method_40_code
def yX9_over : MethodName := ⟨RX9, "over", "(III)I"⟩
abbrev cX9_slide : ByteArray := prog_11_method_41_code
def yX9_slide : MethodName := ⟨RX9, "slide", "(III)I"⟩
abbrev cX9_common : ByteArray := prog_11_method_42_code
def yX9_common : MethodName := ⟨RX9, "common", "(II)I"⟩
abbrev cX9_term : ByteArray := prog_11_method_43_code
def yX9_term : MethodName := ⟨RX9, "term", "(III)I"⟩
abbrev cX9_isPart : ByteArray := prog_11_method_44_code
def yX9_isPart : MethodName := ⟨RX9, "isPart", "(I)Z"⟩
abbrev cX9_chance : ByteArray := prog_11_method_45_code
def yX9_chance : MethodName := ⟨RX9, "chance", "(IIII)I"⟩
abbrev cX9_wideA : ByteArray := prog_11_method_46_code
def yX9_wideA : MethodName := ⟨RX9, "wideA", "(I)I"⟩
abbrev cX9_wideB : ByteArray := prog_11_method_47_code
def yX9_wideB : MethodName := ⟨RX9, "wideB", "(I)I"⟩
abbrev cX9_ash : ByteArray := prog_11_method_48_code
def yX9_ash : MethodName := ⟨RX9, "ash", "(I)I"⟩
abbrev cX9_price : ByteArray := prog_11_method_49_code
def yX9_price : MethodName := ⟨RX9, "price", "(III)I"⟩
abbrev cX9_behind : ByteArray := prog_11_method_50_code
def yX9_behind : MethodName := ⟨RX9, "behind", "(III)I"⟩
abbrev cX9_layTogether : ByteArray := prog_11_method_51_code
def yX9_layTogether : MethodName := ⟨RX9, "layTogether", "(IIIII)V"⟩
abbrev cX9_layWay : ByteArray := prog_11_method_52_code
def yX9_layWay : MethodName := ⟨RX9, "layWay", "()V"⟩
abbrev cX9_isLaw : ByteArray := prog_11_method_53_code
def yX9_isLaw : MethodName := ⟨RX9, "isLaw", "(I)Z"⟩
abbrev cX9_together : ByteArray := prog_11_method_54_code
def yX9_together : MethodName := ⟨RX9, "together", "(IIII)I"⟩
abbrev cX9_lies : ByteArray := prog_11_method_55_code
def yX9_lies : MethodName := ⟨RX9, "lies", "(IIII)I"⟩
abbrev cX9_sure : ByteArray := prog_11_method_56_code
def yX9_sure : MethodName := ⟨RX9, "sure", "(IIII)I"⟩
abbrev cX9_join : ByteArray := prog_11_method_57_code
def yX9_join : MethodName := ⟨RX9, "join", "(IIIII)I"⟩
abbrev cX9_keep : ByteArray := prog_11_method_58_code
def yX9_keep : MethodName := ⟨RX9, "keep", "(IZ)I"⟩
abbrev cX9_tie : ByteArray := prog_11_method_59_code
def yX9_tie : MethodName := ⟨RX9, "tie", "(III)I"⟩
abbrev cX9_untie : ByteArray := prog_11_method_60_code
def yX9_untie : MethodName := ⟨RX9, "untie", "(I)I"⟩
abbrev cX9_ashes : ByteArray := prog_11_method_61_code
def yX9_ashes : MethodName := ⟨RX9, "ashes", "(Z)I"⟩
abbrev cX9_ashAt : ByteArray := prog_11_method_62_code
def yX9_ashAt : MethodName := ⟨RX9, "ashAt", "(II)I"⟩
abbrev cX9_bound : ByteArray := prog_11_method_63_code
def yX9_bound : MethodName := ⟨RX9, "bound", "(IIII)V"⟩
abbrev cX9_close : ByteArray := prog_11_method_64_code
def yX9_close : MethodName := ⟨RX9, "close", "()Z"⟩
abbrev cX9_layNet : ByteArray := prog_11_method_65_code
def yX9_layNet : MethodName := ⟨RX9, "layNet", "(I)Z"⟩
abbrev cX9_keptSet : ByteArray := prog_11_method_66_code
def yX9_keptSet : MethodName := ⟨RX9, "keptSet", "()I"⟩
abbrev cX9_layKept : ByteArray := prog_11_method_67_code
def yX9_layKept : MethodName := ⟨RX9, "layKept", "()Z"⟩
abbrev cX9_closes : ByteArray := prog_11_method_68_code
def yX9_closes : MethodName := ⟨RX9, "closes", "()I"⟩
abbrev cX9_floats : ByteArray := prog_11_method_69_code
def yX9_floats : MethodName := ⟨RX9, "floats", "(II)Z"⟩
abbrev cX9_span : ByteArray := prog_11_method_70_code
def yX9_span : MethodName := ⟨RX9, "span", "(III)I"⟩
abbrev cX9_date : ByteArray := prog_11_method_71_code
def yX9_date : MethodName := ⟨RX9, "date", "(III)I"⟩
abbrev cX9_layCalendars : ByteArray := prog_11_method_72_code
def yX9_layCalendars : MethodName := ⟨RX9, "layCalendars", "()I"⟩
abbrev cX9_calendars : ByteArray := prog_11_method_73_code
def yX9_calendars : MethodName := ⟨RX9, "calendars", "(I)I"⟩
abbrev cX9_doubtOf : ByteArray := prog_11_method_74_code
def yX9_doubtOf : MethodName := ⟨RX9, "doubtOf", "(I)I"⟩
abbrev cX9_manyOf : ByteArray := prog_11_method_75_code
def yX9_manyOf : MethodName := ⟨RX9, "manyOf", "(I)I"⟩
abbrev cX9_castOut : ByteArray := prog_11_method_76_code
def yX9_castOut : MethodName := ⟨RX9, "castOut", "()I"⟩
abbrev cX9_hangs : ByteArray := prog_11_method_77_code
def yX9_hangs : MethodName := ⟨RX9, "hangs", "(II)I"⟩
abbrev cX9_allWidths : ByteArray := prog_11_method_78_code
def yX9_allWidths : MethodName := ⟨RX9, "allWidths", "()I"⟩
abbrev cX9_dig : ByteArray := prog_11_method_79_code
def yX9_dig : MethodName := ⟨RX9, "dig", "(I)I"⟩
abbrev cX9_pace : ByteArray := prog_11_method_80_code
def yX9_pace : MethodName := ⟨RX9, "pace", "(IIII)I"⟩
abbrev cX9_ashBeside : ByteArray := prog_11_method_81_code
def yX9_ashBeside : MethodName := ⟨RX9, "ashBeside", "(IIII)I"⟩
abbrev cX9_tookBy : ByteArray := prog_11_method_82_code
def yX9_tookBy : MethodName := ⟨RX9, "tookBy", "(III)I"⟩
abbrev cX9_took : ByteArray := prog_11_method_83_code
def yX9_took : MethodName := ⟨RX9, "took", "(III)I"⟩
abbrev cX9_image : ByteArray := prog_11_method_84_code
def yX9_image : MethodName := ⟨RX9, "image", "()I"⟩
abbrev cX9_restore : ByteArray := prog_11_method_85_code
def yX9_restore : MethodName := ⟨RX9, "restore", "()I"⟩
abbrev cX9_countOf : ByteArray := prog_11_method_86_code
def yX9_countOf : MethodName := ⟨RX9, "countOf", "(I)I"⟩
abbrev cX9_count : ByteArray := prog_11_method_87_code
def yX9_count : MethodName := ⟨RX9, "count", "(I)I"⟩
abbrev cX9_tell : ByteArray := prog_11_method_88_code
def yX9_tell : MethodName := ⟨RX9, "tell", "(J)V"⟩
abbrev cX9_tellPit : ByteArray := prog_11_method_89_code
def yX9_tellPit : MethodName := ⟨RX9, "tellPit", "(I)V"⟩
abbrev cX9_tellLaw : ByteArray := prog_11_method_90_code
def yX9_tellLaw : MethodName := ⟨RX9, "tellLaw", "(I)V"⟩
abbrev cX9_tellNet : ByteArray := prog_11_method_91_code
def yX9_tellNet : MethodName := ⟨RX9, "tellNet", "()V"⟩
abbrev cX9_digest : ByteArray := prog_11_method_92_code
def yX9_digest : MethodName := ⟨RX9, "digest", "()J"⟩
def RJ11 : String := "java/lang/Character"
def TJ11 : u_T := fun k => match k with
  | _ => ("", "", "", false)
def tyJ11 : Nat → FieldType := fun k => match k with
  | _ => .int
abbrev wsJ110 : List Cond := u_ws RJ11 TJ11 0
theorem nmJ11 : ∀ a, a < 0 → ∀ b, b < 0 → a ≠ b → (TJ11 a).2.1 ≠ (TJ11 b).2.1 := by decide +kernel
theorem tyJ11_ok : ∀ k, k < 0 → parseFieldDescriptor (TJ11 k).2.2.1 = some (tyJ11 k) := by decide +kernel
abbrev cJ11_isValidCodePoint_9a6ad : ByteArray := prog_12_method_11_code
def yJ11_isValidCodePoint_9a6ad : MethodName := ⟨RJ11, "isValidCodePoint", "(I)Z"⟩
abbrev cJ11_highSurrogate_5068e : ByteArray := prog_12_method_28_code
def yJ11_highSurrogate_5068e : MethodName := ⟨RJ11, "highSurrogate", "(I)C"⟩
abbrev cJ11_lowSurrogate_5068e : ByteArray := prog_12_method_29_code
def yJ11_lowSurrogate_5068e : MethodName := ⟨RJ11, "lowSurrogate", "(I)C"⟩
def RJ6 : String := "java/lang/Integer"
def TJ6 : u_T := fun k => match k with
  | _ => ("", "", "", false)
def tyJ6 : Nat → FieldType := fun k => match k with
  | _ => .int
abbrev wsJ60 : List Cond := u_ws RJ6 TJ6 0
theorem nmJ6 : ∀ a, a < 0 → ∀ b, b < 0 → a ≠ b → (TJ6 a).2.1 ≠ (TJ6 b).2.1 := by decide +kernel
theorem tyJ6_ok : ∀ k, k < 0 → parseFieldDescriptor (TJ6 k).2.2.1 = some (tyJ6 k) := by decide +kernel
abbrev cJ6_compare_7cf53 : ByteArray := prog_13_method_40_code
def yJ6_compare_7cf53 : MethodName := ⟨RJ6, "compare", "(II)I"⟩
abbrev cJ6_bitCount_0f7a4 : ByteArray := prog_13_method_49_code
def yJ6_bitCount_0f7a4 : MethodName := ⟨RJ6, "bitCount", "(I)I"⟩
def RJ9 : String := "java/lang/Math"
def TJ9 : u_T := fun k => match k with
  | _ => ("", "", "", false)
def tyJ9 : Nat → FieldType := fun k => match k with
  | _ => .int
abbrev wsJ90 : List Cond := u_ws RJ9 TJ9 0
theorem nmJ9 : ∀ a, a < 0 → ∀ b, b < 0 → a ≠ b → (TJ9 a).2.1 ≠ (TJ9 b).2.1 := by decide +kernel
theorem tyJ9_ok : ∀ k, k < 0 → parseFieldDescriptor (TJ9 k).2.2.1 = some (tyJ9 k) := by decide +kernel
abbrev cJ9_abs_0f7a4 : ByteArray := prog_14_method_59_code
def yJ9_abs_0f7a4 : MethodName := ⟨RJ9, "abs", "(I)I"⟩
abbrev cJ9_max_7cf53 : ByteArray := prog_14_method_65_code
def yJ9_max_7cf53 : MethodName := ⟨RJ9, "max", "(II)I"⟩
abbrev cJ9_min_7cf53 : ByteArray := prog_14_method_69_code
def yJ9_min_7cf53 : MethodName := ⟨RJ9, "min", "(II)I"⟩
def RJ0 : String := "java/lang/String"
def TJ0 : u_T := fun k => match k with
  | _ => ("", "", "", false)
def tyJ0 : Nat → FieldType := fun k => match k with
  | _ => .int
abbrev wsJ00 : List Cond := u_ws RJ0 TJ0 0
theorem nmJ0 : ∀ a, a < 0 → ∀ b, b < 0 → a ≠ b → (TJ0 a).2.1 ≠ (TJ0 b).2.1 := by decide +kernel
theorem tyJ0_ok : ∀ k, k < 0 → parseFieldDescriptor (TJ0 k).2.2.1 = some (tyJ0 k) := by decide +kernel
abbrev cJ0_length_8abf5 : ByteArray := prog_15_method_54_code
def yJ0_length_8abf5 : MethodName := ⟨RJ0, "length", "()I"⟩
abbrev cJ0_indexOf_0f7a4 : ByteArray := prog_15_method_79_code
def yJ0_indexOf_0f7a4 : MethodName := ⟨RJ0, "indexOf", "(I)I"⟩
abbrev cJ0_indexOf_7cf53 : ByteArray := prog_15_method_80_code
def yJ0_indexOf_7cf53 : MethodName := ⟨RJ0, "indexOf", "(II)I"⟩
abbrev cJ0_coder_7d493 : ByteArray := prog_15_method_152_code
def yJ0_coder_7d493 : MethodName := ⟨RJ0, "coder", "()B"⟩
abbrev cJ0_isLatin1_aae02 : ByteArray := prog_15_method_154_code
def yJ0_isLatin1_aae02 : MethodName := ⟨RJ0, "isLatin1", "()Z"⟩
abbrev cJ0_checkBoundsBeginEnd_23922 : ByteArray := prog_15_method_158_code
def yJ0_checkBoundsBeginEnd_23922 : MethodName := ⟨RJ0, "checkBoundsBeginEnd", "(III)V"⟩
def RJ1 : String := "java/lang/StringLatin1"
def TJ1 : u_T := fun k => match k with
  | _ => ("", "", "", false)
def tyJ1 : Nat → FieldType := fun k => match k with
  | _ => .int
abbrev wsJ10 : List Cond := u_ws RJ1 TJ1 0
theorem nmJ1 : ∀ a, a < 0 → ∀ b, b < 0 → a ≠ b → (TJ1 a).2.1 ≠ (TJ1 b).2.1 := by decide +kernel
theorem tyJ1_ok : ∀ k, k < 0 → parseFieldDescriptor (TJ1 k).2.2.1 = some (tyJ1 k) := by decide +kernel
abbrev cJ1_canEncode_9a6ad : ByteArray := prog_16_method_4_code
def yJ1_canEncode_9a6ad : MethodName := ⟨RJ1, "canEncode", "(I)Z"⟩
abbrev cJ1_indexOf_4cfef : ByteArray := prog_16_method_22_code
def yJ1_indexOf_4cfef : MethodName := ⟨RJ1, "indexOf", "([BIII)I"⟩
abbrev cJ1_indexOfChar_4cfef : ByteArray := prog_16_method_23_code
def yJ1_indexOfChar_4cfef : MethodName := ⟨RJ1, "indexOfChar", "([BIII)I"⟩
def RJ2 : String := "java/lang/StringUTF16"
def TJ2 : u_T := fun k => match k with
  | _ => ("", "", "", false)
def tyJ2 : Nat → FieldType := fun k => match k with
  | _ => .int
abbrev wsJ20 : List Cond := u_ws RJ2 TJ2 0
theorem nmJ2 : ∀ a, a < 0 → ∀ b, b < 0 → a ≠ b → (TJ2 a).2.1 ≠ (TJ2 b).2.1 := by decide +kernel
theorem tyJ2_ok : ∀ k, k < 0 → parseFieldDescriptor (TJ2 k).2.2.1 = some (tyJ2 k) := by decide +kernel
abbrev cJ2_getChar_3b067 : ByteArray := prog_17_method_5_code
def yJ2_getChar_3b067 : MethodName := ⟨RJ2, "getChar", "([BI)C"⟩
abbrev cJ2_length_9d52b : ByteArray := prog_17_method_6_code
def yJ2_length_9d52b : MethodName := ⟨RJ2, "length", "([B)I"⟩
abbrev cJ2_indexOf_4cfef : ByteArray := prog_17_method_40_code
def yJ2_indexOf_4cfef : MethodName := ⟨RJ2, "indexOf", "([BIII)I"⟩
abbrev cJ2_indexOfChar_4cfef : ByteArray := prog_17_method_47_code
def yJ2_indexOfChar_4cfef : MethodName := ⟨RJ2, "indexOfChar", "([BIII)I"⟩
abbrev cJ2_indexOfCharUnsafe_4cfef : ByteArray := prog_17_method_48_code
def yJ2_indexOfCharUnsafe_4cfef : MethodName := ⟨RJ2, "indexOfCharUnsafe", "([BIII)I"⟩
abbrev cJ2_indexOfSupplementary_4cfef : ByteArray := prog_17_method_49_code
def yJ2_indexOfSupplementary_4cfef : MethodName := ⟨RJ2, "indexOfSupplementary", "([BIII)I"⟩
abbrev cJ2_checkBoundsBeginEnd_d044e : ByteArray := prog_17_method_93_code
def yJ2_checkBoundsBeginEnd_d044e : MethodName := ⟨RJ2, "checkBoundsBeginEnd", "(II[B)V"⟩
def RJ10 : String := "java/lang/System"
def TJ10 : u_T := fun k => match k with
  | _ => ("", "", "", false)
def tyJ10 : Nat → FieldType := fun k => match k with
  | _ => .int
abbrev wsJ100 : List Cond := u_ws RJ10 TJ10 0
theorem nmJ10 : ∀ a, a < 0 → ∀ b, b < 0 → a ≠ b → (TJ10 a).2.1 ≠ (TJ10 b).2.1 := by decide +kernel
theorem tyJ10_ok : ∀ k, k < 0 → parseFieldDescriptor (TJ10 k).2.2.1 = some (tyJ10 k) := by decide +kernel
def RJ7 : String := "java/util/Arrays"
def TJ7 : u_T := fun k => match k with
  | _ => ("", "", "", false)
def tyJ7 : Nat → FieldType := fun k => match k with
  | _ => .int
abbrev wsJ70 : List Cond := u_ws RJ7 TJ7 0
theorem nmJ7 : ∀ a, a < 0 → ∀ b, b < 0 → a ≠ b → (TJ7 a).2.1 ≠ (TJ7 b).2.1 := by decide +kernel
theorem tyJ7_ok : ∀ k, k < 0 → parseFieldDescriptor (TJ7 k).2.2.1 = some (tyJ7 k) := by decide +kernel
abbrev cJ7_fill_53178 : ByteArray := prog_19_method_103_code
def yJ7_fill_53178 : MethodName := ⟨RJ7, "fill", "([II)V"⟩
def RJ3 : String := "jdk/internal/util/Preconditions"
def TJ3 : u_T := fun k => match k with
  | _ => ("", "", "", false)
def tyJ3 : Nat → FieldType := fun k => match k with
  | _ => .int
abbrev wsJ30 : List Cond := u_ws RJ3 TJ3 0
theorem nmJ3 : ∀ a, a < 0 → ∀ b, b < 0 → a ≠ b → (TJ3 a).2.1 ≠ (TJ3 b).2.1 := by decide +kernel
theorem tyJ3_ok : ∀ k, k < 0 → parseFieldDescriptor (TJ3 k).2.2.1 = some (tyJ3 k) := by decide +kernel
abbrev cJ3_checkFromToIndex_8c36e : ByteArray := prog_20_method_12_code
def yJ3_checkFromToIndex_8c36e : MethodName := ⟨RJ3, "checkFromToIndex", "(IIILjava/util/function/BiFunction;)I"⟩
def RL : String := "LeavesOfMudLaw"
abbrev cL_law : ByteArray := code
def yL_law : MethodName := ⟨RL, "law", "([I)Z"⟩
abbrev vwCl : List vw_C := [(RX0, TX0, 11), (RX1, TX1, 3), (RX2, TX2, 2), (RX3, TX3, 15), (RX4, TX4, 4), (RX5, TX5, 20), (RX6, TX6, 6), (RX7, TX7, 1), (RX8, TX8, 13), (RX9, TX9, 55)]
end
section
-- ===== the abstract machine: values, stores, shapes by parameters, one-step predicate, blocks =====
abbrev AV : Type := Int ⊕ Int ⊕ Nat ⊕ Unit
abbrev vI (n : Int) : AV := .inl n
abbrev vL (n : Int) : AV := .inr (.inl n)
abbrev vR (q : Nat) : AV := .inr (.inr (.inl q))
abbrev vX : AV := .inr (.inr (.inr ()))
abbrev Sto : Type := Nat → Int → Int
abbrev Ctr : Type := List AV → Sto → (List AV → Sto → Prop) → Prop
def i32 (n : Int) : Prop := -2147483648 ≤ n ∧ n ≤ 2147483647
def i64 (n : Int) : Prop := -9223372036854775808 ≤ n ∧ n ≤ 9223372036854775807
def w64 (n : Int) : Int := (Int64.ofInt n).toInt
def w32 (n : Int) : Int := (Int32.ofInt n).toInt
def su (σ : Sto) (q : Nat) (i v : Int) : Sto := fun q' => if q' = q then (fun j => if j = i then v else σ q j) else σ q'
def bAnd (a b : Int) : Int := (Int32.ofInt a &&& Int32.ofInt b).toInt
def bOr (a b : Int) : Int := (Int32.ofInt a ||| Int32.ofInt b).toInt
def bXor (a b : Int) : Int := (Int32.ofInt a ^^^ Int32.ofInt b).toInt
def bShl (a b : Int) : Int := (Int32.ofInt a <<< (Int32.ofInt b &&& 31)).toInt
def bShr (a b : Int) : Int := (Int32.ofInt a >>> (Int32.ofInt b &&& 31)).toInt
def bUshr (a b : Int) : Int := ((Int32.ofInt a).toUInt32 >>> ((Int32.ofInt b).toUInt32 &&& Int32.toUInt32 31)).toInt32.toInt
def bChr (a : Int) : Int := ((Int32.ofInt a).toUInt32 % 65536).toInt32.toInt
def bI8 (a : Int) : Int := (Int32.ofInt a).toInt8.toInt32.toInt
def lAnd (a b : Int) : Int := (Int64.ofInt a &&& Int64.ofInt b).toInt
def lOr (a b : Int) : Int := (Int64.ofInt a ||| Int64.ofInt b).toInt
def lShl (a b : Int) : Int := (Int64.ofInt a <<< ((Int32.ofInt b).toInt64 &&& 63)).toInt
def lUshr (a b : Int) : Int := ((Int64.ofInt a).toUInt64 >>> ((Int32.ofInt b).toInt64.toUInt64 &&& Int64.toUInt64 63)).toInt64.toInt
def lCmp (a b : Int) : Int := if b < a then 1 else if a = b then 0 else -1
def nth : List AV → Nat → AV
  | [], _ => vX
  | a :: _, 0 => a
  | _ :: t, n + 1 => nth t n
def setL : List AV → Nat → AV → List AV
  | [], _, v => [v]
  | _ :: t, 0, v => v :: t
  | a :: t, n + 1, v => a :: setL t n v
/-- a place may be stored to: it lies within, or is the next, and no long stands just ahead of it -/
def canSet : List AV → Nat → Bool
  | [], n => n == 0
  | _ :: _, 0 => true
  | .inr (.inl _) :: _, 1 => false
  | _ :: t, n + 1 => canSet t n
def cat1 : AV → Nat
  | .inr (.inl _) => 2
  | .inr (.inr (.inr ())) => 9
  | _ => 1
def catS : List AV → Nat
  | [] => 0
  | a :: t => cat1 a + catS t
def entL : List AV → List AV
  | [] => []
  | .inr (.inl n) :: t => vL n :: vX :: entL t
  | a :: t => a :: entL t
def lkp {α : Type} (d : α) : List (Nat × α) → Nat → α
  | [], _ => d
  | (a, b) :: t, n => if a = n then b else lkp d t n
def tbl {α : Type} (d : α) : List α → Nat → α
  | [], _ => d
  | a :: _, 0 => a
  | _ :: t, n + 1 => tbl d t n
/-- a label's own locals: so many of those there are -/
def tk (lv : List (Nat × Nat)) (t : Nat) (L : List AV) : List AV := L.take (lkp 999 lv t)
/-- the conjunction of a table's branches -/
def swK (lv : List (Nat × Nat)) (K : Nat → List AV → List AV → Sto → Prop) (S L : List AV) (σ : Sto) (x : Int) : Int → List Int → Prop
  | _, [] => True
  | lo, o :: t => (x = lo → K o.toNat S (tk lv o.toNat L) σ) ∧ swK lv K S L σ x (lo + 1) t
def look {α : Type} : List (Nat × α) → Nat → Option α
  | [], _ => none
  | (a, b) :: t, n => if a = n then some b else look t n
theorem look_mem {α : Type} {t : List (Nat × α)} {n : Nat} {v : α} (h : look t n = some v) : (n, v) ∈ t := by
  induction t with
  | nil => cases h
  | cons a t ih =>
    obtain ⟨a, b⟩ := a
    unfold look at h
    by_cases e : a = n
    · rw [if_pos e] at h
      cases h
      subst e
      exact List.mem_cons_self
    · rw [if_neg e] at h
      exact List.mem_cons_of_mem _ (ih h)
end
section
-- ===== the shapes of the places (printed by wip/tools/mk03b.py) =====
--   0 X
--   1 pits
--   2 bonds
--   3 ipits
--   4 ibonds
--   5 page
--   6 hands
--   7 laws
--   8 slides
--   9 pairing
--  10 net
--  11 pits.miles
--  12 pits.sizes
--  13 pits.kinds
--  14 pits.thicknesses
--  15 pits.numbers
--  16 bonds.firsts
--  17 bonds.seconds
--  18 bonds.lows
--  19 bonds.highs
--  20 bonds.doubts
--  21 bonds.tieLows
--  22 bonds.tieHighs
--  23 ipits.miles
--  24 ipits.sizes
--  25 ipits.kinds
--  26 ipits.thicknesses
--  27 ipits.numbers
--  28 ibonds.firsts
--  29 ibonds.seconds
--  30 ibonds.lows
--  31 ibonds.highs
--  32 ibonds.doubts
--  33 ibonds.tieLows
--  34 ibonds.tieHighs
--  35 page.letters
--  36 page.told
--  37 hands.told
--  38 laws.prices
--  39 pairing.firstThickness
--  40 pairing.secondThickness
--  41 pairing.firstAshes
--  42 pairing.secondAshes
--  43 pairing.least
--  44 pairing.ways
--  45 pairing.way
--  46 pairing.liesOn
--  47 pairing.liesBy
--  48 net.whole
--  49 net.fixed
--  50 net.without
--  51 net.levels
--  52 net.levels0
--  53 net.levels1
--  54 net.levels2
--  55 net.levels3
--  56 net.levels4
--  57 net.levels5
--  58 net.levels6
--  59 net.levels7
--  60 net.levels8
--  61 net.levels9
--  62 net.levels10
--  63 net.levels11
--  64 net.levels12
--  65 net.ashYears
--  66 net.labels
--  67 M
--  68 M.miles
--  69 M.leafMany
--  70 M.kinds
--  71 M.thick
--  72 M.numbers
--  73 M.page
--  74 M.handRows
--  75 M.lawRows
--  76 M.readRow
--  77 M.least
--  78 M.ways
--  79 M.way
--  80 M.lying
--  81 M.isPlain
--  82 M.joinA
--  83 M.joinB
--  84 M.lows
--  85 M.highs
--  86 M.doubts
--  87 M.isKept
--  88 M.tied
--  89 M.tieLow
--  90 M.tieHigh
--  91 M.far
--  92 M.belongs
--  93 M.keptMiles
--  94 M.keptMany
--  95 M.keptLeaves
--  96 M.keptNet
--  97 M.keptTies
--  98 hplain
--  99 lplain
-- 100 offirst
-- 101 ofsecond
-- 102 script
-- 103 str0
-- 104 str1
-- 105 byt0
-- 106 byt1
def NP : Nat := 98
def shp : Nat → Nat × Nat
  | 0 => (3, 8)
  | 1 => (3, 6)
  | 2 => (3, 0)
  | 3 => (3, 6)
  | 4 => (3, 0)
  | 5 => (3, 4)
  | 6 => (3, 1)
  | 7 => (3, 2)
  | 8 => (3, 7)
  | 9 => (3, 5)
  | 10 => (3, 3)
  | 11 => (0, 7)
  | 12 => (0, 7)
  | 13 => (0, 112)
  | 14 => (0, 112)
  | 15 => (0, 112)
  | 16 => (0, 12)
  | 17 => (0, 12)
  | 18 => (0, 12)
  | 19 => (0, 12)
  | 20 => (0, 12)
  | 21 => (0, 7)
  | 22 => (0, 7)
  | 23 => (0, 7)
  | 24 => (0, 7)
  | 25 => (0, 112)
  | 26 => (0, 112)
  | 27 => (0, 112)
  | 28 => (0, 12)
  | 29 => (0, 12)
  | 30 => (0, 12)
  | 31 => (0, 12)
  | 32 => (0, 12)
  | 33 => (0, 7)
  | 34 => (0, 7)
  | 35 => (0, 30)
  | 36 => (0, 7)
  | 37 => (0, 35)
  | 38 => (0, 16)
  | 39 => (0, 16)
  | 40 => (0, 16)
  | 41 => (0, 16)
  | 42 => (0, 16)
  | 43 => (0, 289)
  | 44 => (0, 289)
  | 45 => (0, 32)
  | 46 => (0, 16)
  | 47 => (0, 16)
  | 48 => (0, 64)
  | 49 => (0, 64)
  | 50 => (0, 64)
  | 51 => (2, 13)
  | 52 => (0, 64)
  | 53 => (0, 64)
  | 54 => (0, 64)
  | 55 => (0, 64)
  | 56 => (0, 64)
  | 57 => (0, 64)
  | 58 => (0, 64)
  | 59 => (0, 64)
  | 60 => (0, 64)
  | 61 => (0, 64)
  | 62 => (0, 64)
  | 63 => (0, 64)
  | 64 => (0, 64)
  | 65 => (0, 70)
  | 66 => (0, 8)
  | 67 => (3, 9)
  | 68 => (0, 7)
  | 69 => (0, 7)
  | 70 => (0, 112)
  | 71 => (0, 112)
  | 72 => (0, 112)
  | 73 => (0, 30)
  | 74 => (0, 28)
  | 75 => (0, 16)
  | 76 => (0, 7)
  | 77 => (0, 289)
  | 78 => (0, 289)
  | 79 => (0, 32)
  | 80 => (0, 16)
  | 81 => (1, 16)
  | 82 => (0, 12)
  | 83 => (0, 12)
  | 84 => (0, 12)
  | 85 => (0, 12)
  | 86 => (0, 12)
  | 87 => (1, 12)
  | 88 => (1, 7)
  | 89 => (0, 7)
  | 90 => (0, 7)
  | 91 => (0, 64)
  | 92 => (0, 7)
  | 93 => (0, 7)
  | 94 => (0, 7)
  | 95 => (0, 336)
  | 96 => (0, 72)
  | 97 => (0, 21)
  | 98 => (4, 7)
  | 99 => (4, 4)
  | 100 => (4, 5)
  | 101 => (4, 5)
  | 102 => (5, 0)
  | 103 => (3, 20)
  | 104 => (3, 20)
  | 105 => (7, 7)
  | 106 => (7, 4)
  | _ => (9, 0)
/-- what the fields of a class are: 0 int, 1 long, 2 a reference, 3 boolean -/
def ftg : Nat → Nat → Nat
  | 0, 1 => 2
  | 0, 2 => 2
  | 0, 3 => 2
  | 0, 4 => 2
  | 0, 5 => 2
  | 0, 8 => 2
  | 0, 9 => 2
  | 0, 10 => 3
  | 1, 0 => 2
  | 1, 2 => 2
  | 2, 1 => 2
  | 3, 0 => 2
  | 3, 1 => 2
  | 3, 2 => 2
  | 3, 3 => 2
  | 3, 4 => 2
  | 3, 5 => 2
  | 3, 6 => 2
  | 3, 7 => 2
  | 3, 8 => 2
  | 4, 1 => 2
  | 4, 2 => 3
  | 4, 3 => 2
  | 5, 0 => 2
  | 5, 1 => 2
  | 5, 2 => 2
  | 5, 3 => 2
  | 5, 4 => 2
  | 5, 5 => 2
  | 5, 14 => 2
  | 5, 15 => 2
  | 5, 16 => 2
  | 5, 18 => 2
  | 5, 19 => 2
  | 6, 1 => 2
  | 6, 2 => 2
  | 6, 3 => 2
  | 6, 4 => 2
  | 6, 5 => 2
  | 7, 0 => 2
  | 8, 0 => 2
  | 8, 1 => 2
  | 8, 2 => 2
  | 8, 3 => 2
  | 8, 4 => 3
  | 8, 5 => 2
  | 8, 6 => 2
  | 8, 7 => 2
  | 8, 8 => 2
  | 8, 9 => 2
  | 8, 10 => 2
  | 9, 1 => 2
  | 9, 2 => 2
  | 9, 3 => 2
  | 9, 4 => 2
  | 9, 5 => 2
  | 9, 7 => 2
  | 9, 10 => 2
  | 9, 12 => 2
  | 9, 13 => 2
  | 9, 17 => 2
  | 9, 18 => 2
  | 9, 27 => 2
  | 9, 29 => 2
  | 9, 30 => 2
  | 9, 33 => 2
  | 9, 34 => 2
  | 9, 35 => 2
  | 9, 36 => 2
  | 9, 37 => 2
  | 9, 38 => 2
  | 9, 39 => 2
  | 9, 40 => 2
  | 9, 41 => 2
  | 9, 42 => 3
  | 9, 43 => 2
  | 9, 44 => 2
  | 9, 48 => 3
  | 9, 49 => 2
  | 9, 50 => 2
  | 9, 51 => 2
  | 9, 52 => 2
  | 9, 53 => 2
  | 9, 54 => 1
  | 20, 0 => 2
  | 20, 1 => 5
  | _, _ => 0
def nfl : Nat → Nat
  | 0 => 11
  | 1 => 3
  | 2 => 2
  | 3 => 15
  | 4 => 4
  | 5 => 20
  | 6 => 6
  | 7 => 1
  | 8 => 13
  | 9 => 55
  | _ => 0
/-- where the references lead: object and slot, or the grid of levels and row -/
def rfs : Nat → Nat → Nat
  | 0, 0 => 1
  | 0, 1 => 2
  | 0, 2 => 3
  | 0, 3 => 4
  | 0, 5 => 5
  | 0, 6 => 6
  | 0, 7 => 7
  | 0, 8 => 8
  | 0, 9 => 9
  | 0, 10 => 10
  | 1, 1 => 11
  | 1, 2 => 12
  | 1, 3 => 13
  | 1, 4 => 14
  | 1, 5 => 15
  | 2, 1 => 16
  | 2, 2 => 17
  | 2, 3 => 18
  | 2, 4 => 19
  | 2, 5 => 20
  | 2, 8 => 21
  | 2, 9 => 22
  | 3, 1 => 23
  | 3, 2 => 24
  | 3, 3 => 25
  | 3, 4 => 26
  | 3, 5 => 27
  | 4, 1 => 28
  | 4, 2 => 29
  | 4, 3 => 30
  | 4, 4 => 31
  | 4, 5 => 32
  | 4, 8 => 33
  | 4, 9 => 34
  | 5, 1 => 35
  | 5, 3 => 36
  | 6, 0 => 1
  | 6, 2 => 37
  | 7, 1 => 38
  | 8, 0 => 1
  | 9, 0 => 1
  | 9, 1 => 7
  | 9, 2 => 39
  | 9, 3 => 40
  | 9, 4 => 41
  | 9, 5 => 42
  | 9, 14 => 43
  | 9, 15 => 44
  | 9, 16 => 45
  | 9, 18 => 46
  | 9, 19 => 47
  | 10, 0 => 1
  | 10, 1 => 6
  | 10, 2 => 2
  | 10, 3 => 48
  | 10, 4 => 49
  | 10, 5 => 50
  | 10, 6 => 51
  | 10, 7 => 65
  | 10, 8 => 66
  | 67, 1 => 68
  | 67, 2 => 69
  | 67, 3 => 70
  | 67, 4 => 71
  | 67, 5 => 72
  | 67, 7 => 73
  | 67, 10 => 74
  | 67, 12 => 75
  | 67, 13 => 76
  | 67, 17 => 77
  | 67, 18 => 78
  | 67, 27 => 79
  | 67, 29 => 80
  | 67, 30 => 81
  | 67, 33 => 82
  | 67, 34 => 83
  | 67, 35 => 84
  | 67, 36 => 85
  | 67, 37 => 86
  | 67, 38 => 87
  | 67, 39 => 88
  | 67, 40 => 89
  | 67, 41 => 90
  | 67, 43 => 91
  | 67, 44 => 92
  | 67, 49 => 93
  | 67, 50 => 94
  | 67, 51 => 95
  | 67, 52 => 96
  | 67, 53 => 97
  | 103, 0 => 105
  | 104, 0 => 106
  | 51, j => 52 + j
  | _, _ => 0
def stc : Nat → List Int
  | 98 => [2, 2, 2, 1, 0, 2, 0]
  | 99 => [9, 3, 1, 40]
  | 100 => [1, 1, 0, 1, 2]
  | 101 => [1, 0, 1, 2, 1]
  | 105 => [108, 119, 110, 104, 102, 97, 115]
  | 106 => [108, 100, 117, 97]
  | _ => []
end
section
-- ===== the world of the places, what a block asks (wp), and that the machine does it =====
abbrev OM : Type := Launch × va_G × (Nat → Nat) × (Nat → ClassId) × Nat × (Nat → Int32)
abbrev oL (o : OM) : Launch := o.1
abbrev oD (o : OM) : va_G := o.2.1
abbrev oA (o : OM) : Nat → Nat := o.2.2.1
abbrev oC (o : OM) : Nat → ClassId := o.2.2.2.1
abbrev oN (o : OM) : Nat := o.2.2.2.2.1
abbrev oX (o : OM) : Nat → Int32 := o.2.2.2.2.2
def cv (o : OM) : AV → Value
  | .inl n => .int (Int32.ofInt n)
  | .inr (.inl n) => .long (Int64.ofInt n)
  | .inr (.inr (.inl q)) => .ref (oA o q)
  | .inr (.inr (.inr ())) => .null
def cvL (o : OM) : Nat → List AV → List (Nat × Value)
  | _, [] => []
  | i, .inr (.inr (.inr ())) :: t => cvL o (i + 1) t
  | i, a :: t => (i, cv o a) :: cvL o (i + 1) t
def okv : AV → Prop
  | .inl n => i32 n
  | .inr (.inl n) => i64 n
  | _ => True
def okL (L : List AV) : Prop := ∀ v ∈ L, okv v
def lng (q : Nat) (j : Int) : Prop := (shp q).1 = 3 ∧ ftg (shp q).2 j.toNat = 1
def okS (σ : Sto) : Prop := ∀ q j, (lng q j → i64 (σ q j)) ∧ (¬ lng q j → i32 (σ q j))
def fld (o : OM) (σ : Sto) (k j : Nat) : Value := match ftg (shp k).2 j with
  | 1 => .long (Int64.ofInt (σ k j))
  | 2 => .ref (oA o (rfs k j))
  | _ => .int (Int32.ofInt (σ k j))
def cel (o : OM) (σ : Sto) (k : Nat) : va_E := match (shp k).1 with
  | 0 => .inl (oC o 0, (shp k).2, .inl (fun j => Int32.ofInt (σ k j)))
  | 1 => .inl (oC o 1, (shp k).2, .inl (fun j => Int32.ofInt (σ k j)))
  | 2 => .inl (oC o 2, (shp k).2, .inr (.inr (.inr (.inr (fun j => some (oA o (rfs k j)))))))
  | _ => .inr ((shp k).2, (List.range (nfl (shp k).2)).map (fld o σ k))
def wsO (o : OM) (σ : Sto) : va_W := (List.range NP).map (fun k => (oA o k, cel o σ k))
def aA (o : OM) : Nat → Prop := fun q => ∃ k, k < NP ∧ q = oA o k
def tyO (o : OM) : List (ClassId × FieldType) := [(oC o 0, .int), (oC o 1, .boolean), (oC o 2, .array .int)]
def inj (o : OM) : Prop := ∀ i j, i < NP → j < NP → oA o i = oA o j → i = j
theorem wsO_get (o : OM) (σ : Sto) {k : Nat} (h : k < NP) : (wsO o σ)[k]? = some (oA o k, cel o σ k) := by
  unfold wsO
  rw [List.getElem?_map, List.getElem?_range h]
  rfl
theorem wsO_inv {o : OM} {σ : Sto} {k : Nat} {q : Nat × va_E} (h : (wsO o σ)[k]? = some q) : k < NP ∧ q = (oA o k, cel o σ k) := by
  unfold wsO at h
  rw [List.getElem?_map] at h
  by_cases hk : k < NP
  · rw [List.getElem?_range hk] at h
    cases h
    exact ⟨hk, rfl⟩
  · rw [List.getElem?_eq_none (by rw [List.length_range]; omega)] at h
    cases h
theorem wsO_D (o : OM) (σ : Sto) (hi : inj o) : va_D (aA o) (wsO o σ) := by
  refine ⟨fun i j p q h1 h2 he => ?_, fun k q h => ?_⟩
  · obtain ⟨a1, rfl⟩ := wsO_inv h1
    obtain ⟨a2, rfl⟩ := wsO_inv h2
    exact hi i j a1 a2 he
  · obtain ⟨a1, rfl⟩ := wsO_inv h
    exact ⟨k, a1, rfl⟩
theorem wsO_set (o : OM) (σ σ' : Sto) {q : Nat} (hq : q < NP) (hne : ∀ k, k ≠ q → σ' k = σ k) : (wsO o σ).set q (oA o q, cel o σ' q) = wsO o σ' := by
  apply List.ext_getElem?
  intro k
  by_cases hk : k = q
  · subst hk
    rw [List.getElem?_set_self (by simp [wsO, hq]), wsO_get o σ' hq]
  · rw [List.getElem?_set_ne (Ne.symm hk)]
    by_cases hN : k < NP
    · rw [wsO_get o σ hN, wsO_get o σ' hN]
      have : cel o σ k = cel o σ' k := by
        have := hne k hk
        unfold cel fld
        rw [this]
      rw [this]
    · rw [List.getElem?_eq_none (by simp [wsO]; omega), List.getElem?_eq_none (by simp [wsO]; omega)]
def HX (o : OM) (σ : Sto) (H : Heap) : Prop := va_P (oD o) vwCl (wsO o σ) H ∧ okS σ
theorem su_ne {σ : Sto} {q : Nat} {i v : Int} : ∀ k, k ≠ q → su σ q i v k = σ k := fun k hk => by unfold su; rw [if_neg hk]
theorem su_eq {σ : Sto} {q : Nat} {i v : Int} : su σ q i v q = fun j => if j = i then v else σ q j := by unfold su; rw [if_pos rfl]
theorem okS_su {σ : Sto} {q : Nat} {i v : Int} (h : okS σ) (hv : (lng q i → i64 v) ∧ (¬ lng q i → i32 v)) : okS (su σ q i v) := by
  intro k j
  by_cases hk : k = q
  · subst hk
    rw [su_eq]
    by_cases hj : j = i
    · subst hj
      simp only [if_pos]
      exact hv
    · simp only [if_neg hj]
      exact h k j
  · rw [su_ne k hk]
    exact h k j
/-- numbers of the machine and of the integers -/
theorem i32_to {a : Int} (h : i32 a) : (Int32.ofInt a).toInt = a := by
  rw [Int32.toInt_ofInt]
  exact Int.bmod_eq_of_le (by have := h.1; simp [Int32.size]; omega) (by have := h.2; simp [Int32.size]; omega)
theorem i64_to {a : Int} (h : i64 a) : (Int64.ofInt a).toInt = a := by
  rw [Int64.toInt_ofInt]
  exact Int.bmod_eq_of_le (by have := h.1; simp [Int64.size]; omega) (by have := h.2; simp [Int64.size]; omega)
theorem i32_in (x : Int32) : i32 x.toInt := by
  have h1 := x.le_toInt
  have h2 := x.toInt_lt
  constructor <;> omega
theorem i64_in (x : Int64) : i64 x.toInt := by
  have h1 := x.le_toInt
  have h2 := x.toInt_lt
  constructor <;> omega
theorem i32_lt {a b : Int} (ha : i32 a) (hb : i32 b) : Int32.ofInt a < Int32.ofInt b ↔ a < b := by rw [Int32.lt_iff_toInt_lt, i32_to ha, i32_to hb]
theorem i32_le {a b : Int} (ha : i32 a) (hb : i32 b) : Int32.ofInt a ≤ Int32.ofInt b ↔ a ≤ b := by rw [Int32.le_iff_toInt_le, i32_to ha, i32_to hb]
theorem i32_eq {a b : Int} (ha : i32 a) (hb : i32 b) : Int32.ofInt a = Int32.ofInt b ↔ a = b := by rw [← Int32.toInt_inj, i32_to ha, i32_to hb]
theorem i64_lt {a b : Int} (ha : i64 a) (hb : i64 b) : Int64.ofInt a < Int64.ofInt b ↔ a < b := by rw [Int64.lt_iff_toInt_lt, i64_to ha, i64_to hb]
theorem i64_eq {a b : Int} (ha : i64 a) (hb : i64 b) : Int64.ofInt a = Int64.ofInt b ↔ a = b := by rw [← Int64.toInt_inj, i64_to ha, i64_to hb]
theorem i32_0 : i32 0 := ⟨by decide, by decide⟩
theorem of32 (x : Int32) : Int32.ofInt x.toInt = x := Int32.ofInt_toInt x
theorem of64 (x : Int64) : Int64.ofInt x.toInt = x := Int64.ofInt_toInt x
theorem tdiv_in {a b : Int} (ha : i32 a) (hb : 0 < b) : i32 (a.tdiv b) := by
  have h1 : (a.tdiv b).natAbs ≤ a.natAbs := by rw [Int.natAbs_tdiv]; exact Nat.div_le_self _ _
  have h2 := ha.1
  have h3 := ha.2
  by_cases h0 : 0 ≤ a
  · have : 0 ≤ a.tdiv b := Int.tdiv_nonneg h0 (by omega)
    constructor <;> omega
  · have : a.tdiv b ≤ 0 := by
      have := Int.tdiv_nonneg (a := -a) (b := b) (by omega) (by omega)
      rw [Int.neg_tdiv] at this
      omega
    constructor <;> omega
theorem i32_div {a b : Int} (ha : i32 a) (hb : i32 b) (h0 : 0 < b) : Int32.ofInt a / Int32.ofInt b = Int32.ofInt (a.tdiv b) := by
  rw [← Int32.toInt_inj, Int32.toInt_div, i32_to ha, i32_to hb, Int32.toInt_ofInt]
theorem i32_rem {a b : Int} (ha : i32 a) (hb : i32 b) (h0 : 0 < b) : Int32.ofInt a - Int32.ofInt a / Int32.ofInt b * Int32.ofInt b = Int32.ofInt (a.tmod b) := by
  rw [i32_div ha hb h0, ← Int32.ofInt_mul, ← Int32.ofInt_sub, Int.tmod_def, Int.mul_comm]
theorem i64_div {a b : Int} (ha : i64 a) (hb : i64 b) (h0 : 0 < b) : Int64.ofInt a / Int64.ofInt b = Int64.ofInt (a.tdiv b) := by
  rw [← Int64.toInt_inj, Int64.toInt_div, i64_to ha, i64_to hb, Int64.toInt_ofInt]
theorem i64_rem {a b : Int} (ha : i64 a) (hb : i64 b) (h0 : 0 < b) : Int64.ofInt a - Int64.ofInt a / Int64.ofInt b * Int64.ofInt b = Int64.ofInt (a.tmod b) := by
  rw [i64_div ha hb h0, ← Int64.ofInt_mul, ← Int64.ofInt_sub, Int.tmod_def, Int.mul_comm]
theorem tmod_in {a b : Int} (ha : i32 a) (hb : 0 < b) : i32 (a.tmod b) := by
  have h1 : (a.tmod b).natAbs ≤ a.natAbs := by rw [Int.natAbs_tmod]; exact Nat.mod_le _ _
  have h2 := ha.1
  have h3 := ha.2
  by_cases h0 : 0 ≤ a
  · have : 0 ≤ a.tmod b := Int.tmod_nonneg b h0
    constructor <;> omega
  · have : a.tmod b ≤ 0 := by
      have := Int.tmod_nonneg (a := -a) b (by omega)
      rw [Int.neg_tmod] at this
      omega
    constructor <;> omega
theorem tdiv_in64 {a b : Int} (ha : i64 a) (hb : 0 < b) : i64 (a.tdiv b) := by
  have h1 : (a.tdiv b).natAbs ≤ a.natAbs := by rw [Int.natAbs_tdiv]; exact Nat.div_le_self _ _
  have h2 := ha.1
  have h3 := ha.2
  by_cases h0 : 0 ≤ a
  · have : 0 ≤ a.tdiv b := Int.tdiv_nonneg h0 (by omega)
    constructor <;> omega
  · have : a.tdiv b ≤ 0 := by
      have := Int.tdiv_nonneg (a := -a) (b := b) (by omega) (by omega)
      rw [Int.neg_tdiv] at this
      omega
    constructor <;> omega
theorem tmod_in64 {a b : Int} (ha : i64 a) (hb : 0 < b) : i64 (a.tmod b) := by
  have h1 : (a.tmod b).natAbs ≤ a.natAbs := by rw [Int.natAbs_tmod]; exact Nat.mod_le _ _
  have h2 := ha.1
  have h3 := ha.2
  by_cases h0 : 0 ≤ a
  · have : 0 ≤ a.tmod b := Int.tmod_nonneg b h0
    constructor <;> omega
  · have : a.tmod b ≤ 0 := by
      have := Int.tmod_nonneg (a := -a) b (by omega)
      rw [Int.neg_tmod] at this
      omega
    constructor <;> omega
theorem in_vp {i : Int} {n : Nat} (hi : i32 i) (h0 : 0 ≤ i) (h1 : i < n) : vp_in (Int32.ofInt i) n := by
  rw [vp_in_iff, i32_to hi]
  exact ⟨h0, h1⟩
theorem clampI {i : Int} (hi : i32 i) (h0 : 0 ≤ i) : (Int32.ofInt i).toNatClampNeg = i.toNat := by
  show (Int32.ofInt i).toInt.toNat = i.toNat
  rw [i32_to hi]
theorem i32_i64 {a : Int} (h : i32 a) : (Int32.ofInt a).toInt64 = Int64.ofInt a := by
  rw [← Int64.toInt_inj, Int32.toInt_toInt64, i32_to h, i64_to ⟨by have := h.1; omega, by have := h.2; omega⟩]
end
section
-- ===== instructions resolved, what one asks, what a block asks =====
/-- a method's tables: fields, int constants, long constants, references, virtual calls, static calls; and how many locals -/
abbrev Tb : Type := List (Nat × Nat) × List (Nat × Int) × List (Nat × Int) × List (Nat × Nat) × List (Nat × Nat) × List (Nat × Nat) × Nat
def tF (T : Tb) : List (Nat × Nat) := T.1
def tI (T : Tb) : List (Nat × Int) := T.2.1
def tJ (T : Tb) : List (Nat × Int) := T.2.2.1
def tR (T : Tb) : List (Nat × Nat) := T.2.2.2.1
def tV (T : Tb) : List (Nat × Nat) := T.2.2.2.2.1
def tS (T : Tb) : List (Nat × Nat) := T.2.2.2.2.2.1
def tM (T : Tb) : Nat := T.2.2.2.2.2.2
def grd {α : Type} (b : Bool) (x : Option α) : Option α := if b = true then x else none
def abso (pc : Nat) (o : Int) : Int := (pc : Int) + o
def rz (T : Tb) (pc n : Nat) : Instr → Option Instr
  | .iconst v => grd (n == 1 && decide (-1 ≤ v) && decide (v ≤ 5)) (some (.iconst v))
  | .bipush v => grd (n == 2 && decide (-128 ≤ v) && decide (v ≤ 127)) (some (.iconst v))
  | .sipush v => grd (n == 3 && decide (-32768 ≤ v) && decide (v ≤ 32767)) (some (.iconst v))
  | .ldc i => grd (n == 2) (match look (tI T) i with
    | some v => some (.iconst v)
    | none => match look (tR T) i with
      | some q => grd (q == 103 || q == 104) (some (.anewarray q))
      | none => none)
  | .ldc_w i => grd (n == 3) ((look (tI T) i).map .iconst)
  | .ldc2_w i => grd (n == 3) ((look (tJ T) i).map .jsr)
  | .lconst v => grd (n == 1) (some (.jsr v.val))
  | .getstatic i => grd (n == 3) (match look (tR T) i with
    | some q => if q = 999 then some (.iconst 1) else grd (!(q == 103 || q == 104)) (some (.anewarray q))
    | none => none)
  | .iload_n v => grd (n == 1) (some (.iload v.val))
  | .lload_n v => grd (n == 1) (some (.lload v.val))
  | .aload_n v => grd (n == 1) (some (.aload v.val))
  | .iload v => grd (n == 2) (some (.iload v))
  | .lload v => grd (n == 2) (some (.lload v))
  | .aload v => grd (n == 2) (some (.aload v))
  | .istore_n v => grd (n == 1 && decide (v.val < tM T)) (some (.istore v.val))
  | .lstore_n v => grd (n == 1 && decide (v.val + 1 < tM T)) (some (.lstore v.val))
  | .astore_n v => grd (n == 1 && decide (v.val < tM T)) (some (.astore v.val))
  | .istore v => grd (n == 2 && decide (v < tM T)) (some (.istore v))
  | .lstore v => grd (n == 2 && decide (v + 1 < tM T)) (some (.lstore v))
  | .astore v => grd (n == 2 && decide (v < tM T)) (some (.astore v))
  | .iinc v c => grd (n == 3 && decide (v < tM T)) (some (.iinc v c))
  | .getfield i => grd (n == 3) ((look (tF T) i).map .getfield)
  | .putfield i => grd (n == 3) ((look (tF T) i).map .putfield)
  | .invokevirtual i => grd (n == 3) ((look (tV T) i).map .invokestatic)
  | .invokestatic i => grd (n == 3) ((look (tS T) i).map .invokestatic)
  | .goto o => grd (n == 3 && decide (0 ≤ abso pc o)) (some (.goto (abso pc o)))
  | .if_icmp c o => grd (n == 3 && decide (0 ≤ abso pc o)) (some (.if_icmp c (abso pc o)))
  | .ifCond c o => grd (n == 3 && decide (0 ≤ abso pc o)) (some (.ifCond c (abso pc o)))
  | .tableswitch d lo hi os => grd (decide (0 ≤ abso pc d) && os.toList.all (fun o => decide (0 ≤ abso pc o)) && decide (hi + 1 = lo + os.toList.length)) (some (.tableswitch (abso pc d) lo hi (os.toList.map (abso pc)).toArray))
  | .iadd => grd (n == 1) (some .iadd)
  | .isub => grd (n == 1) (some .isub)
  | .imul => grd (n == 1) (some .imul)
  | .ineg => grd (n == 1) (some .ineg)
  | .idiv => grd (n == 1) (some .idiv)
  | .irem => grd (n == 1) (some .irem)
  | .iand => grd (n == 1) (some .iand)
  | .ior => grd (n == 1) (some .ior)
  | .ixor => grd (n == 1) (some .ixor)
  | .ishl => grd (n == 1) (some .ishl)
  | .ishr => grd (n == 1) (some .ishr)
  | .iushr => grd (n == 1) (some .iushr)
  | .ladd => grd (n == 1) (some .ladd)
  | .lmul => grd (n == 1) (some .lmul)
  | .ldiv => grd (n == 1) (some .ldiv)
  | .lrem => grd (n == 1) (some .lrem)
  | .land => grd (n == 1) (some .land)
  | .lor => grd (n == 1) (some .lor)
  | .lshl => grd (n == 1) (some .lshl)
  | .lushr => grd (n == 1) (some .lushr)
  | .lcmp => grd (n == 1) (some .lcmp)
  | .i2l => grd (n == 1) (some .i2l)
  | .l2i => grd (n == 1) (some .l2i)
  | .i2c => grd (n == 1) (some .i2c)
  | .i2b => grd (n == 1) (some .i2b)
  | .dup => grd (n == 1) (some .dup)
  | .dup2 => grd (n == 1) (some .dup2)
  | .pop => grd (n == 1) (some .pop)
  | .iaload => grd (n == 1) (some .iaload)
  | .baload => grd (n == 1) (some .baload)
  | .aaload => grd (n == 1) (some .aaload)
  | .iastore => grd (n == 1) (some .iastore)
  | .bastore => grd (n == 1) (some .bastore)
  | .arraylength => grd (n == 1) (some .arraylength)
  | .ireturn => grd (n == 1) (some .ireturn)
  | .lreturn => grd (n == 1) (some .lreturn)
  | .return_ => grd (n == 1) (some .return_)
  | _ => none
def chk (T : Tb) (cc : ByteArray) (f : Nat) : List Instr → Nat → Bool
  | [], pc => pc == f
  | i :: r, pc => match decode cc pc with
    | .ok (j, n) => decide (rz T pc n j = some i) && chk T cc f r (pc + n)
    | _ => false
/-- the comparison of a branch -/
def cmpI (c : ClassFile.Cond) (a b : Int) : Prop := match c with
  | .eq => a = b
  | .ne => ¬ a = b
  | .lt => a < b
  | .ge => b ≤ a
  | .gt => b < a
  | .le => a ≤ b
/-- a field's value: the code says class, slot, kind -/
def rdF (c q : Nat) (σ : Sto) : AV := match c % 10 with
  | 1 => vL (σ q ((c / 10 % 100 : Nat) : Int))
  | 2 => vR (rfs q (c / 10 % 100))
  | _ => vI (σ q ((c / 10 % 100 : Nat) : Int))
def dCa : Nat × Ctr := (0, fun _ _ _ => False)
def ald (kd : Nat) (P0 P4 P5 : Prop) : Prop := match kd with
  | 0 => P0
  | 4 => P4
  | 5 => P5
  | _ => False
def bld (kd : Nat) (P1 P7 : Prop) : Prop := match kd with
  | 1 => P1
  | 7 => P7
  | _ => False
def aln (kd : Nat) (P0 P5 : Prop) : Prop := match kd with
  | 0 => P0
  | 7 => P0
  | 5 => P5
  | _ => False
theorem ald_c {kd : Nat} {P0 P4 P5 : Prop} (h : ald kd P0 P4 P5) : (kd = 0 ∧ P0) ∨ (kd = 4 ∧ P4) ∨ (kd = 5 ∧ P5) := by
  unfold ald at h
  split at h
  · exact Or.inl ⟨rfl, h⟩
  · exact Or.inr (Or.inl ⟨rfl, h⟩)
  · exact Or.inr (Or.inr ⟨rfl, h⟩)
  · exact h.elim
theorem bld_c {kd : Nat} {P1 P7 : Prop} (h : bld kd P1 P7) : (kd = 1 ∧ P1) ∨ (kd = 7 ∧ P7) := by
  unfold bld at h
  split at h
  · exact Or.inl ⟨rfl, h⟩
  · exact Or.inr ⟨rfl, h⟩
  · exact h.elim
theorem aln_c {kd : Nat} {P0 P5 : Prop} (h : aln kd P0 P5) : (kd = 0 ∧ P0) ∨ (kd = 7 ∧ P0) ∨ (kd = 5 ∧ P5) := by
  unfold aln at h
  split at h
  · exact Or.inl ⟨rfl, h⟩
  · exact Or.inr (Or.inl ⟨rfl, h⟩)
  · exact Or.inr (Or.inr ⟨rfl, h⟩)
  · exact h.elim
def step (ca : List (Nat × Ctr)) (lv : List (Nat × Nat)) (rt : Nat) (K : Nat → List AV → List AV → Sto → Prop) (Q : List AV → Sto → Prop) (i : Instr) (S L : List AV) (σ : Sto) (k : List AV → List AV → Sto → Prop) : Prop := match i with
  | .iconst n => k (vI n :: S) L σ
  | .jsr n => k (vL n :: S) L σ
  | .anewarray q => k (vR q :: S) L σ
  | .iload n => match nth L n with
    | .inl x => k (vI x :: S) L σ
    | _ => False
  | .lload n => match nth L n with
    | .inr (.inl x) => k (vL x :: S) L σ
    | _ => False
  | .aload n => match nth L n with
    | .inr (.inr (.inl x)) => k (vR x :: S) L σ
    | _ => False
  | .istore n => match S with
    | .inl x :: S => canSet L n = true ∧ k S (setL L n (vI x)) σ
    | _ => False
  | .lstore n => match S with
    | .inr (.inl x) :: S => canSet L n = true ∧ k S (setL (setL L n (vL x)) (n + 1) vX) σ
    | _ => False
  | .astore n => match S with
    | .inr (.inr (.inl x)) :: S => canSet L n = true ∧ k S (setL L n (vR x)) σ
    | _ => False
  | .iinc n c => match nth L n with
    | .inl x => canSet L n = true ∧ i32 (x + c) ∧ k S (setL L n (vI (x + c))) σ
    | _ => False
  | .getfield c => match S with
    | .inr (.inr (.inl q)) :: S => shp q = (3, c / 1000) ∧ k (rdF c q σ :: S) L σ
    | _ => False
  | .putfield c => match c % 10, S with
    | 0, .inl x :: .inr (.inr (.inl q)) :: S => shp q = (3, c / 1000) ∧ k S L (su σ q ((c / 10 % 100 : Nat) : Int) x)
    | 1, .inr (.inl x) :: .inr (.inr (.inl q)) :: S => shp q = (3, c / 1000) ∧ k S L (su σ q ((c / 10 % 100 : Nat) : Int) x)
    | 3, .inl x :: .inr (.inr (.inl q)) :: S => shp q = (3, c / 1000) ∧ (x = 0 ∨ x = 1) ∧ k S L (su σ q ((c / 10 % 100 : Nat) : Int) x)
    | _, _ => False
  | .invokestatic c => (tbl dCa ca c).1 ≤ S.length ∧ catS (S.drop (tbl dCa ca c).1) ≤ 8 ∧ (tbl dCa ca c).2 (S.take (tbl dCa ca c).1).reverse σ (fun r σ => k (r ++ S.drop (tbl dCa ca c).1) L σ)
  | .goto t => K t.toNat S (tk lv t.toNat L) σ
  | .if_icmp c t => match S with
    | .inl b :: .inl a :: S => (cmpI c a b → K t.toNat S (tk lv t.toNat L) σ) ∧ (¬ cmpI c a b → k S L σ)
    | _ => False
  | .ifCond c t => match S with
    | .inl a :: S => (cmpI c a 0 → K t.toNat S (tk lv t.toNat L) σ) ∧ (¬ cmpI c a 0 → k S L σ)
    | _ => False
  | .tableswitch d lo hi os => match S with
    | .inl x :: S => swK lv K S L σ x lo os.toList ∧ (x < lo ∨ hi < x → K d.toNat S (tk lv d.toNat L) σ)
    | _ => False
  | .iadd => match S with
    | .inl b :: .inl a :: S => i32 (a + b) ∧ k (vI (a + b) :: S) L σ
    | _ => False
  | .isub => match S with
    | .inl b :: .inl a :: S => i32 (a - b) ∧ k (vI (a - b) :: S) L σ
    | _ => False
  | .imul => match S with
    | .inl b :: .inl a :: S => i32 (a * b) ∧ k (vI (a * b) :: S) L σ
    | _ => False
  | .ineg => match S with
    | .inl a :: S => i32 (-a) ∧ k (vI (-a) :: S) L σ
    | _ => False
  | .idiv => match S with
    | .inl b :: .inl a :: S => 0 < b ∧ k (vI (a.tdiv b) :: S) L σ
    | _ => False
  | .irem => match S with
    | .inl b :: .inl a :: S => 0 < b ∧ k (vI (a.tmod b) :: S) L σ
    | _ => False
  | .iand => match S with
    | .inl b :: .inl a :: S => k (vI (bAnd a b) :: S) L σ
    | _ => False
  | .ior => match S with
    | .inl b :: .inl a :: S => k (vI (bOr a b) :: S) L σ
    | _ => False
  | .ixor => match S with
    | .inl b :: .inl a :: S => k (vI (bXor a b) :: S) L σ
    | _ => False
  | .ishl => match S with
    | .inl b :: .inl a :: S => k (vI (bShl a b) :: S) L σ
    | _ => False
  | .ishr => match S with
    | .inl b :: .inl a :: S => k (vI (bShr a b) :: S) L σ
    | _ => False
  | .iushr => match S with
    | .inl b :: .inl a :: S => k (vI (bUshr a b) :: S) L σ
    | _ => False
  | .ladd => match S with
    | .inr (.inl b) :: .inr (.inl a) :: S => k (vL (w64 (a + b)) :: S) L σ
    | _ => False
  | .lmul => match S with
    | .inr (.inl b) :: .inr (.inl a) :: S => k (vL (w64 (a * b)) :: S) L σ
    | _ => False
  | .ldiv => match S with
    | .inr (.inl b) :: .inr (.inl a) :: S => 0 < b ∧ k (vL (a.tdiv b) :: S) L σ
    | _ => False
  | .lrem => match S with
    | .inr (.inl b) :: .inr (.inl a) :: S => 0 < b ∧ k (vL (a.tmod b) :: S) L σ
    | _ => False
  | .land => match S with
    | .inr (.inl b) :: .inr (.inl a) :: S => k (vL (lAnd a b) :: S) L σ
    | _ => False
  | .lor => match S with
    | .inr (.inl b) :: .inr (.inl a) :: S => k (vL (lOr a b) :: S) L σ
    | _ => False
  | .lshl => match S with
    | .inl b :: .inr (.inl a) :: S => k (vL (lShl a b) :: S) L σ
    | _ => False
  | .lushr => match S with
    | .inl b :: .inr (.inl a) :: S => k (vL (lUshr a b) :: S) L σ
    | _ => False
  | .lcmp => match S with
    | .inr (.inl b) :: .inr (.inl a) :: S => k (vI (lCmp a b) :: S) L σ
    | _ => False
  | .i2l => match S with
    | .inl a :: S => k (vL a :: S) L σ
    | _ => False
  | .l2i => match S with
    | .inr (.inl a) :: S => k (vI (w32 a) :: S) L σ
    | _ => False
  | .i2c => match S with
    | .inl a :: S => k (vI (bChr a) :: S) L σ
    | _ => False
  | .i2b => match S with
    | .inl a :: S => k (vI (bI8 a) :: S) L σ
    | _ => False
  | .dup => match S with
    | .inl a :: S => k (vI a :: vI a :: S) L σ
    | .inr (.inr (.inl a)) :: S => k (vR a :: vR a :: S) L σ
    | _ => False
  | .dup2 => match S with
    | .inl a :: .inr (.inr (.inl b)) :: S => k (vI a :: vR b :: vI a :: vR b :: S) L σ
    | _ => False
  | .pop => match S with
    | .inl _ :: S => k S L σ
    | _ => False
  | .iaload => match S with
    | .inl i :: .inr (.inr (.inl q)) :: S => ald (shp q).1 ((0 ≤ i ∧ i < ((shp q).2 : Int)) ∧ k (vI (σ q i) :: S) L σ) ((0 ≤ i ∧ i < ((shp q).2 : Int)) ∧ k (vI ((stc q).getD i.toNat 0) :: S) L σ) ((0 ≤ i ∧ i < σ q (-1)) ∧ k (vI (σ q i) :: S) L σ)
    | _ => False
  | .baload => match S with
    | .inl i :: .inr (.inr (.inl q)) :: S => bld (shp q).1 ((0 ≤ i ∧ i < ((shp q).2 : Int)) ∧ k (vI (σ q i) :: S) L σ) ((0 ≤ i ∧ i < ((shp q).2 : Int)) ∧ k (vI ((stc q).getD i.toNat 0) :: S) L σ)
    | _ => False
  | .aaload => match S with
    | .inl i :: .inr (.inr (.inl q)) :: S => (shp q).1 = 2 ∧ (0 ≤ i ∧ i < ((shp q).2 : Int)) ∧ k (vR (rfs q i.toNat) :: S) L σ
    | _ => False
  | .iastore => match S with
    | .inl x :: .inl i :: .inr (.inr (.inl q)) :: S => (shp q).1 = 0 ∧ (0 ≤ i ∧ i < ((shp q).2 : Int)) ∧ k S L (su σ q i x)
    | _ => False
  | .bastore => match S with
    | .inl x :: .inl i :: .inr (.inr (.inl q)) :: S => (shp q).1 = 1 ∧ (0 ≤ i ∧ i < ((shp q).2 : Int)) ∧ (x = 0 ∨ x = 1) ∧ k S L (su σ q i x)
    | _ => False
  | .arraylength => match S with
    | .inr (.inr (.inl q)) :: S => aln (shp q).1 (k (vI ((shp q).2 : Int) :: S) L σ) (k (vI (σ q (-1)) :: S) L σ)
    | _ => False
  | .ireturn => match S with
    | [.inl v] => (rt = 1 ∨ (rt = 2 ∧ (v = 0 ∨ v = 1)) ∨ (rt = 4 ∧ v = 0)) ∧ Q [vI v] σ
    | _ => False
  | .lreturn => match S with
    | [.inr (.inl v)] => rt = 3 ∧ Q [vL v] σ
    | _ => False
  | .return_ => match S with
    | [] => rt = 0 ∧ Q [] σ
    | _ => False
  | _ => False
def wp (ca : List (Nat × Ctr)) (lv : List (Nat × Nat)) (rt : Nat) (K : Nat → List AV → List AV → Sto → Prop) (Q : List AV → Sto → Prop) (f : Nat) : List Instr → List AV → List AV → Sto → Prop
  | [], S, L, σ => K f S (tk lv f L) σ
  | i :: r, S, L, σ => step ca lv rt K Q i S L σ (wp ca lv rt K Q f r)
end
section
-- ===== the nest words (printed) =====
def nestW : List Cond := [
  (Jvm.Cond.methodLinkNest "LeavesOfMud" (9 : Nat) ({ cls := "LeavesOfMud$Pits", name := "<init>", desc := "()V" } : Jvm.MethodName) "LeavesOfMud"),
  (Jvm.Cond.fieldLinkNest "LeavesOfMud" (92 : Nat) "LeavesOfMud$Pits" "size" "I" "LeavesOfMud"),
  (Jvm.Cond.fieldLinkNest "LeavesOfMud$Net" (85 : Nat) "LeavesOfMud$Pits" "size" "I" "LeavesOfMud"),
  (Jvm.Cond.fieldLinkNest "LeavesOfMud" (308 : Nat) "LeavesOfMud$Pits" "miles" "[I" "LeavesOfMud"),
  (Jvm.Cond.fieldLinkNest "LeavesOfMud$Pairing" (75 : Nat) "LeavesOfMud$Pits" "sizes" "[I" "LeavesOfMud"),
  (Jvm.Cond.fieldLinkNest "LeavesOfMud$Slides" (21 : Nat) "LeavesOfMud$Pits" "sizes" "[I" "LeavesOfMud"),
  (Jvm.Cond.fieldLinkNest "LeavesOfMud" (106 : Nat) "LeavesOfMud$Pits" "sizes" "[I" "LeavesOfMud"),
  (Jvm.Cond.fieldLinkNest "LeavesOfMud$Hands" (54 : Nat) "LeavesOfMud$Pits" "sizes" "[I" "LeavesOfMud"),
  (Jvm.Cond.fieldLinkNest "LeavesOfMud$Net" (136 : Nat) "LeavesOfMud$Pits" "sizes" "[I" "LeavesOfMud"),
  (Jvm.Cond.methodLinkNest "LeavesOfMud" (18 : Nat) ({ cls := "LeavesOfMud$Bonds", name := "<init>", desc := "()V" } : Jvm.MethodName) "LeavesOfMud"),
  (Jvm.Cond.fieldLinkNest "LeavesOfMud$Net" (111 : Nat) "LeavesOfMud$Bonds" "joins" "I" "LeavesOfMud"),
  (Jvm.Cond.fieldLinkNest "LeavesOfMud" (237 : Nat) "LeavesOfMud$Bonds" "joins" "I" "LeavesOfMud"),
  (Jvm.Cond.fieldLinkNest "LeavesOfMud$Net" (120 : Nat) "LeavesOfMud$Bonds" "firsts" "[I" "LeavesOfMud"),
  (Jvm.Cond.fieldLinkNest "LeavesOfMud$Net" (123 : Nat) "LeavesOfMud$Bonds" "seconds" "[I" "LeavesOfMud"),
  (Jvm.Cond.fieldLinkNest "LeavesOfMud$Net" (126 : Nat) "LeavesOfMud$Bonds" "lows" "[I" "LeavesOfMud"),
  (Jvm.Cond.fieldLinkNest "LeavesOfMud$Net" (129 : Nat) "LeavesOfMud$Bonds" "highs" "[I" "LeavesOfMud"),
  (Jvm.Cond.fieldLinkNest "LeavesOfMud$Net" (187 : Nat) "LeavesOfMud$Bonds" "doubts" "[I" "LeavesOfMud"),
  (Jvm.Cond.fieldLinkNest "LeavesOfMud" (334 : Nat) "LeavesOfMud$Bonds" "keptBits" "I" "LeavesOfMud"),
  (Jvm.Cond.fieldLinkNest "LeavesOfMud" (342 : Nat) "LeavesOfMud$Bonds" "tiedBits" "I" "LeavesOfMud"),
  (Jvm.Cond.fieldLinkNest "LeavesOfMud$Net" (95 : Nat) "LeavesOfMud$Bonds" "tieLows" "[I" "LeavesOfMud"),
  (Jvm.Cond.fieldLinkNest "LeavesOfMud$Net" (98 : Nat) "LeavesOfMud$Bonds" "tieHighs" "[I" "LeavesOfMud"),
  (Jvm.Cond.fieldLinkNest "LeavesOfMud$Net" (132 : Nat) "LeavesOfMud$Bonds" "ashesCount" "Z" "LeavesOfMud"),
  (Jvm.Cond.fieldLinkNest "LeavesOfMud" (264 : Nat) "LeavesOfMud$Bonds" "ashesCount" "Z" "LeavesOfMud"),
  (Jvm.Cond.methodLinkNest "LeavesOfMud" (35 : Nat) ({ cls := "LeavesOfMud$Page", name := "<init>", desc := "()V" } : Jvm.MethodName) "LeavesOfMud"),
  (Jvm.Cond.fieldLinkNest "LeavesOfMud" (151 : Nat) "LeavesOfMud$Page" "size" "I" "LeavesOfMud"),
  (Jvm.Cond.fieldLinkNest "LeavesOfMud" (360 : Nat) "LeavesOfMud$Page" "letters" "[I" "LeavesOfMud"),
  (Jvm.Cond.fieldLinkNest "LeavesOfMud" (162 : Nat) "LeavesOfMud$Page" "whole" "Z" "LeavesOfMud"),
  (Jvm.Cond.fieldLinkNest "LeavesOfMud" (166 : Nat) "LeavesOfMud$Page" "told" "[I" "LeavesOfMud"),
  (Jvm.Cond.methodLinkNest "LeavesOfMud" (42 : Nat) ({ cls := "LeavesOfMud$Hands", name := "<init>", desc := "(LLeavesOfMud$Pits;)V" } : Jvm.MethodName) "LeavesOfMud"),
  (Jvm.Cond.fieldLinkNest "LeavesOfMud" (165 : Nat) "LeavesOfMud$Hands" "size" "I" "LeavesOfMud"),
  (Jvm.Cond.methodLinkNest "LeavesOfMud" (51 : Nat) ({ cls := "LeavesOfMud$Laws", name := "<init>", desc := "()V" } : Jvm.MethodName) "LeavesOfMud"),
  (Jvm.Cond.fieldLinkNest "LeavesOfMud" (173 : Nat) "LeavesOfMud$Laws" "size" "I" "LeavesOfMud"),
  (Jvm.Cond.methodLinkNest "LeavesOfMud" (58 : Nat) ({ cls := "LeavesOfMud$Slides", name := "<init>", desc := "(LLeavesOfMud$Pits;)V" } : Jvm.MethodName) "LeavesOfMud"),
  (Jvm.Cond.methodLinkNest "LeavesOfMud" (65 : Nat) ({ cls := "LeavesOfMud$Pairing", name := "<init>", desc := "(LLeavesOfMud$Pits;LLeavesOfMud$Laws;)V" } : Jvm.MethodName) "LeavesOfMud"),
  (Jvm.Cond.fieldLinkNest "LeavesOfMud" (219 : Nat) "LeavesOfMud$Pairing" "wayLength" "I" "LeavesOfMud"),
  (Jvm.Cond.fieldLinkNest "LeavesOfMud" (225 : Nat) "LeavesOfMud$Pairing" "liesOn" "[I" "LeavesOfMud"),
  (Jvm.Cond.fieldLinkNest "LeavesOfMud" (228 : Nat) "LeavesOfMud$Pairing" "liesBy" "[I" "LeavesOfMud"),
  (Jvm.Cond.methodLinkNest "LeavesOfMud" (74 : Nat) ({ cls := "LeavesOfMud$Net", name := "<init>", desc := "(LLeavesOfMud$Pits;LLeavesOfMud$Hands;LLeavesOfMud$Bonds;)V" } : Jvm.MethodName) "LeavesOfMud"),
  (Jvm.Cond.fieldLinkNest "LeavesOfMud" (299 : Nat) "LeavesOfMud$Net" "digA" "I" "LeavesOfMud"),
  (Jvm.Cond.fieldLinkNest "LeavesOfMud" (302 : Nat) "LeavesOfMud$Net" "digB" "I" "LeavesOfMud"),
  (Jvm.Cond.fieldLinkNest "LeavesOfMud" (305 : Nat) "LeavesOfMud$Net" "digWorst" "I" "LeavesOfMud"),
  (Jvm.Cond.methodLinkNest "LeavesOfMud" (95 : Nat) ({ cls := "LeavesOfMud$Pits", name := "open", desc := "(I)I" } : Jvm.MethodName) "LeavesOfMud"),
  (Jvm.Cond.methodLinkNest "LeavesOfMud" (99 : Nat) ({ cls := "LeavesOfMud$Pits", name := "has", desc := "(I)Z" } : Jvm.MethodName) "LeavesOfMud"),
  (Jvm.Cond.methodLinkNest "LeavesOfMud" (110 : Nat) ({ cls := "LeavesOfMud$Pits", name := "push", desc := "(IIII)V" } : Jvm.MethodName) "LeavesOfMud"),
  (Jvm.Cond.methodLinkNest "LeavesOfMud" (114 : Nat) ({ cls := "LeavesOfMud$Pits", name := "hasLeaf", desc := "(II)Z" } : Jvm.MethodName) "LeavesOfMud"),
  (Jvm.Cond.methodLinkNest "LeavesOfMud" (118 : Nat) ({ cls := "LeavesOfMud$Pits", name := "kindOf", desc := "(II)I" } : Jvm.MethodName) "LeavesOfMud"),
  (Jvm.Cond.methodLinkNest "LeavesOfMud" (179 : Nat) ({ cls := "LeavesOfMud$Hands", name := "yearsOfAll", desc := "(II)I" } : Jvm.MethodName) "LeavesOfMud"),
  (Jvm.Cond.methodLinkNest "LeavesOfMud$Hands" (38 : Nat) ({ cls := "LeavesOfMud$Pits", name := "kindOf", desc := "(II)I" } : Jvm.MethodName) "LeavesOfMud"),
  (Jvm.Cond.methodLinkNest "LeavesOfMud$Hands" (44 : Nat) ({ cls := "LeavesOfMud$Pits", name := "nOf", desc := "(II)I" } : Jvm.MethodName) "LeavesOfMud"),
  (Jvm.Cond.methodLinkNest "LeavesOfMud" (132 : Nat) ({ cls := "LeavesOfMud$Pits", name := "thicknessOf", desc := "(II)I" } : Jvm.MethodName) "LeavesOfMud"),
  (Jvm.Cond.methodLinkNest "LeavesOfMud" (380 : Nat) ({ cls := "LeavesOfMud$Pits", name := "nOf", desc := "(II)I" } : Jvm.MethodName) "LeavesOfMud"),
  (Jvm.Cond.methodLinkNest "LeavesOfMud" (383 : Nat) ({ cls := "LeavesOfMud$Pits", name := "stepBetween", desc := "(III)I" } : Jvm.MethodName) "LeavesOfMud"),
  (Jvm.Cond.methodLinkNest "LeavesOfMud" (135 : Nat) ({ cls := "LeavesOfMud$Pits", name := "put", desc := "(IIIII)V" } : Jvm.MethodName) "LeavesOfMud"),
  (Jvm.Cond.methodLinkNest "LeavesOfMud" (155 : Nat) ({ cls := "LeavesOfMud$Page", name := "write", desc := "(I)V" } : Jvm.MethodName) "LeavesOfMud"),
  (Jvm.Cond.methodLinkNest "LeavesOfMud" (159 : Nat) ({ cls := "LeavesOfMud$Page", name := "read", desc := "(I)I" } : Jvm.MethodName) "LeavesOfMud"),
  (Jvm.Cond.methodLinkNest "LeavesOfMud$Page" (46 : Nat) ({ cls := "LeavesOfMud", name := "isWithin", desc := "(III)Z" } : Jvm.MethodName) "LeavesOfMud"),
  (Jvm.Cond.methodLinkNest "LeavesOfMud" (169 : Nat) ({ cls := "LeavesOfMud$Hands", name := "take", desc := "([I)I" } : Jvm.MethodName) "LeavesOfMud"),
  (Jvm.Cond.methodLinkNest "LeavesOfMud" (174 : Nat) ({ cls := "LeavesOfMud$Laws", name := "take", desc := "([I)I" } : Jvm.MethodName) "LeavesOfMud"),
  (Jvm.Cond.methodLinkNest "LeavesOfMud" (175 : Nat) ({ cls := "LeavesOfMud$Hands", name := "has", desc := "(I)Z" } : Jvm.MethodName) "LeavesOfMud"),
  (Jvm.Cond.methodLinkNest "LeavesOfMud" (176 : Nat) ({ cls := "LeavesOfMud$Hands", name := "yearsAhead", desc := "(III)I" } : Jvm.MethodName) "LeavesOfMud"),
  (Jvm.Cond.methodLinkNest "LeavesOfMud" (187 : Nat) ({ cls := "LeavesOfMud$Slides", name := "overOf", desc := "(III)I" } : Jvm.MethodName) "LeavesOfMud"),
  (Jvm.Cond.methodLinkNest "LeavesOfMud" (191 : Nat) ({ cls := "LeavesOfMud$Slides", name := "likeOf", desc := "(IIII)I" } : Jvm.MethodName) "LeavesOfMud"),
  (Jvm.Cond.methodLinkNest "LeavesOfMud$Slides" (34 : Nat) ({ cls := "LeavesOfMud$Pits", name := "stepBetween", desc := "(III)I" } : Jvm.MethodName) "LeavesOfMud"),
  (Jvm.Cond.methodLinkNest "LeavesOfMud$Slides" (37 : Nat) ({ cls := "LeavesOfMud$Pits", name := "isAsh", desc := "(II)Z" } : Jvm.MethodName) "LeavesOfMud"),
  (Jvm.Cond.methodLinkNest "LeavesOfMud$Slides" (41 : Nat) ({ cls := "LeavesOfMud$Pits", name := "nOf", desc := "(II)I" } : Jvm.MethodName) "LeavesOfMud"),
  (Jvm.Cond.methodLinkNest "LeavesOfMud" (195 : Nat) ({ cls := "LeavesOfMud$Slides", name := "best", desc := "(III)I" } : Jvm.MethodName) "LeavesOfMud"),
  (Jvm.Cond.methodLinkNest "LeavesOfMud" (198 : Nat) ({ cls := "LeavesOfMud$Slides", name := "turnsAsLike", desc := "(III)I" } : Jvm.MethodName) "LeavesOfMud"),
  (Jvm.Cond.methodLinkNest "LeavesOfMud" (204 : Nat) ({ cls := "LeavesOfMud$Laws", name := "has", desc := "(I)Z" } : Jvm.MethodName) "LeavesOfMud"),
  (Jvm.Cond.methodLinkNest "LeavesOfMud" (205 : Nat) ({ cls := "LeavesOfMud$Pairing", name := "setTogether", desc := "(III)V" } : Jvm.MethodName) "LeavesOfMud"),
  (Jvm.Cond.methodLinkNest "LeavesOfMud$Pairing" (93 : Nat) ({ cls := "LeavesOfMud$Pits", name := "thicknessOf", desc := "(II)I" } : Jvm.MethodName) "LeavesOfMud"),
  (Jvm.Cond.methodLinkNest "LeavesOfMud$Pairing" (96 : Nat) ({ cls := "LeavesOfMud$Pits", name := "isAsh", desc := "(II)Z" } : Jvm.MethodName) "LeavesOfMud"),
  (Jvm.Cond.methodLinkNest "LeavesOfMud$Pairing" (100 : Nat) ({ cls := "LeavesOfMud$Pits", name := "nOf", desc := "(II)I" } : Jvm.MethodName) "LeavesOfMud"),
  (Jvm.Cond.methodLinkNest "LeavesOfMud$Pairing" (84 : Nat) ({ cls := "LeavesOfMud$Laws", name := "priceOf", desc := "(II)I" } : Jvm.MethodName) "LeavesOfMud"),
  (Jvm.Cond.methodLinkNest "LeavesOfMud$Pairing" (135 : Nat) ({ cls := "LeavesOfMud", name := "asNumber", desc := "(Z)I" } : Jvm.MethodName) "LeavesOfMud"),
  (Jvm.Cond.methodLinkNest "LeavesOfMud" (209 : Nat) ({ cls := "LeavesOfMud$Pairing", name := "leastOfAll", desc := "()I" } : Jvm.MethodName) "LeavesOfMud"),
  (Jvm.Cond.methodLinkNest "LeavesOfMud" (213 : Nat) ({ cls := "LeavesOfMud$Pairing", name := "waysOfAll", desc := "()I" } : Jvm.MethodName) "LeavesOfMud"),
  (Jvm.Cond.methodLinkNest "LeavesOfMud" (216 : Nat) ({ cls := "LeavesOfMud$Pairing", name := "goTheWay", desc := "()V" } : Jvm.MethodName) "LeavesOfMud"),
  (Jvm.Cond.methodLinkNest "LeavesOfMud" (222 : Nat) ({ cls := "LeavesOfMud$Pairing", name := "stepOfTheWay", desc := "(I)I" } : Jvm.MethodName) "LeavesOfMud"),
  (Jvm.Cond.methodLinkNest "LeavesOfMud$Pairing" (103 : Nat) ({ cls := "LeavesOfMud", name := "isWithin", desc := "(III)Z" } : Jvm.MethodName) "LeavesOfMud"),
  (Jvm.Cond.methodLinkNest "LeavesOfMud" (231 : Nat) ({ cls := "LeavesOfMud$Pairing", name := "leastWithout", desc := "(II)I" } : Jvm.MethodName) "LeavesOfMud"),
  (Jvm.Cond.methodLinkNest "LeavesOfMud" (240 : Nat) ({ cls := "LeavesOfMud$Bonds", name := "addJoin", desc := "(IIIII)I" } : Jvm.MethodName) "LeavesOfMud"),
  (Jvm.Cond.methodLinkNest "LeavesOfMud" (244 : Nat) ({ cls := "LeavesOfMud$Bonds", name := "isKept", desc := "(I)Z" } : Jvm.MethodName) "LeavesOfMud"),
  (Jvm.Cond.methodLinkNest "LeavesOfMud" (251 : Nat) ({ cls := "LeavesOfMud$Bonds", name := "setKept", desc := "(IZ)V" } : Jvm.MethodName) "LeavesOfMud"),
  (Jvm.Cond.methodLinkNest "LeavesOfMud" (255 : Nat) ({ cls := "LeavesOfMud$Bonds", name := "isTied", desc := "(I)Z" } : Jvm.MethodName) "LeavesOfMud"),
  (Jvm.Cond.methodLinkNest "LeavesOfMud" (258 : Nat) ({ cls := "LeavesOfMud$Bonds", name := "setTie", desc := "(III)V" } : Jvm.MethodName) "LeavesOfMud"),
  (Jvm.Cond.methodLinkNest "LeavesOfMud" (261 : Nat) ({ cls := "LeavesOfMud$Bonds", name := "dropTie", desc := "(I)V" } : Jvm.MethodName) "LeavesOfMud"),
  (Jvm.Cond.methodLinkNest "LeavesOfMud" (267 : Nat) ({ cls := "LeavesOfMud$Net", name := "weaveWhole", desc := "()Z" } : Jvm.MethodName) "LeavesOfMud"),
  (Jvm.Cond.methodLinkNest "LeavesOfMud$Net" (139 : Nat) ({ cls := "LeavesOfMud$Pits", name := "kindOf", desc := "(II)I" } : Jvm.MethodName) "LeavesOfMud"),
  (Jvm.Cond.methodLinkNest "LeavesOfMud$Net" (143 : Nat) ({ cls := "LeavesOfMud$Pits", name := "nOf", desc := "(II)I" } : Jvm.MethodName) "LeavesOfMud"),
  (Jvm.Cond.methodLinkNest "LeavesOfMud$Net" (146 : Nat) ({ cls := "LeavesOfMud$Hands", name := "halvesOf", desc := "(III)I" } : Jvm.MethodName) "LeavesOfMud"),
  (Jvm.Cond.methodLinkNest "LeavesOfMud$Net" (90 : Nat) ({ cls := "LeavesOfMud$Bonds", name := "isTied", desc := "(I)Z" } : Jvm.MethodName) "LeavesOfMud"),
  (Jvm.Cond.methodLinkNest "LeavesOfMud$Net" (114 : Nat) ({ cls := "LeavesOfMud$Bonds", name := "isKept", desc := "(I)Z" } : Jvm.MethodName) "LeavesOfMud"),
  (Jvm.Cond.methodLinkNest "LeavesOfMud" (275 : Nat) ({ cls := "LeavesOfMud$Net", name := "isFloating", desc := "(II)Z" } : Jvm.MethodName) "LeavesOfMud"),
  (Jvm.Cond.methodLinkNest "LeavesOfMud" (278 : Nat) ({ cls := "LeavesOfMud$Net", name := "endOfSpan", desc := "(III)I" } : Jvm.MethodName) "LeavesOfMud"),
  (Jvm.Cond.methodLinkNest "LeavesOfMud" (281 : Nat) ({ cls := "LeavesOfMud$Net", name := "group", desc := "()V" } : Jvm.MethodName) "LeavesOfMud"),
  (Jvm.Cond.methodLinkNest "LeavesOfMud" (284 : Nat) ({ cls := "LeavesOfMud$Net", name := "groups", desc := "()I" } : Jvm.MethodName) "LeavesOfMud"),
  (Jvm.Cond.methodLinkNest "LeavesOfMud" (287 : Nat) ({ cls := "LeavesOfMud$Net", name := "groupOfFirst", desc := "()I" } : Jvm.MethodName) "LeavesOfMud"),
  (Jvm.Cond.methodLinkNest "LeavesOfMud" (290 : Nat) ({ cls := "LeavesOfMud$Net", name := "leastCast", desc := "()I" } : Jvm.MethodName) "LeavesOfMud"),
  (Jvm.Cond.methodLinkNest "LeavesOfMud" (293 : Nat) ({ cls := "LeavesOfMud$Net", name := "joinsThatHold", desc := "(II)I" } : Jvm.MethodName) "LeavesOfMud"),
  (Jvm.Cond.methodLinkNest "LeavesOfMud" (296 : Nat) ({ cls := "LeavesOfMud$Net", name := "findDig", desc := "()V" } : Jvm.MethodName) "LeavesOfMud"),
  (Jvm.Cond.methodLinkNest "LeavesOfMud$Net" (200 : Nat) ({ cls := "LeavesOfMud", name := "isWithin", desc := "(III)Z" } : Jvm.MethodName) "LeavesOfMud"),
  (Jvm.Cond.methodLinkNest "LeavesOfMud" (386 : Nat) ({ cls := "LeavesOfMud$Pits", name := "sharedAshAhead", desc := "(III)I" } : Jvm.MethodName) "LeavesOfMud"),
  (Jvm.Cond.methodLinkNest "LeavesOfMud" (389 : Nat) ({ cls := "LeavesOfMud$Pits", name := "sharedAshBehind", desc := "(III)I" } : Jvm.MethodName) "LeavesOfMud"),
  (Jvm.Cond.methodLinkNest "LeavesOfMud" (392 : Nat) ({ cls := "LeavesOfMud$Pits", name := "firstAsh", desc := "(II)I" } : Jvm.MethodName) "LeavesOfMud"),
  (Jvm.Cond.methodLinkNest "LeavesOfMud" (395 : Nat) ({ cls := "LeavesOfMud$Pits", name := "hasFloodBetween", desc := "(III)Z" } : Jvm.MethodName) "LeavesOfMud"),
  (Jvm.Cond.methodLinkNest "LeavesOfMud" (325 : Nat) ({ cls := "LeavesOfMud$Pits", name := "copyFrom", desc := "(LLeavesOfMud$Pits;)V" } : Jvm.MethodName) "LeavesOfMud"),
  (Jvm.Cond.methodLinkNest "LeavesOfMud" (328 : Nat) ({ cls := "LeavesOfMud$Bonds", name := "copyFrom", desc := "(LLeavesOfMud$Bonds;)V" } : Jvm.MethodName) "LeavesOfMud"),
  (Jvm.Cond.methodLinkNest "LeavesOfMud" (331 : Nat) ({ cls := "LeavesOfMud$Pits", name := "leavesOfAll", desc := "()I" } : Jvm.MethodName) "LeavesOfMud"),
  (Jvm.Cond.methodLinkNest "LeavesOfMud" (354 : Nat) ({ cls := "LeavesOfMud$Bonds", name := "foldInto", desc := "(J)J" } : Jvm.MethodName) "LeavesOfMud"),
  (Jvm.Cond.methodLinkNest "LeavesOfMud$Bonds" (51 : Nat) ({ cls := "LeavesOfMud", name := "fold", desc := "(JJ)J" } : Jvm.MethodName) "LeavesOfMud"),
  (Jvm.Cond.methodLinkNest "LeavesOfMud$Bonds" (59 : Nat) ({ cls := "LeavesOfMud", name := "asNumber", desc := "(Z)I" } : Jvm.MethodName) "LeavesOfMud")]
/-- the two texts: constants of Page, Latin-1, their bytes; COMPACT_STRINGS is set -/
def strF1 (o : OM) (q b : Nat) (U : State) : Prop := va_O "java/lang/String" (oA o q) (aA o) U U.heap ∧ va_OF "java/lang/String" "coder" "B" (.int 0) (oA o q) (aA o) U U.heap ∧ va_OF "java/lang/String" "value" "[B" (.ref (oA o b)) (oA o q) (aA o) U U.heap ∧ va_T .byte (oA o b) (shp b).2 (fun j => .int (Int32.ofInt ((stc b).getD j 0))) (aA o) U U.heap
def strF (o : OM) (U : State) : Prop := vk_R "LeavesOfMud$Page" 26 "lwnhfas" (oA o 103) U ∧ vk_R "LeavesOfMud$Page" 32 "ldua" (oA o 104) U ∧ strF1 o 103 105 U ∧ strF1 o 104 106 U ∧ va_Z "java/lang/String" "COMPACT_STRINGS" "Z" (.int 1) (aA o) U U.heap
end
section
-- ===== the machine at a place of a method's code; a block's demand brings it there =====
def wsG : List Cond := lw_tbl.filter goodWord
theorem wsG_mem {w : Cond} (h : w ∈ lw_tbl) (g : goodWord w = true) : w ∈ wsG := List.mem_filter.mpr ⟨h, g⟩
theorem wsG_good : GoodIn wsG wsG := fun w h => ⟨h, good_of_word (List.mem_filter.mp h).2⟩
/-- a method: its name, code, number of locals, what it returns, and the kind of that: 0 nothing, 1 int, 2 boolean, 3 long -/
abbrev Pk : Type := MethodName × ByteArray × Nat × Option FieldType × Nat
abbrev yN (Y : Pk) : MethodName := Y.1
abbrev yB (Y : Pk) : ByteArray := Y.2.1
abbrev yL (Y : Pk) : Nat := Y.2.2.1
abbrev yR (Y : Pk) : Option FieldType := Y.2.2.2.1
abbrev yK (Y : Pk) : Nat := Y.2.2.2.2
def rm (d : Nat) : Room := { frames := d + 1, cells := 0, slots := 0, locals := 100 * (d + 1) }
/-- a static row of ints: where it lies, what it holds -/
def stF (o : OM) (C f : String) (q : Nat) (U : State) : Prop := va_Z C f "[I" (.ref (oA o q)) (aA o) U U.heap ∧ va_T .int (oA o q) (shp q).2 (fun j => .int (Int32.ofInt ((stc q).getD j 0))) (aA o) U U.heap
def Std (o : OM) (U : State) : Prop := va_K (oD o) vwCl (tyO o) U ∧ (∀ w ∈ nestW, va_Nw w U) ∧ inj o ∧
  (stF o "LeavesOfMud$Hands" "PLAIN" 98 U ∧ stF o "LeavesOfMud$Laws" "PLAIN" 99 U ∧ stF o "LeavesOfMud$Pairing" "OF_FIRST" 100 U ∧ stF o "LeavesOfMud$Pairing" "OF_SECOND" 101 U) ∧
  (va_X (oA o 102) (oN o) (oX o) U U.heap ∧ oA o 102 < U.heap.size ∧ ¬ aA o (oA o 102)) ∧ strF o U
/-- the script stands in the store too, at its place; its length at -1 -/
def scr (o : OM) (σ : Sto) : Prop := (σ 103 1 = 0 ∧ σ 104 1 = 0) ∧ σ 102 (-1) = (oN o : Int) ∧ (oN o : Int) ≤ 3072 ∧ ∀ j : Nat, j < oN o → σ 102 j = (oX o j).toInt
def Hs (o : OM) (σ : Sto) (H : Heap) : Prop := HX o σ H ∧ scr o σ
def Wld (o : OM) (σ : Sto) (U : State) : Prop := Std o U ∧ Hs o σ U.heap
def rtk (rt : Nat) (cc : ByteArray) (pc : Nat) : List AV → Prop
  | [] => rt = 0 ∧ decode cc pc = .ok (.return_, 1)
  | [.inl v] => (rt = 1 ∨ (rt = 2 ∧ (v = 0 ∨ v = 1)) ∨ (rt = 4 ∧ v = 0)) ∧ decode cc pc = .ok (.ireturn, 1)
  | [.inr (.inl _)] => rt = 3 ∧ decode cc pc = .ok (.lreturn, 1)
  | _ => False
section CX
variable (o : OM) (Y : Pk) (d : Nat) (Q : List AV → Sto → Prop) (p : Program) (e : Env) (R : Room) (s : State) (m : MethodId) (args : Array Value) (below : List Frame) (meth : Method) (c : Code) (cells slots : Nat) (Z : State → Prop)
def Cx : Prop := p.tables.exec = Jvm.exec ∧ c.code = yB Y ∧ c.maxLocals = yL Y ∧ s.vm.findClass (yN Y).cls = some m.cls ∧ (∀ w ∈ wsG, w.before args s = true) ∧ Std o s ∧ ((rm d).frames ≤ R.frames ∧ (rm d).locals ≤ R.locals ∧ cells ≤ R.cells ∧ slots ≤ R.slots) ∧
  ∀ (H : Heap) (locs : List Loc) (ls : Array Slot) (pc : Nat) (r : List AV) (σ : Sto), Hs o σ H → va_S (aA o) s.heap H locs → okL r → Q r σ → rtk (yK Y) (yB Y) pc r → W p (oL o) e R s m args below meth c H locs cells slots Z (F0 m pc ls (r.map (cv o)))
end CX
def At (o : OM) (Y : Pk) (d : Nat) (Q : List AV → Sto → Prop) (pc : Nat) (S L : List AV) (σ : Sto) : Prop :=
  ∀ (p : Program) (e : Env) (R : Room) (s : State) (m : MethodId) (args : Array Value) (below : List Frame) (meth : Method) (c : Code) (cells slots : Nat) (Z : State → Prop), Cx o Y d Q p e R s m args below meth c cells slots Z →
    ∀ (H : Heap) (locs : List Loc) (ls : Array Slot), Hs o σ H → va_S (aA o) s.heap H locs → lv_has ls (yL Y) (cvL o 0 L) → okL S → okL L → W p (oL o) e R s m args below meth c H locs cells slots Z (F0 m pc ls (S.map (cv o)))
/-- a call that a method makes: the arguments' demand, then what comes back -/
def CallOK (o : OM) (Y : Pk) (d : Nat) (op : Instr) (E : Nat × Ctr) : Prop :=
  ∀ (Q : List AV → Sto → Prop) (p : Program) (e : Env) (R : Room) (s : State) (m : MethodId) (args : Array Value) (below : List Frame) (meth : Method) (c : Code) (cells slots : Nat) (Z : State → Prop), Cx o Y d Q p e R s m args below meth c cells slots Z →
    ∀ (H : Heap) (locs : List Loc) (ls : Array Slot) (pc : Nat) (A rest : List AV) (σ : Sto) (k : List AV → Sto → Prop), decode (yB Y) pc = .ok (op, 3) → Hs o σ H → va_S (aA o) s.heap H locs → ls.size = yL Y → okL A → okL rest → A.length = E.1 → catS rest ≤ 8 → E.2 A σ k →
      (∀ (r : List AV) (σ : Sto) (H : Heap) (locs : List Loc), k r σ → okL r → Hs o σ H → va_S (aA o) s.heap H locs → W p (oL o) e R s m args below meth c H locs cells slots Z (F0 m (pc + 3) ls ((r ++ rest).map (cv o)))) →
      W p (oL o) e R s m args below meth c H locs cells slots Z (F0 m pc ls ((A.reverse ++ rest).map (cv o)))
def rfv (o : OM) (q : Nat) : Value := match q with
  | 999 => .int 1
  | _ => .ref (oA o q)
/-- a reference out of the tables: a static row, a text -/
def RefOK (o : OM) (Y : Pk) (d : Nat) (i q : Nat) : Prop :=
  ∀ (op : Instr) (n : Nat), (op = .getstatic i ∧ n = 3 ∧ ¬ (q = 103 ∨ q = 104)) ∨ (op = .ldc i ∧ n = 2 ∧ (q = 103 ∨ q = 104)) → ∀ (Q : List AV → Sto → Prop) (p : Program) (e : Env) (R : Room) (s : State) (m : MethodId) (args : Array Value) (below : List Frame) (meth : Method) (c : Code) (cells slots : Nat) (Z : State → Prop), Cx o Y d Q p e R s m args below meth c cells slots Z →
    ∀ (H : Heap) (locs : List Loc) (ls : Array Slot) (pc : Nat) (rest : List Value), va_S (aA o) s.heap H locs → decode (yB Y) pc = .ok (op, n) →
      W p (oL o) e R s m args below meth c H locs cells slots Z (F0 m (pc + n) ls (rfv o q :: rest)) → W p (oL o) e R s m args below meth c H locs cells slots Z (F0 m pc ls rest)
/-- a field out of the tables: the code c says class, slot, kind -/
def FldOK (own : String) (i c : Nat) : Prop := ∃ (C : String) (T : u_T) (N : Nat) (ty : Nat → FieldType), vwCl[c / 1000]? = some (C, T, N) ∧ nfl (c / 1000) = N ∧ c / 10 % 100 < N ∧ ftg (c / 1000) (c / 10 % 100) = c % 10 ∧ (T (c / 10 % 100)).1 = C ∧ (∀ w ∈ u_ws C T N, w ∈ wsG) ∧
  (∀ k, k < N → parseFieldDescriptor (T k).2.2.1 = some (ty k)) ∧ (∀ a, a < N → ∀ b, b < N → a ≠ b → (T a).2.1 ≠ (T b).2.1) ∧
  (c % 10 = 0 → ty (c / 10 % 100) = .int) ∧ (c % 10 = 1 → ty (c / 10 % 100) = .long) ∧ (c % 10 = 3 → ty (c / 10 % 100) = .boolean) ∧ (¬ c % 10 = 2 → (T (c / 10 % 100)).2.2.2 = false) ∧
  (Cond.fieldLink own i C (T (c / 10 % 100)).2.1 (T (c / 10 % 100)).2.2.1 ∈ wsG ∨ ∃ host, Cond.fieldLinkNest own i C (T (c / 10 % 100)).2.1 (T (c / 10 % 100)).2.2.1 host ∈ nestW)
/-- a field of a text: value, coder -/
def StrOK (own : String) (i c : Nat) : Prop := own = "java/lang/String" ∧ ((c = 20002 ∧ Cond.fieldLink own i "java/lang/String" "value" "[B" ∈ wsG) ∨ (c = 20015 ∧ Cond.fieldLink own i "java/lang/String" "coder" "B" ∈ wsG))
def Ev (o : OM) (Y : Pk) (d : Nat) (T : Tb) (ca : List (Nat × Ctr)) : Prop := tM T = yL Y ∧ (∀ q ∈ tF T, FldOK (yN Y).cls q.1 q.2 ∨ StrOK (yN Y).cls q.1 q.2) ∧ (∀ q ∈ tI T, Cond.constant (yN Y).cls q.1 (Int32.ofInt q.2) ∈ wsG ∧ i32 q.2) ∧ (∀ q ∈ tJ T, Cond.constantLong (yN Y).cls q.1 (Int64.ofInt q.2) ∈ wsG ∧ i64 q.2) ∧
  (∀ q ∈ tR T, RefOK o Y d q.1 q.2) ∧ (∀ q ∈ tV T, CallOK o Y d (.invokevirtual q.1) (tbl dCa ca q.2)) ∧ (∀ q ∈ tS T, CallOK o Y d (.invokestatic q.1) (tbl dCa ca q.2))
-- the locals
theorem cvL_nth (o : OM) : ∀ (L : List AV) (i k : Nat) (v : AV), nth L i = v → v ≠ vX → (k + i, cv o v) ∈ cvL o k L
  | [], i, k, v, h, hv => by
    cases i <;> exact absurd h.symm hv
  | a :: t, 0, k, v, h, hv => by
    have h : a = v := h
    subst h
    rcases a with a | a | a | a
    · exact List.mem_cons_self
    · exact List.mem_cons_self
    · exact List.mem_cons_self
    · exact absurd rfl hv
  | a :: t, i + 1, k, v, h, hv => by
    have h1 := cvL_nth o t i (k + 1) v h hv
    rw [show k + 1 + i = k + (i + 1) by omega] at h1
    rcases a with a | a | a | a
    · exact List.mem_cons_of_mem _ h1
    · exact List.mem_cons_of_mem _ h1
    · exact List.mem_cons_of_mem _ h1
    · exact h1
theorem cvL_lo (o : OM) : ∀ (L : List AV) (k : Nat) (q : Nat × Value), q ∈ cvL o k L → k ≤ q.1
  | [], _, _, h => by cases h
  | a :: t, k, q, h => by
    rcases a with a | a | a | a
    all_goals first
      | (rcases List.mem_cons.mp h with rfl | h1
         · exact Nat.le_refl _
         · exact Nat.le_of_succ_le (cvL_lo o t (k + 1) q h1))
      | exact Nat.le_of_succ_le (cvL_lo o t (k + 1) q h)
theorem cvL_set (o : OM) : ∀ (L : List AV) (i k : Nat) (v : AV), canSet L i = true → ∀ q ∈ cvL o k (setL L i v), q = (k + i, cv o v) ∨ (q ∈ cvL o k L ∧ q.1 ≠ k + i ∧ (q.1 + 1 = k + i → q.2.category ≠ 2))
  | [], i, k, v, h, q, hq => by
    have h0 : i = 0 := by simpa [canSet] using h
    subst h0
    have hq : q ∈ cvL o k [v] := hq
    rcases v with a | a | a | a
    · exact Or.inl (by simpa [cvL] using hq)
    · exact Or.inl (by simpa [cvL] using hq)
    · exact Or.inl (by simpa [cvL] using hq)
    · cases hq
  | a :: t, 0, k, v, h, q, hq => by
    have hq : q ∈ cvL o k (v :: t) := hq
    have key : q = (k + 0, cv o v) ∨ q ∈ cvL o (k + 1) t := by
      rcases v with b | b | b | b
      · exact List.mem_cons.mp hq
      · exact List.mem_cons.mp hq
      · exact List.mem_cons.mp hq
      · exact Or.inr hq
    rcases key with h1 | h1
    · exact Or.inl h1
    · have h2 := cvL_lo o t (k + 1) q h1
      refine Or.inr ⟨?_, by omega, by omega⟩
      rcases a with b | b | b | b
      · exact List.mem_cons_of_mem _ h1
      · exact List.mem_cons_of_mem _ h1
      · exact List.mem_cons_of_mem _ h1
      · exact h1
  | a :: t, i + 1, k, v, h, q, hq => by
    have hq : q ∈ cvL o k (a :: setL t i v) := hq
    have key : ∀ w, cv o a = w → a ≠ vX → (q = (k, w) ∨ q ∈ cvL o (k + 1) (setL t i v)) := by
      intro w hw ha
      rcases a with b | b | b | b
      · subst hw; exact List.mem_cons.mp hq
      · subst hw; exact List.mem_cons.mp hq
      · subst hw; exact List.mem_cons.mp hq
      · exact absurd rfl ha
    have hcs : canSet t i = true := by
      rcases a with b | b | b | b
      · cases i <;> exact h
      · cases i with
        | zero => cases h
        | succ i => exact h
      · cases i <;> exact h
      · cases i <;> exact h
    have up : ∀ q, q ∈ cvL o (k + 1) t → q ∈ cvL o k (a :: t) := by
      intro q h1
      rcases a with b | b | b | b
      · exact List.mem_cons_of_mem _ h1
      · exact List.mem_cons_of_mem _ h1
      · exact List.mem_cons_of_mem _ h1
      · exact h1
    by_cases ha : a = vX
    · subst ha
      have hq : q ∈ cvL o (k + 1) (setL t i v) := hq
      rcases cvL_set o t i (k + 1) v hcs q hq with h1 | ⟨h1, h2, h3⟩
      · exact Or.inl (by rw [h1]; congr 1; omega)
      · exact Or.inr ⟨up q h1, by omega, fun e => h3 (by omega)⟩
    · rcases key _ rfl ha with h1 | hq
      · refine Or.inr ⟨?_, by rw [h1]; show k ≠ _; omega, ?_⟩
        · rw [h1]
          rcases a with b | b | b | b
          · exact List.mem_cons_self
          · exact List.mem_cons_self
          · exact List.mem_cons_self
          · exact absurd rfl ha
        · intro e hc
          rw [h1] at e hc
          have e : i = 0 := by have : k + 1 = k + (i + 1) := e; omega
          subst e
          rcases a with b | b | b | b
          · simp [cv, Value.category] at hc
          · cases h
          · simp [cv, Value.category] at hc
          · exact absurd rfl ha
      · rcases cvL_set o t i (k + 1) v hcs q hq with h1 | ⟨h1, h2, h3⟩
        · exact Or.inl (by rw [h1]; congr 1; omega)
        · exact Or.inr ⟨up q h1, by omega, fun e => h3 (by omega)⟩
theorem cvL_take (o : OM) : ∀ (L : List AV) (n k : Nat) (q : Nat × Value), q ∈ cvL o k (L.take n) → q ∈ cvL o k L
  | [], n, k, q, h => by simpa using h
  | a :: t, 0, k, q, h => by cases h
  | a :: t, n + 1, k, q, h => by
    have h : q ∈ cvL o k (a :: t.take n) := h
    rcases a with b | b | b | b
    · rcases List.mem_cons.mp h with h | h
      · exact List.mem_cons.mpr (Or.inl h)
      · exact List.mem_cons_of_mem _ (cvL_take o t n (k + 1) q h)
    · rcases List.mem_cons.mp h with h | h
      · exact List.mem_cons.mpr (Or.inl h)
      · exact List.mem_cons_of_mem _ (cvL_take o t n (k + 1) q h)
    · rcases List.mem_cons.mp h with h | h
      · exact List.mem_cons.mpr (Or.inl h)
      · exact List.mem_cons_of_mem _ (cvL_take o t n (k + 1) q h)
    · exact cvL_take o t n (k + 1) q h
theorem lv_mono {ls : Array Slot} {n : Nat} {l l' : List (Nat × Value)} (h : lv_has ls n l) (hs : ∀ q ∈ l', q ∈ l) : lv_has ls n l' := ⟨h.1, h.2.1, fun q hq => h.2.2 q (hs q hq)⟩
theorem okL_take {L : List AV} (h : okL L) (n : Nat) : okL (L.take n) := fun v hv => h v (List.mem_of_mem_take hv)
theorem okL_nth {L : List AV} (h : okL L) (n : Nat) : okv (nth L n) := by
  induction L generalizing n with
  | nil => cases n <;> exact trivial
  | cons a t ih =>
    cases n with
    | zero => exact h a List.mem_cons_self
    | succ n => exact ih (fun v hv => h v (List.mem_cons_of_mem _ hv)) n
theorem okL_set {L : List AV} (h : okL L) {v : AV} (hv : okv v) (n : Nat) : okL (setL L n v) := by
  induction L generalizing n with
  | nil => intro w hw; rw [List.mem_singleton.mp hw]; exact hv
  | cons a t ih =>
    cases n with
    | zero =>
      intro w hw
      rcases List.mem_cons.mp hw with rfl | hw
      · exact hv
      · exact h w (List.mem_cons_of_mem _ hw)
    | succ n =>
      intro w hw
      rcases List.mem_cons.mp hw with rfl | hw
      · exact h w List.mem_cons_self
      · exact ih (fun v hv => h v (List.mem_cons_of_mem _ hv)) n w hw
theorem okL_cons {v : AV} {L : List AV} : okL (v :: L) ↔ okv v ∧ okL L := ⟨fun h => ⟨h v List.mem_cons_self, fun w hw => h w (List.mem_cons_of_mem _ hw)⟩, fun h w hw => (List.mem_cons.mp hw).elim (fun e => e ▸ h.1) (h.2 w)⟩
theorem okL_app {L M : List AV} (h : okL L) (g : okL M) : okL (L ++ M) := fun v hv => (List.mem_append.mp hv).elim (h v) (g v)
/-- storing one value into the locals -/
theorem lv_st {o : OM} {n i : Nat} {L : List AV} {v : AV} (h : canSet L i = true) {lv' : List (Nat × Value)} {ls' : Array Slot} (hl : lv' = (i, cv o v) :: (cvL o 0 L).filter (fun q => !(q.1 == i) && !(q.1 + 1 == i && q.2.category == 2))) (hh : lv_has ls' n lv') : lv_has ls' n (cvL o 0 (setL L i v)) := by
  refine lv_mono hh fun q hq => ?_
  rw [hl]
  rcases cvL_set o L i 0 v h q hq with h1 | ⟨h1, h2, h3⟩
  · rw [h1, Nat.zero_add]; exact List.mem_cons_self
  · refine List.mem_cons_of_mem _ (List.mem_filter.mpr ⟨h1, ?_⟩)
    rw [Nat.zero_add] at h2 h3
    by_cases e : q.1 + 1 = i
    · simp [h2, e, h3 e]
    · simp [h2, e]
theorem setL_X {o : OM} : ∀ (L : List AV) (i k : Nat) (q : Nat × Value), q ∈ cvL o k (setL L i vX) → (q ∈ cvL o k L ∧ q.1 ≠ k + i)
  | [], i, k, q, h => by cases h
  | a :: t, 0, k, q, h => by
    have h : q ∈ cvL o (k + 1) t := h
    have h2 := cvL_lo o t (k + 1) q h
    refine ⟨?_, by omega⟩
    rcases a with b | b | b | b
    · exact List.mem_cons_of_mem _ h
    · exact List.mem_cons_of_mem _ h
    · exact List.mem_cons_of_mem _ h
    · exact h
  | a :: t, i + 1, k, q, h => by
    have h : q ∈ cvL o k (a :: setL t i vX) := h
    rcases a with b | b | b | b
    all_goals first
      | (rcases List.mem_cons.mp h with h1 | h1
         · exact ⟨by rw [h1]; exact List.mem_cons_self, by rw [h1]; show k ≠ _; omega⟩
         · obtain ⟨h2, h3⟩ := setL_X t i (k + 1) q h1
           exact ⟨List.mem_cons_of_mem _ h2, by omega⟩)
      | (obtain ⟨h2, h3⟩ := setL_X t i (k + 1) q h
         exact ⟨h2, by omega⟩)
theorem lv_st2 {o : OM} {n i : Nat} {L : List AV} {v : AV} (h : canSet L i = true) {lv' : List (Nat × Value)} {ls' : Array Slot} (hl : lv' = (i, cv o v) :: (cvL o 0 L).filter (fun q => !(q.1 == i) && (!(q.1 == i + 1) && !(q.1 + 1 == i && q.2.category == 2)))) (hh : lv_has ls' n lv') : lv_has ls' n (cvL o 0 (setL (setL L i v) (i + 1) vX)) := by
  refine lv_mono hh fun q hq => ?_
  rw [hl]
  obtain ⟨hq, hq2⟩ := setL_X _ _ _ q hq
  rcases cvL_set o L i 0 v h q hq with h1 | ⟨h1, h2, h3⟩
  · rw [h1, Nat.zero_add]; exact List.mem_cons_self
  · refine List.mem_cons_of_mem _ (List.mem_filter.mpr ⟨h1, ?_⟩)
    rw [Nat.zero_add] at h2 h3 hq2
    by_cases e : q.1 + 1 = i
    · simp [h2, e, h3 e, hq2]
    · simp [h2, e, hq2]
end
section
-- ===== a block's demand brings the machine to its end =====
theorem grd_s {α : Type} {b : Bool} {x : Option α} {y : α} (h : grd b x = some y) : b = true ∧ x = some y := by
  unfold grd at h
  split at h
  · exact ⟨by assumption, h⟩
  · cases h
theorem map_s {α β : Type} {x : Option α} {f : α → β} {y : β} (h : x.map f = some y) : ∃ a, x = some a ∧ f a = y := by
  cases x with
  | none => cases h
  | some a => exact ⟨a, rfl, by cases h; rfl⟩
theorem shp_3 : ∀ q ci : Nat, shp q = (3, ci) → ci < 10 → q < NP := by
  intro q ci h hc
  have h1 : ∀ q, q < 107 → (shp q).1 = 3 → (shp q).2 < 10 → q < NP := by decide +kernel
  by_cases hq : q < 107
  · exact h1 q hq (by rw [h]) (by rw [h]; exact hc)
  · exfalso
    unfold shp at h
    split at h <;> first | omega | (cases h)
theorem shp_012 : ∀ q : Nat, (shp q).1 ≤ 2 → q < NP := by
  intro q h
  have h1 : ∀ q, q < 107 → (shp q).1 ≤ 2 → q < NP := by decide +kernel
  by_cases hq : q < 107
  · exact h1 q hq h
  · exfalso
    unfold shp at h
    split at h <;> first | omega | (revert h; decide)
theorem shp_4 : ∀ q : Nat, (shp q).1 = 4 → q = 98 ∨ q = 99 ∨ q = 100 ∨ q = 101 := by
  intro q h
  have h1 : ∀ q, q < 107 → (shp q).1 = 4 → q = 98 ∨ q = 99 ∨ q = 100 ∨ q = 101 := by decide +kernel
  by_cases hq : q < 107
  · exact h1 q hq h
  · exfalso
    unfold shp at h
    split at h <;> first | omega | (revert h; decide)
theorem shp_5 : ∀ q : Nat, (shp q).1 = 5 → q = 102 := by
  intro q h
  have h1 : ∀ q, q < 107 → (shp q).1 = 5 → q = 102 := by decide +kernel
  by_cases hq : q < 107
  · exact h1 q hq h
  · exfalso
    unfold shp at h
    split at h <;> first | omega | (revert h; decide)
theorem shp_7 : ∀ q : Nat, (shp q).1 = 7 → q = 105 ∨ q = 106 := by
  intro q h
  have h1 : ∀ q, q < 107 → (shp q).1 = 7 → q = 105 ∨ q = 106 := by decide +kernel
  by_cases hq : q < 107
  · exact h1 q hq h
  · exfalso
    unfold shp at h
    split at h <;> first | omega | (revert h; decide)
theorem shp_20 : ∀ q : Nat, shp q = (3, 20) → q = 103 ∨ q = 104 := by
  intro q h
  have h1 : ∀ q, q < 107 → shp q = (3, 20) → q = 103 ∨ q = 104 := by decide +kernel
  by_cases hq : q < 107
  · exact h1 q hq h
  · exfalso
    unfold shp at h
    split at h <;> first | omega | (revert h; decide)
theorem stc_in : ∀ q j : Nat, i32 ((stc q).getD j 0) := by
  intro q j
  have h0 : ∀ (l : List Int), (∀ v ∈ l, i32 v) → i32 (l.getD j 0) := by
    intro l hl
    rw [List.getD_eq_getElem?_getD]
    cases h : l[j]? with
    | none => exact i32_0
    | some v => exact hl v (List.mem_of_getElem? h)
  apply h0
  unfold stc
  split <;> (unfold i32; decide)
theorem lng_not {q : Nat} {i : Int} (h : ¬ (shp q).1 = 3) : ¬ lng q i := fun z => h z.1
theorem su_okv {σ : Sto} {q : Nat} {i x : Int} (h : okS σ) (hk : ¬ (shp q).1 = 3) (hx : i32 x) : okS (su σ q i x) := okS_su h ⟨fun z => absurd z (lng_not hk), fun _ => hx⟩
theorem okS_at {σ : Sto} {q : Nat} {i : Int} (h : okS σ) (hk : ¬ (shp q).1 = 3) : i32 (σ q i) := (h q i).2 (lng_not hk)
theorem scr_su {o : OM} {σ : Sto} {q : Nat} {i x : Int} (h : scr o σ) (hq : q < NP) : scr o (su σ q i x) := by
  have hne : ∀ k, NP ≤ k → su σ q i x k = σ k := fun k hk => su_ne k (by omega)
  unfold scr
  rw [hne 102 (by decide), hne 103 (by decide), hne 104 (by decide)]
  exact h
theorem nar_z {x : Int} (h : x = 0 ∨ x = 1) : vp_nar .boolean (Int32.ofInt x) = Int32.ofInt x := by rcases h with rfl | rfl <;> decide
theorem nar_z2 {x : Int} (h : x = 0 ∨ x = 1) : narrow .boolean (.int (Int32.ofInt x)) = .int (Int32.ofInt x) ∧ fits .boolean (.int (Int32.ofInt x)) = true := by rcases h with rfl | rfl <;> exact ⟨by decide, by decide⟩
theorem upd_of {σ : Sto} {q : Nat} {i x : Int} (hi : i32 i) (h0 : 0 ≤ i) : upd (fun j : Nat => Int32.ofInt (σ q (j : Int))) (Int32.ofInt i).toNatClampNeg (Int32.ofInt x) = fun j : Nat => Int32.ofInt (su σ q i x q (j : Int)) := by
  funext j
  rw [clampI hi h0, su_eq]
  unfold upd
  by_cases h : j = i.toNat
  · have : (j : Int) = i := by omega
    rw [if_pos h]
    show _ = Int32.ofInt (if (j : Int) = i then x else σ q j)
    rw [if_pos this]
  · have : ¬ (j : Int) = i := by omega
    rw [if_neg h]
    show _ = Int32.ofInt (if (j : Int) = i then x else σ q j)
    rw [if_neg this]
theorem fld_cv {o : OM} {σ : Sto} {q c ci : Nat} (hq : shp q = (3, ci)) (ht : ftg ci (c / 10 % 100) = c % 10) : fld o σ q (c / 10 % 100) = cv o (rdF c q σ) := by
  unfold fld rdF
  rw [hq]
  show (match ftg ci (c / 10 % 100) with | 1 => _ | 2 => _ | _ => _) = _
  rw [ht]
  generalize c % 10 = t
  rcases t with _ | _ | _ | t <;> rfl
theorem rdF_ok {σ : Sto} {q c ci : Nat} (h : okS σ) (hq : shp q = (3, ci)) (ht : ftg ci (c / 10 % 100) = c % 10) : okv (rdF c q σ) := by
  have hl : ∀ x : Int, x = ((c / 10 % 100 : Nat) : Int) → (lng q x ↔ c % 10 = 1) := by
    intro x hx
    subst hx
    unfold lng
    rw [hq, Int.toNat_natCast, ht]
    simp
  have h1 := h q ((c / 10 % 100 : Nat) : Int)
  rw [hl _ rfl] at h1
  unfold rdF
  generalize hc : c % 10 = t at h1
  rcases t with _ | _ | _ | t
  · exact h1.2 (by omega)
  · exact h1.1 rfl
  · trivial
  · exact h1.2 (by omega)
theorem fs_at {o : OM} {σ : Sto} {q N k : Nat} (hk : k < N) : ((List.range N).map (fld o σ q))[k]? = some (fld o σ q k) := by
  rw [List.getElem?_map, List.getElem?_range hk]
  rfl
theorem fs_set {o : OM} {σ σ' : Sto} {q N k : Nat} {v : Value} (hv : v = fld o σ' q k) (hne : ∀ j, j ≠ k → fld o σ' q j = fld o σ q j) : ((List.range N).map (fld o σ q)).set k v = (List.range N).map (fld o σ' q) := by
  apply List.ext_getElem?
  intro j
  by_cases hj : j = k
  · subst hj
    by_cases hN : j < N
    · rw [List.getElem?_set_self (by simp [hN]), fs_at hN, hv]
    · rw [List.getElem?_eq_none (by simp; omega), List.getElem?_eq_none (by simp; omega)]
  · rw [List.getElem?_set_ne (Ne.symm hj), List.getElem?_map, List.getElem?_map]
    by_cases hN : j < N
    · rw [List.getElem?_range hN]
      simp [hne j hj]
    · rw [List.getElem?_eq_none (by simp; omega)]
      rfl
theorem cel_3 {o : OM} {σ : Sto} {q ci : Nat} (h : shp q = (3, ci)) : cel o σ q = .inr (ci, (List.range (nfl ci)).map (fld o σ q)) := by
  unfold cel
  rw [h]; rfl
theorem cel_0 {o : OM} {σ : Sto} {q : Nat} (h : (shp q).1 = 0) : cel o σ q = .inl (oC o 0, (shp q).2, .inl (fun j => Int32.ofInt (σ q j))) := by
  unfold cel
  rw [h]; rfl
theorem cel_1 {o : OM} {σ : Sto} {q : Nat} (h : (shp q).1 = 1) : cel o σ q = .inl (oC o 1, (shp q).2, .inl (fun j => Int32.ofInt (σ q j))) := by
  unfold cel
  rw [h]; rfl
theorem cel_2 {o : OM} {σ : Sto} {q : Nat} (h : (shp q).1 = 2) : cel o σ q = .inl (oC o 2, (shp q).2, .inr (.inr (.inr (.inr (fun j => some (oA o (rfs q j))))))) := by
  unfold cel
  rw [h]; rfl
theorem lg_c {a b : Int} (ha : i64 a) (hb : i64 b) : lg_cmp (Int64.ofInt a) (Int64.ofInt b) = Int32.ofInt (lCmp a b) := by
  unfold lg_cmp lCmp
  by_cases h : b < a
  · rw [if_pos h, if_pos ((i64_lt hb ha).mpr h)]; rfl
  · rw [if_neg h, if_neg (fun z => h ((i64_lt hb ha).mp z))]
    by_cases e : a = b
    · rw [if_pos e, if_pos ((i64_eq ha hb).mpr e)]; rfl
    · rw [if_neg e, if_neg (fun z => e ((i64_eq ha hb).mp z))]; rfl
theorem lCmp_in (a b : Int) : i32 (lCmp a b) := by
  unfold lCmp i32
  split
  · decide
  · split <;> decide
theorem swK_at {lv : List (Nat × Nat)} {K : Nat → List AV → List AV → Sto → Prop} {S L : List AV} {σ : Sto} : ∀ (os : List Int) (x lo : Int), swK lv K S L σ x lo os → ∀ (j : Nat) (t : Int), os[j]? = some t → x = lo + j → K t.toNat S (tk lv t.toNat L) σ
  | [], _, _, _, j, t, h, _ => by simp at h
  | a :: os, x, lo, h, 0, t, hj, hx => by
    have : a = t := by simpa using hj
    subst this
    exact h.1 (by simpa using hx)
  | a :: os, x, lo, h, j + 1, t, hj, hx => swK_at os x (lo + 1) h.2 j t (by simpa using hj) (by rw [hx]; push_cast; omega)
theorem b8 {v : Int} (h1 : -128 ≤ v) (h2 : v ≤ 127) : (Int8.ofInt v).toInt32 = Int32.ofInt v := by
  rw [← Int32.toInt_inj, Int8.toInt_toInt32, i32_to ⟨by omega, by omega⟩, Int8.toInt_ofInt]
  exact Int.bmod_eq_of_le (by simp [Int8.size]; omega) (by simp [Int8.size]; omega)
theorem b16 {v : Int} (h1 : -32768 ≤ v) (h2 : v ≤ 32767) : (Int16.ofInt v).toInt32 = Int32.ofInt v := by
  rw [← Int32.toInt_inj, Int16.toInt_toInt32, i32_to ⟨by omega, by omega⟩, Int16.toInt_ofInt]
  exact Int.bmod_eq_of_le (by simp [Int16.size]; omega) (by simp [Int16.size]; omega)
theorem rfv_ne {o : OM} {q : Nat} (h : ¬ q = 999) : rfv o q = .ref (oA o q) := by
  unfold rfv
  split
  · exact absurd rfl h
  · rfl
theorem len_ofInt (n : Nat) : Int32.ofNat n = Int32.ofInt (n : Int) := rfl
theorem len_in (q : Nat) : i32 ((shp q).2 : Int) := by
  have h : (shp q).2 ≤ 3072 := by
    unfold shp
    split <;> decide
  constructor <;> omega
theorem putf_c {ca : List (Nat × Ctr)} {lv : List (Nat × Nat)} {rt : Nat} {K : Nat → List AV → List AV → Sto → Prop} {Q : List AV → Sto → Prop} {cd : Nat} {S L : List AV} {σ : Sto} {k : List AV → List AV → Sto → Prop} (hw : step ca lv rt K Q (.putfield cd) S L σ k) :
    ∃ (v : AV) (x : Int) (q : Nat) (S1 : List AV), S = v :: vR q :: S1 ∧ shp q = (3, cd / 1000) ∧ k S1 L (su σ q ((cd / 10 % 100 : Nat) : Int) x) ∧ ((cd % 10 = 0 ∧ v = vI x) ∨ (cd % 10 = 1 ∧ v = vL x) ∨ (cd % 10 = 3 ∧ v = vI x ∧ (x = 0 ∨ x = 1))) := by
  simp only [step] at hw
  split at hw
  · rename_i h; exact ⟨_, _, _, _, rfl, hw.1, hw.2, Or.inl ⟨h, rfl⟩⟩
  · rename_i h; exact ⟨_, _, _, _, rfl, hw.1, hw.2, Or.inr (Or.inl ⟨h, rfl⟩)⟩
  · rename_i h; exact ⟨_, _, _, _, rfl, hw.1, hw.2.2, Or.inr (Or.inr ⟨h, rfl, hw.2.1⟩)⟩
  · exact hw.elim
end
section
-- ===== THE MACHINE DOES WHAT A BLOCK ASKS =====
set_option maxHeartbeats 8000000 in
set_option maxRecDepth 20000 in
theorem at_wp {o : OM} {Y : Pk} {d : Nat} {Q : List AV → Sto → Prop} {T : Tb} {ca : List (Nat × Ctr)} {lv : List (Nat × Nat)} {K : Nat → List AV → List AV → Sto → Prop} {f : Nat} (hEv : Ev o Y d T ca) (hK : ∀ t S L σ, K t S L σ → At o Y d Q t S L σ) :
    ∀ (is : List Instr) (pc : Nat) (S L : List AV) (σ : Sto), chk T (yB Y) f is pc = true → wp ca lv (yK Y) K Q f is S L σ → At o Y d Q pc S L σ
  | [], pc, S, L, σ, hc, hw => by
    have hc : pc = f := by simpa [chk] using hc
    subst hc
    intro p e R s m args below meth c cells slots Z C0 H locs ls hH hS hl hoS hoL
    exact hK _ _ _ _ hw p e R s m args below meth c cells slots Z C0 H locs ls hH hS (lv_mono hl (fun q hq => cvL_take o L _ 0 q hq)) hoS (okL_take hoL _)
  | i :: r, pc, S, L, σ, hc, hw => by
    intro p e R s m args below meth c cells slots Z C0 H locs ls hH hS hl hoS hoL
    obtain ⟨hx, hb, hml, hown, hts, hst, hR, hret⟩ := id C0
    obtain ⟨hEM, hEF, hEI, hEJ, hER, hEV, hES⟩ := id hEv
    unfold chk at hc
    cases hdec : decode (yB Y) pc with
    | error x => rw [hdec] at hc; cases hc
    | ok jn =>
    obtain ⟨j, n⟩ := jn
    rw [hdec] at hc
    have hc2 : rz T pc n j = some i ∧ chk T (yB Y) f r (pc + n) = true := by simpa using hc
    obtain ⟨hz, hchk⟩ := hc2
    have go : ∀ (S L : List AV) (σ : Sto) (H : Heap) (locs : List Loc) (ls : Array Slot), wp ca lv (yK Y) K Q f r S L σ → Hs o σ H → va_S (aA o) s.heap H locs → lv_has ls (yL Y) (cvL o 0 L) → okL S → okL L → W p (oL o) e R s m args below meth c H locs cells slots Z (F0 m (pc + n) ls (S.map (cv o))) := fun S L σ H locs ls h1 h2 h3 h4 h5 h6 => at_wp hEv hK r (pc + n) S L σ hchk h1 p e R s m args below meth c cells slots Z C0 H locs ls h2 h3 h4 h5 h6
    have jmp : ∀ (t : Nat) (S : List AV), K t S (tk lv t L) σ → okL S → W p (oL o) e R s m args below meth c H locs cells slots Z (F0 m t ls (S.map (cv o))) := fun t S h1 h2 => hK _ _ _ _ h1 p e R s m args below meth c cells slots Z C0 H locs ls hH hS (lv_mono hl (fun q hq => cvL_take o L _ 0 q hq)) h2 (okL_take hoL _)
    have hw : step ca lv (yK Y) K Q i S L σ (wp ca lv (yK Y) K Q f r) := hw
    cases j

    case iconst v =>
      obtain ⟨hn, hi⟩ := grd_s hz
      cases hi
      simp only [Bool.and_eq_true, beq_iff_eq, decide_eq_true_eq] at hn
      obtain ⟨⟨hn, h1⟩, h2⟩ := hn
      subst hn
      exact lv_iconst hx hb hdec rfl (go (vI v :: S) L σ H locs ls hw hH hS hl (okL_cons.mpr ⟨⟨by omega, by omega⟩, hoS⟩) hoL)
    case bipush v =>
      obtain ⟨hn, hi⟩ := grd_s hz
      cases hi
      simp only [Bool.and_eq_true, beq_iff_eq, decide_eq_true_eq] at hn
      obtain ⟨⟨hn, h1⟩, h2⟩ := hn
      subst hn
      exact lv_bipush hx hb hdec (b8 h1 h2) (go (vI v :: S) L σ H locs ls hw hH hS hl (okL_cons.mpr ⟨⟨by omega, by omega⟩, hoS⟩) hoL)
    case sipush v =>
      obtain ⟨hn, hi⟩ := grd_s hz
      cases hi
      simp only [Bool.and_eq_true, beq_iff_eq, decide_eq_true_eq] at hn
      obtain ⟨⟨hn, h1⟩, h2⟩ := hn
      subst hn
      exact lv_sipush hx hb hdec (b16 h1 h2) (go (vI v :: S) L σ H locs ls hw hH hS hl (okL_cons.mpr ⟨⟨by omega, by omega⟩, hoS⟩) hoL)
    case ldc ix =>
      obtain ⟨hn, hi⟩ := grd_s hz
      have hn : n = 2 := by simpa using hn
      subst hn
      cases hlk : look (tI T) ix with
      | some v =>
        rw [hlk] at hi
        cases hi
        obtain ⟨h1, h2⟩ := hEI _ (look_mem hlk)
        exact lv_ldc hx hb hown (hts _ h1) hdec (go (vI v :: S) L σ H locs ls hw hH hS hl (okL_cons.mpr ⟨h2, hoS⟩) hoL)
      | none =>
        rw [hlk] at hi
        have hi : (match look (tR T) ix with
          | some q => grd (q == 103 || q == 104) (some (Instr.anewarray q))
          | none => none) = some i := hi
        cases hq : look (tR T) ix with
        | none => rw [hq] at hi; cases hi
        | some q =>
          rw [hq] at hi
          obtain ⟨h3, hi⟩ := grd_s hi
          cases hi
          have h3 : q = 103 ∨ q = 104 := by simpa using h3
          have h9 : ¬ q = 999 := by omega
          have h := go (vR q :: S) L σ H locs ls hw hH hS hl (okL_cons.mpr ⟨trivial, hoS⟩) hoL
          exact hER _ (look_mem hq) _ _ (Or.inr ⟨rfl, rfl, h3⟩) Q p e R s m args below meth c cells slots Z C0 H locs ls pc _ hS hdec (by rw [rfv_ne h9]; exact h)
    case ldc_w ix =>
      obtain ⟨hn, hi⟩ := grd_s hz
      have hn : n = 3 := by simpa using hn
      subst hn
      obtain ⟨v, hq, rfl⟩ := map_s hi
      obtain ⟨h1, h2⟩ := hEI _ (look_mem hq)
      exact lv_ldcw hx hb hown (hts _ h1) hdec (go (vI v :: S) L σ H locs ls hw hH hS hl (okL_cons.mpr ⟨h2, hoS⟩) hoL)
    case ldc2_w ix =>
      obtain ⟨hn, hi⟩ := grd_s hz
      have hn : n = 3 := by simpa using hn
      subst hn
      obtain ⟨v, hq, rfl⟩ := map_s hi
      obtain ⟨h1, h2⟩ := hEJ _ (look_mem hq)
      exact lv_ldc2 hx hb hown (hts _ h1) hdec (go (vL v :: S) L σ H locs ls hw hH hS hl (okL_cons.mpr ⟨h2, hoS⟩) hoL)
    case lconst v =>
      obtain ⟨hn, hi⟩ := grd_s hz
      have hn : n = 1 := by simpa using hn
      subst hn
      cases hi
      exact lv_lconst hx hb hdec rfl (go (vL v.val :: S) L σ H locs ls hw hH hS hl (okL_cons.mpr ⟨⟨by omega, by omega⟩, hoS⟩) hoL)
    case getstatic ix =>
      obtain ⟨hn, hi⟩ := grd_s hz
      have hn : n = 3 := by simpa using hn
      subst hn
      have hi : (match look (tR T) ix with
        | some q => if q = 999 then some (.iconst 1) else grd (!(q == 103 || q == 104)) (some (Instr.anewarray q))
        | none => none) = some i := hi
      cases hlk : look (tR T) ix with
      | none => rw [hlk] at hi; cases hi
      | some q =>
        rw [hlk] at hi
        have hi : (if q = 999 then some (.iconst 1) else grd (!(q == 103 || q == 104)) (some (Instr.anewarray q))) = some i := hi
        by_cases h9 : q = 999
        · subst h9
          cases hi
          exact hER _ (look_mem hlk) _ _ (Or.inl ⟨rfl, rfl, show ¬ ((999 : Nat) = 103 ∨ (999 : Nat) = 104) by decide⟩) Q p e R s m args below meth c cells slots Z C0 H locs ls pc _ hS hdec (go (vI 1 :: S) L σ H locs ls hw hH hS hl (okL_cons.mpr ⟨⟨by decide, by decide⟩, hoS⟩) hoL)
        · rw [if_neg h9] at hi
          obtain ⟨h3, hi⟩ := grd_s hi
          cases hi
          have h3 : ¬ (q = 103 ∨ q = 104) := by simpa using h3
          have h := go (vR q :: S) L σ H locs ls hw hH hS hl (okL_cons.mpr ⟨trivial, hoS⟩) hoL
          exact hER _ (look_mem hlk) _ _ (Or.inl ⟨rfl, rfl, h3⟩) Q p e R s m args below meth c cells slots Z C0 H locs ls pc _ hS hdec (by rw [rfv_ne h9]; exact h)
    case iload_n v =>
      obtain ⟨hn, hi⟩ := grd_s hz
      have hn : n = 1 := by simpa using hn
      subst hn
      cases hi
      have hv := okL_nth hoL (v.val)
      have hm : ∀ w, nth L (v.val) = w → w ≠ vX → ls[(v.val)]? = some (.val (cv o w)) := fun w h1 h2 => by
        have := hl.2.2 _ (cvL_nth o L (v.val) 0 w h1 h2)
        rwa [Nat.zero_add] at this
      have hw : (match nth L (v.val) with | .inl x => wp ca lv (yK Y) K Q f r (vI x :: S) L σ | _ => False) := hw
      generalize hnt : nth L (v.val) = w at hw hv
      rcases w with x | x | x | x
      · exact lv_iload_n hx hb hdec rfl (hm _ hnt (by intro z; cases z)) (go (vI x :: S) L σ H locs ls hw hH hS hl (okL_cons.mpr ⟨hv, hoS⟩) hoL)
      · exact False.elim hw
      · exact False.elim hw
      · exact False.elim hw
    case iload v =>
      obtain ⟨hn, hi⟩ := grd_s hz
      have hn : n = 2 := by simpa using hn
      subst hn
      cases hi
      have hv := okL_nth hoL (v)
      have hm : ∀ w, nth L (v) = w → w ≠ vX → ls[(v)]? = some (.val (cv o w)) := fun w h1 h2 => by
        have := hl.2.2 _ (cvL_nth o L (v) 0 w h1 h2)
        rwa [Nat.zero_add] at this
      have hw : (match nth L (v) with | .inl x => wp ca lv (yK Y) K Q f r (vI x :: S) L σ | _ => False) := hw
      generalize hnt : nth L (v) = w at hw hv
      rcases w with x | x | x | x
      · exact lv_iload hx hb hdec (hm _ hnt (by intro z; cases z)) (go (vI x :: S) L σ H locs ls hw hH hS hl (okL_cons.mpr ⟨hv, hoS⟩) hoL)
      · exact False.elim hw
      · exact False.elim hw
      · exact False.elim hw
    case lload_n v =>
      obtain ⟨hn, hi⟩ := grd_s hz
      have hn : n = 1 := by simpa using hn
      subst hn
      cases hi
      have hv := okL_nth hoL (v.val)
      have hm : ∀ w, nth L (v.val) = w → w ≠ vX → ls[(v.val)]? = some (.val (cv o w)) := fun w h1 h2 => by
        have := hl.2.2 _ (cvL_nth o L (v.val) 0 w h1 h2)
        rwa [Nat.zero_add] at this
      have hw : (match nth L (v.val) with | .inr (.inl x) => wp ca lv (yK Y) K Q f r (vL x :: S) L σ | _ => False) := hw
      generalize hnt : nth L (v.val) = w at hw hv
      rcases w with x | x | x | x
      · exact False.elim hw
      · exact lv_lload_n hx hb hdec rfl (hm _ hnt (by intro z; cases z)) (go (vL x :: S) L σ H locs ls hw hH hS hl (okL_cons.mpr ⟨hv, hoS⟩) hoL)
      · exact False.elim hw
      · exact False.elim hw
    case lload v =>
      obtain ⟨hn, hi⟩ := grd_s hz
      have hn : n = 2 := by simpa using hn
      subst hn
      cases hi
      have hv := okL_nth hoL (v)
      have hm : ∀ w, nth L (v) = w → w ≠ vX → ls[(v)]? = some (.val (cv o w)) := fun w h1 h2 => by
        have := hl.2.2 _ (cvL_nth o L (v) 0 w h1 h2)
        rwa [Nat.zero_add] at this
      have hw : (match nth L (v) with | .inr (.inl x) => wp ca lv (yK Y) K Q f r (vL x :: S) L σ | _ => False) := hw
      generalize hnt : nth L (v) = w at hw hv
      rcases w with x | x | x | x
      · exact False.elim hw
      · exact lv_lload hx hb hdec (hm _ hnt (by intro z; cases z)) (go (vL x :: S) L σ H locs ls hw hH hS hl (okL_cons.mpr ⟨hv, hoS⟩) hoL)
      · exact False.elim hw
      · exact False.elim hw
    case aload_n v =>
      obtain ⟨hn, hi⟩ := grd_s hz
      have hn : n = 1 := by simpa using hn
      subst hn
      cases hi
      have hv := okL_nth hoL (v.val)
      have hm : ∀ w, nth L (v.val) = w → w ≠ vX → ls[(v.val)]? = some (.val (cv o w)) := fun w h1 h2 => by
        have := hl.2.2 _ (cvL_nth o L (v.val) 0 w h1 h2)
        rwa [Nat.zero_add] at this
      have hw : (match nth L (v.val) with | .inr (.inr (.inl x)) => wp ca lv (yK Y) K Q f r (vR x :: S) L σ | _ => False) := hw
      generalize hnt : nth L (v.val) = w at hw hv
      rcases w with x | x | x | x
      · exact False.elim hw
      · exact False.elim hw
      · exact lv_aload_n hx hb hdec rfl (hm _ hnt (by intro z; cases z)) (go (vR x :: S) L σ H locs ls hw hH hS hl (okL_cons.mpr ⟨hv, hoS⟩) hoL)
      · exact False.elim hw
    case aload v =>
      obtain ⟨hn, hi⟩ := grd_s hz
      have hn : n = 2 := by simpa using hn
      subst hn
      cases hi
      have hv := okL_nth hoL (v)
      have hm : ∀ w, nth L (v) = w → w ≠ vX → ls[(v)]? = some (.val (cv o w)) := fun w h1 h2 => by
        have := hl.2.2 _ (cvL_nth o L (v) 0 w h1 h2)
        rwa [Nat.zero_add] at this
      have hw : (match nth L (v) with | .inr (.inr (.inl x)) => wp ca lv (yK Y) K Q f r (vR x :: S) L σ | _ => False) := hw
      generalize hnt : nth L (v) = w at hw hv
      rcases w with x | x | x | x
      · exact False.elim hw
      · exact False.elim hw
      · exact lv_aload hx hb hdec (hm _ hnt (by intro z; cases z)) (go (vR x :: S) L σ H locs ls hw hH hS hl (okL_cons.mpr ⟨hv, hoS⟩) hoL)
      · exact False.elim hw
    case istore_n v =>
      obtain ⟨hn, hi⟩ := grd_s hz
      cases hi
      simp only [Bool.and_eq_true, beq_iff_eq, decide_eq_true_eq] at hn
      obtain ⟨hn, hlt⟩ := hn
      subst hn
      rw [hEM] at hlt
      rcases S with _ | ⟨x | x | x | x, S⟩ <;> try exact False.elim hw
      obtain ⟨hx1, hoS⟩ := okL_cons.mp hoS
      obtain ⟨hc1, hw⟩ : canSet L (v.val) = true ∧ wp ca lv (yK Y) K Q f r S (setL L (v.val) (vI x)) σ := hw
      exact lv_istore_n hx hb hdec rfl hl hlt rfl (fun ls2 hl2 => go S _ σ H locs ls2 hw hH hS (lv_st (v := vI x) hc1 rfl hl2) hoS (okL_set hoL hx1 _))
    case istore v =>
      obtain ⟨hn, hi⟩ := grd_s hz
      cases hi
      simp only [Bool.and_eq_true, beq_iff_eq, decide_eq_true_eq] at hn
      obtain ⟨hn, hlt⟩ := hn
      subst hn
      rw [hEM] at hlt
      rcases S with _ | ⟨x | x | x | x, S⟩ <;> try exact False.elim hw
      obtain ⟨hx1, hoS⟩ := okL_cons.mp hoS
      obtain ⟨hc1, hw⟩ : canSet L (v) = true ∧ wp ca lv (yK Y) K Q f r S (setL L (v) (vI x)) σ := hw
      exact lv_istore hx hb hdec hl hlt rfl (fun ls2 hl2 => go S _ σ H locs ls2 hw hH hS (lv_st (v := vI x) hc1 rfl hl2) hoS (okL_set hoL hx1 _))
    case lstore_n v =>
      obtain ⟨hn, hi⟩ := grd_s hz
      cases hi
      simp only [Bool.and_eq_true, beq_iff_eq, decide_eq_true_eq] at hn
      obtain ⟨hn, hlt⟩ := hn
      subst hn
      rw [hEM] at hlt
      rcases S with _ | ⟨x | x | x | x, S⟩ <;> try exact False.elim hw
      obtain ⟨hx1, hoS⟩ := okL_cons.mp hoS
      obtain ⟨hc1, hw⟩ : canSet L (v.val) = true ∧ wp ca lv (yK Y) K Q f r S (setL (setL L (v.val) (vL x)) (v.val + 1) vX) σ := hw
      exact lv_lstore_n hx hb hdec rfl hl hlt rfl (fun ls2 hl2 => go S _ σ H locs ls2 hw hH hS (lv_st2 (v := vL x) hc1 rfl hl2) hoS (okL_set (okL_set hoL hx1 _) (v := vX) trivial _))
    case lstore v =>
      obtain ⟨hn, hi⟩ := grd_s hz
      cases hi
      simp only [Bool.and_eq_true, beq_iff_eq, decide_eq_true_eq] at hn
      obtain ⟨hn, hlt⟩ := hn
      subst hn
      rw [hEM] at hlt
      rcases S with _ | ⟨x | x | x | x, S⟩ <;> try exact False.elim hw
      obtain ⟨hx1, hoS⟩ := okL_cons.mp hoS
      obtain ⟨hc1, hw⟩ : canSet L (v) = true ∧ wp ca lv (yK Y) K Q f r S (setL (setL L (v) (vL x)) (v + 1) vX) σ := hw
      exact lv_lstore hx hb hdec hl hlt rfl (fun ls2 hl2 => go S _ σ H locs ls2 hw hH hS (lv_st2 (v := vL x) hc1 rfl hl2) hoS (okL_set (okL_set hoL hx1 _) (v := vX) trivial _))
    case astore_n v =>
      obtain ⟨hn, hi⟩ := grd_s hz
      cases hi
      simp only [Bool.and_eq_true, beq_iff_eq, decide_eq_true_eq] at hn
      obtain ⟨hn, hlt⟩ := hn
      subst hn
      rw [hEM] at hlt
      rcases S with _ | ⟨x | x | x | x, S⟩ <;> try exact False.elim hw
      obtain ⟨hx1, hoS⟩ := okL_cons.mp hoS
      obtain ⟨hc1, hw⟩ : canSet L (v.val) = true ∧ wp ca lv (yK Y) K Q f r S (setL L (v.val) (vR x)) σ := hw
      exact lv_astore_n hx hb hdec rfl hl hlt rfl (fun ls2 hl2 => go S _ σ H locs ls2 hw hH hS (lv_st (v := vR x) hc1 rfl hl2) hoS (okL_set hoL hx1 _))
    case astore v =>
      obtain ⟨hn, hi⟩ := grd_s hz
      cases hi
      simp only [Bool.and_eq_true, beq_iff_eq, decide_eq_true_eq] at hn
      obtain ⟨hn, hlt⟩ := hn
      subst hn
      rw [hEM] at hlt
      rcases S with _ | ⟨x | x | x | x, S⟩ <;> try exact False.elim hw
      obtain ⟨hx1, hoS⟩ := okL_cons.mp hoS
      obtain ⟨hc1, hw⟩ : canSet L (v) = true ∧ wp ca lv (yK Y) K Q f r S (setL L (v) (vR x)) σ := hw
      exact lv_astore hx hb hdec hl hlt rfl (fun ls2 hl2 => go S _ σ H locs ls2 hw hH hS (lv_st (v := vR x) hc1 rfl hl2) hoS (okL_set hoL hx1 _))
    case iinc v k =>
      obtain ⟨hn, hi⟩ := grd_s hz
      cases hi
      simp only [Bool.and_eq_true, beq_iff_eq, decide_eq_true_eq] at hn
      obtain ⟨hn, hlt⟩ := hn
      subst hn
      rw [hEM] at hlt
      have hw : (match nth L v with | .inl x => canSet L v = true ∧ i32 (x + k) ∧ wp ca lv (yK Y) K Q f r S (setL L v (vI (x + k))) σ | _ => False) := hw
      generalize hnt : nth L v = w at hw
      rcases w with x | x | x | x
      · obtain ⟨hc1, hi1, hw⟩ := hw
        obtain ⟨k0, hk0⟩ := List.getElem?_of_mem (cvL_nth o L v 0 _ hnt (by intro z; cases z))
        rw [Nat.zero_add] at hk0
        exact lv_iinc (v := Int32.ofInt (x + k)) hx hb hdec hl hk0 (Int32.ofInt_add x k).symm hlt rfl (fun ls2 hl2 => go S _ σ H locs ls2 hw hH hS (lv_st (v := vI (x + k)) hc1 rfl hl2) hoS (okL_set hoL (v := vI (x + k)) hi1 _))
      · exact False.elim hw
      · exact False.elim hw
      · exact False.elim hw
    case iadd =>
      obtain ⟨hn, hi⟩ := grd_s hz
      have hn : n = 1 := by simpa using hn
      subst hn
      cases hi
      rcases S with _ | ⟨b | b | b | b, S⟩ <;> try exact False.elim hw
      rcases S with _ | ⟨a | a | a | a, S⟩ <;> try exact False.elim hw
      obtain ⟨hb1, hoS⟩ := okL_cons.mp hoS
      obtain ⟨ha1, hoS⟩ := okL_cons.mp hoS
      obtain ⟨hi1, hw⟩ : i32 (a + b) ∧ wp ca lv (yK Y) K Q f r (vI (a + b) :: S) L σ := hw
      refine lv_iadd hx hb hdec ?_
      rw [← Int32.ofInt_add]
      exact go (vI (a + b) :: S) L σ H locs ls hw hH hS hl (okL_cons.mpr ⟨hi1, hoS⟩) hoL
    case isub =>
      obtain ⟨hn, hi⟩ := grd_s hz
      have hn : n = 1 := by simpa using hn
      subst hn
      cases hi
      rcases S with _ | ⟨b | b | b | b, S⟩ <;> try exact False.elim hw
      rcases S with _ | ⟨a | a | a | a, S⟩ <;> try exact False.elim hw
      obtain ⟨hb1, hoS⟩ := okL_cons.mp hoS
      obtain ⟨ha1, hoS⟩ := okL_cons.mp hoS
      obtain ⟨hi1, hw⟩ : i32 (a - b) ∧ wp ca lv (yK Y) K Q f r (vI (a - b) :: S) L σ := hw
      refine lv_isub hx hb hdec ?_
      rw [← Int32.ofInt_sub]
      exact go (vI (a - b) :: S) L σ H locs ls hw hH hS hl (okL_cons.mpr ⟨hi1, hoS⟩) hoL
    case imul =>
      obtain ⟨hn, hi⟩ := grd_s hz
      have hn : n = 1 := by simpa using hn
      subst hn
      cases hi
      rcases S with _ | ⟨b | b | b | b, S⟩ <;> try exact False.elim hw
      rcases S with _ | ⟨a | a | a | a, S⟩ <;> try exact False.elim hw
      obtain ⟨hb1, hoS⟩ := okL_cons.mp hoS
      obtain ⟨ha1, hoS⟩ := okL_cons.mp hoS
      obtain ⟨hi1, hw⟩ : i32 (a * b) ∧ wp ca lv (yK Y) K Q f r (vI (a * b) :: S) L σ := hw
      refine lv_imul hx hb hdec ?_
      rw [← Int32.ofInt_mul]
      exact go (vI (a * b) :: S) L σ H locs ls hw hH hS hl (okL_cons.mpr ⟨hi1, hoS⟩) hoL
    case ineg =>
      obtain ⟨hn, hi⟩ := grd_s hz
      have hn : n = 1 := by simpa using hn
      subst hn
      cases hi
      rcases S with _ | ⟨a | a | a | a, S⟩ <;> try exact False.elim hw
      obtain ⟨ha1, hoS⟩ := okL_cons.mp hoS
      obtain ⟨hi1, hw⟩ : i32 (-a) ∧ wp ca lv (yK Y) K Q f r (vI (-a) :: S) L σ := hw
      refine lv_ineg hx hb hdec ?_
      rw [← Int32.ofInt_neg]
      exact go (vI (-a) :: S) L σ H locs ls hw hH hS hl (okL_cons.mpr ⟨hi1, hoS⟩) hoL
    case idiv =>
      obtain ⟨hn, hi⟩ := grd_s hz
      have hn : n = 1 := by simpa using hn
      subst hn
      cases hi
      rcases S with _ | ⟨b | b | b | b, S⟩ <;> try exact False.elim hw
      rcases S with _ | ⟨a | a | a | a, S⟩ <;> try exact False.elim hw
      obtain ⟨hb1, hoS⟩ := okL_cons.mp hoS
      obtain ⟨ha1, hoS⟩ := okL_cons.mp hoS
      obtain ⟨h0, hw⟩ : 0 < b ∧ wp ca lv (yK Y) K Q f r (vI (Int.tdiv a b) :: S) L σ := hw
      refine lv_idiv hx hb hdec (fun z => by have := (i32_eq hb1 i32_0).mp z; omega) ?_
      rw [i32_div ha1 hb1 h0]
      exact go (vI (Int.tdiv a b) :: S) L σ H locs ls hw hH hS hl (okL_cons.mpr ⟨tdiv_in ha1 h0, hoS⟩) hoL
    case irem =>
      obtain ⟨hn, hi⟩ := grd_s hz
      have hn : n = 1 := by simpa using hn
      subst hn
      cases hi
      rcases S with _ | ⟨b | b | b | b, S⟩ <;> try exact False.elim hw
      rcases S with _ | ⟨a | a | a | a, S⟩ <;> try exact False.elim hw
      obtain ⟨hb1, hoS⟩ := okL_cons.mp hoS
      obtain ⟨ha1, hoS⟩ := okL_cons.mp hoS
      obtain ⟨h0, hw⟩ : 0 < b ∧ wp ca lv (yK Y) K Q f r (vI (Int.tmod a b) :: S) L σ := hw
      refine lv_irem hx hb hdec (fun z => by have := (i32_eq hb1 i32_0).mp z; omega) ?_
      rw [i32_rem ha1 hb1 h0]
      exact go (vI (Int.tmod a b) :: S) L σ H locs ls hw hH hS hl (okL_cons.mpr ⟨tmod_in ha1 h0, hoS⟩) hoL
    case ldiv =>
      obtain ⟨hn, hi⟩ := grd_s hz
      have hn : n = 1 := by simpa using hn
      subst hn
      cases hi
      rcases S with _ | ⟨b | b | b | b, S⟩ <;> try exact False.elim hw
      rcases S with _ | ⟨a | a | a | a, S⟩ <;> try exact False.elim hw
      obtain ⟨hb1, hoS⟩ := okL_cons.mp hoS
      obtain ⟨ha1, hoS⟩ := okL_cons.mp hoS
      obtain ⟨h0, hw⟩ : 0 < b ∧ wp ca lv (yK Y) K Q f r (vL (Int.tdiv a b) :: S) L σ := hw
      refine lv_ldiv hx hb hdec (fun z => by have := (i64_eq (b := 0) hb1 ⟨by decide, by decide⟩).mp z; omega) ?_
      rw [i64_div ha1 hb1 h0]
      exact go (vL (Int.tdiv a b) :: S) L σ H locs ls hw hH hS hl (okL_cons.mpr ⟨tdiv_in64 ha1 h0, hoS⟩) hoL
    case lrem =>
      obtain ⟨hn, hi⟩ := grd_s hz
      have hn : n = 1 := by simpa using hn
      subst hn
      cases hi
      rcases S with _ | ⟨b | b | b | b, S⟩ <;> try exact False.elim hw
      rcases S with _ | ⟨a | a | a | a, S⟩ <;> try exact False.elim hw
      obtain ⟨hb1, hoS⟩ := okL_cons.mp hoS
      obtain ⟨ha1, hoS⟩ := okL_cons.mp hoS
      obtain ⟨h0, hw⟩ : 0 < b ∧ wp ca lv (yK Y) K Q f r (vL (Int.tmod a b) :: S) L σ := hw
      refine lv_lrem hx hb hdec (fun z => by have := (i64_eq (b := 0) hb1 ⟨by decide, by decide⟩).mp z; omega) ?_
      rw [i64_rem ha1 hb1 h0]
      exact go (vL (Int.tmod a b) :: S) L σ H locs ls hw hH hS hl (okL_cons.mpr ⟨tmod_in64 ha1 h0, hoS⟩) hoL
    case iand =>
      obtain ⟨hn, hi⟩ := grd_s hz
      have hn : n = 1 := by simpa using hn
      subst hn
      cases hi
      rcases S with _ | ⟨b | b | b | b, S⟩ <;> try exact False.elim hw
      rcases S with _ | ⟨a | a | a | a, S⟩ <;> try exact False.elim hw
      obtain ⟨hb1, hoS⟩ := okL_cons.mp hoS
      obtain ⟨ha1, hoS⟩ := okL_cons.mp hoS
      have h := go (vI (bAnd a b) :: S) L σ H locs ls hw hH hS hl (okL_cons.mpr ⟨i32_in _, hoS⟩) hoL
      refine lv_iand hx hb hdec ?_
      rw [List.map_cons, show cv o (vI (bAnd a b)) = .int _ from congrArg Value.int (of32 _)] at h
      exact h
    case ior =>
      obtain ⟨hn, hi⟩ := grd_s hz
      have hn : n = 1 := by simpa using hn
      subst hn
      cases hi
      rcases S with _ | ⟨b | b | b | b, S⟩ <;> try exact False.elim hw
      rcases S with _ | ⟨a | a | a | a, S⟩ <;> try exact False.elim hw
      obtain ⟨hb1, hoS⟩ := okL_cons.mp hoS
      obtain ⟨ha1, hoS⟩ := okL_cons.mp hoS
      have h := go (vI (bOr a b) :: S) L σ H locs ls hw hH hS hl (okL_cons.mpr ⟨i32_in _, hoS⟩) hoL
      refine lv_ior hx hb hdec ?_
      rw [List.map_cons, show cv o (vI (bOr a b)) = .int _ from congrArg Value.int (of32 _)] at h
      exact h
    case ixor =>
      obtain ⟨hn, hi⟩ := grd_s hz
      have hn : n = 1 := by simpa using hn
      subst hn
      cases hi
      rcases S with _ | ⟨b | b | b | b, S⟩ <;> try exact False.elim hw
      rcases S with _ | ⟨a | a | a | a, S⟩ <;> try exact False.elim hw
      obtain ⟨hb1, hoS⟩ := okL_cons.mp hoS
      obtain ⟨ha1, hoS⟩ := okL_cons.mp hoS
      have h := go (vI (bXor a b) :: S) L σ H locs ls hw hH hS hl (okL_cons.mpr ⟨i32_in _, hoS⟩) hoL
      refine lv_ixor hx hb hdec ?_
      rw [List.map_cons, show cv o (vI (bXor a b)) = .int _ from congrArg Value.int (of32 _)] at h
      exact h
    case ishl =>
      obtain ⟨hn, hi⟩ := grd_s hz
      have hn : n = 1 := by simpa using hn
      subst hn
      cases hi
      rcases S with _ | ⟨b | b | b | b, S⟩ <;> try exact False.elim hw
      rcases S with _ | ⟨a | a | a | a, S⟩ <;> try exact False.elim hw
      obtain ⟨hb1, hoS⟩ := okL_cons.mp hoS
      obtain ⟨ha1, hoS⟩ := okL_cons.mp hoS
      have h := go (vI (bShl a b) :: S) L σ H locs ls hw hH hS hl (okL_cons.mpr ⟨i32_in _, hoS⟩) hoL
      refine lv_ishl hx hb hdec ?_
      rw [List.map_cons, show cv o (vI (bShl a b)) = .int _ from congrArg Value.int (of32 _)] at h
      exact h
    case ishr =>
      obtain ⟨hn, hi⟩ := grd_s hz
      have hn : n = 1 := by simpa using hn
      subst hn
      cases hi
      rcases S with _ | ⟨b | b | b | b, S⟩ <;> try exact False.elim hw
      rcases S with _ | ⟨a | a | a | a, S⟩ <;> try exact False.elim hw
      obtain ⟨hb1, hoS⟩ := okL_cons.mp hoS
      obtain ⟨ha1, hoS⟩ := okL_cons.mp hoS
      have h := go (vI (bShr a b) :: S) L σ H locs ls hw hH hS hl (okL_cons.mpr ⟨i32_in _, hoS⟩) hoL
      refine lv_ishr hx hb hdec ?_
      rw [List.map_cons, show cv o (vI (bShr a b)) = .int _ from congrArg Value.int (of32 _)] at h
      exact h
    case iushr =>
      obtain ⟨hn, hi⟩ := grd_s hz
      have hn : n = 1 := by simpa using hn
      subst hn
      cases hi
      rcases S with _ | ⟨b | b | b | b, S⟩ <;> try exact False.elim hw
      rcases S with _ | ⟨a | a | a | a, S⟩ <;> try exact False.elim hw
      obtain ⟨hb1, hoS⟩ := okL_cons.mp hoS
      obtain ⟨ha1, hoS⟩ := okL_cons.mp hoS
      exact lv_iushr (v := Int32.ofInt (bUshr a b)) hx hb hdec (of32 _).symm (go (vI (bUshr a b) :: S) L σ H locs ls hw hH hS hl (okL_cons.mpr ⟨i32_in _, hoS⟩) hoL)
    case ladd =>
      obtain ⟨hn, hi⟩ := grd_s hz
      have hn : n = 1 := by simpa using hn
      subst hn
      cases hi
      rcases S with _ | ⟨b | b | b | b, S⟩ <;> try exact False.elim hw
      rcases S with _ | ⟨a | a | a | a, S⟩ <;> try exact False.elim hw
      obtain ⟨hb1, hoS⟩ := okL_cons.mp hoS
      obtain ⟨ha1, hoS⟩ := okL_cons.mp hoS
      have h := go (vL (w64 (a + b)) :: S) L σ H locs ls hw hH hS hl (okL_cons.mpr ⟨i64_in _, hoS⟩) hoL
      refine lv_ladd hx hb hdec ?_
      rw [← Int64.ofInt_add]
      rw [List.map_cons, show cv o (vL (w64 (a + b))) = .long _ from congrArg Value.long (of64 _)] at h
      exact h
    case lmul =>
      obtain ⟨hn, hi⟩ := grd_s hz
      have hn : n = 1 := by simpa using hn
      subst hn
      cases hi
      rcases S with _ | ⟨b | b | b | b, S⟩ <;> try exact False.elim hw
      rcases S with _ | ⟨a | a | a | a, S⟩ <;> try exact False.elim hw
      obtain ⟨hb1, hoS⟩ := okL_cons.mp hoS
      obtain ⟨ha1, hoS⟩ := okL_cons.mp hoS
      have h := go (vL (w64 (a * b)) :: S) L σ H locs ls hw hH hS hl (okL_cons.mpr ⟨i64_in _, hoS⟩) hoL
      refine lv_lmul hx hb hdec ?_
      rw [← Int64.ofInt_mul]
      rw [List.map_cons, show cv o (vL (w64 (a * b))) = .long _ from congrArg Value.long (of64 _)] at h
      exact h
    case land =>
      obtain ⟨hn, hi⟩ := grd_s hz
      have hn : n = 1 := by simpa using hn
      subst hn
      cases hi
      rcases S with _ | ⟨b | b | b | b, S⟩ <;> try exact False.elim hw
      rcases S with _ | ⟨a | a | a | a, S⟩ <;> try exact False.elim hw
      obtain ⟨hb1, hoS⟩ := okL_cons.mp hoS
      obtain ⟨ha1, hoS⟩ := okL_cons.mp hoS
      have h := go (vL (lAnd a b) :: S) L σ H locs ls hw hH hS hl (okL_cons.mpr ⟨i64_in _, hoS⟩) hoL
      refine lv_land hx hb hdec ?_
      rw [List.map_cons, show cv o (vL (lAnd a b)) = .long _ from congrArg Value.long (of64 _)] at h
      exact h
    case lor =>
      obtain ⟨hn, hi⟩ := grd_s hz
      have hn : n = 1 := by simpa using hn
      subst hn
      cases hi
      rcases S with _ | ⟨b | b | b | b, S⟩ <;> try exact False.elim hw
      rcases S with _ | ⟨a | a | a | a, S⟩ <;> try exact False.elim hw
      obtain ⟨hb1, hoS⟩ := okL_cons.mp hoS
      obtain ⟨ha1, hoS⟩ := okL_cons.mp hoS
      have h := go (vL (lOr a b) :: S) L σ H locs ls hw hH hS hl (okL_cons.mpr ⟨i64_in _, hoS⟩) hoL
      refine lv_lor hx hb hdec ?_
      rw [List.map_cons, show cv o (vL (lOr a b)) = .long _ from congrArg Value.long (of64 _)] at h
      exact h
    case lshl =>
      obtain ⟨hn, hi⟩ := grd_s hz
      have hn : n = 1 := by simpa using hn
      subst hn
      cases hi
      rcases S with _ | ⟨b | b | b | b, S⟩ <;> try exact False.elim hw
      rcases S with _ | ⟨a | a | a | a, S⟩ <;> try exact False.elim hw
      obtain ⟨hb1, hoS⟩ := okL_cons.mp hoS
      obtain ⟨ha1, hoS⟩ := okL_cons.mp hoS
      exact lv_lshl (v := Int64.ofInt (lShl a b)) hx hb hdec (of64 _).symm (go (vL (lShl a b) :: S) L σ H locs ls hw hH hS hl (okL_cons.mpr ⟨i64_in _, hoS⟩) hoL)
    case lushr =>
      obtain ⟨hn, hi⟩ := grd_s hz
      have hn : n = 1 := by simpa using hn
      subst hn
      cases hi
      rcases S with _ | ⟨b | b | b | b, S⟩ <;> try exact False.elim hw
      rcases S with _ | ⟨a | a | a | a, S⟩ <;> try exact False.elim hw
      obtain ⟨hb1, hoS⟩ := okL_cons.mp hoS
      obtain ⟨ha1, hoS⟩ := okL_cons.mp hoS
      exact lv_lushr (v := Int64.ofInt (lUshr a b)) hx hb hdec (of64 _).symm (go (vL (lUshr a b) :: S) L σ H locs ls hw hH hS hl (okL_cons.mpr ⟨i64_in _, hoS⟩) hoL)
    case lcmp =>
      obtain ⟨hn, hi⟩ := grd_s hz
      have hn : n = 1 := by simpa using hn
      subst hn
      cases hi
      rcases S with _ | ⟨b | b | b | b, S⟩ <;> try exact False.elim hw
      rcases S with _ | ⟨a | a | a | a, S⟩ <;> try exact False.elim hw
      obtain ⟨hb1, hoS⟩ := okL_cons.mp hoS
      obtain ⟨ha1, hoS⟩ := okL_cons.mp hoS
      refine W.lcmp hx hb hdec ?_
      rw [lg_c ha1 hb1]
      exact go (vI (lCmp a b) :: S) L σ H locs ls hw hH hS hl (okL_cons.mpr ⟨lCmp_in a b, hoS⟩) hoL
    case i2l =>
      obtain ⟨hn, hi⟩ := grd_s hz
      have hn : n = 1 := by simpa using hn
      subst hn
      cases hi
      rcases S with _ | ⟨a | a | a | a, S⟩ <;> try exact False.elim hw
      obtain ⟨ha1, hoS⟩ := okL_cons.mp hoS
      have ha1 : i32 a := ha1
      exact lv_i2l hx hb hdec (i32_i64 ha1) (go (vL a :: S) L σ H locs ls hw hH hS hl (okL_cons.mpr ⟨⟨by have := ha1.1; omega, by have := ha1.2; omega⟩, hoS⟩) hoL)
    case l2i =>
      obtain ⟨hn, hi⟩ := grd_s hz
      have hn : n = 1 := by simpa using hn
      subst hn
      cases hi
      rcases S with _ | ⟨a | a | a | a, S⟩ <;> try exact False.elim hw
      obtain ⟨ha1, hoS⟩ := okL_cons.mp hoS
      exact lv_l2i (v := Int32.ofInt (w32 a)) hx hb hdec (by unfold w32; rw [of32]; exact Int64.toInt32_ofInt) (go (vI (w32 a) :: S) L σ H locs ls hw hH hS hl (okL_cons.mpr ⟨i32_in _, hoS⟩) hoL)
    case i2c =>
      obtain ⟨hn, hi⟩ := grd_s hz
      have hn : n = 1 := by simpa using hn
      subst hn
      cases hi
      rcases S with _ | ⟨a | a | a | a, S⟩ <;> try exact False.elim hw
      obtain ⟨ha1, hoS⟩ := okL_cons.mp hoS
      exact lv_i2c (v := Int32.ofInt (bChr a)) hx hb hdec (of32 _).symm (go (vI (bChr a) :: S) L σ H locs ls hw hH hS hl (okL_cons.mpr ⟨i32_in _, hoS⟩) hoL)
    case i2b =>
      obtain ⟨hn, hi⟩ := grd_s hz
      have hn : n = 1 := by simpa using hn
      subst hn
      cases hi
      rcases S with _ | ⟨a | a | a | a, S⟩ <;> try exact False.elim hw
      obtain ⟨ha1, hoS⟩ := okL_cons.mp hoS
      exact lv_i2b (v := Int32.ofInt (bI8 a)) hx hb hdec (of32 _).symm (go (vI (bI8 a) :: S) L σ H locs ls hw hH hS hl (okL_cons.mpr ⟨i32_in _, hoS⟩) hoL)
    case dup =>
      obtain ⟨hn, hi⟩ := grd_s hz
      have hn : n = 1 := by simpa using hn
      subst hn
      cases hi
      rcases S with _ | ⟨a | a | a | a, S⟩ <;> try exact False.elim hw
      · obtain ⟨ha1, hoS'⟩ := okL_cons.mp hoS
        exact lv_dup hx hb hdec rfl (go (vI a :: vI a :: S) L σ H locs ls hw hH hS hl (okL_cons.mpr ⟨ha1, hoS⟩) hoL)
      · obtain ⟨ha1, hoS'⟩ := okL_cons.mp hoS
        exact lv_dup hx hb hdec rfl (go (vR a :: vR a :: S) L σ H locs ls hw hH hS hl (okL_cons.mpr ⟨ha1, hoS⟩) hoL)
    case dup2 =>
      obtain ⟨hn, hi⟩ := grd_s hz
      have hn : n = 1 := by simpa using hn
      subst hn
      cases hi
      rcases S with _ | ⟨a | a | a | a, S⟩ <;> try exact False.elim hw
      rcases S with _ | ⟨b | b | b | b, S⟩ <;> try exact False.elim hw
      obtain ⟨ha1, hoS1⟩ := okL_cons.mp hoS
      obtain ⟨hb1, hoS2⟩ := okL_cons.mp hoS1
      exact lv_dup2_11 hx hb hdec rfl rfl (go (vI a :: vR b :: vI a :: vR b :: S) L σ H locs ls hw hH hS hl (okL_cons.mpr ⟨ha1, okL_cons.mpr ⟨hb1, hoS⟩⟩) hoL)
    case pop =>
      obtain ⟨hn, hi⟩ := grd_s hz
      have hn : n = 1 := by simpa using hn
      subst hn
      cases hi
      rcases S with _ | ⟨a | a | a | a, S⟩ <;> try exact False.elim hw
      obtain ⟨ha1, hoS⟩ := okL_cons.mp hoS
      exact lv_pop hx hb hdec rfl (go S L σ H locs ls hw hH hS hl hoS hoL)
    case goto of =>
      obtain ⟨hn, hi⟩ := grd_s hz
      cases hi
      simp only [Bool.and_eq_true, beq_iff_eq, decide_eq_true_eq] at hn
      obtain ⟨hn, ht⟩ := hn
      subst hn
      have htt : (pc : Int) + of = ((abso pc of).toNat : Int) := by rw [Int.toNat_of_nonneg ht]; rfl
      exact lv_goto hx hb hdec htt (jmp _ S hw hoS)
    case if_icmp cd of =>
      obtain ⟨hn, hi⟩ := grd_s hz
      cases hi
      simp only [Bool.and_eq_true, beq_iff_eq, decide_eq_true_eq] at hn
      obtain ⟨hn, ht⟩ := hn
      subst hn
      have htt : (pc : Int) + of = ((abso pc of).toNat : Int) := by rw [Int.toNat_of_nonneg ht]; rfl
      rcases S with _ | ⟨b | b | b | b, S⟩ <;> try exact False.elim hw
      rcases S with _ | ⟨a | a | a | a, S⟩ <;> try exact False.elim hw
      obtain ⟨hb1, hoS⟩ := okL_cons.mp hoS
      obtain ⟨ha1, hoS⟩ := okL_cons.mp hoS
      obtain ⟨k1, k2⟩ : (cmpI cd a b → K (abso pc of).toNat S (tk lv (abso pc of).toNat L) σ) ∧ (¬ cmpI cd a b → wp ca lv (yK Y) K Q f r S L σ) := hw
      cases cd
      · exact lv_icmp_eq hx hb hdec htt (fun z => jmp _ S (k1 ((i32_eq ha1 hb1).mp z)) hoS) (fun z => go S L σ H locs ls (k2 (fun y => z ((i32_eq ha1 hb1).mpr y))) hH hS hl hoS hoL)
      · exact lv_icmp_ne hx hb hdec htt (fun z => jmp _ S (k1 (fun y => z ((i32_eq ha1 hb1).mpr y))) hoS) (fun z => go S L σ H locs ls (k2 (fun y => y ((i32_eq ha1 hb1).mp z))) hH hS hl hoS hoL)
      · exact lv_icmp_lt hx hb hdec htt (fun z => jmp _ S (k1 ((i32_lt ha1 hb1).mp z)) hoS) (fun z => go S L σ H locs ls (k2 (fun y => z ((i32_lt ha1 hb1).mpr y))) hH hS hl hoS hoL)
      · exact lv_icmp_ge hx hb hdec htt (fun z => jmp _ S (k1 ((i32_le hb1 ha1).mp z)) hoS) (fun z => go S L σ H locs ls (k2 (fun y => z ((i32_le hb1 ha1).mpr y))) hH hS hl hoS hoL)
      · exact lv_icmp_gt hx hb hdec htt (fun z => jmp _ S (k1 ((i32_lt hb1 ha1).mp z)) hoS) (fun z => go S L σ H locs ls (k2 (fun y => z ((i32_lt hb1 ha1).mpr y))) hH hS hl hoS hoL)
      · exact lv_icmp_le hx hb hdec htt (fun z => jmp _ S (k1 ((i32_le ha1 hb1).mp z)) hoS) (fun z => go S L σ H locs ls (k2 (fun y => z ((i32_le ha1 hb1).mpr y))) hH hS hl hoS hoL)
    case ifCond cd of =>
      obtain ⟨hn, hi⟩ := grd_s hz
      cases hi
      simp only [Bool.and_eq_true, beq_iff_eq, decide_eq_true_eq] at hn
      obtain ⟨hn, ht⟩ := hn
      subst hn
      have htt : (pc : Int) + of = ((abso pc of).toNat : Int) := by rw [Int.toNat_of_nonneg ht]; rfl
      rcases S with _ | ⟨a | a | a | a, S⟩ <;> try exact False.elim hw
      obtain ⟨ha1, hoS⟩ := okL_cons.mp hoS
      obtain ⟨k1, k2⟩ : (cmpI cd a 0 → K (abso pc of).toNat S (tk lv (abso pc of).toNat L) σ) ∧ (¬ cmpI cd a 0 → wp ca lv (yK Y) K Q f r S L σ) := hw
      cases cd
      · exact lv_if_eq hx hb hdec htt (fun z => jmp _ S (k1 ((i32_eq ha1 i32_0).mp z)) hoS) (fun z => go S L σ H locs ls (k2 (fun y => z ((i32_eq ha1 i32_0).mpr y))) hH hS hl hoS hoL)
      · exact lv_if_ne hx hb hdec htt (fun z => jmp _ S (k1 (fun y => z ((i32_eq ha1 i32_0).mpr y))) hoS) (fun z => go S L σ H locs ls (k2 (fun y => y ((i32_eq ha1 i32_0).mp z))) hH hS hl hoS hoL)
      · exact lv_if_lt hx hb hdec htt (fun z => jmp _ S (k1 ((i32_lt ha1 i32_0).mp z)) hoS) (fun z => go S L σ H locs ls (k2 (fun y => z ((i32_lt ha1 i32_0).mpr y))) hH hS hl hoS hoL)
      · exact lv_if_ge hx hb hdec htt (fun z => jmp _ S (k1 ((i32_le i32_0 ha1).mp z)) hoS) (fun z => go S L σ H locs ls (k2 (fun y => z ((i32_le i32_0 ha1).mpr y))) hH hS hl hoS hoL)
      · exact lv_if_gt hx hb hdec htt (fun z => jmp _ S (k1 ((i32_lt i32_0 ha1).mp z)) hoS) (fun z => go S L σ H locs ls (k2 (fun y => z ((i32_lt i32_0 ha1).mpr y))) hH hS hl hoS hoL)
      · exact lv_if_le hx hb hdec htt (fun z => jmp _ S (k1 ((i32_le ha1 i32_0).mp z)) hoS) (fun z => go S L σ H locs ls (k2 (fun y => z ((i32_le ha1 i32_0).mpr y))) hH hS hl hoS hoL)
    case tableswitch df lo hi os =>
      obtain ⟨hn, hi⟩ := grd_s hz
      cases hi
      simp only [Bool.and_eq_true, decide_eq_true_eq, List.all_eq_true] at hn
      obtain ⟨⟨hd0, hall⟩, hlen⟩ := hn
      rcases S with _ | ⟨x | x | x | x, S⟩ <;> try exact False.elim hw
      obtain ⟨hx1, hoS⟩ := okL_cons.mp hoS
      have hx1 : i32 x := hx1
      obtain ⟨k1, k2⟩ : swK lv K S L σ x lo (os.toList.map (abso pc)).toArray.toList ∧ (x < lo ∨ hi < x → K (abso pc df).toNat S (tk lv (abso pc df).toNat L) σ) := hw
      by_cases hin : x < lo ∨ hi < x
      · exact lv_tableOut (tgt := (abso pc df).toNat) hx hb hdec (by rw [i32_to hx1]; exact hin) (by rw [Int.toNat_of_nonneg hd0]; rfl) (jmp _ S (k2 hin) hoS)
      · have hj : (x - lo).toNat < os.toList.length := by omega
        have ho : os.toList[(x - lo).toNat]? = some (os.toList[(x - lo).toNat]) := List.getElem?_eq_getElem hj
        have h0 := hall _ (List.mem_of_getElem? ho)
        exact lv_tableIn (tgt := (abso pc (os.toList[(x - lo).toNat])).toNat) hx hb hdec (by rw [i32_to hx1]; omega) (by rw [i32_to hx1]; omega) (by rw [i32_to hx1, ← Array.getElem?_toList]; exact ho) (by rw [Int.toNat_of_nonneg h0]; rfl) (jmp _ S (swK_at _ x lo k1 (x - lo).toNat _ (by rw [List.toList_toArray, List.getElem?_map, ho]; rfl) (by omega)) hoS)
    case getfield ix =>
      obtain ⟨hn, hi⟩ := grd_s hz
      have hn : n = 3 := by simpa using hn
      subst hn
      obtain ⟨cd, hq, rfl⟩ := map_s hi
      rcases S with _ | ⟨q | q | q | q, S⟩ <;> try exact False.elim hw
      replace hoS := (okL_cons.mp hoS).2
      obtain ⟨hs1, hw⟩ : shp q = (3, cd / 1000) ∧ wp ca lv (yK Y) K Q f r (rdF cd q σ :: S) L σ := hw
      rcases hEF _ (look_mem hq) with hF | hF
      · obtain ⟨C, TT, N, ty, g1, g2, g3, g4, g5, g6, g7, g8, g9, g10, g11, g12, g13⟩ := hF
        have hci : cd / 1000 < 10 := (List.getElem?_eq_some_iff.mp g1).1
        have hqN := shp_3 q _ hs1 hci
        have he := wsO_get o σ hqN
        rw [cel_3 hs1, g2] at he
        have hk : W p (oL o) e R s m args below meth c H locs cells slots Z (F0 m (pc + 3) ls (fld o σ q (cd / 10 % 100) :: S.map (cv o))) := by
          rw [fld_cv hs1 g4]
          exact go (rdF cd q σ :: S) L σ H locs ls hw hH hS hl (okL_cons.mpr ⟨rdF_ok hH.1.2 hs1 g4, hoS⟩) hoL
        rcases g13 with g | ⟨host, g⟩
        · exact va_get hx hb hts g6 hown hst.1 hH.1.1 q he g1 _ g3 (hts _ g) (by rw [g5]; exact fun x h => h) (fs_at g3) hdec hk
        · exact va_getN hx hb hts g6 hown hst.1 hH.1.1 q he g1 _ g3 (va_Nw.use rfl (hst.2.1 _ g)) (by rw [g5]; exact fun x h => h) (fs_at g3) hdec hk
      · obtain ⟨hos, hF⟩ := hF
        have hst6 := hst.2.2.2.2.2
        rcases hF with ⟨rfl, hF⟩ | ⟨rfl, hF⟩
        · rcases shp_20 q hs1 with rfl | rfl
          · exact vk_getf hx hb hst6.2.2.1.2.2.1 hS hown (hts _ hF) (fun x h => h) hdec (go (vR 105 :: S) L σ H locs ls hw hH hS hl (okL_cons.mpr ⟨trivial, hoS⟩) hoL)
          · exact vk_getf hx hb hst6.2.2.2.1.2.2.1 hS hown (hts _ hF) (fun x h => h) hdec (go (vR 106 :: S) L σ H locs ls hw hH hS hl (okL_cons.mpr ⟨trivial, hoS⟩) hoL)
        · rcases shp_20 q hs1 with rfl | rfl
          · have hw : wp ca lv (yK Y) K Q f r (vI (σ 103 1) :: S) L σ := hw
            rw [hH.2.1.1] at hw
            exact vk_getf hx hb hst6.2.2.1.2.1 hS hown (hts _ hF) (fun x h => h) hdec (go (vI 0 :: S) L σ H locs ls hw hH hS hl (okL_cons.mpr ⟨i32_0, hoS⟩) hoL)
          · have hw : wp ca lv (yK Y) K Q f r (vI (σ 104 1) :: S) L σ := hw
            rw [hH.2.1.2] at hw
            exact vk_getf hx hb hst6.2.2.2.1.2.1 hS hown (hts _ hF) (fun x h => h) hdec (go (vI 0 :: S) L σ H locs ls hw hH hS hl (okL_cons.mpr ⟨i32_0, hoS⟩) hoL)
    case putfield ix =>
      obtain ⟨hn, hi⟩ := grd_s hz
      have hn : n = 3 := by simpa using hn
      subst hn
      obtain ⟨cd, hq, rfl⟩ := map_s hi
      have key : ∃ (v : AV) (x : Int) (q : Nat) (S1 : List AV), S = v :: vR q :: S1 ∧ shp q = (3, cd / 1000) ∧ wp ca lv (yK Y) K Q f r S1 L (su σ q ((cd / 10 % 100 : Nat) : Int) x) ∧ ((cd % 10 = 0 ∧ v = vI x) ∨ (cd % 10 = 1 ∧ v = vL x) ∨ (cd % 10 = 3 ∧ v = vI x ∧ (x = 0 ∨ x = 1))) := putf_c hw
      obtain ⟨v, x, q, S, rfl, hs1, hw, hv⟩ := key
      obtain ⟨hv1, hoS⟩ := okL_cons.mp hoS
      replace hoS := (okL_cons.mp hoS).2
      rcases hEF _ (look_mem hq) with hF | hF
      · obtain ⟨C, TT, N, ty, g1, g2, g3, g4, g5, g6, g7, g8, g9, g10, g11, g12, g13⟩ := hF
        have hci : cd / 1000 < 10 := (List.getElem?_eq_some_iff.mp g1).1
        have hqN := shp_3 q _ hs1 hci
        have he := wsO_get o σ hqN
        rw [cel_3 hs1, g2] at he
        have ht2 : ¬ cd % 10 = 2 := by rcases hv with h | h | h <;> omega
        have hnar : narrow (ty (cd / 10 % 100)) (cv o v) = cv o v ∧ fits (ty (cd / 10 % 100)) (cv o v) = true := by
          rcases hv with ⟨h, rfl⟩ | ⟨h, rfl⟩ | ⟨h, rfl, hx1⟩
          · rw [g9 h]; exact ⟨rfl, rfl⟩
          · rw [g10 h]; exact ⟨rfl, rfl⟩
          · rw [g11 h]; exact nar_z2 hx1
        have hlg : lng q ((cd / 10 % 100 : Nat) : Int) ↔ cd % 10 = 1 := by
          unfold lng
          rw [hs1, Int.toNat_natCast, g4]
          simp
        have hoσ : okS (su σ q ((cd / 10 % 100 : Nat) : Int) x) := okS_su hH.1.2 (by
          rw [hlg]
          rcases hv with ⟨h, rfl⟩ | ⟨h, rfl⟩ | ⟨h, rfl, hx1⟩
          · exact ⟨fun z => by omega, fun _ => hv1⟩
          · exact ⟨fun _ => hv1, fun z => absurd h z⟩
          · exact ⟨fun z => by omega, fun _ => hv1⟩)
        have hfv : cv o v = fld o (su σ q ((cd / 10 % 100 : Nat) : Int) x) q (cd / 10 % 100) := by
          rw [fld_cv hs1 g4]
          unfold rdF
          rw [su_eq]
          rcases hv with ⟨h, rfl⟩ | ⟨h, rfl⟩ | ⟨h, rfl, hx1⟩ <;> rw [h] <;> simp
        have hne : ∀ j, j ≠ cd / 10 % 100 → fld o (su σ q ((cd / 10 % 100 : Nat) : Int) x) q j = fld o σ q j := by
          intro j hj
          unfold fld
          rw [su_eq]
          have : ¬ (j : Int) = ((cd / 10 % 100 : Nat) : Int) := by omega
          simp only [if_neg this]
        have hset : (wsO o σ).set q (oA o q, .inr (cd / 1000, ((List.range N).map (fld o σ q)).set (cd / 10 % 100) (cv o v))) = wsO o (su σ q ((cd / 10 % 100 : Nat) : Int) x) := by
          rw [fs_set hfv hne, ← g2, ← cel_3 hs1]
          exact wsO_set o σ _ hqN su_ne
        have hk : ∀ (H1 : Heap) (locs1 : List Loc), va_P (oD o) vwCl ((wsO o σ).set q (oA o q, .inr (cd / 1000, ((List.range N).map (fld o σ q)).set (cd / 10 % 100) (cv o v)))) H1 → va_D (aA o) ((wsO o σ).set q (oA o q, .inr (cd / 1000, ((List.range N).map (fld o σ q)).set (cd / 10 % 100) (cv o v)))) → va_S (aA o) s.heap H1 locs1 → W p (oL o) e R s m args below meth c H1 locs1 cells slots Z (F0 m (pc + 3) ls (S.map (cv o))) := by
          intro H1 locs1 hP1 hD1 hS1
          rw [hset] at hP1
          exact go S L _ H1 locs1 ls hw ⟨⟨hP1, hoσ⟩, scr_su hH.2 hqN⟩ hS1 hl hoS hoL
        rcases g13 with g | ⟨host, g⟩
        · exact va_put hx hb hts g6 ty g7 g8 hown hst.1 hH.1.1 (wsO_D o σ hst.2.2.1) hS q he g1 _ g3 (hts _ g) (by rw [g5]; exact fun x h => h) (g12 ht2) (g7 _ g3) hnar.1 hnar.2 (by simpa using g3) hdec hk
        · exact va_putN hx hb hts g6 ty g7 g8 hown hst.1 hH.1.1 (wsO_D o σ hst.2.2.1) hS q he g1 _ g3 (va_Nw.use rfl (hst.2.1 _ g)) (by rw [g5]; exact fun x h => h) (g12 ht2) (g7 _ g3) hnar.1 hnar.2 (by simpa using g3) hdec hk
      · obtain ⟨hos, hF⟩ := hF
        rcases hF with ⟨rfl, hF⟩ | ⟨rfl, hF⟩
        · rcases hv with h | h | h <;> exact absurd h.1 (by decide)
        · rcases hv with h | h | h <;> exact absurd h.1 (by decide)
    case iaload =>
      obtain ⟨hn, hi⟩ := grd_s hz
      have hn : n = 1 := by simpa using hn
      subst hn
      cases hi
      rcases S with _ | ⟨i | i | i | i, S⟩ <;> try exact False.elim hw
      rcases S with _ | ⟨q | q | q | q, S⟩ <;> try exact False.elim hw
      have hi1 := (okL_cons.mp hoS).1
      replace hoS := (okL_cons.mp hoS).2
      have hi1 : i32 i := hi1
      replace hoS := (okL_cons.mp hoS).2
      rcases ald_c hw with ⟨hk, ⟨h0, h1⟩, hw⟩ | ⟨hk, ⟨h0, h1⟩, hw⟩ | ⟨hk, ⟨h0, h1⟩, hw⟩
      · have hqN := shp_012 q (by omega)
        have he := wsO_get o σ hqN
        rw [cel_0 hk] at he
        refine va_iald hx hb hst.1 hH.1.1 q 0 he rfl (in_vp hi1 h0 h1) hdec ?_
        rw [clampI hi1 h0, Int.toNat_of_nonneg h0]
        exact go (vI (σ q i) :: S) L σ H locs ls hw hH hS hl (okL_cons.mpr ⟨okS_at hH.1.2 (by omega), hoS⟩) hoL
      · obtain ⟨z1, z2, z3, z4⟩ := hst.2.2.2.1
        have hT : va_T .int (oA o q) (shp q).2 (fun j => .int (Int32.ofInt ((stc q).getD j 0))) (aA o) s s.heap := by
          rcases shp_4 q hk with rfl | rfl | rfl | rfl
          · exact z1.2
          · exact z2.2
          · exact z3.2
          · exact z4.2
        exact va_ti hx hb hT hS (in_vp hi1 h0 h1) (by rw [clampI hi1 h0]; rfl) hdec (go (vI ((stc q).getD i.toNat 0) :: S) L σ H locs ls hw hH hS hl (okL_cons.mpr ⟨stc_in q _, hoS⟩) hoL)
      · have hq2 := shp_5 q hk
        subst hq2
        obtain ⟨z1, z2, z3⟩ := hst.2.2.2.2.1
        have hn1 : i.toNat < oN o := by have := hH.2.2.1; omega
        have hv := hH.2.2.2.2 i.toNat hn1
        rw [Int.toNat_of_nonneg h0] at hv
        refine va_sld hx hb z1 z2 z3 hS (in_vp hi1 h0 (by omega)) hdec ?_
        rw [clampI hi1 h0, show (Value.int (oX o i.toNat)) = cv o (vI (σ 102 i)) from by rw [hv]; exact congrArg Value.int (of32 _).symm]
        exact go (vI (σ 102 i) :: S) L σ H locs ls hw hH hS hl (okL_cons.mpr ⟨okS_at hH.1.2 (by omega), hoS⟩) hoL
    case baload =>
      obtain ⟨hn, hi⟩ := grd_s hz
      have hn : n = 1 := by simpa using hn
      subst hn
      cases hi
      rcases S with _ | ⟨i | i | i | i, S⟩ <;> try exact False.elim hw
      rcases S with _ | ⟨q | q | q | q, S⟩ <;> try exact False.elim hw
      have hi1 := (okL_cons.mp hoS).1
      replace hoS := (okL_cons.mp hoS).2
      have hi1 : i32 i := hi1
      replace hoS := (okL_cons.mp hoS).2
      rcases bld_c hw with ⟨hk, ⟨h0, h1⟩, hw⟩ | ⟨hk, ⟨h0, h1⟩, hw⟩
      · have hqN := shp_012 q (by omega)
        have he := wsO_get o σ hqN
        rw [cel_1 hk] at he
        refine va_zald hx hb hst.1 hH.1.1 q 1 he rfl (in_vp hi1 h0 h1) hdec ?_
        rw [clampI hi1 h0, Int.toNat_of_nonneg h0]
        exact go (vI (σ q i) :: S) L σ H locs ls hw hH hS hl (okL_cons.mpr ⟨okS_at hH.1.2 (by omega), hoS⟩) hoL
      · have hst6 := hst.2.2.2.2.2
        have hT : va_T .byte (oA o q) (shp q).2 (fun j => .int (Int32.ofInt ((stc q).getD j 0))) (aA o) s s.heap := by
          rcases shp_7 q hk with rfl | rfl
          · exact hst6.2.2.1.2.2.2
          · exact hst6.2.2.2.1.2.2.2
        exact va_tb hx hb hT hS (in_vp hi1 h0 h1) (by rw [clampI hi1 h0]; rfl) hdec (go (vI ((stc q).getD i.toNat 0) :: S) L σ H locs ls hw hH hS hl (okL_cons.mpr ⟨stc_in q _, hoS⟩) hoL)
    case aaload =>
      obtain ⟨hn, hi⟩ := grd_s hz
      have hn : n = 1 := by simpa using hn
      subst hn
      cases hi
      rcases S with _ | ⟨i | i | i | i, S⟩ <;> try exact False.elim hw
      rcases S with _ | ⟨q | q | q | q, S⟩ <;> try exact False.elim hw
      have hi1 := (okL_cons.mp hoS).1
      replace hoS := (okL_cons.mp hoS).2
      have hi1 : i32 i := hi1
      replace hoS := (okL_cons.mp hoS).2
      obtain ⟨hk, ⟨h0, h1⟩, hw⟩ : (shp q).1 = 2 ∧ (0 ≤ i ∧ i < ((shp q).2 : Int)) ∧ wp ca lv (yK Y) K Q f r (vR (rfs q i.toNat) :: S) L σ := hw
      have hqN := shp_012 q (by omega)
      have he := wsO_get o σ hqN
      rw [cel_2 hk] at he
      have hin := in_vp hi1 h0 h1
      have hlt : (Int32.ofInt i).toNatClampNeg < (shp q).2 := Nat.not_le.mp fun z => hin (Or.inr z)
      refine W.aald (v := va_rf (some (oA o (rfs q (Int32.ofInt i).toNatClampNeg)))) (ty := .array .int) hx hb (hH.1.1 q _ he) ((hst.1.2 2 _ rfl).1 (shp q).2 (fun j => va_rf (some (oA o (rfs q j))))) rfl (fun z => by cases z) (by show ¬ (Int32.ofInt i < 0 ∨ (arrV _ _ _).slots.size ≤ _); rw [arrV_size]; exact hin) (by show (arrV _ _ _).slots[_]? = _; rw [arrV_read _ _ hlt]) rfl rfl hdec ?_
      rw [clampI hi1 h0]
      exact go (vR (rfs q i.toNat) :: S) L σ H locs ls hw hH hS hl (okL_cons.mpr ⟨trivial, hoS⟩) hoL
    case iastore =>
      obtain ⟨hn, hi⟩ := grd_s hz
      have hn : n = 1 := by simpa using hn
      subst hn
      cases hi
      rcases S with _ | ⟨x | x | x | x, S⟩ <;> try exact False.elim hw
      rcases S with _ | ⟨i | i | i | i, S⟩ <;> try exact False.elim hw
      rcases S with _ | ⟨q | q | q | q, S⟩ <;> try exact False.elim hw
      obtain ⟨hx1, hoS⟩ := okL_cons.mp hoS
      have hi1 := (okL_cons.mp hoS).1
      replace hoS := (okL_cons.mp hoS).2
      have hi1 : i32 i := hi1
      replace hoS := (okL_cons.mp hoS).2
      obtain ⟨hk, ⟨h0, h1⟩, hw⟩ : (shp q).1 = 0 ∧ (0 ≤ i ∧ i < ((shp q).2 : Int)) ∧ wp ca lv (yK Y) K Q f r S L (su σ q i x) := hw
      have hqN := shp_012 q (by omega)
      have he := wsO_get o σ hqN
      rw [cel_0 hk] at he
      refine va_iast hx hb hst.1 hH.1.1 (wsO_D o σ hst.2.2.1) hS q 0 he rfl (in_vp hi1 h0 h1) hdec ?_
      intro H1 locs1 hP1 hD1 hS1
      rw [upd_of hi1 h0, ← cel_0 hk, wsO_set o σ _ hqN su_ne] at hP1
      exact go S L _ H1 locs1 ls hw ⟨⟨hP1, su_okv hH.1.2 (by omega) hx1⟩, scr_su hH.2 hqN⟩ hS1 hl hoS hoL
    case bastore =>
      obtain ⟨hn, hi⟩ := grd_s hz
      have hn : n = 1 := by simpa using hn
      subst hn
      cases hi
      rcases S with _ | ⟨x | x | x | x, S⟩ <;> try exact False.elim hw
      rcases S with _ | ⟨i | i | i | i, S⟩ <;> try exact False.elim hw
      rcases S with _ | ⟨q | q | q | q, S⟩ <;> try exact False.elim hw
      obtain ⟨hx1, hoS⟩ := okL_cons.mp hoS
      have hi1 := (okL_cons.mp hoS).1
      replace hoS := (okL_cons.mp hoS).2
      have hi1 : i32 i := hi1
      replace hoS := (okL_cons.mp hoS).2
      obtain ⟨hk, ⟨h0, h1⟩, hxz, hw⟩ : (shp q).1 = 1 ∧ (0 ≤ i ∧ i < ((shp q).2 : Int)) ∧ (x = 0 ∨ x = 1) ∧ wp ca lv (yK Y) K Q f r S L (su σ q i x) := hw
      have hqN := shp_012 q (by omega)
      have he := wsO_get o σ hqN
      rw [cel_1 hk] at he
      refine va_zast hx hb hst.1 hH.1.1 (wsO_D o σ hst.2.2.1) hS q 1 he rfl (in_vp hi1 h0 h1) hdec ?_
      intro H1 locs1 hP1 hD1 hS1
      rw [nar_z hxz, upd_of hi1 h0, ← cel_1 hk, wsO_set o σ _ hqN su_ne] at hP1
      exact go S L _ H1 locs1 ls hw ⟨⟨hP1, su_okv hH.1.2 (by omega) hx1⟩, scr_su hH.2 hqN⟩ hS1 hl hoS hoL
    case arraylength =>
      obtain ⟨hn, hi⟩ := grd_s hz
      have hn : n = 1 := by simpa using hn
      subst hn
      cases hi
      rcases S with _ | ⟨q | q | q | q, S⟩ <;> try exact False.elim hw
      replace hoS := (okL_cons.mp hoS).2
      rcases aln_c hw with ⟨hk, hw⟩ | ⟨hk, hw⟩ | ⟨hk, hw⟩
      · have hqN := shp_012 q (by omega)
        have he := wsO_get o σ hqN
        rw [cel_0 hk] at he
        exact va_alen (ty := .int) hx hb hst.1 hH.1.1 q 0 he rfl (len_ofInt _) hdec (go (vI ((shp q).2 : Int) :: S) L σ H locs ls hw hH hS hl (okL_cons.mpr ⟨len_in q, hoS⟩) hoL)
      · have hst6 := hst.2.2.2.2.2
        have hT : va_T .byte (oA o q) (shp q).2 (fun j => .int (Int32.ofInt ((stc q).getD j 0))) (aA o) s s.heap := by
          rcases shp_7 q hk with rfl | rfl
          · exact hst6.2.2.1.2.2.2
          · exact hst6.2.2.2.1.2.2.2
        exact va_tlen hx hb hT hS (len_ofInt _) hdec (go (vI ((shp q).2 : Int) :: S) L σ H locs ls hw hH hS hl (okL_cons.mpr ⟨len_in q, hoS⟩) hoL)
      · have hq2 := shp_5 q hk
        subst hq2
        obtain ⟨z1, z2, z3⟩ := hst.2.2.2.2.1
        refine va_slen hx hb z1 z2 z3 hS hdec ?_
        rw [show (Value.int (Int32.ofNat (oN o))) = cv o (vI (σ 102 (-1))) from by rw [hH.2.2.1]; exact congrArg Value.int (len_ofInt _)]
        exact go (vI (σ 102 (-1)) :: S) L σ H locs ls hw hH hS hl (okL_cons.mpr ⟨okS_at hH.1.2 (by omega), hoS⟩) hoL
    case invokevirtual ix =>
      obtain ⟨hn, hi⟩ := grd_s hz
      have hn : n = 3 := by simpa using hn
      subst hn
      obtain ⟨cd, hq, rfl⟩ := map_s hi
      obtain ⟨k1, k2, k3⟩ : (tbl dCa ca cd).1 ≤ S.length ∧ catS (S.drop (tbl dCa ca cd).1) ≤ 8 ∧ (tbl dCa ca cd).2 (S.take (tbl dCa ca cd).1).reverse σ (fun rr σ => wp ca lv (yK Y) K Q f r (rr ++ S.drop (tbl dCa ca cd).1) L σ) := hw
      have hdr : okL (S.drop (tbl dCa ca cd).1) := fun v hv => hoS v (List.mem_of_mem_drop hv)
      have h := hEV _ (look_mem hq) Q p e R s m args below meth c cells slots Z C0 H locs ls pc (S.take (tbl dCa ca cd).1).reverse (S.drop (tbl dCa ca cd).1) σ _ hdec hH hS hl.1 (fun v hv => hoS v (List.mem_of_mem_take (List.mem_reverse.mp hv))) hdr (by rw [List.length_reverse, List.length_take]; exact Nat.min_eq_left k1) k2 k3 (fun rr σ1 H1 locs1 h1 h2 h3 h4 => go _ L σ1 H1 locs1 ls h1 h3 h4 hl (okL_app h2 hdr) hoL)
      rw [List.reverse_reverse, List.take_append_drop] at h
      exact h
    case invokestatic ix =>
      obtain ⟨hn, hi⟩ := grd_s hz
      have hn : n = 3 := by simpa using hn
      subst hn
      obtain ⟨cd, hq, rfl⟩ := map_s hi
      obtain ⟨k1, k2, k3⟩ : (tbl dCa ca cd).1 ≤ S.length ∧ catS (S.drop (tbl dCa ca cd).1) ≤ 8 ∧ (tbl dCa ca cd).2 (S.take (tbl dCa ca cd).1).reverse σ (fun rr σ => wp ca lv (yK Y) K Q f r (rr ++ S.drop (tbl dCa ca cd).1) L σ) := hw
      have hdr : okL (S.drop (tbl dCa ca cd).1) := fun v hv => hoS v (List.mem_of_mem_drop hv)
      have h := hES _ (look_mem hq) Q p e R s m args below meth c cells slots Z C0 H locs ls pc (S.take (tbl dCa ca cd).1).reverse (S.drop (tbl dCa ca cd).1) σ _ hdec hH hS hl.1 (fun v hv => hoS v (List.mem_of_mem_take (List.mem_reverse.mp hv))) hdr (by rw [List.length_reverse, List.length_take]; exact Nat.min_eq_left k1) k2 k3 (fun rr σ1 H1 locs1 h1 h2 h3 h4 => go _ L σ1 H1 locs1 ls h1 h3 h4 hl (okL_app h2 hdr) hoL)
      rw [List.reverse_reverse, List.take_append_drop] at h
      exact h
    case ireturn =>
      obtain ⟨hn, hi⟩ := grd_s hz
      have hn : n = 1 := by simpa using hn
      subst hn
      cases hi
      rcases S with _ | ⟨v | v | v | v, S⟩ <;> try exact False.elim hw
      rcases S with _ | ⟨a, S⟩ <;> try exact False.elim hw
      obtain ⟨k1, k2⟩ : (yK Y = 1 ∨ (yK Y = 2 ∧ (v = 0 ∨ v = 1)) ∨ (yK Y = 4 ∧ v = 0)) ∧ Q [vI v] σ := hw
      exact hret H locs ls pc [vI v] σ hH hS hoS k2 ⟨k1, hdec⟩
    case lreturn =>
      obtain ⟨hn, hi⟩ := grd_s hz
      have hn : n = 1 := by simpa using hn
      subst hn
      cases hi
      rcases S with _ | ⟨v | v | v | v, S⟩ <;> try exact False.elim hw
      rcases S with _ | ⟨a, S⟩ <;> try exact False.elim hw
      obtain ⟨k1, k2⟩ : yK Y = 3 ∧ Q [vL v] σ := hw
      exact hret H locs ls pc [vL v] σ hH hS hoS k2 ⟨k1, hdec⟩
    case return_ =>
      obtain ⟨hn, hi⟩ := grd_s hz
      have hn : n = 1 := by simpa using hn
      subst hn
      cases hi
      rcases S with _ | ⟨v, S⟩ <;> try exact False.elim hw
      obtain ⟨k1, k2⟩ : yK Y = 0 ∧ Q [] σ := hw
      exact hret H locs ls pc [] σ hH hS hoS k2 ⟨k1, hdec⟩
    all_goals exact absurd hz (by simp [rz])
end
section
-- ===== methods' contracts, and calls =====
def Sound (o : OM) (Y : Pk) (d : Nat) (C : Ctr) : Prop := ∀ (Q : List AV → Sto → Prop) (A : List AV) (σ : Sto), okL A → C A σ Q → At o Y d Q 0 [] (entL A) σ
def isNest : Cond → Bool
  | .fieldLinkNest .. => true
  | .methodLinkNest .. => true
  | _ => false
theorem nestW_all : nestW.all isNest = true := by decide +kernel
theorem nest_warm {w : Cond} (hw : isNest w = true) {s U : State} (hW : s.WarmedH U.vm) (h : va_Nw w s) : va_Nw w U := by
  cases w <;> first | exact va_Nw.warmF hW h | exact va_Nw.warmM hW h | cases hw
theorem nest_same {w : Cond} (hw : isNest w = true) {s U : State} (hv : s.vm = U.vm) (h : va_Nw w s) : va_Nw w U := by
  cases w <;> first | exact va_Nw.same rfl hv h | cases hw
theorem stF_move {o : OM} {C f : String} {q : Nat} {s U : State} {locs : List Loc} (ha : s.vm.Alike U.vm) (hS : va_S (aA o) s.heap U.heap locs) (h : stF o C f q s) : stF o C f q U :=
  ⟨va_Z.moved ha (h.1.kept hS.2.1), va_T.moved ha (h.2.kept hS.2.1)⟩
theorem strF1_move {o : OM} {q b : Nat} {s U : State} {locs : List Loc} (ha : s.vm.Alike U.vm) (hS : va_S (aA o) s.heap U.heap locs) (h : strF1 o q b s) : strF1 o q b U :=
  ⟨va_O.moved ha (h.1.kept hS.2.1), va_OF.moved ha (h.2.1.kept hS.2.1), va_OF.moved ha (h.2.2.1.kept hS.2.1), va_T.moved ha (h.2.2.2.kept hS.2.1)⟩
theorem Std_move {o : OM} {s U : State} {locs : List Loc} (h : Std o s) (hW : s.WarmedH U.vm) (hS : va_S (aA o) s.heap U.heap locs) : Std o U := by
  obtain ⟨h1, h2, h3, ⟨z1, z2, z3, z4⟩, ⟨x1, x2, x3⟩, t1, t2, t3, t4, t5⟩ := h
  have ha := hW.alike
  exact ⟨va_K.moved ha h1, fun w hw => nest_warm (List.all_eq_true.mp nestW_all w hw) hW (h2 w hw), h3, ⟨stF_move ha hS z1, stF_move ha hS z2, stF_move ha hS z3, stF_move ha hS z4⟩,
    ⟨va_X.moved ha (x1.kept (hS.2.1 _ x2 x3)), Nat.lt_of_lt_of_le x2 hS.1, x3⟩, vk_R.warm hW t1, vk_R.warm hW t2, strF1_move ha hS t3, strF1_move ha hS t4, va_Z.moved ha (t5.kept hS.2.1)⟩
theorem Std_same {o : OM} {s U : State} (h : Std o s) (hv : U.vm = s.vm) (hh : U.heap = s.heap) : Std o U := by
  obtain ⟨h1, h2, h3, ⟨z1, z2, z3, z4⟩, ⟨x1, x2, x3⟩, t1, t2, t3, t4, t5⟩ := h
  have ha : s.vm.Alike U.vm := by rw [hv]; exact Vm.Alike.refl _
  have hS : va_S (aA o) s.heap U.heap [] := by rw [hh]; exact va_S.rf
  exact ⟨va_K.moved ha h1, fun w hw => nest_same (List.all_eq_true.mp nestW_all w hw) hv.symm (h2 w hw), h3, ⟨stF_move ha hS z1, stF_move ha hS z2, stF_move ha hS z3, stF_move ha hS z4⟩,
    ⟨va_X.moved ha (x1.kept (hS.2.1 _ x2 x3)), Nat.lt_of_lt_of_le x2 hS.1, x3⟩, vk_R.same hv t1, vk_R.same hv t2, strF1_move ha hS t3, strF1_move ha hS t4, va_Z.moved ha (t5.kept hS.2.1)⟩
/-- a method's end, by the kind of what it returns -/
def QQ (o : OM) (rt : Nat) (Q : List AV → Sto → Prop) : Array Value → State → Outcome → State → Prop := match rt with
  | 0 => va_Qv (fun σ : Sto => Q [] σ) (fun σ t => Wld o σ t) (aA o)
  | 3 => va_Ql (fun r (σ : Sto) => Q [vL r.toInt] σ) (fun σ t => Wld o σ t) (aA o)
  | _ => va_Qi (fun r (σ : Sto) => Q [vI r.toInt] σ) (fun σ t => Wld o σ t) (aA o)
def kndOK (rt : Nat) (ret : Option FieldType) : Prop := (rt = 0 ∧ ret = none) ∨ (rt = 1 ∧ ret = some .int) ∨ (rt = 2 ∧ ret = some .boolean) ∨ (rt = 3 ∧ ret = some .long) ∨ (rt = 4 ∧ ret = some .byte)
def wsY (Y : Pk) : List Cond := Cond.code (yN Y) (yB Y) (yL Y) (yR Y) :: wsG
theorem ent_args (o : OM) : ∀ (A : List AV) (k : Nat) (q : Nat × Value), q ∈ cvL o k (entL A) → q ∈ lv_args k (A.map (cv o))
  | [], k, q, h => by cases h
  | a :: t, k, q, h => by
    rcases a with a | a | a | a
    · rcases List.mem_cons.mp h with rfl | h
      · exact List.mem_cons_self
      · exact List.mem_cons_of_mem _ (ent_args o t (k + 1) q h)
    · rcases List.mem_cons.mp h with rfl | h
      · exact List.mem_cons_self
      · exact List.mem_cons_of_mem _ (ent_args o t (k + 2) q h)
    · rcases List.mem_cons.mp h with rfl | h
      · exact List.mem_cons_self
      · exact List.mem_cons_of_mem _ (ent_args o t (k + 1) q h)
    · exact List.mem_cons_of_mem _ (ent_args o t (k + 1) q h)
theorem ent_len (o : OM) : ∀ A : List AV, (lg_sl (A.map (cv o))).length = (entL A).length
  | [] => rfl
  | a :: t => by
    have ih := ent_len o t
    rcases a with a | a | a | a <;> simp [lg_sl, entL, cv, Value.category] at ih ⊢ <;> omega
theorem ent_ok {A : List AV} (h : okL A) : okL (entL A) := by
  induction A with
  | nil => exact h
  | cons a t ih =>
    obtain ⟨h1, h2⟩ := okL_cons.mp h
    rcases a with a | a | a | a
    · exact okL_cons.mpr ⟨h1, ih h2⟩
    · exact okL_cons.mpr ⟨h1, okL_cons.mpr ⟨trivial, ih h2⟩⟩
    · exact okL_cons.mpr ⟨h1, ih h2⟩
    · exact okL_cons.mpr ⟨h1, ih h2⟩
theorem met_of {o : OM} {Y : Pk} {d : Nat} {C : Ctr} (hS : Sound o Y d C) (hp : plainName (yN Y).cls = true) (hk : kndOK (yK Y) (yR Y)) {Q : List AV → Sto → Prop} {A : List AV} {σ : Sto} (hA : okL A) (hn : (entL A).length ≤ yL Y) (hC : C A σ Q) :
    Met (oL o) (yN Y) (wsY Y) (rm d) (va_Pc (A.map (cv o)) (fun U => Wld o σ U)) (QQ o (yK Y) Q) 0 0 (aA o) := by
  refine Met.ofW (cc := yB Y) (maxL := yL Y) (ret := yR Y) hp rfl ?_
  intro p e s m args below meth c s₁ B hml hv
  obtain ⟨rfl, hst, hHs⟩ := hv
  have hx := B.exec
  have hb := B.bytes
  have hr := B.returns
  have hlocks := B.notSynchronized
  have hts0 := atoms_spec (ws := wsY Y) B.pre
  have hts : ∀ w ∈ wsG, w.before _ s = true := fun w hw => hts0 w (List.mem_cons_of_mem _ hw)
  have hown : s.vm.findClass (yN Y).cls = some m.cls := findClass_of_methodNamed B.named
  have hend : ∀ (H : Heap) (locs : List Loc) (σ : Sto) (t : State), Hs o σ H → va_S (aA o) s.heap H locs → t.heap = H → s.WarmedH t.vm → Wld o σ t ∧ va_F (aA o) s t := by
    intro H locs σ t h1 h2 h3 h4
    subst h3
    exact ⟨⟨Std_move hst h4 h2, h1⟩, h2.F rfl⟩
  have C0 : Cx o Y d Q p e (headSpec (wsY Y) (rm d)).room s m (A.map (cv o)).toArray below meth c 0 0 (MQ below (QQ o (yK Y) Q) (A.map (cv o)).toArray s 0 0 (aA o)) := by
    refine ⟨hx, hb, hml, hown, hts, hst, ⟨Nat.le_refl _, Nat.le_refl _, Nat.zero_le _, Nat.zero_le _⟩, ?_⟩
    intro H locs ls pc r σ h1 h2 h3 h4 h5
    match r, h3, h4, h5 with
    | [], h3, h4, h5 =>
      obtain ⟨e1, e2⟩ := h5
      have hr0 : meth.sig.returnType = none := by
        rw [hr]
        rcases hk with ⟨a, b⟩ | ⟨a, b⟩ | ⟨a, b⟩ | ⟨a, b⟩ | ⟨a, b⟩ <;> first | exact b | omega
      refine W.vret hx hb hr0 (fun t ht hW => ?_) h2.2.2 e2
      rw [e1]
      obtain ⟨g1, g2⟩ := hend H locs σ t h1 h2 ht hW
      exact ⟨⟨σ, rfl, h4, g1⟩, g2⟩
    | [.inl v], h3, h4, h5 =>
      obtain ⟨e1, e2⟩ := h5
      have hv1 : i32 v := h3 _ List.mem_cons_self
      have key : ∀ t : State, t.heap = H → s.WarmedH t.vm → QQ o (yK Y) Q (A.map (cv o)).toArray s (.returned (some (.int (Int32.ofInt v)))) t := by
        intro t ht hW
        obtain ⟨g1, g2⟩ := hend H locs σ t h1 h2 ht hW
        have hq : va_Qi (fun r (σ : Sto) => Q [vI r.toInt] σ) (fun σ t => Wld o σ t) (aA o) (A.map (cv o)).toArray s (.returned (some (.int (Int32.ofInt v)))) t :=
          ⟨⟨Int32.ofInt v, σ, rfl, by show Q [vI (Int32.ofInt v).toInt] σ; rw [i32_to hv1]; exact h4, g1⟩, g2⟩
        rcases e1 with e | ⟨e, -⟩ | ⟨e, -⟩ <;> rw [e] <;> exact hq
      rcases e1 with e | ⟨e, hz⟩ | ⟨e, hz⟩
      · have hr0 : meth.sig.returnType = some .int := by
          rw [hr]
          rcases hk with ⟨a, b⟩ | ⟨a, b⟩ | ⟨a, b⟩ | ⟨a, b⟩ | ⟨a, b⟩ <;> first | exact b | omega
        exact W.iret hx hb hr0 key h2.2.2 e2
      · have hr0 : meth.sig.returnType = some .boolean := by
          rw [hr]
          rcases hk with ⟨a, b⟩ | ⟨a, b⟩ | ⟨a, b⟩ | ⟨a, b⟩ | ⟨a, b⟩ <;> first | exact b | omega
        exact W.zret hx hb hr0 (nar_z2 hz).1 key h2.2.2 e2
      · have hr0 : meth.sig.returnType = some .byte := by
          rw [hr]
          rcases hk with ⟨a, b⟩ | ⟨a, b⟩ | ⟨a, b⟩ | ⟨a, b⟩ | ⟨a, b⟩ <;> first | exact b | omega
        exact W.zret hx hb hr0 (by rw [hz]; rfl) key h2.2.2 e2
    | [.inr (.inl v)], h3, h4, h5 =>
      obtain ⟨e1, e2⟩ := h5
      have hv1 : i64 v := h3 _ List.mem_cons_self
      have hr0 : meth.sig.returnType = some .long := by
        rw [hr]
        rcases hk with ⟨a, b⟩ | ⟨a, b⟩ | ⟨a, b⟩ | ⟨a, b⟩ | ⟨a, b⟩ <;> first | exact b | omega
      refine W.lret hx hb hr0 (fun t ht hW => ?_) h2.2.2 e2
      rw [e1]
      obtain ⟨g1, g2⟩ := hend H locs σ t h1 h2 ht hW
      exact ⟨⟨Int64.ofInt v, σ, rfl, by show Q [vL (Int64.ofInt v).toInt] σ; rw [i64_to hv1]; exact h4, g1⟩, g2⟩
  have hl := lv_entry (A.map (cv o)) (n := yL Y) (by rw [ent_len]; exact hn)
  rw [lg_entry_eq]
  exact hS Q A σ hA hC p e _ s m _ below meth c 0 0 _ C0 s.heap [] _ hHs va_S.rf (lv_mono hl (fun q hq => ent_args o A 0 q hq)) (fun v hv => by cases hv) (ent_ok hA)
-- calls
def arg (n : Nat) (C : Ctr) : Ctr := fun A σ k => (entL A).length ≤ n ∧ C A σ k
def rcv (ci n : Nat) (C : Ctr) : Ctr := fun A σ k => (match A with
  | .inr (.inr (.inl q)) :: _ => shp q = (3, ci)
  | _ => False) ∧ (entL A).length ≤ n ∧ C A σ k
theorem cat_sum (o : OM) : ∀ S : List AV, ((S.map (cv o)).map fun v => v.category).sum ≤ catS S
  | [] => Nat.le_refl _
  | a :: t => by
    have ih := cat_sum o t
    rcases a with a | a | a | a <;> simp [catS, cat1, cv, Value.category] at ih ⊢ <;> omega
/-- the words of a callee, whatever the call -/
def calW (Y' : Pk) : Prop := plainName (yN Y').cls = true ∧ kndOK (yK Y') (yR Y') ∧ Cond.code (yN Y') (yB Y') (yL Y') (yR Y') ∈ wsG ∧ Cond.initialized (yN Y').cls ∈ wsG ∧ ((yN Y').cls ≠ "java/lang/invoke/MethodHandle" ∧ (yN Y').cls ≠ "java/lang/invoke/VarHandle") ∧ yL Y' ≤ 60
theorem good_Y {Y' : Pk} (h : Cond.code (yN Y') (yB Y') (yL Y') (yR Y') ∈ wsG) : GoodIn wsG (wsY Y') := fun w hw => by
  rcases List.mem_cons.mp hw with rfl | hw
  · exact wsG_good _ h
  · exact wsG_good _ hw
/-- behind the call -/
theorem call_end {o : OM} {rt : Nat} {Q : List AV → Sto → Prop} {p : Program} {e : Env} {R : Room} {s : State} {m : MethodId} {args : Array Value} {below : List Frame} {meth : Method} {c : Code} {cells slots : Nat} {Z : State → Prop} {H : Heap} {locs : List Loc} {ls : Array Slot} {pc : Nat} {st0 : List Value} {rest : List AV} {a : Array Value} {ret : Option FieldType} (hk : kndOK rt ret)
    (hr : va_Run p (oL o) e R s m args below meth c H locs cells slots 0 0 (F0 m pc ls st0) (rest.map (cv o)) (QQ o rt Q a) (aA o)) (hS : va_S (aA o) s.heap H locs)
    (kk : ∀ (r : List AV) (σ : Sto) (H : Heap) (locs : List Loc), Q r σ → okL r → Hs o σ H → va_S (aA o) s.heap H locs → W p (oL o) e R s m args below meth c H locs cells slots Z (F0 m (pc + 3) ls ((r ++ rest).map (cv o)))) :
    W p (oL o) e R s m args below meth c H locs cells slots Z (F0 m pc ls st0) := by
  have key : rt ≠ 0 → rt ≠ 3 → va_Run p (oL o) e R s m args below meth c H locs cells slots 0 0 (F0 m pc ls st0) (rest.map (cv o)) (va_Qi (fun r (σ : Sto) => Q [vI r.toInt] σ) (fun σ t => Wld o σ t) (aA o) a) (aA o) := by
    intro h1 h2
    rcases hk with ⟨rfl, -⟩ | ⟨rfl, -⟩ | ⟨rfl, -⟩ | ⟨rfl, -⟩ | ⟨rfl, -⟩
    · exact absurd rfl h1
    · exact hr
    · exact hr
    · exact absurd rfl h2
    · exact hr
  by_cases h0 : rt = 0
  · subst h0
    refine va_callv (a := a) hr hS (fun q _ h => h) (fun q h => h) ?_
    intro σ t H1 locs1 ht hvm hq hB hz hk hS1
    subst ht
    exact kk [] σ _ locs1 hq (fun v hv => by cases hv) hB.2 hS1
  · by_cases h3 : rt = 3
    · subst h3
      refine va_calll (a := a) hr hS (fun q _ h => h) (fun q h => h) ?_
      intro r σ t H1 locs1 ht hvm hq hB hz hk hS1
      subst ht
      have h := kk [vL r.toInt] σ _ locs1 hq (fun v hv => by rw [List.mem_singleton.mp hv]; exact i64_in r) hB.2 hS1
      rw [show ([vL r.toInt] ++ rest).map (cv o) = Value.long r :: rest.map (cv o) from congrArg (fun z => Value.long z :: rest.map (cv o)) (of64 r)] at h
      exact h
    · refine va_calli (a := a) (key h0 h3) hS (fun q _ h => h) (fun q h => h) ?_
      intro r σ t H1 locs1 ht hvm hq hB hz hk hS1
      subst ht
      have h := kk [vI r.toInt] σ _ locs1 hq (fun v hv => by rw [List.mem_singleton.mp hv]; exact i32_in r) hB.2 hS1
      rw [show ([vI r.toInt] ++ rest).map (cv o) = Value.int r :: rest.map (cv o) from congrArg (fun z => Value.int z :: rest.map (cv o)) (of32 r)] at h
      exact h
theorem blind (o : OM) (av : List Value) (σ : Sto) : FrameBlind (va_Pc av (fun U => Wld o σ U)) := fun a U g mk h => ⟨h.1, Std_same h.2.1 rfl rfl, h.2.2⟩
theorem pre_at {o : OM} {s : State} {H : Heap} {locs : List Loc} {σ : Sto} (hst : Std o s) (hS : va_S (aA o) s.heap H locs) (hH : Hs o σ H) : ∀ U : State, U.heap = H → s.WarmedH U.vm → Wld o σ U := fun U hU hW => by
  subst hU
  exact ⟨Std_move hst hW hS, hH⟩
theorem recv_at {o : OM} {s : State} {H : Heap} {locs : List Loc} {σ : Sto} (hst : Std o s) (hS : va_S (aA o) s.heap H locs) (hH : Hs o σ H) {q ci : Nat} {C : String} (hq : shp q = (3, ci)) (hc : (∃ T N, vwCl[ci]? = some (C, T, N)) ∨ (ci = 20 ∧ C = "java/lang/String")) : ∃ cell : Cell, H[oA o q]? = some cell ∧ cell.vm.isStatics = false ∧ s.vm.findClass C = some cell.cls := by
  rcases hc with ⟨T, N, hc⟩ | ⟨rfl, rfl⟩
  · have hci : ci < 10 := (List.getElem?_eq_some_iff.mp hc).1
    have he := wsO_get o σ (shp_3 q _ hq hci)
    rw [cel_3 hq] at he
    exact va_recv hst.1 hH.1.1 hc he
  · have h6 := hst.2.2.2.2.2
    have key : ∀ a, va_O "java/lang/String" a (aA o) s s.heap → ∃ cell : Cell, H[a]? = some cell ∧ cell.vm.isStatics = false ∧ s.vm.findClass "java/lang/String" = some cell.cls := by
      intro a h
      obtain ⟨cell, h1, h2, h3, -⟩ := h.kept hS.2.1
      exact ⟨cell, h1, h2, h3⟩
    rcases shp_20 q hq with rfl | rfl
    · exact key _ h6.2.2.1.1
    · exact key _ h6.2.2.2.1.1
set_option maxHeartbeats 2000000 in
theorem callV_ok {o : OM} {Y Y' : Pk} {d d' ci idx na : Nat} {C : Ctr} (hS' : Sound o Y' d' C) (hd : d' + 1 ≤ d) (hw : calW Y')
    (hl : Cond.methodLink (yN Y).cls idx (yN Y') ∈ wsG ∨ ∃ host, Cond.methodLinkNest (yN Y).cls idx (yN Y') host ∈ nestW) (hin : Cond.instanceMethod (yN Y') ∈ wsG) (hsel : Cond.selects (yN Y').cls (yN Y') (yN Y') ∈ wsG)
    (hc : (∃ T N, vwCl[ci]? = some ((yN Y').cls, T, N)) ∨ (ci = 20 ∧ (yN Y').cls = "java/lang/String")) (hn : (parseMethodDescriptor (yN Y').desc).map (fun d => d.parameters.length + 1) = some na) :
    CallOK o Y d (.invokevirtual idx) (na, rcv ci (yL Y') C) := by
  intro Q p e R s m args below meth c cells slots Z C0 H locs ls pc A rest σ k hdec hH hS hls hA hrest hAn hcat hC kk
  obtain ⟨hx, hb, hml, hown, hts, hst, ⟨hR1, hR2, hR3, hR4⟩, hret⟩ := id C0
  obtain ⟨w1, w2, w3, w4, w5, w6⟩ := hw
  obtain ⟨c1, c2, c3⟩ := hC
  rcases A with _ | ⟨q | q | q | q, A⟩ <;> try exact False.elim c1
  have c1 : shp q = (3, ci) := c1
  have hM := met_of hS' w1 w2 hA c2 c3
  have hfr : (rm d').frames + 1 ≤ R.frames := Nat.le_trans (by simp [rm]; omega) hR1
  have hlo : 8 + (yL Y' + 11) + (rm d').locals ≤ R.locals := Nat.le_trans (by simp [rm]; omega) hR2
  have hpay := pay_in hts (good_Y w3)
  have hsig : ∀ sig, parseMethodDescriptor (yN Y').desc = some sig → A.length = sig.parameters.length := by
    intro sig h
    rw [h] at hn
    have hn : sig.parameters.length + 1 = na := by simpa using hn
    have : A.length + 1 = na := hAn
    omega
  have hpre : PreV s H (yN Y').cls (oA o q) (va_Pc ((vR q :: A).map (cv o)) (fun U => Wld o σ U)) (A.map (cv o)) := ⟨blind o _ σ, recv_at hst hS hH c1 hc, fun U hU hW => ⟨rfl, pre_at hst hS hH U hU hW⟩⟩
  have hstk : ((vR q :: A).reverse ++ rest).map (cv o) = (A.map (cv o)).reverse ++ .ref (oA o q) :: rest.map (cv o) := by simp [cv]
  have hwd : 2 * (F0 m pc ls (((vR q :: A).reverse ++ rest).map (cv o))).monitorRoom + ((rest.map (cv o)).map fun v => v.category).sum ≤ 8 := lv_room (Nat.le_trans (cat_sum o rest) hcat)
  rcases hl with hl | ⟨host, hl⟩
  · refine call_end (a := (Value.ref (oA o q) :: A.map (cv o)).toArray) w2 (va_runV (n := A.length) (C := (yN Y').cls) (bytes := yB Y') (maxL := yL Y') (ret := yR Y') ⟨hx, hb, hml, hown, hts⟩ hM ⟨⟨rfl, rfl, hfr, hlo, hpay, List.mem_cons_self, hts _ w3, hts _ w4, w5, hsig, hts _ hl⟩, hts _ hin, hts _ hsel⟩ hpre rfl (by simp) hls hstk hwd hdec ⟨hR3, hR4⟩) hS kk
  · refine call_end (a := (Value.ref (oA o q) :: A.map (cv o)).toArray) w2 (va_runVN (n := A.length) (C := (yN Y').cls) (host := host) (bytes := yB Y') (maxL := yL Y') (ret := yR Y') ⟨hx, hb, hml, hown, hts⟩ hM ⟨⟨⟨rfl, rfl, hfr, hlo, hpay, List.mem_cons_self⟩, hts _ w3, hts _ w4, w5, hsig, va_Nw.use rfl (hst.2.1 _ hl)⟩, hts _ hin, hts _ hsel⟩ hpre rfl (by simp) hls hstk hwd hdec ⟨hR3, hR4⟩) hS kk
set_option maxHeartbeats 2000000 in
theorem callS_ok {o : OM} {Y Y' : Pk} {d d' idx na : Nat} {C : Ctr} (hS' : Sound o Y' d' C) (hd : d' + 1 ≤ d) (hw : calW Y')
    (hl : Cond.methodLink (yN Y).cls idx (yN Y') ∈ wsG ∨ ∃ host, Cond.methodLinkNest (yN Y).cls idx (yN Y') host ∈ nestW) (hstt : Cond.static (yN Y') ∈ wsG)
    (hn : (parseMethodDescriptor (yN Y').desc).map (fun d => d.parameters.length) = some na) :
    CallOK o Y d (.invokestatic idx) (na, arg (yL Y') C) := by
  intro Q p e R s m args below meth c cells slots Z C0 H locs ls pc A rest σ k hdec hH hS hls hA hrest hAn hcat hC kk
  obtain ⟨hx, hb, hml, hown, hts, hst, ⟨hR1, hR2, hR3, hR4⟩, hret⟩ := id C0
  obtain ⟨w1, w2, w3, w4, w5, w6⟩ := hw
  obtain ⟨c2, c3⟩ := hC
  have hM := met_of hS' w1 w2 hA c2 c3
  have hfr : (rm d').frames + 1 ≤ R.frames := Nat.le_trans (by simp [rm]; omega) hR1
  have hlo : 8 + (yL Y' + 11) + (rm d').locals ≤ R.locals := Nat.le_trans (by simp [rm]; omega) hR2
  have hpay := pay_in hts (good_Y w3)
  have hsig : ∀ sig, parseMethodDescriptor (yN Y').desc = some sig → A.length = sig.parameters.length := by
    intro sig h
    rw [h] at hn
    have hn : sig.parameters.length = na := by simpa using hn
    have : A.length = na := hAn
    omega
  have hpre : PreS s H (va_Pc (A.map (cv o)) (fun U => Wld o σ U)) (A.map (cv o)) := ⟨blind o _ σ, fun U hU hW => ⟨rfl, pre_at hst hS hH U hU hW⟩⟩
  have hstk : (A.reverse ++ rest).map (cv o) = (A.map (cv o)).reverse ++ rest.map (cv o) := by simp
  have hwd : 2 * (F0 m pc ls ((A.reverse ++ rest).map (cv o))).monitorRoom + ((rest.map (cv o)).map fun v => v.category).sum ≤ 8 := lv_room (Nat.le_trans (cat_sum o rest) hcat)
  rcases hl with hl | ⟨host, hl⟩
  · refine call_end (a := (A.map (cv o)).toArray) w2 (va_runS (n := A.length) (bytes := yB Y') (maxL := yL Y') (ret := yR Y') ⟨hx, hb, hml, hown, hts⟩ hM ⟨⟨rfl, rfl, hfr, hlo, hpay, List.mem_cons_self, hts _ w3, hts _ w4, w5, hsig, hts _ hl⟩, hts _ hstt⟩ hpre rfl (by simp) hls hstk hwd hdec ⟨hR3, hR4⟩) hS kk
  · refine call_end (a := (A.map (cv o)).toArray) w2 (va_runSN (n := A.length) (host := host) (bytes := yB Y') (maxL := yL Y') (ret := yR Y') ⟨hx, hb, hml, hown, hts⟩ hM ⟨⟨⟨rfl, rfl, hfr, hlo, hpay, List.mem_cons_self⟩, hts _ w3, hts _ w4, w5, hsig, va_Nw.use rfl (hst.2.1 _ hl)⟩, hts _ hstt, trivial⟩ hpre rfl (by simp) hls hstk hwd hdec ⟨hR3, hR4⟩) hS kk
end
section
-- ===== arraycopy, static rows, texts; a method without loops is its own contract =====
/-- a stretch of one row into another -/
def cpS (σ : Sto) (a : Nat) (sp : Int) (b : Nat) (dp n : Int) : Sto := fun q => if q = b then (fun j => if dp ≤ j ∧ j < dp + n then σ a (sp + (j - dp)) else σ b j) else σ q
def Ccopy : Ctr := fun A σ k => match A with
  | [.inr (.inr (.inl a)), .inl sp, .inr (.inr (.inl b)), .inl dp, .inl n] => (shp a).1 = 0 ∧ (shp b).1 = 0 ∧ 0 ≤ sp ∧ 0 ≤ dp ∧ 0 ≤ n ∧ sp + n ≤ ((shp a).2 : Int) ∧ dp + n ≤ ((shp b).2 : Int) ∧ k [] (cpS σ a sp b dp n)
  | _ => False
theorem cpS_ne {σ : Sto} {a b : Nat} {sp dp n : Int} : ∀ k, k ≠ b → cpS σ a sp b dp n k = σ k := fun k hk => by unfold cpS; rw [if_neg hk]
theorem cpS_eq {σ : Sto} {a b : Nat} {sp dp n : Int} : cpS σ a sp b dp n b = fun j => if dp ≤ j ∧ j < dp + n then σ a (sp + (j - dp)) else σ b j := by unfold cpS; rw [if_pos rfl]
theorem copy_ok {o : OM} {Y : Pk} {d idx : Nat} (hl : Cond.methodLink (yN Y).cls idx arraycopyName ∈ wsG) (h1 : Cond.native arraycopyName ∈ wsG) (h2 : Cond.static arraycopyName ∈ wsG) (h3 : Cond.initialized "java/lang/System" ∈ wsG) : CallOK o Y d (.invokestatic idx) (5, Ccopy) := by
  intro Q p e R s m args below meth c cells slots Z C0 H locs ls pc A rest σ k hdec hH hS hls hA hrest hAn hcat hC kk
  obtain ⟨hx, hb, hml, hown, hts, hst, ⟨hR1, hR2, hR3, hR4⟩, hret⟩ := id C0
  match A, hA, hC with
  | [.inr (.inr (.inl a)), .inl sp, .inr (.inr (.inl b)), .inl dp, .inl n], hA, hC =>
    obtain ⟨ka, kb, s0, d0, n0, l1, l2, hk⟩ : (shp a).1 = 0 ∧ (shp b).1 = 0 ∧ 0 ≤ sp ∧ 0 ≤ dp ∧ 0 ≤ n ∧ sp + n ≤ ((shp a).2 : Int) ∧ dp + n ≤ ((shp b).2 : Int) ∧ k [] (cpS σ a sp b dp n) := hC
    have hsp : i32 sp := hA (vI sp) (by simp)
    have hdp : i32 dp := hA (vI dp) (by simp)
    have hnn : i32 n := hA (vI n) (by simp)
    have ha := wsO_get o σ (shp_012 a (by omega))
    have hbN := shp_012 b (by omega)
    have hb' := wsO_get o σ hbN
    rw [cel_0 ka] at ha
    rw [cel_0 kb] at hb'
    have e0 : ∀ x : Int, i32 x → 0 ≤ x → ¬ Int32.ofInt x < 0 := fun x h1 h2 z => by have := (i32_lt h1 i32_0).mp z; omega
    have hnw : nativeFrameWords "java/lang/System" "arraycopy" 5 ≤ 60 := by decide +kernel
    have hloc : ((rest.map (cv o)).map fun v => v.category).sum + (nativeFrameWords "java/lang/System" "arraycopy" 5 + 11) ≤ R.locals := by
      have h1 := cat_sum o rest
      have h2 : 100 * (d + 1) ≤ R.locals := hR2
      omega
    refine va_copyi (ty := .int) hx hb (by rw [hml, hls]) hown (hts _ hl) (hts _ h1) (hts _ h2) (hts _ h3) hst.1 hH.1.1 (wsO_D o σ hst.2.2.1) hS a b 0 0 ha hb' rfl rfl rfl (e0 sp hsp s0) (e0 dp hdp d0) (e0 n hnn n0) (by rw [clampI hsp s0, clampI hnn n0]; omega) (by rw [clampI hdp d0, clampI hnn n0]; omega) (fun _ _ => rfl) (Nat.le_trans (show 1 ≤ d + 1 by omega) hR1) hloc hdec ?_
    intro H1 locs1 hP1 hD1 hS1
    have he : va_cpy (fun j : Nat => Int32.ofInt (σ a (j : Int))) (fun j : Nat => Int32.ofInt (σ b (j : Int))) (Int32.ofInt sp).toNatClampNeg (Int32.ofInt dp).toNatClampNeg (Int32.ofInt n).toNatClampNeg = fun j : Nat => Int32.ofInt (cpS σ a sp b dp n b (j : Int)) := by
      funext j
      rw [clampI hsp s0, clampI hdp d0, clampI hnn n0, cpS_eq]
      unfold va_cpy
      by_cases h : dp.toNat ≤ j ∧ j < dp.toNat + n.toNat
      · have h' : dp ≤ (j : Int) ∧ (j : Int) < dp + n := by omega
        rw [if_pos h]
        show _ = Int32.ofInt (if dp ≤ (j : Int) ∧ (j : Int) < dp + n then _ else _)
        rw [if_pos h']
        show Int32.ofInt (σ a ((sp.toNat + (j - dp.toNat) : Nat) : Int)) = _
        rw [show ((sp.toNat + (j - dp.toNat) : Nat) : Int) = sp + ((j : Int) - dp) by omega]
      · have h' : ¬ (dp ≤ (j : Int) ∧ (j : Int) < dp + n) := by omega
        rw [if_neg h]
        show _ = Int32.ofInt (if dp ≤ (j : Int) ∧ (j : Int) < dp + n then _ else _)
        rw [if_neg h']
    rw [he, ← cel_0 kb, wsO_set o σ _ hbN cpS_ne] at hP1
    refine kk [] _ H1 locs1 hk (fun v hv => by cases hv) ⟨⟨hP1, ?_⟩, ?_⟩ hS1
    · intro q j
      by_cases hq : q = b
      · subst hq
        rw [cpS_eq]
        refine ⟨fun z => absurd z (lng_not (by omega)), fun _ => ?_⟩
        show i32 (if _ then _ else _)
        split
        · exact okS_at hH.1.2 (by omega)
        · exact okS_at hH.1.2 (by omega)
      · rw [cpS_ne q hq]
        exact hH.1.2 q j
    · have hne : ∀ k, NP ≤ k → cpS σ a sp b dp n k = σ k := fun k hk => cpS_ne k (by omega)
      unfold scr
      rw [hne 102 (by decide), hne 103 (by decide), hne 104 (by decide)]
      exact hH.2
theorem ref_st {o : OM} {Y : Pk} {d i q : Nat} {C f : String} (hl : Cond.fieldLink (yN Y).cls i C f "[I" ∈ wsG) (h9 : ¬ q = 999) (h3 : ¬ (q = 103 ∨ q = 104)) (hz : ∀ s, Std o s → va_Z C f "[I" (.ref (oA o q)) (aA o) s s.heap) : RefOK o Y d i q := by
  intro op n hop Q p e R s m args below meth c cells slots Z C0 H locs ls pc rest hS hdec hk
  obtain ⟨hx, hb, hml, hown, hts, hst, hR, hret⟩ := id C0
  rcases hop with ⟨rfl, rfl, -⟩ | ⟨rfl, rfl, h⟩
  · rw [rfv_ne h9] at hk
    exact va_gets hx hb (hz s hst) hS hown (hts _ hl) (fun x h => h) hdec hk
  · exact absurd h h3
theorem ref_co {o : OM} {Y : Pk} {d i : Nat} (hl : Cond.fieldLink (yN Y).cls i "java/lang/String" "COMPACT_STRINGS" "Z" ∈ wsG) : RefOK o Y d i 999 := by
  intro op n hop Q p e R s m args below meth c cells slots Z C0 H locs ls pc rest hS hdec hk
  obtain ⟨hx, hb, hml, hown, hts, hst, hR, hret⟩ := id C0
  rcases hop with ⟨rfl, rfl, -⟩ | ⟨rfl, rfl, h⟩
  · exact va_gets hx hb hst.2.2.2.2.2.2.2.2.2 hS hown (hts _ hl) (fun x h => h) hdec hk
  · exact absurd h (by decide)
theorem ref_tx {o : OM} {Y : Pk} {d i q : Nat} {tx : String} (h3 : q = 103 ∨ q = 104) (hz : ∀ s, Std o s → vk_R (yN Y).cls i tx (oA o q) s) : RefOK o Y d i q := by
  intro op n hop Q p e R s m args below meth c cells slots Z C0 H locs ls pc rest hS hdec hk
  obtain ⟨hx, hb, hml, hown, hts, hst, hR, hret⟩ := id C0
  rcases hop with ⟨rfl, rfl, h⟩ | ⟨rfl, rfl, -⟩
  · exact absurd h3 h
  · rw [rfv_ne (by omega)] at hk
    exact va_ldcS hx hb hown (hz s hst) hdec hk
/-- a method's blocks: a label's instructions, and the label that comes next -/
abbrev Bk : Type := List (Nat × List Instr × Nat)
def dBk : List Instr × Nat := ([.athrow], 0)
/-- the demand of a label, forward jumps followed, n jumps at most -/
def wpl (ca : List (Nat × Ctr)) (lv : List (Nat × Nat)) (rt : Nat) (B : Bk) (Q : List AV → Sto → Prop) : Nat → Nat → List AV → List AV → Sto → Prop
  | 0, _, _, _, _ => False
  | n + 1, t, S, L, σ => wp ca lv rt (wpl ca lv rt B Q n) Q (lkp dBk B t).2 (lkp dBk B t).1 S L σ
def chkB (T : Tb) (cc : ByteArray) (B : Bk) : Bool := B.all (fun b => chk T cc b.2.2 b.2.1 b.1)
theorem lkp_mem {α : Type} {d : α} : ∀ {B : List (Nat × α)} {t : Nat}, (t, lkp d B t) ∈ B ∨ lkp d B t = d
  | [], t => Or.inr rfl
  | (a, b) :: B, t => by
    unfold lkp
    by_cases h : a = t
    · rw [if_pos h]
      subst h
      exact Or.inl List.mem_cons_self
    · rw [if_neg h]
      rcases lkp_mem (d := d) (B := B) (t := t) with h | h
      · exact Or.inl (List.mem_cons_of_mem _ h)
      · exact Or.inr h
theorem chkB_at {T : Tb} {cc : ByteArray} {B : Bk} (h : chkB T cc B = true) {t : Nat} {b : List Instr × Nat} (hm : (t, b) ∈ B) : chk T cc b.2 b.1 t = true := List.all_eq_true.mp h (t, b) hm
/-- a label's demand, where the label is one of the blocks -/
theorem at_blk {o : OM} {Y : Pk} {d : Nat} {Q : List AV → Sto → Prop} {T : Tb} {ca : List (Nat × Ctr)} {lv : List (Nat × Nat)} {B : Bk} (hEv : Ev o Y d T ca) (hB : chkB T (yB Y) B = true) {K : Nat → List AV → List AV → Sto → Prop} (hK : ∀ t S L σ, K t S L σ → At o Y d Q t S L σ)
    {t : Nat} {S L : List AV} {σ : Sto} (hm : (t, lkp dBk B t) ∈ B) (h : wp ca lv (yK Y) K Q (lkp dBk B t).2 (lkp dBk B t).1 S L σ) : At o Y d Q t S L σ := at_wp hEv hK _ t S L σ (chkB_at hB hm) h
theorem at_wpl {o : OM} {Y : Pk} {d : Nat} {Q : List AV → Sto → Prop} {T : Tb} {ca : List (Nat × Ctr)} {lv : List (Nat × Nat)} {B : Bk} (hEv : Ev o Y d T ca) (hB : chkB T (yB Y) B = true) :
    ∀ (n t : Nat) (S L : List AV) (σ : Sto), wpl ca lv (yK Y) B Q n t S L σ → At o Y d Q t S L σ
  | 0, _, _, _, _, h => h.elim
  | n + 1, t, S, L, σ, h => by
    have h : wp ca lv (yK Y) (wpl ca lv (yK Y) B Q n) Q (lkp dBk B t).2 (lkp dBk B t).1 S L σ := h
    rcases lkp_mem (d := dBk) (B := B) (t := t) with hm | hm
    · exact at_blk hEv hB (fun t S L σ => at_wpl hEv hB n t S L σ) hm h
    · rw [hm] at h
      exact False.elim h
-- Math
def iabs (a : Int) : Int := if 0 ≤ a then a else -a
def Cmax : Ctr := fun A σ k => match A with
  | [.inl a, .inl b] => k [vI (max a b)] σ
  | _ => False
def Cmin : Ctr := fun A σ k => match A with
  | [.inl a, .inl b] => k [vI (min a b)] σ
  | _ => False
def Cabs : Ctr := fun A σ k => match A with
  | [.inl a] => i32 (-a) ∧ k [vI (iabs a)] σ
  | _ => False
theorem max_ok {o : OM} {Y : Pk} {d idx : Nat} (hl : Cond.methodLink (yN Y).cls idx Lib.Math.max.name ∈ wsG) (h1 : Cond.static Lib.Math.max.name ∈ wsG) (h2 : Cond.initialized "java/lang/Math" ∈ wsG) (h3 : Cond.code Lib.Math.max.name Lib.Math.max.code 2 (some .int) ∈ wsG) : CallOK o Y d (.invokestatic idx) (2, Cmax) := by
  intro Q p e R s m args below meth c cells slots Z C0 H locs ls pc A rest σ k hdec hH hS hls hA hrest hAn hcat hC kk
  obtain ⟨hx, hb, hml, hown, hts, hst, ⟨hR1, hR2, hR3, hR4⟩, hret⟩ := id C0
  match A, hA, hC with
  | [.inl a, .inl b], hA, hC =>
    have ha : i32 a := hA (vI a) (by simp)
    have hb2 : i32 b := hA (vI b) (by simp)
    have hloc : ((rest.map (cv o)).map fun v => v.category).sum + 13 ≤ R.locals := by
      have h1 := cat_sum o rest
      have h2 : 100 * (d + 1) ≤ R.locals := hR2
      omega
    refine va_mmax hx hb (by rw [hml, hls]) hown (hts _ hl) (hts _ h1) (hts _ h2) (hts _ h3) (Nat.le_trans (show 1 ≤ d + 1 by omega) hR1) hloc hR3 hR4 hdec ?_
    have hv : (if Int32.ofInt a < Int32.ofInt b then Int32.ofInt b else Int32.ofInt a) = Int32.ofInt (max a b) := by
      by_cases h : a < b
      · rw [if_pos ((i32_lt ha hb2).mpr h), Int.max_eq_right (by omega)]
      · rw [if_neg (fun z => h ((i32_lt ha hb2).mp z)), Int.max_eq_left (by omega)]
    rw [hv]
    exact kk [vI (max a b)] σ H locs hC (fun v hv => by rw [List.mem_singleton.mp hv]; show i32 _; unfold i32 at *; omega) hH hS
theorem min_ok {o : OM} {Y : Pk} {d idx : Nat} (hl : Cond.methodLink (yN Y).cls idx Lib.Math.min.name ∈ wsG) (h1 : Cond.static Lib.Math.min.name ∈ wsG) (h2 : Cond.initialized "java/lang/Math" ∈ wsG) (h3 : Cond.code Lib.Math.min.name Lib.Math.min.code 2 (some .int) ∈ wsG) : CallOK o Y d (.invokestatic idx) (2, Cmin) := by
  intro Q p e R s m args below meth c cells slots Z C0 H locs ls pc A rest σ k hdec hH hS hls hA hrest hAn hcat hC kk
  obtain ⟨hx, hb, hml, hown, hts, hst, ⟨hR1, hR2, hR3, hR4⟩, hret⟩ := id C0
  match A, hA, hC with
  | [.inl a, .inl b], hA, hC =>
    have ha : i32 a := hA (vI a) (by simp)
    have hb2 : i32 b := hA (vI b) (by simp)
    have hloc : ((rest.map (cv o)).map fun v => v.category).sum + 13 ≤ R.locals := by
      have h1 := cat_sum o rest
      have h2 : 100 * (d + 1) ≤ R.locals := hR2
      omega
    refine va_mmin hx hb (by rw [hml, hls]) hown (hts _ hl) (hts _ h1) (hts _ h2) (hts _ h3) (Nat.le_trans (show 1 ≤ d + 1 by omega) hR1) hloc hR3 hR4 hdec ?_
    have hv : (if Int32.ofInt b < Int32.ofInt a then Int32.ofInt b else Int32.ofInt a) = Int32.ofInt (min a b) := by
      by_cases h : b < a
      · rw [if_pos ((i32_lt hb2 ha).mpr h), Int.min_eq_right (by omega)]
      · rw [if_neg (fun z => h ((i32_lt hb2 ha).mp z)), Int.min_eq_left (by omega)]
    rw [hv]
    exact kk [vI (min a b)] σ H locs hC (fun v hv => by rw [List.mem_singleton.mp hv]; show i32 _; unfold i32 at *; omega) hH hS
theorem abs_ok {o : OM} {Y : Pk} {d idx : Nat} (hl : Cond.methodLink (yN Y).cls idx Lib.Math.abs.name ∈ wsG) (h1 : Cond.static Lib.Math.abs.name ∈ wsG) (h2 : Cond.initialized "java/lang/Math" ∈ wsG) (h3 : Cond.code Lib.Math.abs.name Lib.Math.abs.code 1 (some .int) ∈ wsG) : CallOK o Y d (.invokestatic idx) (1, Cabs) := by
  intro Q p e R s m args below meth c cells slots Z C0 H locs ls pc A rest σ k hdec hH hS hls hA hrest hAn hcat hC kk
  obtain ⟨hx, hb, hml, hown, hts, hst, ⟨hR1, hR2, hR3, hR4⟩, hret⟩ := id C0
  match A, hA, hC with
  | [.inl a], hA, hC =>
    obtain ⟨hn, hC⟩ : i32 (-a) ∧ k [vI (iabs a)] σ := hC
    have ha : i32 a := hA (vI a) (by simp)
    have hloc : ((rest.map (cv o)).map fun v => v.category).sum + 13 ≤ R.locals := by
      have h1 := cat_sum o rest
      have h2 : 100 * (d + 1) ≤ R.locals := hR2
      omega
    refine va_mabs hx hb (by rw [hml, hls]) hown (hts _ hl) (hts _ h1) (hts _ h2) (hts _ h3) (Nat.le_trans (show 1 ≤ d + 1 by omega) hR1) hloc hR3 hR4 hdec ?_
    have hv : (if 0 ≤ Int32.ofInt a then Int32.ofInt a else 0 - Int32.ofInt a) = Int32.ofInt (iabs a) := by
      unfold iabs
      rw [show (0 : Int32) = Int32.ofInt 0 from rfl]
      by_cases h : 0 ≤ a
      · rw [if_pos h, if_pos ((i32_le i32_0 ha).mpr h)]
      · rw [if_neg h, if_neg (fun z => h ((i32_le i32_0 ha).mp z)), ← Int32.ofInt_sub, Int.zero_sub]
    rw [hv]
    exact kk [vI (iabs a)] σ H locs hC (fun v hv => by rw [List.mem_singleton.mp hv]; show i32 _; unfold iabs; split; exact ha; exact hn) hH hS
end
section
-- ===== what one instruction asks, a row each =====
section ST
variable {ca : List (Nat × Ctr)} {lv : List (Nat × Nat)} {rt : Nat} {K : Nat → List AV → List AV → Sto → Prop} {Q : List AV → Sto → Prop} {S L : List AV} {σ : Sto} {k : List AV → List AV → Sto → Prop} {f : Nat}
theorem st_iconst {n : Int} : step ca lv rt K Q (.iconst n) S L σ k = (k (vI n :: S) L σ) := rfl
theorem st_jsr {n : Int} : step ca lv rt K Q (.jsr n) S L σ k = (k (vL n :: S) L σ) := rfl
theorem st_anewarray {q : Nat} : step ca lv rt K Q (.anewarray q) S L σ k = (k (vR q :: S) L σ) := rfl
theorem st_iload {n : Nat} : step ca lv rt K Q (.iload n) S L σ k = (match nth L n with | .inl x => k (vI x :: S) L σ | _ => False) := rfl
theorem st_lload {n : Nat} : step ca lv rt K Q (.lload n) S L σ k = (match nth L n with | .inr (.inl x) => k (vL x :: S) L σ | _ => False) := rfl
theorem st_aload {n : Nat} : step ca lv rt K Q (.aload n) S L σ k = (match nth L n with | .inr (.inr (.inl x)) => k (vR x :: S) L σ | _ => False) := rfl
theorem st_istore {n : Nat} {x : Int} : step ca lv rt K Q (.istore n) (.inl x :: S) L σ k = (canSet L n = true ∧ k S (setL L n (vI x)) σ) := rfl
theorem st_lstore {n : Nat} {x : Int} : step ca lv rt K Q (.lstore n) (.inr (.inl x) :: S) L σ k = (canSet L n = true ∧ k S (setL (setL L n (vL x)) (n + 1) vX) σ) := rfl
theorem st_astore {n x : Nat} : step ca lv rt K Q (.astore n) (.inr (.inr (.inl x)) :: S) L σ k = (canSet L n = true ∧ k S (setL L n (vR x)) σ) := rfl
theorem st_iinc {n : Nat} {c : Int} : step ca lv rt K Q (.iinc n c) S L σ k = (match nth L n with | .inl x => canSet L n = true ∧ i32 (x + c) ∧ k S (setL L n (vI (x + c))) σ | _ => False) := rfl
theorem st_getfield {c q : Nat} : step ca lv rt K Q (.getfield c) (.inr (.inr (.inl q)) :: S) L σ k = (shp q = (3, c / 1000) ∧ k (rdF c q σ :: S) L σ) := rfl
theorem st_put0 {c q : Nat} {x : Int} (h : c % 10 = 0) : step ca lv rt K Q (.putfield c) (.inl x :: .inr (.inr (.inl q)) :: S) L σ k = (shp q = (3, c / 1000) ∧ k S L (su σ q ((c / 10 % 100 : Nat) : Int) x)) := by simp only [step, h]
theorem st_put1 {c q : Nat} {x : Int} (h : c % 10 = 1) : step ca lv rt K Q (.putfield c) (.inr (.inl x) :: .inr (.inr (.inl q)) :: S) L σ k = (shp q = (3, c / 1000) ∧ k S L (su σ q ((c / 10 % 100 : Nat) : Int) x)) := by simp only [step, h]
theorem st_put3 {c q : Nat} {x : Int} (h : c % 10 = 3) : step ca lv rt K Q (.putfield c) (.inl x :: .inr (.inr (.inl q)) :: S) L σ k = (shp q = (3, c / 1000) ∧ (x = 0 ∨ x = 1) ∧ k S L (su σ q ((c / 10 % 100 : Nat) : Int) x)) := by simp only [step, h]
theorem st_inv {c : Nat} : step ca lv rt K Q (.invokestatic c) S L σ k = ((tbl dCa ca c).1 ≤ S.length ∧ catS (S.drop (tbl dCa ca c).1) ≤ 8 ∧ (tbl dCa ca c).2 (S.take (tbl dCa ca c).1).reverse σ (fun r σ => k (r ++ S.drop (tbl dCa ca c).1) L σ)) := rfl
theorem st_goto {t : Int} : step ca lv rt K Q (.goto t) S L σ k = (K t.toNat S (tk lv t.toNat L) σ) := rfl
theorem st_icmp {c : ClassFile.Cond} {t a b : Int} : step ca lv rt K Q (.if_icmp c t) (.inl b :: .inl a :: S) L σ k = ((cmpI c a b → K t.toNat S (tk lv t.toNat L) σ) ∧ (¬ cmpI c a b → k S L σ)) := rfl
theorem st_ifc {c : ClassFile.Cond} {t a : Int} : step ca lv rt K Q (.ifCond c t) (.inl a :: S) L σ k = ((cmpI c a 0 → K t.toNat S (tk lv t.toNat L) σ) ∧ (¬ cmpI c a 0 → k S L σ)) := rfl
theorem st_tsw {d lo hi x : Int} {os : Array Int} : step ca lv rt K Q (.tableswitch d lo hi os) (.inl x :: S) L σ k = (swK lv K S L σ x lo os.toList ∧ (x < lo ∨ hi < x → K d.toNat S (tk lv d.toNat L) σ)) := rfl
theorem st_iadd {a b : Int} : step ca lv rt K Q .iadd (.inl b :: .inl a :: S) L σ k = (i32 (a + b) ∧ k (vI (a + b) :: S) L σ) := rfl
theorem st_isub {a b : Int} : step ca lv rt K Q .isub (.inl b :: .inl a :: S) L σ k = (i32 (a - b) ∧ k (vI (a - b) :: S) L σ) := rfl
theorem st_imul {a b : Int} : step ca lv rt K Q .imul (.inl b :: .inl a :: S) L σ k = (i32 (a * b) ∧ k (vI (a * b) :: S) L σ) := rfl
theorem st_ineg {a : Int} : step ca lv rt K Q .ineg (.inl a :: S) L σ k = (i32 (-a) ∧ k (vI (-a) :: S) L σ) := rfl
theorem st_idiv {a b : Int} : step ca lv rt K Q .idiv (.inl b :: .inl a :: S) L σ k = (0 < b ∧ k (vI (Int.tdiv a b) :: S) L σ) := rfl
theorem st_irem {a b : Int} : step ca lv rt K Q .irem (.inl b :: .inl a :: S) L σ k = (0 < b ∧ k (vI (Int.tmod a b) :: S) L σ) := rfl
theorem st_iand {a b : Int} : step ca lv rt K Q .iand (.inl b :: .inl a :: S) L σ k = (k (vI (bAnd a b) :: S) L σ) := rfl
theorem st_ior {a b : Int} : step ca lv rt K Q .ior (.inl b :: .inl a :: S) L σ k = (k (vI (bOr a b) :: S) L σ) := rfl
theorem st_ixor {a b : Int} : step ca lv rt K Q .ixor (.inl b :: .inl a :: S) L σ k = (k (vI (bXor a b) :: S) L σ) := rfl
theorem st_ishl {a b : Int} : step ca lv rt K Q .ishl (.inl b :: .inl a :: S) L σ k = (k (vI (bShl a b) :: S) L σ) := rfl
theorem st_ishr {a b : Int} : step ca lv rt K Q .ishr (.inl b :: .inl a :: S) L σ k = (k (vI (bShr a b) :: S) L σ) := rfl
theorem st_iushr {a b : Int} : step ca lv rt K Q .iushr (.inl b :: .inl a :: S) L σ k = (k (vI (bUshr a b) :: S) L σ) := rfl
theorem st_ladd {a b : Int} : step ca lv rt K Q .ladd (.inr (.inl b) :: .inr (.inl a) :: S) L σ k = (k (vL (w64 (a + b)) :: S) L σ) := rfl
theorem st_lmul {a b : Int} : step ca lv rt K Q .lmul (.inr (.inl b) :: .inr (.inl a) :: S) L σ k = (k (vL (w64 (a * b)) :: S) L σ) := rfl
theorem st_ldiv {a b : Int} : step ca lv rt K Q .ldiv (.inr (.inl b) :: .inr (.inl a) :: S) L σ k = (0 < b ∧ k (vL (Int.tdiv a b) :: S) L σ) := rfl
theorem st_lrem {a b : Int} : step ca lv rt K Q .lrem (.inr (.inl b) :: .inr (.inl a) :: S) L σ k = (0 < b ∧ k (vL (Int.tmod a b) :: S) L σ) := rfl
theorem st_land {a b : Int} : step ca lv rt K Q .land (.inr (.inl b) :: .inr (.inl a) :: S) L σ k = (k (vL (lAnd a b) :: S) L σ) := rfl
theorem st_lor {a b : Int} : step ca lv rt K Q .lor (.inr (.inl b) :: .inr (.inl a) :: S) L σ k = (k (vL (lOr a b) :: S) L σ) := rfl
theorem st_lshl {a b : Int} : step ca lv rt K Q .lshl (.inl b :: .inr (.inl a) :: S) L σ k = (k (vL (lShl a b) :: S) L σ) := rfl
theorem st_lushr {a b : Int} : step ca lv rt K Q .lushr (.inl b :: .inr (.inl a) :: S) L σ k = (k (vL (lUshr a b) :: S) L σ) := rfl
theorem st_lcmp {a b : Int} : step ca lv rt K Q .lcmp (.inr (.inl b) :: .inr (.inl a) :: S) L σ k = (k (vI (lCmp a b) :: S) L σ) := rfl
theorem st_i2l {a : Int} : step ca lv rt K Q .i2l (.inl a :: S) L σ k = (k (vL a :: S) L σ) := rfl
theorem st_l2i {a : Int} : step ca lv rt K Q .l2i (.inr (.inl a) :: S) L σ k = (k (vI (w32 a) :: S) L σ) := rfl
theorem st_i2c {a : Int} : step ca lv rt K Q .i2c (.inl a :: S) L σ k = (k (vI (bChr a) :: S) L σ) := rfl
theorem st_i2b {a : Int} : step ca lv rt K Q .i2b (.inl a :: S) L σ k = (k (vI (bI8 a) :: S) L σ) := rfl
theorem st_dupI {a : Int} : step ca lv rt K Q .dup (.inl a :: S) L σ k = (k (vI a :: vI a :: S) L σ) := rfl
theorem st_dupR {a : Nat} : step ca lv rt K Q .dup (.inr (.inr (.inl a)) :: S) L σ k = (k (vR a :: vR a :: S) L σ) := rfl
theorem st_dup2 {a : Int} {b : Nat} : step ca lv rt K Q .dup2 (.inl a :: .inr (.inr (.inl b)) :: S) L σ k = (k (vI a :: vR b :: vI a :: vR b :: S) L σ) := rfl
theorem st_pop {a : Int} : step ca lv rt K Q .pop (.inl a :: S) L σ k = (k S L σ) := rfl
theorem st_iaload {i : Int} {q : Nat} : step ca lv rt K Q .iaload (.inl i :: .inr (.inr (.inl q)) :: S) L σ k = (ald (shp q).1 ((0 ≤ i ∧ i < ((shp q).2 : Int)) ∧ k (vI (σ q i) :: S) L σ) ((0 ≤ i ∧ i < ((shp q).2 : Int)) ∧ k (vI ((stc q).getD i.toNat 0) :: S) L σ) ((0 ≤ i ∧ i < σ q (-1)) ∧ k (vI (σ q i) :: S) L σ)) := rfl
theorem st_baload {i : Int} {q : Nat} : step ca lv rt K Q .baload (.inl i :: .inr (.inr (.inl q)) :: S) L σ k = (bld (shp q).1 ((0 ≤ i ∧ i < ((shp q).2 : Int)) ∧ k (vI (σ q i) :: S) L σ) ((0 ≤ i ∧ i < ((shp q).2 : Int)) ∧ k (vI ((stc q).getD i.toNat 0) :: S) L σ)) := rfl
theorem st_aaload {i : Int} {q : Nat} : step ca lv rt K Q .aaload (.inl i :: .inr (.inr (.inl q)) :: S) L σ k = ((shp q).1 = 2 ∧ (0 ≤ i ∧ i < ((shp q).2 : Int)) ∧ k (vR (rfs q i.toNat) :: S) L σ) := rfl
theorem st_iastore {i x : Int} {q : Nat} : step ca lv rt K Q .iastore (.inl x :: .inl i :: .inr (.inr (.inl q)) :: S) L σ k = ((shp q).1 = 0 ∧ (0 ≤ i ∧ i < ((shp q).2 : Int)) ∧ k S L (su σ q i x)) := rfl
theorem st_bastore {i x : Int} {q : Nat} : step ca lv rt K Q .bastore (.inl x :: .inl i :: .inr (.inr (.inl q)) :: S) L σ k = ((shp q).1 = 1 ∧ (0 ≤ i ∧ i < ((shp q).2 : Int)) ∧ (x = 0 ∨ x = 1) ∧ k S L (su σ q i x)) := rfl
theorem st_alen {q : Nat} : step ca lv rt K Q .arraylength (.inr (.inr (.inl q)) :: S) L σ k = (aln (shp q).1 (k (vI ((shp q).2 : Int) :: S) L σ) (k (vI (σ q (-1)) :: S) L σ)) := rfl
theorem st_ireturn {v : Int} : step ca lv rt K Q .ireturn [.inl v] L σ k = ((rt = 1 ∨ (rt = 2 ∧ (v = 0 ∨ v = 1)) ∨ (rt = 4 ∧ v = 0)) ∧ Q [vI v] σ) := rfl
theorem st_lreturn {v : Int} : step ca lv rt K Q .lreturn [.inr (.inl v)] L σ k = (rt = 3 ∧ Q [vL v] σ) := rfl
theorem st_return : step ca lv rt K Q .return_ [] L σ k = (rt = 0 ∧ Q [] σ) := rfl
theorem wp_c {i : Instr} {r : List Instr} : wp ca lv rt K Q f (i :: r) S L σ = step ca lv rt K Q i S L σ (wp ca lv rt K Q f r) := rfl
theorem wp_n : wp ca lv rt K Q f [] S L σ = K f S (tk lv f L) σ := rfl
theorem wpl_s {B : Bk} {n t : Nat} : wpl ca lv rt B Q (n + 1) t S L σ = wp ca lv rt (wpl ca lv rt B Q n) Q (lkp dBk B t).2 (lkp dBk B t).1 S L σ := rfl
end ST
theorem shpT : shp 0 = (3, 8) ∧ shp 1 = (3, 6) ∧ shp 2 = (3, 0) ∧ shp 3 = (3, 6) ∧ shp 4 = (3, 0) ∧ shp 5 = (3, 4) ∧ shp 6 = (3, 1) ∧ shp 7 = (3, 2) ∧ shp 8 = (3, 7) ∧ shp 9 = (3, 5) ∧ shp 10 = (3, 3) ∧ shp 11 = (0, 7) ∧ shp 12 = (0, 7) ∧ shp 13 = (0, 112) ∧ shp 14 = (0, 112) ∧ shp 15 = (0, 112) ∧ shp 16 = (0, 12) ∧ shp 17 = (0, 12) ∧ shp 18 = (0, 12) ∧ shp 19 = (0, 12) ∧ shp 20 = (0, 12) ∧ shp 21 = (0, 7) ∧ shp 22 = (0, 7) ∧ shp 23 = (0, 7) ∧ shp 24 = (0, 7) ∧ shp 25 = (0, 112) ∧ shp 26 = (0, 112) ∧ shp 27 = (0, 112) ∧ shp 28 = (0, 12) ∧ shp 29 = (0, 12) ∧ shp 30 = (0, 12) ∧ shp 31 = (0, 12) ∧ shp 32 = (0, 12) ∧ shp 33 = (0, 7) ∧ shp 34 = (0, 7) ∧ shp 35 = (0, 30) ∧ shp 36 = (0, 7) ∧ shp 37 = (0, 35) ∧ shp 38 = (0, 16) ∧ shp 39 = (0, 16) ∧ shp 40 = (0, 16) ∧ shp 41 = (0, 16) ∧ shp 42 = (0, 16) ∧ shp 43 = (0, 289) ∧ shp 44 = (0, 289) ∧ shp 45 = (0, 32) ∧ shp 46 = (0, 16) ∧ shp 47 = (0, 16) ∧ shp 48 = (0, 64) ∧ shp 49 = (0, 64) ∧ shp 50 = (0, 64) ∧ shp 51 = (2, 13) ∧ shp 52 = (0, 64) ∧ shp 53 = (0, 64) ∧ shp 54 = (0, 64) ∧ shp 55 = (0, 64) ∧ shp 56 = (0, 64) ∧ shp 57 = (0, 64) ∧ shp 58 = (0, 64) ∧ shp 59 = (0, 64) ∧ shp 60 = (0, 64) ∧ shp 61 = (0, 64) ∧ shp 62 = (0, 64) ∧ shp 63 = (0, 64) ∧ shp 64 = (0, 64) ∧ shp 65 = (0, 70) ∧ shp 66 = (0, 8) ∧ shp 67 = (3, 9) ∧ shp 68 = (0, 7) ∧ shp 69 = (0, 7) ∧ shp 70 = (0, 112) ∧ shp 71 = (0, 112) ∧ shp 72 = (0, 112) ∧ shp 73 = (0, 30) ∧ shp 74 = (0, 28) ∧ shp 75 = (0, 16) ∧ shp 76 = (0, 7) ∧ shp 77 = (0, 289) ∧ shp 78 = (0, 289) ∧ shp 79 = (0, 32) ∧ shp 80 = (0, 16) ∧ shp 81 = (1, 16) ∧ shp 82 = (0, 12) ∧ shp 83 = (0, 12) ∧ shp 84 = (0, 12) ∧ shp 85 = (0, 12) ∧ shp 86 = (0, 12) ∧ shp 87 = (1, 12) ∧ shp 88 = (1, 7) ∧ shp 89 = (0, 7) ∧ shp 90 = (0, 7) ∧ shp 91 = (0, 64) ∧ shp 92 = (0, 7) ∧ shp 93 = (0, 7) ∧ shp 94 = (0, 7) ∧ shp 95 = (0, 336) ∧ shp 96 = (0, 72) ∧ shp 97 = (0, 21) ∧ shp 98 = (4, 7) ∧ shp 99 = (4, 4) ∧ shp 100 = (4, 5) ∧ shp 101 = (4, 5) ∧ shp 102 = (5, 0) ∧ shp 103 = (3, 20) ∧ shp 104 = (3, 20) ∧ shp 105 = (7, 7) ∧ shp 106 = (7, 4) := ⟨rfl, rfl, rfl, rfl, rfl, rfl, rfl, rfl, rfl, rfl, rfl, rfl, rfl, rfl, rfl, rfl, rfl, rfl, rfl, rfl, rfl, rfl, rfl, rfl, rfl, rfl, rfl, rfl, rfl, rfl, rfl, rfl, rfl, rfl, rfl, rfl, rfl, rfl, rfl, rfl, rfl, rfl, rfl, rfl, rfl, rfl, rfl, rfl, rfl, rfl, rfl, rfl, rfl, rfl, rfl, rfl, rfl, rfl, rfl, rfl, rfl, rfl, rfl, rfl, rfl, rfl, rfl, rfl, rfl, rfl, rfl, rfl, rfl, rfl, rfl, rfl, rfl, rfl, rfl, rfl, rfl, rfl, rfl, rfl, rfl, rfl, rfl, rfl, rfl, rfl, rfl, rfl, rfl, rfl, rfl, rfl, rfl, rfl, rfl, rfl, rfl, rfl, rfl, rfl, rfl, rfl, rfl⟩
theorem rfsT : rfs 0 0 = 1 ∧ rfs 0 1 = 2 ∧ rfs 0 2 = 3 ∧ rfs 0 3 = 4 ∧ rfs 0 5 = 5 ∧ rfs 0 6 = 6 ∧ rfs 0 7 = 7 ∧ rfs 0 8 = 8 ∧ rfs 0 9 = 9 ∧ rfs 0 10 = 10 ∧ rfs 1 1 = 11 ∧ rfs 1 2 = 12 ∧ rfs 1 3 = 13 ∧ rfs 1 4 = 14 ∧ rfs 1 5 = 15 ∧ rfs 2 1 = 16 ∧ rfs 2 2 = 17 ∧ rfs 2 3 = 18 ∧ rfs 2 4 = 19 ∧ rfs 2 5 = 20 ∧ rfs 2 8 = 21 ∧ rfs 2 9 = 22 ∧ rfs 3 1 = 23 ∧ rfs 3 2 = 24 ∧ rfs 3 3 = 25 ∧ rfs 3 4 = 26 ∧ rfs 3 5 = 27 ∧ rfs 4 1 = 28 ∧ rfs 4 2 = 29 ∧ rfs 4 3 = 30 ∧ rfs 4 4 = 31 ∧ rfs 4 5 = 32 ∧ rfs 4 8 = 33 ∧ rfs 4 9 = 34 ∧ rfs 5 1 = 35 ∧ rfs 5 3 = 36 ∧ rfs 6 0 = 1 ∧ rfs 6 2 = 37 ∧ rfs 7 1 = 38 ∧ rfs 8 0 = 1 ∧ rfs 9 0 = 1 ∧ rfs 9 1 = 7 ∧ rfs 9 2 = 39 ∧ rfs 9 3 = 40 ∧ rfs 9 4 = 41 ∧ rfs 9 5 = 42 ∧ rfs 9 14 = 43 ∧ rfs 9 15 = 44 ∧ rfs 9 16 = 45 ∧ rfs 9 18 = 46 ∧ rfs 9 19 = 47 ∧ rfs 10 0 = 1 ∧ rfs 10 1 = 6 ∧ rfs 10 2 = 2 ∧ rfs 10 3 = 48 ∧ rfs 10 4 = 49 ∧ rfs 10 5 = 50 ∧ rfs 10 6 = 51 ∧ rfs 10 7 = 65 ∧ rfs 10 8 = 66 ∧ rfs 67 1 = 68 ∧ rfs 67 2 = 69 ∧ rfs 67 3 = 70 ∧ rfs 67 4 = 71 ∧ rfs 67 5 = 72 ∧ rfs 67 7 = 73 ∧ rfs 67 10 = 74 ∧ rfs 67 12 = 75 ∧ rfs 67 13 = 76 ∧ rfs 67 17 = 77 ∧ rfs 67 18 = 78 ∧ rfs 67 27 = 79 ∧ rfs 67 29 = 80 ∧ rfs 67 30 = 81 ∧ rfs 67 33 = 82 ∧ rfs 67 34 = 83 ∧ rfs 67 35 = 84 ∧ rfs 67 36 = 85 ∧ rfs 67 37 = 86 ∧ rfs 67 38 = 87 ∧ rfs 67 39 = 88 ∧ rfs 67 40 = 89 ∧ rfs 67 41 = 90 ∧ rfs 67 43 = 91 ∧ rfs 67 44 = 92 ∧ rfs 67 49 = 93 ∧ rfs 67 50 = 94 ∧ rfs 67 51 = 95 ∧ rfs 67 52 = 96 ∧ rfs 67 53 = 97 ∧ rfs 103 0 = 105 ∧ rfs 104 0 = 106 := ⟨rfl, rfl, rfl, rfl, rfl, rfl, rfl, rfl, rfl, rfl, rfl, rfl, rfl, rfl, rfl, rfl, rfl, rfl, rfl, rfl, rfl, rfl, rfl, rfl, rfl, rfl, rfl, rfl, rfl, rfl, rfl, rfl, rfl, rfl, rfl, rfl, rfl, rfl, rfl, rfl, rfl, rfl, rfl, rfl, rfl, rfl, rfl, rfl, rfl, rfl, rfl, rfl, rfl, rfl, rfl, rfl, rfl, rfl, rfl, rfl, rfl, rfl, rfl, rfl, rfl, rfl, rfl, rfl, rfl, rfl, rfl, rfl, rfl, rfl, rfl, rfl, rfl, rfl, rfl, rfl, rfl, rfl, rfl, rfl, rfl, rfl, rfl, rfl, rfl, rfl, rfl, rfl⟩
end
section
-- ===== the words, by their places (printed by wip/tools/emit.py) =====
theorem tm1 {w : Cond} (h : w ∈ tables_1_1) : w ∈ tables_1 := List.mem_append_left _ h
theorem tm2 {w : Cond} (h : w ∈ tables_1_2) : w ∈ tables_1 := List.mem_append_right _ (List.mem_append_left _ h)
theorem tm3 {w : Cond} (h : w ∈ tables_1_3) : w ∈ tables_1 := List.mem_append_right _ (List.mem_append_right _ (List.mem_append_left _ h))
theorem tm4 {w : Cond} (h : w ∈ tables_1_4) : w ∈ tables_1 := List.mem_append_right _ (List.mem_append_right _ (List.mem_append_right _ (List.mem_append_left _ h)))
theorem tm5 {w : Cond} (h : w ∈ tables_1_5) : w ∈ tables_1 := List.mem_append_right _ (List.mem_append_right _ (List.mem_append_right _ (List.mem_append_right _ (List.mem_append_left _ h))))
theorem tm6 {w : Cond} (h : w ∈ tables_1_6) : w ∈ tables_1 := List.mem_append_right _ (List.mem_append_right _ (List.mem_append_right _ (List.mem_append_right _ (List.mem_append_right _ (List.mem_append_left _ h)))))
theorem tm7 {w : Cond} (h : w ∈ tables_1_7) : w ∈ tables_1 := List.mem_append_right _ (List.mem_append_right _ (List.mem_append_right _ (List.mem_append_right _ (List.mem_append_right _ (List.mem_append_right _ (h))))))
theorem w_92 : (Jvm.Cond.lays "LeavesOfMud$Bonds" "LeavesOfMud$Bonds" "joins" "I") ∈ wsG := wsG_mem (List.mem_append_right _ (tm1 (List.mem_of_getElem? (i := 92) rfl))) rfl
theorem w_94 : (Jvm.Cond.laysFinal "LeavesOfMud$Bonds" "LeavesOfMud$Bonds" "firsts" "[I") ∈ wsG := wsG_mem (List.mem_append_right _ (tm1 (List.mem_of_getElem? (i := 94) rfl))) rfl
theorem w_96 : (Jvm.Cond.laysFinal "LeavesOfMud$Bonds" "LeavesOfMud$Bonds" "seconds" "[I") ∈ wsG := wsG_mem (List.mem_append_right _ (tm1 (List.mem_of_getElem? (i := 96) rfl))) rfl
theorem w_98 : (Jvm.Cond.laysFinal "LeavesOfMud$Bonds" "LeavesOfMud$Bonds" "lows" "[I") ∈ wsG := wsG_mem (List.mem_append_right _ (tm1 (List.mem_of_getElem? (i := 98) rfl))) rfl
theorem w_100 : (Jvm.Cond.laysFinal "LeavesOfMud$Bonds" "LeavesOfMud$Bonds" "highs" "[I") ∈ wsG := wsG_mem (List.mem_append_right _ (tm1 (List.mem_of_getElem? (i := 100) rfl))) rfl
theorem w_102 : (Jvm.Cond.laysFinal "LeavesOfMud$Bonds" "LeavesOfMud$Bonds" "doubts" "[I") ∈ wsG := wsG_mem (List.mem_append_right _ (tm1 (List.mem_of_getElem? (i := 102) rfl))) rfl
theorem w_104 : (Jvm.Cond.lays "LeavesOfMud$Bonds" "LeavesOfMud$Bonds" "keptBits" "I") ∈ wsG := wsG_mem (List.mem_append_right _ (tm1 (List.mem_of_getElem? (i := 104) rfl))) rfl
theorem w_106 : (Jvm.Cond.lays "LeavesOfMud$Bonds" "LeavesOfMud$Bonds" "tiedBits" "I") ∈ wsG := wsG_mem (List.mem_append_right _ (tm1 (List.mem_of_getElem? (i := 106) rfl))) rfl
theorem w_108 : (Jvm.Cond.laysFinal "LeavesOfMud$Bonds" "LeavesOfMud$Bonds" "tieLows" "[I") ∈ wsG := wsG_mem (List.mem_append_right _ (tm1 (List.mem_of_getElem? (i := 108) rfl))) rfl
theorem w_110 : (Jvm.Cond.laysFinal "LeavesOfMud$Bonds" "LeavesOfMud$Bonds" "tieHighs" "[I") ∈ wsG := wsG_mem (List.mem_append_right _ (tm1 (List.mem_of_getElem? (i := 110) rfl))) rfl
theorem w_112 : (Jvm.Cond.lays "LeavesOfMud$Bonds" "LeavesOfMud$Bonds" "ashesCount" "Z") ∈ wsG := wsG_mem (List.mem_append_right _ (tm1 (List.mem_of_getElem? (i := 112) rfl))) rfl
theorem inW0 : ∀ w ∈ u_ws RX0 TX0 11, w ∈ wsG := List.forall_mem_cons.mpr ⟨w_92, List.forall_mem_cons.mpr ⟨w_94, List.forall_mem_cons.mpr ⟨w_96, List.forall_mem_cons.mpr ⟨w_98, List.forall_mem_cons.mpr ⟨w_100, List.forall_mem_cons.mpr ⟨w_102, List.forall_mem_cons.mpr ⟨w_104, List.forall_mem_cons.mpr ⟨w_106, List.forall_mem_cons.mpr ⟨w_108, List.forall_mem_cons.mpr ⟨w_110, List.forall_mem_cons.mpr ⟨w_112, fun _ h => absurd h List.not_mem_nil⟩⟩⟩⟩⟩⟩⟩⟩⟩⟩⟩
theorem w_151 : (Jvm.Cond.laysFinal "LeavesOfMud$Hands" "LeavesOfMud$Hands" "pits" "LLeavesOfMud$Pits;") ∈ wsG := wsG_mem (List.mem_append_right _ (tm1 (List.mem_of_getElem? (i := 151) rfl))) rfl
theorem w_153 : (Jvm.Cond.lays "LeavesOfMud$Hands" "LeavesOfMud$Hands" "size" "I") ∈ wsG := wsG_mem (List.mem_append_right _ (tm1 (List.mem_of_getElem? (i := 153) rfl))) rfl
theorem w_155 : (Jvm.Cond.laysFinal "LeavesOfMud$Hands" "LeavesOfMud$Hands" "told" "[I") ∈ wsG := wsG_mem (List.mem_append_right _ (tm1 (List.mem_of_getElem? (i := 155) rfl))) rfl
theorem inW1 : ∀ w ∈ u_ws RX1 TX1 3, w ∈ wsG := List.forall_mem_cons.mpr ⟨w_151, List.forall_mem_cons.mpr ⟨w_153, List.forall_mem_cons.mpr ⟨w_155, fun _ h => absurd h List.not_mem_nil⟩⟩⟩
theorem w_167 : (Jvm.Cond.lays "LeavesOfMud$Laws" "LeavesOfMud$Laws" "size" "I") ∈ wsG := wsG_mem (List.mem_append_right _ (tm1 (List.mem_of_getElem? (i := 167) rfl))) rfl
theorem w_169 : (Jvm.Cond.laysFinal "LeavesOfMud$Laws" "LeavesOfMud$Laws" "prices" "[I") ∈ wsG := wsG_mem (List.mem_append_right _ (tm1 (List.mem_of_getElem? (i := 169) rfl))) rfl
theorem inW2 : ∀ w ∈ u_ws RX2 TX2 2, w ∈ wsG := List.forall_mem_cons.mpr ⟨w_167, List.forall_mem_cons.mpr ⟨w_169, fun _ h => absurd h List.not_mem_nil⟩⟩
theorem w_278 : (Jvm.Cond.laysFinal "LeavesOfMud$Net" "LeavesOfMud$Net" "pits" "LLeavesOfMud$Pits;") ∈ wsG := wsG_mem (List.mem_append_right _ (tm2 (List.mem_of_getElem? (i := 38) rfl))) rfl
theorem w_280 : (Jvm.Cond.laysFinal "LeavesOfMud$Net" "LeavesOfMud$Net" "hands" "LLeavesOfMud$Hands;") ∈ wsG := wsG_mem (List.mem_append_right _ (tm2 (List.mem_of_getElem? (i := 40) rfl))) rfl
theorem w_282 : (Jvm.Cond.laysFinal "LeavesOfMud$Net" "LeavesOfMud$Net" "bonds" "LLeavesOfMud$Bonds;") ∈ wsG := wsG_mem (List.mem_append_right _ (tm2 (List.mem_of_getElem? (i := 42) rfl))) rfl
theorem w_284 : (Jvm.Cond.laysFinal "LeavesOfMud$Net" "LeavesOfMud$Net" "whole" "[I") ∈ wsG := wsG_mem (List.mem_append_right _ (tm2 (List.mem_of_getElem? (i := 44) rfl))) rfl
theorem w_286 : (Jvm.Cond.laysFinal "LeavesOfMud$Net" "LeavesOfMud$Net" "fixed" "[I") ∈ wsG := wsG_mem (List.mem_append_right _ (tm2 (List.mem_of_getElem? (i := 46) rfl))) rfl
theorem w_288 : (Jvm.Cond.laysFinal "LeavesOfMud$Net" "LeavesOfMud$Net" "without" "[I") ∈ wsG := wsG_mem (List.mem_append_right _ (tm2 (List.mem_of_getElem? (i := 48) rfl))) rfl
theorem w_290 : (Jvm.Cond.laysFinal "LeavesOfMud$Net" "LeavesOfMud$Net" "levels" "[[I") ∈ wsG := wsG_mem (List.mem_append_right _ (tm2 (List.mem_of_getElem? (i := 50) rfl))) rfl
theorem w_292 : (Jvm.Cond.laysFinal "LeavesOfMud$Net" "LeavesOfMud$Net" "ashYears" "[I") ∈ wsG := wsG_mem (List.mem_append_right _ (tm2 (List.mem_of_getElem? (i := 52) rfl))) rfl
theorem w_294 : (Jvm.Cond.laysFinal "LeavesOfMud$Net" "LeavesOfMud$Net" "labels" "[I") ∈ wsG := wsG_mem (List.mem_append_right _ (tm2 (List.mem_of_getElem? (i := 54) rfl))) rfl
theorem w_296 : (Jvm.Cond.lays "LeavesOfMud$Net" "LeavesOfMud$Net" "bestCast" "I") ∈ wsG := wsG_mem (List.mem_append_right _ (tm2 (List.mem_of_getElem? (i := 56) rfl))) rfl
theorem w_298 : (Jvm.Cond.lays "LeavesOfMud$Net" "LeavesOfMud$Net" "bestSize" "I") ∈ wsG := wsG_mem (List.mem_append_right _ (tm2 (List.mem_of_getElem? (i := 58) rfl))) rfl
theorem w_300 : (Jvm.Cond.lays "LeavesOfMud$Net" "LeavesOfMud$Net" "bestDoubt" "I") ∈ wsG := wsG_mem (List.mem_append_right _ (tm2 (List.mem_of_getElem? (i := 60) rfl))) rfl
theorem w_302 : (Jvm.Cond.lays "LeavesOfMud$Net" "LeavesOfMud$Net" "digA" "I") ∈ wsG := wsG_mem (List.mem_append_right _ (tm2 (List.mem_of_getElem? (i := 62) rfl))) rfl
theorem w_304 : (Jvm.Cond.lays "LeavesOfMud$Net" "LeavesOfMud$Net" "digB" "I") ∈ wsG := wsG_mem (List.mem_append_right _ (tm2 (List.mem_of_getElem? (i := 64) rfl))) rfl
theorem w_306 : (Jvm.Cond.lays "LeavesOfMud$Net" "LeavesOfMud$Net" "digWorst" "I") ∈ wsG := wsG_mem (List.mem_append_right _ (tm2 (List.mem_of_getElem? (i := 66) rfl))) rfl
theorem inW3 : ∀ w ∈ u_ws RX3 TX3 15, w ∈ wsG := List.forall_mem_cons.mpr ⟨w_278, List.forall_mem_cons.mpr ⟨w_280, List.forall_mem_cons.mpr ⟨w_282, List.forall_mem_cons.mpr ⟨w_284, List.forall_mem_cons.mpr ⟨w_286, List.forall_mem_cons.mpr ⟨w_288, List.forall_mem_cons.mpr ⟨w_290, List.forall_mem_cons.mpr ⟨w_292, List.forall_mem_cons.mpr ⟨w_294, List.forall_mem_cons.mpr ⟨w_296, List.forall_mem_cons.mpr ⟨w_298, List.forall_mem_cons.mpr ⟨w_300, List.forall_mem_cons.mpr ⟨w_302, List.forall_mem_cons.mpr ⟨w_304, List.forall_mem_cons.mpr ⟨w_306, fun _ h => absurd h List.not_mem_nil⟩⟩⟩⟩⟩⟩⟩⟩⟩⟩⟩⟩⟩⟩⟩
theorem w_129 : (Jvm.Cond.lays "LeavesOfMud$Page" "LeavesOfMud$Page" "size" "I") ∈ wsG := wsG_mem (List.mem_append_right _ (tm1 (List.mem_of_getElem? (i := 129) rfl))) rfl
theorem w_131 : (Jvm.Cond.laysFinal "LeavesOfMud$Page" "LeavesOfMud$Page" "letters" "[I") ∈ wsG := wsG_mem (List.mem_append_right _ (tm1 (List.mem_of_getElem? (i := 131) rfl))) rfl
theorem w_133 : (Jvm.Cond.lays "LeavesOfMud$Page" "LeavesOfMud$Page" "whole" "Z") ∈ wsG := wsG_mem (List.mem_append_right _ (tm1 (List.mem_of_getElem? (i := 133) rfl))) rfl
theorem w_135 : (Jvm.Cond.laysFinal "LeavesOfMud$Page" "LeavesOfMud$Page" "told" "[I") ∈ wsG := wsG_mem (List.mem_append_right _ (tm1 (List.mem_of_getElem? (i := 135) rfl))) rfl
theorem inW4 : ∀ w ∈ u_ws RX4 TX4 4, w ∈ wsG := List.forall_mem_cons.mpr ⟨w_129, List.forall_mem_cons.mpr ⟨w_131, List.forall_mem_cons.mpr ⟨w_133, List.forall_mem_cons.mpr ⟨w_135, fun _ h => absurd h List.not_mem_nil⟩⟩⟩⟩
theorem w_211 : (Jvm.Cond.laysFinal "LeavesOfMud$Pairing" "LeavesOfMud$Pairing" "pits" "LLeavesOfMud$Pits;") ∈ wsG := wsG_mem (List.mem_append_right _ (tm1 (List.mem_of_getElem? (i := 211) rfl))) rfl
theorem w_213 : (Jvm.Cond.laysFinal "LeavesOfMud$Pairing" "LeavesOfMud$Pairing" "laws" "LLeavesOfMud$Laws;") ∈ wsG := wsG_mem (List.mem_append_right _ (tm1 (List.mem_of_getElem? (i := 213) rfl))) rfl
theorem w_215 : (Jvm.Cond.laysFinal "LeavesOfMud$Pairing" "LeavesOfMud$Pairing" "firstThickness" "[I") ∈ wsG := wsG_mem (List.mem_append_right _ (tm1 (List.mem_of_getElem? (i := 215) rfl))) rfl
theorem w_217 : (Jvm.Cond.laysFinal "LeavesOfMud$Pairing" "LeavesOfMud$Pairing" "secondThickness" "[I") ∈ wsG := wsG_mem (List.mem_append_right _ (tm1 (List.mem_of_getElem? (i := 217) rfl))) rfl
theorem w_219 : (Jvm.Cond.laysFinal "LeavesOfMud$Pairing" "LeavesOfMud$Pairing" "firstAshes" "[I") ∈ wsG := wsG_mem (List.mem_append_right _ (tm1 (List.mem_of_getElem? (i := 219) rfl))) rfl
theorem w_221 : (Jvm.Cond.laysFinal "LeavesOfMud$Pairing" "LeavesOfMud$Pairing" "secondAshes" "[I") ∈ wsG := wsG_mem (List.mem_append_right _ (tm1 (List.mem_of_getElem? (i := 221) rfl))) rfl
theorem w_223 : (Jvm.Cond.lays "LeavesOfMud$Pairing" "LeavesOfMud$Pairing" "firstSize" "I") ∈ wsG := wsG_mem (List.mem_append_right _ (tm1 (List.mem_of_getElem? (i := 223) rfl))) rfl
theorem w_225 : (Jvm.Cond.lays "LeavesOfMud$Pairing" "LeavesOfMud$Pairing" "secondSize" "I") ∈ wsG := wsG_mem (List.mem_append_right _ (tm1 (List.mem_of_getElem? (i := 225) rfl))) rfl
theorem w_227 : (Jvm.Cond.lays "LeavesOfMud$Pairing" "LeavesOfMud$Pairing" "lost" "I") ∈ wsG := wsG_mem (List.mem_append_right _ (tm1 (List.mem_of_getElem? (i := 227) rfl))) rfl
theorem w_229 : (Jvm.Cond.lays "LeavesOfMud$Pairing" "LeavesOfMud$Pairing" "doubled" "I") ∈ wsG := wsG_mem (List.mem_append_right _ (tm1 (List.mem_of_getElem? (i := 229) rfl))) rfl
theorem w_231 : (Jvm.Cond.lays "LeavesOfMud$Pairing" "LeavesOfMud$Pairing" "unlike" "I") ∈ wsG := wsG_mem (List.mem_append_right _ (tm1 (List.mem_of_getElem? (i := 231) rfl))) rfl
theorem w_233 : (Jvm.Cond.lays "LeavesOfMud$Pairing" "LeavesOfMud$Pairing" "ashesPrice" "I") ∈ wsG := wsG_mem (List.mem_append_right _ (tm1 (List.mem_of_getElem? (i := 233) rfl))) rfl
theorem w_235 : (Jvm.Cond.lays "LeavesOfMud$Pairing" "LeavesOfMud$Pairing" "barredFirst" "I") ∈ wsG := wsG_mem (List.mem_append_right _ (tm1 (List.mem_of_getElem? (i := 235) rfl))) rfl
theorem w_237 : (Jvm.Cond.lays "LeavesOfMud$Pairing" "LeavesOfMud$Pairing" "barredSecond" "I") ∈ wsG := wsG_mem (List.mem_append_right _ (tm1 (List.mem_of_getElem? (i := 237) rfl))) rfl
theorem w_239 : (Jvm.Cond.laysFinal "LeavesOfMud$Pairing" "LeavesOfMud$Pairing" "least" "[I") ∈ wsG := wsG_mem (List.mem_append_right _ (tm1 (List.mem_of_getElem? (i := 239) rfl))) rfl
theorem w_241 : (Jvm.Cond.laysFinal "LeavesOfMud$Pairing" "LeavesOfMud$Pairing" "ways" "[I") ∈ wsG := wsG_mem (List.mem_append_right _ (tm2 (List.mem_of_getElem? (i := 1) rfl))) rfl
theorem w_243 : (Jvm.Cond.laysFinal "LeavesOfMud$Pairing" "LeavesOfMud$Pairing" "way" "[I") ∈ wsG := wsG_mem (List.mem_append_right _ (tm2 (List.mem_of_getElem? (i := 3) rfl))) rfl
theorem w_245 : (Jvm.Cond.lays "LeavesOfMud$Pairing" "LeavesOfMud$Pairing" "wayLength" "I") ∈ wsG := wsG_mem (List.mem_append_right _ (tm2 (List.mem_of_getElem? (i := 5) rfl))) rfl
theorem w_247 : (Jvm.Cond.laysFinal "LeavesOfMud$Pairing" "LeavesOfMud$Pairing" "liesOn" "[I") ∈ wsG := wsG_mem (List.mem_append_right _ (tm2 (List.mem_of_getElem? (i := 7) rfl))) rfl
theorem w_249 : (Jvm.Cond.laysFinal "LeavesOfMud$Pairing" "LeavesOfMud$Pairing" "liesBy" "[I") ∈ wsG := wsG_mem (List.mem_append_right _ (tm2 (List.mem_of_getElem? (i := 9) rfl))) rfl
theorem inW5 : ∀ w ∈ u_ws RX5 TX5 20, w ∈ wsG := List.forall_mem_cons.mpr ⟨w_211, List.forall_mem_cons.mpr ⟨w_213, List.forall_mem_cons.mpr ⟨w_215, List.forall_mem_cons.mpr ⟨w_217, List.forall_mem_cons.mpr ⟨w_219, List.forall_mem_cons.mpr ⟨w_221, List.forall_mem_cons.mpr ⟨w_223, List.forall_mem_cons.mpr ⟨w_225, List.forall_mem_cons.mpr ⟨w_227, List.forall_mem_cons.mpr ⟨w_229, List.forall_mem_cons.mpr ⟨w_231, List.forall_mem_cons.mpr ⟨w_233, List.forall_mem_cons.mpr ⟨w_235, List.forall_mem_cons.mpr ⟨w_237, List.forall_mem_cons.mpr ⟨w_239, List.forall_mem_cons.mpr ⟨w_241, List.forall_mem_cons.mpr ⟨w_243, List.forall_mem_cons.mpr ⟨w_245, List.forall_mem_cons.mpr ⟨w_247, List.forall_mem_cons.mpr ⟨w_249, fun _ h => absurd h List.not_mem_nil⟩⟩⟩⟩⟩⟩⟩⟩⟩⟩⟩⟩⟩⟩⟩⟩⟩⟩⟩⟩
theorem w_48 : (Jvm.Cond.lays "LeavesOfMud$Pits" "LeavesOfMud$Pits" "size" "I") ∈ wsG := wsG_mem (List.mem_append_right _ (tm1 (List.mem_of_getElem? (i := 48) rfl))) rfl
theorem w_50 : (Jvm.Cond.laysFinal "LeavesOfMud$Pits" "LeavesOfMud$Pits" "miles" "[I") ∈ wsG := wsG_mem (List.mem_append_right _ (tm1 (List.mem_of_getElem? (i := 50) rfl))) rfl
theorem w_52 : (Jvm.Cond.laysFinal "LeavesOfMud$Pits" "LeavesOfMud$Pits" "sizes" "[I") ∈ wsG := wsG_mem (List.mem_append_right _ (tm1 (List.mem_of_getElem? (i := 52) rfl))) rfl
theorem w_54 : (Jvm.Cond.laysFinal "LeavesOfMud$Pits" "LeavesOfMud$Pits" "kinds" "[I") ∈ wsG := wsG_mem (List.mem_append_right _ (tm1 (List.mem_of_getElem? (i := 54) rfl))) rfl
theorem w_56 : (Jvm.Cond.laysFinal "LeavesOfMud$Pits" "LeavesOfMud$Pits" "thicknesses" "[I") ∈ wsG := wsG_mem (List.mem_append_right _ (tm1 (List.mem_of_getElem? (i := 56) rfl))) rfl
theorem w_58 : (Jvm.Cond.laysFinal "LeavesOfMud$Pits" "LeavesOfMud$Pits" "numbers" "[I") ∈ wsG := wsG_mem (List.mem_append_right _ (tm1 (List.mem_of_getElem? (i := 58) rfl))) rfl
theorem inW6 : ∀ w ∈ u_ws RX6 TX6 6, w ∈ wsG := List.forall_mem_cons.mpr ⟨w_48, List.forall_mem_cons.mpr ⟨w_50, List.forall_mem_cons.mpr ⟨w_52, List.forall_mem_cons.mpr ⟨w_54, List.forall_mem_cons.mpr ⟨w_56, List.forall_mem_cons.mpr ⟨w_58, fun _ h => absurd h List.not_mem_nil⟩⟩⟩⟩⟩⟩
theorem w_179 : (Jvm.Cond.laysFinal "LeavesOfMud$Slides" "LeavesOfMud$Slides" "pits" "LLeavesOfMud$Pits;") ∈ wsG := wsG_mem (List.mem_append_right _ (tm1 (List.mem_of_getElem? (i := 179) rfl))) rfl
theorem inW7 : ∀ w ∈ u_ws RX7 TX7 1, w ∈ wsG := List.forall_mem_cons.mpr ⟨w_179, fun _ h => absurd h List.not_mem_nil⟩
theorem w_322 : (Jvm.Cond.laysFinal "LeavesOfMud" "LeavesOfMud" "pits" "LLeavesOfMud$Pits;") ∈ wsG := wsG_mem (List.mem_append_right _ (tm2 (List.mem_of_getElem? (i := 82) rfl))) rfl
theorem w_324 : (Jvm.Cond.laysFinal "LeavesOfMud" "LeavesOfMud" "bonds" "LLeavesOfMud$Bonds;") ∈ wsG := wsG_mem (List.mem_append_right _ (tm2 (List.mem_of_getElem? (i := 84) rfl))) rfl
theorem w_326 : (Jvm.Cond.laysFinal "LeavesOfMud" "LeavesOfMud" "imagePits" "LLeavesOfMud$Pits;") ∈ wsG := wsG_mem (List.mem_append_right _ (tm2 (List.mem_of_getElem? (i := 86) rfl))) rfl
theorem w_328 : (Jvm.Cond.laysFinal "LeavesOfMud" "LeavesOfMud" "imageBonds" "LLeavesOfMud$Bonds;") ∈ wsG := wsG_mem (List.mem_append_right _ (tm2 (List.mem_of_getElem? (i := 88) rfl))) rfl
theorem w_330 : (Jvm.Cond.lays "LeavesOfMud" "LeavesOfMud" "imageKept" "Z") ∈ wsG := wsG_mem (List.mem_append_right _ (tm2 (List.mem_of_getElem? (i := 90) rfl))) rfl
theorem w_332 : (Jvm.Cond.laysFinal "LeavesOfMud" "LeavesOfMud" "page" "LLeavesOfMud$Page;") ∈ wsG := wsG_mem (List.mem_append_right _ (tm2 (List.mem_of_getElem? (i := 92) rfl))) rfl
theorem w_334 : (Jvm.Cond.laysFinal "LeavesOfMud" "LeavesOfMud" "hands" "LLeavesOfMud$Hands;") ∈ wsG := wsG_mem (List.mem_append_right _ (tm2 (List.mem_of_getElem? (i := 94) rfl))) rfl
theorem w_336 : (Jvm.Cond.laysFinal "LeavesOfMud" "LeavesOfMud" "laws" "LLeavesOfMud$Laws;") ∈ wsG := wsG_mem (List.mem_append_right _ (tm2 (List.mem_of_getElem? (i := 96) rfl))) rfl
theorem w_338 : (Jvm.Cond.laysFinal "LeavesOfMud" "LeavesOfMud" "slides" "LLeavesOfMud$Slides;") ∈ wsG := wsG_mem (List.mem_append_right _ (tm2 (List.mem_of_getElem? (i := 98) rfl))) rfl
theorem w_340 : (Jvm.Cond.laysFinal "LeavesOfMud" "LeavesOfMud" "pairing" "LLeavesOfMud$Pairing;") ∈ wsG := wsG_mem (List.mem_append_right _ (tm2 (List.mem_of_getElem? (i := 100) rfl))) rfl
theorem w_342 : (Jvm.Cond.laysFinal "LeavesOfMud" "LeavesOfMud" "net" "LLeavesOfMud$Net;") ∈ wsG := wsG_mem (List.mem_append_right _ (tm2 (List.mem_of_getElem? (i := 102) rfl))) rfl
theorem w_344 : (Jvm.Cond.lays "LeavesOfMud" "LeavesOfMud" "sureDone" "I") ∈ wsG := wsG_mem (List.mem_append_right _ (tm2 (List.mem_of_getElem? (i := 104) rfl))) rfl
theorem w_346 : (Jvm.Cond.lays "LeavesOfMud" "LeavesOfMud" "digDone" "I") ∈ wsG := wsG_mem (List.mem_append_right _ (tm2 (List.mem_of_getElem? (i := 106) rfl))) rfl
theorem inW8 : ∀ w ∈ u_ws RX8 TX8 13, w ∈ wsG := List.forall_mem_cons.mpr ⟨w_322, List.forall_mem_cons.mpr ⟨w_324, List.forall_mem_cons.mpr ⟨w_326, List.forall_mem_cons.mpr ⟨w_328, List.forall_mem_cons.mpr ⟨w_330, List.forall_mem_cons.mpr ⟨w_332, List.forall_mem_cons.mpr ⟨w_334, List.forall_mem_cons.mpr ⟨w_336, List.forall_mem_cons.mpr ⟨w_338, List.forall_mem_cons.mpr ⟨w_340, List.forall_mem_cons.mpr ⟨w_342, List.forall_mem_cons.mpr ⟨w_344, List.forall_mem_cons.mpr ⟨w_346, fun _ h => absurd h List.not_mem_nil⟩⟩⟩⟩⟩⟩⟩⟩⟩⟩⟩⟩⟩
theorem w_1143 : (Jvm.Cond.lays "LeavesOfMudModel" "LeavesOfMudModel" "pits" "I") ∈ wsG := wsG_mem (List.mem_append_right _ (tm5 (List.mem_of_getElem? (i := 183) rfl))) rfl
theorem w_1145 : (Jvm.Cond.laysFinal "LeavesOfMudModel" "LeavesOfMudModel" "miles" "[I") ∈ wsG := wsG_mem (List.mem_append_right _ (tm5 (List.mem_of_getElem? (i := 185) rfl))) rfl
theorem w_1147 : (Jvm.Cond.laysFinal "LeavesOfMudModel" "LeavesOfMudModel" "leafMany" "[I") ∈ wsG := wsG_mem (List.mem_append_right _ (tm5 (List.mem_of_getElem? (i := 187) rfl))) rfl
theorem w_1149 : (Jvm.Cond.laysFinal "LeavesOfMudModel" "LeavesOfMudModel" "kinds" "[I") ∈ wsG := wsG_mem (List.mem_append_right _ (tm5 (List.mem_of_getElem? (i := 189) rfl))) rfl
theorem w_1151 : (Jvm.Cond.laysFinal "LeavesOfMudModel" "LeavesOfMudModel" "thick" "[I") ∈ wsG := wsG_mem (List.mem_append_right _ (tm5 (List.mem_of_getElem? (i := 191) rfl))) rfl
theorem w_1153 : (Jvm.Cond.laysFinal "LeavesOfMudModel" "LeavesOfMudModel" "numbers" "[I") ∈ wsG := wsG_mem (List.mem_append_right _ (tm5 (List.mem_of_getElem? (i := 193) rfl))) rfl
theorem w_1155 : (Jvm.Cond.lays "LeavesOfMudModel" "LeavesOfMudModel" "seedNow" "I") ∈ wsG := wsG_mem (List.mem_append_right _ (tm5 (List.mem_of_getElem? (i := 195) rfl))) rfl
theorem w_1157 : (Jvm.Cond.laysFinal "LeavesOfMudModel" "LeavesOfMudModel" "page" "[I") ∈ wsG := wsG_mem (List.mem_append_right _ (tm5 (List.mem_of_getElem? (i := 197) rfl))) rfl
theorem w_1159 : (Jvm.Cond.lays "LeavesOfMudModel" "LeavesOfMudModel" "pageMany" "I") ∈ wsG := wsG_mem (List.mem_append_right _ (tm5 (List.mem_of_getElem? (i := 199) rfl))) rfl
theorem w_1161 : (Jvm.Cond.lays "LeavesOfMudModel" "LeavesOfMudModel" "hands" "I") ∈ wsG := wsG_mem (List.mem_append_right _ (tm5 (List.mem_of_getElem? (i := 201) rfl))) rfl
theorem w_1163 : (Jvm.Cond.laysFinal "LeavesOfMudModel" "LeavesOfMudModel" "handRows" "[I") ∈ wsG := wsG_mem (List.mem_append_right _ (tm5 (List.mem_of_getElem? (i := 203) rfl))) rfl
theorem w_1165 : (Jvm.Cond.lays "LeavesOfMudModel" "LeavesOfMudModel" "laws" "I") ∈ wsG := wsG_mem (List.mem_append_right _ (tm5 (List.mem_of_getElem? (i := 205) rfl))) rfl
theorem w_1167 : (Jvm.Cond.laysFinal "LeavesOfMudModel" "LeavesOfMudModel" "lawRows" "[I") ∈ wsG := wsG_mem (List.mem_append_right _ (tm5 (List.mem_of_getElem? (i := 207) rfl))) rfl
theorem w_1169 : (Jvm.Cond.laysFinal "LeavesOfMudModel" "LeavesOfMudModel" "readRow" "[I") ∈ wsG := wsG_mem (List.mem_append_right _ (tm5 (List.mem_of_getElem? (i := 209) rfl))) rfl
theorem w_1171 : (Jvm.Cond.lays "LeavesOfMudModel" "LeavesOfMudModel" "state" "I") ∈ wsG := wsG_mem (List.mem_append_right _ (tm5 (List.mem_of_getElem? (i := 211) rfl))) rfl
theorem w_1173 : (Jvm.Cond.lays "LeavesOfMudModel" "LeavesOfMudModel" "letter" "I") ∈ wsG := wsG_mem (List.mem_append_right _ (tm5 (List.mem_of_getElem? (i := 213) rfl))) rfl
theorem w_1175 : (Jvm.Cond.lays "LeavesOfMudModel" "LeavesOfMudModel" "items" "I") ∈ wsG := wsG_mem (List.mem_append_right _ (tm5 (List.mem_of_getElem? (i := 215) rfl))) rfl
theorem w_1177 : (Jvm.Cond.laysFinal "LeavesOfMudModel" "LeavesOfMudModel" "least" "[I") ∈ wsG := wsG_mem (List.mem_append_right _ (tm5 (List.mem_of_getElem? (i := 217) rfl))) rfl
theorem w_1179 : (Jvm.Cond.laysFinal "LeavesOfMudModel" "LeavesOfMudModel" "ways" "[I") ∈ wsG := wsG_mem (List.mem_append_right _ (tm5 (List.mem_of_getElem? (i := 219) rfl))) rfl
theorem w_1181 : (Jvm.Cond.lays "LeavesOfMudModel" "LeavesOfMudModel" "one" "I") ∈ wsG := wsG_mem (List.mem_append_right _ (tm5 (List.mem_of_getElem? (i := 221) rfl))) rfl
theorem w_1183 : (Jvm.Cond.lays "LeavesOfMudModel" "LeavesOfMudModel" "two" "I") ∈ wsG := wsG_mem (List.mem_append_right _ (tm5 (List.mem_of_getElem? (i := 223) rfl))) rfl
theorem w_1185 : (Jvm.Cond.lays "LeavesOfMudModel" "LeavesOfMudModel" "lost" "I") ∈ wsG := wsG_mem (List.mem_append_right _ (tm5 (List.mem_of_getElem? (i := 225) rfl))) rfl
theorem w_1187 : (Jvm.Cond.lays "LeavesOfMudModel" "LeavesOfMudModel" "doubled" "I") ∈ wsG := wsG_mem (List.mem_append_right _ (tm5 (List.mem_of_getElem? (i := 227) rfl))) rfl
theorem w_1189 : (Jvm.Cond.lays "LeavesOfMudModel" "LeavesOfMudModel" "unlike" "I") ∈ wsG := wsG_mem (List.mem_append_right _ (tm5 (List.mem_of_getElem? (i := 229) rfl))) rfl
theorem w_1191 : (Jvm.Cond.lays "LeavesOfMudModel" "LeavesOfMudModel" "ashen" "I") ∈ wsG := wsG_mem (List.mem_append_right _ (tm5 (List.mem_of_getElem? (i := 231) rfl))) rfl
theorem w_1193 : (Jvm.Cond.lays "LeavesOfMudModel" "LeavesOfMudModel" "barI" "I") ∈ wsG := wsG_mem (List.mem_append_right _ (tm5 (List.mem_of_getElem? (i := 233) rfl))) rfl
theorem w_1195 : (Jvm.Cond.lays "LeavesOfMudModel" "LeavesOfMudModel" "barJ" "I") ∈ wsG := wsG_mem (List.mem_append_right _ (tm5 (List.mem_of_getElem? (i := 235) rfl))) rfl
theorem w_1197 : (Jvm.Cond.laysFinal "LeavesOfMudModel" "LeavesOfMudModel" "way" "[I") ∈ wsG := wsG_mem (List.mem_append_right _ (tm5 (List.mem_of_getElem? (i := 237) rfl))) rfl
theorem w_1199 : (Jvm.Cond.lays "LeavesOfMudModel" "LeavesOfMudModel" "wayMany" "I") ∈ wsG := wsG_mem (List.mem_append_right _ (tm5 (List.mem_of_getElem? (i := 239) rfl))) rfl
theorem w_1201 : (Jvm.Cond.laysFinal "LeavesOfMudModel" "LeavesOfMudModel" "lying" "[I") ∈ wsG := wsG_mem (List.mem_append_right _ (tm6 (List.mem_of_getElem? (i := 1) rfl))) rfl
theorem w_1203 : (Jvm.Cond.laysFinal "LeavesOfMudModel" "LeavesOfMudModel" "isPlain" "[Z") ∈ wsG := wsG_mem (List.mem_append_right _ (tm6 (List.mem_of_getElem? (i := 3) rfl))) rfl
theorem w_1205 : (Jvm.Cond.lays "LeavesOfMudModel" "LeavesOfMudModel" "sureDone" "I") ∈ wsG := wsG_mem (List.mem_append_right _ (tm6 (List.mem_of_getElem? (i := 5) rfl))) rfl
theorem w_1207 : (Jvm.Cond.lays "LeavesOfMudModel" "LeavesOfMudModel" "joins" "I") ∈ wsG := wsG_mem (List.mem_append_right _ (tm6 (List.mem_of_getElem? (i := 7) rfl))) rfl
theorem w_1209 : (Jvm.Cond.laysFinal "LeavesOfMudModel" "LeavesOfMudModel" "joinA" "[I") ∈ wsG := wsG_mem (List.mem_append_right _ (tm6 (List.mem_of_getElem? (i := 9) rfl))) rfl
theorem w_1211 : (Jvm.Cond.laysFinal "LeavesOfMudModel" "LeavesOfMudModel" "joinB" "[I") ∈ wsG := wsG_mem (List.mem_append_right _ (tm6 (List.mem_of_getElem? (i := 11) rfl))) rfl
theorem w_1213 : (Jvm.Cond.laysFinal "LeavesOfMudModel" "LeavesOfMudModel" "lows" "[I") ∈ wsG := wsG_mem (List.mem_append_right _ (tm6 (List.mem_of_getElem? (i := 13) rfl))) rfl
theorem w_1215 : (Jvm.Cond.laysFinal "LeavesOfMudModel" "LeavesOfMudModel" "highs" "[I") ∈ wsG := wsG_mem (List.mem_append_right _ (tm6 (List.mem_of_getElem? (i := 15) rfl))) rfl
theorem w_1217 : (Jvm.Cond.laysFinal "LeavesOfMudModel" "LeavesOfMudModel" "doubts" "[I") ∈ wsG := wsG_mem (List.mem_append_right _ (tm6 (List.mem_of_getElem? (i := 17) rfl))) rfl
theorem w_1219 : (Jvm.Cond.laysFinal "LeavesOfMudModel" "LeavesOfMudModel" "isKept" "[Z") ∈ wsG := wsG_mem (List.mem_append_right _ (tm6 (List.mem_of_getElem? (i := 19) rfl))) rfl
theorem w_1221 : (Jvm.Cond.laysFinal "LeavesOfMudModel" "LeavesOfMudModel" "tied" "[Z") ∈ wsG := wsG_mem (List.mem_append_right _ (tm6 (List.mem_of_getElem? (i := 21) rfl))) rfl
theorem w_1223 : (Jvm.Cond.laysFinal "LeavesOfMudModel" "LeavesOfMudModel" "tieLow" "[I") ∈ wsG := wsG_mem (List.mem_append_right _ (tm6 (List.mem_of_getElem? (i := 23) rfl))) rfl
theorem w_1225 : (Jvm.Cond.laysFinal "LeavesOfMudModel" "LeavesOfMudModel" "tieHigh" "[I") ∈ wsG := wsG_mem (List.mem_append_right _ (tm6 (List.mem_of_getElem? (i := 25) rfl))) rfl
theorem w_1227 : (Jvm.Cond.lays "LeavesOfMudModel" "LeavesOfMudModel" "looks" "Z") ∈ wsG := wsG_mem (List.mem_append_right _ (tm6 (List.mem_of_getElem? (i := 27) rfl))) rfl
theorem w_1229 : (Jvm.Cond.laysFinal "LeavesOfMudModel" "LeavesOfMudModel" "far" "[I") ∈ wsG := wsG_mem (List.mem_append_right _ (tm6 (List.mem_of_getElem? (i := 29) rfl))) rfl
theorem w_1231 : (Jvm.Cond.laysFinal "LeavesOfMudModel" "LeavesOfMudModel" "belongs" "[I") ∈ wsG := wsG_mem (List.mem_append_right _ (tm6 (List.mem_of_getElem? (i := 31) rfl))) rfl
theorem w_1233 : (Jvm.Cond.lays "LeavesOfMudModel" "LeavesOfMudModel" "digsDone" "I") ∈ wsG := wsG_mem (List.mem_append_right _ (tm6 (List.mem_of_getElem? (i := 33) rfl))) rfl
theorem w_1235 : (Jvm.Cond.lays "LeavesOfMudModel" "LeavesOfMudModel" "keptPits" "I") ∈ wsG := wsG_mem (List.mem_append_right _ (tm6 (List.mem_of_getElem? (i := 35) rfl))) rfl
theorem w_1237 : (Jvm.Cond.lays "LeavesOfMudModel" "LeavesOfMudModel" "keptJoins" "I") ∈ wsG := wsG_mem (List.mem_append_right _ (tm6 (List.mem_of_getElem? (i := 37) rfl))) rfl
theorem w_1239 : (Jvm.Cond.lays "LeavesOfMudModel" "LeavesOfMudModel" "keptLooks" "Z") ∈ wsG := wsG_mem (List.mem_append_right _ (tm6 (List.mem_of_getElem? (i := 39) rfl))) rfl
theorem w_1241 : (Jvm.Cond.laysFinal "LeavesOfMudModel" "LeavesOfMudModel" "keptMiles" "[I") ∈ wsG := wsG_mem (List.mem_append_right _ (tm6 (List.mem_of_getElem? (i := 41) rfl))) rfl
theorem w_1243 : (Jvm.Cond.laysFinal "LeavesOfMudModel" "LeavesOfMudModel" "keptMany" "[I") ∈ wsG := wsG_mem (List.mem_append_right _ (tm6 (List.mem_of_getElem? (i := 43) rfl))) rfl
theorem w_1245 : (Jvm.Cond.laysFinal "LeavesOfMudModel" "LeavesOfMudModel" "keptLeaves" "[I") ∈ wsG := wsG_mem (List.mem_append_right _ (tm6 (List.mem_of_getElem? (i := 45) rfl))) rfl
theorem w_1247 : (Jvm.Cond.laysFinal "LeavesOfMudModel" "LeavesOfMudModel" "keptNet" "[I") ∈ wsG := wsG_mem (List.mem_append_right _ (tm6 (List.mem_of_getElem? (i := 47) rfl))) rfl
theorem w_1249 : (Jvm.Cond.laysFinal "LeavesOfMudModel" "LeavesOfMudModel" "keptTies" "[I") ∈ wsG := wsG_mem (List.mem_append_right _ (tm6 (List.mem_of_getElem? (i := 49) rfl))) rfl
theorem w_1251 : (Jvm.Cond.lays "LeavesOfMudModel" "LeavesOfMudModel" "hash" "J") ∈ wsG := wsG_mem (List.mem_append_right _ (tm6 (List.mem_of_getElem? (i := 51) rfl))) rfl
theorem inW9 : ∀ w ∈ u_ws RX9 TX9 55, w ∈ wsG := List.forall_mem_cons.mpr ⟨w_1143, List.forall_mem_cons.mpr ⟨w_1145, List.forall_mem_cons.mpr ⟨w_1147, List.forall_mem_cons.mpr ⟨w_1149, List.forall_mem_cons.mpr ⟨w_1151, List.forall_mem_cons.mpr ⟨w_1153, List.forall_mem_cons.mpr ⟨w_1155, List.forall_mem_cons.mpr ⟨w_1157, List.forall_mem_cons.mpr ⟨w_1159, List.forall_mem_cons.mpr ⟨w_1161, List.forall_mem_cons.mpr ⟨w_1163, List.forall_mem_cons.mpr ⟨w_1165, List.forall_mem_cons.mpr ⟨w_1167, List.forall_mem_cons.mpr ⟨w_1169, List.forall_mem_cons.mpr ⟨w_1171, List.forall_mem_cons.mpr ⟨w_1173, List.forall_mem_cons.mpr ⟨w_1175, List.forall_mem_cons.mpr ⟨w_1177, List.forall_mem_cons.mpr ⟨w_1179, List.forall_mem_cons.mpr ⟨w_1181, List.forall_mem_cons.mpr ⟨w_1183, List.forall_mem_cons.mpr ⟨w_1185, List.forall_mem_cons.mpr ⟨w_1187, List.forall_mem_cons.mpr ⟨w_1189, List.forall_mem_cons.mpr ⟨w_1191, List.forall_mem_cons.mpr ⟨w_1193, List.forall_mem_cons.mpr ⟨w_1195, List.forall_mem_cons.mpr ⟨w_1197, List.forall_mem_cons.mpr ⟨w_1199, List.forall_mem_cons.mpr ⟨w_1201, List.forall_mem_cons.mpr ⟨w_1203, List.forall_mem_cons.mpr ⟨w_1205, List.forall_mem_cons.mpr ⟨w_1207, List.forall_mem_cons.mpr ⟨w_1209, List.forall_mem_cons.mpr ⟨w_1211, List.forall_mem_cons.mpr ⟨w_1213, List.forall_mem_cons.mpr ⟨w_1215, List.forall_mem_cons.mpr ⟨w_1217, List.forall_mem_cons.mpr ⟨w_1219, List.forall_mem_cons.mpr ⟨w_1221, List.forall_mem_cons.mpr ⟨w_1223, List.forall_mem_cons.mpr ⟨w_1225, List.forall_mem_cons.mpr ⟨w_1227, List.forall_mem_cons.mpr ⟨w_1229, List.forall_mem_cons.mpr ⟨w_1231, List.forall_mem_cons.mpr ⟨w_1233, List.forall_mem_cons.mpr ⟨w_1235, List.forall_mem_cons.mpr ⟨w_1237, List.forall_mem_cons.mpr ⟨w_1239, List.forall_mem_cons.mpr ⟨w_1241, List.forall_mem_cons.mpr ⟨w_1243, List.forall_mem_cons.mpr ⟨w_1245, List.forall_mem_cons.mpr ⟨w_1247, List.forall_mem_cons.mpr ⟨w_1249, List.forall_mem_cons.mpr ⟨w_1251, fun _ h => absurd h List.not_mem_nil⟩⟩⟩⟩⟩⟩⟩⟩⟩⟩⟩⟩⟩⟩⟩⟩⟩⟩⟩⟩⟩⟩⟩⟩⟩⟩⟩⟩⟩⟩⟩⟩⟩⟩⟩⟩⟩⟩⟩⟩⟩⟩⟩⟩⟩⟩⟩⟩⟩⟩⟩⟩⟩⟩⟩
theorem pn_X0 : plainName RX0 = true := by decide +kernel
theorem mh_X0 : RX0 ≠ "java/lang/invoke/MethodHandle" ∧ RX0 ≠ "java/lang/invoke/VarHandle" := ⟨by decide +kernel, by decide +kernel⟩
theorem w_798 : (Jvm.Cond.code ({ cls := "LeavesOfMud$Bonds", name := "isKept", desc := "(I)Z" } : Jvm.MethodName) prog_2_method_3_code (2 : Nat) (Option.some Jvm.ClassFile.FieldType.boolean)) ∈ wsG := wsG_mem (List.mem_append_right _ (tm4 (List.mem_of_getElem? (i := 78) rfl))) rfl
theorem w_3 : (Jvm.Cond.initialized "LeavesOfMud$Bonds") ∈ wsG := wsG_mem (List.mem_append_right _ (tm1 (List.mem_of_getElem? (i := 3) rfl))) rfl
theorem w_797 : (Jvm.Cond.instanceMethod ({ cls := "LeavesOfMud$Bonds", name := "isKept", desc := "(I)Z" } : Jvm.MethodName)) ∈ wsG := wsG_mem (List.mem_append_right _ (tm4 (List.mem_of_getElem? (i := 77) rfl))) rfl
theorem wp_45 : Cond.selects "LeavesOfMud$Bonds" ⟨"LeavesOfMud$Bonds", "isKept", "(I)Z"⟩ ⟨"LeavesOfMud$Bonds", "isKept", "(I)Z"⟩ ∈ wsG := wsG_mem (List.mem_append_left _ (List.mem_map_of_mem (f := fun q : MethodName × Nat => Cond.selects q.1.cls q.1 q.1) (List.mem_of_getElem? (i := 45) (rfl : lw_privs[45]? = some (⟨"LeavesOfMud$Bonds", "isKept", "(I)Z"⟩, _))))) rfl
theorem w_790 : (Jvm.Cond.code ({ cls := "LeavesOfMud$Bonds", name := "setKept", desc := "(IZ)V" } : Jvm.MethodName) prog_2_method_4_code (3 : Nat) (Option.none : Option Jvm.ClassFile.FieldType)) ∈ wsG := wsG_mem (List.mem_append_right _ (tm4 (List.mem_of_getElem? (i := 70) rfl))) rfl
theorem w_789 : (Jvm.Cond.instanceMethod ({ cls := "LeavesOfMud$Bonds", name := "setKept", desc := "(IZ)V" } : Jvm.MethodName)) ∈ wsG := wsG_mem (List.mem_append_right _ (tm4 (List.mem_of_getElem? (i := 69) rfl))) rfl
theorem wp_44 : Cond.selects "LeavesOfMud$Bonds" ⟨"LeavesOfMud$Bonds", "setKept", "(IZ)V"⟩ ⟨"LeavesOfMud$Bonds", "setKept", "(IZ)V"⟩ ∈ wsG := wsG_mem (List.mem_append_left _ (List.mem_map_of_mem (f := fun q : MethodName × Nat => Cond.selects q.1.cls q.1 q.1) (List.mem_of_getElem? (i := 44) (rfl : lw_privs[44]? = some (⟨"LeavesOfMud$Bonds", "setKept", "(IZ)V"⟩, _))))) rfl
theorem w_808 : (Jvm.Cond.code ({ cls := "LeavesOfMud$Bonds", name := "isTied", desc := "(I)Z" } : Jvm.MethodName) prog_2_method_5_code (2 : Nat) (Option.some Jvm.ClassFile.FieldType.boolean)) ∈ wsG := wsG_mem (List.mem_append_right _ (tm4 (List.mem_of_getElem? (i := 88) rfl))) rfl
theorem w_807 : (Jvm.Cond.instanceMethod ({ cls := "LeavesOfMud$Bonds", name := "isTied", desc := "(I)Z" } : Jvm.MethodName)) ∈ wsG := wsG_mem (List.mem_append_right _ (tm4 (List.mem_of_getElem? (i := 87) rfl))) rfl
theorem wp_46 : Cond.selects "LeavesOfMud$Bonds" ⟨"LeavesOfMud$Bonds", "isTied", "(I)Z"⟩ ⟨"LeavesOfMud$Bonds", "isTied", "(I)Z"⟩ ∈ wsG := wsG_mem (List.mem_append_left _ (List.mem_map_of_mem (f := fun q : MethodName × Nat => Cond.selects q.1.cls q.1 q.1) (List.mem_of_getElem? (i := 46) (rfl : lw_privs[46]? = some (⟨"LeavesOfMud$Bonds", "isTied", "(I)Z"⟩, _))))) rfl
theorem w_820 : (Jvm.Cond.code ({ cls := "LeavesOfMud$Bonds", name := "dropTie", desc := "(I)V" } : Jvm.MethodName) prog_2_method_6_code (2 : Nat) (Option.none : Option Jvm.ClassFile.FieldType)) ∈ wsG := wsG_mem (List.mem_append_right _ (tm4 (List.mem_of_getElem? (i := 100) rfl))) rfl
theorem w_819 : (Jvm.Cond.instanceMethod ({ cls := "LeavesOfMud$Bonds", name := "dropTie", desc := "(I)V" } : Jvm.MethodName)) ∈ wsG := wsG_mem (List.mem_append_right _ (tm4 (List.mem_of_getElem? (i := 99) rfl))) rfl
theorem wp_48 : Cond.selects "LeavesOfMud$Bonds" ⟨"LeavesOfMud$Bonds", "dropTie", "(I)V"⟩ ⟨"LeavesOfMud$Bonds", "dropTie", "(I)V"⟩ ∈ wsG := wsG_mem (List.mem_append_left _ (List.mem_map_of_mem (f := fun q : MethodName × Nat => Cond.selects q.1.cls q.1 q.1) (List.mem_of_getElem? (i := 48) (rfl : lw_privs[48]? = some (⟨"LeavesOfMud$Bonds", "dropTie", "(I)V"⟩, _))))) rfl
theorem w_812 : (Jvm.Cond.code ({ cls := "LeavesOfMud$Bonds", name := "setTie", desc := "(III)V" } : Jvm.MethodName) prog_2_method_7_code (4 : Nat) (Option.none : Option Jvm.ClassFile.FieldType)) ∈ wsG := wsG_mem (List.mem_append_right _ (tm4 (List.mem_of_getElem? (i := 92) rfl))) rfl
theorem w_811 : (Jvm.Cond.instanceMethod ({ cls := "LeavesOfMud$Bonds", name := "setTie", desc := "(III)V" } : Jvm.MethodName)) ∈ wsG := wsG_mem (List.mem_append_right _ (tm4 (List.mem_of_getElem? (i := 91) rfl))) rfl
theorem wp_47 : Cond.selects "LeavesOfMud$Bonds" ⟨"LeavesOfMud$Bonds", "setTie", "(III)V"⟩ ⟨"LeavesOfMud$Bonds", "setTie", "(III)V"⟩ ∈ wsG := wsG_mem (List.mem_append_left _ (List.mem_map_of_mem (f := fun q : MethodName × Nat => Cond.selects q.1.cls q.1 q.1) (List.mem_of_getElem? (i := 47) (rfl : lw_privs[47]? = some (⟨"LeavesOfMud$Bonds", "setTie", "(III)V"⟩, _))))) rfl
theorem pn_X1 : plainName RX1 = true := by decide +kernel
theorem mh_X1 : RX1 ≠ "java/lang/invoke/MethodHandle" ∧ RX1 ≠ "java/lang/invoke/VarHandle" := ⟨by decide +kernel, by decide +kernel⟩
theorem w_608 : (Jvm.Cond.code ({ cls := "LeavesOfMud$Hands", name := "has", desc := "(I)Z" } : Jvm.MethodName) prog_3_method_2_code (2 : Nat) (Option.some Jvm.ClassFile.FieldType.boolean)) ∈ wsG := wsG_mem (List.mem_append_right _ (tm3 (List.mem_of_getElem? (i := 128) rfl))) rfl
theorem w_5 : (Jvm.Cond.initialized "LeavesOfMud$Hands") ∈ wsG := wsG_mem (List.mem_append_right _ (tm1 (List.mem_of_getElem? (i := 5) rfl))) rfl
theorem w_607 : (Jvm.Cond.instanceMethod ({ cls := "LeavesOfMud$Hands", name := "has", desc := "(I)Z" } : Jvm.MethodName)) ∈ wsG := wsG_mem (List.mem_append_right _ (tm3 (List.mem_of_getElem? (i := 127) rfl))) rfl
theorem wp_19 : Cond.selects "LeavesOfMud$Hands" ⟨"LeavesOfMud$Hands", "has", "(I)Z"⟩ ⟨"LeavesOfMud$Hands", "has", "(I)Z"⟩ ∈ wsG := wsG_mem (List.mem_append_left _ (List.mem_map_of_mem (f := fun q : MethodName × Nat => Cond.selects q.1.cls q.1 q.1) (List.mem_of_getElem? (i := 19) (rfl : lw_privs[19]? = some (⟨"LeavesOfMud$Hands", "has", "(I)Z"⟩, _))))) rfl
theorem w_419 : (Jvm.Cond.code ({ cls := "LeavesOfMud$Hands", name := "halvesOf", desc := "(III)I" } : Jvm.MethodName) prog_3_method_4_code (5 : Nat) (Option.some Jvm.ClassFile.FieldType.int)) ∈ wsG := wsG_mem (List.mem_append_right _ (tm2 (List.mem_of_getElem? (i := 179) rfl))) rfl
theorem w_418 : (Jvm.Cond.instanceMethod ({ cls := "LeavesOfMud$Hands", name := "halvesOf", desc := "(III)I" } : Jvm.MethodName)) ∈ wsG := wsG_mem (List.mem_append_right _ (tm2 (List.mem_of_getElem? (i := 178) rfl))) rfl
theorem wp_10 : Cond.selects "LeavesOfMud$Hands" ⟨"LeavesOfMud$Hands", "halvesOf", "(III)I"⟩ ⟨"LeavesOfMud$Hands", "halvesOf", "(III)I"⟩ ∈ wsG := wsG_mem (List.mem_append_left _ (List.mem_map_of_mem (f := fun q : MethodName × Nat => Cond.selects q.1.cls q.1 q.1) (List.mem_of_getElem? (i := 10) (rfl : lw_privs[10]? = some (⟨"LeavesOfMud$Hands", "halvesOf", "(III)I"⟩, _))))) rfl
theorem pn_X2 : plainName RX2 = true := by decide +kernel
theorem mh_X2 : RX2 ≠ "java/lang/invoke/MethodHandle" ∧ RX2 ≠ "java/lang/invoke/VarHandle" := ⟨by decide +kernel, by decide +kernel⟩
theorem w_684 : (Jvm.Cond.code ({ cls := "LeavesOfMud$Laws", name := "has", desc := "(I)Z" } : Jvm.MethodName) prog_4_method_2_code (2 : Nat) (Option.some Jvm.ClassFile.FieldType.boolean)) ∈ wsG := wsG_mem (List.mem_append_right _ (tm3 (List.mem_of_getElem? (i := 204) rfl))) rfl
theorem w_7 : (Jvm.Cond.initialized "LeavesOfMud$Laws") ∈ wsG := wsG_mem (List.mem_append_right _ (tm1 (List.mem_of_getElem? (i := 7) rfl))) rfl
theorem w_683 : (Jvm.Cond.instanceMethod ({ cls := "LeavesOfMud$Laws", name := "has", desc := "(I)Z" } : Jvm.MethodName)) ∈ wsG := wsG_mem (List.mem_append_right _ (tm3 (List.mem_of_getElem? (i := 203) rfl))) rfl
theorem wp_26 : Cond.selects "LeavesOfMud$Laws" ⟨"LeavesOfMud$Laws", "has", "(I)Z"⟩ ⟨"LeavesOfMud$Laws", "has", "(I)Z"⟩ ∈ wsG := wsG_mem (List.mem_append_left _ (List.mem_map_of_mem (f := fun q : MethodName × Nat => Cond.selects q.1.cls q.1 q.1) (List.mem_of_getElem? (i := 26) (rfl : lw_privs[26]? = some (⟨"LeavesOfMud$Laws", "has", "(I)Z"⟩, _))))) rfl
theorem w_598 : (Jvm.Cond.code ({ cls := "LeavesOfMud$Laws", name := "take", desc := "([I)I" } : Jvm.MethodName) prog_4_method_3_code (4 : Nat) (Option.some Jvm.ClassFile.FieldType.int)) ∈ wsG := wsG_mem (List.mem_append_right _ (tm3 (List.mem_of_getElem? (i := 118) rfl))) rfl
theorem w_597 : (Jvm.Cond.instanceMethod ({ cls := "LeavesOfMud$Laws", name := "take", desc := "([I)I" } : Jvm.MethodName)) ∈ wsG := wsG_mem (List.mem_append_right _ (tm3 (List.mem_of_getElem? (i := 117) rfl))) rfl
theorem wp_18 : Cond.selects "LeavesOfMud$Laws" ⟨"LeavesOfMud$Laws", "take", "([I)I"⟩ ⟨"LeavesOfMud$Laws", "take", "([I)I"⟩ ∈ wsG := wsG_mem (List.mem_append_left _ (List.mem_map_of_mem (f := fun q : MethodName × Nat => Cond.selects q.1.cls q.1 q.1) (List.mem_of_getElem? (i := 18) (rfl : lw_privs[18]? = some (⟨"LeavesOfMud$Laws", "take", "([I)I"⟩, _))))) rfl
theorem w_699 : (Jvm.Cond.code ({ cls := "LeavesOfMud$Laws", name := "priceOf", desc := "(II)I" } : Jvm.MethodName) prog_4_method_4_code (3 : Nat) (Option.some Jvm.ClassFile.FieldType.int)) ∈ wsG := wsG_mem (List.mem_append_right _ (tm3 (List.mem_of_getElem? (i := 219) rfl))) rfl
theorem w_698 : (Jvm.Cond.instanceMethod ({ cls := "LeavesOfMud$Laws", name := "priceOf", desc := "(II)I" } : Jvm.MethodName)) ∈ wsG := wsG_mem (List.mem_append_right _ (tm3 (List.mem_of_getElem? (i := 218) rfl))) rfl
theorem wp_29 : Cond.selects "LeavesOfMud$Laws" ⟨"LeavesOfMud$Laws", "priceOf", "(II)I"⟩ ⟨"LeavesOfMud$Laws", "priceOf", "(II)I"⟩ ∈ wsG := wsG_mem (List.mem_append_left _ (List.mem_map_of_mem (f := fun q : MethodName × Nat => Cond.selects q.1.cls q.1 q.1) (List.mem_of_getElem? (i := 29) (rfl : lw_privs[29]? = some (⟨"LeavesOfMud$Laws", "priceOf", "(II)I"⟩, _))))) rfl
theorem pn_X3 : plainName RX3 = true := by decide +kernel
theorem mh_X3 : RX3 ≠ "java/lang/invoke/MethodHandle" ∧ RX3 ≠ "java/lang/invoke/VarHandle" := ⟨by decide +kernel, by decide +kernel⟩
theorem w_887 : (Jvm.Cond.code ({ cls := "LeavesOfMud$Net", name := "isFloating", desc := "(II)Z" } : Jvm.MethodName) prog_5_method_3_code (3 : Nat) (Option.some Jvm.ClassFile.FieldType.boolean)) ∈ wsG := wsG_mem (List.mem_append_right _ (tm4 (List.mem_of_getElem? (i := 167) rfl))) rfl
theorem w_10 : (Jvm.Cond.initialized "LeavesOfMud$Net") ∈ wsG := wsG_mem (List.mem_append_right _ (tm1 (List.mem_of_getElem? (i := 10) rfl))) rfl
theorem w_886 : (Jvm.Cond.instanceMethod ({ cls := "LeavesOfMud$Net", name := "isFloating", desc := "(II)Z" } : Jvm.MethodName)) ∈ wsG := wsG_mem (List.mem_append_right _ (tm4 (List.mem_of_getElem? (i := 166) rfl))) rfl
theorem wp_58 : Cond.selects "LeavesOfMud$Net" ⟨"LeavesOfMud$Net", "isFloating", "(II)Z"⟩ ⟨"LeavesOfMud$Net", "isFloating", "(II)Z"⟩ ∈ wsG := wsG_mem (List.mem_append_left _ (List.mem_map_of_mem (f := fun q : MethodName × Nat => Cond.selects q.1.cls q.1 q.1) (List.mem_of_getElem? (i := 58) (rfl : lw_privs[58]? = some (⟨"LeavesOfMud$Net", "isFloating", "(II)Z"⟩, _))))) rfl
theorem w_891 : (Jvm.Cond.code ({ cls := "LeavesOfMud$Net", name := "endOfSpan", desc := "(III)I" } : Jvm.MethodName) prog_5_method_4_code (4 : Nat) (Option.some Jvm.ClassFile.FieldType.int)) ∈ wsG := wsG_mem (List.mem_append_right _ (tm4 (List.mem_of_getElem? (i := 171) rfl))) rfl
theorem w_890 : (Jvm.Cond.instanceMethod ({ cls := "LeavesOfMud$Net", name := "endOfSpan", desc := "(III)I" } : Jvm.MethodName)) ∈ wsG := wsG_mem (List.mem_append_right _ (tm4 (List.mem_of_getElem? (i := 170) rfl))) rfl
theorem wp_59 : Cond.selects "LeavesOfMud$Net" ⟨"LeavesOfMud$Net", "endOfSpan", "(III)I"⟩ ⟨"LeavesOfMud$Net", "endOfSpan", "(III)I"⟩ ∈ wsG := wsG_mem (List.mem_append_left _ (List.mem_map_of_mem (f := fun q : MethodName × Nat => Cond.selects q.1.cls q.1 q.1) (List.mem_of_getElem? (i := 59) (rfl : lw_privs[59]? = some (⟨"LeavesOfMud$Net", "endOfSpan", "(III)I"⟩, _))))) rfl
theorem w_857 : (Jvm.Cond.code ({ cls := "LeavesOfMud$Net", name := "hasAsh", desc := "(II)Z" } : Jvm.MethodName) prog_5_method_10_code (3 : Nat) (Option.some Jvm.ClassFile.FieldType.boolean)) ∈ wsG := wsG_mem (List.mem_append_right _ (tm4 (List.mem_of_getElem? (i := 137) rfl))) rfl
theorem w_856 : (Jvm.Cond.instanceMethod ({ cls := "LeavesOfMud$Net", name := "hasAsh", desc := "(II)Z" } : Jvm.MethodName)) ∈ wsG := wsG_mem (List.mem_append_right _ (tm4 (List.mem_of_getElem? (i := 136) rfl))) rfl
theorem wp_54 : Cond.selects "LeavesOfMud$Net" ⟨"LeavesOfMud$Net", "hasAsh", "(II)Z"⟩ ⟨"LeavesOfMud$Net", "hasAsh", "(II)Z"⟩ ∈ wsG := wsG_mem (List.mem_append_left _ (List.mem_map_of_mem (f := fun q : MethodName × Nat => Cond.selects q.1.cls q.1 q.1) (List.mem_of_getElem? (i := 54) (rfl : lw_privs[54]? = some (⟨"LeavesOfMud$Net", "hasAsh", "(II)Z"⟩, _))))) rfl
theorem w_863 : (Jvm.Cond.code ({ cls := "LeavesOfMud$Net", name := "bound", desc := "([IIII)Z" } : Jvm.MethodName) prog_5_method_13_code (8 : Nat) (Option.some Jvm.ClassFile.FieldType.boolean)) ∈ wsG := wsG_mem (List.mem_append_right _ (tm4 (List.mem_of_getElem? (i := 143) rfl))) rfl
theorem w_862 : (Jvm.Cond.static ({ cls := "LeavesOfMud$Net", name := "bound", desc := "([IIII)Z" } : Jvm.MethodName)) ∈ wsG := wsG_mem (List.mem_append_right _ (tm4 (List.mem_of_getElem? (i := 142) rfl))) rfl
theorem w_907 : (Jvm.Cond.code ({ cls := "LeavesOfMud$Net", name := "hangTogether", desc := "(II)V" } : Jvm.MethodName) prog_5_method_16_code (6 : Nat) (Option.none : Option Jvm.ClassFile.FieldType)) ∈ wsG := wsG_mem (List.mem_append_right _ (tm4 (List.mem_of_getElem? (i := 187) rfl))) rfl
theorem w_906 : (Jvm.Cond.instanceMethod ({ cls := "LeavesOfMud$Net", name := "hangTogether", desc := "(II)V" } : Jvm.MethodName)) ∈ wsG := wsG_mem (List.mem_append_right _ (tm4 (List.mem_of_getElem? (i := 186) rfl))) rfl
theorem wp_61 : Cond.selects "LeavesOfMud$Net" ⟨"LeavesOfMud$Net", "hangTogether", "(II)V"⟩ ⟨"LeavesOfMud$Net", "hangTogether", "(II)V"⟩ ∈ wsG := wsG_mem (List.mem_append_left _ (List.mem_map_of_mem (f := fun q : MethodName × Nat => Cond.selects q.1.cls q.1 q.1) (List.mem_of_getElem? (i := 61) (rfl : lw_privs[61]? = some (⟨"LeavesOfMud$Net", "hangTogether", "(II)V"⟩, _))))) rfl
theorem w_925 : (Jvm.Cond.code ({ cls := "LeavesOfMud$Net", name := "groupOfFirst", desc := "()I" } : Jvm.MethodName) prog_5_method_18_code (3 : Nat) (Option.some Jvm.ClassFile.FieldType.int)) ∈ wsG := wsG_mem (List.mem_append_right _ (tm4 (List.mem_of_getElem? (i := 205) rfl))) rfl
theorem w_924 : (Jvm.Cond.instanceMethod ({ cls := "LeavesOfMud$Net", name := "groupOfFirst", desc := "()I" } : Jvm.MethodName)) ∈ wsG := wsG_mem (List.mem_append_right _ (tm4 (List.mem_of_getElem? (i := 204) rfl))) rfl
theorem wp_64 : Cond.selects "LeavesOfMud$Net" ⟨"LeavesOfMud$Net", "groupOfFirst", "()I"⟩ ⟨"LeavesOfMud$Net", "groupOfFirst", "()I"⟩ ∈ wsG := wsG_mem (List.mem_append_left _ (List.mem_map_of_mem (f := fun q : MethodName × Nat => Cond.selects q.1.cls q.1 q.1) (List.mem_of_getElem? (i := 64) (rfl : lw_privs[64]? = some (⟨"LeavesOfMud$Net", "groupOfFirst", "()I"⟩, _))))) rfl
theorem w_970 : (Jvm.Cond.code ({ cls := "LeavesOfMud$Net", name := "widthOf", desc := "(II)I" } : Jvm.MethodName) prog_5_method_26_code (3 : Nat) (Option.some Jvm.ClassFile.FieldType.int)) ∈ wsG := wsG_mem (List.mem_append_right _ (tm5 (List.mem_of_getElem? (i := 10) rfl))) rfl
theorem w_969 : (Jvm.Cond.instanceMethod ({ cls := "LeavesOfMud$Net", name := "widthOf", desc := "(II)I" } : Jvm.MethodName)) ∈ wsG := wsG_mem (List.mem_append_right _ (tm5 (List.mem_of_getElem? (i := 9) rfl))) rfl
theorem wp_72 : Cond.selects "LeavesOfMud$Net" ⟨"LeavesOfMud$Net", "widthOf", "(II)I"⟩ ⟨"LeavesOfMud$Net", "widthOf", "(II)I"⟩ ∈ wsG := wsG_mem (List.mem_append_left _ (List.mem_map_of_mem (f := fun q : MethodName × Nat => Cond.selects q.1.cls q.1 q.1) (List.mem_of_getElem? (i := 72) (rfl : lw_privs[72]? = some (⟨"LeavesOfMud$Net", "widthOf", "(II)I"⟩, _))))) rfl
theorem pn_X4 : plainName RX4 = true := by decide +kernel
theorem mh_X4 : RX4 ≠ "java/lang/invoke/MethodHandle" ∧ RX4 ≠ "java/lang/invoke/VarHandle" := ⟨by decide +kernel, by decide +kernel⟩
theorem w_471 : (Jvm.Cond.code ({ cls := "LeavesOfMud$Page", name := "write", desc := "(I)V" } : Jvm.MethodName) prog_6_method_2_code (2 : Nat) (Option.none : Option Jvm.ClassFile.FieldType)) ∈ wsG := wsG_mem (List.mem_append_right _ (tm2 (List.mem_of_getElem? (i := 231) rfl))) rfl
theorem w_4 : (Jvm.Cond.initialized "LeavesOfMud$Page") ∈ wsG := wsG_mem (List.mem_append_right _ (tm1 (List.mem_of_getElem? (i := 4) rfl))) rfl
theorem w_470 : (Jvm.Cond.instanceMethod ({ cls := "LeavesOfMud$Page", name := "write", desc := "(I)V" } : Jvm.MethodName)) ∈ wsG := wsG_mem (List.mem_append_right _ (tm2 (List.mem_of_getElem? (i := 230) rfl))) rfl
theorem wp_14 : Cond.selects "LeavesOfMud$Page" ⟨"LeavesOfMud$Page", "write", "(I)V"⟩ ⟨"LeavesOfMud$Page", "write", "(I)V"⟩ ∈ wsG := wsG_mem (List.mem_append_left _ (List.mem_map_of_mem (f := fun q : MethodName × Nat => Cond.selects q.1.cls q.1 q.1) (List.mem_of_getElem? (i := 14) (rfl : lw_privs[14]? = some (⟨"LeavesOfMud$Page", "write", "(I)V"⟩, _))))) rfl
theorem pn_X5 : plainName RX5 = true := by decide +kernel
theorem mh_X5 : RX5 ≠ "java/lang/invoke/MethodHandle" ∧ RX5 ≠ "java/lang/invoke/VarHandle" := ⟨by decide +kernel, by decide +kernel⟩
theorem w_746 : (Jvm.Cond.code ({ cls := "LeavesOfMud$Pairing", name := "leastOfAll", desc := "()I" } : Jvm.MethodName) prog_7_method_4_code (1 : Nat) (Option.some Jvm.ClassFile.FieldType.int)) ∈ wsG := wsG_mem (List.mem_append_right _ (tm4 (List.mem_of_getElem? (i := 26) rfl))) rfl
theorem w_9 : (Jvm.Cond.initialized "LeavesOfMud$Pairing") ∈ wsG := wsG_mem (List.mem_append_right _ (tm1 (List.mem_of_getElem? (i := 9) rfl))) rfl
theorem w_745 : (Jvm.Cond.instanceMethod ({ cls := "LeavesOfMud$Pairing", name := "leastOfAll", desc := "()I" } : Jvm.MethodName)) ∈ wsG := wsG_mem (List.mem_append_right _ (tm4 (List.mem_of_getElem? (i := 25) rfl))) rfl
theorem wp_37 : Cond.selects "LeavesOfMud$Pairing" ⟨"LeavesOfMud$Pairing", "leastOfAll", "()I"⟩ ⟨"LeavesOfMud$Pairing", "leastOfAll", "()I"⟩ ∈ wsG := wsG_mem (List.mem_append_left _ (List.mem_map_of_mem (f := fun q : MethodName × Nat => Cond.selects q.1.cls q.1 q.1) (List.mem_of_getElem? (i := 37) (rfl : lw_privs[37]? = some (⟨"LeavesOfMud$Pairing", "leastOfAll", "()I"⟩, _))))) rfl
theorem w_750 : (Jvm.Cond.code ({ cls := "LeavesOfMud$Pairing", name := "waysOfAll", desc := "()I" } : Jvm.MethodName) prog_7_method_5_code (1 : Nat) (Option.some Jvm.ClassFile.FieldType.int)) ∈ wsG := wsG_mem (List.mem_append_right _ (tm4 (List.mem_of_getElem? (i := 30) rfl))) rfl
theorem w_749 : (Jvm.Cond.instanceMethod ({ cls := "LeavesOfMud$Pairing", name := "waysOfAll", desc := "()I" } : Jvm.MethodName)) ∈ wsG := wsG_mem (List.mem_append_right _ (tm4 (List.mem_of_getElem? (i := 29) rfl))) rfl
theorem wp_38 : Cond.selects "LeavesOfMud$Pairing" ⟨"LeavesOfMud$Pairing", "waysOfAll", "()I"⟩ ⟨"LeavesOfMud$Pairing", "waysOfAll", "()I"⟩ ∈ wsG := wsG_mem (List.mem_append_left _ (List.mem_map_of_mem (f := fun q : MethodName × Nat => Cond.selects q.1.cls q.1 q.1) (List.mem_of_getElem? (i := 38) (rfl : lw_privs[38]? = some (⟨"LeavesOfMud$Pairing", "waysOfAll", "()I"⟩, _))))) rfl
theorem w_711 : (Jvm.Cond.code ({ cls := "LeavesOfMud$Pairing", name := "canStep", desc := "(III)Z" } : Jvm.MethodName) prog_7_method_10_code (4 : Nat) (Option.some Jvm.ClassFile.FieldType.boolean)) ∈ wsG := wsG_mem (List.mem_append_right _ (tm3 (List.mem_of_getElem? (i := 231) rfl))) rfl
theorem w_710 : (Jvm.Cond.instanceMethod ({ cls := "LeavesOfMud$Pairing", name := "canStep", desc := "(III)Z" } : Jvm.MethodName)) ∈ wsG := wsG_mem (List.mem_append_right _ (tm3 (List.mem_of_getElem? (i := 230) rfl))) rfl
theorem wp_32 : Cond.selects "LeavesOfMud$Pairing" ⟨"LeavesOfMud$Pairing", "canStep", "(III)Z"⟩ ⟨"LeavesOfMud$Pairing", "canStep", "(III)Z"⟩ ∈ wsG := wsG_mem (List.mem_append_left _ (List.mem_map_of_mem (f := fun q : MethodName × Nat => Cond.selects q.1.cls q.1 q.1) (List.mem_of_getElem? (i := 32) (rfl : lw_privs[32]? = some (⟨"LeavesOfMud$Pairing", "canStep", "(III)Z"⟩, _))))) rfl
theorem w_719 : (Jvm.Cond.code ({ cls := "LeavesOfMud$Pairing", name := "placeAfter", desc := "(III)I" } : Jvm.MethodName) prog_7_method_11_code (4 : Nat) (Option.some Jvm.ClassFile.FieldType.int)) ∈ wsG := wsG_mem (List.mem_append_right _ (tm3 (List.mem_of_getElem? (i := 239) rfl))) rfl
theorem w_718 : (Jvm.Cond.instanceMethod ({ cls := "LeavesOfMud$Pairing", name := "placeAfter", desc := "(III)I" } : Jvm.MethodName)) ∈ wsG := wsG_mem (List.mem_append_right _ (tm3 (List.mem_of_getElem? (i := 238) rfl))) rfl
theorem wp_33 : Cond.selects "LeavesOfMud$Pairing" ⟨"LeavesOfMud$Pairing", "placeAfter", "(III)I"⟩ ⟨"LeavesOfMud$Pairing", "placeAfter", "(III)I"⟩ ∈ wsG := wsG_mem (List.mem_append_left _ (List.mem_map_of_mem (f := fun q : MethodName × Nat => Cond.selects q.1.cls q.1 q.1) (List.mem_of_getElem? (i := 33) (rfl : lw_privs[33]? = some (⟨"LeavesOfMud$Pairing", "placeAfter", "(III)I"⟩, _))))) rfl
theorem w_736 : (Jvm.Cond.code ({ cls := "LeavesOfMud$Pairing", name := "ashesFrom", desc := "([II)I" } : Jvm.MethodName) prog_7_method_15_code (3 : Nat) (Option.some Jvm.ClassFile.FieldType.int)) ∈ wsG := wsG_mem (List.mem_append_right _ (tm4 (List.mem_of_getElem? (i := 16) rfl))) rfl
theorem w_735 : (Jvm.Cond.static ({ cls := "LeavesOfMud$Pairing", name := "ashesFrom", desc := "([II)I" } : Jvm.MethodName)) ∈ wsG := wsG_mem (List.mem_append_right _ (tm4 (List.mem_of_getElem? (i := 15) rfl))) rfl
theorem pn_X6 : plainName RX6 = true := by decide +kernel
theorem mh_X6 : RX6 ≠ "java/lang/invoke/MethodHandle" ∧ RX6 ≠ "java/lang/invoke/VarHandle" := ⟨by decide +kernel, by decide +kernel⟩
theorem w_367 : (Jvm.Cond.code ({ cls := "LeavesOfMud$Pits", name := "has", desc := "(I)Z" } : Jvm.MethodName) prog_8_method_2_code (2 : Nat) (Option.some Jvm.ClassFile.FieldType.boolean)) ∈ wsG := wsG_mem (List.mem_append_right _ (tm2 (List.mem_of_getElem? (i := 127) rfl))) rfl
theorem w_2 : (Jvm.Cond.initialized "LeavesOfMud$Pits") ∈ wsG := wsG_mem (List.mem_append_right _ (tm1 (List.mem_of_getElem? (i := 2) rfl))) rfl
theorem w_366 : (Jvm.Cond.instanceMethod ({ cls := "LeavesOfMud$Pits", name := "has", desc := "(I)Z" } : Jvm.MethodName)) ∈ wsG := wsG_mem (List.mem_append_right _ (tm2 (List.mem_of_getElem? (i := 126) rfl))) rfl
theorem wp_1 : Cond.selects "LeavesOfMud$Pits" ⟨"LeavesOfMud$Pits", "has", "(I)Z"⟩ ⟨"LeavesOfMud$Pits", "has", "(I)Z"⟩ ∈ wsG := wsG_mem (List.mem_append_left _ (List.mem_map_of_mem (f := fun q : MethodName × Nat => Cond.selects q.1.cls q.1 q.1) (List.mem_of_getElem? (i := 1) (rfl : lw_privs[1]? = some (⟨"LeavesOfMud$Pits", "has", "(I)Z"⟩, _))))) rfl
theorem w_359 : (Jvm.Cond.code ({ cls := "LeavesOfMud$Pits", name := "open", desc := "(I)I" } : Jvm.MethodName) prog_8_method_4_code (3 : Nat) (Option.some Jvm.ClassFile.FieldType.int)) ∈ wsG := wsG_mem (List.mem_append_right _ (tm2 (List.mem_of_getElem? (i := 119) rfl))) rfl
theorem w_358 : (Jvm.Cond.instanceMethod ({ cls := "LeavesOfMud$Pits", name := "open", desc := "(I)I" } : Jvm.MethodName)) ∈ wsG := wsG_mem (List.mem_append_right _ (tm2 (List.mem_of_getElem? (i := 118) rfl))) rfl
theorem wp_0 : Cond.selects "LeavesOfMud$Pits" ⟨"LeavesOfMud$Pits", "open", "(I)I"⟩ ⟨"LeavesOfMud$Pits", "open", "(I)I"⟩ ∈ wsG := wsG_mem (List.mem_append_left _ (List.mem_map_of_mem (f := fun q : MethodName × Nat => Cond.selects q.1.cls q.1 q.1) (List.mem_of_getElem? (i := 0) (rfl : lw_privs[0]? = some (⟨"LeavesOfMud$Pits", "open", "(I)I"⟩, _))))) rfl
theorem w_378 : (Jvm.Cond.code ({ cls := "LeavesOfMud$Pits", name := "put", desc := "(IIIII)V" } : Jvm.MethodName) prog_8_method_6_code (7 : Nat) (Option.none : Option Jvm.ClassFile.FieldType)) ∈ wsG := wsG_mem (List.mem_append_right _ (tm2 (List.mem_of_getElem? (i := 138) rfl))) rfl
theorem w_377 : (Jvm.Cond.instanceMethod ({ cls := "LeavesOfMud$Pits", name := "put", desc := "(IIIII)V" } : Jvm.MethodName)) ∈ wsG := wsG_mem (List.mem_append_right _ (tm2 (List.mem_of_getElem? (i := 137) rfl))) rfl
theorem wp_3 : Cond.selects "LeavesOfMud$Pits" ⟨"LeavesOfMud$Pits", "put", "(IIIII)V"⟩ ⟨"LeavesOfMud$Pits", "put", "(IIIII)V"⟩ ∈ wsG := wsG_mem (List.mem_append_left _ (List.mem_map_of_mem (f := fun q : MethodName × Nat => Cond.selects q.1.cls q.1 q.1) (List.mem_of_getElem? (i := 3) (rfl : lw_privs[3]? = some (⟨"LeavesOfMud$Pits", "put", "(IIIII)V"⟩, _))))) rfl
theorem w_391 : (Jvm.Cond.code ({ cls := "LeavesOfMud$Pits", name := "kindOf", desc := "(II)I" } : Jvm.MethodName) prog_8_method_7_code (3 : Nat) (Option.some Jvm.ClassFile.FieldType.int)) ∈ wsG := wsG_mem (List.mem_append_right _ (tm2 (List.mem_of_getElem? (i := 151) rfl))) rfl
theorem w_390 : (Jvm.Cond.instanceMethod ({ cls := "LeavesOfMud$Pits", name := "kindOf", desc := "(II)I" } : Jvm.MethodName)) ∈ wsG := wsG_mem (List.mem_append_right _ (tm2 (List.mem_of_getElem? (i := 150) rfl))) rfl
theorem wp_5 : Cond.selects "LeavesOfMud$Pits" ⟨"LeavesOfMud$Pits", "kindOf", "(II)I"⟩ ⟨"LeavesOfMud$Pits", "kindOf", "(II)I"⟩ ∈ wsG := wsG_mem (List.mem_append_left _ (List.mem_map_of_mem (f := fun q : MethodName × Nat => Cond.selects q.1.cls q.1 q.1) (List.mem_of_getElem? (i := 5) (rfl : lw_privs[5]? = some (⟨"LeavesOfMud$Pits", "kindOf", "(II)I"⟩, _))))) rfl
theorem w_429 : (Jvm.Cond.code ({ cls := "LeavesOfMud$Pits", name := "thicknessOf", desc := "(II)I" } : Jvm.MethodName) prog_8_method_8_code (3 : Nat) (Option.some Jvm.ClassFile.FieldType.int)) ∈ wsG := wsG_mem (List.mem_append_right _ (tm2 (List.mem_of_getElem? (i := 189) rfl))) rfl
theorem w_428 : (Jvm.Cond.instanceMethod ({ cls := "LeavesOfMud$Pits", name := "thicknessOf", desc := "(II)I" } : Jvm.MethodName)) ∈ wsG := wsG_mem (List.mem_append_right _ (tm2 (List.mem_of_getElem? (i := 188) rfl))) rfl
theorem wp_12 : Cond.selects "LeavesOfMud$Pits" ⟨"LeavesOfMud$Pits", "thicknessOf", "(II)I"⟩ ⟨"LeavesOfMud$Pits", "thicknessOf", "(II)I"⟩ ∈ wsG := wsG_mem (List.mem_append_left _ (List.mem_map_of_mem (f := fun q : MethodName × Nat => Cond.selects q.1.cls q.1 q.1) (List.mem_of_getElem? (i := 12) (rfl : lw_privs[12]? = some (⟨"LeavesOfMud$Pits", "thicknessOf", "(II)I"⟩, _))))) rfl
theorem w_415 : (Jvm.Cond.code ({ cls := "LeavesOfMud$Pits", name := "nOf", desc := "(II)I" } : Jvm.MethodName) prog_8_method_9_code (3 : Nat) (Option.some Jvm.ClassFile.FieldType.int)) ∈ wsG := wsG_mem (List.mem_append_right _ (tm2 (List.mem_of_getElem? (i := 175) rfl))) rfl
theorem w_414 : (Jvm.Cond.instanceMethod ({ cls := "LeavesOfMud$Pits", name := "nOf", desc := "(II)I" } : Jvm.MethodName)) ∈ wsG := wsG_mem (List.mem_append_right _ (tm2 (List.mem_of_getElem? (i := 174) rfl))) rfl
theorem wp_9 : Cond.selects "LeavesOfMud$Pits" ⟨"LeavesOfMud$Pits", "nOf", "(II)I"⟩ ⟨"LeavesOfMud$Pits", "nOf", "(II)I"⟩ ∈ wsG := wsG_mem (List.mem_append_left _ (List.mem_map_of_mem (f := fun q : MethodName × Nat => Cond.selects q.1.cls q.1 q.1) (List.mem_of_getElem? (i := 9) (rfl : lw_privs[9]? = some (⟨"LeavesOfMud$Pits", "nOf", "(II)I"⟩, _))))) rfl
theorem w_1050 : (Jvm.Cond.code ({ cls := "LeavesOfMud$Pits", name := "leavesOfAll", desc := "()I" } : Jvm.MethodName) prog_8_method_17_code (3 : Nat) (Option.some Jvm.ClassFile.FieldType.int)) ∈ wsG := wsG_mem (List.mem_append_right _ (tm5 (List.mem_of_getElem? (i := 90) rfl))) rfl
theorem w_1049 : (Jvm.Cond.instanceMethod ({ cls := "LeavesOfMud$Pits", name := "leavesOfAll", desc := "()I" } : Jvm.MethodName)) ∈ wsG := wsG_mem (List.mem_append_right _ (tm5 (List.mem_of_getElem? (i := 89) rfl))) rfl
theorem wp_84 : Cond.selects "LeavesOfMud$Pits" ⟨"LeavesOfMud$Pits", "leavesOfAll", "()I"⟩ ⟨"LeavesOfMud$Pits", "leavesOfAll", "()I"⟩ ∈ wsG := wsG_mem (List.mem_append_left _ (List.mem_map_of_mem (f := fun q : MethodName × Nat => Cond.selects q.1.cls q.1 q.1) (List.mem_of_getElem? (i := 84) (rfl : lw_privs[84]? = some (⟨"LeavesOfMud$Pits", "leavesOfAll", "()I"⟩, _))))) rfl
theorem pn_X7 : plainName RX7 = true := by decide +kernel
theorem mh_X7 : RX7 ≠ "java/lang/invoke/MethodHandle" ∧ RX7 ≠ "java/lang/invoke/VarHandle" := ⟨by decide +kernel, by decide +kernel⟩
theorem w_643 : (Jvm.Cond.code ({ cls := "LeavesOfMud$Slides", name := "turnedPlace", desc := "(III)I" } : Jvm.MethodName) prog_9_method_4_code (3 : Nat) (Option.some Jvm.ClassFile.FieldType.int)) ∈ wsG := wsG_mem (List.mem_append_right _ (tm3 (List.mem_of_getElem? (i := 163) rfl))) rfl
theorem w_8 : (Jvm.Cond.initialized "LeavesOfMud$Slides") ∈ wsG := wsG_mem (List.mem_append_right _ (tm1 (List.mem_of_getElem? (i := 8) rfl))) rfl
theorem w_642 : (Jvm.Cond.static ({ cls := "LeavesOfMud$Slides", name := "turnedPlace", desc := "(III)I" } : Jvm.MethodName)) ∈ wsG := wsG_mem (List.mem_append_right _ (tm3 (List.mem_of_getElem? (i := 162) rfl))) rfl
theorem pn_X8 : plainName RX8 = true := by decide +kernel
theorem mh_X8 : RX8 ≠ "java/lang/invoke/MethodHandle" ∧ RX8 ≠ "java/lang/invoke/VarHandle" := ⟨by decide +kernel, by decide +kernel⟩
theorem w_475 : (Jvm.Cond.code ({ cls := "LeavesOfMud", name := "blank", desc := "()I" } : Jvm.MethodName) prog_1_method_9_code (2 : Nat) (Option.some Jvm.ClassFile.FieldType.int)) ∈ wsG := wsG_mem (List.mem_append_right _ (tm2 (List.mem_of_getElem? (i := 235) rfl))) rfl
theorem w_1 : (Jvm.Cond.initialized "LeavesOfMud") ∈ wsG := wsG_mem (List.mem_append_right _ (tm1 (List.mem_of_getElem? (i := 1) rfl))) rfl
theorem w_473 : (Jvm.Cond.instanceMethod ({ cls := "LeavesOfMud", name := "blank", desc := "()I" } : Jvm.MethodName)) ∈ wsG := wsG_mem (List.mem_append_right _ (tm2 (List.mem_of_getElem? (i := 233) rfl))) rfl
theorem w_474 : (Jvm.Cond.selects "LeavesOfMud" ({ cls := "LeavesOfMud", name := "blank", desc := "()I" } : Jvm.MethodName) ({ cls := "LeavesOfMud", name := "blank", desc := "()I" } : Jvm.MethodName)) ∈ wsG := wsG_mem (List.mem_append_right _ (tm2 (List.mem_of_getElem? (i := 234) rfl))) rfl
theorem w_355 : (Jvm.Cond.code ({ cls := "LeavesOfMud", name := "isWithin", desc := "(III)Z" } : Jvm.MethodName) prog_1_method_41_code (3 : Nat) (Option.some Jvm.ClassFile.FieldType.boolean)) ∈ wsG := wsG_mem (List.mem_append_right _ (tm2 (List.mem_of_getElem? (i := 115) rfl))) rfl
theorem w_354 : (Jvm.Cond.static ({ cls := "LeavesOfMud", name := "isWithin", desc := "(III)Z" } : Jvm.MethodName)) ∈ wsG := wsG_mem (List.mem_append_right _ (tm2 (List.mem_of_getElem? (i := 114) rfl))) rfl
theorem w_394 : (Jvm.Cond.code ({ cls := "LeavesOfMud", name := "isOfKind", desc := "(II)Z" } : Jvm.MethodName) prog_1_method_45_code (2 : Nat) (Option.some Jvm.ClassFile.FieldType.boolean)) ∈ wsG := wsG_mem (List.mem_append_right _ (tm2 (List.mem_of_getElem? (i := 154) rfl))) rfl
theorem w_393 : (Jvm.Cond.static ({ cls := "LeavesOfMud", name := "isOfKind", desc := "(II)Z" } : Jvm.MethodName)) ∈ wsG := wsG_mem (List.mem_append_right _ (tm2 (List.mem_of_getElem? (i := 153) rfl))) rfl
theorem w_733 : (Jvm.Cond.code ({ cls := "LeavesOfMud", name := "asNumber", desc := "(Z)I" } : Jvm.MethodName) prog_1_method_46_code (1 : Nat) (Option.some Jvm.ClassFile.FieldType.int)) ∈ wsG := wsG_mem (List.mem_append_right _ (tm4 (List.mem_of_getElem? (i := 13) rfl))) rfl
theorem w_732 : (Jvm.Cond.static ({ cls := "LeavesOfMud", name := "asNumber", desc := "(Z)I" } : Jvm.MethodName)) ∈ wsG := wsG_mem (List.mem_append_right _ (tm4 (List.mem_of_getElem? (i := 12) rfl))) rfl
theorem w_1063 : (Jvm.Cond.code ({ cls := "LeavesOfMud", name := "fold", desc := "(JJ)J" } : Jvm.MethodName) prog_1_method_47_code (4 : Nat) (Option.some Jvm.ClassFile.FieldType.long)) ∈ wsG := wsG_mem (List.mem_append_right _ (tm5 (List.mem_of_getElem? (i := 103) rfl))) rfl
theorem w_1062 : (Jvm.Cond.static ({ cls := "LeavesOfMud", name := "fold", desc := "(JJ)J" } : Jvm.MethodName)) ∈ wsG := wsG_mem (List.mem_append_right _ (tm5 (List.mem_of_getElem? (i := 102) rfl))) rfl
theorem w_450 : (Jvm.Cond.code ({ cls := "LeavesOfMud", name := "seedAfter", desc := "(J)J" } : Jvm.MethodName) prog_1_method_48_code (2 : Nat) (Option.some Jvm.ClassFile.FieldType.long)) ∈ wsG := wsG_mem (List.mem_append_right _ (tm2 (List.mem_of_getElem? (i := 210) rfl))) rfl
theorem w_449 : (Jvm.Cond.static ({ cls := "LeavesOfMud", name := "seedAfter", desc := "(J)J" } : Jvm.MethodName)) ∈ wsG := wsG_mem (List.mem_append_right _ (tm2 (List.mem_of_getElem? (i := 209) rfl))) rfl
theorem w_456 : (Jvm.Cond.code ({ cls := "LeavesOfMud", name := "drawn", desc := "(JI)I" } : Jvm.MethodName) prog_1_method_49_code (3 : Nat) (Option.some Jvm.ClassFile.FieldType.int)) ∈ wsG := wsG_mem (List.mem_append_right _ (tm2 (List.mem_of_getElem? (i := 216) rfl))) rfl
theorem w_455 : (Jvm.Cond.static ({ cls := "LeavesOfMud", name := "drawn", desc := "(JI)I" } : Jvm.MethodName)) ∈ wsG := wsG_mem (List.mem_append_right _ (tm2 (List.mem_of_getElem? (i := 215) rfl))) rfl
theorem w_467 : (Jvm.Cond.code ({ cls := "LeavesOfMud", name := "byteOf", desc := "(JI)I" } : Jvm.MethodName) prog_1_method_50_code (3 : Nat) (Option.some Jvm.ClassFile.FieldType.int)) ∈ wsG := wsG_mem (List.mem_append_right _ (tm2 (List.mem_of_getElem? (i := 227) rfl))) rfl
theorem w_466 : (Jvm.Cond.static ({ cls := "LeavesOfMud", name := "byteOf", desc := "(JI)I" } : Jvm.MethodName)) ∈ wsG := wsG_mem (List.mem_append_right _ (tm2 (List.mem_of_getElem? (i := 226) rfl))) rfl
theorem w_676 : (Jvm.Cond.code ({ cls := "LeavesOfMud", name := "partInLowestTerms", desc := "(III)I" } : Jvm.MethodName) prog_1_method_52_code (7 : Nat) (Option.some Jvm.ClassFile.FieldType.int)) ∈ wsG := wsG_mem (List.mem_append_right _ (tm3 (List.mem_of_getElem? (i := 196) rfl))) rfl
theorem w_675 : (Jvm.Cond.static ({ cls := "LeavesOfMud", name := "partInLowestTerms", desc := "(III)I" } : Jvm.MethodName)) ∈ wsG := wsG_mem (List.mem_append_right _ (tm3 (List.mem_of_getElem? (i := 195) rfl))) rfl
theorem pn_X9 : plainName RX9 = true := by decide +kernel
theorem mh_X9 : RX9 ≠ "java/lang/invoke/MethodHandle" ∧ RX9 ≠ "java/lang/invoke/VarHandle" := ⟨by decide +kernel, by decide +kernel⟩
theorem w_1262 : (Jvm.Cond.code ({ cls := "LeavesOfMudModel", name := "in", desc := "(JJJ)Z" } : Jvm.MethodName) prog_11_method_2_code (6 : Nat) (Option.some Jvm.ClassFile.FieldType.boolean)) ∈ wsG := wsG_mem (List.mem_append_right _ (tm6 (List.mem_of_getElem? (i := 62) rfl))) rfl
theorem w_11 : (Jvm.Cond.initialized "LeavesOfMudModel") ∈ wsG := wsG_mem (List.mem_append_right _ (tm1 (List.mem_of_getElem? (i := 11) rfl))) rfl
theorem w_1261 : (Jvm.Cond.static ({ cls := "LeavesOfMudModel", name := "in", desc := "(JJJ)Z" } : Jvm.MethodName)) ∈ wsG := wsG_mem (List.mem_append_right _ (tm6 (List.mem_of_getElem? (i := 61) rfl))) rfl
theorem w_1470 : (Jvm.Cond.code ({ cls := "LeavesOfMudModel", name := "size", desc := "(I)I" } : Jvm.MethodName) prog_11_method_3_code (1 : Nat) (Option.some Jvm.ClassFile.FieldType.int)) ∈ wsG := wsG_mem (List.mem_append_right _ (tm7 (List.mem_of_getElem? (i := 30) rfl))) rfl
theorem w_1469 : (Jvm.Cond.static ({ cls := "LeavesOfMudModel", name := "size", desc := "(I)I" } : Jvm.MethodName)) ∈ wsG := wsG_mem (List.mem_append_right _ (tm7 (List.mem_of_getElem? (i := 29) rfl))) rfl
theorem w_1280 : (Jvm.Cond.code ({ cls := "LeavesOfMudModel", name := "put", desc := "(IIIII)V" } : Jvm.MethodName) prog_11_method_8_code (6 : Nat) (Option.none : Option Jvm.ClassFile.FieldType)) ∈ wsG := wsG_mem (List.mem_append_right _ (tm6 (List.mem_of_getElem? (i := 80) rfl))) rfl
theorem w_1279 : (Jvm.Cond.instanceMethod ({ cls := "LeavesOfMudModel", name := "put", desc := "(IIIII)V" } : Jvm.MethodName)) ∈ wsG := wsG_mem (List.mem_append_right _ (tm6 (List.mem_of_getElem? (i := 79) rfl))) rfl
theorem wp_90 : Cond.selects "LeavesOfMudModel" ⟨"LeavesOfMudModel", "put", "(IIIII)V"⟩ ⟨"LeavesOfMudModel", "put", "(IIIII)V"⟩ ∈ wsG := wsG_mem (List.mem_append_left _ (List.mem_map_of_mem (f := fun q : MethodName × Nat => Cond.selects q.1.cls q.1 q.1) (List.mem_of_getElem? (i := 90) (rfl : lw_privs[90]? = some (⟨"LeavesOfMudModel", "put", "(IIIII)V"⟩, _))))) rfl
theorem w_1313 : (Jvm.Cond.code ({ cls := "LeavesOfMudModel", name := "compare", desc := "(II)I" } : Jvm.MethodName) prog_11_method_11_code (2 : Nat) (Option.some Jvm.ClassFile.FieldType.int)) ∈ wsG := wsG_mem (List.mem_append_right _ (tm6 (List.mem_of_getElem? (i := 113) rfl))) rfl
theorem w_1312 : (Jvm.Cond.static ({ cls := "LeavesOfMudModel", name := "compare", desc := "(II)I" } : Jvm.MethodName)) ∈ wsG := wsG_mem (List.mem_append_right _ (tm6 (List.mem_of_getElem? (i := 112) rfl))) rfl
theorem w_1326 : (Jvm.Cond.code ({ cls := "LeavesOfMudModel", name := "draw", desc := "(I)I" } : Jvm.MethodName) prog_11_method_15_code (2 : Nat) (Option.some Jvm.ClassFile.FieldType.int)) ∈ wsG := wsG_mem (List.mem_append_right _ (tm6 (List.mem_of_getElem? (i := 126) rfl))) rfl
theorem w_1325 : (Jvm.Cond.instanceMethod ({ cls := "LeavesOfMudModel", name := "draw", desc := "(I)I" } : Jvm.MethodName)) ∈ wsG := wsG_mem (List.mem_append_right _ (tm6 (List.mem_of_getElem? (i := 125) rfl))) rfl
theorem wp_96 : Cond.selects "LeavesOfMudModel" ⟨"LeavesOfMudModel", "draw", "(I)I"⟩ ⟨"LeavesOfMudModel", "draw", "(I)I"⟩ ∈ wsG := wsG_mem (List.mem_append_left _ (List.mem_map_of_mem (f := fun q : MethodName × Nat => Cond.selects q.1.cls q.1 q.1) (List.mem_of_getElem? (i := 96) (rfl : lw_privs[96]? = some (⟨"LeavesOfMudModel", "draw", "(I)I"⟩, _))))) rfl
theorem w_1338 : (Jvm.Cond.code ({ cls := "LeavesOfMudModel", name := "letters", desc := "(J)I" } : Jvm.MethodName) prog_11_method_18_code (9 : Nat) (Option.some Jvm.ClassFile.FieldType.int)) ∈ wsG := wsG_mem (List.mem_append_right _ (tm6 (List.mem_of_getElem? (i := 138) rfl))) rfl
theorem w_1336 : (Jvm.Cond.instanceMethod ({ cls := "LeavesOfMudModel", name := "letters", desc := "(J)I" } : Jvm.MethodName)) ∈ wsG := wsG_mem (List.mem_append_right _ (tm6 (List.mem_of_getElem? (i := 136) rfl))) rfl
theorem w_1337 : (Jvm.Cond.selects "LeavesOfMudModel" ({ cls := "LeavesOfMudModel", name := "letters", desc := "(J)I" } : Jvm.MethodName) ({ cls := "LeavesOfMudModel", name := "letters", desc := "(J)I" } : Jvm.MethodName)) ∈ wsG := wsG_mem (List.mem_append_right _ (tm6 (List.mem_of_getElem? (i := 137) rfl))) rfl
theorem w_1343 : (Jvm.Cond.code ({ cls := "LeavesOfMudModel", name := "blank", desc := "()I" } : Jvm.MethodName) prog_11_method_19_code (2 : Nat) (Option.some Jvm.ClassFile.FieldType.int)) ∈ wsG := wsG_mem (List.mem_append_right _ (tm6 (List.mem_of_getElem? (i := 143) rfl))) rfl
theorem w_1341 : (Jvm.Cond.instanceMethod ({ cls := "LeavesOfMudModel", name := "blank", desc := "()I" } : Jvm.MethodName)) ∈ wsG := wsG_mem (List.mem_append_right _ (tm6 (List.mem_of_getElem? (i := 141) rfl))) rfl
theorem w_1342 : (Jvm.Cond.selects "LeavesOfMudModel" ({ cls := "LeavesOfMudModel", name := "blank", desc := "()I" } : Jvm.MethodName) ({ cls := "LeavesOfMudModel", name := "blank", desc := "()I" } : Jvm.MethodName)) ∈ wsG := wsG_mem (List.mem_append_right _ (tm6 (List.mem_of_getElem? (i := 142) rfl))) rfl
theorem w_1358 : (Jvm.Cond.code ({ cls := "LeavesOfMudModel", name := "handLetter", desc := "(I)I" } : Jvm.MethodName) prog_11_method_20_code (1 : Nat) (Option.some Jvm.ClassFile.FieldType.int)) ∈ wsG := wsG_mem (List.mem_append_right _ (tm6 (List.mem_of_getElem? (i := 158) rfl))) rfl
theorem w_1357 : (Jvm.Cond.static ({ cls := "LeavesOfMudModel", name := "handLetter", desc := "(I)I" } : Jvm.MethodName)) ∈ wsG := wsG_mem (List.mem_append_right _ (tm6 (List.mem_of_getElem? (i := 157) rfl))) rfl
theorem w_1361 : (Jvm.Cond.code ({ cls := "LeavesOfMudModel", name := "lawLetter", desc := "(I)I" } : Jvm.MethodName) prog_11_method_21_code (1 : Nat) (Option.some Jvm.ClassFile.FieldType.int)) ∈ wsG := wsG_mem (List.mem_append_right _ (tm6 (List.mem_of_getElem? (i := 161) rfl))) rfl
theorem w_1360 : (Jvm.Cond.static ({ cls := "LeavesOfMudModel", name := "lawLetter", desc := "(I)I" } : Jvm.MethodName)) ∈ wsG := wsG_mem (List.mem_append_right _ (tm6 (List.mem_of_getElem? (i := 160) rfl))) rfl
theorem w_1306 : (Jvm.Cond.code ({ cls := "LeavesOfMudModel", name := "halvesOf", desc := "(III)I" } : Jvm.MethodName) prog_11_method_28_code (6 : Nat) (Option.some Jvm.ClassFile.FieldType.int)) ∈ wsG := wsG_mem (List.mem_append_right _ (tm6 (List.mem_of_getElem? (i := 106) rfl))) rfl
theorem w_1305 : (Jvm.Cond.instanceMethod ({ cls := "LeavesOfMudModel", name := "halvesOf", desc := "(III)I" } : Jvm.MethodName)) ∈ wsG := wsG_mem (List.mem_append_right _ (tm6 (List.mem_of_getElem? (i := 105) rfl))) rfl
theorem wp_94 : Cond.selects "LeavesOfMudModel" ⟨"LeavesOfMudModel", "halvesOf", "(III)I"⟩ ⟨"LeavesOfMudModel", "halvesOf", "(III)I"⟩ ∈ wsG := wsG_mem (List.mem_append_left _ (List.mem_map_of_mem (f := fun q : MethodName × Nat => Cond.selects q.1.cls q.1 q.1) (List.mem_of_getElem? (i := 94) (rfl : lw_privs[94]? = some (⟨"LeavesOfMudModel", "halvesOf", "(III)I"⟩, _))))) rfl
theorem w_1416 : (Jvm.Cond.code ({ cls := "LeavesOfMudModel", name := "turned", desc := "(III)I" } : Jvm.MethodName) prog_11_method_37_code (4 : Nat) (Option.some Jvm.ClassFile.FieldType.int)) ∈ wsG := wsG_mem (List.mem_append_right _ (tm6 (List.mem_of_getElem? (i := 216) rfl))) rfl
theorem w_1415 : (Jvm.Cond.instanceMethod ({ cls := "LeavesOfMudModel", name := "turned", desc := "(III)I" } : Jvm.MethodName)) ∈ wsG := wsG_mem (List.mem_append_right _ (tm6 (List.mem_of_getElem? (i := 215) rfl))) rfl
theorem wp_104 : Cond.selects "LeavesOfMudModel" ⟨"LeavesOfMudModel", "turned", "(III)I"⟩ ⟨"LeavesOfMudModel", "turned", "(III)I"⟩ ∈ wsG := wsG_mem (List.mem_append_left _ (List.mem_map_of_mem (f := fun q : MethodName × Nat => Cond.selects q.1.cls q.1 q.1) (List.mem_of_getElem? (i := 104) (rfl : lw_privs[104]? = some (⟨"LeavesOfMudModel", "turned", "(III)I"⟩, _))))) rfl
theorem w_1438 : (Jvm.Cond.code ({ cls := "LeavesOfMudModel", name := "common", desc := "(II)I" } : Jvm.MethodName) prog_11_method_42_code (5 : Nat) (Option.some Jvm.ClassFile.FieldType.int)) ∈ wsG := wsG_mem (List.mem_append_right _ (tm6 (List.mem_of_getElem? (i := 238) rfl))) rfl
theorem w_1437 : (Jvm.Cond.static ({ cls := "LeavesOfMudModel", name := "common", desc := "(II)I" } : Jvm.MethodName)) ∈ wsG := wsG_mem (List.mem_append_right _ (tm6 (List.mem_of_getElem? (i := 237) rfl))) rfl
theorem w_1460 : (Jvm.Cond.code ({ cls := "LeavesOfMudModel", name := "wideA", desc := "(I)I" } : Jvm.MethodName) prog_11_method_46_code (1 : Nat) (Option.some Jvm.ClassFile.FieldType.int)) ∈ wsG := wsG_mem (List.mem_append_right _ (tm7 (List.mem_of_getElem? (i := 20) rfl))) rfl
theorem w_1459 : (Jvm.Cond.static ({ cls := "LeavesOfMudModel", name := "wideA", desc := "(I)I" } : Jvm.MethodName)) ∈ wsG := wsG_mem (List.mem_append_right _ (tm7 (List.mem_of_getElem? (i := 19) rfl))) rfl
theorem w_1463 : (Jvm.Cond.code ({ cls := "LeavesOfMudModel", name := "wideB", desc := "(I)I" } : Jvm.MethodName) prog_11_method_47_code (1 : Nat) (Option.some Jvm.ClassFile.FieldType.int)) ∈ wsG := wsG_mem (List.mem_append_right _ (tm7 (List.mem_of_getElem? (i := 23) rfl))) rfl
theorem w_1462 : (Jvm.Cond.static ({ cls := "LeavesOfMudModel", name := "wideB", desc := "(I)I" } : Jvm.MethodName)) ∈ wsG := wsG_mem (List.mem_append_right _ (tm7 (List.mem_of_getElem? (i := 22) rfl))) rfl
theorem w_1467 : (Jvm.Cond.code ({ cls := "LeavesOfMudModel", name := "ash", desc := "(I)I" } : Jvm.MethodName) prog_11_method_48_code (2 : Nat) (Option.some Jvm.ClassFile.FieldType.int)) ∈ wsG := wsG_mem (List.mem_append_right _ (tm7 (List.mem_of_getElem? (i := 27) rfl))) rfl
theorem w_1466 : (Jvm.Cond.instanceMethod ({ cls := "LeavesOfMudModel", name := "ash", desc := "(I)I" } : Jvm.MethodName)) ∈ wsG := wsG_mem (List.mem_append_right _ (tm7 (List.mem_of_getElem? (i := 26) rfl))) rfl
theorem wp_108 : Cond.selects "LeavesOfMudModel" ⟨"LeavesOfMudModel", "ash", "(I)I"⟩ ⟨"LeavesOfMudModel", "ash", "(I)I"⟩ ∈ wsG := wsG_mem (List.mem_append_left _ (List.mem_map_of_mem (f := fun q : MethodName × Nat => Cond.selects q.1.cls q.1 q.1) (List.mem_of_getElem? (i := 108) (rfl : lw_privs[108]? = some (⟨"LeavesOfMudModel", "ash", "(I)I"⟩, _))))) rfl
theorem w_1512 : (Jvm.Cond.code ({ cls := "LeavesOfMudModel", name := "ashes", desc := "(Z)I" } : Jvm.MethodName) prog_11_method_61_code (3 : Nat) (Option.some Jvm.ClassFile.FieldType.int)) ∈ wsG := wsG_mem (List.mem_append_right _ (tm7 (List.mem_of_getElem? (i := 72) rfl))) rfl
theorem w_1510 : (Jvm.Cond.instanceMethod ({ cls := "LeavesOfMudModel", name := "ashes", desc := "(Z)I" } : Jvm.MethodName)) ∈ wsG := wsG_mem (List.mem_append_right _ (tm7 (List.mem_of_getElem? (i := 70) rfl))) rfl
theorem w_1511 : (Jvm.Cond.selects "LeavesOfMudModel" ({ cls := "LeavesOfMudModel", name := "ashes", desc := "(Z)I" } : Jvm.MethodName) ({ cls := "LeavesOfMudModel", name := "ashes", desc := "(Z)I" } : Jvm.MethodName)) ∈ wsG := wsG_mem (List.mem_append_right _ (tm7 (List.mem_of_getElem? (i := 71) rfl))) rfl
theorem w_1537 : (Jvm.Cond.code ({ cls := "LeavesOfMudModel", name := "ashAt", desc := "(II)I" } : Jvm.MethodName) prog_11_method_62_code (4 : Nat) (Option.some Jvm.ClassFile.FieldType.int)) ∈ wsG := wsG_mem (List.mem_append_right _ (tm7 (List.mem_of_getElem? (i := 97) rfl))) rfl
theorem w_1536 : (Jvm.Cond.instanceMethod ({ cls := "LeavesOfMudModel", name := "ashAt", desc := "(II)I" } : Jvm.MethodName)) ∈ wsG := wsG_mem (List.mem_append_right _ (tm7 (List.mem_of_getElem? (i := 96) rfl))) rfl
theorem wp_115 : Cond.selects "LeavesOfMudModel" ⟨"LeavesOfMudModel", "ashAt", "(II)I"⟩ ⟨"LeavesOfMudModel", "ashAt", "(II)I"⟩ ∈ wsG := wsG_mem (List.mem_append_left _ (List.mem_map_of_mem (f := fun q : MethodName × Nat => Cond.selects q.1.cls q.1 q.1) (List.mem_of_getElem? (i := 115) (rfl : lw_privs[115]? = some (⟨"LeavesOfMudModel", "ashAt", "(II)I"⟩, _))))) rfl
theorem w_1533 : (Jvm.Cond.code ({ cls := "LeavesOfMudModel", name := "bound", desc := "(IIII)V" } : Jvm.MethodName) prog_11_method_63_code (5 : Nat) (Option.none : Option Jvm.ClassFile.FieldType)) ∈ wsG := wsG_mem (List.mem_append_right _ (tm7 (List.mem_of_getElem? (i := 93) rfl))) rfl
theorem w_1532 : (Jvm.Cond.instanceMethod ({ cls := "LeavesOfMudModel", name := "bound", desc := "(IIII)V" } : Jvm.MethodName)) ∈ wsG := wsG_mem (List.mem_append_right _ (tm7 (List.mem_of_getElem? (i := 92) rfl))) rfl
theorem wp_114 : Cond.selects "LeavesOfMudModel" ⟨"LeavesOfMudModel", "bound", "(IIII)V"⟩ ⟨"LeavesOfMudModel", "bound", "(IIII)V"⟩ ∈ wsG := wsG_mem (List.mem_append_left _ (List.mem_map_of_mem (f := fun q : MethodName × Nat => Cond.selects q.1.cls q.1 q.1) (List.mem_of_getElem? (i := 114) (rfl : lw_privs[114]? = some (⟨"LeavesOfMudModel", "bound", "(IIII)V"⟩, _))))) rfl
theorem w_1541 : (Jvm.Cond.code ({ cls := "LeavesOfMudModel", name := "close", desc := "()Z" } : Jvm.MethodName) prog_11_method_64_code (6 : Nat) (Option.some Jvm.ClassFile.FieldType.boolean)) ∈ wsG := wsG_mem (List.mem_append_right _ (tm7 (List.mem_of_getElem? (i := 101) rfl))) rfl
theorem w_1540 : (Jvm.Cond.instanceMethod ({ cls := "LeavesOfMudModel", name := "close", desc := "()Z" } : Jvm.MethodName)) ∈ wsG := wsG_mem (List.mem_append_right _ (tm7 (List.mem_of_getElem? (i := 100) rfl))) rfl
theorem wp_116 : Cond.selects "LeavesOfMudModel" ⟨"LeavesOfMudModel", "close", "()Z"⟩ ⟨"LeavesOfMudModel", "close", "()Z"⟩ ∈ wsG := wsG_mem (List.mem_append_left _ (List.mem_map_of_mem (f := fun q : MethodName × Nat => Cond.selects q.1.cls q.1 q.1) (List.mem_of_getElem? (i := 116) (rfl : lw_privs[116]? = some (⟨"LeavesOfMudModel", "close", "()Z"⟩, _))))) rfl
theorem w_1524 : (Jvm.Cond.code ({ cls := "LeavesOfMudModel", name := "keptSet", desc := "()I" } : Jvm.MethodName) prog_11_method_66_code (3 : Nat) (Option.some Jvm.ClassFile.FieldType.int)) ∈ wsG := wsG_mem (List.mem_append_right _ (tm7 (List.mem_of_getElem? (i := 84) rfl))) rfl
theorem w_1523 : (Jvm.Cond.instanceMethod ({ cls := "LeavesOfMudModel", name := "keptSet", desc := "()I" } : Jvm.MethodName)) ∈ wsG := wsG_mem (List.mem_append_right _ (tm7 (List.mem_of_getElem? (i := 83) rfl))) rfl
theorem wp_112 : Cond.selects "LeavesOfMudModel" ⟨"LeavesOfMudModel", "keptSet", "()I"⟩ ⟨"LeavesOfMudModel", "keptSet", "()I"⟩ ∈ wsG := wsG_mem (List.mem_append_left _ (List.mem_map_of_mem (f := fun q : MethodName × Nat => Cond.selects q.1.cls q.1 q.1) (List.mem_of_getElem? (i := 112) (rfl : lw_privs[112]? = some (⟨"LeavesOfMudModel", "keptSet", "()I"⟩, _))))) rfl
theorem w_1551 : (Jvm.Cond.code ({ cls := "LeavesOfMudModel", name := "floats", desc := "(II)Z" } : Jvm.MethodName) prog_11_method_69_code (3 : Nat) (Option.some Jvm.ClassFile.FieldType.boolean)) ∈ wsG := wsG_mem (List.mem_append_right _ (tm7 (List.mem_of_getElem? (i := 111) rfl))) rfl
theorem w_1550 : (Jvm.Cond.instanceMethod ({ cls := "LeavesOfMudModel", name := "floats", desc := "(II)Z" } : Jvm.MethodName)) ∈ wsG := wsG_mem (List.mem_append_right _ (tm7 (List.mem_of_getElem? (i := 110) rfl))) rfl
theorem wp_117 : Cond.selects "LeavesOfMudModel" ⟨"LeavesOfMudModel", "floats", "(II)Z"⟩ ⟨"LeavesOfMudModel", "floats", "(II)Z"⟩ ∈ wsG := wsG_mem (List.mem_append_left _ (List.mem_map_of_mem (f := fun q : MethodName × Nat => Cond.selects q.1.cls q.1 q.1) (List.mem_of_getElem? (i := 117) (rfl : lw_privs[117]? = some (⟨"LeavesOfMudModel", "floats", "(II)Z"⟩, _))))) rfl
theorem w_1575 : (Jvm.Cond.code ({ cls := "LeavesOfMudModel", name := "doubtOf", desc := "(I)I" } : Jvm.MethodName) prog_11_method_74_code (4 : Nat) (Option.some Jvm.ClassFile.FieldType.int)) ∈ wsG := wsG_mem (List.mem_append_right _ (tm7 (List.mem_of_getElem? (i := 135) rfl))) rfl
theorem w_1574 : (Jvm.Cond.instanceMethod ({ cls := "LeavesOfMudModel", name := "doubtOf", desc := "(I)I" } : Jvm.MethodName)) ∈ wsG := wsG_mem (List.mem_append_right _ (tm7 (List.mem_of_getElem? (i := 134) rfl))) rfl
theorem wp_120 : Cond.selects "LeavesOfMudModel" ⟨"LeavesOfMudModel", "doubtOf", "(I)I"⟩ ⟨"LeavesOfMudModel", "doubtOf", "(I)I"⟩ ∈ wsG := wsG_mem (List.mem_append_left _ (List.mem_map_of_mem (f := fun q : MethodName × Nat => Cond.selects q.1.cls q.1 q.1) (List.mem_of_getElem? (i := 120) (rfl : lw_privs[120]? = some (⟨"LeavesOfMudModel", "doubtOf", "(I)I"⟩, _))))) rfl
theorem w_1571 : (Jvm.Cond.code ({ cls := "LeavesOfMudModel", name := "manyOf", desc := "(I)I" } : Jvm.MethodName) prog_11_method_75_code (4 : Nat) (Option.some Jvm.ClassFile.FieldType.int)) ∈ wsG := wsG_mem (List.mem_append_right _ (tm7 (List.mem_of_getElem? (i := 131) rfl))) rfl
theorem w_1570 : (Jvm.Cond.instanceMethod ({ cls := "LeavesOfMudModel", name := "manyOf", desc := "(I)I" } : Jvm.MethodName)) ∈ wsG := wsG_mem (List.mem_append_right _ (tm7 (List.mem_of_getElem? (i := 130) rfl))) rfl
theorem wp_119 : Cond.selects "LeavesOfMudModel" ⟨"LeavesOfMudModel", "manyOf", "(I)I"⟩ ⟨"LeavesOfMudModel", "manyOf", "(I)I"⟩ ∈ wsG := wsG_mem (List.mem_append_left _ (List.mem_map_of_mem (f := fun q : MethodName × Nat => Cond.selects q.1.cls q.1 q.1) (List.mem_of_getElem? (i := 119) (rfl : lw_privs[119]? = some (⟨"LeavesOfMudModel", "manyOf", "(I)I"⟩, _))))) rfl
theorem w_1608 : (Jvm.Cond.code ({ cls := "LeavesOfMudModel", name := "image", desc := "()I" } : Jvm.MethodName) prog_11_method_84_code (2 : Nat) (Option.some Jvm.ClassFile.FieldType.int)) ∈ wsG := wsG_mem (List.mem_append_right _ (tm7 (List.mem_of_getElem? (i := 168) rfl))) rfl
theorem w_1606 : (Jvm.Cond.instanceMethod ({ cls := "LeavesOfMudModel", name := "image", desc := "()I" } : Jvm.MethodName)) ∈ wsG := wsG_mem (List.mem_append_right _ (tm7 (List.mem_of_getElem? (i := 166) rfl))) rfl
theorem w_1607 : (Jvm.Cond.selects "LeavesOfMudModel" ({ cls := "LeavesOfMudModel", name := "image", desc := "()I" } : Jvm.MethodName) ({ cls := "LeavesOfMudModel", name := "image", desc := "()I" } : Jvm.MethodName)) ∈ wsG := wsG_mem (List.mem_append_right _ (tm7 (List.mem_of_getElem? (i := 167) rfl))) rfl
theorem w_1612 : (Jvm.Cond.code ({ cls := "LeavesOfMudModel", name := "restore", desc := "()I" } : Jvm.MethodName) prog_11_method_85_code (2 : Nat) (Option.some Jvm.ClassFile.FieldType.int)) ∈ wsG := wsG_mem (List.mem_append_right _ (tm7 (List.mem_of_getElem? (i := 172) rfl))) rfl
theorem w_1610 : (Jvm.Cond.instanceMethod ({ cls := "LeavesOfMudModel", name := "restore", desc := "()I" } : Jvm.MethodName)) ∈ wsG := wsG_mem (List.mem_append_right _ (tm7 (List.mem_of_getElem? (i := 170) rfl))) rfl
theorem w_1611 : (Jvm.Cond.selects "LeavesOfMudModel" ({ cls := "LeavesOfMudModel", name := "restore", desc := "()I" } : Jvm.MethodName) ({ cls := "LeavesOfMudModel", name := "restore", desc := "()I" } : Jvm.MethodName)) ∈ wsG := wsG_mem (List.mem_append_right _ (tm7 (List.mem_of_getElem? (i := 171) rfl))) rfl
theorem w_1633 : (Jvm.Cond.code ({ cls := "LeavesOfMudModel", name := "tell", desc := "(J)V" } : Jvm.MethodName) prog_11_method_88_code (3 : Nat) (Option.none : Option Jvm.ClassFile.FieldType)) ∈ wsG := wsG_mem (List.mem_append_right _ (tm7 (List.mem_of_getElem? (i := 193) rfl))) rfl
theorem w_1632 : (Jvm.Cond.instanceMethod ({ cls := "LeavesOfMudModel", name := "tell", desc := "(J)V" } : Jvm.MethodName)) ∈ wsG := wsG_mem (List.mem_append_right _ (tm7 (List.mem_of_getElem? (i := 192) rfl))) rfl
theorem wp_126 : Cond.selects "LeavesOfMudModel" ⟨"LeavesOfMudModel", "tell", "(J)V"⟩ ⟨"LeavesOfMudModel", "tell", "(J)V"⟩ ∈ wsG := wsG_mem (List.mem_append_left _ (List.mem_map_of_mem (f := fun q : MethodName × Nat => Cond.selects q.1.cls q.1 q.1) (List.mem_of_getElem? (i := 126) (rfl : lw_privs[126]? = some (⟨"LeavesOfMudModel", "tell", "(J)V"⟩, _))))) rfl
theorem pn_J6 : plainName RJ6 = true := by decide +kernel
theorem mh_J6 : RJ6 ≠ "java/lang/invoke/MethodHandle" ∧ RJ6 ≠ "java/lang/invoke/VarHandle" := ⟨by decide +kernel, by decide +kernel⟩
theorem w_438 : (Jvm.Cond.code ({ cls := "java/lang/Integer", name := "compare", desc := "(II)I" } : Jvm.MethodName) prog_13_method_40_code (2 : Nat) (Option.some Jvm.ClassFile.FieldType.int)) ∈ wsG := wsG_mem (List.mem_append_right _ (tm2 (List.mem_of_getElem? (i := 198) rfl))) rfl
theorem w_12 : (Jvm.Cond.initialized "java/lang/Integer") ∈ wsG := wsG_mem (List.mem_append_right _ (tm1 (List.mem_of_getElem? (i := 12) rfl))) rfl
theorem w_437 : (Jvm.Cond.static ({ cls := "java/lang/Integer", name := "compare", desc := "(II)I" } : Jvm.MethodName)) ∈ wsG := wsG_mem (List.mem_append_right _ (tm2 (List.mem_of_getElem? (i := 197) rfl))) rfl
theorem w_918 : (Jvm.Cond.code ({ cls := "java/lang/Integer", name := "bitCount", desc := "(I)I" } : Jvm.MethodName) prog_13_method_49_code (1 : Nat) (Option.some Jvm.ClassFile.FieldType.int)) ∈ wsG := wsG_mem (List.mem_append_right _ (tm4 (List.mem_of_getElem? (i := 198) rfl))) rfl
theorem w_917 : (Jvm.Cond.static ({ cls := "java/lang/Integer", name := "bitCount", desc := "(I)I" } : Jvm.MethodName)) ∈ wsG := wsG_mem (List.mem_append_right _ (tm4 (List.mem_of_getElem? (i := 197) rfl))) rfl
theorem pn_J0 : plainName RJ0 = true := by decide +kernel
theorem mh_J0 : RJ0 ≠ "java/lang/invoke/MethodHandle" ∧ RJ0 ≠ "java/lang/invoke/VarHandle" := ⟨by decide +kernel, by decide +kernel⟩
theorem w_511 : (Jvm.Cond.code ({ cls := "java/lang/String", name := "coder", desc := "()B" } : Jvm.MethodName) prog_15_method_152_code (1 : Nat) (Option.some Jvm.ClassFile.FieldType.byte)) ∈ wsG := wsG_mem (List.mem_append_right _ (tm3 (List.mem_of_getElem? (i := 31) rfl))) rfl
theorem w_13 : (Jvm.Cond.initialized "java/lang/String") ∈ wsG := wsG_mem (List.mem_append_right _ (tm1 (List.mem_of_getElem? (i := 13) rfl))) rfl
theorem w_509 : (Jvm.Cond.instanceMethod ({ cls := "java/lang/String", name := "coder", desc := "()B" } : Jvm.MethodName)) ∈ wsG := wsG_mem (List.mem_append_right _ (tm3 (List.mem_of_getElem? (i := 29) rfl))) rfl
theorem w_510 : (Jvm.Cond.selects "java/lang/String" ({ cls := "java/lang/String", name := "coder", desc := "()B" } : Jvm.MethodName) ({ cls := "java/lang/String", name := "coder", desc := "()B" } : Jvm.MethodName)) ∈ wsG := wsG_mem (List.mem_append_right _ (tm3 (List.mem_of_getElem? (i := 30) rfl))) rfl
theorem w_501 : (Jvm.Cond.code ({ cls := "java/lang/String", name := "isLatin1", desc := "()Z" } : Jvm.MethodName) prog_15_method_154_code (1 : Nat) (Option.some Jvm.ClassFile.FieldType.boolean)) ∈ wsG := wsG_mem (List.mem_append_right _ (tm3 (List.mem_of_getElem? (i := 21) rfl))) rfl
theorem w_499 : (Jvm.Cond.instanceMethod ({ cls := "java/lang/String", name := "isLatin1", desc := "()Z" } : Jvm.MethodName)) ∈ wsG := wsG_mem (List.mem_append_right _ (tm3 (List.mem_of_getElem? (i := 19) rfl))) rfl
theorem w_500 : (Jvm.Cond.selects "java/lang/String" ({ cls := "java/lang/String", name := "isLatin1", desc := "()Z" } : Jvm.MethodName) ({ cls := "java/lang/String", name := "isLatin1", desc := "()Z" } : Jvm.MethodName)) ∈ wsG := wsG_mem (List.mem_append_right _ (tm3 (List.mem_of_getElem? (i := 20) rfl))) rfl
theorem pn_J1 : plainName RJ1 = true := by decide +kernel
theorem mh_J1 : RJ1 ≠ "java/lang/invoke/MethodHandle" ∧ RJ1 ≠ "java/lang/invoke/VarHandle" := ⟨by decide +kernel, by decide +kernel⟩
theorem w_517 : (Jvm.Cond.code ({ cls := "java/lang/StringLatin1", name := "canEncode", desc := "(I)Z" } : Jvm.MethodName) prog_16_method_4_code (1 : Nat) (Option.some Jvm.ClassFile.FieldType.boolean)) ∈ wsG := wsG_mem (List.mem_append_right _ (tm3 (List.mem_of_getElem? (i := 37) rfl))) rfl
theorem w_14 : (Jvm.Cond.initialized "java/lang/StringLatin1") ∈ wsG := wsG_mem (List.mem_append_right _ (tm1 (List.mem_of_getElem? (i := 14) rfl))) rfl
theorem w_516 : (Jvm.Cond.static ({ cls := "java/lang/StringLatin1", name := "canEncode", desc := "(I)Z" } : Jvm.MethodName)) ∈ wsG := wsG_mem (List.mem_append_right _ (tm3 (List.mem_of_getElem? (i := 36) rfl))) rfl
theorem w_526 : (Jvm.Cond.code ({ cls := "java/lang/StringLatin1", name := "indexOfChar", desc := "([BIII)I" } : Jvm.MethodName) prog_16_method_23_code (6 : Nat) (Option.some Jvm.ClassFile.FieldType.int)) ∈ wsG := wsG_mem (List.mem_append_right _ (tm3 (List.mem_of_getElem? (i := 46) rfl))) rfl
theorem w_525 : (Jvm.Cond.static ({ cls := "java/lang/StringLatin1", name := "indexOfChar", desc := "([BIII)I" } : Jvm.MethodName)) ∈ wsG := wsG_mem (List.mem_append_right _ (tm3 (List.mem_of_getElem? (i := 45) rfl))) rfl
theorem pn_J7 : plainName RJ7 = true := by decide +kernel
theorem mh_J7 : RJ7 ≠ "java/lang/invoke/MethodHandle" ∧ RJ7 ≠ "java/lang/invoke/VarHandle" := ⟨by decide +kernel, by decide +kernel⟩
theorem w_146 : (Jvm.Cond.code ({ cls := "java/util/Arrays", name := "fill", desc := "([II)V" } : Jvm.MethodName) prog_19_method_103_code (4 : Nat) (Option.none : Option Jvm.ClassFile.FieldType)) ∈ wsG := wsG_mem (List.mem_append_right _ (tm1 (List.mem_of_getElem? (i := 146) rfl))) rfl
theorem w_6 : (Jvm.Cond.initialized "java/util/Arrays") ∈ wsG := wsG_mem (List.mem_append_right _ (tm1 (List.mem_of_getElem? (i := 6) rfl))) rfl
theorem w_145 : (Jvm.Cond.static ({ cls := "java/util/Arrays", name := "fill", desc := "([II)V" } : Jvm.MethodName)) ∈ wsG := wsG_mem (List.mem_append_right _ (tm1 (List.mem_of_getElem? (i := 145) rfl))) rfl
theorem w_786 : (Jvm.Cond.code ({ cls := "LeavesOfMud$Bonds", name := "addJoin", desc := "(IIIII)I" } : Jvm.MethodName) prog_2_method_2_code (7 : Nat) (Option.some Jvm.ClassFile.FieldType.int)) ∈ wsG := wsG_mem (List.mem_append_right _ (tm4 (List.mem_of_getElem? (i := 66) rfl))) rfl
theorem w_785 : (Jvm.Cond.instanceMethod ({ cls := "LeavesOfMud$Bonds", name := "addJoin", desc := "(IIIII)I" } : Jvm.MethodName)) ∈ wsG := wsG_mem (List.mem_append_right _ (tm4 (List.mem_of_getElem? (i := 65) rfl))) rfl
theorem wp_43 : Cond.selects "LeavesOfMud$Bonds" ⟨"LeavesOfMud$Bonds", "addJoin", "(IIIII)I"⟩ ⟨"LeavesOfMud$Bonds", "addJoin", "(IIIII)I"⟩ ∈ wsG := wsG_mem (List.mem_append_left _ (List.mem_map_of_mem (f := fun q : MethodName × Nat => Cond.selects q.1.cls q.1 q.1) (List.mem_of_getElem? (i := 43) (rfl : lw_privs[43]? = some (⟨"LeavesOfMud$Bonds", "addJoin", "(IIIII)I"⟩, _))))) rfl
theorem w_1072 : (Jvm.Cond.code ({ cls := "LeavesOfMud$Bonds", name := "foldInto", desc := "(J)J" } : Jvm.MethodName) prog_2_method_8_code (4 : Nat) (Option.some Jvm.ClassFile.FieldType.long)) ∈ wsG := wsG_mem (List.mem_append_right _ (tm5 (List.mem_of_getElem? (i := 112) rfl))) rfl
theorem w_1071 : (Jvm.Cond.instanceMethod ({ cls := "LeavesOfMud$Bonds", name := "foldInto", desc := "(J)J" } : Jvm.MethodName)) ∈ wsG := wsG_mem (List.mem_append_right _ (tm5 (List.mem_of_getElem? (i := 111) rfl))) rfl
theorem wp_87 : Cond.selects "LeavesOfMud$Bonds" ⟨"LeavesOfMud$Bonds", "foldInto", "(J)J"⟩ ⟨"LeavesOfMud$Bonds", "foldInto", "(J)J"⟩ ∈ wsG := wsG_mem (List.mem_append_left _ (List.mem_map_of_mem (f := fun q : MethodName × Nat => Cond.selects q.1.cls q.1 q.1) (List.mem_of_getElem? (i := 87) (rfl : lw_privs[87]? = some (⟨"LeavesOfMud$Bonds", "foldInto", "(J)J"⟩, _))))) rfl
theorem w_1037 : (Jvm.Cond.code ({ cls := "LeavesOfMud$Bonds", name := "copyFrom", desc := "(LLeavesOfMud$Bonds;)V" } : Jvm.MethodName) prog_2_method_9_code (2 : Nat) (Option.none : Option Jvm.ClassFile.FieldType)) ∈ wsG := wsG_mem (List.mem_append_right _ (tm5 (List.mem_of_getElem? (i := 77) rfl))) rfl
theorem w_1036 : (Jvm.Cond.instanceMethod ({ cls := "LeavesOfMud$Bonds", name := "copyFrom", desc := "(LLeavesOfMud$Bonds;)V" } : Jvm.MethodName)) ∈ wsG := wsG_mem (List.mem_append_right _ (tm5 (List.mem_of_getElem? (i := 76) rfl))) rfl
theorem wp_83 : Cond.selects "LeavesOfMud$Bonds" ⟨"LeavesOfMud$Bonds", "copyFrom", "(LLeavesOfMud$Bonds;)V"⟩ ⟨"LeavesOfMud$Bonds", "copyFrom", "(LLeavesOfMud$Bonds;)V"⟩ ∈ wsG := wsG_mem (List.mem_append_left _ (List.mem_map_of_mem (f := fun q : MethodName × Nat => Cond.selects q.1.cls q.1 q.1) (List.mem_of_getElem? (i := 83) (rfl : lw_privs[83]? = some (⟨"LeavesOfMud$Bonds", "copyFrom", "(LLeavesOfMud$Bonds;)V"⟩, _))))) rfl
theorem w_587 : (Jvm.Cond.code ({ cls := "LeavesOfMud$Hands", name := "take", desc := "([I)I" } : Jvm.MethodName) prog_3_method_3_code (3 : Nat) (Option.some Jvm.ClassFile.FieldType.int)) ∈ wsG := wsG_mem (List.mem_append_right _ (tm3 (List.mem_of_getElem? (i := 107) rfl))) rfl
theorem w_586 : (Jvm.Cond.instanceMethod ({ cls := "LeavesOfMud$Hands", name := "take", desc := "([I)I" } : Jvm.MethodName)) ∈ wsG := wsG_mem (List.mem_append_right _ (tm3 (List.mem_of_getElem? (i := 106) rfl))) rfl
theorem wp_17 : Cond.selects "LeavesOfMud$Hands" ⟨"LeavesOfMud$Hands", "take", "([I)I"⟩ ⟨"LeavesOfMud$Hands", "take", "([I)I"⟩ ∈ wsG := wsG_mem (List.mem_append_left _ (List.mem_map_of_mem (f := fun q : MethodName × Nat => Cond.selects q.1.cls q.1 q.1) (List.mem_of_getElem? (i := 17) (rfl : lw_privs[17]? = some (⟨"LeavesOfMud$Hands", "take", "([I)I"⟩, _))))) rfl
theorem w_410 : (Jvm.Cond.code ({ cls := "LeavesOfMud$Hands", name := "halvesAhead", desc := "(III)I" } : Jvm.MethodName) prog_3_method_5_code (6 : Nat) (Option.some Jvm.ClassFile.FieldType.int)) ∈ wsG := wsG_mem (List.mem_append_right _ (tm2 (List.mem_of_getElem? (i := 170) rfl))) rfl
theorem w_409 : (Jvm.Cond.instanceMethod ({ cls := "LeavesOfMud$Hands", name := "halvesAhead", desc := "(III)I" } : Jvm.MethodName)) ∈ wsG := wsG_mem (List.mem_append_right _ (tm2 (List.mem_of_getElem? (i := 169) rfl))) rfl
theorem wp_8 : Cond.selects "LeavesOfMud$Hands" ⟨"LeavesOfMud$Hands", "halvesAhead", "(III)I"⟩ ⟨"LeavesOfMud$Hands", "halvesAhead", "(III)I"⟩ ∈ wsG := wsG_mem (List.mem_append_left _ (List.mem_map_of_mem (f := fun q : MethodName × Nat => Cond.selects q.1.cls q.1 q.1) (List.mem_of_getElem? (i := 8) (rfl : lw_privs[8]? = some (⟨"LeavesOfMud$Hands", "halvesAhead", "(III)I"⟩, _))))) rfl
theorem w_842 : (Jvm.Cond.code ({ cls := "LeavesOfMud$Net", name := "findAshes", desc := "()V" } : Jvm.MethodName) prog_5_method_8_code (6 : Nat) (Option.none : Option Jvm.ClassFile.FieldType)) ∈ wsG := wsG_mem (List.mem_append_right _ (tm4 (List.mem_of_getElem? (i := 122) rfl))) rfl
theorem w_841 : (Jvm.Cond.instanceMethod ({ cls := "LeavesOfMud$Net", name := "findAshes", desc := "()V" } : Jvm.MethodName)) ∈ wsG := wsG_mem (List.mem_append_right _ (tm4 (List.mem_of_getElem? (i := 121) rfl))) rfl
theorem wp_51 : Cond.selects "LeavesOfMud$Net" ⟨"LeavesOfMud$Net", "findAshes", "()V"⟩ ⟨"LeavesOfMud$Net", "findAshes", "()V"⟩ ∈ wsG := wsG_mem (List.mem_append_left _ (List.mem_map_of_mem (f := fun q : MethodName × Nat => Cond.selects q.1.cls q.1 q.1) (List.mem_of_getElem? (i := 51) (rfl : lw_privs[51]? = some (⟨"LeavesOfMud$Net", "findAshes", "()V"⟩, _))))) rfl
theorem w_853 : (Jvm.Cond.code ({ cls := "LeavesOfMud$Net", name := "firstPitWithAsh", desc := "(I)I" } : Jvm.MethodName) prog_5_method_11_code (3 : Nat) (Option.some Jvm.ClassFile.FieldType.int)) ∈ wsG := wsG_mem (List.mem_append_right _ (tm4 (List.mem_of_getElem? (i := 133) rfl))) rfl
theorem w_852 : (Jvm.Cond.instanceMethod ({ cls := "LeavesOfMud$Net", name := "firstPitWithAsh", desc := "(I)I" } : Jvm.MethodName)) ∈ wsG := wsG_mem (List.mem_append_right _ (tm4 (List.mem_of_getElem? (i := 132) rfl))) rfl
theorem wp_53 : Cond.selects "LeavesOfMud$Net" ⟨"LeavesOfMud$Net", "firstPitWithAsh", "(I)I"⟩ ⟨"LeavesOfMud$Net", "firstPitWithAsh", "(I)I"⟩ ∈ wsG := wsG_mem (List.mem_append_left _ (List.mem_map_of_mem (f := fun q : MethodName × Nat => Cond.selects q.1.cls q.1 q.1) (List.mem_of_getElem? (i := 53) (rfl : lw_privs[53]? = some (⟨"LeavesOfMud$Net", "firstPitWithAsh", "(I)I"⟩, _))))) rfl
theorem w_860 : (Jvm.Cond.code ({ cls := "LeavesOfMud$Net", name := "bind", desc := "([IIIII)Z" } : Jvm.MethodName) prog_5_method_12_code (5 : Nat) (Option.some Jvm.ClassFile.FieldType.boolean)) ∈ wsG := wsG_mem (List.mem_append_right _ (tm4 (List.mem_of_getElem? (i := 140) rfl))) rfl
theorem w_859 : (Jvm.Cond.static ({ cls := "LeavesOfMud$Net", name := "bind", desc := "([IIIII)Z" } : Jvm.MethodName)) ∈ wsG := wsG_mem (List.mem_append_right _ (tm4 (List.mem_of_getElem? (i := 139) rfl))) rfl
theorem w_915 : (Jvm.Cond.code ({ cls := "LeavesOfMud$Net", name := "groups", desc := "()I" } : Jvm.MethodName) prog_5_method_17_code (3 : Nat) (Option.some Jvm.ClassFile.FieldType.int)) ∈ wsG := wsG_mem (List.mem_append_right _ (tm4 (List.mem_of_getElem? (i := 195) rfl))) rfl
theorem w_914 : (Jvm.Cond.instanceMethod ({ cls := "LeavesOfMud$Net", name := "groups", desc := "()I" } : Jvm.MethodName)) ∈ wsG := wsG_mem (List.mem_append_right _ (tm4 (List.mem_of_getElem? (i := 194) rfl))) rfl
theorem wp_63 : Cond.selects "LeavesOfMud$Net" ⟨"LeavesOfMud$Net", "groups", "()I"⟩ ⟨"LeavesOfMud$Net", "groups", "()I"⟩ ∈ wsG := wsG_mem (List.mem_append_left _ (List.mem_map_of_mem (f := fun q : MethodName × Nat => Cond.selects q.1.cls q.1 q.1) (List.mem_of_getElem? (i := 63) (rfl : lw_privs[63]? = some (⟨"LeavesOfMud$Net", "groups", "()I"⟩, _))))) rfl
theorem w_945 : (Jvm.Cond.code ({ cls := "LeavesOfMud$Net", name := "copyLevel", desc := "(I)V" } : Jvm.MethodName) prog_5_method_21_code (2 : Nat) (Option.none : Option Jvm.ClassFile.FieldType)) ∈ wsG := wsG_mem (List.mem_append_right _ (tm4 (List.mem_of_getElem? (i := 225) rfl))) rfl
theorem w_944 : (Jvm.Cond.instanceMethod ({ cls := "LeavesOfMud$Net", name := "copyLevel", desc := "(I)V" } : Jvm.MethodName)) ∈ wsG := wsG_mem (List.mem_append_right _ (tm4 (List.mem_of_getElem? (i := 224) rfl))) rfl
theorem wp_68 : Cond.selects "LeavesOfMud$Net" ⟨"LeavesOfMud$Net", "copyLevel", "(I)V"⟩ ⟨"LeavesOfMud$Net", "copyLevel", "(I)V"⟩ ∈ wsG := wsG_mem (List.mem_append_left _ (List.mem_map_of_mem (f := fun q : MethodName × Nat => Cond.selects q.1.cls q.1 q.1) (List.mem_of_getElem? (i := 68) (rfl : lw_privs[68]? = some (⟨"LeavesOfMud$Net", "copyLevel", "(I)V"⟩, _))))) rfl
theorem w_941 : (Jvm.Cond.code ({ cls := "LeavesOfMud$Net", name := "considerCast", desc := "(II)V" } : Jvm.MethodName) prog_5_method_22_code (5 : Nat) (Option.none : Option Jvm.ClassFile.FieldType)) ∈ wsG := wsG_mem (List.mem_append_right _ (tm4 (List.mem_of_getElem? (i := 221) rfl))) rfl
theorem w_940 : (Jvm.Cond.instanceMethod ({ cls := "LeavesOfMud$Net", name := "considerCast", desc := "(II)V" } : Jvm.MethodName)) ∈ wsG := wsG_mem (List.mem_append_right _ (tm4 (List.mem_of_getElem? (i := 220) rfl))) rfl
theorem wp_67 : Cond.selects "LeavesOfMud$Net" ⟨"LeavesOfMud$Net", "considerCast", "(II)V"⟩ ⟨"LeavesOfMud$Net", "considerCast", "(II)V"⟩ ∈ wsG := wsG_mem (List.mem_append_left _ (List.mem_map_of_mem (f := fun q : MethodName × Nat => Cond.selects q.1.cls q.1 q.1) (List.mem_of_getElem? (i := 67) (rfl : lw_privs[67]? = some (⟨"LeavesOfMud$Net", "considerCast", "(II)V"⟩, _))))) rfl
theorem w_984 : (Jvm.Cond.code ({ cls := "LeavesOfMud$Net", name := "mostIfApart", desc := "(IIIII)I" } : Jvm.MethodName) prog_5_method_29_code (8 : Nat) (Option.some Jvm.ClassFile.FieldType.int)) ∈ wsG := wsG_mem (List.mem_append_right _ (tm5 (List.mem_of_getElem? (i := 24) rfl))) rfl
theorem w_983 : (Jvm.Cond.instanceMethod ({ cls := "LeavesOfMud$Net", name := "mostIfApart", desc := "(IIIII)I" } : Jvm.MethodName)) ∈ wsG := wsG_mem (List.mem_append_right _ (tm5 (List.mem_of_getElem? (i := 23) rfl))) rfl
theorem wp_75 : Cond.selects "LeavesOfMud$Net" ⟨"LeavesOfMud$Net", "mostIfApart", "(IIIII)I"⟩ ⟨"LeavesOfMud$Net", "mostIfApart", "(IIIII)I"⟩ ∈ wsG := wsG_mem (List.mem_append_left _ (List.mem_map_of_mem (f := fun q : MethodName × Nat => Cond.selects q.1.cls q.1 q.1) (List.mem_of_getElem? (i := 75) (rfl : lw_privs[75]? = some (⟨"LeavesOfMud$Net", "mostIfApart", "(IIIII)I"⟩, _))))) rfl
theorem w_762 : (Jvm.Cond.code ({ cls := "LeavesOfMud$Pairing", name := "stepOfTheWay", desc := "(I)I" } : Jvm.MethodName) prog_7_method_7_code (2 : Nat) (Option.some Jvm.ClassFile.FieldType.int)) ∈ wsG := wsG_mem (List.mem_append_right _ (tm4 (List.mem_of_getElem? (i := 42) rfl))) rfl
theorem w_761 : (Jvm.Cond.instanceMethod ({ cls := "LeavesOfMud$Pairing", name := "stepOfTheWay", desc := "(I)I" } : Jvm.MethodName)) ∈ wsG := wsG_mem (List.mem_append_right _ (tm4 (List.mem_of_getElem? (i := 41) rfl))) rfl
theorem wp_41 : Cond.selects "LeavesOfMud$Pairing" ⟨"LeavesOfMud$Pairing", "stepOfTheWay", "(I)I"⟩ ⟨"LeavesOfMud$Pairing", "stepOfTheWay", "(I)I"⟩ ∈ wsG := wsG_mem (List.mem_append_left _ (List.mem_map_of_mem (f := fun q : MethodName × Nat => Cond.selects q.1.cls q.1 q.1) (List.mem_of_getElem? (i := 41) (rfl : lw_privs[41]? = some (⟨"LeavesOfMud$Pairing", "stepOfTheWay", "(I)I"⟩, _))))) rfl
theorem w_727 : (Jvm.Cond.code ({ cls := "LeavesOfMud$Pairing", name := "priceOfOneOnOne", desc := "(II)I" } : Jvm.MethodName) prog_7_method_13_code (4 : Nat) (Option.some Jvm.ClassFile.FieldType.int)) ∈ wsG := wsG_mem (List.mem_append_right _ (tm4 (List.mem_of_getElem? (i := 7) rfl))) rfl
theorem w_726 : (Jvm.Cond.instanceMethod ({ cls := "LeavesOfMud$Pairing", name := "priceOfOneOnOne", desc := "(II)I" } : Jvm.MethodName)) ∈ wsG := wsG_mem (List.mem_append_right _ (tm4 (List.mem_of_getElem? (i := 6) rfl))) rfl
theorem wp_35 : Cond.selects "LeavesOfMud$Pairing" ⟨"LeavesOfMud$Pairing", "priceOfOneOnOne", "(II)I"⟩ ⟨"LeavesOfMud$Pairing", "priceOfOneOnOne", "(II)I"⟩ ∈ wsG := wsG_mem (List.mem_append_left _ (List.mem_map_of_mem (f := fun q : MethodName × Nat => Cond.selects q.1.cls q.1 q.1) (List.mem_of_getElem? (i := 35) (rfl : lw_privs[35]? = some (⟨"LeavesOfMud$Pairing", "priceOfOneOnOne", "(II)I"⟩, _))))) rfl
theorem w_740 : (Jvm.Cond.code ({ cls := "LeavesOfMud$Pairing", name := "priceOfDoubled", desc := "(II)I" } : Jvm.MethodName) prog_7_method_14_code (3 : Nat) (Option.some Jvm.ClassFile.FieldType.int)) ∈ wsG := wsG_mem (List.mem_append_right _ (tm4 (List.mem_of_getElem? (i := 20) rfl))) rfl
theorem w_739 : (Jvm.Cond.instanceMethod ({ cls := "LeavesOfMud$Pairing", name := "priceOfDoubled", desc := "(II)I" } : Jvm.MethodName)) ∈ wsG := wsG_mem (List.mem_append_right _ (tm4 (List.mem_of_getElem? (i := 19) rfl))) rfl
theorem wp_36 : Cond.selects "LeavesOfMud$Pairing" ⟨"LeavesOfMud$Pairing", "priceOfDoubled", "(II)I"⟩ ⟨"LeavesOfMud$Pairing", "priceOfDoubled", "(II)I"⟩ ∈ wsG := wsG_mem (List.mem_append_left _ (List.mem_map_of_mem (f := fun q : MethodName × Nat => Cond.selects q.1.cls q.1 q.1) (List.mem_of_getElem? (i := 36) (rfl : lw_privs[36]? = some (⟨"LeavesOfMud$Pairing", "priceOfDoubled", "(II)I"⟩, _))))) rfl
theorem w_386 : (Jvm.Cond.code ({ cls := "LeavesOfMud$Pits", name := "hasLeaf", desc := "(II)Z" } : Jvm.MethodName) prog_8_method_3_code (3 : Nat) (Option.some Jvm.ClassFile.FieldType.boolean)) ∈ wsG := wsG_mem (List.mem_append_right _ (tm2 (List.mem_of_getElem? (i := 146) rfl))) rfl
theorem w_385 : (Jvm.Cond.instanceMethod ({ cls := "LeavesOfMud$Pits", name := "hasLeaf", desc := "(II)Z" } : Jvm.MethodName)) ∈ wsG := wsG_mem (List.mem_append_right _ (tm2 (List.mem_of_getElem? (i := 145) rfl))) rfl
theorem wp_4 : Cond.selects "LeavesOfMud$Pits" ⟨"LeavesOfMud$Pits", "hasLeaf", "(II)Z"⟩ ⟨"LeavesOfMud$Pits", "hasLeaf", "(II)Z"⟩ ∈ wsG := wsG_mem (List.mem_append_left _ (List.mem_map_of_mem (f := fun q : MethodName × Nat => Cond.selects q.1.cls q.1 q.1) (List.mem_of_getElem? (i := 4) (rfl : lw_privs[4]? = some (⟨"LeavesOfMud$Pits", "hasLeaf", "(II)Z"⟩, _))))) rfl
theorem w_374 : (Jvm.Cond.code ({ cls := "LeavesOfMud$Pits", name := "push", desc := "(IIII)V" } : Jvm.MethodName) prog_8_method_5_code (6 : Nat) (Option.none : Option Jvm.ClassFile.FieldType)) ∈ wsG := wsG_mem (List.mem_append_right _ (tm2 (List.mem_of_getElem? (i := 134) rfl))) rfl
theorem w_373 : (Jvm.Cond.instanceMethod ({ cls := "LeavesOfMud$Pits", name := "push", desc := "(IIII)V" } : Jvm.MethodName)) ∈ wsG := wsG_mem (List.mem_append_right _ (tm2 (List.mem_of_getElem? (i := 133) rfl))) rfl
theorem wp_2 : Cond.selects "LeavesOfMud$Pits" ⟨"LeavesOfMud$Pits", "push", "(IIII)V"⟩ ⟨"LeavesOfMud$Pits", "push", "(IIII)V"⟩ ∈ wsG := wsG_mem (List.mem_append_left _ (List.mem_map_of_mem (f := fun q : MethodName × Nat => Cond.selects q.1.cls q.1 q.1) (List.mem_of_getElem? (i := 2) (rfl : lw_privs[2]? = some (⟨"LeavesOfMud$Pits", "push", "(IIII)V"⟩, _))))) rfl
theorem w_648 : (Jvm.Cond.code ({ cls := "LeavesOfMud$Pits", name := "isAsh", desc := "(II)Z" } : Jvm.MethodName) prog_8_method_10_code (3 : Nat) (Option.some Jvm.ClassFile.FieldType.boolean)) ∈ wsG := wsG_mem (List.mem_append_right _ (tm3 (List.mem_of_getElem? (i := 168) rfl))) rfl
theorem w_647 : (Jvm.Cond.instanceMethod ({ cls := "LeavesOfMud$Pits", name := "isAsh", desc := "(II)Z" } : Jvm.MethodName)) ∈ wsG := wsG_mem (List.mem_append_right _ (tm3 (List.mem_of_getElem? (i := 167) rfl))) rfl
theorem wp_23 : Cond.selects "LeavesOfMud$Pits" ⟨"LeavesOfMud$Pits", "isAsh", "(II)Z"⟩ ⟨"LeavesOfMud$Pits", "isAsh", "(II)Z"⟩ ∈ wsG := wsG_mem (List.mem_append_left _ (List.mem_map_of_mem (f := fun q : MethodName × Nat => Cond.selects q.1.cls q.1 q.1) (List.mem_of_getElem? (i := 23) (rfl : lw_privs[23]? = some (⟨"LeavesOfMud$Pits", "isAsh", "(II)Z"⟩, _))))) rfl
theorem w_434 : (Jvm.Cond.code ({ cls := "LeavesOfMud$Pits", name := "stepBetween", desc := "(III)I" } : Jvm.MethodName) prog_8_method_11_code (4 : Nat) (Option.some Jvm.ClassFile.FieldType.int)) ∈ wsG := wsG_mem (List.mem_append_right _ (tm2 (List.mem_of_getElem? (i := 194) rfl))) rfl
theorem w_433 : (Jvm.Cond.instanceMethod ({ cls := "LeavesOfMud$Pits", name := "stepBetween", desc := "(III)I" } : Jvm.MethodName)) ∈ wsG := wsG_mem (List.mem_append_right _ (tm2 (List.mem_of_getElem? (i := 193) rfl))) rfl
theorem wp_13 : Cond.selects "LeavesOfMud$Pits" ⟨"LeavesOfMud$Pits", "stepBetween", "(III)I"⟩ ⟨"LeavesOfMud$Pits", "stepBetween", "(III)I"⟩ ∈ wsG := wsG_mem (List.mem_append_left _ (List.mem_map_of_mem (f := fun q : MethodName × Nat => Cond.selects q.1.cls q.1 q.1) (List.mem_of_getElem? (i := 13) (rfl : lw_privs[13]? = some (⟨"LeavesOfMud$Pits", "stepBetween", "(III)I"⟩, _))))) rfl
theorem w_1024 : (Jvm.Cond.code ({ cls := "LeavesOfMud$Pits", name := "hasFloodBetween", desc := "(III)Z" } : Jvm.MethodName) prog_8_method_16_code (5 : Nat) (Option.some Jvm.ClassFile.FieldType.boolean)) ∈ wsG := wsG_mem (List.mem_append_right _ (tm5 (List.mem_of_getElem? (i := 64) rfl))) rfl
theorem w_1023 : (Jvm.Cond.instanceMethod ({ cls := "LeavesOfMud$Pits", name := "hasFloodBetween", desc := "(III)Z" } : Jvm.MethodName)) ∈ wsG := wsG_mem (List.mem_append_right _ (tm5 (List.mem_of_getElem? (i := 63) rfl))) rfl
theorem wp_81 : Cond.selects "LeavesOfMud$Pits" ⟨"LeavesOfMud$Pits", "hasFloodBetween", "(III)Z"⟩ ⟨"LeavesOfMud$Pits", "hasFloodBetween", "(III)Z"⟩ ∈ wsG := wsG_mem (List.mem_append_left _ (List.mem_map_of_mem (f := fun q : MethodName × Nat => Cond.selects q.1.cls q.1 q.1) (List.mem_of_getElem? (i := 81) (rfl : lw_privs[81]? = some (⟨"LeavesOfMud$Pits", "hasFloodBetween", "(III)Z"⟩, _))))) rfl
theorem w_1032 : (Jvm.Cond.code ({ cls := "LeavesOfMud$Pits", name := "copyFrom", desc := "(LLeavesOfMud$Pits;)V" } : Jvm.MethodName) prog_8_method_18_code (2 : Nat) (Option.none : Option Jvm.ClassFile.FieldType)) ∈ wsG := wsG_mem (List.mem_append_right _ (tm5 (List.mem_of_getElem? (i := 72) rfl))) rfl
theorem w_1031 : (Jvm.Cond.instanceMethod ({ cls := "LeavesOfMud$Pits", name := "copyFrom", desc := "(LLeavesOfMud$Pits;)V" } : Jvm.MethodName)) ∈ wsG := wsG_mem (List.mem_append_right _ (tm5 (List.mem_of_getElem? (i := 71) rfl))) rfl
theorem wp_82 : Cond.selects "LeavesOfMud$Pits" ⟨"LeavesOfMud$Pits", "copyFrom", "(LLeavesOfMud$Pits;)V"⟩ ⟨"LeavesOfMud$Pits", "copyFrom", "(LLeavesOfMud$Pits;)V"⟩ ∈ wsG := wsG_mem (List.mem_append_left _ (List.mem_map_of_mem (f := fun q : MethodName × Nat => Cond.selects q.1.cls q.1 q.1) (List.mem_of_getElem? (i := 82) (rfl : lw_privs[82]? = some (⟨"LeavesOfMud$Pits", "copyFrom", "(LLeavesOfMud$Pits;)V"⟩, _))))) rfl
theorem w_633 : (Jvm.Cond.code ({ cls := "LeavesOfMud$Slides", name := "overOf", desc := "(III)I" } : Jvm.MethodName) prog_9_method_2_code (6 : Nat) (Option.some Jvm.ClassFile.FieldType.int)) ∈ wsG := wsG_mem (List.mem_append_right _ (tm3 (List.mem_of_getElem? (i := 153) rfl))) rfl
theorem w_632 : (Jvm.Cond.instanceMethod ({ cls := "LeavesOfMud$Slides", name := "overOf", desc := "(III)I" } : Jvm.MethodName)) ∈ wsG := wsG_mem (List.mem_append_right _ (tm3 (List.mem_of_getElem? (i := 152) rfl))) rfl
theorem wp_21 : Cond.selects "LeavesOfMud$Slides" ⟨"LeavesOfMud$Slides", "overOf", "(III)I"⟩ ⟨"LeavesOfMud$Slides", "overOf", "(III)I"⟩ ∈ wsG := wsG_mem (List.mem_append_left _ (List.mem_map_of_mem (f := fun q : MethodName × Nat => Cond.selects q.1.cls q.1 q.1) (List.mem_of_getElem? (i := 21) (rfl : lw_privs[21]? = some (⟨"LeavesOfMud$Slides", "overOf", "(III)I"⟩, _))))) rfl
theorem w_352 : (Jvm.Cond.code ({ cls := "LeavesOfMud", name := "pit", desc := "(I)I" } : Jvm.MethodName) prog_1_method_2_code (2 : Nat) (Option.some Jvm.ClassFile.FieldType.int)) ∈ wsG := wsG_mem (List.mem_append_right _ (tm2 (List.mem_of_getElem? (i := 112) rfl))) rfl
theorem w_350 : (Jvm.Cond.instanceMethod ({ cls := "LeavesOfMud", name := "pit", desc := "(I)I" } : Jvm.MethodName)) ∈ wsG := wsG_mem (List.mem_append_right _ (tm2 (List.mem_of_getElem? (i := 110) rfl))) rfl
theorem w_351 : (Jvm.Cond.selects "LeavesOfMud" ({ cls := "LeavesOfMud", name := "pit", desc := "(I)I" } : Jvm.MethodName) ({ cls := "LeavesOfMud", name := "pit", desc := "(I)I" } : Jvm.MethodName)) ∈ wsG := wsG_mem (List.mem_append_right _ (tm2 (List.mem_of_getElem? (i := 111) rfl))) rfl
theorem w_794 : (Jvm.Cond.code ({ cls := "LeavesOfMud", name := "keep", desc := "(IZ)I" } : Jvm.MethodName) prog_1_method_24_code (4 : Nat) (Option.some Jvm.ClassFile.FieldType.int)) ∈ wsG := wsG_mem (List.mem_append_right _ (tm4 (List.mem_of_getElem? (i := 74) rfl))) rfl
theorem w_792 : (Jvm.Cond.instanceMethod ({ cls := "LeavesOfMud", name := "keep", desc := "(IZ)I" } : Jvm.MethodName)) ∈ wsG := wsG_mem (List.mem_append_right _ (tm4 (List.mem_of_getElem? (i := 72) rfl))) rfl
theorem w_793 : (Jvm.Cond.selects "LeavesOfMud" ({ cls := "LeavesOfMud", name := "keep", desc := "(IZ)I" } : Jvm.MethodName) ({ cls := "LeavesOfMud", name := "keep", desc := "(IZ)I" } : Jvm.MethodName)) ∈ wsG := wsG_mem (List.mem_append_right _ (tm4 (List.mem_of_getElem? (i := 73) rfl))) rfl
theorem w_816 : (Jvm.Cond.code ({ cls := "LeavesOfMud", name := "untie", desc := "(I)I" } : Jvm.MethodName) prog_1_method_26_code (3 : Nat) (Option.some Jvm.ClassFile.FieldType.int)) ∈ wsG := wsG_mem (List.mem_append_right _ (tm4 (List.mem_of_getElem? (i := 96) rfl))) rfl
theorem w_814 : (Jvm.Cond.instanceMethod ({ cls := "LeavesOfMud", name := "untie", desc := "(I)I" } : Jvm.MethodName)) ∈ wsG := wsG_mem (List.mem_append_right _ (tm4 (List.mem_of_getElem? (i := 94) rfl))) rfl
theorem w_815 : (Jvm.Cond.selects "LeavesOfMud" ({ cls := "LeavesOfMud", name := "untie", desc := "(I)I" } : Jvm.MethodName) ({ cls := "LeavesOfMud", name := "untie", desc := "(I)I" } : Jvm.MethodName)) ∈ wsG := wsG_mem (List.mem_append_right _ (tm4 (List.mem_of_getElem? (i := 95) rfl))) rfl
theorem w_824 : (Jvm.Cond.code ({ cls := "LeavesOfMud", name := "ashes", desc := "(Z)I" } : Jvm.MethodName) prog_1_method_27_code (3 : Nat) (Option.some Jvm.ClassFile.FieldType.int)) ∈ wsG := wsG_mem (List.mem_append_right _ (tm4 (List.mem_of_getElem? (i := 104) rfl))) rfl
theorem w_822 : (Jvm.Cond.instanceMethod ({ cls := "LeavesOfMud", name := "ashes", desc := "(Z)I" } : Jvm.MethodName)) ∈ wsG := wsG_mem (List.mem_append_right _ (tm4 (List.mem_of_getElem? (i := 102) rfl))) rfl
theorem w_823 : (Jvm.Cond.selects "LeavesOfMud" ({ cls := "LeavesOfMud", name := "ashes", desc := "(Z)I" } : Jvm.MethodName) ({ cls := "LeavesOfMud", name := "ashes", desc := "(Z)I" } : Jvm.MethodName)) ∈ wsG := wsG_mem (List.mem_append_right _ (tm4 (List.mem_of_getElem? (i := 103) rfl))) rfl
theorem w_1046 : (Jvm.Cond.code ({ cls := "LeavesOfMud", name := "count", desc := "(I)I" } : Jvm.MethodName) prog_1_method_39_code (2 : Nat) (Option.some Jvm.ClassFile.FieldType.int)) ∈ wsG := wsG_mem (List.mem_append_right _ (tm5 (List.mem_of_getElem? (i := 86) rfl))) rfl
theorem w_1044 : (Jvm.Cond.instanceMethod ({ cls := "LeavesOfMud", name := "count", desc := "(I)I" } : Jvm.MethodName)) ∈ wsG := wsG_mem (List.mem_append_right _ (tm5 (List.mem_of_getElem? (i := 84) rfl))) rfl
theorem w_1045 : (Jvm.Cond.selects "LeavesOfMud" ({ cls := "LeavesOfMud", name := "count", desc := "(I)I" } : Jvm.MethodName) ({ cls := "LeavesOfMud", name := "count", desc := "(I)I" } : Jvm.MethodName)) ∈ wsG := wsG_mem (List.mem_append_right _ (tm5 (List.mem_of_getElem? (i := 85) rfl))) rfl
theorem w_782 : (Jvm.Cond.code ({ cls := "LeavesOfMud", name := "isRange", desc := "(III)Z" } : Jvm.MethodName) prog_1_method_42_code (3 : Nat) (Option.some Jvm.ClassFile.FieldType.boolean)) ∈ wsG := wsG_mem (List.mem_append_right _ (tm4 (List.mem_of_getElem? (i := 62) rfl))) rfl
theorem w_781 : (Jvm.Cond.static ({ cls := "LeavesOfMud", name := "isRange", desc := "(III)Z" } : Jvm.MethodName)) ∈ wsG := wsG_mem (List.mem_append_right _ (tm4 (List.mem_of_getElem? (i := 61) rfl))) rfl
theorem w_628 : (Jvm.Cond.code ({ cls := "LeavesOfMud", name := "isSlide", desc := "(I)Z" } : Jvm.MethodName) prog_1_method_43_code (1 : Nat) (Option.some Jvm.ClassFile.FieldType.boolean)) ∈ wsG := wsG_mem (List.mem_append_right _ (tm3 (List.mem_of_getElem? (i := 148) rfl))) rfl
theorem w_627 : (Jvm.Cond.static ({ cls := "LeavesOfMud", name := "isSlide", desc := "(I)Z" } : Jvm.MethodName)) ∈ wsG := wsG_mem (List.mem_append_right _ (tm3 (List.mem_of_getElem? (i := 147) rfl))) rfl
theorem w_370 : (Jvm.Cond.code ({ cls := "LeavesOfMud", name := "isLeafAsTold", desc := "(III)Z" } : Jvm.MethodName) prog_1_method_44_code (3 : Nat) (Option.some Jvm.ClassFile.FieldType.boolean)) ∈ wsG := wsG_mem (List.mem_append_right _ (tm2 (List.mem_of_getElem? (i := 130) rfl))) rfl
theorem w_369 : (Jvm.Cond.static ({ cls := "LeavesOfMud", name := "isLeafAsTold", desc := "(III)Z" } : Jvm.MethodName)) ∈ wsG := wsG_mem (List.mem_append_right _ (tm2 (List.mem_of_getElem? (i := 129) rfl))) rfl
theorem w_464 : (Jvm.Cond.code ({ cls := "LeavesOfMud", name := "lettersIn", desc := "(J)I" } : Jvm.MethodName) prog_1_method_51_code (5 : Nat) (Option.some Jvm.ClassFile.FieldType.int)) ∈ wsG := wsG_mem (List.mem_append_right _ (tm2 (List.mem_of_getElem? (i := 224) rfl))) rfl
theorem w_463 : (Jvm.Cond.static ({ cls := "LeavesOfMud", name := "lettersIn", desc := "(J)I" } : Jvm.MethodName)) ∈ wsG := wsG_mem (List.mem_append_right _ (tm2 (List.mem_of_getElem? (i := 223) rfl))) rfl
theorem w_883 : (Jvm.Cond.code ({ cls := "LeavesOfMud", name := "spanTold", desc := "(III)I" } : Jvm.MethodName) prog_1_method_55_code (4 : Nat) (Option.some Jvm.ClassFile.FieldType.int)) ∈ wsG := wsG_mem (List.mem_append_right _ (tm4 (List.mem_of_getElem? (i := 163) rfl))) rfl
theorem w_882 : (Jvm.Cond.instanceMethod ({ cls := "LeavesOfMud", name := "spanTold", desc := "(III)I" } : Jvm.MethodName)) ∈ wsG := wsG_mem (List.mem_append_right _ (tm4 (List.mem_of_getElem? (i := 162) rfl))) rfl
theorem wp_57 : Cond.selects "LeavesOfMud" ⟨"LeavesOfMud", "spanTold", "(III)I"⟩ ⟨"LeavesOfMud", "spanTold", "(III)I"⟩ ∈ wsG := wsG_mem (List.mem_append_left _ (List.mem_map_of_mem (f := fun q : MethodName × Nat => Cond.selects q.1.cls q.1 q.1) (List.mem_of_getElem? (i := 57) (rfl : lw_privs[57]? = some (⟨"LeavesOfMud", "spanTold", "(III)I"⟩, _))))) rfl
theorem w_1270 : (Jvm.Cond.code ({ cls := "LeavesOfMudModel", name := "isPit", desc := "(I)Z" } : Jvm.MethodName) prog_11_method_4_code (2 : Nat) (Option.some Jvm.ClassFile.FieldType.boolean)) ∈ wsG := wsG_mem (List.mem_append_right _ (tm6 (List.mem_of_getElem? (i := 70) rfl))) rfl
theorem w_1269 : (Jvm.Cond.instanceMethod ({ cls := "LeavesOfMudModel", name := "isPit", desc := "(I)Z" } : Jvm.MethodName)) ∈ wsG := wsG_mem (List.mem_append_right _ (tm6 (List.mem_of_getElem? (i := 69) rfl))) rfl
theorem wp_89 : Cond.selects "LeavesOfMudModel" ⟨"LeavesOfMudModel", "isPit", "(I)Z"⟩ ⟨"LeavesOfMudModel", "isPit", "(I)Z"⟩ ∈ wsG := wsG_mem (List.mem_append_left _ (List.mem_map_of_mem (f := fun q : MethodName × Nat => Cond.selects q.1.cls q.1 q.1) (List.mem_of_getElem? (i := 89) (rfl : lw_privs[89]? = some (⟨"LeavesOfMudModel", "isPit", "(I)Z"⟩, _))))) rfl
theorem w_1258 : (Jvm.Cond.code ({ cls := "LeavesOfMudModel", name := "pit", desc := "(I)I" } : Jvm.MethodName) prog_11_method_6_code (2 : Nat) (Option.some Jvm.ClassFile.FieldType.int)) ∈ wsG := wsG_mem (List.mem_append_right _ (tm6 (List.mem_of_getElem? (i := 58) rfl))) rfl
theorem w_1256 : (Jvm.Cond.instanceMethod ({ cls := "LeavesOfMudModel", name := "pit", desc := "(I)I" } : Jvm.MethodName)) ∈ wsG := wsG_mem (List.mem_append_right _ (tm6 (List.mem_of_getElem? (i := 56) rfl))) rfl
theorem w_1257 : (Jvm.Cond.selects "LeavesOfMudModel" ({ cls := "LeavesOfMudModel", name := "pit", desc := "(I)I" } : Jvm.MethodName) ({ cls := "LeavesOfMudModel", name := "pit", desc := "(I)I" } : Jvm.MethodName)) ∈ wsG := wsG_mem (List.mem_append_right _ (tm6 (List.mem_of_getElem? (i := 57) rfl))) rfl
theorem w_1273 : (Jvm.Cond.code ({ cls := "LeavesOfMudModel", name := "isLeafTold", desc := "(III)Z" } : Jvm.MethodName) prog_11_method_7_code (3 : Nat) (Option.some Jvm.ClassFile.FieldType.boolean)) ∈ wsG := wsG_mem (List.mem_append_right _ (tm6 (List.mem_of_getElem? (i := 73) rfl))) rfl
theorem w_1272 : (Jvm.Cond.static ({ cls := "LeavesOfMudModel", name := "isLeafTold", desc := "(III)Z" } : Jvm.MethodName)) ∈ wsG := wsG_mem (List.mem_append_right _ (tm6 (List.mem_of_getElem? (i := 72) rfl))) rfl
theorem w_1310 : (Jvm.Cond.code ({ cls := "LeavesOfMudModel", name := "stepOf", desc := "(II)I" } : Jvm.MethodName) prog_11_method_12_code (3 : Nat) (Option.some Jvm.ClassFile.FieldType.int)) ∈ wsG := wsG_mem (List.mem_append_right _ (tm6 (List.mem_of_getElem? (i := 110) rfl))) rfl
theorem w_1309 : (Jvm.Cond.instanceMethod ({ cls := "LeavesOfMudModel", name := "stepOf", desc := "(II)I" } : Jvm.MethodName)) ∈ wsG := wsG_mem (List.mem_append_right _ (tm6 (List.mem_of_getElem? (i := 109) rfl))) rfl
theorem wp_95 : Cond.selects "LeavesOfMudModel" ⟨"LeavesOfMudModel", "stepOf", "(II)I"⟩ ⟨"LeavesOfMudModel", "stepOf", "(II)I"⟩ ∈ wsG := wsG_mem (List.mem_append_left _ (List.mem_map_of_mem (f := fun q : MethodName × Nat => Cond.selects q.1.cls q.1 q.1) (List.mem_of_getElem? (i := 95) (rfl : lw_privs[95]? = some (⟨"LeavesOfMudModel", "stepOf", "(II)I"⟩, _))))) rfl
theorem w_1334 : (Jvm.Cond.code ({ cls := "LeavesOfMudModel", name := "layOne", desc := "(III)V" } : Jvm.MethodName) prog_11_method_16_code (4 : Nat) (Option.none : Option Jvm.ClassFile.FieldType)) ∈ wsG := wsG_mem (List.mem_append_right _ (tm6 (List.mem_of_getElem? (i := 134) rfl))) rfl
theorem w_1333 : (Jvm.Cond.instanceMethod ({ cls := "LeavesOfMudModel", name := "layOne", desc := "(III)V" } : Jvm.MethodName)) ∈ wsG := wsG_mem (List.mem_append_right _ (tm6 (List.mem_of_getElem? (i := 133) rfl))) rfl
theorem wp_97 : Cond.selects "LeavesOfMudModel" ⟨"LeavesOfMudModel", "layOne", "(III)V"⟩ ⟨"LeavesOfMudModel", "layOne", "(III)V"⟩ ∈ wsG := wsG_mem (List.mem_append_left _ (List.mem_map_of_mem (f := fun q : MethodName × Nat => Cond.selects q.1.cls q.1 q.1) (List.mem_of_getElem? (i := 97) (rfl : lw_privs[97]? = some (⟨"LeavesOfMudModel", "layOne", "(III)V"⟩, _))))) rfl
theorem w_1355 : (Jvm.Cond.code ({ cls := "LeavesOfMudModel", name := "go", desc := "(II)Z" } : Jvm.MethodName) prog_11_method_22_code (3 : Nat) (Option.some Jvm.ClassFile.FieldType.boolean)) ∈ wsG := wsG_mem (List.mem_append_right _ (tm6 (List.mem_of_getElem? (i := 155) rfl))) rfl
theorem w_1354 : (Jvm.Cond.instanceMethod ({ cls := "LeavesOfMudModel", name := "go", desc := "(II)Z" } : Jvm.MethodName)) ∈ wsG := wsG_mem (List.mem_append_right _ (tm6 (List.mem_of_getElem? (i := 154) rfl))) rfl
theorem wp_99 : Cond.selects "LeavesOfMudModel" ⟨"LeavesOfMudModel", "go", "(II)Z"⟩ ⟨"LeavesOfMudModel", "go", "(II)Z"⟩ ∈ wsG := wsG_mem (List.mem_append_left _ (List.mem_map_of_mem (f := fun q : MethodName × Nat => Cond.selects q.1.cls q.1 q.1) (List.mem_of_getElem? (i := 99) (rfl : lw_privs[99]? = some (⟨"LeavesOfMudModel", "go", "(II)Z"⟩, _))))) rfl
theorem w_1379 : (Jvm.Cond.code ({ cls := "LeavesOfMudModel", name := "isHand", desc := "(I)Z" } : Jvm.MethodName) prog_11_method_27_code (2 : Nat) (Option.some Jvm.ClassFile.FieldType.boolean)) ∈ wsG := wsG_mem (List.mem_append_right _ (tm6 (List.mem_of_getElem? (i := 179) rfl))) rfl
theorem w_1378 : (Jvm.Cond.instanceMethod ({ cls := "LeavesOfMudModel", name := "isHand", desc := "(I)Z" } : Jvm.MethodName)) ∈ wsG := wsG_mem (List.mem_append_right _ (tm6 (List.mem_of_getElem? (i := 178) rfl))) rfl
theorem wp_100 : Cond.selects "LeavesOfMudModel" ⟨"LeavesOfMudModel", "isHand", "(I)Z"⟩ ⟨"LeavesOfMudModel", "isHand", "(I)Z"⟩ ∈ wsG := wsG_mem (List.mem_append_left _ (List.mem_map_of_mem (f := fun q : MethodName × Nat => Cond.selects q.1.cls q.1 q.1) (List.mem_of_getElem? (i := 100) (rfl : lw_privs[100]? = some (⟨"LeavesOfMudModel", "isHand", "(I)Z"⟩, _))))) rfl
theorem w_1302 : (Jvm.Cond.code ({ cls := "LeavesOfMudModel", name := "halvesAhead", desc := "(III)I" } : Jvm.MethodName) prog_11_method_29_code (6 : Nat) (Option.some Jvm.ClassFile.FieldType.int)) ∈ wsG := wsG_mem (List.mem_append_right _ (tm6 (List.mem_of_getElem? (i := 102) rfl))) rfl
theorem w_1301 : (Jvm.Cond.instanceMethod ({ cls := "LeavesOfMudModel", name := "halvesAhead", desc := "(III)I" } : Jvm.MethodName)) ∈ wsG := wsG_mem (List.mem_append_right _ (tm6 (List.mem_of_getElem? (i := 101) rfl))) rfl
theorem wp_93 : Cond.selects "LeavesOfMudModel" ⟨"LeavesOfMudModel", "halvesAhead", "(III)I"⟩ ⟨"LeavesOfMudModel", "halvesAhead", "(III)I"⟩ ∈ wsG := wsG_mem (List.mem_append_left _ (List.mem_map_of_mem (f := fun q : MethodName × Nat => Cond.selects q.1.cls q.1 q.1) (List.mem_of_getElem? (i := 93) (rfl : lw_privs[93]? = some (⟨"LeavesOfMudModel", "halvesAhead", "(III)I"⟩, _))))) rfl
theorem w_1400 : (Jvm.Cond.code ({ cls := "LeavesOfMudModel", name := "isSlide", desc := "(I)Z" } : Jvm.MethodName) prog_11_method_35_code (1 : Nat) (Option.some Jvm.ClassFile.FieldType.boolean)) ∈ wsG := wsG_mem (List.mem_append_right _ (tm6 (List.mem_of_getElem? (i := 200) rfl))) rfl
theorem w_1399 : (Jvm.Cond.static ({ cls := "LeavesOfMudModel", name := "isSlide", desc := "(I)Z" } : Jvm.MethodName)) ∈ wsG := wsG_mem (List.mem_append_right _ (tm6 (List.mem_of_getElem? (i := 199) rfl))) rfl
theorem w_1407 : (Jvm.Cond.code ({ cls := "LeavesOfMudModel", name := "overOf", desc := "(III)I" } : Jvm.MethodName) prog_11_method_36_code (6 : Nat) (Option.some Jvm.ClassFile.FieldType.int)) ∈ wsG := wsG_mem (List.mem_append_right _ (tm6 (List.mem_of_getElem? (i := 207) rfl))) rfl
theorem w_1406 : (Jvm.Cond.instanceMethod ({ cls := "LeavesOfMudModel", name := "overOf", desc := "(III)I" } : Jvm.MethodName)) ∈ wsG := wsG_mem (List.mem_append_right _ (tm6 (List.mem_of_getElem? (i := 206) rfl))) rfl
theorem wp_102 : Cond.selects "LeavesOfMudModel" ⟨"LeavesOfMudModel", "overOf", "(III)I"⟩ ⟨"LeavesOfMudModel", "overOf", "(III)I"⟩ ∈ wsG := wsG_mem (List.mem_append_left _ (List.mem_map_of_mem (f := fun q : MethodName × Nat => Cond.selects q.1.cls q.1 q.1) (List.mem_of_getElem? (i := 102) (rfl : lw_privs[102]? = some (⟨"LeavesOfMudModel", "overOf", "(III)I"⟩, _))))) rfl
theorem w_1435 : (Jvm.Cond.code ({ cls := "LeavesOfMudModel", name := "term", desc := "(III)I" } : Jvm.MethodName) prog_11_method_43_code (4 : Nat) (Option.some Jvm.ClassFile.FieldType.int)) ∈ wsG := wsG_mem (List.mem_append_right _ (tm6 (List.mem_of_getElem? (i := 235) rfl))) rfl
theorem w_1434 : (Jvm.Cond.static ({ cls := "LeavesOfMudModel", name := "term", desc := "(III)I" } : Jvm.MethodName)) ∈ wsG := wsG_mem (List.mem_append_right _ (tm6 (List.mem_of_getElem? (i := 234) rfl))) rfl
theorem w_1432 : (Jvm.Cond.code ({ cls := "LeavesOfMudModel", name := "isPart", desc := "(I)Z" } : Jvm.MethodName) prog_11_method_44_code (1 : Nat) (Option.some Jvm.ClassFile.FieldType.boolean)) ∈ wsG := wsG_mem (List.mem_append_right _ (tm6 (List.mem_of_getElem? (i := 232) rfl))) rfl
theorem w_1431 : (Jvm.Cond.static ({ cls := "LeavesOfMudModel", name := "isPart", desc := "(I)Z" } : Jvm.MethodName)) ∈ wsG := wsG_mem (List.mem_append_right _ (tm6 (List.mem_of_getElem? (i := 231) rfl))) rfl
theorem w_1457 : (Jvm.Cond.code ({ cls := "LeavesOfMudModel", name := "price", desc := "(III)I" } : Jvm.MethodName) prog_11_method_49_code (7 : Nat) (Option.some Jvm.ClassFile.FieldType.int)) ∈ wsG := wsG_mem (List.mem_append_right _ (tm7 (List.mem_of_getElem? (i := 17) rfl))) rfl
theorem w_1456 : (Jvm.Cond.instanceMethod ({ cls := "LeavesOfMudModel", name := "price", desc := "(III)I" } : Jvm.MethodName)) ∈ wsG := wsG_mem (List.mem_append_right _ (tm7 (List.mem_of_getElem? (i := 16) rfl))) rfl
theorem wp_107 : Cond.selects "LeavesOfMudModel" ⟨"LeavesOfMudModel", "price", "(III)I"⟩ ⟨"LeavesOfMudModel", "price", "(III)I"⟩ ∈ wsG := wsG_mem (List.mem_append_left _ (List.mem_map_of_mem (f := fun q : MethodName × Nat => Cond.selects q.1.cls q.1 q.1) (List.mem_of_getElem? (i := 107) (rfl : lw_privs[107]? = some (⟨"LeavesOfMudModel", "price", "(III)I"⟩, _))))) rfl
theorem w_1474 : (Jvm.Cond.code ({ cls := "LeavesOfMudModel", name := "behind", desc := "(III)I" } : Jvm.MethodName) prog_11_method_50_code (4 : Nat) (Option.some Jvm.ClassFile.FieldType.int)) ∈ wsG := wsG_mem (List.mem_append_right _ (tm7 (List.mem_of_getElem? (i := 34) rfl))) rfl
theorem w_1473 : (Jvm.Cond.instanceMethod ({ cls := "LeavesOfMudModel", name := "behind", desc := "(III)I" } : Jvm.MethodName)) ∈ wsG := wsG_mem (List.mem_append_right _ (tm7 (List.mem_of_getElem? (i := 33) rfl))) rfl
theorem wp_109 : Cond.selects "LeavesOfMudModel" ⟨"LeavesOfMudModel", "behind", "(III)I"⟩ ⟨"LeavesOfMudModel", "behind", "(III)I"⟩ ∈ wsG := wsG_mem (List.mem_append_left _ (List.mem_map_of_mem (f := fun q : MethodName × Nat => Cond.selects q.1.cls q.1 q.1) (List.mem_of_getElem? (i := 109) (rfl : lw_privs[109]? = some (⟨"LeavesOfMudModel", "behind", "(III)I"⟩, _))))) rfl
theorem w_1446 : (Jvm.Cond.code ({ cls := "LeavesOfMudModel", name := "isLaw", desc := "(I)Z" } : Jvm.MethodName) prog_11_method_53_code (2 : Nat) (Option.some Jvm.ClassFile.FieldType.boolean)) ∈ wsG := wsG_mem (List.mem_append_right _ (tm7 (List.mem_of_getElem? (i := 6) rfl))) rfl
theorem w_1445 : (Jvm.Cond.instanceMethod ({ cls := "LeavesOfMudModel", name := "isLaw", desc := "(I)Z" } : Jvm.MethodName)) ∈ wsG := wsG_mem (List.mem_append_right _ (tm7 (List.mem_of_getElem? (i := 5) rfl))) rfl
theorem wp_105 : Cond.selects "LeavesOfMudModel" ⟨"LeavesOfMudModel", "isLaw", "(I)Z"⟩ ⟨"LeavesOfMudModel", "isLaw", "(I)Z"⟩ ∈ wsG := wsG_mem (List.mem_append_left _ (List.mem_map_of_mem (f := fun q : MethodName × Nat => Cond.selects q.1.cls q.1 q.1) (List.mem_of_getElem? (i := 105) (rfl : lw_privs[105]? = some (⟨"LeavesOfMudModel", "isLaw", "(I)Z"⟩, _))))) rfl
theorem w_1498 : (Jvm.Cond.code ({ cls := "LeavesOfMudModel", name := "keep", desc := "(IZ)I" } : Jvm.MethodName) prog_11_method_58_code (4 : Nat) (Option.some Jvm.ClassFile.FieldType.int)) ∈ wsG := wsG_mem (List.mem_append_right _ (tm7 (List.mem_of_getElem? (i := 58) rfl))) rfl
theorem w_1496 : (Jvm.Cond.instanceMethod ({ cls := "LeavesOfMudModel", name := "keep", desc := "(IZ)I" } : Jvm.MethodName)) ∈ wsG := wsG_mem (List.mem_append_right _ (tm7 (List.mem_of_getElem? (i := 56) rfl))) rfl
theorem w_1497 : (Jvm.Cond.selects "LeavesOfMudModel" ({ cls := "LeavesOfMudModel", name := "keep", desc := "(IZ)I" } : Jvm.MethodName) ({ cls := "LeavesOfMudModel", name := "keep", desc := "(IZ)I" } : Jvm.MethodName)) ∈ wsG := wsG_mem (List.mem_append_right _ (tm7 (List.mem_of_getElem? (i := 57) rfl))) rfl
theorem w_1588 : (Jvm.Cond.code ({ cls := "LeavesOfMudModel", name := "allWidths", desc := "()I" } : Jvm.MethodName) prog_11_method_78_code (4 : Nat) (Option.some Jvm.ClassFile.FieldType.int)) ∈ wsG := wsG_mem (List.mem_append_right _ (tm7 (List.mem_of_getElem? (i := 148) rfl))) rfl
theorem w_1587 : (Jvm.Cond.instanceMethod ({ cls := "LeavesOfMudModel", name := "allWidths", desc := "()I" } : Jvm.MethodName)) ∈ wsG := wsG_mem (List.mem_append_right _ (tm7 (List.mem_of_getElem? (i := 147) rfl))) rfl
theorem wp_121 : Cond.selects "LeavesOfMudModel" ⟨"LeavesOfMudModel", "allWidths", "()I"⟩ ⟨"LeavesOfMudModel", "allWidths", "()I"⟩ ∈ wsG := wsG_mem (List.mem_append_left _ (List.mem_map_of_mem (f := fun q : MethodName × Nat => Cond.selects q.1.cls q.1 q.1) (List.mem_of_getElem? (i := 121) (rfl : lw_privs[121]? = some (⟨"LeavesOfMudModel", "allWidths", "()I"⟩, _))))) rfl
theorem w_1604 : (Jvm.Cond.code ({ cls := "LeavesOfMudModel", name := "ashBeside", desc := "(IIII)I" } : Jvm.MethodName) prog_11_method_81_code (6 : Nat) (Option.some Jvm.ClassFile.FieldType.int)) ∈ wsG := wsG_mem (List.mem_append_right _ (tm7 (List.mem_of_getElem? (i := 164) rfl))) rfl
theorem w_1603 : (Jvm.Cond.instanceMethod ({ cls := "LeavesOfMudModel", name := "ashBeside", desc := "(IIII)I" } : Jvm.MethodName)) ∈ wsG := wsG_mem (List.mem_append_right _ (tm7 (List.mem_of_getElem? (i := 163) rfl))) rfl
theorem wp_123 : Cond.selects "LeavesOfMudModel" ⟨"LeavesOfMudModel", "ashBeside", "(IIII)I"⟩ ⟨"LeavesOfMudModel", "ashBeside", "(IIII)I"⟩ ∈ wsG := wsG_mem (List.mem_append_left _ (List.mem_map_of_mem (f := fun q : MethodName × Nat => Cond.selects q.1.cls q.1 q.1) (List.mem_of_getElem? (i := 123) (rfl : lw_privs[123]? = some (⟨"LeavesOfMudModel", "ashBeside", "(IIII)I"⟩, _))))) rfl
theorem w_1620 : (Jvm.Cond.code ({ cls := "LeavesOfMudModel", name := "countOf", desc := "(I)I" } : Jvm.MethodName) prog_11_method_86_code (5 : Nat) (Option.some Jvm.ClassFile.FieldType.int)) ∈ wsG := wsG_mem (List.mem_append_right _ (tm7 (List.mem_of_getElem? (i := 180) rfl))) rfl
theorem w_1619 : (Jvm.Cond.instanceMethod ({ cls := "LeavesOfMudModel", name := "countOf", desc := "(I)I" } : Jvm.MethodName)) ∈ wsG := wsG_mem (List.mem_append_right _ (tm7 (List.mem_of_getElem? (i := 179) rfl))) rfl
theorem wp_124 : Cond.selects "LeavesOfMudModel" ⟨"LeavesOfMudModel", "countOf", "(I)I"⟩ ⟨"LeavesOfMudModel", "countOf", "(I)I"⟩ ∈ wsG := wsG_mem (List.mem_append_left _ (List.mem_map_of_mem (f := fun q : MethodName × Nat => Cond.selects q.1.cls q.1 q.1) (List.mem_of_getElem? (i := 124) (rfl : lw_privs[124]? = some (⟨"LeavesOfMudModel", "countOf", "(I)I"⟩, _))))) rfl
theorem w_507 : (Jvm.Cond.code ({ cls := "java/lang/String", name := "length", desc := "()I" } : Jvm.MethodName) prog_15_method_54_code (1 : Nat) (Option.some Jvm.ClassFile.FieldType.int)) ∈ wsG := wsG_mem (List.mem_append_right _ (tm3 (List.mem_of_getElem? (i := 27) rfl))) rfl
theorem w_505 : (Jvm.Cond.instanceMethod ({ cls := "java/lang/String", name := "length", desc := "()I" } : Jvm.MethodName)) ∈ wsG := wsG_mem (List.mem_append_right _ (tm3 (List.mem_of_getElem? (i := 25) rfl))) rfl
theorem w_506 : (Jvm.Cond.selects "java/lang/String" ({ cls := "java/lang/String", name := "length", desc := "()I" } : Jvm.MethodName) ({ cls := "java/lang/String", name := "length", desc := "()I" } : Jvm.MethodName)) ∈ wsG := wsG_mem (List.mem_append_right _ (tm3 (List.mem_of_getElem? (i := 26) rfl))) rfl
theorem w_514 : (Jvm.Cond.code ({ cls := "java/lang/StringLatin1", name := "indexOf", desc := "([BIII)I" } : Jvm.MethodName) prog_16_method_22_code (4 : Nat) (Option.some Jvm.ClassFile.FieldType.int)) ∈ wsG := wsG_mem (List.mem_append_right _ (tm3 (List.mem_of_getElem? (i := 34) rfl))) rfl
theorem w_513 : (Jvm.Cond.static ({ cls := "java/lang/StringLatin1", name := "indexOf", desc := "([BIII)I" } : Jvm.MethodName)) ∈ wsG := wsG_mem (List.mem_append_right _ (tm3 (List.mem_of_getElem? (i := 33) rfl))) rfl
theorem w_612 : (Jvm.Cond.code ({ cls := "LeavesOfMud$Hands", name := "yearsAhead", desc := "(III)I" } : Jvm.MethodName) prog_3_method_6_code (4 : Nat) (Option.some Jvm.ClassFile.FieldType.int)) ∈ wsG := wsG_mem (List.mem_append_right _ (tm3 (List.mem_of_getElem? (i := 132) rfl))) rfl
theorem w_611 : (Jvm.Cond.instanceMethod ({ cls := "LeavesOfMud$Hands", name := "yearsAhead", desc := "(III)I" } : Jvm.MethodName)) ∈ wsG := wsG_mem (List.mem_append_right _ (tm3 (List.mem_of_getElem? (i := 131) rfl))) rfl
theorem wp_20 : Cond.selects "LeavesOfMud$Hands" ⟨"LeavesOfMud$Hands", "yearsAhead", "(III)I"⟩ ⟨"LeavesOfMud$Hands", "yearsAhead", "(III)I"⟩ ∈ wsG := wsG_mem (List.mem_append_left _ (List.mem_map_of_mem (f := fun q : MethodName × Nat => Cond.selects q.1.cls q.1 q.1) (List.mem_of_getElem? (i := 20) (rfl : lw_privs[20]? = some (⟨"LeavesOfMud$Hands", "yearsAhead", "(III)I"⟩, _))))) rfl
theorem w_406 : (Jvm.Cond.code ({ cls := "LeavesOfMud$Hands", name := "yearsOfAll", desc := "(II)I" } : Jvm.MethodName) prog_3_method_7_code (3 : Nat) (Option.some Jvm.ClassFile.FieldType.int)) ∈ wsG := wsG_mem (List.mem_append_right _ (tm2 (List.mem_of_getElem? (i := 166) rfl))) rfl
theorem w_405 : (Jvm.Cond.instanceMethod ({ cls := "LeavesOfMud$Hands", name := "yearsOfAll", desc := "(II)I" } : Jvm.MethodName)) ∈ wsG := wsG_mem (List.mem_append_right _ (tm2 (List.mem_of_getElem? (i := 165) rfl))) rfl
theorem wp_7 : Cond.selects "LeavesOfMud$Hands" ⟨"LeavesOfMud$Hands", "yearsOfAll", "(II)I"⟩ ⟨"LeavesOfMud$Hands", "yearsOfAll", "(II)I"⟩ ∈ wsG := wsG_mem (List.mem_append_left _ (List.mem_map_of_mem (f := fun q : MethodName × Nat => Cond.selects q.1.cls q.1 q.1) (List.mem_of_getElem? (i := 7) (rfl : lw_privs[7]? = some (⟨"LeavesOfMud$Hands", "yearsOfAll", "(II)I"⟩, _))))) rfl
theorem w_874 : (Jvm.Cond.code ({ cls := "LeavesOfMud$Net", name := "bindJoin", desc := "([II)Z" } : Jvm.MethodName) prog_5_method_7_code (3 : Nat) (Option.some Jvm.ClassFile.FieldType.boolean)) ∈ wsG := wsG_mem (List.mem_append_right _ (tm4 (List.mem_of_getElem? (i := 154) rfl))) rfl
theorem w_873 : (Jvm.Cond.instanceMethod ({ cls := "LeavesOfMud$Net", name := "bindJoin", desc := "([II)Z" } : Jvm.MethodName)) ∈ wsG := wsG_mem (List.mem_append_right _ (tm4 (List.mem_of_getElem? (i := 153) rfl))) rfl
theorem wp_56 : Cond.selects "LeavesOfMud$Net" ⟨"LeavesOfMud$Net", "bindJoin", "([II)Z"⟩ ⟨"LeavesOfMud$Net", "bindJoin", "([II)Z"⟩ ∈ wsG := wsG_mem (List.mem_append_left _ (List.mem_map_of_mem (f := fun q : MethodName × Nat => Cond.selects q.1.cls q.1 q.1) (List.mem_of_getElem? (i := 56) (rfl : lw_privs[56]? = some (⟨"LeavesOfMud$Net", "bindJoin", "([II)Z"⟩, _))))) rfl
theorem w_849 : (Jvm.Cond.code ({ cls := "LeavesOfMud$Net", name := "bindAshes", desc := "(I)Z" } : Jvm.MethodName) prog_5_method_9_code (5 : Nat) (Option.some Jvm.ClassFile.FieldType.boolean)) ∈ wsG := wsG_mem (List.mem_append_right _ (tm4 (List.mem_of_getElem? (i := 129) rfl))) rfl
theorem w_848 : (Jvm.Cond.instanceMethod ({ cls := "LeavesOfMud$Net", name := "bindAshes", desc := "(I)Z" } : Jvm.MethodName)) ∈ wsG := wsG_mem (List.mem_append_right _ (tm4 (List.mem_of_getElem? (i := 128) rfl))) rfl
theorem wp_52 : Cond.selects "LeavesOfMud$Net" ⟨"LeavesOfMud$Net", "bindAshes", "(I)Z"⟩ ⟨"LeavesOfMud$Net", "bindAshes", "(I)Z"⟩ ∈ wsG := wsG_mem (List.mem_append_left _ (List.mem_map_of_mem (f := fun q : MethodName × Nat => Cond.selects q.1.cls q.1 q.1) (List.mem_of_getElem? (i := 52) (rfl : lw_privs[52]? = some (⟨"LeavesOfMud$Net", "bindAshes", "(I)Z"⟩, _))))) rfl
theorem w_911 : (Jvm.Cond.code ({ cls := "LeavesOfMud$Net", name := "groupAshes", desc := "(I)V" } : Jvm.MethodName) prog_5_method_15_code (4 : Nat) (Option.none : Option Jvm.ClassFile.FieldType)) ∈ wsG := wsG_mem (List.mem_append_right _ (tm4 (List.mem_of_getElem? (i := 191) rfl))) rfl
theorem w_910 : (Jvm.Cond.instanceMethod ({ cls := "LeavesOfMud$Net", name := "groupAshes", desc := "(I)V" } : Jvm.MethodName)) ∈ wsG := wsG_mem (List.mem_append_right _ (tm4 (List.mem_of_getElem? (i := 190) rfl))) rfl
theorem wp_62 : Cond.selects "LeavesOfMud$Net" ⟨"LeavesOfMud$Net", "groupAshes", "(I)V"⟩ ⟨"LeavesOfMud$Net", "groupAshes", "(I)V"⟩ ∈ wsG := wsG_mem (List.mem_append_left _ (List.mem_map_of_mem (f := fun q : MethodName × Nat => Cond.selects q.1.cls q.1 q.1) (List.mem_of_getElem? (i := 62) (rfl : lw_privs[62]? = some (⟨"LeavesOfMud$Net", "groupAshes", "(I)V"⟩, _))))) rfl
theorem w_980 : (Jvm.Cond.code ({ cls := "LeavesOfMud$Net", name := "widthsIfApart", desc := "(III)I" } : Jvm.MethodName) prog_5_method_28_code (7 : Nat) (Option.some Jvm.ClassFile.FieldType.int)) ∈ wsG := wsG_mem (List.mem_append_right _ (tm5 (List.mem_of_getElem? (i := 20) rfl))) rfl
theorem w_979 : (Jvm.Cond.instanceMethod ({ cls := "LeavesOfMud$Net", name := "widthsIfApart", desc := "(III)I" } : Jvm.MethodName)) ∈ wsG := wsG_mem (List.mem_append_right _ (tm5 (List.mem_of_getElem? (i := 19) rfl))) rfl
theorem wp_74 : Cond.selects "LeavesOfMud$Net" ⟨"LeavesOfMud$Net", "widthsIfApart", "(III)I"⟩ ⟨"LeavesOfMud$Net", "widthsIfApart", "(III)I"⟩ ∈ wsG := wsG_mem (List.mem_append_left _ (List.mem_map_of_mem (f := fun q : MethodName × Nat => Cond.selects q.1.cls q.1 q.1) (List.mem_of_getElem? (i := 74) (rfl : lw_privs[74]? = some (⟨"LeavesOfMud$Net", "widthsIfApart", "(III)I"⟩, _))))) rfl
theorem w_692 : (Jvm.Cond.code ({ cls := "LeavesOfMud$Pairing", name := "readRow", desc := "(I[I[I)V" } : Jvm.MethodName) prog_7_method_3_code (5 : Nat) (Option.none : Option Jvm.ClassFile.FieldType)) ∈ wsG := wsG_mem (List.mem_append_right _ (tm3 (List.mem_of_getElem? (i := 212) rfl))) rfl
theorem w_691 : (Jvm.Cond.instanceMethod ({ cls := "LeavesOfMud$Pairing", name := "readRow", desc := "(I[I[I)V" } : Jvm.MethodName)) ∈ wsG := wsG_mem (List.mem_append_right _ (tm3 (List.mem_of_getElem? (i := 211) rfl))) rfl
theorem wp_28 : Cond.selects "LeavesOfMud$Pairing" ⟨"LeavesOfMud$Pairing", "readRow", "(I[I[I)V"⟩ ⟨"LeavesOfMud$Pairing", "readRow", "(I[I[I)V"⟩ ∈ wsG := wsG_mem (List.mem_append_left _ (List.mem_map_of_mem (f := fun q : MethodName × Nat => Cond.selects q.1.cls q.1 q.1) (List.mem_of_getElem? (i := 28) (rfl : lw_privs[28]? = some (⟨"LeavesOfMud$Pairing", "readRow", "(I[I[I)V"⟩, _))))) rfl
theorem w_723 : (Jvm.Cond.code ({ cls := "LeavesOfMud$Pairing", name := "priceOf", desc := "(III)I" } : Jvm.MethodName) prog_7_method_12_code (4 : Nat) (Option.some Jvm.ClassFile.FieldType.int)) ∈ wsG := wsG_mem (List.mem_append_right _ (tm4 (List.mem_of_getElem? (i := 3) rfl))) rfl
theorem w_722 : (Jvm.Cond.instanceMethod ({ cls := "LeavesOfMud$Pairing", name := "priceOf", desc := "(III)I" } : Jvm.MethodName)) ∈ wsG := wsG_mem (List.mem_append_right _ (tm4 (List.mem_of_getElem? (i := 2) rfl))) rfl
theorem wp_34 : Cond.selects "LeavesOfMud$Pairing" ⟨"LeavesOfMud$Pairing", "priceOf", "(III)I"⟩ ⟨"LeavesOfMud$Pairing", "priceOf", "(III)I"⟩ ∈ wsG := wsG_mem (List.mem_append_left _ (List.mem_map_of_mem (f := fun q : MethodName × Nat => Cond.selects q.1.cls q.1 q.1) (List.mem_of_getElem? (i := 34) (rfl : lw_privs[34]? = some (⟨"LeavesOfMud$Pairing", "priceOf", "(III)I"⟩, _))))) rfl
theorem w_1015 : (Jvm.Cond.code ({ cls := "LeavesOfMud$Pits", name := "firstAsh", desc := "(II)I" } : Jvm.MethodName) prog_8_method_12_code (4 : Nat) (Option.some Jvm.ClassFile.FieldType.int)) ∈ wsG := wsG_mem (List.mem_append_right _ (tm5 (List.mem_of_getElem? (i := 55) rfl))) rfl
theorem w_1014 : (Jvm.Cond.instanceMethod ({ cls := "LeavesOfMud$Pits", name := "firstAsh", desc := "(II)I" } : Jvm.MethodName)) ∈ wsG := wsG_mem (List.mem_append_right _ (tm5 (List.mem_of_getElem? (i := 54) rfl))) rfl
theorem wp_79 : Cond.selects "LeavesOfMud$Pits" ⟨"LeavesOfMud$Pits", "firstAsh", "(II)I"⟩ ⟨"LeavesOfMud$Pits", "firstAsh", "(II)I"⟩ ∈ wsG := wsG_mem (List.mem_append_left _ (List.mem_map_of_mem (f := fun q : MethodName × Nat => Cond.selects q.1.cls q.1 q.1) (List.mem_of_getElem? (i := 79) (rfl : lw_privs[79]? = some (⟨"LeavesOfMud$Pits", "firstAsh", "(II)I"⟩, _))))) rfl
theorem w_640 : (Jvm.Cond.code ({ cls := "LeavesOfMud$Slides", name := "likeOf", desc := "(IIII)I" } : Jvm.MethodName) prog_9_method_3_code (11 : Nat) (Option.some Jvm.ClassFile.FieldType.int)) ∈ wsG := wsG_mem (List.mem_append_right _ (tm3 (List.mem_of_getElem? (i := 160) rfl))) rfl
theorem w_639 : (Jvm.Cond.instanceMethod ({ cls := "LeavesOfMud$Slides", name := "likeOf", desc := "(IIII)I" } : Jvm.MethodName)) ∈ wsG := wsG_mem (List.mem_append_right _ (tm3 (List.mem_of_getElem? (i := 159) rfl))) rfl
theorem wp_22 : Cond.selects "LeavesOfMud$Slides" ⟨"LeavesOfMud$Slides", "likeOf", "(IIII)I"⟩ ⟨"LeavesOfMud$Slides", "likeOf", "(IIII)I"⟩ ∈ wsG := wsG_mem (List.mem_append_left _ (List.mem_map_of_mem (f := fun q : MethodName × Nat => Cond.selects q.1.cls q.1 q.1) (List.mem_of_getElem? (i := 22) (rfl : lw_privs[22]? = some (⟨"LeavesOfMud$Slides", "likeOf", "(IIII)I"⟩, _))))) rfl
theorem w_363 : (Jvm.Cond.code ({ cls := "LeavesOfMud", name := "leaf", desc := "(IIII)I" } : Jvm.MethodName) prog_1_method_3_code (5 : Nat) (Option.some Jvm.ClassFile.FieldType.int)) ∈ wsG := wsG_mem (List.mem_append_right _ (tm2 (List.mem_of_getElem? (i := 123) rfl))) rfl
theorem w_361 : (Jvm.Cond.instanceMethod ({ cls := "LeavesOfMud", name := "leaf", desc := "(IIII)I" } : Jvm.MethodName)) ∈ wsG := wsG_mem (List.mem_append_right _ (tm2 (List.mem_of_getElem? (i := 121) rfl))) rfl
theorem w_362 : (Jvm.Cond.selects "LeavesOfMud" ({ cls := "LeavesOfMud", name := "leaf", desc := "(IIII)I" } : Jvm.MethodName) ({ cls := "LeavesOfMud", name := "leaf", desc := "(IIII)I" } : Jvm.MethodName)) ∈ wsG := wsG_mem (List.mem_append_right _ (tm2 (List.mem_of_getElem? (i := 122) rfl))) rfl
theorem w_382 : (Jvm.Cond.code ({ cls := "LeavesOfMud", name := "as", desc := "(III)I" } : Jvm.MethodName) prog_1_method_4_code (4 : Nat) (Option.some Jvm.ClassFile.FieldType.int)) ∈ wsG := wsG_mem (List.mem_append_right _ (tm2 (List.mem_of_getElem? (i := 142) rfl))) rfl
theorem w_380 : (Jvm.Cond.instanceMethod ({ cls := "LeavesOfMud", name := "as", desc := "(III)I" } : Jvm.MethodName)) ∈ wsG := wsG_mem (List.mem_append_right _ (tm2 (List.mem_of_getElem? (i := 140) rfl))) rfl
theorem w_381 : (Jvm.Cond.selects "LeavesOfMud" ({ cls := "LeavesOfMud", name := "as", desc := "(III)I" } : Jvm.MethodName) ({ cls := "LeavesOfMud", name := "as", desc := "(III)I" } : Jvm.MethodName)) ∈ wsG := wsG_mem (List.mem_append_right _ (tm2 (List.mem_of_getElem? (i := 141) rfl))) rfl
theorem w_442 : (Jvm.Cond.code ({ cls := "LeavesOfMud", name := "change", desc := "(IIIII)I" } : Jvm.MethodName) prog_1_method_6_code (7 : Nat) (Option.some Jvm.ClassFile.FieldType.int)) ∈ wsG := wsG_mem (List.mem_append_right _ (tm2 (List.mem_of_getElem? (i := 202) rfl))) rfl
theorem w_440 : (Jvm.Cond.instanceMethod ({ cls := "LeavesOfMud", name := "change", desc := "(IIIII)I" } : Jvm.MethodName)) ∈ wsG := wsG_mem (List.mem_append_right _ (tm2 (List.mem_of_getElem? (i := 200) rfl))) rfl
theorem w_441 : (Jvm.Cond.selects "LeavesOfMud" ({ cls := "LeavesOfMud", name := "change", desc := "(IIIII)I" } : Jvm.MethodName) ({ cls := "LeavesOfMud", name := "change", desc := "(IIIII)I" } : Jvm.MethodName)) ∈ wsG := wsG_mem (List.mem_append_right _ (tm2 (List.mem_of_getElem? (i := 201) rfl))) rfl
theorem w_447 : (Jvm.Cond.code ({ cls := "LeavesOfMud", name := "lay", desc := "(IIIII)I" } : Jvm.MethodName) prog_1_method_7_code (12 : Nat) (Option.some Jvm.ClassFile.FieldType.int)) ∈ wsG := wsG_mem (List.mem_append_right _ (tm2 (List.mem_of_getElem? (i := 207) rfl))) rfl
theorem w_445 : (Jvm.Cond.instanceMethod ({ cls := "LeavesOfMud", name := "lay", desc := "(IIIII)I" } : Jvm.MethodName)) ∈ wsG := wsG_mem (List.mem_append_right _ (tm2 (List.mem_of_getElem? (i := 205) rfl))) rfl
theorem w_446 : (Jvm.Cond.selects "LeavesOfMud" ({ cls := "LeavesOfMud", name := "lay", desc := "(IIIII)I" } : Jvm.MethodName) ({ cls := "LeavesOfMud", name := "lay", desc := "(IIIII)I" } : Jvm.MethodName)) ∈ wsG := wsG_mem (List.mem_append_right _ (tm2 (List.mem_of_getElem? (i := 206) rfl))) rfl
theorem w_461 : (Jvm.Cond.code ({ cls := "LeavesOfMud", name := "letters", desc := "(J)I" } : Jvm.MethodName) prog_1_method_8_code (5 : Nat) (Option.some Jvm.ClassFile.FieldType.int)) ∈ wsG := wsG_mem (List.mem_append_right _ (tm2 (List.mem_of_getElem? (i := 221) rfl))) rfl
theorem w_459 : (Jvm.Cond.instanceMethod ({ cls := "LeavesOfMud", name := "letters", desc := "(J)I" } : Jvm.MethodName)) ∈ wsG := wsG_mem (List.mem_append_right _ (tm2 (List.mem_of_getElem? (i := 219) rfl))) rfl
theorem w_460 : (Jvm.Cond.selects "LeavesOfMud" ({ cls := "LeavesOfMud", name := "letters", desc := "(J)I" } : Jvm.MethodName) ({ cls := "LeavesOfMud", name := "letters", desc := "(J)I" } : Jvm.MethodName)) ∈ wsG := wsG_mem (List.mem_append_right _ (tm2 (List.mem_of_getElem? (i := 220) rfl))) rfl
theorem w_654 : (Jvm.Cond.code ({ cls := "LeavesOfMud", name := "over", desc := "(III)I" } : Jvm.MethodName) prog_1_method_17_code (4 : Nat) (Option.some Jvm.ClassFile.FieldType.int)) ∈ wsG := wsG_mem (List.mem_append_right _ (tm3 (List.mem_of_getElem? (i := 174) rfl))) rfl
theorem w_652 : (Jvm.Cond.instanceMethod ({ cls := "LeavesOfMud", name := "over", desc := "(III)I" } : Jvm.MethodName)) ∈ wsG := wsG_mem (List.mem_append_right _ (tm3 (List.mem_of_getElem? (i := 172) rfl))) rfl
theorem w_653 : (Jvm.Cond.selects "LeavesOfMud" ({ cls := "LeavesOfMud", name := "over", desc := "(III)I" } : Jvm.MethodName) ({ cls := "LeavesOfMud", name := "over", desc := "(III)I" } : Jvm.MethodName)) ∈ wsG := wsG_mem (List.mem_append_right _ (tm3 (List.mem_of_getElem? (i := 173) rfl))) rfl
theorem w_779 : (Jvm.Cond.code ({ cls := "LeavesOfMud", name := "join", desc := "(IIIII)I" } : Jvm.MethodName) prog_1_method_23_code (6 : Nat) (Option.some Jvm.ClassFile.FieldType.int)) ∈ wsG := wsG_mem (List.mem_append_right _ (tm4 (List.mem_of_getElem? (i := 59) rfl))) rfl
theorem w_777 : (Jvm.Cond.instanceMethod ({ cls := "LeavesOfMud", name := "join", desc := "(IIIII)I" } : Jvm.MethodName)) ∈ wsG := wsG_mem (List.mem_append_right _ (tm4 (List.mem_of_getElem? (i := 57) rfl))) rfl
theorem w_778 : (Jvm.Cond.selects "LeavesOfMud" ({ cls := "LeavesOfMud", name := "join", desc := "(IIIII)I" } : Jvm.MethodName) ({ cls := "LeavesOfMud", name := "join", desc := "(IIIII)I" } : Jvm.MethodName)) ∈ wsG := wsG_mem (List.mem_append_right _ (tm4 (List.mem_of_getElem? (i := 58) rfl))) rfl
theorem w_804 : (Jvm.Cond.code ({ cls := "LeavesOfMud", name := "tie", desc := "(III)I" } : Jvm.MethodName) prog_1_method_25_code (5 : Nat) (Option.some Jvm.ClassFile.FieldType.int)) ∈ wsG := wsG_mem (List.mem_append_right _ (tm4 (List.mem_of_getElem? (i := 84) rfl))) rfl
theorem w_802 : (Jvm.Cond.instanceMethod ({ cls := "LeavesOfMud", name := "tie", desc := "(III)I" } : Jvm.MethodName)) ∈ wsG := wsG_mem (List.mem_append_right _ (tm4 (List.mem_of_getElem? (i := 82) rfl))) rfl
theorem w_803 : (Jvm.Cond.selects "LeavesOfMud" ({ cls := "LeavesOfMud", name := "tie", desc := "(III)I" } : Jvm.MethodName) ({ cls := "LeavesOfMud", name := "tie", desc := "(III)I" } : Jvm.MethodName)) ∈ wsG := wsG_mem (List.mem_append_right _ (tm4 (List.mem_of_getElem? (i := 83) rfl))) rfl
theorem w_1028 : (Jvm.Cond.code ({ cls := "LeavesOfMud", name := "image", desc := "()I" } : Jvm.MethodName) prog_1_method_37_code (1 : Nat) (Option.some Jvm.ClassFile.FieldType.int)) ∈ wsG := wsG_mem (List.mem_append_right _ (tm5 (List.mem_of_getElem? (i := 68) rfl))) rfl
theorem w_1026 : (Jvm.Cond.instanceMethod ({ cls := "LeavesOfMud", name := "image", desc := "()I" } : Jvm.MethodName)) ∈ wsG := wsG_mem (List.mem_append_right _ (tm5 (List.mem_of_getElem? (i := 66) rfl))) rfl
theorem w_1027 : (Jvm.Cond.selects "LeavesOfMud" ({ cls := "LeavesOfMud", name := "image", desc := "()I" } : Jvm.MethodName) ({ cls := "LeavesOfMud", name := "image", desc := "()I" } : Jvm.MethodName)) ∈ wsG := wsG_mem (List.mem_append_right _ (tm5 (List.mem_of_getElem? (i := 67) rfl))) rfl
theorem w_1042 : (Jvm.Cond.code ({ cls := "LeavesOfMud", name := "restore", desc := "()I" } : Jvm.MethodName) prog_1_method_38_code (1 : Nat) (Option.some Jvm.ClassFile.FieldType.int)) ∈ wsG := wsG_mem (List.mem_append_right _ (tm5 (List.mem_of_getElem? (i := 82) rfl))) rfl
theorem w_1040 : (Jvm.Cond.instanceMethod ({ cls := "LeavesOfMud", name := "restore", desc := "()I" } : Jvm.MethodName)) ∈ wsG := wsG_mem (List.mem_append_right _ (tm5 (List.mem_of_getElem? (i := 80) rfl))) rfl
theorem w_1041 : (Jvm.Cond.selects "LeavesOfMud" ({ cls := "LeavesOfMud", name := "restore", desc := "()I" } : Jvm.MethodName) ({ cls := "LeavesOfMud", name := "restore", desc := "()I" } : Jvm.MethodName)) ∈ wsG := wsG_mem (List.mem_append_right _ (tm5 (List.mem_of_getElem? (i := 81) rfl))) rfl
theorem w_425 : (Jvm.Cond.code ({ cls := "LeavesOfMud", name := "aboutLeaf", desc := "(III)I" } : Jvm.MethodName) prog_1_method_54_code (4 : Nat) (Option.some Jvm.ClassFile.FieldType.int)) ∈ wsG := wsG_mem (List.mem_append_right _ (tm2 (List.mem_of_getElem? (i := 185) rfl))) rfl
theorem w_424 : (Jvm.Cond.instanceMethod ({ cls := "LeavesOfMud", name := "aboutLeaf", desc := "(III)I" } : Jvm.MethodName)) ∈ wsG := wsG_mem (List.mem_append_right _ (tm2 (List.mem_of_getElem? (i := 184) rfl))) rfl
theorem wp_11 : Cond.selects "LeavesOfMud" ⟨"LeavesOfMud", "aboutLeaf", "(III)I"⟩ ⟨"LeavesOfMud", "aboutLeaf", "(III)I"⟩ ∈ wsG := wsG_mem (List.mem_append_left _ (List.mem_map_of_mem (f := fun q : MethodName × Nat => Cond.selects q.1.cls q.1 q.1) (List.mem_of_getElem? (i := 11) (rfl : lw_privs[11]? = some (⟨"LeavesOfMud", "aboutLeaf", "(III)I"⟩, _))))) rfl
theorem w_1288 : (Jvm.Cond.code ({ cls := "LeavesOfMudModel", name := "isLeaf", desc := "(II)Z" } : Jvm.MethodName) prog_11_method_5_code (3 : Nat) (Option.some Jvm.ClassFile.FieldType.boolean)) ∈ wsG := wsG_mem (List.mem_append_right _ (tm6 (List.mem_of_getElem? (i := 88) rfl))) rfl
theorem w_1287 : (Jvm.Cond.instanceMethod ({ cls := "LeavesOfMudModel", name := "isLeaf", desc := "(II)Z" } : Jvm.MethodName)) ∈ wsG := wsG_mem (List.mem_append_right _ (tm6 (List.mem_of_getElem? (i := 87) rfl))) rfl
theorem wp_91 : Cond.selects "LeavesOfMudModel" ⟨"LeavesOfMudModel", "isLeaf", "(II)Z"⟩ ⟨"LeavesOfMudModel", "isLeaf", "(II)Z"⟩ ∈ wsG := wsG_mem (List.mem_append_left _ (List.mem_map_of_mem (f := fun q : MethodName × Nat => Cond.selects q.1.cls q.1 q.1) (List.mem_of_getElem? (i := 91) (rfl : lw_privs[91]? = some (⟨"LeavesOfMudModel", "isLeaf", "(II)Z"⟩, _))))) rfl
theorem w_1266 : (Jvm.Cond.code ({ cls := "LeavesOfMudModel", name := "leaf", desc := "(IIII)I" } : Jvm.MethodName) prog_11_method_9_code (5 : Nat) (Option.some Jvm.ClassFile.FieldType.int)) ∈ wsG := wsG_mem (List.mem_append_right _ (tm6 (List.mem_of_getElem? (i := 66) rfl))) rfl
theorem w_1264 : (Jvm.Cond.instanceMethod ({ cls := "LeavesOfMudModel", name := "leaf", desc := "(IIII)I" } : Jvm.MethodName)) ∈ wsG := wsG_mem (List.mem_append_right _ (tm6 (List.mem_of_getElem? (i := 64) rfl))) rfl
theorem w_1265 : (Jvm.Cond.selects "LeavesOfMudModel" ({ cls := "LeavesOfMudModel", name := "leaf", desc := "(IIII)I" } : Jvm.MethodName) ({ cls := "LeavesOfMudModel", name := "leaf", desc := "(IIII)I" } : Jvm.MethodName)) ∈ wsG := wsG_mem (List.mem_append_right _ (tm6 (List.mem_of_getElem? (i := 65) rfl))) rfl
theorem w_1321 : (Jvm.Cond.code ({ cls := "LeavesOfMudModel", name := "lay", desc := "(IIIII)I" } : Jvm.MethodName) prog_11_method_17_code (10 : Nat) (Option.some Jvm.ClassFile.FieldType.int)) ∈ wsG := wsG_mem (List.mem_append_right _ (tm6 (List.mem_of_getElem? (i := 121) rfl))) rfl
theorem w_1319 : (Jvm.Cond.instanceMethod ({ cls := "LeavesOfMudModel", name := "lay", desc := "(IIIII)I" } : Jvm.MethodName)) ∈ wsG := wsG_mem (List.mem_append_right _ (tm6 (List.mem_of_getElem? (i := 119) rfl))) rfl
theorem w_1320 : (Jvm.Cond.selects "LeavesOfMudModel" ({ cls := "LeavesOfMudModel", name := "lay", desc := "(IIIII)I" } : Jvm.MethodName) ({ cls := "LeavesOfMudModel", name := "lay", desc := "(IIIII)I" } : Jvm.MethodName)) ∈ wsG := wsG_mem (List.mem_append_right _ (tm6 (List.mem_of_getElem? (i := 120) rfl))) rfl
theorem w_1351 : (Jvm.Cond.code ({ cls := "LeavesOfMudModel", name := "faultOf", desc := "(I)I" } : Jvm.MethodName) prog_11_method_23_code (3 : Nat) (Option.some Jvm.ClassFile.FieldType.int)) ∈ wsG := wsG_mem (List.mem_append_right _ (tm6 (List.mem_of_getElem? (i := 151) rfl))) rfl
theorem w_1350 : (Jvm.Cond.instanceMethod ({ cls := "LeavesOfMudModel", name := "faultOf", desc := "(I)I" } : Jvm.MethodName)) ∈ wsG := wsG_mem (List.mem_append_right _ (tm6 (List.mem_of_getElem? (i := 150) rfl))) rfl
theorem wp_98 : Cond.selects "LeavesOfMudModel" ⟨"LeavesOfMudModel", "faultOf", "(I)I"⟩ ⟨"LeavesOfMudModel", "faultOf", "(I)I"⟩ ∈ wsG := wsG_mem (List.mem_append_left _ (List.mem_map_of_mem (f := fun q : MethodName × Nat => Cond.selects q.1.cls q.1 q.1) (List.mem_of_getElem? (i := 98) (rfl : lw_privs[98]? = some (⟨"LeavesOfMudModel", "faultOf", "(I)I"⟩, _))))) rfl
theorem w_1384 : (Jvm.Cond.code ({ cls := "LeavesOfMudModel", name := "atOf", desc := "(III)I" } : Jvm.MethodName) prog_11_method_30_code (4 : Nat) (Option.some Jvm.ClassFile.FieldType.int)) ∈ wsG := wsG_mem (List.mem_append_right _ (tm6 (List.mem_of_getElem? (i := 184) rfl))) rfl
theorem w_1383 : (Jvm.Cond.instanceMethod ({ cls := "LeavesOfMudModel", name := "atOf", desc := "(III)I" } : Jvm.MethodName)) ∈ wsG := wsG_mem (List.mem_append_right _ (tm6 (List.mem_of_getElem? (i := 183) rfl))) rfl
theorem wp_101 : Cond.selects "LeavesOfMudModel" ⟨"LeavesOfMudModel", "atOf", "(III)I"⟩ ⟨"LeavesOfMudModel", "atOf", "(III)I"⟩ ∈ wsG := wsG_mem (List.mem_append_left _ (List.mem_map_of_mem (f := fun q : MethodName × Nat => Cond.selects q.1.cls q.1 q.1) (List.mem_of_getElem? (i := 101) (rfl : lw_privs[101]? = some (⟨"LeavesOfMudModel", "atOf", "(III)I"⟩, _))))) rfl
theorem w_1298 : (Jvm.Cond.code ({ cls := "LeavesOfMudModel", name := "yearsOf", desc := "(II)I" } : Jvm.MethodName) prog_11_method_31_code (3 : Nat) (Option.some Jvm.ClassFile.FieldType.int)) ∈ wsG := wsG_mem (List.mem_append_right _ (tm6 (List.mem_of_getElem? (i := 98) rfl))) rfl
theorem w_1297 : (Jvm.Cond.instanceMethod ({ cls := "LeavesOfMudModel", name := "yearsOf", desc := "(II)I" } : Jvm.MethodName)) ∈ wsG := wsG_mem (List.mem_append_right _ (tm6 (List.mem_of_getElem? (i := 97) rfl))) rfl
theorem wp_92 : Cond.selects "LeavesOfMudModel" ⟨"LeavesOfMudModel", "yearsOf", "(II)I"⟩ ⟨"LeavesOfMudModel", "yearsOf", "(II)I"⟩ ∈ wsG := wsG_mem (List.mem_append_left _ (List.mem_map_of_mem (f := fun q : MethodName × Nat => Cond.selects q.1.cls q.1 q.1) (List.mem_of_getElem? (i := 92) (rfl : lw_privs[92]? = some (⟨"LeavesOfMudModel", "yearsOf", "(II)I"⟩, _))))) rfl
theorem w_1412 : (Jvm.Cond.code ({ cls := "LeavesOfMudModel", name := "likeOf", desc := "(IIII)I" } : Jvm.MethodName) prog_11_method_38_code (11 : Nat) (Option.some Jvm.ClassFile.FieldType.int)) ∈ wsG := wsG_mem (List.mem_append_right _ (tm6 (List.mem_of_getElem? (i := 212) rfl))) rfl
theorem w_1411 : (Jvm.Cond.instanceMethod ({ cls := "LeavesOfMudModel", name := "likeOf", desc := "(IIII)I" } : Jvm.MethodName)) ∈ wsG := wsG_mem (List.mem_append_right _ (tm6 (List.mem_of_getElem? (i := 211) rfl))) rfl
theorem wp_103 : Cond.selects "LeavesOfMudModel" ⟨"LeavesOfMudModel", "likeOf", "(IIII)I"⟩ ⟨"LeavesOfMudModel", "likeOf", "(IIII)I"⟩ ∈ wsG := wsG_mem (List.mem_append_left _ (List.mem_map_of_mem (f := fun q : MethodName × Nat => Cond.selects q.1.cls q.1 q.1) (List.mem_of_getElem? (i := 103) (rfl : lw_privs[103]? = some (⟨"LeavesOfMudModel", "likeOf", "(IIII)I"⟩, _))))) rfl
theorem w_1420 : (Jvm.Cond.code ({ cls := "LeavesOfMudModel", name := "over", desc := "(III)I" } : Jvm.MethodName) prog_11_method_40_code (4 : Nat) (Option.some Jvm.ClassFile.FieldType.int)) ∈ wsG := wsG_mem (List.mem_append_right _ (tm6 (List.mem_of_getElem? (i := 220) rfl))) rfl
theorem w_1418 : (Jvm.Cond.instanceMethod ({ cls := "LeavesOfMudModel", name := "over", desc := "(III)I" } : Jvm.MethodName)) ∈ wsG := wsG_mem (List.mem_append_right _ (tm6 (List.mem_of_getElem? (i := 218) rfl))) rfl
theorem w_1419 : (Jvm.Cond.selects "LeavesOfMudModel" ({ cls := "LeavesOfMudModel", name := "over", desc := "(III)I" } : Jvm.MethodName) ({ cls := "LeavesOfMudModel", name := "over", desc := "(III)I" } : Jvm.MethodName)) ∈ wsG := wsG_mem (List.mem_append_right _ (tm6 (List.mem_of_getElem? (i := 219) rfl))) rfl
theorem w_1452 : (Jvm.Cond.code ({ cls := "LeavesOfMudModel", name := "layTogether", desc := "(IIIII)V" } : Jvm.MethodName) prog_11_method_51_code (16 : Nat) (Option.none : Option Jvm.ClassFile.FieldType)) ∈ wsG := wsG_mem (List.mem_append_right _ (tm7 (List.mem_of_getElem? (i := 12) rfl))) rfl
theorem w_1451 : (Jvm.Cond.instanceMethod ({ cls := "LeavesOfMudModel", name := "layTogether", desc := "(IIIII)V" } : Jvm.MethodName)) ∈ wsG := wsG_mem (List.mem_append_right _ (tm7 (List.mem_of_getElem? (i := 11) rfl))) rfl
theorem wp_106 : Cond.selects "LeavesOfMudModel" ⟨"LeavesOfMudModel", "layTogether", "(IIIII)V"⟩ ⟨"LeavesOfMudModel", "layTogether", "(IIIII)V"⟩ ∈ wsG := wsG_mem (List.mem_append_left _ (List.mem_map_of_mem (f := fun q : MethodName × Nat => Cond.selects q.1.cls q.1 q.1) (List.mem_of_getElem? (i := 106) (rfl : lw_privs[106]? = some (⟨"LeavesOfMudModel", "layTogether", "(IIIII)V"⟩, _))))) rfl
theorem w_1480 : (Jvm.Cond.code ({ cls := "LeavesOfMudModel", name := "layWay", desc := "()V" } : Jvm.MethodName) prog_11_method_52_code (5 : Nat) (Option.none : Option Jvm.ClassFile.FieldType)) ∈ wsG := wsG_mem (List.mem_append_right _ (tm7 (List.mem_of_getElem? (i := 40) rfl))) rfl
theorem w_1479 : (Jvm.Cond.instanceMethod ({ cls := "LeavesOfMudModel", name := "layWay", desc := "()V" } : Jvm.MethodName)) ∈ wsG := wsG_mem (List.mem_append_right _ (tm7 (List.mem_of_getElem? (i := 39) rfl))) rfl
theorem wp_110 : Cond.selects "LeavesOfMudModel" ⟨"LeavesOfMudModel", "layWay", "()V"⟩ ⟨"LeavesOfMudModel", "layWay", "()V"⟩ ∈ wsG := wsG_mem (List.mem_append_left _ (List.mem_map_of_mem (f := fun q : MethodName × Nat => Cond.selects q.1.cls q.1 q.1) (List.mem_of_getElem? (i := 110) (rfl : lw_privs[110]? = some (⟨"LeavesOfMudModel", "layWay", "()V"⟩, _))))) rfl
theorem w_1492 : (Jvm.Cond.code ({ cls := "LeavesOfMudModel", name := "join", desc := "(IIIII)I" } : Jvm.MethodName) prog_11_method_57_code (6 : Nat) (Option.some Jvm.ClassFile.FieldType.int)) ∈ wsG := wsG_mem (List.mem_append_right _ (tm7 (List.mem_of_getElem? (i := 52) rfl))) rfl
theorem w_1490 : (Jvm.Cond.instanceMethod ({ cls := "LeavesOfMudModel", name := "join", desc := "(IIIII)I" } : Jvm.MethodName)) ∈ wsG := wsG_mem (List.mem_append_right _ (tm7 (List.mem_of_getElem? (i := 50) rfl))) rfl
theorem w_1491 : (Jvm.Cond.selects "LeavesOfMudModel" ({ cls := "LeavesOfMudModel", name := "join", desc := "(IIIII)I" } : Jvm.MethodName) ({ cls := "LeavesOfMudModel", name := "join", desc := "(IIIII)I" } : Jvm.MethodName)) ∈ wsG := wsG_mem (List.mem_append_right _ (tm7 (List.mem_of_getElem? (i := 51) rfl))) rfl
theorem w_1502 : (Jvm.Cond.code ({ cls := "LeavesOfMudModel", name := "tie", desc := "(III)I" } : Jvm.MethodName) prog_11_method_59_code (5 : Nat) (Option.some Jvm.ClassFile.FieldType.int)) ∈ wsG := wsG_mem (List.mem_append_right _ (tm7 (List.mem_of_getElem? (i := 62) rfl))) rfl
theorem w_1500 : (Jvm.Cond.instanceMethod ({ cls := "LeavesOfMudModel", name := "tie", desc := "(III)I" } : Jvm.MethodName)) ∈ wsG := wsG_mem (List.mem_append_right _ (tm7 (List.mem_of_getElem? (i := 60) rfl))) rfl
theorem w_1501 : (Jvm.Cond.selects "LeavesOfMudModel" ({ cls := "LeavesOfMudModel", name := "tie", desc := "(III)I" } : Jvm.MethodName) ({ cls := "LeavesOfMudModel", name := "tie", desc := "(III)I" } : Jvm.MethodName)) ∈ wsG := wsG_mem (List.mem_append_right _ (tm7 (List.mem_of_getElem? (i := 61) rfl))) rfl
theorem w_1508 : (Jvm.Cond.code ({ cls := "LeavesOfMudModel", name := "untie", desc := "(I)I" } : Jvm.MethodName) prog_11_method_60_code (3 : Nat) (Option.some Jvm.ClassFile.FieldType.int)) ∈ wsG := wsG_mem (List.mem_append_right _ (tm7 (List.mem_of_getElem? (i := 68) rfl))) rfl
theorem w_1506 : (Jvm.Cond.instanceMethod ({ cls := "LeavesOfMudModel", name := "untie", desc := "(I)I" } : Jvm.MethodName)) ∈ wsG := wsG_mem (List.mem_append_right _ (tm7 (List.mem_of_getElem? (i := 66) rfl))) rfl
theorem w_1507 : (Jvm.Cond.selects "LeavesOfMudModel" ({ cls := "LeavesOfMudModel", name := "untie", desc := "(I)I" } : Jvm.MethodName) ({ cls := "LeavesOfMudModel", name := "untie", desc := "(I)I" } : Jvm.MethodName)) ∈ wsG := wsG_mem (List.mem_append_right _ (tm7 (List.mem_of_getElem? (i := 67) rfl))) rfl
theorem w_1616 : (Jvm.Cond.code ({ cls := "LeavesOfMudModel", name := "count", desc := "(I)I" } : Jvm.MethodName) prog_11_method_87_code (2 : Nat) (Option.some Jvm.ClassFile.FieldType.int)) ∈ wsG := wsG_mem (List.mem_append_right _ (tm7 (List.mem_of_getElem? (i := 176) rfl))) rfl
theorem w_1614 : (Jvm.Cond.instanceMethod ({ cls := "LeavesOfMudModel", name := "count", desc := "(I)I" } : Jvm.MethodName)) ∈ wsG := wsG_mem (List.mem_append_right _ (tm7 (List.mem_of_getElem? (i := 174) rfl))) rfl
theorem w_1615 : (Jvm.Cond.selects "LeavesOfMudModel" ({ cls := "LeavesOfMudModel", name := "count", desc := "(I)I" } : Jvm.MethodName) ({ cls := "LeavesOfMudModel", name := "count", desc := "(I)I" } : Jvm.MethodName)) ∈ wsG := wsG_mem (List.mem_append_right _ (tm7 (List.mem_of_getElem? (i := 175) rfl))) rfl
theorem w_836 : (Jvm.Cond.code ({ cls := "LeavesOfMud$Net", name := "weaveFixed", desc := "()Z" } : Jvm.MethodName) prog_5_method_5_code (2 : Nat) (Option.some Jvm.ClassFile.FieldType.boolean)) ∈ wsG := wsG_mem (List.mem_append_right _ (tm4 (List.mem_of_getElem? (i := 116) rfl))) rfl
theorem w_835 : (Jvm.Cond.instanceMethod ({ cls := "LeavesOfMud$Net", name := "weaveFixed", desc := "()Z" } : Jvm.MethodName)) ∈ wsG := wsG_mem (List.mem_append_right _ (tm4 (List.mem_of_getElem? (i := 115) rfl))) rfl
theorem wp_50 : Cond.selects "LeavesOfMud$Net" ⟨"LeavesOfMud$Net", "weaveFixed", "()Z"⟩ ⟨"LeavesOfMud$Net", "weaveFixed", "()Z"⟩ ∈ wsG := wsG_mem (List.mem_append_left _ (List.mem_map_of_mem (f := fun q : MethodName × Nat => Cond.selects q.1.cls q.1 q.1) (List.mem_of_getElem? (i := 50) (rfl : lw_privs[50]? = some (⟨"LeavesOfMud$Net", "weaveFixed", "()Z"⟩, _))))) rfl
theorem w_868 : (Jvm.Cond.code ({ cls := "LeavesOfMud$Net", name := "weaveJoins", desc := "([II)Z" } : Jvm.MethodName) prog_5_method_6_code (4 : Nat) (Option.some Jvm.ClassFile.FieldType.boolean)) ∈ wsG := wsG_mem (List.mem_append_right _ (tm4 (List.mem_of_getElem? (i := 148) rfl))) rfl
theorem w_867 : (Jvm.Cond.instanceMethod ({ cls := "LeavesOfMud$Net", name := "weaveJoins", desc := "([II)Z" } : Jvm.MethodName)) ∈ wsG := wsG_mem (List.mem_append_right _ (tm4 (List.mem_of_getElem? (i := 147) rfl))) rfl
theorem wp_55 : Cond.selects "LeavesOfMud$Net" ⟨"LeavesOfMud$Net", "weaveJoins", "([II)Z"⟩ ⟨"LeavesOfMud$Net", "weaveJoins", "([II)Z"⟩ ∈ wsG := wsG_mem (List.mem_append_left _ (List.mem_map_of_mem (f := fun q : MethodName × Nat => Cond.selects q.1.cls q.1 q.1) (List.mem_of_getElem? (i := 55) (rfl : lw_privs[55]? = some (⟨"LeavesOfMud$Net", "weaveJoins", "([II)Z"⟩, _))))) rfl
theorem w_903 : (Jvm.Cond.code ({ cls := "LeavesOfMud$Net", name := "group", desc := "()V" } : Jvm.MethodName) prog_5_method_14_code (2 : Nat) (Option.none : Option Jvm.ClassFile.FieldType)) ∈ wsG := wsG_mem (List.mem_append_right _ (tm4 (List.mem_of_getElem? (i := 183) rfl))) rfl
theorem w_902 : (Jvm.Cond.instanceMethod ({ cls := "LeavesOfMud$Net", name := "group", desc := "()V" } : Jvm.MethodName)) ∈ wsG := wsG_mem (List.mem_append_right _ (tm4 (List.mem_of_getElem? (i := 182) rfl))) rfl
theorem wp_60 : Cond.selects "LeavesOfMud$Net" ⟨"LeavesOfMud$Net", "group", "()V"⟩ ⟨"LeavesOfMud$Net", "group", "()V"⟩ ∈ wsG := wsG_mem (List.mem_append_left _ (List.mem_map_of_mem (f := fun q : MethodName × Nat => Cond.selects q.1.cls q.1 q.1) (List.mem_of_getElem? (i := 60) (rfl : lw_privs[60]? = some (⟨"LeavesOfMud$Net", "group", "()V"⟩, _))))) rfl
theorem w_937 : (Jvm.Cond.code ({ cls := "LeavesOfMud$Net", name := "castFrom", desc := "(III)V" } : Jvm.MethodName) prog_5_method_20_code (4 : Nat) (Option.none : Option Jvm.ClassFile.FieldType)) ∈ wsG := wsG_mem (List.mem_append_right _ (tm4 (List.mem_of_getElem? (i := 217) rfl))) rfl
theorem w_936 : (Jvm.Cond.instanceMethod ({ cls := "LeavesOfMud$Net", name := "castFrom", desc := "(III)V" } : Jvm.MethodName)) ∈ wsG := wsG_mem (List.mem_append_right _ (tm4 (List.mem_of_getElem? (i := 216) rfl))) rfl
theorem wp_66 : Cond.selects "LeavesOfMud$Net" ⟨"LeavesOfMud$Net", "castFrom", "(III)V"⟩ ⟨"LeavesOfMud$Net", "castFrom", "(III)V"⟩ ∈ wsG := wsG_mem (List.mem_append_left _ (List.mem_map_of_mem (f := fun q : MethodName × Nat => Cond.selects q.1.cls q.1 q.1) (List.mem_of_getElem? (i := 66) (rfl : lw_privs[66]? = some (⟨"LeavesOfMud$Net", "castFrom", "(III)V"⟩, _))))) rfl
theorem w_975 : (Jvm.Cond.code ({ cls := "LeavesOfMud$Net", name := "worstOfDig", desc := "(II)I" } : Jvm.MethodName) prog_5_method_27_code (6 : Nat) (Option.some Jvm.ClassFile.FieldType.int)) ∈ wsG := wsG_mem (List.mem_append_right _ (tm5 (List.mem_of_getElem? (i := 15) rfl))) rfl
theorem w_974 : (Jvm.Cond.instanceMethod ({ cls := "LeavesOfMud$Net", name := "worstOfDig", desc := "(II)I" } : Jvm.MethodName)) ∈ wsG := wsG_mem (List.mem_append_right _ (tm5 (List.mem_of_getElem? (i := 14) rfl))) rfl
theorem wp_73 : Cond.selects "LeavesOfMud$Net" ⟨"LeavesOfMud$Net", "worstOfDig", "(II)I"⟩ ⟨"LeavesOfMud$Net", "worstOfDig", "(II)I"⟩ ∈ wsG := wsG_mem (List.mem_append_left _ (List.mem_map_of_mem (f := fun q : MethodName × Nat => Cond.selects q.1.cls q.1 q.1) (List.mem_of_getElem? (i := 73) (rfl : lw_privs[73]? = some (⟨"LeavesOfMud$Net", "worstOfDig", "(II)I"⟩, _))))) rfl
theorem w_707 : (Jvm.Cond.code ({ cls := "LeavesOfMud$Pairing", name := "fillPlace", desc := "(II)V" } : Jvm.MethodName) prog_7_method_9_code (8 : Nat) (Option.none : Option Jvm.ClassFile.FieldType)) ∈ wsG := wsG_mem (List.mem_append_right _ (tm3 (List.mem_of_getElem? (i := 227) rfl))) rfl
theorem w_706 : (Jvm.Cond.instanceMethod ({ cls := "LeavesOfMud$Pairing", name := "fillPlace", desc := "(II)V" } : Jvm.MethodName)) ∈ wsG := wsG_mem (List.mem_append_right _ (tm3 (List.mem_of_getElem? (i := 226) rfl))) rfl
theorem wp_31 : Cond.selects "LeavesOfMud$Pairing" ⟨"LeavesOfMud$Pairing", "fillPlace", "(II)V"⟩ ⟨"LeavesOfMud$Pairing", "fillPlace", "(II)V"⟩ ∈ wsG := wsG_mem (List.mem_append_left _ (List.mem_map_of_mem (f := fun q : MethodName × Nat => Cond.selects q.1.cls q.1 q.1) (List.mem_of_getElem? (i := 31) (rfl : lw_privs[31]? = some (⟨"LeavesOfMud$Pairing", "fillPlace", "(II)V"⟩, _))))) rfl
theorem w_758 : (Jvm.Cond.code ({ cls := "LeavesOfMud$Pairing", name := "leastStepFrom", desc := "(II)I" } : Jvm.MethodName) prog_7_method_17_code (4 : Nat) (Option.some Jvm.ClassFile.FieldType.int)) ∈ wsG := wsG_mem (List.mem_append_right _ (tm4 (List.mem_of_getElem? (i := 38) rfl))) rfl
theorem w_757 : (Jvm.Cond.instanceMethod ({ cls := "LeavesOfMud$Pairing", name := "leastStepFrom", desc := "(II)I" } : Jvm.MethodName)) ∈ wsG := wsG_mem (List.mem_append_right _ (tm4 (List.mem_of_getElem? (i := 37) rfl))) rfl
theorem wp_40 : Cond.selects "LeavesOfMud$Pairing" ⟨"LeavesOfMud$Pairing", "leastStepFrom", "(II)I"⟩ ⟨"LeavesOfMud$Pairing", "leastStepFrom", "(II)I"⟩ ∈ wsG := wsG_mem (List.mem_append_left _ (List.mem_map_of_mem (f := fun q : MethodName × Nat => Cond.selects q.1.cls q.1 q.1) (List.mem_of_getElem? (i := 40) (rfl : lw_privs[40]? = some (⟨"LeavesOfMud$Pairing", "leastStepFrom", "(II)I"⟩, _))))) rfl
theorem w_1009 : (Jvm.Cond.code ({ cls := "LeavesOfMud$Pits", name := "isSharedAsh", desc := "(III)Z" } : Jvm.MethodName) prog_8_method_15_code (4 : Nat) (Option.some Jvm.ClassFile.FieldType.boolean)) ∈ wsG := wsG_mem (List.mem_append_right _ (tm5 (List.mem_of_getElem? (i := 49) rfl))) rfl
theorem w_1008 : (Jvm.Cond.instanceMethod ({ cls := "LeavesOfMud$Pits", name := "isSharedAsh", desc := "(III)Z" } : Jvm.MethodName)) ∈ wsG := wsG_mem (List.mem_append_right _ (tm5 (List.mem_of_getElem? (i := 48) rfl))) rfl
theorem wp_78 : Cond.selects "LeavesOfMud$Pits" ⟨"LeavesOfMud$Pits", "isSharedAsh", "(III)Z"⟩ ⟨"LeavesOfMud$Pits", "isSharedAsh", "(III)Z"⟩ ∈ wsG := wsG_mem (List.mem_append_left _ (List.mem_map_of_mem (f := fun q : MethodName × Nat => Cond.selects q.1.cls q.1 q.1) (List.mem_of_getElem? (i := 78) (rfl : lw_privs[78]? = some (⟨"LeavesOfMud$Pits", "isSharedAsh", "(III)Z"⟩, _))))) rfl
theorem w_662 : (Jvm.Cond.code ({ cls := "LeavesOfMud$Slides", name := "best", desc := "(III)I" } : Jvm.MethodName) prog_9_method_5_code (9 : Nat) (Option.some Jvm.ClassFile.FieldType.int)) ∈ wsG := wsG_mem (List.mem_append_right _ (tm3 (List.mem_of_getElem? (i := 182) rfl))) rfl
theorem w_661 : (Jvm.Cond.instanceMethod ({ cls := "LeavesOfMud$Slides", name := "best", desc := "(III)I" } : Jvm.MethodName)) ∈ wsG := wsG_mem (List.mem_append_right _ (tm3 (List.mem_of_getElem? (i := 181) rfl))) rfl
theorem wp_24 : Cond.selects "LeavesOfMud$Slides" ⟨"LeavesOfMud$Slides", "best", "(III)I"⟩ ⟨"LeavesOfMud$Slides", "best", "(III)I"⟩ ∈ wsG := wsG_mem (List.mem_append_left _ (List.mem_map_of_mem (f := fun q : MethodName × Nat => Cond.selects q.1.cls q.1 q.1) (List.mem_of_getElem? (i := 24) (rfl : lw_privs[24]? = some (⟨"LeavesOfMud$Slides", "best", "(III)I"⟩, _))))) rfl
theorem w_673 : (Jvm.Cond.code ({ cls := "LeavesOfMud$Slides", name := "turnsAsLike", desc := "(III)I" } : Jvm.MethodName) prog_9_method_6_code (7 : Nat) (Option.some Jvm.ClassFile.FieldType.int)) ∈ wsG := wsG_mem (List.mem_append_right _ (tm3 (List.mem_of_getElem? (i := 193) rfl))) rfl
theorem w_672 : (Jvm.Cond.instanceMethod ({ cls := "LeavesOfMud$Slides", name := "turnsAsLike", desc := "(III)I" } : Jvm.MethodName)) ∈ wsG := wsG_mem (List.mem_append_right _ (tm3 (List.mem_of_getElem? (i := 192) rfl))) rfl
theorem wp_25 : Cond.selects "LeavesOfMud$Slides" ⟨"LeavesOfMud$Slides", "turnsAsLike", "(III)I"⟩ ⟨"LeavesOfMud$Slides", "turnsAsLike", "(III)I"⟩ ∈ wsG := wsG_mem (List.mem_append_left _ (List.mem_map_of_mem (f := fun q : MethodName × Nat => Cond.selects q.1.cls q.1 q.1) (List.mem_of_getElem? (i := 25) (rfl : lw_privs[25]? = some (⟨"LeavesOfMud$Slides", "turnsAsLike", "(III)I"⟩, _))))) rfl
theorem w_604 : (Jvm.Cond.code ({ cls := "LeavesOfMud", name := "at", desc := "(III)I" } : Jvm.MethodName) prog_1_method_13_code (4 : Nat) (Option.some Jvm.ClassFile.FieldType.int)) ∈ wsG := wsG_mem (List.mem_append_right _ (tm3 (List.mem_of_getElem? (i := 124) rfl))) rfl
theorem w_602 : (Jvm.Cond.instanceMethod ({ cls := "LeavesOfMud", name := "at", desc := "(III)I" } : Jvm.MethodName)) ∈ wsG := wsG_mem (List.mem_append_right _ (tm3 (List.mem_of_getElem? (i := 122) rfl))) rfl
theorem w_603 : (Jvm.Cond.selects "LeavesOfMud" ({ cls := "LeavesOfMud", name := "at", desc := "(III)I" } : Jvm.MethodName) ({ cls := "LeavesOfMud", name := "at", desc := "(III)I" } : Jvm.MethodName)) ∈ wsG := wsG_mem (List.mem_append_right _ (tm3 (List.mem_of_getElem? (i := 123) rfl))) rfl
theorem w_616 : (Jvm.Cond.code ({ cls := "LeavesOfMud", name := "years", desc := "(II)I" } : Jvm.MethodName) prog_1_method_14_code (3 : Nat) (Option.some Jvm.ClassFile.FieldType.int)) ∈ wsG := wsG_mem (List.mem_append_right _ (tm3 (List.mem_of_getElem? (i := 136) rfl))) rfl
theorem w_614 : (Jvm.Cond.instanceMethod ({ cls := "LeavesOfMud", name := "years", desc := "(II)I" } : Jvm.MethodName)) ∈ wsG := wsG_mem (List.mem_append_right _ (tm3 (List.mem_of_getElem? (i := 134) rfl))) rfl
theorem w_615 : (Jvm.Cond.selects "LeavesOfMud" ({ cls := "LeavesOfMud", name := "years", desc := "(II)I" } : Jvm.MethodName) ({ cls := "LeavesOfMud", name := "years", desc := "(II)I" } : Jvm.MethodName)) ∈ wsG := wsG_mem (List.mem_append_right _ (tm3 (List.mem_of_getElem? (i := 135) rfl))) rfl
theorem w_620 : (Jvm.Cond.code ({ cls := "LeavesOfMud", name := "lean", desc := "(II)I" } : Jvm.MethodName) prog_1_method_15_code (5 : Nat) (Option.some Jvm.ClassFile.FieldType.int)) ∈ wsG := wsG_mem (List.mem_append_right _ (tm3 (List.mem_of_getElem? (i := 140) rfl))) rfl
theorem w_618 : (Jvm.Cond.instanceMethod ({ cls := "LeavesOfMud", name := "lean", desc := "(II)I" } : Jvm.MethodName)) ∈ wsG := wsG_mem (List.mem_append_right _ (tm3 (List.mem_of_getElem? (i := 138) rfl))) rfl
theorem w_619 : (Jvm.Cond.selects "LeavesOfMud" ({ cls := "LeavesOfMud", name := "lean", desc := "(II)I" } : Jvm.MethodName) ({ cls := "LeavesOfMud", name := "lean", desc := "(II)I" } : Jvm.MethodName)) ∈ wsG := wsG_mem (List.mem_append_right _ (tm3 (List.mem_of_getElem? (i := 139) rfl))) rfl
theorem w_625 : (Jvm.Cond.code ({ cls := "LeavesOfMud", name := "like", desc := "(III)I" } : Jvm.MethodName) prog_1_method_16_code (4 : Nat) (Option.some Jvm.ClassFile.FieldType.int)) ∈ wsG := wsG_mem (List.mem_append_right _ (tm3 (List.mem_of_getElem? (i := 145) rfl))) rfl
theorem w_623 : (Jvm.Cond.instanceMethod ({ cls := "LeavesOfMud", name := "like", desc := "(III)I" } : Jvm.MethodName)) ∈ wsG := wsG_mem (List.mem_append_right _ (tm3 (List.mem_of_getElem? (i := 143) rfl))) rfl
theorem w_624 : (Jvm.Cond.selects "LeavesOfMud" ({ cls := "LeavesOfMud", name := "like", desc := "(III)I" } : Jvm.MethodName) ({ cls := "LeavesOfMud", name := "like", desc := "(III)I" } : Jvm.MethodName)) ∈ wsG := wsG_mem (List.mem_append_right _ (tm3 (List.mem_of_getElem? (i := 144) rfl))) rfl
theorem w_402 : (Jvm.Cond.code ({ cls := "LeavesOfMud", name := "aboutPit", desc := "(II)I" } : Jvm.MethodName) prog_1_method_53_code (3 : Nat) (Option.some Jvm.ClassFile.FieldType.int)) ∈ wsG := wsG_mem (List.mem_append_right _ (tm2 (List.mem_of_getElem? (i := 162) rfl))) rfl
theorem w_401 : (Jvm.Cond.instanceMethod ({ cls := "LeavesOfMud", name := "aboutPit", desc := "(II)I" } : Jvm.MethodName)) ∈ wsG := wsG_mem (List.mem_append_right _ (tm2 (List.mem_of_getElem? (i := 161) rfl))) rfl
theorem wp_6 : Cond.selects "LeavesOfMud" ⟨"LeavesOfMud", "aboutPit", "(II)I"⟩ ⟨"LeavesOfMud", "aboutPit", "(II)I"⟩ ∈ wsG := wsG_mem (List.mem_append_left _ (List.mem_map_of_mem (f := fun q : MethodName × Nat => Cond.selects q.1.cls q.1 q.1) (List.mem_of_getElem? (i := 6) (rfl : lw_privs[6]? = some (⟨"LeavesOfMud", "aboutPit", "(II)I"⟩, _))))) rfl
theorem w_1060 : (Jvm.Cond.code ({ cls := "LeavesOfMud", name := "foldPit", desc := "(JI)J" } : Jvm.MethodName) prog_1_method_57_code (5 : Nat) (Option.some Jvm.ClassFile.FieldType.long)) ∈ wsG := wsG_mem (List.mem_append_right _ (tm5 (List.mem_of_getElem? (i := 100) rfl))) rfl
theorem w_1059 : (Jvm.Cond.instanceMethod ({ cls := "LeavesOfMud", name := "foldPit", desc := "(JI)J" } : Jvm.MethodName)) ∈ wsG := wsG_mem (List.mem_append_right _ (tm5 (List.mem_of_getElem? (i := 99) rfl))) rfl
theorem wp_85 : Cond.selects "LeavesOfMud" ⟨"LeavesOfMud", "foldPit", "(JI)J"⟩ ⟨"LeavesOfMud", "foldPit", "(JI)J"⟩ ∈ wsG := wsG_mem (List.mem_append_left _ (List.mem_map_of_mem (f := fun q : MethodName × Nat => Cond.selects q.1.cls q.1 q.1) (List.mem_of_getElem? (i := 85) (rfl : lw_privs[85]? = some (⟨"LeavesOfMud", "foldPit", "(JI)J"⟩, _))))) rfl
theorem w_1284 : (Jvm.Cond.code ({ cls := "LeavesOfMudModel", name := "as", desc := "(III)I" } : Jvm.MethodName) prog_11_method_10_code (6 : Nat) (Option.some Jvm.ClassFile.FieldType.int)) ∈ wsG := wsG_mem (List.mem_append_right _ (tm6 (List.mem_of_getElem? (i := 84) rfl))) rfl
theorem w_1282 : (Jvm.Cond.instanceMethod ({ cls := "LeavesOfMudModel", name := "as", desc := "(III)I" } : Jvm.MethodName)) ∈ wsG := wsG_mem (List.mem_append_right _ (tm6 (List.mem_of_getElem? (i := 82) rfl))) rfl
theorem w_1283 : (Jvm.Cond.selects "LeavesOfMudModel" ({ cls := "LeavesOfMudModel", name := "as", desc := "(III)I" } : Jvm.MethodName) ({ cls := "LeavesOfMudModel", name := "as", desc := "(III)I" } : Jvm.MethodName)) ∈ wsG := wsG_mem (List.mem_append_right _ (tm6 (List.mem_of_getElem? (i := 83) rfl))) rfl
theorem w_1292 : (Jvm.Cond.code ({ cls := "LeavesOfMudModel", name := "about", desc := "(III)I" } : Jvm.MethodName) prog_11_method_13_code (5 : Nat) (Option.some Jvm.ClassFile.FieldType.int)) ∈ wsG := wsG_mem (List.mem_append_right _ (tm6 (List.mem_of_getElem? (i := 92) rfl))) rfl
theorem w_1290 : (Jvm.Cond.instanceMethod ({ cls := "LeavesOfMudModel", name := "about", desc := "(III)I" } : Jvm.MethodName)) ∈ wsG := wsG_mem (List.mem_append_right _ (tm6 (List.mem_of_getElem? (i := 90) rfl))) rfl
theorem w_1291 : (Jvm.Cond.selects "LeavesOfMudModel" ({ cls := "LeavesOfMudModel", name := "about", desc := "(III)I" } : Jvm.MethodName) ({ cls := "LeavesOfMudModel", name := "about", desc := "(III)I" } : Jvm.MethodName)) ∈ wsG := wsG_mem (List.mem_append_right _ (tm6 (List.mem_of_getElem? (i := 91) rfl))) rfl
theorem w_1317 : (Jvm.Cond.code ({ cls := "LeavesOfMudModel", name := "change", desc := "(IIIII)I" } : Jvm.MethodName) prog_11_method_14_code (7 : Nat) (Option.some Jvm.ClassFile.FieldType.int)) ∈ wsG := wsG_mem (List.mem_append_right _ (tm6 (List.mem_of_getElem? (i := 117) rfl))) rfl
theorem w_1315 : (Jvm.Cond.instanceMethod ({ cls := "LeavesOfMudModel", name := "change", desc := "(IIIII)I" } : Jvm.MethodName)) ∈ wsG := wsG_mem (List.mem_append_right _ (tm6 (List.mem_of_getElem? (i := 115) rfl))) rfl
theorem w_1316 : (Jvm.Cond.selects "LeavesOfMudModel" ({ cls := "LeavesOfMudModel", name := "change", desc := "(IIIII)I" } : Jvm.MethodName) ({ cls := "LeavesOfMudModel", name := "change", desc := "(IIIII)I" } : Jvm.MethodName)) ∈ wsG := wsG_mem (List.mem_append_right _ (tm6 (List.mem_of_getElem? (i := 116) rfl))) rfl
theorem w_1347 : (Jvm.Cond.code ({ cls := "LeavesOfMudModel", name := "fault", desc := "(I)I" } : Jvm.MethodName) prog_11_method_24_code (2 : Nat) (Option.some Jvm.ClassFile.FieldType.int)) ∈ wsG := wsG_mem (List.mem_append_right _ (tm6 (List.mem_of_getElem? (i := 147) rfl))) rfl
theorem w_1345 : (Jvm.Cond.instanceMethod ({ cls := "LeavesOfMudModel", name := "fault", desc := "(I)I" } : Jvm.MethodName)) ∈ wsG := wsG_mem (List.mem_append_right _ (tm6 (List.mem_of_getElem? (i := 145) rfl))) rfl
theorem w_1346 : (Jvm.Cond.selects "LeavesOfMudModel" ({ cls := "LeavesOfMudModel", name := "fault", desc := "(I)I" } : Jvm.MethodName) ({ cls := "LeavesOfMudModel", name := "fault", desc := "(I)I" } : Jvm.MethodName)) ∈ wsG := wsG_mem (List.mem_append_right _ (tm6 (List.mem_of_getElem? (i := 146) rfl))) rfl
theorem w_1367 : (Jvm.Cond.code ({ cls := "LeavesOfMudModel", name := "hand", desc := "()I" } : Jvm.MethodName) prog_11_method_25_code (2 : Nat) (Option.some Jvm.ClassFile.FieldType.int)) ∈ wsG := wsG_mem (List.mem_append_right _ (tm6 (List.mem_of_getElem? (i := 167) rfl))) rfl
theorem w_1365 : (Jvm.Cond.instanceMethod ({ cls := "LeavesOfMudModel", name := "hand", desc := "()I" } : Jvm.MethodName)) ∈ wsG := wsG_mem (List.mem_append_right _ (tm6 (List.mem_of_getElem? (i := 165) rfl))) rfl
theorem w_1366 : (Jvm.Cond.selects "LeavesOfMudModel" ({ cls := "LeavesOfMudModel", name := "hand", desc := "()I" } : Jvm.MethodName) ({ cls := "LeavesOfMudModel", name := "hand", desc := "()I" } : Jvm.MethodName)) ∈ wsG := wsG_mem (List.mem_append_right _ (tm6 (List.mem_of_getElem? (i := 166) rfl))) rfl
theorem w_1371 : (Jvm.Cond.code ({ cls := "LeavesOfMudModel", name := "law", desc := "()I" } : Jvm.MethodName) prog_11_method_26_code (3 : Nat) (Option.some Jvm.ClassFile.FieldType.int)) ∈ wsG := wsG_mem (List.mem_append_right _ (tm6 (List.mem_of_getElem? (i := 171) rfl))) rfl
theorem w_1369 : (Jvm.Cond.instanceMethod ({ cls := "LeavesOfMudModel", name := "law", desc := "()I" } : Jvm.MethodName)) ∈ wsG := wsG_mem (List.mem_append_right _ (tm6 (List.mem_of_getElem? (i := 169) rfl))) rfl
theorem w_1370 : (Jvm.Cond.selects "LeavesOfMudModel" ({ cls := "LeavesOfMudModel", name := "law", desc := "()I" } : Jvm.MethodName) ({ cls := "LeavesOfMudModel", name := "law", desc := "()I" } : Jvm.MethodName)) ∈ wsG := wsG_mem (List.mem_append_right _ (tm6 (List.mem_of_getElem? (i := 170) rfl))) rfl
theorem w_1375 : (Jvm.Cond.code ({ cls := "LeavesOfMudModel", name := "at", desc := "(III)I" } : Jvm.MethodName) prog_11_method_32_code (4 : Nat) (Option.some Jvm.ClassFile.FieldType.int)) ∈ wsG := wsG_mem (List.mem_append_right _ (tm6 (List.mem_of_getElem? (i := 175) rfl))) rfl
theorem w_1373 : (Jvm.Cond.instanceMethod ({ cls := "LeavesOfMudModel", name := "at", desc := "(III)I" } : Jvm.MethodName)) ∈ wsG := wsG_mem (List.mem_append_right _ (tm6 (List.mem_of_getElem? (i := 173) rfl))) rfl
theorem w_1374 : (Jvm.Cond.selects "LeavesOfMudModel" ({ cls := "LeavesOfMudModel", name := "at", desc := "(III)I" } : Jvm.MethodName) ({ cls := "LeavesOfMudModel", name := "at", desc := "(III)I" } : Jvm.MethodName)) ∈ wsG := wsG_mem (List.mem_append_right _ (tm6 (List.mem_of_getElem? (i := 174) rfl))) rfl
theorem w_1388 : (Jvm.Cond.code ({ cls := "LeavesOfMudModel", name := "years", desc := "(II)I" } : Jvm.MethodName) prog_11_method_33_code (3 : Nat) (Option.some Jvm.ClassFile.FieldType.int)) ∈ wsG := wsG_mem (List.mem_append_right _ (tm6 (List.mem_of_getElem? (i := 188) rfl))) rfl
theorem w_1386 : (Jvm.Cond.instanceMethod ({ cls := "LeavesOfMudModel", name := "years", desc := "(II)I" } : Jvm.MethodName)) ∈ wsG := wsG_mem (List.mem_append_right _ (tm6 (List.mem_of_getElem? (i := 186) rfl))) rfl
theorem w_1387 : (Jvm.Cond.selects "LeavesOfMudModel" ({ cls := "LeavesOfMudModel", name := "years", desc := "(II)I" } : Jvm.MethodName) ({ cls := "LeavesOfMudModel", name := "years", desc := "(II)I" } : Jvm.MethodName)) ∈ wsG := wsG_mem (List.mem_append_right _ (tm6 (List.mem_of_getElem? (i := 187) rfl))) rfl
theorem w_1392 : (Jvm.Cond.code ({ cls := "LeavesOfMudModel", name := "lean", desc := "(II)I" } : Jvm.MethodName) prog_11_method_34_code (5 : Nat) (Option.some Jvm.ClassFile.FieldType.int)) ∈ wsG := wsG_mem (List.mem_append_right _ (tm6 (List.mem_of_getElem? (i := 192) rfl))) rfl
theorem w_1390 : (Jvm.Cond.instanceMethod ({ cls := "LeavesOfMudModel", name := "lean", desc := "(II)I" } : Jvm.MethodName)) ∈ wsG := wsG_mem (List.mem_append_right _ (tm6 (List.mem_of_getElem? (i := 190) rfl))) rfl
theorem w_1391 : (Jvm.Cond.selects "LeavesOfMudModel" ({ cls := "LeavesOfMudModel", name := "lean", desc := "(II)I" } : Jvm.MethodName) ({ cls := "LeavesOfMudModel", name := "lean", desc := "(II)I" } : Jvm.MethodName)) ∈ wsG := wsG_mem (List.mem_append_right _ (tm6 (List.mem_of_getElem? (i := 191) rfl))) rfl
theorem w_1397 : (Jvm.Cond.code ({ cls := "LeavesOfMudModel", name := "like", desc := "(III)I" } : Jvm.MethodName) prog_11_method_39_code (4 : Nat) (Option.some Jvm.ClassFile.FieldType.int)) ∈ wsG := wsG_mem (List.mem_append_right _ (tm6 (List.mem_of_getElem? (i := 197) rfl))) rfl
theorem w_1395 : (Jvm.Cond.instanceMethod ({ cls := "LeavesOfMudModel", name := "like", desc := "(III)I" } : Jvm.MethodName)) ∈ wsG := wsG_mem (List.mem_append_right _ (tm6 (List.mem_of_getElem? (i := 195) rfl))) rfl
theorem w_1396 : (Jvm.Cond.selects "LeavesOfMudModel" ({ cls := "LeavesOfMudModel", name := "like", desc := "(III)I" } : Jvm.MethodName) ({ cls := "LeavesOfMudModel", name := "like", desc := "(III)I" } : Jvm.MethodName)) ∈ wsG := wsG_mem (List.mem_append_right _ (tm6 (List.mem_of_getElem? (i := 196) rfl))) rfl
theorem w_1424 : (Jvm.Cond.code ({ cls := "LeavesOfMudModel", name := "slide", desc := "(III)I" } : Jvm.MethodName) prog_11_method_41_code (11 : Nat) (Option.some Jvm.ClassFile.FieldType.int)) ∈ wsG := wsG_mem (List.mem_append_right _ (tm6 (List.mem_of_getElem? (i := 224) rfl))) rfl
theorem w_1422 : (Jvm.Cond.instanceMethod ({ cls := "LeavesOfMudModel", name := "slide", desc := "(III)I" } : Jvm.MethodName)) ∈ wsG := wsG_mem (List.mem_append_right _ (tm6 (List.mem_of_getElem? (i := 222) rfl))) rfl
theorem w_1423 : (Jvm.Cond.selects "LeavesOfMudModel" ({ cls := "LeavesOfMudModel", name := "slide", desc := "(III)I" } : Jvm.MethodName) ({ cls := "LeavesOfMudModel", name := "slide", desc := "(III)I" } : Jvm.MethodName)) ∈ wsG := wsG_mem (List.mem_append_right _ (tm6 (List.mem_of_getElem? (i := 223) rfl))) rfl
theorem w_1429 : (Jvm.Cond.code ({ cls := "LeavesOfMudModel", name := "chance", desc := "(IIII)I" } : Jvm.MethodName) prog_11_method_45_code (7 : Nat) (Option.some Jvm.ClassFile.FieldType.int)) ∈ wsG := wsG_mem (List.mem_append_right _ (tm6 (List.mem_of_getElem? (i := 229) rfl))) rfl
theorem w_1427 : (Jvm.Cond.instanceMethod ({ cls := "LeavesOfMudModel", name := "chance", desc := "(IIII)I" } : Jvm.MethodName)) ∈ wsG := wsG_mem (List.mem_append_right _ (tm6 (List.mem_of_getElem? (i := 227) rfl))) rfl
theorem w_1428 : (Jvm.Cond.selects "LeavesOfMudModel" ({ cls := "LeavesOfMudModel", name := "chance", desc := "(IIII)I" } : Jvm.MethodName) ({ cls := "LeavesOfMudModel", name := "chance", desc := "(IIII)I" } : Jvm.MethodName)) ∈ wsG := wsG_mem (List.mem_append_right _ (tm6 (List.mem_of_getElem? (i := 228) rfl))) rfl
theorem w_1442 : (Jvm.Cond.code ({ cls := "LeavesOfMudModel", name := "together", desc := "(IIII)I" } : Jvm.MethodName) prog_11_method_54_code (5 : Nat) (Option.some Jvm.ClassFile.FieldType.int)) ∈ wsG := wsG_mem (List.mem_append_right _ (tm7 (List.mem_of_getElem? (i := 2) rfl))) rfl
theorem w_1440 : (Jvm.Cond.instanceMethod ({ cls := "LeavesOfMudModel", name := "together", desc := "(IIII)I" } : Jvm.MethodName)) ∈ wsG := wsG_mem (List.mem_append_right _ (tm7 (List.mem_of_getElem? (i := 0) rfl))) rfl
theorem w_1441 : (Jvm.Cond.selects "LeavesOfMudModel" ({ cls := "LeavesOfMudModel", name := "together", desc := "(IIII)I" } : Jvm.MethodName) ({ cls := "LeavesOfMudModel", name := "together", desc := "(IIII)I" } : Jvm.MethodName)) ∈ wsG := wsG_mem (List.mem_append_right _ (tm7 (List.mem_of_getElem? (i := 1) rfl))) rfl
theorem w_1484 : (Jvm.Cond.code ({ cls := "LeavesOfMudModel", name := "lies", desc := "(IIII)I" } : Jvm.MethodName) prog_11_method_55_code (5 : Nat) (Option.some Jvm.ClassFile.FieldType.int)) ∈ wsG := wsG_mem (List.mem_append_right _ (tm7 (List.mem_of_getElem? (i := 44) rfl))) rfl
theorem w_1482 : (Jvm.Cond.instanceMethod ({ cls := "LeavesOfMudModel", name := "lies", desc := "(IIII)I" } : Jvm.MethodName)) ∈ wsG := wsG_mem (List.mem_append_right _ (tm7 (List.mem_of_getElem? (i := 42) rfl))) rfl
theorem w_1483 : (Jvm.Cond.selects "LeavesOfMudModel" ({ cls := "LeavesOfMudModel", name := "lies", desc := "(IIII)I" } : Jvm.MethodName) ({ cls := "LeavesOfMudModel", name := "lies", desc := "(IIII)I" } : Jvm.MethodName)) ∈ wsG := wsG_mem (List.mem_append_right _ (tm7 (List.mem_of_getElem? (i := 43) rfl))) rfl
theorem w_1488 : (Jvm.Cond.code ({ cls := "LeavesOfMudModel", name := "sure", desc := "(IIII)I" } : Jvm.MethodName) prog_11_method_56_code (6 : Nat) (Option.some Jvm.ClassFile.FieldType.int)) ∈ wsG := wsG_mem (List.mem_append_right _ (tm7 (List.mem_of_getElem? (i := 48) rfl))) rfl
theorem w_1486 : (Jvm.Cond.instanceMethod ({ cls := "LeavesOfMudModel", name := "sure", desc := "(IIII)I" } : Jvm.MethodName)) ∈ wsG := wsG_mem (List.mem_append_right _ (tm7 (List.mem_of_getElem? (i := 46) rfl))) rfl
theorem w_1487 : (Jvm.Cond.selects "LeavesOfMudModel" ({ cls := "LeavesOfMudModel", name := "sure", desc := "(IIII)I" } : Jvm.MethodName) ({ cls := "LeavesOfMudModel", name := "sure", desc := "(IIII)I" } : Jvm.MethodName)) ∈ wsG := wsG_mem (List.mem_append_right _ (tm7 (List.mem_of_getElem? (i := 47) rfl))) rfl
theorem w_1528 : (Jvm.Cond.code ({ cls := "LeavesOfMudModel", name := "layNet", desc := "(I)Z" } : Jvm.MethodName) prog_11_method_65_code (8 : Nat) (Option.some Jvm.ClassFile.FieldType.boolean)) ∈ wsG := wsG_mem (List.mem_append_right _ (tm7 (List.mem_of_getElem? (i := 88) rfl))) rfl
theorem w_1527 : (Jvm.Cond.instanceMethod ({ cls := "LeavesOfMudModel", name := "layNet", desc := "(I)Z" } : Jvm.MethodName)) ∈ wsG := wsG_mem (List.mem_append_right _ (tm7 (List.mem_of_getElem? (i := 87) rfl))) rfl
theorem wp_113 : Cond.selects "LeavesOfMudModel" ⟨"LeavesOfMudModel", "layNet", "(I)Z"⟩ ⟨"LeavesOfMudModel", "layNet", "(I)Z"⟩ ∈ wsG := wsG_mem (List.mem_append_left _ (List.mem_map_of_mem (f := fun q : MethodName × Nat => Cond.selects q.1.cls q.1 q.1) (List.mem_of_getElem? (i := 113) (rfl : lw_privs[113]? = some (⟨"LeavesOfMudModel", "layNet", "(I)Z"⟩, _))))) rfl
theorem w_1600 : (Jvm.Cond.code ({ cls := "LeavesOfMudModel", name := "tookBy", desc := "(III)I" } : Jvm.MethodName) prog_11_method_82_code (11 : Nat) (Option.some Jvm.ClassFile.FieldType.int)) ∈ wsG := wsG_mem (List.mem_append_right _ (tm7 (List.mem_of_getElem? (i := 160) rfl))) rfl
theorem w_1599 : (Jvm.Cond.instanceMethod ({ cls := "LeavesOfMudModel", name := "tookBy", desc := "(III)I" } : Jvm.MethodName)) ∈ wsG := wsG_mem (List.mem_append_right _ (tm7 (List.mem_of_getElem? (i := 159) rfl))) rfl
theorem wp_122 : Cond.selects "LeavesOfMudModel" ⟨"LeavesOfMudModel", "tookBy", "(III)I"⟩ ⟨"LeavesOfMudModel", "tookBy", "(III)I"⟩ ∈ wsG := wsG_mem (List.mem_append_left _ (List.mem_map_of_mem (f := fun q : MethodName × Nat => Cond.selects q.1.cls q.1 q.1) (List.mem_of_getElem? (i := 122) (rfl : lw_privs[122]? = some (⟨"LeavesOfMudModel", "tookBy", "(III)I"⟩, _))))) rfl
theorem w_1629 : (Jvm.Cond.code ({ cls := "LeavesOfMudModel", name := "tellPit", desc := "(I)V" } : Jvm.MethodName) prog_11_method_89_code (3 : Nat) (Option.none : Option Jvm.ClassFile.FieldType)) ∈ wsG := wsG_mem (List.mem_append_right _ (tm7 (List.mem_of_getElem? (i := 189) rfl))) rfl
theorem w_1628 : (Jvm.Cond.instanceMethod ({ cls := "LeavesOfMudModel", name := "tellPit", desc := "(I)V" } : Jvm.MethodName)) ∈ wsG := wsG_mem (List.mem_append_right _ (tm7 (List.mem_of_getElem? (i := 188) rfl))) rfl
theorem wp_125 : Cond.selects "LeavesOfMudModel" ⟨"LeavesOfMudModel", "tellPit", "(I)V"⟩ ⟨"LeavesOfMudModel", "tellPit", "(I)V"⟩ ∈ wsG := wsG_mem (List.mem_append_left _ (List.mem_map_of_mem (f := fun q : MethodName × Nat => Cond.selects q.1.cls q.1 q.1) (List.mem_of_getElem? (i := 125) (rfl : lw_privs[125]? = some (⟨"LeavesOfMudModel", "tellPit", "(I)V"⟩, _))))) rfl
theorem w_1638 : (Jvm.Cond.code ({ cls := "LeavesOfMudModel", name := "tellLaw", desc := "(I)V" } : Jvm.MethodName) prog_11_method_90_code (4 : Nat) (Option.none : Option Jvm.ClassFile.FieldType)) ∈ wsG := wsG_mem (List.mem_append_right _ (tm7 (List.mem_of_getElem? (i := 198) rfl))) rfl
theorem w_1637 : (Jvm.Cond.instanceMethod ({ cls := "LeavesOfMudModel", name := "tellLaw", desc := "(I)V" } : Jvm.MethodName)) ∈ wsG := wsG_mem (List.mem_append_right _ (tm7 (List.mem_of_getElem? (i := 197) rfl))) rfl
theorem wp_127 : Cond.selects "LeavesOfMudModel" ⟨"LeavesOfMudModel", "tellLaw", "(I)V"⟩ ⟨"LeavesOfMudModel", "tellLaw", "(I)V"⟩ ∈ wsG := wsG_mem (List.mem_append_left _ (List.mem_map_of_mem (f := fun q : MethodName × Nat => Cond.selects q.1.cls q.1 q.1) (List.mem_of_getElem? (i := 127) (rfl : lw_privs[127]? = some (⟨"LeavesOfMudModel", "tellLaw", "(I)V"⟩, _))))) rfl
theorem w_832 : (Jvm.Cond.code ({ cls := "LeavesOfMud$Net", name := "weaveWhole", desc := "()Z" } : Jvm.MethodName) prog_5_method_2_code (1 : Nat) (Option.some Jvm.ClassFile.FieldType.boolean)) ∈ wsG := wsG_mem (List.mem_append_right _ (tm4 (List.mem_of_getElem? (i := 112) rfl))) rfl
theorem w_831 : (Jvm.Cond.instanceMethod ({ cls := "LeavesOfMud$Net", name := "weaveWhole", desc := "()Z" } : Jvm.MethodName)) ∈ wsG := wsG_mem (List.mem_append_right _ (tm4 (List.mem_of_getElem? (i := 111) rfl))) rfl
theorem wp_49 : Cond.selects "LeavesOfMud$Net" ⟨"LeavesOfMud$Net", "weaveWhole", "()Z"⟩ ⟨"LeavesOfMud$Net", "weaveWhole", "()Z"⟩ ∈ wsG := wsG_mem (List.mem_append_left _ (List.mem_map_of_mem (f := fun q : MethodName × Nat => Cond.selects q.1.cls q.1 q.1) (List.mem_of_getElem? (i := 49) (rfl : lw_privs[49]? = some (⟨"LeavesOfMud$Net", "weaveWhole", "()Z"⟩, _))))) rfl
theorem w_933 : (Jvm.Cond.code ({ cls := "LeavesOfMud$Net", name := "leastCast", desc := "()I" } : Jvm.MethodName) prog_5_method_19_code (1 : Nat) (Option.some Jvm.ClassFile.FieldType.int)) ∈ wsG := wsG_mem (List.mem_append_right _ (tm4 (List.mem_of_getElem? (i := 213) rfl))) rfl
theorem w_932 : (Jvm.Cond.instanceMethod ({ cls := "LeavesOfMud$Net", name := "leastCast", desc := "()I" } : Jvm.MethodName)) ∈ wsG := wsG_mem (List.mem_append_right _ (tm4 (List.mem_of_getElem? (i := 212) rfl))) rfl
theorem wp_65 : Cond.selects "LeavesOfMud$Net" ⟨"LeavesOfMud$Net", "leastCast", "()I"⟩ ⟨"LeavesOfMud$Net", "leastCast", "()I"⟩ ∈ wsG := wsG_mem (List.mem_append_left _ (List.mem_map_of_mem (f := fun q : MethodName × Nat => Cond.selects q.1.cls q.1 q.1) (List.mem_of_getElem? (i := 65) (rfl : lw_privs[65]? = some (⟨"LeavesOfMud$Net", "leastCast", "()I"⟩, _))))) rfl
theorem w_957 : (Jvm.Cond.code ({ cls := "LeavesOfMud$Net", name := "isWiderWithout", desc := "(III)Z" } : Jvm.MethodName) prog_5_method_24_code (4 : Nat) (Option.some Jvm.ClassFile.FieldType.boolean)) ∈ wsG := wsG_mem (List.mem_append_right _ (tm4 (List.mem_of_getElem? (i := 237) rfl))) rfl
theorem w_956 : (Jvm.Cond.instanceMethod ({ cls := "LeavesOfMud$Net", name := "isWiderWithout", desc := "(III)Z" } : Jvm.MethodName)) ∈ wsG := wsG_mem (List.mem_append_right _ (tm4 (List.mem_of_getElem? (i := 236) rfl))) rfl
theorem wp_70 : Cond.selects "LeavesOfMud$Net" ⟨"LeavesOfMud$Net", "isWiderWithout", "(III)Z"⟩ ⟨"LeavesOfMud$Net", "isWiderWithout", "(III)Z"⟩ ∈ wsG := wsG_mem (List.mem_append_left _ (List.mem_map_of_mem (f := fun q : MethodName × Nat => Cond.selects q.1.cls q.1 q.1) (List.mem_of_getElem? (i := 70) (rfl : lw_privs[70]? = some (⟨"LeavesOfMud$Net", "isWiderWithout", "(III)Z"⟩, _))))) rfl
theorem w_965 : (Jvm.Cond.code ({ cls := "LeavesOfMud$Net", name := "findDig", desc := "()V" } : Jvm.MethodName) prog_5_method_25_code (4 : Nat) (Option.none : Option Jvm.ClassFile.FieldType)) ∈ wsG := wsG_mem (List.mem_append_right _ (tm5 (List.mem_of_getElem? (i := 5) rfl))) rfl
theorem w_964 : (Jvm.Cond.instanceMethod ({ cls := "LeavesOfMud$Net", name := "findDig", desc := "()V" } : Jvm.MethodName)) ∈ wsG := wsG_mem (List.mem_append_right _ (tm5 (List.mem_of_getElem? (i := 4) rfl))) rfl
theorem wp_71 : Cond.selects "LeavesOfMud$Net" ⟨"LeavesOfMud$Net", "findDig", "()V"⟩ ⟨"LeavesOfMud$Net", "findDig", "()V"⟩ ∈ wsG := wsG_mem (List.mem_append_left _ (List.mem_map_of_mem (f := fun q : MethodName × Nat => Cond.selects q.1.cls q.1 q.1) (List.mem_of_getElem? (i := 71) (rfl : lw_privs[71]? = some (⟨"LeavesOfMud$Net", "findDig", "()V"⟩, _))))) rfl
theorem w_703 : (Jvm.Cond.code ({ cls := "LeavesOfMud$Pairing", name := "fillAll", desc := "()V" } : Jvm.MethodName) prog_7_method_8_code (3 : Nat) (Option.none : Option Jvm.ClassFile.FieldType)) ∈ wsG := wsG_mem (List.mem_append_right _ (tm3 (List.mem_of_getElem? (i := 223) rfl))) rfl
theorem w_702 : (Jvm.Cond.instanceMethod ({ cls := "LeavesOfMud$Pairing", name := "fillAll", desc := "()V" } : Jvm.MethodName)) ∈ wsG := wsG_mem (List.mem_append_right _ (tm3 (List.mem_of_getElem? (i := 222) rfl))) rfl
theorem wp_30 : Cond.selects "LeavesOfMud$Pairing" ⟨"LeavesOfMud$Pairing", "fillAll", "()V"⟩ ⟨"LeavesOfMud$Pairing", "fillAll", "()V"⟩ ∈ wsG := wsG_mem (List.mem_append_left _ (List.mem_map_of_mem (f := fun q : MethodName × Nat => Cond.selects q.1.cls q.1 q.1) (List.mem_of_getElem? (i := 30) (rfl : lw_privs[30]? = some (⟨"LeavesOfMud$Pairing", "fillAll", "()V"⟩, _))))) rfl
theorem w_754 : (Jvm.Cond.code ({ cls := "LeavesOfMud$Pairing", name := "goTheWay", desc := "()V" } : Jvm.MethodName) prog_7_method_16_code (6 : Nat) (Option.none : Option Jvm.ClassFile.FieldType)) ∈ wsG := wsG_mem (List.mem_append_right _ (tm4 (List.mem_of_getElem? (i := 34) rfl))) rfl
theorem w_753 : (Jvm.Cond.instanceMethod ({ cls := "LeavesOfMud$Pairing", name := "goTheWay", desc := "()V" } : Jvm.MethodName)) ∈ wsG := wsG_mem (List.mem_append_right _ (tm4 (List.mem_of_getElem? (i := 33) rfl))) rfl
theorem wp_39 : Cond.selects "LeavesOfMud$Pairing" ⟨"LeavesOfMud$Pairing", "goTheWay", "()V"⟩ ⟨"LeavesOfMud$Pairing", "goTheWay", "()V"⟩ ∈ wsG := wsG_mem (List.mem_append_left _ (List.mem_map_of_mem (f := fun q : MethodName × Nat => Cond.selects q.1.cls q.1 q.1) (List.mem_of_getElem? (i := 39) (rfl : lw_privs[39]? = some (⟨"LeavesOfMud$Pairing", "goTheWay", "()V"⟩, _))))) rfl
theorem w_1005 : (Jvm.Cond.code ({ cls := "LeavesOfMud$Pits", name := "sharedAshAhead", desc := "(III)I" } : Jvm.MethodName) prog_8_method_13_code (5 : Nat) (Option.some Jvm.ClassFile.FieldType.int)) ∈ wsG := wsG_mem (List.mem_append_right _ (tm5 (List.mem_of_getElem? (i := 45) rfl))) rfl
theorem w_1004 : (Jvm.Cond.instanceMethod ({ cls := "LeavesOfMud$Pits", name := "sharedAshAhead", desc := "(III)I" } : Jvm.MethodName)) ∈ wsG := wsG_mem (List.mem_append_right _ (tm5 (List.mem_of_getElem? (i := 44) rfl))) rfl
theorem wp_77 : Cond.selects "LeavesOfMud$Pits" ⟨"LeavesOfMud$Pits", "sharedAshAhead", "(III)I"⟩ ⟨"LeavesOfMud$Pits", "sharedAshAhead", "(III)I"⟩ ∈ wsG := wsG_mem (List.mem_append_left _ (List.mem_map_of_mem (f := fun q : MethodName × Nat => Cond.selects q.1.cls q.1 q.1) (List.mem_of_getElem? (i := 77) (rfl : lw_privs[77]? = some (⟨"LeavesOfMud$Pits", "sharedAshAhead", "(III)I"⟩, _))))) rfl
theorem w_1019 : (Jvm.Cond.code ({ cls := "LeavesOfMud$Pits", name := "sharedAshBehind", desc := "(III)I" } : Jvm.MethodName) prog_8_method_14_code (5 : Nat) (Option.some Jvm.ClassFile.FieldType.int)) ∈ wsG := wsG_mem (List.mem_append_right _ (tm5 (List.mem_of_getElem? (i := 59) rfl))) rfl
theorem w_1018 : (Jvm.Cond.instanceMethod ({ cls := "LeavesOfMud$Pits", name := "sharedAshBehind", desc := "(III)I" } : Jvm.MethodName)) ∈ wsG := wsG_mem (List.mem_append_right _ (tm5 (List.mem_of_getElem? (i := 58) rfl))) rfl
theorem wp_80 : Cond.selects "LeavesOfMud$Pits" ⟨"LeavesOfMud$Pits", "sharedAshBehind", "(III)I"⟩ ⟨"LeavesOfMud$Pits", "sharedAshBehind", "(III)I"⟩ ∈ wsG := wsG_mem (List.mem_append_left _ (List.mem_map_of_mem (f := fun q : MethodName × Nat => Cond.selects q.1.cls q.1 q.1) (List.mem_of_getElem? (i := 80) (rfl : lw_privs[80]? = some (⟨"LeavesOfMud$Pits", "sharedAshBehind", "(III)I"⟩, _))))) rfl
theorem w_398 : (Jvm.Cond.code ({ cls := "LeavesOfMud", name := "about", desc := "(III)I" } : Jvm.MethodName) prog_1_method_5_code (4 : Nat) (Option.some Jvm.ClassFile.FieldType.int)) ∈ wsG := wsG_mem (List.mem_append_right _ (tm2 (List.mem_of_getElem? (i := 158) rfl))) rfl
theorem w_396 : (Jvm.Cond.instanceMethod ({ cls := "LeavesOfMud", name := "about", desc := "(III)I" } : Jvm.MethodName)) ∈ wsG := wsG_mem (List.mem_append_right _ (tm2 (List.mem_of_getElem? (i := 156) rfl))) rfl
theorem w_397 : (Jvm.Cond.selects "LeavesOfMud" ({ cls := "LeavesOfMud", name := "about", desc := "(III)I" } : Jvm.MethodName) ({ cls := "LeavesOfMud", name := "about", desc := "(III)I" } : Jvm.MethodName)) ∈ wsG := wsG_mem (List.mem_append_right _ (tm2 (List.mem_of_getElem? (i := 157) rfl))) rfl
theorem w_658 : (Jvm.Cond.code ({ cls := "LeavesOfMud", name := "slide", desc := "(III)I" } : Jvm.MethodName) prog_1_method_18_code (4 : Nat) (Option.some Jvm.ClassFile.FieldType.int)) ∈ wsG := wsG_mem (List.mem_append_right _ (tm3 (List.mem_of_getElem? (i := 178) rfl))) rfl
theorem w_656 : (Jvm.Cond.instanceMethod ({ cls := "LeavesOfMud", name := "slide", desc := "(III)I" } : Jvm.MethodName)) ∈ wsG := wsG_mem (List.mem_append_right _ (tm3 (List.mem_of_getElem? (i := 176) rfl))) rfl
theorem w_657 : (Jvm.Cond.selects "LeavesOfMud" ({ cls := "LeavesOfMud", name := "slide", desc := "(III)I" } : Jvm.MethodName) ({ cls := "LeavesOfMud", name := "slide", desc := "(III)I" } : Jvm.MethodName)) ∈ wsG := wsG_mem (List.mem_append_right _ (tm3 (List.mem_of_getElem? (i := 177) rfl))) rfl
theorem w_669 : (Jvm.Cond.code ({ cls := "LeavesOfMud", name := "chance", desc := "(IIII)I" } : Jvm.MethodName) prog_1_method_19_code (5 : Nat) (Option.some Jvm.ClassFile.FieldType.int)) ∈ wsG := wsG_mem (List.mem_append_right _ (tm3 (List.mem_of_getElem? (i := 189) rfl))) rfl
theorem w_667 : (Jvm.Cond.instanceMethod ({ cls := "LeavesOfMud", name := "chance", desc := "(IIII)I" } : Jvm.MethodName)) ∈ wsG := wsG_mem (List.mem_append_right _ (tm3 (List.mem_of_getElem? (i := 187) rfl))) rfl
theorem w_668 : (Jvm.Cond.selects "LeavesOfMud" ({ cls := "LeavesOfMud", name := "chance", desc := "(IIII)I" } : Jvm.MethodName) ({ cls := "LeavesOfMud", name := "chance", desc := "(IIII)I" } : Jvm.MethodName)) ∈ wsG := wsG_mem (List.mem_append_right _ (tm3 (List.mem_of_getElem? (i := 188) rfl))) rfl
theorem w_899 : (Jvm.Cond.code ({ cls := "LeavesOfMud", name := "calendars", desc := "(I)I" } : Jvm.MethodName) prog_1_method_31_code (2 : Nat) (Option.some Jvm.ClassFile.FieldType.int)) ∈ wsG := wsG_mem (List.mem_append_right _ (tm4 (List.mem_of_getElem? (i := 179) rfl))) rfl
theorem w_897 : (Jvm.Cond.instanceMethod ({ cls := "LeavesOfMud", name := "calendars", desc := "(I)I" } : Jvm.MethodName)) ∈ wsG := wsG_mem (List.mem_append_right _ (tm4 (List.mem_of_getElem? (i := 177) rfl))) rfl
theorem w_898 : (Jvm.Cond.selects "LeavesOfMud" ({ cls := "LeavesOfMud", name := "calendars", desc := "(I)I" } : Jvm.MethodName) ({ cls := "LeavesOfMud", name := "calendars", desc := "(I)I" } : Jvm.MethodName)) ∈ wsG := wsG_mem (List.mem_append_right _ (tm4 (List.mem_of_getElem? (i := 178) rfl))) rfl
theorem w_1520 : (Jvm.Cond.code ({ cls := "LeavesOfMudModel", name := "layKept", desc := "()Z" } : Jvm.MethodName) prog_11_method_67_code (1 : Nat) (Option.some Jvm.ClassFile.FieldType.boolean)) ∈ wsG := wsG_mem (List.mem_append_right _ (tm7 (List.mem_of_getElem? (i := 80) rfl))) rfl
theorem w_1519 : (Jvm.Cond.instanceMethod ({ cls := "LeavesOfMudModel", name := "layKept", desc := "()Z" } : Jvm.MethodName)) ∈ wsG := wsG_mem (List.mem_append_right _ (tm7 (List.mem_of_getElem? (i := 79) rfl))) rfl
theorem wp_111 : Cond.selects "LeavesOfMudModel" ⟨"LeavesOfMudModel", "layKept", "()Z"⟩ ⟨"LeavesOfMudModel", "layKept", "()Z"⟩ ∈ wsG := wsG_mem (List.mem_append_left _ (List.mem_map_of_mem (f := fun q : MethodName × Nat => Cond.selects q.1.cls q.1 q.1) (List.mem_of_getElem? (i := 111) (rfl : lw_privs[111]? = some (⟨"LeavesOfMudModel", "layKept", "()Z"⟩, _))))) rfl
theorem w_1567 : (Jvm.Cond.code ({ cls := "LeavesOfMudModel", name := "castOut", desc := "()I" } : Jvm.MethodName) prog_11_method_76_code (6 : Nat) (Option.some Jvm.ClassFile.FieldType.int)) ∈ wsG := wsG_mem (List.mem_append_right _ (tm7 (List.mem_of_getElem? (i := 127) rfl))) rfl
theorem w_1565 : (Jvm.Cond.instanceMethod ({ cls := "LeavesOfMudModel", name := "castOut", desc := "()I" } : Jvm.MethodName)) ∈ wsG := wsG_mem (List.mem_append_right _ (tm7 (List.mem_of_getElem? (i := 125) rfl))) rfl
theorem w_1566 : (Jvm.Cond.selects "LeavesOfMudModel" ({ cls := "LeavesOfMudModel", name := "castOut", desc := "()I" } : Jvm.MethodName) ({ cls := "LeavesOfMudModel", name := "castOut", desc := "()I" } : Jvm.MethodName)) ∈ wsG := wsG_mem (List.mem_append_right _ (tm7 (List.mem_of_getElem? (i := 126) rfl))) rfl
theorem w_1596 : (Jvm.Cond.code ({ cls := "LeavesOfMudModel", name := "took", desc := "(III)I" } : Jvm.MethodName) prog_11_method_83_code (8 : Nat) (Option.some Jvm.ClassFile.FieldType.int)) ∈ wsG := wsG_mem (List.mem_append_right _ (tm7 (List.mem_of_getElem? (i := 156) rfl))) rfl
theorem w_1594 : (Jvm.Cond.instanceMethod ({ cls := "LeavesOfMudModel", name := "took", desc := "(III)I" } : Jvm.MethodName)) ∈ wsG := wsG_mem (List.mem_append_right _ (tm7 (List.mem_of_getElem? (i := 154) rfl))) rfl
theorem w_1595 : (Jvm.Cond.selects "LeavesOfMudModel" ({ cls := "LeavesOfMudModel", name := "took", desc := "(III)I" } : Jvm.MethodName) ({ cls := "LeavesOfMudModel", name := "took", desc := "(III)I" } : Jvm.MethodName)) ∈ wsG := wsG_mem (List.mem_append_right _ (tm7 (List.mem_of_getElem? (i := 155) rfl))) rfl
theorem w_953 : (Jvm.Cond.code ({ cls := "LeavesOfMud$Net", name := "joinsThatHold", desc := "(II)I" } : Jvm.MethodName) prog_5_method_23_code (5 : Nat) (Option.some Jvm.ClassFile.FieldType.int)) ∈ wsG := wsG_mem (List.mem_append_right _ (tm4 (List.mem_of_getElem? (i := 233) rfl))) rfl
theorem w_952 : (Jvm.Cond.instanceMethod ({ cls := "LeavesOfMud$Net", name := "joinsThatHold", desc := "(II)I" } : Jvm.MethodName)) ∈ wsG := wsG_mem (List.mem_append_right _ (tm4 (List.mem_of_getElem? (i := 232) rfl))) rfl
theorem wp_69 : Cond.selects "LeavesOfMud$Net" ⟨"LeavesOfMud$Net", "joinsThatHold", "(II)I"⟩ ⟨"LeavesOfMud$Net", "joinsThatHold", "(II)I"⟩ ∈ wsG := wsG_mem (List.mem_append_left _ (List.mem_map_of_mem (f := fun q : MethodName × Nat => Cond.selects q.1.cls q.1 q.1) (List.mem_of_getElem? (i := 69) (rfl : lw_privs[69]? = some (⟨"LeavesOfMud$Net", "joinsThatHold", "(II)I"⟩, _))))) rfl
theorem w_688 : (Jvm.Cond.code ({ cls := "LeavesOfMud$Pairing", name := "setTogether", desc := "(III)V" } : Jvm.MethodName) prog_7_method_2_code (4 : Nat) (Option.none : Option Jvm.ClassFile.FieldType)) ∈ wsG := wsG_mem (List.mem_append_right _ (tm3 (List.mem_of_getElem? (i := 208) rfl))) rfl
theorem w_687 : (Jvm.Cond.instanceMethod ({ cls := "LeavesOfMud$Pairing", name := "setTogether", desc := "(III)V" } : Jvm.MethodName)) ∈ wsG := wsG_mem (List.mem_append_right _ (tm3 (List.mem_of_getElem? (i := 207) rfl))) rfl
theorem wp_27 : Cond.selects "LeavesOfMud$Pairing" ⟨"LeavesOfMud$Pairing", "setTogether", "(III)V"⟩ ⟨"LeavesOfMud$Pairing", "setTogether", "(III)V"⟩ ∈ wsG := wsG_mem (List.mem_append_left _ (List.mem_map_of_mem (f := fun q : MethodName × Nat => Cond.selects q.1.cls q.1 q.1) (List.mem_of_getElem? (i := 27) (rfl : lw_privs[27]? = some (⟨"LeavesOfMud$Pairing", "setTogether", "(III)V"⟩, _))))) rfl
theorem w_775 : (Jvm.Cond.code ({ cls := "LeavesOfMud$Pairing", name := "leastWithout", desc := "(II)I" } : Jvm.MethodName) prog_7_method_6_code (3 : Nat) (Option.some Jvm.ClassFile.FieldType.int)) ∈ wsG := wsG_mem (List.mem_append_right _ (tm4 (List.mem_of_getElem? (i := 55) rfl))) rfl
theorem w_774 : (Jvm.Cond.instanceMethod ({ cls := "LeavesOfMud$Pairing", name := "leastWithout", desc := "(II)I" } : Jvm.MethodName)) ∈ wsG := wsG_mem (List.mem_append_right _ (tm4 (List.mem_of_getElem? (i := 54) rfl))) rfl
theorem wp_42 : Cond.selects "LeavesOfMud$Pairing" ⟨"LeavesOfMud$Pairing", "leastWithout", "(II)I"⟩ ⟨"LeavesOfMud$Pairing", "leastWithout", "(II)I"⟩ ∈ wsG := wsG_mem (List.mem_append_left _ (List.mem_map_of_mem (f := fun q : MethodName × Nat => Cond.selects q.1.cls q.1 q.1) (List.mem_of_getElem? (i := 42) (rfl : lw_privs[42]? = some (⟨"LeavesOfMud$Pairing", "leastWithout", "(II)I"⟩, _))))) rfl
theorem w_828 : (Jvm.Cond.code ({ cls := "LeavesOfMud", name := "closes", desc := "()I" } : Jvm.MethodName) prog_1_method_28_code (1 : Nat) (Option.some Jvm.ClassFile.FieldType.int)) ∈ wsG := wsG_mem (List.mem_append_right _ (tm4 (List.mem_of_getElem? (i := 108) rfl))) rfl
theorem w_826 : (Jvm.Cond.instanceMethod ({ cls := "LeavesOfMud", name := "closes", desc := "()I" } : Jvm.MethodName)) ∈ wsG := wsG_mem (List.mem_append_right _ (tm4 (List.mem_of_getElem? (i := 106) rfl))) rfl
theorem w_827 : (Jvm.Cond.selects "LeavesOfMud" ({ cls := "LeavesOfMud", name := "closes", desc := "()I" } : Jvm.MethodName) ({ cls := "LeavesOfMud", name := "closes", desc := "()I" } : Jvm.MethodName)) ∈ wsG := wsG_mem (List.mem_append_right _ (tm4 (List.mem_of_getElem? (i := 107) rfl))) rfl
theorem w_878 : (Jvm.Cond.code ({ cls := "LeavesOfMud", name := "span", desc := "(III)I" } : Jvm.MethodName) prog_1_method_29_code (4 : Nat) (Option.some Jvm.ClassFile.FieldType.int)) ∈ wsG := wsG_mem (List.mem_append_right _ (tm4 (List.mem_of_getElem? (i := 158) rfl))) rfl
theorem w_876 : (Jvm.Cond.instanceMethod ({ cls := "LeavesOfMud", name := "span", desc := "(III)I" } : Jvm.MethodName)) ∈ wsG := wsG_mem (List.mem_append_right _ (tm4 (List.mem_of_getElem? (i := 156) rfl))) rfl
theorem w_877 : (Jvm.Cond.selects "LeavesOfMud" ({ cls := "LeavesOfMud", name := "span", desc := "(III)I" } : Jvm.MethodName) ({ cls := "LeavesOfMud", name := "span", desc := "(III)I" } : Jvm.MethodName)) ∈ wsG := wsG_mem (List.mem_append_right _ (tm4 (List.mem_of_getElem? (i := 157) rfl))) rfl
theorem w_895 : (Jvm.Cond.code ({ cls := "LeavesOfMud", name := "date", desc := "(III)I" } : Jvm.MethodName) prog_1_method_30_code (4 : Nat) (Option.some Jvm.ClassFile.FieldType.int)) ∈ wsG := wsG_mem (List.mem_append_right _ (tm4 (List.mem_of_getElem? (i := 175) rfl))) rfl
theorem w_893 : (Jvm.Cond.instanceMethod ({ cls := "LeavesOfMud", name := "date", desc := "(III)I" } : Jvm.MethodName)) ∈ wsG := wsG_mem (List.mem_append_right _ (tm4 (List.mem_of_getElem? (i := 173) rfl))) rfl
theorem w_894 : (Jvm.Cond.selects "LeavesOfMud" ({ cls := "LeavesOfMud", name := "date", desc := "(III)I" } : Jvm.MethodName) ({ cls := "LeavesOfMud", name := "date", desc := "(III)I" } : Jvm.MethodName)) ∈ wsG := wsG_mem (List.mem_append_right _ (tm4 (List.mem_of_getElem? (i := 174) rfl))) rfl
theorem w_929 : (Jvm.Cond.code ({ cls := "LeavesOfMud", name := "castOut", desc := "()I" } : Jvm.MethodName) prog_1_method_32_code (1 : Nat) (Option.some Jvm.ClassFile.FieldType.int)) ∈ wsG := wsG_mem (List.mem_append_right _ (tm4 (List.mem_of_getElem? (i := 209) rfl))) rfl
theorem w_927 : (Jvm.Cond.instanceMethod ({ cls := "LeavesOfMud", name := "castOut", desc := "()I" } : Jvm.MethodName)) ∈ wsG := wsG_mem (List.mem_append_right _ (tm4 (List.mem_of_getElem? (i := 207) rfl))) rfl
theorem w_928 : (Jvm.Cond.selects "LeavesOfMud" ({ cls := "LeavesOfMud", name := "castOut", desc := "()I" } : Jvm.MethodName) ({ cls := "LeavesOfMud", name := "castOut", desc := "()I" } : Jvm.MethodName)) ∈ wsG := wsG_mem (List.mem_append_right _ (tm4 (List.mem_of_getElem? (i := 208) rfl))) rfl
theorem w_961 : (Jvm.Cond.code ({ cls := "LeavesOfMud", name := "dig", desc := "(I)I" } : Jvm.MethodName) prog_1_method_34_code (2 : Nat) (Option.some Jvm.ClassFile.FieldType.int)) ∈ wsG := wsG_mem (List.mem_append_right _ (tm5 (List.mem_of_getElem? (i := 1) rfl))) rfl
theorem w_959 : (Jvm.Cond.instanceMethod ({ cls := "LeavesOfMud", name := "dig", desc := "(I)I" } : Jvm.MethodName)) ∈ wsG := wsG_mem (List.mem_append_right _ (tm4 (List.mem_of_getElem? (i := 239) rfl))) rfl
theorem w_960 : (Jvm.Cond.selects "LeavesOfMud" ({ cls := "LeavesOfMud", name := "dig", desc := "(I)I" } : Jvm.MethodName) ({ cls := "LeavesOfMud", name := "dig", desc := "(I)I" } : Jvm.MethodName)) ∈ wsG := wsG_mem (List.mem_append_right _ (tm5 (List.mem_of_getElem? (i := 0) rfl))) rfl
theorem w_990 : (Jvm.Cond.code ({ cls := "LeavesOfMud", name := "pace", desc := "(IIII)I" } : Jvm.MethodName) prog_1_method_35_code (10 : Nat) (Option.some Jvm.ClassFile.FieldType.int)) ∈ wsG := wsG_mem (List.mem_append_right _ (tm5 (List.mem_of_getElem? (i := 30) rfl))) rfl
theorem w_988 : (Jvm.Cond.instanceMethod ({ cls := "LeavesOfMud", name := "pace", desc := "(IIII)I" } : Jvm.MethodName)) ∈ wsG := wsG_mem (List.mem_append_right _ (tm5 (List.mem_of_getElem? (i := 28) rfl))) rfl
theorem w_989 : (Jvm.Cond.selects "LeavesOfMud" ({ cls := "LeavesOfMud", name := "pace", desc := "(IIII)I" } : Jvm.MethodName) ({ cls := "LeavesOfMud", name := "pace", desc := "(IIII)I" } : Jvm.MethodName)) ∈ wsG := wsG_mem (List.mem_append_right _ (tm5 (List.mem_of_getElem? (i := 29) rfl))) rfl
theorem w_1001 : (Jvm.Cond.code ({ cls := "LeavesOfMud", name := "tookBy", desc := "(III)I" } : Jvm.MethodName) prog_1_method_56_code (10 : Nat) (Option.some Jvm.ClassFile.FieldType.int)) ∈ wsG := wsG_mem (List.mem_append_right _ (tm5 (List.mem_of_getElem? (i := 41) rfl))) rfl
theorem w_1000 : (Jvm.Cond.instanceMethod ({ cls := "LeavesOfMud", name := "tookBy", desc := "(III)I" } : Jvm.MethodName)) ∈ wsG := wsG_mem (List.mem_append_right _ (tm5 (List.mem_of_getElem? (i := 40) rfl))) rfl
theorem wp_76 : Cond.selects "LeavesOfMud" ⟨"LeavesOfMud", "tookBy", "(III)I"⟩ ⟨"LeavesOfMud", "tookBy", "(III)I"⟩ ∈ wsG := wsG_mem (List.mem_append_left _ (List.mem_map_of_mem (f := fun q : MethodName × Nat => Cond.selects q.1.cls q.1 q.1) (List.mem_of_getElem? (i := 76) (rfl : lw_privs[76]? = some (⟨"LeavesOfMud", "tookBy", "(III)I"⟩, _))))) rfl
theorem w_1080 : (Jvm.Cond.code ({ cls := "LeavesOfMud", name := "foldNet", desc := "(J)J" } : Jvm.MethodName) prog_1_method_59_code (6 : Nat) (Option.some Jvm.ClassFile.FieldType.long)) ∈ wsG := wsG_mem (List.mem_append_right _ (tm5 (List.mem_of_getElem? (i := 120) rfl))) rfl
theorem w_1079 : (Jvm.Cond.instanceMethod ({ cls := "LeavesOfMud", name := "foldNet", desc := "(J)J" } : Jvm.MethodName)) ∈ wsG := wsG_mem (List.mem_append_right _ (tm5 (List.mem_of_getElem? (i := 119) rfl))) rfl
theorem wp_88 : Cond.selects "LeavesOfMud" ⟨"LeavesOfMud", "foldNet", "(J)J"⟩ ⟨"LeavesOfMud", "foldNet", "(J)J"⟩ ∈ wsG := wsG_mem (List.mem_append_left _ (List.mem_map_of_mem (f := fun q : MethodName × Nat => Cond.selects q.1.cls q.1 q.1) (List.mem_of_getElem? (i := 88) (rfl : lw_privs[88]? = some (⟨"LeavesOfMud", "foldNet", "(J)J"⟩, _))))) rfl
theorem w_1516 : (Jvm.Cond.code ({ cls := "LeavesOfMudModel", name := "closes", desc := "()I" } : Jvm.MethodName) prog_11_method_68_code (1 : Nat) (Option.some Jvm.ClassFile.FieldType.int)) ∈ wsG := wsG_mem (List.mem_append_right _ (tm7 (List.mem_of_getElem? (i := 76) rfl))) rfl
theorem w_1514 : (Jvm.Cond.instanceMethod ({ cls := "LeavesOfMudModel", name := "closes", desc := "()I" } : Jvm.MethodName)) ∈ wsG := wsG_mem (List.mem_append_right _ (tm7 (List.mem_of_getElem? (i := 74) rfl))) rfl
theorem w_1515 : (Jvm.Cond.selects "LeavesOfMudModel" ({ cls := "LeavesOfMudModel", name := "closes", desc := "()I" } : Jvm.MethodName) ({ cls := "LeavesOfMudModel", name := "closes", desc := "()I" } : Jvm.MethodName)) ∈ wsG := wsG_mem (List.mem_append_right _ (tm7 (List.mem_of_getElem? (i := 75) rfl))) rfl
theorem w_1546 : (Jvm.Cond.code ({ cls := "LeavesOfMudModel", name := "span", desc := "(III)I" } : Jvm.MethodName) prog_11_method_70_code (4 : Nat) (Option.some Jvm.ClassFile.FieldType.int)) ∈ wsG := wsG_mem (List.mem_append_right _ (tm7 (List.mem_of_getElem? (i := 106) rfl))) rfl
theorem w_1544 : (Jvm.Cond.instanceMethod ({ cls := "LeavesOfMudModel", name := "span", desc := "(III)I" } : Jvm.MethodName)) ∈ wsG := wsG_mem (List.mem_append_right _ (tm7 (List.mem_of_getElem? (i := 104) rfl))) rfl
theorem w_1545 : (Jvm.Cond.selects "LeavesOfMudModel" ({ cls := "LeavesOfMudModel", name := "span", desc := "(III)I" } : Jvm.MethodName) ({ cls := "LeavesOfMudModel", name := "span", desc := "(III)I" } : Jvm.MethodName)) ∈ wsG := wsG_mem (List.mem_append_right _ (tm7 (List.mem_of_getElem? (i := 105) rfl))) rfl
theorem w_1555 : (Jvm.Cond.code ({ cls := "LeavesOfMudModel", name := "date", desc := "(III)I" } : Jvm.MethodName) prog_11_method_71_code (4 : Nat) (Option.some Jvm.ClassFile.FieldType.int)) ∈ wsG := wsG_mem (List.mem_append_right _ (tm7 (List.mem_of_getElem? (i := 115) rfl))) rfl
theorem w_1553 : (Jvm.Cond.instanceMethod ({ cls := "LeavesOfMudModel", name := "date", desc := "(III)I" } : Jvm.MethodName)) ∈ wsG := wsG_mem (List.mem_append_right _ (tm7 (List.mem_of_getElem? (i := 113) rfl))) rfl
theorem w_1554 : (Jvm.Cond.selects "LeavesOfMudModel" ({ cls := "LeavesOfMudModel", name := "date", desc := "(III)I" } : Jvm.MethodName) ({ cls := "LeavesOfMudModel", name := "date", desc := "(III)I" } : Jvm.MethodName)) ∈ wsG := wsG_mem (List.mem_append_right _ (tm7 (List.mem_of_getElem? (i := 114) rfl))) rfl
theorem w_1563 : (Jvm.Cond.code ({ cls := "LeavesOfMudModel", name := "layCalendars", desc := "()I" } : Jvm.MethodName) prog_11_method_72_code (4 : Nat) (Option.some Jvm.ClassFile.FieldType.int)) ∈ wsG := wsG_mem (List.mem_append_right _ (tm7 (List.mem_of_getElem? (i := 123) rfl))) rfl
theorem w_1562 : (Jvm.Cond.instanceMethod ({ cls := "LeavesOfMudModel", name := "layCalendars", desc := "()I" } : Jvm.MethodName)) ∈ wsG := wsG_mem (List.mem_append_right _ (tm7 (List.mem_of_getElem? (i := 122) rfl))) rfl
theorem wp_118 : Cond.selects "LeavesOfMudModel" ⟨"LeavesOfMudModel", "layCalendars", "()I"⟩ ⟨"LeavesOfMudModel", "layCalendars", "()I"⟩ ∈ wsG := wsG_mem (List.mem_append_left _ (List.mem_map_of_mem (f := fun q : MethodName × Nat => Cond.selects q.1.cls q.1 q.1) (List.mem_of_getElem? (i := 118) (rfl : lw_privs[118]? = some (⟨"LeavesOfMudModel", "layCalendars", "()I"⟩, _))))) rfl
theorem w_1579 : (Jvm.Cond.code ({ cls := "LeavesOfMudModel", name := "hangs", desc := "(II)I" } : Jvm.MethodName) prog_11_method_77_code (8 : Nat) (Option.some Jvm.ClassFile.FieldType.int)) ∈ wsG := wsG_mem (List.mem_append_right _ (tm7 (List.mem_of_getElem? (i := 139) rfl))) rfl
theorem w_1577 : (Jvm.Cond.instanceMethod ({ cls := "LeavesOfMudModel", name := "hangs", desc := "(II)I" } : Jvm.MethodName)) ∈ wsG := wsG_mem (List.mem_append_right _ (tm7 (List.mem_of_getElem? (i := 137) rfl))) rfl
theorem w_1578 : (Jvm.Cond.selects "LeavesOfMudModel" ({ cls := "LeavesOfMudModel", name := "hangs", desc := "(II)I" } : Jvm.MethodName) ({ cls := "LeavesOfMudModel", name := "hangs", desc := "(II)I" } : Jvm.MethodName)) ∈ wsG := wsG_mem (List.mem_append_right _ (tm7 (List.mem_of_getElem? (i := 138) rfl))) rfl
theorem w_1583 : (Jvm.Cond.code ({ cls := "LeavesOfMudModel", name := "dig", desc := "(I)I" } : Jvm.MethodName) prog_11_method_79_code (11 : Nat) (Option.some Jvm.ClassFile.FieldType.int)) ∈ wsG := wsG_mem (List.mem_append_right _ (tm7 (List.mem_of_getElem? (i := 143) rfl))) rfl
theorem w_1581 : (Jvm.Cond.instanceMethod ({ cls := "LeavesOfMudModel", name := "dig", desc := "(I)I" } : Jvm.MethodName)) ∈ wsG := wsG_mem (List.mem_append_right _ (tm7 (List.mem_of_getElem? (i := 141) rfl))) rfl
theorem w_1582 : (Jvm.Cond.selects "LeavesOfMudModel" ({ cls := "LeavesOfMudModel", name := "dig", desc := "(I)I" } : Jvm.MethodName) ({ cls := "LeavesOfMudModel", name := "dig", desc := "(I)I" } : Jvm.MethodName)) ∈ wsG := wsG_mem (List.mem_append_right _ (tm7 (List.mem_of_getElem? (i := 142) rfl))) rfl
theorem w_1592 : (Jvm.Cond.code ({ cls := "LeavesOfMudModel", name := "pace", desc := "(IIII)I" } : Jvm.MethodName) prog_11_method_80_code (9 : Nat) (Option.some Jvm.ClassFile.FieldType.int)) ∈ wsG := wsG_mem (List.mem_append_right _ (tm7 (List.mem_of_getElem? (i := 152) rfl))) rfl
theorem w_1590 : (Jvm.Cond.instanceMethod ({ cls := "LeavesOfMudModel", name := "pace", desc := "(IIII)I" } : Jvm.MethodName)) ∈ wsG := wsG_mem (List.mem_append_right _ (tm7 (List.mem_of_getElem? (i := 150) rfl))) rfl
theorem w_1591 : (Jvm.Cond.selects "LeavesOfMudModel" ({ cls := "LeavesOfMudModel", name := "pace", desc := "(IIII)I" } : Jvm.MethodName) ({ cls := "LeavesOfMudModel", name := "pace", desc := "(IIII)I" } : Jvm.MethodName)) ∈ wsG := wsG_mem (List.mem_append_right _ (tm7 (List.mem_of_getElem? (i := 151) rfl))) rfl
theorem w_497 : (Jvm.Cond.code ({ cls := "java/lang/String", name := "indexOf", desc := "(II)I" } : Jvm.MethodName) prog_15_method_80_code (3 : Nat) (Option.some Jvm.ClassFile.FieldType.int)) ∈ wsG := wsG_mem (List.mem_append_right _ (tm3 (List.mem_of_getElem? (i := 17) rfl))) rfl
theorem w_495 : (Jvm.Cond.instanceMethod ({ cls := "java/lang/String", name := "indexOf", desc := "(II)I" } : Jvm.MethodName)) ∈ wsG := wsG_mem (List.mem_append_right _ (tm3 (List.mem_of_getElem? (i := 15) rfl))) rfl
theorem w_496 : (Jvm.Cond.selects "java/lang/String" ({ cls := "java/lang/String", name := "indexOf", desc := "(II)I" } : Jvm.MethodName) ({ cls := "java/lang/String", name := "indexOf", desc := "(II)I" } : Jvm.MethodName)) ∈ wsG := wsG_mem (List.mem_append_right _ (tm3 (List.mem_of_getElem? (i := 16) rfl))) rfl
theorem w_680 : (Jvm.Cond.code ({ cls := "LeavesOfMud", name := "together", desc := "(IIII)I" } : Jvm.MethodName) prog_1_method_20_code (5 : Nat) (Option.some Jvm.ClassFile.FieldType.int)) ∈ wsG := wsG_mem (List.mem_append_right _ (tm3 (List.mem_of_getElem? (i := 200) rfl))) rfl
theorem w_678 : (Jvm.Cond.instanceMethod ({ cls := "LeavesOfMud", name := "together", desc := "(IIII)I" } : Jvm.MethodName)) ∈ wsG := wsG_mem (List.mem_append_right _ (tm3 (List.mem_of_getElem? (i := 198) rfl))) rfl
theorem w_679 : (Jvm.Cond.selects "LeavesOfMud" ({ cls := "LeavesOfMud", name := "together", desc := "(IIII)I" } : Jvm.MethodName) ({ cls := "LeavesOfMud", name := "together", desc := "(IIII)I" } : Jvm.MethodName)) ∈ wsG := wsG_mem (List.mem_append_right _ (tm3 (List.mem_of_getElem? (i := 199) rfl))) rfl
theorem w_767 : (Jvm.Cond.code ({ cls := "LeavesOfMud", name := "lies", desc := "(IIII)I" } : Jvm.MethodName) prog_1_method_21_code (5 : Nat) (Option.some Jvm.ClassFile.FieldType.int)) ∈ wsG := wsG_mem (List.mem_append_right _ (tm4 (List.mem_of_getElem? (i := 47) rfl))) rfl
theorem w_765 : (Jvm.Cond.instanceMethod ({ cls := "LeavesOfMud", name := "lies", desc := "(IIII)I" } : Jvm.MethodName)) ∈ wsG := wsG_mem (List.mem_append_right _ (tm4 (List.mem_of_getElem? (i := 45) rfl))) rfl
theorem w_766 : (Jvm.Cond.selects "LeavesOfMud" ({ cls := "LeavesOfMud", name := "lies", desc := "(IIII)I" } : Jvm.MethodName) ({ cls := "LeavesOfMud", name := "lies", desc := "(IIII)I" } : Jvm.MethodName)) ∈ wsG := wsG_mem (List.mem_append_right _ (tm4 (List.mem_of_getElem? (i := 46) rfl))) rfl
theorem w_771 : (Jvm.Cond.code ({ cls := "LeavesOfMud", name := "sure", desc := "(IIII)I" } : Jvm.MethodName) prog_1_method_22_code (6 : Nat) (Option.some Jvm.ClassFile.FieldType.int)) ∈ wsG := wsG_mem (List.mem_append_right _ (tm4 (List.mem_of_getElem? (i := 51) rfl))) rfl
theorem w_769 : (Jvm.Cond.instanceMethod ({ cls := "LeavesOfMud", name := "sure", desc := "(IIII)I" } : Jvm.MethodName)) ∈ wsG := wsG_mem (List.mem_append_right _ (tm4 (List.mem_of_getElem? (i := 49) rfl))) rfl
theorem w_770 : (Jvm.Cond.selects "LeavesOfMud" ({ cls := "LeavesOfMud", name := "sure", desc := "(IIII)I" } : Jvm.MethodName) ({ cls := "LeavesOfMud", name := "sure", desc := "(IIII)I" } : Jvm.MethodName)) ∈ wsG := wsG_mem (List.mem_append_right _ (tm4 (List.mem_of_getElem? (i := 50) rfl))) rfl
theorem w_949 : (Jvm.Cond.code ({ cls := "LeavesOfMud", name := "hangs", desc := "(II)I" } : Jvm.MethodName) prog_1_method_33_code (3 : Nat) (Option.some Jvm.ClassFile.FieldType.int)) ∈ wsG := wsG_mem (List.mem_append_right _ (tm4 (List.mem_of_getElem? (i := 229) rfl))) rfl
theorem w_947 : (Jvm.Cond.instanceMethod ({ cls := "LeavesOfMud", name := "hangs", desc := "(II)I" } : Jvm.MethodName)) ∈ wsG := wsG_mem (List.mem_append_right _ (tm4 (List.mem_of_getElem? (i := 227) rfl))) rfl
theorem w_948 : (Jvm.Cond.selects "LeavesOfMud" ({ cls := "LeavesOfMud", name := "hangs", desc := "(II)I" } : Jvm.MethodName) ({ cls := "LeavesOfMud", name := "hangs", desc := "(II)I" } : Jvm.MethodName)) ∈ wsG := wsG_mem (List.mem_append_right _ (tm4 (List.mem_of_getElem? (i := 228) rfl))) rfl
theorem w_997 : (Jvm.Cond.code ({ cls := "LeavesOfMud", name := "took", desc := "(III)I" } : Jvm.MethodName) prog_1_method_36_code (7 : Nat) (Option.some Jvm.ClassFile.FieldType.int)) ∈ wsG := wsG_mem (List.mem_append_right _ (tm5 (List.mem_of_getElem? (i := 37) rfl))) rfl
theorem w_995 : (Jvm.Cond.instanceMethod ({ cls := "LeavesOfMud", name := "took", desc := "(III)I" } : Jvm.MethodName)) ∈ wsG := wsG_mem (List.mem_append_right _ (tm5 (List.mem_of_getElem? (i := 35) rfl))) rfl
theorem w_996 : (Jvm.Cond.selects "LeavesOfMud" ({ cls := "LeavesOfMud", name := "took", desc := "(III)I" } : Jvm.MethodName) ({ cls := "LeavesOfMud", name := "took", desc := "(III)I" } : Jvm.MethodName)) ∈ wsG := wsG_mem (List.mem_append_right _ (tm5 (List.mem_of_getElem? (i := 36) rfl))) rfl
theorem w_1068 : (Jvm.Cond.code ({ cls := "LeavesOfMud", name := "foldLaw", desc := "(JI)J" } : Jvm.MethodName) prog_1_method_58_code (6 : Nat) (Option.some Jvm.ClassFile.FieldType.long)) ∈ wsG := wsG_mem (List.mem_append_right _ (tm5 (List.mem_of_getElem? (i := 108) rfl))) rfl
theorem w_1067 : (Jvm.Cond.instanceMethod ({ cls := "LeavesOfMud", name := "foldLaw", desc := "(JI)J" } : Jvm.MethodName)) ∈ wsG := wsG_mem (List.mem_append_right _ (tm5 (List.mem_of_getElem? (i := 107) rfl))) rfl
theorem wp_86 : Cond.selects "LeavesOfMud" ⟨"LeavesOfMud", "foldLaw", "(JI)J"⟩ ⟨"LeavesOfMud", "foldLaw", "(JI)J"⟩ ∈ wsG := wsG_mem (List.mem_append_left _ (List.mem_map_of_mem (f := fun q : MethodName × Nat => Cond.selects q.1.cls q.1 q.1) (List.mem_of_getElem? (i := 86) (rfl : lw_privs[86]? = some (⟨"LeavesOfMud", "foldLaw", "(JI)J"⟩, _))))) rfl
theorem w_1559 : (Jvm.Cond.code ({ cls := "LeavesOfMudModel", name := "calendars", desc := "(I)I" } : Jvm.MethodName) prog_11_method_73_code (5 : Nat) (Option.some Jvm.ClassFile.FieldType.int)) ∈ wsG := wsG_mem (List.mem_append_right _ (tm7 (List.mem_of_getElem? (i := 119) rfl))) rfl
theorem w_1557 : (Jvm.Cond.instanceMethod ({ cls := "LeavesOfMudModel", name := "calendars", desc := "(I)I" } : Jvm.MethodName)) ∈ wsG := wsG_mem (List.mem_append_right _ (tm7 (List.mem_of_getElem? (i := 117) rfl))) rfl
theorem w_1558 : (Jvm.Cond.selects "LeavesOfMudModel" ({ cls := "LeavesOfMudModel", name := "calendars", desc := "(I)I" } : Jvm.MethodName) ({ cls := "LeavesOfMudModel", name := "calendars", desc := "(I)I" } : Jvm.MethodName)) ∈ wsG := wsG_mem (List.mem_append_right _ (tm7 (List.mem_of_getElem? (i := 118) rfl))) rfl
theorem w_1642 : (Jvm.Cond.code ({ cls := "LeavesOfMudModel", name := "tellNet", desc := "()V" } : Jvm.MethodName) prog_11_method_91_code (4 : Nat) (Option.none : Option Jvm.ClassFile.FieldType)) ∈ wsG := wsG_mem (List.mem_append_right _ (tm7 (List.mem_of_getElem? (i := 202) rfl))) rfl
theorem w_1641 : (Jvm.Cond.instanceMethod ({ cls := "LeavesOfMudModel", name := "tellNet", desc := "()V" } : Jvm.MethodName)) ∈ wsG := wsG_mem (List.mem_append_right _ (tm7 (List.mem_of_getElem? (i := 201) rfl))) rfl
theorem wp_128 : Cond.selects "LeavesOfMudModel" ⟨"LeavesOfMudModel", "tellNet", "()V"⟩ ⟨"LeavesOfMudModel", "tellNet", "()V"⟩ ∈ wsG := wsG_mem (List.mem_append_left _ (List.mem_map_of_mem (f := fun q : MethodName × Nat => Cond.selects q.1.cls q.1 q.1) (List.mem_of_getElem? (i := 128) (rfl : lw_privs[128]? = some (⟨"LeavesOfMudModel", "tellNet", "()V"⟩, _))))) rfl
theorem w_493 : (Jvm.Cond.code ({ cls := "java/lang/String", name := "indexOf", desc := "(I)I" } : Jvm.MethodName) prog_15_method_79_code (2 : Nat) (Option.some Jvm.ClassFile.FieldType.int)) ∈ wsG := wsG_mem (List.mem_append_right _ (tm3 (List.mem_of_getElem? (i := 13) rfl))) rfl
theorem w_491 : (Jvm.Cond.instanceMethod ({ cls := "java/lang/String", name := "indexOf", desc := "(I)I" } : Jvm.MethodName)) ∈ wsG := wsG_mem (List.mem_append_right _ (tm3 (List.mem_of_getElem? (i := 11) rfl))) rfl
theorem w_492 : (Jvm.Cond.selects "java/lang/String" ({ cls := "java/lang/String", name := "indexOf", desc := "(I)I" } : Jvm.MethodName) ({ cls := "java/lang/String", name := "indexOf", desc := "(I)I" } : Jvm.MethodName)) ∈ wsG := wsG_mem (List.mem_append_right _ (tm3 (List.mem_of_getElem? (i := 12) rfl))) rfl
theorem w_488 : (Jvm.Cond.code ({ cls := "LeavesOfMud$Page", name := "readItems", desc := "(Ljava/lang/String;I)I" } : Jvm.MethodName) prog_6_method_4_code (8 : Nat) (Option.some Jvm.ClassFile.FieldType.int)) ∈ wsG := wsG_mem (List.mem_append_right _ (tm3 (List.mem_of_getElem? (i := 8) rfl))) rfl
theorem w_487 : (Jvm.Cond.instanceMethod ({ cls := "LeavesOfMud$Page", name := "readItems", desc := "(Ljava/lang/String;I)I" } : Jvm.MethodName)) ∈ wsG := wsG_mem (List.mem_append_right _ (tm3 (List.mem_of_getElem? (i := 7) rfl))) rfl
theorem wp_16 : Cond.selects "LeavesOfMud$Page" ⟨"LeavesOfMud$Page", "readItems", "(Ljava/lang/String;I)I"⟩ ⟨"LeavesOfMud$Page", "readItems", "(Ljava/lang/String;I)I"⟩ ∈ wsG := wsG_mem (List.mem_append_left _ (List.mem_map_of_mem (f := fun q : MethodName × Nat => Cond.selects q.1.cls q.1 q.1) (List.mem_of_getElem? (i := 16) (rfl : lw_privs[16]? = some (⟨"LeavesOfMud$Page", "readItems", "(Ljava/lang/String;I)I"⟩, _))))) rfl
theorem w_1055 : (Jvm.Cond.code ({ cls := "LeavesOfMud", name := "digest", desc := "()J" } : Jvm.MethodName) prog_1_method_40_code (4 : Nat) (Option.some Jvm.ClassFile.FieldType.long)) ∈ wsG := wsG_mem (List.mem_append_right _ (tm5 (List.mem_of_getElem? (i := 95) rfl))) rfl
theorem w_1053 : (Jvm.Cond.instanceMethod ({ cls := "LeavesOfMud", name := "digest", desc := "()J" } : Jvm.MethodName)) ∈ wsG := wsG_mem (List.mem_append_right _ (tm5 (List.mem_of_getElem? (i := 93) rfl))) rfl
theorem w_1054 : (Jvm.Cond.selects "LeavesOfMud" ({ cls := "LeavesOfMud", name := "digest", desc := "()J" } : Jvm.MethodName) ({ cls := "LeavesOfMud", name := "digest", desc := "()J" } : Jvm.MethodName)) ∈ wsG := wsG_mem (List.mem_append_right _ (tm5 (List.mem_of_getElem? (i := 94) rfl))) rfl
theorem w_1624 : (Jvm.Cond.code ({ cls := "LeavesOfMudModel", name := "digest", desc := "()J" } : Jvm.MethodName) prog_11_method_92_code (2 : Nat) (Option.some Jvm.ClassFile.FieldType.long)) ∈ wsG := wsG_mem (List.mem_append_right _ (tm7 (List.mem_of_getElem? (i := 184) rfl))) rfl
theorem w_1622 : (Jvm.Cond.instanceMethod ({ cls := "LeavesOfMudModel", name := "digest", desc := "()J" } : Jvm.MethodName)) ∈ wsG := wsG_mem (List.mem_append_right _ (tm7 (List.mem_of_getElem? (i := 182) rfl))) rfl
theorem w_1623 : (Jvm.Cond.selects "LeavesOfMudModel" ({ cls := "LeavesOfMudModel", name := "digest", desc := "()J" } : Jvm.MethodName) ({ cls := "LeavesOfMudModel", name := "digest", desc := "()J" } : Jvm.MethodName)) ∈ wsG := wsG_mem (List.mem_append_right _ (tm7 (List.mem_of_getElem? (i := 183) rfl))) rfl
theorem w_483 : (Jvm.Cond.code ({ cls := "LeavesOfMud$Page", name := "read", desc := "(I)I" } : Jvm.MethodName) prog_6_method_3_code (2 : Nat) (Option.some Jvm.ClassFile.FieldType.int)) ∈ wsG := wsG_mem (List.mem_append_right _ (tm3 (List.mem_of_getElem? (i := 3) rfl))) rfl
theorem w_482 : (Jvm.Cond.instanceMethod ({ cls := "LeavesOfMud$Page", name := "read", desc := "(I)I" } : Jvm.MethodName)) ∈ wsG := wsG_mem (List.mem_append_right _ (tm3 (List.mem_of_getElem? (i := 2) rfl))) rfl
theorem wp_15 : Cond.selects "LeavesOfMud$Page" ⟨"LeavesOfMud$Page", "read", "(I)I"⟩ ⟨"LeavesOfMud$Page", "read", "(I)I"⟩ ∈ wsG := wsG_mem (List.mem_append_left _ (List.mem_map_of_mem (f := fun q : MethodName × Nat => Cond.selects q.1.cls q.1 q.1) (List.mem_of_getElem? (i := 15) (rfl : lw_privs[15]? = some (⟨"LeavesOfMud$Page", "read", "(I)I"⟩, _))))) rfl
theorem w_479 : (Jvm.Cond.code ({ cls := "LeavesOfMud", name := "fault", desc := "(I)I" } : Jvm.MethodName) prog_1_method_10_code (2 : Nat) (Option.some Jvm.ClassFile.FieldType.int)) ∈ wsG := wsG_mem (List.mem_append_right _ (tm2 (List.mem_of_getElem? (i := 239) rfl))) rfl
theorem w_477 : (Jvm.Cond.instanceMethod ({ cls := "LeavesOfMud", name := "fault", desc := "(I)I" } : Jvm.MethodName)) ∈ wsG := wsG_mem (List.mem_append_right _ (tm2 (List.mem_of_getElem? (i := 237) rfl))) rfl
theorem w_478 : (Jvm.Cond.selects "LeavesOfMud" ({ cls := "LeavesOfMud", name := "fault", desc := "(I)I" } : Jvm.MethodName) ({ cls := "LeavesOfMud", name := "fault", desc := "(I)I" } : Jvm.MethodName)) ∈ wsG := wsG_mem (List.mem_append_right _ (tm2 (List.mem_of_getElem? (i := 238) rfl))) rfl
theorem w_583 : (Jvm.Cond.code ({ cls := "LeavesOfMud", name := "hand", desc := "()I" } : Jvm.MethodName) prog_1_method_11_code (1 : Nat) (Option.some Jvm.ClassFile.FieldType.int)) ∈ wsG := wsG_mem (List.mem_append_right _ (tm3 (List.mem_of_getElem? (i := 103) rfl))) rfl
theorem w_581 : (Jvm.Cond.instanceMethod ({ cls := "LeavesOfMud", name := "hand", desc := "()I" } : Jvm.MethodName)) ∈ wsG := wsG_mem (List.mem_append_right _ (tm3 (List.mem_of_getElem? (i := 101) rfl))) rfl
theorem w_582 : (Jvm.Cond.selects "LeavesOfMud" ({ cls := "LeavesOfMud", name := "hand", desc := "()I" } : Jvm.MethodName) ({ cls := "LeavesOfMud", name := "hand", desc := "()I" } : Jvm.MethodName)) ∈ wsG := wsG_mem (List.mem_append_right _ (tm3 (List.mem_of_getElem? (i := 102) rfl))) rfl
theorem w_594 : (Jvm.Cond.code ({ cls := "LeavesOfMud", name := "law", desc := "()I" } : Jvm.MethodName) prog_1_method_12_code (1 : Nat) (Option.some Jvm.ClassFile.FieldType.int)) ∈ wsG := wsG_mem (List.mem_append_right _ (tm3 (List.mem_of_getElem? (i := 114) rfl))) rfl
theorem w_592 : (Jvm.Cond.instanceMethod ({ cls := "LeavesOfMud", name := "law", desc := "()I" } : Jvm.MethodName)) ∈ wsG := wsG_mem (List.mem_append_right _ (tm3 (List.mem_of_getElem? (i := 112) rfl))) rfl
theorem w_593 : (Jvm.Cond.selects "LeavesOfMud" ({ cls := "LeavesOfMud", name := "law", desc := "()I" } : Jvm.MethodName) ({ cls := "LeavesOfMud", name := "law", desc := "()I" } : Jvm.MethodName)) ∈ wsG := wsG_mem (List.mem_append_right _ (tm3 (List.mem_of_getElem? (i := 113) rfl))) rfl
theorem w_81 : (Jvm.Cond.fieldLink "LeavesOfMud$Bonds" (31 : Nat) "LeavesOfMud$Bonds" "keptBits" "I") ∈ wsG := wsG_mem (List.mem_append_right _ (tm1 (List.mem_of_getElem? (i := 81) rfl))) rfl
theorem f_X0_31 : FldOK "LeavesOfMud$Bonds" 31 60 := ⟨RX0, TX0, 11, tyX0, rfl, rfl, by decide, rfl, rfl, inW0, tyX0_ok, nmX0, fun _ => rfl, fun h => absurd h (by decide), fun h => absurd h (by decide), fun _ => rfl, Or.inl w_81⟩
theorem w_83 : (Jvm.Cond.fieldLink "LeavesOfMud$Bonds" (34 : Nat) "LeavesOfMud$Bonds" "tiedBits" "I") ∈ wsG := wsG_mem (List.mem_append_right _ (tm1 (List.mem_of_getElem? (i := 83) rfl))) rfl
theorem f_X0_34 : FldOK "LeavesOfMud$Bonds" 34 70 := ⟨RX0, TX0, 11, tyX0, rfl, rfl, by decide, rfl, rfl, inW0, tyX0_ok, nmX0, fun _ => rfl, fun h => absurd h (by decide), fun h => absurd h (by decide), fun _ => rfl, Or.inl w_83⟩
theorem w_85 : (Jvm.Cond.fieldLink "LeavesOfMud$Bonds" (37 : Nat) "LeavesOfMud$Bonds" "tieLows" "[I") ∈ wsG := wsG_mem (List.mem_append_right _ (tm1 (List.mem_of_getElem? (i := 85) rfl))) rfl
theorem f_X0_37 : FldOK "LeavesOfMud$Bonds" 37 82 := ⟨RX0, TX0, 11, tyX0, rfl, rfl, by decide, rfl, rfl, inW0, tyX0_ok, nmX0, fun h => absurd h (by decide), fun h => absurd h (by decide), fun h => absurd h (by decide), fun h => absurd rfl h, Or.inl w_85⟩
theorem w_87 : (Jvm.Cond.fieldLink "LeavesOfMud$Bonds" (40 : Nat) "LeavesOfMud$Bonds" "tieHighs" "[I") ∈ wsG := wsG_mem (List.mem_append_right _ (tm1 (List.mem_of_getElem? (i := 87) rfl))) rfl
theorem f_X0_40 : FldOK "LeavesOfMud$Bonds" 40 92 := ⟨RX0, TX0, 11, tyX0, rfl, rfl, by decide, rfl, rfl, inW0, tyX0_ok, nmX0, fun h => absurd h (by decide), fun h => absurd h (by decide), fun h => absurd h (by decide), fun h => absurd rfl h, Or.inl w_87⟩
theorem w_148 : (Jvm.Cond.fieldLink "LeavesOfMud$Hands" (9 : Nat) "LeavesOfMud$Hands" "size" "I") ∈ wsG := wsG_mem (List.mem_append_right _ (tm1 (List.mem_of_getElem? (i := 148) rfl))) rfl
theorem f_X1_9 : FldOK "LeavesOfMud$Hands" 9 1010 := ⟨RX1, TX1, 3, tyX1, rfl, rfl, by decide, rfl, rfl, inW1, tyX1_ok, nmX1, fun _ => rfl, fun h => absurd h (by decide), fun h => absurd h (by decide), fun _ => rfl, Or.inl w_148⟩
theorem w_150 : (Jvm.Cond.fieldLink "LeavesOfMud$Hands" (15 : Nat) "LeavesOfMud$Hands" "told" "[I") ∈ wsG := wsG_mem (List.mem_append_right _ (tm1 (List.mem_of_getElem? (i := 150) rfl))) rfl
theorem f_X1_15 : FldOK "LeavesOfMud$Hands" 15 1022 := ⟨RX1, TX1, 3, tyX1, rfl, rfl, by decide, rfl, rfl, inW1, tyX1_ok, nmX1, fun h => absurd h (by decide), fun h => absurd h (by decide), fun h => absurd h (by decide), fun h => absurd rfl h, Or.inl w_150⟩
theorem w_420 : (Jvm.Cond.fieldLink "LeavesOfMud$Hands" (35 : Nat) "LeavesOfMud$Hands" "PLAIN" "[I") ∈ wsG := wsG_mem (List.mem_append_right _ (tm2 (List.mem_of_getElem? (i := 180) rfl))) rfl
theorem w_164 : (Jvm.Cond.fieldLink "LeavesOfMud$Laws" (9 : Nat) "LeavesOfMud$Laws" "size" "I") ∈ wsG := wsG_mem (List.mem_append_right _ (tm1 (List.mem_of_getElem? (i := 164) rfl))) rfl
theorem f_X2_9 : FldOK "LeavesOfMud$Laws" 9 2000 := ⟨RX2, TX2, 2, tyX2, rfl, rfl, by decide, rfl, rfl, inW2, tyX2_ok, nmX2, fun _ => rfl, fun h => absurd h (by decide), fun h => absurd h (by decide), fun _ => rfl, Or.inl w_164⟩
theorem w_166 : (Jvm.Cond.fieldLink "LeavesOfMud$Laws" (15 : Nat) "LeavesOfMud$Laws" "prices" "[I") ∈ wsG := wsG_mem (List.mem_append_right _ (tm1 (List.mem_of_getElem? (i := 166) rfl))) rfl
theorem f_X2_15 : FldOK "LeavesOfMud$Laws" 15 2012 := ⟨RX2, TX2, 2, tyX2, rfl, rfl, by decide, rfl, rfl, inW2, tyX2_ok, nmX2, fun h => absurd h (by decide), fun h => absurd h (by decide), fun h => absurd h (by decide), fun h => absurd rfl h, Or.inl w_166⟩
theorem w_599 : (Jvm.Cond.fieldLink "LeavesOfMud$Laws" (19 : Nat) "LeavesOfMud$Laws" "PLAIN" "[I") ∈ wsG := wsG_mem (List.mem_append_right _ (tm3 (List.mem_of_getElem? (i := 119) rfl))) rfl
theorem w_263 : (Jvm.Cond.fieldLink "LeavesOfMud$Net" (11 : Nat) "LeavesOfMud$Net" "whole" "[I") ∈ wsG := wsG_mem (List.mem_append_right _ (tm2 (List.mem_of_getElem? (i := 23) rfl))) rfl
theorem f_X3_11 : FldOK "LeavesOfMud$Net" 11 3032 := ⟨RX3, TX3, 15, tyX3, rfl, rfl, by decide, rfl, rfl, inW3, tyX3_ok, nmX3, fun h => absurd h (by decide), fun h => absurd h (by decide), fun h => absurd h (by decide), fun h => absurd rfl h, Or.inl w_263⟩
theorem w_837 : (Jvm.Cond.constant "LeavesOfMud$Net" (71 : Nat) (1000000000 : Int32)) ∈ wsG := wsG_mem (List.mem_append_right _ (tm4 (List.mem_of_getElem? (i := 117) rfl))) rfl
theorem w_267 : (Jvm.Cond.fieldLink "LeavesOfMud$Net" (26 : Nat) "LeavesOfMud$Net" "ashYears" "[I") ∈ wsG := wsG_mem (List.mem_append_right _ (tm2 (List.mem_of_getElem? (i := 27) rfl))) rfl
theorem f_X3_26 : FldOK "LeavesOfMud$Net" 26 3072 := ⟨RX3, TX3, 15, tyX3, rfl, rfl, by decide, rfl, rfl, inW3, tyX3_ok, nmX3, fun h => absurd h (by decide), fun h => absurd h (by decide), fun h => absurd h (by decide), fun h => absurd rfl h, Or.inl w_267⟩
theorem w_268 : (Jvm.Cond.fieldLink "LeavesOfMud$Net" (29 : Nat) "LeavesOfMud$Net" "labels" "[I") ∈ wsG := wsG_mem (List.mem_append_right _ (tm2 (List.mem_of_getElem? (i := 28) rfl))) rfl
theorem f_X3_29 : FldOK "LeavesOfMud$Net" 29 3082 := ⟨RX3, TX3, 15, tyX3, rfl, rfl, by decide, rfl, rfl, inW3, tyX3_ok, nmX3, fun h => absurd h (by decide), fun h => absurd h (by decide), fun h => absurd h (by decide), fun h => absurd rfl h, Or.inl w_268⟩
theorem w_260 : (Jvm.Cond.fieldLink "LeavesOfMud$Net" (51 : Nat) "LeavesOfMud$Net" "pits" "LLeavesOfMud$Pits;") ∈ wsG := wsG_mem (List.mem_append_right _ (tm2 (List.mem_of_getElem? (i := 20) rfl))) rfl
theorem f_X3_51 : FldOK "LeavesOfMud$Net" 51 3002 := ⟨RX3, TX3, 15, tyX3, rfl, rfl, by decide, rfl, rfl, inW3, tyX3_ok, nmX3, fun h => absurd h (by decide), fun h => absurd h (by decide), fun h => absurd h (by decide), fun h => absurd rfl h, Or.inl w_260⟩
theorem wn_2 : (Jvm.Cond.fieldLinkNest "LeavesOfMud$Net" (85 : Nat) "LeavesOfMud$Pits" "size" "I" "LeavesOfMud") ∈ nestW := List.mem_of_getElem? (i := 2) rfl
theorem f_X3_85 : FldOK "LeavesOfMud$Net" 85 6000 := ⟨RX6, TX6, 6, tyX6, rfl, rfl, by decide, rfl, rfl, inW6, tyX6_ok, nmX6, fun _ => rfl, fun h => absurd h (by decide), fun h => absurd h (by decide), fun _ => rfl, Or.inr ⟨_, wn_2⟩⟩
theorem w_121 : (Jvm.Cond.fieldLink "LeavesOfMud$Page" (9 : Nat) "LeavesOfMud$Page" "size" "I") ∈ wsG := wsG_mem (List.mem_append_right _ (tm1 (List.mem_of_getElem? (i := 121) rfl))) rfl
theorem f_X4_9 : FldOK "LeavesOfMud$Page" 9 4000 := ⟨RX4, TX4, 4, tyX4, rfl, rfl, by decide, rfl, rfl, inW4, tyX4_ok, nmX4, fun _ => rfl, fun h => absurd h (by decide), fun h => absurd h (by decide), fun _ => rfl, Or.inl w_121⟩
theorem w_123 : (Jvm.Cond.fieldLink "LeavesOfMud$Page" (15 : Nat) "LeavesOfMud$Page" "letters" "[I") ∈ wsG := wsG_mem (List.mem_append_right _ (tm1 (List.mem_of_getElem? (i := 123) rfl))) rfl
theorem f_X4_15 : FldOK "LeavesOfMud$Page" 15 4012 := ⟨RX4, TX4, 4, tyX4, rfl, rfl, by decide, rfl, rfl, inW4, tyX4_ok, nmX4, fun h => absurd h (by decide), fun h => absurd h (by decide), fun h => absurd h (by decide), fun h => absurd rfl h, Or.inl w_123⟩
theorem w_202 : (Jvm.Cond.fieldLink "LeavesOfMud$Pairing" (49 : Nat) "LeavesOfMud$Pairing" "least" "[I") ∈ wsG := wsG_mem (List.mem_append_right _ (tm1 (List.mem_of_getElem? (i := 202) rfl))) rfl
theorem f_X5_49 : FldOK "LeavesOfMud$Pairing" 49 5142 := ⟨RX5, TX5, 20, tyX5, rfl, rfl, by decide, rfl, rfl, inW5, tyX5_ok, nmX5, fun h => absurd h (by decide), fun h => absurd h (by decide), fun h => absurd h (by decide), fun h => absurd rfl h, Or.inl w_202⟩
theorem w_203 : (Jvm.Cond.fieldLink "LeavesOfMud$Pairing" (52 : Nat) "LeavesOfMud$Pairing" "ways" "[I") ∈ wsG := wsG_mem (List.mem_append_right _ (tm1 (List.mem_of_getElem? (i := 203) rfl))) rfl
theorem f_X5_52 : FldOK "LeavesOfMud$Pairing" 52 5152 := ⟨RX5, TX5, 20, tyX5, rfl, rfl, by decide, rfl, rfl, inW5, tyX5_ok, nmX5, fun h => absurd h (by decide), fun h => absurd h (by decide), fun h => absurd h (by decide), fun h => absurd rfl h, Or.inl w_203⟩
theorem w_200 : (Jvm.Cond.fieldLink "LeavesOfMud$Pairing" (43 : Nat) "LeavesOfMud$Pairing" "barredFirst" "I") ∈ wsG := wsG_mem (List.mem_append_right _ (tm1 (List.mem_of_getElem? (i := 200) rfl))) rfl
theorem f_X5_43 : FldOK "LeavesOfMud$Pairing" 43 5120 := ⟨RX5, TX5, 20, tyX5, rfl, rfl, by decide, rfl, rfl, inW5, tyX5_ok, nmX5, fun _ => rfl, fun h => absurd h (by decide), fun h => absurd h (by decide), fun _ => rfl, Or.inl w_200⟩
theorem w_201 : (Jvm.Cond.fieldLink "LeavesOfMud$Pairing" (46 : Nat) "LeavesOfMud$Pairing" "barredSecond" "I") ∈ wsG := wsG_mem (List.mem_append_right _ (tm1 (List.mem_of_getElem? (i := 201) rfl))) rfl
theorem f_X5_46 : FldOK "LeavesOfMud$Pairing" 46 5130 := ⟨RX5, TX5, 20, tyX5, rfl, rfl, by decide, rfl, rfl, inW5, tyX5_ok, nmX5, fun _ => rfl, fun h => absurd h (by decide), fun h => absurd h (by decide), fun _ => rfl, Or.inl w_201⟩
theorem w_194 : (Jvm.Cond.fieldLink "LeavesOfMud$Pairing" (24 : Nat) "LeavesOfMud$Pairing" "firstSize" "I") ∈ wsG := wsG_mem (List.mem_append_right _ (tm1 (List.mem_of_getElem? (i := 194) rfl))) rfl
theorem f_X5_24 : FldOK "LeavesOfMud$Pairing" 24 5060 := ⟨RX5, TX5, 20, tyX5, rfl, rfl, by decide, rfl, rfl, inW5, tyX5_ok, nmX5, fun _ => rfl, fun h => absurd h (by decide), fun h => absurd h (by decide), fun _ => rfl, Or.inl w_194⟩
theorem w_195 : (Jvm.Cond.fieldLink "LeavesOfMud$Pairing" (28 : Nat) "LeavesOfMud$Pairing" "secondSize" "I") ∈ wsG := wsG_mem (List.mem_append_right _ (tm1 (List.mem_of_getElem? (i := 195) rfl))) rfl
theorem f_X5_28 : FldOK "LeavesOfMud$Pairing" 28 5070 := ⟨RX5, TX5, 20, tyX5, rfl, rfl, by decide, rfl, rfl, inW5, tyX5_ok, nmX5, fun _ => rfl, fun h => absurd h (by decide), fun h => absurd h (by decide), fun _ => rfl, Or.inl w_195⟩
theorem w_712 : (Jvm.Cond.fieldLink "LeavesOfMud$Pairing" (126 : Nat) "LeavesOfMud$Pairing" "OF_FIRST" "[I") ∈ wsG := wsG_mem (List.mem_append_right _ (tm3 (List.mem_of_getElem? (i := 232) rfl))) rfl
theorem w_714 : (Jvm.Cond.fieldLink "LeavesOfMud$Pairing" (129 : Nat) "LeavesOfMud$Pairing" "OF_SECOND" "[I") ∈ wsG := wsG_mem (List.mem_append_right _ (tm3 (List.mem_of_getElem? (i := 234) rfl))) rfl
theorem w_34 : (Jvm.Cond.fieldLink "LeavesOfMud$Pits" (9 : Nat) "LeavesOfMud$Pits" "size" "I") ∈ wsG := wsG_mem (List.mem_append_right _ (tm1 (List.mem_of_getElem? (i := 34) rfl))) rfl
theorem f_X6_9 : FldOK "LeavesOfMud$Pits" 9 6000 := ⟨RX6, TX6, 6, tyX6, rfl, rfl, by decide, rfl, rfl, inW6, tyX6_ok, nmX6, fun _ => rfl, fun h => absurd h (by decide), fun h => absurd h (by decide), fun _ => rfl, Or.inl w_34⟩
theorem w_37 : (Jvm.Cond.fieldLink "LeavesOfMud$Pits" (15 : Nat) "LeavesOfMud$Pits" "miles" "[I") ∈ wsG := wsG_mem (List.mem_append_right _ (tm1 (List.mem_of_getElem? (i := 37) rfl))) rfl
theorem f_X6_15 : FldOK "LeavesOfMud$Pits" 15 6012 := ⟨RX6, TX6, 6, tyX6, rfl, rfl, by decide, rfl, rfl, inW6, tyX6_ok, nmX6, fun h => absurd h (by decide), fun h => absurd h (by decide), fun h => absurd h (by decide), fun h => absurd rfl h, Or.inl w_37⟩
theorem w_39 : (Jvm.Cond.fieldLink "LeavesOfMud$Pits" (19 : Nat) "LeavesOfMud$Pits" "sizes" "[I") ∈ wsG := wsG_mem (List.mem_append_right _ (tm1 (List.mem_of_getElem? (i := 39) rfl))) rfl
theorem f_X6_19 : FldOK "LeavesOfMud$Pits" 19 6022 := ⟨RX6, TX6, 6, tyX6, rfl, rfl, by decide, rfl, rfl, inW6, tyX6_ok, nmX6, fun h => absurd h (by decide), fun h => absurd h (by decide), fun h => absurd h (by decide), fun h => absurd rfl h, Or.inl w_39⟩
theorem w_45 : (Jvm.Cond.fieldLink "LeavesOfMud$Pits" (22 : Nat) "LeavesOfMud$Pits" "kinds" "[I") ∈ wsG := wsG_mem (List.mem_append_right _ (tm1 (List.mem_of_getElem? (i := 45) rfl))) rfl
theorem f_X6_22 : FldOK "LeavesOfMud$Pits" 22 6032 := ⟨RX6, TX6, 6, tyX6, rfl, rfl, by decide, rfl, rfl, inW6, tyX6_ok, nmX6, fun h => absurd h (by decide), fun h => absurd h (by decide), fun h => absurd h (by decide), fun h => absurd rfl h, Or.inl w_45⟩
theorem w_46 : (Jvm.Cond.fieldLink "LeavesOfMud$Pits" (25 : Nat) "LeavesOfMud$Pits" "thicknesses" "[I") ∈ wsG := wsG_mem (List.mem_append_right _ (tm1 (List.mem_of_getElem? (i := 46) rfl))) rfl
theorem f_X6_25 : FldOK "LeavesOfMud$Pits" 25 6042 := ⟨RX6, TX6, 6, tyX6, rfl, rfl, by decide, rfl, rfl, inW6, tyX6_ok, nmX6, fun h => absurd h (by decide), fun h => absurd h (by decide), fun h => absurd h (by decide), fun h => absurd rfl h, Or.inl w_46⟩
theorem w_47 : (Jvm.Cond.fieldLink "LeavesOfMud$Pits" (28 : Nat) "LeavesOfMud$Pits" "numbers" "[I") ∈ wsG := wsG_mem (List.mem_append_right _ (tm1 (List.mem_of_getElem? (i := 47) rfl))) rfl
theorem f_X6_28 : FldOK "LeavesOfMud$Pits" 28 6052 := ⟨RX6, TX6, 6, tyX6, rfl, rfl, by decide, rfl, rfl, inW6, tyX6_ok, nmX6, fun h => absurd h (by decide), fun h => absurd h (by decide), fun h => absurd h (by decide), fun h => absurd rfl h, Or.inl w_47⟩
theorem w_314 : (Jvm.Cond.fieldLink "LeavesOfMud" (36 : Nat) "LeavesOfMud" "page" "LLeavesOfMud$Page;") ∈ wsG := wsG_mem (List.mem_append_right _ (tm2 (List.mem_of_getElem? (i := 74) rfl))) rfl
theorem f_X8_36 : FldOK "LeavesOfMud" 36 8052 := ⟨RX8, TX8, 13, tyX8, rfl, rfl, by decide, rfl, rfl, inW8, tyX8_ok, nmX8, fun h => absurd h (by decide), fun h => absurd h (by decide), fun h => absurd h (by decide), fun h => absurd rfl h, Or.inl w_314⟩
theorem wn_24 : (Jvm.Cond.fieldLinkNest "LeavesOfMud" (151 : Nat) "LeavesOfMud$Page" "size" "I" "LeavesOfMud") ∈ nestW := List.mem_of_getElem? (i := 24) rfl
theorem f_X8_151 : FldOK "LeavesOfMud" 151 4000 := ⟨RX4, TX4, 4, tyX4, rfl, rfl, by decide, rfl, rfl, inW4, tyX4_ok, nmX4, fun _ => rfl, fun h => absurd h (by decide), fun h => absurd h (by decide), fun _ => rfl, Or.inr ⟨_, wn_24⟩⟩
theorem w_1064 : (Jvm.Cond.constantLong "LeavesOfMud" (370 : Nat) (31 : Int64)) ∈ wsG := wsG_mem (List.mem_append_right _ (tm5 (List.mem_of_getElem? (i := 104) rfl))) rfl
theorem w_451 : (Jvm.Cond.constantLong "LeavesOfMud" (372 : Nat) (1103515245 : Int64)) ∈ wsG := wsG_mem (List.mem_append_right _ (tm2 (List.mem_of_getElem? (i := 211) rfl))) rfl
theorem w_452 : (Jvm.Cond.constantLong "LeavesOfMud" (374 : Nat) (12345 : Int64)) ∈ wsG := wsG_mem (List.mem_append_right _ (tm2 (List.mem_of_getElem? (i := 212) rfl))) rfl
theorem w_453 : (Jvm.Cond.constantLong "LeavesOfMud" (376 : Nat) (2147483647 : Int64)) ∈ wsG := wsG_mem (List.mem_append_right _ (tm2 (List.mem_of_getElem? (i := 213) rfl))) rfl
theorem w_457 : (Jvm.Cond.constantLong "LeavesOfMud" (378 : Nat) (65536 : Int64)) ∈ wsG := wsG_mem (List.mem_append_right _ (tm2 (List.mem_of_getElem? (i := 217) rfl))) rfl
theorem w_1091 : (Jvm.Cond.fieldLink "LeavesOfMudModel" (16 : Nat) "LeavesOfMudModel" "kinds" "[I") ∈ wsG := wsG_mem (List.mem_append_right _ (tm5 (List.mem_of_getElem? (i := 131) rfl))) rfl
theorem f_X9_16 : FldOK "LeavesOfMudModel" 16 9032 := ⟨RX9, TX9, 55, tyX9, rfl, rfl, by decide, rfl, rfl, inW9, tyX9_ok, nmX9, fun h => absurd h (by decide), fun h => absurd h (by decide), fun h => absurd h (by decide), fun h => absurd rfl h, Or.inl w_1091⟩
theorem w_1092 : (Jvm.Cond.fieldLink "LeavesOfMudModel" (19 : Nat) "LeavesOfMudModel" "thick" "[I") ∈ wsG := wsG_mem (List.mem_append_right _ (tm5 (List.mem_of_getElem? (i := 132) rfl))) rfl
theorem f_X9_19 : FldOK "LeavesOfMudModel" 19 9042 := ⟨RX9, TX9, 55, tyX9, rfl, rfl, by decide, rfl, rfl, inW9, tyX9_ok, nmX9, fun h => absurd h (by decide), fun h => absurd h (by decide), fun h => absurd h (by decide), fun h => absurd rfl h, Or.inl w_1092⟩
theorem w_1093 : (Jvm.Cond.fieldLink "LeavesOfMudModel" (22 : Nat) "LeavesOfMudModel" "numbers" "[I") ∈ wsG := wsG_mem (List.mem_append_right _ (tm5 (List.mem_of_getElem? (i := 133) rfl))) rfl
theorem f_X9_22 : FldOK "LeavesOfMudModel" 22 9052 := ⟨RX9, TX9, 55, tyX9, rfl, rfl, by decide, rfl, rfl, inW9, tyX9_ok, nmX9, fun h => absurd h (by decide), fun h => absurd h (by decide), fun h => absurd h (by decide), fun h => absurd rfl h, Or.inl w_1093⟩
theorem w_1094 : (Jvm.Cond.fieldLink "LeavesOfMudModel" (156 : Nat) "LeavesOfMudModel" "seedNow" "I") ∈ wsG := wsG_mem (List.mem_append_right _ (tm5 (List.mem_of_getElem? (i := 134) rfl))) rfl
theorem f_X9_156 : FldOK "LeavesOfMudModel" 156 9060 := ⟨RX9, TX9, 55, tyX9, rfl, rfl, by decide, rfl, rfl, inW9, tyX9_ok, nmX9, fun _ => rfl, fun h => absurd h (by decide), fun h => absurd h (by decide), fun _ => rfl, Or.inl w_1094⟩
theorem w_1330 : (Jvm.Cond.constant "LeavesOfMudModel" (163 : Nat) (65536 : Int32)) ∈ wsG := wsG_mem (List.mem_append_right _ (tm6 (List.mem_of_getElem? (i := 130) rfl))) rfl
theorem w_1327 : (Jvm.Cond.constantLong "LeavesOfMudModel" (154 : Nat) (1103515245 : Int64)) ∈ wsG := wsG_mem (List.mem_append_right _ (tm6 (List.mem_of_getElem? (i := 127) rfl))) rfl
theorem w_1328 : (Jvm.Cond.constantLong "LeavesOfMudModel" (159 : Nat) (12345 : Int64)) ∈ wsG := wsG_mem (List.mem_append_right _ (tm6 (List.mem_of_getElem? (i := 128) rfl))) rfl
theorem w_1329 : (Jvm.Cond.constantLong "LeavesOfMudModel" (161 : Nat) (2147483647 : Int64)) ∈ wsG := wsG_mem (List.mem_append_right _ (tm6 (List.mem_of_getElem? (i := 129) rfl))) rfl
theorem w_1096 : (Jvm.Cond.fieldLink "LeavesOfMudModel" (176 : Nat) "LeavesOfMudModel" "pageMany" "I") ∈ wsG := wsG_mem (List.mem_append_right _ (tm5 (List.mem_of_getElem? (i := 136) rfl))) rfl
theorem f_X9_176 : FldOK "LeavesOfMudModel" 176 9080 := ⟨RX9, TX9, 55, tyX9, rfl, rfl, by decide, rfl, rfl, inW9, tyX9_ok, nmX9, fun _ => rfl, fun h => absurd h (by decide), fun h => absurd h (by decide), fun _ => rfl, Or.inl w_1096⟩
theorem w_1095 : (Jvm.Cond.fieldLink "LeavesOfMudModel" (25 : Nat) "LeavesOfMudModel" "page" "[I") ∈ wsG := wsG_mem (List.mem_append_right _ (tm5 (List.mem_of_getElem? (i := 135) rfl))) rfl
theorem f_X9_25 : FldOK "LeavesOfMudModel" 25 9072 := ⟨RX9, TX9, 55, tyX9, rfl, rfl, by decide, rfl, rfl, inW9, tyX9_ok, nmX9, fun h => absurd h (by decide), fun h => absurd h (by decide), fun h => absurd h (by decide), fun h => absurd rfl h, Or.inl w_1095⟩
theorem w_1339 : (Jvm.Cond.constantLong "LeavesOfMudModel" (174 : Nat) (255 : Int64)) ∈ wsG := wsG_mem (List.mem_append_right _ (tm6 (List.mem_of_getElem? (i := 139) rfl))) rfl
theorem w_1098 : (Jvm.Cond.fieldLink "LeavesOfMudModel" (28 : Nat) "LeavesOfMudModel" "handRows" "[I") ∈ wsG := wsG_mem (List.mem_append_right _ (tm5 (List.mem_of_getElem? (i := 138) rfl))) rfl
theorem f_X9_28 : FldOK "LeavesOfMudModel" 28 9102 := ⟨RX9, TX9, 55, tyX9, rfl, rfl, by decide, rfl, rfl, inW9, tyX9_ok, nmX9, fun h => absurd h (by decide), fun h => absurd h (by decide), fun h => absurd h (by decide), fun h => absurd rfl h, Or.inl w_1098⟩
theorem w_1090 : (Jvm.Cond.fieldLink "LeavesOfMudModel" (13 : Nat) "LeavesOfMudModel" "leafMany" "[I") ∈ wsG := wsG_mem (List.mem_append_right _ (tm5 (List.mem_of_getElem? (i := 130) rfl))) rfl
theorem f_X9_13 : FldOK "LeavesOfMudModel" 13 9022 := ⟨RX9, TX9, 55, tyX9, rfl, rfl, by decide, rfl, rfl, inW9, tyX9_ok, nmX9, fun h => absurd h (by decide), fun h => absurd h (by decide), fun h => absurd h (by decide), fun h => absurd rfl h, Or.inl w_1090⟩
theorem w_1130 : (Jvm.Cond.fieldLink "LeavesOfMudModel" (101 : Nat) "LeavesOfMudModel" "looks" "Z") ∈ wsG := wsG_mem (List.mem_append_right _ (tm5 (List.mem_of_getElem? (i := 170) rfl))) rfl
theorem f_X9_101 : FldOK "LeavesOfMudModel" 101 9423 := ⟨RX9, TX9, 55, tyX9, rfl, rfl, by decide, rfl, rfl, inW9, tyX9_ok, nmX9, fun h => absurd h (by decide), fun h => absurd h (by decide), fun _ => rfl, fun _ => rfl, Or.inl w_1130⟩
theorem w_1131 : (Jvm.Cond.fieldLink "LeavesOfMudModel" (80 : Nat) "LeavesOfMudModel" "far" "[I") ∈ wsG := wsG_mem (List.mem_append_right _ (tm5 (List.mem_of_getElem? (i := 171) rfl))) rfl
theorem f_X9_80 : FldOK "LeavesOfMudModel" 80 9432 := ⟨RX9, TX9, 55, tyX9, rfl, rfl, by decide, rfl, rfl, inW9, tyX9_ok, nmX9, fun h => absurd h (by decide), fun h => absurd h (by decide), fun h => absurd h (by decide), fun h => absurd rfl h, Or.inl w_1131⟩
theorem w_1542 : (Jvm.Cond.constant "LeavesOfMudModel" (332 : Nat) (-10000000 : Int32)) ∈ wsG := wsG_mem (List.mem_append_right _ (tm7 (List.mem_of_getElem? (i := 102) rfl))) rfl
theorem w_1529 : (Jvm.Cond.constant "LeavesOfMudModel" (333 : Nat) (10000000 : Int32)) ∈ wsG := wsG_mem (List.mem_append_right _ (tm7 (List.mem_of_getElem? (i := 89) rfl))) rfl
theorem w_1120 : (Jvm.Cond.fieldLink "LeavesOfMudModel" (325 : Nat) "LeavesOfMudModel" "joins" "I") ∈ wsG := wsG_mem (List.mem_append_right _ (tm5 (List.mem_of_getElem? (i := 160) rfl))) rfl
theorem f_X9_325 : FldOK "LeavesOfMudModel" 325 9320 := ⟨RX9, TX9, 55, tyX9, rfl, rfl, by decide, rfl, rfl, inW9, tyX9_ok, nmX9, fun _ => rfl, fun h => absurd h (by decide), fun h => absurd h (by decide), fun _ => rfl, Or.inl w_1120⟩
theorem w_1126 : (Jvm.Cond.fieldLink "LeavesOfMudModel" (68 : Nat) "LeavesOfMudModel" "isKept" "[Z") ∈ wsG := wsG_mem (List.mem_append_right _ (tm5 (List.mem_of_getElem? (i := 166) rfl))) rfl
theorem f_X9_68 : FldOK "LeavesOfMudModel" 68 9382 := ⟨RX9, TX9, 55, tyX9, rfl, rfl, by decide, rfl, rfl, inW9, tyX9_ok, nmX9, fun h => absurd h (by decide), fun h => absurd h (by decide), fun h => absurd h (by decide), fun h => absurd rfl h, Or.inl w_1126⟩
theorem w_1125 : (Jvm.Cond.fieldLink "LeavesOfMudModel" (65 : Nat) "LeavesOfMudModel" "doubts" "[I") ∈ wsG := wsG_mem (List.mem_append_right _ (tm5 (List.mem_of_getElem? (i := 165) rfl))) rfl
theorem f_X9_65 : FldOK "LeavesOfMudModel" 65 9372 := ⟨RX9, TX9, 55, tyX9, rfl, rfl, by decide, rfl, rfl, inW9, tyX9_ok, nmX9, fun h => absurd h (by decide), fun h => absurd h (by decide), fun h => absurd h (by decide), fun h => absurd rfl h, Or.inl w_1125⟩
theorem w_1137 : (Jvm.Cond.fieldLink "LeavesOfMudModel" (86 : Nat) "LeavesOfMudModel" "keptMiles" "[I") ∈ wsG := wsG_mem (List.mem_append_right _ (tm5 (List.mem_of_getElem? (i := 177) rfl))) rfl
theorem f_X9_86 : FldOK "LeavesOfMudModel" 86 9492 := ⟨RX9, TX9, 55, tyX9, rfl, rfl, by decide, rfl, rfl, inW9, tyX9_ok, nmX9, fun h => absurd h (by decide), fun h => absurd h (by decide), fun h => absurd h (by decide), fun h => absurd rfl h, Or.inl w_1137⟩
theorem w_1089 : (Jvm.Cond.fieldLink "LeavesOfMudModel" (7 : Nat) "LeavesOfMudModel" "miles" "[I") ∈ wsG := wsG_mem (List.mem_append_right _ (tm5 (List.mem_of_getElem? (i := 129) rfl))) rfl
theorem f_X9_7 : FldOK "LeavesOfMudModel" 7 9012 := ⟨RX9, TX9, 55, tyX9, rfl, rfl, by decide, rfl, rfl, inW9, tyX9_ok, nmX9, fun h => absurd h (by decide), fun h => absurd h (by decide), fun h => absurd h (by decide), fun h => absurd rfl h, Or.inl w_1089⟩
theorem w_1138 : (Jvm.Cond.fieldLink "LeavesOfMudModel" (89 : Nat) "LeavesOfMudModel" "keptMany" "[I") ∈ wsG := wsG_mem (List.mem_append_right _ (tm5 (List.mem_of_getElem? (i := 178) rfl))) rfl
theorem f_X9_89 : FldOK "LeavesOfMudModel" 89 9502 := ⟨RX9, TX9, 55, tyX9, rfl, rfl, by decide, rfl, rfl, inW9, tyX9_ok, nmX9, fun h => absurd h (by decide), fun h => absurd h (by decide), fun h => absurd h (by decide), fun h => absurd rfl h, Or.inl w_1138⟩
theorem w_1141 : (Jvm.Cond.fieldLink "LeavesOfMudModel" (98 : Nat) "LeavesOfMudModel" "keptTies" "[I") ∈ wsG := wsG_mem (List.mem_append_right _ (tm5 (List.mem_of_getElem? (i := 181) rfl))) rfl
theorem f_X9_98 : FldOK "LeavesOfMudModel" 98 9532 := ⟨RX9, TX9, 55, tyX9, rfl, rfl, by decide, rfl, rfl, inW9, tyX9_ok, nmX9, fun h => absurd h (by decide), fun h => absurd h (by decide), fun h => absurd h (by decide), fun h => absurd rfl h, Or.inl w_1141⟩
theorem w_1127 : (Jvm.Cond.fieldLink "LeavesOfMudModel" (71 : Nat) "LeavesOfMudModel" "tied" "[Z") ∈ wsG := wsG_mem (List.mem_append_right _ (tm5 (List.mem_of_getElem? (i := 167) rfl))) rfl
theorem f_X9_71 : FldOK "LeavesOfMudModel" 71 9392 := ⟨RX9, TX9, 55, tyX9, rfl, rfl, by decide, rfl, rfl, inW9, tyX9_ok, nmX9, fun h => absurd h (by decide), fun h => absurd h (by decide), fun h => absurd h (by decide), fun h => absurd rfl h, Or.inl w_1127⟩
theorem w_1128 : (Jvm.Cond.fieldLink "LeavesOfMudModel" (74 : Nat) "LeavesOfMudModel" "tieLow" "[I") ∈ wsG := wsG_mem (List.mem_append_right _ (tm5 (List.mem_of_getElem? (i := 168) rfl))) rfl
theorem f_X9_74 : FldOK "LeavesOfMudModel" 74 9402 := ⟨RX9, TX9, 55, tyX9, rfl, rfl, by decide, rfl, rfl, inW9, tyX9_ok, nmX9, fun h => absurd h (by decide), fun h => absurd h (by decide), fun h => absurd h (by decide), fun h => absurd rfl h, Or.inl w_1128⟩
theorem w_1129 : (Jvm.Cond.fieldLink "LeavesOfMudModel" (77 : Nat) "LeavesOfMudModel" "tieHigh" "[I") ∈ wsG := wsG_mem (List.mem_append_right _ (tm5 (List.mem_of_getElem? (i := 169) rfl))) rfl
theorem f_X9_77 : FldOK "LeavesOfMudModel" 77 9412 := ⟨RX9, TX9, 55, tyX9, rfl, rfl, by decide, rfl, rfl, inW9, tyX9_ok, nmX9, fun h => absurd h (by decide), fun h => absurd h (by decide), fun h => absurd h (by decide), fun h => absurd rfl h, Or.inl w_1129⟩
theorem w_1139 : (Jvm.Cond.fieldLink "LeavesOfMudModel" (92 : Nat) "LeavesOfMudModel" "keptLeaves" "[I") ∈ wsG := wsG_mem (List.mem_append_right _ (tm5 (List.mem_of_getElem? (i := 179) rfl))) rfl
theorem f_X9_92 : FldOK "LeavesOfMudModel" 92 9512 := ⟨RX9, TX9, 55, tyX9, rfl, rfl, by decide, rfl, rfl, inW9, tyX9_ok, nmX9, fun h => absurd h (by decide), fun h => absurd h (by decide), fun h => absurd h (by decide), fun h => absurd rfl h, Or.inl w_1139⟩
theorem w_1140 : (Jvm.Cond.fieldLink "LeavesOfMudModel" (95 : Nat) "LeavesOfMudModel" "keptNet" "[I") ∈ wsG := wsG_mem (List.mem_append_right _ (tm5 (List.mem_of_getElem? (i := 180) rfl))) rfl
theorem f_X9_95 : FldOK "LeavesOfMudModel" 95 9522 := ⟨RX9, TX9, 55, tyX9, rfl, rfl, by decide, rfl, rfl, inW9, tyX9_ok, nmX9, fun h => absurd h (by decide), fun h => absurd h (by decide), fun h => absurd h (by decide), fun h => absurd rfl h, Or.inl w_1140⟩
theorem w_1121 : (Jvm.Cond.fieldLink "LeavesOfMudModel" (53 : Nat) "LeavesOfMudModel" "joinA" "[I") ∈ wsG := wsG_mem (List.mem_append_right _ (tm5 (List.mem_of_getElem? (i := 161) rfl))) rfl
theorem f_X9_53 : FldOK "LeavesOfMudModel" 53 9332 := ⟨RX9, TX9, 55, tyX9, rfl, rfl, by decide, rfl, rfl, inW9, tyX9_ok, nmX9, fun h => absurd h (by decide), fun h => absurd h (by decide), fun h => absurd h (by decide), fun h => absurd rfl h, Or.inl w_1121⟩
theorem w_1122 : (Jvm.Cond.fieldLink "LeavesOfMudModel" (56 : Nat) "LeavesOfMudModel" "joinB" "[I") ∈ wsG := wsG_mem (List.mem_append_right _ (tm5 (List.mem_of_getElem? (i := 162) rfl))) rfl
theorem f_X9_56 : FldOK "LeavesOfMudModel" 56 9342 := ⟨RX9, TX9, 55, tyX9, rfl, rfl, by decide, rfl, rfl, inW9, tyX9_ok, nmX9, fun h => absurd h (by decide), fun h => absurd h (by decide), fun h => absurd h (by decide), fun h => absurd rfl h, Or.inl w_1122⟩
theorem w_1123 : (Jvm.Cond.fieldLink "LeavesOfMudModel" (59 : Nat) "LeavesOfMudModel" "lows" "[I") ∈ wsG := wsG_mem (List.mem_append_right _ (tm5 (List.mem_of_getElem? (i := 163) rfl))) rfl
theorem f_X9_59 : FldOK "LeavesOfMudModel" 59 9352 := ⟨RX9, TX9, 55, tyX9, rfl, rfl, by decide, rfl, rfl, inW9, tyX9_ok, nmX9, fun h => absurd h (by decide), fun h => absurd h (by decide), fun h => absurd h (by decide), fun h => absurd rfl h, Or.inl w_1123⟩
theorem w_1124 : (Jvm.Cond.fieldLink "LeavesOfMudModel" (62 : Nat) "LeavesOfMudModel" "highs" "[I") ∈ wsG := wsG_mem (List.mem_append_right _ (tm5 (List.mem_of_getElem? (i := 164) rfl))) rfl
theorem f_X9_62 : FldOK "LeavesOfMudModel" 62 9362 := ⟨RX9, TX9, 55, tyX9, rfl, rfl, by decide, rfl, rfl, inW9, tyX9_ok, nmX9, fun h => absurd h (by decide), fun h => absurd h (by decide), fun h => absurd h (by decide), fun h => absurd rfl h, Or.inl w_1124⟩
theorem w_1088 : (Jvm.Cond.fieldLink "LeavesOfMudModel" (109 : Nat) "LeavesOfMudModel" "pits" "I") ∈ wsG := wsG_mem (List.mem_append_right _ (tm5 (List.mem_of_getElem? (i := 128) rfl))) rfl
theorem f_X9_109 : FldOK "LeavesOfMudModel" 109 9000 := ⟨RX9, TX9, 55, tyX9, rfl, rfl, by decide, rfl, rfl, inW9, tyX9_ok, nmX9, fun _ => rfl, fun h => absurd h (by decide), fun h => absurd h (by decide), fun _ => rfl, Or.inl w_1088⟩
theorem w_1134 : (Jvm.Cond.fieldLink "LeavesOfMudModel" (105 : Nat) "LeavesOfMudModel" "keptPits" "I") ∈ wsG := wsG_mem (List.mem_append_right _ (tm5 (List.mem_of_getElem? (i := 174) rfl))) rfl
theorem f_X9_105 : FldOK "LeavesOfMudModel" 105 9460 := ⟨RX9, TX9, 55, tyX9, rfl, rfl, by decide, rfl, rfl, inW9, tyX9_ok, nmX9, fun _ => rfl, fun h => absurd h (by decide), fun h => absurd h (by decide), fun _ => rfl, Or.inl w_1134⟩
theorem w_1135 : (Jvm.Cond.fieldLink "LeavesOfMudModel" (382 : Nat) "LeavesOfMudModel" "keptJoins" "I") ∈ wsG := wsG_mem (List.mem_append_right _ (tm5 (List.mem_of_getElem? (i := 175) rfl))) rfl
theorem f_X9_382 : FldOK "LeavesOfMudModel" 382 9470 := ⟨RX9, TX9, 55, tyX9, rfl, rfl, by decide, rfl, rfl, inW9, tyX9_ok, nmX9, fun _ => rfl, fun h => absurd h (by decide), fun h => absurd h (by decide), fun _ => rfl, Or.inl w_1135⟩
theorem w_1136 : (Jvm.Cond.fieldLink "LeavesOfMudModel" (385 : Nat) "LeavesOfMudModel" "keptLooks" "Z") ∈ wsG := wsG_mem (List.mem_append_right _ (tm5 (List.mem_of_getElem? (i := 176) rfl))) rfl
theorem f_X9_385 : FldOK "LeavesOfMudModel" 385 9483 := ⟨RX9, TX9, 55, tyX9, rfl, rfl, by decide, rfl, rfl, inW9, tyX9_ok, nmX9, fun h => absurd h (by decide), fun h => absurd h (by decide), fun _ => rfl, fun _ => rfl, Or.inl w_1136⟩
theorem w_1142 : (Jvm.Cond.fieldLink "LeavesOfMudModel" (393 : Nat) "LeavesOfMudModel" "hash" "J") ∈ wsG := wsG_mem (List.mem_append_right _ (tm5 (List.mem_of_getElem? (i := 182) rfl))) rfl
theorem f_X9_393 : FldOK "LeavesOfMudModel" 393 9541 := ⟨RX9, TX9, 55, tyX9, rfl, rfl, by decide, rfl, rfl, inW9, tyX9_ok, nmX9, fun h => absurd h (by decide), fun _ => rfl, fun h => absurd h (by decide), fun _ => rfl, Or.inl w_1142⟩
theorem w_1634 : (Jvm.Cond.constantLong "LeavesOfMudModel" (391 : Nat) (31 : Int64)) ∈ wsG := wsG_mem (List.mem_append_right _ (tm7 (List.mem_of_getElem? (i := 194) rfl))) rfl
theorem w_919 : (Jvm.Cond.constant "java/lang/Integer" (265 : Nat) (1431655765 : Int32)) ∈ wsG := wsG_mem (List.mem_append_right _ (tm4 (List.mem_of_getElem? (i := 199) rfl))) rfl
theorem w_920 : (Jvm.Cond.constant "java/lang/Integer" (266 : Nat) (858993459 : Int32)) ∈ wsG := wsG_mem (List.mem_append_right _ (tm4 (List.mem_of_getElem? (i := 200) rfl))) rfl
theorem w_921 : (Jvm.Cond.constant "java/lang/Integer" (267 : Nat) (252645135 : Int32)) ∈ wsG := wsG_mem (List.mem_append_right _ (tm4 (List.mem_of_getElem? (i := 201) rfl))) rfl
theorem w_1645 : (Jvm.Cond.fieldLink "java/lang/String" (15 : Nat) "java/lang/String" "coder" "B") ∈ wsG := wsG_mem (List.mem_append_right _ (tm7 (List.mem_of_getElem? (i := 205) rfl))) rfl
theorem f_J0_15 : StrOK "java/lang/String" 15 20015 := ⟨rfl, Or.inr ⟨rfl, w_1645⟩⟩
theorem w_502 : (Jvm.Cond.fieldLink "java/lang/String" (38 : Nat) "java/lang/String" "COMPACT_STRINGS" "Z") ∈ wsG := wsG_mem (List.mem_append_right _ (tm3 (List.mem_of_getElem? (i := 22) rfl))) rfl
theorem w_68 : (Jvm.Cond.fieldLink "LeavesOfMud$Bonds" (9 : Nat) "LeavesOfMud$Bonds" "joins" "I") ∈ wsG := wsG_mem (List.mem_append_right _ (tm1 (List.mem_of_getElem? (i := 68) rfl))) rfl
theorem f_X0_9 : FldOK "LeavesOfMud$Bonds" 9 0 := ⟨RX0, TX0, 11, tyX0, rfl, rfl, by decide, rfl, rfl, inW0, tyX0_ok, nmX0, fun _ => rfl, fun h => absurd h (by decide), fun h => absurd h (by decide), fun _ => rfl, Or.inl w_68⟩
theorem w_71 : (Jvm.Cond.fieldLink "LeavesOfMud$Bonds" (15 : Nat) "LeavesOfMud$Bonds" "firsts" "[I") ∈ wsG := wsG_mem (List.mem_append_right _ (tm1 (List.mem_of_getElem? (i := 71) rfl))) rfl
theorem f_X0_15 : FldOK "LeavesOfMud$Bonds" 15 12 := ⟨RX0, TX0, 11, tyX0, rfl, rfl, by decide, rfl, rfl, inW0, tyX0_ok, nmX0, fun h => absurd h (by decide), fun h => absurd h (by decide), fun h => absurd h (by decide), fun h => absurd rfl h, Or.inl w_71⟩
theorem w_73 : (Jvm.Cond.fieldLink "LeavesOfMud$Bonds" (19 : Nat) "LeavesOfMud$Bonds" "seconds" "[I") ∈ wsG := wsG_mem (List.mem_append_right _ (tm1 (List.mem_of_getElem? (i := 73) rfl))) rfl
theorem f_X0_19 : FldOK "LeavesOfMud$Bonds" 19 22 := ⟨RX0, TX0, 11, tyX0, rfl, rfl, by decide, rfl, rfl, inW0, tyX0_ok, nmX0, fun h => absurd h (by decide), fun h => absurd h (by decide), fun h => absurd h (by decide), fun h => absurd rfl h, Or.inl w_73⟩
theorem w_75 : (Jvm.Cond.fieldLink "LeavesOfMud$Bonds" (22 : Nat) "LeavesOfMud$Bonds" "lows" "[I") ∈ wsG := wsG_mem (List.mem_append_right _ (tm1 (List.mem_of_getElem? (i := 75) rfl))) rfl
theorem f_X0_22 : FldOK "LeavesOfMud$Bonds" 22 32 := ⟨RX0, TX0, 11, tyX0, rfl, rfl, by decide, rfl, rfl, inW0, tyX0_ok, nmX0, fun h => absurd h (by decide), fun h => absurd h (by decide), fun h => absurd h (by decide), fun h => absurd rfl h, Or.inl w_75⟩
theorem w_77 : (Jvm.Cond.fieldLink "LeavesOfMud$Bonds" (25 : Nat) "LeavesOfMud$Bonds" "highs" "[I") ∈ wsG := wsG_mem (List.mem_append_right _ (tm1 (List.mem_of_getElem? (i := 77) rfl))) rfl
theorem f_X0_25 : FldOK "LeavesOfMud$Bonds" 25 42 := ⟨RX0, TX0, 11, tyX0, rfl, rfl, by decide, rfl, rfl, inW0, tyX0_ok, nmX0, fun h => absurd h (by decide), fun h => absurd h (by decide), fun h => absurd h (by decide), fun h => absurd rfl h, Or.inl w_77⟩
theorem w_79 : (Jvm.Cond.fieldLink "LeavesOfMud$Bonds" (28 : Nat) "LeavesOfMud$Bonds" "doubts" "[I") ∈ wsG := wsG_mem (List.mem_append_right _ (tm1 (List.mem_of_getElem? (i := 79) rfl))) rfl
theorem f_X0_28 : FldOK "LeavesOfMud$Bonds" 28 52 := ⟨RX0, TX0, 11, tyX0, rfl, rfl, by decide, rfl, rfl, inW0, tyX0_ok, nmX0, fun h => absurd h (by decide), fun h => absurd h (by decide), fun h => absurd h (by decide), fun h => absurd rfl h, Or.inl w_79⟩
theorem w_787 : (Jvm.Cond.methodLink "LeavesOfMud$Bonds" (47 : Nat) ({ cls := "LeavesOfMud$Bonds", name := "setKept", desc := "(IZ)V" } : Jvm.MethodName)) ∈ wsG := wsG_mem (List.mem_append_right _ (tm4 (List.mem_of_getElem? (i := 67) rfl))) rfl
theorem w_1074 : (Jvm.Cond.methodLink "LeavesOfMud$Bonds" (55 : Nat) ({ cls := "LeavesOfMud$Bonds", name := "isKept", desc := "(I)Z" } : Jvm.MethodName)) ∈ wsG := wsG_mem (List.mem_append_right _ (tm5 (List.mem_of_getElem? (i := 114) rfl))) rfl
theorem w_1076 : (Jvm.Cond.methodLink "LeavesOfMud$Bonds" (63 : Nat) ({ cls := "LeavesOfMud$Bonds", name := "isTied", desc := "(I)Z" } : Jvm.MethodName)) ∈ wsG := wsG_mem (List.mem_append_right _ (tm5 (List.mem_of_getElem? (i := 116) rfl))) rfl
theorem wn_109 : (Jvm.Cond.methodLinkNest "LeavesOfMud$Bonds" (51 : Nat) ({ cls := "LeavesOfMud", name := "fold", desc := "(JJ)J" } : Jvm.MethodName) "LeavesOfMud") ∈ nestW := List.mem_of_getElem? (i := 109) rfl
theorem wn_110 : (Jvm.Cond.methodLinkNest "LeavesOfMud$Bonds" (59 : Nat) ({ cls := "LeavesOfMud", name := "asNumber", desc := "(Z)I" } : Jvm.MethodName) "LeavesOfMud") ∈ nestW := List.mem_of_getElem? (i := 110) rfl
theorem w_89 : (Jvm.Cond.fieldLink "LeavesOfMud$Bonds" (43 : Nat) "LeavesOfMud$Bonds" "ashesCount" "Z") ∈ wsG := wsG_mem (List.mem_append_right _ (tm1 (List.mem_of_getElem? (i := 89) rfl))) rfl
theorem f_X0_43 : FldOK "LeavesOfMud$Bonds" 43 103 := ⟨RX0, TX0, 11, tyX0, rfl, rfl, by decide, rfl, rfl, inW0, tyX0_ok, nmX0, fun h => absurd h (by decide), fun h => absurd h (by decide), fun _ => rfl, fun _ => rfl, Or.inl w_89⟩
theorem w_1038 : (Jvm.Cond.methodLink "LeavesOfMud$Bonds" (66 : Nat) ({ cls := "java/lang/System", name := "arraycopy", desc := "(Ljava/lang/Object;ILjava/lang/Object;II)V" } : Jvm.MethodName)) ∈ wsG := wsG_mem (List.mem_append_right _ (tm5 (List.mem_of_getElem? (i := 78) rfl))) rfl
theorem w_590 : (Jvm.Cond.native ({ cls := "java/lang/System", name := "arraycopy", desc := "(Ljava/lang/Object;ILjava/lang/Object;II)V" } : Jvm.MethodName)) ∈ wsG := wsG_mem (List.mem_append_right _ (tm3 (List.mem_of_getElem? (i := 110) rfl))) rfl
theorem w_589 : (Jvm.Cond.static ({ cls := "java/lang/System", name := "arraycopy", desc := "(Ljava/lang/Object;ILjava/lang/Object;II)V" } : Jvm.MethodName)) ∈ wsG := wsG_mem (List.mem_append_right _ (tm3 (List.mem_of_getElem? (i := 109) rfl))) rfl
theorem w_19 : (Jvm.Cond.initialized "java/lang/System") ∈ wsG := wsG_mem (List.mem_append_right _ (tm1 (List.mem_of_getElem? (i := 19) rfl))) rfl
theorem w_588 : (Jvm.Cond.methodLink "LeavesOfMud$Hands" (29 : Nat) ({ cls := "java/lang/System", name := "arraycopy", desc := "(Ljava/lang/Object;ILjava/lang/Object;II)V" } : Jvm.MethodName)) ∈ wsG := wsG_mem (List.mem_append_right _ (tm3 (List.mem_of_getElem? (i := 108) rfl))) rfl
theorem w_147 : (Jvm.Cond.fieldLink "LeavesOfMud$Hands" (19 : Nat) "LeavesOfMud$Hands" "pits" "LLeavesOfMud$Pits;") ∈ wsG := wsG_mem (List.mem_append_right _ (tm1 (List.mem_of_getElem? (i := 147) rfl))) rfl
theorem f_X1_19 : FldOK "LeavesOfMud$Hands" 19 1002 := ⟨RX1, TX1, 3, tyX1, rfl, rfl, by decide, rfl, rfl, inW1, tyX1_ok, nmX1, fun h => absurd h (by decide), fun h => absurd h (by decide), fun h => absurd h (by decide), fun h => absurd rfl h, Or.inl w_147⟩
theorem wn_47 : (Jvm.Cond.methodLinkNest "LeavesOfMud$Hands" (38 : Nat) ({ cls := "LeavesOfMud$Pits", name := "kindOf", desc := "(II)I" } : Jvm.MethodName) "LeavesOfMud") ∈ nestW := List.mem_of_getElem? (i := 47) rfl
theorem wn_48 : (Jvm.Cond.methodLinkNest "LeavesOfMud$Hands" (44 : Nat) ({ cls := "LeavesOfMud$Pits", name := "nOf", desc := "(II)I" } : Jvm.MethodName) "LeavesOfMud") ∈ nestW := List.mem_of_getElem? (i := 48) rfl
theorem w_416 : (Jvm.Cond.methodLink "LeavesOfMud$Hands" (47 : Nat) ({ cls := "LeavesOfMud$Hands", name := "halvesOf", desc := "(III)I" } : Jvm.MethodName)) ∈ wsG := wsG_mem (List.mem_append_right _ (tm2 (List.mem_of_getElem? (i := 176) rfl))) rfl
theorem w_262 : (Jvm.Cond.fieldLink "LeavesOfMud$Net" (59 : Nat) "LeavesOfMud$Net" "bonds" "LLeavesOfMud$Bonds;") ∈ wsG := wsG_mem (List.mem_append_right _ (tm2 (List.mem_of_getElem? (i := 22) rfl))) rfl
theorem f_X3_59 : FldOK "LeavesOfMud$Net" 59 3022 := ⟨RX3, TX3, 15, tyX3, rfl, rfl, by decide, rfl, rfl, inW3, tyX3_ok, nmX3, fun h => absurd h (by decide), fun h => absurd h (by decide), fun h => absurd h (by decide), fun h => absurd rfl h, Or.inl w_262⟩
theorem wn_21 : (Jvm.Cond.fieldLinkNest "LeavesOfMud$Net" (132 : Nat) "LeavesOfMud$Bonds" "ashesCount" "Z" "LeavesOfMud") ∈ nestW := List.mem_of_getElem? (i := 21) rfl
theorem f_X3_132 : FldOK "LeavesOfMud$Net" 132 103 := ⟨RX0, TX0, 11, tyX0, rfl, rfl, by decide, rfl, rfl, inW0, tyX0_ok, nmX0, fun h => absurd h (by decide), fun h => absurd h (by decide), fun _ => rfl, fun _ => rfl, Or.inr ⟨_, wn_21⟩⟩
theorem wn_8 : (Jvm.Cond.fieldLinkNest "LeavesOfMud$Net" (136 : Nat) "LeavesOfMud$Pits" "sizes" "[I" "LeavesOfMud") ∈ nestW := List.mem_of_getElem? (i := 8) rfl
theorem f_X3_136 : FldOK "LeavesOfMud$Net" 136 6022 := ⟨RX6, TX6, 6, tyX6, rfl, rfl, by decide, rfl, rfl, inW6, tyX6_ok, nmX6, fun h => absurd h (by decide), fun h => absurd h (by decide), fun h => absurd h (by decide), fun h => absurd rfl h, Or.inr ⟨_, wn_8⟩⟩
theorem w_261 : (Jvm.Cond.fieldLink "LeavesOfMud$Net" (55 : Nat) "LeavesOfMud$Net" "hands" "LLeavesOfMud$Hands;") ∈ wsG := wsG_mem (List.mem_append_right _ (tm2 (List.mem_of_getElem? (i := 21) rfl))) rfl
theorem f_X3_55 : FldOK "LeavesOfMud$Net" 55 3012 := ⟨RX3, TX3, 15, tyX3, rfl, rfl, by decide, rfl, rfl, inW3, tyX3_ok, nmX3, fun h => absurd h (by decide), fun h => absurd h (by decide), fun h => absurd h (by decide), fun h => absurd rfl h, Or.inl w_261⟩
theorem wn_87 : (Jvm.Cond.methodLinkNest "LeavesOfMud$Net" (139 : Nat) ({ cls := "LeavesOfMud$Pits", name := "kindOf", desc := "(II)I" } : Jvm.MethodName) "LeavesOfMud") ∈ nestW := List.mem_of_getElem? (i := 87) rfl
theorem wn_88 : (Jvm.Cond.methodLinkNest "LeavesOfMud$Net" (143 : Nat) ({ cls := "LeavesOfMud$Pits", name := "nOf", desc := "(II)I" } : Jvm.MethodName) "LeavesOfMud") ∈ nestW := List.mem_of_getElem? (i := 88) rfl
theorem wn_89 : (Jvm.Cond.methodLinkNest "LeavesOfMud$Net" (146 : Nat) ({ cls := "LeavesOfMud$Hands", name := "halvesOf", desc := "(III)I" } : Jvm.MethodName) "LeavesOfMud") ∈ nestW := List.mem_of_getElem? (i := 89) rfl
theorem w_838 : (Jvm.Cond.methodLink "LeavesOfMud$Net" (72 : Nat) ({ cls := "java/util/Arrays", name := "fill", desc := "([II)V" } : Jvm.MethodName)) ∈ wsG := wsG_mem (List.mem_append_right _ (tm4 (List.mem_of_getElem? (i := 118) rfl))) rfl
theorem w_854 : (Jvm.Cond.methodLink "LeavesOfMud$Net" (156 : Nat) ({ cls := "LeavesOfMud$Net", name := "hasAsh", desc := "(II)Z" } : Jvm.MethodName)) ∈ wsG := wsG_mem (List.mem_append_right _ (tm4 (List.mem_of_getElem? (i := 134) rfl))) rfl
theorem w_861 : (Jvm.Cond.methodLink "LeavesOfMud$Net" (160 : Nat) ({ cls := "LeavesOfMud$Net", name := "bound", desc := "([IIII)Z" } : Jvm.MethodName)) ∈ wsG := wsG_mem (List.mem_append_right _ (tm4 (List.mem_of_getElem? (i := 141) rfl))) rfl
theorem w_916 : (Jvm.Cond.methodLink "LeavesOfMud$Net" (172 : Nat) ({ cls := "java/lang/Integer", name := "bitCount", desc := "(I)I" } : Jvm.MethodName)) ∈ wsG := wsG_mem (List.mem_append_right _ (tm4 (List.mem_of_getElem? (i := 196) rfl))) rfl
theorem w_266 : (Jvm.Cond.fieldLink "LeavesOfMud$Net" (23 : Nat) "LeavesOfMud$Net" "levels" "[[I") ∈ wsG := wsG_mem (List.mem_append_right _ (tm2 (List.mem_of_getElem? (i := 26) rfl))) rfl
theorem f_X3_23 : FldOK "LeavesOfMud$Net" 23 3062 := ⟨RX3, TX3, 15, tyX3, rfl, rfl, by decide, rfl, rfl, inW3, tyX3_ok, nmX3, fun h => absurd h (by decide), fun h => absurd h (by decide), fun h => absurd h (by decide), fun h => absurd rfl h, Or.inl w_266⟩
theorem w_869 : (Jvm.Cond.methodLink "LeavesOfMud$Net" (105 : Nat) ({ cls := "java/lang/System", name := "arraycopy", desc := "(Ljava/lang/Object;ILjava/lang/Object;II)V" } : Jvm.MethodName)) ∈ wsG := wsG_mem (List.mem_append_right _ (tm4 (List.mem_of_getElem? (i := 149) rfl))) rfl
theorem w_270 : (Jvm.Cond.fieldLink "LeavesOfMud$Net" (36 : Nat) "LeavesOfMud$Net" "bestSize" "I") ∈ wsG := wsG_mem (List.mem_append_right _ (tm2 (List.mem_of_getElem? (i := 30) rfl))) rfl
theorem f_X3_36 : FldOK "LeavesOfMud$Net" 36 3100 := ⟨RX3, TX3, 15, tyX3, rfl, rfl, by decide, rfl, rfl, inW3, tyX3_ok, nmX3, fun _ => rfl, fun h => absurd h (by decide), fun h => absurd h (by decide), fun _ => rfl, Or.inl w_270⟩
theorem w_271 : (Jvm.Cond.fieldLink "LeavesOfMud$Net" (39 : Nat) "LeavesOfMud$Net" "bestDoubt" "I") ∈ wsG := wsG_mem (List.mem_append_right _ (tm2 (List.mem_of_getElem? (i := 31) rfl))) rfl
theorem f_X3_39 : FldOK "LeavesOfMud$Net" 39 3110 := ⟨RX3, TX3, 15, tyX3, rfl, rfl, by decide, rfl, rfl, inW3, tyX3_ok, nmX3, fun _ => rfl, fun h => absurd h (by decide), fun h => absurd h (by decide), fun _ => rfl, Or.inl w_271⟩
theorem w_269 : (Jvm.Cond.fieldLink "LeavesOfMud$Net" (32 : Nat) "LeavesOfMud$Net" "bestCast" "I") ∈ wsG := wsG_mem (List.mem_append_right _ (tm2 (List.mem_of_getElem? (i := 29) rfl))) rfl
theorem f_X3_32 : FldOK "LeavesOfMud$Net" 32 3090 := ⟨RX3, TX3, 15, tyX3, rfl, rfl, by decide, rfl, rfl, inW3, tyX3_ok, nmX3, fun _ => rfl, fun h => absurd h (by decide), fun h => absurd h (by decide), fun _ => rfl, Or.inl w_269⟩
theorem w_985 : (Jvm.Cond.methodLink "LeavesOfMud$Net" (221 : Nat) ({ cls := "java/lang/Math", name := "min", desc := "(II)I" } : Jvm.MethodName)) ∈ wsG := wsG_mem (List.mem_append_right _ (tm5 (List.mem_of_getElem? (i := 25) rfl))) rfl
theorem w_522 : (Jvm.Cond.static ({ cls := "java/lang/Math", name := "min", desc := "(II)I" } : Jvm.MethodName)) ∈ wsG := wsG_mem (List.mem_append_right _ (tm3 (List.mem_of_getElem? (i := 42) rfl))) rfl
theorem w_15 : (Jvm.Cond.initialized "java/lang/Math") ∈ wsG := wsG_mem (List.mem_append_right _ (tm1 (List.mem_of_getElem? (i := 15) rfl))) rfl
theorem w_523 : (Jvm.Cond.code ({ cls := "java/lang/Math", name := "min", desc := "(II)I" } : Jvm.MethodName) prog_14_method_69_code (2 : Nat) (Option.some Jvm.ClassFile.FieldType.int)) ∈ wsG := wsG_mem (List.mem_append_right _ (tm3 (List.mem_of_getElem? (i := 43) rfl))) rfl
theorem w_205 : (Jvm.Cond.fieldLink "LeavesOfMud$Pairing" (58 : Nat) "LeavesOfMud$Pairing" "wayLength" "I") ∈ wsG := wsG_mem (List.mem_append_right _ (tm1 (List.mem_of_getElem? (i := 205) rfl))) rfl
theorem f_X5_58 : FldOK "LeavesOfMud$Pairing" 58 5170 := ⟨RX5, TX5, 20, tyX5, rfl, rfl, by decide, rfl, rfl, inW5, tyX5_ok, nmX5, fun _ => rfl, fun h => absurd h (by decide), fun h => absurd h (by decide), fun _ => rfl, Or.inl w_205⟩
theorem w_204 : (Jvm.Cond.fieldLink "LeavesOfMud$Pairing" (55 : Nat) "LeavesOfMud$Pairing" "way" "[I") ∈ wsG := wsG_mem (List.mem_append_right _ (tm1 (List.mem_of_getElem? (i := 204) rfl))) rfl
theorem f_X5_55 : FldOK "LeavesOfMud$Pairing" 55 5162 := ⟨RX5, TX5, 20, tyX5, rfl, rfl, by decide, rfl, rfl, inW5, tyX5_ok, nmX5, fun h => absurd h (by decide), fun h => absurd h (by decide), fun h => absurd h (by decide), fun h => absurd rfl h, Or.inl w_204⟩
theorem wn_78 : (Jvm.Cond.methodLinkNest "LeavesOfMud$Pairing" (103 : Nat) ({ cls := "LeavesOfMud", name := "isWithin", desc := "(III)Z" } : Jvm.MethodName) "LeavesOfMud") ∈ nestW := List.mem_of_getElem? (i := 78) rfl
theorem w_198 : (Jvm.Cond.fieldLink "LeavesOfMud$Pairing" (37 : Nat) "LeavesOfMud$Pairing" "unlike" "I") ∈ wsG := wsG_mem (List.mem_append_right _ (tm1 (List.mem_of_getElem? (i := 198) rfl))) rfl
theorem f_X5_37 : FldOK "LeavesOfMud$Pairing" 37 5100 := ⟨RX5, TX5, 20, tyX5, rfl, rfl, by decide, rfl, rfl, inW5, tyX5_ok, nmX5, fun _ => rfl, fun h => absurd h (by decide), fun h => absurd h (by decide), fun _ => rfl, Or.inl w_198⟩
theorem w_190 : (Jvm.Cond.fieldLink "LeavesOfMud$Pairing" (9 : Nat) "LeavesOfMud$Pairing" "firstThickness" "[I") ∈ wsG := wsG_mem (List.mem_append_right _ (tm1 (List.mem_of_getElem? (i := 190) rfl))) rfl
theorem f_X5_9 : FldOK "LeavesOfMud$Pairing" 9 5022 := ⟨RX5, TX5, 20, tyX5, rfl, rfl, by decide, rfl, rfl, inW5, tyX5_ok, nmX5, fun h => absurd h (by decide), fun h => absurd h (by decide), fun h => absurd h (by decide), fun h => absurd rfl h, Or.inl w_190⟩
theorem w_191 : (Jvm.Cond.fieldLink "LeavesOfMud$Pairing" (15 : Nat) "LeavesOfMud$Pairing" "secondThickness" "[I") ∈ wsG := wsG_mem (List.mem_append_right _ (tm1 (List.mem_of_getElem? (i := 191) rfl))) rfl
theorem f_X5_15 : FldOK "LeavesOfMud$Pairing" 15 5032 := ⟨RX5, TX5, 20, tyX5, rfl, rfl, by decide, rfl, rfl, inW5, tyX5_ok, nmX5, fun h => absurd h (by decide), fun h => absurd h (by decide), fun h => absurd h (by decide), fun h => absurd rfl h, Or.inl w_191⟩
theorem w_192 : (Jvm.Cond.fieldLink "LeavesOfMud$Pairing" (18 : Nat) "LeavesOfMud$Pairing" "firstAshes" "[I") ∈ wsG := wsG_mem (List.mem_append_right _ (tm1 (List.mem_of_getElem? (i := 192) rfl))) rfl
theorem f_X5_18 : FldOK "LeavesOfMud$Pairing" 18 5042 := ⟨RX5, TX5, 20, tyX5, rfl, rfl, by decide, rfl, rfl, inW5, tyX5_ok, nmX5, fun h => absurd h (by decide), fun h => absurd h (by decide), fun h => absurd h (by decide), fun h => absurd rfl h, Or.inl w_192⟩
theorem w_193 : (Jvm.Cond.fieldLink "LeavesOfMud$Pairing" (21 : Nat) "LeavesOfMud$Pairing" "secondAshes" "[I") ∈ wsG := wsG_mem (List.mem_append_right _ (tm1 (List.mem_of_getElem? (i := 193) rfl))) rfl
theorem f_X5_21 : FldOK "LeavesOfMud$Pairing" 21 5052 := ⟨RX5, TX5, 20, tyX5, rfl, rfl, by decide, rfl, rfl, inW5, tyX5_ok, nmX5, fun h => absurd h (by decide), fun h => absurd h (by decide), fun h => absurd h (by decide), fun h => absurd rfl h, Or.inl w_193⟩
theorem w_199 : (Jvm.Cond.fieldLink "LeavesOfMud$Pairing" (40 : Nat) "LeavesOfMud$Pairing" "ashesPrice" "I") ∈ wsG := wsG_mem (List.mem_append_right _ (tm1 (List.mem_of_getElem? (i := 199) rfl))) rfl
theorem f_X5_40 : FldOK "LeavesOfMud$Pairing" 40 5110 := ⟨RX5, TX5, 20, tyX5, rfl, rfl, by decide, rfl, rfl, inW5, tyX5_ok, nmX5, fun _ => rfl, fun h => absurd h (by decide), fun h => absurd h (by decide), fun _ => rfl, Or.inl w_199⟩
theorem w_728 : (Jvm.Cond.methodLink "LeavesOfMud$Pairing" (146 : Nat) ({ cls := "java/lang/Math", name := "abs", desc := "(I)I" } : Jvm.MethodName)) ∈ wsG := wsG_mem (List.mem_append_right _ (tm4 (List.mem_of_getElem? (i := 8) rfl))) rfl
theorem w_729 : (Jvm.Cond.static ({ cls := "java/lang/Math", name := "abs", desc := "(I)I" } : Jvm.MethodName)) ∈ wsG := wsG_mem (List.mem_append_right _ (tm4 (List.mem_of_getElem? (i := 9) rfl))) rfl
theorem w_730 : (Jvm.Cond.code ({ cls := "java/lang/Math", name := "abs", desc := "(I)I" } : Jvm.MethodName) prog_14_method_59_code (1 : Nat) (Option.some Jvm.ClassFile.FieldType.int)) ∈ wsG := wsG_mem (List.mem_append_right _ (tm4 (List.mem_of_getElem? (i := 10) rfl))) rfl
theorem w_197 : (Jvm.Cond.fieldLink "LeavesOfMud$Pairing" (34 : Nat) "LeavesOfMud$Pairing" "doubled" "I") ∈ wsG := wsG_mem (List.mem_append_right _ (tm1 (List.mem_of_getElem? (i := 197) rfl))) rfl
theorem f_X5_34 : FldOK "LeavesOfMud$Pairing" 34 5090 := ⟨RX5, TX5, 20, tyX5, rfl, rfl, by decide, rfl, rfl, inW5, tyX5_ok, nmX5, fun _ => rfl, fun h => absurd h (by decide), fun h => absurd h (by decide), fun _ => rfl, Or.inl w_197⟩
theorem w_387 : (Jvm.Cond.methodLink "LeavesOfMud$Pits" (31 : Nat) ({ cls := "LeavesOfMud$Pits", name := "has", desc := "(I)Z" } : Jvm.MethodName)) ∈ wsG := wsG_mem (List.mem_append_right _ (tm2 (List.mem_of_getElem? (i := 147) rfl))) rfl
theorem w_375 : (Jvm.Cond.methodLink "LeavesOfMud$Pits" (35 : Nat) ({ cls := "LeavesOfMud$Pits", name := "put", desc := "(IIIII)V" } : Jvm.MethodName)) ∈ wsG := wsG_mem (List.mem_append_right _ (tm2 (List.mem_of_getElem? (i := 135) rfl))) rfl
theorem w_649 : (Jvm.Cond.methodLink "LeavesOfMud$Pits" (39 : Nat) ({ cls := "LeavesOfMud$Pits", name := "kindOf", desc := "(II)I" } : Jvm.MethodName)) ∈ wsG := wsG_mem (List.mem_append_right _ (tm3 (List.mem_of_getElem? (i := 169) rfl))) rfl
theorem w_435 : (Jvm.Cond.methodLink "LeavesOfMud$Pits" (43 : Nat) ({ cls := "LeavesOfMud$Pits", name := "thicknessOf", desc := "(II)I" } : Jvm.MethodName)) ∈ wsG := wsG_mem (List.mem_append_right _ (tm2 (List.mem_of_getElem? (i := 195) rfl))) rfl
theorem w_436 : (Jvm.Cond.methodLink "LeavesOfMud$Pits" (46 : Nat) ({ cls := "java/lang/Integer", name := "compare", desc := "(II)I" } : Jvm.MethodName)) ∈ wsG := wsG_mem (List.mem_append_right _ (tm2 (List.mem_of_getElem? (i := 196) rfl))) rfl
theorem w_1033 : (Jvm.Cond.methodLink "LeavesOfMud$Pits" (65 : Nat) ({ cls := "java/lang/System", name := "arraycopy", desc := "(Ljava/lang/Object;ILjava/lang/Object;II)V" } : Jvm.MethodName)) ∈ wsG := wsG_mem (List.mem_append_right _ (tm5 (List.mem_of_getElem? (i := 73) rfl))) rfl
theorem w_178 : (Jvm.Cond.fieldLink "LeavesOfMud$Slides" (9 : Nat) "LeavesOfMud$Slides" "pits" "LLeavesOfMud$Pits;") ∈ wsG := wsG_mem (List.mem_append_right _ (tm1 (List.mem_of_getElem? (i := 178) rfl))) rfl
theorem f_X7_9 : FldOK "LeavesOfMud$Slides" 9 7002 := ⟨RX7, TX7, 1, tyX7, rfl, rfl, by decide, rfl, rfl, inW7, tyX7_ok, nmX7, fun h => absurd h (by decide), fun h => absurd h (by decide), fun h => absurd h (by decide), fun h => absurd rfl h, Or.inl w_178⟩
theorem wn_5 : (Jvm.Cond.fieldLinkNest "LeavesOfMud$Slides" (21 : Nat) "LeavesOfMud$Pits" "sizes" "[I" "LeavesOfMud") ∈ nestW := List.mem_of_getElem? (i := 5) rfl
theorem f_X7_21 : FldOK "LeavesOfMud$Slides" 21 6022 := ⟨RX6, TX6, 6, tyX6, rfl, rfl, by decide, rfl, rfl, inW6, tyX6_ok, nmX6, fun h => absurd h (by decide), fun h => absurd h (by decide), fun h => absurd h (by decide), fun h => absurd rfl h, Or.inr ⟨_, wn_5⟩⟩
theorem w_634 : (Jvm.Cond.methodLink "LeavesOfMud$Slides" (15 : Nat) ({ cls := "java/lang/Math", name := "max", desc := "(II)I" } : Jvm.MethodName)) ∈ wsG := wsG_mem (List.mem_append_right _ (tm3 (List.mem_of_getElem? (i := 154) rfl))) rfl
theorem w_519 : (Jvm.Cond.static ({ cls := "java/lang/Math", name := "max", desc := "(II)I" } : Jvm.MethodName)) ∈ wsG := wsG_mem (List.mem_append_right _ (tm3 (List.mem_of_getElem? (i := 39) rfl))) rfl
theorem w_520 : (Jvm.Cond.code ({ cls := "java/lang/Math", name := "max", desc := "(II)I" } : Jvm.MethodName) prog_14_method_65_code (2 : Nat) (Option.some Jvm.ClassFile.FieldType.int)) ∈ wsG := wsG_mem (List.mem_append_right _ (tm3 (List.mem_of_getElem? (i := 40) rfl))) rfl
theorem w_635 : (Jvm.Cond.methodLink "LeavesOfMud$Slides" (27 : Nat) ({ cls := "java/lang/Math", name := "min", desc := "(II)I" } : Jvm.MethodName)) ∈ wsG := wsG_mem (List.mem_append_right _ (tm3 (List.mem_of_getElem? (i := 155) rfl))) rfl
theorem w_309 : (Jvm.Cond.fieldLink "LeavesOfMud" (10 : Nat) "LeavesOfMud" "pits" "LLeavesOfMud$Pits;") ∈ wsG := wsG_mem (List.mem_append_right _ (tm2 (List.mem_of_getElem? (i := 69) rfl))) rfl
theorem f_X8_10 : FldOK "LeavesOfMud" 10 8002 := ⟨RX8, TX8, 13, tyX8, rfl, rfl, by decide, rfl, rfl, inW8, tyX8_ok, nmX8, fun h => absurd h (by decide), fun h => absurd h (by decide), fun h => absurd h (by decide), fun h => absurd rfl h, Or.inl w_309⟩
theorem wn_1 : (Jvm.Cond.fieldLinkNest "LeavesOfMud" (92 : Nat) "LeavesOfMud$Pits" "size" "I" "LeavesOfMud") ∈ nestW := List.mem_of_getElem? (i := 1) rfl
theorem f_X8_92 : FldOK "LeavesOfMud" 92 6000 := ⟨RX6, TX6, 6, tyX6, rfl, rfl, by decide, rfl, rfl, inW6, tyX6_ok, nmX6, fun _ => rfl, fun h => absurd h (by decide), fun h => absurd h (by decide), fun _ => rfl, Or.inr ⟨_, wn_1⟩⟩
theorem wn_41 : (Jvm.Cond.methodLinkNest "LeavesOfMud" (95 : Nat) ({ cls := "LeavesOfMud$Pits", name := "open", desc := "(I)I" } : Jvm.MethodName) "LeavesOfMud") ∈ nestW := List.mem_of_getElem? (i := 41) rfl
theorem w_353 : (Jvm.Cond.methodLink "LeavesOfMud" (88 : Nat) ({ cls := "LeavesOfMud", name := "isWithin", desc := "(III)Z" } : Jvm.MethodName)) ∈ wsG := wsG_mem (List.mem_append_right _ (tm2 (List.mem_of_getElem? (i := 113) rfl))) rfl
theorem w_310 : (Jvm.Cond.fieldLink "LeavesOfMud" (19 : Nat) "LeavesOfMud" "bonds" "LLeavesOfMud$Bonds;") ∈ wsG := wsG_mem (List.mem_append_right _ (tm2 (List.mem_of_getElem? (i := 70) rfl))) rfl
theorem f_X8_19 : FldOK "LeavesOfMud" 19 8012 := ⟨RX8, TX8, 13, tyX8, rfl, rfl, by decide, rfl, rfl, inW8, tyX8_ok, nmX8, fun h => absurd h (by decide), fun h => absurd h (by decide), fun h => absurd h (by decide), fun h => absurd rfl h, Or.inl w_310⟩
theorem wn_11 : (Jvm.Cond.fieldLinkNest "LeavesOfMud" (237 : Nat) "LeavesOfMud$Bonds" "joins" "I" "LeavesOfMud") ∈ nestW := List.mem_of_getElem? (i := 11) rfl
theorem f_X8_237 : FldOK "LeavesOfMud" 237 0 := ⟨RX0, TX0, 11, tyX0, rfl, rfl, by decide, rfl, rfl, inW0, tyX0_ok, nmX0, fun _ => rfl, fun h => absurd h (by decide), fun h => absurd h (by decide), fun _ => rfl, Or.inr ⟨_, wn_11⟩⟩
theorem wn_81 : (Jvm.Cond.methodLinkNest "LeavesOfMud" (244 : Nat) ({ cls := "LeavesOfMud$Bonds", name := "isKept", desc := "(I)Z" } : Jvm.MethodName) "LeavesOfMud") ∈ nestW := List.mem_of_getElem? (i := 81) rfl
theorem wn_82 : (Jvm.Cond.methodLinkNest "LeavesOfMud" (251 : Nat) ({ cls := "LeavesOfMud$Bonds", name := "setKept", desc := "(IZ)V" } : Jvm.MethodName) "LeavesOfMud") ∈ nestW := List.mem_of_getElem? (i := 82) rfl
theorem w_799 : (Jvm.Cond.methodLink "LeavesOfMud" (247 : Nat) ({ cls := "LeavesOfMud", name := "asNumber", desc := "(Z)I" } : Jvm.MethodName)) ∈ wsG := wsG_mem (List.mem_append_right _ (tm4 (List.mem_of_getElem? (i := 79) rfl))) rfl
theorem wn_42 : (Jvm.Cond.methodLinkNest "LeavesOfMud" (99 : Nat) ({ cls := "LeavesOfMud$Pits", name := "has", desc := "(I)Z" } : Jvm.MethodName) "LeavesOfMud") ∈ nestW := List.mem_of_getElem? (i := 42) rfl
theorem wn_83 : (Jvm.Cond.methodLinkNest "LeavesOfMud" (255 : Nat) ({ cls := "LeavesOfMud$Bonds", name := "isTied", desc := "(I)Z" } : Jvm.MethodName) "LeavesOfMud") ∈ nestW := List.mem_of_getElem? (i := 83) rfl
theorem wn_85 : (Jvm.Cond.methodLinkNest "LeavesOfMud" (261 : Nat) ({ cls := "LeavesOfMud$Bonds", name := "dropTie", desc := "(I)V" } : Jvm.MethodName) "LeavesOfMud") ∈ nestW := List.mem_of_getElem? (i := 85) rfl
theorem wn_22 : (Jvm.Cond.fieldLinkNest "LeavesOfMud" (264 : Nat) "LeavesOfMud$Bonds" "ashesCount" "Z" "LeavesOfMud") ∈ nestW := List.mem_of_getElem? (i := 22) rfl
theorem f_X8_264 : FldOK "LeavesOfMud" 264 103 := ⟨RX0, TX0, 11, tyX0, rfl, rfl, by decide, rfl, rfl, inW0, tyX0_ok, nmX0, fun h => absurd h (by decide), fun h => absurd h (by decide), fun _ => rfl, fun _ => rfl, Or.inr ⟨_, wn_22⟩⟩
theorem w_315 : (Jvm.Cond.fieldLink "LeavesOfMud" (45 : Nat) "LeavesOfMud" "hands" "LLeavesOfMud$Hands;") ∈ wsG := wsG_mem (List.mem_append_right _ (tm2 (List.mem_of_getElem? (i := 75) rfl))) rfl
theorem f_X8_45 : FldOK "LeavesOfMud" 45 8062 := ⟨RX8, TX8, 13, tyX8, rfl, rfl, by decide, rfl, rfl, inW8, tyX8_ok, nmX8, fun h => absurd h (by decide), fun h => absurd h (by decide), fun h => absurd h (by decide), fun h => absurd rfl h, Or.inl w_315⟩
theorem wn_29 : (Jvm.Cond.fieldLinkNest "LeavesOfMud" (165 : Nat) "LeavesOfMud$Hands" "size" "I" "LeavesOfMud") ∈ nestW := List.mem_of_getElem? (i := 29) rfl
theorem f_X8_165 : FldOK "LeavesOfMud" 165 1010 := ⟨RX1, TX1, 3, tyX1, rfl, rfl, by decide, rfl, rfl, inW1, tyX1_ok, nmX1, fun _ => rfl, fun h => absurd h (by decide), fun h => absurd h (by decide), fun _ => rfl, Or.inr ⟨_, wn_29⟩⟩
theorem w_316 : (Jvm.Cond.fieldLink "LeavesOfMud" (52 : Nat) "LeavesOfMud" "laws" "LLeavesOfMud$Laws;") ∈ wsG := wsG_mem (List.mem_append_right _ (tm2 (List.mem_of_getElem? (i := 76) rfl))) rfl
theorem f_X8_52 : FldOK "LeavesOfMud" 52 8072 := ⟨RX8, TX8, 13, tyX8, rfl, rfl, by decide, rfl, rfl, inW8, tyX8_ok, nmX8, fun h => absurd h (by decide), fun h => absurd h (by decide), fun h => absurd h (by decide), fun h => absurd rfl h, Or.inl w_316⟩
theorem wn_31 : (Jvm.Cond.fieldLinkNest "LeavesOfMud" (173 : Nat) "LeavesOfMud$Laws" "size" "I" "LeavesOfMud") ∈ nestW := List.mem_of_getElem? (i := 31) rfl
theorem f_X8_173 : FldOK "LeavesOfMud" 173 2000 := ⟨RX2, TX2, 2, tyX2, rfl, rfl, by decide, rfl, rfl, inW2, tyX2_ok, nmX2, fun _ => rfl, fun h => absurd h (by decide), fun h => absurd h (by decide), fun _ => rfl, Or.inr ⟨_, wn_31⟩⟩
theorem wn_17 : (Jvm.Cond.fieldLinkNest "LeavesOfMud" (334 : Nat) "LeavesOfMud$Bonds" "keptBits" "I" "LeavesOfMud") ∈ nestW := List.mem_of_getElem? (i := 17) rfl
theorem f_X8_334 : FldOK "LeavesOfMud" 334 60 := ⟨RX0, TX0, 11, tyX0, rfl, rfl, by decide, rfl, rfl, inW0, tyX0_ok, nmX0, fun _ => rfl, fun h => absurd h (by decide), fun h => absurd h (by decide), fun _ => rfl, Or.inr ⟨_, wn_17⟩⟩
theorem wn_18 : (Jvm.Cond.fieldLinkNest "LeavesOfMud" (342 : Nat) "LeavesOfMud$Bonds" "tiedBits" "I" "LeavesOfMud") ∈ nestW := List.mem_of_getElem? (i := 18) rfl
theorem f_X8_342 : FldOK "LeavesOfMud" 342 70 := ⟨RX0, TX0, 11, tyX0, rfl, rfl, by decide, rfl, rfl, inW0, tyX0_ok, nmX0, fun _ => rfl, fun h => absurd h (by decide), fun h => absurd h (by decide), fun _ => rfl, Or.inr ⟨_, wn_18⟩⟩
theorem w_320 : (Jvm.Cond.fieldLink "LeavesOfMud" (81 : Nat) "LeavesOfMud" "sureDone" "I") ∈ wsG := wsG_mem (List.mem_append_right _ (tm2 (List.mem_of_getElem? (i := 80) rfl))) rfl
theorem f_X8_81 : FldOK "LeavesOfMud" 81 8110 := ⟨RX8, TX8, 13, tyX8, rfl, rfl, by decide, rfl, rfl, inW8, tyX8_ok, nmX8, fun _ => rfl, fun h => absurd h (by decide), fun h => absurd h (by decide), fun _ => rfl, Or.inl w_320⟩
theorem w_321 : (Jvm.Cond.fieldLink "LeavesOfMud" (85 : Nat) "LeavesOfMud" "digDone" "I") ∈ wsG := wsG_mem (List.mem_append_right _ (tm2 (List.mem_of_getElem? (i := 81) rfl))) rfl
theorem f_X8_85 : FldOK "LeavesOfMud" 85 8120 := ⟨RX8, TX8, 13, tyX8, rfl, rfl, by decide, rfl, rfl, inW8, tyX8_ok, nmX8, fun _ => rfl, fun h => absurd h (by decide), fun h => absurd h (by decide), fun _ => rfl, Or.inl w_321⟩
theorem wn_107 : (Jvm.Cond.methodLinkNest "LeavesOfMud" (331 : Nat) ({ cls := "LeavesOfMud$Pits", name := "leavesOfAll", desc := "()I" } : Jvm.MethodName) "LeavesOfMud") ∈ nestW := List.mem_of_getElem? (i := 107) rfl
theorem w_1051 : (Jvm.Cond.methodLink "LeavesOfMud" (337 : Nat) ({ cls := "java/lang/Integer", name := "bitCount", desc := "(I)I" } : Jvm.MethodName)) ∈ wsG := wsG_mem (List.mem_append_right _ (tm5 (List.mem_of_getElem? (i := 91) rfl))) rfl
theorem w_465 : (Jvm.Cond.methodLink "LeavesOfMud" (152 : Nat) ({ cls := "LeavesOfMud", name := "byteOf", desc := "(JI)I" } : Jvm.MethodName)) ∈ wsG := wsG_mem (List.mem_append_right _ (tm2 (List.mem_of_getElem? (i := 225) rfl))) rfl
theorem w_319 : (Jvm.Cond.fieldLink "LeavesOfMud" (77 : Nat) "LeavesOfMud" "net" "LLeavesOfMud$Net;") ∈ wsG := wsG_mem (List.mem_append_right _ (tm2 (List.mem_of_getElem? (i := 79) rfl))) rfl
theorem f_X8_77 : FldOK "LeavesOfMud" 77 8102 := ⟨RX8, TX8, 13, tyX8, rfl, rfl, by decide, rfl, rfl, inW8, tyX8_ok, nmX8, fun h => absurd h (by decide), fun h => absurd h (by decide), fun h => absurd h (by decide), fun h => absurd rfl h, Or.inl w_319⟩
theorem w_636 : (Jvm.Cond.constant "LeavesOfMud" (190 : Nat) (-100004 : Int32)) ∈ wsG := wsG_mem (List.mem_append_right _ (tm3 (List.mem_of_getElem? (i := 156) rfl))) rfl
theorem wn_92 : (Jvm.Cond.methodLinkNest "LeavesOfMud" (275 : Nat) ({ cls := "LeavesOfMud$Net", name := "isFloating", desc := "(II)Z" } : Jvm.MethodName) "LeavesOfMud") ∈ nestW := List.mem_of_getElem? (i := 92) rfl
theorem wn_93 : (Jvm.Cond.methodLinkNest "LeavesOfMud" (278 : Nat) ({ cls := "LeavesOfMud$Net", name := "endOfSpan", desc := "(III)I" } : Jvm.MethodName) "LeavesOfMud") ∈ nestW := List.mem_of_getElem? (i := 93) rfl
theorem w_1260 : (Jvm.Cond.methodLink "LeavesOfMudModel" (112 : Nat) ({ cls := "LeavesOfMudModel", name := "in", desc := "(JJJ)Z" } : Jvm.MethodName)) ∈ wsG := wsG_mem (List.mem_append_right _ (tm6 (List.mem_of_getElem? (i := 60) rfl))) rfl
theorem w_1259 : (Jvm.Cond.constantLong "LeavesOfMudModel" (120 : Nat) (240 : Int64)) ∈ wsG := wsG_mem (List.mem_append_right _ (tm6 (List.mem_of_getElem? (i := 59) rfl))) rfl
theorem w_1274 : (Jvm.Cond.constantLong "LeavesOfMudModel" (122 : Nat) (6 : Int64)) ∈ wsG := wsG_mem (List.mem_append_right _ (tm6 (List.mem_of_getElem? (i := 74) rfl))) rfl
theorem w_1275 : (Jvm.Cond.constantLong "LeavesOfMudModel" (124 : Nat) (99 : Int64)) ∈ wsG := wsG_mem (List.mem_append_right _ (tm6 (List.mem_of_getElem? (i := 75) rfl))) rfl
theorem w_1276 : (Jvm.Cond.constantLong "LeavesOfMudModel" (126 : Nat) (9 : Int64)) ∈ wsG := wsG_mem (List.mem_append_right _ (tm6 (List.mem_of_getElem? (i := 76) rfl))) rfl
theorem w_1311 : (Jvm.Cond.methodLink "LeavesOfMudModel" (140 : Nat) ({ cls := "LeavesOfMudModel", name := "compare", desc := "(II)I" } : Jvm.MethodName)) ∈ wsG := wsG_mem (List.mem_append_right _ (tm6 (List.mem_of_getElem? (i := 111) rfl))) rfl
theorem w_1277 : (Jvm.Cond.methodLink "LeavesOfMudModel" (132 : Nat) ({ cls := "LeavesOfMudModel", name := "put", desc := "(IIIII)V" } : Jvm.MethodName)) ∈ wsG := wsG_mem (List.mem_append_right _ (tm6 (List.mem_of_getElem? (i := 77) rfl))) rfl
theorem w_1102 : (Jvm.Cond.fieldLink "LeavesOfMudModel" (179 : Nat) "LeavesOfMudModel" "state" "I") ∈ wsG := wsG_mem (List.mem_append_right _ (tm5 (List.mem_of_getElem? (i := 142) rfl))) rfl
theorem f_X9_179 : FldOK "LeavesOfMudModel" 179 9140 := ⟨RX9, TX9, 55, tyX9, rfl, rfl, by decide, rfl, rfl, inW9, tyX9_ok, nmX9, fun _ => rfl, fun h => absurd h (by decide), fun h => absurd h (by decide), fun _ => rfl, Or.inl w_1102⟩
theorem w_1103 : (Jvm.Cond.fieldLink "LeavesOfMudModel" (188 : Nat) "LeavesOfMudModel" "letter" "I") ∈ wsG := wsG_mem (List.mem_append_right _ (tm5 (List.mem_of_getElem? (i := 143) rfl))) rfl
theorem f_X9_188 : FldOK "LeavesOfMudModel" 188 9150 := ⟨RX9, TX9, 55, tyX9, rfl, rfl, by decide, rfl, rfl, inW9, tyX9_ok, nmX9, fun _ => rfl, fun h => absurd h (by decide), fun h => absurd h (by decide), fun _ => rfl, Or.inl w_1103⟩
theorem w_1104 : (Jvm.Cond.fieldLink "LeavesOfMudModel" (191 : Nat) "LeavesOfMudModel" "items" "I") ∈ wsG := wsG_mem (List.mem_append_right _ (tm5 (List.mem_of_getElem? (i := 144) rfl))) rfl
theorem f_X9_191 : FldOK "LeavesOfMudModel" 191 9160 := ⟨RX9, TX9, 55, tyX9, rfl, rfl, by decide, rfl, rfl, inW9, tyX9_ok, nmX9, fun _ => rfl, fun h => absurd h (by decide), fun h => absurd h (by decide), fun _ => rfl, Or.inl w_1104⟩
theorem w_1101 : (Jvm.Cond.fieldLink "LeavesOfMudModel" (34 : Nat) "LeavesOfMudModel" "readRow" "[I") ∈ wsG := wsG_mem (List.mem_append_right _ (tm5 (List.mem_of_getElem? (i := 141) rfl))) rfl
theorem f_X9_34 : FldOK "LeavesOfMudModel" 34 9132 := ⟨RX9, TX9, 55, tyX9, rfl, rfl, by decide, rfl, rfl, inW9, tyX9_ok, nmX9, fun h => absurd h (by decide), fun h => absurd h (by decide), fun h => absurd h (by decide), fun h => absurd rfl h, Or.inl w_1101⟩
theorem w_1362 : (Jvm.Cond.constantLong "LeavesOfMudModel" (194 : Nat) (48 : Int64)) ∈ wsG := wsG_mem (List.mem_append_right _ (tm6 (List.mem_of_getElem? (i := 162) rfl))) rfl
theorem w_1363 : (Jvm.Cond.constantLong "LeavesOfMudModel" (196 : Nat) (57 : Int64)) ∈ wsG := wsG_mem (List.mem_append_right _ (tm6 (List.mem_of_getElem? (i := 163) rfl))) rfl
theorem w_1356 : (Jvm.Cond.methodLink "LeavesOfMudModel" (182 : Nat) ({ cls := "LeavesOfMudModel", name := "handLetter", desc := "(I)I" } : Jvm.MethodName)) ∈ wsG := wsG_mem (List.mem_append_right _ (tm6 (List.mem_of_getElem? (i := 156) rfl))) rfl
theorem w_1359 : (Jvm.Cond.methodLink "LeavesOfMudModel" (185 : Nat) ({ cls := "LeavesOfMudModel", name := "lawLetter", desc := "(I)I" } : Jvm.MethodName)) ∈ wsG := wsG_mem (List.mem_append_right _ (tm6 (List.mem_of_getElem? (i := 159) rfl))) rfl
theorem w_1097 : (Jvm.Cond.fieldLink "LeavesOfMudModel" (204 : Nat) "LeavesOfMudModel" "hands" "I") ∈ wsG := wsG_mem (List.mem_append_right _ (tm5 (List.mem_of_getElem? (i := 137) rfl))) rfl
theorem f_X9_204 : FldOK "LeavesOfMudModel" 204 9090 := ⟨RX9, TX9, 55, tyX9, rfl, rfl, by decide, rfl, rfl, inW9, tyX9_ok, nmX9, fun _ => rfl, fun h => absurd h (by decide), fun h => absurd h (by decide), fun _ => rfl, Or.inl w_1097⟩
theorem w_1380 : (Jvm.Cond.constantLong "LeavesOfMudModel" (210 : Nat) (-1 : Int64)) ∈ wsG := wsG_mem (List.mem_append_right _ (tm6 (List.mem_of_getElem? (i := 180) rfl))) rfl
theorem w_1303 : (Jvm.Cond.methodLink "LeavesOfMudModel" (212 : Nat) ({ cls := "LeavesOfMudModel", name := "halvesOf", desc := "(III)I" } : Jvm.MethodName)) ∈ wsG := wsG_mem (List.mem_append_right _ (tm6 (List.mem_of_getElem? (i := 103) rfl))) rfl
theorem w_1401 : (Jvm.Cond.constantLong "LeavesOfMudModel" (226 : Nat) (-15 : Int64)) ∈ wsG := wsG_mem (List.mem_append_right _ (tm6 (List.mem_of_getElem? (i := 201) rfl))) rfl
theorem w_1402 : (Jvm.Cond.constantLong "LeavesOfMudModel" (228 : Nat) (15 : Int64)) ∈ wsG := wsG_mem (List.mem_append_right _ (tm6 (List.mem_of_getElem? (i := 202) rfl))) rfl
theorem w_1436 : (Jvm.Cond.methodLink "LeavesOfMudModel" (247 : Nat) ({ cls := "LeavesOfMudModel", name := "common", desc := "(II)I" } : Jvm.MethodName)) ∈ wsG := wsG_mem (List.mem_append_right _ (tm6 (List.mem_of_getElem? (i := 236) rfl))) rfl
theorem w_1107 : (Jvm.Cond.fieldLink "LeavesOfMudModel" (259 : Nat) "LeavesOfMudModel" "one" "I") ∈ wsG := wsG_mem (List.mem_append_right _ (tm5 (List.mem_of_getElem? (i := 147) rfl))) rfl
theorem f_X9_259 : FldOK "LeavesOfMudModel" 259 9190 := ⟨RX9, TX9, 55, tyX9, rfl, rfl, by decide, rfl, rfl, inW9, tyX9_ok, nmX9, fun _ => rfl, fun h => absurd h (by decide), fun h => absurd h (by decide), fun _ => rfl, Or.inl w_1107⟩
theorem w_1108 : (Jvm.Cond.fieldLink "LeavesOfMudModel" (265 : Nat) "LeavesOfMudModel" "two" "I") ∈ wsG := wsG_mem (List.mem_append_right _ (tm5 (List.mem_of_getElem? (i := 148) rfl))) rfl
theorem f_X9_265 : FldOK "LeavesOfMudModel" 265 9200 := ⟨RX9, TX9, 55, tyX9, rfl, rfl, by decide, rfl, rfl, inW9, tyX9_ok, nmX9, fun _ => rfl, fun h => absurd h (by decide), fun h => absurd h (by decide), fun _ => rfl, Or.inl w_1108⟩
theorem w_1113 : (Jvm.Cond.fieldLink "LeavesOfMudModel" (268 : Nat) "LeavesOfMudModel" "barI" "I") ∈ wsG := wsG_mem (List.mem_append_right _ (tm5 (List.mem_of_getElem? (i := 153) rfl))) rfl
theorem f_X9_268 : FldOK "LeavesOfMudModel" 268 9250 := ⟨RX9, TX9, 55, tyX9, rfl, rfl, by decide, rfl, rfl, inW9, tyX9_ok, nmX9, fun _ => rfl, fun h => absurd h (by decide), fun h => absurd h (by decide), fun _ => rfl, Or.inl w_1113⟩
theorem w_1114 : (Jvm.Cond.fieldLink "LeavesOfMudModel" (271 : Nat) "LeavesOfMudModel" "barJ" "I") ∈ wsG := wsG_mem (List.mem_append_right _ (tm5 (List.mem_of_getElem? (i := 154) rfl))) rfl
theorem f_X9_271 : FldOK "LeavesOfMudModel" 271 9260 := ⟨RX9, TX9, 55, tyX9, rfl, rfl, by decide, rfl, rfl, inW9, tyX9_ok, nmX9, fun _ => rfl, fun h => absurd h (by decide), fun h => absurd h (by decide), fun _ => rfl, Or.inl w_1114⟩
theorem w_1111 : (Jvm.Cond.fieldLink "LeavesOfMudModel" (278 : Nat) "LeavesOfMudModel" "unlike" "I") ∈ wsG := wsG_mem (List.mem_append_right _ (tm5 (List.mem_of_getElem? (i := 151) rfl))) rfl
theorem f_X9_278 : FldOK "LeavesOfMudModel" 278 9230 := ⟨RX9, TX9, 55, tyX9, rfl, rfl, by decide, rfl, rfl, inW9, tyX9_ok, nmX9, fun _ => rfl, fun h => absurd h (by decide), fun h => absurd h (by decide), fun _ => rfl, Or.inl w_1111⟩
theorem w_1112 : (Jvm.Cond.fieldLink "LeavesOfMudModel" (284 : Nat) "LeavesOfMudModel" "ashen" "I") ∈ wsG := wsG_mem (List.mem_append_right _ (tm5 (List.mem_of_getElem? (i := 152) rfl))) rfl
theorem f_X9_284 : FldOK "LeavesOfMudModel" 284 9240 := ⟨RX9, TX9, 55, tyX9, rfl, rfl, by decide, rfl, rfl, inW9, tyX9_ok, nmX9, fun _ => rfl, fun h => absurd h (by decide), fun h => absurd h (by decide), fun _ => rfl, Or.inl w_1112⟩
theorem w_1109 : (Jvm.Cond.fieldLink "LeavesOfMudModel" (287 : Nat) "LeavesOfMudModel" "lost" "I") ∈ wsG := wsG_mem (List.mem_append_right _ (tm5 (List.mem_of_getElem? (i := 149) rfl))) rfl
theorem f_X9_287 : FldOK "LeavesOfMudModel" 287 9210 := ⟨RX9, TX9, 55, tyX9, rfl, rfl, by decide, rfl, rfl, inW9, tyX9_ok, nmX9, fun _ => rfl, fun h => absurd h (by decide), fun h => absurd h (by decide), fun _ => rfl, Or.inl w_1109⟩
theorem w_1110 : (Jvm.Cond.fieldLink "LeavesOfMudModel" (290 : Nat) "LeavesOfMudModel" "doubled" "I") ∈ wsG := wsG_mem (List.mem_append_right _ (tm5 (List.mem_of_getElem? (i := 150) rfl))) rfl
theorem f_X9_290 : FldOK "LeavesOfMudModel" 290 9220 := ⟨RX9, TX9, 55, tyX9, rfl, rfl, by decide, rfl, rfl, inW9, tyX9_ok, nmX9, fun _ => rfl, fun h => absurd h (by decide), fun h => absurd h (by decide), fun _ => rfl, Or.inl w_1110⟩
theorem w_1453 : (Jvm.Cond.constant "LeavesOfMudModel" (274 : Nat) (100000000 : Int32)) ∈ wsG := wsG_mem (List.mem_append_right _ (tm7 (List.mem_of_getElem? (i := 13) rfl))) rfl
theorem w_1464 : (Jvm.Cond.methodLink "LeavesOfMudModel" (275 : Nat) ({ cls := "LeavesOfMudModel", name := "ash", desc := "(I)I" } : Jvm.MethodName)) ∈ wsG := wsG_mem (List.mem_append_right _ (tm7 (List.mem_of_getElem? (i := 24) rfl))) rfl
theorem w_1458 : (Jvm.Cond.methodLink "LeavesOfMudModel" (256 : Nat) ({ cls := "LeavesOfMudModel", name := "wideA", desc := "(I)I" } : Jvm.MethodName)) ∈ wsG := wsG_mem (List.mem_append_right _ (tm7 (List.mem_of_getElem? (i := 18) rfl))) rfl
theorem w_1461 : (Jvm.Cond.methodLink "LeavesOfMudModel" (262 : Nat) ({ cls := "LeavesOfMudModel", name := "wideB", desc := "(I)I" } : Jvm.MethodName)) ∈ wsG := wsG_mem (List.mem_append_right _ (tm7 (List.mem_of_getElem? (i := 21) rfl))) rfl
theorem w_1468 : (Jvm.Cond.methodLink "LeavesOfMudModel" (281 : Nat) ({ cls := "LeavesOfMudModel", name := "size", desc := "(I)I" } : Jvm.MethodName)) ∈ wsG := wsG_mem (List.mem_append_right _ (tm7 (List.mem_of_getElem? (i := 28) rfl))) rfl
theorem w_1099 : (Jvm.Cond.fieldLink "LeavesOfMudModel" (207 : Nat) "LeavesOfMudModel" "laws" "I") ∈ wsG := wsG_mem (List.mem_append_right _ (tm5 (List.mem_of_getElem? (i := 139) rfl))) rfl
theorem f_X9_207 : FldOK "LeavesOfMudModel" 207 9110 := ⟨RX9, TX9, 55, tyX9, rfl, rfl, by decide, rfl, rfl, inW9, tyX9_ok, nmX9, fun _ => rfl, fun h => absurd h (by decide), fun h => absurd h (by decide), fun _ => rfl, Or.inl w_1099⟩
theorem w_1548 : (Jvm.Cond.methodLink "LeavesOfMudModel" (356 : Nat) ({ cls := "LeavesOfMudModel", name := "floats", desc := "(II)Z" } : Jvm.MethodName)) ∈ wsG := wsG_mem (List.mem_append_right _ (tm7 (List.mem_of_getElem? (i := 108) rfl))) rfl
theorem w_1534 : (Jvm.Cond.methodLink "LeavesOfMudModel" (338 : Nat) ({ cls := "LeavesOfMudModel", name := "ashAt", desc := "(II)I" } : Jvm.MethodName)) ∈ wsG := wsG_mem (List.mem_append_right _ (tm7 (List.mem_of_getElem? (i := 94) rfl))) rfl
theorem w_1119 : (Jvm.Cond.fieldLink "LeavesOfMudModel" (318 : Nat) "LeavesOfMudModel" "sureDone" "I") ∈ wsG := wsG_mem (List.mem_append_right _ (tm5 (List.mem_of_getElem? (i := 159) rfl))) rfl
theorem f_X9_318 : FldOK "LeavesOfMudModel" 318 9310 := ⟨RX9, TX9, 55, tyX9, rfl, rfl, by decide, rfl, rfl, inW9, tyX9_ok, nmX9, fun _ => rfl, fun h => absurd h (by decide), fun h => absurd h (by decide), fun _ => rfl, Or.inl w_1119⟩
theorem w_1133 : (Jvm.Cond.fieldLink "LeavesOfMudModel" (368 : Nat) "LeavesOfMudModel" "digsDone" "I") ∈ wsG := wsG_mem (List.mem_append_right _ (tm5 (List.mem_of_getElem? (i := 173) rfl))) rfl
theorem f_X9_368 : FldOK "LeavesOfMudModel" 368 9450 := ⟨RX9, TX9, 55, tyX9, rfl, rfl, by decide, rfl, rfl, inW9, tyX9_ok, nmX9, fun _ => rfl, fun h => absurd h (by decide), fun h => absurd h (by decide), fun _ => rfl, Or.inl w_1133⟩
theorem w_1521 : (Jvm.Cond.methodLink "LeavesOfMudModel" (345 : Nat) ({ cls := "LeavesOfMudModel", name := "keptSet", desc := "()I" } : Jvm.MethodName)) ∈ wsG := wsG_mem (List.mem_append_right _ (tm7 (List.mem_of_getElem? (i := 81) rfl))) rfl
theorem w_1568 : (Jvm.Cond.methodLink "LeavesOfMudModel" (362 : Nat) ({ cls := "LeavesOfMudModel", name := "manyOf", desc := "(I)I" } : Jvm.MethodName)) ∈ wsG := wsG_mem (List.mem_append_right _ (tm7 (List.mem_of_getElem? (i := 128) rfl))) rfl
theorem w_1646 : (Jvm.Cond.fieldLink "java/lang/String" (9 : Nat) "java/lang/String" "value" "[B") ∈ wsG := wsG_mem (List.mem_append_right _ (tm7 (List.mem_of_getElem? (i := 206) rfl))) rfl
theorem f_J0_9 : StrOK "java/lang/String" 9 20002 := ⟨rfl, Or.inl ⟨rfl, w_1646⟩⟩
theorem w_508 : (Jvm.Cond.methodLink "java/lang/String" (335 : Nat) ({ cls := "java/lang/String", name := "coder", desc := "()B" } : Jvm.MethodName)) ∈ wsG := wsG_mem (List.mem_append_right _ (tm3 (List.mem_of_getElem? (i := 28) rfl))) rfl
theorem w_515 : (Jvm.Cond.methodLink "java/lang/StringLatin1" (88 : Nat) ({ cls := "java/lang/StringLatin1", name := "canEncode", desc := "(I)Z" } : Jvm.MethodName)) ∈ wsG := wsG_mem (List.mem_append_right _ (tm3 (List.mem_of_getElem? (i := 35) rfl))) rfl
theorem w_518 : (Jvm.Cond.methodLink "java/lang/StringLatin1" (92 : Nat) ({ cls := "java/lang/Math", name := "max", desc := "(II)I" } : Jvm.MethodName)) ∈ wsG := wsG_mem (List.mem_append_right _ (tm3 (List.mem_of_getElem? (i := 38) rfl))) rfl
theorem w_521 : (Jvm.Cond.methodLink "java/lang/StringLatin1" (38 : Nat) ({ cls := "java/lang/Math", name := "min", desc := "(II)I" } : Jvm.MethodName)) ∈ wsG := wsG_mem (List.mem_append_right _ (tm3 (List.mem_of_getElem? (i := 41) rfl))) rfl
theorem w_524 : (Jvm.Cond.methodLink "java/lang/StringLatin1" (95 : Nat) ({ cls := "java/lang/StringLatin1", name := "indexOfChar", desc := "([BIII)I" } : Jvm.MethodName)) ∈ wsG := wsG_mem (List.mem_append_right _ (tm3 (List.mem_of_getElem? (i := 44) rfl))) rfl
theorem w_407 : (Jvm.Cond.methodLink "LeavesOfMud$Hands" (51 : Nat) ({ cls := "LeavesOfMud$Hands", name := "halvesAhead", desc := "(III)I" } : Jvm.MethodName)) ∈ wsG := wsG_mem (List.mem_append_right _ (tm2 (List.mem_of_getElem? (i := 167) rfl))) rfl
theorem wn_7 : (Jvm.Cond.fieldLinkNest "LeavesOfMud$Hands" (54 : Nat) "LeavesOfMud$Pits" "sizes" "[I" "LeavesOfMud") ∈ nestW := List.mem_of_getElem? (i := 7) rfl
theorem f_X1_54 : FldOK "LeavesOfMud$Hands" 54 6022 := ⟨RX6, TX6, 6, tyX6, rfl, rfl, by decide, rfl, rfl, inW6, tyX6_ok, nmX6, fun h => absurd h (by decide), fun h => absurd h (by decide), fun h => absurd h (by decide), fun h => absurd rfl h, Or.inr ⟨_, wn_7⟩⟩
theorem wn_12 : (Jvm.Cond.fieldLinkNest "LeavesOfMud$Net" (120 : Nat) "LeavesOfMud$Bonds" "firsts" "[I" "LeavesOfMud") ∈ nestW := List.mem_of_getElem? (i := 12) rfl
theorem f_X3_120 : FldOK "LeavesOfMud$Net" 120 12 := ⟨RX0, TX0, 11, tyX0, rfl, rfl, by decide, rfl, rfl, inW0, tyX0_ok, nmX0, fun h => absurd h (by decide), fun h => absurd h (by decide), fun h => absurd h (by decide), fun h => absurd rfl h, Or.inr ⟨_, wn_12⟩⟩
theorem wn_13 : (Jvm.Cond.fieldLinkNest "LeavesOfMud$Net" (123 : Nat) "LeavesOfMud$Bonds" "seconds" "[I" "LeavesOfMud") ∈ nestW := List.mem_of_getElem? (i := 13) rfl
theorem f_X3_123 : FldOK "LeavesOfMud$Net" 123 22 := ⟨RX0, TX0, 11, tyX0, rfl, rfl, by decide, rfl, rfl, inW0, tyX0_ok, nmX0, fun h => absurd h (by decide), fun h => absurd h (by decide), fun h => absurd h (by decide), fun h => absurd rfl h, Or.inr ⟨_, wn_13⟩⟩
theorem wn_14 : (Jvm.Cond.fieldLinkNest "LeavesOfMud$Net" (126 : Nat) "LeavesOfMud$Bonds" "lows" "[I" "LeavesOfMud") ∈ nestW := List.mem_of_getElem? (i := 14) rfl
theorem f_X3_126 : FldOK "LeavesOfMud$Net" 126 32 := ⟨RX0, TX0, 11, tyX0, rfl, rfl, by decide, rfl, rfl, inW0, tyX0_ok, nmX0, fun h => absurd h (by decide), fun h => absurd h (by decide), fun h => absurd h (by decide), fun h => absurd rfl h, Or.inr ⟨_, wn_14⟩⟩
theorem wn_15 : (Jvm.Cond.fieldLinkNest "LeavesOfMud$Net" (129 : Nat) "LeavesOfMud$Bonds" "highs" "[I" "LeavesOfMud") ∈ nestW := List.mem_of_getElem? (i := 15) rfl
theorem f_X3_129 : FldOK "LeavesOfMud$Net" 129 42 := ⟨RX0, TX0, 11, tyX0, rfl, rfl, by decide, rfl, rfl, inW0, tyX0_ok, nmX0, fun h => absurd h (by decide), fun h => absurd h (by decide), fun h => absurd h (by decide), fun h => absurd rfl h, Or.inr ⟨_, wn_15⟩⟩
theorem w_858 : (Jvm.Cond.methodLink "LeavesOfMud$Net" (101 : Nat) ({ cls := "LeavesOfMud$Net", name := "bind", desc := "([IIIII)Z" } : Jvm.MethodName)) ∈ wsG := wsG_mem (List.mem_append_right _ (tm4 (List.mem_of_getElem? (i := 138) rfl))) rfl
theorem w_264 : (Jvm.Cond.fieldLink "LeavesOfMud$Net" (15 : Nat) "LeavesOfMud$Net" "fixed" "[I") ∈ wsG := wsG_mem (List.mem_append_right _ (tm2 (List.mem_of_getElem? (i := 24) rfl))) rfl
theorem f_X3_15 : FldOK "LeavesOfMud$Net" 15 3042 := ⟨RX3, TX3, 15, tyX3, rfl, rfl, by decide, rfl, rfl, inW3, tyX3_ok, nmX3, fun h => absurd h (by decide), fun h => absurd h (by decide), fun h => absurd h (by decide), fun h => absurd rfl h, Or.inl w_264⟩
theorem w_850 : (Jvm.Cond.methodLink "LeavesOfMud$Net" (152 : Nat) ({ cls := "LeavesOfMud$Net", name := "firstPitWithAsh", desc := "(I)I" } : Jvm.MethodName)) ∈ wsG := wsG_mem (List.mem_append_right _ (tm4 (List.mem_of_getElem? (i := 130) rfl))) rfl
theorem w_904 : (Jvm.Cond.methodLink "LeavesOfMud$Net" (164 : Nat) ({ cls := "LeavesOfMud$Net", name := "hangTogether", desc := "(II)V" } : Jvm.MethodName)) ∈ wsG := wsG_mem (List.mem_append_right _ (tm4 (List.mem_of_getElem? (i := 184) rfl))) rfl
theorem w_966 : (Jvm.Cond.methodLink "LeavesOfMud$Net" (194 : Nat) ({ cls := "LeavesOfMud$Net", name := "isFloating", desc := "(II)Z" } : Jvm.MethodName)) ∈ wsG := wsG_mem (List.mem_append_right _ (tm5 (List.mem_of_getElem? (i := 6) rfl))) rfl
theorem w_967 : (Jvm.Cond.methodLink "LeavesOfMud$Net" (197 : Nat) ({ cls := "LeavesOfMud$Net", name := "widthOf", desc := "(II)I" } : Jvm.MethodName)) ∈ wsG := wsG_mem (List.mem_append_right _ (tm5 (List.mem_of_getElem? (i := 7) rfl))) rfl
theorem w_981 : (Jvm.Cond.methodLink "LeavesOfMud$Net" (217 : Nat) ({ cls := "LeavesOfMud$Net", name := "mostIfApart", desc := "(IIIII)I" } : Jvm.MethodName)) ∈ wsG := wsG_mem (List.mem_append_right _ (tm5 (List.mem_of_getElem? (i := 21) rfl))) rfl
theorem w_188 : (Jvm.Cond.fieldLink "LeavesOfMud$Pairing" (67 : Nat) "LeavesOfMud$Pairing" "pits" "LLeavesOfMud$Pits;") ∈ wsG := wsG_mem (List.mem_append_right _ (tm1 (List.mem_of_getElem? (i := 188) rfl))) rfl
theorem f_X5_67 : FldOK "LeavesOfMud$Pairing" 67 5002 := ⟨RX5, TX5, 20, tyX5, rfl, rfl, by decide, rfl, rfl, inW5, tyX5_ok, nmX5, fun h => absurd h (by decide), fun h => absurd h (by decide), fun h => absurd h (by decide), fun h => absurd rfl h, Or.inl w_188⟩
theorem wn_4 : (Jvm.Cond.fieldLinkNest "LeavesOfMud$Pairing" (75 : Nat) "LeavesOfMud$Pits" "sizes" "[I" "LeavesOfMud") ∈ nestW := List.mem_of_getElem? (i := 4) rfl
theorem f_X5_75 : FldOK "LeavesOfMud$Pairing" 75 6022 := ⟨RX6, TX6, 6, tyX6, rfl, rfl, by decide, rfl, rfl, inW6, tyX6_ok, nmX6, fun h => absurd h (by decide), fun h => absurd h (by decide), fun h => absurd h (by decide), fun h => absurd rfl h, Or.inr ⟨_, wn_4⟩⟩
theorem wn_69 : (Jvm.Cond.methodLinkNest "LeavesOfMud$Pairing" (93 : Nat) ({ cls := "LeavesOfMud$Pits", name := "thicknessOf", desc := "(II)I" } : Jvm.MethodName) "LeavesOfMud") ∈ nestW := List.mem_of_getElem? (i := 69) rfl
theorem wn_70 : (Jvm.Cond.methodLinkNest "LeavesOfMud$Pairing" (96 : Nat) ({ cls := "LeavesOfMud$Pits", name := "isAsh", desc := "(II)Z" } : Jvm.MethodName) "LeavesOfMud") ∈ nestW := List.mem_of_getElem? (i := 70) rfl
theorem wn_71 : (Jvm.Cond.methodLinkNest "LeavesOfMud$Pairing" (100 : Nat) ({ cls := "LeavesOfMud$Pits", name := "nOf", desc := "(II)I" } : Jvm.MethodName) "LeavesOfMud") ∈ nestW := List.mem_of_getElem? (i := 71) rfl
theorem w_196 : (Jvm.Cond.fieldLink "LeavesOfMud$Pairing" (31 : Nat) "LeavesOfMud$Pairing" "lost" "I") ∈ wsG := wsG_mem (List.mem_append_right _ (tm1 (List.mem_of_getElem? (i := 196) rfl))) rfl
theorem f_X5_31 : FldOK "LeavesOfMud$Pairing" 31 5080 := ⟨RX5, TX5, 20, tyX5, rfl, rfl, by decide, rfl, rfl, inW5, tyX5_ok, nmX5, fun _ => rfl, fun h => absurd h (by decide), fun h => absurd h (by decide), fun _ => rfl, Or.inl w_196⟩
theorem w_724 : (Jvm.Cond.methodLink "LeavesOfMud$Pairing" (132 : Nat) ({ cls := "LeavesOfMud$Pairing", name := "priceOfOneOnOne", desc := "(II)I" } : Jvm.MethodName)) ∈ wsG := wsG_mem (List.mem_append_right _ (tm4 (List.mem_of_getElem? (i := 4) rfl))) rfl
theorem w_737 : (Jvm.Cond.methodLink "LeavesOfMud$Pairing" (143 : Nat) ({ cls := "LeavesOfMud$Pairing", name := "priceOfDoubled", desc := "(II)I" } : Jvm.MethodName)) ∈ wsG := wsG_mem (List.mem_append_right _ (tm4 (List.mem_of_getElem? (i := 17) rfl))) rfl
theorem wn_73 : (Jvm.Cond.methodLinkNest "LeavesOfMud$Pairing" (135 : Nat) ({ cls := "LeavesOfMud", name := "asNumber", desc := "(Z)I" } : Jvm.MethodName) "LeavesOfMud") ∈ nestW := List.mem_of_getElem? (i := 73) rfl
theorem w_734 : (Jvm.Cond.methodLink "LeavesOfMud$Pairing" (139 : Nat) ({ cls := "LeavesOfMud$Pairing", name := "ashesFrom", desc := "([II)I" } : Jvm.MethodName)) ∈ wsG := wsG_mem (List.mem_append_right _ (tm4 (List.mem_of_getElem? (i := 14) rfl))) rfl
theorem w_1010 : (Jvm.Cond.methodLink "LeavesOfMud$Pits" (51 : Nat) ({ cls := "LeavesOfMud$Pits", name := "isAsh", desc := "(II)Z" } : Jvm.MethodName)) ∈ wsG := wsG_mem (List.mem_append_right _ (tm5 (List.mem_of_getElem? (i := 50) rfl))) rfl
theorem w_1011 : (Jvm.Cond.methodLink "LeavesOfMud$Pits" (55 : Nat) ({ cls := "LeavesOfMud$Pits", name := "nOf", desc := "(II)I" } : Jvm.MethodName)) ∈ wsG := wsG_mem (List.mem_append_right _ (tm5 (List.mem_of_getElem? (i := 51) rfl))) rfl
theorem wn_62 : (Jvm.Cond.methodLinkNest "LeavesOfMud$Slides" (34 : Nat) ({ cls := "LeavesOfMud$Pits", name := "stepBetween", desc := "(III)I" } : Jvm.MethodName) "LeavesOfMud") ∈ nestW := List.mem_of_getElem? (i := 62) rfl
theorem wn_63 : (Jvm.Cond.methodLinkNest "LeavesOfMud$Slides" (37 : Nat) ({ cls := "LeavesOfMud$Pits", name := "isAsh", desc := "(II)Z" } : Jvm.MethodName) "LeavesOfMud") ∈ nestW := List.mem_of_getElem? (i := 63) rfl
theorem wn_64 : (Jvm.Cond.methodLinkNest "LeavesOfMud$Slides" (41 : Nat) ({ cls := "LeavesOfMud$Pits", name := "nOf", desc := "(II)I" } : Jvm.MethodName) "LeavesOfMud") ∈ nestW := List.mem_of_getElem? (i := 64) rfl
theorem w_641 : (Jvm.Cond.methodLink "LeavesOfMud$Slides" (30 : Nat) ({ cls := "LeavesOfMud$Slides", name := "turnedPlace", desc := "(III)I" } : Jvm.MethodName)) ∈ wsG := wsG_mem (List.mem_append_right _ (tm3 (List.mem_of_getElem? (i := 161) rfl))) rfl
theorem wn_6 : (Jvm.Cond.fieldLinkNest "LeavesOfMud" (106 : Nat) "LeavesOfMud$Pits" "sizes" "[I" "LeavesOfMud") ∈ nestW := List.mem_of_getElem? (i := 6) rfl
theorem f_X8_106 : FldOK "LeavesOfMud" 106 6022 := ⟨RX6, TX6, 6, tyX6, rfl, rfl, by decide, rfl, rfl, inW6, tyX6_ok, nmX6, fun h => absurd h (by decide), fun h => absurd h (by decide), fun h => absurd h (by decide), fun h => absurd rfl h, Or.inr ⟨_, wn_6⟩⟩
theorem wn_43 : (Jvm.Cond.methodLinkNest "LeavesOfMud" (110 : Nat) ({ cls := "LeavesOfMud$Pits", name := "push", desc := "(IIII)V" } : Jvm.MethodName) "LeavesOfMud") ∈ nestW := List.mem_of_getElem? (i := 43) rfl
theorem w_368 : (Jvm.Cond.methodLink "LeavesOfMud" (103 : Nat) ({ cls := "LeavesOfMud", name := "isLeafAsTold", desc := "(III)Z" } : Jvm.MethodName)) ∈ wsG := wsG_mem (List.mem_append_right _ (tm2 (List.mem_of_getElem? (i := 128) rfl))) rfl
theorem wn_44 : (Jvm.Cond.methodLinkNest "LeavesOfMud" (114 : Nat) ({ cls := "LeavesOfMud$Pits", name := "hasLeaf", desc := "(II)Z" } : Jvm.MethodName) "LeavesOfMud") ∈ nestW := List.mem_of_getElem? (i := 44) rfl
theorem wn_45 : (Jvm.Cond.methodLinkNest "LeavesOfMud" (118 : Nat) ({ cls := "LeavesOfMud$Pits", name := "kindOf", desc := "(II)I" } : Jvm.MethodName) "LeavesOfMud") ∈ nestW := List.mem_of_getElem? (i := 45) rfl
theorem w_392 : (Jvm.Cond.methodLink "LeavesOfMud" (122 : Nat) ({ cls := "LeavesOfMud", name := "isOfKind", desc := "(II)Z" } : Jvm.MethodName)) ∈ wsG := wsG_mem (List.mem_append_right _ (tm2 (List.mem_of_getElem? (i := 152) rfl))) rfl
theorem wn_49 : (Jvm.Cond.methodLinkNest "LeavesOfMud" (132 : Nat) ({ cls := "LeavesOfMud$Pits", name := "thicknessOf", desc := "(II)I" } : Jvm.MethodName) "LeavesOfMud") ∈ nestW := List.mem_of_getElem? (i := 49) rfl
theorem wn_52 : (Jvm.Cond.methodLinkNest "LeavesOfMud" (135 : Nat) ({ cls := "LeavesOfMud$Pits", name := "put", desc := "(IIIII)V" } : Jvm.MethodName) "LeavesOfMud") ∈ nestW := List.mem_of_getElem? (i := 52) rfl
theorem w_448 : (Jvm.Cond.methodLink "LeavesOfMud" (139 : Nat) ({ cls := "LeavesOfMud", name := "seedAfter", desc := "(J)J" } : Jvm.MethodName)) ∈ wsG := wsG_mem (List.mem_append_right _ (tm2 (List.mem_of_getElem? (i := 208) rfl))) rfl
theorem w_454 : (Jvm.Cond.methodLink "LeavesOfMud" (143 : Nat) ({ cls := "LeavesOfMud", name := "drawn", desc := "(JI)I" } : Jvm.MethodName)) ∈ wsG := wsG_mem (List.mem_append_right _ (tm2 (List.mem_of_getElem? (i := 214) rfl))) rfl
theorem wn_53 : (Jvm.Cond.methodLinkNest "LeavesOfMud" (155 : Nat) ({ cls := "LeavesOfMud$Page", name := "write", desc := "(I)V" } : Jvm.MethodName) "LeavesOfMud") ∈ nestW := List.mem_of_getElem? (i := 53) rfl
theorem w_462 : (Jvm.Cond.methodLink "LeavesOfMud" (147 : Nat) ({ cls := "LeavesOfMud", name := "lettersIn", desc := "(J)I" } : Jvm.MethodName)) ∈ wsG := wsG_mem (List.mem_append_right _ (tm2 (List.mem_of_getElem? (i := 222) rfl))) rfl
theorem w_317 : (Jvm.Cond.fieldLink "LeavesOfMud" (59 : Nat) "LeavesOfMud" "slides" "LLeavesOfMud$Slides;") ∈ wsG := wsG_mem (List.mem_append_right _ (tm2 (List.mem_of_getElem? (i := 77) rfl))) rfl
theorem f_X8_59 : FldOK "LeavesOfMud" 59 8082 := ⟨RX8, TX8, 13, tyX8, rfl, rfl, by decide, rfl, rfl, inW8, tyX8_ok, nmX8, fun h => absurd h (by decide), fun h => absurd h (by decide), fun h => absurd h (by decide), fun h => absurd rfl h, Or.inl w_317⟩
theorem wn_60 : (Jvm.Cond.methodLinkNest "LeavesOfMud" (187 : Nat) ({ cls := "LeavesOfMud$Slides", name := "overOf", desc := "(III)I" } : Jvm.MethodName) "LeavesOfMud") ∈ nestW := List.mem_of_getElem? (i := 60) rfl
theorem w_626 : (Jvm.Cond.methodLink "LeavesOfMud" (183 : Nat) ({ cls := "LeavesOfMud", name := "isSlide", desc := "(I)Z" } : Jvm.MethodName)) ∈ wsG := wsG_mem (List.mem_append_right _ (tm3 (List.mem_of_getElem? (i := 146) rfl))) rfl
theorem wn_80 : (Jvm.Cond.methodLinkNest "LeavesOfMud" (240 : Nat) ({ cls := "LeavesOfMud$Bonds", name := "addJoin", desc := "(IIIII)I" } : Jvm.MethodName) "LeavesOfMud") ∈ nestW := List.mem_of_getElem? (i := 80) rfl
theorem w_780 : (Jvm.Cond.methodLink "LeavesOfMud" (234 : Nat) ({ cls := "LeavesOfMud", name := "isRange", desc := "(III)Z" } : Jvm.MethodName)) ∈ wsG := wsG_mem (List.mem_append_right _ (tm4 (List.mem_of_getElem? (i := 60) rfl))) rfl
theorem wn_84 : (Jvm.Cond.methodLinkNest "LeavesOfMud" (258 : Nat) ({ cls := "LeavesOfMud$Bonds", name := "setTie", desc := "(III)V" } : Jvm.MethodName) "LeavesOfMud") ∈ nestW := List.mem_of_getElem? (i := 84) rfl
theorem w_311 : (Jvm.Cond.fieldLink "LeavesOfMud" (23 : Nat) "LeavesOfMud" "imagePits" "LLeavesOfMud$Pits;") ∈ wsG := wsG_mem (List.mem_append_right _ (tm2 (List.mem_of_getElem? (i := 71) rfl))) rfl
theorem f_X8_23 : FldOK "LeavesOfMud" 23 8022 := ⟨RX8, TX8, 13, tyX8, rfl, rfl, by decide, rfl, rfl, inW8, tyX8_ok, nmX8, fun h => absurd h (by decide), fun h => absurd h (by decide), fun h => absurd h (by decide), fun h => absurd rfl h, Or.inl w_311⟩
theorem w_312 : (Jvm.Cond.fieldLink "LeavesOfMud" (26 : Nat) "LeavesOfMud" "imageBonds" "LLeavesOfMud$Bonds;") ∈ wsG := wsG_mem (List.mem_append_right _ (tm2 (List.mem_of_getElem? (i := 72) rfl))) rfl
theorem f_X8_26 : FldOK "LeavesOfMud" 26 8032 := ⟨RX8, TX8, 13, tyX8, rfl, rfl, by decide, rfl, rfl, inW8, tyX8_ok, nmX8, fun h => absurd h (by decide), fun h => absurd h (by decide), fun h => absurd h (by decide), fun h => absurd rfl h, Or.inl w_312⟩
theorem w_313 : (Jvm.Cond.fieldLink "LeavesOfMud" (29 : Nat) "LeavesOfMud" "imageKept" "Z") ∈ wsG := wsG_mem (List.mem_append_right _ (tm2 (List.mem_of_getElem? (i := 73) rfl))) rfl
theorem f_X8_29 : FldOK "LeavesOfMud" 29 8043 := ⟨RX8, TX8, 13, tyX8, rfl, rfl, by decide, rfl, rfl, inW8, tyX8_ok, nmX8, fun h => absurd h (by decide), fun h => absurd h (by decide), fun _ => rfl, fun _ => rfl, Or.inl w_313⟩
theorem wn_105 : (Jvm.Cond.methodLinkNest "LeavesOfMud" (325 : Nat) ({ cls := "LeavesOfMud$Pits", name := "copyFrom", desc := "(LLeavesOfMud$Pits;)V" } : Jvm.MethodName) "LeavesOfMud") ∈ nestW := List.mem_of_getElem? (i := 105) rfl
theorem wn_106 : (Jvm.Cond.methodLinkNest "LeavesOfMud" (328 : Nat) ({ cls := "LeavesOfMud$Bonds", name := "copyFrom", desc := "(LLeavesOfMud$Bonds;)V" } : Jvm.MethodName) "LeavesOfMud") ∈ nestW := List.mem_of_getElem? (i := 106) rfl
theorem wn_50 : (Jvm.Cond.methodLinkNest "LeavesOfMud" (380 : Nat) ({ cls := "LeavesOfMud$Pits", name := "nOf", desc := "(II)I" } : Jvm.MethodName) "LeavesOfMud") ∈ nestW := List.mem_of_getElem? (i := 50) rfl
theorem wn_51 : (Jvm.Cond.methodLinkNest "LeavesOfMud" (383 : Nat) ({ cls := "LeavesOfMud$Pits", name := "stepBetween", desc := "(III)I" } : Jvm.MethodName) "LeavesOfMud") ∈ nestW := List.mem_of_getElem? (i := 51) rfl
theorem w_1267 : (Jvm.Cond.methodLink "LeavesOfMudModel" (116 : Nat) ({ cls := "LeavesOfMudModel", name := "isPit", desc := "(I)Z" } : Jvm.MethodName)) ∈ wsG := wsG_mem (List.mem_append_right _ (tm6 (List.mem_of_getElem? (i := 67) rfl))) rfl
theorem w_1271 : (Jvm.Cond.methodLink "LeavesOfMudModel" (128 : Nat) ({ cls := "LeavesOfMudModel", name := "isLeafTold", desc := "(III)Z" } : Jvm.MethodName)) ∈ wsG := wsG_mem (List.mem_append_right _ (tm6 (List.mem_of_getElem? (i := 71) rfl))) rfl
theorem w_1322 : (Jvm.Cond.constantLong "LeavesOfMudModel" (164 : Nat) (20 : Int64)) ∈ wsG := wsG_mem (List.mem_append_right _ (tm6 (List.mem_of_getElem? (i := 122) rfl))) rfl
theorem w_1323 : (Jvm.Cond.methodLink "LeavesOfMudModel" (166 : Nat) ({ cls := "LeavesOfMudModel", name := "draw", desc := "(I)I" } : Jvm.MethodName)) ∈ wsG := wsG_mem (List.mem_append_right _ (tm6 (List.mem_of_getElem? (i := 123) rfl))) rfl
theorem w_1331 : (Jvm.Cond.methodLink "LeavesOfMudModel" (170 : Nat) ({ cls := "LeavesOfMudModel", name := "layOne", desc := "(III)V" } : Jvm.MethodName)) ∈ wsG := wsG_mem (List.mem_append_right _ (tm6 (List.mem_of_getElem? (i := 131) rfl))) rfl
theorem w_1352 : (Jvm.Cond.methodLink "LeavesOfMudModel" (198 : Nat) ({ cls := "LeavesOfMudModel", name := "go", desc := "(II)Z" } : Jvm.MethodName)) ∈ wsG := wsG_mem (List.mem_append_right _ (tm6 (List.mem_of_getElem? (i := 152) rfl))) rfl
theorem w_1299 : (Jvm.Cond.methodLink "LeavesOfMudModel" (216 : Nat) ({ cls := "LeavesOfMudModel", name := "halvesAhead", desc := "(III)I" } : Jvm.MethodName)) ∈ wsG := wsG_mem (List.mem_append_right _ (tm6 (List.mem_of_getElem? (i := 99) rfl))) rfl
theorem w_1413 : (Jvm.Cond.methodLink "LeavesOfMudModel" (230 : Nat) ({ cls := "LeavesOfMudModel", name := "turned", desc := "(III)I" } : Jvm.MethodName)) ∈ wsG := wsG_mem (List.mem_append_right _ (tm6 (List.mem_of_getElem? (i := 213) rfl))) rfl
theorem w_1307 : (Jvm.Cond.methodLink "LeavesOfMudModel" (151 : Nat) ({ cls := "LeavesOfMudModel", name := "stepOf", desc := "(II)I" } : Jvm.MethodName)) ∈ wsG := wsG_mem (List.mem_append_right _ (tm6 (List.mem_of_getElem? (i := 107) rfl))) rfl
theorem w_1404 : (Jvm.Cond.methodLink "LeavesOfMudModel" (237 : Nat) ({ cls := "LeavesOfMudModel", name := "overOf", desc := "(III)I" } : Jvm.MethodName)) ∈ wsG := wsG_mem (List.mem_append_right _ (tm6 (List.mem_of_getElem? (i := 204) rfl))) rfl
theorem w_1398 : (Jvm.Cond.methodLink "LeavesOfMudModel" (233 : Nat) ({ cls := "LeavesOfMudModel", name := "isSlide", desc := "(I)Z" } : Jvm.MethodName)) ∈ wsG := wsG_mem (List.mem_append_right _ (tm6 (List.mem_of_getElem? (i := 198) rfl))) rfl
theorem w_1100 : (Jvm.Cond.fieldLink "LeavesOfMudModel" (31 : Nat) "LeavesOfMudModel" "lawRows" "[I") ∈ wsG := wsG_mem (List.mem_append_right _ (tm5 (List.mem_of_getElem? (i := 140) rfl))) rfl
theorem f_X9_31 : FldOK "LeavesOfMudModel" 31 9122 := ⟨RX9, TX9, 55, tyX9, rfl, rfl, by decide, rfl, rfl, inW9, tyX9_ok, nmX9, fun h => absurd h (by decide), fun h => absurd h (by decide), fun h => absurd h (by decide), fun h => absurd rfl h, Or.inl w_1100⟩
theorem w_1105 : (Jvm.Cond.fieldLink "LeavesOfMudModel" (37 : Nat) "LeavesOfMudModel" "least" "[I") ∈ wsG := wsG_mem (List.mem_append_right _ (tm5 (List.mem_of_getElem? (i := 145) rfl))) rfl
theorem f_X9_37 : FldOK "LeavesOfMudModel" 37 9172 := ⟨RX9, TX9, 55, tyX9, rfl, rfl, by decide, rfl, rfl, inW9, tyX9_ok, nmX9, fun h => absurd h (by decide), fun h => absurd h (by decide), fun h => absurd h (by decide), fun h => absurd rfl h, Or.inl w_1105⟩
theorem w_1106 : (Jvm.Cond.fieldLink "LeavesOfMudModel" (40 : Nat) "LeavesOfMudModel" "ways" "[I") ∈ wsG := wsG_mem (List.mem_append_right _ (tm5 (List.mem_of_getElem? (i := 146) rfl))) rfl
theorem f_X9_40 : FldOK "LeavesOfMudModel" 40 9182 := ⟨RX9, TX9, 55, tyX9, rfl, rfl, by decide, rfl, rfl, inW9, tyX9_ok, nmX9, fun h => absurd h (by decide), fun h => absurd h (by decide), fun h => absurd h (by decide), fun h => absurd rfl h, Or.inl w_1106⟩
theorem w_1476 : (Jvm.Cond.constant "LeavesOfMudModel" (301 : Nat) (999999999 : Int32)) ∈ wsG := wsG_mem (List.mem_append_right _ (tm7 (List.mem_of_getElem? (i := 36) rfl))) rfl
theorem w_1475 : (Jvm.Cond.constantLong "LeavesOfMudModel" (299 : Nat) (999999999 : Int64)) ∈ wsG := wsG_mem (List.mem_append_right _ (tm7 (List.mem_of_getElem? (i := 35) rfl))) rfl
theorem w_1454 : (Jvm.Cond.methodLink "LeavesOfMudModel" (293 : Nat) ({ cls := "LeavesOfMudModel", name := "price", desc := "(III)I" } : Jvm.MethodName)) ∈ wsG := wsG_mem (List.mem_append_right _ (tm7 (List.mem_of_getElem? (i := 14) rfl))) rfl
theorem w_1471 : (Jvm.Cond.methodLink "LeavesOfMudModel" (296 : Nat) ({ cls := "LeavesOfMudModel", name := "behind", desc := "(III)I" } : Jvm.MethodName)) ∈ wsG := wsG_mem (List.mem_append_right _ (tm7 (List.mem_of_getElem? (i := 31) rfl))) rfl
theorem w_1116 : (Jvm.Cond.fieldLink "LeavesOfMudModel" (302 : Nat) "LeavesOfMudModel" "wayMany" "I") ∈ wsG := wsG_mem (List.mem_append_right _ (tm5 (List.mem_of_getElem? (i := 156) rfl))) rfl
theorem f_X9_302 : FldOK "LeavesOfMudModel" 302 9280 := ⟨RX9, TX9, 55, tyX9, rfl, rfl, by decide, rfl, rfl, inW9, tyX9_ok, nmX9, fun _ => rfl, fun h => absurd h (by decide), fun h => absurd h (by decide), fun _ => rfl, Or.inl w_1116⟩
theorem w_1117 : (Jvm.Cond.fieldLink "LeavesOfMudModel" (46 : Nat) "LeavesOfMudModel" "lying" "[I") ∈ wsG := wsG_mem (List.mem_append_right _ (tm5 (List.mem_of_getElem? (i := 157) rfl))) rfl
theorem f_X9_46 : FldOK "LeavesOfMudModel" 46 9292 := ⟨RX9, TX9, 55, tyX9, rfl, rfl, by decide, rfl, rfl, inW9, tyX9_ok, nmX9, fun h => absurd h (by decide), fun h => absurd h (by decide), fun h => absurd h (by decide), fun h => absurd rfl h, Or.inl w_1117⟩
theorem w_1118 : (Jvm.Cond.fieldLink "LeavesOfMudModel" (49 : Nat) "LeavesOfMudModel" "isPlain" "[Z") ∈ wsG := wsG_mem (List.mem_append_right _ (tm5 (List.mem_of_getElem? (i := 158) rfl))) rfl
theorem f_X9_49 : FldOK "LeavesOfMudModel" 49 9302 := ⟨RX9, TX9, 55, tyX9, rfl, rfl, by decide, rfl, rfl, inW9, tyX9_ok, nmX9, fun h => absurd h (by decide), fun h => absurd h (by decide), fun h => absurd h (by decide), fun h => absurd rfl h, Or.inl w_1118⟩
theorem w_1115 : (Jvm.Cond.fieldLink "LeavesOfMudModel" (43 : Nat) "LeavesOfMudModel" "way" "[I") ∈ wsG := wsG_mem (List.mem_append_right _ (tm5 (List.mem_of_getElem? (i := 155) rfl))) rfl
theorem f_X9_43 : FldOK "LeavesOfMudModel" 43 9272 := ⟨RX9, TX9, 55, tyX9, rfl, rfl, by decide, rfl, rfl, inW9, tyX9_ok, nmX9, fun h => absurd h (by decide), fun h => absurd h (by decide), fun h => absurd h (by decide), fun h => absurd rfl h, Or.inl w_1115⟩
theorem w_1493 : (Jvm.Cond.constantLong "LeavesOfMudModel" (321 : Nat) (-999 : Int64)) ∈ wsG := wsG_mem (List.mem_append_right _ (tm7 (List.mem_of_getElem? (i := 53) rfl))) rfl
theorem w_1494 : (Jvm.Cond.constantLong "LeavesOfMudModel" (323 : Nat) (999 : Int64)) ∈ wsG := wsG_mem (List.mem_append_right _ (tm7 (List.mem_of_getElem? (i := 54) rfl))) rfl
theorem w_1503 : (Jvm.Cond.constantLong "LeavesOfMudModel" (328 : Nat) (-9999 : Int64)) ∈ wsG := wsG_mem (List.mem_append_right _ (tm7 (List.mem_of_getElem? (i := 63) rfl))) rfl
theorem w_1504 : (Jvm.Cond.constantLong "LeavesOfMudModel" (330 : Nat) (9999 : Int64)) ∈ wsG := wsG_mem (List.mem_append_right _ (tm7 (List.mem_of_getElem? (i := 64) rfl))) rfl
theorem w_1617 : (Jvm.Cond.methodLink "LeavesOfMudModel" (388 : Nat) ({ cls := "LeavesOfMudModel", name := "countOf", desc := "(I)I" } : Jvm.MethodName)) ∈ wsG := wsG_mem (List.mem_append_right _ (tm7 (List.mem_of_getElem? (i := 177) rfl))) rfl
theorem wn_19 : (Jvm.Cond.fieldLinkNest "LeavesOfMud$Net" (95 : Nat) "LeavesOfMud$Bonds" "tieLows" "[I" "LeavesOfMud") ∈ nestW := List.mem_of_getElem? (i := 19) rfl
theorem f_X3_95 : FldOK "LeavesOfMud$Net" 95 82 := ⟨RX0, TX0, 11, tyX0, rfl, rfl, by decide, rfl, rfl, inW0, tyX0_ok, nmX0, fun h => absurd h (by decide), fun h => absurd h (by decide), fun h => absurd h (by decide), fun h => absurd rfl h, Or.inr ⟨_, wn_19⟩⟩
theorem wn_20 : (Jvm.Cond.fieldLinkNest "LeavesOfMud$Net" (98 : Nat) "LeavesOfMud$Bonds" "tieHighs" "[I" "LeavesOfMud") ∈ nestW := List.mem_of_getElem? (i := 20) rfl
theorem f_X3_98 : FldOK "LeavesOfMud$Net" 98 92 := ⟨RX0, TX0, 11, tyX0, rfl, rfl, by decide, rfl, rfl, inW0, tyX0_ok, nmX0, fun h => absurd h (by decide), fun h => absurd h (by decide), fun h => absurd h (by decide), fun h => absurd rfl h, Or.inr ⟨_, wn_20⟩⟩
theorem w_839 : (Jvm.Cond.methodLink "LeavesOfMud$Net" (78 : Nat) ({ cls := "LeavesOfMud$Net", name := "findAshes", desc := "()V" } : Jvm.MethodName)) ∈ wsG := wsG_mem (List.mem_append_right _ (tm4 (List.mem_of_getElem? (i := 119) rfl))) rfl
theorem w_846 : (Jvm.Cond.methodLink "LeavesOfMud$Net" (81 : Nat) ({ cls := "LeavesOfMud$Net", name := "bindAshes", desc := "(I)Z" } : Jvm.MethodName)) ∈ wsG := wsG_mem (List.mem_append_right _ (tm4 (List.mem_of_getElem? (i := 126) rfl))) rfl
theorem wn_90 : (Jvm.Cond.methodLinkNest "LeavesOfMud$Net" (90 : Nat) ({ cls := "LeavesOfMud$Bonds", name := "isTied", desc := "(I)Z" } : Jvm.MethodName) "LeavesOfMud") ∈ nestW := List.mem_of_getElem? (i := 90) rfl
theorem wn_10 : (Jvm.Cond.fieldLinkNest "LeavesOfMud$Net" (111 : Nat) "LeavesOfMud$Bonds" "joins" "I" "LeavesOfMud") ∈ nestW := List.mem_of_getElem? (i := 10) rfl
theorem f_X3_111 : FldOK "LeavesOfMud$Net" 111 0 := ⟨RX0, TX0, 11, tyX0, rfl, rfl, by decide, rfl, rfl, inW0, tyX0_ok, nmX0, fun _ => rfl, fun h => absurd h (by decide), fun h => absurd h (by decide), fun _ => rfl, Or.inr ⟨_, wn_10⟩⟩
theorem wn_91 : (Jvm.Cond.methodLinkNest "LeavesOfMud$Net" (114 : Nat) ({ cls := "LeavesOfMud$Bonds", name := "isKept", desc := "(I)Z" } : Jvm.MethodName) "LeavesOfMud") ∈ nestW := List.mem_of_getElem? (i := 91) rfl
theorem w_871 : (Jvm.Cond.methodLink "LeavesOfMud$Net" (117 : Nat) ({ cls := "LeavesOfMud$Net", name := "bindJoin", desc := "([II)Z" } : Jvm.MethodName)) ∈ wsG := wsG_mem (List.mem_append_right _ (tm4 (List.mem_of_getElem? (i := 151) rfl))) rfl
theorem w_908 : (Jvm.Cond.methodLink "LeavesOfMud$Net" (168 : Nat) ({ cls := "LeavesOfMud$Net", name := "groupAshes", desc := "(I)V" } : Jvm.MethodName)) ∈ wsG := wsG_mem (List.mem_append_right _ (tm4 (List.mem_of_getElem? (i := 188) rfl))) rfl
theorem wn_16 : (Jvm.Cond.fieldLinkNest "LeavesOfMud$Net" (187 : Nat) "LeavesOfMud$Bonds" "doubts" "[I" "LeavesOfMud") ∈ nestW := List.mem_of_getElem? (i := 16) rfl
theorem f_X3_187 : FldOK "LeavesOfMud$Net" 187 52 := ⟨RX0, TX0, 11, tyX0, rfl, rfl, by decide, rfl, rfl, inW0, tyX0_ok, nmX0, fun h => absurd h (by decide), fun h => absurd h (by decide), fun h => absurd h (by decide), fun h => absurd rfl h, Or.inr ⟨_, wn_16⟩⟩
theorem w_938 : (Jvm.Cond.methodLink "LeavesOfMud$Net" (181 : Nat) ({ cls := "LeavesOfMud$Net", name := "considerCast", desc := "(II)V" } : Jvm.MethodName)) ∈ wsG := wsG_mem (List.mem_append_right _ (tm4 (List.mem_of_getElem? (i := 218) rfl))) rfl
theorem w_942 : (Jvm.Cond.methodLink "LeavesOfMud$Net" (184 : Nat) ({ cls := "LeavesOfMud$Net", name := "copyLevel", desc := "(I)V" } : Jvm.MethodName)) ∈ wsG := wsG_mem (List.mem_append_right _ (tm4 (List.mem_of_getElem? (i := 222) rfl))) rfl
theorem w_934 : (Jvm.Cond.methodLink "LeavesOfMud$Net" (177 : Nat) ({ cls := "LeavesOfMud$Net", name := "castFrom", desc := "(III)V" } : Jvm.MethodName)) ∈ wsG := wsG_mem (List.mem_append_right _ (tm4 (List.mem_of_getElem? (i := 214) rfl))) rfl
theorem w_976 : (Jvm.Cond.methodLink "LeavesOfMud$Net" (206 : Nat) ({ cls := "LeavesOfMud$Net", name := "endOfSpan", desc := "(III)I" } : Jvm.MethodName)) ∈ wsG := wsG_mem (List.mem_append_right _ (tm5 (List.mem_of_getElem? (i := 16) rfl))) rfl
theorem w_977 : (Jvm.Cond.methodLink "LeavesOfMud$Net" (209 : Nat) ({ cls := "LeavesOfMud$Net", name := "widthsIfApart", desc := "(III)I" } : Jvm.MethodName)) ∈ wsG := wsG_mem (List.mem_append_right _ (tm5 (List.mem_of_getElem? (i := 17) rfl))) rfl
theorem w_986 : (Jvm.Cond.methodLink "LeavesOfMud$Net" (212 : Nat) ({ cls := "java/lang/Math", name := "max", desc := "(II)I" } : Jvm.MethodName)) ∈ wsG := wsG_mem (List.mem_append_right _ (tm5 (List.mem_of_getElem? (i := 26) rfl))) rfl
theorem w_741 : (Jvm.Cond.constant "LeavesOfMud$Pairing" (120 : Nat) (999999999 : Int32)) ∈ wsG := wsG_mem (List.mem_append_right _ (tm4 (List.mem_of_getElem? (i := 21) rfl))) rfl
theorem w_708 : (Jvm.Cond.methodLink "LeavesOfMud$Pairing" (111 : Nat) ({ cls := "LeavesOfMud$Pairing", name := "canStep", desc := "(III)Z" } : Jvm.MethodName)) ∈ wsG := wsG_mem (List.mem_append_right _ (tm3 (List.mem_of_getElem? (i := 228) rfl))) rfl
theorem w_716 : (Jvm.Cond.methodLink "LeavesOfMud$Pairing" (114 : Nat) ({ cls := "LeavesOfMud$Pairing", name := "placeAfter", desc := "(III)I" } : Jvm.MethodName)) ∈ wsG := wsG_mem (List.mem_append_right _ (tm3 (List.mem_of_getElem? (i := 236) rfl))) rfl
theorem w_720 : (Jvm.Cond.methodLink "LeavesOfMud$Pairing" (118 : Nat) ({ cls := "LeavesOfMud$Pairing", name := "priceOf", desc := "(III)I" } : Jvm.MethodName)) ∈ wsG := wsG_mem (List.mem_append_right _ (tm4 (List.mem_of_getElem? (i := 0) rfl))) rfl
theorem w_742 : (Jvm.Cond.methodLink "LeavesOfMud$Pairing" (121 : Nat) ({ cls := "java/lang/Math", name := "min", desc := "(II)I" } : Jvm.MethodName)) ∈ wsG := wsG_mem (List.mem_append_right _ (tm4 (List.mem_of_getElem? (i := 22) rfl))) rfl
theorem w_1012 : (Jvm.Cond.methodLink "LeavesOfMud$Pits" (62 : Nat) ({ cls := "LeavesOfMud$Pits", name := "firstAsh", desc := "(II)I" } : Jvm.MethodName)) ∈ wsG := wsG_mem (List.mem_append_right _ (tm5 (List.mem_of_getElem? (i := 52) rfl))) rfl
theorem w_663 : (Jvm.Cond.constant "LeavesOfMud$Slides" (44 : Nat) (-100004 : Int32)) ∈ wsG := wsG_mem (List.mem_append_right _ (tm3 (List.mem_of_getElem? (i := 183) rfl))) rfl
theorem w_664 : (Jvm.Cond.methodLink "LeavesOfMud$Slides" (45 : Nat) ({ cls := "LeavesOfMud$Slides", name := "overOf", desc := "(III)I" } : Jvm.MethodName)) ∈ wsG := wsG_mem (List.mem_append_right _ (tm3 (List.mem_of_getElem? (i := 184) rfl))) rfl
theorem w_665 : (Jvm.Cond.methodLink "LeavesOfMud$Slides" (48 : Nat) ({ cls := "LeavesOfMud$Slides", name := "likeOf", desc := "(IIII)I" } : Jvm.MethodName)) ∈ wsG := wsG_mem (List.mem_append_right _ (tm3 (List.mem_of_getElem? (i := 185) rfl))) rfl
theorem wn_58 : (Jvm.Cond.methodLinkNest "LeavesOfMud" (175 : Nat) ({ cls := "LeavesOfMud$Hands", name := "has", desc := "(I)Z" } : Jvm.MethodName) "LeavesOfMud") ∈ nestW := List.mem_of_getElem? (i := 58) rfl
theorem wn_59 : (Jvm.Cond.methodLinkNest "LeavesOfMud" (176 : Nat) ({ cls := "LeavesOfMud$Hands", name := "yearsAhead", desc := "(III)I" } : Jvm.MethodName) "LeavesOfMud") ∈ nestW := List.mem_of_getElem? (i := 59) rfl
theorem wn_46 : (Jvm.Cond.methodLinkNest "LeavesOfMud" (179 : Nat) ({ cls := "LeavesOfMud$Hands", name := "yearsOfAll", desc := "(II)I" } : Jvm.MethodName) "LeavesOfMud") ∈ nestW := List.mem_of_getElem? (i := 46) rfl
theorem w_621 : (Jvm.Cond.constant "LeavesOfMud" (182 : Nat) (-100001 : Int32)) ∈ wsG := wsG_mem (List.mem_append_right _ (tm3 (List.mem_of_getElem? (i := 141) rfl))) rfl
theorem w_629 : (Jvm.Cond.constant "LeavesOfMud" (186 : Nat) (-100002 : Int32)) ∈ wsG := wsG_mem (List.mem_append_right _ (tm3 (List.mem_of_getElem? (i := 149) rfl))) rfl
theorem wn_61 : (Jvm.Cond.methodLinkNest "LeavesOfMud" (191 : Nat) ({ cls := "LeavesOfMud$Slides", name := "likeOf", desc := "(IIII)I" } : Jvm.MethodName) "LeavesOfMud") ∈ nestW := List.mem_of_getElem? (i := 61) rfl
theorem wn_3 : (Jvm.Cond.fieldLinkNest "LeavesOfMud" (308 : Nat) "LeavesOfMud$Pits" "miles" "[I" "LeavesOfMud") ∈ nestW := List.mem_of_getElem? (i := 3) rfl
theorem f_X8_308 : FldOK "LeavesOfMud" 308 6012 := ⟨RX6, TX6, 6, tyX6, rfl, rfl, by decide, rfl, rfl, inW6, tyX6_ok, nmX6, fun h => absurd h (by decide), fun h => absurd h (by decide), fun h => absurd h (by decide), fun h => absurd rfl h, Or.inr ⟨_, wn_3⟩⟩
theorem w_1061 : (Jvm.Cond.methodLink "LeavesOfMud" (363 : Nat) ({ cls := "LeavesOfMud", name := "fold", desc := "(JJ)J" } : Jvm.MethodName)) ∈ wsG := wsG_mem (List.mem_append_right _ (tm5 (List.mem_of_getElem? (i := 101) rfl))) rfl
theorem w_1285 : (Jvm.Cond.methodLink "LeavesOfMudModel" (136 : Nat) ({ cls := "LeavesOfMudModel", name := "isLeaf", desc := "(II)Z" } : Jvm.MethodName)) ∈ wsG := wsG_mem (List.mem_append_right _ (tm6 (List.mem_of_getElem? (i := 85) rfl))) rfl
theorem w_1293 : (Jvm.Cond.constantLong "LeavesOfMudModel" (144 : Nat) (2 : Int64)) ∈ wsG := wsG_mem (List.mem_append_right _ (tm6 (List.mem_of_getElem? (i := 93) rfl))) rfl
theorem w_1294 : (Jvm.Cond.constantLong "LeavesOfMudModel" (146 : Nat) (3 : Int64)) ∈ wsG := wsG_mem (List.mem_append_right _ (tm6 (List.mem_of_getElem? (i := 94) rfl))) rfl
theorem w_1295 : (Jvm.Cond.methodLink "LeavesOfMudModel" (148 : Nat) ({ cls := "LeavesOfMudModel", name := "yearsOf", desc := "(II)I" } : Jvm.MethodName)) ∈ wsG := wsG_mem (List.mem_append_right _ (tm6 (List.mem_of_getElem? (i := 95) rfl))) rfl
theorem w_1348 : (Jvm.Cond.methodLink "LeavesOfMudModel" (201 : Nat) ({ cls := "LeavesOfMudModel", name := "faultOf", desc := "(I)I" } : Jvm.MethodName)) ∈ wsG := wsG_mem (List.mem_append_right _ (tm6 (List.mem_of_getElem? (i := 148) rfl))) rfl
theorem w_1376 : (Jvm.Cond.methodLink "LeavesOfMudModel" (219 : Nat) ({ cls := "LeavesOfMudModel", name := "isHand", desc := "(I)Z" } : Jvm.MethodName)) ∈ wsG := wsG_mem (List.mem_append_right _ (tm6 (List.mem_of_getElem? (i := 176) rfl))) rfl
theorem w_1381 : (Jvm.Cond.methodLink "LeavesOfMudModel" (222 : Nat) ({ cls := "LeavesOfMudModel", name := "atOf", desc := "(III)I" } : Jvm.MethodName)) ∈ wsG := wsG_mem (List.mem_append_right _ (tm6 (List.mem_of_getElem? (i := 181) rfl))) rfl
theorem w_1393 : (Jvm.Cond.constant "LeavesOfMudModel" (225 : Nat) (-100001 : Int32)) ∈ wsG := wsG_mem (List.mem_append_right _ (tm6 (List.mem_of_getElem? (i := 193) rfl))) rfl
theorem w_1403 : (Jvm.Cond.constant "LeavesOfMudModel" (236 : Nat) (-100002 : Int32)) ∈ wsG := wsG_mem (List.mem_append_right _ (tm6 (List.mem_of_getElem? (i := 203) rfl))) rfl
theorem w_1408 : (Jvm.Cond.constant "LeavesOfMudModel" (240 : Nat) (-100004 : Int32)) ∈ wsG := wsG_mem (List.mem_append_right _ (tm6 (List.mem_of_getElem? (i := 208) rfl))) rfl
theorem w_1409 : (Jvm.Cond.methodLink "LeavesOfMudModel" (241 : Nat) ({ cls := "LeavesOfMudModel", name := "likeOf", desc := "(IIII)I" } : Jvm.MethodName)) ∈ wsG := wsG_mem (List.mem_append_right _ (tm6 (List.mem_of_getElem? (i := 209) rfl))) rfl
theorem w_1425 : (Jvm.Cond.constantLong "LeavesOfMudModel" (245 : Nat) (16 : Int64)) ∈ wsG := wsG_mem (List.mem_append_right _ (tm6 (List.mem_of_getElem? (i := 225) rfl))) rfl
theorem w_1430 : (Jvm.Cond.methodLink "LeavesOfMudModel" (250 : Nat) ({ cls := "LeavesOfMudModel", name := "isPart", desc := "(I)Z" } : Jvm.MethodName)) ∈ wsG := wsG_mem (List.mem_append_right _ (tm6 (List.mem_of_getElem? (i := 230) rfl))) rfl
theorem w_1433 : (Jvm.Cond.methodLink "LeavesOfMudModel" (253 : Nat) ({ cls := "LeavesOfMudModel", name := "term", desc := "(III)I" } : Jvm.MethodName)) ∈ wsG := wsG_mem (List.mem_append_right _ (tm6 (List.mem_of_getElem? (i := 233) rfl))) rfl
theorem w_1447 : (Jvm.Cond.constantLong "LeavesOfMudModel" (308 : Nat) (10 : Int64)) ∈ wsG := wsG_mem (List.mem_append_right _ (tm7 (List.mem_of_getElem? (i := 7) rfl))) rfl
theorem w_1448 : (Jvm.Cond.constantLong "LeavesOfMudModel" (310 : Nat) (41 : Int64)) ∈ wsG := wsG_mem (List.mem_append_right _ (tm7 (List.mem_of_getElem? (i := 8) rfl))) rfl
theorem w_1443 : (Jvm.Cond.methodLink "LeavesOfMudModel" (305 : Nat) ({ cls := "LeavesOfMudModel", name := "isLaw", desc := "(I)Z" } : Jvm.MethodName)) ∈ wsG := wsG_mem (List.mem_append_right _ (tm7 (List.mem_of_getElem? (i := 3) rfl))) rfl
theorem w_1449 : (Jvm.Cond.methodLink "LeavesOfMudModel" (312 : Nat) ({ cls := "LeavesOfMudModel", name := "layTogether", desc := "(IIIII)V" } : Jvm.MethodName)) ∈ wsG := wsG_mem (List.mem_append_right _ (tm7 (List.mem_of_getElem? (i := 9) rfl))) rfl
theorem w_1477 : (Jvm.Cond.methodLink "LeavesOfMudModel" (315 : Nat) ({ cls := "LeavesOfMudModel", name := "layWay", desc := "()V" } : Jvm.MethodName)) ∈ wsG := wsG_mem (List.mem_append_right _ (tm7 (List.mem_of_getElem? (i := 37) rfl))) rfl
theorem w_1530 : (Jvm.Cond.methodLink "LeavesOfMudModel" (334 : Nat) ({ cls := "LeavesOfMudModel", name := "bound", desc := "(IIII)V" } : Jvm.MethodName)) ∈ wsG := wsG_mem (List.mem_append_right _ (tm7 (List.mem_of_getElem? (i := 90) rfl))) rfl
theorem w_1538 : (Jvm.Cond.methodLink "LeavesOfMudModel" (341 : Nat) ({ cls := "LeavesOfMudModel", name := "close", desc := "()Z" } : Jvm.MethodName)) ∈ wsG := wsG_mem (List.mem_append_right _ (tm7 (List.mem_of_getElem? (i := 98) rfl))) rfl
theorem w_1601 : (Jvm.Cond.methodLink "LeavesOfMudModel" (376 : Nat) ({ cls := "LeavesOfMudModel", name := "ashBeside", desc := "(IIII)I" } : Jvm.MethodName)) ∈ wsG := wsG_mem (List.mem_append_right _ (tm7 (List.mem_of_getElem? (i := 161) rfl))) rfl
theorem w_1630 : (Jvm.Cond.methodLink "LeavesOfMudModel" (397 : Nat) ({ cls := "LeavesOfMudModel", name := "tell", desc := "(J)V" } : Jvm.MethodName)) ∈ wsG := wsG_mem (List.mem_append_right _ (tm7 (List.mem_of_getElem? (i := 190) rfl))) rfl
theorem w_833 : (Jvm.Cond.methodLink "LeavesOfMud$Net" (63 : Nat) ({ cls := "LeavesOfMud$Net", name := "weaveFixed", desc := "()Z" } : Jvm.MethodName)) ∈ wsG := wsG_mem (List.mem_append_right _ (tm4 (List.mem_of_getElem? (i := 113) rfl))) rfl
theorem w_865 : (Jvm.Cond.methodLink "LeavesOfMud$Net" (67 : Nat) ({ cls := "LeavesOfMud$Net", name := "weaveJoins", desc := "([II)Z" } : Jvm.MethodName)) ∈ wsG := wsG_mem (List.mem_append_right _ (tm4 (List.mem_of_getElem? (i := 145) rfl))) rfl
theorem w_265 : (Jvm.Cond.fieldLink "LeavesOfMud$Net" (18 : Nat) "LeavesOfMud$Net" "without" "[I") ∈ wsG := wsG_mem (List.mem_append_right _ (tm2 (List.mem_of_getElem? (i := 25) rfl))) rfl
theorem f_X3_18 : FldOK "LeavesOfMud$Net" 18 3052 := ⟨RX3, TX3, 15, tyX3, rfl, rfl, by decide, rfl, rfl, inW3, tyX3_ok, nmX3, fun h => absurd h (by decide), fun h => absurd h (by decide), fun h => absurd h (by decide), fun h => absurd rfl h, Or.inl w_265⟩
theorem w_272 : (Jvm.Cond.fieldLink "LeavesOfMud$Net" (42 : Nat) "LeavesOfMud$Net" "digA" "I") ∈ wsG := wsG_mem (List.mem_append_right _ (tm2 (List.mem_of_getElem? (i := 32) rfl))) rfl
theorem f_X3_42 : FldOK "LeavesOfMud$Net" 42 3120 := ⟨RX3, TX3, 15, tyX3, rfl, rfl, by decide, rfl, rfl, inW3, tyX3_ok, nmX3, fun _ => rfl, fun h => absurd h (by decide), fun h => absurd h (by decide), fun _ => rfl, Or.inl w_272⟩
theorem w_274 : (Jvm.Cond.fieldLink "LeavesOfMud$Net" (45 : Nat) "LeavesOfMud$Net" "digB" "I") ∈ wsG := wsG_mem (List.mem_append_right _ (tm2 (List.mem_of_getElem? (i := 34) rfl))) rfl
theorem f_X3_45 : FldOK "LeavesOfMud$Net" 45 3130 := ⟨RX3, TX3, 15, tyX3, rfl, rfl, by decide, rfl, rfl, inW3, tyX3_ok, nmX3, fun _ => rfl, fun h => absurd h (by decide), fun h => absurd h (by decide), fun _ => rfl, Or.inl w_274⟩
theorem w_276 : (Jvm.Cond.fieldLink "LeavesOfMud$Net" (48 : Nat) "LeavesOfMud$Net" "digWorst" "I") ∈ wsG := wsG_mem (List.mem_append_right _ (tm2 (List.mem_of_getElem? (i := 36) rfl))) rfl
theorem f_X3_48 : FldOK "LeavesOfMud$Net" 48 3140 := ⟨RX3, TX3, 15, tyX3, rfl, rfl, by decide, rfl, rfl, inW3, tyX3_ok, nmX3, fun _ => rfl, fun h => absurd h (by decide), fun h => absurd h (by decide), fun _ => rfl, Or.inl w_276⟩
theorem w_972 : (Jvm.Cond.methodLink "LeavesOfMud$Net" (203 : Nat) ({ cls := "LeavesOfMud$Net", name := "worstOfDig", desc := "(II)I" } : Jvm.MethodName)) ∈ wsG := wsG_mem (List.mem_append_right _ (tm5 (List.mem_of_getElem? (i := 12) rfl))) rfl
theorem wn_100 : (Jvm.Cond.methodLinkNest "LeavesOfMud$Net" (200 : Nat) ({ cls := "LeavesOfMud", name := "isWithin", desc := "(III)Z" } : Jvm.MethodName) "LeavesOfMud") ∈ nestW := List.mem_of_getElem? (i := 100) rfl
theorem w_704 : (Jvm.Cond.methodLink "LeavesOfMud$Pairing" (107 : Nat) ({ cls := "LeavesOfMud$Pairing", name := "fillPlace", desc := "(II)V" } : Jvm.MethodName)) ∈ wsG := wsG_mem (List.mem_append_right _ (tm3 (List.mem_of_getElem? (i := 224) rfl))) rfl
theorem w_209 : (Jvm.Cond.fieldLink "LeavesOfMud$Pairing" (64 : Nat) "LeavesOfMud$Pairing" "liesBy" "[I") ∈ wsG := wsG_mem (List.mem_append_right _ (tm1 (List.mem_of_getElem? (i := 209) rfl))) rfl
theorem f_X5_64 : FldOK "LeavesOfMud$Pairing" 64 5192 := ⟨RX5, TX5, 20, tyX5, rfl, rfl, by decide, rfl, rfl, inW5, tyX5_ok, nmX5, fun h => absurd h (by decide), fun h => absurd h (by decide), fun h => absurd h (by decide), fun h => absurd rfl h, Or.inl w_209⟩
theorem w_207 : (Jvm.Cond.fieldLink "LeavesOfMud$Pairing" (61 : Nat) "LeavesOfMud$Pairing" "liesOn" "[I") ∈ wsG := wsG_mem (List.mem_append_right _ (tm1 (List.mem_of_getElem? (i := 207) rfl))) rfl
theorem f_X5_61 : FldOK "LeavesOfMud$Pairing" 61 5182 := ⟨RX5, TX5, 20, tyX5, rfl, rfl, by decide, rfl, rfl, inW5, tyX5_ok, nmX5, fun h => absurd h (by decide), fun h => absurd h (by decide), fun h => absurd h (by decide), fun h => absurd rfl h, Or.inl w_207⟩
theorem w_755 : (Jvm.Cond.methodLink "LeavesOfMud$Pairing" (150 : Nat) ({ cls := "LeavesOfMud$Pairing", name := "leastStepFrom", desc := "(II)I" } : Jvm.MethodName)) ∈ wsG := wsG_mem (List.mem_append_right _ (tm4 (List.mem_of_getElem? (i := 35) rfl))) rfl
theorem w_1006 : (Jvm.Cond.methodLink "LeavesOfMud$Pits" (58 : Nat) ({ cls := "LeavesOfMud$Pits", name := "isSharedAsh", desc := "(III)Z" } : Jvm.MethodName)) ∈ wsG := wsG_mem (List.mem_append_right _ (tm5 (List.mem_of_getElem? (i := 46) rfl))) rfl
theorem w_399 : (Jvm.Cond.methodLink "LeavesOfMud" (125 : Nat) ({ cls := "LeavesOfMud", name := "aboutPit", desc := "(II)I" } : Jvm.MethodName)) ∈ wsG := wsG_mem (List.mem_append_right _ (tm2 (List.mem_of_getElem? (i := 159) rfl))) rfl
theorem w_422 : (Jvm.Cond.methodLink "LeavesOfMud" (128 : Nat) ({ cls := "LeavesOfMud", name := "aboutLeaf", desc := "(III)I" } : Jvm.MethodName)) ∈ wsG := wsG_mem (List.mem_append_right _ (tm2 (List.mem_of_getElem? (i := 182) rfl))) rfl
theorem wn_65 : (Jvm.Cond.methodLinkNest "LeavesOfMud" (195 : Nat) ({ cls := "LeavesOfMud$Slides", name := "best", desc := "(III)I" } : Jvm.MethodName) "LeavesOfMud") ∈ nestW := List.mem_of_getElem? (i := 65) rfl
theorem wn_66 : (Jvm.Cond.methodLinkNest "LeavesOfMud" (198 : Nat) ({ cls := "LeavesOfMud$Slides", name := "turnsAsLike", desc := "(III)I" } : Jvm.MethodName) "LeavesOfMud") ∈ nestW := List.mem_of_getElem? (i := 66) rfl
theorem w_674 : (Jvm.Cond.methodLink "LeavesOfMud" (201 : Nat) ({ cls := "LeavesOfMud", name := "partInLowestTerms", desc := "(III)I" } : Jvm.MethodName)) ∈ wsG := wsG_mem (List.mem_append_right _ (tm3 (List.mem_of_getElem? (i := 194) rfl))) rfl
theorem wn_94 : (Jvm.Cond.methodLinkNest "LeavesOfMud" (281 : Nat) ({ cls := "LeavesOfMud$Net", name := "group", desc := "()V" } : Jvm.MethodName) "LeavesOfMud") ∈ nestW := List.mem_of_getElem? (i := 94) rfl
theorem wn_95 : (Jvm.Cond.methodLinkNest "LeavesOfMud" (284 : Nat) ({ cls := "LeavesOfMud$Net", name := "groups", desc := "()I" } : Jvm.MethodName) "LeavesOfMud") ∈ nestW := List.mem_of_getElem? (i := 95) rfl
theorem wn_96 : (Jvm.Cond.methodLinkNest "LeavesOfMud" (287 : Nat) ({ cls := "LeavesOfMud$Net", name := "groupOfFirst", desc := "()I" } : Jvm.MethodName) "LeavesOfMud") ∈ nestW := List.mem_of_getElem? (i := 96) rfl
theorem w_1525 : (Jvm.Cond.methodLink "LeavesOfMudModel" (349 : Nat) ({ cls := "LeavesOfMudModel", name := "layNet", desc := "(I)Z" } : Jvm.MethodName)) ∈ wsG := wsG_mem (List.mem_append_right _ (tm7 (List.mem_of_getElem? (i := 85) rfl))) rfl
theorem w_1572 : (Jvm.Cond.methodLink "LeavesOfMudModel" (365 : Nat) ({ cls := "LeavesOfMudModel", name := "doubtOf", desc := "(I)I" } : Jvm.MethodName)) ∈ wsG := wsG_mem (List.mem_append_right _ (tm7 (List.mem_of_getElem? (i := 132) rfl))) rfl
theorem w_1597 : (Jvm.Cond.methodLink "LeavesOfMudModel" (379 : Nat) ({ cls := "LeavesOfMudModel", name := "tookBy", desc := "(III)I" } : Jvm.MethodName)) ∈ wsG := wsG_mem (List.mem_append_right _ (tm7 (List.mem_of_getElem? (i := 157) rfl))) rfl
theorem w_954 : (Jvm.Cond.methodLink "LeavesOfMud$Net" (190 : Nat) ({ cls := "LeavesOfMud$Net", name := "isWiderWithout", desc := "(III)Z" } : Jvm.MethodName)) ∈ wsG := wsG_mem (List.mem_append_right _ (tm4 (List.mem_of_getElem? (i := 234) rfl))) rfl
theorem w_189 : (Jvm.Cond.fieldLink "LeavesOfMud$Pairing" (71 : Nat) "LeavesOfMud$Pairing" "laws" "LLeavesOfMud$Laws;") ∈ wsG := wsG_mem (List.mem_append_right _ (tm1 (List.mem_of_getElem? (i := 189) rfl))) rfl
theorem f_X5_71 : FldOK "LeavesOfMud$Pairing" 71 5012 := ⟨RX5, TX5, 20, tyX5, rfl, rfl, by decide, rfl, rfl, inW5, tyX5_ok, nmX5, fun h => absurd h (by decide), fun h => absurd h (by decide), fun h => absurd h (by decide), fun h => absurd rfl h, Or.inl w_189⟩
theorem w_689 : (Jvm.Cond.methodLink "LeavesOfMud$Pairing" (80 : Nat) ({ cls := "LeavesOfMud$Pairing", name := "readRow", desc := "(I[I[I)V" } : Jvm.MethodName)) ∈ wsG := wsG_mem (List.mem_append_right _ (tm3 (List.mem_of_getElem? (i := 209) rfl))) rfl
theorem wn_72 : (Jvm.Cond.methodLinkNest "LeavesOfMud$Pairing" (84 : Nat) ({ cls := "LeavesOfMud$Laws", name := "priceOf", desc := "(II)I" } : Jvm.MethodName) "LeavesOfMud") ∈ nestW := List.mem_of_getElem? (i := 72) rfl
theorem w_700 : (Jvm.Cond.methodLink "LeavesOfMud$Pairing" (90 : Nat) ({ cls := "LeavesOfMud$Pairing", name := "fillAll", desc := "()V" } : Jvm.MethodName)) ∈ wsG := wsG_mem (List.mem_append_right _ (tm3 (List.mem_of_getElem? (i := 220) rfl))) rfl
theorem wn_86 : (Jvm.Cond.methodLinkNest "LeavesOfMud" (267 : Nat) ({ cls := "LeavesOfMud$Net", name := "weaveWhole", desc := "()Z" } : Jvm.MethodName) "LeavesOfMud") ∈ nestW := List.mem_of_getElem? (i := 86) rfl
theorem w_879 : (Jvm.Cond.constant "LeavesOfMud" (271 : Nat) (-100003 : Int32)) ∈ wsG := wsG_mem (List.mem_append_right _ (tm4 (List.mem_of_getElem? (i := 159) rfl))) rfl
theorem w_880 : (Jvm.Cond.methodLink "LeavesOfMud" (272 : Nat) ({ cls := "LeavesOfMud", name := "spanTold", desc := "(III)I" } : Jvm.MethodName)) ∈ wsG := wsG_mem (List.mem_append_right _ (tm4 (List.mem_of_getElem? (i := 160) rfl))) rfl
theorem wn_97 : (Jvm.Cond.methodLinkNest "LeavesOfMud" (290 : Nat) ({ cls := "LeavesOfMud$Net", name := "leastCast", desc := "()I" } : Jvm.MethodName) "LeavesOfMud") ∈ nestW := List.mem_of_getElem? (i := 97) rfl
theorem wn_38 : (Jvm.Cond.fieldLinkNest "LeavesOfMud" (299 : Nat) "LeavesOfMud$Net" "digA" "I" "LeavesOfMud") ∈ nestW := List.mem_of_getElem? (i := 38) rfl
theorem f_X8_299 : FldOK "LeavesOfMud" 299 3120 := ⟨RX3, TX3, 15, tyX3, rfl, rfl, by decide, rfl, rfl, inW3, tyX3_ok, nmX3, fun _ => rfl, fun h => absurd h (by decide), fun h => absurd h (by decide), fun _ => rfl, Or.inr ⟨_, wn_38⟩⟩
theorem wn_39 : (Jvm.Cond.fieldLinkNest "LeavesOfMud" (302 : Nat) "LeavesOfMud$Net" "digB" "I" "LeavesOfMud") ∈ nestW := List.mem_of_getElem? (i := 39) rfl
theorem f_X8_302 : FldOK "LeavesOfMud" 302 3130 := ⟨RX3, TX3, 15, tyX3, rfl, rfl, by decide, rfl, rfl, inW3, tyX3_ok, nmX3, fun _ => rfl, fun h => absurd h (by decide), fun h => absurd h (by decide), fun _ => rfl, Or.inr ⟨_, wn_39⟩⟩
theorem wn_40 : (Jvm.Cond.fieldLinkNest "LeavesOfMud" (305 : Nat) "LeavesOfMud$Net" "digWorst" "I" "LeavesOfMud") ∈ nestW := List.mem_of_getElem? (i := 40) rfl
theorem f_X8_305 : FldOK "LeavesOfMud" 305 3140 := ⟨RX3, TX3, 15, tyX3, rfl, rfl, by decide, rfl, rfl, inW3, tyX3_ok, nmX3, fun _ => rfl, fun h => absurd h (by decide), fun h => absurd h (by decide), fun _ => rfl, Or.inr ⟨_, wn_40⟩⟩
theorem wn_99 : (Jvm.Cond.methodLinkNest "LeavesOfMud" (296 : Nat) ({ cls := "LeavesOfMud$Net", name := "findDig", desc := "()V" } : Jvm.MethodName) "LeavesOfMud") ∈ nestW := List.mem_of_getElem? (i := 99) rfl
theorem w_991 : (Jvm.Cond.methodLink "LeavesOfMud" (311 : Nat) ({ cls := "java/lang/Math", name := "abs", desc := "(I)I" } : Jvm.MethodName)) ∈ wsG := wsG_mem (List.mem_append_right _ (tm5 (List.mem_of_getElem? (i := 31) rfl))) rfl
theorem w_992 : (Jvm.Cond.methodLink "LeavesOfMud" (316 : Nat) ({ cls := "java/lang/Math", name := "max", desc := "(II)I" } : Jvm.MethodName)) ∈ wsG := wsG_mem (List.mem_append_right _ (tm5 (List.mem_of_getElem? (i := 32) rfl))) rfl
theorem w_993 : (Jvm.Cond.methodLink "LeavesOfMud" (319 : Nat) ({ cls := "java/lang/Math", name := "min", desc := "(II)I" } : Jvm.MethodName)) ∈ wsG := wsG_mem (List.mem_append_right _ (tm5 (List.mem_of_getElem? (i := 33) rfl))) rfl
theorem wn_101 : (Jvm.Cond.methodLinkNest "LeavesOfMud" (386 : Nat) ({ cls := "LeavesOfMud$Pits", name := "sharedAshAhead", desc := "(III)I" } : Jvm.MethodName) "LeavesOfMud") ∈ nestW := List.mem_of_getElem? (i := 101) rfl
theorem wn_102 : (Jvm.Cond.methodLinkNest "LeavesOfMud" (389 : Nat) ({ cls := "LeavesOfMud$Pits", name := "sharedAshBehind", desc := "(III)I" } : Jvm.MethodName) "LeavesOfMud") ∈ nestW := List.mem_of_getElem? (i := 102) rfl
theorem wn_103 : (Jvm.Cond.methodLinkNest "LeavesOfMud" (392 : Nat) ({ cls := "LeavesOfMud$Pits", name := "firstAsh", desc := "(II)I" } : Jvm.MethodName) "LeavesOfMud") ∈ nestW := List.mem_of_getElem? (i := 103) rfl
theorem wn_104 : (Jvm.Cond.methodLinkNest "LeavesOfMud" (395 : Nat) ({ cls := "LeavesOfMud$Pits", name := "hasFloodBetween", desc := "(III)Z" } : Jvm.MethodName) "LeavesOfMud") ∈ nestW := List.mem_of_getElem? (i := 104) rfl
theorem w_1517 : (Jvm.Cond.methodLink "LeavesOfMudModel" (352 : Nat) ({ cls := "LeavesOfMudModel", name := "layKept", desc := "()Z" } : Jvm.MethodName)) ∈ wsG := wsG_mem (List.mem_append_right _ (tm7 (List.mem_of_getElem? (i := 77) rfl))) rfl
theorem w_1547 : (Jvm.Cond.constant "LeavesOfMudModel" (355 : Nat) (-100003 : Int32)) ∈ wsG := wsG_mem (List.mem_append_right _ (tm7 (List.mem_of_getElem? (i := 107) rfl))) rfl
theorem w_1132 : (Jvm.Cond.fieldLink "LeavesOfMudModel" (83 : Nat) "LeavesOfMudModel" "belongs" "[I") ∈ wsG := wsG_mem (List.mem_append_right _ (tm5 (List.mem_of_getElem? (i := 172) rfl))) rfl
theorem f_X9_83 : FldOK "LeavesOfMudModel" 83 9442 := ⟨RX9, TX9, 55, tyX9, rfl, rfl, by decide, rfl, rfl, inW9, tyX9_ok, nmX9, fun h => absurd h (by decide), fun h => absurd h (by decide), fun h => absurd h (by decide), fun h => absurd rfl h, Or.inl w_1132⟩
theorem w_1584 : (Jvm.Cond.constantLong "LeavesOfMudModel" (371 : Nat) (40 : Int64)) ∈ wsG := wsG_mem (List.mem_append_right _ (tm7 (List.mem_of_getElem? (i := 144) rfl))) rfl
theorem w_1585 : (Jvm.Cond.methodLink "LeavesOfMudModel" (373 : Nat) ({ cls := "LeavesOfMudModel", name := "allWidths", desc := "()I" } : Jvm.MethodName)) ∈ wsG := wsG_mem (List.mem_append_right _ (tm7 (List.mem_of_getElem? (i := 145) rfl))) rfl
theorem w_498 : (Jvm.Cond.methodLink "java/lang/String" (492 : Nat) ({ cls := "java/lang/String", name := "isLatin1", desc := "()Z" } : Jvm.MethodName)) ∈ wsG := wsG_mem (List.mem_append_right _ (tm3 (List.mem_of_getElem? (i := 18) rfl))) rfl
theorem w_504 : (Jvm.Cond.methodLink "java/lang/String" (505 : Nat) ({ cls := "java/lang/String", name := "length", desc := "()I" } : Jvm.MethodName)) ∈ wsG := wsG_mem (List.mem_append_right _ (tm3 (List.mem_of_getElem? (i := 24) rfl))) rfl
theorem w_512 : (Jvm.Cond.methodLink "java/lang/String" (637 : Nat) ({ cls := "java/lang/StringLatin1", name := "indexOf", desc := "([BIII)I" } : Jvm.MethodName)) ∈ wsG := wsG_mem (List.mem_append_right _ (tm3 (List.mem_of_getElem? (i := 32) rfl))) rfl
theorem w_318 : (Jvm.Cond.fieldLink "LeavesOfMud" (68 : Nat) "LeavesOfMud" "pairing" "LLeavesOfMud$Pairing;") ∈ wsG := wsG_mem (List.mem_append_right _ (tm2 (List.mem_of_getElem? (i := 78) rfl))) rfl
theorem f_X8_68 : FldOK "LeavesOfMud" 68 8092 := ⟨RX8, TX8, 13, tyX8, rfl, rfl, by decide, rfl, rfl, inW8, tyX8_ok, nmX8, fun h => absurd h (by decide), fun h => absurd h (by decide), fun h => absurd h (by decide), fun h => absurd rfl h, Or.inl w_318⟩
theorem wn_34 : (Jvm.Cond.fieldLinkNest "LeavesOfMud" (219 : Nat) "LeavesOfMud$Pairing" "wayLength" "I" "LeavesOfMud") ∈ nestW := List.mem_of_getElem? (i := 34) rfl
theorem f_X8_219 : FldOK "LeavesOfMud" 219 5170 := ⟨RX5, TX5, 20, tyX5, rfl, rfl, by decide, rfl, rfl, inW5, tyX5_ok, nmX5, fun _ => rfl, fun h => absurd h (by decide), fun h => absurd h (by decide), fun _ => rfl, Or.inr ⟨_, wn_34⟩⟩
theorem wn_67 : (Jvm.Cond.methodLinkNest "LeavesOfMud" (204 : Nat) ({ cls := "LeavesOfMud$Laws", name := "has", desc := "(I)Z" } : Jvm.MethodName) "LeavesOfMud") ∈ nestW := List.mem_of_getElem? (i := 67) rfl
theorem wn_68 : (Jvm.Cond.methodLinkNest "LeavesOfMud" (205 : Nat) ({ cls := "LeavesOfMud$Pairing", name := "setTogether", desc := "(III)V" } : Jvm.MethodName) "LeavesOfMud") ∈ nestW := List.mem_of_getElem? (i := 68) rfl
theorem wn_74 : (Jvm.Cond.methodLinkNest "LeavesOfMud" (209 : Nat) ({ cls := "LeavesOfMud$Pairing", name := "leastOfAll", desc := "()I" } : Jvm.MethodName) "LeavesOfMud") ∈ nestW := List.mem_of_getElem? (i := 74) rfl
theorem wn_75 : (Jvm.Cond.methodLinkNest "LeavesOfMud" (213 : Nat) ({ cls := "LeavesOfMud$Pairing", name := "waysOfAll", desc := "()I" } : Jvm.MethodName) "LeavesOfMud") ∈ nestW := List.mem_of_getElem? (i := 75) rfl
theorem wn_76 : (Jvm.Cond.methodLinkNest "LeavesOfMud" (216 : Nat) ({ cls := "LeavesOfMud$Pairing", name := "goTheWay", desc := "()V" } : Jvm.MethodName) "LeavesOfMud") ∈ nestW := List.mem_of_getElem? (i := 76) rfl
theorem wn_77 : (Jvm.Cond.methodLinkNest "LeavesOfMud" (222 : Nat) ({ cls := "LeavesOfMud$Pairing", name := "stepOfTheWay", desc := "(I)I" } : Jvm.MethodName) "LeavesOfMud") ∈ nestW := List.mem_of_getElem? (i := 77) rfl
theorem wn_35 : (Jvm.Cond.fieldLinkNest "LeavesOfMud" (225 : Nat) "LeavesOfMud$Pairing" "liesOn" "[I" "LeavesOfMud") ∈ nestW := List.mem_of_getElem? (i := 35) rfl
theorem f_X8_225 : FldOK "LeavesOfMud" 225 5182 := ⟨RX5, TX5, 20, tyX5, rfl, rfl, by decide, rfl, rfl, inW5, tyX5_ok, nmX5, fun h => absurd h (by decide), fun h => absurd h (by decide), fun h => absurd h (by decide), fun h => absurd rfl h, Or.inr ⟨_, wn_35⟩⟩
theorem wn_36 : (Jvm.Cond.fieldLinkNest "LeavesOfMud" (228 : Nat) "LeavesOfMud$Pairing" "liesBy" "[I" "LeavesOfMud") ∈ nestW := List.mem_of_getElem? (i := 36) rfl
theorem f_X8_228 : FldOK "LeavesOfMud" 228 5192 := ⟨RX5, TX5, 20, tyX5, rfl, rfl, by decide, rfl, rfl, inW5, tyX5_ok, nmX5, fun h => absurd h (by decide), fun h => absurd h (by decide), fun h => absurd h (by decide), fun h => absurd rfl h, Or.inr ⟨_, wn_36⟩⟩
theorem wn_79 : (Jvm.Cond.methodLinkNest "LeavesOfMud" (231 : Nat) ({ cls := "LeavesOfMud$Pairing", name := "leastWithout", desc := "(II)I" } : Jvm.MethodName) "LeavesOfMud") ∈ nestW := List.mem_of_getElem? (i := 79) rfl
theorem wn_98 : (Jvm.Cond.methodLinkNest "LeavesOfMud" (293 : Nat) ({ cls := "LeavesOfMud$Net", name := "joinsThatHold", desc := "(II)I" } : Jvm.MethodName) "LeavesOfMud") ∈ nestW := List.mem_of_getElem? (i := 98) rfl
theorem w_998 : (Jvm.Cond.methodLink "LeavesOfMud" (322 : Nat) ({ cls := "LeavesOfMud", name := "tookBy", desc := "(III)I" } : Jvm.MethodName)) ∈ wsG := wsG_mem (List.mem_append_right _ (tm5 (List.mem_of_getElem? (i := 38) rfl))) rfl
theorem w_1560 : (Jvm.Cond.methodLink "LeavesOfMudModel" (359 : Nat) ({ cls := "LeavesOfMudModel", name := "layCalendars", desc := "()I" } : Jvm.MethodName)) ∈ wsG := wsG_mem (List.mem_append_right _ (tm7 (List.mem_of_getElem? (i := 120) rfl))) rfl
theorem w_1643 : (Jvm.Cond.constantLong "LeavesOfMudModel" (401 : Nat) (-100004 : Int64)) ∈ wsG := wsG_mem (List.mem_append_right _ (tm7 (List.mem_of_getElem? (i := 203) rfl))) rfl
theorem w_494 : (Jvm.Cond.methodLink "java/lang/String" (633 : Nat) ({ cls := "java/lang/String", name := "indexOf", desc := "(II)I" } : Jvm.MethodName)) ∈ wsG := wsG_mem (List.mem_append_right _ (tm3 (List.mem_of_getElem? (i := 14) rfl))) rfl
theorem w_127 : (Jvm.Cond.fieldLink "LeavesOfMud$Page" (23 : Nat) "LeavesOfMud$Page" "told" "[I") ∈ wsG := wsG_mem (List.mem_append_right _ (tm1 (List.mem_of_getElem? (i := 127) rfl))) rfl
theorem f_X4_23 : FldOK "LeavesOfMud$Page" 23 4032 := ⟨RX4, TX4, 4, tyX4, rfl, rfl, by decide, rfl, rfl, inW4, tyX4_ok, nmX4, fun h => absurd h (by decide), fun h => absurd h (by decide), fun h => absurd h (by decide), fun h => absurd rfl h, Or.inl w_127⟩
theorem w_125 : (Jvm.Cond.fieldLink "LeavesOfMud$Page" (19 : Nat) "LeavesOfMud$Page" "whole" "Z") ∈ wsG := wsG_mem (List.mem_append_right _ (tm1 (List.mem_of_getElem? (i := 125) rfl))) rfl
theorem f_X4_19 : FldOK "LeavesOfMud$Page" 19 4023 := ⟨RX4, TX4, 4, tyX4, rfl, rfl, by decide, rfl, rfl, inW4, tyX4_ok, nmX4, fun h => absurd h (by decide), fun h => absurd h (by decide), fun _ => rfl, fun _ => rfl, Or.inl w_125⟩
theorem w_490 : (Jvm.Cond.methodLink "LeavesOfMud$Page" (40 : Nat) ({ cls := "java/lang/String", name := "indexOf", desc := "(I)I" } : Jvm.MethodName)) ∈ wsG := wsG_mem (List.mem_append_right _ (tm3 (List.mem_of_getElem? (i := 10) rfl))) rfl
theorem w_577 : (Jvm.Cond.methodLink "LeavesOfMud$Page" (50 : Nat) ({ cls := "java/lang/String", name := "length", desc := "()I" } : Jvm.MethodName)) ∈ wsG := wsG_mem (List.mem_append_right _ (tm3 (List.mem_of_getElem? (i := 97) rfl))) rfl
theorem w_489 : (Jvm.Cond.methodLink "LeavesOfMud$Page" (34 : Nat) ({ cls := "java/util/Arrays", name := "fill", desc := "([II)V" } : Jvm.MethodName)) ∈ wsG := wsG_mem (List.mem_append_right _ (tm3 (List.mem_of_getElem? (i := 9) rfl))) rfl
theorem wn_55 : (Jvm.Cond.methodLinkNest "LeavesOfMud$Page" (46 : Nat) ({ cls := "LeavesOfMud", name := "isWithin", desc := "(III)Z" } : Jvm.MethodName) "LeavesOfMud") ∈ nestW := List.mem_of_getElem? (i := 55) rfl
theorem wn_25 : (Jvm.Cond.fieldLinkNest "LeavesOfMud" (360 : Nat) "LeavesOfMud$Page" "letters" "[I" "LeavesOfMud") ∈ nestW := List.mem_of_getElem? (i := 25) rfl
theorem f_X8_360 : FldOK "LeavesOfMud" 360 4012 := ⟨RX4, TX4, 4, tyX4, rfl, rfl, by decide, rfl, rfl, inW4, tyX4_ok, nmX4, fun h => absurd h (by decide), fun h => absurd h (by decide), fun h => absurd h (by decide), fun h => absurd rfl h, Or.inr ⟨_, wn_25⟩⟩
theorem w_1056 : (Jvm.Cond.constantLong "LeavesOfMud" (345 : Nat) (379 : Int64)) ∈ wsG := wsG_mem (List.mem_append_right _ (tm5 (List.mem_of_getElem? (i := 96) rfl))) rfl
theorem w_1057 : (Jvm.Cond.methodLink "LeavesOfMud" (347 : Nat) ({ cls := "LeavesOfMud", name := "foldPit", desc := "(JI)J" } : Jvm.MethodName)) ∈ wsG := wsG_mem (List.mem_append_right _ (tm5 (List.mem_of_getElem? (i := 97) rfl))) rfl
theorem w_1065 : (Jvm.Cond.methodLink "LeavesOfMud" (351 : Nat) ({ cls := "LeavesOfMud", name := "foldLaw", desc := "(JI)J" } : Jvm.MethodName)) ∈ wsG := wsG_mem (List.mem_append_right _ (tm5 (List.mem_of_getElem? (i := 105) rfl))) rfl
theorem wn_108 : (Jvm.Cond.methodLinkNest "LeavesOfMud" (354 : Nat) ({ cls := "LeavesOfMud$Bonds", name := "foldInto", desc := "(J)J" } : Jvm.MethodName) "LeavesOfMud") ∈ nestW := List.mem_of_getElem? (i := 108) rfl
theorem w_1077 : (Jvm.Cond.methodLink "LeavesOfMud" (357 : Nat) ({ cls := "LeavesOfMud", name := "foldNet", desc := "(J)J" } : Jvm.MethodName)) ∈ wsG := wsG_mem (List.mem_append_right _ (tm5 (List.mem_of_getElem? (i := 117) rfl))) rfl
theorem w_1081 : (Jvm.Cond.methodLink "LeavesOfMud" (367 : Nat) ({ cls := "LeavesOfMud", name := "count", desc := "(I)I" } : Jvm.MethodName)) ∈ wsG := wsG_mem (List.mem_append_right _ (tm5 (List.mem_of_getElem? (i := 121) rfl))) rfl
theorem w_1625 : (Jvm.Cond.constantLong "LeavesOfMudModel" (403 : Nat) (379 : Int64)) ∈ wsG := wsG_mem (List.mem_append_right _ (tm7 (List.mem_of_getElem? (i := 185) rfl))) rfl
theorem w_1626 : (Jvm.Cond.methodLink "LeavesOfMudModel" (405 : Nat) ({ cls := "LeavesOfMudModel", name := "tellPit", desc := "(I)V" } : Jvm.MethodName)) ∈ wsG := wsG_mem (List.mem_append_right _ (tm7 (List.mem_of_getElem? (i := 186) rfl))) rfl
theorem w_1635 : (Jvm.Cond.methodLink "LeavesOfMudModel" (409 : Nat) ({ cls := "LeavesOfMudModel", name := "tellLaw", desc := "(I)V" } : Jvm.MethodName)) ∈ wsG := wsG_mem (List.mem_append_right _ (tm7 (List.mem_of_getElem? (i := 195) rfl))) rfl
theorem w_1639 : (Jvm.Cond.methodLink "LeavesOfMudModel" (412 : Nat) ({ cls := "LeavesOfMudModel", name := "tellNet", desc := "()V" } : Jvm.MethodName)) ∈ wsG := wsG_mem (List.mem_append_right _ (tm7 (List.mem_of_getElem? (i := 199) rfl))) rfl
theorem w_485 : (Jvm.Cond.methodLink "LeavesOfMud$Page" (28 : Nat) ({ cls := "LeavesOfMud$Page", name := "readItems", desc := "(Ljava/lang/String;I)I" } : Jvm.MethodName)) ∈ wsG := wsG_mem (List.mem_append_right _ (tm3 (List.mem_of_getElem? (i := 5) rfl))) rfl
theorem wn_54 : (Jvm.Cond.methodLinkNest "LeavesOfMud" (159 : Nat) ({ cls := "LeavesOfMud$Page", name := "read", desc := "(I)I" } : Jvm.MethodName) "LeavesOfMud") ∈ nestW := List.mem_of_getElem? (i := 54) rfl
theorem wn_26 : (Jvm.Cond.fieldLinkNest "LeavesOfMud" (162 : Nat) "LeavesOfMud$Page" "whole" "Z" "LeavesOfMud") ∈ nestW := List.mem_of_getElem? (i := 26) rfl
theorem f_X8_162 : FldOK "LeavesOfMud" 162 4023 := ⟨RX4, TX4, 4, tyX4, rfl, rfl, by decide, rfl, rfl, inW4, tyX4_ok, nmX4, fun h => absurd h (by decide), fun h => absurd h (by decide), fun _ => rfl, fun _ => rfl, Or.inr ⟨_, wn_26⟩⟩
theorem wn_27 : (Jvm.Cond.fieldLinkNest "LeavesOfMud" (166 : Nat) "LeavesOfMud$Page" "told" "[I" "LeavesOfMud") ∈ nestW := List.mem_of_getElem? (i := 27) rfl
theorem f_X8_166 : FldOK "LeavesOfMud" 166 4032 := ⟨RX4, TX4, 4, tyX4, rfl, rfl, by decide, rfl, rfl, inW4, tyX4_ok, nmX4, fun h => absurd h (by decide), fun h => absurd h (by decide), fun h => absurd h (by decide), fun h => absurd rfl h, Or.inr ⟨_, wn_27⟩⟩
theorem wn_56 : (Jvm.Cond.methodLinkNest "LeavesOfMud" (169 : Nat) ({ cls := "LeavesOfMud$Hands", name := "take", desc := "([I)I" } : Jvm.MethodName) "LeavesOfMud") ∈ nestW := List.mem_of_getElem? (i := 56) rfl
theorem wn_57 : (Jvm.Cond.methodLinkNest "LeavesOfMud" (174 : Nat) ({ cls := "LeavesOfMud$Laws", name := "take", desc := "([I)I" } : Jvm.MethodName) "LeavesOfMud") ∈ nestW := List.mem_of_getElem? (i := 57) rfl
end
section
-- ===== the methods: packs, tables, blocks (printed by wip/tools/emit.py) =====
def Y_X0_isKept : Pk := (yX0_isKept, cX0_isKept, 2, some .boolean, 2)
def T_X0_isKept : Tb := ([(31, 60)], [], [], [], [], [], 2)
def V_X0_isKept : List (Nat × Nat) := [(0, 2), (15, 2), (16, 2)]
def B_X0_isKept : Bk := [(0, [.aload 0, .getfield 60, .iconst (1), .iload 1, .ishl, .iand, .ifCond .eq 15, .iconst (1), .goto 16], 15), (15, [.iconst (0)], 16), (16, [.ireturn], 17)]
theorem k_X0_isKept : chkB T_X0_isKept cX0_isKept B_X0_isKept = true := by decide +kernel
theorem cw_X0_isKept : calW Y_X0_isKept := ⟨pn_X0, Or.inr (Or.inr (Or.inl ⟨rfl, rfl⟩)), w_798, w_3, mh_X0, by decide⟩
theorem cl_X0_isKept {o : OM} {Y : Pk} {d d2 idx : Nat} {C : Ctr} (hS : Sound o Y_X0_isKept d2 C) (hd : d2 + 1 ≤ d) (hl : Cond.methodLink (yN Y).cls idx yX0_isKept ∈ wsG ∨ ∃ host, Cond.methodLinkNest (yN Y).cls idx yX0_isKept host ∈ nestW) : CallOK o Y d (.invokevirtual idx) (2, rcv 0 2 C) := callV_ok hS hd cw_X0_isKept hl w_797 wp_45 (Or.inl ⟨TX0, 11, rfl⟩) (by decide +kernel)
def Y_X0_setKept : Pk := (yX0_setKept, cX0_setKept, 3, none, 0)
def T_X0_setKept : Tb := ([(31, 60)], [], [], [], [], [], 3)
def V_X0_setKept : List (Nat × Nat) := [(0, 3), (16, 3), (26, 3)]
def B_X0_setKept : Bk := [(0, [.aload 0, .iload 2, .ifCond .eq 16, .aload 0, .getfield 60, .iconst (1), .iload 1, .ishl, .ior, .goto 26], 16), (16, [.aload 0, .getfield 60, .iconst (1), .iload 1, .ishl, .iconst (-1), .ixor, .iand], 26), (26, [.putfield 60, .return_], 30)]
theorem k_X0_setKept : chkB T_X0_setKept cX0_setKept B_X0_setKept = true := by decide +kernel
theorem cw_X0_setKept : calW Y_X0_setKept := ⟨pn_X0, Or.inl ⟨rfl, rfl⟩, w_790, w_3, mh_X0, by decide⟩
theorem cl_X0_setKept {o : OM} {Y : Pk} {d d2 idx : Nat} {C : Ctr} (hS : Sound o Y_X0_setKept d2 C) (hd : d2 + 1 ≤ d) (hl : Cond.methodLink (yN Y).cls idx yX0_setKept ∈ wsG ∨ ∃ host, Cond.methodLinkNest (yN Y).cls idx yX0_setKept host ∈ nestW) : CallOK o Y d (.invokevirtual idx) (3, rcv 0 3 C) := callV_ok hS hd cw_X0_setKept hl w_789 wp_44 (Or.inl ⟨TX0, 11, rfl⟩) (by decide +kernel)
def Y_X0_isTied : Pk := (yX0_isTied, cX0_isTied, 2, some .boolean, 2)
def T_X0_isTied : Tb := ([(34, 70)], [], [], [], [], [], 2)
def V_X0_isTied : List (Nat × Nat) := [(0, 2), (15, 2), (16, 2)]
def B_X0_isTied : Bk := [(0, [.aload 0, .getfield 70, .iconst (1), .iload 1, .ishl, .iand, .ifCond .eq 15, .iconst (1), .goto 16], 15), (15, [.iconst (0)], 16), (16, [.ireturn], 17)]
theorem k_X0_isTied : chkB T_X0_isTied cX0_isTied B_X0_isTied = true := by decide +kernel
theorem cw_X0_isTied : calW Y_X0_isTied := ⟨pn_X0, Or.inr (Or.inr (Or.inl ⟨rfl, rfl⟩)), w_808, w_3, mh_X0, by decide⟩
theorem cl_X0_isTied {o : OM} {Y : Pk} {d d2 idx : Nat} {C : Ctr} (hS : Sound o Y_X0_isTied d2 C) (hd : d2 + 1 ≤ d) (hl : Cond.methodLink (yN Y).cls idx yX0_isTied ∈ wsG ∨ ∃ host, Cond.methodLinkNest (yN Y).cls idx yX0_isTied host ∈ nestW) : CallOK o Y d (.invokevirtual idx) (2, rcv 0 2 C) := callV_ok hS hd cw_X0_isTied hl w_807 wp_46 (Or.inl ⟨TX0, 11, rfl⟩) (by decide +kernel)
def Y_X0_dropTie : Pk := (yX0_dropTie, cX0_dropTie, 2, none, 0)
def T_X0_dropTie : Tb := ([(34, 70)], [], [], [], [], [], 2)
def V_X0_dropTie : List (Nat × Nat) := [(0, 2)]
def B_X0_dropTie : Bk := [(0, [.aload 0, .dup, .getfield 70, .iconst (1), .iload 1, .ishl, .iconst (-1), .ixor, .iand, .putfield 70, .return_], 15)]
theorem k_X0_dropTie : chkB T_X0_dropTie cX0_dropTie B_X0_dropTie = true := by decide +kernel
theorem cw_X0_dropTie : calW Y_X0_dropTie := ⟨pn_X0, Or.inl ⟨rfl, rfl⟩, w_820, w_3, mh_X0, by decide⟩
theorem cl_X0_dropTie {o : OM} {Y : Pk} {d d2 idx : Nat} {C : Ctr} (hS : Sound o Y_X0_dropTie d2 C) (hd : d2 + 1 ≤ d) (hl : Cond.methodLink (yN Y).cls idx yX0_dropTie ∈ wsG ∨ ∃ host, Cond.methodLinkNest (yN Y).cls idx yX0_dropTie host ∈ nestW) : CallOK o Y d (.invokevirtual idx) (2, rcv 0 2 C) := callV_ok hS hd cw_X0_dropTie hl w_819 wp_48 (Or.inl ⟨TX0, 11, rfl⟩) (by decide +kernel)
def Y_X0_setTie : Pk := (yX0_setTie, cX0_setTie, 4, none, 0)
def T_X0_setTie : Tb := ([(34, 70), (37, 82), (40, 92)], [], [], [], [], [], 4)
def V_X0_setTie : List (Nat × Nat) := [(0, 4)]
def B_X0_setTie : Bk := [(0, [.aload 0, .dup, .getfield 70, .iconst (1), .iload 1, .ishl, .ior, .putfield 70, .aload 0, .getfield 82, .iload 1, .iload 2, .iastore, .aload 0, .getfield 92, .iload 1, .iload 3, .iastore, .return_], 27)]
theorem k_X0_setTie : chkB T_X0_setTie cX0_setTie B_X0_setTie = true := by decide +kernel
theorem cw_X0_setTie : calW Y_X0_setTie := ⟨pn_X0, Or.inl ⟨rfl, rfl⟩, w_812, w_3, mh_X0, by decide⟩
theorem cl_X0_setTie {o : OM} {Y : Pk} {d d2 idx : Nat} {C : Ctr} (hS : Sound o Y_X0_setTie d2 C) (hd : d2 + 1 ≤ d) (hl : Cond.methodLink (yN Y).cls idx yX0_setTie ∈ wsG ∨ ∃ host, Cond.methodLinkNest (yN Y).cls idx yX0_setTie host ∈ nestW) : CallOK o Y d (.invokevirtual idx) (4, rcv 0 4 C) := callV_ok hS hd cw_X0_setTie hl w_811 wp_47 (Or.inl ⟨TX0, 11, rfl⟩) (by decide +kernel)
def Y_X1_has : Pk := (yX1_has, cX1_has, 2, some .boolean, 2)
def T_X1_has : Tb := ([(9, 1010)], [], [], [], [], [], 2)
def V_X1_has : List (Nat × Nat) := [(0, 2), (17, 2), (18, 2)]
def B_X1_has : Bk := [(0, [.iload 1, .iconst (-1), .if_icmp .lt 17, .iload 1, .aload 0, .getfield 1010, .if_icmp .ge 17, .iconst (1), .goto 18], 17), (17, [.iconst (0)], 18), (18, [.ireturn], 19)]
theorem k_X1_has : chkB T_X1_has cX1_has B_X1_has = true := by decide +kernel
theorem cw_X1_has : calW Y_X1_has := ⟨pn_X1, Or.inr (Or.inr (Or.inl ⟨rfl, rfl⟩)), w_608, w_5, mh_X1, by decide⟩
theorem cl_X1_has {o : OM} {Y : Pk} {d d2 idx : Nat} {C : Ctr} (hS : Sound o Y_X1_has d2 C) (hd : d2 + 1 ≤ d) (hl : Cond.methodLink (yN Y).cls idx yX1_has ∈ wsG ∨ ∃ host, Cond.methodLinkNest (yN Y).cls idx yX1_has host ∈ nestW) : CallOK o Y d (.invokevirtual idx) (2, rcv 1 2 C) := callV_ok hS hd cw_X1_has hl w_607 wp_19 (Or.inl ⟨TX1, 3, rfl⟩) (by decide +kernel)
def Y_X1_halvesOf : Pk := (yX1_halvesOf, cX1_halvesOf, 5, some .int, 1)
def T_X1_halvesOf : Tb := ([(15, 1022)], [], [], [(35, 98)], [], [], 5)
def V_X1_halvesOf : List (Nat × Nat) := [(0, 4), (24, 5), (35, 5), (40, 5)]
def B_X1_halvesOf : Bk := [(0, [.aload 0, .getfield 1022, .iload 1, .iconst (1), .iadd, .iconst (7), .imul, .iload 2, .iadd, .iaload, .istore 4, .iload 4, .iconst (-1), .if_icmp .eq 24, .iload 4, .ireturn], 24), (24, [.iload 2, .iconst (4), .if_icmp .ne 35, .iconst (2), .iload 3, .imul, .goto 40], 35), (35, [.anewarray 98, .iload 2, .iaload], 40), (40, [.ireturn], 41)]
theorem k_X1_halvesOf : chkB T_X1_halvesOf cX1_halvesOf B_X1_halvesOf = true := by decide +kernel
theorem cw_X1_halvesOf : calW Y_X1_halvesOf := ⟨pn_X1, Or.inr (Or.inl ⟨rfl, rfl⟩), w_419, w_5, mh_X1, by decide⟩
theorem cl_X1_halvesOf {o : OM} {Y : Pk} {d d2 idx : Nat} {C : Ctr} (hS : Sound o Y_X1_halvesOf d2 C) (hd : d2 + 1 ≤ d) (hl : Cond.methodLink (yN Y).cls idx yX1_halvesOf ∈ wsG ∨ ∃ host, Cond.methodLinkNest (yN Y).cls idx yX1_halvesOf host ∈ nestW) : CallOK o Y d (.invokevirtual idx) (4, rcv 1 5 C) := callV_ok hS hd cw_X1_halvesOf hl w_418 wp_10 (Or.inl ⟨TX1, 3, rfl⟩) (by decide +kernel)
def Y_X2_has : Pk := (yX2_has, cX2_has, 2, some .boolean, 2)
def T_X2_has : Tb := ([(9, 2000)], [], [], [], [], [], 2)
def V_X2_has : List (Nat × Nat) := [(0, 2), (16, 2), (17, 2)]
def B_X2_has : Bk := [(0, [.iload 1, .ifCond .lt 16, .iload 1, .aload 0, .getfield 2000, .if_icmp .ge 16, .iconst (1), .goto 17], 16), (16, [.iconst (0)], 17), (17, [.ireturn], 18)]
theorem k_X2_has : chkB T_X2_has cX2_has B_X2_has = true := by decide +kernel
theorem cw_X2_has : calW Y_X2_has := ⟨pn_X2, Or.inr (Or.inr (Or.inl ⟨rfl, rfl⟩)), w_684, w_7, mh_X2, by decide⟩
theorem cl_X2_has {o : OM} {Y : Pk} {d d2 idx : Nat} {C : Ctr} (hS : Sound o Y_X2_has d2 C) (hd : d2 + 1 ≤ d) (hl : Cond.methodLink (yN Y).cls idx yX2_has ∈ wsG ∨ ∃ host, Cond.methodLinkNest (yN Y).cls idx yX2_has host ∈ nestW) : CallOK o Y d (.invokevirtual idx) (2, rcv 2 2 C) := callV_ok hS hd cw_X2_has hl w_683 wp_26 (Or.inl ⟨TX2, 2, rfl⟩) (by decide +kernel)
def Y_X2_take : Pk := (yX2_take, cX2_take, 4, some .int, 1)
def T_X2_take : Tb := ([(9, 2000), (15, 2012)], [], [], [(19, 99)], [], [], 4)
def V_X2_take : List (Nat × Nat) := [(0, 2), (12, 3), (14, 4), (43, 4), (46, 4), (53, 4)]
def B_X2_take : Bk := [(0, [.aload 0, .getfield 2000, .istore 2, .iload 2, .iconst (4), .if_icmp .lt 12, .iconst (-1), .ireturn], 12), (12, [.iconst (0), .istore 3], 14), (14, [.iload 3, .iconst (4), .if_icmp .ge 53, .aload 0, .getfield 2012, .iload 2, .iconst (4), .imul, .iload 3, .iadd, .aload 1, .iload 3, .iaload, .iconst (-1), .if_icmp .ne 43, .anewarray 99, .iload 3, .iaload, .goto 46], 43), (43, [.aload 1, .iload 3, .iaload], 46), (46, [.iastore, .iinc 3 1, .goto 14], 53), (53, [.aload 0, .dup, .getfield 2000, .iconst (1), .iadd, .putfield 2000, .iload 2, .ireturn], 65)]
theorem k_X2_take : chkB T_X2_take cX2_take B_X2_take = true := by decide +kernel
theorem cw_X2_take : calW Y_X2_take := ⟨pn_X2, Or.inr (Or.inl ⟨rfl, rfl⟩), w_598, w_7, mh_X2, by decide⟩
theorem cl_X2_take {o : OM} {Y : Pk} {d d2 idx : Nat} {C : Ctr} (hS : Sound o Y_X2_take d2 C) (hd : d2 + 1 ≤ d) (hl : Cond.methodLink (yN Y).cls idx yX2_take ∈ wsG ∨ ∃ host, Cond.methodLinkNest (yN Y).cls idx yX2_take host ∈ nestW) : CallOK o Y d (.invokevirtual idx) (2, rcv 2 4 C) := callV_ok hS hd cw_X2_take hl w_597 wp_18 (Or.inl ⟨TX2, 2, rfl⟩) (by decide +kernel)
def Y_X2_priceOf : Pk := (yX2_priceOf, cX2_priceOf, 3, some .int, 1)
def T_X2_priceOf : Tb := ([(15, 2012)], [], [], [], [], [], 3)
def V_X2_priceOf : List (Nat × Nat) := [(0, 3)]
def B_X2_priceOf : Bk := [(0, [.aload 0, .getfield 2012, .iload 1, .iconst (4), .imul, .iload 2, .iadd, .iaload, .ireturn], 11)]
theorem k_X2_priceOf : chkB T_X2_priceOf cX2_priceOf B_X2_priceOf = true := by decide +kernel
theorem cw_X2_priceOf : calW Y_X2_priceOf := ⟨pn_X2, Or.inr (Or.inl ⟨rfl, rfl⟩), w_699, w_7, mh_X2, by decide⟩
theorem cl_X2_priceOf {o : OM} {Y : Pk} {d d2 idx : Nat} {C : Ctr} (hS : Sound o Y_X2_priceOf d2 C) (hd : d2 + 1 ≤ d) (hl : Cond.methodLink (yN Y).cls idx yX2_priceOf ∈ wsG ∨ ∃ host, Cond.methodLinkNest (yN Y).cls idx yX2_priceOf host ∈ nestW) : CallOK o Y d (.invokevirtual idx) (3, rcv 2 3 C) := callV_ok hS hd cw_X2_priceOf hl w_698 wp_29 (Or.inl ⟨TX2, 2, rfl⟩) (by decide +kernel)
def Y_X3_isFloating : Pk := (yX3_isFloating, cX3_isFloating, 3, some .boolean, 2)
def T_X3_isFloating : Tb := ([(11, 3032)], [(71, 1000000000)], [], [], [], [], 3)
def V_X3_isFloating : List (Nat × Nat) := [(0, 3), (20, 3), (21, 3)]
def B_X3_isFloating : Bk := [(0, [.aload 0, .getfield 3032, .iload 1, .iconst (8), .imul, .iload 2, .iadd, .iaload, .iconst (1000000000), .if_icmp .ne 20, .iconst (1), .goto 21], 20), (20, [.iconst (0)], 21), (21, [.ireturn], 22)]
theorem k_X3_isFloating : chkB T_X3_isFloating cX3_isFloating B_X3_isFloating = true := by decide +kernel
theorem cw_X3_isFloating : calW Y_X3_isFloating := ⟨pn_X3, Or.inr (Or.inr (Or.inl ⟨rfl, rfl⟩)), w_887, w_10, mh_X3, by decide⟩
theorem cl_X3_isFloating {o : OM} {Y : Pk} {d d2 idx : Nat} {C : Ctr} (hS : Sound o Y_X3_isFloating d2 C) (hd : d2 + 1 ≤ d) (hl : Cond.methodLink (yN Y).cls idx yX3_isFloating ∈ wsG ∨ ∃ host, Cond.methodLinkNest (yN Y).cls idx yX3_isFloating host ∈ nestW) : CallOK o Y d (.invokevirtual idx) (3, rcv 3 3 C) := callV_ok hS hd cw_X3_isFloating hl w_886 wp_58 (Or.inl ⟨TX3, 15, rfl⟩) (by decide +kernel)
def Y_X3_endOfSpan : Pk := (yX3_endOfSpan, cX3_endOfSpan, 4, some .int, 1)
def T_X3_endOfSpan : Tb := ([(11, 3032)], [], [], [], [], [], 4)
def V_X3_endOfSpan : List (Nat × Nat) := [(0, 4), (19, 4), (30, 4)]
def B_X3_endOfSpan : Bk := [(0, [.iload 3, .ifCond .ne 19, .aload 0, .getfield 3032, .iload 2, .iconst (8), .imul, .iload 1, .iadd, .iaload, .ineg, .goto 30], 19), (19, [.aload 0, .getfield 3032, .iload 1, .iconst (8), .imul, .iload 2, .iadd, .iaload], 30), (30, [.ireturn], 31)]
theorem k_X3_endOfSpan : chkB T_X3_endOfSpan cX3_endOfSpan B_X3_endOfSpan = true := by decide +kernel
theorem cw_X3_endOfSpan : calW Y_X3_endOfSpan := ⟨pn_X3, Or.inr (Or.inl ⟨rfl, rfl⟩), w_891, w_10, mh_X3, by decide⟩
theorem cl_X3_endOfSpan {o : OM} {Y : Pk} {d d2 idx : Nat} {C : Ctr} (hS : Sound o Y_X3_endOfSpan d2 C) (hd : d2 + 1 ≤ d) (hl : Cond.methodLink (yN Y).cls idx yX3_endOfSpan ∈ wsG ∨ ∃ host, Cond.methodLinkNest (yN Y).cls idx yX3_endOfSpan host ∈ nestW) : CallOK o Y d (.invokevirtual idx) (4, rcv 3 4 C) := callV_ok hS hd cw_X3_endOfSpan hl w_890 wp_59 (Or.inl ⟨TX3, 15, rfl⟩) (by decide +kernel)
def Y_X3_hasAsh : Pk := (yX3_hasAsh, cX3_hasAsh, 3, some .boolean, 2)
def T_X3_hasAsh : Tb := ([(26, 3072)], [], [], [], [], [], 3)
def V_X3_hasAsh : List (Nat × Nat) := [(0, 3), (19, 3), (20, 3)]
def B_X3_hasAsh : Bk := [(0, [.aload 0, .getfield 3072, .iload 1, .iconst (10), .imul, .iload 2, .iadd, .iaload, .iconst (-1), .if_icmp .eq 19, .iconst (1), .goto 20], 19), (19, [.iconst (0)], 20), (20, [.ireturn], 21)]
theorem k_X3_hasAsh : chkB T_X3_hasAsh cX3_hasAsh B_X3_hasAsh = true := by decide +kernel
theorem cw_X3_hasAsh : calW Y_X3_hasAsh := ⟨pn_X3, Or.inr (Or.inr (Or.inl ⟨rfl, rfl⟩)), w_857, w_10, mh_X3, by decide⟩
theorem cl_X3_hasAsh {o : OM} {Y : Pk} {d d2 idx : Nat} {C : Ctr} (hS : Sound o Y_X3_hasAsh d2 C) (hd : d2 + 1 ≤ d) (hl : Cond.methodLink (yN Y).cls idx yX3_hasAsh ∈ wsG ∨ ∃ host, Cond.methodLinkNest (yN Y).cls idx yX3_hasAsh host ∈ nestW) : CallOK o Y d (.invokevirtual idx) (3, rcv 3 3 C) := callV_ok hS hd cw_X3_hasAsh hl w_856 wp_54 (Or.inl ⟨TX3, 15, rfl⟩) (by decide +kernel)
def Y_X3_bound : Pk := (yX3_bound, cX3_bound, 8, some .boolean, 2)
def T_X3_bound : Tb := ([], [(71, 1000000000)], [], [], [], [], 8)
def V_X3_bound : List (Nat × Nat) := [(0, 4), (14, 4), (29, 4), (32, 5), (53, 7), (122, 8), (128, 7), (134, 5)]
def B_X3_bound : Bk := [(0, [.iload 3, .aload 0, .iload 1, .iconst (8), .imul, .iload 2, .iadd, .iaload, .if_icmp .lt 14, .iconst (1), .ireturn], 14), (14, [.aload 0, .iload 2, .iconst (8), .imul, .iload 1, .iadd, .iaload, .iload 3, .iadd, .ifCond .ge 29, .iconst (0), .ireturn], 29), (29, [.iconst (0), .istore 4], 32), (32, [.iload 4, .iconst (8), .if_icmp .ge 134, .aload 0, .iload 4, .iconst (8), .imul, .iload 1, .iadd, .iaload, .istore 5, .iconst (0), .istore 6], 53), (53, [.iload 5, .iconst (1000000000), .if_icmp .eq 128, .iload 6, .iconst (8), .if_icmp .ge 128, .aload 0, .iload 2, .iconst (8), .imul, .iload 6, .iadd, .iaload, .istore 7, .iload 7, .iconst (1000000000), .if_icmp .eq 122, .iload 5, .iload 3, .iadd, .iload 7, .iadd, .aload 0, .iload 4, .iconst (8), .imul, .iload 6, .iadd, .iaload, .if_icmp .ge 122, .aload 0, .iload 4, .iconst (8), .imul, .iload 6, .iadd, .iload 5, .iload 3, .iadd, .iload 7, .iadd, .iastore], 122), (122, [.iinc 6 1, .goto 53], 128), (128, [.iinc 4 1, .goto 32], 134), (134, [.iconst (1), .ireturn], 136)]
theorem k_X3_bound : chkB T_X3_bound cX3_bound B_X3_bound = true := by decide +kernel
theorem cw_X3_bound : calW Y_X3_bound := ⟨pn_X3, Or.inr (Or.inr (Or.inl ⟨rfl, rfl⟩)), w_863, w_10, mh_X3, by decide⟩
theorem cl_X3_bound {o : OM} {Y : Pk} {d d2 idx : Nat} {C : Ctr} (hS : Sound o Y_X3_bound d2 C) (hd : d2 + 1 ≤ d) (hl : Cond.methodLink (yN Y).cls idx yX3_bound ∈ wsG ∨ ∃ host, Cond.methodLinkNest (yN Y).cls idx yX3_bound host ∈ nestW) : CallOK o Y d (.invokestatic idx) (4, arg 8 C) := callS_ok hS hd cw_X3_bound hl w_862 (by decide +kernel)
def Y_X3_hangTogether : Pk := (yX3_hangTogether, cX3_hangTogether, 6, none, 0)
def T_X3_hangTogether : Tb := ([(29, 3082)], [], [], [], [], [], 6)
def V_X3_hangTogether : List (Nat × Nat) := [(0, 3), (18, 6), (45, 6), (51, 6)]
def B_X3_hangTogether : Bk := [(0, [.aload 0, .getfield 3082, .iload 2, .iaload, .istore 3, .aload 0, .getfield 3082, .iload 1, .iaload, .istore 4, .iconst (0), .istore 5], 18), (18, [.iload 5, .iconst (8), .if_icmp .ge 51, .aload 0, .getfield 3082, .iload 5, .iaload, .iload 3, .if_icmp .ne 45, .aload 0, .getfield 3082, .iload 5, .iload 4, .iastore], 45), (45, [.iinc 5 1, .goto 18], 51), (51, [.return_], 52)]
theorem k_X3_hangTogether : chkB T_X3_hangTogether cX3_hangTogether B_X3_hangTogether = true := by decide +kernel
theorem cw_X3_hangTogether : calW Y_X3_hangTogether := ⟨pn_X3, Or.inl ⟨rfl, rfl⟩, w_907, w_10, mh_X3, by decide⟩
theorem cl_X3_hangTogether {o : OM} {Y : Pk} {d d2 idx : Nat} {C : Ctr} (hS : Sound o Y_X3_hangTogether d2 C) (hd : d2 + 1 ≤ d) (hl : Cond.methodLink (yN Y).cls idx yX3_hangTogether ∈ wsG ∨ ∃ host, Cond.methodLinkNest (yN Y).cls idx yX3_hangTogether host ∈ nestW) : CallOK o Y d (.invokevirtual idx) (3, rcv 3 6 C) := callV_ok hS hd cw_X3_hangTogether hl w_906 wp_61 (Or.inl ⟨TX3, 15, rfl⟩) (by decide +kernel)
def Y_X3_groupOfFirst : Pk := (yX3_groupOfFirst, cX3_groupOfFirst, 3, some .int, 1)
def T_X3_groupOfFirst : Tb := ([(51, 3002), (85, 6000), (29, 3082)], [], [], [], [], [], 3)
def V_X3_groupOfFirst : List (Nat × Nat) := [(0, 1), (4, 3), (36, 3), (42, 3)]
def B_X3_groupOfFirst : Bk := [(0, [.iconst (0), .istore 1, .iconst (0), .istore 2], 4), (4, [.iload 2, .aload 0, .getfield 3002, .getfield 6000, .if_icmp .ge 42, .aload 0, .getfield 3082, .iload 2, .iaload, .aload 0, .getfield 3082, .iconst (0), .iaload, .if_icmp .ne 36, .iload 1, .iconst (1), .iload 2, .ishl, .ior, .istore 1], 36), (36, [.iinc 2 1, .goto 4], 42), (42, [.iload 1, .ireturn], 44)]
theorem k_X3_groupOfFirst : chkB T_X3_groupOfFirst cX3_groupOfFirst B_X3_groupOfFirst = true := by decide +kernel
theorem cw_X3_groupOfFirst : calW Y_X3_groupOfFirst := ⟨pn_X3, Or.inr (Or.inl ⟨rfl, rfl⟩), w_925, w_10, mh_X3, by decide⟩
theorem cl_X3_groupOfFirst {o : OM} {Y : Pk} {d d2 idx : Nat} {C : Ctr} (hS : Sound o Y_X3_groupOfFirst d2 C) (hd : d2 + 1 ≤ d) (hl : Cond.methodLink (yN Y).cls idx yX3_groupOfFirst ∈ wsG ∨ ∃ host, Cond.methodLinkNest (yN Y).cls idx yX3_groupOfFirst host ∈ nestW) : CallOK o Y d (.invokevirtual idx) (1, rcv 3 3 C) := callV_ok hS hd cw_X3_groupOfFirst hl w_924 wp_64 (Or.inl ⟨TX3, 15, rfl⟩) (by decide +kernel)
def Y_X3_widthOf : Pk := (yX3_widthOf, cX3_widthOf, 3, some .int, 1)
def T_X3_widthOf : Tb := ([(11, 3032)], [], [], [], [], [], 3)
def V_X3_widthOf : List (Nat × Nat) := [(0, 3)]
def B_X3_widthOf : Bk := [(0, [.aload 0, .getfield 3032, .iload 1, .iconst (8), .imul, .iload 2, .iadd, .iaload, .aload 0, .getfield 3032, .iload 2, .iconst (8), .imul, .iload 1, .iadd, .iaload, .iadd, .ireturn], 24)]
theorem k_X3_widthOf : chkB T_X3_widthOf cX3_widthOf B_X3_widthOf = true := by decide +kernel
theorem cw_X3_widthOf : calW Y_X3_widthOf := ⟨pn_X3, Or.inr (Or.inl ⟨rfl, rfl⟩), w_970, w_10, mh_X3, by decide⟩
theorem cl_X3_widthOf {o : OM} {Y : Pk} {d d2 idx : Nat} {C : Ctr} (hS : Sound o Y_X3_widthOf d2 C) (hd : d2 + 1 ≤ d) (hl : Cond.methodLink (yN Y).cls idx yX3_widthOf ∈ wsG ∨ ∃ host, Cond.methodLinkNest (yN Y).cls idx yX3_widthOf host ∈ nestW) : CallOK o Y d (.invokevirtual idx) (3, rcv 3 3 C) := callV_ok hS hd cw_X3_widthOf hl w_969 wp_72 (Or.inl ⟨TX3, 15, rfl⟩) (by decide +kernel)
def Y_X4_write : Pk := (yX4_write, cX4_write, 2, none, 0)
def T_X4_write : Tb := ([(9, 4000), (15, 4012)], [], [], [], [], [], 2)
def V_X4_write : List (Nat × Nat) := [(0, 2), (29, 2)]
def B_X4_write : Bk := [(0, [.aload 0, .getfield 4000, .iconst (30), .if_icmp .ge 29, .aload 0, .getfield 4012, .aload 0, .getfield 4000, .iload 1, .iastore, .aload 0, .dup, .getfield 4000, .iconst (1), .iadd, .putfield 4000], 29), (29, [.return_], 30)]
theorem k_X4_write : chkB T_X4_write cX4_write B_X4_write = true := by decide +kernel
theorem cw_X4_write : calW Y_X4_write := ⟨pn_X4, Or.inl ⟨rfl, rfl⟩, w_471, w_4, mh_X4, by decide⟩
theorem cl_X4_write {o : OM} {Y : Pk} {d d2 idx : Nat} {C : Ctr} (hS : Sound o Y_X4_write d2 C) (hd : d2 + 1 ≤ d) (hl : Cond.methodLink (yN Y).cls idx yX4_write ∈ wsG ∨ ∃ host, Cond.methodLinkNest (yN Y).cls idx yX4_write host ∈ nestW) : CallOK o Y d (.invokevirtual idx) (2, rcv 4 2 C) := callV_ok hS hd cw_X4_write hl w_470 wp_14 (Or.inl ⟨TX4, 4, rfl⟩) (by decide +kernel)
def Y_X5_leastOfAll : Pk := (yX5_leastOfAll, cX5_leastOfAll, 1, some .int, 1)
def T_X5_leastOfAll : Tb := ([(49, 5142)], [], [], [], [], [], 1)
def V_X5_leastOfAll : List (Nat × Nat) := [(0, 1)]
def B_X5_leastOfAll : Bk := [(0, [.aload 0, .getfield 5142, .iconst (0), .iaload, .ireturn], 7)]
theorem k_X5_leastOfAll : chkB T_X5_leastOfAll cX5_leastOfAll B_X5_leastOfAll = true := by decide +kernel
theorem cw_X5_leastOfAll : calW Y_X5_leastOfAll := ⟨pn_X5, Or.inr (Or.inl ⟨rfl, rfl⟩), w_746, w_9, mh_X5, by decide⟩
theorem cl_X5_leastOfAll {o : OM} {Y : Pk} {d d2 idx : Nat} {C : Ctr} (hS : Sound o Y_X5_leastOfAll d2 C) (hd : d2 + 1 ≤ d) (hl : Cond.methodLink (yN Y).cls idx yX5_leastOfAll ∈ wsG ∨ ∃ host, Cond.methodLinkNest (yN Y).cls idx yX5_leastOfAll host ∈ nestW) : CallOK o Y d (.invokevirtual idx) (1, rcv 5 1 C) := callV_ok hS hd cw_X5_leastOfAll hl w_745 wp_37 (Or.inl ⟨TX5, 20, rfl⟩) (by decide +kernel)
def Y_X5_waysOfAll : Pk := (yX5_waysOfAll, cX5_waysOfAll, 1, some .int, 1)
def T_X5_waysOfAll : Tb := ([(52, 5152)], [], [], [], [], [], 1)
def V_X5_waysOfAll : List (Nat × Nat) := [(0, 1)]
def B_X5_waysOfAll : Bk := [(0, [.aload 0, .getfield 5152, .iconst (0), .iaload, .ireturn], 7)]
theorem k_X5_waysOfAll : chkB T_X5_waysOfAll cX5_waysOfAll B_X5_waysOfAll = true := by decide +kernel
theorem cw_X5_waysOfAll : calW Y_X5_waysOfAll := ⟨pn_X5, Or.inr (Or.inl ⟨rfl, rfl⟩), w_750, w_9, mh_X5, by decide⟩
theorem cl_X5_waysOfAll {o : OM} {Y : Pk} {d d2 idx : Nat} {C : Ctr} (hS : Sound o Y_X5_waysOfAll d2 C) (hd : d2 + 1 ≤ d) (hl : Cond.methodLink (yN Y).cls idx yX5_waysOfAll ∈ wsG ∨ ∃ host, Cond.methodLinkNest (yN Y).cls idx yX5_waysOfAll host ∈ nestW) : CallOK o Y d (.invokevirtual idx) (1, rcv 5 1 C) := callV_ok hS hd cw_X5_waysOfAll hl w_749 wp_38 (Or.inl ⟨TX5, 20, rfl⟩) (by decide +kernel)
def Y_X5_canStep : Pk := (yX5_canStep, cX5_canStep, 4, some .boolean, 2)
def T_X5_canStep : Tb := ([(43, 5120), (46, 5130), (24, 5060), (28, 5070)], [], [], [(126, 100), (129, 101)], [], [], 4)
def V_X5_canStep : List (Nat × Nat) := [(0, 4), (22, 4), (54, 4), (55, 4)]
def B_X5_canStep : Bk := [(0, [.iload 1, .ifCond .ne 22, .iload 2, .aload 0, .getfield 5120, .if_icmp .ne 22, .iload 3, .aload 0, .getfield 5130, .if_icmp .ne 22, .iconst (0), .ireturn], 22), (22, [.iload 2, .anewarray 100, .iload 1, .iaload, .iadd, .aload 0, .getfield 5060, .if_icmp .gt 54, .iload 3, .anewarray 101, .iload 1, .iaload, .iadd, .aload 0, .getfield 5070, .if_icmp .gt 54, .iconst (1), .goto 55], 54), (54, [.iconst (0)], 55), (55, [.ireturn], 56)]
theorem k_X5_canStep : chkB T_X5_canStep cX5_canStep B_X5_canStep = true := by decide +kernel
theorem cw_X5_canStep : calW Y_X5_canStep := ⟨pn_X5, Or.inr (Or.inr (Or.inl ⟨rfl, rfl⟩)), w_711, w_9, mh_X5, by decide⟩
theorem cl_X5_canStep {o : OM} {Y : Pk} {d d2 idx : Nat} {C : Ctr} (hS : Sound o Y_X5_canStep d2 C) (hd : d2 + 1 ≤ d) (hl : Cond.methodLink (yN Y).cls idx yX5_canStep ∈ wsG ∨ ∃ host, Cond.methodLinkNest (yN Y).cls idx yX5_canStep host ∈ nestW) : CallOK o Y d (.invokevirtual idx) (4, rcv 5 4 C) := callV_ok hS hd cw_X5_canStep hl w_710 wp_32 (Or.inl ⟨TX5, 20, rfl⟩) (by decide +kernel)
def Y_X5_placeAfter : Pk := (yX5_placeAfter, cX5_placeAfter, 4, some .int, 1)
def T_X5_placeAfter : Tb := ([], [], [], [(126, 100), (129, 101)], [], [], 4)
def V_X5_placeAfter : List (Nat × Nat) := [(0, 4)]
def B_X5_placeAfter : Bk := [(0, [.iload 2, .anewarray 100, .iload 1, .iaload, .iadd, .iconst (17), .imul, .iload 3, .iadd, .anewarray 101, .iload 1, .iaload, .iadd, .ireturn], 19)]
theorem k_X5_placeAfter : chkB T_X5_placeAfter cX5_placeAfter B_X5_placeAfter = true := by decide +kernel
theorem cw_X5_placeAfter : calW Y_X5_placeAfter := ⟨pn_X5, Or.inr (Or.inl ⟨rfl, rfl⟩), w_719, w_9, mh_X5, by decide⟩
theorem cl_X5_placeAfter {o : OM} {Y : Pk} {d d2 idx : Nat} {C : Ctr} (hS : Sound o Y_X5_placeAfter d2 C) (hd : d2 + 1 ≤ d) (hl : Cond.methodLink (yN Y).cls idx yX5_placeAfter ∈ wsG ∨ ∃ host, Cond.methodLinkNest (yN Y).cls idx yX5_placeAfter host ∈ nestW) : CallOK o Y d (.invokevirtual idx) (4, rcv 5 4 C) := callV_ok hS hd cw_X5_placeAfter hl w_718 wp_33 (Or.inl ⟨TX5, 20, rfl⟩) (by decide +kernel)
def Y_X5_ashesFrom : Pk := (yX5_ashesFrom, cX5_ashesFrom, 3, some .int, 1)
def T_X5_ashesFrom : Tb := ([], [], [], [], [], [], 3)
def V_X5_ashesFrom : List (Nat × Nat) := [(0, 2), (11, 2), (12, 2), (26, 3), (29, 3)]
def B_X5_ashesFrom : Bk := [(0, [.aload 0, .iload 1, .iaload, .iconst (-1), .if_icmp .ne 11, .iconst (0), .goto 12], 11), (11, [.iconst (1)], 12), (12, [.istore 2, .aload 0, .iload 1, .iconst (1), .iadd, .iaload, .iconst (-1), .if_icmp .ne 26, .iload 2, .goto 29], 26), (26, [.iload 2, .iconst (1), .iadd], 29), (29, [.ireturn], 30)]
theorem k_X5_ashesFrom : chkB T_X5_ashesFrom cX5_ashesFrom B_X5_ashesFrom = true := by decide +kernel
theorem cw_X5_ashesFrom : calW Y_X5_ashesFrom := ⟨pn_X5, Or.inr (Or.inl ⟨rfl, rfl⟩), w_736, w_9, mh_X5, by decide⟩
theorem cl_X5_ashesFrom {o : OM} {Y : Pk} {d d2 idx : Nat} {C : Ctr} (hS : Sound o Y_X5_ashesFrom d2 C) (hd : d2 + 1 ≤ d) (hl : Cond.methodLink (yN Y).cls idx yX5_ashesFrom ∈ wsG ∨ ∃ host, Cond.methodLinkNest (yN Y).cls idx yX5_ashesFrom host ∈ nestW) : CallOK o Y d (.invokestatic idx) (2, arg 3 C) := callS_ok hS hd cw_X5_ashesFrom hl w_735 (by decide +kernel)
def Y_X6_has : Pk := (yX6_has, cX6_has, 2, some .boolean, 2)
def T_X6_has : Tb := ([(9, 6000)], [], [], [], [], [], 2)
def V_X6_has : List (Nat × Nat) := [(0, 2), (16, 2), (17, 2)]
def B_X6_has : Bk := [(0, [.iload 1, .ifCond .lt 16, .iload 1, .aload 0, .getfield 6000, .if_icmp .ge 16, .iconst (1), .goto 17], 16), (16, [.iconst (0)], 17), (17, [.ireturn], 18)]
theorem k_X6_has : chkB T_X6_has cX6_has B_X6_has = true := by decide +kernel
theorem cw_X6_has : calW Y_X6_has := ⟨pn_X6, Or.inr (Or.inr (Or.inl ⟨rfl, rfl⟩)), w_367, w_2, mh_X6, by decide⟩
theorem cl_X6_has {o : OM} {Y : Pk} {d d2 idx : Nat} {C : Ctr} (hS : Sound o Y_X6_has d2 C) (hd : d2 + 1 ≤ d) (hl : Cond.methodLink (yN Y).cls idx yX6_has ∈ wsG ∨ ∃ host, Cond.methodLinkNest (yN Y).cls idx yX6_has host ∈ nestW) : CallOK o Y d (.invokevirtual idx) (2, rcv 6 2 C) := callV_ok hS hd cw_X6_has hl w_366 wp_1 (Or.inl ⟨TX6, 6, rfl⟩) (by decide +kernel)
def Y_X6_open : Pk := (yX6_open, cX6_open, 3, some .int, 1)
def T_X6_open : Tb := ([(9, 6000), (15, 6012), (19, 6022)], [], [], [], [], [], 3)
def V_X6_open : List (Nat × Nat) := [(0, 2), (13, 3)]
def B_X6_open : Bk := [(0, [.aload 0, .getfield 6000, .istore 2, .iload 2, .iconst (7), .if_icmp .lt 13, .iconst (-1), .ireturn], 13), (13, [.aload 0, .getfield 6012, .iload 2, .iload 1, .iastore, .aload 0, .getfield 6022, .iload 2, .iconst (0), .iastore, .aload 0, .dup, .getfield 6000, .iconst (1), .iadd, .putfield 6000, .iload 2, .ireturn], 39)]
theorem k_X6_open : chkB T_X6_open cX6_open B_X6_open = true := by decide +kernel
theorem cw_X6_open : calW Y_X6_open := ⟨pn_X6, Or.inr (Or.inl ⟨rfl, rfl⟩), w_359, w_2, mh_X6, by decide⟩
theorem cl_X6_open {o : OM} {Y : Pk} {d d2 idx : Nat} {C : Ctr} (hS : Sound o Y_X6_open d2 C) (hd : d2 + 1 ≤ d) (hl : Cond.methodLink (yN Y).cls idx yX6_open ∈ wsG ∨ ∃ host, Cond.methodLinkNest (yN Y).cls idx yX6_open host ∈ nestW) : CallOK o Y d (.invokevirtual idx) (2, rcv 6 3 C) := callV_ok hS hd cw_X6_open hl w_358 wp_0 (Or.inl ⟨TX6, 6, rfl⟩) (by decide +kernel)
def Y_X6_put : Pk := (yX6_put, cX6_put, 7, none, 0)
def T_X6_put : Tb := ([(22, 6032), (25, 6042), (28, 6052)], [], [], [], [], [], 7)
def V_X6_put : List (Nat × Nat) := [(0, 6)]
def B_X6_put : Bk := [(0, [.iload 1, .iconst (16), .imul, .iload 2, .iadd, .istore 6, .aload 0, .getfield 6032, .iload 6, .iload 3, .iastore, .aload 0, .getfield 6042, .iload 6, .iload 4, .iastore, .aload 0, .getfield 6052, .iload 6, .iload 5, .iastore, .return_], 35)]
theorem k_X6_put : chkB T_X6_put cX6_put B_X6_put = true := by decide +kernel
theorem cw_X6_put : calW Y_X6_put := ⟨pn_X6, Or.inl ⟨rfl, rfl⟩, w_378, w_2, mh_X6, by decide⟩
theorem cl_X6_put {o : OM} {Y : Pk} {d d2 idx : Nat} {C : Ctr} (hS : Sound o Y_X6_put d2 C) (hd : d2 + 1 ≤ d) (hl : Cond.methodLink (yN Y).cls idx yX6_put ∈ wsG ∨ ∃ host, Cond.methodLinkNest (yN Y).cls idx yX6_put host ∈ nestW) : CallOK o Y d (.invokevirtual idx) (6, rcv 6 7 C) := callV_ok hS hd cw_X6_put hl w_377 wp_3 (Or.inl ⟨TX6, 6, rfl⟩) (by decide +kernel)
def Y_X6_kindOf : Pk := (yX6_kindOf, cX6_kindOf, 3, some .int, 1)
def T_X6_kindOf : Tb := ([(22, 6032)], [], [], [], [], [], 3)
def V_X6_kindOf : List (Nat × Nat) := [(0, 3)]
def B_X6_kindOf : Bk := [(0, [.aload 0, .getfield 6032, .iload 1, .iconst (16), .imul, .iload 2, .iadd, .iaload, .ireturn], 12)]
theorem k_X6_kindOf : chkB T_X6_kindOf cX6_kindOf B_X6_kindOf = true := by decide +kernel
theorem cw_X6_kindOf : calW Y_X6_kindOf := ⟨pn_X6, Or.inr (Or.inl ⟨rfl, rfl⟩), w_391, w_2, mh_X6, by decide⟩
theorem cl_X6_kindOf {o : OM} {Y : Pk} {d d2 idx : Nat} {C : Ctr} (hS : Sound o Y_X6_kindOf d2 C) (hd : d2 + 1 ≤ d) (hl : Cond.methodLink (yN Y).cls idx yX6_kindOf ∈ wsG ∨ ∃ host, Cond.methodLinkNest (yN Y).cls idx yX6_kindOf host ∈ nestW) : CallOK o Y d (.invokevirtual idx) (3, rcv 6 3 C) := callV_ok hS hd cw_X6_kindOf hl w_390 wp_5 (Or.inl ⟨TX6, 6, rfl⟩) (by decide +kernel)
def Y_X6_thicknessOf : Pk := (yX6_thicknessOf, cX6_thicknessOf, 3, some .int, 1)
def T_X6_thicknessOf : Tb := ([(25, 6042)], [], [], [], [], [], 3)
def V_X6_thicknessOf : List (Nat × Nat) := [(0, 3)]
def B_X6_thicknessOf : Bk := [(0, [.aload 0, .getfield 6042, .iload 1, .iconst (16), .imul, .iload 2, .iadd, .iaload, .ireturn], 12)]
theorem k_X6_thicknessOf : chkB T_X6_thicknessOf cX6_thicknessOf B_X6_thicknessOf = true := by decide +kernel
theorem cw_X6_thicknessOf : calW Y_X6_thicknessOf := ⟨pn_X6, Or.inr (Or.inl ⟨rfl, rfl⟩), w_429, w_2, mh_X6, by decide⟩
theorem cl_X6_thicknessOf {o : OM} {Y : Pk} {d d2 idx : Nat} {C : Ctr} (hS : Sound o Y_X6_thicknessOf d2 C) (hd : d2 + 1 ≤ d) (hl : Cond.methodLink (yN Y).cls idx yX6_thicknessOf ∈ wsG ∨ ∃ host, Cond.methodLinkNest (yN Y).cls idx yX6_thicknessOf host ∈ nestW) : CallOK o Y d (.invokevirtual idx) (3, rcv 6 3 C) := callV_ok hS hd cw_X6_thicknessOf hl w_428 wp_12 (Or.inl ⟨TX6, 6, rfl⟩) (by decide +kernel)
def Y_X6_nOf : Pk := (yX6_nOf, cX6_nOf, 3, some .int, 1)
def T_X6_nOf : Tb := ([(28, 6052)], [], [], [], [], [], 3)
def V_X6_nOf : List (Nat × Nat) := [(0, 3)]
def B_X6_nOf : Bk := [(0, [.aload 0, .getfield 6052, .iload 1, .iconst (16), .imul, .iload 2, .iadd, .iaload, .ireturn], 12)]
theorem k_X6_nOf : chkB T_X6_nOf cX6_nOf B_X6_nOf = true := by decide +kernel
theorem cw_X6_nOf : calW Y_X6_nOf := ⟨pn_X6, Or.inr (Or.inl ⟨rfl, rfl⟩), w_415, w_2, mh_X6, by decide⟩
theorem cl_X6_nOf {o : OM} {Y : Pk} {d d2 idx : Nat} {C : Ctr} (hS : Sound o Y_X6_nOf d2 C) (hd : d2 + 1 ≤ d) (hl : Cond.methodLink (yN Y).cls idx yX6_nOf ∈ wsG ∨ ∃ host, Cond.methodLinkNest (yN Y).cls idx yX6_nOf host ∈ nestW) : CallOK o Y d (.invokevirtual idx) (3, rcv 6 3 C) := callV_ok hS hd cw_X6_nOf hl w_414 wp_9 (Or.inl ⟨TX6, 6, rfl⟩) (by decide +kernel)
def Y_X6_leavesOfAll : Pk := (yX6_leavesOfAll, cX6_leavesOfAll, 3, some .int, 1)
def T_X6_leavesOfAll : Tb := ([(9, 6000), (19, 6022)], [], [], [], [], [], 3)
def V_X6_leavesOfAll : List (Nat × Nat) := [(0, 1), (4, 3), (27, 3)]
def B_X6_leavesOfAll : Bk := [(0, [.iconst (0), .istore 1, .iconst (0), .istore 2], 4), (4, [.iload 2, .aload 0, .getfield 6000, .if_icmp .ge 27, .iload 1, .aload 0, .getfield 6022, .iload 2, .iaload, .iadd, .istore 1, .iinc 2 1, .goto 4], 27), (27, [.iload 1, .ireturn], 29)]
theorem k_X6_leavesOfAll : chkB T_X6_leavesOfAll cX6_leavesOfAll B_X6_leavesOfAll = true := by decide +kernel
theorem cw_X6_leavesOfAll : calW Y_X6_leavesOfAll := ⟨pn_X6, Or.inr (Or.inl ⟨rfl, rfl⟩), w_1050, w_2, mh_X6, by decide⟩
theorem cl_X6_leavesOfAll {o : OM} {Y : Pk} {d d2 idx : Nat} {C : Ctr} (hS : Sound o Y_X6_leavesOfAll d2 C) (hd : d2 + 1 ≤ d) (hl : Cond.methodLink (yN Y).cls idx yX6_leavesOfAll ∈ wsG ∨ ∃ host, Cond.methodLinkNest (yN Y).cls idx yX6_leavesOfAll host ∈ nestW) : CallOK o Y d (.invokevirtual idx) (1, rcv 6 3 C) := callV_ok hS hd cw_X6_leavesOfAll hl w_1049 wp_84 (Or.inl ⟨TX6, 6, rfl⟩) (by decide +kernel)
def Y_X7_turnedPlace : Pk := (yX7_turnedPlace, cX7_turnedPlace, 3, some .int, 1)
def T_X7_turnedPlace : Tb := ([], [], [], [], [], [], 3)
def V_X7_turnedPlace : List (Nat × Nat) := [(0, 3), (13, 3), (18, 3)]
def B_X7_turnedPlace : Bk := [(0, [.iload 0, .iload 1, .iadd, .iload 2, .if_icmp .ge 13, .iload 0, .iload 1, .iadd, .goto 18], 13), (13, [.iload 0, .iload 1, .iadd, .iload 2, .isub], 18), (18, [.ireturn], 19)]
theorem k_X7_turnedPlace : chkB T_X7_turnedPlace cX7_turnedPlace B_X7_turnedPlace = true := by decide +kernel
theorem cw_X7_turnedPlace : calW Y_X7_turnedPlace := ⟨pn_X7, Or.inr (Or.inl ⟨rfl, rfl⟩), w_643, w_8, mh_X7, by decide⟩
theorem cl_X7_turnedPlace {o : OM} {Y : Pk} {d d2 idx : Nat} {C : Ctr} (hS : Sound o Y_X7_turnedPlace d2 C) (hd : d2 + 1 ≤ d) (hl : Cond.methodLink (yN Y).cls idx yX7_turnedPlace ∈ wsG ∨ ∃ host, Cond.methodLinkNest (yN Y).cls idx yX7_turnedPlace host ∈ nestW) : CallOK o Y d (.invokestatic idx) (3, arg 3 C) := callS_ok hS hd cw_X7_turnedPlace hl w_642 (by decide +kernel)
def Y_X8_blank : Pk := (yX8_blank, cX8_blank, 2, some .int, 1)
def T_X8_blank : Tb := ([(36, 8052), (151, 4000)], [], [], [], [], [], 2)
def V_X8_blank : List (Nat × Nat) := [(0, 1)]
def B_X8_blank : Bk := [(0, [.aload 0, .getfield 8052, .getfield 4000, .istore 1, .aload 0, .getfield 8052, .iconst (0), .putfield 4000, .iload 1, .ireturn], 18)]
theorem k_X8_blank : chkB T_X8_blank cX8_blank B_X8_blank = true := by decide +kernel
theorem cw_X8_blank : calW Y_X8_blank := ⟨pn_X8, Or.inr (Or.inl ⟨rfl, rfl⟩), w_475, w_1, mh_X8, by decide⟩
theorem cl_X8_blank {o : OM} {Y : Pk} {d d2 idx : Nat} {C : Ctr} (hS : Sound o Y_X8_blank d2 C) (hd : d2 + 1 ≤ d) (hl : Cond.methodLink (yN Y).cls idx yX8_blank ∈ wsG ∨ ∃ host, Cond.methodLinkNest (yN Y).cls idx yX8_blank host ∈ nestW) : CallOK o Y d (.invokevirtual idx) (1, rcv 8 2 C) := callV_ok hS hd cw_X8_blank hl w_473 w_474 (Or.inl ⟨TX8, 13, rfl⟩) (by decide +kernel)
def Y_X8_isWithin : Pk := (yX8_isWithin, cX8_isWithin, 3, some .boolean, 2)
def T_X8_isWithin : Tb := ([], [], [], [], [], [], 3)
def V_X8_isWithin : List (Nat × Nat) := [(0, 3), (14, 3), (15, 3)]
def B_X8_isWithin : Bk := [(0, [.iload 0, .iload 1, .if_icmp .lt 14, .iload 0, .iload 2, .if_icmp .gt 14, .iconst (1), .goto 15], 14), (14, [.iconst (0)], 15), (15, [.ireturn], 16)]
theorem k_X8_isWithin : chkB T_X8_isWithin cX8_isWithin B_X8_isWithin = true := by decide +kernel
theorem cw_X8_isWithin : calW Y_X8_isWithin := ⟨pn_X8, Or.inr (Or.inr (Or.inl ⟨rfl, rfl⟩)), w_355, w_1, mh_X8, by decide⟩
theorem cl_X8_isWithin {o : OM} {Y : Pk} {d d2 idx : Nat} {C : Ctr} (hS : Sound o Y_X8_isWithin d2 C) (hd : d2 + 1 ≤ d) (hl : Cond.methodLink (yN Y).cls idx yX8_isWithin ∈ wsG ∨ ∃ host, Cond.methodLinkNest (yN Y).cls idx yX8_isWithin host ∈ nestW) : CallOK o Y d (.invokestatic idx) (3, arg 3 C) := callS_ok hS hd cw_X8_isWithin hl w_354 (by decide +kernel)
def Y_X8_isOfKind : Pk := (yX8_isOfKind, cX8_isOfKind, 2, some .boolean, 2)
def T_X8_isOfKind : Tb := ([], [], [], [], [], [], 2)
def V_X8_isOfKind : List (Nat × Nat) := [(0, 2), (19, 2), (30, 2), (34, 2), (35, 2)]
def B_X8_isOfKind : Bk := [(0, [.iload 1, .iload 0, .if_icmp .eq 30, .iload 1, .ifCond .eq 30, .iload 0, .iconst (5), .if_icmp .ne 19, .iload 1, .iconst (1), .if_icmp .eq 30], 19), (19, [.iload 0, .iconst (4), .if_icmp .ne 34, .iload 1, .iconst (6), .if_icmp .ne 34], 30), (30, [.iconst (1), .goto 35], 34), (34, [.iconst (0)], 35), (35, [.ireturn], 36)]
theorem k_X8_isOfKind : chkB T_X8_isOfKind cX8_isOfKind B_X8_isOfKind = true := by decide +kernel
theorem cw_X8_isOfKind : calW Y_X8_isOfKind := ⟨pn_X8, Or.inr (Or.inr (Or.inl ⟨rfl, rfl⟩)), w_394, w_1, mh_X8, by decide⟩
theorem cl_X8_isOfKind {o : OM} {Y : Pk} {d d2 idx : Nat} {C : Ctr} (hS : Sound o Y_X8_isOfKind d2 C) (hd : d2 + 1 ≤ d) (hl : Cond.methodLink (yN Y).cls idx yX8_isOfKind ∈ wsG ∨ ∃ host, Cond.methodLinkNest (yN Y).cls idx yX8_isOfKind host ∈ nestW) : CallOK o Y d (.invokestatic idx) (2, arg 2 C) := callS_ok hS hd cw_X8_isOfKind hl w_393 (by decide +kernel)
def Y_X8_asNumber : Pk := (yX8_asNumber, cX8_asNumber, 1, some .int, 1)
def T_X8_asNumber : Tb := ([], [], [], [], [], [], 1)
def V_X8_asNumber : List (Nat × Nat) := [(0, 1), (8, 1), (9, 1)]
def B_X8_asNumber : Bk := [(0, [.iload 0, .ifCond .eq 8, .iconst (1), .goto 9], 8), (8, [.iconst (0)], 9), (9, [.ireturn], 10)]
theorem k_X8_asNumber : chkB T_X8_asNumber cX8_asNumber B_X8_asNumber = true := by decide +kernel
theorem cw_X8_asNumber : calW Y_X8_asNumber := ⟨pn_X8, Or.inr (Or.inl ⟨rfl, rfl⟩), w_733, w_1, mh_X8, by decide⟩
theorem cl_X8_asNumber {o : OM} {Y : Pk} {d d2 idx : Nat} {C : Ctr} (hS : Sound o Y_X8_asNumber d2 C) (hd : d2 + 1 ≤ d) (hl : Cond.methodLink (yN Y).cls idx yX8_asNumber ∈ wsG ∨ ∃ host, Cond.methodLinkNest (yN Y).cls idx yX8_asNumber host ∈ nestW) : CallOK o Y d (.invokestatic idx) (1, arg 1 C) := callS_ok hS hd cw_X8_asNumber hl w_732 (by decide +kernel)
def Y_X8_fold : Pk := (yX8_fold, cX8_fold, 4, some .long, 3)
def T_X8_fold : Tb := ([], [], [(370, 31)], [], [], [], 4)
def V_X8_fold : List (Nat × Nat) := [(0, 4)]
def B_X8_fold : Bk := [(0, [.jsr (31), .lload 0, .lmul, .lload 2, .ladd, .lreturn], 8)]
theorem k_X8_fold : chkB T_X8_fold cX8_fold B_X8_fold = true := by decide +kernel
theorem cw_X8_fold : calW Y_X8_fold := ⟨pn_X8, Or.inr (Or.inr (Or.inr (Or.inl ⟨rfl, rfl⟩))), w_1063, w_1, mh_X8, by decide⟩
theorem cl_X8_fold {o : OM} {Y : Pk} {d d2 idx : Nat} {C : Ctr} (hS : Sound o Y_X8_fold d2 C) (hd : d2 + 1 ≤ d) (hl : Cond.methodLink (yN Y).cls idx yX8_fold ∈ wsG ∨ ∃ host, Cond.methodLinkNest (yN Y).cls idx yX8_fold host ∈ nestW) : CallOK o Y d (.invokestatic idx) (2, arg 4 C) := callS_ok hS hd cw_X8_fold hl w_1062 (by decide +kernel)
def Y_X8_seedAfter : Pk := (yX8_seedAfter, cX8_seedAfter, 2, some .long, 3)
def T_X8_seedAfter : Tb := ([], [], [(372, 1103515245), (374, 12345), (376, 2147483647)], [], [], [], 2)
def V_X8_seedAfter : List (Nat × Nat) := [(0, 2)]
def B_X8_seedAfter : Bk := [(0, [.jsr (1103515245), .lload 0, .lmul, .jsr (12345), .ladd, .jsr (2147483647), .land, .lreturn], 14)]
theorem k_X8_seedAfter : chkB T_X8_seedAfter cX8_seedAfter B_X8_seedAfter = true := by decide +kernel
theorem cw_X8_seedAfter : calW Y_X8_seedAfter := ⟨pn_X8, Or.inr (Or.inr (Or.inr (Or.inl ⟨rfl, rfl⟩))), w_450, w_1, mh_X8, by decide⟩
theorem cl_X8_seedAfter {o : OM} {Y : Pk} {d d2 idx : Nat} {C : Ctr} (hS : Sound o Y_X8_seedAfter d2 C) (hd : d2 + 1 ≤ d) (hl : Cond.methodLink (yN Y).cls idx yX8_seedAfter ∈ wsG ∨ ∃ host, Cond.methodLinkNest (yN Y).cls idx yX8_seedAfter host ∈ nestW) : CallOK o Y d (.invokestatic idx) (1, arg 2 C) := callS_ok hS hd cw_X8_seedAfter hl w_449 (by decide +kernel)
def Y_X8_drawn : Pk := (yX8_drawn, cX8_drawn, 3, some .int, 1)
def T_X8_drawn : Tb := ([], [], [(378, 65536)], [], [], [], 3)
def V_X8_drawn : List (Nat × Nat) := [(0, 3), (8, 3), (17, 3)]
def B_X8_drawn : Bk := [(0, [.iload 2, .ifCond .gt 8, .iconst (0), .goto 17], 8), (8, [.lload 0, .jsr (65536), .ldiv, .iload 2, .i2l, .lrem, .l2i], 17), (17, [.ireturn], 18)]
theorem k_X8_drawn : chkB T_X8_drawn cX8_drawn B_X8_drawn = true := by decide +kernel
theorem cw_X8_drawn : calW Y_X8_drawn := ⟨pn_X8, Or.inr (Or.inl ⟨rfl, rfl⟩), w_456, w_1, mh_X8, by decide⟩
theorem cl_X8_drawn {o : OM} {Y : Pk} {d d2 idx : Nat} {C : Ctr} (hS : Sound o Y_X8_drawn d2 C) (hd : d2 + 1 ≤ d) (hl : Cond.methodLink (yN Y).cls idx yX8_drawn ∈ wsG ∨ ∃ host, Cond.methodLinkNest (yN Y).cls idx yX8_drawn host ∈ nestW) : CallOK o Y d (.invokestatic idx) (2, arg 3 C) := callS_ok hS hd cw_X8_drawn hl w_455 (by decide +kernel)
def Y_X8_byteOf : Pk := (yX8_byteOf, cX8_byteOf, 3, some .int, 1)
def T_X8_byteOf : Tb := ([], [], [], [], [], [], 3)
def V_X8_byteOf : List (Nat × Nat) := [(0, 3)]
def B_X8_byteOf : Bk := [(0, [.lload 0, .iconst (8), .iload 2, .imul, .lushr, .l2i, .iconst (255), .iand, .ireturn], 12)]
theorem k_X8_byteOf : chkB T_X8_byteOf cX8_byteOf B_X8_byteOf = true := by decide +kernel
theorem cw_X8_byteOf : calW Y_X8_byteOf := ⟨pn_X8, Or.inr (Or.inl ⟨rfl, rfl⟩), w_467, w_1, mh_X8, by decide⟩
theorem cl_X8_byteOf {o : OM} {Y : Pk} {d d2 idx : Nat} {C : Ctr} (hS : Sound o Y_X8_byteOf d2 C) (hd : d2 + 1 ≤ d) (hl : Cond.methodLink (yN Y).cls idx yX8_byteOf ∈ wsG ∨ ∃ host, Cond.methodLinkNest (yN Y).cls idx yX8_byteOf host ∈ nestW) : CallOK o Y d (.invokestatic idx) (2, arg 3 C) := callS_ok hS hd cw_X8_byteOf hl w_466 (by decide +kernel)
def Y_X8_partInLowestTerms : Pk := (yX8_partInLowestTerms, cX8_partInLowestTerms, 7, some .int, 1)
def T_X8_partInLowestTerms : Tb := ([], [], [], [], [], [], 7)
def V_X8_partInLowestTerms : List (Nat × Nat) := [(0, 3), (8, 6), (39, 6), (47, 6), (48, 6), (59, 6), (63, 6)]
def B_X8_partInLowestTerms : Bk := [(0, [.iload 0, .istore 3, .iload 1, .istore 4, .iconst (0), .istore 5], 8), (8, [.iload 5, .iconst (64), .if_icmp .ge 39, .iload 4, .ifCond .eq 39, .iload 3, .iload 4, .irem, .istore 6, .iload 4, .istore 3, .iload 6, .istore 4, .iinc 5 1, .goto 8], 39), (39, [.iload 2, .ifCond .ne 47, .iload 0, .goto 48], 47), (47, [.iload 1], 48), (48, [.istore 5, .iload 3, .ifCond .ne 59, .iload 5, .goto 63], 59), (59, [.iload 5, .iload 3, .idiv], 63), (63, [.ireturn], 64)]
theorem k_X8_partInLowestTerms : chkB T_X8_partInLowestTerms cX8_partInLowestTerms B_X8_partInLowestTerms = true := by decide +kernel
theorem cw_X8_partInLowestTerms : calW Y_X8_partInLowestTerms := ⟨pn_X8, Or.inr (Or.inl ⟨rfl, rfl⟩), w_676, w_1, mh_X8, by decide⟩
theorem cl_X8_partInLowestTerms {o : OM} {Y : Pk} {d d2 idx : Nat} {C : Ctr} (hS : Sound o Y_X8_partInLowestTerms d2 C) (hd : d2 + 1 ≤ d) (hl : Cond.methodLink (yN Y).cls idx yX8_partInLowestTerms ∈ wsG ∨ ∃ host, Cond.methodLinkNest (yN Y).cls idx yX8_partInLowestTerms host ∈ nestW) : CallOK o Y d (.invokestatic idx) (3, arg 7 C) := callS_ok hS hd cw_X8_partInLowestTerms hl w_675 (by decide +kernel)
def Y_X9_in : Pk := (yX9_in, cX9_in, 6, some .boolean, 2)
def T_X9_in : Tb := ([], [], [], [], [], [], 6)
def V_X9_in : List (Nat × Nat) := [(0, 6), (17, 6), (18, 6)]
def B_X9_in : Bk := [(0, [.lload 0, .lload 2, .lcmp, .ifCond .lt 17, .lload 0, .lload 4, .lcmp, .ifCond .gt 17, .iconst (1), .goto 18], 17), (17, [.iconst (0)], 18), (18, [.ireturn], 19)]
theorem k_X9_in : chkB T_X9_in cX9_in B_X9_in = true := by decide +kernel
theorem cw_X9_in : calW Y_X9_in := ⟨pn_X9, Or.inr (Or.inr (Or.inl ⟨rfl, rfl⟩)), w_1262, w_11, mh_X9, by decide⟩
theorem cl_X9_in {o : OM} {Y : Pk} {d d2 idx : Nat} {C : Ctr} (hS : Sound o Y_X9_in d2 C) (hd : d2 + 1 ≤ d) (hl : Cond.methodLink (yN Y).cls idx yX9_in ∈ wsG ∨ ∃ host, Cond.methodLinkNest (yN Y).cls idx yX9_in host ∈ nestW) : CallOK o Y d (.invokestatic idx) (3, arg 6 C) := callS_ok hS hd cw_X9_in hl w_1261 (by decide +kernel)
def Y_X9_size : Pk := (yX9_size, cX9_size, 1, some .int, 1)
def T_X9_size : Tb := ([], [], [], [], [], [], 1)
def V_X9_size : List (Nat × Nat) := [(0, 1), (9, 1), (10, 1)]
def B_X9_size : Bk := [(0, [.iload 0, .ifCond .ge 9, .iload 0, .ineg, .goto 10], 9), (9, [.iload 0], 10), (10, [.ireturn], 11)]
theorem k_X9_size : chkB T_X9_size cX9_size B_X9_size = true := by decide +kernel
theorem cw_X9_size : calW Y_X9_size := ⟨pn_X9, Or.inr (Or.inl ⟨rfl, rfl⟩), w_1470, w_11, mh_X9, by decide⟩
theorem cl_X9_size {o : OM} {Y : Pk} {d d2 idx : Nat} {C : Ctr} (hS : Sound o Y_X9_size d2 C) (hd : d2 + 1 ≤ d) (hl : Cond.methodLink (yN Y).cls idx yX9_size ∈ wsG ∨ ∃ host, Cond.methodLinkNest (yN Y).cls idx yX9_size host ∈ nestW) : CallOK o Y d (.invokestatic idx) (1, arg 1 C) := callS_ok hS hd cw_X9_size hl w_1469 (by decide +kernel)
def Y_X9_put : Pk := (yX9_put, cX9_put, 6, none, 0)
def T_X9_put : Tb := ([(16, 9032), (19, 9042), (22, 9052)], [], [], [], [], [], 6)
def V_X9_put : List (Nat × Nat) := [(0, 6)]
def B_X9_put : Bk := [(0, [.aload 0, .getfield 9032, .iconst (16), .iload 1, .imul, .iload 2, .iadd, .iload 3, .iastore, .aload 0, .getfield 9042, .iconst (16), .iload 1, .imul, .iload 2, .iadd, .iload 4, .iastore, .aload 0, .getfield 9052, .iconst (16), .iload 1, .imul, .iload 2, .iadd, .iload 5, .iastore, .return_], 39)]
theorem k_X9_put : chkB T_X9_put cX9_put B_X9_put = true := by decide +kernel
theorem cw_X9_put : calW Y_X9_put := ⟨pn_X9, Or.inl ⟨rfl, rfl⟩, w_1280, w_11, mh_X9, by decide⟩
theorem cl_X9_put {o : OM} {Y : Pk} {d d2 idx : Nat} {C : Ctr} (hS : Sound o Y_X9_put d2 C) (hd : d2 + 1 ≤ d) (hl : Cond.methodLink (yN Y).cls idx yX9_put ∈ wsG ∨ ∃ host, Cond.methodLinkNest (yN Y).cls idx yX9_put host ∈ nestW) : CallOK o Y d (.invokevirtual idx) (6, rcv 9 6 C) := callV_ok hS hd cw_X9_put hl w_1279 wp_90 (Or.inl ⟨TX9, 55, rfl⟩) (by decide +kernel)
def Y_X9_compare : Pk := (yX9_compare, cX9_compare, 2, some .int, 1)
def T_X9_compare : Tb := ([], [], [], [], [], [], 2)
def V_X9_compare : List (Nat × Nat) := [(0, 2), (9, 2), (18, 2), (19, 2)]
def B_X9_compare : Bk := [(0, [.iload 0, .iload 1, .if_icmp .le 9, .iconst (1), .goto 19], 9), (9, [.iload 0, .iload 1, .if_icmp .ge 18, .iconst (-1), .goto 19], 18), (18, [.iconst (0)], 19), (19, [.ireturn], 20)]
theorem k_X9_compare : chkB T_X9_compare cX9_compare B_X9_compare = true := by decide +kernel
theorem cw_X9_compare : calW Y_X9_compare := ⟨pn_X9, Or.inr (Or.inl ⟨rfl, rfl⟩), w_1313, w_11, mh_X9, by decide⟩
theorem cl_X9_compare {o : OM} {Y : Pk} {d d2 idx : Nat} {C : Ctr} (hS : Sound o Y_X9_compare d2 C) (hd : d2 + 1 ≤ d) (hl : Cond.methodLink (yN Y).cls idx yX9_compare ∈ wsG ∨ ∃ host, Cond.methodLinkNest (yN Y).cls idx yX9_compare host ∈ nestW) : CallOK o Y d (.invokestatic idx) (2, arg 2 C) := callS_ok hS hd cw_X9_compare hl w_1312 (by decide +kernel)
def Y_X9_draw : Pk := (yX9_draw, cX9_draw, 2, some .int, 1)
def T_X9_draw : Tb := ([(156, 9060)], [(163, 65536)], [(154, 1103515245), (159, 12345), (161, 2147483647)], [], [], [], 2)
def V_X9_draw : List (Nat × Nat) := [(0, 2)]
def B_X9_draw : Bk := [(0, [.aload 0, .jsr (1103515245), .aload 0, .getfield 9060, .i2l, .lmul, .jsr (12345), .ladd, .jsr (2147483647), .land, .l2i, .putfield 9060, .aload 0, .getfield 9060, .iconst (65536), .idiv, .iload 1, .irem, .ireturn], 32)]
theorem k_X9_draw : chkB T_X9_draw cX9_draw B_X9_draw = true := by decide +kernel
theorem cw_X9_draw : calW Y_X9_draw := ⟨pn_X9, Or.inr (Or.inl ⟨rfl, rfl⟩), w_1326, w_11, mh_X9, by decide⟩
theorem cl_X9_draw {o : OM} {Y : Pk} {d d2 idx : Nat} {C : Ctr} (hS : Sound o Y_X9_draw d2 C) (hd : d2 + 1 ≤ d) (hl : Cond.methodLink (yN Y).cls idx yX9_draw ∈ wsG ∨ ∃ host, Cond.methodLinkNest (yN Y).cls idx yX9_draw host ∈ nestW) : CallOK o Y d (.invokevirtual idx) (2, rcv 9 2 C) := callV_ok hS hd cw_X9_draw hl w_1325 wp_96 (Or.inl ⟨TX9, 55, rfl⟩) (by decide +kernel)
def Y_X9_letters : Pk := (yX9_letters, cX9_letters, 9, some .int, 1)
def T_X9_letters : Tb := ([(176, 9080), (25, 9072)], [], [(174, 255)], [], [], [], 9)
def V_X9_letters : List (Nat × Nat) := [(0, 3), (11, 8), (57, 9), (61, 9), (62, 9), (74, 9), (75, 9), (83, 8), (91, 8), (105, 8), (108, 8), (151, 8)]
def B_X9_letters : Bk := [(0, [.iconst (0), .istore 3, .iconst (1), .istore 4, .lload 1, .lstore 5, .iconst (0), .istore 7], 11), (11, [.iload 7, .iconst (8), .if_icmp .ge 83, .lload 5, .jsr (255), .land, .l2i, .istore 8, .lload 5, .iconst (8), .lushr, .lstore 5, .iload 4, .ifCond .eq 61, .iload 8, .iconst (126), .if_icmp .gt 61, .iload 8, .ifCond .eq 57, .iload 3, .iload 7, .if_icmp .ne 61], 57), (57, [.iconst (1), .goto 62], 61), (61, [.iconst (0)], 62), (62, [.istore 4, .iload 3, .iload 8, .ifCond .le 74, .iconst (1), .goto 75], 74), (74, [.iconst (0)], 75), (75, [.iadd, .istore 3, .iinc 7 1, .goto 11], 83), (83, [.iload 4, .ifCond .ne 91, .iconst (-102), .ireturn], 91), (91, [.aload 0, .getfield 9080, .iload 3, .iadd, .iconst (30), .if_icmp .le 105, .iconst (-104), .ireturn], 105), (105, [.iconst (0), .istore 7], 108), (108, [.iload 7, .iload 3, .if_icmp .ge 151, .aload 0, .getfield 9072, .aload 0, .getfield 9080, .lload 1, .iconst (8), .iload 7, .imul, .lushr, .jsr (255), .land, .l2i, .iastore, .aload 0, .dup, .getfield 9080, .iconst (1), .iadd, .putfield 9080, .iinc 7 1, .goto 108], 151), (151, [.aload 0, .getfield 9080, .ireturn], 156)]
theorem k_X9_letters : chkB T_X9_letters cX9_letters B_X9_letters = true := by decide +kernel
theorem cw_X9_letters : calW Y_X9_letters := ⟨pn_X9, Or.inr (Or.inl ⟨rfl, rfl⟩), w_1338, w_11, mh_X9, by decide⟩
theorem cl_X9_letters {o : OM} {Y : Pk} {d d2 idx : Nat} {C : Ctr} (hS : Sound o Y_X9_letters d2 C) (hd : d2 + 1 ≤ d) (hl : Cond.methodLink (yN Y).cls idx yX9_letters ∈ wsG ∨ ∃ host, Cond.methodLinkNest (yN Y).cls idx yX9_letters host ∈ nestW) : CallOK o Y d (.invokevirtual idx) (2, rcv 9 9 C) := callV_ok hS hd cw_X9_letters hl w_1336 w_1337 (Or.inl ⟨TX9, 55, rfl⟩) (by decide +kernel)
def Y_X9_blank : Pk := (yX9_blank, cX9_blank, 2, some .int, 1)
def T_X9_blank : Tb := ([(176, 9080)], [], [], [], [], [], 2)
def V_X9_blank : List (Nat × Nat) := [(0, 1)]
def B_X9_blank : Bk := [(0, [.aload 0, .getfield 9080, .istore 1, .aload 0, .iconst (0), .putfield 9080, .iload 1, .ireturn], 12)]
theorem k_X9_blank : chkB T_X9_blank cX9_blank B_X9_blank = true := by decide +kernel
theorem cw_X9_blank : calW Y_X9_blank := ⟨pn_X9, Or.inr (Or.inl ⟨rfl, rfl⟩), w_1343, w_11, mh_X9, by decide⟩
theorem cl_X9_blank {o : OM} {Y : Pk} {d d2 idx : Nat} {C : Ctr} (hS : Sound o Y_X9_blank d2 C) (hd : d2 + 1 ≤ d) (hl : Cond.methodLink (yN Y).cls idx yX9_blank ∈ wsG ∨ ∃ host, Cond.methodLinkNest (yN Y).cls idx yX9_blank host ∈ nestW) : CallOK o Y d (.invokevirtual idx) (1, rcv 9 2 C) := callV_ok hS hd cw_X9_blank hl w_1341 w_1342 (Or.inl ⟨TX9, 55, rfl⟩) (by decide +kernel)
def Y_X9_handLetter : Pk := (yX9_handLetter, cX9_handLetter, 1, some .int, 1)
def T_X9_handLetter : Tb := ([], [], [], [], [], [], 1)
def V_X9_handLetter : List (Nat × Nat) := [(0, 1), (10, 1), (20, 1), (30, 1), (40, 1), (50, 1), (60, 1), (71, 1), (72, 1)]
def B_X9_handLetter : Bk := [(0, [.iload 0, .iconst (108), .if_icmp .ne 10, .iconst (0), .goto 72], 10), (10, [.iload 0, .iconst (119), .if_icmp .ne 20, .iconst (1), .goto 72], 20), (20, [.iload 0, .iconst (110), .if_icmp .ne 30, .iconst (2), .goto 72], 30), (30, [.iload 0, .iconst (104), .if_icmp .ne 40, .iconst (3), .goto 72], 40), (40, [.iload 0, .iconst (102), .if_icmp .ne 50, .iconst (4), .goto 72], 50), (50, [.iload 0, .iconst (97), .if_icmp .ne 60, .iconst (5), .goto 72], 60), (60, [.iload 0, .iconst (115), .if_icmp .ne 71, .iconst (6), .goto 72], 71), (71, [.iconst (-1)], 72), (72, [.ireturn], 73)]
theorem k_X9_handLetter : chkB T_X9_handLetter cX9_handLetter B_X9_handLetter = true := by decide +kernel
theorem cw_X9_handLetter : calW Y_X9_handLetter := ⟨pn_X9, Or.inr (Or.inl ⟨rfl, rfl⟩), w_1358, w_11, mh_X9, by decide⟩
theorem cl_X9_handLetter {o : OM} {Y : Pk} {d d2 idx : Nat} {C : Ctr} (hS : Sound o Y_X9_handLetter d2 C) (hd : d2 + 1 ≤ d) (hl : Cond.methodLink (yN Y).cls idx yX9_handLetter ∈ wsG ∨ ∃ host, Cond.methodLinkNest (yN Y).cls idx yX9_handLetter host ∈ nestW) : CallOK o Y d (.invokestatic idx) (1, arg 1 C) := callS_ok hS hd cw_X9_handLetter hl w_1357 (by decide +kernel)
def Y_X9_lawLetter : Pk := (yX9_lawLetter, cX9_lawLetter, 1, some .int, 1)
def T_X9_lawLetter : Tb := ([], [], [], [], [], [], 1)
def V_X9_lawLetter : List (Nat × Nat) := [(0, 1), (10, 1), (20, 1), (30, 1), (40, 1), (41, 1)]
def B_X9_lawLetter : Bk := [(0, [.iload 0, .iconst (108), .if_icmp .ne 10, .iconst (0), .goto 41], 10), (10, [.iload 0, .iconst (100), .if_icmp .ne 20, .iconst (1), .goto 41], 20), (20, [.iload 0, .iconst (117), .if_icmp .ne 30, .iconst (2), .goto 41], 30), (30, [.iload 0, .iconst (97), .if_icmp .ne 40, .iconst (3), .goto 41], 40), (40, [.iconst (-1)], 41), (41, [.ireturn], 42)]
theorem k_X9_lawLetter : chkB T_X9_lawLetter cX9_lawLetter B_X9_lawLetter = true := by decide +kernel
theorem cw_X9_lawLetter : calW Y_X9_lawLetter := ⟨pn_X9, Or.inr (Or.inl ⟨rfl, rfl⟩), w_1361, w_11, mh_X9, by decide⟩
theorem cl_X9_lawLetter {o : OM} {Y : Pk} {d d2 idx : Nat} {C : Ctr} (hS : Sound o Y_X9_lawLetter d2 C) (hd : d2 + 1 ≤ d) (hl : Cond.methodLink (yN Y).cls idx yX9_lawLetter ∈ wsG ∨ ∃ host, Cond.methodLinkNest (yN Y).cls idx yX9_lawLetter host ∈ nestW) : CallOK o Y d (.invokestatic idx) (1, arg 1 C) := callS_ok hS hd cw_X9_lawLetter hl w_1360 (by decide +kernel)
def Y_X9_halvesOf : Pk := (yX9_halvesOf, cX9_halvesOf, 6, some .int, 1)
def T_X9_halvesOf : Tb := ([(16, 9032), (28, 9102), (22, 9052)], [], [], [], [], [], 6)
def V_X9_halvesOf : List (Nat × Nat) := [(0, 4), (22, 5), (34, 5), (45, 6), (55, 6), (77, 6), (88, 6), (89, 6)]
def B_X9_halvesOf : Bk := [(0, [.aload 0, .getfield 9032, .iconst (16), .iload 2, .imul, .iload 3, .iadd, .iaload, .istore 4, .iload 1, .iconst (-1), .if_icmp .ne 22, .iconst (-1), .goto 34], 22), (22, [.aload 0, .getfield 9102, .iconst (7), .iload 1, .imul, .iload 4, .iadd, .iaload], 34), (34, [.istore 5, .iload 5, .iconst (-1), .if_icmp .eq 45, .iload 5, .ireturn], 45), (45, [.iload 4, .iconst (3), .if_icmp .ne 55, .iconst (1), .goto 89], 55), (55, [.iload 4, .iconst (4), .if_icmp .ne 77, .iconst (2), .aload 0, .getfield 9052, .iconst (16), .iload 2, .imul, .iload 3, .iadd, .iaload, .imul, .goto 89], 77), (77, [.iload 4, .iconst (6), .if_icmp .ne 88, .iconst (0), .goto 89], 88), (88, [.iconst (2)], 89), (89, [.ireturn], 90)]
theorem k_X9_halvesOf : chkB T_X9_halvesOf cX9_halvesOf B_X9_halvesOf = true := by decide +kernel
theorem cw_X9_halvesOf : calW Y_X9_halvesOf := ⟨pn_X9, Or.inr (Or.inl ⟨rfl, rfl⟩), w_1306, w_11, mh_X9, by decide⟩
theorem cl_X9_halvesOf {o : OM} {Y : Pk} {d d2 idx : Nat} {C : Ctr} (hS : Sound o Y_X9_halvesOf d2 C) (hd : d2 + 1 ≤ d) (hl : Cond.methodLink (yN Y).cls idx yX9_halvesOf ∈ wsG ∨ ∃ host, Cond.methodLinkNest (yN Y).cls idx yX9_halvesOf host ∈ nestW) : CallOK o Y d (.invokevirtual idx) (4, rcv 9 6 C) := callV_ok hS hd cw_X9_halvesOf hl w_1305 wp_94 (Or.inl ⟨TX9, 55, rfl⟩) (by decide +kernel)
def Y_X9_turned : Pk := (yX9_turned, cX9_turned, 4, some .int, 1)
def T_X9_turned : Tb := ([(13, 9022)], [], [], [], [], [], 4)
def V_X9_turned : List (Nat × Nat) := [(0, 4)]
def B_X9_turned : Bk := [(0, [.iconst (16), .iload 1, .imul, .iload 2, .iload 3, .iadd, .aload 0, .getfield 9022, .iload 1, .iaload, .irem, .iadd, .ireturn], 16)]
theorem k_X9_turned : chkB T_X9_turned cX9_turned B_X9_turned = true := by decide +kernel
theorem cw_X9_turned : calW Y_X9_turned := ⟨pn_X9, Or.inr (Or.inl ⟨rfl, rfl⟩), w_1416, w_11, mh_X9, by decide⟩
theorem cl_X9_turned {o : OM} {Y : Pk} {d d2 idx : Nat} {C : Ctr} (hS : Sound o Y_X9_turned d2 C) (hd : d2 + 1 ≤ d) (hl : Cond.methodLink (yN Y).cls idx yX9_turned ∈ wsG ∨ ∃ host, Cond.methodLinkNest (yN Y).cls idx yX9_turned host ∈ nestW) : CallOK o Y d (.invokevirtual idx) (4, rcv 9 4 C) := callV_ok hS hd cw_X9_turned hl w_1415 wp_104 (Or.inl ⟨TX9, 55, rfl⟩) (by decide +kernel)
def Y_X9_common : Pk := (yX9_common, cX9_common, 5, some .int, 1)
def T_X9_common : Tb := ([], [], [], [], [], [], 5)
def V_X9_common : List (Nat × Nat) := [(0, 2), (4, 4), (21, 4)]
def B_X9_common : Bk := [(0, [.iload 0, .istore 2, .iload 1, .istore 3], 4), (4, [.iload 2, .ifCond .eq 21, .iload 3, .iload 2, .irem, .istore 4, .iload 2, .istore 3, .iload 4, .istore 2, .goto 4], 21), (21, [.iload 3, .ireturn], 23)]
theorem k_X9_common : chkB T_X9_common cX9_common B_X9_common = true := by decide +kernel
theorem cw_X9_common : calW Y_X9_common := ⟨pn_X9, Or.inr (Or.inl ⟨rfl, rfl⟩), w_1438, w_11, mh_X9, by decide⟩
theorem cl_X9_common {o : OM} {Y : Pk} {d d2 idx : Nat} {C : Ctr} (hS : Sound o Y_X9_common d2 C) (hd : d2 + 1 ≤ d) (hl : Cond.methodLink (yN Y).cls idx yX9_common ∈ wsG ∨ ∃ host, Cond.methodLinkNest (yN Y).cls idx yX9_common host ∈ nestW) : CallOK o Y d (.invokestatic idx) (2, arg 5 C) := callS_ok hS hd cw_X9_common hl w_1437 (by decide +kernel)
def Y_X9_wideA : Pk := (yX9_wideA, cX9_wideA, 1, some .int, 1)
def T_X9_wideA : Tb := ([], [], [], [], [], [], 1)
def V_X9_wideA : List (Nat × Nat) := [(0, 1), (9, 1), (18, 1), (19, 1)]
def B_X9_wideA : Bk := [(0, [.iload 0, .iconst (2), .if_icmp .ne 9, .iconst (0), .goto 19], 9), (9, [.iload 0, .iconst (4), .if_icmp .ne 18, .iconst (2), .goto 19], 18), (18, [.iconst (1)], 19), (19, [.ireturn], 20)]
theorem k_X9_wideA : chkB T_X9_wideA cX9_wideA B_X9_wideA = true := by decide +kernel
theorem cw_X9_wideA : calW Y_X9_wideA := ⟨pn_X9, Or.inr (Or.inl ⟨rfl, rfl⟩), w_1460, w_11, mh_X9, by decide⟩
theorem cl_X9_wideA {o : OM} {Y : Pk} {d d2 idx : Nat} {C : Ctr} (hS : Sound o Y_X9_wideA d2 C) (hd : d2 + 1 ≤ d) (hl : Cond.methodLink (yN Y).cls idx yX9_wideA ∈ wsG ∨ ∃ host, Cond.methodLinkNest (yN Y).cls idx yX9_wideA host ∈ nestW) : CallOK o Y d (.invokestatic idx) (1, arg 1 C) := callS_ok hS hd cw_X9_wideA hl w_1459 (by decide +kernel)
def Y_X9_wideB : Pk := (yX9_wideB, cX9_wideB, 1, some .int, 1)
def T_X9_wideB : Tb := ([], [], [], [], [], [], 1)
def V_X9_wideB : List (Nat × Nat) := [(0, 1), (9, 1), (18, 1), (19, 1)]
def B_X9_wideB : Bk := [(0, [.iload 0, .iconst (1), .if_icmp .ne 9, .iconst (0), .goto 19], 9), (9, [.iload 0, .iconst (3), .if_icmp .ne 18, .iconst (2), .goto 19], 18), (18, [.iconst (1)], 19), (19, [.ireturn], 20)]
theorem k_X9_wideB : chkB T_X9_wideB cX9_wideB B_X9_wideB = true := by decide +kernel
theorem cw_X9_wideB : calW Y_X9_wideB := ⟨pn_X9, Or.inr (Or.inl ⟨rfl, rfl⟩), w_1463, w_11, mh_X9, by decide⟩
theorem cl_X9_wideB {o : OM} {Y : Pk} {d d2 idx : Nat} {C : Ctr} (hS : Sound o Y_X9_wideB d2 C) (hd : d2 + 1 ≤ d) (hl : Cond.methodLink (yN Y).cls idx yX9_wideB ∈ wsG ∨ ∃ host, Cond.methodLinkNest (yN Y).cls idx yX9_wideB host ∈ nestW) : CallOK o Y d (.invokestatic idx) (1, arg 1 C) := callS_ok hS hd cw_X9_wideB hl w_1462 (by decide +kernel)
def Y_X9_ash : Pk := (yX9_ash, cX9_ash, 2, some .int, 1)
def T_X9_ash : Tb := ([(16, 9032)], [], [], [], [], [], 2)
def V_X9_ash : List (Nat × Nat) := [(0, 2), (14, 2), (15, 2)]
def B_X9_ash : Bk := [(0, [.aload 0, .getfield 9032, .iload 1, .iaload, .iconst (5), .if_icmp .ne 14, .iconst (1), .goto 15], 14), (14, [.iconst (0)], 15), (15, [.ireturn], 16)]
theorem k_X9_ash : chkB T_X9_ash cX9_ash B_X9_ash = true := by decide +kernel
theorem cw_X9_ash : calW Y_X9_ash := ⟨pn_X9, Or.inr (Or.inl ⟨rfl, rfl⟩), w_1467, w_11, mh_X9, by decide⟩
theorem cl_X9_ash {o : OM} {Y : Pk} {d d2 idx : Nat} {C : Ctr} (hS : Sound o Y_X9_ash d2 C) (hd : d2 + 1 ≤ d) (hl : Cond.methodLink (yN Y).cls idx yX9_ash ∈ wsG ∨ ∃ host, Cond.methodLinkNest (yN Y).cls idx yX9_ash host ∈ nestW) : CallOK o Y d (.invokevirtual idx) (2, rcv 9 2 C) := callV_ok hS hd cw_X9_ash hl w_1466 wp_108 (Or.inl ⟨TX9, 55, rfl⟩) (by decide +kernel)
def Y_X9_ashes : Pk := (yX9_ashes, cX9_ashes, 3, some .int, 1)
def T_X9_ashes : Tb := ([(101, 9423)], [], [], [], [], [], 3)
def V_X9_ashes : List (Nat × Nat) := [(0, 2), (11, 2), (12, 2)]
def B_X9_ashes : Bk := [(0, [.aload 0, .getfield 9423, .ifCond .eq 11, .iconst (1), .goto 12], 11), (11, [.iconst (0)], 12), (12, [.istore 2, .aload 0, .iload 1, .putfield 9423, .iload 2, .ireturn], 20)]
theorem k_X9_ashes : chkB T_X9_ashes cX9_ashes B_X9_ashes = true := by decide +kernel
theorem cw_X9_ashes : calW Y_X9_ashes := ⟨pn_X9, Or.inr (Or.inl ⟨rfl, rfl⟩), w_1512, w_11, mh_X9, by decide⟩
theorem cl_X9_ashes {o : OM} {Y : Pk} {d d2 idx : Nat} {C : Ctr} (hS : Sound o Y_X9_ashes d2 C) (hd : d2 + 1 ≤ d) (hl : Cond.methodLink (yN Y).cls idx yX9_ashes ∈ wsG ∨ ∃ host, Cond.methodLinkNest (yN Y).cls idx yX9_ashes host ∈ nestW) : CallOK o Y d (.invokevirtual idx) (2, rcv 9 3 C) := callV_ok hS hd cw_X9_ashes hl w_1510 w_1511 (Or.inl ⟨TX9, 55, rfl⟩) (by decide +kernel)
def Y_X9_ashAt : Pk := (yX9_ashAt, cX9_ashAt, 4, some .int, 1)
def T_X9_ashAt : Tb := ([(13, 9022), (16, 9032), (22, 9052)], [], [], [], [], [], 4)
def V_X9_ashAt : List (Nat × Nat) := [(0, 3), (2, 4), (44, 4), (50, 4)]
def B_X9_ashAt : Bk := [(0, [.iconst (0), .istore 3], 2), (2, [.iload 3, .aload 0, .getfield 9022, .iload 1, .iaload, .if_icmp .ge 50, .aload 0, .getfield 9032, .iconst (16), .iload 1, .imul, .iload 3, .iadd, .iaload, .iconst (5), .if_icmp .ne 44, .aload 0, .getfield 9052, .iconst (16), .iload 1, .imul, .iload 3, .iadd, .iaload, .iload 2, .if_icmp .ne 44, .iload 3, .ireturn], 44), (44, [.iinc 3 1, .goto 2], 50), (50, [.iconst (-1), .ireturn], 52)]
theorem k_X9_ashAt : chkB T_X9_ashAt cX9_ashAt B_X9_ashAt = true := by decide +kernel
theorem cw_X9_ashAt : calW Y_X9_ashAt := ⟨pn_X9, Or.inr (Or.inl ⟨rfl, rfl⟩), w_1537, w_11, mh_X9, by decide⟩
theorem cl_X9_ashAt {o : OM} {Y : Pk} {d d2 idx : Nat} {C : Ctr} (hS : Sound o Y_X9_ashAt d2 C) (hd : d2 + 1 ≤ d) (hl : Cond.methodLink (yN Y).cls idx yX9_ashAt ∈ wsG ∨ ∃ host, Cond.methodLinkNest (yN Y).cls idx yX9_ashAt host ∈ nestW) : CallOK o Y d (.invokevirtual idx) (3, rcv 9 4 C) := callV_ok hS hd cw_X9_ashAt hl w_1536 wp_115 (Or.inl ⟨TX9, 55, rfl⟩) (by decide +kernel)
def Y_X9_bound : Pk := (yX9_bound, cX9_bound, 5, none, 0)
def T_X9_bound : Tb := ([(80, 9432)], [], [], [], [], [], 5)
def V_X9_bound : List (Nat × Nat) := [(0, 5), (31, 5), (42, 5), (74, 5), (85, 5)]
def B_X9_bound : Bk := [(0, [.aload 0, .getfield 9432, .iconst (8), .iload 1, .imul, .iload 2, .iadd, .iload 4, .aload 0, .getfield 9432, .iconst (8), .iload 1, .imul, .iload 2, .iadd, .iaload, .if_icmp .ge 31, .iload 4, .goto 42], 31), (31, [.aload 0, .getfield 9432, .iconst (8), .iload 1, .imul, .iload 2, .iadd, .iaload], 42), (42, [.iastore, .aload 0, .getfield 9432, .iconst (8), .iload 2, .imul, .iload 1, .iadd, .iload 3, .ineg, .aload 0, .getfield 9432, .iconst (8), .iload 2, .imul, .iload 1, .iadd, .iaload, .if_icmp .ge 74, .iload 3, .ineg, .goto 85], 74), (74, [.aload 0, .getfield 9432, .iconst (8), .iload 2, .imul, .iload 1, .iadd, .iaload], 85), (85, [.iastore, .return_], 87)]
theorem k_X9_bound : chkB T_X9_bound cX9_bound B_X9_bound = true := by decide +kernel
theorem cw_X9_bound : calW Y_X9_bound := ⟨pn_X9, Or.inl ⟨rfl, rfl⟩, w_1533, w_11, mh_X9, by decide⟩
theorem cl_X9_bound {o : OM} {Y : Pk} {d d2 idx : Nat} {C : Ctr} (hS : Sound o Y_X9_bound d2 C) (hd : d2 + 1 ≤ d) (hl : Cond.methodLink (yN Y).cls idx yX9_bound ∈ wsG ∨ ∃ host, Cond.methodLinkNest (yN Y).cls idx yX9_bound host ∈ nestW) : CallOK o Y d (.invokevirtual idx) (5, rcv 9 5 C) := callV_ok hS hd cw_X9_bound hl w_1532 wp_114 (Or.inl ⟨TX9, 55, rfl⟩) (by decide +kernel)
def Y_X9_close : Pk := (yX9_close, cX9_close, 6, some .boolean, 2)
def T_X9_close : Tb := ([(80, 9432)], [(332, (-10000000)), (333, 10000000)], [], [], [], [], 6)
def V_X9_close : List (Nat × Nat) := [(0, 1), (2, 2), (10, 3), (18, 4), (59, 4), (82, 4), (122, 5), (123, 5), (161, 6), (172, 6), (179, 4), (185, 3), (191, 2), (195, 3), (223, 3), (224, 3), (231, 3)]
def B_X9_close : Bk := [(0, [.iconst (0), .istore 1], 2), (2, [.iload 1, .iconst (8), .if_icmp .ge 191, .iconst (0), .istore 2], 10), (10, [.iload 2, .iconst (8), .if_icmp .ge 185, .iconst (0), .istore 3], 18), (18, [.iload 3, .iconst (8), .if_icmp .ge 179, .aload 0, .getfield 9432, .iconst (8), .iload 2, .imul, .iload 1, .iadd, .iaload, .aload 0, .getfield 9432, .iconst (8), .iload 1, .imul, .iload 3, .iadd, .iaload, .iadd, .iconst (-10000000), .if_icmp .ge 59, .iconst (-10000000), .goto 82], 59), (59, [.aload 0, .getfield 9432, .iconst (8), .iload 2, .imul, .iload 1, .iadd, .iaload, .aload 0, .getfield 9432, .iconst (8), .iload 1, .imul, .iload 3, .iadd, .iaload, .iadd], 82), (82, [.istore 4, .aload 0, .getfield 9432, .iconst (8), .iload 2, .imul, .iload 1, .iadd, .iaload, .iconst (10000000), .if_icmp .ge 122, .aload 0, .getfield 9432, .iconst (8), .iload 1, .imul, .iload 3, .iadd, .iaload, .iconst (10000000), .if_icmp .ge 122, .iconst (1), .goto 123], 122), (122, [.iconst (0)], 123), (123, [.istore 5, .aload 0, .getfield 9432, .iconst (8), .iload 2, .imul, .iload 3, .iadd, .iload 5, .ifCond .eq 161, .iload 4, .aload 0, .getfield 9432, .iconst (8), .iload 2, .imul, .iload 3, .iadd, .iaload, .if_icmp .ge 161, .iload 4, .goto 172], 161), (161, [.aload 0, .getfield 9432, .iconst (8), .iload 2, .imul, .iload 3, .iadd, .iaload], 172), (172, [.iastore, .iinc 3 1, .goto 18], 179), (179, [.iinc 2 1, .goto 10], 185), (185, [.iinc 1 1, .goto 2], 191), (191, [.iconst (1), .istore 1, .iconst (0), .istore 2], 195), (195, [.iload 2, .iconst (8), .if_icmp .ge 231, .iload 1, .ifCond .eq 223, .aload 0, .getfield 9432, .iconst (8), .iload 2, .imul, .iload 2, .iadd, .iaload, .ifCond .lt 223, .iconst (1), .goto 224], 223), (223, [.iconst (0)], 224), (224, [.istore 1, .iinc 2 1, .goto 195], 231), (231, [.iload 1, .ireturn], 233)]
theorem k_X9_close : chkB T_X9_close cX9_close B_X9_close = true := by decide +kernel
theorem cw_X9_close : calW Y_X9_close := ⟨pn_X9, Or.inr (Or.inr (Or.inl ⟨rfl, rfl⟩)), w_1541, w_11, mh_X9, by decide⟩
theorem cl_X9_close {o : OM} {Y : Pk} {d d2 idx : Nat} {C : Ctr} (hS : Sound o Y_X9_close d2 C) (hd : d2 + 1 ≤ d) (hl : Cond.methodLink (yN Y).cls idx yX9_close ∈ wsG ∨ ∃ host, Cond.methodLinkNest (yN Y).cls idx yX9_close host ∈ nestW) : CallOK o Y d (.invokevirtual idx) (1, rcv 9 6 C) := callV_ok hS hd cw_X9_close hl w_1540 wp_116 (Or.inl ⟨TX9, 55, rfl⟩) (by decide +kernel)
def Y_X9_keptSet : Pk := (yX9_keptSet, cX9_keptSet, 3, some .int, 1)
def T_X9_keptSet : Tb := ([(325, 9320), (68, 9382)], [], [], [], [], [], 3)
def V_X9_keptSet : List (Nat × Nat) := [(0, 1), (4, 3), (28, 3), (29, 3), (37, 3)]
def B_X9_keptSet : Bk := [(0, [.iconst (0), .istore 1, .iconst (0), .istore 2], 4), (4, [.iload 2, .aload 0, .getfield 9320, .if_icmp .ge 37, .iload 1, .aload 0, .getfield 9382, .iload 2, .baload, .ifCond .eq 28, .iconst (1), .iload 2, .ishl, .goto 29], 28), (28, [.iconst (0)], 29), (29, [.ior, .istore 1, .iinc 2 1, .goto 4], 37), (37, [.iload 1, .ireturn], 39)]
theorem k_X9_keptSet : chkB T_X9_keptSet cX9_keptSet B_X9_keptSet = true := by decide +kernel
theorem cw_X9_keptSet : calW Y_X9_keptSet := ⟨pn_X9, Or.inr (Or.inl ⟨rfl, rfl⟩), w_1524, w_11, mh_X9, by decide⟩
theorem cl_X9_keptSet {o : OM} {Y : Pk} {d d2 idx : Nat} {C : Ctr} (hS : Sound o Y_X9_keptSet d2 C) (hd : d2 + 1 ≤ d) (hl : Cond.methodLink (yN Y).cls idx yX9_keptSet ∈ wsG ∨ ∃ host, Cond.methodLinkNest (yN Y).cls idx yX9_keptSet host ∈ nestW) : CallOK o Y d (.invokevirtual idx) (1, rcv 9 3 C) := callV_ok hS hd cw_X9_keptSet hl w_1523 wp_112 (Or.inl ⟨TX9, 55, rfl⟩) (by decide +kernel)
def Y_X9_floats : Pk := (yX9_floats, cX9_floats, 3, some .boolean, 2)
def T_X9_floats : Tb := ([(80, 9432)], [(333, 10000000)], [], [], [], [], 3)
def V_X9_floats : List (Nat × Nat) := [(0, 3), (21, 3), (22, 3)]
def B_X9_floats : Bk := [(0, [.aload 0, .getfield 9432, .iconst (8), .iload 1, .imul, .iload 2, .iadd, .iaload, .iconst (10000000), .if_icmp .ne 21, .iconst (1), .goto 22], 21), (21, [.iconst (0)], 22), (22, [.ireturn], 23)]
theorem k_X9_floats : chkB T_X9_floats cX9_floats B_X9_floats = true := by decide +kernel
theorem cw_X9_floats : calW Y_X9_floats := ⟨pn_X9, Or.inr (Or.inr (Or.inl ⟨rfl, rfl⟩)), w_1551, w_11, mh_X9, by decide⟩
theorem cl_X9_floats {o : OM} {Y : Pk} {d d2 idx : Nat} {C : Ctr} (hS : Sound o Y_X9_floats d2 C) (hd : d2 + 1 ≤ d) (hl : Cond.methodLink (yN Y).cls idx yX9_floats ∈ wsG ∨ ∃ host, Cond.methodLinkNest (yN Y).cls idx yX9_floats host ∈ nestW) : CallOK o Y d (.invokevirtual idx) (3, rcv 9 3 C) := callV_ok hS hd cw_X9_floats hl w_1550 wp_117 (Or.inl ⟨TX9, 55, rfl⟩) (by decide +kernel)
def Y_X9_doubtOf : Pk := (yX9_doubtOf, cX9_doubtOf, 4, some .int, 1)
def T_X9_doubtOf : Tb := ([(325, 9320), (65, 9372)], [], [], [], [], [], 4)
def V_X9_doubtOf : List (Nat × Nat) := [(0, 2), (4, 4), (31, 4), (32, 4), (40, 4)]
def B_X9_doubtOf : Bk := [(0, [.iconst (0), .istore 2, .iconst (0), .istore 3], 4), (4, [.iload 3, .aload 0, .getfield 9320, .if_icmp .ge 40, .iload 2, .iload 1, .iload 3, .ishr, .iconst (1), .iand, .iconst (1), .if_icmp .ne 31, .aload 0, .getfield 9372, .iload 3, .iaload, .goto 32], 31), (31, [.iconst (0)], 32), (32, [.iadd, .istore 2, .iinc 3 1, .goto 4], 40), (40, [.iload 2, .ireturn], 42)]
theorem k_X9_doubtOf : chkB T_X9_doubtOf cX9_doubtOf B_X9_doubtOf = true := by decide +kernel
theorem cw_X9_doubtOf : calW Y_X9_doubtOf := ⟨pn_X9, Or.inr (Or.inl ⟨rfl, rfl⟩), w_1575, w_11, mh_X9, by decide⟩
theorem cl_X9_doubtOf {o : OM} {Y : Pk} {d d2 idx : Nat} {C : Ctr} (hS : Sound o Y_X9_doubtOf d2 C) (hd : d2 + 1 ≤ d) (hl : Cond.methodLink (yN Y).cls idx yX9_doubtOf ∈ wsG ∨ ∃ host, Cond.methodLinkNest (yN Y).cls idx yX9_doubtOf host ∈ nestW) : CallOK o Y d (.invokevirtual idx) (2, rcv 9 4 C) := callV_ok hS hd cw_X9_doubtOf hl w_1574 wp_120 (Or.inl ⟨TX9, 55, rfl⟩) (by decide +kernel)
def Y_X9_manyOf : Pk := (yX9_manyOf, cX9_manyOf, 4, some .int, 1)
def T_X9_manyOf : Tb := ([(325, 9320)], [], [], [], [], [], 4)
def V_X9_manyOf : List (Nat × Nat) := [(0, 2), (4, 4), (26, 4)]
def B_X9_manyOf : Bk := [(0, [.iconst (0), .istore 2, .iconst (0), .istore 3], 4), (4, [.iload 3, .aload 0, .getfield 9320, .if_icmp .ge 26, .iload 2, .iload 1, .iload 3, .ishr, .iconst (1), .iand, .iadd, .istore 2, .iinc 3 1, .goto 4], 26), (26, [.iload 2, .ireturn], 28)]
theorem k_X9_manyOf : chkB T_X9_manyOf cX9_manyOf B_X9_manyOf = true := by decide +kernel
theorem cw_X9_manyOf : calW Y_X9_manyOf := ⟨pn_X9, Or.inr (Or.inl ⟨rfl, rfl⟩), w_1571, w_11, mh_X9, by decide⟩
theorem cl_X9_manyOf {o : OM} {Y : Pk} {d d2 idx : Nat} {C : Ctr} (hS : Sound o Y_X9_manyOf d2 C) (hd : d2 + 1 ≤ d) (hl : Cond.methodLink (yN Y).cls idx yX9_manyOf ∈ wsG ∨ ∃ host, Cond.methodLinkNest (yN Y).cls idx yX9_manyOf host ∈ nestW) : CallOK o Y d (.invokevirtual idx) (2, rcv 9 4 C) := callV_ok hS hd cw_X9_manyOf hl w_1570 wp_119 (Or.inl ⟨TX9, 55, rfl⟩) (by decide +kernel)
def Y_X9_image : Pk := (yX9_image, cX9_image, 2, some .int, 1)
def T_X9_image : Tb := ([(86, 9492), (7, 9012), (89, 9502), (13, 9022), (98, 9532), (71, 9392), (74, 9402), (77, 9412), (92, 9512), (16, 9032), (19, 9042), (22, 9052), (95, 9522), (53, 9332), (56, 9342), (59, 9352), (62, 9362), (65, 9372), (68, 9382), (109, 9000), (105, 9460), (325, 9320), (382, 9470), (101, 9423), (385, 9483)], [], [], [], [], [], 2)
def V_X9_image : List (Nat × Nat) := [(0, 1), (2, 2), (52, 2), (53, 2), (92, 2), (94, 2), (152, 2), (154, 2), (266, 2), (267, 2), (274, 2)]
def B_X9_image : Bk := [(0, [.iconst (0), .istore 1], 2), (2, [.iload 1, .iconst (7), .if_icmp .ge 92, .aload 0, .getfield 9492, .iload 1, .aload 0, .getfield 9012, .iload 1, .iaload, .iastore, .aload 0, .getfield 9502, .iload 1, .aload 0, .getfield 9022, .iload 1, .iaload, .iastore, .aload 0, .getfield 9532, .iconst (3), .iload 1, .imul, .aload 0, .getfield 9392, .iload 1, .baload, .ifCond .eq 52, .iconst (1), .goto 53], 52), (52, [.iconst (0)], 53), (53, [.iastore, .aload 0, .getfield 9532, .iconst (3), .iload 1, .imul, .iconst (1), .iadd, .aload 0, .getfield 9402, .iload 1, .iaload, .iastore, .aload 0, .getfield 9532, .iconst (3), .iload 1, .imul, .iconst (2), .iadd, .aload 0, .getfield 9412, .iload 1, .iaload, .iastore, .iinc 1 1, .goto 2], 92), (92, [.iconst (0), .istore 1], 94), (94, [.iload 1, .iconst (112), .if_icmp .ge 152, .aload 0, .getfield 9512, .iconst (3), .iload 1, .imul, .aload 0, .getfield 9032, .iload 1, .iaload, .iastore, .aload 0, .getfield 9512, .iconst (3), .iload 1, .imul, .iconst (1), .iadd, .aload 0, .getfield 9042, .iload 1, .iaload, .iastore, .aload 0, .getfield 9512, .iconst (3), .iload 1, .imul, .iconst (2), .iadd, .aload 0, .getfield 9052, .iload 1, .iaload, .iastore, .iinc 1 1, .goto 94], 152), (152, [.iconst (0), .istore 1], 154), (154, [.iload 1, .iconst (12), .if_icmp .ge 274, .aload 0, .getfield 9522, .iconst (6), .iload 1, .imul, .aload 0, .getfield 9332, .iload 1, .iaload, .iastore, .aload 0, .getfield 9522, .iconst (6), .iload 1, .imul, .iconst (1), .iadd, .aload 0, .getfield 9342, .iload 1, .iaload, .iastore, .aload 0, .getfield 9522, .iconst (6), .iload 1, .imul, .iconst (2), .iadd, .aload 0, .getfield 9352, .iload 1, .iaload, .iastore, .aload 0, .getfield 9522, .iconst (6), .iload 1, .imul, .iconst (3), .iadd, .aload 0, .getfield 9362, .iload 1, .iaload, .iastore, .aload 0, .getfield 9522, .iconst (6), .iload 1, .imul, .iconst (4), .iadd, .aload 0, .getfield 9372, .iload 1, .iaload, .iastore, .aload 0, .getfield 9522, .iconst (6), .iload 1, .imul, .iconst (5), .iadd, .aload 0, .getfield 9382, .iload 1, .baload, .ifCond .eq 266, .iconst (1), .goto 267], 266), (266, [.iconst (0)], 267), (267, [.iastore, .iinc 1 1, .goto 154], 274), (274, [.aload 0, .aload 0, .getfield 9000, .putfield 9460, .aload 0, .aload 0, .getfield 9320, .putfield 9470, .aload 0, .aload 0, .getfield 9423, .putfield 9483, .aload 0, .getfield 9000, .ireturn], 303)]
theorem k_X9_image : chkB T_X9_image cX9_image B_X9_image = true := by decide +kernel
theorem cw_X9_image : calW Y_X9_image := ⟨pn_X9, Or.inr (Or.inl ⟨rfl, rfl⟩), w_1608, w_11, mh_X9, by decide⟩
theorem cl_X9_image {o : OM} {Y : Pk} {d d2 idx : Nat} {C : Ctr} (hS : Sound o Y_X9_image d2 C) (hd : d2 + 1 ≤ d) (hl : Cond.methodLink (yN Y).cls idx yX9_image ∈ wsG ∨ ∃ host, Cond.methodLinkNest (yN Y).cls idx yX9_image host ∈ nestW) : CallOK o Y d (.invokevirtual idx) (1, rcv 9 2 C) := callV_ok hS hd cw_X9_image hl w_1606 w_1607 (Or.inl ⟨TX9, 55, rfl⟩) (by decide +kernel)
def Y_X9_restore : Pk := (yX9_restore, cX9_restore, 2, some .int, 1)
def T_X9_restore : Tb := ([(105, 9460), (7, 9012), (86, 9492), (13, 9022), (89, 9502), (71, 9392), (98, 9532), (74, 9402), (77, 9412), (16, 9032), (92, 9512), (19, 9042), (22, 9052), (53, 9332), (95, 9522), (56, 9342), (59, 9352), (62, 9362), (65, 9372), (68, 9382), (109, 9000), (382, 9470), (325, 9320), (385, 9483), (101, 9423)], [], [], [], [], [], 2)
def V_X9_restore : List (Nat × Nat) := [(0, 1), (11, 1), (13, 2), (64, 2), (65, 2), (104, 2), (106, 2), (164, 2), (166, 2), (279, 2), (280, 2), (287, 2)]
def B_X9_restore : Bk := [(0, [.aload 0, .getfield 9460, .iconst (-1), .if_icmp .ne 11, .iconst (-103), .ireturn], 11), (11, [.iconst (0), .istore 1], 13), (13, [.iload 1, .iconst (7), .if_icmp .ge 104, .aload 0, .getfield 9012, .iload 1, .aload 0, .getfield 9492, .iload 1, .iaload, .iastore, .aload 0, .getfield 9022, .iload 1, .aload 0, .getfield 9502, .iload 1, .iaload, .iastore, .aload 0, .getfield 9392, .iload 1, .aload 0, .getfield 9532, .iconst (3), .iload 1, .imul, .iaload, .iconst (1), .if_icmp .ne 64, .iconst (1), .goto 65], 64), (64, [.iconst (0)], 65), (65, [.bastore, .aload 0, .getfield 9402, .iload 1, .aload 0, .getfield 9532, .iconst (3), .iload 1, .imul, .iconst (1), .iadd, .iaload, .iastore, .aload 0, .getfield 9412, .iload 1, .aload 0, .getfield 9532, .iconst (3), .iload 1, .imul, .iconst (2), .iadd, .iaload, .iastore, .iinc 1 1, .goto 13], 104), (104, [.iconst (0), .istore 1], 106), (106, [.iload 1, .iconst (112), .if_icmp .ge 164, .aload 0, .getfield 9032, .iload 1, .aload 0, .getfield 9512, .iconst (3), .iload 1, .imul, .iaload, .iastore, .aload 0, .getfield 9042, .iload 1, .aload 0, .getfield 9512, .iconst (3), .iload 1, .imul, .iconst (1), .iadd, .iaload, .iastore, .aload 0, .getfield 9052, .iload 1, .aload 0, .getfield 9512, .iconst (3), .iload 1, .imul, .iconst (2), .iadd, .iaload, .iastore, .iinc 1 1, .goto 106], 164), (164, [.iconst (0), .istore 1], 166), (166, [.iload 1, .iconst (12), .if_icmp .ge 287, .aload 0, .getfield 9332, .iload 1, .aload 0, .getfield 9522, .iconst (6), .iload 1, .imul, .iaload, .iastore, .aload 0, .getfield 9342, .iload 1, .aload 0, .getfield 9522, .iconst (6), .iload 1, .imul, .iconst (1), .iadd, .iaload, .iastore, .aload 0, .getfield 9352, .iload 1, .aload 0, .getfield 9522, .iconst (6), .iload 1, .imul, .iconst (2), .iadd, .iaload, .iastore, .aload 0, .getfield 9362, .iload 1, .aload 0, .getfield 9522, .iconst (6), .iload 1, .imul, .iconst (3), .iadd, .iaload, .iastore, .aload 0, .getfield 9372, .iload 1, .aload 0, .getfield 9522, .iconst (6), .iload 1, .imul, .iconst (4), .iadd, .iaload, .iastore, .aload 0, .getfield 9382, .iload 1, .aload 0, .getfield 9522, .iconst (6), .iload 1, .imul, .iconst (5), .iadd, .iaload, .iconst (1), .if_icmp .ne 279, .iconst (1), .goto 280], 279), (279, [.iconst (0)], 280), (280, [.bastore, .iinc 1 1, .goto 166], 287), (287, [.aload 0, .aload 0, .getfield 9460, .putfield 9000, .aload 0, .aload 0, .getfield 9470, .putfield 9320, .aload 0, .aload 0, .getfield 9483, .putfield 9423, .aload 0, .getfield 9000, .ireturn], 316)]
theorem k_X9_restore : chkB T_X9_restore cX9_restore B_X9_restore = true := by decide +kernel
theorem cw_X9_restore : calW Y_X9_restore := ⟨pn_X9, Or.inr (Or.inl ⟨rfl, rfl⟩), w_1612, w_11, mh_X9, by decide⟩
theorem cl_X9_restore {o : OM} {Y : Pk} {d d2 idx : Nat} {C : Ctr} (hS : Sound o Y_X9_restore d2 C) (hd : d2 + 1 ≤ d) (hl : Cond.methodLink (yN Y).cls idx yX9_restore ∈ wsG ∨ ∃ host, Cond.methodLinkNest (yN Y).cls idx yX9_restore host ∈ nestW) : CallOK o Y d (.invokevirtual idx) (1, rcv 9 2 C) := callV_ok hS hd cw_X9_restore hl w_1610 w_1611 (Or.inl ⟨TX9, 55, rfl⟩) (by decide +kernel)
def Y_X9_tell : Pk := (yX9_tell, cX9_tell, 3, none, 0)
def T_X9_tell : Tb := ([(393, 9541)], [], [(391, 31)], [], [], [], 3)
def V_X9_tell : List (Nat × Nat) := [(0, 3)]
def B_X9_tell : Bk := [(0, [.aload 0, .jsr (31), .aload 0, .getfield 9541, .lmul, .lload 1, .ladd, .putfield 9541, .return_], 15)]
theorem k_X9_tell : chkB T_X9_tell cX9_tell B_X9_tell = true := by decide +kernel
theorem cw_X9_tell : calW Y_X9_tell := ⟨pn_X9, Or.inl ⟨rfl, rfl⟩, w_1633, w_11, mh_X9, by decide⟩
theorem cl_X9_tell {o : OM} {Y : Pk} {d d2 idx : Nat} {C : Ctr} (hS : Sound o Y_X9_tell d2 C) (hd : d2 + 1 ≤ d) (hl : Cond.methodLink (yN Y).cls idx yX9_tell ∈ wsG ∨ ∃ host, Cond.methodLinkNest (yN Y).cls idx yX9_tell host ∈ nestW) : CallOK o Y d (.invokevirtual idx) (2, rcv 9 3 C) := callV_ok hS hd cw_X9_tell hl w_1632 wp_126 (Or.inl ⟨TX9, 55, rfl⟩) (by decide +kernel)
def Y_J6_compare_7cf53 : Pk := (yJ6_compare_7cf53, cJ6_compare_7cf53, 2, some .int, 1)
def T_J6_compare_7cf53 : Tb := ([], [], [], [], [], [], 2)
def V_J6_compare_7cf53 : List (Nat × Nat) := [(0, 2), (9, 2), (18, 2), (19, 2)]
def B_J6_compare_7cf53 : Bk := [(0, [.iload 0, .iload 1, .if_icmp .ge 9, .iconst (-1), .goto 19], 9), (9, [.iload 0, .iload 1, .if_icmp .ne 18, .iconst (0), .goto 19], 18), (18, [.iconst (1)], 19), (19, [.ireturn], 20)]
theorem k_J6_compare_7cf53 : chkB T_J6_compare_7cf53 cJ6_compare_7cf53 B_J6_compare_7cf53 = true := by decide +kernel
theorem cw_J6_compare_7cf53 : calW Y_J6_compare_7cf53 := ⟨pn_J6, Or.inr (Or.inl ⟨rfl, rfl⟩), w_438, w_12, mh_J6, by decide⟩
theorem cl_J6_compare_7cf53 {o : OM} {Y : Pk} {d d2 idx : Nat} {C : Ctr} (hS : Sound o Y_J6_compare_7cf53 d2 C) (hd : d2 + 1 ≤ d) (hl : Cond.methodLink (yN Y).cls idx yJ6_compare_7cf53 ∈ wsG ∨ ∃ host, Cond.methodLinkNest (yN Y).cls idx yJ6_compare_7cf53 host ∈ nestW) : CallOK o Y d (.invokestatic idx) (2, arg 2 C) := callS_ok hS hd cw_J6_compare_7cf53 hl w_437 (by decide +kernel)
def Y_J6_bitCount_0f7a4 : Pk := (yJ6_bitCount_0f7a4, cJ6_bitCount_0f7a4, 1, some .int, 1)
def T_J6_bitCount_0f7a4 : Tb := ([], [(265, 1431655765), (266, 858993459), (267, 252645135)], [], [], [], [], 1)
def V_J6_bitCount_0f7a4 : List (Nat × Nat) := [(0, 1)]
def B_J6_bitCount_0f7a4 : Bk := [(0, [.iload 0, .iload 0, .iconst (1), .iushr, .iconst (1431655765), .iand, .isub, .istore 0, .iload 0, .iconst (858993459), .iand, .iload 0, .iconst (2), .iushr, .iconst (858993459), .iand, .iadd, .istore 0, .iload 0, .iload 0, .iconst (4), .iushr, .iadd, .iconst (252645135), .iand, .istore 0, .iload 0, .iload 0, .iconst (8), .iushr, .iadd, .istore 0, .iload 0, .iload 0, .iconst (16), .iushr, .iadd, .istore 0, .iload 0, .iconst (63), .iand, .ireturn], 53)]
theorem k_J6_bitCount_0f7a4 : chkB T_J6_bitCount_0f7a4 cJ6_bitCount_0f7a4 B_J6_bitCount_0f7a4 = true := by decide +kernel
theorem cw_J6_bitCount_0f7a4 : calW Y_J6_bitCount_0f7a4 := ⟨pn_J6, Or.inr (Or.inl ⟨rfl, rfl⟩), w_918, w_12, mh_J6, by decide⟩
theorem cl_J6_bitCount_0f7a4 {o : OM} {Y : Pk} {d d2 idx : Nat} {C : Ctr} (hS : Sound o Y_J6_bitCount_0f7a4 d2 C) (hd : d2 + 1 ≤ d) (hl : Cond.methodLink (yN Y).cls idx yJ6_bitCount_0f7a4 ∈ wsG ∨ ∃ host, Cond.methodLinkNest (yN Y).cls idx yJ6_bitCount_0f7a4 host ∈ nestW) : CallOK o Y d (.invokestatic idx) (1, arg 1 C) := callS_ok hS hd cw_J6_bitCount_0f7a4 hl w_917 (by decide +kernel)
def Y_J0_coder_7d493 : Pk := (yJ0_coder_7d493, cJ0_coder_7d493, 1, some .byte, 4)
def T_J0_coder_7d493 : Tb := ([(15, 20015)], [], [], [(38, 999)], [], [], 1)
def V_J0_coder_7d493 : List (Nat × Nat) := [(0, 1), (13, 1), (14, 1)]
def B_J0_coder_7d493 : Bk := [(0, [.iconst 1, .ifCond .eq 13, .aload 0, .getfield 20015, .goto 14], 13), (13, [.iconst (1)], 14), (14, [.ireturn], 15)]
theorem k_J0_coder_7d493 : chkB T_J0_coder_7d493 cJ0_coder_7d493 B_J0_coder_7d493 = true := by decide +kernel
theorem cw_J0_coder_7d493 : calW Y_J0_coder_7d493 := ⟨pn_J0, Or.inr (Or.inr (Or.inr (Or.inr ⟨rfl, rfl⟩))), w_511, w_13, mh_J0, by decide⟩
theorem cl_J0_coder_7d493 {o : OM} {Y : Pk} {d d2 idx : Nat} {C : Ctr} (hS : Sound o Y_J0_coder_7d493 d2 C) (hd : d2 + 1 ≤ d) (hl : Cond.methodLink (yN Y).cls idx yJ0_coder_7d493 ∈ wsG ∨ ∃ host, Cond.methodLinkNest (yN Y).cls idx yJ0_coder_7d493 host ∈ nestW) : CallOK o Y d (.invokevirtual idx) (1, rcv 20 1 C) := callV_ok hS hd cw_J0_coder_7d493 hl w_509 w_510 (Or.inr ⟨rfl, rfl⟩) (by decide +kernel)
def Y_J0_isLatin1_aae02 : Pk := (yJ0_isLatin1_aae02, cJ0_isLatin1_aae02, 1, some .boolean, 2)
def T_J0_isLatin1_aae02 : Tb := ([(15, 20015)], [], [], [(38, 999)], [], [], 1)
def V_J0_isLatin1_aae02 : List (Nat × Nat) := [(0, 1), (17, 1), (18, 1)]
def B_J0_isLatin1_aae02 : Bk := [(0, [.iconst 1, .ifCond .eq 17, .aload 0, .getfield 20015, .ifCond .ne 17, .iconst (1), .goto 18], 17), (17, [.iconst (0)], 18), (18, [.ireturn], 19)]
theorem k_J0_isLatin1_aae02 : chkB T_J0_isLatin1_aae02 cJ0_isLatin1_aae02 B_J0_isLatin1_aae02 = true := by decide +kernel
theorem cw_J0_isLatin1_aae02 : calW Y_J0_isLatin1_aae02 := ⟨pn_J0, Or.inr (Or.inr (Or.inl ⟨rfl, rfl⟩)), w_501, w_13, mh_J0, by decide⟩
theorem cl_J0_isLatin1_aae02 {o : OM} {Y : Pk} {d d2 idx : Nat} {C : Ctr} (hS : Sound o Y_J0_isLatin1_aae02 d2 C) (hd : d2 + 1 ≤ d) (hl : Cond.methodLink (yN Y).cls idx yJ0_isLatin1_aae02 ∈ wsG ∨ ∃ host, Cond.methodLinkNest (yN Y).cls idx yJ0_isLatin1_aae02 host ∈ nestW) : CallOK o Y d (.invokevirtual idx) (1, rcv 20 1 C) := callV_ok hS hd cw_J0_isLatin1_aae02 hl w_499 w_500 (Or.inr ⟨rfl, rfl⟩) (by decide +kernel)
def Y_J1_canEncode_9a6ad : Pk := (yJ1_canEncode_9a6ad, cJ1_canEncode_9a6ad, 1, some .boolean, 2)
def T_J1_canEncode_9a6ad : Tb := ([], [], [], [], [], [], 1)
def V_J1_canEncode_9a6ad : List (Nat × Nat) := [(0, 1), (15, 1), (16, 1)]
def B_J1_canEncode_9a6ad : Bk := [(0, [.iload 0, .ifCond .lt 15, .iload 0, .iconst (255), .if_icmp .gt 15, .iconst (1), .goto 16], 15), (15, [.iconst (0)], 16), (16, [.ireturn], 17)]
theorem k_J1_canEncode_9a6ad : chkB T_J1_canEncode_9a6ad cJ1_canEncode_9a6ad B_J1_canEncode_9a6ad = true := by decide +kernel
theorem cw_J1_canEncode_9a6ad : calW Y_J1_canEncode_9a6ad := ⟨pn_J1, Or.inr (Or.inr (Or.inl ⟨rfl, rfl⟩)), w_517, w_14, mh_J1, by decide⟩
theorem cl_J1_canEncode_9a6ad {o : OM} {Y : Pk} {d d2 idx : Nat} {C : Ctr} (hS : Sound o Y_J1_canEncode_9a6ad d2 C) (hd : d2 + 1 ≤ d) (hl : Cond.methodLink (yN Y).cls idx yJ1_canEncode_9a6ad ∈ wsG ∨ ∃ host, Cond.methodLinkNest (yN Y).cls idx yJ1_canEncode_9a6ad host ∈ nestW) : CallOK o Y d (.invokestatic idx) (1, arg 1 C) := callS_ok hS hd cw_J1_canEncode_9a6ad hl w_516 (by decide +kernel)
def Y_J1_indexOfChar_4cfef : Pk := (yJ1_indexOfChar_4cfef, cJ1_indexOfChar_4cfef, 6, some .int, 1)
def T_J1_indexOfChar_4cfef : Tb := ([], [], [], [], [], [], 6)
def V_J1_indexOfChar_4cfef : List (Nat × Nat) := [(0, 4), (7, 6), (25, 6), (31, 6)]
def B_J1_indexOfChar_4cfef : Bk := [(0, [.iload 1, .i2b, .istore 4, .iload 2, .istore 5], 7), (7, [.iload 5, .iload 3, .if_icmp .ge 31, .aload 0, .iload 5, .baload, .iload 4, .if_icmp .ne 25, .iload 5, .ireturn], 25), (25, [.iinc 5 1, .goto 7], 31), (31, [.iconst (-1), .ireturn], 33)]
theorem k_J1_indexOfChar_4cfef : chkB T_J1_indexOfChar_4cfef cJ1_indexOfChar_4cfef B_J1_indexOfChar_4cfef = true := by decide +kernel
theorem cw_J1_indexOfChar_4cfef : calW Y_J1_indexOfChar_4cfef := ⟨pn_J1, Or.inr (Or.inl ⟨rfl, rfl⟩), w_526, w_14, mh_J1, by decide⟩
theorem cl_J1_indexOfChar_4cfef {o : OM} {Y : Pk} {d d2 idx : Nat} {C : Ctr} (hS : Sound o Y_J1_indexOfChar_4cfef d2 C) (hd : d2 + 1 ≤ d) (hl : Cond.methodLink (yN Y).cls idx yJ1_indexOfChar_4cfef ∈ wsG ∨ ∃ host, Cond.methodLinkNest (yN Y).cls idx yJ1_indexOfChar_4cfef host ∈ nestW) : CallOK o Y d (.invokestatic idx) (4, arg 6 C) := callS_ok hS hd cw_J1_indexOfChar_4cfef hl w_525 (by decide +kernel)
def Y_J7_fill_53178 : Pk := (yJ7_fill_53178, cJ7_fill_53178, 4, none, 0)
def T_J7_fill_53178 : Tb := ([], [], [], [], [], [], 4)
def V_J7_fill_53178 : List (Nat × Nat) := [(0, 2), (5, 4), (20, 4)]
def B_J7_fill_53178 : Bk := [(0, [.iconst (0), .istore 2, .aload 0, .arraylength, .istore 3], 5), (5, [.iload 2, .iload 3, .if_icmp .ge 20, .aload 0, .iload 2, .iload 1, .iastore, .iinc 2 1, .goto 5], 20), (20, [.return_], 21)]
theorem k_J7_fill_53178 : chkB T_J7_fill_53178 cJ7_fill_53178 B_J7_fill_53178 = true := by decide +kernel
theorem cw_J7_fill_53178 : calW Y_J7_fill_53178 := ⟨pn_J7, Or.inl ⟨rfl, rfl⟩, w_146, w_6, mh_J7, by decide⟩
theorem cl_J7_fill_53178 {o : OM} {Y : Pk} {d d2 idx : Nat} {C : Ctr} (hS : Sound o Y_J7_fill_53178 d2 C) (hd : d2 + 1 ≤ d) (hl : Cond.methodLink (yN Y).cls idx yJ7_fill_53178 ∈ wsG ∨ ∃ host, Cond.methodLinkNest (yN Y).cls idx yJ7_fill_53178 host ∈ nestW) : CallOK o Y d (.invokestatic idx) (2, arg 4 C) := callS_ok hS hd cw_J7_fill_53178 hl w_145 (by decide +kernel)
def Y_X0_addJoin : Pk := (yX0_addJoin, cX0_addJoin, 7, some .int, 1)
def T_X0_addJoin : Tb := ([(9, 0), (15, 12), (19, 22), (22, 32), (25, 42), (28, 52)], [], [], [], [(47, 0)], [], 7)
def V_X0_addJoin : List (Nat × Nat) := [(0, 6), (15, 7)]
def B_X0_addJoin : Bk := [(0, [.aload 0, .getfield 0, .istore 6, .iload 6, .iconst (12), .if_icmp .lt 15, .iconst (-1), .ireturn], 15), (15, [.aload 0, .getfield 12, .iload 6, .iload 1, .iastore, .aload 0, .getfield 22, .iload 6, .iload 2, .iastore, .aload 0, .getfield 32, .iload 6, .iload 3, .iastore, .aload 0, .getfield 42, .iload 6, .iload 4, .iastore, .aload 0, .getfield 52, .iload 6, .iload 5, .iastore, .aload 0, .iload 6, .iconst (1), .invokestatic 0, .aload 0, .dup, .getfield 0, .iconst (1), .iadd, .putfield 0, .iload 6, .ireturn], 77)]
theorem k_X0_addJoin : chkB T_X0_addJoin cX0_addJoin B_X0_addJoin = true := by decide +kernel
theorem cw_X0_addJoin : calW Y_X0_addJoin := ⟨pn_X0, Or.inr (Or.inl ⟨rfl, rfl⟩), w_786, w_3, mh_X0, by decide⟩
theorem cl_X0_addJoin {o : OM} {Y : Pk} {d d2 idx : Nat} {C : Ctr} (hS : Sound o Y_X0_addJoin d2 C) (hd : d2 + 1 ≤ d) (hl : Cond.methodLink (yN Y).cls idx yX0_addJoin ∈ wsG ∨ ∃ host, Cond.methodLinkNest (yN Y).cls idx yX0_addJoin host ∈ nestW) : CallOK o Y d (.invokevirtual idx) (6, rcv 0 7 C) := callV_ok hS hd cw_X0_addJoin hl w_785 wp_43 (Or.inl ⟨TX0, 11, rfl⟩) (by decide +kernel)
def Y_X0_foldInto : Pk := (yX0_foldInto, cX0_foldInto, 4, some .long, 3)
def T_X0_foldInto : Tb := ([(9, 0), (15, 12), (19, 22), (22, 32), (25, 42), (28, 52), (37, 82), (40, 92)], [], [], [], [(55, 1), (63, 3)], [(51, 0), (59, 2)], 4)
def V_X0_foldInto : List (Nat × Nat) := [(0, 3), (2, 4), (90, 4), (92, 4), (137, 4), (143, 4)]
def B_X0_foldInto : Bk := [(0, [.iconst (0), .istore 3], 2), (2, [.iload 3, .aload 0, .getfield 0, .if_icmp .ge 90, .lload 1, .aload 0, .getfield 12, .iload 3, .iaload, .i2l, .invokestatic 0, .lstore 1, .lload 1, .aload 0, .getfield 22, .iload 3, .iaload, .i2l, .invokestatic 0, .lstore 1, .lload 1, .aload 0, .getfield 32, .iload 3, .iaload, .i2l, .invokestatic 0, .lstore 1, .lload 1, .aload 0, .getfield 42, .iload 3, .iaload, .i2l, .invokestatic 0, .lstore 1, .lload 1, .aload 0, .getfield 52, .iload 3, .iaload, .i2l, .invokestatic 0, .lstore 1, .lload 1, .aload 0, .iload 3, .invokestatic 1, .invokestatic 2, .i2l, .invokestatic 0, .lstore 1, .iinc 3 1, .goto 2], 90), (90, [.iconst (0), .istore 3], 92), (92, [.iload 3, .iconst (7), .if_icmp .ge 143, .aload 0, .iload 3, .invokestatic 3, .ifCond .eq 137, .lload 1, .iload 3, .i2l, .invokestatic 0, .lstore 1, .lload 1, .aload 0, .getfield 82, .iload 3, .iaload, .i2l, .invokestatic 0, .lstore 1, .lload 1, .aload 0, .getfield 92, .iload 3, .iaload, .i2l, .invokestatic 0, .lstore 1], 137), (137, [.iinc 3 1, .goto 92], 143), (143, [.lload 1, .lreturn], 145)]
theorem k_X0_foldInto : chkB T_X0_foldInto cX0_foldInto B_X0_foldInto = true := by decide +kernel
theorem cw_X0_foldInto : calW Y_X0_foldInto := ⟨pn_X0, Or.inr (Or.inr (Or.inr (Or.inl ⟨rfl, rfl⟩))), w_1072, w_3, mh_X0, by decide⟩
theorem cl_X0_foldInto {o : OM} {Y : Pk} {d d2 idx : Nat} {C : Ctr} (hS : Sound o Y_X0_foldInto d2 C) (hd : d2 + 1 ≤ d) (hl : Cond.methodLink (yN Y).cls idx yX0_foldInto ∈ wsG ∨ ∃ host, Cond.methodLinkNest (yN Y).cls idx yX0_foldInto host ∈ nestW) : CallOK o Y d (.invokevirtual idx) (2, rcv 0 4 C) := callV_ok hS hd cw_X0_foldInto hl w_1071 wp_87 (Or.inl ⟨TX0, 11, rfl⟩) (by decide +kernel)
def Y_X0_copyFrom : Pk := (yX0_copyFrom, cX0_copyFrom, 2, none, 0)
def T_X0_copyFrom : Tb := ([(9, 0), (15, 12), (19, 22), (22, 32), (25, 42), (28, 52), (31, 60), (34, 70), (37, 82), (40, 92), (43, 103)], [], [], [], [], [(66, 0)], 2)
def V_X0_copyFrom : List (Nat × Nat) := [(0, 2)]
def B_X0_copyFrom : Bk := [(0, [.aload 0, .aload 1, .getfield 0, .putfield 0, .aload 1, .getfield 12, .iconst (0), .aload 0, .getfield 12, .iconst (0), .iconst (12), .invokestatic 0, .aload 1, .getfield 22, .iconst (0), .aload 0, .getfield 22, .iconst (0), .iconst (12), .invokestatic 0, .aload 1, .getfield 32, .iconst (0), .aload 0, .getfield 32, .iconst (0), .iconst (12), .invokestatic 0, .aload 1, .getfield 42, .iconst (0), .aload 0, .getfield 42, .iconst (0), .iconst (12), .invokestatic 0, .aload 1, .getfield 52, .iconst (0), .aload 0, .getfield 52, .iconst (0), .iconst (12), .invokestatic 0, .aload 0, .aload 1, .getfield 60, .putfield 60, .aload 0, .aload 1, .getfield 70, .putfield 70, .aload 1, .getfield 82, .iconst (0), .aload 0, .getfield 82, .iconst (0), .iconst (7), .invokestatic 0, .aload 1, .getfield 92, .iconst (0), .aload 0, .getfield 92, .iconst (0), .iconst (7), .invokestatic 0, .aload 0, .aload 1, .getfield 103, .putfield 103, .return_], 138)]
theorem k_X0_copyFrom : chkB T_X0_copyFrom cX0_copyFrom B_X0_copyFrom = true := by decide +kernel
theorem cw_X0_copyFrom : calW Y_X0_copyFrom := ⟨pn_X0, Or.inl ⟨rfl, rfl⟩, w_1037, w_3, mh_X0, by decide⟩
theorem cl_X0_copyFrom {o : OM} {Y : Pk} {d d2 idx : Nat} {C : Ctr} (hS : Sound o Y_X0_copyFrom d2 C) (hd : d2 + 1 ≤ d) (hl : Cond.methodLink (yN Y).cls idx yX0_copyFrom ∈ wsG ∨ ∃ host, Cond.methodLinkNest (yN Y).cls idx yX0_copyFrom host ∈ nestW) : CallOK o Y d (.invokevirtual idx) (2, rcv 0 2 C) := callV_ok hS hd cw_X0_copyFrom hl w_1036 wp_83 (Or.inl ⟨TX0, 11, rfl⟩) (by decide +kernel)
def Y_X1_take : Pk := (yX1_take, cX1_take, 3, some .int, 1)
def T_X1_take : Tb := ([(9, 1010), (15, 1022)], [], [], [], [], [(29, 0)], 3)
def V_X1_take : List (Nat × Nat) := [(0, 2), (12, 3)]
def B_X1_take : Bk := [(0, [.aload 0, .getfield 1010, .istore 2, .iload 2, .iconst (4), .if_icmp .lt 12, .iconst (-1), .ireturn], 12), (12, [.aload 1, .iconst (0), .aload 0, .getfield 1022, .iload 2, .iconst (1), .iadd, .iconst (7), .imul, .iconst (7), .invokestatic 0, .aload 0, .dup, .getfield 1010, .iconst (1), .iadd, .putfield 1010, .iload 2, .ireturn], 41)]
theorem k_X1_take : chkB T_X1_take cX1_take B_X1_take = true := by decide +kernel
theorem cw_X1_take : calW Y_X1_take := ⟨pn_X1, Or.inr (Or.inl ⟨rfl, rfl⟩), w_587, w_5, mh_X1, by decide⟩
theorem cl_X1_take {o : OM} {Y : Pk} {d d2 idx : Nat} {C : Ctr} (hS : Sound o Y_X1_take d2 C) (hd : d2 + 1 ≤ d) (hl : Cond.methodLink (yN Y).cls idx yX1_take ∈ wsG ∨ ∃ host, Cond.methodLinkNest (yN Y).cls idx yX1_take host ∈ nestW) : CallOK o Y d (.invokevirtual idx) (2, rcv 1 3 C) := callV_ok hS hd cw_X1_take hl w_586 wp_17 (Or.inl ⟨TX1, 3, rfl⟩) (by decide +kernel)
def Y_X1_halvesAhead : Pk := (yX1_halvesAhead, cX1_halvesAhead, 6, some .int, 1)
def T_X1_halvesAhead : Tb := ([(19, 1002)], [], [], [], [(38, 0), (44, 1), (47, 2)], [], 6)
def V_X1_halvesAhead : List (Nat × Nat) := [(0, 4), (6, 6), (48, 6)]
def B_X1_halvesAhead : Bk := [(0, [.iconst (0), .istore 4, .iconst (0), .istore 5], 6), (6, [.iload 5, .iload 3, .if_icmp .ge 48, .iload 4, .aload 0, .iload 1, .aload 0, .getfield 1002, .iload 2, .iload 5, .invokestatic 0, .aload 0, .getfield 1002, .iload 2, .iload 5, .invokestatic 1, .invokestatic 2, .iadd, .istore 4, .iinc 5 1, .goto 6], 48), (48, [.iload 4, .ireturn], 51)]
theorem k_X1_halvesAhead : chkB T_X1_halvesAhead cX1_halvesAhead B_X1_halvesAhead = true := by decide +kernel
theorem cw_X1_halvesAhead : calW Y_X1_halvesAhead := ⟨pn_X1, Or.inr (Or.inl ⟨rfl, rfl⟩), w_410, w_5, mh_X1, by decide⟩
theorem cl_X1_halvesAhead {o : OM} {Y : Pk} {d d2 idx : Nat} {C : Ctr} (hS : Sound o Y_X1_halvesAhead d2 C) (hd : d2 + 1 ≤ d) (hl : Cond.methodLink (yN Y).cls idx yX1_halvesAhead ∈ wsG ∨ ∃ host, Cond.methodLinkNest (yN Y).cls idx yX1_halvesAhead host ∈ nestW) : CallOK o Y d (.invokevirtual idx) (4, rcv 1 6 C) := callV_ok hS hd cw_X1_halvesAhead hl w_409 wp_8 (Or.inl ⟨TX1, 3, rfl⟩) (by decide +kernel)
def Y_X3_findAshes : Pk := (yX3_findAshes, cX3_findAshes, 6, none, 0)
def T_X3_findAshes : Tb := ([(26, 3072), (59, 3022), (132, 103), (51, 3002), (85, 6000), (136, 6022), (55, 3012)], [], [], [], [(139, 1), (143, 2), (146, 3)], [(72, 0)], 6)
def V_X3_findAshes : List (Nat × Nat) := [(0, 1), (10, 2), (35, 4), (107, 6), (128, 4), (134, 2)]
def B_X3_findAshes : Bk := [(0, [.aload 0, .getfield 3072, .iconst (-1), .invokestatic 0, .iconst (0), .istore 1], 10), (10, [.aload 0, .getfield 3022, .getfield 103, .ifCond .eq 134, .iload 1, .aload 0, .getfield 3002, .getfield 6000, .if_icmp .ge 134, .iconst (0), .istore 2, .iconst (0), .istore 3], 35), (35, [.iload 3, .aload 0, .getfield 3002, .getfield 6022, .iload 1, .iaload, .if_icmp .ge 128, .aload 0, .getfield 3002, .iload 1, .iload 3, .invokestatic 1, .istore 4, .aload 0, .getfield 3002, .iload 1, .iload 3, .invokestatic 2, .istore 5, .iload 4, .iconst (5), .if_icmp .ne 107, .aload 0, .getfield 3072, .iload 1, .iconst (10), .imul, .iload 5, .iadd, .iaload, .iconst (-1), .if_icmp .ne 107, .aload 0, .getfield 3072, .iload 1, .iconst (10), .imul, .iload 5, .iadd, .iload 2, .iconst (2), .idiv, .iastore], 107), (107, [.iload 2, .aload 0, .getfield 3012, .iconst (-1), .iload 4, .iload 5, .invokestatic 3, .iadd, .istore 2, .iinc 3 1, .goto 35], 128), (128, [.iinc 1 1, .goto 10], 134), (134, [.return_], 135)]
theorem k_X3_findAshes : chkB T_X3_findAshes cX3_findAshes B_X3_findAshes = true := by decide +kernel
theorem cw_X3_findAshes : calW Y_X3_findAshes := ⟨pn_X3, Or.inl ⟨rfl, rfl⟩, w_842, w_10, mh_X3, by decide⟩
theorem cl_X3_findAshes {o : OM} {Y : Pk} {d d2 idx : Nat} {C : Ctr} (hS : Sound o Y_X3_findAshes d2 C) (hd : d2 + 1 ≤ d) (hl : Cond.methodLink (yN Y).cls idx yX3_findAshes ∈ wsG ∨ ∃ host, Cond.methodLinkNest (yN Y).cls idx yX3_findAshes host ∈ nestW) : CallOK o Y d (.invokevirtual idx) (1, rcv 3 6 C) := callV_ok hS hd cw_X3_findAshes hl w_841 wp_51 (Or.inl ⟨TX3, 15, rfl⟩) (by decide +kernel)
def Y_X3_firstPitWithAsh : Pk := (yX3_firstPitWithAsh, cX3_firstPitWithAsh, 3, some .int, 1)
def T_X3_firstPitWithAsh : Tb := ([(51, 3002), (85, 6000)], [], [], [], [(156, 0)], [], 3)
def V_X3_firstPitWithAsh : List (Nat × Nat) := [(0, 2), (2, 3), (24, 3), (30, 3)]
def B_X3_firstPitWithAsh : Bk := [(0, [.iconst (0), .istore 2], 2), (2, [.iload 2, .aload 0, .getfield 3002, .getfield 6000, .if_icmp .ge 30, .aload 0, .iload 2, .iload 1, .invokestatic 0, .ifCond .eq 24, .iload 2, .ireturn], 24), (24, [.iinc 2 1, .goto 2], 30), (30, [.iconst (-1), .ireturn], 32)]
theorem k_X3_firstPitWithAsh : chkB T_X3_firstPitWithAsh cX3_firstPitWithAsh B_X3_firstPitWithAsh = true := by decide +kernel
theorem cw_X3_firstPitWithAsh : calW Y_X3_firstPitWithAsh := ⟨pn_X3, Or.inr (Or.inl ⟨rfl, rfl⟩), w_853, w_10, mh_X3, by decide⟩
theorem cl_X3_firstPitWithAsh {o : OM} {Y : Pk} {d d2 idx : Nat} {C : Ctr} (hS : Sound o Y_X3_firstPitWithAsh d2 C) (hd : d2 + 1 ≤ d) (hl : Cond.methodLink (yN Y).cls idx yX3_firstPitWithAsh ∈ wsG ∨ ∃ host, Cond.methodLinkNest (yN Y).cls idx yX3_firstPitWithAsh host ∈ nestW) : CallOK o Y d (.invokevirtual idx) (2, rcv 3 3 C) := callV_ok hS hd cw_X3_firstPitWithAsh hl w_852 wp_53 (Or.inl ⟨TX3, 15, rfl⟩) (by decide +kernel)
def Y_X3_bind : Pk := (yX3_bind, cX3_bind, 5, some .boolean, 2)
def T_X3_bind : Tb := ([], [], [], [], [], [(160, 0)], 5)
def V_X3_bind : List (Nat × Nat) := [(0, 5), (26, 5), (27, 5)]
def B_X3_bind : Bk := [(0, [.aload 0, .iload 1, .iload 2, .iload 4, .invokestatic 0, .ifCond .eq 26, .aload 0, .iload 2, .iload 1, .iload 3, .ineg, .invokestatic 0, .ifCond .eq 26, .iconst (1), .goto 27], 26), (26, [.iconst (0)], 27), (27, [.ireturn], 28)]
theorem k_X3_bind : chkB T_X3_bind cX3_bind B_X3_bind = true := by decide +kernel
theorem cw_X3_bind : calW Y_X3_bind := ⟨pn_X3, Or.inr (Or.inr (Or.inl ⟨rfl, rfl⟩)), w_860, w_10, mh_X3, by decide⟩
theorem cl_X3_bind {o : OM} {Y : Pk} {d d2 idx : Nat} {C : Ctr} (hS : Sound o Y_X3_bind d2 C) (hd : d2 + 1 ≤ d) (hl : Cond.methodLink (yN Y).cls idx yX3_bind ∈ wsG ∨ ∃ host, Cond.methodLinkNest (yN Y).cls idx yX3_bind host ∈ nestW) : CallOK o Y d (.invokestatic idx) (5, arg 5 C) := callS_ok hS hd cw_X3_bind hl w_859 (by decide +kernel)
def Y_X3_groups : Pk := (yX3_groups, cX3_groups, 3, some .int, 1)
def T_X3_groups : Tb := ([(51, 3002), (85, 6000), (29, 3082)], [], [], [], [], [(172, 0)], 3)
def V_X3_groups : List (Nat × Nat) := [(0, 1), (4, 3), (32, 3)]
def B_X3_groups : Bk := [(0, [.iconst (0), .istore 1, .iconst (0), .istore 2], 4), (4, [.iload 2, .aload 0, .getfield 3002, .getfield 6000, .if_icmp .ge 32, .iload 1, .iconst (1), .aload 0, .getfield 3082, .iload 2, .iaload, .ishl, .ior, .istore 1, .iinc 2 1, .goto 4], 32), (32, [.iload 1, .invokestatic 0, .ireturn], 37)]
theorem k_X3_groups : chkB T_X3_groups cX3_groups B_X3_groups = true := by decide +kernel
theorem cw_X3_groups : calW Y_X3_groups := ⟨pn_X3, Or.inr (Or.inl ⟨rfl, rfl⟩), w_915, w_10, mh_X3, by decide⟩
theorem cl_X3_groups {o : OM} {Y : Pk} {d d2 idx : Nat} {C : Ctr} (hS : Sound o Y_X3_groups d2 C) (hd : d2 + 1 ≤ d) (hl : Cond.methodLink (yN Y).cls idx yX3_groups ∈ wsG ∨ ∃ host, Cond.methodLinkNest (yN Y).cls idx yX3_groups host ∈ nestW) : CallOK o Y d (.invokevirtual idx) (1, rcv 3 3 C) := callV_ok hS hd cw_X3_groups hl w_914 wp_63 (Or.inl ⟨TX3, 15, rfl⟩) (by decide +kernel)
def Y_X3_copyLevel : Pk := (yX3_copyLevel, cX3_copyLevel, 2, none, 0)
def T_X3_copyLevel : Tb := ([(23, 3062)], [], [], [], [], [(105, 0)], 2)
def V_X3_copyLevel : List (Nat × Nat) := [(0, 2)]
def B_X3_copyLevel : Bk := [(0, [.aload 0, .getfield 3062, .iload 1, .aaload, .iconst (0), .aload 0, .getfield 3062, .iload 1, .iconst (1), .iadd, .aaload, .iconst (0), .iconst (64), .invokestatic 0, .return_], 22)]
theorem k_X3_copyLevel : chkB T_X3_copyLevel cX3_copyLevel B_X3_copyLevel = true := by decide +kernel
theorem cw_X3_copyLevel : calW Y_X3_copyLevel := ⟨pn_X3, Or.inl ⟨rfl, rfl⟩, w_945, w_10, mh_X3, by decide⟩
theorem cl_X3_copyLevel {o : OM} {Y : Pk} {d d2 idx : Nat} {C : Ctr} (hS : Sound o Y_X3_copyLevel d2 C) (hd : d2 + 1 ≤ d) (hl : Cond.methodLink (yN Y).cls idx yX3_copyLevel ∈ wsG ∨ ∃ host, Cond.methodLinkNest (yN Y).cls idx yX3_copyLevel host ∈ nestW) : CallOK o Y d (.invokevirtual idx) (2, rcv 3 2 C) := callV_ok hS hd cw_X3_copyLevel hl w_944 wp_68 (Or.inl ⟨TX3, 15, rfl⟩) (by decide +kernel)
def Y_X3_considerCast : Pk := (yX3_considerCast, cX3_considerCast, 5, none, 0)
def T_X3_considerCast : Tb := ([(36, 3100), (39, 3110), (32, 3090)], [], [], [], [], [(172, 0)], 5)
def V_X3_considerCast : List (Nat × Nat) := [(0, 3), (37, 4), (41, 4), (42, 4), (72, 5)]
def B_X3_considerCast : Bk := [(0, [.iload 1, .invokestatic 0, .istore 3, .iload 3, .aload 0, .getfield 3100, .if_icmp .lt 37, .iload 2, .aload 0, .getfield 3110, .if_icmp .gt 37, .iload 2, .aload 0, .getfield 3110, .if_icmp .ne 41, .iload 1, .aload 0, .getfield 3090, .if_icmp .ge 41], 37), (37, [.iconst (1), .goto 42], 41), (41, [.iconst (0)], 42), (42, [.istore 4, .iload 3, .aload 0, .getfield 3100, .if_icmp .gt 72, .iload 4, .ifCond .eq 72, .aload 0, .iload 1, .putfield 3090, .aload 0, .iload 3, .putfield 3100, .aload 0, .iload 2, .putfield 3110], 72), (72, [.return_], 73)]
theorem k_X3_considerCast : chkB T_X3_considerCast cX3_considerCast B_X3_considerCast = true := by decide +kernel
theorem cw_X3_considerCast : calW Y_X3_considerCast := ⟨pn_X3, Or.inl ⟨rfl, rfl⟩, w_941, w_10, mh_X3, by decide⟩
theorem cl_X3_considerCast {o : OM} {Y : Pk} {d d2 idx : Nat} {C : Ctr} (hS : Sound o Y_X3_considerCast d2 C) (hd : d2 + 1 ≤ d) (hl : Cond.methodLink (yN Y).cls idx yX3_considerCast ∈ wsG ∨ ∃ host, Cond.methodLinkNest (yN Y).cls idx yX3_considerCast host ∈ nestW) : CallOK o Y d (.invokevirtual idx) (3, rcv 3 5 C) := callV_ok hS hd cw_X3_considerCast hl w_940 wp_67 (Or.inl ⟨TX3, 15, rfl⟩) (by decide +kernel)
def Y_X3_mostIfApart : Pk := (yX3_mostIfApart, cX3_mostIfApart, 8, some .int, 1)
def T_X3_mostIfApart : Tb := ([(11, 3032)], [], [], [], [], [(221, 0)], 8)
def V_X3_mostIfApart : List (Nat × Nat) := [(0, 6)]
def B_X3_mostIfApart : Bk := [(0, [.aload 0, .getfield 3032, .iload 4, .iconst (8), .imul, .iload 1, .iadd, .iaload, .iload 3, .iadd, .aload 0, .getfield 3032, .iload 2, .iconst (8), .imul, .iload 5, .iadd, .iaload, .iadd, .istore 6, .aload 0, .getfield 3032, .iload 4, .iconst (8), .imul, .iload 2, .iadd, .iaload, .iload 3, .isub, .aload 0, .getfield 3032, .iload 1, .iconst (8), .imul, .iload 5, .iadd, .iaload, .iadd, .istore 7, .aload 0, .getfield 3032, .iload 4, .iconst (8), .imul, .iload 5, .iadd, .iaload, .iload 6, .iload 7, .invokestatic 0, .invokestatic 0, .ireturn], 82)]
theorem k_X3_mostIfApart : chkB T_X3_mostIfApart cX3_mostIfApart B_X3_mostIfApart = true := by decide +kernel
theorem cw_X3_mostIfApart : calW Y_X3_mostIfApart := ⟨pn_X3, Or.inr (Or.inl ⟨rfl, rfl⟩), w_984, w_10, mh_X3, by decide⟩
theorem cl_X3_mostIfApart {o : OM} {Y : Pk} {d d2 idx : Nat} {C : Ctr} (hS : Sound o Y_X3_mostIfApart d2 C) (hd : d2 + 1 ≤ d) (hl : Cond.methodLink (yN Y).cls idx yX3_mostIfApart ∈ wsG ∨ ∃ host, Cond.methodLinkNest (yN Y).cls idx yX3_mostIfApart host ∈ nestW) : CallOK o Y d (.invokevirtual idx) (6, rcv 3 8 C) := callV_ok hS hd cw_X3_mostIfApart hl w_983 wp_75 (Or.inl ⟨TX3, 15, rfl⟩) (by decide +kernel)
def Y_X5_stepOfTheWay : Pk := (yX5_stepOfTheWay, cX5_stepOfTheWay, 2, some .int, 1)
def T_X5_stepOfTheWay : Tb := ([(58, 5170), (55, 5162)], [], [], [], [], [(103, 0)], 2)
def V_X5_stepOfTheWay : List (Nat × Nat) := [(0, 2), (23, 2), (24, 2)]
def B_X5_stepOfTheWay : Bk := [(0, [.iload 1, .iconst (0), .aload 0, .getfield 5170, .iconst (1), .isub, .invokestatic 0, .ifCond .eq 23, .aload 0, .getfield 5162, .iload 1, .iaload, .goto 24], 23), (23, [.iconst (-1)], 24), (24, [.ireturn], 25)]
theorem k_X5_stepOfTheWay : chkB T_X5_stepOfTheWay cX5_stepOfTheWay B_X5_stepOfTheWay = true := by decide +kernel
theorem cw_X5_stepOfTheWay : calW Y_X5_stepOfTheWay := ⟨pn_X5, Or.inr (Or.inl ⟨rfl, rfl⟩), w_762, w_9, mh_X5, by decide⟩
theorem cl_X5_stepOfTheWay {o : OM} {Y : Pk} {d d2 idx : Nat} {C : Ctr} (hS : Sound o Y_X5_stepOfTheWay d2 C) (hd : d2 + 1 ≤ d) (hl : Cond.methodLink (yN Y).cls idx yX5_stepOfTheWay ∈ wsG ∨ ∃ host, Cond.methodLinkNest (yN Y).cls idx yX5_stepOfTheWay host ∈ nestW) : CallOK o Y d (.invokevirtual idx) (2, rcv 5 2 C) := callV_ok hS hd cw_X5_stepOfTheWay hl w_761 wp_41 (Or.inl ⟨TX5, 20, rfl⟩) (by decide +kernel)
def Y_X5_priceOfOneOnOne : Pk := (yX5_priceOfOneOnOne, cX5_priceOfOneOnOne, 4, some .int, 1)
def T_X5_priceOfOneOnOne : Tb := ([(37, 5100), (9, 5022), (15, 5032), (18, 5042), (21, 5052), (40, 5110)], [], [], [], [], [(146, 0)], 4)
def V_X5_priceOfOneOnOne : List (Nat × Nat) := [(0, 3), (41, 4), (47, 4)]
def B_X5_priceOfOneOnOne : Bk := [(0, [.aload 0, .getfield 5100, .aload 0, .getfield 5022, .iload 1, .iaload, .aload 0, .getfield 5032, .iload 2, .iaload, .isub, .invokestatic 0, .imul, .istore 3, .aload 0, .getfield 5042, .iload 1, .iaload, .aload 0, .getfield 5052, .iload 2, .iaload, .if_icmp .ne 41, .iload 3, .goto 47], 41), (41, [.iload 3, .aload 0, .getfield 5110, .iadd], 47), (47, [.ireturn], 48)]
theorem k_X5_priceOfOneOnOne : chkB T_X5_priceOfOneOnOne cX5_priceOfOneOnOne B_X5_priceOfOneOnOne = true := by decide +kernel
theorem cw_X5_priceOfOneOnOne : calW Y_X5_priceOfOneOnOne := ⟨pn_X5, Or.inr (Or.inl ⟨rfl, rfl⟩), w_727, w_9, mh_X5, by decide⟩
theorem cl_X5_priceOfOneOnOne {o : OM} {Y : Pk} {d d2 idx : Nat} {C : Ctr} (hS : Sound o Y_X5_priceOfOneOnOne d2 C) (hd : d2 + 1 ≤ d) (hl : Cond.methodLink (yN Y).cls idx yX5_priceOfOneOnOne ∈ wsG ∨ ∃ host, Cond.methodLinkNest (yN Y).cls idx yX5_priceOfOneOnOne host ∈ nestW) : CallOK o Y d (.invokevirtual idx) (3, rcv 5 4 C) := callV_ok hS hd cw_X5_priceOfOneOnOne hl w_726 wp_35 (Or.inl ⟨TX5, 20, rfl⟩) (by decide +kernel)
def Y_X5_priceOfDoubled : Pk := (yX5_priceOfDoubled, cX5_priceOfDoubled, 3, some .int, 1)
def T_X5_priceOfDoubled : Tb := ([(34, 5090), (37, 5100), (40, 5110)], [], [], [], [], [(146, 0)], 3)
def V_X5_priceOfDoubled : List (Nat × Nat) := [(0, 3)]
def B_X5_priceOfDoubled : Bk := [(0, [.aload 0, .getfield 5090, .aload 0, .getfield 5100, .iload 1, .invokestatic 0, .imul, .iadd, .aload 0, .getfield 5110, .iload 2, .imul, .iadd, .ireturn], 22)]
theorem k_X5_priceOfDoubled : chkB T_X5_priceOfDoubled cX5_priceOfDoubled B_X5_priceOfDoubled = true := by decide +kernel
theorem cw_X5_priceOfDoubled : calW Y_X5_priceOfDoubled := ⟨pn_X5, Or.inr (Or.inl ⟨rfl, rfl⟩), w_740, w_9, mh_X5, by decide⟩
theorem cl_X5_priceOfDoubled {o : OM} {Y : Pk} {d d2 idx : Nat} {C : Ctr} (hS : Sound o Y_X5_priceOfDoubled d2 C) (hd : d2 + 1 ≤ d) (hl : Cond.methodLink (yN Y).cls idx yX5_priceOfDoubled ∈ wsG ∨ ∃ host, Cond.methodLinkNest (yN Y).cls idx yX5_priceOfDoubled host ∈ nestW) : CallOK o Y d (.invokevirtual idx) (3, rcv 5 3 C) := callV_ok hS hd cw_X5_priceOfDoubled hl w_739 wp_36 (Or.inl ⟨TX5, 20, rfl⟩) (by decide +kernel)
def Y_X6_hasLeaf : Pk := (yX6_hasLeaf, cX6_hasLeaf, 3, some .boolean, 2)
def T_X6_hasLeaf : Tb := ([(19, 6022)], [], [], [], [(31, 0)], [], 3)
def V_X6_hasLeaf : List (Nat × Nat) := [(0, 3), (26, 3), (27, 3)]
def B_X6_hasLeaf : Bk := [(0, [.aload 0, .iload 1, .invokestatic 0, .ifCond .eq 26, .iload 2, .ifCond .lt 26, .iload 2, .aload 0, .getfield 6022, .iload 1, .iaload, .if_icmp .ge 26, .iconst (1), .goto 27], 26), (26, [.iconst (0)], 27), (27, [.ireturn], 28)]
theorem k_X6_hasLeaf : chkB T_X6_hasLeaf cX6_hasLeaf B_X6_hasLeaf = true := by decide +kernel
theorem cw_X6_hasLeaf : calW Y_X6_hasLeaf := ⟨pn_X6, Or.inr (Or.inr (Or.inl ⟨rfl, rfl⟩)), w_386, w_2, mh_X6, by decide⟩
theorem cl_X6_hasLeaf {o : OM} {Y : Pk} {d d2 idx : Nat} {C : Ctr} (hS : Sound o Y_X6_hasLeaf d2 C) (hd : d2 + 1 ≤ d) (hl : Cond.methodLink (yN Y).cls idx yX6_hasLeaf ∈ wsG ∨ ∃ host, Cond.methodLinkNest (yN Y).cls idx yX6_hasLeaf host ∈ nestW) : CallOK o Y d (.invokevirtual idx) (3, rcv 6 3 C) := callV_ok hS hd cw_X6_hasLeaf hl w_385 wp_4 (Or.inl ⟨TX6, 6, rfl⟩) (by decide +kernel)
def Y_X6_push : Pk := (yX6_push, cX6_push, 6, none, 0)
def T_X6_push : Tb := ([(19, 6022)], [], [], [], [(35, 0)], [], 6)
def V_X6_push : List (Nat × Nat) := [(0, 5), (36, 6)]
def B_X6_push : Bk := [(0, [.aload 0, .getfield 6022, .iload 1, .iaload, .istore 5, .iload 5, .iconst (16), .if_icmp .ge 36, .aload 0, .getfield 6022, .iload 1, .iload 5, .iconst (1), .iadd, .iastore, .aload 0, .iload 1, .iload 5, .iload 2, .iload 3, .iload 4, .invokestatic 0], 36), (36, [.return_], 37)]
theorem k_X6_push : chkB T_X6_push cX6_push B_X6_push = true := by decide +kernel
theorem cw_X6_push : calW Y_X6_push := ⟨pn_X6, Or.inl ⟨rfl, rfl⟩, w_374, w_2, mh_X6, by decide⟩
theorem cl_X6_push {o : OM} {Y : Pk} {d d2 idx : Nat} {C : Ctr} (hS : Sound o Y_X6_push d2 C) (hd : d2 + 1 ≤ d) (hl : Cond.methodLink (yN Y).cls idx yX6_push ∈ wsG ∨ ∃ host, Cond.methodLinkNest (yN Y).cls idx yX6_push host ∈ nestW) : CallOK o Y d (.invokevirtual idx) (5, rcv 6 6 C) := callV_ok hS hd cw_X6_push hl w_373 wp_2 (Or.inl ⟨TX6, 6, rfl⟩) (by decide +kernel)
def Y_X6_isAsh : Pk := (yX6_isAsh, cX6_isAsh, 3, some .boolean, 2)
def T_X6_isAsh : Tb := ([], [], [], [], [(39, 0)], [], 3)
def V_X6_isAsh : List (Nat × Nat) := [(0, 3), (14, 3), (15, 3)]
def B_X6_isAsh : Bk := [(0, [.aload 0, .iload 1, .iload 2, .invokestatic 0, .iconst (5), .if_icmp .ne 14, .iconst (1), .goto 15], 14), (14, [.iconst (0)], 15), (15, [.ireturn], 16)]
theorem k_X6_isAsh : chkB T_X6_isAsh cX6_isAsh B_X6_isAsh = true := by decide +kernel
theorem cw_X6_isAsh : calW Y_X6_isAsh := ⟨pn_X6, Or.inr (Or.inr (Or.inl ⟨rfl, rfl⟩)), w_648, w_2, mh_X6, by decide⟩
theorem cl_X6_isAsh {o : OM} {Y : Pk} {d d2 idx : Nat} {C : Ctr} (hS : Sound o Y_X6_isAsh d2 C) (hd : d2 + 1 ≤ d) (hl : Cond.methodLink (yN Y).cls idx yX6_isAsh ∈ wsG ∨ ∃ host, Cond.methodLinkNest (yN Y).cls idx yX6_isAsh host ∈ nestW) : CallOK o Y d (.invokevirtual idx) (3, rcv 6 3 C) := callV_ok hS hd cw_X6_isAsh hl w_647 wp_23 (Or.inl ⟨TX6, 6, rfl⟩) (by decide +kernel)
def Y_X6_stepBetween : Pk := (yX6_stepBetween, cX6_stepBetween, 4, some .int, 1)
def T_X6_stepBetween : Tb := ([], [], [], [], [(43, 0)], [(46, 1)], 4)
def V_X6_stepBetween : List (Nat × Nat) := [(0, 4)]
def B_X6_stepBetween : Bk := [(0, [.aload 0, .iload 1, .iload 3, .invokestatic 0, .aload 0, .iload 1, .iload 2, .invokestatic 0, .invokestatic 1, .ireturn], 16)]
theorem k_X6_stepBetween : chkB T_X6_stepBetween cX6_stepBetween B_X6_stepBetween = true := by decide +kernel
theorem cw_X6_stepBetween : calW Y_X6_stepBetween := ⟨pn_X6, Or.inr (Or.inl ⟨rfl, rfl⟩), w_434, w_2, mh_X6, by decide⟩
theorem cl_X6_stepBetween {o : OM} {Y : Pk} {d d2 idx : Nat} {C : Ctr} (hS : Sound o Y_X6_stepBetween d2 C) (hd : d2 + 1 ≤ d) (hl : Cond.methodLink (yN Y).cls idx yX6_stepBetween ∈ wsG ∨ ∃ host, Cond.methodLinkNest (yN Y).cls idx yX6_stepBetween host ∈ nestW) : CallOK o Y d (.invokevirtual idx) (4, rcv 6 4 C) := callV_ok hS hd cw_X6_stepBetween hl w_433 wp_13 (Or.inl ⟨TX6, 6, rfl⟩) (by decide +kernel)
def Y_X6_hasFloodBetween : Pk := (yX6_hasFloodBetween, cX6_hasFloodBetween, 5, some .boolean, 2)
def T_X6_hasFloodBetween : Tb := ([], [], [], [], [(39, 0)], [], 5)
def V_X6_hasFloodBetween : List (Nat × Nat) := [(0, 4), (5, 5), (24, 5), (30, 5)]
def B_X6_hasFloodBetween : Bk := [(0, [.iload 2, .iconst (1), .iadd, .istore 4], 5), (5, [.iload 4, .iload 3, .if_icmp .ge 30, .aload 0, .iload 1, .iload 4, .invokestatic 0, .iconst (4), .if_icmp .ne 24, .iconst (1), .ireturn], 24), (24, [.iinc 4 1, .goto 5], 30), (30, [.iconst (0), .ireturn], 32)]
theorem k_X6_hasFloodBetween : chkB T_X6_hasFloodBetween cX6_hasFloodBetween B_X6_hasFloodBetween = true := by decide +kernel
theorem cw_X6_hasFloodBetween : calW Y_X6_hasFloodBetween := ⟨pn_X6, Or.inr (Or.inr (Or.inl ⟨rfl, rfl⟩)), w_1024, w_2, mh_X6, by decide⟩
theorem cl_X6_hasFloodBetween {o : OM} {Y : Pk} {d d2 idx : Nat} {C : Ctr} (hS : Sound o Y_X6_hasFloodBetween d2 C) (hd : d2 + 1 ≤ d) (hl : Cond.methodLink (yN Y).cls idx yX6_hasFloodBetween ∈ wsG ∨ ∃ host, Cond.methodLinkNest (yN Y).cls idx yX6_hasFloodBetween host ∈ nestW) : CallOK o Y d (.invokevirtual idx) (4, rcv 6 5 C) := callV_ok hS hd cw_X6_hasFloodBetween hl w_1023 wp_81 (Or.inl ⟨TX6, 6, rfl⟩) (by decide +kernel)
def Y_X6_copyFrom : Pk := (yX6_copyFrom, cX6_copyFrom, 2, none, 0)
def T_X6_copyFrom : Tb := ([(9, 6000), (15, 6012), (19, 6022), (22, 6032), (25, 6042), (28, 6052)], [], [], [], [], [(65, 0)], 2)
def V_X6_copyFrom : List (Nat × Nat) := [(0, 2)]
def B_X6_copyFrom : Bk := [(0, [.aload 0, .aload 1, .getfield 6000, .putfield 6000, .aload 1, .getfield 6012, .iconst (0), .aload 0, .getfield 6012, .iconst (0), .iconst (7), .invokestatic 0, .aload 1, .getfield 6022, .iconst (0), .aload 0, .getfield 6022, .iconst (0), .iconst (7), .invokestatic 0, .aload 1, .getfield 6032, .iconst (0), .aload 0, .getfield 6032, .iconst (0), .iconst (112), .invokestatic 0, .aload 1, .getfield 6042, .iconst (0), .aload 0, .getfield 6042, .iconst (0), .iconst (112), .invokestatic 0, .aload 1, .getfield 6052, .iconst (0), .aload 0, .getfield 6052, .iconst (0), .iconst (112), .invokestatic 0, .return_], 84)]
theorem k_X6_copyFrom : chkB T_X6_copyFrom cX6_copyFrom B_X6_copyFrom = true := by decide +kernel
theorem cw_X6_copyFrom : calW Y_X6_copyFrom := ⟨pn_X6, Or.inl ⟨rfl, rfl⟩, w_1032, w_2, mh_X6, by decide⟩
theorem cl_X6_copyFrom {o : OM} {Y : Pk} {d d2 idx : Nat} {C : Ctr} (hS : Sound o Y_X6_copyFrom d2 C) (hd : d2 + 1 ≤ d) (hl : Cond.methodLink (yN Y).cls idx yX6_copyFrom ∈ wsG ∨ ∃ host, Cond.methodLinkNest (yN Y).cls idx yX6_copyFrom host ∈ nestW) : CallOK o Y d (.invokevirtual idx) (2, rcv 6 2 C) := callV_ok hS hd cw_X6_copyFrom hl w_1031 wp_82 (Or.inl ⟨TX6, 6, rfl⟩) (by decide +kernel)
def Y_X7_overOf : Pk := (yX7_overOf, cX7_overOf, 6, some .int, 1)
def T_X7_overOf : Tb := ([(9, 7002), (21, 6022)], [], [], [], [], [(15, 0), (27, 1)], 6)
def V_X7_overOf : List (Nat × Nat) := [(0, 4)]
def B_X7_overOf : Bk := [(0, [.iconst (0), .iload 3, .invokestatic 0, .istore 4, .aload 0, .getfield 7002, .getfield 6022, .iload 1, .iaload, .aload 0, .getfield 7002, .getfield 6022, .iload 2, .iaload, .iload 3, .iadd, .invokestatic 1, .istore 5, .iconst (0), .iload 5, .iload 4, .isub, .invokestatic 0, .ireturn], 42)]
theorem k_X7_overOf : chkB T_X7_overOf cX7_overOf B_X7_overOf = true := by decide +kernel
theorem cw_X7_overOf : calW Y_X7_overOf := ⟨pn_X7, Or.inr (Or.inl ⟨rfl, rfl⟩), w_633, w_8, mh_X7, by decide⟩
theorem cl_X7_overOf {o : OM} {Y : Pk} {d d2 idx : Nat} {C : Ctr} (hS : Sound o Y_X7_overOf d2 C) (hd : d2 + 1 ≤ d) (hl : Cond.methodLink (yN Y).cls idx yX7_overOf ∈ wsG ∨ ∃ host, Cond.methodLinkNest (yN Y).cls idx yX7_overOf host ∈ nestW) : CallOK o Y d (.invokevirtual idx) (4, rcv 7 6 C) := callV_ok hS hd cw_X7_overOf hl w_632 wp_21 (Or.inl ⟨TX7, 1, rfl⟩) (by decide +kernel)
def Y_X8_pit : Pk := (yX8_pit, cX8_pit, 2, some .int, 1)
def T_X8_pit : Tb := ([(10, 8002), (92, 6000)], [], [], [], [(95, 1)], [(88, 0)], 2)
def V_X8_pit : List (Nat × Nat) := [(0, 2), (14, 2), (29, 2)]
def B_X8_pit : Bk := [(0, [.iload 1, .iconst (0), .iconst (240), .invokestatic 0, .ifCond .ne 14, .iconst (-102), .ireturn], 14), (14, [.aload 0, .getfield 8002, .getfield 6000, .iconst (7), .if_icmp .lt 29, .iconst (-104), .ireturn], 29), (29, [.aload 0, .getfield 8002, .iload 1, .invokestatic 1, .ireturn], 38)]
theorem k_X8_pit : chkB T_X8_pit cX8_pit B_X8_pit = true := by decide +kernel
theorem cw_X8_pit : calW Y_X8_pit := ⟨pn_X8, Or.inr (Or.inl ⟨rfl, rfl⟩), w_352, w_1, mh_X8, by decide⟩
theorem cl_X8_pit {o : OM} {Y : Pk} {d d2 idx : Nat} {C : Ctr} (hS : Sound o Y_X8_pit d2 C) (hd : d2 + 1 ≤ d) (hl : Cond.methodLink (yN Y).cls idx yX8_pit ∈ wsG ∨ ∃ host, Cond.methodLinkNest (yN Y).cls idx yX8_pit host ∈ nestW) : CallOK o Y d (.invokevirtual idx) (2, rcv 8 2 C) := callV_ok hS hd cw_X8_pit hl w_350 w_351 (Or.inl ⟨TX8, 13, rfl⟩) (by decide +kernel)
def Y_X8_keep : Pk := (yX8_keep, cX8_keep, 4, some .int, 1)
def T_X8_keep : Tb := ([(19, 8012), (237, 0)], [], [], [], [(244, 1), (251, 3)], [(88, 0), (247, 2)], 4)
def V_X8_keep : List (Nat × Nat) := [(0, 3), (20, 3)]
def B_X8_keep : Bk := [(0, [.iload 1, .iconst (0), .aload 0, .getfield 8012, .getfield 0, .iconst (1), .isub, .invokestatic 0, .ifCond .ne 20, .iconst (-101), .ireturn], 20), (20, [.aload 0, .getfield 8012, .iload 1, .invokestatic 1, .invokestatic 2, .istore 3, .aload 0, .getfield 8012, .iload 1, .iload 2, .invokestatic 3, .iload 3, .ireturn], 43)]
theorem k_X8_keep : chkB T_X8_keep cX8_keep B_X8_keep = true := by decide +kernel
theorem cw_X8_keep : calW Y_X8_keep := ⟨pn_X8, Or.inr (Or.inl ⟨rfl, rfl⟩), w_794, w_1, mh_X8, by decide⟩
theorem cl_X8_keep {o : OM} {Y : Pk} {d d2 idx : Nat} {C : Ctr} (hS : Sound o Y_X8_keep d2 C) (hd : d2 + 1 ≤ d) (hl : Cond.methodLink (yN Y).cls idx yX8_keep ∈ wsG ∨ ∃ host, Cond.methodLinkNest (yN Y).cls idx yX8_keep host ∈ nestW) : CallOK o Y d (.invokevirtual idx) (3, rcv 8 4 C) := callV_ok hS hd cw_X8_keep hl w_792 w_793 (Or.inl ⟨TX8, 13, rfl⟩) (by decide +kernel)
def Y_X8_untie : Pk := (yX8_untie, cX8_untie, 3, some .int, 1)
def T_X8_untie : Tb := ([(10, 8002), (19, 8012)], [], [], [], [(99, 0), (255, 1), (261, 3)], [(247, 2)], 3)
def V_X8_untie : List (Nat × Nat) := [(0, 2), (14, 2)]
def B_X8_untie : Bk := [(0, [.aload 0, .getfield 8002, .iload 1, .invokestatic 0, .ifCond .ne 14, .iconst (-101), .ireturn], 14), (14, [.aload 0, .getfield 8012, .iload 1, .invokestatic 1, .invokestatic 2, .istore 2, .aload 0, .getfield 8012, .iload 1, .invokestatic 3, .iload 2, .ireturn], 36)]
theorem k_X8_untie : chkB T_X8_untie cX8_untie B_X8_untie = true := by decide +kernel
theorem cw_X8_untie : calW Y_X8_untie := ⟨pn_X8, Or.inr (Or.inl ⟨rfl, rfl⟩), w_816, w_1, mh_X8, by decide⟩
theorem cl_X8_untie {o : OM} {Y : Pk} {d d2 idx : Nat} {C : Ctr} (hS : Sound o Y_X8_untie d2 C) (hd : d2 + 1 ≤ d) (hl : Cond.methodLink (yN Y).cls idx yX8_untie ∈ wsG ∨ ∃ host, Cond.methodLinkNest (yN Y).cls idx yX8_untie host ∈ nestW) : CallOK o Y d (.invokevirtual idx) (2, rcv 8 3 C) := callV_ok hS hd cw_X8_untie hl w_814 w_815 (Or.inl ⟨TX8, 13, rfl⟩) (by decide +kernel)
def Y_X8_ashes : Pk := (yX8_ashes, cX8_ashes, 3, some .int, 1)
def T_X8_ashes : Tb := ([(19, 8012), (264, 103)], [], [], [], [], [(247, 0)], 3)
def V_X8_ashes : List (Nat × Nat) := [(0, 2)]
def B_X8_ashes : Bk := [(0, [.aload 0, .getfield 8012, .getfield 103, .invokestatic 0, .istore 2, .aload 0, .getfield 8012, .iload 1, .putfield 103, .iload 2, .ireturn], 21)]
theorem k_X8_ashes : chkB T_X8_ashes cX8_ashes B_X8_ashes = true := by decide +kernel
theorem cw_X8_ashes : calW Y_X8_ashes := ⟨pn_X8, Or.inr (Or.inl ⟨rfl, rfl⟩), w_824, w_1, mh_X8, by decide⟩
theorem cl_X8_ashes {o : OM} {Y : Pk} {d d2 idx : Nat} {C : Ctr} (hS : Sound o Y_X8_ashes d2 C) (hd : d2 + 1 ≤ d) (hl : Cond.methodLink (yN Y).cls idx yX8_ashes ∈ wsG ∨ ∃ host, Cond.methodLinkNest (yN Y).cls idx yX8_ashes host ∈ nestW) : CallOK o Y d (.invokevirtual idx) (2, rcv 8 3 C) := callV_ok hS hd cw_X8_ashes hl w_822 w_823 (Or.inl ⟨TX8, 13, rfl⟩) (by decide +kernel)
def Y_X8_count : Pk := (yX8_count, cX8_count, 2, some .int, 1)
def T_X8_count : Tb := ([(10, 8002), (92, 6000), (45, 8062), (165, 1010), (52, 8072), (173, 2000), (19, 8012), (237, 0), (334, 60), (342, 70), (36, 8052), (151, 4000), (81, 8110), (85, 8120)], [], [], [], [(331, 0)], [(337, 1)], 2)
def V_X8_count : List (Nat × Nat) := [(0, 2), (56, 2), (64, 2), (72, 2), (80, 2), (88, 2), (96, 2), (107, 2), (118, 2), (126, 2), (131, 2), (136, 2)]
def B_X8_count : Bk := [(0, [.iload 1, .tableswitch 136 (0) (9) #[56, 64, 72, 80, 88, 96, 107, 118, 126, 131]], 56), (56, [.aload 0, .getfield 8002, .getfield 6000, .ireturn], 64), (64, [.aload 0, .getfield 8002, .invokestatic 0, .ireturn], 72), (72, [.aload 0, .getfield 8062, .getfield 1010, .ireturn], 80), (80, [.aload 0, .getfield 8072, .getfield 2000, .ireturn], 88), (88, [.aload 0, .getfield 8012, .getfield 0, .ireturn], 96), (96, [.aload 0, .getfield 8012, .getfield 60, .invokestatic 1, .ireturn], 107), (107, [.aload 0, .getfield 8012, .getfield 70, .invokestatic 1, .ireturn], 118), (118, [.aload 0, .getfield 8052, .getfield 4000, .ireturn], 126), (126, [.aload 0, .getfield 8110, .ireturn], 131), (131, [.aload 0, .getfield 8120, .ireturn], 136), (136, [.iconst (-102), .ireturn], 139)]
theorem k_X8_count : chkB T_X8_count cX8_count B_X8_count = true := by decide +kernel
theorem cw_X8_count : calW Y_X8_count := ⟨pn_X8, Or.inr (Or.inl ⟨rfl, rfl⟩), w_1046, w_1, mh_X8, by decide⟩
theorem cl_X8_count {o : OM} {Y : Pk} {d d2 idx : Nat} {C : Ctr} (hS : Sound o Y_X8_count d2 C) (hd : d2 + 1 ≤ d) (hl : Cond.methodLink (yN Y).cls idx yX8_count ∈ wsG ∨ ∃ host, Cond.methodLinkNest (yN Y).cls idx yX8_count host ∈ nestW) : CallOK o Y d (.invokevirtual idx) (2, rcv 8 2 C) := callV_ok hS hd cw_X8_count hl w_1044 w_1045 (Or.inl ⟨TX8, 13, rfl⟩) (by decide +kernel)
def Y_X8_isRange : Pk := (yX8_isRange, cX8_isRange, 3, some .boolean, 2)
def T_X8_isRange : Tb := ([], [], [], [], [], [(88, 0)], 3)
def V_X8_isRange : List (Nat × Nat) := [(0, 3), (23, 3), (24, 3)]
def B_X8_isRange : Bk := [(0, [.iload 0, .iload 2, .ineg, .iload 2, .invokestatic 0, .ifCond .eq 23, .iload 1, .iload 0, .iload 2, .invokestatic 0, .ifCond .eq 23, .iconst (1), .goto 24], 23), (23, [.iconst (0)], 24), (24, [.ireturn], 25)]
theorem k_X8_isRange : chkB T_X8_isRange cX8_isRange B_X8_isRange = true := by decide +kernel
theorem cw_X8_isRange : calW Y_X8_isRange := ⟨pn_X8, Or.inr (Or.inr (Or.inl ⟨rfl, rfl⟩)), w_782, w_1, mh_X8, by decide⟩
theorem cl_X8_isRange {o : OM} {Y : Pk} {d d2 idx : Nat} {C : Ctr} (hS : Sound o Y_X8_isRange d2 C) (hd : d2 + 1 ≤ d) (hl : Cond.methodLink (yN Y).cls idx yX8_isRange ∈ wsG ∨ ∃ host, Cond.methodLinkNest (yN Y).cls idx yX8_isRange host ∈ nestW) : CallOK o Y d (.invokestatic idx) (3, arg 3 C) := callS_ok hS hd cw_X8_isRange hl w_781 (by decide +kernel)
def Y_X8_isSlide : Pk := (yX8_isSlide, cX8_isSlide, 1, some .boolean, 2)
def T_X8_isSlide : Tb := ([], [], [], [], [], [(88, 0)], 1)
def V_X8_isSlide : List (Nat × Nat) := [(0, 1)]
def B_X8_isSlide : Bk := [(0, [.iload 0, .iconst (-15), .iconst (15), .invokestatic 0, .ireturn], 9)]
theorem k_X8_isSlide : chkB T_X8_isSlide cX8_isSlide B_X8_isSlide = true := by decide +kernel
theorem cw_X8_isSlide : calW Y_X8_isSlide := ⟨pn_X8, Or.inr (Or.inr (Or.inl ⟨rfl, rfl⟩)), w_628, w_1, mh_X8, by decide⟩
theorem cl_X8_isSlide {o : OM} {Y : Pk} {d d2 idx : Nat} {C : Ctr} (hS : Sound o Y_X8_isSlide d2 C) (hd : d2 + 1 ≤ d) (hl : Cond.methodLink (yN Y).cls idx yX8_isSlide ∈ wsG ∨ ∃ host, Cond.methodLinkNest (yN Y).cls idx yX8_isSlide host ∈ nestW) : CallOK o Y d (.invokestatic idx) (1, arg 1 C) := callS_ok hS hd cw_X8_isSlide hl w_627 (by decide +kernel)
def Y_X8_isLeafAsTold : Pk := (yX8_isLeafAsTold, cX8_isLeafAsTold, 3, some .boolean, 2)
def T_X8_isLeafAsTold : Tb := ([], [], [], [], [], [(88, 0)], 3)
def V_X8_isLeafAsTold : List (Nat × Nat) := [(0, 3), (34, 3), (35, 3)]
def B_X8_isLeafAsTold : Bk := [(0, [.iload 0, .iconst (0), .iconst (6), .invokestatic 0, .ifCond .eq 34, .iload 1, .iconst (1), .iconst (99), .invokestatic 0, .ifCond .eq 34, .iload 2, .iconst (0), .iconst (9), .invokestatic 0, .ifCond .eq 34, .iconst (1), .goto 35], 34), (34, [.iconst (0)], 35), (35, [.ireturn], 36)]
theorem k_X8_isLeafAsTold : chkB T_X8_isLeafAsTold cX8_isLeafAsTold B_X8_isLeafAsTold = true := by decide +kernel
theorem cw_X8_isLeafAsTold : calW Y_X8_isLeafAsTold := ⟨pn_X8, Or.inr (Or.inr (Or.inl ⟨rfl, rfl⟩)), w_370, w_1, mh_X8, by decide⟩
theorem cl_X8_isLeafAsTold {o : OM} {Y : Pk} {d d2 idx : Nat} {C : Ctr} (hS : Sound o Y_X8_isLeafAsTold d2 C) (hd : d2 + 1 ≤ d) (hl : Cond.methodLink (yN Y).cls idx yX8_isLeafAsTold ∈ wsG ∨ ∃ host, Cond.methodLinkNest (yN Y).cls idx yX8_isLeafAsTold host ∈ nestW) : CallOK o Y d (.invokestatic idx) (3, arg 3 C) := callS_ok hS hd cw_X8_isLeafAsTold hl w_369 (by decide +kernel)
def Y_X8_lettersIn : Pk := (yX8_lettersIn, cX8_lettersIn, 5, some .int, 1)
def T_X8_lettersIn : Tb := ([], [], [], [], [], [(152, 0)], 5)
def V_X8_lettersIn : List (Nat × Nat) := [(0, 2), (4, 4), (34, 5), (37, 5), (45, 5), (51, 4)]
def B_X8_lettersIn : Bk := [(0, [.iconst (0), .istore 2, .iconst (0), .istore 3], 4), (4, [.iload 3, .iconst (8), .if_icmp .ge 51, .lload 0, .iload 3, .invokestatic 0, .istore 4, .iload 4, .iconst (126), .if_icmp .gt 34, .iload 4, .ifCond .eq 37, .iload 2, .iload 3, .if_icmp .ge 37], 34), (34, [.iconst (-102), .ireturn], 37), (37, [.iload 4, .ifCond .eq 45, .iinc 2 1], 45), (45, [.iinc 3 1, .goto 4], 51), (51, [.iload 2, .ireturn], 53)]
theorem k_X8_lettersIn : chkB T_X8_lettersIn cX8_lettersIn B_X8_lettersIn = true := by decide +kernel
theorem cw_X8_lettersIn : calW Y_X8_lettersIn := ⟨pn_X8, Or.inr (Or.inl ⟨rfl, rfl⟩), w_464, w_1, mh_X8, by decide⟩
theorem cl_X8_lettersIn {o : OM} {Y : Pk} {d d2 idx : Nat} {C : Ctr} (hS : Sound o Y_X8_lettersIn d2 C) (hd : d2 + 1 ≤ d) (hl : Cond.methodLink (yN Y).cls idx yX8_lettersIn ∈ wsG ∨ ∃ host, Cond.methodLinkNest (yN Y).cls idx yX8_lettersIn host ∈ nestW) : CallOK o Y d (.invokestatic idx) (1, arg 5 C) := callS_ok hS hd cw_X8_lettersIn hl w_463 (by decide +kernel)
def Y_X8_spanTold : Pk := (yX8_spanTold, cX8_spanTold, 4, some .int, 1)
def T_X8_spanTold : Tb := ([(77, 8102)], [(190, (-100004))], [], [], [(275, 0), (278, 1)], [], 4)
def V_X8_spanTold : List (Nat × Nat) := [(0, 4), (17, 4), (27, 4)]
def B_X8_spanTold : Bk := [(0, [.aload 0, .getfield 8102, .iload 1, .iload 2, .invokestatic 0, .ifCond .eq 17, .iconst (-100004), .goto 27], 17), (17, [.aload 0, .getfield 8102, .iload 1, .iload 2, .iload 3, .invokestatic 1], 27), (27, [.ireturn], 28)]
theorem k_X8_spanTold : chkB T_X8_spanTold cX8_spanTold B_X8_spanTold = true := by decide +kernel
theorem cw_X8_spanTold : calW Y_X8_spanTold := ⟨pn_X8, Or.inr (Or.inl ⟨rfl, rfl⟩), w_883, w_1, mh_X8, by decide⟩
theorem cl_X8_spanTold {o : OM} {Y : Pk} {d d2 idx : Nat} {C : Ctr} (hS : Sound o Y_X8_spanTold d2 C) (hd : d2 + 1 ≤ d) (hl : Cond.methodLink (yN Y).cls idx yX8_spanTold ∈ wsG ∨ ∃ host, Cond.methodLinkNest (yN Y).cls idx yX8_spanTold host ∈ nestW) : CallOK o Y d (.invokevirtual idx) (4, rcv 8 4 C) := callV_ok hS hd cw_X8_spanTold hl w_882 wp_57 (Or.inl ⟨TX8, 13, rfl⟩) (by decide +kernel)
def Y_X9_isPit : Pk := (yX9_isPit, cX9_isPit, 2, some .boolean, 2)
def T_X9_isPit : Tb := ([(109, 9000)], [], [], [], [], [(112, 0)], 2)
def V_X9_isPit : List (Nat × Nat) := [(0, 2)]
def B_X9_isPit : Bk := [(0, [.iload 1, .i2l, .jsr 0, .aload 0, .getfield 9000, .iconst (1), .isub, .i2l, .invokestatic 0, .ireturn], 14)]
theorem k_X9_isPit : chkB T_X9_isPit cX9_isPit B_X9_isPit = true := by decide +kernel
theorem cw_X9_isPit : calW Y_X9_isPit := ⟨pn_X9, Or.inr (Or.inr (Or.inl ⟨rfl, rfl⟩)), w_1270, w_11, mh_X9, by decide⟩
theorem cl_X9_isPit {o : OM} {Y : Pk} {d d2 idx : Nat} {C : Ctr} (hS : Sound o Y_X9_isPit d2 C) (hd : d2 + 1 ≤ d) (hl : Cond.methodLink (yN Y).cls idx yX9_isPit ∈ wsG ∨ ∃ host, Cond.methodLinkNest (yN Y).cls idx yX9_isPit host ∈ nestW) : CallOK o Y d (.invokevirtual idx) (2, rcv 9 2 C) := callV_ok hS hd cw_X9_isPit hl w_1269 wp_89 (Or.inl ⟨TX9, 55, rfl⟩) (by decide +kernel)
def Y_X9_pit : Pk := (yX9_pit, cX9_pit, 2, some .int, 1)
def T_X9_pit : Tb := ([(109, 9000), (7, 9012), (13, 9022), (71, 9392)], [], [(120, 240)], [], [], [(112, 0)], 2)
def V_X9_pit : List (Nat × Nat) := [(0, 2), (15, 2), (27, 2)]
def B_X9_pit : Bk := [(0, [.iload 1, .i2l, .jsr 0, .jsr (240), .invokestatic 0, .ifCond .ne 15, .iconst (-102), .ireturn], 15), (15, [.aload 0, .getfield 9000, .iconst (7), .if_icmp .ne 27, .iconst (-104), .ireturn], 27), (27, [.aload 0, .getfield 9012, .aload 0, .getfield 9000, .iload 1, .iastore, .aload 0, .getfield 9022, .aload 0, .getfield 9000, .iconst (0), .iastore, .aload 0, .getfield 9392, .aload 0, .getfield 9000, .iconst (0), .bastore, .aload 0, .dup, .getfield 9000, .iconst (1), .iadd, .putfield 9000, .aload 0, .getfield 9000, .iconst (1), .isub, .ireturn], 74)]
theorem k_X9_pit : chkB T_X9_pit cX9_pit B_X9_pit = true := by decide +kernel
theorem cw_X9_pit : calW Y_X9_pit := ⟨pn_X9, Or.inr (Or.inl ⟨rfl, rfl⟩), w_1258, w_11, mh_X9, by decide⟩
theorem cl_X9_pit {o : OM} {Y : Pk} {d d2 idx : Nat} {C : Ctr} (hS : Sound o Y_X9_pit d2 C) (hd : d2 + 1 ≤ d) (hl : Cond.methodLink (yN Y).cls idx yX9_pit ∈ wsG ∨ ∃ host, Cond.methodLinkNest (yN Y).cls idx yX9_pit host ∈ nestW) : CallOK o Y d (.invokevirtual idx) (2, rcv 9 2 C) := callV_ok hS hd cw_X9_pit hl w_1256 w_1257 (Or.inl ⟨TX9, 55, rfl⟩) (by decide +kernel)
def Y_X9_isLeafTold : Pk := (yX9_isLeafTold, cX9_isLeafTold, 3, some .boolean, 2)
def T_X9_isLeafTold : Tb := ([], [], [(122, 6), (124, 99), (126, 9)], [], [], [(112, 0)], 3)
def V_X9_isLeafTold : List (Nat × Nat) := [(0, 3), (40, 3), (41, 3)]
def B_X9_isLeafTold : Bk := [(0, [.iload 0, .i2l, .jsr 0, .jsr (6), .invokestatic 0, .ifCond .eq 40, .iload 1, .i2l, .jsr 1, .jsr (99), .invokestatic 0, .ifCond .eq 40, .iload 2, .i2l, .jsr 0, .jsr (9), .invokestatic 0, .ifCond .eq 40, .iconst (1), .goto 41], 40), (40, [.iconst (0)], 41), (41, [.ireturn], 42)]
theorem k_X9_isLeafTold : chkB T_X9_isLeafTold cX9_isLeafTold B_X9_isLeafTold = true := by decide +kernel
theorem cw_X9_isLeafTold : calW Y_X9_isLeafTold := ⟨pn_X9, Or.inr (Or.inr (Or.inl ⟨rfl, rfl⟩)), w_1273, w_11, mh_X9, by decide⟩
theorem cl_X9_isLeafTold {o : OM} {Y : Pk} {d d2 idx : Nat} {C : Ctr} (hS : Sound o Y_X9_isLeafTold d2 C) (hd : d2 + 1 ≤ d) (hl : Cond.methodLink (yN Y).cls idx yX9_isLeafTold ∈ wsG ∨ ∃ host, Cond.methodLinkNest (yN Y).cls idx yX9_isLeafTold host ∈ nestW) : CallOK o Y d (.invokestatic idx) (3, arg 3 C) := callS_ok hS hd cw_X9_isLeafTold hl w_1272 (by decide +kernel)
def Y_X9_stepOf : Pk := (yX9_stepOf, cX9_stepOf, 3, some .int, 1)
def T_X9_stepOf : Tb := ([(19, 9042)], [], [], [], [], [(140, 0)], 3)
def V_X9_stepOf : List (Nat × Nat) := [(0, 3), (8, 3), (35, 3)]
def B_X9_stepOf : Bk := [(0, [.iload 2, .ifCond .ne 8, .iconst (0), .goto 35], 8), (8, [.aload 0, .getfield 9042, .iconst (16), .iload 1, .imul, .iload 2, .iadd, .iaload, .aload 0, .getfield 9042, .iconst (16), .iload 1, .imul, .iload 2, .iadd, .iconst (1), .isub, .iaload, .invokestatic 0], 35), (35, [.ireturn], 36)]
theorem k_X9_stepOf : chkB T_X9_stepOf cX9_stepOf B_X9_stepOf = true := by decide +kernel
theorem cw_X9_stepOf : calW Y_X9_stepOf := ⟨pn_X9, Or.inr (Or.inl ⟨rfl, rfl⟩), w_1310, w_11, mh_X9, by decide⟩
theorem cl_X9_stepOf {o : OM} {Y : Pk} {d d2 idx : Nat} {C : Ctr} (hS : Sound o Y_X9_stepOf d2 C) (hd : d2 + 1 ≤ d) (hl : Cond.methodLink (yN Y).cls idx yX9_stepOf ∈ wsG ∨ ∃ host, Cond.methodLinkNest (yN Y).cls idx yX9_stepOf host ∈ nestW) : CallOK o Y d (.invokevirtual idx) (3, rcv 9 3 C) := callV_ok hS hd cw_X9_stepOf hl w_1309 wp_95 (Or.inl ⟨TX9, 55, rfl⟩) (by decide +kernel)
def Y_X9_layOne : Pk := (yX9_layOne, cX9_layOne, 4, none, 0)
def T_X9_layOne : Tb := ([(13, 9022)], [], [], [], [(132, 0)], [], 4)
def V_X9_layOne : List (Nat × Nat) := [(0, 4), (35, 4)]
def B_X9_layOne : Bk := [(0, [.aload 0, .getfield 9022, .iload 1, .iaload, .iconst (16), .if_icmp .ge 35, .aload 0, .iload 1, .aload 0, .getfield 9022, .iload 1, .iaload, .iload 2, .iload 3, .iconst (0), .invokestatic 0, .aload 0, .getfield 9022, .iload 1, .dup2, .iaload, .iconst (1), .iadd, .iastore], 35), (35, [.return_], 36)]
theorem k_X9_layOne : chkB T_X9_layOne cX9_layOne B_X9_layOne = true := by decide +kernel
theorem cw_X9_layOne : calW Y_X9_layOne := ⟨pn_X9, Or.inl ⟨rfl, rfl⟩, w_1334, w_11, mh_X9, by decide⟩
theorem cl_X9_layOne {o : OM} {Y : Pk} {d d2 idx : Nat} {C : Ctr} (hS : Sound o Y_X9_layOne d2 C) (hd : d2 + 1 ≤ d) (hl : Cond.methodLink (yN Y).cls idx yX9_layOne ∈ wsG ∨ ∃ host, Cond.methodLinkNest (yN Y).cls idx yX9_layOne host ∈ nestW) : CallOK o Y d (.invokevirtual idx) (4, rcv 9 4 C) := callV_ok hS hd cw_X9_layOne hl w_1333 wp_97 (Or.inl ⟨TX9, 55, rfl⟩) (by decide +kernel)
def Y_X9_go : Pk := (yX9_go, cX9_go, 3, some .boolean, 2)
def T_X9_go : Tb := ([(179, 9140), (188, 9150), (191, 9160), (34, 9132)], [], [(194, 48), (196, 57)], [], [], [(182, 0), (185, 1), (112, 2)], 3)
def V_X9_go : List (Nat × Nat) := [(0, 3), (19, 3), (23, 3), (66, 3), (67, 3), (68, 3), (106, 3), (166, 3), (190, 3), (191, 3), (198, 3), (199, 3)]
def B_X9_go : Bk := [(0, [.aload 0, .getfield 9140, .ifCond .ne 68, .aload 0, .iload 1, .ifCond .ne 19, .iload 2, .invokestatic 0, .goto 23], 19), (19, [.iload 2, .invokestatic 1], 23), (23, [.putfield 9150, .aload 0, .iconst (1), .putfield 9140, .aload 0, .dup, .getfield 9160, .iconst (1), .iadd, .putfield 9160, .aload 0, .getfield 9150, .iconst (-1), .if_icmp .eq 66, .aload 0, .getfield 9132, .aload 0, .getfield 9150, .iaload, .iconst (-1), .if_icmp .ne 66, .iconst (1), .goto 67], 66), (66, [.iconst (0)], 67), (67, [.ireturn], 68), (68, [.aload 0, .getfield 9140, .iconst (1), .if_icmp .ne 106, .aload 0, .getfield 9132, .aload 0, .getfield 9150, .iload 2, .iconst (48), .isub, .iastore, .aload 0, .iconst (2), .putfield 9140, .iload 2, .i2l, .jsr (48), .jsr (57), .invokestatic 2, .ireturn], 106), (106, [.aload 0, .getfield 9140, .iconst (2), .if_icmp .ne 166, .iload 1, .iconst (1), .if_icmp .ne 166, .iload 2, .i2l, .jsr (48), .jsr (57), .invokestatic 2, .ifCond .eq 166, .aload 0, .getfield 9132, .aload 0, .getfield 9150, .iconst (10), .aload 0, .getfield 9132, .aload 0, .getfield 9150, .iaload, .imul, .iload 2, .iadd, .iconst (48), .isub, .iastore, .aload 0, .iconst (3), .putfield 9140, .iconst (1), .ireturn], 166), (166, [.aload 0, .iconst (0), .putfield 9140, .iload 2, .iconst (44), .if_icmp .ne 198, .aload 0, .getfield 9160, .iload 1, .ifCond .ne 190, .iconst (7), .goto 191], 190), (190, [.iconst (4)], 191), (191, [.if_icmp .ge 198, .iconst (1), .goto 199], 198), (198, [.iconst (0)], 199), (199, [.ireturn], 200)]
theorem k_X9_go : chkB T_X9_go cX9_go B_X9_go = true := by decide +kernel
theorem cw_X9_go : calW Y_X9_go := ⟨pn_X9, Or.inr (Or.inr (Or.inl ⟨rfl, rfl⟩)), w_1355, w_11, mh_X9, by decide⟩
theorem cl_X9_go {o : OM} {Y : Pk} {d d2 idx : Nat} {C : Ctr} (hS : Sound o Y_X9_go d2 C) (hd : d2 + 1 ≤ d) (hl : Cond.methodLink (yN Y).cls idx yX9_go ∈ wsG ∨ ∃ host, Cond.methodLinkNest (yN Y).cls idx yX9_go host ∈ nestW) : CallOK o Y d (.invokevirtual idx) (3, rcv 9 3 C) := callV_ok hS hd cw_X9_go hl w_1354 wp_99 (Or.inl ⟨TX9, 55, rfl⟩) (by decide +kernel)
def Y_X9_isHand : Pk := (yX9_isHand, cX9_isHand, 2, some .boolean, 2)
def T_X9_isHand : Tb := ([(204, 9090)], [], [(210, (-1))], [], [], [(112, 0)], 2)
def V_X9_isHand : List (Nat × Nat) := [(0, 2)]
def B_X9_isHand : Bk := [(0, [.iload 1, .i2l, .jsr (-1), .aload 0, .getfield 9090, .iconst (1), .isub, .i2l, .invokestatic 0, .ireturn], 16)]
theorem k_X9_isHand : chkB T_X9_isHand cX9_isHand B_X9_isHand = true := by decide +kernel
theorem cw_X9_isHand : calW Y_X9_isHand := ⟨pn_X9, Or.inr (Or.inr (Or.inl ⟨rfl, rfl⟩)), w_1379, w_11, mh_X9, by decide⟩
theorem cl_X9_isHand {o : OM} {Y : Pk} {d d2 idx : Nat} {C : Ctr} (hS : Sound o Y_X9_isHand d2 C) (hd : d2 + 1 ≤ d) (hl : Cond.methodLink (yN Y).cls idx yX9_isHand ∈ wsG ∨ ∃ host, Cond.methodLinkNest (yN Y).cls idx yX9_isHand host ∈ nestW) : CallOK o Y d (.invokevirtual idx) (2, rcv 9 2 C) := callV_ok hS hd cw_X9_isHand hl w_1378 wp_100 (Or.inl ⟨TX9, 55, rfl⟩) (by decide +kernel)
def Y_X9_halvesAhead : Pk := (yX9_halvesAhead, cX9_halvesAhead, 6, some .int, 1)
def T_X9_halvesAhead : Tb := ([], [], [], [], [(212, 0)], [], 6)
def V_X9_halvesAhead : List (Nat × Nat) := [(0, 4), (6, 6), (31, 6)]
def B_X9_halvesAhead : Bk := [(0, [.iconst (0), .istore 4, .iconst (0), .istore 5], 6), (6, [.iload 5, .iload 3, .if_icmp .ge 31, .iload 4, .aload 0, .iload 1, .iload 2, .iload 5, .invokestatic 0, .iadd, .istore 4, .iinc 5 1, .goto 6], 31), (31, [.iload 4, .ireturn], 34)]
theorem k_X9_halvesAhead : chkB T_X9_halvesAhead cX9_halvesAhead B_X9_halvesAhead = true := by decide +kernel
theorem cw_X9_halvesAhead : calW Y_X9_halvesAhead := ⟨pn_X9, Or.inr (Or.inl ⟨rfl, rfl⟩), w_1302, w_11, mh_X9, by decide⟩
theorem cl_X9_halvesAhead {o : OM} {Y : Pk} {d d2 idx : Nat} {C : Ctr} (hS : Sound o Y_X9_halvesAhead d2 C) (hd : d2 + 1 ≤ d) (hl : Cond.methodLink (yN Y).cls idx yX9_halvesAhead ∈ wsG ∨ ∃ host, Cond.methodLinkNest (yN Y).cls idx yX9_halvesAhead host ∈ nestW) : CallOK o Y d (.invokevirtual idx) (4, rcv 9 6 C) := callV_ok hS hd cw_X9_halvesAhead hl w_1301 wp_93 (Or.inl ⟨TX9, 55, rfl⟩) (by decide +kernel)
def Y_X9_isSlide : Pk := (yX9_isSlide, cX9_isSlide, 1, some .boolean, 2)
def T_X9_isSlide : Tb := ([], [], [(226, (-15)), (228, 15)], [], [], [(112, 0)], 1)
def V_X9_isSlide : List (Nat × Nat) := [(0, 1)]
def B_X9_isSlide : Bk := [(0, [.iload 0, .i2l, .jsr (-15), .jsr (15), .invokestatic 0, .ireturn], 12)]
theorem k_X9_isSlide : chkB T_X9_isSlide cX9_isSlide B_X9_isSlide = true := by decide +kernel
theorem cw_X9_isSlide : calW Y_X9_isSlide := ⟨pn_X9, Or.inr (Or.inr (Or.inl ⟨rfl, rfl⟩)), w_1400, w_11, mh_X9, by decide⟩
theorem cl_X9_isSlide {o : OM} {Y : Pk} {d d2 idx : Nat} {C : Ctr} (hS : Sound o Y_X9_isSlide d2 C) (hd : d2 + 1 ≤ d) (hl : Cond.methodLink (yN Y).cls idx yX9_isSlide ∈ wsG ∨ ∃ host, Cond.methodLinkNest (yN Y).cls idx yX9_isSlide host ∈ nestW) : CallOK o Y d (.invokestatic idx) (1, arg 1 C) := callS_ok hS hd cw_X9_isSlide hl w_1399 (by decide +kernel)
def Y_X9_overOf : Pk := (yX9_overOf, cX9_overOf, 6, some .int, 1)
def T_X9_overOf : Tb := ([(13, 9022)], [], [], [], [], [(112, 0)], 6)
def V_X9_overOf : List (Nat × Nat) := [(0, 4), (6, 6), (44, 6), (45, 6), (54, 6)]
def B_X9_overOf : Bk := [(0, [.iconst (0), .istore 4, .iconst (0), .istore 5], 6), (6, [.iload 5, .aload 0, .getfield 9022, .iload 1, .iaload, .if_icmp .ge 54, .iload 4, .iload 5, .iload 3, .isub, .i2l, .jsr 0, .aload 0, .getfield 9022, .iload 2, .iaload, .iconst (1), .isub, .i2l, .invokestatic 0, .ifCond .eq 44, .iconst (1), .goto 45], 44), (44, [.iconst (0)], 45), (45, [.iadd, .istore 4, .iinc 5 1, .goto 6], 54), (54, [.iload 4, .ireturn], 57)]
theorem k_X9_overOf : chkB T_X9_overOf cX9_overOf B_X9_overOf = true := by decide +kernel
theorem cw_X9_overOf : calW Y_X9_overOf := ⟨pn_X9, Or.inr (Or.inl ⟨rfl, rfl⟩), w_1407, w_11, mh_X9, by decide⟩
theorem cl_X9_overOf {o : OM} {Y : Pk} {d d2 idx : Nat} {C : Ctr} (hS : Sound o Y_X9_overOf d2 C) (hd : d2 + 1 ≤ d) (hl : Cond.methodLink (yN Y).cls idx yX9_overOf ∈ wsG ∨ ∃ host, Cond.methodLinkNest (yN Y).cls idx yX9_overOf host ∈ nestW) : CallOK o Y d (.invokevirtual idx) (4, rcv 9 6 C) := callV_ok hS hd cw_X9_overOf hl w_1406 wp_102 (Or.inl ⟨TX9, 55, rfl⟩) (by decide +kernel)
def Y_X9_term : Pk := (yX9_term, cX9_term, 4, some .int, 1)
def T_X9_term : Tb := ([], [], [], [], [], [(247, 0)], 4)
def V_X9_term : List (Nat × Nat) := [(0, 3), (16, 4), (19, 4)]
def B_X9_term : Bk := [(0, [.iload 0, .iload 1, .invokestatic 0, .istore 3, .iload 2, .ifCond .ne 16, .iload 0, .iload 3, .idiv, .goto 19], 16), (16, [.iload 1, .iload 3, .idiv], 19), (19, [.ireturn], 20)]
theorem k_X9_term : chkB T_X9_term cX9_term B_X9_term = true := by decide +kernel
theorem cw_X9_term : calW Y_X9_term := ⟨pn_X9, Or.inr (Or.inl ⟨rfl, rfl⟩), w_1435, w_11, mh_X9, by decide⟩
theorem cl_X9_term {o : OM} {Y : Pk} {d d2 idx : Nat} {C : Ctr} (hS : Sound o Y_X9_term d2 C) (hd : d2 + 1 ≤ d) (hl : Cond.methodLink (yN Y).cls idx yX9_term ∈ wsG ∨ ∃ host, Cond.methodLinkNest (yN Y).cls idx yX9_term host ∈ nestW) : CallOK o Y d (.invokestatic idx) (3, arg 4 C) := callS_ok hS hd cw_X9_term hl w_1434 (by decide +kernel)
def Y_X9_isPart : Pk := (yX9_isPart, cX9_isPart, 1, some .boolean, 2)
def T_X9_isPart : Tb := ([], [], [], [], [], [(112, 0)], 1)
def V_X9_isPart : List (Nat × Nat) := [(0, 1)]
def B_X9_isPart : Bk := [(0, [.iload 0, .i2l, .jsr 0, .jsr 1, .invokestatic 0, .ireturn], 8)]
theorem k_X9_isPart : chkB T_X9_isPart cX9_isPart B_X9_isPart = true := by decide +kernel
theorem cw_X9_isPart : calW Y_X9_isPart := ⟨pn_X9, Or.inr (Or.inr (Or.inl ⟨rfl, rfl⟩)), w_1432, w_11, mh_X9, by decide⟩
theorem cl_X9_isPart {o : OM} {Y : Pk} {d d2 idx : Nat} {C : Ctr} (hS : Sound o Y_X9_isPart d2 C) (hd : d2 + 1 ≤ d) (hl : Cond.methodLink (yN Y).cls idx yX9_isPart ∈ wsG ∨ ∃ host, Cond.methodLinkNest (yN Y).cls idx yX9_isPart host ∈ nestW) : CallOK o Y d (.invokestatic idx) (1, arg 1 C) := callS_ok hS hd cw_X9_isPart hl w_1431 (by decide +kernel)
def Y_X9_price : Pk := (yX9_price, cX9_price, 7, some .int, 1)
def T_X9_price : Tb := ([(13, 9022), (259, 9190), (265, 9200), (268, 9250), (271, 9260), (22, 9052), (278, 9230), (19, 9042), (284, 9240), (287, 9210), (290, 9220)], [(274, 100000000)], [], [], [(275, 2)], [(256, 0), (262, 1), (281, 3)], 7)
def V_X9_price : List (Nat × Nat) := [(0, 4), (56, 4), (60, 4), (128, 6), (132, 6), (133, 6), (170, 7), (171, 7), (173, 6), (183, 6), (255, 6)]
def B_X9_price : Bk := [(0, [.iload 1, .iload 3, .invokestatic 0, .iadd, .aload 0, .getfield 9022, .aload 0, .getfield 9190, .iaload, .if_icmp .gt 56, .iload 2, .iload 3, .invokestatic 1, .iadd, .aload 0, .getfield 9022, .aload 0, .getfield 9200, .iaload, .if_icmp .gt 56, .iload 3, .ifCond .ne 60, .iload 1, .aload 0, .getfield 9250, .if_icmp .ne 60, .iload 2, .aload 0, .getfield 9260, .if_icmp .ne 60], 56), (56, [.iconst (100000000), .ireturn], 60), (60, [.iconst (16), .aload 0, .getfield 9190, .imul, .iload 1, .iadd, .istore 4, .iconst (16), .aload 0, .getfield 9200, .imul, .iload 2, .iadd, .istore 5, .iload 3, .ifCond .ne 173, .aload 0, .iload 4, .invokestatic 2, .aload 0, .iload 5, .invokestatic 2, .if_icmp .ne 128, .aload 0, .iload 4, .invokestatic 2, .iconst (1), .if_icmp .ne 132, .aload 0, .getfield 9052, .iload 4, .iaload, .aload 0, .getfield 9052, .iload 5, .iaload, .if_icmp .eq 132], 128), (128, [.iconst (1), .goto 133], 132), (132, [.iconst (0)], 133), (133, [.istore 6, .aload 0, .getfield 9230, .aload 0, .getfield 9042, .iload 4, .iaload, .aload 0, .getfield 9042, .iload 5, .iaload, .isub, .invokestatic 3, .imul, .iload 6, .ifCond .eq 170, .aload 0, .getfield 9240, .goto 171], 170), (170, [.iconst (0)], 171), (171, [.iadd, .ireturn], 173), (173, [.iload 3, .iconst (3), .if_icmp .ge 183, .aload 0, .getfield 9210, .ireturn], 183), (183, [.iload 3, .iconst (3), .if_icmp .ne 255, .aload 0, .getfield 9220, .aload 0, .getfield 9230, .aload 0, .getfield 9042, .iload 4, .iaload, .aload 0, .getfield 9042, .iload 5, .iaload, .isub, .aload 0, .getfield 9042, .iload 5, .iconst (1), .iadd, .iaload, .isub, .invokestatic 3, .imul, .iadd, .aload 0, .getfield 9240, .aload 0, .iload 4, .invokestatic 2, .aload 0, .iload 5, .invokestatic 2, .iadd, .aload 0, .iload 5, .iconst (1), .iadd, .invokestatic 2, .iadd, .imul, .iadd, .ireturn], 255), (255, [.aload 0, .getfield 9220, .aload 0, .getfield 9230, .aload 0, .getfield 9042, .iload 4, .iaload, .aload 0, .getfield 9042, .iload 4, .iconst (1), .iadd, .iaload, .iadd, .aload 0, .getfield 9042, .iload 5, .iaload, .isub, .invokestatic 3, .imul, .iadd, .aload 0, .getfield 9240, .aload 0, .iload 4, .invokestatic 2, .aload 0, .iload 4, .iconst (1), .iadd, .invokestatic 2, .iadd, .aload 0, .iload 5, .invokestatic 2, .iadd, .imul, .iadd, .ireturn], 322)]
theorem k_X9_price : chkB T_X9_price cX9_price B_X9_price = true := by decide +kernel
theorem cw_X9_price : calW Y_X9_price := ⟨pn_X9, Or.inr (Or.inl ⟨rfl, rfl⟩), w_1457, w_11, mh_X9, by decide⟩
theorem cl_X9_price {o : OM} {Y : Pk} {d d2 idx : Nat} {C : Ctr} (hS : Sound o Y_X9_price d2 C) (hd : d2 + 1 ≤ d) (hl : Cond.methodLink (yN Y).cls idx yX9_price ∈ wsG ∨ ∃ host, Cond.methodLinkNest (yN Y).cls idx yX9_price host ∈ nestW) : CallOK o Y d (.invokevirtual idx) (4, rcv 9 7 C) := callV_ok hS hd cw_X9_price hl w_1456 wp_107 (Or.inl ⟨TX9, 55, rfl⟩) (by decide +kernel)
def Y_X9_behind : Pk := (yX9_behind, cX9_behind, 4, some .int, 1)
def T_X9_behind : Tb := ([], [], [], [], [], [(256, 0), (262, 1)], 4)
def V_X9_behind : List (Nat × Nat) := [(0, 4)]
def B_X9_behind : Bk := [(0, [.iconst (17), .iload 1, .iload 3, .invokestatic 0, .iadd, .imul, .iload 2, .iadd, .iload 3, .invokestatic 1, .iadd, .ireturn], 17)]
theorem k_X9_behind : chkB T_X9_behind cX9_behind B_X9_behind = true := by decide +kernel
theorem cw_X9_behind : calW Y_X9_behind := ⟨pn_X9, Or.inr (Or.inl ⟨rfl, rfl⟩), w_1474, w_11, mh_X9, by decide⟩
theorem cl_X9_behind {o : OM} {Y : Pk} {d d2 idx : Nat} {C : Ctr} (hS : Sound o Y_X9_behind d2 C) (hd : d2 + 1 ≤ d) (hl : Cond.methodLink (yN Y).cls idx yX9_behind ∈ wsG ∨ ∃ host, Cond.methodLinkNest (yN Y).cls idx yX9_behind host ∈ nestW) : CallOK o Y d (.invokevirtual idx) (4, rcv 9 4 C) := callV_ok hS hd cw_X9_behind hl w_1473 wp_109 (Or.inl ⟨TX9, 55, rfl⟩) (by decide +kernel)
def Y_X9_isLaw : Pk := (yX9_isLaw, cX9_isLaw, 2, some .boolean, 2)
def T_X9_isLaw : Tb := ([(207, 9110)], [], [], [], [], [(112, 0)], 2)
def V_X9_isLaw : List (Nat × Nat) := [(0, 2)]
def B_X9_isLaw : Bk := [(0, [.iload 1, .i2l, .jsr 0, .aload 0, .getfield 9110, .iconst (1), .isub, .i2l, .invokestatic 0, .ireturn], 14)]
theorem k_X9_isLaw : chkB T_X9_isLaw cX9_isLaw B_X9_isLaw = true := by decide +kernel
theorem cw_X9_isLaw : calW Y_X9_isLaw := ⟨pn_X9, Or.inr (Or.inr (Or.inl ⟨rfl, rfl⟩)), w_1446, w_11, mh_X9, by decide⟩
theorem cl_X9_isLaw {o : OM} {Y : Pk} {d d2 idx : Nat} {C : Ctr} (hS : Sound o Y_X9_isLaw d2 C) (hd : d2 + 1 ≤ d) (hl : Cond.methodLink (yN Y).cls idx yX9_isLaw ∈ wsG ∨ ∃ host, Cond.methodLinkNest (yN Y).cls idx yX9_isLaw host ∈ nestW) : CallOK o Y d (.invokevirtual idx) (2, rcv 9 2 C) := callV_ok hS hd cw_X9_isLaw hl w_1445 wp_105 (Or.inl ⟨TX9, 55, rfl⟩) (by decide +kernel)
def Y_X9_keep : Pk := (yX9_keep, cX9_keep, 4, some .int, 1)
def T_X9_keep : Tb := ([(325, 9320), (68, 9382)], [], [], [], [], [(112, 0)], 4)
def V_X9_keep : List (Nat × Nat) := [(0, 3), (19, 3), (32, 3), (33, 3)]
def B_X9_keep : Bk := [(0, [.iload 1, .i2l, .jsr 0, .aload 0, .getfield 9320, .iconst (1), .isub, .i2l, .invokestatic 0, .ifCond .ne 19, .iconst (-101), .ireturn], 19), (19, [.aload 0, .getfield 9382, .iload 1, .baload, .ifCond .eq 32, .iconst (1), .goto 33], 32), (32, [.iconst (0)], 33), (33, [.istore 3, .aload 0, .getfield 9382, .iload 1, .iload 2, .bastore, .iload 3, .ireturn], 43)]
theorem k_X9_keep : chkB T_X9_keep cX9_keep B_X9_keep = true := by decide +kernel
theorem cw_X9_keep : calW Y_X9_keep := ⟨pn_X9, Or.inr (Or.inl ⟨rfl, rfl⟩), w_1498, w_11, mh_X9, by decide⟩
theorem cl_X9_keep {o : OM} {Y : Pk} {d d2 idx : Nat} {C : Ctr} (hS : Sound o Y_X9_keep d2 C) (hd : d2 + 1 ≤ d) (hl : Cond.methodLink (yN Y).cls idx yX9_keep ∈ wsG ∨ ∃ host, Cond.methodLinkNest (yN Y).cls idx yX9_keep host ∈ nestW) : CallOK o Y d (.invokevirtual idx) (3, rcv 9 4 C) := callV_ok hS hd cw_X9_keep hl w_1496 w_1497 (Or.inl ⟨TX9, 55, rfl⟩) (by decide +kernel)
def Y_X9_allWidths : Pk := (yX9_allWidths, cX9_allWidths, 4, some .int, 1)
def T_X9_allWidths : Tb := ([(109, 9000), (80, 9432)], [], [], [], [(356, 0)], [], 4)
def V_X9_allWidths : List (Nat × Nat) := [(0, 1), (4, 3), (16, 4), (38, 4), (61, 4), (69, 4), (75, 3)]
def B_X9_allWidths : Bk := [(0, [.iconst (0), .istore 1, .iconst (0), .istore 2], 4), (4, [.iload 2, .aload 0, .getfield 9000, .if_icmp .ge 75, .iload 2, .iconst (1), .iadd, .istore 3], 16), (16, [.iload 3, .aload 0, .getfield 9000, .if_icmp .ge 69, .iload 1, .aload 0, .iload 2, .iload 3, .invokestatic 0, .ifCond .eq 38, .iconst (0), .goto 61], 38), (38, [.aload 0, .getfield 9432, .iconst (8), .iload 2, .imul, .iload 3, .iadd, .iaload, .aload 0, .getfield 9432, .iconst (8), .iload 3, .imul, .iload 2, .iadd, .iaload, .iadd], 61), (61, [.iadd, .istore 1, .iinc 3 1, .goto 16], 69), (69, [.iinc 2 1, .goto 4], 75), (75, [.iload 1, .ireturn], 77)]
theorem k_X9_allWidths : chkB T_X9_allWidths cX9_allWidths B_X9_allWidths = true := by decide +kernel
theorem cw_X9_allWidths : calW Y_X9_allWidths := ⟨pn_X9, Or.inr (Or.inl ⟨rfl, rfl⟩), w_1588, w_11, mh_X9, by decide⟩
theorem cl_X9_allWidths {o : OM} {Y : Pk} {d d2 idx : Nat} {C : Ctr} (hS : Sound o Y_X9_allWidths d2 C) (hd : d2 + 1 ≤ d) (hl : Cond.methodLink (yN Y).cls idx yX9_allWidths ∈ wsG ∨ ∃ host, Cond.methodLinkNest (yN Y).cls idx yX9_allWidths host ∈ nestW) : CallOK o Y d (.invokevirtual idx) (1, rcv 9 4 C) := callV_ok hS hd cw_X9_allWidths hl w_1587 wp_121 (Or.inl ⟨TX9, 55, rfl⟩) (by decide +kernel)
def Y_X9_ashBeside : Pk := (yX9_ashBeside, cX9_ashBeside, 6, some .int, 1)
def T_X9_ashBeside : Tb := ([(13, 9022), (16, 9032), (22, 9052)], [], [], [], [(338, 0)], [], 6)
def V_X9_ashBeside : List (Nat × Nat) := [(0, 5), (5, 6), (62, 6), (71, 6)]
def B_X9_ashBeside : Bk := [(0, [.iload 2, .iload 3, .iadd, .istore 5], 5), (5, [.iload 5, .ifCond .lt 71, .iload 5, .aload 0, .getfield 9022, .iload 1, .iaload, .if_icmp .ge 71, .aload 0, .getfield 9032, .iconst (16), .iload 1, .imul, .iload 5, .iadd, .iaload, .iconst (5), .if_icmp .ne 62, .aload 0, .iload 4, .aload 0, .getfield 9052, .iconst (16), .iload 1, .imul, .iload 5, .iadd, .iaload, .invokestatic 0, .iconst (-1), .if_icmp .eq 62, .iload 5, .ireturn], 62), (62, [.iload 5, .iload 3, .iadd, .istore 5, .goto 5], 71), (71, [.iconst (-1), .ireturn], 73)]
theorem k_X9_ashBeside : chkB T_X9_ashBeside cX9_ashBeside B_X9_ashBeside = true := by decide +kernel
theorem cw_X9_ashBeside : calW Y_X9_ashBeside := ⟨pn_X9, Or.inr (Or.inl ⟨rfl, rfl⟩), w_1604, w_11, mh_X9, by decide⟩
theorem cl_X9_ashBeside {o : OM} {Y : Pk} {d d2 idx : Nat} {C : Ctr} (hS : Sound o Y_X9_ashBeside d2 C) (hd : d2 + 1 ≤ d) (hl : Cond.methodLink (yN Y).cls idx yX9_ashBeside ∈ wsG ∨ ∃ host, Cond.methodLinkNest (yN Y).cls idx yX9_ashBeside host ∈ nestW) : CallOK o Y d (.invokevirtual idx) (5, rcv 9 6 C) := callV_ok hS hd cw_X9_ashBeside hl w_1603 wp_123 (Or.inl ⟨TX9, 55, rfl⟩) (by decide +kernel)
def Y_X9_countOf : Pk := (yX9_countOf, cX9_countOf, 5, some .int, 1)
def T_X9_countOf : Tb := ([(109, 9000), (13, 9022), (71, 9392), (204, 9090), (207, 9110), (325, 9320), (176, 9080), (318, 9310), (368, 9450)], [], [], [], [(345, 0), (362, 1)], [], 5)
def V_X9_countOf : List (Nat × Nat) := [(0, 2), (7, 5), (41, 5), (42, 5), (50, 5), (104, 5), (109, 5), (111, 5), (116, 5), (121, 5), (126, 5), (135, 5), (137, 5), (142, 5), (147, 5), (152, 5)]
def B_X9_countOf : Bk := [(0, [.iconst (0), .istore 2, .iconst (0), .istore 3, .iconst (0), .istore 4], 7), (7, [.iload 4, .aload 0, .getfield 9000, .if_icmp .ge 50, .iload 2, .aload 0, .getfield 9022, .iload 4, .iaload, .iadd, .istore 2, .iload 3, .aload 0, .getfield 9392, .iload 4, .baload, .ifCond .eq 41, .iconst (1), .goto 42], 41), (41, [.iconst (0)], 42), (42, [.iadd, .istore 3, .iinc 4 1, .goto 7], 50), (50, [.iload 1, .tableswitch 152 (0) (9) #[104, 109, 111, 116, 121, 126, 135, 137, 142, 147]], 104), (104, [.aload 0, .getfield 9000, .ireturn], 109), (109, [.iload 2, .ireturn], 111), (111, [.aload 0, .getfield 9090, .ireturn], 116), (116, [.aload 0, .getfield 9110, .ireturn], 121), (121, [.aload 0, .getfield 9320, .ireturn], 126), (126, [.aload 0, .aload 0, .invokestatic 0, .invokestatic 1, .ireturn], 135), (135, [.iload 3, .ireturn], 137), (137, [.aload 0, .getfield 9080, .ireturn], 142), (142, [.aload 0, .getfield 9310, .ireturn], 147), (147, [.aload 0, .getfield 9450, .ireturn], 152), (152, [.iconst (-102), .ireturn], 155)]
theorem k_X9_countOf : chkB T_X9_countOf cX9_countOf B_X9_countOf = true := by decide +kernel
theorem cw_X9_countOf : calW Y_X9_countOf := ⟨pn_X9, Or.inr (Or.inl ⟨rfl, rfl⟩), w_1620, w_11, mh_X9, by decide⟩
theorem cl_X9_countOf {o : OM} {Y : Pk} {d d2 idx : Nat} {C : Ctr} (hS : Sound o Y_X9_countOf d2 C) (hd : d2 + 1 ≤ d) (hl : Cond.methodLink (yN Y).cls idx yX9_countOf ∈ wsG ∨ ∃ host, Cond.methodLinkNest (yN Y).cls idx yX9_countOf host ∈ nestW) : CallOK o Y d (.invokevirtual idx) (2, rcv 9 5 C) := callV_ok hS hd cw_X9_countOf hl w_1619 wp_124 (Or.inl ⟨TX9, 55, rfl⟩) (by decide +kernel)
def Y_J0_length_8abf5 : Pk := (yJ0_length_8abf5, cJ0_length_8abf5, 1, some .int, 1)
def T_J0_length_8abf5 : Tb := ([(9, 20002)], [], [], [], [(335, 0)], [], 1)
def V_J0_length_8abf5 : List (Nat × Nat) := [(0, 1)]
def B_J0_length_8abf5 : Bk := [(0, [.aload 0, .getfield 20002, .arraylength, .aload 0, .invokestatic 0, .ishr, .ireturn], 11)]
theorem k_J0_length_8abf5 : chkB T_J0_length_8abf5 cJ0_length_8abf5 B_J0_length_8abf5 = true := by decide +kernel
theorem cw_J0_length_8abf5 : calW Y_J0_length_8abf5 := ⟨pn_J0, Or.inr (Or.inl ⟨rfl, rfl⟩), w_507, w_13, mh_J0, by decide⟩
theorem cl_J0_length_8abf5 {o : OM} {Y : Pk} {d d2 idx : Nat} {C : Ctr} (hS : Sound o Y_J0_length_8abf5 d2 C) (hd : d2 + 1 ≤ d) (hl : Cond.methodLink (yN Y).cls idx yJ0_length_8abf5 ∈ wsG ∨ ∃ host, Cond.methodLinkNest (yN Y).cls idx yJ0_length_8abf5 host ∈ nestW) : CallOK o Y d (.invokevirtual idx) (1, rcv 20 1 C) := callV_ok hS hd cw_J0_length_8abf5 hl w_505 w_506 (Or.inr ⟨rfl, rfl⟩) (by decide +kernel)
def Y_J1_indexOf_4cfef : Pk := (yJ1_indexOf_4cfef, cJ1_indexOf_4cfef, 4, some .int, 1)
def T_J1_indexOf_4cfef : Tb := ([], [], [], [], [], [(88, 0), (92, 1), (38, 2), (95, 3)], 4)
def V_J1_indexOf_4cfef : List (Nat × Nat) := [(0, 4), (9, 4), (29, 4)]
def B_J1_indexOf_4cfef : Bk := [(0, [.iload 1, .invokestatic 0, .ifCond .ne 9, .iconst (-1), .ireturn], 9), (9, [.iload 2, .iconst (0), .invokestatic 1, .istore 2, .iload 3, .aload 0, .arraylength, .invokestatic 2, .istore 3, .iload 2, .iload 3, .if_icmp .lt 29, .iconst (-1), .ireturn], 29), (29, [.aload 0, .iload 1, .iload 2, .iload 3, .invokestatic 3, .ireturn], 37)]
theorem k_J1_indexOf_4cfef : chkB T_J1_indexOf_4cfef cJ1_indexOf_4cfef B_J1_indexOf_4cfef = true := by decide +kernel
theorem cw_J1_indexOf_4cfef : calW Y_J1_indexOf_4cfef := ⟨pn_J1, Or.inr (Or.inl ⟨rfl, rfl⟩), w_514, w_14, mh_J1, by decide⟩
theorem cl_J1_indexOf_4cfef {o : OM} {Y : Pk} {d d2 idx : Nat} {C : Ctr} (hS : Sound o Y_J1_indexOf_4cfef d2 C) (hd : d2 + 1 ≤ d) (hl : Cond.methodLink (yN Y).cls idx yJ1_indexOf_4cfef ∈ wsG ∨ ∃ host, Cond.methodLinkNest (yN Y).cls idx yJ1_indexOf_4cfef host ∈ nestW) : CallOK o Y d (.invokestatic idx) (4, arg 4 C) := callS_ok hS hd cw_J1_indexOf_4cfef hl w_513 (by decide +kernel)
def Y_X1_yearsAhead : Pk := (yX1_yearsAhead, cX1_yearsAhead, 4, some .int, 1)
def T_X1_yearsAhead : Tb := ([], [], [], [], [(51, 0)], [], 4)
def V_X1_yearsAhead : List (Nat × Nat) := [(0, 4)]
def B_X1_yearsAhead : Bk := [(0, [.aload 0, .iload 1, .iload 2, .iload 3, .invokestatic 0, .iconst (2), .idiv, .ireturn], 10)]
theorem k_X1_yearsAhead : chkB T_X1_yearsAhead cX1_yearsAhead B_X1_yearsAhead = true := by decide +kernel
theorem cw_X1_yearsAhead : calW Y_X1_yearsAhead := ⟨pn_X1, Or.inr (Or.inl ⟨rfl, rfl⟩), w_612, w_5, mh_X1, by decide⟩
theorem cl_X1_yearsAhead {o : OM} {Y : Pk} {d d2 idx : Nat} {C : Ctr} (hS : Sound o Y_X1_yearsAhead d2 C) (hd : d2 + 1 ≤ d) (hl : Cond.methodLink (yN Y).cls idx yX1_yearsAhead ∈ wsG ∨ ∃ host, Cond.methodLinkNest (yN Y).cls idx yX1_yearsAhead host ∈ nestW) : CallOK o Y d (.invokevirtual idx) (4, rcv 1 4 C) := callV_ok hS hd cw_X1_yearsAhead hl w_611 wp_20 (Or.inl ⟨TX1, 3, rfl⟩) (by decide +kernel)
def Y_X1_yearsOfAll : Pk := (yX1_yearsOfAll, cX1_yearsOfAll, 3, some .int, 1)
def T_X1_yearsOfAll : Tb := ([(19, 1002), (54, 6022)], [], [], [], [(51, 0)], [], 3)
def V_X1_yearsOfAll : List (Nat × Nat) := [(0, 3)]
def B_X1_yearsOfAll : Bk := [(0, [.aload 0, .iload 1, .iload 2, .aload 0, .getfield 1002, .getfield 6022, .iload 2, .iaload, .invokestatic 0, .iconst (1), .iadd, .iconst (2), .idiv, .ireturn], 20)]
theorem k_X1_yearsOfAll : chkB T_X1_yearsOfAll cX1_yearsOfAll B_X1_yearsOfAll = true := by decide +kernel
theorem cw_X1_yearsOfAll : calW Y_X1_yearsOfAll := ⟨pn_X1, Or.inr (Or.inl ⟨rfl, rfl⟩), w_406, w_5, mh_X1, by decide⟩
theorem cl_X1_yearsOfAll {o : OM} {Y : Pk} {d d2 idx : Nat} {C : Ctr} (hS : Sound o Y_X1_yearsOfAll d2 C) (hd : d2 + 1 ≤ d) (hl : Cond.methodLink (yN Y).cls idx yX1_yearsOfAll ∈ wsG ∨ ∃ host, Cond.methodLinkNest (yN Y).cls idx yX1_yearsOfAll host ∈ nestW) : CallOK o Y d (.invokevirtual idx) (3, rcv 1 3 C) := callV_ok hS hd cw_X1_yearsOfAll hl w_405 wp_7 (Or.inl ⟨TX1, 3, rfl⟩) (by decide +kernel)
def Y_X3_bindJoin : Pk := (yX3_bindJoin, cX3_bindJoin, 3, some .boolean, 2)
def T_X3_bindJoin : Tb := ([(59, 3022), (120, 12), (123, 22), (126, 32), (129, 42)], [], [], [], [], [(101, 0)], 3)
def V_X3_bindJoin : List (Nat × Nat) := [(0, 3)]
def B_X3_bindJoin : Bk := [(0, [.aload 1, .aload 0, .getfield 3022, .getfield 12, .iload 2, .iaload, .aload 0, .getfield 3022, .getfield 22, .iload 2, .iaload, .aload 0, .getfield 3022, .getfield 32, .iload 2, .iaload, .aload 0, .getfield 3022, .getfield 42, .iload 2, .iaload, .invokestatic 0, .ireturn], 41)]
theorem k_X3_bindJoin : chkB T_X3_bindJoin cX3_bindJoin B_X3_bindJoin = true := by decide +kernel
theorem cw_X3_bindJoin : calW Y_X3_bindJoin := ⟨pn_X3, Or.inr (Or.inr (Or.inl ⟨rfl, rfl⟩)), w_874, w_10, mh_X3, by decide⟩
theorem cl_X3_bindJoin {o : OM} {Y : Pk} {d d2 idx : Nat} {C : Ctr} (hS : Sound o Y_X3_bindJoin d2 C) (hd : d2 + 1 ≤ d) (hl : Cond.methodLink (yN Y).cls idx yX3_bindJoin ∈ wsG ∨ ∃ host, Cond.methodLinkNest (yN Y).cls idx yX3_bindJoin host ∈ nestW) : CallOK o Y d (.invokevirtual idx) (3, rcv 3 3 C) := callV_ok hS hd cw_X3_bindJoin hl w_873 wp_56 (Or.inl ⟨TX3, 15, rfl⟩) (by decide +kernel)
def Y_X3_bindAshes : Pk := (yX3_bindAshes, cX3_bindAshes, 5, some .boolean, 2)
def T_X3_bindAshes : Tb := ([(51, 3002), (85, 6000), (26, 3072), (15, 3042)], [], [], [], [(152, 0), (156, 1)], [(101, 2)], 5)
def V_X3_bindAshes : List (Nat × Nat) := [(0, 2), (10, 4), (38, 4), (81, 4), (87, 4)]
def B_X3_bindAshes : Bk := [(0, [.aload 0, .iload 1, .invokestatic 0, .istore 2, .iload 2, .iconst (1), .iadd, .istore 3], 10), (10, [.iload 2, .iconst (-1), .if_icmp .eq 87, .iload 3, .aload 0, .getfield 3002, .getfield 6000, .if_icmp .ge 87, .aload 0, .iload 3, .iload 1, .invokestatic 1, .ifCond .ne 38, .goto 81], 38), (38, [.aload 0, .getfield 3072, .iload 2, .iconst (10), .imul, .iload 1, .iadd, .iaload, .aload 0, .getfield 3072, .iload 3, .iconst (10), .imul, .iload 1, .iadd, .iaload, .isub, .istore 4, .aload 0, .getfield 3042, .iload 2, .iload 3, .iload 4, .iload 4, .invokestatic 2, .ifCond .ne 81, .iconst (0), .ireturn], 81), (81, [.iinc 3 1, .goto 10], 87), (87, [.iconst (1), .ireturn], 89)]
theorem k_X3_bindAshes : chkB T_X3_bindAshes cX3_bindAshes B_X3_bindAshes = true := by decide +kernel
theorem cw_X3_bindAshes : calW Y_X3_bindAshes := ⟨pn_X3, Or.inr (Or.inr (Or.inl ⟨rfl, rfl⟩)), w_849, w_10, mh_X3, by decide⟩
theorem cl_X3_bindAshes {o : OM} {Y : Pk} {d d2 idx : Nat} {C : Ctr} (hS : Sound o Y_X3_bindAshes d2 C) (hd : d2 + 1 ≤ d) (hl : Cond.methodLink (yN Y).cls idx yX3_bindAshes ∈ wsG ∨ ∃ host, Cond.methodLinkNest (yN Y).cls idx yX3_bindAshes host ∈ nestW) : CallOK o Y d (.invokevirtual idx) (2, rcv 3 5 C) := callV_ok hS hd cw_X3_bindAshes hl w_848 wp_52 (Or.inl ⟨TX3, 15, rfl⟩) (by decide +kernel)
def Y_X3_groupAshes : Pk := (yX3_groupAshes, cX3_groupAshes, 4, none, 0)
def T_X3_groupAshes : Tb := ([(51, 3002), (85, 6000)], [], [], [], [(152, 0), (156, 1), (164, 2)], [], 4)
def V_X3_groupAshes : List (Nat × Nat) := [(0, 2), (10, 4), (41, 4), (47, 4)]
def B_X3_groupAshes : Bk := [(0, [.aload 0, .iload 1, .invokestatic 0, .istore 2, .iload 2, .iconst (1), .iadd, .istore 3], 10), (10, [.iload 2, .iconst (-1), .if_icmp .eq 47, .iload 3, .aload 0, .getfield 3002, .getfield 6000, .if_icmp .ge 47, .aload 0, .iload 3, .iload 1, .invokestatic 1, .ifCond .eq 41, .aload 0, .iload 2, .iload 3, .invokestatic 2], 41), (41, [.iinc 3 1, .goto 10], 47), (47, [.return_], 48)]
theorem k_X3_groupAshes : chkB T_X3_groupAshes cX3_groupAshes B_X3_groupAshes = true := by decide +kernel
theorem cw_X3_groupAshes : calW Y_X3_groupAshes := ⟨pn_X3, Or.inl ⟨rfl, rfl⟩, w_911, w_10, mh_X3, by decide⟩
theorem cl_X3_groupAshes {o : OM} {Y : Pk} {d d2 idx : Nat} {C : Ctr} (hS : Sound o Y_X3_groupAshes d2 C) (hd : d2 + 1 ≤ d) (hl : Cond.methodLink (yN Y).cls idx yX3_groupAshes ∈ wsG ∨ ∃ host, Cond.methodLinkNest (yN Y).cls idx yX3_groupAshes host ∈ nestW) : CallOK o Y d (.invokevirtual idx) (2, rcv 3 4 C) := callV_ok hS hd cw_X3_groupAshes hl w_910 wp_62 (Or.inl ⟨TX3, 15, rfl⟩) (by decide +kernel)
def Y_X3_widthsIfApart : Pk := (yX3_widthsIfApart, cX3_widthsIfApart, 7, some .int, 1)
def T_X3_widthsIfApart : Tb := ([(51, 3002), (85, 6000)], [], [], [], [(194, 0), (197, 1), (217, 2)], [], 7)
def V_X3_widthsIfApart : List (Nat × Nat) := [(0, 4), (6, 6), (24, 7), (70, 7), (93, 7), (96, 7), (102, 7), (108, 6)]
def B_X3_widthsIfApart : Bk := [(0, [.iconst (0), .istore 4, .iconst (0), .istore 5], 6), (6, [.iload 5, .aload 0, .getfield 3002, .getfield 6000, .if_icmp .ge 108, .iload 5, .iconst (1), .iadd, .istore 6], 24), (24, [.iload 6, .aload 0, .getfield 3002, .getfield 6000, .if_icmp .ge 102, .aload 0, .iload 5, .iload 6, .invokestatic 0, .ifCond .ne 96, .iload 4, .aload 0, .iload 1, .iload 5, .invokestatic 0, .ifCond .eq 70, .aload 0, .iload 5, .iload 6, .invokestatic 1, .goto 93], 70), (70, [.aload 0, .iload 1, .iload 2, .iload 3, .iload 5, .iload 6, .invokestatic 2, .aload 0, .iload 1, .iload 2, .iload 3, .iload 6, .iload 5, .invokestatic 2, .iadd], 93), (93, [.iadd, .istore 4], 96), (96, [.iinc 6 1, .goto 24], 102), (102, [.iinc 5 1, .goto 6], 108), (108, [.iload 4, .ireturn], 111)]
theorem k_X3_widthsIfApart : chkB T_X3_widthsIfApart cX3_widthsIfApart B_X3_widthsIfApart = true := by decide +kernel
theorem cw_X3_widthsIfApart : calW Y_X3_widthsIfApart := ⟨pn_X3, Or.inr (Or.inl ⟨rfl, rfl⟩), w_980, w_10, mh_X3, by decide⟩
theorem cl_X3_widthsIfApart {o : OM} {Y : Pk} {d d2 idx : Nat} {C : Ctr} (hS : Sound o Y_X3_widthsIfApart d2 C) (hd : d2 + 1 ≤ d) (hl : Cond.methodLink (yN Y).cls idx yX3_widthsIfApart ∈ wsG ∨ ∃ host, Cond.methodLinkNest (yN Y).cls idx yX3_widthsIfApart host ∈ nestW) : CallOK o Y d (.invokevirtual idx) (4, rcv 3 7 C) := callV_ok hS hd cw_X3_widthsIfApart hl w_979 wp_74 (Or.inl ⟨TX3, 15, rfl⟩) (by decide +kernel)
def Y_X5_readRow : Pk := (yX5_readRow, cX5_readRow, 5, none, 0)
def T_X5_readRow : Tb := ([(67, 5002), (75, 6022)], [], [], [], [(93, 0), (96, 1), (100, 2)], [], 5)
def V_X5_readRow : List (Nat × Nat) := [(0, 4), (3, 5), (60, 5), (61, 5), (68, 5)]
def B_X5_readRow : Bk := [(0, [.iconst (0), .istore 4], 3), (3, [.iload 4, .aload 0, .getfield 5002, .getfield 6022, .iload 1, .iaload, .if_icmp .ge 68, .aload 2, .iload 4, .aload 0, .getfield 5002, .iload 1, .iload 4, .invokestatic 0, .iastore, .aload 3, .iload 4, .aload 0, .getfield 5002, .iload 1, .iload 4, .invokestatic 1, .ifCond .eq 60, .aload 0, .getfield 5002, .iload 1, .iload 4, .invokestatic 2, .goto 61], 60), (60, [.iconst (-1)], 61), (61, [.iastore, .iinc 4 1, .goto 3], 68), (68, [.return_], 69)]
theorem k_X5_readRow : chkB T_X5_readRow cX5_readRow B_X5_readRow = true := by decide +kernel
theorem cw_X5_readRow : calW Y_X5_readRow := ⟨pn_X5, Or.inl ⟨rfl, rfl⟩, w_692, w_9, mh_X5, by decide⟩
theorem cl_X5_readRow {o : OM} {Y : Pk} {d d2 idx : Nat} {C : Ctr} (hS : Sound o Y_X5_readRow d2 C) (hd : d2 + 1 ≤ d) (hl : Cond.methodLink (yN Y).cls idx yX5_readRow ∈ wsG ∨ ∃ host, Cond.methodLinkNest (yN Y).cls idx yX5_readRow host ∈ nestW) : CallOK o Y d (.invokevirtual idx) (4, rcv 5 5 C) := callV_ok hS hd cw_X5_readRow hl w_691 wp_28 (Or.inl ⟨TX5, 20, rfl⟩) (by decide +kernel)
def Y_X5_priceOf : Pk := (yX5_priceOf, cX5_priceOf, 4, some .int, 1)
def T_X5_priceOf : Tb := ([(15, 5032), (9, 5022), (18, 5042), (21, 5052), (31, 5080)], [], [], [], [(132, 0), (143, 3)], [(135, 1), (139, 2)], 4)
def V_X5_priceOf : List (Nat × Nat) := [(0, 4), (36, 4), (43, 4), (80, 4), (81, 4), (97, 4), (134, 4), (135, 4), (151, 4)]
def B_X5_priceOf : Bk := [(0, [.iload 1, .tableswitch 151 (0) (4) #[36, 151, 151, 43, 97]], 36), (36, [.aload 0, .iload 2, .iload 3, .invokestatic 0, .ireturn], 43), (43, [.aload 0, .aload 0, .getfield 5032, .iload 3, .iaload, .aload 0, .getfield 5032, .iload 3, .iconst (1), .iadd, .iaload, .iadd, .aload 0, .getfield 5022, .iload 2, .iaload, .isub, .aload 0, .getfield 5042, .iload 2, .iaload, .iconst (-1), .if_icmp .eq 80, .iconst (1), .goto 81], 80), (80, [.iconst (0)], 81), (81, [.invokestatic 1, .aload 0, .getfield 5052, .iload 3, .invokestatic 2, .iadd, .invokestatic 3, .ireturn], 97), (97, [.aload 0, .aload 0, .getfield 5022, .iload 2, .iaload, .aload 0, .getfield 5022, .iload 2, .iconst (1), .iadd, .iaload, .iadd, .aload 0, .getfield 5032, .iload 3, .iaload, .isub, .aload 0, .getfield 5052, .iload 3, .iaload, .iconst (-1), .if_icmp .eq 134, .iconst (1), .goto 135], 134), (134, [.iconst (0)], 135), (135, [.invokestatic 1, .aload 0, .getfield 5042, .iload 2, .invokestatic 2, .iadd, .invokestatic 3, .ireturn], 151), (151, [.aload 0, .getfield 5080, .ireturn], 156)]
theorem k_X5_priceOf : chkB T_X5_priceOf cX5_priceOf B_X5_priceOf = true := by decide +kernel
theorem cw_X5_priceOf : calW Y_X5_priceOf := ⟨pn_X5, Or.inr (Or.inl ⟨rfl, rfl⟩), w_723, w_9, mh_X5, by decide⟩
theorem cl_X5_priceOf {o : OM} {Y : Pk} {d d2 idx : Nat} {C : Ctr} (hS : Sound o Y_X5_priceOf d2 C) (hd : d2 + 1 ≤ d) (hl : Cond.methodLink (yN Y).cls idx yX5_priceOf ∈ wsG ∨ ∃ host, Cond.methodLinkNest (yN Y).cls idx yX5_priceOf host ∈ nestW) : CallOK o Y d (.invokevirtual idx) (4, rcv 5 4 C) := callV_ok hS hd cw_X5_priceOf hl w_722 wp_34 (Or.inl ⟨TX5, 20, rfl⟩) (by decide +kernel)
def Y_X6_firstAsh : Pk := (yX6_firstAsh, cX6_firstAsh, 4, some .int, 1)
def T_X6_firstAsh : Tb := ([(19, 6022)], [], [], [], [(51, 0), (55, 1)], [], 4)
def V_X6_firstAsh : List (Nat × Nat) := [(0, 3), (2, 4), (33, 4), (39, 4)]
def B_X6_firstAsh : Bk := [(0, [.iconst (0), .istore 3], 2), (2, [.iload 3, .aload 0, .getfield 6022, .iload 1, .iaload, .if_icmp .ge 39, .aload 0, .iload 1, .iload 3, .invokestatic 0, .ifCond .eq 33, .aload 0, .iload 1, .iload 3, .invokestatic 1, .iload 2, .if_icmp .ne 33, .iload 3, .ireturn], 33), (33, [.iinc 3 1, .goto 2], 39), (39, [.iconst (-1), .ireturn], 41)]
theorem k_X6_firstAsh : chkB T_X6_firstAsh cX6_firstAsh B_X6_firstAsh = true := by decide +kernel
theorem cw_X6_firstAsh : calW Y_X6_firstAsh := ⟨pn_X6, Or.inr (Or.inl ⟨rfl, rfl⟩), w_1015, w_2, mh_X6, by decide⟩
theorem cl_X6_firstAsh {o : OM} {Y : Pk} {d d2 idx : Nat} {C : Ctr} (hS : Sound o Y_X6_firstAsh d2 C) (hd : d2 + 1 ≤ d) (hl : Cond.methodLink (yN Y).cls idx yX6_firstAsh ∈ wsG ∨ ∃ host, Cond.methodLinkNest (yN Y).cls idx yX6_firstAsh host ∈ nestW) : CallOK o Y d (.invokevirtual idx) (3, rcv 6 4 C) := callV_ok hS hd cw_X6_firstAsh hl w_1014 wp_79 (Or.inl ⟨TX6, 6, rfl⟩) (by decide +kernel)
def Y_X7_likeOf : Pk := (yX7_likeOf, cX7_likeOf, 11, some .int, 1)
def T_X7_likeOf : Tb := ([(9, 7002), (21, 6022)], [], [], [], [(34, 2), (37, 3), (41, 4)], [(15, 0), (30, 1)], 11)
def V_X7_likeOf : List (Nat × Nat) := [(0, 5), (21, 8), (116, 10), (171, 10), (173, 10), (176, 10), (182, 8)]
def B_X7_likeOf : Bk := [(0, [.aload 0, .getfield 7002, .getfield 6022, .iload 2, .iaload, .istore 5, .iconst (0), .istore 6, .iconst (0), .iload 3, .invokestatic 0, .istore 7], 21), (21, [.iload 7, .aload 0, .getfield 7002, .getfield 6022, .iload 1, .iaload, .if_icmp .ge 182, .iload 7, .iload 3, .isub, .iload 5, .if_icmp .ge 182, .iload 7, .iload 3, .isub, .istore 8, .iload 8, .iload 4, .iload 5, .invokestatic 1, .istore 9, .iload 7, .ifCond .le 116, .iload 8, .ifCond .le 116, .iload 8, .iconst (1), .isub, .iload 4, .iload 5, .invokestatic 1, .istore 10, .iload 6, .aload 0, .getfield 7002, .iload 1, .iload 7, .iconst (1), .isub, .iload 7, .invokestatic 2, .aload 0, .getfield 7002, .iload 2, .iload 10, .iload 9, .invokestatic 2, .imul, .iadd, .istore 6], 116), (116, [.aload 0, .getfield 7002, .iload 1, .iload 7, .invokestatic 3, .ifCond .eq 176, .aload 0, .getfield 7002, .iload 2, .iload 9, .invokestatic 3, .ifCond .eq 176, .iload 6, .aload 0, .getfield 7002, .iload 1, .iload 7, .invokestatic 4, .aload 0, .getfield 7002, .iload 2, .iload 9, .invokestatic 4, .if_icmp .ne 171, .iconst (5), .goto 173], 171), (171, [.iconst (-5)], 173), (173, [.iadd, .istore 6], 176), (176, [.iinc 7 1, .goto 21], 182), (182, [.iload 6, .ireturn], 185)]
theorem k_X7_likeOf : chkB T_X7_likeOf cX7_likeOf B_X7_likeOf = true := by decide +kernel
theorem cw_X7_likeOf : calW Y_X7_likeOf := ⟨pn_X7, Or.inr (Or.inl ⟨rfl, rfl⟩), w_640, w_8, mh_X7, by decide⟩
theorem cl_X7_likeOf {o : OM} {Y : Pk} {d d2 idx : Nat} {C : Ctr} (hS : Sound o Y_X7_likeOf d2 C) (hd : d2 + 1 ≤ d) (hl : Cond.methodLink (yN Y).cls idx yX7_likeOf ∈ wsG ∨ ∃ host, Cond.methodLinkNest (yN Y).cls idx yX7_likeOf host ∈ nestW) : CallOK o Y d (.invokevirtual idx) (5, rcv 7 11 C) := callV_ok hS hd cw_X7_likeOf hl w_639 wp_22 (Or.inl ⟨TX7, 1, rfl⟩) (by decide +kernel)
def Y_X8_leaf : Pk := (yX8_leaf, cX8_leaf, 5, some .int, 1)
def T_X8_leaf : Tb := ([(10, 8002), (106, 6022)], [], [], [], [(99, 0), (110, 2)], [(103, 1)], 5)
def V_X8_leaf : List (Nat × Nat) := [(0, 5), (14, 5), (27, 5), (44, 5)]
def B_X8_leaf : Bk := [(0, [.aload 0, .getfield 8002, .iload 1, .invokestatic 0, .ifCond .ne 14, .iconst (-101), .ireturn], 14), (14, [.iload 2, .iload 3, .iload 4, .invokestatic 1, .ifCond .ne 27, .iconst (-102), .ireturn], 27), (27, [.aload 0, .getfield 8002, .getfield 6022, .iload 1, .iaload, .iconst (16), .if_icmp .lt 44, .iconst (-104), .ireturn], 44), (44, [.aload 0, .getfield 8002, .iload 1, .iload 2, .iload 3, .iload 4, .invokestatic 2, .aload 0, .getfield 8002, .getfield 6022, .iload 1, .iaload, .ireturn], 66)]
theorem k_X8_leaf : chkB T_X8_leaf cX8_leaf B_X8_leaf = true := by decide +kernel
theorem cw_X8_leaf : calW Y_X8_leaf := ⟨pn_X8, Or.inr (Or.inl ⟨rfl, rfl⟩), w_363, w_1, mh_X8, by decide⟩
theorem cl_X8_leaf {o : OM} {Y : Pk} {d d2 idx : Nat} {C : Ctr} (hS : Sound o Y_X8_leaf d2 C) (hd : d2 + 1 ≤ d) (hl : Cond.methodLink (yN Y).cls idx yX8_leaf ∈ wsG ∨ ∃ host, Cond.methodLinkNest (yN Y).cls idx yX8_leaf host ∈ nestW) : CallOK o Y d (.invokevirtual idx) (5, rcv 8 5 C) := callV_ok hS hd cw_X8_leaf hl w_361 w_362 (Or.inl ⟨TX8, 13, rfl⟩) (by decide +kernel)
def Y_X8_as : Pk := (yX8_as, cX8_as, 4, some .int, 1)
def T_X8_as : Tb := ([(10, 8002)], [], [], [], [(114, 0), (118, 2)], [(88, 1), (122, 3)], 4)
def V_X8_as : List (Nat × Nat) := [(0, 4), (15, 4), (28, 4), (48, 4), (49, 4)]
def B_X8_as : Bk := [(0, [.aload 0, .getfield 8002, .iload 1, .iload 2, .invokestatic 0, .ifCond .ne 15, .iconst (-101), .ireturn], 15), (15, [.iload 3, .iconst (0), .iconst (6), .invokestatic 1, .ifCond .ne 28, .iconst (-102), .ireturn], 28), (28, [.aload 0, .getfield 8002, .iload 1, .iload 2, .invokestatic 2, .iload 3, .invokestatic 3, .ifCond .eq 48, .iload 2, .goto 49], 48), (48, [.iconst (-1)], 49), (49, [.ireturn], 50)]
theorem k_X8_as : chkB T_X8_as cX8_as B_X8_as = true := by decide +kernel
theorem cw_X8_as : calW Y_X8_as := ⟨pn_X8, Or.inr (Or.inl ⟨rfl, rfl⟩), w_382, w_1, mh_X8, by decide⟩
theorem cl_X8_as {o : OM} {Y : Pk} {d d2 idx : Nat} {C : Ctr} (hS : Sound o Y_X8_as d2 C) (hd : d2 + 1 ≤ d) (hl : Cond.methodLink (yN Y).cls idx yX8_as ∈ wsG ∨ ∃ host, Cond.methodLinkNest (yN Y).cls idx yX8_as host ∈ nestW) : CallOK o Y d (.invokevirtual idx) (4, rcv 8 4 C) := callV_ok hS hd cw_X8_as hl w_380 w_381 (Or.inl ⟨TX8, 13, rfl⟩) (by decide +kernel)
def Y_X8_change : Pk := (yX8_change, cX8_change, 7, some .int, 1)
def T_X8_change : Tb := ([(10, 8002)], [], [], [], [(114, 0), (132, 2), (135, 3)], [(103, 1)], 7)
def V_X8_change : List (Nat × Nat) := [(0, 6), (15, 6), (29, 6)]
def B_X8_change : Bk := [(0, [.aload 0, .getfield 8002, .iload 1, .iload 2, .invokestatic 0, .ifCond .ne 15, .iconst (-101), .ireturn], 15), (15, [.iload 3, .iload 4, .iload 5, .invokestatic 1, .ifCond .ne 29, .iconst (-102), .ireturn], 29), (29, [.aload 0, .getfield 8002, .iload 1, .iload 2, .invokestatic 2, .istore 6, .aload 0, .getfield 8002, .iload 1, .iload 2, .iload 3, .iload 4, .iload 5, .invokestatic 3, .iload 6, .ireturn], 57)]
theorem k_X8_change : chkB T_X8_change cX8_change B_X8_change = true := by decide +kernel
theorem cw_X8_change : calW Y_X8_change := ⟨pn_X8, Or.inr (Or.inl ⟨rfl, rfl⟩), w_442, w_1, mh_X8, by decide⟩
theorem cl_X8_change {o : OM} {Y : Pk} {d d2 idx : Nat} {C : Ctr} (hS : Sound o Y_X8_change d2 C) (hd : d2 + 1 ≤ d) (hl : Cond.methodLink (yN Y).cls idx yX8_change ∈ wsG ∨ ∃ host, Cond.methodLinkNest (yN Y).cls idx yX8_change host ∈ nestW) : CallOK o Y d (.invokevirtual idx) (6, rcv 8 7 C) := callV_ok hS hd cw_X8_change hl w_440 w_441 (Or.inl ⟨TX8, 13, rfl⟩) (by decide +kernel)
def Y_X8_lay : Pk := (yX8_lay, cX8_lay, 12, some .int, 1)
def T_X8_lay : Tb := ([(10, 8002), (106, 6022)], [], [], [], [(99, 0), (110, 4)], [(88, 1), (139, 2), (143, 3)], 12)
def V_X8_lay : List (Nat × Nat) := [(0, 6), (14, 6), (50, 6), (53, 6), (60, 9), (140, 12), (141, 12), (155, 12), (190, 12), (196, 9)]
def B_X8_lay : Bk := [(0, [.aload 0, .getfield 8002, .iload 1, .invokestatic 0, .ifCond .ne 14, .iconst (-101), .ireturn], 14), (14, [.iload 2, .ifCond .lt 50, .iload 3, .iconst (1), .iconst (20), .invokestatic 1, .ifCond .eq 50, .iload 4, .iconst (0), .iconst (99), .invokestatic 1, .ifCond .eq 50, .iload 5, .iconst (0), .iconst (99), .invokestatic 1, .ifCond .ne 53], 50), (50, [.iconst (-102), .ireturn], 53), (53, [.iload 2, .i2l, .lstore 6, .iconst (0), .istore 8], 60), (60, [.iload 8, .iload 3, .if_icmp .ge 196, .lload 6, .invokestatic 2, .lstore 6, .lload 6, .iconst (40), .invokestatic 3, .istore 9, .lload 6, .invokestatic 2, .lstore 6, .lload 6, .iconst (6), .invokestatic 3, .istore 10, .lload 6, .invokestatic 2, .lstore 6, .lload 6, .iconst (100), .invokestatic 3, .istore 11, .iload 11, .iload 4, .iload 5, .iadd, .if_icmp .lt 155, .aload 0, .getfield 8002, .iload 1, .iload 9, .iconst (34), .if_icmp .le 140, .iconst (1), .goto 141], 140), (140, [.iconst (0)], 141), (141, [.iconst (5), .iload 9, .iadd, .iload 10, .iadd, .iconst (0), .invokestatic 4, .goto 190], 155), (155, [.iload 11, .iload 4, .if_icmp .lt 190, .aload 0, .getfield 8002, .iload 1, .iconst (3), .iconst (3), .iload 9, .iadd, .iconst (0), .invokestatic 4, .aload 0, .getfield 8002, .iload 1, .iconst (3), .iconst (2), .iload 10, .iadd, .iconst (0), .invokestatic 4], 190), (190, [.iinc 8 1, .goto 60], 196), (196, [.aload 0, .getfield 8002, .getfield 6022, .iload 1, .iaload, .ireturn], 206)]
theorem k_X8_lay : chkB T_X8_lay cX8_lay B_X8_lay = true := by decide +kernel
theorem cw_X8_lay : calW Y_X8_lay := ⟨pn_X8, Or.inr (Or.inl ⟨rfl, rfl⟩), w_447, w_1, mh_X8, by decide⟩
theorem cl_X8_lay {o : OM} {Y : Pk} {d d2 idx : Nat} {C : Ctr} (hS : Sound o Y_X8_lay d2 C) (hd : d2 + 1 ≤ d) (hl : Cond.methodLink (yN Y).cls idx yX8_lay ∈ wsG ∨ ∃ host, Cond.methodLinkNest (yN Y).cls idx yX8_lay host ∈ nestW) : CallOK o Y d (.invokevirtual idx) (6, rcv 8 12 C) := callV_ok hS hd cw_X8_lay hl w_445 w_446 (Or.inl ⟨TX8, 13, rfl⟩) (by decide +kernel)
def Y_X8_letters : Pk := (yX8_letters, cX8_letters, 5, some .int, 1)
def T_X8_letters : Tb := ([(36, 8052), (151, 4000)], [], [], [], [(155, 2)], [(147, 0), (152, 1)], 5)
def V_X8_letters : List (Nat × Nat) := [(0, 3), (14, 4), (31, 4), (34, 5), (59, 5)]
def B_X8_letters : Bk := [(0, [.lload 1, .invokestatic 0, .istore 3, .iload 3, .iconst (-102), .if_icmp .ne 14, .iconst (-102), .ireturn], 14), (14, [.aload 0, .getfield 8052, .getfield 4000, .iload 3, .iadd, .iconst (30), .if_icmp .le 31, .iconst (-104), .ireturn], 31), (31, [.iconst (0), .istore 4], 34), (34, [.iload 4, .iload 3, .if_icmp .ge 59, .aload 0, .getfield 8052, .lload 1, .iload 4, .invokestatic 1, .invokestatic 2, .iinc 4 1, .goto 34], 59), (59, [.aload 0, .getfield 8052, .getfield 4000, .ireturn], 67)]
theorem k_X8_letters : chkB T_X8_letters cX8_letters B_X8_letters = true := by decide +kernel
theorem cw_X8_letters : calW Y_X8_letters := ⟨pn_X8, Or.inr (Or.inl ⟨rfl, rfl⟩), w_461, w_1, mh_X8, by decide⟩
theorem cl_X8_letters {o : OM} {Y : Pk} {d d2 idx : Nat} {C : Ctr} (hS : Sound o Y_X8_letters d2 C) (hd : d2 + 1 ≤ d) (hl : Cond.methodLink (yN Y).cls idx yX8_letters ∈ wsG ∨ ∃ host, Cond.methodLinkNest (yN Y).cls idx yX8_letters host ∈ nestW) : CallOK o Y d (.invokevirtual idx) (2, rcv 8 5 C) := callV_ok hS hd cw_X8_letters hl w_459 w_460 (Or.inl ⟨TX8, 13, rfl⟩) (by decide +kernel)
def Y_X8_over : Pk := (yX8_over, cX8_over, 4, some .int, 1)
def T_X8_over : Tb := ([(10, 8002), (59, 8082)], [], [], [], [(99, 0), (187, 2)], [(183, 1)], 4)
def V_X8_over : List (Nat × Nat) := [(0, 4), (22, 4), (25, 4), (35, 4)]
def B_X8_over : Bk := [(0, [.aload 0, .getfield 8002, .iload 1, .invokestatic 0, .ifCond .eq 22, .aload 0, .getfield 8002, .iload 2, .invokestatic 0, .ifCond .ne 25], 22), (22, [.iconst (-101), .ireturn], 25), (25, [.iload 3, .invokestatic 1, .ifCond .ne 35, .iconst (-102), .ireturn], 35), (35, [.aload 0, .getfield 8082, .iload 1, .iload 2, .iload 3, .invokestatic 2, .ireturn], 46)]
theorem k_X8_over : chkB T_X8_over cX8_over B_X8_over = true := by decide +kernel
theorem cw_X8_over : calW Y_X8_over := ⟨pn_X8, Or.inr (Or.inl ⟨rfl, rfl⟩), w_654, w_1, mh_X8, by decide⟩
theorem cl_X8_over {o : OM} {Y : Pk} {d d2 idx : Nat} {C : Ctr} (hS : Sound o Y_X8_over d2 C) (hd : d2 + 1 ≤ d) (hl : Cond.methodLink (yN Y).cls idx yX8_over ∈ wsG ∨ ∃ host, Cond.methodLinkNest (yN Y).cls idx yX8_over host ∈ nestW) : CallOK o Y d (.invokevirtual idx) (4, rcv 8 4 C) := callV_ok hS hd cw_X8_over hl w_652 w_653 (Or.inl ⟨TX8, 13, rfl⟩) (by decide +kernel)
def Y_X8_join : Pk := (yX8_join, cX8_join, 6, some .int, 1)
def T_X8_join : Tb := ([(10, 8002), (19, 8012), (237, 0)], [], [], [], [(99, 0), (240, 3)], [(234, 1), (88, 2)], 6)
def V_X8_join : List (Nat × Nat) := [(0, 6), (27, 6), (30, 6), (53, 6), (56, 6), (71, 6)]
def B_X8_join : Bk := [(0, [.aload 0, .getfield 8002, .iload 1, .invokestatic 0, .ifCond .eq 27, .aload 0, .getfield 8002, .iload 2, .invokestatic 0, .ifCond .eq 27, .iload 1, .iload 2, .if_icmp .ne 30], 27), (27, [.iconst (-101), .ireturn], 30), (30, [.iload 3, .iload 4, .iconst (999), .invokestatic 1, .ifCond .eq 53, .iload 5, .iconst (0), .iconst (99), .invokestatic 2, .ifCond .ne 56], 53), (53, [.iconst (-102), .ireturn], 56), (56, [.aload 0, .getfield 8012, .getfield 0, .iconst (12), .if_icmp .lt 71, .iconst (-104), .ireturn], 71), (71, [.aload 0, .getfield 8012, .iload 1, .iload 2, .iload 3, .iload 4, .iload 5, .invokestatic 3, .ireturn], 86)]
theorem k_X8_join : chkB T_X8_join cX8_join B_X8_join = true := by decide +kernel
theorem cw_X8_join : calW Y_X8_join := ⟨pn_X8, Or.inr (Or.inl ⟨rfl, rfl⟩), w_779, w_1, mh_X8, by decide⟩
theorem cl_X8_join {o : OM} {Y : Pk} {d d2 idx : Nat} {C : Ctr} (hS : Sound o Y_X8_join d2 C) (hd : d2 + 1 ≤ d) (hl : Cond.methodLink (yN Y).cls idx yX8_join ∈ wsG ∨ ∃ host, Cond.methodLinkNest (yN Y).cls idx yX8_join host ∈ nestW) : CallOK o Y d (.invokevirtual idx) (6, rcv 8 6 C) := callV_ok hS hd cw_X8_join hl w_777 w_778 (Or.inl ⟨TX8, 13, rfl⟩) (by decide +kernel)
def Y_X8_tie : Pk := (yX8_tie, cX8_tie, 5, some .int, 1)
def T_X8_tie : Tb := ([(10, 8002), (19, 8012)], [], [], [], [(99, 0), (255, 2), (258, 4)], [(234, 1), (247, 3)], 5)
def V_X8_tie : List (Nat × Nat) := [(0, 4), (14, 4), (28, 4)]
def B_X8_tie : Bk := [(0, [.aload 0, .getfield 8002, .iload 1, .invokestatic 0, .ifCond .ne 14, .iconst (-101), .ireturn], 14), (14, [.iload 2, .iload 3, .iconst (9999), .invokestatic 1, .ifCond .ne 28, .iconst (-102), .ireturn], 28), (28, [.aload 0, .getfield 8012, .iload 1, .invokestatic 2, .invokestatic 3, .istore 4, .aload 0, .getfield 8012, .iload 1, .iload 2, .iload 3, .invokestatic 4, .iload 4, .ireturn], 54)]
theorem k_X8_tie : chkB T_X8_tie cX8_tie B_X8_tie = true := by decide +kernel
theorem cw_X8_tie : calW Y_X8_tie := ⟨pn_X8, Or.inr (Or.inl ⟨rfl, rfl⟩), w_804, w_1, mh_X8, by decide⟩
theorem cl_X8_tie {o : OM} {Y : Pk} {d d2 idx : Nat} {C : Ctr} (hS : Sound o Y_X8_tie d2 C) (hd : d2 + 1 ≤ d) (hl : Cond.methodLink (yN Y).cls idx yX8_tie ∈ wsG ∨ ∃ host, Cond.methodLinkNest (yN Y).cls idx yX8_tie host ∈ nestW) : CallOK o Y d (.invokevirtual idx) (4, rcv 8 5 C) := callV_ok hS hd cw_X8_tie hl w_802 w_803 (Or.inl ⟨TX8, 13, rfl⟩) (by decide +kernel)
def Y_X8_image : Pk := (yX8_image, cX8_image, 1, some .int, 1)
def T_X8_image : Tb := ([(23, 8022), (10, 8002), (26, 8032), (19, 8012), (29, 8043), (92, 6000)], [], [], [], [(325, 0), (328, 1)], [], 1)
def V_X8_image : List (Nat × Nat) := [(0, 1)]
def B_X8_image : Bk := [(0, [.aload 0, .getfield 8022, .aload 0, .getfield 8002, .invokestatic 0, .aload 0, .getfield 8032, .aload 0, .getfield 8012, .invokestatic 1, .aload 0, .iconst (1), .putfield 8043, .aload 0, .getfield 8002, .getfield 6000, .ireturn], 35)]
theorem k_X8_image : chkB T_X8_image cX8_image B_X8_image = true := by decide +kernel
theorem cw_X8_image : calW Y_X8_image := ⟨pn_X8, Or.inr (Or.inl ⟨rfl, rfl⟩), w_1028, w_1, mh_X8, by decide⟩
theorem cl_X8_image {o : OM} {Y : Pk} {d d2 idx : Nat} {C : Ctr} (hS : Sound o Y_X8_image d2 C) (hd : d2 + 1 ≤ d) (hl : Cond.methodLink (yN Y).cls idx yX8_image ∈ wsG ∨ ∃ host, Cond.methodLinkNest (yN Y).cls idx yX8_image host ∈ nestW) : CallOK o Y d (.invokevirtual idx) (1, rcv 8 1 C) := callV_ok hS hd cw_X8_image hl w_1026 w_1027 (Or.inl ⟨TX8, 13, rfl⟩) (by decide +kernel)
def Y_X8_restore : Pk := (yX8_restore, cX8_restore, 1, some .int, 1)
def T_X8_restore : Tb := ([(29, 8043), (10, 8002), (23, 8022), (19, 8012), (26, 8032), (92, 6000)], [], [], [], [(325, 0), (328, 1)], [], 1)
def V_X8_restore : List (Nat × Nat) := [(0, 1), (10, 1)]
def B_X8_restore : Bk := [(0, [.aload 0, .getfield 8043, .ifCond .ne 10, .iconst (-103), .ireturn], 10), (10, [.aload 0, .getfield 8002, .aload 0, .getfield 8022, .invokestatic 0, .aload 0, .getfield 8012, .aload 0, .getfield 8032, .invokestatic 1, .aload 0, .getfield 8002, .getfield 6000, .ireturn], 40)]
theorem k_X8_restore : chkB T_X8_restore cX8_restore B_X8_restore = true := by decide +kernel
theorem cw_X8_restore : calW Y_X8_restore := ⟨pn_X8, Or.inr (Or.inl ⟨rfl, rfl⟩), w_1042, w_1, mh_X8, by decide⟩
theorem cl_X8_restore {o : OM} {Y : Pk} {d d2 idx : Nat} {C : Ctr} (hS : Sound o Y_X8_restore d2 C) (hd : d2 + 1 ≤ d) (hl : Cond.methodLink (yN Y).cls idx yX8_restore ∈ wsG ∨ ∃ host, Cond.methodLinkNest (yN Y).cls idx yX8_restore host ∈ nestW) : CallOK o Y d (.invokevirtual idx) (1, rcv 8 1 C) := callV_ok hS hd cw_X8_restore hl w_1040 w_1041 (Or.inl ⟨TX8, 13, rfl⟩) (by decide +kernel)
def Y_X8_aboutLeaf : Pk := (yX8_aboutLeaf, cX8_aboutLeaf, 4, some .int, 1)
def T_X8_aboutLeaf : Tb := ([(10, 8002)], [], [], [], [(118, 0), (132, 1), (380, 2), (383, 3)], [], 4)
def V_X8_aboutLeaf : List (Nat × Nat) := [(0, 4), (32, 4), (42, 4), (52, 4), (62, 4), (70, 4), (84, 4), (85, 4)]
def B_X8_aboutLeaf : Bk := [(0, [.iload 3, .tableswitch 85 (0) (3) #[32, 42, 52, 62]], 32), (32, [.aload 0, .getfield 8002, .iload 1, .iload 2, .invokestatic 0, .ireturn], 42), (42, [.aload 0, .getfield 8002, .iload 1, .iload 2, .invokestatic 1, .ireturn], 52), (52, [.aload 0, .getfield 8002, .iload 1, .iload 2, .invokestatic 2, .ireturn], 62), (62, [.iload 2, .ifCond .ne 70, .iconst (1), .goto 84], 70), (70, [.iconst (1), .aload 0, .getfield 8002, .iload 1, .iload 2, .iconst (1), .isub, .iload 2, .invokestatic 3, .iadd], 84), (84, [.ireturn], 85), (85, [.iconst (-102), .ireturn], 88)]
theorem k_X8_aboutLeaf : chkB T_X8_aboutLeaf cX8_aboutLeaf B_X8_aboutLeaf = true := by decide +kernel
theorem cw_X8_aboutLeaf : calW Y_X8_aboutLeaf := ⟨pn_X8, Or.inr (Or.inl ⟨rfl, rfl⟩), w_425, w_1, mh_X8, by decide⟩
theorem cl_X8_aboutLeaf {o : OM} {Y : Pk} {d d2 idx : Nat} {C : Ctr} (hS : Sound o Y_X8_aboutLeaf d2 C) (hd : d2 + 1 ≤ d) (hl : Cond.methodLink (yN Y).cls idx yX8_aboutLeaf ∈ wsG ∨ ∃ host, Cond.methodLinkNest (yN Y).cls idx yX8_aboutLeaf host ∈ nestW) : CallOK o Y d (.invokevirtual idx) (4, rcv 8 4 C) := callV_ok hS hd cw_X8_aboutLeaf hl w_424 wp_11 (Or.inl ⟨TX8, 13, rfl⟩) (by decide +kernel)
def Y_X9_isLeaf : Pk := (yX9_isLeaf, cX9_isLeaf, 3, some .boolean, 2)
def T_X9_isLeaf : Tb := ([(13, 9022)], [], [], [], [(116, 0)], [(112, 1)], 3)
def V_X9_isLeaf : List (Nat × Nat) := [(0, 3), (30, 3), (31, 3)]
def B_X9_isLeaf : Bk := [(0, [.aload 0, .iload 1, .invokestatic 0, .ifCond .eq 30, .iload 2, .i2l, .jsr 0, .aload 0, .getfield 9022, .iload 1, .iaload, .iconst (1), .isub, .i2l, .invokestatic 1, .ifCond .eq 30, .iconst (1), .goto 31], 30), (30, [.iconst (0)], 31), (31, [.ireturn], 32)]
theorem k_X9_isLeaf : chkB T_X9_isLeaf cX9_isLeaf B_X9_isLeaf = true := by decide +kernel
theorem cw_X9_isLeaf : calW Y_X9_isLeaf := ⟨pn_X9, Or.inr (Or.inr (Or.inl ⟨rfl, rfl⟩)), w_1288, w_11, mh_X9, by decide⟩
theorem cl_X9_isLeaf {o : OM} {Y : Pk} {d d2 idx : Nat} {C : Ctr} (hS : Sound o Y_X9_isLeaf d2 C) (hd : d2 + 1 ≤ d) (hl : Cond.methodLink (yN Y).cls idx yX9_isLeaf ∈ wsG ∨ ∃ host, Cond.methodLinkNest (yN Y).cls idx yX9_isLeaf host ∈ nestW) : CallOK o Y d (.invokevirtual idx) (3, rcv 9 3 C) := callV_ok hS hd cw_X9_isLeaf hl w_1287 wp_91 (Or.inl ⟨TX9, 55, rfl⟩) (by decide +kernel)
def Y_X9_leaf : Pk := (yX9_leaf, cX9_leaf, 5, some .int, 1)
def T_X9_leaf : Tb := ([(13, 9022)], [], [], [], [(116, 0), (132, 2)], [(128, 1)], 5)
def V_X9_leaf : List (Nat × Nat) := [(0, 5), (11, 5), (24, 5), (38, 5)]
def B_X9_leaf : Bk := [(0, [.aload 0, .iload 1, .invokestatic 0, .ifCond .ne 11, .iconst (-101), .ireturn], 11), (11, [.iload 2, .iload 3, .iload 4, .invokestatic 1, .ifCond .ne 24, .iconst (-102), .ireturn], 24), (24, [.aload 0, .getfield 9022, .iload 1, .iaload, .iconst (16), .if_icmp .ne 38, .iconst (-104), .ireturn], 38), (38, [.aload 0, .iload 1, .aload 0, .getfield 9022, .iload 1, .iaload, .iload 2, .iload 3, .iload 4, .invokestatic 2, .aload 0, .getfield 9022, .iload 1, .dup2, .iaload, .iconst (1), .iadd, .iastore, .aload 0, .getfield 9022, .iload 1, .iaload, .ireturn], 70)]
theorem k_X9_leaf : chkB T_X9_leaf cX9_leaf B_X9_leaf = true := by decide +kernel
theorem cw_X9_leaf : calW Y_X9_leaf := ⟨pn_X9, Or.inr (Or.inl ⟨rfl, rfl⟩), w_1266, w_11, mh_X9, by decide⟩
theorem cl_X9_leaf {o : OM} {Y : Pk} {d d2 idx : Nat} {C : Ctr} (hS : Sound o Y_X9_leaf d2 C) (hd : d2 + 1 ≤ d) (hl : Cond.methodLink (yN Y).cls idx yX9_leaf ∈ wsG ∨ ∃ host, Cond.methodLinkNest (yN Y).cls idx yX9_leaf host ∈ nestW) : CallOK o Y d (.invokevirtual idx) (5, rcv 9 5 C) := callV_ok hS hd cw_X9_leaf hl w_1264 w_1265 (Or.inl ⟨TX9, 55, rfl⟩) (by decide +kernel)
def Y_X9_lay : Pk := (yX9_lay, cX9_lay, 10, some .int, 1)
def T_X9_lay : Tb := ([(156, 9060), (13, 9022)], [], [(164, 20), (124, 99)], [], [(116, 0), (166, 2), (170, 3)], [(112, 1)], 10)
def V_X9_lay : List (Nat × Nat) := [(0, 6), (11, 6), (53, 6), (56, 6), (64, 7), (134, 10), (154, 10), (155, 10), (165, 10), (171, 7)]
def B_X9_lay : Bk := [(0, [.aload 0, .iload 1, .invokestatic 0, .ifCond .ne 11, .iconst (-101), .ireturn], 11), (11, [.iload 2, .ifCond .lt 53, .iload 3, .i2l, .jsr 1, .jsr (20), .invokestatic 1, .ifCond .eq 53, .iload 4, .i2l, .jsr 0, .jsr (99), .invokestatic 1, .ifCond .eq 53, .iload 5, .i2l, .jsr 0, .jsr (99), .invokestatic 1, .ifCond .ne 56], 53), (53, [.iconst (-102), .ireturn], 56), (56, [.aload 0, .iload 2, .putfield 9060, .iconst (0), .istore 6], 64), (64, [.iload 6, .iload 3, .if_icmp .ge 171, .aload 0, .iconst (40), .invokestatic 2, .istore 7, .aload 0, .iconst (6), .invokestatic 2, .istore 8, .aload 0, .iconst (100), .invokestatic 2, .istore 9, .iload 9, .iload 4, .if_icmp .lt 134, .iload 9, .iload 4, .iload 5, .iadd, .if_icmp .ge 134, .aload 0, .iload 1, .iconst (3), .iconst (3), .iload 7, .iadd, .invokestatic 3, .aload 0, .iload 1, .iconst (3), .iconst (2), .iload 8, .iadd, .invokestatic 3, .goto 165], 134), (134, [.iload 9, .iload 4, .if_icmp .lt 165, .aload 0, .iload 1, .iload 7, .iconst (34), .if_icmp .le 154, .iconst (1), .goto 155], 154), (154, [.iconst (0)], 155), (155, [.iconst (5), .iload 7, .iadd, .iload 8, .iadd, .invokestatic 3], 165), (165, [.iinc 6 1, .goto 64], 171), (171, [.aload 0, .getfield 9022, .iload 1, .iaload, .ireturn], 178)]
theorem k_X9_lay : chkB T_X9_lay cX9_lay B_X9_lay = true := by decide +kernel
theorem cw_X9_lay : calW Y_X9_lay := ⟨pn_X9, Or.inr (Or.inl ⟨rfl, rfl⟩), w_1321, w_11, mh_X9, by decide⟩
theorem cl_X9_lay {o : OM} {Y : Pk} {d d2 idx : Nat} {C : Ctr} (hS : Sound o Y_X9_lay d2 C) (hd : d2 + 1 ≤ d) (hl : Cond.methodLink (yN Y).cls idx yX9_lay ∈ wsG ∨ ∃ host, Cond.methodLinkNest (yN Y).cls idx yX9_lay host ∈ nestW) : CallOK o Y d (.invokevirtual idx) (6, rcv 9 10 C) := callV_ok hS hd cw_X9_lay hl w_1319 w_1320 (Or.inl ⟨TX9, 55, rfl⟩) (by decide +kernel)
def Y_X9_faultOf : Pk := (yX9_faultOf, cX9_faultOf, 3, some .int, 1)
def T_X9_faultOf : Tb := ([(179, 9140), (191, 9160), (34, 9132), (176, 9080), (25, 9072)], [], [], [], [(198, 0)], [], 3)
def V_X9_faultOf : List (Nat × Nat) := [(0, 2), (12, 3), (31, 3), (33, 3), (61, 3)]
def B_X9_faultOf : Bk := [(0, [.aload 0, .iconst (0), .putfield 9140, .aload 0, .iconst (0), .putfield 9160, .iconst (0), .istore 2], 12), (12, [.iload 2, .iconst (7), .if_icmp .ge 31, .aload 0, .getfield 9132, .iload 2, .iconst (-1), .iastore, .iinc 2 1, .goto 12], 31), (31, [.iconst (0), .istore 2], 33), (33, [.iload 2, .aload 0, .getfield 9080, .if_icmp .ge 61, .aload 0, .iload 1, .aload 0, .getfield 9072, .iload 2, .iaload, .invokestatic 0, .ifCond .eq 61, .iinc 2 1, .goto 33], 61), (61, [.iload 2, .ireturn], 63)]
theorem k_X9_faultOf : chkB T_X9_faultOf cX9_faultOf B_X9_faultOf = true := by decide +kernel
theorem cw_X9_faultOf : calW Y_X9_faultOf := ⟨pn_X9, Or.inr (Or.inl ⟨rfl, rfl⟩), w_1351, w_11, mh_X9, by decide⟩
theorem cl_X9_faultOf {o : OM} {Y : Pk} {d d2 idx : Nat} {C : Ctr} (hS : Sound o Y_X9_faultOf d2 C) (hd : d2 + 1 ≤ d) (hl : Cond.methodLink (yN Y).cls idx yX9_faultOf ∈ wsG ∨ ∃ host, Cond.methodLinkNest (yN Y).cls idx yX9_faultOf host ∈ nestW) : CallOK o Y d (.invokevirtual idx) (2, rcv 9 3 C) := callV_ok hS hd cw_X9_faultOf hl w_1350 wp_98 (Or.inl ⟨TX9, 55, rfl⟩) (by decide +kernel)
def Y_X9_atOf : Pk := (yX9_atOf, cX9_atOf, 4, some .int, 1)
def T_X9_atOf : Tb := ([], [], [], [], [(216, 0)], [], 4)
def V_X9_atOf : List (Nat × Nat) := [(0, 4)]
def B_X9_atOf : Bk := [(0, [.aload 0, .iload 1, .iload 2, .iload 3, .invokestatic 0, .iconst (2), .idiv, .ireturn], 10)]
theorem k_X9_atOf : chkB T_X9_atOf cX9_atOf B_X9_atOf = true := by decide +kernel
theorem cw_X9_atOf : calW Y_X9_atOf := ⟨pn_X9, Or.inr (Or.inl ⟨rfl, rfl⟩), w_1384, w_11, mh_X9, by decide⟩
theorem cl_X9_atOf {o : OM} {Y : Pk} {d d2 idx : Nat} {C : Ctr} (hS : Sound o Y_X9_atOf d2 C) (hd : d2 + 1 ≤ d) (hl : Cond.methodLink (yN Y).cls idx yX9_atOf ∈ wsG ∨ ∃ host, Cond.methodLinkNest (yN Y).cls idx yX9_atOf host ∈ nestW) : CallOK o Y d (.invokevirtual idx) (4, rcv 9 4 C) := callV_ok hS hd cw_X9_atOf hl w_1383 wp_101 (Or.inl ⟨TX9, 55, rfl⟩) (by decide +kernel)
def Y_X9_yearsOf : Pk := (yX9_yearsOf, cX9_yearsOf, 3, some .int, 1)
def T_X9_yearsOf : Tb := ([(13, 9022)], [], [], [], [(216, 0)], [], 3)
def V_X9_yearsOf : List (Nat × Nat) := [(0, 3)]
def B_X9_yearsOf : Bk := [(0, [.aload 0, .iload 1, .iload 2, .aload 0, .getfield 9022, .iload 2, .iaload, .invokestatic 0, .iconst (1), .iadd, .iconst (2), .idiv, .ireturn], 17)]
theorem k_X9_yearsOf : chkB T_X9_yearsOf cX9_yearsOf B_X9_yearsOf = true := by decide +kernel
theorem cw_X9_yearsOf : calW Y_X9_yearsOf := ⟨pn_X9, Or.inr (Or.inl ⟨rfl, rfl⟩), w_1298, w_11, mh_X9, by decide⟩
theorem cl_X9_yearsOf {o : OM} {Y : Pk} {d d2 idx : Nat} {C : Ctr} (hS : Sound o Y_X9_yearsOf d2 C) (hd : d2 + 1 ≤ d) (hl : Cond.methodLink (yN Y).cls idx yX9_yearsOf ∈ wsG ∨ ∃ host, Cond.methodLinkNest (yN Y).cls idx yX9_yearsOf host ∈ nestW) : CallOK o Y d (.invokevirtual idx) (3, rcv 9 3 C) := callV_ok hS hd cw_X9_yearsOf hl w_1297 wp_92 (Or.inl ⟨TX9, 55, rfl⟩) (by decide +kernel)
def Y_X9_likeOf : Pk := (yX9_likeOf, cX9_likeOf, 11, some .int, 1)
def T_X9_likeOf : Tb := ([(13, 9022), (19, 9042), (16, 9032), (22, 9052)], [], [], [], [(230, 1), (151, 3)], [(112, 0), (140, 2)], 11)
def V_X9_likeOf : List (Nat × Nat) := [(0, 5), (6, 7), (71, 10), (97, 10), (138, 11), (142, 11), (163, 11), (165, 11), (168, 8), (174, 7)]
def B_X9_likeOf : Bk := [(0, [.iconst (0), .istore 5, .iconst (0), .istore 6], 6), (6, [.iload 6, .aload 0, .getfield 9022, .iload 1, .iaload, .if_icmp .ge 174, .iload 6, .iload 3, .isub, .istore 7, .iload 7, .i2l, .jsr 0, .aload 0, .getfield 9022, .iload 2, .iaload, .iconst (1), .isub, .i2l, .invokestatic 0, .ifCond .eq 168, .iconst (16), .iload 1, .imul, .iload 6, .iadd, .istore 8, .aload 0, .iload 2, .iload 7, .iload 4, .invokestatic 1, .istore 9, .iload 7, .ifCond .ne 71, .iconst (0), .goto 97], 71), (71, [.aload 0, .getfield 9042, .iload 9, .iaload, .aload 0, .getfield 9042, .aload 0, .iload 2, .iload 7, .iconst (1), .isub, .iload 4, .invokestatic 1, .iaload, .invokestatic 2], 97), (97, [.istore 10, .iload 5, .aload 0, .iload 1, .iload 6, .invokestatic 3, .iload 10, .imul, .iadd, .istore 5, .iload 5, .aload 0, .getfield 9032, .iload 8, .iaload, .iconst (5), .if_icmp .ne 138, .aload 0, .getfield 9032, .iload 9, .iaload, .iconst (5), .if_icmp .eq 142], 138), (138, [.iconst (0), .goto 165], 142), (142, [.aload 0, .getfield 9052, .iload 8, .iaload, .aload 0, .getfield 9052, .iload 9, .iaload, .if_icmp .ne 163, .iconst (5), .goto 165], 163), (163, [.iconst (-5)], 165), (165, [.iadd, .istore 5], 168), (168, [.iinc 6 1, .goto 6], 174), (174, [.iload 5, .ireturn], 177)]
theorem k_X9_likeOf : chkB T_X9_likeOf cX9_likeOf B_X9_likeOf = true := by decide +kernel
theorem cw_X9_likeOf : calW Y_X9_likeOf := ⟨pn_X9, Or.inr (Or.inl ⟨rfl, rfl⟩), w_1412, w_11, mh_X9, by decide⟩
theorem cl_X9_likeOf {o : OM} {Y : Pk} {d d2 idx : Nat} {C : Ctr} (hS : Sound o Y_X9_likeOf d2 C) (hd : d2 + 1 ≤ d) (hl : Cond.methodLink (yN Y).cls idx yX9_likeOf ∈ wsG ∨ ∃ host, Cond.methodLinkNest (yN Y).cls idx yX9_likeOf host ∈ nestW) : CallOK o Y d (.invokevirtual idx) (5, rcv 9 11 C) := callV_ok hS hd cw_X9_likeOf hl w_1411 wp_103 (Or.inl ⟨TX9, 55, rfl⟩) (by decide +kernel)
def Y_X9_over : Pk := (yX9_over, cX9_over, 4, some .int, 1)
def T_X9_over : Tb := ([], [], [], [], [(116, 0), (237, 2)], [(233, 1)], 4)
def V_X9_over : List (Nat × Nat) := [(0, 4), (16, 4), (19, 4), (36, 4), (38, 4)]
def B_X9_over : Bk := [(0, [.aload 0, .iload 1, .invokestatic 0, .ifCond .eq 16, .aload 0, .iload 2, .invokestatic 0, .ifCond .ne 19], 16), (16, [.iconst (-101), .ireturn], 19), (19, [.iload 3, .invokestatic 1, .ifCond .eq 36, .aload 0, .iload 1, .iload 2, .iload 3, .invokestatic 2, .goto 38], 36), (36, [.iconst (-102)], 38), (38, [.ireturn], 39)]
theorem k_X9_over : chkB T_X9_over cX9_over B_X9_over = true := by decide +kernel
theorem cw_X9_over : calW Y_X9_over := ⟨pn_X9, Or.inr (Or.inl ⟨rfl, rfl⟩), w_1420, w_11, mh_X9, by decide⟩
theorem cl_X9_over {o : OM} {Y : Pk} {d d2 idx : Nat} {C : Ctr} (hS : Sound o Y_X9_over d2 C) (hd : d2 + 1 ≤ d) (hl : Cond.methodLink (yN Y).cls idx yX9_over ∈ wsG ∨ ∃ host, Cond.methodLinkNest (yN Y).cls idx yX9_over host ∈ nestW) : CallOK o Y d (.invokevirtual idx) (4, rcv 9 4 C) := callV_ok hS hd cw_X9_over hl w_1418 w_1419 (Or.inl ⟨TX9, 55, rfl⟩) (by decide +kernel)
def Y_X9_layTogether : Pk := (yX9_layTogether, cX9_layTogether, 16, none, 0)
def T_X9_layTogether : Tb := ([(259, 9190), (265, 9200), (31, 9122), (287, 9210), (290, 9220), (278, 9230), (284, 9240), (268, 9250), (271, 9260), (13, 9022), (37, 9172), (40, 9182)], [(274, 100000000), (301, 999999999)], [(299, 999999999)], [], [(293, 0), (296, 1)], [], 16)
def V_X9_layTogether : List (Nat × Nat) := [(0, 6), (84, 7), (97, 8), (128, 8), (129, 8), (140, 9), (143, 9), (154, 10), (155, 10), (160, 12), (192, 13), (210, 13), (239, 14), (241, 14), (255, 14), (257, 14), (289, 14), (292, 14), (309, 16), (312, 16), (314, 14), (320, 12), (356, 8), (362, 7)]
def B_X9_layTogether : Bk := [(0, [.aload 0, .iload 2, .putfield 9190, .aload 0, .iload 3, .putfield 9200, .aload 0, .aload 0, .getfield 9122, .iconst (4), .iload 1, .imul, .iaload, .putfield 9210, .aload 0, .aload 0, .getfield 9122, .iconst (4), .iload 1, .imul, .iconst (1), .iadd, .iaload, .putfield 9220, .aload 0, .aload 0, .getfield 9122, .iconst (4), .iload 1, .imul, .iconst (2), .iadd, .iaload, .putfield 9230, .aload 0, .aload 0, .getfield 9122, .iconst (4), .iload 1, .imul, .iconst (3), .iadd, .iaload, .putfield 9240, .aload 0, .iload 4, .putfield 9250, .aload 0, .iload 5, .putfield 9260, .aload 0, .getfield 9022, .iload 2, .iaload, .istore 6], 84), (84, [.iload 6, .ifCond .lt 362, .aload 0, .getfield 9022, .iload 3, .iaload, .istore 7], 97), (97, [.iload 7, .ifCond .lt 356, .iload 6, .aload 0, .getfield 9022, .iload 2, .iaload, .if_icmp .ne 128, .iload 7, .aload 0, .getfield 9022, .iload 3, .iaload, .if_icmp .ne 128, .iconst (1), .goto 129], 128), (128, [.iconst (0)], 129), (129, [.istore 8, .iload 8, .ifCond .eq 140, .iconst (0), .goto 143], 140), (140, [.iconst (100000000)], 143), (143, [.istore 9, .iload 8, .ifCond .eq 154, .iconst (1), .goto 155], 154), (154, [.iconst (0)], 155), (155, [.istore 10, .iconst (0), .istore 11], 160), (160, [.iload 11, .iconst (5), .if_icmp .ge 320, .aload 0, .iload 6, .iload 7, .iload 11, .invokestatic 0, .istore 12, .iload 12, .iconst (100000000), .if_icmp .ne 192, .iconst (100000000), .goto 210], 192), (192, [.iload 12, .aload 0, .getfield 9172, .aload 0, .iload 6, .iload 7, .iload 11, .invokestatic 1, .iaload, .iadd], 210), (210, [.istore 13, .iload 12, .iconst (100000000), .if_icmp .ge 314, .iload 13, .iconst (100000000), .if_icmp .ge 314, .iload 13, .iload 9, .if_icmp .ge 239, .iconst (0), .goto 241], 239), (239, [.iload 10], 241), (241, [.istore 10, .iload 13, .iload 9, .if_icmp .ge 255, .iload 13, .goto 257], 255), (255, [.iload 9], 257), (257, [.istore 9, .iload 13, .iload 9, .if_icmp .ne 289, .iload 10, .i2l, .aload 0, .getfield 9182, .aload 0, .iload 6, .iload 7, .iload 11, .invokestatic 1, .iaload, .i2l, .ladd, .goto 292], 289), (289, [.iload 10, .i2l], 292), (292, [.lstore 14, .lload 14, .jsr (999999999), .lcmp, .ifCond .le 309, .iconst (999999999), .goto 312], 309), (309, [.lload 14, .l2i], 312), (312, [.istore 10], 314), (314, [.iinc 11 1, .goto 160], 320), (320, [.aload 0, .getfield 9172, .iconst (17), .iload 6, .imul, .iload 7, .iadd, .iload 9, .iastore, .aload 0, .getfield 9182, .iconst (17), .iload 6, .imul, .iload 7, .iadd, .iload 10, .iastore, .iinc 7 (-1), .goto 97], 356), (356, [.iinc 6 (-1), .goto 84], 362), (362, [.return_], 363)]
theorem k_X9_layTogether : chkB T_X9_layTogether cX9_layTogether B_X9_layTogether = true := by decide +kernel
theorem cw_X9_layTogether : calW Y_X9_layTogether := ⟨pn_X9, Or.inl ⟨rfl, rfl⟩, w_1452, w_11, mh_X9, by decide⟩
theorem cl_X9_layTogether {o : OM} {Y : Pk} {d d2 idx : Nat} {C : Ctr} (hS : Sound o Y_X9_layTogether d2 C) (hd : d2 + 1 ≤ d) (hl : Cond.methodLink (yN Y).cls idx yX9_layTogether ∈ wsG ∨ ∃ host, Cond.methodLinkNest (yN Y).cls idx yX9_layTogether host ∈ nestW) : CallOK o Y d (.invokevirtual idx) (6, rcv 9 16 C) := callV_ok hS hd cw_X9_layTogether hl w_1451 wp_106 (Or.inl ⟨TX9, 55, rfl⟩) (by decide +kernel)
def Y_X9_layWay : Pk := (yX9_layWay, cX9_layWay, 5, none, 0)
def T_X9_layWay : Tb := ([(302, 9280), (13, 9022), (259, 9190), (265, 9200), (37, 9172), (46, 9292), (49, 9302), (43, 9272)], [(274, 100000000)], [], [], [(293, 0), (296, 1)], [(256, 2), (262, 3)], 5)
def V_X9_layWay : List (Nat × Nat) := [(0, 1), (9, 3), (35, 3), (37, 4), (84, 4), (90, 4), (93, 5), (119, 5), (120, 5), (137, 5), (138, 5), (145, 5), (182, 3)]
def B_X9_layWay : Bk := [(0, [.iconst (0), .istore 1, .iconst (0), .istore 2, .aload 0, .iconst (0), .putfield 9280], 9), (9, [.iload 1, .aload 0, .getfield 9022, .aload 0, .getfield 9190, .iaload, .if_icmp .lt 35, .iload 2, .aload 0, .getfield 9022, .aload 0, .getfield 9200, .iaload, .if_icmp .ge 182], 35), (35, [.iconst (0), .istore 3], 37), (37, [.aload 0, .iload 1, .iload 2, .iload 3, .invokestatic 0, .iconst (100000000), .if_icmp .eq 84, .aload 0, .iload 1, .iload 2, .iload 3, .invokestatic 0, .aload 0, .getfield 9172, .aload 0, .iload 1, .iload 2, .iload 3, .invokestatic 1, .iaload, .iadd, .aload 0, .getfield 9172, .iconst (17), .iload 1, .imul, .iload 2, .iadd, .iaload, .if_icmp .eq 90], 84), (84, [.iinc 3 1, .goto 37], 90), (90, [.iconst (0), .istore 4], 93), (93, [.iload 4, .iload 3, .invokestatic 2, .if_icmp .ge 145, .aload 0, .getfield 9292, .iload 1, .iload 4, .iadd, .iload 3, .iconst (1), .if_icmp .ne 119, .iconst (-1), .goto 120], 119), (119, [.iload 2], 120), (120, [.iastore, .aload 0, .getfield 9302, .iload 1, .iload 4, .iadd, .iload 3, .ifCond .ne 137, .iconst (1), .goto 138], 137), (137, [.iconst (0)], 138), (138, [.bastore, .iinc 4 1, .goto 93], 145), (145, [.aload 0, .getfield 9272, .aload 0, .getfield 9280, .iload 3, .iastore, .aload 0, .dup, .getfield 9280, .iconst (1), .iadd, .putfield 9280, .iload 1, .iload 3, .invokestatic 2, .iadd, .istore 1, .iload 2, .iload 3, .invokestatic 3, .iadd, .istore 2, .goto 9], 182), (182, [.return_], 183)]
theorem k_X9_layWay : chkB T_X9_layWay cX9_layWay B_X9_layWay = true := by decide +kernel
theorem cw_X9_layWay : calW Y_X9_layWay := ⟨pn_X9, Or.inl ⟨rfl, rfl⟩, w_1480, w_11, mh_X9, by decide⟩
theorem cl_X9_layWay {o : OM} {Y : Pk} {d d2 idx : Nat} {C : Ctr} (hS : Sound o Y_X9_layWay d2 C) (hd : d2 + 1 ≤ d) (hl : Cond.methodLink (yN Y).cls idx yX9_layWay ∈ wsG ∨ ∃ host, Cond.methodLinkNest (yN Y).cls idx yX9_layWay host ∈ nestW) : CallOK o Y d (.invokevirtual idx) (1, rcv 9 5 C) := callV_ok hS hd cw_X9_layWay hl w_1479 wp_110 (Or.inl ⟨TX9, 55, rfl⟩) (by decide +kernel)
def Y_X9_join : Pk := (yX9_join, cX9_join, 6, some .int, 1)
def T_X9_join : Tb := ([(325, 9320), (53, 9332), (56, 9342), (59, 9352), (62, 9362), (65, 9372), (68, 9382)], [], [(321, (-999)), (323, 999), (124, 99)], [], [(116, 0)], [(112, 1)], 6)
def V_X9_join : List (Nat × Nat) := [(0, 6), (21, 6), (24, 6), (65, 6), (68, 6), (80, 6)]
def B_X9_join : Bk := [(0, [.aload 0, .iload 1, .invokestatic 0, .ifCond .eq 21, .aload 0, .iload 2, .invokestatic 0, .ifCond .eq 21, .iload 1, .iload 2, .if_icmp .ne 24], 21), (21, [.iconst (-101), .ireturn], 24), (24, [.iload 3, .i2l, .jsr (-999), .jsr (999), .invokestatic 1, .ifCond .eq 65, .iload 4, .i2l, .iload 3, .i2l, .jsr (999), .invokestatic 1, .ifCond .eq 65, .iload 5, .i2l, .jsr 0, .jsr (99), .invokestatic 1, .ifCond .ne 68], 65), (65, [.iconst (-102), .ireturn], 68), (68, [.aload 0, .getfield 9320, .iconst (12), .if_icmp .ne 80, .iconst (-104), .ireturn], 80), (80, [.aload 0, .getfield 9332, .aload 0, .getfield 9320, .iload 1, .iastore, .aload 0, .getfield 9342, .aload 0, .getfield 9320, .iload 2, .iastore, .aload 0, .getfield 9352, .aload 0, .getfield 9320, .iload 3, .iastore, .aload 0, .getfield 9362, .aload 0, .getfield 9320, .iload 4, .iastore, .aload 0, .getfield 9372, .aload 0, .getfield 9320, .iload 5, .iastore, .aload 0, .getfield 9382, .aload 0, .getfield 9320, .iconst (1), .bastore, .aload 0, .dup, .getfield 9320, .iconst (1), .iadd, .putfield 9320, .aload 0, .getfield 9320, .iconst (1), .isub, .ireturn], 159)]
theorem k_X9_join : chkB T_X9_join cX9_join B_X9_join = true := by decide +kernel
theorem cw_X9_join : calW Y_X9_join := ⟨pn_X9, Or.inr (Or.inl ⟨rfl, rfl⟩), w_1492, w_11, mh_X9, by decide⟩
theorem cl_X9_join {o : OM} {Y : Pk} {d d2 idx : Nat} {C : Ctr} (hS : Sound o Y_X9_join d2 C) (hd : d2 + 1 ≤ d) (hl : Cond.methodLink (yN Y).cls idx yX9_join ∈ wsG ∨ ∃ host, Cond.methodLinkNest (yN Y).cls idx yX9_join host ∈ nestW) : CallOK o Y d (.invokevirtual idx) (6, rcv 9 6 C) := callV_ok hS hd cw_X9_join hl w_1490 w_1491 (Or.inl ⟨TX9, 55, rfl⟩) (by decide +kernel)
def Y_X9_tie : Pk := (yX9_tie, cX9_tie, 5, some .int, 1)
def T_X9_tie : Tb := ([(71, 9392), (74, 9402), (77, 9412)], [], [(328, (-9999)), (330, 9999)], [], [(116, 0)], [(112, 1)], 5)
def V_X9_tie : List (Nat × Nat) := [(0, 4), (11, 4), (38, 4), (41, 4), (54, 4), (55, 4)]
def B_X9_tie : Bk := [(0, [.aload 0, .iload 1, .invokestatic 0, .ifCond .ne 11, .iconst (-101), .ireturn], 11), (11, [.iload 2, .i2l, .jsr (-9999), .jsr (9999), .invokestatic 1, .ifCond .eq 38, .iload 3, .i2l, .iload 2, .i2l, .jsr (9999), .invokestatic 1, .ifCond .ne 41], 38), (38, [.iconst (-102), .ireturn], 41), (41, [.aload 0, .getfield 9392, .iload 1, .baload, .ifCond .eq 54, .iconst (1), .goto 55], 54), (54, [.iconst (0)], 55), (55, [.istore 4, .aload 0, .getfield 9392, .iload 1, .iconst (1), .bastore, .aload 0, .getfield 9402, .iload 1, .iload 2, .iastore, .aload 0, .getfield 9412, .iload 1, .iload 3, .iastore, .iload 4, .ireturn], 81)]
theorem k_X9_tie : chkB T_X9_tie cX9_tie B_X9_tie = true := by decide +kernel
theorem cw_X9_tie : calW Y_X9_tie := ⟨pn_X9, Or.inr (Or.inl ⟨rfl, rfl⟩), w_1502, w_11, mh_X9, by decide⟩
theorem cl_X9_tie {o : OM} {Y : Pk} {d d2 idx : Nat} {C : Ctr} (hS : Sound o Y_X9_tie d2 C) (hd : d2 + 1 ≤ d) (hl : Cond.methodLink (yN Y).cls idx yX9_tie ∈ wsG ∨ ∃ host, Cond.methodLinkNest (yN Y).cls idx yX9_tie host ∈ nestW) : CallOK o Y d (.invokevirtual idx) (4, rcv 9 5 C) := callV_ok hS hd cw_X9_tie hl w_1500 w_1501 (Or.inl ⟨TX9, 55, rfl⟩) (by decide +kernel)
def Y_X9_untie : Pk := (yX9_untie, cX9_untie, 3, some .int, 1)
def T_X9_untie : Tb := ([(71, 9392)], [], [], [], [(116, 0)], [], 3)
def V_X9_untie : List (Nat × Nat) := [(0, 2), (11, 2), (24, 2), (25, 2)]
def B_X9_untie : Bk := [(0, [.aload 0, .iload 1, .invokestatic 0, .ifCond .ne 11, .iconst (-101), .ireturn], 11), (11, [.aload 0, .getfield 9392, .iload 1, .baload, .ifCond .eq 24, .iconst (1), .goto 25], 24), (24, [.iconst (0)], 25), (25, [.istore 2, .aload 0, .getfield 9392, .iload 1, .iconst (0), .bastore, .iload 2, .ireturn], 35)]
theorem k_X9_untie : chkB T_X9_untie cX9_untie B_X9_untie = true := by decide +kernel
theorem cw_X9_untie : calW Y_X9_untie := ⟨pn_X9, Or.inr (Or.inl ⟨rfl, rfl⟩), w_1508, w_11, mh_X9, by decide⟩
theorem cl_X9_untie {o : OM} {Y : Pk} {d d2 idx : Nat} {C : Ctr} (hS : Sound o Y_X9_untie d2 C) (hd : d2 + 1 ≤ d) (hl : Cond.methodLink (yN Y).cls idx yX9_untie ∈ wsG ∨ ∃ host, Cond.methodLinkNest (yN Y).cls idx yX9_untie host ∈ nestW) : CallOK o Y d (.invokevirtual idx) (2, rcv 9 3 C) := callV_ok hS hd cw_X9_untie hl w_1506 w_1507 (Or.inl ⟨TX9, 55, rfl⟩) (by decide +kernel)
def Y_X9_count : Pk := (yX9_count, cX9_count, 2, some .int, 1)
def T_X9_count : Tb := ([], [], [], [], [(388, 0)], [], 2)
def V_X9_count : List (Nat × Nat) := [(0, 2)]
def B_X9_count : Bk := [(0, [.aload 0, .iload 1, .invokestatic 0, .ireturn], 6)]
theorem k_X9_count : chkB T_X9_count cX9_count B_X9_count = true := by decide +kernel
theorem cw_X9_count : calW Y_X9_count := ⟨pn_X9, Or.inr (Or.inl ⟨rfl, rfl⟩), w_1616, w_11, mh_X9, by decide⟩
theorem cl_X9_count {o : OM} {Y : Pk} {d d2 idx : Nat} {C : Ctr} (hS : Sound o Y_X9_count d2 C) (hd : d2 + 1 ≤ d) (hl : Cond.methodLink (yN Y).cls idx yX9_count ∈ wsG ∨ ∃ host, Cond.methodLinkNest (yN Y).cls idx yX9_count host ∈ nestW) : CallOK o Y d (.invokevirtual idx) (2, rcv 9 2 C) := callV_ok hS hd cw_X9_count hl w_1614 w_1615 (Or.inl ⟨TX9, 55, rfl⟩) (by decide +kernel)
def Y_X3_weaveFixed : Pk := (yX3_weaveFixed, cX3_weaveFixed, 2, some .boolean, 2)
def T_X3_weaveFixed : Tb := ([(15, 3042), (51, 3002), (85, 6000), (59, 3022), (95, 82), (98, 92)], [(71, 1000000000)], [], [], [(78, 1), (81, 2), (90, 3)], [(72, 0), (101, 4)], 2)
def V_X3_weaveFixed : List (Nat × Nat) := [(0, 1), (11, 2), (35, 2), (41, 2), (57, 2), (63, 2), (65, 2), (120, 2), (126, 2)]
def B_X3_weaveFixed : Bk := [(0, [.aload 0, .getfield 3042, .iconst (1000000000), .invokestatic 0, .iconst (0), .istore 1], 11), (11, [.iload 1, .iconst (8), .if_icmp .ge 35, .aload 0, .getfield 3042, .iload 1, .iconst (8), .imul, .iload 1, .iadd, .iconst (0), .iastore, .iinc 1 1, .goto 11], 35), (35, [.aload 0, .invokestatic 1, .iconst (0), .istore 1], 41), (41, [.iload 1, .iconst (9), .if_icmp .gt 63, .aload 0, .iload 1, .invokestatic 2, .ifCond .ne 57, .iconst (0), .ireturn], 57), (57, [.iinc 1 1, .goto 41], 63), (63, [.iconst (0), .istore 1], 65), (65, [.iload 1, .aload 0, .getfield 3002, .getfield 6000, .if_icmp .ge 126, .aload 0, .getfield 3022, .iload 1, .invokestatic 3, .ifCond .eq 120, .aload 0, .getfield 3042, .iconst (7), .iload 1, .aload 0, .getfield 3022, .getfield 82, .iload 1, .iaload, .aload 0, .getfield 3022, .getfield 92, .iload 1, .iaload, .invokestatic 4, .ifCond .ne 120, .iconst (0), .ireturn], 120), (120, [.iinc 1 1, .goto 65], 126), (126, [.iconst (1), .ireturn], 128)]
theorem k_X3_weaveFixed : chkB T_X3_weaveFixed cX3_weaveFixed B_X3_weaveFixed = true := by decide +kernel
theorem cw_X3_weaveFixed : calW Y_X3_weaveFixed := ⟨pn_X3, Or.inr (Or.inr (Or.inl ⟨rfl, rfl⟩)), w_836, w_10, mh_X3, by decide⟩
theorem cl_X3_weaveFixed {o : OM} {Y : Pk} {d d2 idx : Nat} {C : Ctr} (hS : Sound o Y_X3_weaveFixed d2 C) (hd : d2 + 1 ≤ d) (hl : Cond.methodLink (yN Y).cls idx yX3_weaveFixed ∈ wsG ∨ ∃ host, Cond.methodLinkNest (yN Y).cls idx yX3_weaveFixed host ∈ nestW) : CallOK o Y d (.invokevirtual idx) (1, rcv 3 2 C) := callV_ok hS hd cw_X3_weaveFixed hl w_835 wp_50 (Or.inl ⟨TX3, 15, rfl⟩) (by decide +kernel)
def Y_X3_weaveJoins : Pk := (yX3_weaveJoins, cX3_weaveJoins, 4, some .boolean, 2)
def T_X3_weaveJoins : Tb := ([(15, 3042), (59, 3022), (111, 0)], [], [], [], [(114, 1), (117, 2)], [(105, 0)], 4)
def V_X3_weaveJoins : List (Nat × Nat) := [(0, 3), (14, 4), (52, 4), (58, 4)]
def B_X3_weaveJoins : Bk := [(0, [.aload 0, .getfield 3042, .iconst (0), .aload 1, .iconst (0), .iconst (64), .invokestatic 0, .iconst (0), .istore 3], 14), (14, [.iload 3, .aload 0, .getfield 3022, .getfield 0, .if_icmp .ge 58, .aload 0, .getfield 3022, .iload 3, .invokestatic 1, .ifCond .eq 52, .iload 3, .iload 2, .if_icmp .eq 52, .aload 0, .aload 1, .iload 3, .invokestatic 2, .ifCond .ne 52, .iconst (0), .ireturn], 52), (52, [.iinc 3 1, .goto 14], 58), (58, [.iconst (1), .ireturn], 60)]
theorem k_X3_weaveJoins : chkB T_X3_weaveJoins cX3_weaveJoins B_X3_weaveJoins = true := by decide +kernel
theorem cw_X3_weaveJoins : calW Y_X3_weaveJoins := ⟨pn_X3, Or.inr (Or.inr (Or.inl ⟨rfl, rfl⟩)), w_868, w_10, mh_X3, by decide⟩
theorem cl_X3_weaveJoins {o : OM} {Y : Pk} {d d2 idx : Nat} {C : Ctr} (hS : Sound o Y_X3_weaveJoins d2 C) (hd : d2 + 1 ≤ d) (hl : Cond.methodLink (yN Y).cls idx yX3_weaveJoins ∈ wsG ∨ ∃ host, Cond.methodLinkNest (yN Y).cls idx yX3_weaveJoins host ∈ nestW) : CallOK o Y d (.invokevirtual idx) (3, rcv 3 4 C) := callV_ok hS hd cw_X3_weaveJoins hl w_867 wp_55 (Or.inl ⟨TX3, 15, rfl⟩) (by decide +kernel)
def Y_X3_group : Pk := (yX3_group, cX3_group, 2, none, 0)
def T_X3_group : Tb := ([(29, 3082), (59, 3022), (111, 0), (120, 12), (123, 22), (51, 3002), (85, 6000)], [], [], [], [(114, 0), (164, 1), (90, 2), (78, 3), (168, 4)], [], 2)
def V_X3_group : List (Nat × Nat) := [(0, 1), (2, 2), (21, 2), (23, 2), (67, 2), (73, 2), (75, 2), (104, 2), (110, 2), (116, 2), (133, 2)]
def B_X3_group : Bk := [(0, [.iconst (0), .istore 1], 2), (2, [.iload 1, .iconst (8), .if_icmp .ge 21, .aload 0, .getfield 3082, .iload 1, .iload 1, .iastore, .iinc 1 1, .goto 2], 21), (21, [.iconst (0), .istore 1], 23), (23, [.iload 1, .aload 0, .getfield 3022, .getfield 0, .if_icmp .ge 73, .aload 0, .getfield 3022, .iload 1, .invokestatic 0, .ifCond .eq 67, .aload 0, .aload 0, .getfield 3022, .getfield 12, .iload 1, .iaload, .aload 0, .getfield 3022, .getfield 22, .iload 1, .iaload, .invokestatic 1], 67), (67, [.iinc 1 1, .goto 23], 73), (73, [.iconst (0), .istore 1], 75), (75, [.iload 1, .aload 0, .getfield 3002, .getfield 6000, .if_icmp .ge 110, .aload 0, .getfield 3022, .iload 1, .invokestatic 2, .ifCond .eq 104, .aload 0, .iconst (7), .iload 1, .invokestatic 1], 104), (104, [.iinc 1 1, .goto 75], 110), (110, [.aload 0, .invokestatic 3, .iconst (0), .istore 1], 116), (116, [.iload 1, .iconst (9), .if_icmp .gt 133, .aload 0, .iload 1, .invokestatic 4, .iinc 1 1, .goto 116], 133), (133, [.return_], 134)]
theorem k_X3_group : chkB T_X3_group cX3_group B_X3_group = true := by decide +kernel
theorem cw_X3_group : calW Y_X3_group := ⟨pn_X3, Or.inl ⟨rfl, rfl⟩, w_903, w_10, mh_X3, by decide⟩
theorem cl_X3_group {o : OM} {Y : Pk} {d d2 idx : Nat} {C : Ctr} (hS : Sound o Y_X3_group d2 C) (hd : d2 + 1 ≤ d) (hl : Cond.methodLink (yN Y).cls idx yX3_group ∈ wsG ∨ ∃ host, Cond.methodLinkNest (yN Y).cls idx yX3_group host ∈ nestW) : CallOK o Y d (.invokevirtual idx) (1, rcv 3 2 C) := callV_ok hS hd cw_X3_group hl w_902 wp_60 (Or.inl ⟨TX3, 15, rfl⟩) (by decide +kernel)
def Y_X3_castFrom : Pk := (yX3_castFrom, cX3_castFrom, 4, none, 0)
def T_X3_castFrom : Tb := ([(36, 3100), (59, 3022), (111, 0), (23, 3062), (187, 52)], [], [], [], [(181, 1), (184, 2), (114, 3), (117, 4), (177, 5)], [(172, 0)], 4)
def V_X3_castFrom : List (Nat × Nat) := [(0, 4), (12, 4), (29, 4), (36, 4), (68, 4), (77, 4), (116, 4)]
def B_X3_castFrom : Bk := [(0, [.iload 2, .invokestatic 0, .aload 0, .getfield 3100, .if_icmp .le 12, .return_], 12), (12, [.iload 1, .aload 0, .getfield 3022, .getfield 0, .if_icmp .ge 29, .iload 1, .iconst (12), .if_icmp .lt 36], 29), (29, [.aload 0, .iload 2, .iload 3, .invokestatic 1, .return_], 36), (36, [.aload 0, .iload 1, .invokestatic 2, .aload 0, .getfield 3022, .iload 1, .invokestatic 3, .ifCond .eq 68, .aload 0, .aload 0, .getfield 3062, .iload 1, .iconst (1), .iadd, .aaload, .iload 1, .invokestatic 4, .ifCond .eq 77], 68), (68, [.aload 0, .iload 1, .iconst (1), .iadd, .iload 2, .iload 3, .invokestatic 5], 77), (77, [.aload 0, .getfield 3022, .iload 1, .invokestatic 3, .ifCond .eq 116, .aload 0, .iload 1, .invokestatic 2, .aload 0, .iload 1, .iconst (1), .iadd, .iload 2, .iconst (1), .iload 1, .ishl, .ior, .iload 3, .aload 0, .getfield 3022, .getfield 52, .iload 1, .iaload, .iadd, .invokestatic 5], 116), (116, [.return_], 117)]
theorem k_X3_castFrom : chkB T_X3_castFrom cX3_castFrom B_X3_castFrom = true := by decide +kernel
theorem cw_X3_castFrom : calW Y_X3_castFrom := ⟨pn_X3, Or.inl ⟨rfl, rfl⟩, w_937, w_10, mh_X3, by decide⟩
theorem cl_X3_castFrom {o : OM} {Y : Pk} {d d2 idx : Nat} {C : Ctr} (hS : Sound o Y_X3_castFrom d2 C) (hd : d2 + 1 ≤ d) (hl : Cond.methodLink (yN Y).cls idx yX3_castFrom ∈ wsG ∨ ∃ host, Cond.methodLinkNest (yN Y).cls idx yX3_castFrom host ∈ nestW) : CallOK o Y d (.invokevirtual idx) (4, rcv 3 4 C) := callV_ok hS hd cw_X3_castFrom hl w_936 wp_66 (Or.inl ⟨TX3, 15, rfl⟩) (by decide +kernel)
def Y_X3_worstOfDig : Pk := (yX3_worstOfDig, cX3_worstOfDig, 6, some .int, 1)
def T_X3_worstOfDig : Tb := ([], [], [], [], [(206, 0), (197, 1), (209, 2)], [(212, 3)], 6)
def V_X3_worstOfDig : List (Nat × Nat) := [(0, 3), (14, 6), (54, 6)]
def B_X3_worstOfDig : Bk := [(0, [.iconst (0), .istore 3, .aload 0, .iload 1, .iload 2, .iconst (0), .invokestatic 0, .istore 4, .iconst (0), .istore 5], 14), (14, [.iload 5, .aload 0, .iload 1, .iload 2, .invokestatic 1, .if_icmp .gt 54, .iload 5, .iconst (40), .if_icmp .gt 54, .iload 3, .aload 0, .iload 1, .iload 2, .iload 4, .iload 5, .iadd, .invokestatic 2, .invokestatic 3, .istore 3, .iinc 5 1, .goto 14], 54), (54, [.iload 3, .ireturn], 56)]
theorem k_X3_worstOfDig : chkB T_X3_worstOfDig cX3_worstOfDig B_X3_worstOfDig = true := by decide +kernel
theorem cw_X3_worstOfDig : calW Y_X3_worstOfDig := ⟨pn_X3, Or.inr (Or.inl ⟨rfl, rfl⟩), w_975, w_10, mh_X3, by decide⟩
theorem cl_X3_worstOfDig {o : OM} {Y : Pk} {d d2 idx : Nat} {C : Ctr} (hS : Sound o Y_X3_worstOfDig d2 C) (hd : d2 + 1 ≤ d) (hl : Cond.methodLink (yN Y).cls idx yX3_worstOfDig ∈ wsG ∨ ∃ host, Cond.methodLinkNest (yN Y).cls idx yX3_worstOfDig host ∈ nestW) : CallOK o Y d (.invokevirtual idx) (3, rcv 3 6 C) := callV_ok hS hd cw_X3_worstOfDig hl w_974 wp_73 (Or.inl ⟨TX3, 15, rfl⟩) (by decide +kernel)
def Y_X5_fillPlace : Pk := (yX5_fillPlace, cX5_fillPlace, 8, none, 0)
def T_X5_fillPlace : Tb := ([(49, 5142), (52, 5152)], [(120, 999999999)], [], [], [(111, 0), (114, 1), (118, 2)], [(121, 3)], 8)
def V_X5_fillPlace : List (Nat × Nat) := [(0, 3), (8, 6), (28, 6), (67, 8), (82, 8), (105, 6), (111, 6), (130, 6), (131, 6), (151, 6), (153, 6)]
def B_X5_fillPlace : Bk := [(0, [.iconst (-1), .istore 3, .iconst (0), .istore 4, .iconst (0), .istore 5], 8), (8, [.iload 5, .iconst (5), .if_icmp .ge 111, .aload 0, .iload 5, .iload 1, .iload 2, .invokestatic 0, .ifCond .ne 28, .goto 105], 28), (28, [.aload 0, .iload 5, .iload 1, .iload 2, .invokestatic 1, .istore 6, .aload 0, .iload 5, .iload 1, .iload 2, .invokestatic 2, .aload 0, .getfield 5142, .iload 6, .iaload, .iadd, .istore 7, .iload 3, .iconst (-1), .if_icmp .eq 67, .iload 7, .iload 3, .if_icmp .ge 82], 67), (67, [.iload 7, .istore 3, .aload 0, .getfield 5152, .iload 6, .iaload, .istore 4, .goto 105], 82), (82, [.iload 7, .iload 3, .if_icmp .ne 105, .iconst (999999999), .iload 4, .aload 0, .getfield 5152, .iload 6, .iaload, .iadd, .invokestatic 3, .istore 4], 105), (105, [.iinc 5 1, .goto 8], 111), (111, [.aload 0, .getfield 5142, .iload 1, .iconst (17), .imul, .iload 2, .iadd, .iload 3, .iconst (-1), .if_icmp .ne 130, .iconst (0), .goto 131], 130), (130, [.iload 3], 131), (131, [.iastore, .aload 0, .getfield 5152, .iload 1, .iconst (17), .imul, .iload 2, .iadd, .iload 3, .iconst (-1), .if_icmp .ne 151, .iconst (1), .goto 153], 151), (151, [.iload 4], 153), (153, [.iastore, .return_], 155)]
theorem k_X5_fillPlace : chkB T_X5_fillPlace cX5_fillPlace B_X5_fillPlace = true := by decide +kernel
theorem cw_X5_fillPlace : calW Y_X5_fillPlace := ⟨pn_X5, Or.inl ⟨rfl, rfl⟩, w_707, w_9, mh_X5, by decide⟩
theorem cl_X5_fillPlace {o : OM} {Y : Pk} {d d2 idx : Nat} {C : Ctr} (hS : Sound o Y_X5_fillPlace d2 C) (hd : d2 + 1 ≤ d) (hl : Cond.methodLink (yN Y).cls idx yX5_fillPlace ∈ wsG ∨ ∃ host, Cond.methodLinkNest (yN Y).cls idx yX5_fillPlace host ∈ nestW) : CallOK o Y d (.invokevirtual idx) (3, rcv 5 8 C) := callV_ok hS hd cw_X5_fillPlace hl w_706 wp_31 (Or.inl ⟨TX5, 20, rfl⟩) (by decide +kernel)
def Y_X5_leastStepFrom : Pk := (yX5_leastStepFrom, cX5_leastStepFrom, 4, some .int, 1)
def T_X5_leastStepFrom : Tb := ([(49, 5142)], [], [], [], [(111, 0), (118, 1), (114, 2)], [], 4)
def V_X5_leastStepFrom : List (Nat × Nat) := [(0, 3), (2, 4), (53, 4), (59, 4)]
def B_X5_leastStepFrom : Bk := [(0, [.iconst (0), .istore 3], 2), (2, [.iload 3, .iconst (5), .if_icmp .ge 59, .aload 0, .iload 3, .iload 1, .iload 2, .invokestatic 0, .ifCond .eq 53, .aload 0, .iload 3, .iload 1, .iload 2, .invokestatic 1, .aload 0, .getfield 5142, .aload 0, .iload 3, .iload 1, .iload 2, .invokestatic 2, .iaload, .iadd, .aload 0, .getfield 5142, .iload 1, .iconst (17), .imul, .iload 2, .iadd, .iaload, .if_icmp .ne 53, .iload 3, .ireturn], 53), (53, [.iinc 3 1, .goto 2], 59), (59, [.iconst (-1), .ireturn], 61)]
theorem k_X5_leastStepFrom : chkB T_X5_leastStepFrom cX5_leastStepFrom B_X5_leastStepFrom = true := by decide +kernel
theorem cw_X5_leastStepFrom : calW Y_X5_leastStepFrom := ⟨pn_X5, Or.inr (Or.inl ⟨rfl, rfl⟩), w_758, w_9, mh_X5, by decide⟩
theorem cl_X5_leastStepFrom {o : OM} {Y : Pk} {d d2 idx : Nat} {C : Ctr} (hS : Sound o Y_X5_leastStepFrom d2 C) (hd : d2 + 1 ≤ d) (hl : Cond.methodLink (yN Y).cls idx yX5_leastStepFrom ∈ wsG ∨ ∃ host, Cond.methodLinkNest (yN Y).cls idx yX5_leastStepFrom host ∈ nestW) : CallOK o Y d (.invokevirtual idx) (3, rcv 5 4 C) := callV_ok hS hd cw_X5_leastStepFrom hl w_757 wp_40 (Or.inl ⟨TX5, 20, rfl⟩) (by decide +kernel)
def Y_X6_isSharedAsh : Pk := (yX6_isSharedAsh, cX6_isSharedAsh, 4, some .boolean, 2)
def T_X6_isSharedAsh : Tb := ([], [], [], [], [(51, 0), (55, 1), (62, 2)], [], 4)
def V_X6_isSharedAsh : List (Nat × Nat) := [(0, 4), (28, 4), (29, 4)]
def B_X6_isSharedAsh : Bk := [(0, [.aload 0, .iload 1, .iload 2, .invokestatic 0, .ifCond .eq 28, .aload 0, .iload 3, .aload 0, .iload 1, .iload 2, .invokestatic 1, .invokestatic 2, .iconst (-1), .if_icmp .eq 28, .iconst (1), .goto 29], 28), (28, [.iconst (0)], 29), (29, [.ireturn], 30)]
theorem k_X6_isSharedAsh : chkB T_X6_isSharedAsh cX6_isSharedAsh B_X6_isSharedAsh = true := by decide +kernel
theorem cw_X6_isSharedAsh : calW Y_X6_isSharedAsh := ⟨pn_X6, Or.inr (Or.inr (Or.inl ⟨rfl, rfl⟩)), w_1009, w_2, mh_X6, by decide⟩
theorem cl_X6_isSharedAsh {o : OM} {Y : Pk} {d d2 idx : Nat} {C : Ctr} (hS : Sound o Y_X6_isSharedAsh d2 C) (hd : d2 + 1 ≤ d) (hl : Cond.methodLink (yN Y).cls idx yX6_isSharedAsh ∈ wsG ∨ ∃ host, Cond.methodLinkNest (yN Y).cls idx yX6_isSharedAsh host ∈ nestW) : CallOK o Y d (.invokevirtual idx) (4, rcv 6 4 C) := callV_ok hS hd cw_X6_isSharedAsh hl w_1008 wp_78 (Or.inl ⟨TX6, 6, rfl⟩) (by decide +kernel)
def Y_X7_best : Pk := (yX7_best, cX7_best, 9, some .int, 1)
def T_X7_best : Tb := ([], [(44, (-100004))], [], [], [(45, 0), (48, 1)], [], 9)
def V_X7_best : List (Nat × Nat) := [(0, 4), (10, 7), (35, 7), (39, 7), (56, 8), (81, 9), (89, 8), (95, 7)]
def B_X7_best : Bk := [(0, [.iconst (-100004), .istore 4, .iconst (0), .istore 5, .iconst (0), .istore 6], 10), (10, [.iload 6, .iconst (30), .if_icmp .gt 95, .iload 6, .iconst (2), .irem, .iconst (1), .if_icmp .ne 35, .iload 6, .iconst (1), .iadd, .ineg, .iconst (2), .idiv, .goto 39], 35), (35, [.iload 6, .iconst (2), .idiv], 39), (39, [.istore 7, .aload 0, .iload 1, .iload 2, .iload 7, .invokestatic 0, .iload 3, .if_icmp .ge 56, .goto 89], 56), (56, [.aload 0, .iload 1, .iload 2, .iload 7, .iconst (0), .invokestatic 1, .istore 8, .iload 4, .iconst (-100004), .if_icmp .eq 81, .iload 8, .iload 5, .if_icmp .le 89], 81), (81, [.iload 7, .istore 4, .iload 8, .istore 5], 89), (89, [.iinc 6 1, .goto 10], 95), (95, [.iload 4, .ireturn], 98)]
theorem k_X7_best : chkB T_X7_best cX7_best B_X7_best = true := by decide +kernel
theorem cw_X7_best : calW Y_X7_best := ⟨pn_X7, Or.inr (Or.inl ⟨rfl, rfl⟩), w_662, w_8, mh_X7, by decide⟩
theorem cl_X7_best {o : OM} {Y : Pk} {d d2 idx : Nat} {C : Ctr} (hS : Sound o Y_X7_best d2 C) (hd : d2 + 1 ≤ d) (hl : Cond.methodLink (yN Y).cls idx yX7_best ∈ wsG ∨ ∃ host, Cond.methodLinkNest (yN Y).cls idx yX7_best host ∈ nestW) : CallOK o Y d (.invokevirtual idx) (4, rcv 7 9 C) := callV_ok hS hd cw_X7_best hl w_661 wp_24 (Or.inl ⟨TX7, 1, rfl⟩) (by decide +kernel)
def Y_X7_turnsAsLike : Pk := (yX7_turnsAsLike, cX7_turnsAsLike, 7, some .int, 1)
def T_X7_turnsAsLike : Tb := ([(9, 7002), (21, 6022)], [], [], [], [(48, 0)], [], 7)
def V_X7_turnsAsLike : List (Nat × Nat) := [(0, 4), (16, 7), (47, 7), (53, 7)]
def B_X7_turnsAsLike : Bk := [(0, [.aload 0, .iload 1, .iload 2, .iload 3, .iconst (0), .invokestatic 0, .istore 4, .iconst (0), .istore 5, .iconst (0), .istore 6], 16), (16, [.iload 6, .aload 0, .getfield 7002, .getfield 6022, .iload 2, .iaload, .if_icmp .ge 53, .aload 0, .iload 1, .iload 2, .iload 3, .iload 6, .invokestatic 0, .iload 4, .if_icmp .lt 47, .iinc 5 1], 47), (47, [.iinc 6 1, .goto 16], 53), (53, [.iload 5, .ireturn], 56)]
theorem k_X7_turnsAsLike : chkB T_X7_turnsAsLike cX7_turnsAsLike B_X7_turnsAsLike = true := by decide +kernel
theorem cw_X7_turnsAsLike : calW Y_X7_turnsAsLike := ⟨pn_X7, Or.inr (Or.inl ⟨rfl, rfl⟩), w_673, w_8, mh_X7, by decide⟩
theorem cl_X7_turnsAsLike {o : OM} {Y : Pk} {d d2 idx : Nat} {C : Ctr} (hS : Sound o Y_X7_turnsAsLike d2 C) (hd : d2 + 1 ≤ d) (hl : Cond.methodLink (yN Y).cls idx yX7_turnsAsLike ∈ wsG ∨ ∃ host, Cond.methodLinkNest (yN Y).cls idx yX7_turnsAsLike host ∈ nestW) : CallOK o Y d (.invokevirtual idx) (4, rcv 7 7 C) := callV_ok hS hd cw_X7_turnsAsLike hl w_672 wp_25 (Or.inl ⟨TX7, 1, rfl⟩) (by decide +kernel)
def Y_X8_at : Pk := (yX8_at, cX8_at, 4, some .int, 1)
def T_X8_at : Tb := ([(45, 8062), (10, 8002), (106, 6022)], [], [], [], [(175, 0), (99, 1), (176, 3)], [(88, 2)], 4)
def V_X8_at : List (Nat × Nat) := [(0, 4), (39, 4), (42, 4)]
def B_X8_at : Bk := [(0, [.aload 0, .getfield 8062, .iload 1, .invokestatic 0, .ifCond .eq 39, .aload 0, .getfield 8002, .iload 2, .invokestatic 1, .ifCond .eq 39, .iload 3, .iconst (0), .aload 0, .getfield 8002, .getfield 6022, .iload 2, .iaload, .invokestatic 2, .ifCond .ne 42], 39), (39, [.iconst (-101), .ireturn], 42), (42, [.aload 0, .getfield 8062, .iload 1, .iload 2, .iload 3, .invokestatic 3, .ireturn], 53)]
theorem k_X8_at : chkB T_X8_at cX8_at B_X8_at = true := by decide +kernel
theorem cw_X8_at : calW Y_X8_at := ⟨pn_X8, Or.inr (Or.inl ⟨rfl, rfl⟩), w_604, w_1, mh_X8, by decide⟩
theorem cl_X8_at {o : OM} {Y : Pk} {d d2 idx : Nat} {C : Ctr} (hS : Sound o Y_X8_at d2 C) (hd : d2 + 1 ≤ d) (hl : Cond.methodLink (yN Y).cls idx yX8_at ∈ wsG ∨ ∃ host, Cond.methodLinkNest (yN Y).cls idx yX8_at host ∈ nestW) : CallOK o Y d (.invokevirtual idx) (4, rcv 8 4 C) := callV_ok hS hd cw_X8_at hl w_602 w_603 (Or.inl ⟨TX8, 13, rfl⟩) (by decide +kernel)
def Y_X8_years : Pk := (yX8_years, cX8_years, 3, some .int, 1)
def T_X8_years : Tb := ([(45, 8062), (10, 8002)], [], [], [], [(175, 0), (99, 1), (179, 2)], [], 3)
def V_X8_years : List (Nat × Nat) := [(0, 3), (22, 3), (25, 3)]
def B_X8_years : Bk := [(0, [.aload 0, .getfield 8062, .iload 1, .invokestatic 0, .ifCond .eq 22, .aload 0, .getfield 8002, .iload 2, .invokestatic 1, .ifCond .ne 25], 22), (22, [.iconst (-101), .ireturn], 25), (25, [.aload 0, .getfield 8062, .iload 1, .iload 2, .invokestatic 2, .ireturn], 35)]
theorem k_X8_years : chkB T_X8_years cX8_years B_X8_years = true := by decide +kernel
theorem cw_X8_years : calW Y_X8_years := ⟨pn_X8, Or.inr (Or.inl ⟨rfl, rfl⟩), w_616, w_1, mh_X8, by decide⟩
theorem cl_X8_years {o : OM} {Y : Pk} {d d2 idx : Nat} {C : Ctr} (hS : Sound o Y_X8_years d2 C) (hd : d2 + 1 ≤ d) (hl : Cond.methodLink (yN Y).cls idx yX8_years ∈ wsG ∨ ∃ host, Cond.methodLinkNest (yN Y).cls idx yX8_years host ∈ nestW) : CallOK o Y d (.invokevirtual idx) (3, rcv 8 3 C) := callV_ok hS hd cw_X8_years hl w_614 w_615 (Or.inl ⟨TX8, 13, rfl⟩) (by decide +kernel)
def Y_X8_lean : Pk := (yX8_lean, cX8_lean, 5, some .int, 1)
def T_X8_lean : Tb := ([(45, 8062), (10, 8002), (92, 6000)], [(182, (-100001))], [], [], [(175, 0), (179, 1)], [], 5)
def V_X8_lean : List (Nat × Nat) := [(0, 3), (22, 3), (25, 3), (30, 5), (72, 5)]
def B_X8_lean : Bk := [(0, [.aload 0, .getfield 8062, .iload 1, .invokestatic 0, .ifCond .eq 22, .aload 0, .getfield 8062, .iload 2, .invokestatic 0, .ifCond .ne 25], 22), (22, [.iconst (-100001), .ireturn], 25), (25, [.iconst (0), .istore 3, .iconst (0), .istore 4], 30), (30, [.iload 4, .aload 0, .getfield 8002, .getfield 6000, .if_icmp .ge 72, .iload 3, .aload 0, .getfield 8062, .iload 1, .iload 4, .invokestatic 1, .aload 0, .getfield 8062, .iload 2, .iload 4, .invokestatic 1, .isub, .iadd, .istore 3, .iinc 4 1, .goto 30], 72), (72, [.iload 3, .ireturn], 74)]
theorem k_X8_lean : chkB T_X8_lean cX8_lean B_X8_lean = true := by decide +kernel
theorem cw_X8_lean : calW Y_X8_lean := ⟨pn_X8, Or.inr (Or.inl ⟨rfl, rfl⟩), w_620, w_1, mh_X8, by decide⟩
theorem cl_X8_lean {o : OM} {Y : Pk} {d d2 idx : Nat} {C : Ctr} (hS : Sound o Y_X8_lean d2 C) (hd : d2 + 1 ≤ d) (hl : Cond.methodLink (yN Y).cls idx yX8_lean ∈ wsG ∨ ∃ host, Cond.methodLinkNest (yN Y).cls idx yX8_lean host ∈ nestW) : CallOK o Y d (.invokevirtual idx) (3, rcv 8 5 C) := callV_ok hS hd cw_X8_lean hl w_618 w_619 (Or.inl ⟨TX8, 13, rfl⟩) (by decide +kernel)
def Y_X8_like : Pk := (yX8_like, cX8_like, 4, some .int, 1)
def T_X8_like : Tb := ([(10, 8002), (59, 8082)], [(182, (-100001)), (186, (-100002)), (190, (-100004))], [], [], [(99, 0), (187, 2), (191, 3)], [(183, 1)], 4)
def V_X8_like : List (Nat × Nat) := [(0, 4), (22, 4), (25, 4), (35, 4), (51, 4)]
def B_X8_like : Bk := [(0, [.aload 0, .getfield 8002, .iload 1, .invokestatic 0, .ifCond .eq 22, .aload 0, .getfield 8002, .iload 2, .invokestatic 0, .ifCond .ne 25], 22), (22, [.iconst (-100001), .ireturn], 25), (25, [.iload 3, .invokestatic 1, .ifCond .ne 35, .iconst (-100002), .ireturn], 35), (35, [.aload 0, .getfield 8082, .iload 1, .iload 2, .iload 3, .invokestatic 2, .ifCond .ne 51, .iconst (-100004), .ireturn], 51), (51, [.aload 0, .getfield 8082, .iload 1, .iload 2, .iload 3, .iconst (0), .invokestatic 3, .ireturn], 63)]
theorem k_X8_like : chkB T_X8_like cX8_like B_X8_like = true := by decide +kernel
theorem cw_X8_like : calW Y_X8_like := ⟨pn_X8, Or.inr (Or.inl ⟨rfl, rfl⟩), w_625, w_1, mh_X8, by decide⟩
theorem cl_X8_like {o : OM} {Y : Pk} {d d2 idx : Nat} {C : Ctr} (hS : Sound o Y_X8_like d2 C) (hd : d2 + 1 ≤ d) (hl : Cond.methodLink (yN Y).cls idx yX8_like ∈ wsG ∨ ∃ host, Cond.methodLinkNest (yN Y).cls idx yX8_like host ∈ nestW) : CallOK o Y d (.invokevirtual idx) (4, rcv 8 4 C) := callV_ok hS hd cw_X8_like hl w_623 w_624 (Or.inl ⟨TX8, 13, rfl⟩) (by decide +kernel)
def Y_X8_aboutPit : Pk := (yX8_aboutPit, cX8_aboutPit, 3, some .int, 1)
def T_X8_aboutPit : Tb := ([(10, 8002), (308, 6012), (106, 6022), (45, 8062)], [], [], [], [(179, 0)], [], 3)
def V_X8_aboutPit : List (Nat × Nat) := [(0, 3), (28, 3), (38, 3), (48, 3), (58, 3)]
def B_X8_aboutPit : Bk := [(0, [.iload 2, .tableswitch 58 (0) (2) #[28, 38, 48]], 28), (28, [.aload 0, .getfield 8002, .getfield 6012, .iload 1, .iaload, .ireturn], 38), (38, [.aload 0, .getfield 8002, .getfield 6022, .iload 1, .iaload, .ireturn], 48), (48, [.aload 0, .getfield 8062, .iconst (-1), .iload 1, .invokestatic 0, .ireturn], 58), (58, [.iconst (-102), .ireturn], 61)]
theorem k_X8_aboutPit : chkB T_X8_aboutPit cX8_aboutPit B_X8_aboutPit = true := by decide +kernel
theorem cw_X8_aboutPit : calW Y_X8_aboutPit := ⟨pn_X8, Or.inr (Or.inl ⟨rfl, rfl⟩), w_402, w_1, mh_X8, by decide⟩
theorem cl_X8_aboutPit {o : OM} {Y : Pk} {d d2 idx : Nat} {C : Ctr} (hS : Sound o Y_X8_aboutPit d2 C) (hd : d2 + 1 ≤ d) (hl : Cond.methodLink (yN Y).cls idx yX8_aboutPit ∈ wsG ∨ ∃ host, Cond.methodLinkNest (yN Y).cls idx yX8_aboutPit host ∈ nestW) : CallOK o Y d (.invokevirtual idx) (3, rcv 8 3 C) := callV_ok hS hd cw_X8_aboutPit hl w_401 wp_6 (Or.inl ⟨TX8, 13, rfl⟩) (by decide +kernel)
def Y_X8_foldPit : Pk := (yX8_foldPit, cX8_foldPit, 5, some .long, 3)
def T_X8_foldPit : Tb := ([(10, 8002), (308, 6012), (106, 6022), (45, 8062), (165, 1010)], [], [], [], [(118, 1), (132, 2), (380, 3), (179, 4)], [(363, 0)], 5)
def V_X8_foldPit : List (Nat × Nat) := [(0, 4), (18, 5), (86, 5), (89, 5), (123, 5)]
def B_X8_foldPit : Bk := [(0, [.lload 1, .aload 0, .getfield 8002, .getfield 6012, .iload 3, .iaload, .i2l, .invokestatic 0, .lstore 1, .iconst (0), .istore 4], 18), (18, [.iload 4, .aload 0, .getfield 8002, .getfield 6022, .iload 3, .iaload, .if_icmp .ge 86, .lload 1, .aload 0, .getfield 8002, .iload 3, .iload 4, .invokestatic 1, .i2l, .invokestatic 0, .lstore 1, .lload 1, .aload 0, .getfield 8002, .iload 3, .iload 4, .invokestatic 2, .i2l, .invokestatic 0, .lstore 1, .lload 1, .aload 0, .getfield 8002, .iload 3, .iload 4, .invokestatic 3, .i2l, .invokestatic 0, .lstore 1, .iinc 4 1, .goto 18], 86), (86, [.iconst (-1), .istore 4], 89), (89, [.iload 4, .aload 0, .getfield 8062, .getfield 1010, .if_icmp .ge 123, .lload 1, .aload 0, .getfield 8062, .iload 4, .iload 3, .invokestatic 4, .i2l, .invokestatic 0, .lstore 1, .iinc 4 1, .goto 89], 123), (123, [.lload 1, .lreturn], 125)]
theorem k_X8_foldPit : chkB T_X8_foldPit cX8_foldPit B_X8_foldPit = true := by decide +kernel
theorem cw_X8_foldPit : calW Y_X8_foldPit := ⟨pn_X8, Or.inr (Or.inr (Or.inr (Or.inl ⟨rfl, rfl⟩))), w_1060, w_1, mh_X8, by decide⟩
theorem cl_X8_foldPit {o : OM} {Y : Pk} {d d2 idx : Nat} {C : Ctr} (hS : Sound o Y_X8_foldPit d2 C) (hd : d2 + 1 ≤ d) (hl : Cond.methodLink (yN Y).cls idx yX8_foldPit ∈ wsG ∨ ∃ host, Cond.methodLinkNest (yN Y).cls idx yX8_foldPit host ∈ nestW) : CallOK o Y d (.invokevirtual idx) (3, rcv 8 5 C) := callV_ok hS hd cw_X8_foldPit hl w_1059 wp_85 (Or.inl ⟨TX8, 13, rfl⟩) (by decide +kernel)
def Y_X9_as : Pk := (yX9_as, cX9_as, 6, some .int, 1)
def T_X9_as : Tb := ([(16, 9032)], [], [(122, 6)], [], [(136, 0)], [(112, 1)], 6)
def V_X9_as : List (Nat × Nat) := [(0, 4), (12, 4), (27, 4), (61, 5), (73, 5), (77, 5), (78, 5), (89, 6), (90, 6)]
def B_X9_as : Bk := [(0, [.aload 0, .iload 1, .iload 2, .invokestatic 0, .ifCond .ne 12, .iconst (-101), .ireturn], 12), (12, [.iload 3, .i2l, .jsr 0, .jsr (6), .invokestatic 1, .ifCond .ne 27, .iconst (-102), .ireturn], 27), (27, [.aload 0, .getfield 9032, .iconst (16), .iload 1, .imul, .iload 2, .iadd, .iaload, .istore 4, .iload 3, .ifCond .eq 73, .iload 3, .iload 4, .if_icmp .eq 73, .iload 3, .iconst (1), .if_icmp .ne 61, .iload 4, .iconst (5), .if_icmp .eq 73], 61), (61, [.iload 3, .iconst (6), .if_icmp .ne 77, .iload 4, .iconst (4), .if_icmp .ne 77], 73), (73, [.iconst (1), .goto 78], 77), (77, [.iconst (0)], 78), (78, [.istore 5, .iload 5, .ifCond .eq 89, .iload 2, .goto 90], 89), (89, [.iconst (-1)], 90), (90, [.ireturn], 91)]
theorem k_X9_as : chkB T_X9_as cX9_as B_X9_as = true := by decide +kernel
theorem cw_X9_as : calW Y_X9_as := ⟨pn_X9, Or.inr (Or.inl ⟨rfl, rfl⟩), w_1284, w_11, mh_X9, by decide⟩
theorem cl_X9_as {o : OM} {Y : Pk} {d d2 idx : Nat} {C : Ctr} (hS : Sound o Y_X9_as d2 C) (hd : d2 + 1 ≤ d) (hl : Cond.methodLink (yN Y).cls idx yX9_as ∈ wsG ∨ ∃ host, Cond.methodLinkNest (yN Y).cls idx yX9_as host ∈ nestW) : CallOK o Y d (.invokevirtual idx) (4, rcv 9 6 C) := callV_ok hS hd cw_X9_as hl w_1282 w_1283 (Or.inl ⟨TX9, 55, rfl⟩) (by decide +kernel)
def Y_X9_about : Pk := (yX9_about, cX9_about, 5, some .int, 1)
def T_X9_about : Tb := ([(7, 9012), (13, 9022), (16, 9032), (19, 9042), (22, 9052)], [], [(144, 2), (146, 3)], [], [(116, 0), (136, 1), (148, 3), (151, 4)], [(112, 2)], 5)
def V_X9_about : List (Nat × Nat) := [(0, 4), (22, 4), (25, 4), (39, 4), (42, 4), (51, 4), (69, 4), (83, 4), (89, 4), (90, 4), (112, 5), (127, 5), (142, 5), (155, 5), (163, 5)]
def B_X9_about : Bk := [(0, [.aload 0, .iload 1, .invokestatic 0, .ifCond .eq 22, .iload 2, .iconst (-1), .if_icmp .eq 25, .aload 0, .iload 1, .iload 2, .invokestatic 1, .ifCond .ne 25], 22), (22, [.iconst (-101), .ireturn], 25), (25, [.iload 3, .i2l, .jsr 0, .iload 2, .iconst (-1), .if_icmp .ne 39, .jsr (2), .goto 42], 39), (39, [.jsr (3)], 42), (42, [.invokestatic 2, .ifCond .ne 51, .iconst (-102), .ireturn], 51), (51, [.iload 2, .iconst (-1), .if_icmp .ne 90, .iload 3, .ifCond .ne 69, .aload 0, .getfield 9012, .iload 1, .iaload, .goto 89], 69), (69, [.iload 3, .iconst (1), .if_icmp .ne 83, .aload 0, .getfield 9022, .iload 1, .iaload, .goto 89], 83), (83, [.aload 0, .iconst (-1), .iload 1, .invokestatic 3], 89), (89, [.ireturn], 90), (90, [.iconst (16), .iload 1, .imul, .iload 2, .iadd, .istore 4, .iload 3, .ifCond .ne 112, .aload 0, .getfield 9032, .iload 4, .iaload, .goto 163], 112), (112, [.iload 3, .iconst (1), .if_icmp .ne 127, .aload 0, .getfield 9042, .iload 4, .iaload, .goto 163], 127), (127, [.iload 3, .iconst (2), .if_icmp .ne 142, .aload 0, .getfield 9052, .iload 4, .iaload, .goto 163], 142), (142, [.aload 0, .iload 1, .iload 2, .invokestatic 4, .ifCond .ge 155, .iconst (0), .goto 163], 155), (155, [.iconst (1), .aload 0, .iload 1, .iload 2, .invokestatic 4, .iadd], 163), (163, [.ireturn], 164)]
theorem k_X9_about : chkB T_X9_about cX9_about B_X9_about = true := by decide +kernel
theorem cw_X9_about : calW Y_X9_about := ⟨pn_X9, Or.inr (Or.inl ⟨rfl, rfl⟩), w_1292, w_11, mh_X9, by decide⟩
theorem cl_X9_about {o : OM} {Y : Pk} {d d2 idx : Nat} {C : Ctr} (hS : Sound o Y_X9_about d2 C) (hd : d2 + 1 ≤ d) (hl : Cond.methodLink (yN Y).cls idx yX9_about ∈ wsG ∨ ∃ host, Cond.methodLinkNest (yN Y).cls idx yX9_about host ∈ nestW) : CallOK o Y d (.invokevirtual idx) (4, rcv 9 5 C) := callV_ok hS hd cw_X9_about hl w_1290 w_1291 (Or.inl ⟨TX9, 55, rfl⟩) (by decide +kernel)
def Y_X9_change : Pk := (yX9_change, cX9_change, 7, some .int, 1)
def T_X9_change : Tb := ([(19, 9042)], [], [], [], [(136, 0), (132, 2)], [(128, 1)], 7)
def V_X9_change : List (Nat × Nat) := [(0, 6), (12, 6), (26, 6)]
def B_X9_change : Bk := [(0, [.aload 0, .iload 1, .iload 2, .invokestatic 0, .ifCond .ne 12, .iconst (-101), .ireturn], 12), (12, [.iload 3, .iload 4, .iload 5, .invokestatic 1, .ifCond .ne 26, .iconst (-102), .ireturn], 26), (26, [.aload 0, .getfield 9042, .iconst (16), .iload 1, .imul, .iload 2, .iadd, .iaload, .istore 6, .aload 0, .iload 1, .iload 2, .iload 3, .iload 4, .iload 5, .invokestatic 2, .iload 6, .ireturn], 53)]
theorem k_X9_change : chkB T_X9_change cX9_change B_X9_change = true := by decide +kernel
theorem cw_X9_change : calW Y_X9_change := ⟨pn_X9, Or.inr (Or.inl ⟨rfl, rfl⟩), w_1317, w_11, mh_X9, by decide⟩
theorem cl_X9_change {o : OM} {Y : Pk} {d d2 idx : Nat} {C : Ctr} (hS : Sound o Y_X9_change d2 C) (hd : d2 + 1 ≤ d) (hl : Cond.methodLink (yN Y).cls idx yX9_change ∈ wsG ∨ ∃ host, Cond.methodLinkNest (yN Y).cls idx yX9_change host ∈ nestW) : CallOK o Y d (.invokevirtual idx) (6, rcv 9 7 C) := callV_ok hS hd cw_X9_change hl w_1315 w_1316 (Or.inl ⟨TX9, 55, rfl⟩) (by decide +kernel)
def Y_X9_fault : Pk := (yX9_fault, cX9_fault, 2, some .int, 1)
def T_X9_fault : Tb := ([], [], [], [], [(201, 1)], [(112, 0)], 2)
def V_X9_fault : List (Nat × Nat) := [(0, 2), (18, 2), (20, 2)]
def B_X9_fault : Bk := [(0, [.iload 1, .i2l, .jsr 0, .jsr 1, .invokestatic 0, .ifCond .eq 18, .aload 0, .iload 1, .invokestatic 1, .goto 20], 18), (18, [.iconst (-102)], 20), (20, [.ireturn], 21)]
theorem k_X9_fault : chkB T_X9_fault cX9_fault B_X9_fault = true := by decide +kernel
theorem cw_X9_fault : calW Y_X9_fault := ⟨pn_X9, Or.inr (Or.inl ⟨rfl, rfl⟩), w_1347, w_11, mh_X9, by decide⟩
theorem cl_X9_fault {o : OM} {Y : Pk} {d d2 idx : Nat} {C : Ctr} (hS : Sound o Y_X9_fault d2 C) (hd : d2 + 1 ≤ d) (hl : Cond.methodLink (yN Y).cls idx yX9_fault ∈ wsG ∨ ∃ host, Cond.methodLinkNest (yN Y).cls idx yX9_fault host ∈ nestW) : CallOK o Y d (.invokevirtual idx) (2, rcv 9 2 C) := callV_ok hS hd cw_X9_fault hl w_1345 w_1346 (Or.inl ⟨TX9, 55, rfl⟩) (by decide +kernel)
def Y_X9_hand : Pk := (yX9_hand, cX9_hand, 2, some .int, 1)
def T_X9_hand : Tb := ([(176, 9080), (179, 9140), (204, 9090), (28, 9102), (34, 9132)], [], [], [], [(201, 0)], [], 2)
def V_X9_hand : List (Nat × Nat) := [(0, 1), (20, 1), (23, 1), (34, 1), (36, 2), (68, 2)]
def B_X9_hand : Bk := [(0, [.aload 0, .iconst (0), .invokestatic 0, .aload 0, .getfield 9080, .if_icmp .lt 20, .aload 0, .getfield 9140, .iconst (2), .if_icmp .ge 23], 20), (20, [.iconst (-103), .ireturn], 23), (23, [.aload 0, .getfield 9090, .iconst (4), .if_icmp .ne 34, .iconst (-104), .ireturn], 34), (34, [.iconst (0), .istore 1], 36), (36, [.iload 1, .iconst (7), .if_icmp .ge 68, .aload 0, .getfield 9102, .iconst (7), .aload 0, .getfield 9090, .imul, .iload 1, .iadd, .aload 0, .getfield 9132, .iload 1, .iaload, .iastore, .iinc 1 1, .goto 36], 68), (68, [.aload 0, .dup, .getfield 9090, .iconst (1), .iadd, .putfield 9090, .aload 0, .iconst (0), .putfield 9080, .aload 0, .getfield 9090, .iconst (1), .isub, .ireturn], 90)]
theorem k_X9_hand : chkB T_X9_hand cX9_hand B_X9_hand = true := by decide +kernel
theorem cw_X9_hand : calW Y_X9_hand := ⟨pn_X9, Or.inr (Or.inl ⟨rfl, rfl⟩), w_1367, w_11, mh_X9, by decide⟩
theorem cl_X9_hand {o : OM} {Y : Pk} {d d2 idx : Nat} {C : Ctr} (hS : Sound o Y_X9_hand d2 C) (hd : d2 + 1 ≤ d) (hl : Cond.methodLink (yN Y).cls idx yX9_hand ∈ wsG ∨ ∃ host, Cond.methodLinkNest (yN Y).cls idx yX9_hand host ∈ nestW) : CallOK o Y d (.invokevirtual idx) (1, rcv 9 2 C) := callV_ok hS hd cw_X9_hand hl w_1365 w_1366 (Or.inl ⟨TX9, 55, rfl⟩) (by decide +kernel)
def Y_X9_law : Pk := (yX9_law, cX9_law, 3, some .int, 1)
def T_X9_law : Tb := ([(176, 9080), (179, 9140), (207, 9110), (31, 9122), (34, 9132)], [], [], [], [(201, 0)], [], 3)
def V_X9_law : List (Nat × Nat) := [(0, 1), (20, 1), (23, 1), (34, 1), (36, 2), (50, 2), (59, 2), (68, 2), (70, 2), (97, 3), (103, 3), (110, 2)]
def B_X9_law : Bk := [(0, [.aload 0, .iconst (1), .invokestatic 0, .aload 0, .getfield 9080, .if_icmp .lt 20, .aload 0, .getfield 9140, .iconst (2), .if_icmp .ge 23], 20), (20, [.iconst (-103), .ireturn], 23), (23, [.aload 0, .getfield 9110, .iconst (4), .if_icmp .ne 34, .iconst (-104), .ireturn], 34), (34, [.iconst (0), .istore 1], 36), (36, [.iload 1, .iconst (4), .if_icmp .ge 110, .iload 1, .ifCond .ne 50, .iconst (9), .goto 70], 50), (50, [.iload 1, .iconst (1), .if_icmp .ne 59, .iconst (3), .goto 70], 59), (59, [.iload 1, .iconst (2), .if_icmp .ne 68, .iconst (1), .goto 70], 68), (68, [.iconst (40)], 70), (70, [.istore 2, .aload 0, .getfield 9122, .iconst (4), .aload 0, .getfield 9110, .imul, .iload 1, .iadd, .aload 0, .getfield 9132, .iload 1, .iaload, .iconst (-1), .if_icmp .ne 97, .iload 2, .goto 103], 97), (97, [.aload 0, .getfield 9132, .iload 1, .iaload], 103), (103, [.iastore, .iinc 1 1, .goto 36], 110), (110, [.aload 0, .dup, .getfield 9110, .iconst (1), .iadd, .putfield 9110, .aload 0, .iconst (0), .putfield 9080, .aload 0, .getfield 9110, .iconst (1), .isub, .ireturn], 132)]
theorem k_X9_law : chkB T_X9_law cX9_law B_X9_law = true := by decide +kernel
theorem cw_X9_law : calW Y_X9_law := ⟨pn_X9, Or.inr (Or.inl ⟨rfl, rfl⟩), w_1371, w_11, mh_X9, by decide⟩
theorem cl_X9_law {o : OM} {Y : Pk} {d d2 idx : Nat} {C : Ctr} (hS : Sound o Y_X9_law d2 C) (hd : d2 + 1 ≤ d) (hl : Cond.methodLink (yN Y).cls idx yX9_law ∈ wsG ∨ ∃ host, Cond.methodLinkNest (yN Y).cls idx yX9_law host ∈ nestW) : CallOK o Y d (.invokevirtual idx) (1, rcv 9 3 C) := callV_ok hS hd cw_X9_law hl w_1369 w_1370 (Or.inl ⟨TX9, 55, rfl⟩) (by decide +kernel)
def Y_X9_at : Pk := (yX9_at, cX9_at, 4, some .int, 1)
def T_X9_at : Tb := ([(13, 9022)], [], [], [], [(219, 0), (116, 1), (222, 3)], [(112, 2)], 4)
def V_X9_at : List (Nat × Nat) := [(0, 4), (42, 4), (44, 4)]
def B_X9_at : Bk := [(0, [.aload 0, .iload 1, .invokestatic 0, .ifCond .eq 42, .aload 0, .iload 2, .invokestatic 1, .ifCond .eq 42, .iload 3, .i2l, .jsr 0, .aload 0, .getfield 9022, .iload 2, .iaload, .i2l, .invokestatic 2, .ifCond .eq 42, .aload 0, .iload 1, .iload 2, .iload 3, .invokestatic 3, .goto 44], 42), (42, [.iconst (-101)], 44), (44, [.ireturn], 45)]
theorem k_X9_at : chkB T_X9_at cX9_at B_X9_at = true := by decide +kernel
theorem cw_X9_at : calW Y_X9_at := ⟨pn_X9, Or.inr (Or.inl ⟨rfl, rfl⟩), w_1375, w_11, mh_X9, by decide⟩
theorem cl_X9_at {o : OM} {Y : Pk} {d d2 idx : Nat} {C : Ctr} (hS : Sound o Y_X9_at d2 C) (hd : d2 + 1 ≤ d) (hl : Cond.methodLink (yN Y).cls idx yX9_at ∈ wsG ∨ ∃ host, Cond.methodLinkNest (yN Y).cls idx yX9_at host ∈ nestW) : CallOK o Y d (.invokevirtual idx) (4, rcv 9 4 C) := callV_ok hS hd cw_X9_at hl w_1373 w_1374 (Or.inl ⟨TX9, 55, rfl⟩) (by decide +kernel)
def Y_X9_years : Pk := (yX9_years, cX9_years, 3, some .int, 1)
def T_X9_years : Tb := ([], [], [], [], [(219, 0), (116, 1), (148, 2)], [], 3)
def V_X9_years : List (Nat × Nat) := [(0, 3), (25, 3), (27, 3)]
def B_X9_years : Bk := [(0, [.aload 0, .iload 1, .invokestatic 0, .ifCond .eq 25, .aload 0, .iload 2, .invokestatic 1, .ifCond .eq 25, .aload 0, .iload 1, .iload 2, .invokestatic 2, .goto 27], 25), (25, [.iconst (-101)], 27), (27, [.ireturn], 28)]
theorem k_X9_years : chkB T_X9_years cX9_years B_X9_years = true := by decide +kernel
theorem cw_X9_years : calW Y_X9_years := ⟨pn_X9, Or.inr (Or.inl ⟨rfl, rfl⟩), w_1388, w_11, mh_X9, by decide⟩
theorem cl_X9_years {o : OM} {Y : Pk} {d d2 idx : Nat} {C : Ctr} (hS : Sound o Y_X9_years d2 C) (hd : d2 + 1 ≤ d) (hl : Cond.methodLink (yN Y).cls idx yX9_years ∈ wsG ∨ ∃ host, Cond.methodLinkNest (yN Y).cls idx yX9_years host ∈ nestW) : CallOK o Y d (.invokevirtual idx) (3, rcv 9 3 C) := callV_ok hS hd cw_X9_years hl w_1386 w_1387 (Or.inl ⟨TX9, 55, rfl⟩) (by decide +kernel)
def Y_X9_lean : Pk := (yX9_lean, cX9_lean, 5, some .int, 1)
def T_X9_lean : Tb := ([(109, 9000)], [(225, (-100001))], [], [], [(219, 0), (148, 1)], [], 5)
def V_X9_lean : List (Nat × Nat) := [(0, 3), (16, 3), (19, 3), (24, 5), (57, 5)]
def B_X9_lean : Bk := [(0, [.aload 0, .iload 1, .invokestatic 0, .ifCond .eq 16, .aload 0, .iload 2, .invokestatic 0, .ifCond .ne 19], 16), (16, [.iconst (-100001), .ireturn], 19), (19, [.iconst (0), .istore 3, .iconst (0), .istore 4], 24), (24, [.iload 4, .aload 0, .getfield 9000, .if_icmp .ge 57, .iload 3, .aload 0, .iload 1, .iload 4, .invokestatic 1, .aload 0, .iload 2, .iload 4, .invokestatic 1, .isub, .iadd, .istore 3, .iinc 4 1, .goto 24], 57), (57, [.iload 3, .ireturn], 59)]
theorem k_X9_lean : chkB T_X9_lean cX9_lean B_X9_lean = true := by decide +kernel
theorem cw_X9_lean : calW Y_X9_lean := ⟨pn_X9, Or.inr (Or.inl ⟨rfl, rfl⟩), w_1392, w_11, mh_X9, by decide⟩
theorem cl_X9_lean {o : OM} {Y : Pk} {d d2 idx : Nat} {C : Ctr} (hS : Sound o Y_X9_lean d2 C) (hd : d2 + 1 ≤ d) (hl : Cond.methodLink (yN Y).cls idx yX9_lean ∈ wsG ∨ ∃ host, Cond.methodLinkNest (yN Y).cls idx yX9_lean host ∈ nestW) : CallOK o Y d (.invokevirtual idx) (3, rcv 9 5 C) := callV_ok hS hd cw_X9_lean hl w_1390 w_1391 (Or.inl ⟨TX9, 55, rfl⟩) (by decide +kernel)
def Y_X9_like : Pk := (yX9_like, cX9_like, 4, some .int, 1)
def T_X9_like : Tb := ([], [(225, (-100001)), (236, (-100002)), (240, (-100004))], [], [], [(116, 0), (237, 2), (241, 3)], [(233, 1)], 4)
def V_X9_like : List (Nat × Nat) := [(0, 4), (16, 4), (19, 4), (29, 4), (44, 4), (52, 4)]
def B_X9_like : Bk := [(0, [.aload 0, .iload 1, .invokestatic 0, .ifCond .eq 16, .aload 0, .iload 2, .invokestatic 0, .ifCond .ne 19], 16), (16, [.iconst (-100001), .ireturn], 19), (19, [.iload 3, .invokestatic 1, .ifCond .ne 29, .iconst (-100002), .ireturn], 29), (29, [.aload 0, .iload 1, .iload 2, .iload 3, .invokestatic 2, .ifCond .ne 44, .iconst (-100004), .goto 52], 44), (44, [.aload 0, .iload 1, .iload 2, .iload 3, .iconst (0), .invokestatic 3], 52), (52, [.ireturn], 53)]
theorem k_X9_like : chkB T_X9_like cX9_like B_X9_like = true := by decide +kernel
theorem cw_X9_like : calW Y_X9_like := ⟨pn_X9, Or.inr (Or.inl ⟨rfl, rfl⟩), w_1397, w_11, mh_X9, by decide⟩
theorem cl_X9_like {o : OM} {Y : Pk} {d d2 idx : Nat} {C : Ctr} (hS : Sound o Y_X9_like d2 C) (hd : d2 + 1 ≤ d) (hl : Cond.methodLink (yN Y).cls idx yX9_like ∈ wsG ∨ ∃ host, Cond.methodLinkNest (yN Y).cls idx yX9_like host ∈ nestW) : CallOK o Y d (.invokevirtual idx) (4, rcv 9 4 C) := callV_ok hS hd cw_X9_like hl w_1395 w_1396 (Or.inl ⟨TX9, 55, rfl⟩) (by decide +kernel)
def Y_X9_slide : Pk := (yX9_slide, cX9_slide, 11, some .int, 1)
def T_X9_slide : Tb := ([], [(225, (-100001)), (236, (-100002)), (240, (-100004))], [(245, 16)], [], [(116, 0), (237, 2), (241, 3)], [(112, 1)], 11)
def V_X9_slide : List (Nat × Nat) := [(0, 4), (16, 4), (19, 4), (34, 4), (44, 7), (54, 8), (83, 9), (84, 9), (103, 10), (104, 10), (125, 11), (133, 11), (139, 8), (145, 7)]
def B_X9_slide : Bk := [(0, [.aload 0, .iload 1, .invokestatic 0, .ifCond .eq 16, .aload 0, .iload 2, .invokestatic 0, .ifCond .ne 19], 16), (16, [.iconst (-100001), .ireturn], 19), (19, [.iload 3, .i2l, .jsr 1, .jsr (16), .invokestatic 1, .ifCond .ne 34, .iconst (-100002), .ireturn], 34), (34, [.iconst (-100004), .istore 4, .iconst (0), .istore 5, .iconst (0), .istore 6], 44), (44, [.iload 6, .iconst (16), .if_icmp .ge 145, .iconst (-1), .istore 7], 54), (54, [.iload 7, .iconst (2), .if_icmp .ge 139, .iload 7, .iload 6, .imul, .istore 8, .aload 0, .iload 1, .iload 2, .iload 8, .invokestatic 2, .iload 3, .if_icmp .lt 83, .iconst (1), .goto 84], 83), (83, [.iconst (0)], 84), (84, [.istore 9, .iload 9, .ifCond .eq 103, .aload 0, .iload 1, .iload 2, .iload 8, .iconst (0), .invokestatic 3, .goto 104], 103), (103, [.iconst (0)], 104), (104, [.istore 10, .iload 9, .ifCond .eq 133, .iload 4, .iconst (-100004), .if_icmp .eq 125, .iload 10, .iload 5, .if_icmp .le 133], 125), (125, [.iload 8, .istore 4, .iload 10, .istore 5], 133), (133, [.iinc 7 2, .goto 54], 139), (139, [.iinc 6 1, .goto 44], 145), (145, [.iload 4, .ireturn], 148)]
theorem k_X9_slide : chkB T_X9_slide cX9_slide B_X9_slide = true := by decide +kernel
theorem cw_X9_slide : calW Y_X9_slide := ⟨pn_X9, Or.inr (Or.inl ⟨rfl, rfl⟩), w_1424, w_11, mh_X9, by decide⟩
theorem cl_X9_slide {o : OM} {Y : Pk} {d d2 idx : Nat} {C : Ctr} (hS : Sound o Y_X9_slide d2 C) (hd : d2 + 1 ≤ d) (hl : Cond.methodLink (yN Y).cls idx yX9_slide ∈ wsG ∨ ∃ host, Cond.methodLinkNest (yN Y).cls idx yX9_slide host ∈ nestW) : CallOK o Y d (.invokevirtual idx) (4, rcv 9 11 C) := callV_ok hS hd cw_X9_slide hl w_1422 w_1423 (Or.inl ⟨TX9, 55, rfl⟩) (by decide +kernel)
def Y_X9_chance : Pk := (yX9_chance, cX9_chance, 7, some .int, 1)
def T_X9_chance : Tb := ([(13, 9022)], [], [], [], [(116, 0), (237, 3), (241, 4)], [(233, 1), (250, 2), (253, 5)], 7)
def V_X9_chance : List (Nat × Nat) := [(0, 5), (16, 5), (19, 5), (34, 5), (37, 5), (50, 5), (56, 7), (93, 7), (94, 7), (103, 7)]
def B_X9_chance : Bk := [(0, [.aload 0, .iload 1, .invokestatic 0, .ifCond .eq 16, .aload 0, .iload 2, .invokestatic 0, .ifCond .ne 19], 16), (16, [.iconst (-101), .ireturn], 19), (19, [.iload 3, .invokestatic 1, .ifCond .eq 34, .iload 4, .invokestatic 2, .ifCond .ne 37], 34), (34, [.iconst (-102), .ireturn], 37), (37, [.aload 0, .iload 1, .iload 2, .iload 3, .invokestatic 3, .ifCond .ne 50, .iconst (-103), .ireturn], 50), (50, [.iconst (0), .istore 5, .iconst (0), .istore 6], 56), (56, [.iload 6, .aload 0, .getfield 9022, .iload 2, .iaload, .if_icmp .ge 103, .iload 5, .aload 0, .iload 1, .iload 2, .iload 3, .iload 6, .invokestatic 4, .aload 0, .iload 1, .iload 2, .iload 3, .iconst (0), .invokestatic 4, .if_icmp .lt 93, .iconst (1), .goto 94], 93), (93, [.iconst (0)], 94), (94, [.iadd, .istore 5, .iinc 6 1, .goto 56], 103), (103, [.iload 5, .aload 0, .getfield 9022, .iload 2, .iaload, .iload 4, .invokestatic 5, .ireturn], 117)]
theorem k_X9_chance : chkB T_X9_chance cX9_chance B_X9_chance = true := by decide +kernel
theorem cw_X9_chance : calW Y_X9_chance := ⟨pn_X9, Or.inr (Or.inl ⟨rfl, rfl⟩), w_1429, w_11, mh_X9, by decide⟩
theorem cl_X9_chance {o : OM} {Y : Pk} {d d2 idx : Nat} {C : Ctr} (hS : Sound o Y_X9_chance d2 C) (hd : d2 + 1 ≤ d) (hl : Cond.methodLink (yN Y).cls idx yX9_chance ∈ wsG ∨ ∃ host, Cond.methodLinkNest (yN Y).cls idx yX9_chance host ∈ nestW) : CallOK o Y d (.invokevirtual idx) (5, rcv 9 7 C) := callV_ok hS hd cw_X9_chance hl w_1427 w_1428 (Or.inl ⟨TX9, 55, rfl⟩) (by decide +kernel)
def Y_X9_together : Pk := (yX9_together, cX9_together, 5, some .int, 1)
def T_X9_together : Tb := ([(37, 9172), (40, 9182), (302, 9280), (43, 9272)], [], [(144, 2), (308, 10), (310, 41)], [], [(305, 0), (116, 1), (312, 3), (315, 4)], [(112, 2)], 5)
def V_X9_together : List (Nat × Nat) := [(0, 5), (24, 5), (27, 5), (58, 5), (87, 5), (93, 5), (94, 5), (111, 5), (136, 5), (137, 5)]
def B_X9_together : Bk := [(0, [.aload 0, .iload 1, .invokestatic 0, .ifCond .eq 24, .aload 0, .iload 2, .invokestatic 1, .ifCond .eq 24, .aload 0, .iload 3, .invokestatic 1, .ifCond .ne 27], 24), (24, [.iconst (-101), .ireturn], 27), (27, [.iload 4, .i2l, .jsr 0, .jsr (2), .invokestatic 2, .ifCond .ne 58, .iload 4, .i2l, .jsr (10), .jsr (41), .invokestatic 2, .ifCond .ne 58, .iconst (-102), .ireturn], 58), (58, [.aload 0, .iload 1, .iload 2, .iload 3, .iconst (-1), .iconst (-1), .invokestatic 3, .iload 4, .iconst (2), .if_icmp .ge 94, .iload 4, .ifCond .ne 87, .aload 0, .getfield 9172, .iconst (0), .iaload, .goto 93], 87), (87, [.aload 0, .getfield 9182, .iconst (0), .iaload], 93), (93, [.ireturn], 94), (94, [.aload 0, .invokestatic 4, .iload 4, .iconst (2), .if_icmp .ne 111, .aload 0, .getfield 9280, .goto 137], 111), (111, [.iload 4, .iconst (10), .isub, .aload 0, .getfield 9280, .if_icmp .ge 136, .aload 0, .getfield 9272, .iload 4, .iconst (10), .isub, .iaload, .goto 137], 136), (136, [.iconst (-1)], 137), (137, [.ireturn], 138)]
theorem k_X9_together : chkB T_X9_together cX9_together B_X9_together = true := by decide +kernel
theorem cw_X9_together : calW Y_X9_together := ⟨pn_X9, Or.inr (Or.inl ⟨rfl, rfl⟩), w_1442, w_11, mh_X9, by decide⟩
theorem cl_X9_together {o : OM} {Y : Pk} {d d2 idx : Nat} {C : Ctr} (hS : Sound o Y_X9_together d2 C) (hd : d2 + 1 ≤ d) (hl : Cond.methodLink (yN Y).cls idx yX9_together ∈ wsG ∨ ∃ host, Cond.methodLinkNest (yN Y).cls idx yX9_together host ∈ nestW) : CallOK o Y d (.invokevirtual idx) (5, rcv 9 5 C) := callV_ok hS hd cw_X9_together hl w_1440 w_1441 (Or.inl ⟨TX9, 55, rfl⟩) (by decide +kernel)
def Y_X9_lies : Pk := (yX9_lies, cX9_lies, 5, some .int, 1)
def T_X9_lies : Tb := ([(46, 9292)], [], [], [], [(305, 0), (116, 1), (136, 2), (312, 3), (315, 4)], [], 5)
def V_X9_lies : List (Nat × Nat) := [(0, 5), (26, 5), (29, 5)]
def B_X9_lies : Bk := [(0, [.aload 0, .iload 1, .invokestatic 0, .ifCond .eq 26, .aload 0, .iload 3, .invokestatic 1, .ifCond .eq 26, .aload 0, .iload 2, .iload 4, .invokestatic 2, .ifCond .ne 29], 26), (26, [.iconst (-101), .ireturn], 29), (29, [.aload 0, .iload 1, .iload 2, .iload 3, .iconst (-1), .iconst (-1), .invokestatic 3, .aload 0, .invokestatic 4, .aload 0, .getfield 9292, .iload 4, .iaload, .ireturn], 50)]
theorem k_X9_lies : chkB T_X9_lies cX9_lies B_X9_lies = true := by decide +kernel
theorem cw_X9_lies : calW Y_X9_lies := ⟨pn_X9, Or.inr (Or.inl ⟨rfl, rfl⟩), w_1484, w_11, mh_X9, by decide⟩
theorem cl_X9_lies {o : OM} {Y : Pk} {d d2 idx : Nat} {C : Ctr} (hS : Sound o Y_X9_lies d2 C) (hd : d2 + 1 ≤ d) (hl : Cond.methodLink (yN Y).cls idx yX9_lies ∈ wsG ∨ ∃ host, Cond.methodLinkNest (yN Y).cls idx yX9_lies host ∈ nestW) : CallOK o Y d (.invokevirtual idx) (5, rcv 9 5 C) := callV_ok hS hd cw_X9_lies hl w_1482 w_1483 (Or.inl ⟨TX9, 55, rfl⟩) (by decide +kernel)
def Y_X9_sure : Pk := (yX9_sure, cX9_sure, 6, some .int, 1)
def T_X9_sure : Tb := ([(318, 9310), (49, 9302), (37, 9172), (46, 9292)], [], [], [], [(305, 0), (116, 1), (136, 2), (312, 3), (315, 4)], [], 6)
def V_X9_sure : List (Nat × Nat) := [(0, 5), (26, 5), (29, 5), (41, 5), (76, 5)]
def B_X9_sure : Bk := [(0, [.aload 0, .iload 1, .invokestatic 0, .ifCond .eq 26, .aload 0, .iload 3, .invokestatic 1, .ifCond .eq 26, .aload 0, .iload 2, .iload 4, .invokestatic 2, .ifCond .ne 29], 26), (26, [.iconst (-101), .ireturn], 29), (29, [.aload 0, .getfield 9310, .iconst (100), .if_icmp .ne 41, .iconst (-103), .ireturn], 41), (41, [.aload 0, .dup, .getfield 9310, .iconst (1), .iadd, .putfield 9310, .aload 0, .iload 1, .iload 2, .iload 3, .iconst (-1), .iconst (-1), .invokestatic 3, .aload 0, .invokestatic 4, .aload 0, .getfield 9302, .iload 4, .baload, .ifCond .ne 76, .iconst (-1), .ireturn], 76), (76, [.aload 0, .getfield 9172, .iconst (0), .iaload, .istore 5, .aload 0, .iload 1, .iload 2, .iload 3, .iload 4, .aload 0, .getfield 9292, .iload 4, .iaload, .invokestatic 3, .aload 0, .getfield 9172, .iconst (0), .iaload, .iload 5, .isub, .ireturn], 110)]
theorem k_X9_sure : chkB T_X9_sure cX9_sure B_X9_sure = true := by decide +kernel
theorem cw_X9_sure : calW Y_X9_sure := ⟨pn_X9, Or.inr (Or.inl ⟨rfl, rfl⟩), w_1488, w_11, mh_X9, by decide⟩
theorem cl_X9_sure {o : OM} {Y : Pk} {d d2 idx : Nat} {C : Ctr} (hS : Sound o Y_X9_sure d2 C) (hd : d2 + 1 ≤ d) (hl : Cond.methodLink (yN Y).cls idx yX9_sure ∈ wsG ∨ ∃ host, Cond.methodLinkNest (yN Y).cls idx yX9_sure host ∈ nestW) : CallOK o Y d (.invokevirtual idx) (5, rcv 9 6 C) := callV_ok hS hd cw_X9_sure hl w_1486 w_1487 (Or.inl ⟨TX9, 55, rfl⟩) (by decide +kernel)
def Y_X9_layNet : Pk := (yX9_layNet, cX9_layNet, 8, some .boolean, 2)
def T_X9_layNet : Tb := ([(80, 9432), (325, 9320), (53, 9332), (56, 9342), (59, 9352), (62, 9362), (109, 9000), (71, 9392), (74, 9402), (77, 9412), (101, 9423)], [(333, 10000000)], [], [], [(334, 0), (338, 1), (222, 2), (341, 3)], [], 8)
def V_X9_layNet : List (Nat × Nat) := [(0, 2), (2, 3), (24, 3), (27, 3), (34, 3), (36, 3), (81, 3), (87, 3), (89, 3), (125, 3), (127, 4), (142, 5), (208, 7), (214, 5), (220, 4), (226, 3)]
def B_X9_layNet : Bk := [(0, [.iconst (0), .istore 2], 2), (2, [.iload 2, .iconst (64), .if_icmp .ge 34, .aload 0, .getfield 9432, .iload 2, .iload 2, .iconst (9), .irem, .ifCond .ne 24, .iconst (0), .goto 27], 24), (24, [.iconst (10000000)], 27), (27, [.iastore, .iinc 2 1, .goto 2], 34), (34, [.iconst (0), .istore 2], 36), (36, [.iload 2, .aload 0, .getfield 9320, .if_icmp .ge 87, .iload 1, .iload 2, .ishr, .iconst (1), .iand, .iconst (1), .if_icmp .ne 81, .aload 0, .aload 0, .getfield 9332, .iload 2, .iaload, .aload 0, .getfield 9342, .iload 2, .iaload, .aload 0, .getfield 9352, .iload 2, .iaload, .aload 0, .getfield 9362, .iload 2, .iaload, .invokestatic 0], 81), (81, [.iinc 2 1, .goto 36], 87), (87, [.iconst (0), .istore 2], 89), (89, [.iload 2, .aload 0, .getfield 9000, .if_icmp .ge 226, .aload 0, .getfield 9392, .iload 2, .baload, .ifCond .eq 125, .aload 0, .iconst (7), .iload 2, .aload 0, .getfield 9402, .iload 2, .iaload, .aload 0, .getfield 9412, .iload 2, .iaload, .invokestatic 0], 125), (125, [.iconst (0), .istore 3], 127), (127, [.iload 3, .iload 2, .if_icmp .ge 220, .aload 0, .getfield 9423, .ifCond .eq 220, .iconst (0), .istore 4], 142), (142, [.iload 4, .iconst (10), .if_icmp .ge 214, .aload 0, .iload 2, .iload 4, .invokestatic 1, .istore 5, .aload 0, .iload 3, .iload 4, .invokestatic 1, .istore 6, .iload 5, .iconst (-1), .if_icmp .eq 208, .iload 6, .iconst (-1), .if_icmp .eq 208, .aload 0, .iconst (-1), .iload 3, .iload 6, .invokestatic 2, .aload 0, .iconst (-1), .iload 2, .iload 5, .invokestatic 2, .isub, .istore 7, .aload 0, .iload 3, .iload 2, .iload 7, .iload 7, .invokestatic 0], 208), (208, [.iinc 4 1, .goto 142], 214), (214, [.iinc 3 1, .goto 127], 220), (220, [.iinc 2 1, .goto 89], 226), (226, [.aload 0, .invokestatic 3, .ireturn], 231)]
theorem k_X9_layNet : chkB T_X9_layNet cX9_layNet B_X9_layNet = true := by decide +kernel
theorem cw_X9_layNet : calW Y_X9_layNet := ⟨pn_X9, Or.inr (Or.inr (Or.inl ⟨rfl, rfl⟩)), w_1528, w_11, mh_X9, by decide⟩
theorem cl_X9_layNet {o : OM} {Y : Pk} {d d2 idx : Nat} {C : Ctr} (hS : Sound o Y_X9_layNet d2 C) (hd : d2 + 1 ≤ d) (hl : Cond.methodLink (yN Y).cls idx yX9_layNet ∈ wsG ∨ ∃ host, Cond.methodLinkNest (yN Y).cls idx yX9_layNet host ∈ nestW) : CallOK o Y d (.invokevirtual idx) (2, rcv 9 8 C) := callV_ok hS hd cw_X9_layNet hl w_1527 wp_113 (Or.inl ⟨TX9, 55, rfl⟩) (by decide +kernel)
def Y_X9_tookBy : Pk := (yX9_tookBy, cX9_tookBy, 11, some .int, 1)
def T_X9_tookBy : Tb := ([(22, 9052), (16, 9032)], [], [], [], [(376, 0), (338, 1), (216, 2), (212, 3), (222, 4)], [], 11)
def V_X9_tookBy : List (Nat × Nat) := [(0, 4), (32, 6), (34, 6), (83, 8), (84, 8), (92, 10), (124, 10), (125, 10), (133, 10), (140, 10), (203, 11), (204, 11)]
def B_X9_tookBy : Bk := [(0, [.aload 0, .iload 1, .iload 2, .iconst (-1), .iload 3, .invokestatic 0, .istore 4, .aload 0, .iload 1, .iload 2, .iconst (1), .iload 3, .invokestatic 0, .istore 5, .iload 4, .iconst (-1), .if_icmp .eq 32, .iload 5, .iconst (-1), .if_icmp .ne 34], 32), (32, [.iconst (-1), .ireturn], 34), (34, [.aload 0, .iload 3, .aload 0, .getfield 9052, .iconst (16), .iload 1, .imul, .iload 4, .iadd, .iaload, .invokestatic 1, .istore 6, .aload 0, .iload 3, .aload 0, .getfield 9052, .iconst (16), .iload 1, .imul, .iload 5, .iadd, .iaload, .invokestatic 1, .istore 7, .iload 6, .iload 7, .if_icmp .ge 83, .iconst (1), .goto 84], 83), (83, [.iconst (0)], 84), (84, [.istore 8, .iload 6, .iconst (1), .iadd, .istore 9], 92), (92, [.iload 9, .iload 7, .if_icmp .ge 133, .iload 8, .ifCond .eq 124, .aload 0, .getfield 9032, .iconst (16), .iload 3, .imul, .iload 9, .iadd, .iaload, .iconst (4), .if_icmp .eq 124, .iconst (1), .goto 125], 124), (124, [.iconst (0)], 125), (125, [.istore 8, .iinc 9 1, .goto 92], 133), (133, [.iload 8, .ifCond .ne 140, .iconst (-1), .ireturn], 140), (140, [.aload 0, .iconst (-1), .iload 1, .iload 5, .invokestatic 2, .aload 0, .iconst (-1), .iload 1, .iload 2, .invokestatic 3, .isub, .iconst (2), .idiv, .aload 0, .iconst (-1), .iload 1, .iload 4, .invokestatic 4, .isub, .istore 9, .aload 0, .iconst (-1), .iload 3, .iload 7, .invokestatic 4, .aload 0, .iconst (-1), .iload 3, .iload 6, .invokestatic 4, .isub, .istore 10, .iload 10, .iload 9, .if_icmp .le 203, .iload 10, .iload 9, .isub, .goto 204], 203), (203, [.iconst (0)], 204), (204, [.ireturn], 205)]
theorem k_X9_tookBy : chkB T_X9_tookBy cX9_tookBy B_X9_tookBy = true := by decide +kernel
theorem cw_X9_tookBy : calW Y_X9_tookBy := ⟨pn_X9, Or.inr (Or.inl ⟨rfl, rfl⟩), w_1600, w_11, mh_X9, by decide⟩
theorem cl_X9_tookBy {o : OM} {Y : Pk} {d d2 idx : Nat} {C : Ctr} (hS : Sound o Y_X9_tookBy d2 C) (hd : d2 + 1 ≤ d) (hl : Cond.methodLink (yN Y).cls idx yX9_tookBy ∈ wsG ∨ ∃ host, Cond.methodLinkNest (yN Y).cls idx yX9_tookBy host ∈ nestW) : CallOK o Y d (.invokevirtual idx) (4, rcv 9 11 C) := callV_ok hS hd cw_X9_tookBy hl w_1599 wp_122 (Or.inl ⟨TX9, 55, rfl⟩) (by decide +kernel)
def Y_X9_tellPit : Pk := (yX9_tellPit, cX9_tellPit, 3, none, 0)
def T_X9_tellPit : Tb := ([(7, 9012), (13, 9022), (16, 9032), (19, 9042), (22, 9052), (204, 9090)], [], [], [], [(397, 0), (148, 1)], [], 3)
def V_X9_tellPit : List (Nat × Nat) := [(0, 2), (13, 3), (77, 3), (79, 3), (104, 3)]
def B_X9_tellPit : Bk := [(0, [.aload 0, .aload 0, .getfield 9012, .iload 1, .iaload, .i2l, .invokestatic 0, .iconst (0), .istore 2], 13), (13, [.iload 2, .aload 0, .getfield 9022, .iload 1, .iaload, .if_icmp .ge 77, .aload 0, .aload 0, .getfield 9032, .iconst (16), .iload 1, .imul, .iload 2, .iadd, .iaload, .i2l, .invokestatic 0, .aload 0, .aload 0, .getfield 9042, .iconst (16), .iload 1, .imul, .iload 2, .iadd, .iaload, .i2l, .invokestatic 0, .aload 0, .aload 0, .getfield 9052, .iconst (16), .iload 1, .imul, .iload 2, .iadd, .iaload, .i2l, .invokestatic 0, .iinc 2 1, .goto 13], 77), (77, [.iconst (-1), .istore 2], 79), (79, [.iload 2, .aload 0, .getfield 9090, .if_icmp .ge 104, .aload 0, .aload 0, .iload 2, .iload 1, .invokestatic 1, .i2l, .invokestatic 0, .iinc 2 1, .goto 79], 104), (104, [.return_], 105)]
theorem k_X9_tellPit : chkB T_X9_tellPit cX9_tellPit B_X9_tellPit = true := by decide +kernel
theorem cw_X9_tellPit : calW Y_X9_tellPit := ⟨pn_X9, Or.inl ⟨rfl, rfl⟩, w_1629, w_11, mh_X9, by decide⟩
theorem cl_X9_tellPit {o : OM} {Y : Pk} {d d2 idx : Nat} {C : Ctr} (hS : Sound o Y_X9_tellPit d2 C) (hd : d2 + 1 ≤ d) (hl : Cond.methodLink (yN Y).cls idx yX9_tellPit ∈ wsG ∨ ∃ host, Cond.methodLinkNest (yN Y).cls idx yX9_tellPit host ∈ nestW) : CallOK o Y d (.invokevirtual idx) (2, rcv 9 3 C) := callV_ok hS hd cw_X9_tellPit hl w_1628 wp_125 (Or.inl ⟨TX9, 55, rfl⟩) (by decide +kernel)
def Y_X9_tellLaw : Pk := (yX9_tellLaw, cX9_tellLaw, 4, none, 0)
def T_X9_tellLaw : Tb := ([(109, 9000), (37, 9172)], [], [], [], [(312, 0), (397, 1)], [], 4)
def V_X9_tellLaw : List (Nat × Nat) := [(0, 2), (2, 3), (14, 4), (48, 4), (54, 3)]
def B_X9_tellLaw : Bk := [(0, [.iconst (0), .istore 2], 2), (2, [.iload 2, .aload 0, .getfield 9000, .if_icmp .ge 54, .iload 2, .iconst (1), .iadd, .istore 3], 14), (14, [.iload 3, .aload 0, .getfield 9000, .if_icmp .ge 48, .aload 0, .iload 1, .iload 2, .iload 3, .iconst (-1), .iconst (-1), .invokestatic 0, .aload 0, .aload 0, .getfield 9172, .iconst (0), .iaload, .i2l, .invokestatic 1, .iinc 3 1, .goto 14], 48), (48, [.iinc 2 1, .goto 2], 54), (54, [.return_], 55)]
theorem k_X9_tellLaw : chkB T_X9_tellLaw cX9_tellLaw B_X9_tellLaw = true := by decide +kernel
theorem cw_X9_tellLaw : calW Y_X9_tellLaw := ⟨pn_X9, Or.inl ⟨rfl, rfl⟩, w_1638, w_11, mh_X9, by decide⟩
theorem cl_X9_tellLaw {o : OM} {Y : Pk} {d d2 idx : Nat} {C : Ctr} (hS : Sound o Y_X9_tellLaw d2 C) (hd : d2 + 1 ≤ d) (hl : Cond.methodLink (yN Y).cls idx yX9_tellLaw ∈ wsG ∨ ∃ host, Cond.methodLinkNest (yN Y).cls idx yX9_tellLaw host ∈ nestW) : CallOK o Y d (.invokevirtual idx) (2, rcv 9 4 C) := callV_ok hS hd cw_X9_tellLaw hl w_1637 wp_127 (Or.inl ⟨TX9, 55, rfl⟩) (by decide +kernel)
def Y_X3_weaveWhole : Pk := (yX3_weaveWhole, cX3_weaveWhole, 1, some .boolean, 2)
def T_X3_weaveWhole : Tb := ([(11, 3032)], [], [], [], [(63, 0), (67, 1)], [], 1)
def V_X3_weaveWhole : List (Nat × Nat) := [(0, 1), (23, 1), (24, 1)]
def B_X3_weaveWhole : Bk := [(0, [.aload 0, .invokestatic 0, .ifCond .eq 23, .aload 0, .aload 0, .getfield 3032, .iconst (-1), .invokestatic 1, .ifCond .eq 23, .iconst (1), .goto 24], 23), (23, [.iconst (0)], 24), (24, [.ireturn], 25)]
theorem k_X3_weaveWhole : chkB T_X3_weaveWhole cX3_weaveWhole B_X3_weaveWhole = true := by decide +kernel
theorem cw_X3_weaveWhole : calW Y_X3_weaveWhole := ⟨pn_X3, Or.inr (Or.inr (Or.inl ⟨rfl, rfl⟩)), w_832, w_10, mh_X3, by decide⟩
theorem cl_X3_weaveWhole {o : OM} {Y : Pk} {d d2 idx : Nat} {C : Ctr} (hS : Sound o Y_X3_weaveWhole d2 C) (hd : d2 + 1 ≤ d) (hl : Cond.methodLink (yN Y).cls idx yX3_weaveWhole ∈ wsG ∨ ∃ host, Cond.methodLinkNest (yN Y).cls idx yX3_weaveWhole host ∈ nestW) : CallOK o Y d (.invokevirtual idx) (1, rcv 3 1 C) := callV_ok hS hd cw_X3_weaveWhole hl w_831 wp_49 (Or.inl ⟨TX3, 15, rfl⟩) (by decide +kernel)
def Y_X3_leastCast : Pk := (yX3_leastCast, cX3_leastCast, 1, some .int, 1)
def T_X3_leastCast : Tb := ([(32, 3090), (36, 3100), (39, 3110), (15, 3042), (23, 3062)], [], [], [], [(63, 0), (177, 2)], [(105, 1)], 1)
def V_X3_leastCast : List (Nat × Nat) := [(0, 1), (47, 1)]
def B_X3_leastCast : Bk := [(0, [.aload 0, .iconst (-1), .putfield 3090, .aload 0, .iconst (13), .putfield 3100, .aload 0, .iconst (-1), .putfield 3110, .aload 0, .invokestatic 0, .ifCond .eq 47, .aload 0, .getfield 3042, .iconst (0), .aload 0, .getfield 3062, .iconst (0), .aaload, .iconst (0), .iconst (64), .invokestatic 1, .aload 0, .iconst (0), .iconst (0), .iconst (0), .invokestatic 2], 47), (47, [.aload 0, .getfield 3090, .ireturn], 52)]
theorem k_X3_leastCast : chkB T_X3_leastCast cX3_leastCast B_X3_leastCast = true := by decide +kernel
theorem cw_X3_leastCast : calW Y_X3_leastCast := ⟨pn_X3, Or.inr (Or.inl ⟨rfl, rfl⟩), w_933, w_10, mh_X3, by decide⟩
theorem cl_X3_leastCast {o : OM} {Y : Pk} {d d2 idx : Nat} {C : Ctr} (hS : Sound o Y_X3_leastCast d2 C) (hd : d2 + 1 ≤ d) (hl : Cond.methodLink (yN Y).cls idx yX3_leastCast ∈ wsG ∨ ∃ host, Cond.methodLinkNest (yN Y).cls idx yX3_leastCast host ∈ nestW) : CallOK o Y d (.invokevirtual idx) (1, rcv 3 1 C) := callV_ok hS hd cw_X3_leastCast hl w_932 wp_65 (Or.inl ⟨TX3, 15, rfl⟩) (by decide +kernel)
def Y_X3_isWiderWithout : Pk := (yX3_isWiderWithout, cX3_isWiderWithout, 4, some .boolean, 2)
def T_X3_isWiderWithout : Tb := ([(18, 3052), (11, 3032)], [], [], [], [(67, 0)], [], 4)
def V_X3_isWiderWithout : List (Nat × Nat) := [(0, 4), (60, 4), (64, 4), (65, 4)]
def B_X3_isWiderWithout : Bk := [(0, [.aload 0, .aload 0, .getfield 3052, .iload 1, .invokestatic 0, .pop, .aload 0, .getfield 3052, .iload 2, .iconst (8), .imul, .iload 3, .iadd, .iaload, .aload 0, .getfield 3032, .iload 2, .iconst (8), .imul, .iload 3, .iadd, .iaload, .if_icmp .gt 60, .aload 0, .getfield 3052, .iload 3, .iconst (8), .imul, .iload 2, .iadd, .iaload, .aload 0, .getfield 3032, .iload 3, .iconst (8), .imul, .iload 2, .iadd, .iaload, .if_icmp .le 64], 60), (60, [.iconst (1), .goto 65], 64), (64, [.iconst (0)], 65), (65, [.ireturn], 66)]
theorem k_X3_isWiderWithout : chkB T_X3_isWiderWithout cX3_isWiderWithout B_X3_isWiderWithout = true := by decide +kernel
theorem cw_X3_isWiderWithout : calW Y_X3_isWiderWithout := ⟨pn_X3, Or.inr (Or.inr (Or.inl ⟨rfl, rfl⟩)), w_957, w_10, mh_X3, by decide⟩
theorem cl_X3_isWiderWithout {o : OM} {Y : Pk} {d d2 idx : Nat} {C : Ctr} (hS : Sound o Y_X3_isWiderWithout d2 C) (hd : d2 + 1 ≤ d) (hl : Cond.methodLink (yN Y).cls idx yX3_isWiderWithout ∈ wsG ∨ ∃ host, Cond.methodLinkNest (yN Y).cls idx yX3_isWiderWithout host ∈ nestW) : CallOK o Y d (.invokevirtual idx) (4, rcv 3 4 C) := callV_ok hS hd cw_X3_isWiderWithout hl w_956 wp_70 (Or.inl ⟨TX3, 15, rfl⟩) (by decide +kernel)
def Y_X3_findDig : Pk := (yX3_findDig, cX3_findDig, 4, none, 0)
def T_X3_findDig : Tb := ([(42, 3120), (45, 3130), (48, 3140), (51, 3002), (85, 6000)], [], [], [], [(194, 0), (197, 1), (203, 3)], [(200, 2)], 4)
def V_X3_findDig : List (Nat × Nat) := [(0, 1), (17, 2), (32, 3), (70, 3), (93, 4), (108, 3), (114, 3), (120, 2)]
def B_X3_findDig : Bk := [(0, [.aload 0, .iconst (-1), .putfield 3120, .aload 0, .iconst (-1), .putfield 3130, .aload 0, .iconst (-1), .putfield 3140, .iconst (0), .istore 1], 17), (17, [.iload 1, .aload 0, .getfield 3002, .getfield 6000, .if_icmp .ge 120, .iload 1, .iconst (1), .iadd, .istore 2], 32), (32, [.iload 2, .aload 0, .getfield 3002, .getfield 6000, .if_icmp .ge 114, .aload 0, .iload 1, .iload 2, .invokestatic 0, .ifCond .ne 108, .aload 0, .iload 1, .iload 2, .invokestatic 1, .iconst (1), .iconst (40), .invokestatic 2, .ifCond .ne 70, .goto 108], 70), (70, [.aload 0, .iload 1, .iload 2, .invokestatic 3, .istore 3, .aload 0, .getfield 3140, .iconst (-1), .if_icmp .eq 93, .iload 3, .aload 0, .getfield 3140, .if_icmp .ge 108], 93), (93, [.aload 0, .iload 1, .putfield 3120, .aload 0, .iload 2, .putfield 3130, .aload 0, .iload 3, .putfield 3140], 108), (108, [.iinc 2 1, .goto 32], 114), (114, [.iinc 1 1, .goto 17], 120), (120, [.return_], 121)]
theorem k_X3_findDig : chkB T_X3_findDig cX3_findDig B_X3_findDig = true := by decide +kernel
theorem cw_X3_findDig : calW Y_X3_findDig := ⟨pn_X3, Or.inl ⟨rfl, rfl⟩, w_965, w_10, mh_X3, by decide⟩
theorem cl_X3_findDig {o : OM} {Y : Pk} {d d2 idx : Nat} {C : Ctr} (hS : Sound o Y_X3_findDig d2 C) (hd : d2 + 1 ≤ d) (hl : Cond.methodLink (yN Y).cls idx yX3_findDig ∈ wsG ∨ ∃ host, Cond.methodLinkNest (yN Y).cls idx yX3_findDig host ∈ nestW) : CallOK o Y d (.invokevirtual idx) (1, rcv 3 4 C) := callV_ok hS hd cw_X3_findDig hl w_964 wp_71 (Or.inl ⟨TX3, 15, rfl⟩) (by decide +kernel)
def Y_X5_fillAll : Pk := (yX5_fillAll, cX5_fillAll, 3, none, 0)
def T_X5_fillAll : Tb := ([(24, 5060), (28, 5070)], [], [], [], [(107, 0)], [], 3)
def V_X5_fillAll : List (Nat × Nat) := [(0, 1), (5, 2), (14, 3), (30, 3), (36, 2)]
def B_X5_fillAll : Bk := [(0, [.aload 0, .getfield 5060, .istore 1], 5), (5, [.iload 1, .ifCond .lt 36, .aload 0, .getfield 5070, .istore 2], 14), (14, [.iload 2, .ifCond .lt 30, .aload 0, .iload 1, .iload 2, .invokestatic 0, .iinc 2 (-1), .goto 14], 30), (30, [.iinc 1 (-1), .goto 5], 36), (36, [.return_], 37)]
theorem k_X5_fillAll : chkB T_X5_fillAll cX5_fillAll B_X5_fillAll = true := by decide +kernel
theorem cw_X5_fillAll : calW Y_X5_fillAll := ⟨pn_X5, Or.inl ⟨rfl, rfl⟩, w_703, w_9, mh_X5, by decide⟩
theorem cl_X5_fillAll {o : OM} {Y : Pk} {d d2 idx : Nat} {C : Ctr} (hS : Sound o Y_X5_fillAll d2 C) (hd : d2 + 1 ≤ d) (hl : Cond.methodLink (yN Y).cls idx yX5_fillAll ∈ wsG ∨ ∃ host, Cond.methodLinkNest (yN Y).cls idx yX5_fillAll host ∈ nestW) : CallOK o Y d (.invokevirtual idx) (1, rcv 5 3 C) := callV_ok hS hd cw_X5_fillAll hl w_702 wp_30 (Or.inl ⟨TX5, 20, rfl⟩) (by decide +kernel)
def Y_X5_goTheWay : Pk := (yX5_goTheWay, cX5_goTheWay, 6, none, 0)
def T_X5_goTheWay : Tb := ([(58, 5170), (55, 5162), (64, 5192), (61, 5182)], [], [], [(126, 100), (129, 101)], [(150, 0)], [], 6)
def V_X5_goTheWay : List (Nat × Nat) := [(0, 1), (11, 4), (32, 5), (56, 6), (97, 6), (98, 6), (105, 6), (129, 4)]
def B_X5_goTheWay : Bk := [(0, [.iconst (0), .istore 1, .iconst (0), .istore 2, .aload 0, .iconst (0), .putfield 5170, .iconst (0), .istore 3], 11), (11, [.iload 3, .iconst (32), .if_icmp .ge 129, .aload 0, .iload 1, .iload 2, .invokestatic 0, .istore 4, .iload 4, .iconst (-1), .if_icmp .ne 32, .return_], 32), (32, [.aload 0, .getfield 5162, .aload 0, .getfield 5170, .iload 4, .iastore, .aload 0, .dup, .getfield 5170, .iconst (1), .iadd, .putfield 5170, .iload 1, .istore 5], 56), (56, [.iload 5, .iload 1, .anewarray 100, .iload 4, .iaload, .iadd, .if_icmp .ge 105, .aload 0, .getfield 5192, .iload 5, .iload 4, .iastore, .aload 0, .getfield 5182, .iload 5, .anewarray 101, .iload 4, .iaload, .ifCond .ne 97, .iconst (-1), .goto 98], 97), (97, [.iload 2], 98), (98, [.iastore, .iinc 5 1, .goto 56], 105), (105, [.iload 1, .anewarray 100, .iload 4, .iaload, .iadd, .istore 1, .iload 2, .anewarray 101, .iload 4, .iaload, .iadd, .istore 2, .iinc 3 1, .goto 11], 129), (129, [.return_], 130)]
theorem k_X5_goTheWay : chkB T_X5_goTheWay cX5_goTheWay B_X5_goTheWay = true := by decide +kernel
theorem cw_X5_goTheWay : calW Y_X5_goTheWay := ⟨pn_X5, Or.inl ⟨rfl, rfl⟩, w_754, w_9, mh_X5, by decide⟩
theorem cl_X5_goTheWay {o : OM} {Y : Pk} {d d2 idx : Nat} {C : Ctr} (hS : Sound o Y_X5_goTheWay d2 C) (hd : d2 + 1 ≤ d) (hl : Cond.methodLink (yN Y).cls idx yX5_goTheWay ∈ wsG ∨ ∃ host, Cond.methodLinkNest (yN Y).cls idx yX5_goTheWay host ∈ nestW) : CallOK o Y d (.invokevirtual idx) (1, rcv 5 6 C) := callV_ok hS hd cw_X5_goTheWay hl w_753 wp_39 (Or.inl ⟨TX5, 20, rfl⟩) (by decide +kernel)
def Y_X6_sharedAshAhead : Pk := (yX6_sharedAshAhead, cX6_sharedAshAhead, 5, some .int, 1)
def T_X6_sharedAshAhead : Tb := ([], [], [], [], [(58, 0)], [], 5)
def V_X6_sharedAshAhead : List (Nat × Nat) := [(0, 4), (5, 5), (24, 5), (30, 5)]
def B_X6_sharedAshAhead : Bk := [(0, [.iload 2, .iconst (1), .isub, .istore 4], 5), (5, [.iload 4, .ifCond .lt 30, .aload 0, .iload 1, .iload 4, .iload 3, .invokestatic 0, .ifCond .eq 24, .iload 4, .ireturn], 24), (24, [.iinc 4 (-1), .goto 5], 30), (30, [.iconst (-1), .ireturn], 32)]
theorem k_X6_sharedAshAhead : chkB T_X6_sharedAshAhead cX6_sharedAshAhead B_X6_sharedAshAhead = true := by decide +kernel
theorem cw_X6_sharedAshAhead : calW Y_X6_sharedAshAhead := ⟨pn_X6, Or.inr (Or.inl ⟨rfl, rfl⟩), w_1005, w_2, mh_X6, by decide⟩
theorem cl_X6_sharedAshAhead {o : OM} {Y : Pk} {d d2 idx : Nat} {C : Ctr} (hS : Sound o Y_X6_sharedAshAhead d2 C) (hd : d2 + 1 ≤ d) (hl : Cond.methodLink (yN Y).cls idx yX6_sharedAshAhead ∈ wsG ∨ ∃ host, Cond.methodLinkNest (yN Y).cls idx yX6_sharedAshAhead host ∈ nestW) : CallOK o Y d (.invokevirtual idx) (4, rcv 6 5 C) := callV_ok hS hd cw_X6_sharedAshAhead hl w_1004 wp_77 (Or.inl ⟨TX6, 6, rfl⟩) (by decide +kernel)
def Y_X6_sharedAshBehind : Pk := (yX6_sharedAshBehind, cX6_sharedAshBehind, 5, some .int, 1)
def T_X6_sharedAshBehind : Tb := ([(19, 6022)], [], [], [], [(58, 0)], [], 5)
def V_X6_sharedAshBehind : List (Nat × Nat) := [(0, 4), (5, 5), (30, 5), (36, 5)]
def B_X6_sharedAshBehind : Bk := [(0, [.iload 2, .iconst (1), .iadd, .istore 4], 5), (5, [.iload 4, .aload 0, .getfield 6022, .iload 1, .iaload, .if_icmp .ge 36, .aload 0, .iload 1, .iload 4, .iload 3, .invokestatic 0, .ifCond .eq 30, .iload 4, .ireturn], 30), (30, [.iinc 4 1, .goto 5], 36), (36, [.iconst (-1), .ireturn], 38)]
theorem k_X6_sharedAshBehind : chkB T_X6_sharedAshBehind cX6_sharedAshBehind B_X6_sharedAshBehind = true := by decide +kernel
theorem cw_X6_sharedAshBehind : calW Y_X6_sharedAshBehind := ⟨pn_X6, Or.inr (Or.inl ⟨rfl, rfl⟩), w_1019, w_2, mh_X6, by decide⟩
theorem cl_X6_sharedAshBehind {o : OM} {Y : Pk} {d d2 idx : Nat} {C : Ctr} (hS : Sound o Y_X6_sharedAshBehind d2 C) (hd : d2 + 1 ≤ d) (hl : Cond.methodLink (yN Y).cls idx yX6_sharedAshBehind ∈ wsG ∨ ∃ host, Cond.methodLinkNest (yN Y).cls idx yX6_sharedAshBehind host ∈ nestW) : CallOK o Y d (.invokevirtual idx) (4, rcv 6 5 C) := callV_ok hS hd cw_X6_sharedAshBehind hl w_1018 wp_80 (Or.inl ⟨TX6, 6, rfl⟩) (by decide +kernel)
def Y_X8_about : Pk := (yX8_about, cX8_about, 4, some .int, 1)
def T_X8_about : Tb := ([(10, 8002)], [], [], [], [(99, 0), (125, 1), (114, 2), (128, 3)], [], 4)
def V_X8_about : List (Nat × Nat) := [(0, 4), (14, 4), (26, 4), (41, 4)]
def B_X8_about : Bk := [(0, [.aload 0, .getfield 8002, .iload 1, .invokestatic 0, .ifCond .ne 14, .iconst (-101), .ireturn], 14), (14, [.iload 2, .iconst (-1), .if_icmp .ne 26, .aload 0, .iload 1, .iload 3, .invokestatic 1, .ireturn], 26), (26, [.aload 0, .getfield 8002, .iload 1, .iload 2, .invokestatic 2, .ifCond .ne 41, .iconst (-101), .ireturn], 41), (41, [.aload 0, .iload 1, .iload 2, .iload 3, .invokestatic 3, .ireturn], 49)]
theorem k_X8_about : chkB T_X8_about cX8_about B_X8_about = true := by decide +kernel
theorem cw_X8_about : calW Y_X8_about := ⟨pn_X8, Or.inr (Or.inl ⟨rfl, rfl⟩), w_398, w_1, mh_X8, by decide⟩
theorem cl_X8_about {o : OM} {Y : Pk} {d d2 idx : Nat} {C : Ctr} (hS : Sound o Y_X8_about d2 C) (hd : d2 + 1 ≤ d) (hl : Cond.methodLink (yN Y).cls idx yX8_about ∈ wsG ∨ ∃ host, Cond.methodLinkNest (yN Y).cls idx yX8_about host ∈ nestW) : CallOK o Y d (.invokevirtual idx) (4, rcv 8 4 C) := callV_ok hS hd cw_X8_about hl w_396 w_397 (Or.inl ⟨TX8, 13, rfl⟩) (by decide +kernel)
def Y_X8_slide : Pk := (yX8_slide, cX8_slide, 4, some .int, 1)
def T_X8_slide : Tb := ([(10, 8002), (59, 8082)], [(182, (-100001)), (186, (-100002))], [], [], [(99, 0), (195, 2)], [(88, 1)], 4)
def V_X8_slide : List (Nat × Nat) := [(0, 4), (22, 4), (25, 4), (38, 4)]
def B_X8_slide : Bk := [(0, [.aload 0, .getfield 8002, .iload 1, .invokestatic 0, .ifCond .eq 22, .aload 0, .getfield 8002, .iload 2, .invokestatic 0, .ifCond .ne 25], 22), (22, [.iconst (-100001), .ireturn], 25), (25, [.iload 3, .iconst (1), .iconst (16), .invokestatic 1, .ifCond .ne 38, .iconst (-100002), .ireturn], 38), (38, [.aload 0, .getfield 8082, .iload 1, .iload 2, .iload 3, .invokestatic 2, .ireturn], 49)]
theorem k_X8_slide : chkB T_X8_slide cX8_slide B_X8_slide = true := by decide +kernel
theorem cw_X8_slide : calW Y_X8_slide := ⟨pn_X8, Or.inr (Or.inl ⟨rfl, rfl⟩), w_658, w_1, mh_X8, by decide⟩
theorem cl_X8_slide {o : OM} {Y : Pk} {d d2 idx : Nat} {C : Ctr} (hS : Sound o Y_X8_slide d2 C) (hd : d2 + 1 ≤ d) (hl : Cond.methodLink (yN Y).cls idx yX8_slide ∈ wsG ∨ ∃ host, Cond.methodLinkNest (yN Y).cls idx yX8_slide host ∈ nestW) : CallOK o Y d (.invokevirtual idx) (4, rcv 8 4 C) := callV_ok hS hd cw_X8_slide hl w_656 w_657 (Or.inl ⟨TX8, 13, rfl⟩) (by decide +kernel)
def Y_X8_chance : Pk := (yX8_chance, cX8_chance, 5, some .int, 1)
def T_X8_chance : Tb := ([(10, 8002), (59, 8082), (106, 6022)], [], [], [], [(99, 0), (187, 3), (198, 4)], [(183, 1), (88, 2), (201, 5)], 5)
def V_X8_chance : List (Nat × Nat) := [(0, 5), (22, 5), (25, 5), (42, 5), (45, 5), (61, 5)]
def B_X8_chance : Bk := [(0, [.aload 0, .getfield 8002, .iload 1, .invokestatic 0, .ifCond .eq 22, .aload 0, .getfield 8002, .iload 2, .invokestatic 0, .ifCond .ne 25], 22), (22, [.iconst (-101), .ireturn], 25), (25, [.iload 3, .invokestatic 1, .ifCond .eq 42, .iload 4, .iconst (0), .iconst (1), .invokestatic 2, .ifCond .ne 45], 42), (42, [.iconst (-102), .ireturn], 45), (45, [.aload 0, .getfield 8082, .iload 1, .iload 2, .iload 3, .invokestatic 3, .ifCond .ne 61, .iconst (-103), .ireturn], 61), (61, [.aload 0, .getfield 8082, .iload 1, .iload 2, .iload 3, .invokestatic 4, .aload 0, .getfield 8002, .getfield 6022, .iload 2, .iaload, .iload 4, .invokestatic 5, .ireturn], 86)]
theorem k_X8_chance : chkB T_X8_chance cX8_chance B_X8_chance = true := by decide +kernel
theorem cw_X8_chance : calW Y_X8_chance := ⟨pn_X8, Or.inr (Or.inl ⟨rfl, rfl⟩), w_669, w_1, mh_X8, by decide⟩
theorem cl_X8_chance {o : OM} {Y : Pk} {d d2 idx : Nat} {C : Ctr} (hS : Sound o Y_X8_chance d2 C) (hd : d2 + 1 ≤ d) (hl : Cond.methodLink (yN Y).cls idx yX8_chance ∈ wsG ∨ ∃ host, Cond.methodLinkNest (yN Y).cls idx yX8_chance host ∈ nestW) : CallOK o Y d (.invokevirtual idx) (5, rcv 8 5 C) := callV_ok hS hd cw_X8_chance hl w_667 w_668 (Or.inl ⟨TX8, 13, rfl⟩) (by decide +kernel)
def Y_X8_calendars : Pk := (yX8_calendars, cX8_calendars, 2, some .int, 1)
def T_X8_calendars : Tb := ([(77, 8102)], [], [], [], [(281, 1), (284, 2), (287, 3)], [(88, 0)], 2)
def V_X8_calendars : List (Nat × Nat) := [(0, 2), (12, 2), (33, 2), (40, 2)]
def B_X8_calendars : Bk := [(0, [.iload 1, .iconst (0), .iconst (1), .invokestatic 0, .ifCond .ne 12, .iconst (-102), .ireturn], 12), (12, [.aload 0, .getfield 8102, .invokestatic 1, .iload 1, .ifCond .ne 33, .aload 0, .getfield 8102, .invokestatic 2, .goto 40], 33), (33, [.aload 0, .getfield 8102, .invokestatic 3], 40), (40, [.ireturn], 41)]
theorem k_X8_calendars : chkB T_X8_calendars cX8_calendars B_X8_calendars = true := by decide +kernel
theorem cw_X8_calendars : calW Y_X8_calendars := ⟨pn_X8, Or.inr (Or.inl ⟨rfl, rfl⟩), w_899, w_1, mh_X8, by decide⟩
theorem cl_X8_calendars {o : OM} {Y : Pk} {d d2 idx : Nat} {C : Ctr} (hS : Sound o Y_X8_calendars d2 C) (hd : d2 + 1 ≤ d) (hl : Cond.methodLink (yN Y).cls idx yX8_calendars ∈ wsG ∨ ∃ host, Cond.methodLinkNest (yN Y).cls idx yX8_calendars host ∈ nestW) : CallOK o Y d (.invokevirtual idx) (2, rcv 8 2 C) := callV_ok hS hd cw_X8_calendars hl w_897 w_898 (Or.inl ⟨TX8, 13, rfl⟩) (by decide +kernel)
def Y_X9_layKept : Pk := (yX9_layKept, cX9_layKept, 1, some .boolean, 2)
def T_X9_layKept : Tb := ([], [], [], [], [(345, 0), (349, 1)], [], 1)
def V_X9_layKept : List (Nat × Nat) := [(0, 1)]
def B_X9_layKept : Bk := [(0, [.aload 0, .aload 0, .invokestatic 0, .invokestatic 1, .ireturn], 9)]
theorem k_X9_layKept : chkB T_X9_layKept cX9_layKept B_X9_layKept = true := by decide +kernel
theorem cw_X9_layKept : calW Y_X9_layKept := ⟨pn_X9, Or.inr (Or.inr (Or.inl ⟨rfl, rfl⟩)), w_1520, w_11, mh_X9, by decide⟩
theorem cl_X9_layKept {o : OM} {Y : Pk} {d d2 idx : Nat} {C : Ctr} (hS : Sound o Y_X9_layKept d2 C) (hd : d2 + 1 ≤ d) (hl : Cond.methodLink (yN Y).cls idx yX9_layKept ∈ wsG ∨ ∃ host, Cond.methodLinkNest (yN Y).cls idx yX9_layKept host ∈ nestW) : CallOK o Y d (.invokevirtual idx) (1, rcv 9 1 C) := callV_ok hS hd cw_X9_layKept hl w_1519 wp_111 (Or.inl ⟨TX9, 55, rfl⟩) (by decide +kernel)
def Y_X9_castOut : Pk := (yX9_castOut, cX9_castOut, 6, some .int, 1)
def T_X9_castOut : Tb := ([(325, 9320)], [], [], [], [(345, 0), (362, 1), (365, 2), (349, 3)], [], 6)
def V_X9_castOut : List (Nat × Nat) := [(0, 1), (9, 4), (36, 4), (47, 4), (72, 5), (76, 5), (77, 5), (100, 6), (101, 6), (102, 4), (108, 4)]
def B_X9_castOut : Bk := [(0, [.aload 0, .invokestatic 0, .istore 1, .iconst (-1), .istore 2, .iconst (0), .istore 3], 9), (9, [.iload 3, .iconst (1), .aload 0, .getfield 9320, .ishl, .if_icmp .ge 108, .iload 3, .iload 1, .iconst (-1), .ixor, .iand, .ifCond .ne 102, .iload 2, .iconst (-1), .if_icmp .ne 36, .iconst (-1), .goto 47], 36), (36, [.aload 0, .iload 3, .invokestatic 1, .aload 0, .iload 2, .invokestatic 1, .isub], 47), (47, [.istore 4, .iload 4, .ifCond .lt 72, .iload 4, .ifCond .ne 76, .aload 0, .iload 3, .invokestatic 2, .aload 0, .iload 2, .invokestatic 2, .if_icmp .le 76], 72), (72, [.iconst (1), .goto 77], 76), (76, [.iconst (0)], 77), (77, [.istore 5, .iload 5, .ifCond .eq 100, .aload 0, .iload 1, .iload 3, .iconst (-1), .ixor, .iand, .invokestatic 3, .ifCond .eq 100, .iload 3, .goto 101], 100), (100, [.iload 2], 101), (101, [.istore 2], 102), (102, [.iinc 3 1, .goto 9], 108), (108, [.iload 2, .ireturn], 110)]
theorem k_X9_castOut : chkB T_X9_castOut cX9_castOut B_X9_castOut = true := by decide +kernel
theorem cw_X9_castOut : calW Y_X9_castOut := ⟨pn_X9, Or.inr (Or.inl ⟨rfl, rfl⟩), w_1567, w_11, mh_X9, by decide⟩
theorem cl_X9_castOut {o : OM} {Y : Pk} {d d2 idx : Nat} {C : Ctr} (hS : Sound o Y_X9_castOut d2 C) (hd : d2 + 1 ≤ d) (hl : Cond.methodLink (yN Y).cls idx yX9_castOut ∈ wsG ∨ ∃ host, Cond.methodLinkNest (yN Y).cls idx yX9_castOut host ∈ nestW) : CallOK o Y d (.invokevirtual idx) (1, rcv 9 6 C) := callV_ok hS hd cw_X9_castOut hl w_1565 w_1566 (Or.inl ⟨TX9, 55, rfl⟩) (by decide +kernel)
def Y_X9_took : Pk := (yX9_took, cX9_took, 8, some .int, 1)
def T_X9_took : Tb := ([(16, 9032), (109, 9000)], [], [], [], [(136, 0), (379, 2)], [(250, 1)], 8)
def V_X9_took : List (Nat × Nat) := [(0, 4), (12, 4), (22, 4), (40, 4), (46, 6), (65, 6), (73, 6), (101, 7), (108, 7), (112, 7), (113, 7), (125, 8), (127, 8), (135, 6)]
def B_X9_took : Bk := [(0, [.aload 0, .iload 1, .iload 2, .invokestatic 0, .ifCond .ne 12, .iconst (-101), .ireturn], 12), (12, [.iload 3, .invokestatic 1, .ifCond .ne 22, .iconst (-102), .ireturn], 22), (22, [.aload 0, .getfield 9032, .iconst (16), .iload 1, .imul, .iload 2, .iadd, .iaload, .iconst (4), .if_icmp .eq 40, .iconst (-103), .ireturn], 40), (40, [.iconst (-1), .istore 4, .iconst (0), .istore 5], 46), (46, [.iload 5, .aload 0, .getfield 9000, .if_icmp .ge 135, .iload 5, .iload 1, .if_icmp .ne 65, .iconst (-1), .goto 73], 65), (65, [.aload 0, .iload 1, .iload 2, .iload 5, .invokestatic 2], 73), (73, [.istore 6, .iload 6, .iconst (-1), .if_icmp .eq 112, .iload 4, .iconst (-1), .if_icmp .eq 108, .iload 3, .ifCond .ne 101, .iload 6, .iload 4, .if_icmp .ge 112, .goto 108], 101), (101, [.iload 6, .iload 4, .if_icmp .le 112], 108), (108, [.iconst (1), .goto 113], 112), (112, [.iconst (0)], 113), (113, [.istore 7, .iload 7, .ifCond .eq 125, .iload 6, .goto 127], 125), (125, [.iload 4], 127), (127, [.istore 4, .iinc 5 1, .goto 46], 135), (135, [.iload 4, .ireturn], 138)]
theorem k_X9_took : chkB T_X9_took cX9_took B_X9_took = true := by decide +kernel
theorem cw_X9_took : calW Y_X9_took := ⟨pn_X9, Or.inr (Or.inl ⟨rfl, rfl⟩), w_1596, w_11, mh_X9, by decide⟩
theorem cl_X9_took {o : OM} {Y : Pk} {d d2 idx : Nat} {C : Ctr} (hS : Sound o Y_X9_took d2 C) (hd : d2 + 1 ≤ d) (hl : Cond.methodLink (yN Y).cls idx yX9_took ∈ wsG ∨ ∃ host, Cond.methodLinkNest (yN Y).cls idx yX9_took host ∈ nestW) : CallOK o Y d (.invokevirtual idx) (4, rcv 9 8 C) := callV_ok hS hd cw_X9_took hl w_1594 w_1595 (Or.inl ⟨TX9, 55, rfl⟩) (by decide +kernel)
def Y_X3_joinsThatHold : Pk := (yX3_joinsThatHold, cX3_joinsThatHold, 5, some .int, 1)
def T_X3_joinsThatHold : Tb := ([(59, 3022), (111, 0)], [], [], [], [(114, 0), (190, 1)], [], 5)
def V_X3_joinsThatHold : List (Nat × Nat) := [(0, 3), (5, 5), (47, 5), (53, 5)]
def B_X3_joinsThatHold : Bk := [(0, [.iconst (0), .istore 3, .iconst (0), .istore 4], 5), (5, [.iload 4, .aload 0, .getfield 3022, .getfield 0, .if_icmp .ge 53, .aload 0, .getfield 3022, .iload 4, .invokestatic 0, .ifCond .eq 47, .aload 0, .iload 4, .iload 1, .iload 2, .invokestatic 1, .ifCond .eq 47, .iload 3, .iconst (1), .iload 4, .ishl, .ior, .istore 3], 47), (47, [.iinc 4 1, .goto 5], 53), (53, [.iload 3, .ireturn], 55)]
theorem k_X3_joinsThatHold : chkB T_X3_joinsThatHold cX3_joinsThatHold B_X3_joinsThatHold = true := by decide +kernel
theorem cw_X3_joinsThatHold : calW Y_X3_joinsThatHold := ⟨pn_X3, Or.inr (Or.inl ⟨rfl, rfl⟩), w_953, w_10, mh_X3, by decide⟩
theorem cl_X3_joinsThatHold {o : OM} {Y : Pk} {d d2 idx : Nat} {C : Ctr} (hS : Sound o Y_X3_joinsThatHold d2 C) (hd : d2 + 1 ≤ d) (hl : Cond.methodLink (yN Y).cls idx yX3_joinsThatHold ∈ wsG ∨ ∃ host, Cond.methodLinkNest (yN Y).cls idx yX3_joinsThatHold host ∈ nestW) : CallOK o Y d (.invokevirtual idx) (3, rcv 3 5 C) := callV_ok hS hd cw_X3_joinsThatHold hl w_952 wp_69 (Or.inl ⟨TX3, 15, rfl⟩) (by decide +kernel)
def Y_X5_setTogether : Pk := (yX5_setTogether, cX5_setTogether, 4, none, 0)
def T_X5_setTogether : Tb := ([(67, 5002), (75, 6022), (24, 5060), (28, 5070), (9, 5022), (18, 5042), (15, 5032), (21, 5052), (71, 5012), (31, 5080), (34, 5090), (37, 5100), (40, 5110), (43, 5120), (46, 5130)], [], [], [], [(80, 0), (84, 1), (90, 2)], [], 4)
def V_X5_setTogether : List (Nat × Nat) := [(0, 4)]
def B_X5_setTogether : Bk := [(0, [.aload 0, .aload 0, .getfield 5002, .getfield 6022, .iload 2, .iaload, .putfield 5060, .aload 0, .aload 0, .getfield 5002, .getfield 6022, .iload 3, .iaload, .putfield 5070, .aload 0, .iload 2, .aload 0, .getfield 5022, .aload 0, .getfield 5042, .invokestatic 0, .aload 0, .iload 3, .aload 0, .getfield 5032, .aload 0, .getfield 5052, .invokestatic 0, .aload 0, .aload 0, .getfield 5012, .iload 1, .iconst (0), .invokestatic 1, .putfield 5080, .aload 0, .aload 0, .getfield 5012, .iload 1, .iconst (1), .invokestatic 1, .putfield 5090, .aload 0, .aload 0, .getfield 5012, .iload 1, .iconst (2), .invokestatic 1, .putfield 5100, .aload 0, .aload 0, .getfield 5012, .iload 1, .iconst (3), .invokestatic 1, .putfield 5110, .aload 0, .iconst (-1), .putfield 5120, .aload 0, .iconst (-1), .putfield 5130, .aload 0, .invokestatic 2, .return_], 119)]
theorem k_X5_setTogether : chkB T_X5_setTogether cX5_setTogether B_X5_setTogether = true := by decide +kernel
theorem cw_X5_setTogether : calW Y_X5_setTogether := ⟨pn_X5, Or.inl ⟨rfl, rfl⟩, w_688, w_9, mh_X5, by decide⟩
theorem cl_X5_setTogether {o : OM} {Y : Pk} {d d2 idx : Nat} {C : Ctr} (hS : Sound o Y_X5_setTogether d2 C) (hd : d2 + 1 ≤ d) (hl : Cond.methodLink (yN Y).cls idx yX5_setTogether ∈ wsG ∨ ∃ host, Cond.methodLinkNest (yN Y).cls idx yX5_setTogether host ∈ nestW) : CallOK o Y d (.invokevirtual idx) (4, rcv 5 4 C) := callV_ok hS hd cw_X5_setTogether hl w_687 wp_27 (Or.inl ⟨TX5, 20, rfl⟩) (by decide +kernel)
def Y_X5_leastWithout : Pk := (yX5_leastWithout, cX5_leastWithout, 3, some .int, 1)
def T_X5_leastWithout : Tb := ([(43, 5120), (46, 5130), (49, 5142)], [], [], [], [(90, 0)], [], 3)
def V_X5_leastWithout : List (Nat × Nat) := [(0, 3)]
def B_X5_leastWithout : Bk := [(0, [.aload 0, .iload 1, .putfield 5120, .aload 0, .iload 2, .putfield 5130, .aload 0, .invokestatic 0, .aload 0, .getfield 5142, .iconst (0), .iaload, .ireturn], 21)]
theorem k_X5_leastWithout : chkB T_X5_leastWithout cX5_leastWithout B_X5_leastWithout = true := by decide +kernel
theorem cw_X5_leastWithout : calW Y_X5_leastWithout := ⟨pn_X5, Or.inr (Or.inl ⟨rfl, rfl⟩), w_775, w_9, mh_X5, by decide⟩
theorem cl_X5_leastWithout {o : OM} {Y : Pk} {d d2 idx : Nat} {C : Ctr} (hS : Sound o Y_X5_leastWithout d2 C) (hd : d2 + 1 ≤ d) (hl : Cond.methodLink (yN Y).cls idx yX5_leastWithout ∈ wsG ∨ ∃ host, Cond.methodLinkNest (yN Y).cls idx yX5_leastWithout host ∈ nestW) : CallOK o Y d (.invokevirtual idx) (3, rcv 5 3 C) := callV_ok hS hd cw_X5_leastWithout hl w_774 wp_42 (Or.inl ⟨TX5, 20, rfl⟩) (by decide +kernel)
def Y_X8_closes : Pk := (yX8_closes, cX8_closes, 1, some .int, 1)
def T_X8_closes : Tb := ([(77, 8102)], [], [], [], [(267, 0)], [(247, 1)], 1)
def V_X8_closes : List (Nat × Nat) := [(0, 1)]
def B_X8_closes : Bk := [(0, [.aload 0, .getfield 8102, .invokestatic 0, .invokestatic 1, .ireturn], 11)]
theorem k_X8_closes : chkB T_X8_closes cX8_closes B_X8_closes = true := by decide +kernel
theorem cw_X8_closes : calW Y_X8_closes := ⟨pn_X8, Or.inr (Or.inl ⟨rfl, rfl⟩), w_828, w_1, mh_X8, by decide⟩
theorem cl_X8_closes {o : OM} {Y : Pk} {d d2 idx : Nat} {C : Ctr} (hS : Sound o Y_X8_closes d2 C) (hd : d2 + 1 ≤ d) (hl : Cond.methodLink (yN Y).cls idx yX8_closes ∈ wsG ∨ ∃ host, Cond.methodLinkNest (yN Y).cls idx yX8_closes host ∈ nestW) : CallOK o Y d (.invokevirtual idx) (1, rcv 8 1 C) := callV_ok hS hd cw_X8_closes hl w_826 w_827 (Or.inl ⟨TX8, 13, rfl⟩) (by decide +kernel)
def Y_X8_span : Pk := (yX8_span, cX8_span, 4, some .int, 1)
def T_X8_span : Tb := ([(10, 8002), (77, 8102)], [(182, (-100001)), (186, (-100002)), (271, (-100003))], [], [], [(99, 0), (267, 2), (272, 3)], [(88, 1)], 4)
def V_X8_span : List (Nat × Nat) := [(0, 4), (22, 4), (25, 4), (37, 4), (51, 4)]
def B_X8_span : Bk := [(0, [.aload 0, .getfield 8002, .iload 1, .invokestatic 0, .ifCond .eq 22, .aload 0, .getfield 8002, .iload 2, .invokestatic 0, .ifCond .ne 25], 22), (22, [.iconst (-100001), .ireturn], 25), (25, [.iload 3, .iconst (0), .iconst (1), .invokestatic 1, .ifCond .ne 37, .iconst (-100002), .ireturn], 37), (37, [.aload 0, .getfield 8102, .invokestatic 2, .ifCond .ne 51, .iconst (-100003), .ireturn], 51), (51, [.aload 0, .iload 1, .iload 2, .iload 3, .invokestatic 3, .ireturn], 59)]
theorem k_X8_span : chkB T_X8_span cX8_span B_X8_span = true := by decide +kernel
theorem cw_X8_span : calW Y_X8_span := ⟨pn_X8, Or.inr (Or.inl ⟨rfl, rfl⟩), w_878, w_1, mh_X8, by decide⟩
theorem cl_X8_span {o : OM} {Y : Pk} {d d2 idx : Nat} {C : Ctr} (hS : Sound o Y_X8_span d2 C) (hd : d2 + 1 ≤ d) (hl : Cond.methodLink (yN Y).cls idx yX8_span ∈ wsG ∨ ∃ host, Cond.methodLinkNest (yN Y).cls idx yX8_span host ∈ nestW) : CallOK o Y d (.invokevirtual idx) (4, rcv 8 4 C) := callV_ok hS hd cw_X8_span hl w_876 w_877 (Or.inl ⟨TX8, 13, rfl⟩) (by decide +kernel)
def Y_X8_date : Pk := (yX8_date, cX8_date, 4, some .int, 1)
def T_X8_date : Tb := ([(10, 8002), (77, 8102), (45, 8062)], [(182, (-100001)), (186, (-100002)), (271, (-100003)), (190, (-100004))], [], [], [(114, 0), (267, 2), (275, 3), (278, 4), (176, 5)], [(88, 1)], 4)
def V_X8_date : List (Nat × Nat) := [(0, 4), (15, 4), (27, 4), (41, 4), (57, 4)]
def B_X8_date : Bk := [(0, [.aload 0, .getfield 8002, .iload 1, .iload 2, .invokestatic 0, .ifCond .ne 15, .iconst (-100001), .ireturn], 15), (15, [.iload 3, .iconst (0), .iconst (1), .invokestatic 1, .ifCond .ne 27, .iconst (-100002), .ireturn], 27), (27, [.aload 0, .getfield 8102, .invokestatic 2, .ifCond .ne 41, .iconst (-100003), .ireturn], 41), (41, [.aload 0, .getfield 8102, .iconst (7), .iload 1, .invokestatic 3, .ifCond .eq 57, .iconst (-100004), .ireturn], 57), (57, [.aload 0, .getfield 8102, .iconst (7), .iload 1, .iload 3, .invokestatic 4, .aload 0, .getfield 8062, .iconst (-1), .iload 1, .iload 2, .invokestatic 5, .iadd, .ireturn], 80)]
theorem k_X8_date : chkB T_X8_date cX8_date B_X8_date = true := by decide +kernel
theorem cw_X8_date : calW Y_X8_date := ⟨pn_X8, Or.inr (Or.inl ⟨rfl, rfl⟩), w_895, w_1, mh_X8, by decide⟩
theorem cl_X8_date {o : OM} {Y : Pk} {d d2 idx : Nat} {C : Ctr} (hS : Sound o Y_X8_date d2 C) (hd : d2 + 1 ≤ d) (hl : Cond.methodLink (yN Y).cls idx yX8_date ∈ wsG ∨ ∃ host, Cond.methodLinkNest (yN Y).cls idx yX8_date host ∈ nestW) : CallOK o Y d (.invokevirtual idx) (4, rcv 8 4 C) := callV_ok hS hd cw_X8_date hl w_893 w_894 (Or.inl ⟨TX8, 13, rfl⟩) (by decide +kernel)
def Y_X8_castOut : Pk := (yX8_castOut, cX8_castOut, 1, some .int, 1)
def T_X8_castOut : Tb := ([(77, 8102)], [], [], [], [(290, 0)], [], 1)
def V_X8_castOut : List (Nat × Nat) := [(0, 1)]
def B_X8_castOut : Bk := [(0, [.aload 0, .getfield 8102, .invokestatic 0, .ireturn], 8)]
theorem k_X8_castOut : chkB T_X8_castOut cX8_castOut B_X8_castOut = true := by decide +kernel
theorem cw_X8_castOut : calW Y_X8_castOut := ⟨pn_X8, Or.inr (Or.inl ⟨rfl, rfl⟩), w_929, w_1, mh_X8, by decide⟩
theorem cl_X8_castOut {o : OM} {Y : Pk} {d d2 idx : Nat} {C : Ctr} (hS : Sound o Y_X8_castOut d2 C) (hd : d2 + 1 ≤ d) (hl : Cond.methodLink (yN Y).cls idx yX8_castOut ∈ wsG ∨ ∃ host, Cond.methodLinkNest (yN Y).cls idx yX8_castOut host ∈ nestW) : CallOK o Y d (.invokevirtual idx) (1, rcv 8 1 C) := callV_ok hS hd cw_X8_castOut hl w_927 w_928 (Or.inl ⟨TX8, 13, rfl⟩) (by decide +kernel)
def Y_X8_dig : Pk := (yX8_dig, cX8_dig, 2, some .int, 1)
def T_X8_dig : Tb := ([(85, 8120), (77, 8102), (299, 3120), (302, 3130), (305, 3140)], [], [], [], [(267, 1), (296, 2)], [(88, 0)], 2)
def V_X8_dig : List (Nat × Nat) := [(0, 2), (12, 2), (31, 2), (34, 2), (63, 2), (78, 2), (85, 2)]
def B_X8_dig : Bk := [(0, [.iload 1, .iconst (0), .iconst (2), .invokestatic 0, .ifCond .ne 12, .iconst (-102), .ireturn], 12), (12, [.aload 0, .getfield 8120, .iconst (8), .if_icmp .ge 31, .aload 0, .getfield 8102, .invokestatic 1, .ifCond .ne 34], 31), (31, [.iconst (-103), .ireturn], 34), (34, [.aload 0, .dup, .getfield 8120, .iconst (1), .iadd, .putfield 8120, .aload 0, .getfield 8102, .invokestatic 2, .iload 1, .ifCond .ne 63, .aload 0, .getfield 8102, .getfield 3120, .ireturn], 63), (63, [.iload 1, .iconst (1), .if_icmp .ne 78, .aload 0, .getfield 8102, .getfield 3130, .goto 85], 78), (78, [.aload 0, .getfield 8102, .getfield 3140], 85), (85, [.ireturn], 86)]
theorem k_X8_dig : chkB T_X8_dig cX8_dig B_X8_dig = true := by decide +kernel
theorem cw_X8_dig : calW Y_X8_dig := ⟨pn_X8, Or.inr (Or.inl ⟨rfl, rfl⟩), w_961, w_1, mh_X8, by decide⟩
theorem cl_X8_dig {o : OM} {Y : Pk} {d d2 idx : Nat} {C : Ctr} (hS : Sound o Y_X8_dig d2 C) (hd : d2 + 1 ≤ d) (hl : Cond.methodLink (yN Y).cls idx yX8_dig ∈ wsG ∨ ∃ host, Cond.methodLinkNest (yN Y).cls idx yX8_dig host ∈ nestW) : CallOK o Y d (.invokevirtual idx) (2, rcv 8 2 C) := callV_ok hS hd cw_X8_dig hl w_959 w_960 (Or.inl ⟨TX8, 13, rfl⟩) (by decide +kernel)
def Y_X8_pace : Pk := (yX8_pace, cX8_pace, 10, some .int, 1)
def T_X8_pace : Tb := ([(10, 8002), (308, 6012), (77, 8102)], [], [], [], [(99, 0), (267, 3), (275, 4), (278, 5)], [(88, 1), (311, 2), (316, 6), (319, 7), (201, 8)], 10)
def V_X8_pace : List (Nat × Nat) := [(0, 5), (22, 5), (25, 5), (44, 5), (47, 5), (98, 6), (101, 6), (138, 8), (179, 10), (181, 10)]
def B_X8_pace : Bk := [(0, [.aload 0, .getfield 8002, .iload 1, .invokestatic 0, .ifCond .eq 22, .aload 0, .getfield 8002, .iload 2, .invokestatic 0, .ifCond .ne 25], 22), (22, [.iconst (-101), .ireturn], 25), (25, [.iload 3, .iconst (0), .iconst (1), .invokestatic 1, .ifCond .eq 44, .iload 4, .iconst (0), .iconst (1), .invokestatic 1, .ifCond .ne 47], 44), (44, [.iconst (-102), .ireturn], 47), (47, [.aload 0, .getfield 8002, .getfield 6012, .iload 1, .iaload, .aload 0, .getfield 8002, .getfield 6012, .iload 2, .iaload, .isub, .invokestatic 2, .istore 5, .iload 5, .ifCond .eq 98, .aload 0, .getfield 8102, .invokestatic 3, .ifCond .eq 98, .aload 0, .getfield 8102, .iload 1, .iload 2, .invokestatic 4, .ifCond .eq 101], 98), (98, [.iconst (-103), .ireturn], 101), (101, [.aload 0, .getfield 8102, .iload 1, .iload 2, .iconst (0), .invokestatic 5, .istore 6, .aload 0, .getfield 8102, .iload 1, .iload 2, .iconst (1), .invokestatic 5, .istore 7, .iload 6, .ifCond .gt 138, .iload 7, .ifCond .lt 138, .iconst (-103), .ireturn], 138), (138, [.iload 6, .invokestatic 2, .iload 7, .invokestatic 2, .invokestatic 6, .istore 8, .iload 6, .invokestatic 2, .iload 7, .invokestatic 2, .invokestatic 7, .istore 9, .iload 5, .iload 3, .ifCond .ne 179, .iload 8, .goto 181], 179), (179, [.iload 9], 181), (181, [.iload 4, .invokestatic 8, .ireturn], 187)]
theorem k_X8_pace : chkB T_X8_pace cX8_pace B_X8_pace = true := by decide +kernel
theorem cw_X8_pace : calW Y_X8_pace := ⟨pn_X8, Or.inr (Or.inl ⟨rfl, rfl⟩), w_990, w_1, mh_X8, by decide⟩
theorem cl_X8_pace {o : OM} {Y : Pk} {d d2 idx : Nat} {C : Ctr} (hS : Sound o Y_X8_pace d2 C) (hd : d2 + 1 ≤ d) (hl : Cond.methodLink (yN Y).cls idx yX8_pace ∈ wsG ∨ ∃ host, Cond.methodLinkNest (yN Y).cls idx yX8_pace host ∈ nestW) : CallOK o Y d (.invokevirtual idx) (5, rcv 8 10 C) := callV_ok hS hd cw_X8_pace hl w_988 w_989 (Or.inl ⟨TX8, 13, rfl⟩) (by decide +kernel)
def Y_X8_tookBy : Pk := (yX8_tookBy, cX8_tookBy, 10, some .int, 1)
def T_X8_tookBy : Tb := ([(10, 8002), (45, 8062)], [], [], [], [(386, 0), (389, 1), (380, 2), (392, 3), (395, 4), (176, 5)], [(316, 6)], 10)
def V_X8_tookBy : List (Nat × Nat) := [(0, 4), (36, 6), (38, 6), (106, 8), (108, 8)]
def B_X8_tookBy : Bk := [(0, [.aload 0, .getfield 8002, .iload 1, .iload 2, .iload 3, .invokestatic 0, .istore 4, .aload 0, .getfield 8002, .iload 1, .iload 2, .iload 3, .invokestatic 1, .istore 5, .iload 4, .iconst (-1), .if_icmp .eq 36, .iload 5, .iconst (-1), .if_icmp .ne 38], 36), (36, [.iconst (-1), .ireturn], 38), (38, [.aload 0, .getfield 8002, .iload 3, .aload 0, .getfield 8002, .iload 1, .iload 4, .invokestatic 2, .invokestatic 3, .istore 6, .aload 0, .getfield 8002, .iload 3, .aload 0, .getfield 8002, .iload 1, .iload 5, .invokestatic 2, .invokestatic 3, .istore 7, .iload 6, .iconst (-1), .if_icmp .eq 106, .iload 7, .iload 6, .if_icmp .le 106, .aload 0, .getfield 8002, .iload 3, .iload 6, .iload 7, .invokestatic 4, .ifCond .eq 108], 106), (106, [.iconst (-1), .ireturn], 108), (108, [.aload 0, .getfield 8062, .iconst (-1), .iload 3, .iload 7, .invokestatic 5, .aload 0, .getfield 8062, .iconst (-1), .iload 3, .iload 6, .invokestatic 5, .isub, .istore 8, .aload 0, .getfield 8062, .iconst (-1), .iload 1, .iload 5, .invokestatic 5, .aload 0, .getfield 8062, .iconst (-1), .iload 1, .iload 4, .invokestatic 5, .isub, .istore 9, .iconst (0), .iload 8, .iload 9, .aload 0, .getfield 8002, .iload 1, .iload 2, .invokestatic 2, .isub, .isub, .invokestatic 6, .ireturn], 178)]
theorem k_X8_tookBy : chkB T_X8_tookBy cX8_tookBy B_X8_tookBy = true := by decide +kernel
theorem cw_X8_tookBy : calW Y_X8_tookBy := ⟨pn_X8, Or.inr (Or.inl ⟨rfl, rfl⟩), w_1001, w_1, mh_X8, by decide⟩
theorem cl_X8_tookBy {o : OM} {Y : Pk} {d d2 idx : Nat} {C : Ctr} (hS : Sound o Y_X8_tookBy d2 C) (hd : d2 + 1 ≤ d) (hl : Cond.methodLink (yN Y).cls idx yX8_tookBy ∈ wsG ∨ ∃ host, Cond.methodLinkNest (yN Y).cls idx yX8_tookBy host ∈ nestW) : CallOK o Y d (.invokevirtual idx) (4, rcv 8 10 C) := callV_ok hS hd cw_X8_tookBy hl w_1000 wp_76 (Or.inl ⟨TX8, 13, rfl⟩) (by decide +kernel)
def Y_X8_foldNet : Pk := (yX8_foldNet, cX8_foldNet, 6, some .long, 3)
def T_X8_foldNet : Tb := ([(77, 8102), (19, 8012), (264, 103), (10, 8002), (92, 6000)], [], [], [], [(267, 0), (272, 3), (281, 4), (284, 5)], [(247, 1), (363, 2)], 6)
def V_X8_foldNet : List (Nat × Nat) := [(0, 3), (37, 5), (59, 6), (107, 6), (113, 5)]
def B_X8_foldNet : Bk := [(0, [.aload 0, .getfield 8102, .invokestatic 0, .istore 3, .lload 1, .aload 0, .getfield 8012, .getfield 103, .invokestatic 1, .i2l, .invokestatic 2, .lstore 1, .lload 1, .iload 3, .invokestatic 1, .i2l, .invokestatic 2, .lstore 1, .iconst (0), .istore 4], 37), (37, [.iload 3, .ifCond .eq 113, .iload 4, .aload 0, .getfield 8002, .getfield 6000, .if_icmp .ge 113, .iload 4, .iconst (1), .iadd, .istore 5], 59), (59, [.iload 5, .aload 0, .getfield 8002, .getfield 6000, .if_icmp .ge 107, .lload 1, .aload 0, .iload 4, .iload 5, .iconst (0), .invokestatic 3, .i2l, .invokestatic 2, .lstore 1, .lload 1, .aload 0, .iload 4, .iload 5, .iconst (1), .invokestatic 3, .i2l, .invokestatic 2, .lstore 1, .iinc 5 1, .goto 59], 107), (107, [.iinc 4 1, .goto 37], 113), (113, [.aload 0, .getfield 8102, .invokestatic 4, .lload 1, .aload 0, .getfield 8102, .invokestatic 5, .i2l, .invokestatic 2, .lreturn], 133)]
theorem k_X8_foldNet : chkB T_X8_foldNet cX8_foldNet B_X8_foldNet = true := by decide +kernel
theorem cw_X8_foldNet : calW Y_X8_foldNet := ⟨pn_X8, Or.inr (Or.inr (Or.inr (Or.inl ⟨rfl, rfl⟩))), w_1080, w_1, mh_X8, by decide⟩
theorem cl_X8_foldNet {o : OM} {Y : Pk} {d d2 idx : Nat} {C : Ctr} (hS : Sound o Y_X8_foldNet d2 C) (hd : d2 + 1 ≤ d) (hl : Cond.methodLink (yN Y).cls idx yX8_foldNet ∈ wsG ∨ ∃ host, Cond.methodLinkNest (yN Y).cls idx yX8_foldNet host ∈ nestW) : CallOK o Y d (.invokevirtual idx) (2, rcv 8 6 C) := callV_ok hS hd cw_X8_foldNet hl w_1079 wp_88 (Or.inl ⟨TX8, 13, rfl⟩) (by decide +kernel)
def Y_X9_closes : Pk := (yX9_closes, cX9_closes, 1, some .int, 1)
def T_X9_closes : Tb := ([], [], [], [], [(352, 0)], [], 1)
def V_X9_closes : List (Nat × Nat) := [(0, 1), (11, 1), (12, 1)]
def B_X9_closes : Bk := [(0, [.aload 0, .invokestatic 0, .ifCond .eq 11, .iconst (1), .goto 12], 11), (11, [.iconst (0)], 12), (12, [.ireturn], 13)]
theorem k_X9_closes : chkB T_X9_closes cX9_closes B_X9_closes = true := by decide +kernel
theorem cw_X9_closes : calW Y_X9_closes := ⟨pn_X9, Or.inr (Or.inl ⟨rfl, rfl⟩), w_1516, w_11, mh_X9, by decide⟩
theorem cl_X9_closes {o : OM} {Y : Pk} {d d2 idx : Nat} {C : Ctr} (hS : Sound o Y_X9_closes d2 C) (hd : d2 + 1 ≤ d) (hl : Cond.methodLink (yN Y).cls idx yX9_closes ∈ wsG ∨ ∃ host, Cond.methodLinkNest (yN Y).cls idx yX9_closes host ∈ nestW) : CallOK o Y d (.invokevirtual idx) (1, rcv 9 1 C) := callV_ok hS hd cw_X9_closes hl w_1514 w_1515 (Or.inl ⟨TX9, 55, rfl⟩) (by decide +kernel)
def Y_X9_span : Pk := (yX9_span, cX9_span, 4, some .int, 1)
def T_X9_span : Tb := ([(80, 9432)], [(225, (-100001)), (236, (-100002)), (355, (-100003)), (240, (-100004))], [], [], [(116, 0), (352, 2), (356, 3)], [(250, 1)], 4)
def V_X9_span : List (Nat × Nat) := [(0, 4), (16, 4), (19, 4), (29, 4), (40, 4), (54, 4), (73, 4), (84, 4)]
def B_X9_span : Bk := [(0, [.aload 0, .iload 1, .invokestatic 0, .ifCond .eq 16, .aload 0, .iload 2, .invokestatic 0, .ifCond .ne 19], 16), (16, [.iconst (-100001), .ireturn], 19), (19, [.iload 3, .invokestatic 1, .ifCond .ne 29, .iconst (-100002), .ireturn], 29), (29, [.aload 0, .invokestatic 2, .ifCond .ne 40, .iconst (-100003), .ireturn], 40), (40, [.aload 0, .iload 1, .iload 2, .invokestatic 3, .ifCond .eq 54, .iconst (-100004), .goto 84], 54), (54, [.iload 3, .ifCond .ne 73, .aload 0, .getfield 9432, .iconst (8), .iload 2, .imul, .iload 1, .iadd, .iaload, .ineg, .goto 84], 73), (73, [.aload 0, .getfield 9432, .iconst (8), .iload 1, .imul, .iload 2, .iadd, .iaload], 84), (84, [.ireturn], 85)]
theorem k_X9_span : chkB T_X9_span cX9_span B_X9_span = true := by decide +kernel
theorem cw_X9_span : calW Y_X9_span := ⟨pn_X9, Or.inr (Or.inl ⟨rfl, rfl⟩), w_1546, w_11, mh_X9, by decide⟩
theorem cl_X9_span {o : OM} {Y : Pk} {d d2 idx : Nat} {C : Ctr} (hS : Sound o Y_X9_span d2 C) (hd : d2 + 1 ≤ d) (hl : Cond.methodLink (yN Y).cls idx yX9_span ∈ wsG ∨ ∃ host, Cond.methodLinkNest (yN Y).cls idx yX9_span host ∈ nestW) : CallOK o Y d (.invokevirtual idx) (4, rcv 9 4 C) := callV_ok hS hd cw_X9_span hl w_1544 w_1545 (Or.inl ⟨TX9, 55, rfl⟩) (by decide +kernel)
def Y_X9_date : Pk := (yX9_date, cX9_date, 4, some .int, 1)
def T_X9_date : Tb := ([(80, 9432)], [(225, (-100001)), (236, (-100002)), (355, (-100003)), (240, (-100004))], [], [], [(136, 0), (352, 2), (356, 3), (222, 4)], [(250, 1)], 4)
def V_X9_date : List (Nat × Nat) := [(0, 4), (12, 4), (22, 4), (33, 4), (48, 4), (75, 4), (84, 4), (85, 4)]
def B_X9_date : Bk := [(0, [.aload 0, .iload 1, .iload 2, .invokestatic 0, .ifCond .ne 12, .iconst (-100001), .ireturn], 12), (12, [.iload 3, .invokestatic 1, .ifCond .ne 22, .iconst (-100002), .ireturn], 22), (22, [.aload 0, .invokestatic 2, .ifCond .ne 33, .iconst (-100003), .ireturn], 33), (33, [.aload 0, .iconst (7), .iload 1, .invokestatic 3, .ifCond .eq 48, .iconst (-100004), .goto 85], 48), (48, [.aload 0, .iconst (-1), .iload 1, .iload 2, .invokestatic 4, .iload 3, .ifCond .ne 75, .aload 0, .getfield 9432, .iconst (8), .iload 1, .imul, .iconst (7), .iadd, .iaload, .ineg, .goto 84], 75), (75, [.aload 0, .getfield 9432, .iconst (56), .iload 1, .iadd, .iaload], 84), (84, [.iadd], 85), (85, [.ireturn], 86)]
theorem k_X9_date : chkB T_X9_date cX9_date B_X9_date = true := by decide +kernel
theorem cw_X9_date : calW Y_X9_date := ⟨pn_X9, Or.inr (Or.inl ⟨rfl, rfl⟩), w_1555, w_11, mh_X9, by decide⟩
theorem cl_X9_date {o : OM} {Y : Pk} {d d2 idx : Nat} {C : Ctr} (hS : Sound o Y_X9_date d2 C) (hd : d2 + 1 ≤ d) (hl : Cond.methodLink (yN Y).cls idx yX9_date ∈ wsG ∨ ∃ host, Cond.methodLinkNest (yN Y).cls idx yX9_date host ∈ nestW) : CallOK o Y d (.invokevirtual idx) (4, rcv 9 4 C) := callV_ok hS hd cw_X9_date hl w_1553 w_1554 (Or.inl ⟨TX9, 55, rfl⟩) (by decide +kernel)
def Y_X9_layCalendars : Pk := (yX9_layCalendars, cX9_layCalendars, 4, some .int, 1)
def T_X9_layCalendars : Tb := ([(109, 9000), (83, 9442)], [], [], [], [(352, 0), (356, 1)], [], 4)
def V_X9_layCalendars : List (Nat × Nat) := [(0, 1), (9, 3), (26, 4), (64, 4), (70, 4), (77, 4), (97, 4), (103, 3)]
def B_X9_layCalendars : Bk := [(0, [.aload 0, .invokestatic 0, .pop, .iconst (0), .istore 1, .iconst (0), .istore 2], 9), (9, [.iload 2, .aload 0, .getfield 9000, .if_icmp .ge 103, .aload 0, .getfield 9442, .iload 2, .iconst (-1), .iastore, .iconst (0), .istore 3], 26), (26, [.iload 3, .iload 2, .if_icmp .ge 77, .aload 0, .getfield 9442, .iload 2, .aload 0, .getfield 9442, .iload 2, .iaload, .iconst (-1), .if_icmp .ne 64, .aload 0, .iload 2, .iload 3, .invokestatic 1, .ifCond .ne 64, .aload 0, .getfield 9442, .iload 3, .iaload, .goto 70], 64), (64, [.aload 0, .getfield 9442, .iload 2, .iaload], 70), (70, [.iastore, .iinc 3 1, .goto 26], 77), (77, [.aload 0, .getfield 9442, .iload 2, .iaload, .iconst (-1), .if_icmp .ne 97, .aload 0, .getfield 9442, .iload 2, .iload 1, .iastore, .iinc 1 1], 97), (97, [.iinc 2 1, .goto 9], 103), (103, [.iload 1, .ireturn], 105)]
theorem k_X9_layCalendars : chkB T_X9_layCalendars cX9_layCalendars B_X9_layCalendars = true := by decide +kernel
theorem cw_X9_layCalendars : calW Y_X9_layCalendars := ⟨pn_X9, Or.inr (Or.inl ⟨rfl, rfl⟩), w_1563, w_11, mh_X9, by decide⟩
theorem cl_X9_layCalendars {o : OM} {Y : Pk} {d d2 idx : Nat} {C : Ctr} (hS : Sound o Y_X9_layCalendars d2 C) (hd : d2 + 1 ≤ d) (hl : Cond.methodLink (yN Y).cls idx yX9_layCalendars ∈ wsG ∨ ∃ host, Cond.methodLinkNest (yN Y).cls idx yX9_layCalendars host ∈ nestW) : CallOK o Y d (.invokevirtual idx) (1, rcv 9 4 C) := callV_ok hS hd cw_X9_layCalendars hl w_1562 wp_118 (Or.inl ⟨TX9, 55, rfl⟩) (by decide +kernel)
def Y_X9_hangs : Pk := (yX9_hangs, cX9_hangs, 8, some .int, 1)
def T_X9_hangs : Tb := ([(80, 9432), (325, 9320)], [], [], [], [(116, 0), (352, 1), (356, 2), (345, 3), (349, 4)], [], 8)
def V_X9_hangs : List (Nat × Nat) := [(0, 3), (16, 3), (19, 3), (35, 3), (38, 3), (75, 8), (141, 8), (148, 8), (149, 8), (152, 8), (158, 8)]
def B_X9_hangs : Bk := [(0, [.aload 0, .iload 1, .invokestatic 0, .ifCond .eq 16, .aload 0, .iload 2, .invokestatic 0, .ifCond .ne 19], 16), (16, [.iconst (-101), .ireturn], 19), (19, [.aload 0, .invokestatic 1, .ifCond .eq 35, .aload 0, .iload 1, .iload 2, .invokestatic 2, .ifCond .eq 38], 35), (35, [.iconst (-103), .ireturn], 38), (38, [.aload 0, .invokestatic 3, .istore 3, .aload 0, .getfield 9432, .iconst (8), .iload 2, .imul, .iload 1, .iadd, .iaload, .istore 4, .aload 0, .getfield 9432, .iconst (8), .iload 1, .imul, .iload 2, .iadd, .iaload, .istore 5, .iconst (0), .istore 6, .iconst (0), .istore 7], 75), (75, [.iload 7, .aload 0, .getfield 9320, .if_icmp .ge 158, .iload 3, .iload 7, .ishr, .iconst (1), .iand, .iconst (1), .if_icmp .ne 152, .aload 0, .iload 3, .iconst (1), .iload 7, .ishl, .iconst (-1), .ixor, .iand, .invokestatic 4, .pop, .iload 6, .aload 0, .getfield 9432, .iconst (8), .iload 1, .imul, .iload 2, .iadd, .iaload, .iload 5, .if_icmp .ne 141, .aload 0, .getfield 9432, .iconst (8), .iload 2, .imul, .iload 1, .iadd, .iaload, .iload 4, .if_icmp .eq 148], 141), (141, [.iconst (1), .iload 7, .ishl, .goto 149], 148), (148, [.iconst (0)], 149), (149, [.ior, .istore 6], 152), (152, [.iinc 7 1, .goto 75], 158), (158, [.iload 6, .ireturn], 161)]
theorem k_X9_hangs : chkB T_X9_hangs cX9_hangs B_X9_hangs = true := by decide +kernel
theorem cw_X9_hangs : calW Y_X9_hangs := ⟨pn_X9, Or.inr (Or.inl ⟨rfl, rfl⟩), w_1579, w_11, mh_X9, by decide⟩
theorem cl_X9_hangs {o : OM} {Y : Pk} {d d2 idx : Nat} {C : Ctr} (hS : Sound o Y_X9_hangs d2 C) (hd : d2 + 1 ≤ d) (hl : Cond.methodLink (yN Y).cls idx yX9_hangs ∈ wsG ∨ ∃ host, Cond.methodLinkNest (yN Y).cls idx yX9_hangs host ∈ nestW) : CallOK o Y d (.invokevirtual idx) (3, rcv 9 8 C) := callV_ok hS hd cw_X9_hangs hl w_1577 w_1578 (Or.inl ⟨TX9, 55, rfl⟩) (by decide +kernel)
def Y_X9_dig : Pk := (yX9_dig, cX9_dig, 11, some .int, 1)
def T_X9_dig : Tb := ([(368, 9450), (109, 9000), (80, 9432)], [], [(144, 2), (371, 40)], [], [(352, 1), (356, 2), (334, 3), (341, 4), (373, 5)], [(112, 0)], 11)
def V_X9_dig : List (Nat × Nat) := [(0, 2), (15, 2), (31, 2), (34, 2), (54, 6), (69, 7), (148, 11), (193, 11), (195, 11), (203, 11), (216, 11), (220, 11), (221, 11), (233, 11), (234, 11), (245, 11), (246, 11), (257, 11), (259, 11), (261, 9), (267, 7), (273, 6), (281, 6), (290, 6), (292, 6)]
def B_X9_dig : Bk := [(0, [.iload 1, .i2l, .jsr 0, .jsr (2), .invokestatic 0, .ifCond .ne 15, .iconst (-102), .ireturn], 15), (15, [.aload 0, .invokestatic 1, .ifCond .eq 31, .aload 0, .getfield 9450, .iconst (8), .if_icmp .ne 34], 31), (31, [.iconst (-103), .ireturn], 34), (34, [.aload 0, .dup, .getfield 9450, .iconst (1), .iadd, .putfield 9450, .iconst (-1), .istore 2, .iconst (-1), .istore 3, .iconst (-1), .istore 4, .iconst (0), .istore 5], 54), (54, [.iload 5, .aload 0, .getfield 9000, .if_icmp .ge 273, .iload 5, .iconst (1), .iadd, .istore 6], 69), (69, [.iload 6, .aload 0, .getfield 9000, .if_icmp .ge 267, .aload 0, .invokestatic 1, .pop, .aload 0, .getfield 9432, .iconst (8), .iload 6, .imul, .iload 5, .iadd, .iaload, .ineg, .istore 7, .aload 0, .getfield 9432, .iconst (8), .iload 5, .imul, .iload 6, .iadd, .iaload, .istore 8, .aload 0, .iload 5, .iload 6, .invokestatic 2, .ifCond .ne 261, .iload 8, .iload 7, .isub, .i2l, .jsr 1, .jsr (40), .invokestatic 0, .ifCond .eq 261, .iconst (0), .istore 9, .iload 7, .istore 10], 148), (148, [.iload 10, .iload 8, .if_icmp .gt 203, .aload 0, .invokestatic 1, .pop, .aload 0, .iload 5, .iload 6, .iload 10, .iload 10, .invokestatic 3, .aload 0, .invokestatic 4, .pop, .aload 0, .invokestatic 5, .iload 9, .if_icmp .le 193, .aload 0, .invokestatic 5, .goto 195], 193), (193, [.iload 9], 195), (195, [.istore 9, .iinc 10 1, .goto 148], 203), (203, [.iload 4, .iconst (-1), .if_icmp .eq 216, .iload 9, .iload 4, .if_icmp .ge 220], 216), (216, [.iconst (1), .goto 221], 220), (220, [.iconst (0)], 221), (221, [.istore 10, .iload 10, .ifCond .eq 233, .iload 5, .goto 234], 233), (233, [.iload 2], 234), (234, [.istore 2, .iload 10, .ifCond .eq 245, .iload 6, .goto 246], 245), (245, [.iload 3], 246), (246, [.istore 3, .iload 10, .ifCond .eq 257, .iload 9, .goto 259], 257), (257, [.iload 4], 259), (259, [.istore 4], 261), (261, [.iinc 6 1, .goto 69], 267), (267, [.iinc 5 1, .goto 54], 273), (273, [.iload 1, .ifCond .ne 281, .iload 2, .goto 292], 281), (281, [.iload 1, .iconst (1), .if_icmp .ne 290, .iload 3, .goto 292], 290), (290, [.iload 4], 292), (292, [.ireturn], 293)]
theorem k_X9_dig : chkB T_X9_dig cX9_dig B_X9_dig = true := by decide +kernel
theorem cw_X9_dig : calW Y_X9_dig := ⟨pn_X9, Or.inr (Or.inl ⟨rfl, rfl⟩), w_1583, w_11, mh_X9, by decide⟩
theorem cl_X9_dig {o : OM} {Y : Pk} {d d2 idx : Nat} {C : Ctr} (hS : Sound o Y_X9_dig d2 C) (hd : d2 + 1 ≤ d) (hl : Cond.methodLink (yN Y).cls idx yX9_dig ∈ wsG ∨ ∃ host, Cond.methodLinkNest (yN Y).cls idx yX9_dig host ∈ nestW) : CallOK o Y d (.invokevirtual idx) (2, rcv 9 11 C) := callV_ok hS hd cw_X9_dig hl w_1581 w_1582 (Or.inl ⟨TX9, 55, rfl⟩) (by decide +kernel)
def Y_X9_pace : Pk := (yX9_pace, cX9_pace, 9, some .int, 1)
def T_X9_pace : Tb := ([(7, 9012), (80, 9432)], [], [], [], [(116, 0), (352, 2), (356, 3)], [(250, 1), (281, 4), (253, 5)], 9)
def V_X9_pace : List (Nat × Nat) := [(0, 5), (16, 5), (19, 5), (34, 5), (37, 5), (68, 5), (71, 5), (111, 7), (132, 7), (137, 7), (180, 9), (182, 9)]
def B_X9_pace : Bk := [(0, [.aload 0, .iload 1, .invokestatic 0, .ifCond .eq 16, .aload 0, .iload 2, .invokestatic 0, .ifCond .ne 19], 16), (16, [.iconst (-101), .ireturn], 19), (19, [.iload 3, .invokestatic 1, .ifCond .eq 34, .iload 4, .invokestatic 1, .ifCond .ne 37], 34), (34, [.iconst (-102), .ireturn], 37), (37, [.aload 0, .getfield 9012, .iload 1, .iaload, .aload 0, .getfield 9012, .iload 2, .iaload, .if_icmp .eq 68, .aload 0, .invokestatic 2, .ifCond .eq 68, .aload 0, .iload 1, .iload 2, .invokestatic 3, .ifCond .eq 71], 68), (68, [.iconst (-103), .ireturn], 71), (71, [.aload 0, .getfield 9432, .iconst (8), .iload 2, .imul, .iload 1, .iadd, .iaload, .ineg, .istore 5, .aload 0, .getfield 9432, .iconst (8), .iload 1, .imul, .iload 2, .iadd, .iaload, .istore 6, .iload 5, .ifCond .gt 111, .iload 6, .ifCond .lt 111, .iconst (-103), .ireturn], 111), (111, [.iload 5, .invokestatic 4, .iload 6, .invokestatic 4, .if_icmp .ge 132, .iload 5, .invokestatic 4, .goto 137], 132), (132, [.iload 6, .invokestatic 4], 137), (137, [.istore 7, .iload 5, .invokestatic 4, .iload 6, .invokestatic 4, .iadd, .iload 7, .isub, .istore 8, .aload 0, .getfield 9012, .iload 1, .iaload, .aload 0, .getfield 9012, .iload 2, .iaload, .isub, .invokestatic 4, .iload 3, .ifCond .ne 180, .iload 8, .goto 182], 180), (180, [.iload 7], 182), (182, [.iload 4, .invokestatic 5, .ireturn], 188)]
theorem k_X9_pace : chkB T_X9_pace cX9_pace B_X9_pace = true := by decide +kernel
theorem cw_X9_pace : calW Y_X9_pace := ⟨pn_X9, Or.inr (Or.inl ⟨rfl, rfl⟩), w_1592, w_11, mh_X9, by decide⟩
theorem cl_X9_pace {o : OM} {Y : Pk} {d d2 idx : Nat} {C : Ctr} (hS : Sound o Y_X9_pace d2 C) (hd : d2 + 1 ≤ d) (hl : Cond.methodLink (yN Y).cls idx yX9_pace ∈ wsG ∨ ∃ host, Cond.methodLinkNest (yN Y).cls idx yX9_pace host ∈ nestW) : CallOK o Y d (.invokevirtual idx) (5, rcv 9 9 C) := callV_ok hS hd cw_X9_pace hl w_1590 w_1591 (Or.inl ⟨TX9, 55, rfl⟩) (by decide +kernel)
def Y_J0_indexOf_7cf53 : Pk := (yJ0_indexOf_7cf53, cJ0_indexOf_7cf53, 3, some .int, 1)
def T_J0_indexOf_7cf53 : Tb := ([(9, 20002)], [], [], [], [(492, 0), (505, 1)], [(637, 2), (640, 3)], 3)
def V_J0_indexOf_7cf53 : List (Nat × Nat) := [(0, 3), (23, 3), (36, 3)]
def B_J0_indexOf_7cf53 : Bk := [(0, [.aload 0, .invokestatic 0, .ifCond .eq 23, .aload 0, .getfield 20002, .iload 1, .iload 2, .aload 0, .invokestatic 1, .invokestatic 2, .goto 36], 23), (23, [.aload 0, .getfield 20002, .iload 1, .iload 2, .aload 0, .invokestatic 1, .invokestatic 3], 36), (36, [.ireturn], 37)]
theorem k_J0_indexOf_7cf53 : chkB T_J0_indexOf_7cf53 cJ0_indexOf_7cf53 B_J0_indexOf_7cf53 = true := by decide +kernel
theorem cw_J0_indexOf_7cf53 : calW Y_J0_indexOf_7cf53 := ⟨pn_J0, Or.inr (Or.inl ⟨rfl, rfl⟩), w_497, w_13, mh_J0, by decide⟩
theorem cl_J0_indexOf_7cf53 {o : OM} {Y : Pk} {d d2 idx : Nat} {C : Ctr} (hS : Sound o Y_J0_indexOf_7cf53 d2 C) (hd : d2 + 1 ≤ d) (hl : Cond.methodLink (yN Y).cls idx yJ0_indexOf_7cf53 ∈ wsG ∨ ∃ host, Cond.methodLinkNest (yN Y).cls idx yJ0_indexOf_7cf53 host ∈ nestW) : CallOK o Y d (.invokevirtual idx) (3, rcv 20 3 C) := callV_ok hS hd cw_J0_indexOf_7cf53 hl w_495 w_496 (Or.inr ⟨rfl, rfl⟩) (by decide +kernel)
def Y_X8_together : Pk := (yX8_together, cX8_together, 5, some .int, 1)
def T_X8_together : Tb := ([(52, 8072), (10, 8002), (68, 8092), (219, 5170)], [], [], [], [(204, 0), (99, 1), (205, 3), (209, 4), (213, 5), (216, 6), (222, 7)], [(88, 2)], 5)
def V_X8_together : List (Nat × Nat) := [(0, 5), (33, 5), (36, 5), (61, 5), (84, 5), (98, 5), (121, 5), (133, 5)]
def B_X8_together : Bk := [(0, [.aload 0, .getfield 8072, .iload 1, .invokestatic 0, .ifCond .eq 33, .aload 0, .getfield 8002, .iload 2, .invokestatic 1, .ifCond .eq 33, .aload 0, .getfield 8002, .iload 3, .invokestatic 1, .ifCond .ne 36], 33), (33, [.iconst (-101), .ireturn], 36), (36, [.iload 4, .iconst (0), .iconst (2), .invokestatic 2, .ifCond .ne 61, .iload 4, .iconst (10), .iconst (41), .invokestatic 2, .ifCond .ne 61, .iconst (-102), .ireturn], 61), (61, [.aload 0, .getfield 8092, .iload 1, .iload 2, .iload 3, .invokestatic 3, .iload 4, .ifCond .ne 84, .aload 0, .getfield 8092, .invokestatic 4, .ireturn], 84), (84, [.iload 4, .iconst (1), .if_icmp .ne 98, .aload 0, .getfield 8092, .invokestatic 5, .ireturn], 98), (98, [.aload 0, .getfield 8092, .invokestatic 6, .iload 4, .iconst (2), .if_icmp .ne 121, .aload 0, .getfield 8092, .getfield 5170, .goto 133], 121), (121, [.aload 0, .getfield 8092, .iload 4, .iconst (10), .isub, .invokestatic 7], 133), (133, [.ireturn], 134)]
theorem k_X8_together : chkB T_X8_together cX8_together B_X8_together = true := by decide +kernel
theorem cw_X8_together : calW Y_X8_together := ⟨pn_X8, Or.inr (Or.inl ⟨rfl, rfl⟩), w_680, w_1, mh_X8, by decide⟩
theorem cl_X8_together {o : OM} {Y : Pk} {d d2 idx : Nat} {C : Ctr} (hS : Sound o Y_X8_together d2 C) (hd : d2 + 1 ≤ d) (hl : Cond.methodLink (yN Y).cls idx yX8_together ∈ wsG ∨ ∃ host, Cond.methodLinkNest (yN Y).cls idx yX8_together host ∈ nestW) : CallOK o Y d (.invokevirtual idx) (5, rcv 8 5 C) := callV_ok hS hd cw_X8_together hl w_678 w_679 (Or.inl ⟨TX8, 13, rfl⟩) (by decide +kernel)
def Y_X8_lies : Pk := (yX8_lies, cX8_lies, 5, some .int, 1)
def T_X8_lies : Tb := ([(52, 8072), (10, 8002), (68, 8092), (225, 5182)], [], [], [], [(204, 0), (99, 1), (114, 2), (205, 3), (216, 4)], [], 5)
def V_X8_lies : List (Nat × Nat) := [(0, 5), (35, 5), (38, 5)]
def B_X8_lies : Bk := [(0, [.aload 0, .getfield 8072, .iload 1, .invokestatic 0, .ifCond .eq 35, .aload 0, .getfield 8002, .iload 3, .invokestatic 1, .ifCond .eq 35, .aload 0, .getfield 8002, .iload 2, .iload 4, .invokestatic 2, .ifCond .ne 38], 35), (35, [.iconst (-101), .ireturn], 38), (38, [.aload 0, .getfield 8092, .iload 1, .iload 2, .iload 3, .invokestatic 3, .aload 0, .getfield 8092, .invokestatic 4, .aload 0, .getfield 8092, .getfield 5182, .iload 4, .iaload, .ireturn], 66)]
theorem k_X8_lies : chkB T_X8_lies cX8_lies B_X8_lies = true := by decide +kernel
theorem cw_X8_lies : calW Y_X8_lies := ⟨pn_X8, Or.inr (Or.inl ⟨rfl, rfl⟩), w_767, w_1, mh_X8, by decide⟩
theorem cl_X8_lies {o : OM} {Y : Pk} {d d2 idx : Nat} {C : Ctr} (hS : Sound o Y_X8_lies d2 C) (hd : d2 + 1 ≤ d) (hl : Cond.methodLink (yN Y).cls idx yX8_lies ∈ wsG ∨ ∃ host, Cond.methodLinkNest (yN Y).cls idx yX8_lies host ∈ nestW) : CallOK o Y d (.invokevirtual idx) (5, rcv 8 5 C) := callV_ok hS hd cw_X8_lies hl w_765 w_766 (Or.inl ⟨TX8, 13, rfl⟩) (by decide +kernel)
def Y_X8_sure : Pk := (yX8_sure, cX8_sure, 6, some .int, 1)
def T_X8_sure : Tb := ([(52, 8072), (10, 8002), (81, 8110), (68, 8092), (228, 5192), (225, 5182)], [], [], [], [(204, 0), (99, 1), (114, 2), (205, 3), (216, 4), (209, 5), (231, 6)], [], 6)
def V_X8_sure : List (Nat × Nat) := [(0, 5), (35, 5), (38, 5), (50, 5), (92, 5)]
def B_X8_sure : Bk := [(0, [.aload 0, .getfield 8072, .iload 1, .invokestatic 0, .ifCond .eq 35, .aload 0, .getfield 8002, .iload 3, .invokestatic 1, .ifCond .eq 35, .aload 0, .getfield 8002, .iload 2, .iload 4, .invokestatic 2, .ifCond .ne 38], 35), (35, [.iconst (-101), .ireturn], 38), (38, [.aload 0, .getfield 8110, .iconst (100), .if_icmp .lt 50, .iconst (-103), .ireturn], 50), (50, [.aload 0, .dup, .getfield 8110, .iconst (1), .iadd, .putfield 8110, .aload 0, .getfield 8092, .iload 1, .iload 2, .iload 3, .invokestatic 3, .aload 0, .getfield 8092, .invokestatic 4, .aload 0, .getfield 8092, .getfield 5192, .iload 4, .iaload, .ifCond .eq 92, .iconst (-1), .ireturn], 92), (92, [.aload 0, .getfield 8092, .invokestatic 5, .istore 5, .aload 0, .getfield 8092, .iload 4, .aload 0, .getfield 8092, .getfield 5182, .iload 4, .iaload, .invokestatic 6, .iload 5, .isub, .ireturn], 124)]
theorem k_X8_sure : chkB T_X8_sure cX8_sure B_X8_sure = true := by decide +kernel
theorem cw_X8_sure : calW Y_X8_sure := ⟨pn_X8, Or.inr (Or.inl ⟨rfl, rfl⟩), w_771, w_1, mh_X8, by decide⟩
theorem cl_X8_sure {o : OM} {Y : Pk} {d d2 idx : Nat} {C : Ctr} (hS : Sound o Y_X8_sure d2 C) (hd : d2 + 1 ≤ d) (hl : Cond.methodLink (yN Y).cls idx yX8_sure ∈ wsG ∨ ∃ host, Cond.methodLinkNest (yN Y).cls idx yX8_sure host ∈ nestW) : CallOK o Y d (.invokevirtual idx) (5, rcv 8 6 C) := callV_ok hS hd cw_X8_sure hl w_769 w_770 (Or.inl ⟨TX8, 13, rfl⟩) (by decide +kernel)
def Y_X8_hangs : Pk := (yX8_hangs, cX8_hangs, 3, some .int, 1)
def T_X8_hangs : Tb := ([(10, 8002), (77, 8102)], [], [], [], [(99, 0), (267, 1), (275, 2), (293, 3)], [], 3)
def V_X8_hangs : List (Nat × Nat) := [(0, 3), (22, 3), (25, 3), (47, 3), (50, 3)]
def B_X8_hangs : Bk := [(0, [.aload 0, .getfield 8002, .iload 1, .invokestatic 0, .ifCond .eq 22, .aload 0, .getfield 8002, .iload 2, .invokestatic 0, .ifCond .ne 25], 22), (22, [.iconst (-101), .ireturn], 25), (25, [.aload 0, .getfield 8102, .invokestatic 1, .ifCond .eq 47, .aload 0, .getfield 8102, .iload 1, .iload 2, .invokestatic 2, .ifCond .eq 50], 47), (47, [.iconst (-103), .ireturn], 50), (50, [.aload 0, .getfield 8102, .iload 1, .iload 2, .invokestatic 3, .ireturn], 60)]
theorem k_X8_hangs : chkB T_X8_hangs cX8_hangs B_X8_hangs = true := by decide +kernel
theorem cw_X8_hangs : calW Y_X8_hangs := ⟨pn_X8, Or.inr (Or.inl ⟨rfl, rfl⟩), w_949, w_1, mh_X8, by decide⟩
theorem cl_X8_hangs {o : OM} {Y : Pk} {d d2 idx : Nat} {C : Ctr} (hS : Sound o Y_X8_hangs d2 C) (hd : d2 + 1 ≤ d) (hl : Cond.methodLink (yN Y).cls idx yX8_hangs ∈ wsG ∨ ∃ host, Cond.methodLinkNest (yN Y).cls idx yX8_hangs host ∈ nestW) : CallOK o Y d (.invokevirtual idx) (3, rcv 8 3 C) := callV_ok hS hd cw_X8_hangs hl w_947 w_948 (Or.inl ⟨TX8, 13, rfl⟩) (by decide +kernel)
def Y_X8_took : Pk := (yX8_took, cX8_took, 7, some .int, 1)
def T_X8_took : Tb := ([(10, 8002), (92, 6000)], [], [], [], [(114, 0), (118, 2), (322, 3)], [(88, 1)], 7)
def V_X8_took : List (Nat × Nat) := [(0, 4), (15, 4), (27, 4), (43, 4), (49, 6), (71, 6), (79, 6), (90, 7), (110, 7), (117, 7), (121, 7), (127, 6)]
def B_X8_took : Bk := [(0, [.aload 0, .getfield 8002, .iload 1, .iload 2, .invokestatic 0, .ifCond .ne 15, .iconst (-101), .ireturn], 15), (15, [.iload 3, .iconst (0), .iconst (1), .invokestatic 1, .ifCond .ne 27, .iconst (-102), .ireturn], 27), (27, [.aload 0, .getfield 8002, .iload 1, .iload 2, .invokestatic 2, .iconst (4), .if_icmp .eq 43, .iconst (-103), .ireturn], 43), (43, [.iconst (-1), .istore 4, .iconst (0), .istore 5], 49), (49, [.iload 5, .aload 0, .getfield 8002, .getfield 6000, .if_icmp .ge 127, .iload 5, .iload 1, .if_icmp .ne 71, .iconst (-1), .goto 79], 71), (71, [.aload 0, .iload 1, .iload 2, .iload 5, .invokestatic 3], 79), (79, [.istore 6, .iload 6, .iconst (-1), .if_icmp .ne 90, .goto 121], 90), (90, [.iload 4, .iconst (-1), .if_icmp .eq 117, .iload 3, .ifCond .ne 110, .iload 6, .iload 4, .if_icmp .ge 121, .goto 117], 110), (110, [.iload 6, .iload 4, .if_icmp .le 121], 117), (117, [.iload 6, .istore 4], 121), (121, [.iinc 5 1, .goto 49], 127), (127, [.iload 4, .ireturn], 130)]
theorem k_X8_took : chkB T_X8_took cX8_took B_X8_took = true := by decide +kernel
theorem cw_X8_took : calW Y_X8_took := ⟨pn_X8, Or.inr (Or.inl ⟨rfl, rfl⟩), w_997, w_1, mh_X8, by decide⟩
theorem cl_X8_took {o : OM} {Y : Pk} {d d2 idx : Nat} {C : Ctr} (hS : Sound o Y_X8_took d2 C) (hd : d2 + 1 ≤ d) (hl : Cond.methodLink (yN Y).cls idx yX8_took ∈ wsG ∨ ∃ host, Cond.methodLinkNest (yN Y).cls idx yX8_took host ∈ nestW) : CallOK o Y d (.invokevirtual idx) (4, rcv 8 7 C) := callV_ok hS hd cw_X8_took hl w_995 w_996 (Or.inl ⟨TX8, 13, rfl⟩) (by decide +kernel)
def Y_X8_foldLaw : Pk := (yX8_foldLaw, cX8_foldLaw, 6, some .long, 3)
def T_X8_foldLaw : Tb := ([(10, 8002), (92, 6000), (68, 8092)], [], [], [], [(205, 0), (209, 1)], [(363, 2)], 6)
def V_X8_foldLaw : List (Nat × Nat) := [(0, 4), (3, 5), (21, 6), (64, 6), (70, 5)]
def B_X8_foldLaw : Bk := [(0, [.iconst (0), .istore 4], 3), (3, [.iload 4, .aload 0, .getfield 8002, .getfield 6000, .if_icmp .ge 70, .iload 4, .iconst (1), .iadd, .istore 5], 21), (21, [.iload 5, .aload 0, .getfield 8002, .getfield 6000, .if_icmp .ge 64, .aload 0, .getfield 8092, .iload 3, .iload 4, .iload 5, .invokestatic 0, .lload 1, .aload 0, .getfield 8092, .invokestatic 1, .i2l, .invokestatic 2, .lstore 1, .iinc 5 1, .goto 21], 64), (64, [.iinc 4 1, .goto 3], 70), (70, [.lload 1, .lreturn], 72)]
theorem k_X8_foldLaw : chkB T_X8_foldLaw cX8_foldLaw B_X8_foldLaw = true := by decide +kernel
theorem cw_X8_foldLaw : calW Y_X8_foldLaw := ⟨pn_X8, Or.inr (Or.inr (Or.inr (Or.inl ⟨rfl, rfl⟩))), w_1068, w_1, mh_X8, by decide⟩
theorem cl_X8_foldLaw {o : OM} {Y : Pk} {d d2 idx : Nat} {C : Ctr} (hS : Sound o Y_X8_foldLaw d2 C) (hd : d2 + 1 ≤ d) (hl : Cond.methodLink (yN Y).cls idx yX8_foldLaw ∈ wsG ∨ ∃ host, Cond.methodLinkNest (yN Y).cls idx yX8_foldLaw host ∈ nestW) : CallOK o Y d (.invokevirtual idx) (3, rcv 8 6 C) := callV_ok hS hd cw_X8_foldLaw hl w_1067 wp_86 (Or.inl ⟨TX8, 13, rfl⟩) (by decide +kernel)
def Y_X9_calendars : Pk := (yX9_calendars, cX9_calendars, 5, some .int, 1)
def T_X9_calendars : Tb := ([(109, 9000), (83, 9442)], [], [], [], [(359, 1)], [(112, 0)], 5)
def V_X9_calendars : List (Nat × Nat) := [(0, 2), (13, 2), (23, 5), (50, 5), (51, 5), (59, 5), (67, 5), (68, 5)]
def B_X9_calendars : Bk := [(0, [.iload 1, .i2l, .jsr 0, .jsr 1, .invokestatic 0, .ifCond .ne 13, .iconst (-102), .ireturn], 13), (13, [.aload 0, .invokestatic 1, .istore 2, .iconst (0), .istore 3, .iconst (0), .istore 4], 23), (23, [.iload 4, .aload 0, .getfield 9000, .if_icmp .ge 59, .iload 3, .aload 0, .getfield 9442, .iload 4, .iaload, .ifCond .ne 50, .iconst (1), .iload 4, .ishl, .goto 51], 50), (50, [.iconst (0)], 51), (51, [.ior, .istore 3, .iinc 4 1, .goto 23], 59), (59, [.iload 1, .ifCond .ne 67, .iload 2, .goto 68], 67), (67, [.iload 3], 68), (68, [.ireturn], 69)]
theorem k_X9_calendars : chkB T_X9_calendars cX9_calendars B_X9_calendars = true := by decide +kernel
theorem cw_X9_calendars : calW Y_X9_calendars := ⟨pn_X9, Or.inr (Or.inl ⟨rfl, rfl⟩), w_1559, w_11, mh_X9, by decide⟩
theorem cl_X9_calendars {o : OM} {Y : Pk} {d d2 idx : Nat} {C : Ctr} (hS : Sound o Y_X9_calendars d2 C) (hd : d2 + 1 ≤ d) (hl : Cond.methodLink (yN Y).cls idx yX9_calendars ∈ wsG ∨ ∃ host, Cond.methodLinkNest (yN Y).cls idx yX9_calendars host ∈ nestW) : CallOK o Y d (.invokevirtual idx) (2, rcv 9 5 C) := callV_ok hS hd cw_X9_calendars hl w_1557 w_1558 (Or.inl ⟨TX9, 55, rfl⟩) (by decide +kernel)
def Y_X9_tellNet : Pk := (yX9_tellNet, cX9_tellNet, 4, none, 0)
def T_X9_tellNet : Tb := ([(325, 9320), (53, 9332), (56, 9342), (59, 9352), (62, 9362), (65, 9372), (68, 9382), (109, 9000), (71, 9392), (74, 9402), (77, 9412), (101, 9423), (80, 9432)], [], [(401, (-100004))], [], [(397, 0), (352, 1), (356, 2), (359, 3)], [], 4)
def V_X9_tellNet : List (Nat × Nat) := [(0, 1), (2, 2), (79, 2), (80, 2), (89, 2), (91, 2), (136, 2), (142, 2), (154, 2), (155, 2), (172, 2), (173, 2), (178, 3), (194, 4), (218, 4), (231, 4), (250, 4), (262, 4), (271, 4), (277, 3)]
def B_X9_tellNet : Bk := [(0, [.iconst (0), .istore 1], 2), (2, [.iload 1, .aload 0, .getfield 9320, .if_icmp .ge 89, .aload 0, .aload 0, .getfield 9332, .iload 1, .iaload, .i2l, .invokestatic 0, .aload 0, .aload 0, .getfield 9342, .iload 1, .iaload, .i2l, .invokestatic 0, .aload 0, .aload 0, .getfield 9352, .iload 1, .iaload, .i2l, .invokestatic 0, .aload 0, .aload 0, .getfield 9362, .iload 1, .iaload, .i2l, .invokestatic 0, .aload 0, .aload 0, .getfield 9372, .iload 1, .iaload, .i2l, .invokestatic 0, .aload 0, .aload 0, .getfield 9382, .iload 1, .baload, .ifCond .eq 79, .jsr 1, .goto 80], 79), (79, [.jsr 0], 80), (80, [.invokestatic 0, .iinc 1 1, .goto 2], 89), (89, [.iconst (0), .istore 1], 91), (91, [.iload 1, .aload 0, .getfield 9000, .if_icmp .ge 142, .aload 0, .getfield 9392, .iload 1, .baload, .ifCond .eq 136, .aload 0, .iload 1, .i2l, .invokestatic 0, .aload 0, .aload 0, .getfield 9402, .iload 1, .iaload, .i2l, .invokestatic 0, .aload 0, .aload 0, .getfield 9412, .iload 1, .iaload, .i2l, .invokestatic 0], 136), (136, [.iinc 1 1, .goto 91], 142), (142, [.aload 0, .aload 0, .getfield 9423, .ifCond .eq 154, .jsr 1, .goto 155], 154), (154, [.jsr 0], 155), (155, [.invokestatic 0, .aload 0, .invokestatic 1, .istore 1, .aload 0, .iload 1, .ifCond .eq 172, .jsr 1, .goto 173], 172), (172, [.jsr 0], 173), (173, [.invokestatic 0, .iconst (0), .istore 2], 178), (178, [.iload 2, .aload 0, .getfield 9000, .if_icmp .ge 277, .iload 1, .ifCond .eq 277, .iload 2, .iconst (1), .iadd, .istore 3], 194), (194, [.iload 3, .aload 0, .getfield 9000, .if_icmp .ge 271, .aload 0, .aload 0, .iload 2, .iload 3, .invokestatic 2, .ifCond .eq 218, .jsr (-100004), .goto 231], 218), (218, [.aload 0, .getfield 9432, .iconst (8), .iload 3, .imul, .iload 2, .iadd, .iaload, .ineg, .i2l], 231), (231, [.invokestatic 0, .aload 0, .aload 0, .iload 2, .iload 3, .invokestatic 2, .ifCond .eq 250, .jsr (-100004), .goto 262], 250), (250, [.aload 0, .getfield 9432, .iconst (8), .iload 2, .imul, .iload 3, .iadd, .iaload, .i2l], 262), (262, [.invokestatic 0, .iinc 3 1, .goto 194], 271), (271, [.iinc 2 1, .goto 178], 277), (277, [.aload 0, .aload 0, .invokestatic 3, .i2l, .invokestatic 0, .return_], 287)]
theorem k_X9_tellNet : chkB T_X9_tellNet cX9_tellNet B_X9_tellNet = true := by decide +kernel
theorem cw_X9_tellNet : calW Y_X9_tellNet := ⟨pn_X9, Or.inl ⟨rfl, rfl⟩, w_1642, w_11, mh_X9, by decide⟩
theorem cl_X9_tellNet {o : OM} {Y : Pk} {d d2 idx : Nat} {C : Ctr} (hS : Sound o Y_X9_tellNet d2 C) (hd : d2 + 1 ≤ d) (hl : Cond.methodLink (yN Y).cls idx yX9_tellNet ∈ wsG ∨ ∃ host, Cond.methodLinkNest (yN Y).cls idx yX9_tellNet host ∈ nestW) : CallOK o Y d (.invokevirtual idx) (1, rcv 9 4 C) := callV_ok hS hd cw_X9_tellNet hl w_1641 wp_128 (Or.inl ⟨TX9, 55, rfl⟩) (by decide +kernel)
def Y_J0_indexOf_0f7a4 : Pk := (yJ0_indexOf_0f7a4, cJ0_indexOf_0f7a4, 2, some .int, 1)
def T_J0_indexOf_0f7a4 : Tb := ([], [], [], [], [(633, 0)], [], 2)
def V_J0_indexOf_0f7a4 : List (Nat × Nat) := [(0, 2)]
def B_J0_indexOf_0f7a4 : Bk := [(0, [.aload 0, .iload 1, .iconst (0), .invokestatic 0, .ireturn], 7)]
theorem k_J0_indexOf_0f7a4 : chkB T_J0_indexOf_0f7a4 cJ0_indexOf_0f7a4 B_J0_indexOf_0f7a4 = true := by decide +kernel
theorem cw_J0_indexOf_0f7a4 : calW Y_J0_indexOf_0f7a4 := ⟨pn_J0, Or.inr (Or.inl ⟨rfl, rfl⟩), w_493, w_13, mh_J0, by decide⟩
theorem cl_J0_indexOf_0f7a4 {o : OM} {Y : Pk} {d d2 idx : Nat} {C : Ctr} (hS : Sound o Y_J0_indexOf_0f7a4 d2 C) (hd : d2 + 1 ≤ d) (hl : Cond.methodLink (yN Y).cls idx yJ0_indexOf_0f7a4 ∈ wsG ∨ ∃ host, Cond.methodLinkNest (yN Y).cls idx yJ0_indexOf_0f7a4 host ∈ nestW) : CallOK o Y d (.invokevirtual idx) (2, rcv 20 2 C) := callV_ok hS hd cw_J0_indexOf_0f7a4 hl w_491 w_492 (Or.inr ⟨rfl, rfl⟩) (by decide +kernel)
def Y_X4_readItems : Pk := (yX4_readItems, cX4_readItems, 8, some .int, 1)
def T_X4_readItems : Tb := ([(23, 4032), (19, 4023), (9, 4000), (15, 4012)], [], [], [], [(40, 1), (50, 3)], [(34, 0), (46, 2)], 8)
def V_X4_readItems : List (Nat × Nat) := [(0, 3), (24, 7), (75, 8), (78, 8), (87, 8), (121, 8), (130, 8), (143, 8), (169, 8), (172, 8), (178, 7), (193, 7), (194, 7)]
def B_X4_readItems : Bk := [(0, [.aload 0, .getfield 4032, .iconst (-1), .invokestatic 0, .aload 0, .iconst (0), .putfield 4023, .iconst (-1), .istore 3, .iconst (0), .istore 4, .iconst (0), .istore 5, .iconst (0), .istore 6], 24), (24, [.iload 6, .aload 0, .getfield 4000, .if_icmp .ge 178, .aload 0, .getfield 4012, .iload 6, .iaload, .i2c, .istore 7, .iload 3, .iconst (-1), .if_icmp .ne 87, .aload 1, .iload 7, .invokestatic 1, .istore 3, .iload 3, .iconst (0), .iconst (6), .invokestatic 2, .ifCond .eq 75, .aload 0, .getfield 4032, .iload 3, .iaload, .iconst (-1), .if_icmp .eq 78], 75), (75, [.iload 6, .ireturn], 78), (78, [.iinc 4 1, .iconst (0), .istore 5, .goto 172], 87), (87, [.iload 7, .iconst (48), .if_icmp .lt 143, .iload 7, .iconst (57), .if_icmp .gt 143, .iload 5, .iload 2, .if_icmp .ge 143, .aload 0, .getfield 4032, .iload 3, .iload 5, .ifCond .ne 121, .iconst (0), .goto 130], 121), (121, [.iconst (10), .aload 0, .getfield 4032, .iload 3, .iaload, .imul], 130), (130, [.iload 7, .iadd, .iconst (48), .isub, .iastore, .iinc 5 1, .goto 172], 143), (143, [.iload 7, .iconst (44), .if_icmp .ne 169, .iload 5, .ifCond .le 169, .iload 4, .aload 1, .invokestatic 3, .if_icmp .ge 169, .iconst (-1), .istore 3, .goto 172], 169), (169, [.iload 6, .ireturn], 172), (172, [.iinc 6 1, .goto 24], 178), (178, [.aload 0, .iload 3, .iconst (-1), .if_icmp .eq 193, .iload 5, .ifCond .le 193, .iconst (1), .goto 194], 193), (193, [.iconst (0)], 194), (194, [.putfield 4023, .aload 0, .getfield 4000, .ireturn], 202)]
theorem k_X4_readItems : chkB T_X4_readItems cX4_readItems B_X4_readItems = true := by decide +kernel
theorem cw_X4_readItems : calW Y_X4_readItems := ⟨pn_X4, Or.inr (Or.inl ⟨rfl, rfl⟩), w_488, w_4, mh_X4, by decide⟩
theorem cl_X4_readItems {o : OM} {Y : Pk} {d d2 idx : Nat} {C : Ctr} (hS : Sound o Y_X4_readItems d2 C) (hd : d2 + 1 ≤ d) (hl : Cond.methodLink (yN Y).cls idx yX4_readItems ∈ wsG ∨ ∃ host, Cond.methodLinkNest (yN Y).cls idx yX4_readItems host ∈ nestW) : CallOK o Y d (.invokevirtual idx) (3, rcv 4 8 C) := callV_ok hS hd cw_X4_readItems hl w_487 wp_16 (Or.inl ⟨TX4, 4, rfl⟩) (by decide +kernel)
def Y_X8_digest : Pk := (yX8_digest, cX8_digest, 4, some .long, 3)
def T_X8_digest : Tb := ([(10, 8002), (92, 6000), (52, 8072), (173, 2000), (19, 8012), (36, 8052), (151, 4000), (360, 4012)], [], [(345, 379)], [], [(347, 0), (351, 1), (354, 2), (357, 3), (367, 5)], [(363, 4)], 4)
def V_X8_digest : List (Nat × Nat) := [(0, 1), (6, 4), (30, 4), (32, 4), (56, 4), (73, 4), (105, 4), (107, 4), (130, 4)]
def B_X8_digest : Bk := [(0, [.jsr (379), .lstore 1, .iconst (0), .istore 3], 6), (6, [.iload 3, .aload 0, .getfield 8002, .getfield 6000, .if_icmp .ge 30, .aload 0, .lload 1, .iload 3, .invokestatic 0, .lstore 1, .iinc 3 1, .goto 6], 30), (30, [.iconst (0), .istore 3], 32), (32, [.iload 3, .aload 0, .getfield 8072, .getfield 2000, .if_icmp .ge 56, .aload 0, .lload 1, .iload 3, .invokestatic 1, .lstore 1, .iinc 3 1, .goto 32], 56), (56, [.aload 0, .getfield 8012, .lload 1, .invokestatic 2, .lstore 1, .aload 0, .lload 1, .invokestatic 3, .lstore 1, .iconst (0), .istore 3], 73), (73, [.iload 3, .aload 0, .getfield 8052, .getfield 4000, .if_icmp .ge 105, .lload 1, .aload 0, .getfield 8052, .getfield 4012, .iload 3, .iaload, .i2l, .invokestatic 4, .lstore 1, .iinc 3 1, .goto 73], 105), (105, [.iconst (0), .istore 3], 107), (107, [.iload 3, .iconst (9), .if_icmp .gt 130, .lload 1, .aload 0, .iload 3, .invokestatic 5, .i2l, .invokestatic 4, .lstore 1, .iinc 3 1, .goto 107], 130), (130, [.lload 1, .lreturn], 132)]
theorem k_X8_digest : chkB T_X8_digest cX8_digest B_X8_digest = true := by decide +kernel
theorem cw_X8_digest : calW Y_X8_digest := ⟨pn_X8, Or.inr (Or.inr (Or.inr (Or.inl ⟨rfl, rfl⟩))), w_1055, w_1, mh_X8, by decide⟩
theorem cl_X8_digest {o : OM} {Y : Pk} {d d2 idx : Nat} {C : Ctr} (hS : Sound o Y_X8_digest d2 C) (hd : d2 + 1 ≤ d) (hl : Cond.methodLink (yN Y).cls idx yX8_digest ∈ wsG ∨ ∃ host, Cond.methodLinkNest (yN Y).cls idx yX8_digest host ∈ nestW) : CallOK o Y d (.invokevirtual idx) (1, rcv 8 4 C) := callV_ok hS hd cw_X8_digest hl w_1053 w_1054 (Or.inl ⟨TX8, 13, rfl⟩) (by decide +kernel)
def Y_X9_digest : Pk := (yX9_digest, cX9_digest, 2, some .long, 3)
def T_X9_digest : Tb := ([(393, 9541), (109, 9000), (207, 9110), (176, 9080), (25, 9072)], [], [(403, 379)], [], [(405, 0), (409, 1), (412, 2), (397, 3), (388, 4)], [], 2)
def V_X9_digest : List (Nat × Nat) := [(0, 1), (9, 2), (28, 2), (30, 2), (49, 2), (55, 2), (80, 2), (82, 2), (104, 2)]
def B_X9_digest : Bk := [(0, [.aload 0, .jsr (379), .putfield 9541, .iconst (0), .istore 1], 9), (9, [.iload 1, .aload 0, .getfield 9000, .if_icmp .ge 28, .aload 0, .iload 1, .invokestatic 0, .iinc 1 1, .goto 9], 28), (28, [.iconst (0), .istore 1], 30), (30, [.iload 1, .aload 0, .getfield 9110, .if_icmp .ge 49, .aload 0, .iload 1, .invokestatic 1, .iinc 1 1, .goto 30], 49), (49, [.aload 0, .invokestatic 2, .iconst (0), .istore 1], 55), (55, [.iload 1, .aload 0, .getfield 9080, .if_icmp .ge 80, .aload 0, .aload 0, .getfield 9072, .iload 1, .iaload, .i2l, .invokestatic 3, .iinc 1 1, .goto 55], 80), (80, [.iconst (0), .istore 1], 82), (82, [.iload 1, .iconst (10), .if_icmp .ge 104, .aload 0, .aload 0, .iload 1, .invokestatic 4, .i2l, .invokestatic 3, .iinc 1 1, .goto 82], 104), (104, [.aload 0, .getfield 9541, .lreturn], 109)]
theorem k_X9_digest : chkB T_X9_digest cX9_digest B_X9_digest = true := by decide +kernel
theorem cw_X9_digest : calW Y_X9_digest := ⟨pn_X9, Or.inr (Or.inr (Or.inr (Or.inl ⟨rfl, rfl⟩))), w_1624, w_11, mh_X9, by decide⟩
theorem cl_X9_digest {o : OM} {Y : Pk} {d d2 idx : Nat} {C : Ctr} (hS : Sound o Y_X9_digest d2 C) (hd : d2 + 1 ≤ d) (hl : Cond.methodLink (yN Y).cls idx yX9_digest ∈ wsG ∨ ∃ host, Cond.methodLinkNest (yN Y).cls idx yX9_digest host ∈ nestW) : CallOK o Y d (.invokevirtual idx) (1, rcv 9 2 C) := callV_ok hS hd cw_X9_digest hl w_1622 w_1623 (Or.inl ⟨TX9, 55, rfl⟩) (by decide +kernel)
def Y_X4_read : Pk := (yX4_read, cX4_read, 2, some .int, 1)
def T_X4_read : Tb := ([], [], [], [(26, 103), (32, 104)], [(28, 0)], [], 2)
def V_X4_read : List (Nat × Nat) := [(0, 2), (14, 2), (21, 2)]
def B_X4_read : Bk := [(0, [.iload 1, .ifCond .ne 14, .aload 0, .anewarray 103, .iconst (1), .invokestatic 0, .goto 21], 14), (14, [.aload 0, .anewarray 104, .iconst (2), .invokestatic 0], 21), (21, [.ireturn], 22)]
theorem k_X4_read : chkB T_X4_read cX4_read B_X4_read = true := by decide +kernel
theorem cw_X4_read : calW Y_X4_read := ⟨pn_X4, Or.inr (Or.inl ⟨rfl, rfl⟩), w_483, w_4, mh_X4, by decide⟩
theorem cl_X4_read {o : OM} {Y : Pk} {d d2 idx : Nat} {C : Ctr} (hS : Sound o Y_X4_read d2 C) (hd : d2 + 1 ≤ d) (hl : Cond.methodLink (yN Y).cls idx yX4_read ∈ wsG ∨ ∃ host, Cond.methodLinkNest (yN Y).cls idx yX4_read host ∈ nestW) : CallOK o Y d (.invokevirtual idx) (2, rcv 4 2 C) := callV_ok hS hd cw_X4_read hl w_482 wp_15 (Or.inl ⟨TX4, 4, rfl⟩) (by decide +kernel)
def Y_X8_fault : Pk := (yX8_fault, cX8_fault, 2, some .int, 1)
def T_X8_fault : Tb := ([(36, 8052)], [], [], [], [(159, 0)], [], 2)
def V_X8_fault : List (Nat × Nat) := [(0, 2), (12, 2)]
def B_X8_fault : Bk := [(0, [.iload 1, .ifCond .eq 12, .iload 1, .iconst (1), .if_icmp .eq 12, .iconst (-102), .ireturn], 12), (12, [.aload 0, .getfield 8052, .iload 1, .invokestatic 0, .ireturn], 21)]
theorem k_X8_fault : chkB T_X8_fault cX8_fault B_X8_fault = true := by decide +kernel
theorem cw_X8_fault : calW Y_X8_fault := ⟨pn_X8, Or.inr (Or.inl ⟨rfl, rfl⟩), w_479, w_1, mh_X8, by decide⟩
theorem cl_X8_fault {o : OM} {Y : Pk} {d d2 idx : Nat} {C : Ctr} (hS : Sound o Y_X8_fault d2 C) (hd : d2 + 1 ≤ d) (hl : Cond.methodLink (yN Y).cls idx yX8_fault ∈ wsG ∨ ∃ host, Cond.methodLinkNest (yN Y).cls idx yX8_fault host ∈ nestW) : CallOK o Y d (.invokevirtual idx) (2, rcv 8 2 C) := callV_ok hS hd cw_X8_fault hl w_477 w_478 (Or.inl ⟨TX8, 13, rfl⟩) (by decide +kernel)
def Y_X8_hand : Pk := (yX8_hand, cX8_hand, 1, some .int, 1)
def T_X8_hand : Tb := ([(36, 8052), (162, 4023), (45, 8062), (165, 1010), (151, 4000), (166, 4032)], [], [], [], [(159, 0), (169, 1)], [], 1)
def V_X8_hand : List (Nat × Nat) := [(0, 1), (22, 1), (36, 1)]
def B_X8_hand : Bk := [(0, [.aload 0, .getfield 8052, .iconst (0), .invokestatic 0, .pop, .aload 0, .getfield 8052, .getfield 4023, .ifCond .ne 22, .iconst (-103), .ireturn], 22), (22, [.aload 0, .getfield 8062, .getfield 1010, .iconst (4), .if_icmp .lt 36, .iconst (-104), .ireturn], 36), (36, [.aload 0, .getfield 8052, .iconst (0), .putfield 4000, .aload 0, .getfield 8062, .aload 0, .getfield 8052, .getfield 4032, .invokestatic 1, .ireturn], 59)]
theorem k_X8_hand : chkB T_X8_hand cX8_hand B_X8_hand = true := by decide +kernel
theorem cw_X8_hand : calW Y_X8_hand := ⟨pn_X8, Or.inr (Or.inl ⟨rfl, rfl⟩), w_583, w_1, mh_X8, by decide⟩
theorem cl_X8_hand {o : OM} {Y : Pk} {d d2 idx : Nat} {C : Ctr} (hS : Sound o Y_X8_hand d2 C) (hd : d2 + 1 ≤ d) (hl : Cond.methodLink (yN Y).cls idx yX8_hand ∈ wsG ∨ ∃ host, Cond.methodLinkNest (yN Y).cls idx yX8_hand host ∈ nestW) : CallOK o Y d (.invokevirtual idx) (1, rcv 8 1 C) := callV_ok hS hd cw_X8_hand hl w_581 w_582 (Or.inl ⟨TX8, 13, rfl⟩) (by decide +kernel)
def Y_X8_law : Pk := (yX8_law, cX8_law, 1, some .int, 1)
def T_X8_law : Tb := ([(36, 8052), (162, 4023), (52, 8072), (173, 2000), (151, 4000), (166, 4032)], [], [], [], [(159, 0), (174, 1)], [], 1)
def V_X8_law : List (Nat × Nat) := [(0, 1), (22, 1), (36, 1)]
def B_X8_law : Bk := [(0, [.aload 0, .getfield 8052, .iconst (1), .invokestatic 0, .pop, .aload 0, .getfield 8052, .getfield 4023, .ifCond .ne 22, .iconst (-103), .ireturn], 22), (22, [.aload 0, .getfield 8072, .getfield 2000, .iconst (4), .if_icmp .lt 36, .iconst (-104), .ireturn], 36), (36, [.aload 0, .getfield 8052, .iconst (0), .putfield 4000, .aload 0, .getfield 8072, .aload 0, .getfield 8052, .getfield 4032, .invokestatic 1, .ireturn], 59)]
theorem k_X8_law : chkB T_X8_law cX8_law B_X8_law = true := by decide +kernel
theorem cw_X8_law : calW Y_X8_law := ⟨pn_X8, Or.inr (Or.inl ⟨rfl, rfl⟩), w_594, w_1, mh_X8, by decide⟩
theorem cl_X8_law {o : OM} {Y : Pk} {d d2 idx : Nat} {C : Ctr} (hS : Sound o Y_X8_law d2 C) (hd : d2 + 1 ≤ d) (hl : Cond.methodLink (yN Y).cls idx yX8_law ∈ wsG ∨ ∃ host, Cond.methodLinkNest (yN Y).cls idx yX8_law host ∈ nestW) : CallOK o Y d (.invokevirtual idx) (1, rcv 8 1 C) := callV_ok hS hd cw_X8_law hl w_592 w_593 (Or.inl ⟨TX8, 13, rfl⟩) (by decide +kernel)
end
section
-- ===== small methods =====
def br (c : Prop) (k : List AV → Sto → Prop) (σ : Sto) : Prop := (c → k [vI 1] σ) ∧ (¬ c → k [vI 0] σ)
def A_X8_isWithin : List (Nat × Ctr) := []
theorem e_X8_isWithin (o : OM) : Ev o Y_X8_isWithin 0 T_X8_isWithin A_X8_isWithin := ⟨rfl, fun _ h => absurd h List.not_mem_nil, fun _ h => absurd h List.not_mem_nil, fun _ h => absurd h List.not_mem_nil, fun _ h => absurd h List.not_mem_nil, fun _ h => absurd h List.not_mem_nil, fun _ h => absurd h List.not_mem_nil⟩
def C_X8_isWithin : Ctr := fun A σ k => match A with
  | [.inl a, .inl b, .inl c] => br (b ≤ a ∧ a ≤ c) k σ
  | _ => False
theorem s_X8_isWithin (o : OM) : Sound o Y_X8_isWithin 0 C_X8_isWithin := by
  intro Q A σ hA hC
  match A, hA, hC with
  | [.inl a, .inl b, .inl c], hA, hC =>
    refine at_wpl (lv := V_X8_isWithin) (B := B_X8_isWithin) (e_X8_isWithin o) k_X8_isWithin 4 0 [] _ σ ?_
    obtain ⟨h1, h2⟩ : br (b ≤ a ∧ a ≤ c) Q σ := hC
    simp [st_iconst, st_jsr, st_anewarray, st_iload, st_lload, st_aload, st_istore, st_lstore, st_astore, st_iinc, st_getfield, st_put0, st_put1, st_put3, st_inv, st_goto, st_icmp, st_ifc, st_tsw, st_iadd, st_isub, st_imul, st_ineg, st_idiv, st_irem, st_iand, st_ior, st_ixor, st_ishl, st_ishr, st_iushr, st_ladd, st_lmul, st_ldiv, st_lrem, st_land, st_lor, st_lshl, st_lushr, st_lcmp, st_i2l, st_l2i, st_i2c, st_i2b, st_dupI, st_dupR, st_dup2, st_pop, st_iaload, st_baload, st_aaload, st_iastore, st_bastore, st_alen, st_ireturn, st_lreturn, st_return, wp_c, wp_n, wpl_s, lkp, tbl, dBk, nth, setL, canSet, cmpI, tk, swK, rdF, entL, catS, cat1, arg, rcv, ald, bld, aln, Ccopy, Cmax, Cmin, Cabs, List.take, List.drop, List.reverse, List.reverseAux, List.length, List.append, List.nil_append, List.cons_append, Int.toNat, A_X8_isWithin, V_X8_isWithin, B_X8_isWithin, Y_X8_isWithin]
    trace_state
    sorry
def A_X6_kindOf : List (Nat × Ctr) := []
theorem e_X6_kindOf (o : OM) : Ev o Y_X6_kindOf 0 T_X6_kindOf A_X6_kindOf := ⟨rfl, List.forall_mem_cons.mpr ⟨Or.inl f_X6_22, fun _ h => absurd h List.not_mem_nil⟩, fun _ h => absurd h List.not_mem_nil, fun _ h => absurd h List.not_mem_nil, fun _ h => absurd h List.not_mem_nil, fun _ h => absurd h List.not_mem_nil, fun _ h => absurd h List.not_mem_nil⟩
def C_X6_kindOf : Ctr := fun A σ k => match A with
  | [.inr (.inr (.inl 1)), .inl p, .inl i] => (0 ≤ p ∧ p < 7 ∧ 0 ≤ i ∧ i < 16) ∧ k [vI (σ 13 (p * 16 + i))] σ
  | _ => False
theorem s_X6_kindOf (o : OM) : Sound o Y_X6_kindOf 0 C_X6_kindOf := by
  intro Q A σ hA hC
  match A, hA, hC with
  | [.inr (.inr (.inl 1)), .inl p, .inl i], hA, hC =>
    refine at_wpl (lv := V_X6_kindOf) (B := B_X6_kindOf) (e_X6_kindOf o) k_X6_kindOf 4 0 [] _ σ ?_
    obtain ⟨h1, h2⟩ : (0 ≤ p ∧ p < 7 ∧ 0 ≤ i ∧ i < 16) ∧ Q [vI (σ 13 (p * 16 + i))] σ := hC
    simp [st_iconst, st_jsr, st_anewarray, st_iload, st_lload, st_aload, st_istore, st_lstore, st_astore, st_iinc, st_getfield, st_put0, st_put1, st_put3, st_inv, st_goto, st_icmp, st_ifc, st_tsw, st_iadd, st_isub, st_imul, st_ineg, st_idiv, st_irem, st_iand, st_ior, st_ixor, st_ishl, st_ishr, st_iushr, st_ladd, st_lmul, st_ldiv, st_lrem, st_land, st_lor, st_lshl, st_lushr, st_lcmp, st_i2l, st_l2i, st_i2c, st_i2b, st_dupI, st_dupR, st_dup2, st_pop, st_iaload, st_baload, st_aaload, st_iastore, st_bastore, st_alen, st_ireturn, st_lreturn, st_return, wp_c, wp_n, wpl_s, lkp, tbl, dBk, nth, setL, canSet, cmpI, tk, swK, rdF, entL, catS, cat1, arg, rcv, ald, bld, aln, Ccopy, Cmax, Cmin, Cabs, List.take, List.drop, List.reverse, List.reverseAux, List.length, List.append, List.nil_append, List.cons_append, Int.toNat, A_X6_kindOf, V_X6_kindOf, B_X6_kindOf, Y_X6_kindOf, shpT, rfsT]
    trace_state
    sorry
end
