-- ===== the methods: packs, tables, blocks (printed by wip/tools/emit.py) =====
def Y_X0_isKept : Pk := (yX0_isKept, cX0_isKept, 2, some .boolean, 2)
def T_X0_isKept : Tb := ([(31, 60)], [], [], [], [], [], 2)
def V_X0_isKept : List (Nat × Nat) := [(0, 2), (15, 2), (16, 2)]
def B_X0_isKept : Bk := [(0, [.aload 0, .getfield 60, .iconst (1), .iload 1, .ishl, .iand, .ifCond .eq 15, .iconst (1), .goto 16], 15), (15, [.iconst (0)], 16), (16, [.ireturn], 17)]
theorem k_X0_isKept : chkB T_X0_isKept cX0_isKept B_X0_isKept = true := by decide +kernel
theorem cw_X0_isKept : calW Y_X0_isKept := ⟨pn_X0, Or.inr (Or.inr (Or.inl ⟨rfl, rfl⟩)), w_798, w_3, mh_X0, by decide⟩
theorem cl_X0_isKept {o : OM} {Y : Pk} {d d2 idx : Nat} {C : Ctr} (hS : Sound o Y_X0_isKept d2 C) (hd : d2 + 1 ≤ d) (hl : Cond.methodLink (yN Y).cls idx yX0_isKept ∈ wsG ∨ ∃ host, Cond.methodLinkNest (yN Y).cls idx yX0_isKept host ∈ nestW) : CallOK o Y d (.invokevirtual idx) (2, rcv 0 2 C) := callV_ok hS hd cw_X0_isKept hl w_797 wp_45 (Or.inl ⟨TX0, 11, rfl⟩) (by decide +kernel)
def Y_X0_setKept : Pk := (yX0_setKept, cX0_setKept, 3, none, 0)
def T_X0_setKept : Tb := ([(31, 60)], [], [], [], [], [], 3)
def V_X0_setKept : List (Nat × Nat) := [(0, 3), (16, 3), (26, 3)]
def B_X0_setKept : Bk := [(0, [.aload 0, .iload 2, .ifCond .eq 16, .aload 0, .getfield 60, .iconst (1), .iload 1, .ishl, .ior, .goto 26], 16), (16, [.aload 0, .getfield 60, .iconst (1), .iload 1, .ishl, .iconst (-1), .ixor, .iand], 26), (26, [.putfield 60, .return_], 30)]
theorem k_X0_setKept : chkB T_X0_setKept cX0_setKept B_X0_setKept = true := by decide +kernel
theorem cw_X0_setKept : calW Y_X0_setKept := ⟨pn_X0, Or.inl ⟨rfl, rfl⟩, w_790, w_3, mh_X0, by decide⟩
theorem cl_X0_setKept {o : OM} {Y : Pk} {d d2 idx : Nat} {C : Ctr} (hS : Sound o Y_X0_setKept d2 C) (hd : d2 + 1 ≤ d) (hl : Cond.methodLink (yN Y).cls idx yX0_setKept ∈ wsG ∨ ∃ host, Cond.methodLinkNest (yN Y).cls idx yX0_setKept host ∈ nestW) : CallOK o Y d (.invokevirtual idx) (3, rcv 0 3 C) := callV_ok hS hd cw_X0_setKept hl w_789 wp_44 (Or.inl ⟨TX0, 11, rfl⟩) (by decide +kernel)
def Y_X0_isTied : Pk := (yX0_isTied, cX0_isTied, 2, some .boolean, 2)
def T_X0_isTied : Tb := ([(34, 70)], [], [], [], [], [], 2)
def V_X0_isTied : List (Nat × Nat) := [(0, 2), (15, 2), (16, 2)]
def B_X0_isTied : Bk := [(0, [.aload 0, .getfield 70, .iconst (1), .iload 1, .ishl, .iand, .ifCond .eq 15, .iconst (1), .goto 16], 15), (15, [.iconst (0)], 16), (16, [.ireturn], 17)]
theorem k_X0_isTied : chkB T_X0_isTied cX0_isTied B_X0_isTied = true := by decide +kernel
theorem cw_X0_isTied : calW Y_X0_isTied := ⟨pn_X0, Or.inr (Or.inr (Or.inl ⟨rfl, rfl⟩)), w_808, w_3, mh_X0, by decide⟩
theorem cl_X0_isTied {o : OM} {Y : Pk} {d d2 idx : Nat} {C : Ctr} (hS : Sound o Y_X0_isTied d2 C) (hd : d2 + 1 ≤ d) (hl : Cond.methodLink (yN Y).cls idx yX0_isTied ∈ wsG ∨ ∃ host, Cond.methodLinkNest (yN Y).cls idx yX0_isTied host ∈ nestW) : CallOK o Y d (.invokevirtual idx) (2, rcv 0 2 C) := callV_ok hS hd cw_X0_isTied hl w_807 wp_46 (Or.inl ⟨TX0, 11, rfl⟩) (by decide +kernel)
def Y_X0_dropTie : Pk := (yX0_dropTie, cX0_dropTie, 2, none, 0)
def T_X0_dropTie : Tb := ([(34, 70)], [], [], [], [], [], 2)
def V_X0_dropTie : List (Nat × Nat) := [(0, 2)]
def B_X0_dropTie : Bk := [(0, [.aload 0, .dup, .getfield 70, .iconst (1), .iload 1, .ishl, .iconst (-1), .ixor, .iand, .putfield 70, .return_], 15)]
theorem k_X0_dropTie : chkB T_X0_dropTie cX0_dropTie B_X0_dropTie = true := by decide +kernel
theorem cw_X0_dropTie : calW Y_X0_dropTie := ⟨pn_X0, Or.inl ⟨rfl, rfl⟩, w_820, w_3, mh_X0, by decide⟩
theorem cl_X0_dropTie {o : OM} {Y : Pk} {d d2 idx : Nat} {C : Ctr} (hS : Sound o Y_X0_dropTie d2 C) (hd : d2 + 1 ≤ d) (hl : Cond.methodLink (yN Y).cls idx yX0_dropTie ∈ wsG ∨ ∃ host, Cond.methodLinkNest (yN Y).cls idx yX0_dropTie host ∈ nestW) : CallOK o Y d (.invokevirtual idx) (2, rcv 0 2 C) := callV_ok hS hd cw_X0_dropTie hl w_819 wp_48 (Or.inl ⟨TX0, 11, rfl⟩) (by decide +kernel)
def Y_X0_setTie : Pk := (yX0_setTie, cX0_setTie, 4, none, 0)
def T_X0_setTie : Tb := ([(34, 70), (37, 82), (40, 92)], [], [], [], [], [], 4)
def V_X0_setTie : List (Nat × Nat) := [(0, 4)]
def B_X0_setTie : Bk := [(0, [.aload 0, .dup, .getfield 70, .iconst (1), .iload 1, .ishl, .ior, .putfield 70, .aload 0, .getfield 82, .iload 1, .iload 2, .iastore, .aload 0, .getfield 92, .iload 1, .iload 3, .iastore, .return_], 27)]
theorem k_X0_setTie : chkB T_X0_setTie cX0_setTie B_X0_setTie = true := by decide +kernel
theorem cw_X0_setTie : calW Y_X0_setTie := ⟨pn_X0, Or.inl ⟨rfl, rfl⟩, w_812, w_3, mh_X0, by decide⟩
theorem cl_X0_setTie {o : OM} {Y : Pk} {d d2 idx : Nat} {C : Ctr} (hS : Sound o Y_X0_setTie d2 C) (hd : d2 + 1 ≤ d) (hl : Cond.methodLink (yN Y).cls idx yX0_setTie ∈ wsG ∨ ∃ host, Cond.methodLinkNest (yN Y).cls idx yX0_setTie host ∈ nestW) : CallOK o Y d (.invokevirtual idx) (4, rcv 0 4 C) := callV_ok hS hd cw_X0_setTie hl w_811 wp_47 (Or.inl ⟨TX0, 11, rfl⟩) (by decide +kernel)
def Y_X1_has : Pk := (yX1_has, cX1_has, 2, some .boolean, 2)
def T_X1_has : Tb := ([(9, 1010)], [], [], [], [], [], 2)
def V_X1_has : List (Nat × Nat) := [(0, 2), (17, 2), (18, 2)]
def B_X1_has : Bk := [(0, [.iload 1, .iconst (-1), .if_icmp .lt 17, .iload 1, .aload 0, .getfield 1010, .if_icmp .ge 17, .iconst (1), .goto 18], 17), (17, [.iconst (0)], 18), (18, [.ireturn], 19)]
theorem k_X1_has : chkB T_X1_has cX1_has B_X1_has = true := by decide +kernel
theorem cw_X1_has : calW Y_X1_has := ⟨pn_X1, Or.inr (Or.inr (Or.inl ⟨rfl, rfl⟩)), w_608, w_5, mh_X1, by decide⟩
theorem cl_X1_has {o : OM} {Y : Pk} {d d2 idx : Nat} {C : Ctr} (hS : Sound o Y_X1_has d2 C) (hd : d2 + 1 ≤ d) (hl : Cond.methodLink (yN Y).cls idx yX1_has ∈ wsG ∨ ∃ host, Cond.methodLinkNest (yN Y).cls idx yX1_has host ∈ nestW) : CallOK o Y d (.invokevirtual idx) (2, rcv 1 2 C) := callV_ok hS hd cw_X1_has hl w_607 wp_19 (Or.inl ⟨TX1, 3, rfl⟩) (by decide +kernel)
def Y_X1_halvesOf : Pk := (yX1_halvesOf, cX1_halvesOf, 5, some .int, 1)
def T_X1_halvesOf : Tb := ([(15, 1022)], [], [], [(35, 98)], [], [], 5)
def V_X1_halvesOf : List (Nat × Nat) := [(0, 4), (24, 5), (35, 5), (40, 5)]
def B_X1_halvesOf : Bk := [(0, [.aload 0, .getfield 1022, .iload 1, .iconst (1), .iadd, .iconst (7), .imul, .iload 2, .iadd, .iaload, .istore 4, .iload 4, .iconst (-1), .if_icmp .eq 24, .iload 4, .ireturn], 24), (24, [.iload 2, .iconst (4), .if_icmp .ne 35, .iconst (2), .iload 3, .imul, .goto 40], 35), (35, [.anewarray 98, .iload 2, .iaload], 40), (40, [.ireturn], 41)]
theorem k_X1_halvesOf : chkB T_X1_halvesOf cX1_halvesOf B_X1_halvesOf = true := by decide +kernel
theorem cw_X1_halvesOf : calW Y_X1_halvesOf := ⟨pn_X1, Or.inr (Or.inl ⟨rfl, rfl⟩), w_419, w_5, mh_X1, by decide⟩
theorem cl_X1_halvesOf {o : OM} {Y : Pk} {d d2 idx : Nat} {C : Ctr} (hS : Sound o Y_X1_halvesOf d2 C) (hd : d2 + 1 ≤ d) (hl : Cond.methodLink (yN Y).cls idx yX1_halvesOf ∈ wsG ∨ ∃ host, Cond.methodLinkNest (yN Y).cls idx yX1_halvesOf host ∈ nestW) : CallOK o Y d (.invokevirtual idx) (4, rcv 1 5 C) := callV_ok hS hd cw_X1_halvesOf hl w_418 wp_10 (Or.inl ⟨TX1, 3, rfl⟩) (by decide +kernel)
def Y_X2_has : Pk := (yX2_has, cX2_has, 2, some .boolean, 2)
def T_X2_has : Tb := ([(9, 2000)], [], [], [], [], [], 2)
def V_X2_has : List (Nat × Nat) := [(0, 2), (16, 2), (17, 2)]
def B_X2_has : Bk := [(0, [.iload 1, .ifCond .lt 16, .iload 1, .aload 0, .getfield 2000, .if_icmp .ge 16, .iconst (1), .goto 17], 16), (16, [.iconst (0)], 17), (17, [.ireturn], 18)]
theorem k_X2_has : chkB T_X2_has cX2_has B_X2_has = true := by decide +kernel
theorem cw_X2_has : calW Y_X2_has := ⟨pn_X2, Or.inr (Or.inr (Or.inl ⟨rfl, rfl⟩)), w_684, w_7, mh_X2, by decide⟩
theorem cl_X2_has {o : OM} {Y : Pk} {d d2 idx : Nat} {C : Ctr} (hS : Sound o Y_X2_has d2 C) (hd : d2 + 1 ≤ d) (hl : Cond.methodLink (yN Y).cls idx yX2_has ∈ wsG ∨ ∃ host, Cond.methodLinkNest (yN Y).cls idx yX2_has host ∈ nestW) : CallOK o Y d (.invokevirtual idx) (2, rcv 2 2 C) := callV_ok hS hd cw_X2_has hl w_683 wp_26 (Or.inl ⟨TX2, 2, rfl⟩) (by decide +kernel)
def Y_X2_take : Pk := (yX2_take, cX2_take, 4, some .int, 1)
def T_X2_take : Tb := ([(9, 2000), (15, 2012)], [], [], [(19, 99)], [], [], 4)
def V_X2_take : List (Nat × Nat) := [(0, 2), (12, 3), (14, 4), (43, 4), (46, 4), (53, 4)]
def B_X2_take : Bk := [(0, [.aload 0, .getfield 2000, .istore 2, .iload 2, .iconst (4), .if_icmp .lt 12, .iconst (-1), .ireturn], 12), (12, [.iconst (0), .istore 3], 14), (14, [.iload 3, .iconst (4), .if_icmp .ge 53, .aload 0, .getfield 2012, .iload 2, .iconst (4), .imul, .iload 3, .iadd, .aload 1, .iload 3, .iaload, .iconst (-1), .if_icmp .ne 43, .anewarray 99, .iload 3, .iaload, .goto 46], 43), (43, [.aload 1, .iload 3, .iaload], 46), (46, [.iastore, .iinc 3 1, .goto 14], 53), (53, [.aload 0, .dup, .getfield 2000, .iconst (1), .iadd, .putfield 2000, .iload 2, .ireturn], 65)]
theorem k_X2_take : chkB T_X2_take cX2_take B_X2_take = true := by decide +kernel
theorem cw_X2_take : calW Y_X2_take := ⟨pn_X2, Or.inr (Or.inl ⟨rfl, rfl⟩), w_598, w_7, mh_X2, by decide⟩
theorem cl_X2_take {o : OM} {Y : Pk} {d d2 idx : Nat} {C : Ctr} (hS : Sound o Y_X2_take d2 C) (hd : d2 + 1 ≤ d) (hl : Cond.methodLink (yN Y).cls idx yX2_take ∈ wsG ∨ ∃ host, Cond.methodLinkNest (yN Y).cls idx yX2_take host ∈ nestW) : CallOK o Y d (.invokevirtual idx) (2, rcv 2 4 C) := callV_ok hS hd cw_X2_take hl w_597 wp_18 (Or.inl ⟨TX2, 2, rfl⟩) (by decide +kernel)
def Y_X2_priceOf : Pk := (yX2_priceOf, cX2_priceOf, 3, some .int, 1)
def T_X2_priceOf : Tb := ([(15, 2012)], [], [], [], [], [], 3)
def V_X2_priceOf : List (Nat × Nat) := [(0, 3)]
def B_X2_priceOf : Bk := [(0, [.aload 0, .getfield 2012, .iload 1, .iconst (4), .imul, .iload 2, .iadd, .iaload, .ireturn], 11)]
theorem k_X2_priceOf : chkB T_X2_priceOf cX2_priceOf B_X2_priceOf = true := by decide +kernel
theorem cw_X2_priceOf : calW Y_X2_priceOf := ⟨pn_X2, Or.inr (Or.inl ⟨rfl, rfl⟩), w_699, w_7, mh_X2, by decide⟩
theorem cl_X2_priceOf {o : OM} {Y : Pk} {d d2 idx : Nat} {C : Ctr} (hS : Sound o Y_X2_priceOf d2 C) (hd : d2 + 1 ≤ d) (hl : Cond.methodLink (yN Y).cls idx yX2_priceOf ∈ wsG ∨ ∃ host, Cond.methodLinkNest (yN Y).cls idx yX2_priceOf host ∈ nestW) : CallOK o Y d (.invokevirtual idx) (3, rcv 2 3 C) := callV_ok hS hd cw_X2_priceOf hl w_698 wp_29 (Or.inl ⟨TX2, 2, rfl⟩) (by decide +kernel)
def Y_X3_isFloating : Pk := (yX3_isFloating, cX3_isFloating, 3, some .boolean, 2)
def T_X3_isFloating : Tb := ([(11, 3032)], [(71, 1000000000)], [], [], [], [], 3)
def V_X3_isFloating : List (Nat × Nat) := [(0, 3), (20, 3), (21, 3)]
def B_X3_isFloating : Bk := [(0, [.aload 0, .getfield 3032, .iload 1, .iconst (8), .imul, .iload 2, .iadd, .iaload, .iconst (1000000000), .if_icmp .ne 20, .iconst (1), .goto 21], 20), (20, [.iconst (0)], 21), (21, [.ireturn], 22)]
theorem k_X3_isFloating : chkB T_X3_isFloating cX3_isFloating B_X3_isFloating = true := by decide +kernel
theorem cw_X3_isFloating : calW Y_X3_isFloating := ⟨pn_X3, Or.inr (Or.inr (Or.inl ⟨rfl, rfl⟩)), w_887, w_10, mh_X3, by decide⟩
theorem cl_X3_isFloating {o : OM} {Y : Pk} {d d2 idx : Nat} {C : Ctr} (hS : Sound o Y_X3_isFloating d2 C) (hd : d2 + 1 ≤ d) (hl : Cond.methodLink (yN Y).cls idx yX3_isFloating ∈ wsG ∨ ∃ host, Cond.methodLinkNest (yN Y).cls idx yX3_isFloating host ∈ nestW) : CallOK o Y d (.invokevirtual idx) (3, rcv 3 3 C) := callV_ok hS hd cw_X3_isFloating hl w_886 wp_58 (Or.inl ⟨TX3, 15, rfl⟩) (by decide +kernel)
def Y_X3_endOfSpan : Pk := (yX3_endOfSpan, cX3_endOfSpan, 4, some .int, 1)
def T_X3_endOfSpan : Tb := ([(11, 3032)], [], [], [], [], [], 4)
def V_X3_endOfSpan : List (Nat × Nat) := [(0, 4), (19, 4), (30, 4)]
def B_X3_endOfSpan : Bk := [(0, [.iload 3, .ifCond .ne 19, .aload 0, .getfield 3032, .iload 2, .iconst (8), .imul, .iload 1, .iadd, .iaload, .ineg, .goto 30], 19), (19, [.aload 0, .getfield 3032, .iload 1, .iconst (8), .imul, .iload 2, .iadd, .iaload], 30), (30, [.ireturn], 31)]
theorem k_X3_endOfSpan : chkB T_X3_endOfSpan cX3_endOfSpan B_X3_endOfSpan = true := by decide +kernel
theorem cw_X3_endOfSpan : calW Y_X3_endOfSpan := ⟨pn_X3, Or.inr (Or.inl ⟨rfl, rfl⟩), w_891, w_10, mh_X3, by decide⟩
theorem cl_X3_endOfSpan {o : OM} {Y : Pk} {d d2 idx : Nat} {C : Ctr} (hS : Sound o Y_X3_endOfSpan d2 C) (hd : d2 + 1 ≤ d) (hl : Cond.methodLink (yN Y).cls idx yX3_endOfSpan ∈ wsG ∨ ∃ host, Cond.methodLinkNest (yN Y).cls idx yX3_endOfSpan host ∈ nestW) : CallOK o Y d (.invokevirtual idx) (4, rcv 3 4 C) := callV_ok hS hd cw_X3_endOfSpan hl w_890 wp_59 (Or.inl ⟨TX3, 15, rfl⟩) (by decide +kernel)
def Y_X3_hasAsh : Pk := (yX3_hasAsh, cX3_hasAsh, 3, some .boolean, 2)
def T_X3_hasAsh : Tb := ([(26, 3072)], [], [], [], [], [], 3)
def V_X3_hasAsh : List (Nat × Nat) := [(0, 3), (19, 3), (20, 3)]
def B_X3_hasAsh : Bk := [(0, [.aload 0, .getfield 3072, .iload 1, .iconst (10), .imul, .iload 2, .iadd, .iaload, .iconst (-1), .if_icmp .eq 19, .iconst (1), .goto 20], 19), (19, [.iconst (0)], 20), (20, [.ireturn], 21)]
theorem k_X3_hasAsh : chkB T_X3_hasAsh cX3_hasAsh B_X3_hasAsh = true := by decide +kernel
theorem cw_X3_hasAsh : calW Y_X3_hasAsh := ⟨pn_X3, Or.inr (Or.inr (Or.inl ⟨rfl, rfl⟩)), w_857, w_10, mh_X3, by decide⟩
theorem cl_X3_hasAsh {o : OM} {Y : Pk} {d d2 idx : Nat} {C : Ctr} (hS : Sound o Y_X3_hasAsh d2 C) (hd : d2 + 1 ≤ d) (hl : Cond.methodLink (yN Y).cls idx yX3_hasAsh ∈ wsG ∨ ∃ host, Cond.methodLinkNest (yN Y).cls idx yX3_hasAsh host ∈ nestW) : CallOK o Y d (.invokevirtual idx) (3, rcv 3 3 C) := callV_ok hS hd cw_X3_hasAsh hl w_856 wp_54 (Or.inl ⟨TX3, 15, rfl⟩) (by decide +kernel)
def Y_X3_bound : Pk := (yX3_bound, cX3_bound, 8, some .boolean, 2)
def T_X3_bound : Tb := ([], [(71, 1000000000)], [], [], [], [], 8)
def V_X3_bound : List (Nat × Nat) := [(0, 4), (14, 4), (29, 4), (32, 5), (53, 7), (122, 8), (128, 7), (134, 5)]
def B_X3_bound : Bk := [(0, [.iload 3, .aload 0, .iload 1, .iconst (8), .imul, .iload 2, .iadd, .iaload, .if_icmp .lt 14, .iconst (1), .ireturn], 14), (14, [.aload 0, .iload 2, .iconst (8), .imul, .iload 1, .iadd, .iaload, .iload 3, .iadd, .ifCond .ge 29, .iconst (0), .ireturn], 29), (29, [.iconst (0), .istore 4], 32), (32, [.iload 4, .iconst (8), .if_icmp .ge 134, .aload 0, .iload 4, .iconst (8), .imul, .iload 1, .iadd, .iaload, .istore 5, .iconst (0), .istore 6], 53), (53, [.iload 5, .iconst (1000000000), .if_icmp .eq 128, .iload 6, .iconst (8), .if_icmp .ge 128, .aload 0, .iload 2, .iconst (8), .imul, .iload 6, .iadd, .iaload, .istore 7, .iload 7, .iconst (1000000000), .if_icmp .eq 122, .iload 5, .iload 3, .iadd, .iload 7, .iadd, .aload 0, .iload 4, .iconst (8), .imul, .iload 6, .iadd, .iaload, .if_icmp .ge 122, .aload 0, .iload 4, .iconst (8), .imul, .iload 6, .iadd, .iload 5, .iload 3, .iadd, .iload 7, .iadd, .iastore], 122), (122, [.iinc 6 1, .goto 53], 128), (128, [.iinc 4 1, .goto 32], 134), (134, [.iconst (1), .ireturn], 136)]
theorem k_X3_bound : chkB T_X3_bound cX3_bound B_X3_bound = true := by decide +kernel
theorem cw_X3_bound : calW Y_X3_bound := ⟨pn_X3, Or.inr (Or.inr (Or.inl ⟨rfl, rfl⟩)), w_863, w_10, mh_X3, by decide⟩
theorem cl_X3_bound {o : OM} {Y : Pk} {d d2 idx : Nat} {C : Ctr} (hS : Sound o Y_X3_bound d2 C) (hd : d2 + 1 ≤ d) (hl : Cond.methodLink (yN Y).cls idx yX3_bound ∈ wsG ∨ ∃ host, Cond.methodLinkNest (yN Y).cls idx yX3_bound host ∈ nestW) : CallOK o Y d (.invokestatic idx) (4, arg 8 C) := callS_ok hS hd cw_X3_bound hl w_862 (by decide +kernel)
def Y_X3_hangTogether : Pk := (yX3_hangTogether, cX3_hangTogether, 6, none, 0)
def T_X3_hangTogether : Tb := ([(29, 3082)], [], [], [], [], [], 6)
def V_X3_hangTogether : List (Nat × Nat) := [(0, 3), (18, 6), (45, 6), (51, 6)]
def B_X3_hangTogether : Bk := [(0, [.aload 0, .getfield 3082, .iload 2, .iaload, .istore 3, .aload 0, .getfield 3082, .iload 1, .iaload, .istore 4, .iconst (0), .istore 5], 18), (18, [.iload 5, .iconst (8), .if_icmp .ge 51, .aload 0, .getfield 3082, .iload 5, .iaload, .iload 3, .if_icmp .ne 45, .aload 0, .getfield 3082, .iload 5, .iload 4, .iastore], 45), (45, [.iinc 5 1, .goto 18], 51), (51, [.return_], 52)]
theorem k_X3_hangTogether : chkB T_X3_hangTogether cX3_hangTogether B_X3_hangTogether = true := by decide +kernel
theorem cw_X3_hangTogether : calW Y_X3_hangTogether := ⟨pn_X3, Or.inl ⟨rfl, rfl⟩, w_907, w_10, mh_X3, by decide⟩
theorem cl_X3_hangTogether {o : OM} {Y : Pk} {d d2 idx : Nat} {C : Ctr} (hS : Sound o Y_X3_hangTogether d2 C) (hd : d2 + 1 ≤ d) (hl : Cond.methodLink (yN Y).cls idx yX3_hangTogether ∈ wsG ∨ ∃ host, Cond.methodLinkNest (yN Y).cls idx yX3_hangTogether host ∈ nestW) : CallOK o Y d (.invokevirtual idx) (3, rcv 3 6 C) := callV_ok hS hd cw_X3_hangTogether hl w_906 wp_61 (Or.inl ⟨TX3, 15, rfl⟩) (by decide +kernel)
def Y_X3_groupOfFirst : Pk := (yX3_groupOfFirst, cX3_groupOfFirst, 3, some .int, 1)
def T_X3_groupOfFirst : Tb := ([(51, 3002), (85, 6000), (29, 3082)], [], [], [], [], [], 3)
def V_X3_groupOfFirst : List (Nat × Nat) := [(0, 1), (4, 3), (36, 3), (42, 3)]
def B_X3_groupOfFirst : Bk := [(0, [.iconst (0), .istore 1, .iconst (0), .istore 2], 4), (4, [.iload 2, .aload 0, .getfield 3002, .getfield 6000, .if_icmp .ge 42, .aload 0, .getfield 3082, .iload 2, .iaload, .aload 0, .getfield 3082, .iconst (0), .iaload, .if_icmp .ne 36, .iload 1, .iconst (1), .iload 2, .ishl, .ior, .istore 1], 36), (36, [.iinc 2 1, .goto 4], 42), (42, [.iload 1, .ireturn], 44)]
theorem k_X3_groupOfFirst : chkB T_X3_groupOfFirst cX3_groupOfFirst B_X3_groupOfFirst = true := by decide +kernel
theorem cw_X3_groupOfFirst : calW Y_X3_groupOfFirst := ⟨pn_X3, Or.inr (Or.inl ⟨rfl, rfl⟩), w_925, w_10, mh_X3, by decide⟩
theorem cl_X3_groupOfFirst {o : OM} {Y : Pk} {d d2 idx : Nat} {C : Ctr} (hS : Sound o Y_X3_groupOfFirst d2 C) (hd : d2 + 1 ≤ d) (hl : Cond.methodLink (yN Y).cls idx yX3_groupOfFirst ∈ wsG ∨ ∃ host, Cond.methodLinkNest (yN Y).cls idx yX3_groupOfFirst host ∈ nestW) : CallOK o Y d (.invokevirtual idx) (1, rcv 3 3 C) := callV_ok hS hd cw_X3_groupOfFirst hl w_924 wp_64 (Or.inl ⟨TX3, 15, rfl⟩) (by decide +kernel)
def Y_X3_widthOf : Pk := (yX3_widthOf, cX3_widthOf, 3, some .int, 1)
def T_X3_widthOf : Tb := ([(11, 3032)], [], [], [], [], [], 3)
def V_X3_widthOf : List (Nat × Nat) := [(0, 3)]
def B_X3_widthOf : Bk := [(0, [.aload 0, .getfield 3032, .iload 1, .iconst (8), .imul, .iload 2, .iadd, .iaload, .aload 0, .getfield 3032, .iload 2, .iconst (8), .imul, .iload 1, .iadd, .iaload, .iadd, .ireturn], 24)]
theorem k_X3_widthOf : chkB T_X3_widthOf cX3_widthOf B_X3_widthOf = true := by decide +kernel
theorem cw_X3_widthOf : calW Y_X3_widthOf := ⟨pn_X3, Or.inr (Or.inl ⟨rfl, rfl⟩), w_970, w_10, mh_X3, by decide⟩
theorem cl_X3_widthOf {o : OM} {Y : Pk} {d d2 idx : Nat} {C : Ctr} (hS : Sound o Y_X3_widthOf d2 C) (hd : d2 + 1 ≤ d) (hl : Cond.methodLink (yN Y).cls idx yX3_widthOf ∈ wsG ∨ ∃ host, Cond.methodLinkNest (yN Y).cls idx yX3_widthOf host ∈ nestW) : CallOK o Y d (.invokevirtual idx) (3, rcv 3 3 C) := callV_ok hS hd cw_X3_widthOf hl w_969 wp_72 (Or.inl ⟨TX3, 15, rfl⟩) (by decide +kernel)
def Y_X4_write : Pk := (yX4_write, cX4_write, 2, none, 0)
def T_X4_write : Tb := ([(9, 4000), (15, 4012)], [], [], [], [], [], 2)
def V_X4_write : List (Nat × Nat) := [(0, 2), (29, 2)]
def B_X4_write : Bk := [(0, [.aload 0, .getfield 4000, .iconst (30), .if_icmp .ge 29, .aload 0, .getfield 4012, .aload 0, .getfield 4000, .iload 1, .iastore, .aload 0, .dup, .getfield 4000, .iconst (1), .iadd, .putfield 4000], 29), (29, [.return_], 30)]
theorem k_X4_write : chkB T_X4_write cX4_write B_X4_write = true := by decide +kernel
theorem cw_X4_write : calW Y_X4_write := ⟨pn_X4, Or.inl ⟨rfl, rfl⟩, w_471, w_4, mh_X4, by decide⟩
theorem cl_X4_write {o : OM} {Y : Pk} {d d2 idx : Nat} {C : Ctr} (hS : Sound o Y_X4_write d2 C) (hd : d2 + 1 ≤ d) (hl : Cond.methodLink (yN Y).cls idx yX4_write ∈ wsG ∨ ∃ host, Cond.methodLinkNest (yN Y).cls idx yX4_write host ∈ nestW) : CallOK o Y d (.invokevirtual idx) (2, rcv 4 2 C) := callV_ok hS hd cw_X4_write hl w_470 wp_14 (Or.inl ⟨TX4, 4, rfl⟩) (by decide +kernel)
def Y_X5_leastOfAll : Pk := (yX5_leastOfAll, cX5_leastOfAll, 1, some .int, 1)
def T_X5_leastOfAll : Tb := ([(49, 5142)], [], [], [], [], [], 1)
def V_X5_leastOfAll : List (Nat × Nat) := [(0, 1)]
def B_X5_leastOfAll : Bk := [(0, [.aload 0, .getfield 5142, .iconst (0), .iaload, .ireturn], 7)]
theorem k_X5_leastOfAll : chkB T_X5_leastOfAll cX5_leastOfAll B_X5_leastOfAll = true := by decide +kernel
theorem cw_X5_leastOfAll : calW Y_X5_leastOfAll := ⟨pn_X5, Or.inr (Or.inl ⟨rfl, rfl⟩), w_746, w_9, mh_X5, by decide⟩
theorem cl_X5_leastOfAll {o : OM} {Y : Pk} {d d2 idx : Nat} {C : Ctr} (hS : Sound o Y_X5_leastOfAll d2 C) (hd : d2 + 1 ≤ d) (hl : Cond.methodLink (yN Y).cls idx yX5_leastOfAll ∈ wsG ∨ ∃ host, Cond.methodLinkNest (yN Y).cls idx yX5_leastOfAll host ∈ nestW) : CallOK o Y d (.invokevirtual idx) (1, rcv 5 1 C) := callV_ok hS hd cw_X5_leastOfAll hl w_745 wp_37 (Or.inl ⟨TX5, 20, rfl⟩) (by decide +kernel)
def Y_X5_waysOfAll : Pk := (yX5_waysOfAll, cX5_waysOfAll, 1, some .int, 1)
def T_X5_waysOfAll : Tb := ([(52, 5152)], [], [], [], [], [], 1)
def V_X5_waysOfAll : List (Nat × Nat) := [(0, 1)]
def B_X5_waysOfAll : Bk := [(0, [.aload 0, .getfield 5152, .iconst (0), .iaload, .ireturn], 7)]
theorem k_X5_waysOfAll : chkB T_X5_waysOfAll cX5_waysOfAll B_X5_waysOfAll = true := by decide +kernel
theorem cw_X5_waysOfAll : calW Y_X5_waysOfAll := ⟨pn_X5, Or.inr (Or.inl ⟨rfl, rfl⟩), w_750, w_9, mh_X5, by decide⟩
theorem cl_X5_waysOfAll {o : OM} {Y : Pk} {d d2 idx : Nat} {C : Ctr} (hS : Sound o Y_X5_waysOfAll d2 C) (hd : d2 + 1 ≤ d) (hl : Cond.methodLink (yN Y).cls idx yX5_waysOfAll ∈ wsG ∨ ∃ host, Cond.methodLinkNest (yN Y).cls idx yX5_waysOfAll host ∈ nestW) : CallOK o Y d (.invokevirtual idx) (1, rcv 5 1 C) := callV_ok hS hd cw_X5_waysOfAll hl w_749 wp_38 (Or.inl ⟨TX5, 20, rfl⟩) (by decide +kernel)
def Y_X5_canStep : Pk := (yX5_canStep, cX5_canStep, 4, some .boolean, 2)
def T_X5_canStep : Tb := ([(43, 5120), (46, 5130), (24, 5060), (28, 5070)], [], [], [(126, 100), (129, 101)], [], [], 4)
def V_X5_canStep : List (Nat × Nat) := [(0, 4), (22, 4), (54, 4), (55, 4)]
def B_X5_canStep : Bk := [(0, [.iload 1, .ifCond .ne 22, .iload 2, .aload 0, .getfield 5120, .if_icmp .ne 22, .iload 3, .aload 0, .getfield 5130, .if_icmp .ne 22, .iconst (0), .ireturn], 22), (22, [.iload 2, .anewarray 100, .iload 1, .iaload, .iadd, .aload 0, .getfield 5060, .if_icmp .gt 54, .iload 3, .anewarray 101, .iload 1, .iaload, .iadd, .aload 0, .getfield 5070, .if_icmp .gt 54, .iconst (1), .goto 55], 54), (54, [.iconst (0)], 55), (55, [.ireturn], 56)]
theorem k_X5_canStep : chkB T_X5_canStep cX5_canStep B_X5_canStep = true := by decide +kernel
theorem cw_X5_canStep : calW Y_X5_canStep := ⟨pn_X5, Or.inr (Or.inr (Or.inl ⟨rfl, rfl⟩)), w_711, w_9, mh_X5, by decide⟩
theorem cl_X5_canStep {o : OM} {Y : Pk} {d d2 idx : Nat} {C : Ctr} (hS : Sound o Y_X5_canStep d2 C) (hd : d2 + 1 ≤ d) (hl : Cond.methodLink (yN Y).cls idx yX5_canStep ∈ wsG ∨ ∃ host, Cond.methodLinkNest (yN Y).cls idx yX5_canStep host ∈ nestW) : CallOK o Y d (.invokevirtual idx) (4, rcv 5 4 C) := callV_ok hS hd cw_X5_canStep hl w_710 wp_32 (Or.inl ⟨TX5, 20, rfl⟩) (by decide +kernel)
def Y_X5_placeAfter : Pk := (yX5_placeAfter, cX5_placeAfter, 4, some .int, 1)
def T_X5_placeAfter : Tb := ([], [], [], [(126, 100), (129, 101)], [], [], 4)
def V_X5_placeAfter : List (Nat × Nat) := [(0, 4)]
def B_X5_placeAfter : Bk := [(0, [.iload 2, .anewarray 100, .iload 1, .iaload, .iadd, .iconst (17), .imul, .iload 3, .iadd, .anewarray 101, .iload 1, .iaload, .iadd, .ireturn], 19)]
theorem k_X5_placeAfter : chkB T_X5_placeAfter cX5_placeAfter B_X5_placeAfter = true := by decide +kernel
theorem cw_X5_placeAfter : calW Y_X5_placeAfter := ⟨pn_X5, Or.inr (Or.inl ⟨rfl, rfl⟩), w_719, w_9, mh_X5, by decide⟩
theorem cl_X5_placeAfter {o : OM} {Y : Pk} {d d2 idx : Nat} {C : Ctr} (hS : Sound o Y_X5_placeAfter d2 C) (hd : d2 + 1 ≤ d) (hl : Cond.methodLink (yN Y).cls idx yX5_placeAfter ∈ wsG ∨ ∃ host, Cond.methodLinkNest (yN Y).cls idx yX5_placeAfter host ∈ nestW) : CallOK o Y d (.invokevirtual idx) (4, rcv 5 4 C) := callV_ok hS hd cw_X5_placeAfter hl w_718 wp_33 (Or.inl ⟨TX5, 20, rfl⟩) (by decide +kernel)
def Y_X5_ashesFrom : Pk := (yX5_ashesFrom, cX5_ashesFrom, 3, some .int, 1)
def T_X5_ashesFrom : Tb := ([], [], [], [], [], [], 3)
def V_X5_ashesFrom : List (Nat × Nat) := [(0, 2), (11, 2), (12, 2), (26, 3), (29, 3)]
def B_X5_ashesFrom : Bk := [(0, [.aload 0, .iload 1, .iaload, .iconst (-1), .if_icmp .ne 11, .iconst (0), .goto 12], 11), (11, [.iconst (1)], 12), (12, [.istore 2, .aload 0, .iload 1, .iconst (1), .iadd, .iaload, .iconst (-1), .if_icmp .ne 26, .iload 2, .goto 29], 26), (26, [.iload 2, .iconst (1), .iadd], 29), (29, [.ireturn], 30)]
theorem k_X5_ashesFrom : chkB T_X5_ashesFrom cX5_ashesFrom B_X5_ashesFrom = true := by decide +kernel
theorem cw_X5_ashesFrom : calW Y_X5_ashesFrom := ⟨pn_X5, Or.inr (Or.inl ⟨rfl, rfl⟩), w_736, w_9, mh_X5, by decide⟩
theorem cl_X5_ashesFrom {o : OM} {Y : Pk} {d d2 idx : Nat} {C : Ctr} (hS : Sound o Y_X5_ashesFrom d2 C) (hd : d2 + 1 ≤ d) (hl : Cond.methodLink (yN Y).cls idx yX5_ashesFrom ∈ wsG ∨ ∃ host, Cond.methodLinkNest (yN Y).cls idx yX5_ashesFrom host ∈ nestW) : CallOK o Y d (.invokestatic idx) (2, arg 3 C) := callS_ok hS hd cw_X5_ashesFrom hl w_735 (by decide +kernel)
def Y_X6_has : Pk := (yX6_has, cX6_has, 2, some .boolean, 2)
def T_X6_has : Tb := ([(9, 6000)], [], [], [], [], [], 2)
def V_X6_has : List (Nat × Nat) := [(0, 2), (16, 2), (17, 2)]
def B_X6_has : Bk := [(0, [.iload 1, .ifCond .lt 16, .iload 1, .aload 0, .getfield 6000, .if_icmp .ge 16, .iconst (1), .goto 17], 16), (16, [.iconst (0)], 17), (17, [.ireturn], 18)]
theorem k_X6_has : chkB T_X6_has cX6_has B_X6_has = true := by decide +kernel
theorem cw_X6_has : calW Y_X6_has := ⟨pn_X6, Or.inr (Or.inr (Or.inl ⟨rfl, rfl⟩)), w_367, w_2, mh_X6, by decide⟩
theorem cl_X6_has {o : OM} {Y : Pk} {d d2 idx : Nat} {C : Ctr} (hS : Sound o Y_X6_has d2 C) (hd : d2 + 1 ≤ d) (hl : Cond.methodLink (yN Y).cls idx yX6_has ∈ wsG ∨ ∃ host, Cond.methodLinkNest (yN Y).cls idx yX6_has host ∈ nestW) : CallOK o Y d (.invokevirtual idx) (2, rcv 6 2 C) := callV_ok hS hd cw_X6_has hl w_366 wp_1 (Or.inl ⟨TX6, 6, rfl⟩) (by decide +kernel)
def Y_X6_open : Pk := (yX6_open, cX6_open, 3, some .int, 1)
def T_X6_open : Tb := ([(9, 6000), (15, 6012), (19, 6022)], [], [], [], [], [], 3)
def V_X6_open : List (Nat × Nat) := [(0, 2), (13, 3)]
def B_X6_open : Bk := [(0, [.aload 0, .getfield 6000, .istore 2, .iload 2, .iconst (7), .if_icmp .lt 13, .iconst (-1), .ireturn], 13), (13, [.aload 0, .getfield 6012, .iload 2, .iload 1, .iastore, .aload 0, .getfield 6022, .iload 2, .iconst (0), .iastore, .aload 0, .dup, .getfield 6000, .iconst (1), .iadd, .putfield 6000, .iload 2, .ireturn], 39)]
theorem k_X6_open : chkB T_X6_open cX6_open B_X6_open = true := by decide +kernel
theorem cw_X6_open : calW Y_X6_open := ⟨pn_X6, Or.inr (Or.inl ⟨rfl, rfl⟩), w_359, w_2, mh_X6, by decide⟩
theorem cl_X6_open {o : OM} {Y : Pk} {d d2 idx : Nat} {C : Ctr} (hS : Sound o Y_X6_open d2 C) (hd : d2 + 1 ≤ d) (hl : Cond.methodLink (yN Y).cls idx yX6_open ∈ wsG ∨ ∃ host, Cond.methodLinkNest (yN Y).cls idx yX6_open host ∈ nestW) : CallOK o Y d (.invokevirtual idx) (2, rcv 6 3 C) := callV_ok hS hd cw_X6_open hl w_358 wp_0 (Or.inl ⟨TX6, 6, rfl⟩) (by decide +kernel)
def Y_X6_put : Pk := (yX6_put, cX6_put, 7, none, 0)
def T_X6_put : Tb := ([(22, 6032), (25, 6042), (28, 6052)], [], [], [], [], [], 7)
def V_X6_put : List (Nat × Nat) := [(0, 6)]
def B_X6_put : Bk := [(0, [.iload 1, .iconst (16), .imul, .iload 2, .iadd, .istore 6, .aload 0, .getfield 6032, .iload 6, .iload 3, .iastore, .aload 0, .getfield 6042, .iload 6, .iload 4, .iastore, .aload 0, .getfield 6052, .iload 6, .iload 5, .iastore, .return_], 35)]
theorem k_X6_put : chkB T_X6_put cX6_put B_X6_put = true := by decide +kernel
theorem cw_X6_put : calW Y_X6_put := ⟨pn_X6, Or.inl ⟨rfl, rfl⟩, w_378, w_2, mh_X6, by decide⟩
theorem cl_X6_put {o : OM} {Y : Pk} {d d2 idx : Nat} {C : Ctr} (hS : Sound o Y_X6_put d2 C) (hd : d2 + 1 ≤ d) (hl : Cond.methodLink (yN Y).cls idx yX6_put ∈ wsG ∨ ∃ host, Cond.methodLinkNest (yN Y).cls idx yX6_put host ∈ nestW) : CallOK o Y d (.invokevirtual idx) (6, rcv 6 7 C) := callV_ok hS hd cw_X6_put hl w_377 wp_3 (Or.inl ⟨TX6, 6, rfl⟩) (by decide +kernel)
def Y_X6_kindOf : Pk := (yX6_kindOf, cX6_kindOf, 3, some .int, 1)
def T_X6_kindOf : Tb := ([(22, 6032)], [], [], [], [], [], 3)
def V_X6_kindOf : List (Nat × Nat) := [(0, 3)]
def B_X6_kindOf : Bk := [(0, [.aload 0, .getfield 6032, .iload 1, .iconst (16), .imul, .iload 2, .iadd, .iaload, .ireturn], 12)]
theorem k_X6_kindOf : chkB T_X6_kindOf cX6_kindOf B_X6_kindOf = true := by decide +kernel
theorem cw_X6_kindOf : calW Y_X6_kindOf := ⟨pn_X6, Or.inr (Or.inl ⟨rfl, rfl⟩), w_391, w_2, mh_X6, by decide⟩
theorem cl_X6_kindOf {o : OM} {Y : Pk} {d d2 idx : Nat} {C : Ctr} (hS : Sound o Y_X6_kindOf d2 C) (hd : d2 + 1 ≤ d) (hl : Cond.methodLink (yN Y).cls idx yX6_kindOf ∈ wsG ∨ ∃ host, Cond.methodLinkNest (yN Y).cls idx yX6_kindOf host ∈ nestW) : CallOK o Y d (.invokevirtual idx) (3, rcv 6 3 C) := callV_ok hS hd cw_X6_kindOf hl w_390 wp_5 (Or.inl ⟨TX6, 6, rfl⟩) (by decide +kernel)
def Y_X6_thicknessOf : Pk := (yX6_thicknessOf, cX6_thicknessOf, 3, some .int, 1)
def T_X6_thicknessOf : Tb := ([(25, 6042)], [], [], [], [], [], 3)
def V_X6_thicknessOf : List (Nat × Nat) := [(0, 3)]
def B_X6_thicknessOf : Bk := [(0, [.aload 0, .getfield 6042, .iload 1, .iconst (16), .imul, .iload 2, .iadd, .iaload, .ireturn], 12)]
theorem k_X6_thicknessOf : chkB T_X6_thicknessOf cX6_thicknessOf B_X6_thicknessOf = true := by decide +kernel
theorem cw_X6_thicknessOf : calW Y_X6_thicknessOf := ⟨pn_X6, Or.inr (Or.inl ⟨rfl, rfl⟩), w_429, w_2, mh_X6, by decide⟩
theorem cl_X6_thicknessOf {o : OM} {Y : Pk} {d d2 idx : Nat} {C : Ctr} (hS : Sound o Y_X6_thicknessOf d2 C) (hd : d2 + 1 ≤ d) (hl : Cond.methodLink (yN Y).cls idx yX6_thicknessOf ∈ wsG ∨ ∃ host, Cond.methodLinkNest (yN Y).cls idx yX6_thicknessOf host ∈ nestW) : CallOK o Y d (.invokevirtual idx) (3, rcv 6 3 C) := callV_ok hS hd cw_X6_thicknessOf hl w_428 wp_12 (Or.inl ⟨TX6, 6, rfl⟩) (by decide +kernel)
def Y_X6_nOf : Pk := (yX6_nOf, cX6_nOf, 3, some .int, 1)
def T_X6_nOf : Tb := ([(28, 6052)], [], [], [], [], [], 3)
def V_X6_nOf : List (Nat × Nat) := [(0, 3)]
def B_X6_nOf : Bk := [(0, [.aload 0, .getfield 6052, .iload 1, .iconst (16), .imul, .iload 2, .iadd, .iaload, .ireturn], 12)]
theorem k_X6_nOf : chkB T_X6_nOf cX6_nOf B_X6_nOf = true := by decide +kernel
theorem cw_X6_nOf : calW Y_X6_nOf := ⟨pn_X6, Or.inr (Or.inl ⟨rfl, rfl⟩), w_415, w_2, mh_X6, by decide⟩
theorem cl_X6_nOf {o : OM} {Y : Pk} {d d2 idx : Nat} {C : Ctr} (hS : Sound o Y_X6_nOf d2 C) (hd : d2 + 1 ≤ d) (hl : Cond.methodLink (yN Y).cls idx yX6_nOf ∈ wsG ∨ ∃ host, Cond.methodLinkNest (yN Y).cls idx yX6_nOf host ∈ nestW) : CallOK o Y d (.invokevirtual idx) (3, rcv 6 3 C) := callV_ok hS hd cw_X6_nOf hl w_414 wp_9 (Or.inl ⟨TX6, 6, rfl⟩) (by decide +kernel)
def Y_X6_leavesOfAll : Pk := (yX6_leavesOfAll, cX6_leavesOfAll, 3, some .int, 1)
def T_X6_leavesOfAll : Tb := ([(9, 6000), (19, 6022)], [], [], [], [], [], 3)
def V_X6_leavesOfAll : List (Nat × Nat) := [(0, 1), (4, 3), (27, 3)]
def B_X6_leavesOfAll : Bk := [(0, [.iconst (0), .istore 1, .iconst (0), .istore 2], 4), (4, [.iload 2, .aload 0, .getfield 6000, .if_icmp .ge 27, .iload 1, .aload 0, .getfield 6022, .iload 2, .iaload, .iadd, .istore 1, .iinc 2 1, .goto 4], 27), (27, [.iload 1, .ireturn], 29)]
theorem k_X6_leavesOfAll : chkB T_X6_leavesOfAll cX6_leavesOfAll B_X6_leavesOfAll = true := by decide +kernel
theorem cw_X6_leavesOfAll : calW Y_X6_leavesOfAll := ⟨pn_X6, Or.inr (Or.inl ⟨rfl, rfl⟩), w_1050, w_2, mh_X6, by decide⟩
theorem cl_X6_leavesOfAll {o : OM} {Y : Pk} {d d2 idx : Nat} {C : Ctr} (hS : Sound o Y_X6_leavesOfAll d2 C) (hd : d2 + 1 ≤ d) (hl : Cond.methodLink (yN Y).cls idx yX6_leavesOfAll ∈ wsG ∨ ∃ host, Cond.methodLinkNest (yN Y).cls idx yX6_leavesOfAll host ∈ nestW) : CallOK o Y d (.invokevirtual idx) (1, rcv 6 3 C) := callV_ok hS hd cw_X6_leavesOfAll hl w_1049 wp_84 (Or.inl ⟨TX6, 6, rfl⟩) (by decide +kernel)
def Y_X7_turnedPlace : Pk := (yX7_turnedPlace, cX7_turnedPlace, 3, some .int, 1)
def T_X7_turnedPlace : Tb := ([], [], [], [], [], [], 3)
def V_X7_turnedPlace : List (Nat × Nat) := [(0, 3), (13, 3), (18, 3)]
def B_X7_turnedPlace : Bk := [(0, [.iload 0, .iload 1, .iadd, .iload 2, .if_icmp .ge 13, .iload 0, .iload 1, .iadd, .goto 18], 13), (13, [.iload 0, .iload 1, .iadd, .iload 2, .isub], 18), (18, [.ireturn], 19)]
theorem k_X7_turnedPlace : chkB T_X7_turnedPlace cX7_turnedPlace B_X7_turnedPlace = true := by decide +kernel
theorem cw_X7_turnedPlace : calW Y_X7_turnedPlace := ⟨pn_X7, Or.inr (Or.inl ⟨rfl, rfl⟩), w_643, w_8, mh_X7, by decide⟩
theorem cl_X7_turnedPlace {o : OM} {Y : Pk} {d d2 idx : Nat} {C : Ctr} (hS : Sound o Y_X7_turnedPlace d2 C) (hd : d2 + 1 ≤ d) (hl : Cond.methodLink (yN Y).cls idx yX7_turnedPlace ∈ wsG ∨ ∃ host, Cond.methodLinkNest (yN Y).cls idx yX7_turnedPlace host ∈ nestW) : CallOK o Y d (.invokestatic idx) (3, arg 3 C) := callS_ok hS hd cw_X7_turnedPlace hl w_642 (by decide +kernel)
def Y_X8_blank : Pk := (yX8_blank, cX8_blank, 2, some .int, 1)
def T_X8_blank : Tb := ([(36, 8052), (151, 4000)], [], [], [], [], [], 2)
def V_X8_blank : List (Nat × Nat) := [(0, 1)]
def B_X8_blank : Bk := [(0, [.aload 0, .getfield 8052, .getfield 4000, .istore 1, .aload 0, .getfield 8052, .iconst (0), .putfield 4000, .iload 1, .ireturn], 18)]
theorem k_X8_blank : chkB T_X8_blank cX8_blank B_X8_blank = true := by decide +kernel
theorem cw_X8_blank : calW Y_X8_blank := ⟨pn_X8, Or.inr (Or.inl ⟨rfl, rfl⟩), w_475, w_1, mh_X8, by decide⟩
theorem cl_X8_blank {o : OM} {Y : Pk} {d d2 idx : Nat} {C : Ctr} (hS : Sound o Y_X8_blank d2 C) (hd : d2 + 1 ≤ d) (hl : Cond.methodLink (yN Y).cls idx yX8_blank ∈ wsG ∨ ∃ host, Cond.methodLinkNest (yN Y).cls idx yX8_blank host ∈ nestW) : CallOK o Y d (.invokevirtual idx) (1, rcv 8 2 C) := callV_ok hS hd cw_X8_blank hl w_473 w_474 (Or.inl ⟨TX8, 13, rfl⟩) (by decide +kernel)
def Y_X8_isWithin : Pk := (yX8_isWithin, cX8_isWithin, 3, some .boolean, 2)
def T_X8_isWithin : Tb := ([], [], [], [], [], [], 3)
def V_X8_isWithin : List (Nat × Nat) := [(0, 3), (14, 3), (15, 3)]
def B_X8_isWithin : Bk := [(0, [.iload 0, .iload 1, .if_icmp .lt 14, .iload 0, .iload 2, .if_icmp .gt 14, .iconst (1), .goto 15], 14), (14, [.iconst (0)], 15), (15, [.ireturn], 16)]
theorem k_X8_isWithin : chkB T_X8_isWithin cX8_isWithin B_X8_isWithin = true := by decide +kernel
theorem cw_X8_isWithin : calW Y_X8_isWithin := ⟨pn_X8, Or.inr (Or.inr (Or.inl ⟨rfl, rfl⟩)), w_355, w_1, mh_X8, by decide⟩
theorem cl_X8_isWithin {o : OM} {Y : Pk} {d d2 idx : Nat} {C : Ctr} (hS : Sound o Y_X8_isWithin d2 C) (hd : d2 + 1 ≤ d) (hl : Cond.methodLink (yN Y).cls idx yX8_isWithin ∈ wsG ∨ ∃ host, Cond.methodLinkNest (yN Y).cls idx yX8_isWithin host ∈ nestW) : CallOK o Y d (.invokestatic idx) (3, arg 3 C) := callS_ok hS hd cw_X8_isWithin hl w_354 (by decide +kernel)
def Y_X8_isOfKind : Pk := (yX8_isOfKind, cX8_isOfKind, 2, some .boolean, 2)
def T_X8_isOfKind : Tb := ([], [], [], [], [], [], 2)
def V_X8_isOfKind : List (Nat × Nat) := [(0, 2), (19, 2), (30, 2), (34, 2), (35, 2)]
def B_X8_isOfKind : Bk := [(0, [.iload 1, .iload 0, .if_icmp .eq 30, .iload 1, .ifCond .eq 30, .iload 0, .iconst (5), .if_icmp .ne 19, .iload 1, .iconst (1), .if_icmp .eq 30], 19), (19, [.iload 0, .iconst (4), .if_icmp .ne 34, .iload 1, .iconst (6), .if_icmp .ne 34], 30), (30, [.iconst (1), .goto 35], 34), (34, [.iconst (0)], 35), (35, [.ireturn], 36)]
theorem k_X8_isOfKind : chkB T_X8_isOfKind cX8_isOfKind B_X8_isOfKind = true := by decide +kernel
theorem cw_X8_isOfKind : calW Y_X8_isOfKind := ⟨pn_X8, Or.inr (Or.inr (Or.inl ⟨rfl, rfl⟩)), w_394, w_1, mh_X8, by decide⟩
theorem cl_X8_isOfKind {o : OM} {Y : Pk} {d d2 idx : Nat} {C : Ctr} (hS : Sound o Y_X8_isOfKind d2 C) (hd : d2 + 1 ≤ d) (hl : Cond.methodLink (yN Y).cls idx yX8_isOfKind ∈ wsG ∨ ∃ host, Cond.methodLinkNest (yN Y).cls idx yX8_isOfKind host ∈ nestW) : CallOK o Y d (.invokestatic idx) (2, arg 2 C) := callS_ok hS hd cw_X8_isOfKind hl w_393 (by decide +kernel)
def Y_X8_asNumber : Pk := (yX8_asNumber, cX8_asNumber, 1, some .int, 1)
def T_X8_asNumber : Tb := ([], [], [], [], [], [], 1)
def V_X8_asNumber : List (Nat × Nat) := [(0, 1), (8, 1), (9, 1)]
def B_X8_asNumber : Bk := [(0, [.iload 0, .ifCond .eq 8, .iconst (1), .goto 9], 8), (8, [.iconst (0)], 9), (9, [.ireturn], 10)]
theorem k_X8_asNumber : chkB T_X8_asNumber cX8_asNumber B_X8_asNumber = true := by decide +kernel
theorem cw_X8_asNumber : calW Y_X8_asNumber := ⟨pn_X8, Or.inr (Or.inl ⟨rfl, rfl⟩), w_733, w_1, mh_X8, by decide⟩
theorem cl_X8_asNumber {o : OM} {Y : Pk} {d d2 idx : Nat} {C : Ctr} (hS : Sound o Y_X8_asNumber d2 C) (hd : d2 + 1 ≤ d) (hl : Cond.methodLink (yN Y).cls idx yX8_asNumber ∈ wsG ∨ ∃ host, Cond.methodLinkNest (yN Y).cls idx yX8_asNumber host ∈ nestW) : CallOK o Y d (.invokestatic idx) (1, arg 1 C) := callS_ok hS hd cw_X8_asNumber hl w_732 (by decide +kernel)
def Y_X8_fold : Pk := (yX8_fold, cX8_fold, 4, some .long, 3)
def T_X8_fold : Tb := ([], [], [(370, 31)], [], [], [], 4)
def V_X8_fold : List (Nat × Nat) := [(0, 4)]
def B_X8_fold : Bk := [(0, [.jsr (31), .lload 0, .lmul, .lload 2, .ladd, .lreturn], 8)]
theorem k_X8_fold : chkB T_X8_fold cX8_fold B_X8_fold = true := by decide +kernel
theorem cw_X8_fold : calW Y_X8_fold := ⟨pn_X8, Or.inr (Or.inr (Or.inr (Or.inl ⟨rfl, rfl⟩))), w_1063, w_1, mh_X8, by decide⟩
theorem cl_X8_fold {o : OM} {Y : Pk} {d d2 idx : Nat} {C : Ctr} (hS : Sound o Y_X8_fold d2 C) (hd : d2 + 1 ≤ d) (hl : Cond.methodLink (yN Y).cls idx yX8_fold ∈ wsG ∨ ∃ host, Cond.methodLinkNest (yN Y).cls idx yX8_fold host ∈ nestW) : CallOK o Y d (.invokestatic idx) (2, arg 4 C) := callS_ok hS hd cw_X8_fold hl w_1062 (by decide +kernel)
def Y_X8_seedAfter : Pk := (yX8_seedAfter, cX8_seedAfter, 2, some .long, 3)
def T_X8_seedAfter : Tb := ([], [], [(372, 1103515245), (374, 12345), (376, 2147483647)], [], [], [], 2)
def V_X8_seedAfter : List (Nat × Nat) := [(0, 2)]
def B_X8_seedAfter : Bk := [(0, [.jsr (1103515245), .lload 0, .lmul, .jsr (12345), .ladd, .jsr (2147483647), .land, .lreturn], 14)]
theorem k_X8_seedAfter : chkB T_X8_seedAfter cX8_seedAfter B_X8_seedAfter = true := by decide +kernel
theorem cw_X8_seedAfter : calW Y_X8_seedAfter := ⟨pn_X8, Or.inr (Or.inr (Or.inr (Or.inl ⟨rfl, rfl⟩))), w_450, w_1, mh_X8, by decide⟩
theorem cl_X8_seedAfter {o : OM} {Y : Pk} {d d2 idx : Nat} {C : Ctr} (hS : Sound o Y_X8_seedAfter d2 C) (hd : d2 + 1 ≤ d) (hl : Cond.methodLink (yN Y).cls idx yX8_seedAfter ∈ wsG ∨ ∃ host, Cond.methodLinkNest (yN Y).cls idx yX8_seedAfter host ∈ nestW) : CallOK o Y d (.invokestatic idx) (1, arg 2 C) := callS_ok hS hd cw_X8_seedAfter hl w_449 (by decide +kernel)
def Y_X8_drawn : Pk := (yX8_drawn, cX8_drawn, 3, some .int, 1)
def T_X8_drawn : Tb := ([], [], [(378, 65536)], [], [], [], 3)
def V_X8_drawn : List (Nat × Nat) := [(0, 3), (8, 3), (17, 3)]
def B_X8_drawn : Bk := [(0, [.iload 2, .ifCond .gt 8, .iconst (0), .goto 17], 8), (8, [.lload 0, .jsr (65536), .ldiv, .iload 2, .i2l, .lrem, .l2i], 17), (17, [.ireturn], 18)]
theorem k_X8_drawn : chkB T_X8_drawn cX8_drawn B_X8_drawn = true := by decide +kernel
theorem cw_X8_drawn : calW Y_X8_drawn := ⟨pn_X8, Or.inr (Or.inl ⟨rfl, rfl⟩), w_456, w_1, mh_X8, by decide⟩
theorem cl_X8_drawn {o : OM} {Y : Pk} {d d2 idx : Nat} {C : Ctr} (hS : Sound o Y_X8_drawn d2 C) (hd : d2 + 1 ≤ d) (hl : Cond.methodLink (yN Y).cls idx yX8_drawn ∈ wsG ∨ ∃ host, Cond.methodLinkNest (yN Y).cls idx yX8_drawn host ∈ nestW) : CallOK o Y d (.invokestatic idx) (2, arg 3 C) := callS_ok hS hd cw_X8_drawn hl w_455 (by decide +kernel)
def Y_X8_byteOf : Pk := (yX8_byteOf, cX8_byteOf, 3, some .int, 1)
def T_X8_byteOf : Tb := ([], [], [], [], [], [], 3)
def V_X8_byteOf : List (Nat × Nat) := [(0, 3)]
def B_X8_byteOf : Bk := [(0, [.lload 0, .iconst (8), .iload 2, .imul, .lushr, .l2i, .iconst (255), .iand, .ireturn], 12)]
theorem k_X8_byteOf : chkB T_X8_byteOf cX8_byteOf B_X8_byteOf = true := by decide +kernel
theorem cw_X8_byteOf : calW Y_X8_byteOf := ⟨pn_X8, Or.inr (Or.inl ⟨rfl, rfl⟩), w_467, w_1, mh_X8, by decide⟩
theorem cl_X8_byteOf {o : OM} {Y : Pk} {d d2 idx : Nat} {C : Ctr} (hS : Sound o Y_X8_byteOf d2 C) (hd : d2 + 1 ≤ d) (hl : Cond.methodLink (yN Y).cls idx yX8_byteOf ∈ wsG ∨ ∃ host, Cond.methodLinkNest (yN Y).cls idx yX8_byteOf host ∈ nestW) : CallOK o Y d (.invokestatic idx) (2, arg 3 C) := callS_ok hS hd cw_X8_byteOf hl w_466 (by decide +kernel)
def Y_X8_partInLowestTerms : Pk := (yX8_partInLowestTerms, cX8_partInLowestTerms, 7, some .int, 1)
def T_X8_partInLowestTerms : Tb := ([], [], [], [], [], [], 7)
def V_X8_partInLowestTerms : List (Nat × Nat) := [(0, 3), (8, 6), (39, 6), (47, 6), (48, 6), (59, 6), (63, 6)]
def B_X8_partInLowestTerms : Bk := [(0, [.iload 0, .istore 3, .iload 1, .istore 4, .iconst (0), .istore 5], 8), (8, [.iload 5, .iconst (64), .if_icmp .ge 39, .iload 4, .ifCond .eq 39, .iload 3, .iload 4, .irem, .istore 6, .iload 4, .istore 3, .iload 6, .istore 4, .iinc 5 1, .goto 8], 39), (39, [.iload 2, .ifCond .ne 47, .iload 0, .goto 48], 47), (47, [.iload 1], 48), (48, [.istore 5, .iload 3, .ifCond .ne 59, .iload 5, .goto 63], 59), (59, [.iload 5, .iload 3, .idiv], 63), (63, [.ireturn], 64)]
theorem k_X8_partInLowestTerms : chkB T_X8_partInLowestTerms cX8_partInLowestTerms B_X8_partInLowestTerms = true := by decide +kernel
theorem cw_X8_partInLowestTerms : calW Y_X8_partInLowestTerms := ⟨pn_X8, Or.inr (Or.inl ⟨rfl, rfl⟩), w_676, w_1, mh_X8, by decide⟩
theorem cl_X8_partInLowestTerms {o : OM} {Y : Pk} {d d2 idx : Nat} {C : Ctr} (hS : Sound o Y_X8_partInLowestTerms d2 C) (hd : d2 + 1 ≤ d) (hl : Cond.methodLink (yN Y).cls idx yX8_partInLowestTerms ∈ wsG ∨ ∃ host, Cond.methodLinkNest (yN Y).cls idx yX8_partInLowestTerms host ∈ nestW) : CallOK o Y d (.invokestatic idx) (3, arg 7 C) := callS_ok hS hd cw_X8_partInLowestTerms hl w_675 (by decide +kernel)
def Y_X9_in : Pk := (yX9_in, cX9_in, 6, some .boolean, 2)
def T_X9_in : Tb := ([], [], [], [], [], [], 6)
def V_X9_in : List (Nat × Nat) := [(0, 6), (17, 6), (18, 6)]
def B_X9_in : Bk := [(0, [.lload 0, .lload 2, .lcmp, .ifCond .lt 17, .lload 0, .lload 4, .lcmp, .ifCond .gt 17, .iconst (1), .goto 18], 17), (17, [.iconst (0)], 18), (18, [.ireturn], 19)]
theorem k_X9_in : chkB T_X9_in cX9_in B_X9_in = true := by decide +kernel
theorem cw_X9_in : calW Y_X9_in := ⟨pn_X9, Or.inr (Or.inr (Or.inl ⟨rfl, rfl⟩)), w_1262, w_11, mh_X9, by decide⟩
theorem cl_X9_in {o : OM} {Y : Pk} {d d2 idx : Nat} {C : Ctr} (hS : Sound o Y_X9_in d2 C) (hd : d2 + 1 ≤ d) (hl : Cond.methodLink (yN Y).cls idx yX9_in ∈ wsG ∨ ∃ host, Cond.methodLinkNest (yN Y).cls idx yX9_in host ∈ nestW) : CallOK o Y d (.invokestatic idx) (3, arg 6 C) := callS_ok hS hd cw_X9_in hl w_1261 (by decide +kernel)
def Y_X9_size : Pk := (yX9_size, cX9_size, 1, some .int, 1)
def T_X9_size : Tb := ([], [], [], [], [], [], 1)
def V_X9_size : List (Nat × Nat) := [(0, 1), (9, 1), (10, 1)]
def B_X9_size : Bk := [(0, [.iload 0, .ifCond .ge 9, .iload 0, .ineg, .goto 10], 9), (9, [.iload 0], 10), (10, [.ireturn], 11)]
theorem k_X9_size : chkB T_X9_size cX9_size B_X9_size = true := by decide +kernel
theorem cw_X9_size : calW Y_X9_size := ⟨pn_X9, Or.inr (Or.inl ⟨rfl, rfl⟩), w_1470, w_11, mh_X9, by decide⟩
theorem cl_X9_size {o : OM} {Y : Pk} {d d2 idx : Nat} {C : Ctr} (hS : Sound o Y_X9_size d2 C) (hd : d2 + 1 ≤ d) (hl : Cond.methodLink (yN Y).cls idx yX9_size ∈ wsG ∨ ∃ host, Cond.methodLinkNest (yN Y).cls idx yX9_size host ∈ nestW) : CallOK o Y d (.invokestatic idx) (1, arg 1 C) := callS_ok hS hd cw_X9_size hl w_1469 (by decide +kernel)
def Y_X9_put : Pk := (yX9_put, cX9_put, 6, none, 0)
def T_X9_put : Tb := ([(16, 9032), (19, 9042), (22, 9052)], [], [], [], [], [], 6)
def V_X9_put : List (Nat × Nat) := [(0, 6)]
def B_X9_put : Bk := [(0, [.aload 0, .getfield 9032, .iconst (16), .iload 1, .imul, .iload 2, .iadd, .iload 3, .iastore, .aload 0, .getfield 9042, .iconst (16), .iload 1, .imul, .iload 2, .iadd, .iload 4, .iastore, .aload 0, .getfield 9052, .iconst (16), .iload 1, .imul, .iload 2, .iadd, .iload 5, .iastore, .return_], 39)]
theorem k_X9_put : chkB T_X9_put cX9_put B_X9_put = true := by decide +kernel
theorem cw_X9_put : calW Y_X9_put := ⟨pn_X9, Or.inl ⟨rfl, rfl⟩, w_1280, w_11, mh_X9, by decide⟩
theorem cl_X9_put {o : OM} {Y : Pk} {d d2 idx : Nat} {C : Ctr} (hS : Sound o Y_X9_put d2 C) (hd : d2 + 1 ≤ d) (hl : Cond.methodLink (yN Y).cls idx yX9_put ∈ wsG ∨ ∃ host, Cond.methodLinkNest (yN Y).cls idx yX9_put host ∈ nestW) : CallOK o Y d (.invokevirtual idx) (6, rcv 9 6 C) := callV_ok hS hd cw_X9_put hl w_1279 wp_90 (Or.inl ⟨TX9, 55, rfl⟩) (by decide +kernel)
def Y_X9_compare : Pk := (yX9_compare, cX9_compare, 2, some .int, 1)
def T_X9_compare : Tb := ([], [], [], [], [], [], 2)
def V_X9_compare : List (Nat × Nat) := [(0, 2), (9, 2), (18, 2), (19, 2)]
def B_X9_compare : Bk := [(0, [.iload 0, .iload 1, .if_icmp .le 9, .iconst (1), .goto 19], 9), (9, [.iload 0, .iload 1, .if_icmp .ge 18, .iconst (-1), .goto 19], 18), (18, [.iconst (0)], 19), (19, [.ireturn], 20)]
theorem k_X9_compare : chkB T_X9_compare cX9_compare B_X9_compare = true := by decide +kernel
theorem cw_X9_compare : calW Y_X9_compare := ⟨pn_X9, Or.inr (Or.inl ⟨rfl, rfl⟩), w_1313, w_11, mh_X9, by decide⟩
theorem cl_X9_compare {o : OM} {Y : Pk} {d d2 idx : Nat} {C : Ctr} (hS : Sound o Y_X9_compare d2 C) (hd : d2 + 1 ≤ d) (hl : Cond.methodLink (yN Y).cls idx yX9_compare ∈ wsG ∨ ∃ host, Cond.methodLinkNest (yN Y).cls idx yX9_compare host ∈ nestW) : CallOK o Y d (.invokestatic idx) (2, arg 2 C) := callS_ok hS hd cw_X9_compare hl w_1312 (by decide +kernel)
def Y_X9_draw : Pk := (yX9_draw, cX9_draw, 2, some .int, 1)
def T_X9_draw : Tb := ([(156, 9060)], [(163, 65536)], [(154, 1103515245), (159, 12345), (161, 2147483647)], [], [], [], 2)
def V_X9_draw : List (Nat × Nat) := [(0, 2)]
def B_X9_draw : Bk := [(0, [.aload 0, .jsr (1103515245), .aload 0, .getfield 9060, .i2l, .lmul, .jsr (12345), .ladd, .jsr (2147483647), .land, .l2i, .putfield 9060, .aload 0, .getfield 9060, .iconst (65536), .idiv, .iload 1, .irem, .ireturn], 32)]
theorem k_X9_draw : chkB T_X9_draw cX9_draw B_X9_draw = true := by decide +kernel
theorem cw_X9_draw : calW Y_X9_draw := ⟨pn_X9, Or.inr (Or.inl ⟨rfl, rfl⟩), w_1326, w_11, mh_X9, by decide⟩
theorem cl_X9_draw {o : OM} {Y : Pk} {d d2 idx : Nat} {C : Ctr} (hS : Sound o Y_X9_draw d2 C) (hd : d2 + 1 ≤ d) (hl : Cond.methodLink (yN Y).cls idx yX9_draw ∈ wsG ∨ ∃ host, Cond.methodLinkNest (yN Y).cls idx yX9_draw host ∈ nestW) : CallOK o Y d (.invokevirtual idx) (2, rcv 9 2 C) := callV_ok hS hd cw_X9_draw hl w_1325 wp_96 (Or.inl ⟨TX9, 55, rfl⟩) (by decide +kernel)
def Y_X9_letters : Pk := (yX9_letters, cX9_letters, 9, some .int, 1)
def T_X9_letters : Tb := ([(176, 9080), (25, 9072)], [], [(174, 255)], [], [], [], 9)
def V_X9_letters : List (Nat × Nat) := [(0, 3), (11, 8), (57, 9), (61, 9), (62, 9), (74, 9), (75, 9), (83, 8), (91, 8), (105, 8), (108, 8), (151, 8)]
def B_X9_letters : Bk := [(0, [.iconst (0), .istore 3, .iconst (1), .istore 4, .lload 1, .lstore 5, .iconst (0), .istore 7], 11), (11, [.iload 7, .iconst (8), .if_icmp .ge 83, .lload 5, .jsr (255), .land, .l2i, .istore 8, .lload 5, .iconst (8), .lushr, .lstore 5, .iload 4, .ifCond .eq 61, .iload 8, .iconst (126), .if_icmp .gt 61, .iload 8, .ifCond .eq 57, .iload 3, .iload 7, .if_icmp .ne 61], 57), (57, [.iconst (1), .goto 62], 61), (61, [.iconst (0)], 62), (62, [.istore 4, .iload 3, .iload 8, .ifCond .le 74, .iconst (1), .goto 75], 74), (74, [.iconst (0)], 75), (75, [.iadd, .istore 3, .iinc 7 1, .goto 11], 83), (83, [.iload 4, .ifCond .ne 91, .iconst (-102), .ireturn], 91), (91, [.aload 0, .getfield 9080, .iload 3, .iadd, .iconst (30), .if_icmp .le 105, .iconst (-104), .ireturn], 105), (105, [.iconst (0), .istore 7], 108), (108, [.iload 7, .iload 3, .if_icmp .ge 151, .aload 0, .getfield 9072, .aload 0, .getfield 9080, .lload 1, .iconst (8), .iload 7, .imul, .lushr, .jsr (255), .land, .l2i, .iastore, .aload 0, .dup, .getfield 9080, .iconst (1), .iadd, .putfield 9080, .iinc 7 1, .goto 108], 151), (151, [.aload 0, .getfield 9080, .ireturn], 156)]
theorem k_X9_letters : chkB T_X9_letters cX9_letters B_X9_letters = true := by decide +kernel
theorem cw_X9_letters : calW Y_X9_letters := ⟨pn_X9, Or.inr (Or.inl ⟨rfl, rfl⟩), w_1338, w_11, mh_X9, by decide⟩
theorem cl_X9_letters {o : OM} {Y : Pk} {d d2 idx : Nat} {C : Ctr} (hS : Sound o Y_X9_letters d2 C) (hd : d2 + 1 ≤ d) (hl : Cond.methodLink (yN Y).cls idx yX9_letters ∈ wsG ∨ ∃ host, Cond.methodLinkNest (yN Y).cls idx yX9_letters host ∈ nestW) : CallOK o Y d (.invokevirtual idx) (2, rcv 9 9 C) := callV_ok hS hd cw_X9_letters hl w_1336 w_1337 (Or.inl ⟨TX9, 55, rfl⟩) (by decide +kernel)
def Y_X9_blank : Pk := (yX9_blank, cX9_blank, 2, some .int, 1)
def T_X9_blank : Tb := ([(176, 9080)], [], [], [], [], [], 2)
def V_X9_blank : List (Nat × Nat) := [(0, 1)]
def B_X9_blank : Bk := [(0, [.aload 0, .getfield 9080, .istore 1, .aload 0, .iconst (0), .putfield 9080, .iload 1, .ireturn], 12)]
theorem k_X9_blank : chkB T_X9_blank cX9_blank B_X9_blank = true := by decide +kernel
theorem cw_X9_blank : calW Y_X9_blank := ⟨pn_X9, Or.inr (Or.inl ⟨rfl, rfl⟩), w_1343, w_11, mh_X9, by decide⟩
theorem cl_X9_blank {o : OM} {Y : Pk} {d d2 idx : Nat} {C : Ctr} (hS : Sound o Y_X9_blank d2 C) (hd : d2 + 1 ≤ d) (hl : Cond.methodLink (yN Y).cls idx yX9_blank ∈ wsG ∨ ∃ host, Cond.methodLinkNest (yN Y).cls idx yX9_blank host ∈ nestW) : CallOK o Y d (.invokevirtual idx) (1, rcv 9 2 C) := callV_ok hS hd cw_X9_blank hl w_1341 w_1342 (Or.inl ⟨TX9, 55, rfl⟩) (by decide +kernel)
def Y_X9_handLetter : Pk := (yX9_handLetter, cX9_handLetter, 1, some .int, 1)
def T_X9_handLetter : Tb := ([], [], [], [], [], [], 1)
def V_X9_handLetter : List (Nat × Nat) := [(0, 1), (10, 1), (20, 1), (30, 1), (40, 1), (50, 1), (60, 1), (71, 1), (72, 1)]
def B_X9_handLetter : Bk := [(0, [.iload 0, .iconst (108), .if_icmp .ne 10, .iconst (0), .goto 72], 10), (10, [.iload 0, .iconst (119), .if_icmp .ne 20, .iconst (1), .goto 72], 20), (20, [.iload 0, .iconst (110), .if_icmp .ne 30, .iconst (2), .goto 72], 30), (30, [.iload 0, .iconst (104), .if_icmp .ne 40, .iconst (3), .goto 72], 40), (40, [.iload 0, .iconst (102), .if_icmp .ne 50, .iconst (4), .goto 72], 50), (50, [.iload 0, .iconst (97), .if_icmp .ne 60, .iconst (5), .goto 72], 60), (60, [.iload 0, .iconst (115), .if_icmp .ne 71, .iconst (6), .goto 72], 71), (71, [.iconst (-1)], 72), (72, [.ireturn], 73)]
theorem k_X9_handLetter : chkB T_X9_handLetter cX9_handLetter B_X9_handLetter = true := by decide +kernel
theorem cw_X9_handLetter : calW Y_X9_handLetter := ⟨pn_X9, Or.inr (Or.inl ⟨rfl, rfl⟩), w_1358, w_11, mh_X9, by decide⟩
theorem cl_X9_handLetter {o : OM} {Y : Pk} {d d2 idx : Nat} {C : Ctr} (hS : Sound o Y_X9_handLetter d2 C) (hd : d2 + 1 ≤ d) (hl : Cond.methodLink (yN Y).cls idx yX9_handLetter ∈ wsG ∨ ∃ host, Cond.methodLinkNest (yN Y).cls idx yX9_handLetter host ∈ nestW) : CallOK o Y d (.invokestatic idx) (1, arg 1 C) := callS_ok hS hd cw_X9_handLetter hl w_1357 (by decide +kernel)
def Y_X9_lawLetter : Pk := (yX9_lawLetter, cX9_lawLetter, 1, some .int, 1)
def T_X9_lawLetter : Tb := ([], [], [], [], [], [], 1)
def V_X9_lawLetter : List (Nat × Nat) := [(0, 1), (10, 1), (20, 1), (30, 1), (40, 1), (41, 1)]
def B_X9_lawLetter : Bk := [(0, [.iload 0, .iconst (108), .if_icmp .ne 10, .iconst (0), .goto 41], 10), (10, [.iload 0, .iconst (100), .if_icmp .ne 20, .iconst (1), .goto 41], 20), (20, [.iload 0, .iconst (117), .if_icmp .ne 30, .iconst (2), .goto 41], 30), (30, [.iload 0, .iconst (97), .if_icmp .ne 40, .iconst (3), .goto 41], 40), (40, [.iconst (-1)], 41), (41, [.ireturn], 42)]
theorem k_X9_lawLetter : chkB T_X9_lawLetter cX9_lawLetter B_X9_lawLetter = true := by decide +kernel
theorem cw_X9_lawLetter : calW Y_X9_lawLetter := ⟨pn_X9, Or.inr (Or.inl ⟨rfl, rfl⟩), w_1361, w_11, mh_X9, by decide⟩
theorem cl_X9_lawLetter {o : OM} {Y : Pk} {d d2 idx : Nat} {C : Ctr} (hS : Sound o Y_X9_lawLetter d2 C) (hd : d2 + 1 ≤ d) (hl : Cond.methodLink (yN Y).cls idx yX9_lawLetter ∈ wsG ∨ ∃ host, Cond.methodLinkNest (yN Y).cls idx yX9_lawLetter host ∈ nestW) : CallOK o Y d (.invokestatic idx) (1, arg 1 C) := callS_ok hS hd cw_X9_lawLetter hl w_1360 (by decide +kernel)
def Y_X9_halvesOf : Pk := (yX9_halvesOf, cX9_halvesOf, 6, some .int, 1)
def T_X9_halvesOf : Tb := ([(16, 9032), (28, 9102), (22, 9052)], [], [], [], [], [], 6)
def V_X9_halvesOf : List (Nat × Nat) := [(0, 4), (22, 5), (34, 5), (45, 6), (55, 6), (77, 6), (88, 6), (89, 6)]
def B_X9_halvesOf : Bk := [(0, [.aload 0, .getfield 9032, .iconst (16), .iload 2, .imul, .iload 3, .iadd, .iaload, .istore 4, .iload 1, .iconst (-1), .if_icmp .ne 22, .iconst (-1), .goto 34], 22), (22, [.aload 0, .getfield 9102, .iconst (7), .iload 1, .imul, .iload 4, .iadd, .iaload], 34), (34, [.istore 5, .iload 5, .iconst (-1), .if_icmp .eq 45, .iload 5, .ireturn], 45), (45, [.iload 4, .iconst (3), .if_icmp .ne 55, .iconst (1), .goto 89], 55), (55, [.iload 4, .iconst (4), .if_icmp .ne 77, .iconst (2), .aload 0, .getfield 9052, .iconst (16), .iload 2, .imul, .iload 3, .iadd, .iaload, .imul, .goto 89], 77), (77, [.iload 4, .iconst (6), .if_icmp .ne 88, .iconst (0), .goto 89], 88), (88, [.iconst (2)], 89), (89, [.ireturn], 90)]
theorem k_X9_halvesOf : chkB T_X9_halvesOf cX9_halvesOf B_X9_halvesOf = true := by decide +kernel
theorem cw_X9_halvesOf : calW Y_X9_halvesOf := ⟨pn_X9, Or.inr (Or.inl ⟨rfl, rfl⟩), w_1306, w_11, mh_X9, by decide⟩
theorem cl_X9_halvesOf {o : OM} {Y : Pk} {d d2 idx : Nat} {C : Ctr} (hS : Sound o Y_X9_halvesOf d2 C) (hd : d2 + 1 ≤ d) (hl : Cond.methodLink (yN Y).cls idx yX9_halvesOf ∈ wsG ∨ ∃ host, Cond.methodLinkNest (yN Y).cls idx yX9_halvesOf host ∈ nestW) : CallOK o Y d (.invokevirtual idx) (4, rcv 9 6 C) := callV_ok hS hd cw_X9_halvesOf hl w_1305 wp_94 (Or.inl ⟨TX9, 55, rfl⟩) (by decide +kernel)
def Y_X9_turned : Pk := (yX9_turned, cX9_turned, 4, some .int, 1)
def T_X9_turned : Tb := ([(13, 9022)], [], [], [], [], [], 4)
def V_X9_turned : List (Nat × Nat) := [(0, 4)]
def B_X9_turned : Bk := [(0, [.iconst (16), .iload 1, .imul, .iload 2, .iload 3, .iadd, .aload 0, .getfield 9022, .iload 1, .iaload, .irem, .iadd, .ireturn], 16)]
theorem k_X9_turned : chkB T_X9_turned cX9_turned B_X9_turned = true := by decide +kernel
theorem cw_X9_turned : calW Y_X9_turned := ⟨pn_X9, Or.inr (Or.inl ⟨rfl, rfl⟩), w_1416, w_11, mh_X9, by decide⟩
theorem cl_X9_turned {o : OM} {Y : Pk} {d d2 idx : Nat} {C : Ctr} (hS : Sound o Y_X9_turned d2 C) (hd : d2 + 1 ≤ d) (hl : Cond.methodLink (yN Y).cls idx yX9_turned ∈ wsG ∨ ∃ host, Cond.methodLinkNest (yN Y).cls idx yX9_turned host ∈ nestW) : CallOK o Y d (.invokevirtual idx) (4, rcv 9 4 C) := callV_ok hS hd cw_X9_turned hl w_1415 wp_104 (Or.inl ⟨TX9, 55, rfl⟩) (by decide +kernel)
def Y_X9_common : Pk := (yX9_common, cX9_common, 5, some .int, 1)
def T_X9_common : Tb := ([], [], [], [], [], [], 5)
def V_X9_common : List (Nat × Nat) := [(0, 2), (4, 4), (21, 4)]
def B_X9_common : Bk := [(0, [.iload 0, .istore 2, .iload 1, .istore 3], 4), (4, [.iload 2, .ifCond .eq 21, .iload 3, .iload 2, .irem, .istore 4, .iload 2, .istore 3, .iload 4, .istore 2, .goto 4], 21), (21, [.iload 3, .ireturn], 23)]
theorem k_X9_common : chkB T_X9_common cX9_common B_X9_common = true := by decide +kernel
theorem cw_X9_common : calW Y_X9_common := ⟨pn_X9, Or.inr (Or.inl ⟨rfl, rfl⟩), w_1438, w_11, mh_X9, by decide⟩
theorem cl_X9_common {o : OM} {Y : Pk} {d d2 idx : Nat} {C : Ctr} (hS : Sound o Y_X9_common d2 C) (hd : d2 + 1 ≤ d) (hl : Cond.methodLink (yN Y).cls idx yX9_common ∈ wsG ∨ ∃ host, Cond.methodLinkNest (yN Y).cls idx yX9_common host ∈ nestW) : CallOK o Y d (.invokestatic idx) (2, arg 5 C) := callS_ok hS hd cw_X9_common hl w_1437 (by decide +kernel)
def Y_X9_wideA : Pk := (yX9_wideA, cX9_wideA, 1, some .int, 1)
def T_X9_wideA : Tb := ([], [], [], [], [], [], 1)
def V_X9_wideA : List (Nat × Nat) := [(0, 1), (9, 1), (18, 1), (19, 1)]
def B_X9_wideA : Bk := [(0, [.iload 0, .iconst (2), .if_icmp .ne 9, .iconst (0), .goto 19], 9), (9, [.iload 0, .iconst (4), .if_icmp .ne 18, .iconst (2), .goto 19], 18), (18, [.iconst (1)], 19), (19, [.ireturn], 20)]
theorem k_X9_wideA : chkB T_X9_wideA cX9_wideA B_X9_wideA = true := by decide +kernel
theorem cw_X9_wideA : calW Y_X9_wideA := ⟨pn_X9, Or.inr (Or.inl ⟨rfl, rfl⟩), w_1460, w_11, mh_X9, by decide⟩
theorem cl_X9_wideA {o : OM} {Y : Pk} {d d2 idx : Nat} {C : Ctr} (hS : Sound o Y_X9_wideA d2 C) (hd : d2 + 1 ≤ d) (hl : Cond.methodLink (yN Y).cls idx yX9_wideA ∈ wsG ∨ ∃ host, Cond.methodLinkNest (yN Y).cls idx yX9_wideA host ∈ nestW) : CallOK o Y d (.invokestatic idx) (1, arg 1 C) := callS_ok hS hd cw_X9_wideA hl w_1459 (by decide +kernel)
def Y_X9_wideB : Pk := (yX9_wideB, cX9_wideB, 1, some .int, 1)
def T_X9_wideB : Tb := ([], [], [], [], [], [], 1)
def V_X9_wideB : List (Nat × Nat) := [(0, 1), (9, 1), (18, 1), (19, 1)]
def B_X9_wideB : Bk := [(0, [.iload 0, .iconst (1), .if_icmp .ne 9, .iconst (0), .goto 19], 9), (9, [.iload 0, .iconst (3), .if_icmp .ne 18, .iconst (2), .goto 19], 18), (18, [.iconst (1)], 19), (19, [.ireturn], 20)]
theorem k_X9_wideB : chkB T_X9_wideB cX9_wideB B_X9_wideB = true := by decide +kernel
theorem cw_X9_wideB : calW Y_X9_wideB := ⟨pn_X9, Or.inr (Or.inl ⟨rfl, rfl⟩), w_1463, w_11, mh_X9, by decide⟩
theorem cl_X9_wideB {o : OM} {Y : Pk} {d d2 idx : Nat} {C : Ctr} (hS : Sound o Y_X9_wideB d2 C) (hd : d2 + 1 ≤ d) (hl : Cond.methodLink (yN Y).cls idx yX9_wideB ∈ wsG ∨ ∃ host, Cond.methodLinkNest (yN Y).cls idx yX9_wideB host ∈ nestW) : CallOK o Y d (.invokestatic idx) (1, arg 1 C) := callS_ok hS hd cw_X9_wideB hl w_1462 (by decide +kernel)
def Y_X9_ash : Pk := (yX9_ash, cX9_ash, 2, some .int, 1)
def T_X9_ash : Tb := ([(16, 9032)], [], [], [], [], [], 2)
def V_X9_ash : List (Nat × Nat) := [(0, 2), (14, 2), (15, 2)]
def B_X9_ash : Bk := [(0, [.aload 0, .getfield 9032, .iload 1, .iaload, .iconst (5), .if_icmp .ne 14, .iconst (1), .goto 15], 14), (14, [.iconst (0)], 15), (15, [.ireturn], 16)]
theorem k_X9_ash : chkB T_X9_ash cX9_ash B_X9_ash = true := by decide +kernel
theorem cw_X9_ash : calW Y_X9_ash := ⟨pn_X9, Or.inr (Or.inl ⟨rfl, rfl⟩), w_1467, w_11, mh_X9, by decide⟩
theorem cl_X9_ash {o : OM} {Y : Pk} {d d2 idx : Nat} {C : Ctr} (hS : Sound o Y_X9_ash d2 C) (hd : d2 + 1 ≤ d) (hl : Cond.methodLink (yN Y).cls idx yX9_ash ∈ wsG ∨ ∃ host, Cond.methodLinkNest (yN Y).cls idx yX9_ash host ∈ nestW) : CallOK o Y d (.invokevirtual idx) (2, rcv 9 2 C) := callV_ok hS hd cw_X9_ash hl w_1466 wp_108 (Or.inl ⟨TX9, 55, rfl⟩) (by decide +kernel)
def Y_X9_ashes : Pk := (yX9_ashes, cX9_ashes, 3, some .int, 1)
def T_X9_ashes : Tb := ([(101, 9423)], [], [], [], [], [], 3)
def V_X9_ashes : List (Nat × Nat) := [(0, 2), (11, 2), (12, 2)]
def B_X9_ashes : Bk := [(0, [.aload 0, .getfield 9423, .ifCond .eq 11, .iconst (1), .goto 12], 11), (11, [.iconst (0)], 12), (12, [.istore 2, .aload 0, .iload 1, .putfield 9423, .iload 2, .ireturn], 20)]
theorem k_X9_ashes : chkB T_X9_ashes cX9_ashes B_X9_ashes = true := by decide +kernel
theorem cw_X9_ashes : calW Y_X9_ashes := ⟨pn_X9, Or.inr (Or.inl ⟨rfl, rfl⟩), w_1512, w_11, mh_X9, by decide⟩
theorem cl_X9_ashes {o : OM} {Y : Pk} {d d2 idx : Nat} {C : Ctr} (hS : Sound o Y_X9_ashes d2 C) (hd : d2 + 1 ≤ d) (hl : Cond.methodLink (yN Y).cls idx yX9_ashes ∈ wsG ∨ ∃ host, Cond.methodLinkNest (yN Y).cls idx yX9_ashes host ∈ nestW) : CallOK o Y d (.invokevirtual idx) (2, rcv 9 3 C) := callV_ok hS hd cw_X9_ashes hl w_1510 w_1511 (Or.inl ⟨TX9, 55, rfl⟩) (by decide +kernel)
def Y_X9_ashAt : Pk := (yX9_ashAt, cX9_ashAt, 4, some .int, 1)
def T_X9_ashAt : Tb := ([(13, 9022), (16, 9032), (22, 9052)], [], [], [], [], [], 4)
def V_X9_ashAt : List (Nat × Nat) := [(0, 3), (2, 4), (44, 4), (50, 4)]
def B_X9_ashAt : Bk := [(0, [.iconst (0), .istore 3], 2), (2, [.iload 3, .aload 0, .getfield 9022, .iload 1, .iaload, .if_icmp .ge 50, .aload 0, .getfield 9032, .iconst (16), .iload 1, .imul, .iload 3, .iadd, .iaload, .iconst (5), .if_icmp .ne 44, .aload 0, .getfield 9052, .iconst (16), .iload 1, .imul, .iload 3, .iadd, .iaload, .iload 2, .if_icmp .ne 44, .iload 3, .ireturn], 44), (44, [.iinc 3 1, .goto 2], 50), (50, [.iconst (-1), .ireturn], 52)]
theorem k_X9_ashAt : chkB T_X9_ashAt cX9_ashAt B_X9_ashAt = true := by decide +kernel
theorem cw_X9_ashAt : calW Y_X9_ashAt := ⟨pn_X9, Or.inr (Or.inl ⟨rfl, rfl⟩), w_1537, w_11, mh_X9, by decide⟩
theorem cl_X9_ashAt {o : OM} {Y : Pk} {d d2 idx : Nat} {C : Ctr} (hS : Sound o Y_X9_ashAt d2 C) (hd : d2 + 1 ≤ d) (hl : Cond.methodLink (yN Y).cls idx yX9_ashAt ∈ wsG ∨ ∃ host, Cond.methodLinkNest (yN Y).cls idx yX9_ashAt host ∈ nestW) : CallOK o Y d (.invokevirtual idx) (3, rcv 9 4 C) := callV_ok hS hd cw_X9_ashAt hl w_1536 wp_115 (Or.inl ⟨TX9, 55, rfl⟩) (by decide +kernel)
def Y_X9_bound : Pk := (yX9_bound, cX9_bound, 5, none, 0)
def T_X9_bound : Tb := ([(80, 9432)], [], [], [], [], [], 5)
def V_X9_bound : List (Nat × Nat) := [(0, 5), (31, 5), (42, 5), (74, 5), (85, 5)]
def B_X9_bound : Bk := [(0, [.aload 0, .getfield 9432, .iconst (8), .iload 1, .imul, .iload 2, .iadd, .iload 4, .aload 0, .getfield 9432, .iconst (8), .iload 1, .imul, .iload 2, .iadd, .iaload, .if_icmp .ge 31, .iload 4, .goto 42], 31), (31, [.aload 0, .getfield 9432, .iconst (8), .iload 1, .imul, .iload 2, .iadd, .iaload], 42), (42, [.iastore, .aload 0, .getfield 9432, .iconst (8), .iload 2, .imul, .iload 1, .iadd, .iload 3, .ineg, .aload 0, .getfield 9432, .iconst (8), .iload 2, .imul, .iload 1, .iadd, .iaload, .if_icmp .ge 74, .iload 3, .ineg, .goto 85], 74), (74, [.aload 0, .getfield 9432, .iconst (8), .iload 2, .imul, .iload 1, .iadd, .iaload], 85), (85, [.iastore, .return_], 87)]
theorem k_X9_bound : chkB T_X9_bound cX9_bound B_X9_bound = true := by decide +kernel
theorem cw_X9_bound : calW Y_X9_bound := ⟨pn_X9, Or.inl ⟨rfl, rfl⟩, w_1533, w_11, mh_X9, by decide⟩
theorem cl_X9_bound {o : OM} {Y : Pk} {d d2 idx : Nat} {C : Ctr} (hS : Sound o Y_X9_bound d2 C) (hd : d2 + 1 ≤ d) (hl : Cond.methodLink (yN Y).cls idx yX9_bound ∈ wsG ∨ ∃ host, Cond.methodLinkNest (yN Y).cls idx yX9_bound host ∈ nestW) : CallOK o Y d (.invokevirtual idx) (5, rcv 9 5 C) := callV_ok hS hd cw_X9_bound hl w_1532 wp_114 (Or.inl ⟨TX9, 55, rfl⟩) (by decide +kernel)
def Y_X9_close : Pk := (yX9_close, cX9_close, 6, some .boolean, 2)
def T_X9_close : Tb := ([(80, 9432)], [(332, (-10000000)), (333, 10000000)], [], [], [], [], 6)
def V_X9_close : List (Nat × Nat) := [(0, 1), (2, 2), (10, 3), (18, 4), (59, 4), (82, 4), (122, 5), (123, 5), (161, 6), (172, 6), (179, 4), (185, 3), (191, 2), (195, 3), (223, 3), (224, 3), (231, 3)]
def B_X9_close : Bk := [(0, [.iconst (0), .istore 1], 2), (2, [.iload 1, .iconst (8), .if_icmp .ge 191, .iconst (0), .istore 2], 10), (10, [.iload 2, .iconst (8), .if_icmp .ge 185, .iconst (0), .istore 3], 18), (18, [.iload 3, .iconst (8), .if_icmp .ge 179, .aload 0, .getfield 9432, .iconst (8), .iload 2, .imul, .iload 1, .iadd, .iaload, .aload 0, .getfield 9432, .iconst (8), .iload 1, .imul, .iload 3, .iadd, .iaload, .iadd, .iconst (-10000000), .if_icmp .ge 59, .iconst (-10000000), .goto 82], 59), (59, [.aload 0, .getfield 9432, .iconst (8), .iload 2, .imul, .iload 1, .iadd, .iaload, .aload 0, .getfield 9432, .iconst (8), .iload 1, .imul, .iload 3, .iadd, .iaload, .iadd], 82), (82, [.istore 4, .aload 0, .getfield 9432, .iconst (8), .iload 2, .imul, .iload 1, .iadd, .iaload, .iconst (10000000), .if_icmp .ge 122, .aload 0, .getfield 9432, .iconst (8), .iload 1, .imul, .iload 3, .iadd, .iaload, .iconst (10000000), .if_icmp .ge 122, .iconst (1), .goto 123], 122), (122, [.iconst (0)], 123), (123, [.istore 5, .aload 0, .getfield 9432, .iconst (8), .iload 2, .imul, .iload 3, .iadd, .iload 5, .ifCond .eq 161, .iload 4, .aload 0, .getfield 9432, .iconst (8), .iload 2, .imul, .iload 3, .iadd, .iaload, .if_icmp .ge 161, .iload 4, .goto 172], 161), (161, [.aload 0, .getfield 9432, .iconst (8), .iload 2, .imul, .iload 3, .iadd, .iaload], 172), (172, [.iastore, .iinc 3 1, .goto 18], 179), (179, [.iinc 2 1, .goto 10], 185), (185, [.iinc 1 1, .goto 2], 191), (191, [.iconst (1), .istore 1, .iconst (0), .istore 2], 195), (195, [.iload 2, .iconst (8), .if_icmp .ge 231, .iload 1, .ifCond .eq 223, .aload 0, .getfield 9432, .iconst (8), .iload 2, .imul, .iload 2, .iadd, .iaload, .ifCond .lt 223, .iconst (1), .goto 224], 223), (223, [.iconst (0)], 224), (224, [.istore 1, .iinc 2 1, .goto 195], 231), (231, [.iload 1, .ireturn], 233)]
theorem k_X9_close : chkB T_X9_close cX9_close B_X9_close = true := by decide +kernel
theorem cw_X9_close : calW Y_X9_close := ⟨pn_X9, Or.inr (Or.inr (Or.inl ⟨rfl, rfl⟩)), w_1541, w_11, mh_X9, by decide⟩
theorem cl_X9_close {o : OM} {Y : Pk} {d d2 idx : Nat} {C : Ctr} (hS : Sound o Y_X9_close d2 C) (hd : d2 + 1 ≤ d) (hl : Cond.methodLink (yN Y).cls idx yX9_close ∈ wsG ∨ ∃ host, Cond.methodLinkNest (yN Y).cls idx yX9_close host ∈ nestW) : CallOK o Y d (.invokevirtual idx) (1, rcv 9 6 C) := callV_ok hS hd cw_X9_close hl w_1540 wp_116 (Or.inl ⟨TX9, 55, rfl⟩) (by decide +kernel)
def Y_X9_keptSet : Pk := (yX9_keptSet, cX9_keptSet, 3, some .int, 1)
def T_X9_keptSet : Tb := ([(325, 9320), (68, 9382)], [], [], [], [], [], 3)
def V_X9_keptSet : List (Nat × Nat) := [(0, 1), (4, 3), (28, 3), (29, 3), (37, 3)]
def B_X9_keptSet : Bk := [(0, [.iconst (0), .istore 1, .iconst (0), .istore 2], 4), (4, [.iload 2, .aload 0, .getfield 9320, .if_icmp .ge 37, .iload 1, .aload 0, .getfield 9382, .iload 2, .baload, .ifCond .eq 28, .iconst (1), .iload 2, .ishl, .goto 29], 28), (28, [.iconst (0)], 29), (29, [.ior, .istore 1, .iinc 2 1, .goto 4], 37), (37, [.iload 1, .ireturn], 39)]
theorem k_X9_keptSet : chkB T_X9_keptSet cX9_keptSet B_X9_keptSet = true := by decide +kernel
theorem cw_X9_keptSet : calW Y_X9_keptSet := ⟨pn_X9, Or.inr (Or.inl ⟨rfl, rfl⟩), w_1524, w_11, mh_X9, by decide⟩
theorem cl_X9_keptSet {o : OM} {Y : Pk} {d d2 idx : Nat} {C : Ctr} (hS : Sound o Y_X9_keptSet d2 C) (hd : d2 + 1 ≤ d) (hl : Cond.methodLink (yN Y).cls idx yX9_keptSet ∈ wsG ∨ ∃ host, Cond.methodLinkNest (yN Y).cls idx yX9_keptSet host ∈ nestW) : CallOK o Y d (.invokevirtual idx) (1, rcv 9 3 C) := callV_ok hS hd cw_X9_keptSet hl w_1523 wp_112 (Or.inl ⟨TX9, 55, rfl⟩) (by decide +kernel)
def Y_X9_floats : Pk := (yX9_floats, cX9_floats, 3, some .boolean, 2)
def T_X9_floats : Tb := ([(80, 9432)], [(333, 10000000)], [], [], [], [], 3)
def V_X9_floats : List (Nat × Nat) := [(0, 3), (21, 3), (22, 3)]
def B_X9_floats : Bk := [(0, [.aload 0, .getfield 9432, .iconst (8), .iload 1, .imul, .iload 2, .iadd, .iaload, .iconst (10000000), .if_icmp .ne 21, .iconst (1), .goto 22], 21), (21, [.iconst (0)], 22), (22, [.ireturn], 23)]
theorem k_X9_floats : chkB T_X9_floats cX9_floats B_X9_floats = true := by decide +kernel
theorem cw_X9_floats : calW Y_X9_floats := ⟨pn_X9, Or.inr (Or.inr (Or.inl ⟨rfl, rfl⟩)), w_1551, w_11, mh_X9, by decide⟩
theorem cl_X9_floats {o : OM} {Y : Pk} {d d2 idx : Nat} {C : Ctr} (hS : Sound o Y_X9_floats d2 C) (hd : d2 + 1 ≤ d) (hl : Cond.methodLink (yN Y).cls idx yX9_floats ∈ wsG ∨ ∃ host, Cond.methodLinkNest (yN Y).cls idx yX9_floats host ∈ nestW) : CallOK o Y d (.invokevirtual idx) (3, rcv 9 3 C) := callV_ok hS hd cw_X9_floats hl w_1550 wp_117 (Or.inl ⟨TX9, 55, rfl⟩) (by decide +kernel)
def Y_X9_doubtOf : Pk := (yX9_doubtOf, cX9_doubtOf, 4, some .int, 1)
def T_X9_doubtOf : Tb := ([(325, 9320), (65, 9372)], [], [], [], [], [], 4)
def V_X9_doubtOf : List (Nat × Nat) := [(0, 2), (4, 4), (31, 4), (32, 4), (40, 4)]
def B_X9_doubtOf : Bk := [(0, [.iconst (0), .istore 2, .iconst (0), .istore 3], 4), (4, [.iload 3, .aload 0, .getfield 9320, .if_icmp .ge 40, .iload 2, .iload 1, .iload 3, .ishr, .iconst (1), .iand, .iconst (1), .if_icmp .ne 31, .aload 0, .getfield 9372, .iload 3, .iaload, .goto 32], 31), (31, [.iconst (0)], 32), (32, [.iadd, .istore 2, .iinc 3 1, .goto 4], 40), (40, [.iload 2, .ireturn], 42)]
theorem k_X9_doubtOf : chkB T_X9_doubtOf cX9_doubtOf B_X9_doubtOf = true := by decide +kernel
theorem cw_X9_doubtOf : calW Y_X9_doubtOf := ⟨pn_X9, Or.inr (Or.inl ⟨rfl, rfl⟩), w_1575, w_11, mh_X9, by decide⟩
theorem cl_X9_doubtOf {o : OM} {Y : Pk} {d d2 idx : Nat} {C : Ctr} (hS : Sound o Y_X9_doubtOf d2 C) (hd : d2 + 1 ≤ d) (hl : Cond.methodLink (yN Y).cls idx yX9_doubtOf ∈ wsG ∨ ∃ host, Cond.methodLinkNest (yN Y).cls idx yX9_doubtOf host ∈ nestW) : CallOK o Y d (.invokevirtual idx) (2, rcv 9 4 C) := callV_ok hS hd cw_X9_doubtOf hl w_1574 wp_120 (Or.inl ⟨TX9, 55, rfl⟩) (by decide +kernel)
def Y_X9_manyOf : Pk := (yX9_manyOf, cX9_manyOf, 4, some .int, 1)
def T_X9_manyOf : Tb := ([(325, 9320)], [], [], [], [], [], 4)
def V_X9_manyOf : List (Nat × Nat) := [(0, 2), (4, 4), (26, 4)]
def B_X9_manyOf : Bk := [(0, [.iconst (0), .istore 2, .iconst (0), .istore 3], 4), (4, [.iload 3, .aload 0, .getfield 9320, .if_icmp .ge 26, .iload 2, .iload 1, .iload 3, .ishr, .iconst (1), .iand, .iadd, .istore 2, .iinc 3 1, .goto 4], 26), (26, [.iload 2, .ireturn], 28)]
theorem k_X9_manyOf : chkB T_X9_manyOf cX9_manyOf B_X9_manyOf = true := by decide +kernel
theorem cw_X9_manyOf : calW Y_X9_manyOf := ⟨pn_X9, Or.inr (Or.inl ⟨rfl, rfl⟩), w_1571, w_11, mh_X9, by decide⟩
theorem cl_X9_manyOf {o : OM} {Y : Pk} {d d2 idx : Nat} {C : Ctr} (hS : Sound o Y_X9_manyOf d2 C) (hd : d2 + 1 ≤ d) (hl : Cond.methodLink (yN Y).cls idx yX9_manyOf ∈ wsG ∨ ∃ host, Cond.methodLinkNest (yN Y).cls idx yX9_manyOf host ∈ nestW) : CallOK o Y d (.invokevirtual idx) (2, rcv 9 4 C) := callV_ok hS hd cw_X9_manyOf hl w_1570 wp_119 (Or.inl ⟨TX9, 55, rfl⟩) (by decide +kernel)
def Y_X9_image : Pk := (yX9_image, cX9_image, 2, some .int, 1)
def T_X9_image : Tb := ([(86, 9492), (7, 9012), (89, 9502), (13, 9022), (98, 9532), (71, 9392), (74, 9402), (77, 9412), (92, 9512), (16, 9032), (19, 9042), (22, 9052), (95, 9522), (53, 9332), (56, 9342), (59, 9352), (62, 9362), (65, 9372), (68, 9382), (109, 9000), (105, 9460), (325, 9320), (382, 9470), (101, 9423), (385, 9483)], [], [], [], [], [], 2)
def V_X9_image : List (Nat × Nat) := [(0, 1), (2, 2), (52, 2), (53, 2), (92, 2), (94, 2), (152, 2), (154, 2), (266, 2), (267, 2), (274, 2)]
def B_X9_image : Bk := [(0, [.iconst (0), .istore 1], 2), (2, [.iload 1, .iconst (7), .if_icmp .ge 92, .aload 0, .getfield 9492, .iload 1, .aload 0, .getfield 9012, .iload 1, .iaload, .iastore, .aload 0, .getfield 9502, .iload 1, .aload 0, .getfield 9022, .iload 1, .iaload, .iastore, .aload 0, .getfield 9532, .iconst (3), .iload 1, .imul, .aload 0, .getfield 9392, .iload 1, .baload, .ifCond .eq 52, .iconst (1), .goto 53], 52), (52, [.iconst (0)], 53), (53, [.iastore, .aload 0, .getfield 9532, .iconst (3), .iload 1, .imul, .iconst (1), .iadd, .aload 0, .getfield 9402, .iload 1, .iaload, .iastore, .aload 0, .getfield 9532, .iconst (3), .iload 1, .imul, .iconst (2), .iadd, .aload 0, .getfield 9412, .iload 1, .iaload, .iastore, .iinc 1 1, .goto 2], 92), (92, [.iconst (0), .istore 1], 94), (94, [.iload 1, .iconst (112), .if_icmp .ge 152, .aload 0, .getfield 9512, .iconst (3), .iload 1, .imul, .aload 0, .getfield 9032, .iload 1, .iaload, .iastore, .aload 0, .getfield 9512, .iconst (3), .iload 1, .imul, .iconst (1), .iadd, .aload 0, .getfield 9042, .iload 1, .iaload, .iastore, .aload 0, .getfield 9512, .iconst (3), .iload 1, .imul, .iconst (2), .iadd, .aload 0, .getfield 9052, .iload 1, .iaload, .iastore, .iinc 1 1, .goto 94], 152), (152, [.iconst (0), .istore 1], 154), (154, [.iload 1, .iconst (12), .if_icmp .ge 274, .aload 0, .getfield 9522, .iconst (6), .iload 1, .imul, .aload 0, .getfield 9332, .iload 1, .iaload, .iastore, .aload 0, .getfield 9522, .iconst (6), .iload 1, .imul, .iconst (1), .iadd, .aload 0, .getfield 9342, .iload 1, .iaload, .iastore, .aload 0, .getfield 9522, .iconst (6), .iload 1, .imul, .iconst (2), .iadd, .aload 0, .getfield 9352, .iload 1, .iaload, .iastore, .aload 0, .getfield 9522, .iconst (6), .iload 1, .imul, .iconst (3), .iadd, .aload 0, .getfield 9362, .iload 1, .iaload, .iastore, .aload 0, .getfield 9522, .iconst (6), .iload 1, .imul, .iconst (4), .iadd, .aload 0, .getfield 9372, .iload 1, .iaload, .iastore, .aload 0, .getfield 9522, .iconst (6), .iload 1, .imul, .iconst (5), .iadd, .aload 0, .getfield 9382, .iload 1, .baload, .ifCond .eq 266, .iconst (1), .goto 267], 266), (266, [.iconst (0)], 267), (267, [.iastore, .iinc 1 1, .goto 154], 274), (274, [.aload 0, .aload 0, .getfield 9000, .putfield 9460, .aload 0, .aload 0, .getfield 9320, .putfield 9470, .aload 0, .aload 0, .getfield 9423, .putfield 9483, .aload 0, .getfield 9000, .ireturn], 303)]
theorem k_X9_image : chkB T_X9_image cX9_image B_X9_image = true := by decide +kernel
theorem cw_X9_image : calW Y_X9_image := ⟨pn_X9, Or.inr (Or.inl ⟨rfl, rfl⟩), w_1608, w_11, mh_X9, by decide⟩
theorem cl_X9_image {o : OM} {Y : Pk} {d d2 idx : Nat} {C : Ctr} (hS : Sound o Y_X9_image d2 C) (hd : d2 + 1 ≤ d) (hl : Cond.methodLink (yN Y).cls idx yX9_image ∈ wsG ∨ ∃ host, Cond.methodLinkNest (yN Y).cls idx yX9_image host ∈ nestW) : CallOK o Y d (.invokevirtual idx) (1, rcv 9 2 C) := callV_ok hS hd cw_X9_image hl w_1606 w_1607 (Or.inl ⟨TX9, 55, rfl⟩) (by decide +kernel)
def Y_X9_restore : Pk := (yX9_restore, cX9_restore, 2, some .int, 1)
def T_X9_restore : Tb := ([(105, 9460), (7, 9012), (86, 9492), (13, 9022), (89, 9502), (71, 9392), (98, 9532), (74, 9402), (77, 9412), (16, 9032), (92, 9512), (19, 9042), (22, 9052), (53, 9332), (95, 9522), (56, 9342), (59, 9352), (62, 9362), (65, 9372), (68, 9382), (109, 9000), (382, 9470), (325, 9320), (385, 9483), (101, 9423)], [], [], [], [], [], 2)
def V_X9_restore : List (Nat × Nat) := [(0, 1), (11, 1), (13, 2), (64, 2), (65, 2), (104, 2), (106, 2), (164, 2), (166, 2), (279, 2), (280, 2), (287, 2)]
def B_X9_restore : Bk := [(0, [.aload 0, .getfield 9460, .iconst (-1), .if_icmp .ne 11, .iconst (-103), .ireturn], 11), (11, [.iconst (0), .istore 1], 13), (13, [.iload 1, .iconst (7), .if_icmp .ge 104, .aload 0, .getfield 9012, .iload 1, .aload 0, .getfield 9492, .iload 1, .iaload, .iastore, .aload 0, .getfield 9022, .iload 1, .aload 0, .getfield 9502, .iload 1, .iaload, .iastore, .aload 0, .getfield 9392, .iload 1, .aload 0, .getfield 9532, .iconst (3), .iload 1, .imul, .iaload, .iconst (1), .if_icmp .ne 64, .iconst (1), .goto 65], 64), (64, [.iconst (0)], 65), (65, [.bastore, .aload 0, .getfield 9402, .iload 1, .aload 0, .getfield 9532, .iconst (3), .iload 1, .imul, .iconst (1), .iadd, .iaload, .iastore, .aload 0, .getfield 9412, .iload 1, .aload 0, .getfield 9532, .iconst (3), .iload 1, .imul, .iconst (2), .iadd, .iaload, .iastore, .iinc 1 1, .goto 13], 104), (104, [.iconst (0), .istore 1], 106), (106, [.iload 1, .iconst (112), .if_icmp .ge 164, .aload 0, .getfield 9032, .iload 1, .aload 0, .getfield 9512, .iconst (3), .iload 1, .imul, .iaload, .iastore, .aload 0, .getfield 9042, .iload 1, .aload 0, .getfield 9512, .iconst (3), .iload 1, .imul, .iconst (1), .iadd, .iaload, .iastore, .aload 0, .getfield 9052, .iload 1, .aload 0, .getfield 9512, .iconst (3), .iload 1, .imul, .iconst (2), .iadd, .iaload, .iastore, .iinc 1 1, .goto 106], 164), (164, [.iconst (0), .istore 1], 166), (166, [.iload 1, .iconst (12), .if_icmp .ge 287, .aload 0, .getfield 9332, .iload 1, .aload 0, .getfield 9522, .iconst (6), .iload 1, .imul, .iaload, .iastore, .aload 0, .getfield 9342, .iload 1, .aload 0, .getfield 9522, .iconst (6), .iload 1, .imul, .iconst (1), .iadd, .iaload, .iastore, .aload 0, .getfield 9352, .iload 1, .aload 0, .getfield 9522, .iconst (6), .iload 1, .imul, .iconst (2), .iadd, .iaload, .iastore, .aload 0, .getfield 9362, .iload 1, .aload 0, .getfield 9522, .iconst (6), .iload 1, .imul, .iconst (3), .iadd, .iaload, .iastore, .aload 0, .getfield 9372, .iload 1, .aload 0, .getfield 9522, .iconst (6), .iload 1, .imul, .iconst (4), .iadd, .iaload, .iastore, .aload 0, .getfield 9382, .iload 1, .aload 0, .getfield 9522, .iconst (6), .iload 1, .imul, .iconst (5), .iadd, .iaload, .iconst (1), .if_icmp .ne 279, .iconst (1), .goto 280], 279), (279, [.iconst (0)], 280), (280, [.bastore, .iinc 1 1, .goto 166], 287), (287, [.aload 0, .aload 0, .getfield 9460, .putfield 9000, .aload 0, .aload 0, .getfield 9470, .putfield 9320, .aload 0, .aload 0, .getfield 9483, .putfield 9423, .aload 0, .getfield 9000, .ireturn], 316)]
theorem k_X9_restore : chkB T_X9_restore cX9_restore B_X9_restore = true := by decide +kernel
theorem cw_X9_restore : calW Y_X9_restore := ⟨pn_X9, Or.inr (Or.inl ⟨rfl, rfl⟩), w_1612, w_11, mh_X9, by decide⟩
theorem cl_X9_restore {o : OM} {Y : Pk} {d d2 idx : Nat} {C : Ctr} (hS : Sound o Y_X9_restore d2 C) (hd : d2 + 1 ≤ d) (hl : Cond.methodLink (yN Y).cls idx yX9_restore ∈ wsG ∨ ∃ host, Cond.methodLinkNest (yN Y).cls idx yX9_restore host ∈ nestW) : CallOK o Y d (.invokevirtual idx) (1, rcv 9 2 C) := callV_ok hS hd cw_X9_restore hl w_1610 w_1611 (Or.inl ⟨TX9, 55, rfl⟩) (by decide +kernel)
def Y_X9_tell : Pk := (yX9_tell, cX9_tell, 3, none, 0)
def T_X9_tell : Tb := ([(393, 9541)], [], [(391, 31)], [], [], [], 3)
def V_X9_tell : List (Nat × Nat) := [(0, 3)]
def B_X9_tell : Bk := [(0, [.aload 0, .jsr (31), .aload 0, .getfield 9541, .lmul, .lload 1, .ladd, .putfield 9541, .return_], 15)]
theorem k_X9_tell : chkB T_X9_tell cX9_tell B_X9_tell = true := by decide +kernel
theorem cw_X9_tell : calW Y_X9_tell := ⟨pn_X9, Or.inl ⟨rfl, rfl⟩, w_1633, w_11, mh_X9, by decide⟩
theorem cl_X9_tell {o : OM} {Y : Pk} {d d2 idx : Nat} {C : Ctr} (hS : Sound o Y_X9_tell d2 C) (hd : d2 + 1 ≤ d) (hl : Cond.methodLink (yN Y).cls idx yX9_tell ∈ wsG ∨ ∃ host, Cond.methodLinkNest (yN Y).cls idx yX9_tell host ∈ nestW) : CallOK o Y d (.invokevirtual idx) (2, rcv 9 3 C) := callV_ok hS hd cw_X9_tell hl w_1632 wp_126 (Or.inl ⟨TX9, 55, rfl⟩) (by decide +kernel)
def Y_J6_compare_7cf53 : Pk := (yJ6_compare_7cf53, cJ6_compare_7cf53, 2, some .int, 1)
def T_J6_compare_7cf53 : Tb := ([], [], [], [], [], [], 2)
def V_J6_compare_7cf53 : List (Nat × Nat) := [(0, 2), (9, 2), (18, 2), (19, 2)]
def B_J6_compare_7cf53 : Bk := [(0, [.iload 0, .iload 1, .if_icmp .ge 9, .iconst (-1), .goto 19], 9), (9, [.iload 0, .iload 1, .if_icmp .ne 18, .iconst (0), .goto 19], 18), (18, [.iconst (1)], 19), (19, [.ireturn], 20)]
theorem k_J6_compare_7cf53 : chkB T_J6_compare_7cf53 cJ6_compare_7cf53 B_J6_compare_7cf53 = true := by decide +kernel
theorem cw_J6_compare_7cf53 : calW Y_J6_compare_7cf53 := ⟨pn_J6, Or.inr (Or.inl ⟨rfl, rfl⟩), w_438, w_12, mh_J6, by decide⟩
theorem cl_J6_compare_7cf53 {o : OM} {Y : Pk} {d d2 idx : Nat} {C : Ctr} (hS : Sound o Y_J6_compare_7cf53 d2 C) (hd : d2 + 1 ≤ d) (hl : Cond.methodLink (yN Y).cls idx yJ6_compare_7cf53 ∈ wsG ∨ ∃ host, Cond.methodLinkNest (yN Y).cls idx yJ6_compare_7cf53 host ∈ nestW) : CallOK o Y d (.invokestatic idx) (2, arg 2 C) := callS_ok hS hd cw_J6_compare_7cf53 hl w_437 (by decide +kernel)
def Y_J6_bitCount_0f7a4 : Pk := (yJ6_bitCount_0f7a4, cJ6_bitCount_0f7a4, 1, some .int, 1)
def T_J6_bitCount_0f7a4 : Tb := ([], [(265, 1431655765), (266, 858993459), (267, 252645135)], [], [], [], [], 1)
def V_J6_bitCount_0f7a4 : List (Nat × Nat) := [(0, 1)]
def B_J6_bitCount_0f7a4 : Bk := [(0, [.iload 0, .iload 0, .iconst (1), .iushr, .iconst (1431655765), .iand, .isub, .istore 0, .iload 0, .iconst (858993459), .iand, .iload 0, .iconst (2), .iushr, .iconst (858993459), .iand, .iadd, .istore 0, .iload 0, .iload 0, .iconst (4), .iushr, .iadd, .iconst (252645135), .iand, .istore 0, .iload 0, .iload 0, .iconst (8), .iushr, .iadd, .istore 0, .iload 0, .iload 0, .iconst (16), .iushr, .iadd, .istore 0, .iload 0, .iconst (63), .iand, .ireturn], 53)]
theorem k_J6_bitCount_0f7a4 : chkB T_J6_bitCount_0f7a4 cJ6_bitCount_0f7a4 B_J6_bitCount_0f7a4 = true := by decide +kernel
theorem cw_J6_bitCount_0f7a4 : calW Y_J6_bitCount_0f7a4 := ⟨pn_J6, Or.inr (Or.inl ⟨rfl, rfl⟩), w_918, w_12, mh_J6, by decide⟩
theorem cl_J6_bitCount_0f7a4 {o : OM} {Y : Pk} {d d2 idx : Nat} {C : Ctr} (hS : Sound o Y_J6_bitCount_0f7a4 d2 C) (hd : d2 + 1 ≤ d) (hl : Cond.methodLink (yN Y).cls idx yJ6_bitCount_0f7a4 ∈ wsG ∨ ∃ host, Cond.methodLinkNest (yN Y).cls idx yJ6_bitCount_0f7a4 host ∈ nestW) : CallOK o Y d (.invokestatic idx) (1, arg 1 C) := callS_ok hS hd cw_J6_bitCount_0f7a4 hl w_917 (by decide +kernel)
def Y_J0_coder_7d493 : Pk := (yJ0_coder_7d493, cJ0_coder_7d493, 1, some .byte, 4)
def T_J0_coder_7d493 : Tb := ([(15, 20015)], [], [], [(38, 999)], [], [], 1)
def V_J0_coder_7d493 : List (Nat × Nat) := [(0, 1), (13, 1), (14, 1)]
def B_J0_coder_7d493 : Bk := [(0, [.iconst 1, .ifCond .eq 13, .aload 0, .getfield 20015, .goto 14], 13), (13, [.iconst (1)], 14), (14, [.ireturn], 15)]
theorem k_J0_coder_7d493 : chkB T_J0_coder_7d493 cJ0_coder_7d493 B_J0_coder_7d493 = true := by decide +kernel
theorem cw_J0_coder_7d493 : calW Y_J0_coder_7d493 := ⟨pn_J0, Or.inr (Or.inr (Or.inr (Or.inr ⟨rfl, rfl⟩))), w_511, w_13, mh_J0, by decide⟩
theorem cl_J0_coder_7d493 {o : OM} {Y : Pk} {d d2 idx : Nat} {C : Ctr} (hS : Sound o Y_J0_coder_7d493 d2 C) (hd : d2 + 1 ≤ d) (hl : Cond.methodLink (yN Y).cls idx yJ0_coder_7d493 ∈ wsG ∨ ∃ host, Cond.methodLinkNest (yN Y).cls idx yJ0_coder_7d493 host ∈ nestW) : CallOK o Y d (.invokevirtual idx) (1, rcv 20 1 C) := callV_ok hS hd cw_J0_coder_7d493 hl w_509 w_510 (Or.inr ⟨rfl, rfl⟩) (by decide +kernel)
def Y_J0_isLatin1_aae02 : Pk := (yJ0_isLatin1_aae02, cJ0_isLatin1_aae02, 1, some .boolean, 2)
def T_J0_isLatin1_aae02 : Tb := ([(15, 20015)], [], [], [(38, 999)], [], [], 1)
def V_J0_isLatin1_aae02 : List (Nat × Nat) := [(0, 1), (17, 1), (18, 1)]
def B_J0_isLatin1_aae02 : Bk := [(0, [.iconst 1, .ifCond .eq 17, .aload 0, .getfield 20015, .ifCond .ne 17, .iconst (1), .goto 18], 17), (17, [.iconst (0)], 18), (18, [.ireturn], 19)]
theorem k_J0_isLatin1_aae02 : chkB T_J0_isLatin1_aae02 cJ0_isLatin1_aae02 B_J0_isLatin1_aae02 = true := by decide +kernel
theorem cw_J0_isLatin1_aae02 : calW Y_J0_isLatin1_aae02 := ⟨pn_J0, Or.inr (Or.inr (Or.inl ⟨rfl, rfl⟩)), w_501, w_13, mh_J0, by decide⟩
theorem cl_J0_isLatin1_aae02 {o : OM} {Y : Pk} {d d2 idx : Nat} {C : Ctr} (hS : Sound o Y_J0_isLatin1_aae02 d2 C) (hd : d2 + 1 ≤ d) (hl : Cond.methodLink (yN Y).cls idx yJ0_isLatin1_aae02 ∈ wsG ∨ ∃ host, Cond.methodLinkNest (yN Y).cls idx yJ0_isLatin1_aae02 host ∈ nestW) : CallOK o Y d (.invokevirtual idx) (1, rcv 20 1 C) := callV_ok hS hd cw_J0_isLatin1_aae02 hl w_499 w_500 (Or.inr ⟨rfl, rfl⟩) (by decide +kernel)
def Y_J1_canEncode_9a6ad : Pk := (yJ1_canEncode_9a6ad, cJ1_canEncode_9a6ad, 1, some .boolean, 2)
def T_J1_canEncode_9a6ad : Tb := ([], [], [], [], [], [], 1)
def V_J1_canEncode_9a6ad : List (Nat × Nat) := [(0, 1), (15, 1), (16, 1)]
def B_J1_canEncode_9a6ad : Bk := [(0, [.iload 0, .ifCond .lt 15, .iload 0, .iconst (255), .if_icmp .gt 15, .iconst (1), .goto 16], 15), (15, [.iconst (0)], 16), (16, [.ireturn], 17)]
theorem k_J1_canEncode_9a6ad : chkB T_J1_canEncode_9a6ad cJ1_canEncode_9a6ad B_J1_canEncode_9a6ad = true := by decide +kernel
theorem cw_J1_canEncode_9a6ad : calW Y_J1_canEncode_9a6ad := ⟨pn_J1, Or.inr (Or.inr (Or.inl ⟨rfl, rfl⟩)), w_517, w_14, mh_J1, by decide⟩
theorem cl_J1_canEncode_9a6ad {o : OM} {Y : Pk} {d d2 idx : Nat} {C : Ctr} (hS : Sound o Y_J1_canEncode_9a6ad d2 C) (hd : d2 + 1 ≤ d) (hl : Cond.methodLink (yN Y).cls idx yJ1_canEncode_9a6ad ∈ wsG ∨ ∃ host, Cond.methodLinkNest (yN Y).cls idx yJ1_canEncode_9a6ad host ∈ nestW) : CallOK o Y d (.invokestatic idx) (1, arg 1 C) := callS_ok hS hd cw_J1_canEncode_9a6ad hl w_516 (by decide +kernel)
def Y_J1_indexOfChar_4cfef : Pk := (yJ1_indexOfChar_4cfef, cJ1_indexOfChar_4cfef, 6, some .int, 1)
def T_J1_indexOfChar_4cfef : Tb := ([], [], [], [], [], [], 6)
def V_J1_indexOfChar_4cfef : List (Nat × Nat) := [(0, 4), (7, 6), (25, 6), (31, 6)]
def B_J1_indexOfChar_4cfef : Bk := [(0, [.iload 1, .i2b, .istore 4, .iload 2, .istore 5], 7), (7, [.iload 5, .iload 3, .if_icmp .ge 31, .aload 0, .iload 5, .baload, .iload 4, .if_icmp .ne 25, .iload 5, .ireturn], 25), (25, [.iinc 5 1, .goto 7], 31), (31, [.iconst (-1), .ireturn], 33)]
theorem k_J1_indexOfChar_4cfef : chkB T_J1_indexOfChar_4cfef cJ1_indexOfChar_4cfef B_J1_indexOfChar_4cfef = true := by decide +kernel
theorem cw_J1_indexOfChar_4cfef : calW Y_J1_indexOfChar_4cfef := ⟨pn_J1, Or.inr (Or.inl ⟨rfl, rfl⟩), w_526, w_14, mh_J1, by decide⟩
theorem cl_J1_indexOfChar_4cfef {o : OM} {Y : Pk} {d d2 idx : Nat} {C : Ctr} (hS : Sound o Y_J1_indexOfChar_4cfef d2 C) (hd : d2 + 1 ≤ d) (hl : Cond.methodLink (yN Y).cls idx yJ1_indexOfChar_4cfef ∈ wsG ∨ ∃ host, Cond.methodLinkNest (yN Y).cls idx yJ1_indexOfChar_4cfef host ∈ nestW) : CallOK o Y d (.invokestatic idx) (4, arg 6 C) := callS_ok hS hd cw_J1_indexOfChar_4cfef hl w_525 (by decide +kernel)
def Y_J7_fill_53178 : Pk := (yJ7_fill_53178, cJ7_fill_53178, 4, none, 0)
def T_J7_fill_53178 : Tb := ([], [], [], [], [], [], 4)
def V_J7_fill_53178 : List (Nat × Nat) := [(0, 2), (5, 4), (20, 4)]
def B_J7_fill_53178 : Bk := [(0, [.iconst (0), .istore 2, .aload 0, .arraylength, .istore 3], 5), (5, [.iload 2, .iload 3, .if_icmp .ge 20, .aload 0, .iload 2, .iload 1, .iastore, .iinc 2 1, .goto 5], 20), (20, [.return_], 21)]
theorem k_J7_fill_53178 : chkB T_J7_fill_53178 cJ7_fill_53178 B_J7_fill_53178 = true := by decide +kernel
theorem cw_J7_fill_53178 : calW Y_J7_fill_53178 := ⟨pn_J7, Or.inl ⟨rfl, rfl⟩, w_146, w_6, mh_J7, by decide⟩
theorem cl_J7_fill_53178 {o : OM} {Y : Pk} {d d2 idx : Nat} {C : Ctr} (hS : Sound o Y_J7_fill_53178 d2 C) (hd : d2 + 1 ≤ d) (hl : Cond.methodLink (yN Y).cls idx yJ7_fill_53178 ∈ wsG ∨ ∃ host, Cond.methodLinkNest (yN Y).cls idx yJ7_fill_53178 host ∈ nestW) : CallOK o Y d (.invokestatic idx) (2, arg 4 C) := callS_ok hS hd cw_J7_fill_53178 hl w_145 (by decide +kernel)
def Y_X0_addJoin : Pk := (yX0_addJoin, cX0_addJoin, 7, some .int, 1)
def T_X0_addJoin : Tb := ([(9, 0), (15, 12), (19, 22), (22, 32), (25, 42), (28, 52)], [], [], [], [(47, 0)], [], 7)
def V_X0_addJoin : List (Nat × Nat) := [(0, 6), (15, 7)]
def B_X0_addJoin : Bk := [(0, [.aload 0, .getfield 0, .istore 6, .iload 6, .iconst (12), .if_icmp .lt 15, .iconst (-1), .ireturn], 15), (15, [.aload 0, .getfield 12, .iload 6, .iload 1, .iastore, .aload 0, .getfield 22, .iload 6, .iload 2, .iastore, .aload 0, .getfield 32, .iload 6, .iload 3, .iastore, .aload 0, .getfield 42, .iload 6, .iload 4, .iastore, .aload 0, .getfield 52, .iload 6, .iload 5, .iastore, .aload 0, .iload 6, .iconst (1), .invokestatic 0, .aload 0, .dup, .getfield 0, .iconst (1), .iadd, .putfield 0, .iload 6, .ireturn], 77)]
theorem k_X0_addJoin : chkB T_X0_addJoin cX0_addJoin B_X0_addJoin = true := by decide +kernel
theorem cw_X0_addJoin : calW Y_X0_addJoin := ⟨pn_X0, Or.inr (Or.inl ⟨rfl, rfl⟩), w_786, w_3, mh_X0, by decide⟩
theorem cl_X0_addJoin {o : OM} {Y : Pk} {d d2 idx : Nat} {C : Ctr} (hS : Sound o Y_X0_addJoin d2 C) (hd : d2 + 1 ≤ d) (hl : Cond.methodLink (yN Y).cls idx yX0_addJoin ∈ wsG ∨ ∃ host, Cond.methodLinkNest (yN Y).cls idx yX0_addJoin host ∈ nestW) : CallOK o Y d (.invokevirtual idx) (6, rcv 0 7 C) := callV_ok hS hd cw_X0_addJoin hl w_785 wp_43 (Or.inl ⟨TX0, 11, rfl⟩) (by decide +kernel)
def Y_X0_foldInto : Pk := (yX0_foldInto, cX0_foldInto, 4, some .long, 3)
def T_X0_foldInto : Tb := ([(9, 0), (15, 12), (19, 22), (22, 32), (25, 42), (28, 52), (37, 82), (40, 92)], [], [], [], [(55, 1), (63, 3)], [(51, 0), (59, 2)], 4)
def V_X0_foldInto : List (Nat × Nat) := [(0, 3), (2, 4), (90, 4), (92, 4), (137, 4), (143, 4)]
def B_X0_foldInto : Bk := [(0, [.iconst (0), .istore 3], 2), (2, [.iload 3, .aload 0, .getfield 0, .if_icmp .ge 90, .lload 1, .aload 0, .getfield 12, .iload 3, .iaload, .i2l, .invokestatic 0, .lstore 1, .lload 1, .aload 0, .getfield 22, .iload 3, .iaload, .i2l, .invokestatic 0, .lstore 1, .lload 1, .aload 0, .getfield 32, .iload 3, .iaload, .i2l, .invokestatic 0, .lstore 1, .lload 1, .aload 0, .getfield 42, .iload 3, .iaload, .i2l, .invokestatic 0, .lstore 1, .lload 1, .aload 0, .getfield 52, .iload 3, .iaload, .i2l, .invokestatic 0, .lstore 1, .lload 1, .aload 0, .iload 3, .invokestatic 1, .invokestatic 2, .i2l, .invokestatic 0, .lstore 1, .iinc 3 1, .goto 2], 90), (90, [.iconst (0), .istore 3], 92), (92, [.iload 3, .iconst (7), .if_icmp .ge 143, .aload 0, .iload 3, .invokestatic 3, .ifCond .eq 137, .lload 1, .iload 3, .i2l, .invokestatic 0, .lstore 1, .lload 1, .aload 0, .getfield 82, .iload 3, .iaload, .i2l, .invokestatic 0, .lstore 1, .lload 1, .aload 0, .getfield 92, .iload 3, .iaload, .i2l, .invokestatic 0, .lstore 1], 137), (137, [.iinc 3 1, .goto 92], 143), (143, [.lload 1, .lreturn], 145)]
theorem k_X0_foldInto : chkB T_X0_foldInto cX0_foldInto B_X0_foldInto = true := by decide +kernel
theorem cw_X0_foldInto : calW Y_X0_foldInto := ⟨pn_X0, Or.inr (Or.inr (Or.inr (Or.inl ⟨rfl, rfl⟩))), w_1072, w_3, mh_X0, by decide⟩
theorem cl_X0_foldInto {o : OM} {Y : Pk} {d d2 idx : Nat} {C : Ctr} (hS : Sound o Y_X0_foldInto d2 C) (hd : d2 + 1 ≤ d) (hl : Cond.methodLink (yN Y).cls idx yX0_foldInto ∈ wsG ∨ ∃ host, Cond.methodLinkNest (yN Y).cls idx yX0_foldInto host ∈ nestW) : CallOK o Y d (.invokevirtual idx) (2, rcv 0 4 C) := callV_ok hS hd cw_X0_foldInto hl w_1071 wp_87 (Or.inl ⟨TX0, 11, rfl⟩) (by decide +kernel)
def Y_X0_copyFrom : Pk := (yX0_copyFrom, cX0_copyFrom, 2, none, 0)
def T_X0_copyFrom : Tb := ([(9, 0), (15, 12), (19, 22), (22, 32), (25, 42), (28, 52), (31, 60), (34, 70), (37, 82), (40, 92), (43, 103)], [], [], [], [], [(66, 0)], 2)
def V_X0_copyFrom : List (Nat × Nat) := [(0, 2)]
def B_X0_copyFrom : Bk := [(0, [.aload 0, .aload 1, .getfield 0, .putfield 0, .aload 1, .getfield 12, .iconst (0), .aload 0, .getfield 12, .iconst (0), .iconst (12), .invokestatic 0, .aload 1, .getfield 22, .iconst (0), .aload 0, .getfield 22, .iconst (0), .iconst (12), .invokestatic 0, .aload 1, .getfield 32, .iconst (0), .aload 0, .getfield 32, .iconst (0), .iconst (12), .invokestatic 0, .aload 1, .getfield 42, .iconst (0), .aload 0, .getfield 42, .iconst (0), .iconst (12), .invokestatic 0, .aload 1, .getfield 52, .iconst (0), .aload 0, .getfield 52, .iconst (0), .iconst (12), .invokestatic 0, .aload 0, .aload 1, .getfield 60, .putfield 60, .aload 0, .aload 1, .getfield 70, .putfield 70, .aload 1, .getfield 82, .iconst (0), .aload 0, .getfield 82, .iconst (0), .iconst (7), .invokestatic 0, .aload 1, .getfield 92, .iconst (0), .aload 0, .getfield 92, .iconst (0), .iconst (7), .invokestatic 0, .aload 0, .aload 1, .getfield 103, .putfield 103, .return_], 138)]
theorem k_X0_copyFrom : chkB T_X0_copyFrom cX0_copyFrom B_X0_copyFrom = true := by decide +kernel
theorem cw_X0_copyFrom : calW Y_X0_copyFrom := ⟨pn_X0, Or.inl ⟨rfl, rfl⟩, w_1037, w_3, mh_X0, by decide⟩
theorem cl_X0_copyFrom {o : OM} {Y : Pk} {d d2 idx : Nat} {C : Ctr} (hS : Sound o Y_X0_copyFrom d2 C) (hd : d2 + 1 ≤ d) (hl : Cond.methodLink (yN Y).cls idx yX0_copyFrom ∈ wsG ∨ ∃ host, Cond.methodLinkNest (yN Y).cls idx yX0_copyFrom host ∈ nestW) : CallOK o Y d (.invokevirtual idx) (2, rcv 0 2 C) := callV_ok hS hd cw_X0_copyFrom hl w_1036 wp_83 (Or.inl ⟨TX0, 11, rfl⟩) (by decide +kernel)
def Y_X1_take : Pk := (yX1_take, cX1_take, 3, some .int, 1)
def T_X1_take : Tb := ([(9, 1010), (15, 1022)], [], [], [], [], [(29, 0)], 3)
def V_X1_take : List (Nat × Nat) := [(0, 2), (12, 3)]
def B_X1_take : Bk := [(0, [.aload 0, .getfield 1010, .istore 2, .iload 2, .iconst (4), .if_icmp .lt 12, .iconst (-1), .ireturn], 12), (12, [.aload 1, .iconst (0), .aload 0, .getfield 1022, .iload 2, .iconst (1), .iadd, .iconst (7), .imul, .iconst (7), .invokestatic 0, .aload 0, .dup, .getfield 1010, .iconst (1), .iadd, .putfield 1010, .iload 2, .ireturn], 41)]
theorem k_X1_take : chkB T_X1_take cX1_take B_X1_take = true := by decide +kernel
theorem cw_X1_take : calW Y_X1_take := ⟨pn_X1, Or.inr (Or.inl ⟨rfl, rfl⟩), w_587, w_5, mh_X1, by decide⟩
theorem cl_X1_take {o : OM} {Y : Pk} {d d2 idx : Nat} {C : Ctr} (hS : Sound o Y_X1_take d2 C) (hd : d2 + 1 ≤ d) (hl : Cond.methodLink (yN Y).cls idx yX1_take ∈ wsG ∨ ∃ host, Cond.methodLinkNest (yN Y).cls idx yX1_take host ∈ nestW) : CallOK o Y d (.invokevirtual idx) (2, rcv 1 3 C) := callV_ok hS hd cw_X1_take hl w_586 wp_17 (Or.inl ⟨TX1, 3, rfl⟩) (by decide +kernel)
def Y_X1_halvesAhead : Pk := (yX1_halvesAhead, cX1_halvesAhead, 6, some .int, 1)
def T_X1_halvesAhead : Tb := ([(19, 1002)], [], [], [], [(38, 0), (44, 1), (47, 2)], [], 6)
def V_X1_halvesAhead : List (Nat × Nat) := [(0, 4), (6, 6), (48, 6)]
def B_X1_halvesAhead : Bk := [(0, [.iconst (0), .istore 4, .iconst (0), .istore 5], 6), (6, [.iload 5, .iload 3, .if_icmp .ge 48, .iload 4, .aload 0, .iload 1, .aload 0, .getfield 1002, .iload 2, .iload 5, .invokestatic 0, .aload 0, .getfield 1002, .iload 2, .iload 5, .invokestatic 1, .invokestatic 2, .iadd, .istore 4, .iinc 5 1, .goto 6], 48), (48, [.iload 4, .ireturn], 51)]
theorem k_X1_halvesAhead : chkB T_X1_halvesAhead cX1_halvesAhead B_X1_halvesAhead = true := by decide +kernel
theorem cw_X1_halvesAhead : calW Y_X1_halvesAhead := ⟨pn_X1, Or.inr (Or.inl ⟨rfl, rfl⟩), w_410, w_5, mh_X1, by decide⟩
theorem cl_X1_halvesAhead {o : OM} {Y : Pk} {d d2 idx : Nat} {C : Ctr} (hS : Sound o Y_X1_halvesAhead d2 C) (hd : d2 + 1 ≤ d) (hl : Cond.methodLink (yN Y).cls idx yX1_halvesAhead ∈ wsG ∨ ∃ host, Cond.methodLinkNest (yN Y).cls idx yX1_halvesAhead host ∈ nestW) : CallOK o Y d (.invokevirtual idx) (4, rcv 1 6 C) := callV_ok hS hd cw_X1_halvesAhead hl w_409 wp_8 (Or.inl ⟨TX1, 3, rfl⟩) (by decide +kernel)
def Y_X3_findAshes : Pk := (yX3_findAshes, cX3_findAshes, 6, none, 0)
def T_X3_findAshes : Tb := ([(26, 3072), (59, 3022), (132, 103), (51, 3002), (85, 6000), (136, 6022), (55, 3012)], [], [], [], [(139, 1), (143, 2), (146, 3)], [(72, 0)], 6)
def V_X3_findAshes : List (Nat × Nat) := [(0, 1), (10, 2), (35, 4), (107, 6), (128, 4), (134, 2)]
def B_X3_findAshes : Bk := [(0, [.aload 0, .getfield 3072, .iconst (-1), .invokestatic 0, .iconst (0), .istore 1], 10), (10, [.aload 0, .getfield 3022, .getfield 103, .ifCond .eq 134, .iload 1, .aload 0, .getfield 3002, .getfield 6000, .if_icmp .ge 134, .iconst (0), .istore 2, .iconst (0), .istore 3], 35), (35, [.iload 3, .aload 0, .getfield 3002, .getfield 6022, .iload 1, .iaload, .if_icmp .ge 128, .aload 0, .getfield 3002, .iload 1, .iload 3, .invokestatic 1, .istore 4, .aload 0, .getfield 3002, .iload 1, .iload 3, .invokestatic 2, .istore 5, .iload 4, .iconst (5), .if_icmp .ne 107, .aload 0, .getfield 3072, .iload 1, .iconst (10), .imul, .iload 5, .iadd, .iaload, .iconst (-1), .if_icmp .ne 107, .aload 0, .getfield 3072, .iload 1, .iconst (10), .imul, .iload 5, .iadd, .iload 2, .iconst (2), .idiv, .iastore], 107), (107, [.iload 2, .aload 0, .getfield 3012, .iconst (-1), .iload 4, .iload 5, .invokestatic 3, .iadd, .istore 2, .iinc 3 1, .goto 35], 128), (128, [.iinc 1 1, .goto 10], 134), (134, [.return_], 135)]
theorem k_X3_findAshes : chkB T_X3_findAshes cX3_findAshes B_X3_findAshes = true := by decide +kernel
theorem cw_X3_findAshes : calW Y_X3_findAshes := ⟨pn_X3, Or.inl ⟨rfl, rfl⟩, w_842, w_10, mh_X3, by decide⟩
theorem cl_X3_findAshes {o : OM} {Y : Pk} {d d2 idx : Nat} {C : Ctr} (hS : Sound o Y_X3_findAshes d2 C) (hd : d2 + 1 ≤ d) (hl : Cond.methodLink (yN Y).cls idx yX3_findAshes ∈ wsG ∨ ∃ host, Cond.methodLinkNest (yN Y).cls idx yX3_findAshes host ∈ nestW) : CallOK o Y d (.invokevirtual idx) (1, rcv 3 6 C) := callV_ok hS hd cw_X3_findAshes hl w_841 wp_51 (Or.inl ⟨TX3, 15, rfl⟩) (by decide +kernel)
def Y_X3_firstPitWithAsh : Pk := (yX3_firstPitWithAsh, cX3_firstPitWithAsh, 3, some .int, 1)
def T_X3_firstPitWithAsh : Tb := ([(51, 3002), (85, 6000)], [], [], [], [(156, 0)], [], 3)
def V_X3_firstPitWithAsh : List (Nat × Nat) := [(0, 2), (2, 3), (24, 3), (30, 3)]
def B_X3_firstPitWithAsh : Bk := [(0, [.iconst (0), .istore 2], 2), (2, [.iload 2, .aload 0, .getfield 3002, .getfield 6000, .if_icmp .ge 30, .aload 0, .iload 2, .iload 1, .invokestatic 0, .ifCond .eq 24, .iload 2, .ireturn], 24), (24, [.iinc 2 1, .goto 2], 30), (30, [.iconst (-1), .ireturn], 32)]
theorem k_X3_firstPitWithAsh : chkB T_X3_firstPitWithAsh cX3_firstPitWithAsh B_X3_firstPitWithAsh = true := by decide +kernel
theorem cw_X3_firstPitWithAsh : calW Y_X3_firstPitWithAsh := ⟨pn_X3, Or.inr (Or.inl ⟨rfl, rfl⟩), w_853, w_10, mh_X3, by decide⟩
theorem cl_X3_firstPitWithAsh {o : OM} {Y : Pk} {d d2 idx : Nat} {C : Ctr} (hS : Sound o Y_X3_firstPitWithAsh d2 C) (hd : d2 + 1 ≤ d) (hl : Cond.methodLink (yN Y).cls idx yX3_firstPitWithAsh ∈ wsG ∨ ∃ host, Cond.methodLinkNest (yN Y).cls idx yX3_firstPitWithAsh host ∈ nestW) : CallOK o Y d (.invokevirtual idx) (2, rcv 3 3 C) := callV_ok hS hd cw_X3_firstPitWithAsh hl w_852 wp_53 (Or.inl ⟨TX3, 15, rfl⟩) (by decide +kernel)
def Y_X3_bind : Pk := (yX3_bind, cX3_bind, 5, some .boolean, 2)
def T_X3_bind : Tb := ([], [], [], [], [], [(160, 0)], 5)
def V_X3_bind : List (Nat × Nat) := [(0, 5), (26, 5), (27, 5)]
def B_X3_bind : Bk := [(0, [.aload 0, .iload 1, .iload 2, .iload 4, .invokestatic 0, .ifCond .eq 26, .aload 0, .iload 2, .iload 1, .iload 3, .ineg, .invokestatic 0, .ifCond .eq 26, .iconst (1), .goto 27], 26), (26, [.iconst (0)], 27), (27, [.ireturn], 28)]
theorem k_X3_bind : chkB T_X3_bind cX3_bind B_X3_bind = true := by decide +kernel
theorem cw_X3_bind : calW Y_X3_bind := ⟨pn_X3, Or.inr (Or.inr (Or.inl ⟨rfl, rfl⟩)), w_860, w_10, mh_X3, by decide⟩
theorem cl_X3_bind {o : OM} {Y : Pk} {d d2 idx : Nat} {C : Ctr} (hS : Sound o Y_X3_bind d2 C) (hd : d2 + 1 ≤ d) (hl : Cond.methodLink (yN Y).cls idx yX3_bind ∈ wsG ∨ ∃ host, Cond.methodLinkNest (yN Y).cls idx yX3_bind host ∈ nestW) : CallOK o Y d (.invokestatic idx) (5, arg 5 C) := callS_ok hS hd cw_X3_bind hl w_859 (by decide +kernel)
def Y_X3_groups : Pk := (yX3_groups, cX3_groups, 3, some .int, 1)
def T_X3_groups : Tb := ([(51, 3002), (85, 6000), (29, 3082)], [], [], [], [], [(172, 0)], 3)
def V_X3_groups : List (Nat × Nat) := [(0, 1), (4, 3), (32, 3)]
def B_X3_groups : Bk := [(0, [.iconst (0), .istore 1, .iconst (0), .istore 2], 4), (4, [.iload 2, .aload 0, .getfield 3002, .getfield 6000, .if_icmp .ge 32, .iload 1, .iconst (1), .aload 0, .getfield 3082, .iload 2, .iaload, .ishl, .ior, .istore 1, .iinc 2 1, .goto 4], 32), (32, [.iload 1, .invokestatic 0, .ireturn], 37)]
theorem k_X3_groups : chkB T_X3_groups cX3_groups B_X3_groups = true := by decide +kernel
theorem cw_X3_groups : calW Y_X3_groups := ⟨pn_X3, Or.inr (Or.inl ⟨rfl, rfl⟩), w_915, w_10, mh_X3, by decide⟩
theorem cl_X3_groups {o : OM} {Y : Pk} {d d2 idx : Nat} {C : Ctr} (hS : Sound o Y_X3_groups d2 C) (hd : d2 + 1 ≤ d) (hl : Cond.methodLink (yN Y).cls idx yX3_groups ∈ wsG ∨ ∃ host, Cond.methodLinkNest (yN Y).cls idx yX3_groups host ∈ nestW) : CallOK o Y d (.invokevirtual idx) (1, rcv 3 3 C) := callV_ok hS hd cw_X3_groups hl w_914 wp_63 (Or.inl ⟨TX3, 15, rfl⟩) (by decide +kernel)
def Y_X3_copyLevel : Pk := (yX3_copyLevel, cX3_copyLevel, 2, none, 0)
def T_X3_copyLevel : Tb := ([(23, 3062)], [], [], [], [], [(105, 0)], 2)
def V_X3_copyLevel : List (Nat × Nat) := [(0, 2)]
def B_X3_copyLevel : Bk := [(0, [.aload 0, .getfield 3062, .iload 1, .aaload, .iconst (0), .aload 0, .getfield 3062, .iload 1, .iconst (1), .iadd, .aaload, .iconst (0), .iconst (64), .invokestatic 0, .return_], 22)]
theorem k_X3_copyLevel : chkB T_X3_copyLevel cX3_copyLevel B_X3_copyLevel = true := by decide +kernel
theorem cw_X3_copyLevel : calW Y_X3_copyLevel := ⟨pn_X3, Or.inl ⟨rfl, rfl⟩, w_945, w_10, mh_X3, by decide⟩
theorem cl_X3_copyLevel {o : OM} {Y : Pk} {d d2 idx : Nat} {C : Ctr} (hS : Sound o Y_X3_copyLevel d2 C) (hd : d2 + 1 ≤ d) (hl : Cond.methodLink (yN Y).cls idx yX3_copyLevel ∈ wsG ∨ ∃ host, Cond.methodLinkNest (yN Y).cls idx yX3_copyLevel host ∈ nestW) : CallOK o Y d (.invokevirtual idx) (2, rcv 3 2 C) := callV_ok hS hd cw_X3_copyLevel hl w_944 wp_68 (Or.inl ⟨TX3, 15, rfl⟩) (by decide +kernel)
def Y_X3_considerCast : Pk := (yX3_considerCast, cX3_considerCast, 5, none, 0)
def T_X3_considerCast : Tb := ([(36, 3100), (39, 3110), (32, 3090)], [], [], [], [], [(172, 0)], 5)
def V_X3_considerCast : List (Nat × Nat) := [(0, 3), (37, 4), (41, 4), (42, 4), (72, 5)]
def B_X3_considerCast : Bk := [(0, [.iload 1, .invokestatic 0, .istore 3, .iload 3, .aload 0, .getfield 3100, .if_icmp .lt 37, .iload 2, .aload 0, .getfield 3110, .if_icmp .gt 37, .iload 2, .aload 0, .getfield 3110, .if_icmp .ne 41, .iload 1, .aload 0, .getfield 3090, .if_icmp .ge 41], 37), (37, [.iconst (1), .goto 42], 41), (41, [.iconst (0)], 42), (42, [.istore 4, .iload 3, .aload 0, .getfield 3100, .if_icmp .gt 72, .iload 4, .ifCond .eq 72, .aload 0, .iload 1, .putfield 3090, .aload 0, .iload 3, .putfield 3100, .aload 0, .iload 2, .putfield 3110], 72), (72, [.return_], 73)]
theorem k_X3_considerCast : chkB T_X3_considerCast cX3_considerCast B_X3_considerCast = true := by decide +kernel
theorem cw_X3_considerCast : calW Y_X3_considerCast := ⟨pn_X3, Or.inl ⟨rfl, rfl⟩, w_941, w_10, mh_X3, by decide⟩
theorem cl_X3_considerCast {o : OM} {Y : Pk} {d d2 idx : Nat} {C : Ctr} (hS : Sound o Y_X3_considerCast d2 C) (hd : d2 + 1 ≤ d) (hl : Cond.methodLink (yN Y).cls idx yX3_considerCast ∈ wsG ∨ ∃ host, Cond.methodLinkNest (yN Y).cls idx yX3_considerCast host ∈ nestW) : CallOK o Y d (.invokevirtual idx) (3, rcv 3 5 C) := callV_ok hS hd cw_X3_considerCast hl w_940 wp_67 (Or.inl ⟨TX3, 15, rfl⟩) (by decide +kernel)
def Y_X3_mostIfApart : Pk := (yX3_mostIfApart, cX3_mostIfApart, 8, some .int, 1)
def T_X3_mostIfApart : Tb := ([(11, 3032)], [], [], [], [], [(221, 0)], 8)
def V_X3_mostIfApart : List (Nat × Nat) := [(0, 6)]
def B_X3_mostIfApart : Bk := [(0, [.aload 0, .getfield 3032, .iload 4, .iconst (8), .imul, .iload 1, .iadd, .iaload, .iload 3, .iadd, .aload 0, .getfield 3032, .iload 2, .iconst (8), .imul, .iload 5, .iadd, .iaload, .iadd, .istore 6, .aload 0, .getfield 3032, .iload 4, .iconst (8), .imul, .iload 2, .iadd, .iaload, .iload 3, .isub, .aload 0, .getfield 3032, .iload 1, .iconst (8), .imul, .iload 5, .iadd, .iaload, .iadd, .istore 7, .aload 0, .getfield 3032, .iload 4, .iconst (8), .imul, .iload 5, .iadd, .iaload, .iload 6, .iload 7, .invokestatic 0, .invokestatic 0, .ireturn], 82)]
theorem k_X3_mostIfApart : chkB T_X3_mostIfApart cX3_mostIfApart B_X3_mostIfApart = true := by decide +kernel
theorem cw_X3_mostIfApart : calW Y_X3_mostIfApart := ⟨pn_X3, Or.inr (Or.inl ⟨rfl, rfl⟩), w_984, w_10, mh_X3, by decide⟩
theorem cl_X3_mostIfApart {o : OM} {Y : Pk} {d d2 idx : Nat} {C : Ctr} (hS : Sound o Y_X3_mostIfApart d2 C) (hd : d2 + 1 ≤ d) (hl : Cond.methodLink (yN Y).cls idx yX3_mostIfApart ∈ wsG ∨ ∃ host, Cond.methodLinkNest (yN Y).cls idx yX3_mostIfApart host ∈ nestW) : CallOK o Y d (.invokevirtual idx) (6, rcv 3 8 C) := callV_ok hS hd cw_X3_mostIfApart hl w_983 wp_75 (Or.inl ⟨TX3, 15, rfl⟩) (by decide +kernel)
def Y_X5_stepOfTheWay : Pk := (yX5_stepOfTheWay, cX5_stepOfTheWay, 2, some .int, 1)
def T_X5_stepOfTheWay : Tb := ([(58, 5170), (55, 5162)], [], [], [], [], [(103, 0)], 2)
def V_X5_stepOfTheWay : List (Nat × Nat) := [(0, 2), (23, 2), (24, 2)]
def B_X5_stepOfTheWay : Bk := [(0, [.iload 1, .iconst (0), .aload 0, .getfield 5170, .iconst (1), .isub, .invokestatic 0, .ifCond .eq 23, .aload 0, .getfield 5162, .iload 1, .iaload, .goto 24], 23), (23, [.iconst (-1)], 24), (24, [.ireturn], 25)]
theorem k_X5_stepOfTheWay : chkB T_X5_stepOfTheWay cX5_stepOfTheWay B_X5_stepOfTheWay = true := by decide +kernel
theorem cw_X5_stepOfTheWay : calW Y_X5_stepOfTheWay := ⟨pn_X5, Or.inr (Or.inl ⟨rfl, rfl⟩), w_762, w_9, mh_X5, by decide⟩
theorem cl_X5_stepOfTheWay {o : OM} {Y : Pk} {d d2 idx : Nat} {C : Ctr} (hS : Sound o Y_X5_stepOfTheWay d2 C) (hd : d2 + 1 ≤ d) (hl : Cond.methodLink (yN Y).cls idx yX5_stepOfTheWay ∈ wsG ∨ ∃ host, Cond.methodLinkNest (yN Y).cls idx yX5_stepOfTheWay host ∈ nestW) : CallOK o Y d (.invokevirtual idx) (2, rcv 5 2 C) := callV_ok hS hd cw_X5_stepOfTheWay hl w_761 wp_41 (Or.inl ⟨TX5, 20, rfl⟩) (by decide +kernel)
def Y_X5_priceOfOneOnOne : Pk := (yX5_priceOfOneOnOne, cX5_priceOfOneOnOne, 4, some .int, 1)
def T_X5_priceOfOneOnOne : Tb := ([(37, 5100), (9, 5022), (15, 5032), (18, 5042), (21, 5052), (40, 5110)], [], [], [], [], [(146, 0)], 4)
def V_X5_priceOfOneOnOne : List (Nat × Nat) := [(0, 3), (41, 4), (47, 4)]
def B_X5_priceOfOneOnOne : Bk := [(0, [.aload 0, .getfield 5100, .aload 0, .getfield 5022, .iload 1, .iaload, .aload 0, .getfield 5032, .iload 2, .iaload, .isub, .invokestatic 0, .imul, .istore 3, .aload 0, .getfield 5042, .iload 1, .iaload, .aload 0, .getfield 5052, .iload 2, .iaload, .if_icmp .ne 41, .iload 3, .goto 47], 41), (41, [.iload 3, .aload 0, .getfield 5110, .iadd], 47), (47, [.ireturn], 48)]
theorem k_X5_priceOfOneOnOne : chkB T_X5_priceOfOneOnOne cX5_priceOfOneOnOne B_X5_priceOfOneOnOne = true := by decide +kernel
theorem cw_X5_priceOfOneOnOne : calW Y_X5_priceOfOneOnOne := ⟨pn_X5, Or.inr (Or.inl ⟨rfl, rfl⟩), w_727, w_9, mh_X5, by decide⟩
theorem cl_X5_priceOfOneOnOne {o : OM} {Y : Pk} {d d2 idx : Nat} {C : Ctr} (hS : Sound o Y_X5_priceOfOneOnOne d2 C) (hd : d2 + 1 ≤ d) (hl : Cond.methodLink (yN Y).cls idx yX5_priceOfOneOnOne ∈ wsG ∨ ∃ host, Cond.methodLinkNest (yN Y).cls idx yX5_priceOfOneOnOne host ∈ nestW) : CallOK o Y d (.invokevirtual idx) (3, rcv 5 4 C) := callV_ok hS hd cw_X5_priceOfOneOnOne hl w_726 wp_35 (Or.inl ⟨TX5, 20, rfl⟩) (by decide +kernel)
def Y_X5_priceOfDoubled : Pk := (yX5_priceOfDoubled, cX5_priceOfDoubled, 3, some .int, 1)
def T_X5_priceOfDoubled : Tb := ([(34, 5090), (37, 5100), (40, 5110)], [], [], [], [], [(146, 0)], 3)
def V_X5_priceOfDoubled : List (Nat × Nat) := [(0, 3)]
def B_X5_priceOfDoubled : Bk := [(0, [.aload 0, .getfield 5090, .aload 0, .getfield 5100, .iload 1, .invokestatic 0, .imul, .iadd, .aload 0, .getfield 5110, .iload 2, .imul, .iadd, .ireturn], 22)]
theorem k_X5_priceOfDoubled : chkB T_X5_priceOfDoubled cX5_priceOfDoubled B_X5_priceOfDoubled = true := by decide +kernel
theorem cw_X5_priceOfDoubled : calW Y_X5_priceOfDoubled := ⟨pn_X5, Or.inr (Or.inl ⟨rfl, rfl⟩), w_740, w_9, mh_X5, by decide⟩
theorem cl_X5_priceOfDoubled {o : OM} {Y : Pk} {d d2 idx : Nat} {C : Ctr} (hS : Sound o Y_X5_priceOfDoubled d2 C) (hd : d2 + 1 ≤ d) (hl : Cond.methodLink (yN Y).cls idx yX5_priceOfDoubled ∈ wsG ∨ ∃ host, Cond.methodLinkNest (yN Y).cls idx yX5_priceOfDoubled host ∈ nestW) : CallOK o Y d (.invokevirtual idx) (3, rcv 5 3 C) := callV_ok hS hd cw_X5_priceOfDoubled hl w_739 wp_36 (Or.inl ⟨TX5, 20, rfl⟩) (by decide +kernel)
def Y_X6_hasLeaf : Pk := (yX6_hasLeaf, cX6_hasLeaf, 3, some .boolean, 2)
def T_X6_hasLeaf : Tb := ([(19, 6022)], [], [], [], [(31, 0)], [], 3)
def V_X6_hasLeaf : List (Nat × Nat) := [(0, 3), (26, 3), (27, 3)]
def B_X6_hasLeaf : Bk := [(0, [.aload 0, .iload 1, .invokestatic 0, .ifCond .eq 26, .iload 2, .ifCond .lt 26, .iload 2, .aload 0, .getfield 6022, .iload 1, .iaload, .if_icmp .ge 26, .iconst (1), .goto 27], 26), (26, [.iconst (0)], 27), (27, [.ireturn], 28)]
theorem k_X6_hasLeaf : chkB T_X6_hasLeaf cX6_hasLeaf B_X6_hasLeaf = true := by decide +kernel
theorem cw_X6_hasLeaf : calW Y_X6_hasLeaf := ⟨pn_X6, Or.inr (Or.inr (Or.inl ⟨rfl, rfl⟩)), w_386, w_2, mh_X6, by decide⟩
theorem cl_X6_hasLeaf {o : OM} {Y : Pk} {d d2 idx : Nat} {C : Ctr} (hS : Sound o Y_X6_hasLeaf d2 C) (hd : d2 + 1 ≤ d) (hl : Cond.methodLink (yN Y).cls idx yX6_hasLeaf ∈ wsG ∨ ∃ host, Cond.methodLinkNest (yN Y).cls idx yX6_hasLeaf host ∈ nestW) : CallOK o Y d (.invokevirtual idx) (3, rcv 6 3 C) := callV_ok hS hd cw_X6_hasLeaf hl w_385 wp_4 (Or.inl ⟨TX6, 6, rfl⟩) (by decide +kernel)
def Y_X6_push : Pk := (yX6_push, cX6_push, 6, none, 0)
def T_X6_push : Tb := ([(19, 6022)], [], [], [], [(35, 0)], [], 6)
def V_X6_push : List (Nat × Nat) := [(0, 5), (36, 6)]
def B_X6_push : Bk := [(0, [.aload 0, .getfield 6022, .iload 1, .iaload, .istore 5, .iload 5, .iconst (16), .if_icmp .ge 36, .aload 0, .getfield 6022, .iload 1, .iload 5, .iconst (1), .iadd, .iastore, .aload 0, .iload 1, .iload 5, .iload 2, .iload 3, .iload 4, .invokestatic 0], 36), (36, [.return_], 37)]
theorem k_X6_push : chkB T_X6_push cX6_push B_X6_push = true := by decide +kernel
theorem cw_X6_push : calW Y_X6_push := ⟨pn_X6, Or.inl ⟨rfl, rfl⟩, w_374, w_2, mh_X6, by decide⟩
theorem cl_X6_push {o : OM} {Y : Pk} {d d2 idx : Nat} {C : Ctr} (hS : Sound o Y_X6_push d2 C) (hd : d2 + 1 ≤ d) (hl : Cond.methodLink (yN Y).cls idx yX6_push ∈ wsG ∨ ∃ host, Cond.methodLinkNest (yN Y).cls idx yX6_push host ∈ nestW) : CallOK o Y d (.invokevirtual idx) (5, rcv 6 6 C) := callV_ok hS hd cw_X6_push hl w_373 wp_2 (Or.inl ⟨TX6, 6, rfl⟩) (by decide +kernel)
def Y_X6_isAsh : Pk := (yX6_isAsh, cX6_isAsh, 3, some .boolean, 2)
def T_X6_isAsh : Tb := ([], [], [], [], [(39, 0)], [], 3)
def V_X6_isAsh : List (Nat × Nat) := [(0, 3), (14, 3), (15, 3)]
def B_X6_isAsh : Bk := [(0, [.aload 0, .iload 1, .iload 2, .invokestatic 0, .iconst (5), .if_icmp .ne 14, .iconst (1), .goto 15], 14), (14, [.iconst (0)], 15), (15, [.ireturn], 16)]
theorem k_X6_isAsh : chkB T_X6_isAsh cX6_isAsh B_X6_isAsh = true := by decide +kernel
theorem cw_X6_isAsh : calW Y_X6_isAsh := ⟨pn_X6, Or.inr (Or.inr (Or.inl ⟨rfl, rfl⟩)), w_648, w_2, mh_X6, by decide⟩
theorem cl_X6_isAsh {o : OM} {Y : Pk} {d d2 idx : Nat} {C : Ctr} (hS : Sound o Y_X6_isAsh d2 C) (hd : d2 + 1 ≤ d) (hl : Cond.methodLink (yN Y).cls idx yX6_isAsh ∈ wsG ∨ ∃ host, Cond.methodLinkNest (yN Y).cls idx yX6_isAsh host ∈ nestW) : CallOK o Y d (.invokevirtual idx) (3, rcv 6 3 C) := callV_ok hS hd cw_X6_isAsh hl w_647 wp_23 (Or.inl ⟨TX6, 6, rfl⟩) (by decide +kernel)
def Y_X6_stepBetween : Pk := (yX6_stepBetween, cX6_stepBetween, 4, some .int, 1)
def T_X6_stepBetween : Tb := ([], [], [], [], [(43, 0)], [(46, 1)], 4)
def V_X6_stepBetween : List (Nat × Nat) := [(0, 4)]
def B_X6_stepBetween : Bk := [(0, [.aload 0, .iload 1, .iload 3, .invokestatic 0, .aload 0, .iload 1, .iload 2, .invokestatic 0, .invokestatic 1, .ireturn], 16)]
theorem k_X6_stepBetween : chkB T_X6_stepBetween cX6_stepBetween B_X6_stepBetween = true := by decide +kernel
theorem cw_X6_stepBetween : calW Y_X6_stepBetween := ⟨pn_X6, Or.inr (Or.inl ⟨rfl, rfl⟩), w_434, w_2, mh_X6, by decide⟩
theorem cl_X6_stepBetween {o : OM} {Y : Pk} {d d2 idx : Nat} {C : Ctr} (hS : Sound o Y_X6_stepBetween d2 C) (hd : d2 + 1 ≤ d) (hl : Cond.methodLink (yN Y).cls idx yX6_stepBetween ∈ wsG ∨ ∃ host, Cond.methodLinkNest (yN Y).cls idx yX6_stepBetween host ∈ nestW) : CallOK o Y d (.invokevirtual idx) (4, rcv 6 4 C) := callV_ok hS hd cw_X6_stepBetween hl w_433 wp_13 (Or.inl ⟨TX6, 6, rfl⟩) (by decide +kernel)
def Y_X6_hasFloodBetween : Pk := (yX6_hasFloodBetween, cX6_hasFloodBetween, 5, some .boolean, 2)
def T_X6_hasFloodBetween : Tb := ([], [], [], [], [(39, 0)], [], 5)
def V_X6_hasFloodBetween : List (Nat × Nat) := [(0, 4), (5, 5), (24, 5), (30, 5)]
def B_X6_hasFloodBetween : Bk := [(0, [.iload 2, .iconst (1), .iadd, .istore 4], 5), (5, [.iload 4, .iload 3, .if_icmp .ge 30, .aload 0, .iload 1, .iload 4, .invokestatic 0, .iconst (4), .if_icmp .ne 24, .iconst (1), .ireturn], 24), (24, [.iinc 4 1, .goto 5], 30), (30, [.iconst (0), .ireturn], 32)]
theorem k_X6_hasFloodBetween : chkB T_X6_hasFloodBetween cX6_hasFloodBetween B_X6_hasFloodBetween = true := by decide +kernel
theorem cw_X6_hasFloodBetween : calW Y_X6_hasFloodBetween := ⟨pn_X6, Or.inr (Or.inr (Or.inl ⟨rfl, rfl⟩)), w_1024, w_2, mh_X6, by decide⟩
theorem cl_X6_hasFloodBetween {o : OM} {Y : Pk} {d d2 idx : Nat} {C : Ctr} (hS : Sound o Y_X6_hasFloodBetween d2 C) (hd : d2 + 1 ≤ d) (hl : Cond.methodLink (yN Y).cls idx yX6_hasFloodBetween ∈ wsG ∨ ∃ host, Cond.methodLinkNest (yN Y).cls idx yX6_hasFloodBetween host ∈ nestW) : CallOK o Y d (.invokevirtual idx) (4, rcv 6 5 C) := callV_ok hS hd cw_X6_hasFloodBetween hl w_1023 wp_81 (Or.inl ⟨TX6, 6, rfl⟩) (by decide +kernel)
def Y_X6_copyFrom : Pk := (yX6_copyFrom, cX6_copyFrom, 2, none, 0)
def T_X6_copyFrom : Tb := ([(9, 6000), (15, 6012), (19, 6022), (22, 6032), (25, 6042), (28, 6052)], [], [], [], [], [(65, 0)], 2)
def V_X6_copyFrom : List (Nat × Nat) := [(0, 2)]
def B_X6_copyFrom : Bk := [(0, [.aload 0, .aload 1, .getfield 6000, .putfield 6000, .aload 1, .getfield 6012, .iconst (0), .aload 0, .getfield 6012, .iconst (0), .iconst (7), .invokestatic 0, .aload 1, .getfield 6022, .iconst (0), .aload 0, .getfield 6022, .iconst (0), .iconst (7), .invokestatic 0, .aload 1, .getfield 6032, .iconst (0), .aload 0, .getfield 6032, .iconst (0), .iconst (112), .invokestatic 0, .aload 1, .getfield 6042, .iconst (0), .aload 0, .getfield 6042, .iconst (0), .iconst (112), .invokestatic 0, .aload 1, .getfield 6052, .iconst (0), .aload 0, .getfield 6052, .iconst (0), .iconst (112), .invokestatic 0, .return_], 84)]
theorem k_X6_copyFrom : chkB T_X6_copyFrom cX6_copyFrom B_X6_copyFrom = true := by decide +kernel
theorem cw_X6_copyFrom : calW Y_X6_copyFrom := ⟨pn_X6, Or.inl ⟨rfl, rfl⟩, w_1032, w_2, mh_X6, by decide⟩
theorem cl_X6_copyFrom {o : OM} {Y : Pk} {d d2 idx : Nat} {C : Ctr} (hS : Sound o Y_X6_copyFrom d2 C) (hd : d2 + 1 ≤ d) (hl : Cond.methodLink (yN Y).cls idx yX6_copyFrom ∈ wsG ∨ ∃ host, Cond.methodLinkNest (yN Y).cls idx yX6_copyFrom host ∈ nestW) : CallOK o Y d (.invokevirtual idx) (2, rcv 6 2 C) := callV_ok hS hd cw_X6_copyFrom hl w_1031 wp_82 (Or.inl ⟨TX6, 6, rfl⟩) (by decide +kernel)
def Y_X7_overOf : Pk := (yX7_overOf, cX7_overOf, 6, some .int, 1)
def T_X7_overOf : Tb := ([(9, 7002), (21, 6022)], [], [], [], [], [(15, 0), (27, 1)], 6)
def V_X7_overOf : List (Nat × Nat) := [(0, 4)]
def B_X7_overOf : Bk := [(0, [.iconst (0), .iload 3, .invokestatic 0, .istore 4, .aload 0, .getfield 7002, .getfield 6022, .iload 1, .iaload, .aload 0, .getfield 7002, .getfield 6022, .iload 2, .iaload, .iload 3, .iadd, .invokestatic 1, .istore 5, .iconst (0), .iload 5, .iload 4, .isub, .invokestatic 0, .ireturn], 42)]
theorem k_X7_overOf : chkB T_X7_overOf cX7_overOf B_X7_overOf = true := by decide +kernel
theorem cw_X7_overOf : calW Y_X7_overOf := ⟨pn_X7, Or.inr (Or.inl ⟨rfl, rfl⟩), w_633, w_8, mh_X7, by decide⟩
theorem cl_X7_overOf {o : OM} {Y : Pk} {d d2 idx : Nat} {C : Ctr} (hS : Sound o Y_X7_overOf d2 C) (hd : d2 + 1 ≤ d) (hl : Cond.methodLink (yN Y).cls idx yX7_overOf ∈ wsG ∨ ∃ host, Cond.methodLinkNest (yN Y).cls idx yX7_overOf host ∈ nestW) : CallOK o Y d (.invokevirtual idx) (4, rcv 7 6 C) := callV_ok hS hd cw_X7_overOf hl w_632 wp_21 (Or.inl ⟨TX7, 1, rfl⟩) (by decide +kernel)
def Y_X8_pit : Pk := (yX8_pit, cX8_pit, 2, some .int, 1)
def T_X8_pit : Tb := ([(10, 8002), (92, 6000)], [], [], [], [(95, 1)], [(88, 0)], 2)
def V_X8_pit : List (Nat × Nat) := [(0, 2), (14, 2), (29, 2)]
def B_X8_pit : Bk := [(0, [.iload 1, .iconst (0), .iconst (240), .invokestatic 0, .ifCond .ne 14, .iconst (-102), .ireturn], 14), (14, [.aload 0, .getfield 8002, .getfield 6000, .iconst (7), .if_icmp .lt 29, .iconst (-104), .ireturn], 29), (29, [.aload 0, .getfield 8002, .iload 1, .invokestatic 1, .ireturn], 38)]
theorem k_X8_pit : chkB T_X8_pit cX8_pit B_X8_pit = true := by decide +kernel
theorem cw_X8_pit : calW Y_X8_pit := ⟨pn_X8, Or.inr (Or.inl ⟨rfl, rfl⟩), w_352, w_1, mh_X8, by decide⟩
theorem cl_X8_pit {o : OM} {Y : Pk} {d d2 idx : Nat} {C : Ctr} (hS : Sound o Y_X8_pit d2 C) (hd : d2 + 1 ≤ d) (hl : Cond.methodLink (yN Y).cls idx yX8_pit ∈ wsG ∨ ∃ host, Cond.methodLinkNest (yN Y).cls idx yX8_pit host ∈ nestW) : CallOK o Y d (.invokevirtual idx) (2, rcv 8 2 C) := callV_ok hS hd cw_X8_pit hl w_350 w_351 (Or.inl ⟨TX8, 13, rfl⟩) (by decide +kernel)
def Y_X8_keep : Pk := (yX8_keep, cX8_keep, 4, some .int, 1)
def T_X8_keep : Tb := ([(19, 8012), (237, 0)], [], [], [], [(244, 1), (251, 3)], [(88, 0), (247, 2)], 4)
def V_X8_keep : List (Nat × Nat) := [(0, 3), (20, 3)]
def B_X8_keep : Bk := [(0, [.iload 1, .iconst (0), .aload 0, .getfield 8012, .getfield 0, .iconst (1), .isub, .invokestatic 0, .ifCond .ne 20, .iconst (-101), .ireturn], 20), (20, [.aload 0, .getfield 8012, .iload 1, .invokestatic 1, .invokestatic 2, .istore 3, .aload 0, .getfield 8012, .iload 1, .iload 2, .invokestatic 3, .iload 3, .ireturn], 43)]
theorem k_X8_keep : chkB T_X8_keep cX8_keep B_X8_keep = true := by decide +kernel
theorem cw_X8_keep : calW Y_X8_keep := ⟨pn_X8, Or.inr (Or.inl ⟨rfl, rfl⟩), w_794, w_1, mh_X8, by decide⟩
theorem cl_X8_keep {o : OM} {Y : Pk} {d d2 idx : Nat} {C : Ctr} (hS : Sound o Y_X8_keep d2 C) (hd : d2 + 1 ≤ d) (hl : Cond.methodLink (yN Y).cls idx yX8_keep ∈ wsG ∨ ∃ host, Cond.methodLinkNest (yN Y).cls idx yX8_keep host ∈ nestW) : CallOK o Y d (.invokevirtual idx) (3, rcv 8 4 C) := callV_ok hS hd cw_X8_keep hl w_792 w_793 (Or.inl ⟨TX8, 13, rfl⟩) (by decide +kernel)
def Y_X8_untie : Pk := (yX8_untie, cX8_untie, 3, some .int, 1)
def T_X8_untie : Tb := ([(10, 8002), (19, 8012)], [], [], [], [(99, 0), (255, 1), (261, 3)], [(247, 2)], 3)
def V_X8_untie : List (Nat × Nat) := [(0, 2), (14, 2)]
def B_X8_untie : Bk := [(0, [.aload 0, .getfield 8002, .iload 1, .invokestatic 0, .ifCond .ne 14, .iconst (-101), .ireturn], 14), (14, [.aload 0, .getfield 8012, .iload 1, .invokestatic 1, .invokestatic 2, .istore 2, .aload 0, .getfield 8012, .iload 1, .invokestatic 3, .iload 2, .ireturn], 36)]
theorem k_X8_untie : chkB T_X8_untie cX8_untie B_X8_untie = true := by decide +kernel
theorem cw_X8_untie : calW Y_X8_untie := ⟨pn_X8, Or.inr (Or.inl ⟨rfl, rfl⟩), w_816, w_1, mh_X8, by decide⟩
theorem cl_X8_untie {o : OM} {Y : Pk} {d d2 idx : Nat} {C : Ctr} (hS : Sound o Y_X8_untie d2 C) (hd : d2 + 1 ≤ d) (hl : Cond.methodLink (yN Y).cls idx yX8_untie ∈ wsG ∨ ∃ host, Cond.methodLinkNest (yN Y).cls idx yX8_untie host ∈ nestW) : CallOK o Y d (.invokevirtual idx) (2, rcv 8 3 C) := callV_ok hS hd cw_X8_untie hl w_814 w_815 (Or.inl ⟨TX8, 13, rfl⟩) (by decide +kernel)
def Y_X8_ashes : Pk := (yX8_ashes, cX8_ashes, 3, some .int, 1)
def T_X8_ashes : Tb := ([(19, 8012), (264, 103)], [], [], [], [], [(247, 0)], 3)
def V_X8_ashes : List (Nat × Nat) := [(0, 2)]
def B_X8_ashes : Bk := [(0, [.aload 0, .getfield 8012, .getfield 103, .invokestatic 0, .istore 2, .aload 0, .getfield 8012, .iload 1, .putfield 103, .iload 2, .ireturn], 21)]
theorem k_X8_ashes : chkB T_X8_ashes cX8_ashes B_X8_ashes = true := by decide +kernel
theorem cw_X8_ashes : calW Y_X8_ashes := ⟨pn_X8, Or.inr (Or.inl ⟨rfl, rfl⟩), w_824, w_1, mh_X8, by decide⟩
theorem cl_X8_ashes {o : OM} {Y : Pk} {d d2 idx : Nat} {C : Ctr} (hS : Sound o Y_X8_ashes d2 C) (hd : d2 + 1 ≤ d) (hl : Cond.methodLink (yN Y).cls idx yX8_ashes ∈ wsG ∨ ∃ host, Cond.methodLinkNest (yN Y).cls idx yX8_ashes host ∈ nestW) : CallOK o Y d (.invokevirtual idx) (2, rcv 8 3 C) := callV_ok hS hd cw_X8_ashes hl w_822 w_823 (Or.inl ⟨TX8, 13, rfl⟩) (by decide +kernel)
def Y_X8_count : Pk := (yX8_count, cX8_count, 2, some .int, 1)
def T_X8_count : Tb := ([(10, 8002), (92, 6000), (45, 8062), (165, 1010), (52, 8072), (173, 2000), (19, 8012), (237, 0), (334, 60), (342, 70), (36, 8052), (151, 4000), (81, 8110), (85, 8120)], [], [], [], [(331, 0)], [(337, 1)], 2)
def V_X8_count : List (Nat × Nat) := [(0, 2), (56, 2), (64, 2), (72, 2), (80, 2), (88, 2), (96, 2), (107, 2), (118, 2), (126, 2), (131, 2), (136, 2)]
def B_X8_count : Bk := [(0, [.iload 1, .tableswitch 136 (0) (9) #[56, 64, 72, 80, 88, 96, 107, 118, 126, 131]], 56), (56, [.aload 0, .getfield 8002, .getfield 6000, .ireturn], 64), (64, [.aload 0, .getfield 8002, .invokestatic 0, .ireturn], 72), (72, [.aload 0, .getfield 8062, .getfield 1010, .ireturn], 80), (80, [.aload 0, .getfield 8072, .getfield 2000, .ireturn], 88), (88, [.aload 0, .getfield 8012, .getfield 0, .ireturn], 96), (96, [.aload 0, .getfield 8012, .getfield 60, .invokestatic 1, .ireturn], 107), (107, [.aload 0, .getfield 8012, .getfield 70, .invokestatic 1, .ireturn], 118), (118, [.aload 0, .getfield 8052, .getfield 4000, .ireturn], 126), (126, [.aload 0, .getfield 8110, .ireturn], 131), (131, [.aload 0, .getfield 8120, .ireturn], 136), (136, [.iconst (-102), .ireturn], 139)]
theorem k_X8_count : chkB T_X8_count cX8_count B_X8_count = true := by decide +kernel
theorem cw_X8_count : calW Y_X8_count := ⟨pn_X8, Or.inr (Or.inl ⟨rfl, rfl⟩), w_1046, w_1, mh_X8, by decide⟩
theorem cl_X8_count {o : OM} {Y : Pk} {d d2 idx : Nat} {C : Ctr} (hS : Sound o Y_X8_count d2 C) (hd : d2 + 1 ≤ d) (hl : Cond.methodLink (yN Y).cls idx yX8_count ∈ wsG ∨ ∃ host, Cond.methodLinkNest (yN Y).cls idx yX8_count host ∈ nestW) : CallOK o Y d (.invokevirtual idx) (2, rcv 8 2 C) := callV_ok hS hd cw_X8_count hl w_1044 w_1045 (Or.inl ⟨TX8, 13, rfl⟩) (by decide +kernel)
def Y_X8_isRange : Pk := (yX8_isRange, cX8_isRange, 3, some .boolean, 2)
def T_X8_isRange : Tb := ([], [], [], [], [], [(88, 0)], 3)
def V_X8_isRange : List (Nat × Nat) := [(0, 3), (23, 3), (24, 3)]
def B_X8_isRange : Bk := [(0, [.iload 0, .iload 2, .ineg, .iload 2, .invokestatic 0, .ifCond .eq 23, .iload 1, .iload 0, .iload 2, .invokestatic 0, .ifCond .eq 23, .iconst (1), .goto 24], 23), (23, [.iconst (0)], 24), (24, [.ireturn], 25)]
theorem k_X8_isRange : chkB T_X8_isRange cX8_isRange B_X8_isRange = true := by decide +kernel
theorem cw_X8_isRange : calW Y_X8_isRange := ⟨pn_X8, Or.inr (Or.inr (Or.inl ⟨rfl, rfl⟩)), w_782, w_1, mh_X8, by decide⟩
theorem cl_X8_isRange {o : OM} {Y : Pk} {d d2 idx : Nat} {C : Ctr} (hS : Sound o Y_X8_isRange d2 C) (hd : d2 + 1 ≤ d) (hl : Cond.methodLink (yN Y).cls idx yX8_isRange ∈ wsG ∨ ∃ host, Cond.methodLinkNest (yN Y).cls idx yX8_isRange host ∈ nestW) : CallOK o Y d (.invokestatic idx) (3, arg 3 C) := callS_ok hS hd cw_X8_isRange hl w_781 (by decide +kernel)
def Y_X8_isSlide : Pk := (yX8_isSlide, cX8_isSlide, 1, some .boolean, 2)
def T_X8_isSlide : Tb := ([], [], [], [], [], [(88, 0)], 1)
def V_X8_isSlide : List (Nat × Nat) := [(0, 1)]
def B_X8_isSlide : Bk := [(0, [.iload 0, .iconst (-15), .iconst (15), .invokestatic 0, .ireturn], 9)]
theorem k_X8_isSlide : chkB T_X8_isSlide cX8_isSlide B_X8_isSlide = true := by decide +kernel
theorem cw_X8_isSlide : calW Y_X8_isSlide := ⟨pn_X8, Or.inr (Or.inr (Or.inl ⟨rfl, rfl⟩)), w_628, w_1, mh_X8, by decide⟩
theorem cl_X8_isSlide {o : OM} {Y : Pk} {d d2 idx : Nat} {C : Ctr} (hS : Sound o Y_X8_isSlide d2 C) (hd : d2 + 1 ≤ d) (hl : Cond.methodLink (yN Y).cls idx yX8_isSlide ∈ wsG ∨ ∃ host, Cond.methodLinkNest (yN Y).cls idx yX8_isSlide host ∈ nestW) : CallOK o Y d (.invokestatic idx) (1, arg 1 C) := callS_ok hS hd cw_X8_isSlide hl w_627 (by decide +kernel)
def Y_X8_isLeafAsTold : Pk := (yX8_isLeafAsTold, cX8_isLeafAsTold, 3, some .boolean, 2)
def T_X8_isLeafAsTold : Tb := ([], [], [], [], [], [(88, 0)], 3)
def V_X8_isLeafAsTold : List (Nat × Nat) := [(0, 3), (34, 3), (35, 3)]
def B_X8_isLeafAsTold : Bk := [(0, [.iload 0, .iconst (0), .iconst (6), .invokestatic 0, .ifCond .eq 34, .iload 1, .iconst (1), .iconst (99), .invokestatic 0, .ifCond .eq 34, .iload 2, .iconst (0), .iconst (9), .invokestatic 0, .ifCond .eq 34, .iconst (1), .goto 35], 34), (34, [.iconst (0)], 35), (35, [.ireturn], 36)]
theorem k_X8_isLeafAsTold : chkB T_X8_isLeafAsTold cX8_isLeafAsTold B_X8_isLeafAsTold = true := by decide +kernel
theorem cw_X8_isLeafAsTold : calW Y_X8_isLeafAsTold := ⟨pn_X8, Or.inr (Or.inr (Or.inl ⟨rfl, rfl⟩)), w_370, w_1, mh_X8, by decide⟩
theorem cl_X8_isLeafAsTold {o : OM} {Y : Pk} {d d2 idx : Nat} {C : Ctr} (hS : Sound o Y_X8_isLeafAsTold d2 C) (hd : d2 + 1 ≤ d) (hl : Cond.methodLink (yN Y).cls idx yX8_isLeafAsTold ∈ wsG ∨ ∃ host, Cond.methodLinkNest (yN Y).cls idx yX8_isLeafAsTold host ∈ nestW) : CallOK o Y d (.invokestatic idx) (3, arg 3 C) := callS_ok hS hd cw_X8_isLeafAsTold hl w_369 (by decide +kernel)
def Y_X8_lettersIn : Pk := (yX8_lettersIn, cX8_lettersIn, 5, some .int, 1)
def T_X8_lettersIn : Tb := ([], [], [], [], [], [(152, 0)], 5)
def V_X8_lettersIn : List (Nat × Nat) := [(0, 2), (4, 4), (34, 5), (37, 5), (45, 5), (51, 4)]
def B_X8_lettersIn : Bk := [(0, [.iconst (0), .istore 2, .iconst (0), .istore 3], 4), (4, [.iload 3, .iconst (8), .if_icmp .ge 51, .lload 0, .iload 3, .invokestatic 0, .istore 4, .iload 4, .iconst (126), .if_icmp .gt 34, .iload 4, .ifCond .eq 37, .iload 2, .iload 3, .if_icmp .ge 37], 34), (34, [.iconst (-102), .ireturn], 37), (37, [.iload 4, .ifCond .eq 45, .iinc 2 1], 45), (45, [.iinc 3 1, .goto 4], 51), (51, [.iload 2, .ireturn], 53)]
theorem k_X8_lettersIn : chkB T_X8_lettersIn cX8_lettersIn B_X8_lettersIn = true := by decide +kernel
theorem cw_X8_lettersIn : calW Y_X8_lettersIn := ⟨pn_X8, Or.inr (Or.inl ⟨rfl, rfl⟩), w_464, w_1, mh_X8, by decide⟩
theorem cl_X8_lettersIn {o : OM} {Y : Pk} {d d2 idx : Nat} {C : Ctr} (hS : Sound o Y_X8_lettersIn d2 C) (hd : d2 + 1 ≤ d) (hl : Cond.methodLink (yN Y).cls idx yX8_lettersIn ∈ wsG ∨ ∃ host, Cond.methodLinkNest (yN Y).cls idx yX8_lettersIn host ∈ nestW) : CallOK o Y d (.invokestatic idx) (1, arg 5 C) := callS_ok hS hd cw_X8_lettersIn hl w_463 (by decide +kernel)
def Y_X8_spanTold : Pk := (yX8_spanTold, cX8_spanTold, 4, some .int, 1)
def T_X8_spanTold : Tb := ([(77, 8102)], [(190, (-100004))], [], [], [(275, 0), (278, 1)], [], 4)
def V_X8_spanTold : List (Nat × Nat) := [(0, 4), (17, 4), (27, 4)]
def B_X8_spanTold : Bk := [(0, [.aload 0, .getfield 8102, .iload 1, .iload 2, .invokestatic 0, .ifCond .eq 17, .iconst (-100004), .goto 27], 17), (17, [.aload 0, .getfield 8102, .iload 1, .iload 2, .iload 3, .invokestatic 1], 27), (27, [.ireturn], 28)]
theorem k_X8_spanTold : chkB T_X8_spanTold cX8_spanTold B_X8_spanTold = true := by decide +kernel
theorem cw_X8_spanTold : calW Y_X8_spanTold := ⟨pn_X8, Or.inr (Or.inl ⟨rfl, rfl⟩), w_883, w_1, mh_X8, by decide⟩
theorem cl_X8_spanTold {o : OM} {Y : Pk} {d d2 idx : Nat} {C : Ctr} (hS : Sound o Y_X8_spanTold d2 C) (hd : d2 + 1 ≤ d) (hl : Cond.methodLink (yN Y).cls idx yX8_spanTold ∈ wsG ∨ ∃ host, Cond.methodLinkNest (yN Y).cls idx yX8_spanTold host ∈ nestW) : CallOK o Y d (.invokevirtual idx) (4, rcv 8 4 C) := callV_ok hS hd cw_X8_spanTold hl w_882 wp_57 (Or.inl ⟨TX8, 13, rfl⟩) (by decide +kernel)
def Y_X9_isPit : Pk := (yX9_isPit, cX9_isPit, 2, some .boolean, 2)
def T_X9_isPit : Tb := ([(109, 9000)], [], [], [], [], [(112, 0)], 2)
def V_X9_isPit : List (Nat × Nat) := [(0, 2)]
def B_X9_isPit : Bk := [(0, [.iload 1, .i2l, .jsr 0, .aload 0, .getfield 9000, .iconst (1), .isub, .i2l, .invokestatic 0, .ireturn], 14)]
theorem k_X9_isPit : chkB T_X9_isPit cX9_isPit B_X9_isPit = true := by decide +kernel
theorem cw_X9_isPit : calW Y_X9_isPit := ⟨pn_X9, Or.inr (Or.inr (Or.inl ⟨rfl, rfl⟩)), w_1270, w_11, mh_X9, by decide⟩
theorem cl_X9_isPit {o : OM} {Y : Pk} {d d2 idx : Nat} {C : Ctr} (hS : Sound o Y_X9_isPit d2 C) (hd : d2 + 1 ≤ d) (hl : Cond.methodLink (yN Y).cls idx yX9_isPit ∈ wsG ∨ ∃ host, Cond.methodLinkNest (yN Y).cls idx yX9_isPit host ∈ nestW) : CallOK o Y d (.invokevirtual idx) (2, rcv 9 2 C) := callV_ok hS hd cw_X9_isPit hl w_1269 wp_89 (Or.inl ⟨TX9, 55, rfl⟩) (by decide +kernel)
def Y_X9_pit : Pk := (yX9_pit, cX9_pit, 2, some .int, 1)
def T_X9_pit : Tb := ([(109, 9000), (7, 9012), (13, 9022), (71, 9392)], [], [(120, 240)], [], [], [(112, 0)], 2)
def V_X9_pit : List (Nat × Nat) := [(0, 2), (15, 2), (27, 2)]
def B_X9_pit : Bk := [(0, [.iload 1, .i2l, .jsr 0, .jsr (240), .invokestatic 0, .ifCond .ne 15, .iconst (-102), .ireturn], 15), (15, [.aload 0, .getfield 9000, .iconst (7), .if_icmp .ne 27, .iconst (-104), .ireturn], 27), (27, [.aload 0, .getfield 9012, .aload 0, .getfield 9000, .iload 1, .iastore, .aload 0, .getfield 9022, .aload 0, .getfield 9000, .iconst (0), .iastore, .aload 0, .getfield 9392, .aload 0, .getfield 9000, .iconst (0), .bastore, .aload 0, .dup, .getfield 9000, .iconst (1), .iadd, .putfield 9000, .aload 0, .getfield 9000, .iconst (1), .isub, .ireturn], 74)]
theorem k_X9_pit : chkB T_X9_pit cX9_pit B_X9_pit = true := by decide +kernel
theorem cw_X9_pit : calW Y_X9_pit := ⟨pn_X9, Or.inr (Or.inl ⟨rfl, rfl⟩), w_1258, w_11, mh_X9, by decide⟩
theorem cl_X9_pit {o : OM} {Y : Pk} {d d2 idx : Nat} {C : Ctr} (hS : Sound o Y_X9_pit d2 C) (hd : d2 + 1 ≤ d) (hl : Cond.methodLink (yN Y).cls idx yX9_pit ∈ wsG ∨ ∃ host, Cond.methodLinkNest (yN Y).cls idx yX9_pit host ∈ nestW) : CallOK o Y d (.invokevirtual idx) (2, rcv 9 2 C) := callV_ok hS hd cw_X9_pit hl w_1256 w_1257 (Or.inl ⟨TX9, 55, rfl⟩) (by decide +kernel)
def Y_X9_isLeafTold : Pk := (yX9_isLeafTold, cX9_isLeafTold, 3, some .boolean, 2)
def T_X9_isLeafTold : Tb := ([], [], [(122, 6), (124, 99), (126, 9)], [], [], [(112, 0)], 3)
def V_X9_isLeafTold : List (Nat × Nat) := [(0, 3), (40, 3), (41, 3)]
def B_X9_isLeafTold : Bk := [(0, [.iload 0, .i2l, .jsr 0, .jsr (6), .invokestatic 0, .ifCond .eq 40, .iload 1, .i2l, .jsr 1, .jsr (99), .invokestatic 0, .ifCond .eq 40, .iload 2, .i2l, .jsr 0, .jsr (9), .invokestatic 0, .ifCond .eq 40, .iconst (1), .goto 41], 40), (40, [.iconst (0)], 41), (41, [.ireturn], 42)]
theorem k_X9_isLeafTold : chkB T_X9_isLeafTold cX9_isLeafTold B_X9_isLeafTold = true := by decide +kernel
theorem cw_X9_isLeafTold : calW Y_X9_isLeafTold := ⟨pn_X9, Or.inr (Or.inr (Or.inl ⟨rfl, rfl⟩)), w_1273, w_11, mh_X9, by decide⟩
theorem cl_X9_isLeafTold {o : OM} {Y : Pk} {d d2 idx : Nat} {C : Ctr} (hS : Sound o Y_X9_isLeafTold d2 C) (hd : d2 + 1 ≤ d) (hl : Cond.methodLink (yN Y).cls idx yX9_isLeafTold ∈ wsG ∨ ∃ host, Cond.methodLinkNest (yN Y).cls idx yX9_isLeafTold host ∈ nestW) : CallOK o Y d (.invokestatic idx) (3, arg 3 C) := callS_ok hS hd cw_X9_isLeafTold hl w_1272 (by decide +kernel)
def Y_X9_stepOf : Pk := (yX9_stepOf, cX9_stepOf, 3, some .int, 1)
def T_X9_stepOf : Tb := ([(19, 9042)], [], [], [], [], [(140, 0)], 3)
def V_X9_stepOf : List (Nat × Nat) := [(0, 3), (8, 3), (35, 3)]
def B_X9_stepOf : Bk := [(0, [.iload 2, .ifCond .ne 8, .iconst (0), .goto 35], 8), (8, [.aload 0, .getfield 9042, .iconst (16), .iload 1, .imul, .iload 2, .iadd, .iaload, .aload 0, .getfield 9042, .iconst (16), .iload 1, .imul, .iload 2, .iadd, .iconst (1), .isub, .iaload, .invokestatic 0], 35), (35, [.ireturn], 36)]
theorem k_X9_stepOf : chkB T_X9_stepOf cX9_stepOf B_X9_stepOf = true := by decide +kernel
theorem cw_X9_stepOf : calW Y_X9_stepOf := ⟨pn_X9, Or.inr (Or.inl ⟨rfl, rfl⟩), w_1310, w_11, mh_X9, by decide⟩
theorem cl_X9_stepOf {o : OM} {Y : Pk} {d d2 idx : Nat} {C : Ctr} (hS : Sound o Y_X9_stepOf d2 C) (hd : d2 + 1 ≤ d) (hl : Cond.methodLink (yN Y).cls idx yX9_stepOf ∈ wsG ∨ ∃ host, Cond.methodLinkNest (yN Y).cls idx yX9_stepOf host ∈ nestW) : CallOK o Y d (.invokevirtual idx) (3, rcv 9 3 C) := callV_ok hS hd cw_X9_stepOf hl w_1309 wp_95 (Or.inl ⟨TX9, 55, rfl⟩) (by decide +kernel)
def Y_X9_layOne : Pk := (yX9_layOne, cX9_layOne, 4, none, 0)
def T_X9_layOne : Tb := ([(13, 9022)], [], [], [], [(132, 0)], [], 4)
def V_X9_layOne : List (Nat × Nat) := [(0, 4), (35, 4)]
def B_X9_layOne : Bk := [(0, [.aload 0, .getfield 9022, .iload 1, .iaload, .iconst (16), .if_icmp .ge 35, .aload 0, .iload 1, .aload 0, .getfield 9022, .iload 1, .iaload, .iload 2, .iload 3, .iconst (0), .invokestatic 0, .aload 0, .getfield 9022, .iload 1, .dup2, .iaload, .iconst (1), .iadd, .iastore], 35), (35, [.return_], 36)]
theorem k_X9_layOne : chkB T_X9_layOne cX9_layOne B_X9_layOne = true := by decide +kernel
theorem cw_X9_layOne : calW Y_X9_layOne := ⟨pn_X9, Or.inl ⟨rfl, rfl⟩, w_1334, w_11, mh_X9, by decide⟩
theorem cl_X9_layOne {o : OM} {Y : Pk} {d d2 idx : Nat} {C : Ctr} (hS : Sound o Y_X9_layOne d2 C) (hd : d2 + 1 ≤ d) (hl : Cond.methodLink (yN Y).cls idx yX9_layOne ∈ wsG ∨ ∃ host, Cond.methodLinkNest (yN Y).cls idx yX9_layOne host ∈ nestW) : CallOK o Y d (.invokevirtual idx) (4, rcv 9 4 C) := callV_ok hS hd cw_X9_layOne hl w_1333 wp_97 (Or.inl ⟨TX9, 55, rfl⟩) (by decide +kernel)
def Y_X9_go : Pk := (yX9_go, cX9_go, 3, some .boolean, 2)
def T_X9_go : Tb := ([(179, 9140), (188, 9150), (191, 9160), (34, 9132)], [], [(194, 48), (196, 57)], [], [], [(182, 0), (185, 1), (112, 2)], 3)
def V_X9_go : List (Nat × Nat) := [(0, 3), (19, 3), (23, 3), (66, 3), (67, 3), (68, 3), (106, 3), (166, 3), (190, 3), (191, 3), (198, 3), (199, 3)]
def B_X9_go : Bk := [(0, [.aload 0, .getfield 9140, .ifCond .ne 68, .aload 0, .iload 1, .ifCond .ne 19, .iload 2, .invokestatic 0, .goto 23], 19), (19, [.iload 2, .invokestatic 1], 23), (23, [.putfield 9150, .aload 0, .iconst (1), .putfield 9140, .aload 0, .dup, .getfield 9160, .iconst (1), .iadd, .putfield 9160, .aload 0, .getfield 9150, .iconst (-1), .if_icmp .eq 66, .aload 0, .getfield 9132, .aload 0, .getfield 9150, .iaload, .iconst (-1), .if_icmp .ne 66, .iconst (1), .goto 67], 66), (66, [.iconst (0)], 67), (67, [.ireturn], 68), (68, [.aload 0, .getfield 9140, .iconst (1), .if_icmp .ne 106, .aload 0, .getfield 9132, .aload 0, .getfield 9150, .iload 2, .iconst (48), .isub, .iastore, .aload 0, .iconst (2), .putfield 9140, .iload 2, .i2l, .jsr (48), .jsr (57), .invokestatic 2, .ireturn], 106), (106, [.aload 0, .getfield 9140, .iconst (2), .if_icmp .ne 166, .iload 1, .iconst (1), .if_icmp .ne 166, .iload 2, .i2l, .jsr (48), .jsr (57), .invokestatic 2, .ifCond .eq 166, .aload 0, .getfield 9132, .aload 0, .getfield 9150, .iconst (10), .aload 0, .getfield 9132, .aload 0, .getfield 9150, .iaload, .imul, .iload 2, .iadd, .iconst (48), .isub, .iastore, .aload 0, .iconst (3), .putfield 9140, .iconst (1), .ireturn], 166), (166, [.aload 0, .iconst (0), .putfield 9140, .iload 2, .iconst (44), .if_icmp .ne 198, .aload 0, .getfield 9160, .iload 1, .ifCond .ne 190, .iconst (7), .goto 191], 190), (190, [.iconst (4)], 191), (191, [.if_icmp .ge 198, .iconst (1), .goto 199], 198), (198, [.iconst (0)], 199), (199, [.ireturn], 200)]
theorem k_X9_go : chkB T_X9_go cX9_go B_X9_go = true := by decide +kernel
theorem cw_X9_go : calW Y_X9_go := ⟨pn_X9, Or.inr (Or.inr (Or.inl ⟨rfl, rfl⟩)), w_1355, w_11, mh_X9, by decide⟩
theorem cl_X9_go {o : OM} {Y : Pk} {d d2 idx : Nat} {C : Ctr} (hS : Sound o Y_X9_go d2 C) (hd : d2 + 1 ≤ d) (hl : Cond.methodLink (yN Y).cls idx yX9_go ∈ wsG ∨ ∃ host, Cond.methodLinkNest (yN Y).cls idx yX9_go host ∈ nestW) : CallOK o Y d (.invokevirtual idx) (3, rcv 9 3 C) := callV_ok hS hd cw_X9_go hl w_1354 wp_99 (Or.inl ⟨TX9, 55, rfl⟩) (by decide +kernel)
def Y_X9_isHand : Pk := (yX9_isHand, cX9_isHand, 2, some .boolean, 2)
def T_X9_isHand : Tb := ([(204, 9090)], [], [(210, (-1))], [], [], [(112, 0)], 2)
def V_X9_isHand : List (Nat × Nat) := [(0, 2)]
def B_X9_isHand : Bk := [(0, [.iload 1, .i2l, .jsr (-1), .aload 0, .getfield 9090, .iconst (1), .isub, .i2l, .invokestatic 0, .ireturn], 16)]
theorem k_X9_isHand : chkB T_X9_isHand cX9_isHand B_X9_isHand = true := by decide +kernel
theorem cw_X9_isHand : calW Y_X9_isHand := ⟨pn_X9, Or.inr (Or.inr (Or.inl ⟨rfl, rfl⟩)), w_1379, w_11, mh_X9, by decide⟩
theorem cl_X9_isHand {o : OM} {Y : Pk} {d d2 idx : Nat} {C : Ctr} (hS : Sound o Y_X9_isHand d2 C) (hd : d2 + 1 ≤ d) (hl : Cond.methodLink (yN Y).cls idx yX9_isHand ∈ wsG ∨ ∃ host, Cond.methodLinkNest (yN Y).cls idx yX9_isHand host ∈ nestW) : CallOK o Y d (.invokevirtual idx) (2, rcv 9 2 C) := callV_ok hS hd cw_X9_isHand hl w_1378 wp_100 (Or.inl ⟨TX9, 55, rfl⟩) (by decide +kernel)
def Y_X9_halvesAhead : Pk := (yX9_halvesAhead, cX9_halvesAhead, 6, some .int, 1)
def T_X9_halvesAhead : Tb := ([], [], [], [], [(212, 0)], [], 6)
def V_X9_halvesAhead : List (Nat × Nat) := [(0, 4), (6, 6), (31, 6)]
def B_X9_halvesAhead : Bk := [(0, [.iconst (0), .istore 4, .iconst (0), .istore 5], 6), (6, [.iload 5, .iload 3, .if_icmp .ge 31, .iload 4, .aload 0, .iload 1, .iload 2, .iload 5, .invokestatic 0, .iadd, .istore 4, .iinc 5 1, .goto 6], 31), (31, [.iload 4, .ireturn], 34)]
theorem k_X9_halvesAhead : chkB T_X9_halvesAhead cX9_halvesAhead B_X9_halvesAhead = true := by decide +kernel
theorem cw_X9_halvesAhead : calW Y_X9_halvesAhead := ⟨pn_X9, Or.inr (Or.inl ⟨rfl, rfl⟩), w_1302, w_11, mh_X9, by decide⟩
theorem cl_X9_halvesAhead {o : OM} {Y : Pk} {d d2 idx : Nat} {C : Ctr} (hS : Sound o Y_X9_halvesAhead d2 C) (hd : d2 + 1 ≤ d) (hl : Cond.methodLink (yN Y).cls idx yX9_halvesAhead ∈ wsG ∨ ∃ host, Cond.methodLinkNest (yN Y).cls idx yX9_halvesAhead host ∈ nestW) : CallOK o Y d (.invokevirtual idx) (4, rcv 9 6 C) := callV_ok hS hd cw_X9_halvesAhead hl w_1301 wp_93 (Or.inl ⟨TX9, 55, rfl⟩) (by decide +kernel)
def Y_X9_isSlide : Pk := (yX9_isSlide, cX9_isSlide, 1, some .boolean, 2)
def T_X9_isSlide : Tb := ([], [], [(226, (-15)), (228, 15)], [], [], [(112, 0)], 1)
def V_X9_isSlide : List (Nat × Nat) := [(0, 1)]
def B_X9_isSlide : Bk := [(0, [.iload 0, .i2l, .jsr (-15), .jsr (15), .invokestatic 0, .ireturn], 12)]
theorem k_X9_isSlide : chkB T_X9_isSlide cX9_isSlide B_X9_isSlide = true := by decide +kernel
theorem cw_X9_isSlide : calW Y_X9_isSlide := ⟨pn_X9, Or.inr (Or.inr (Or.inl ⟨rfl, rfl⟩)), w_1400, w_11, mh_X9, by decide⟩
theorem cl_X9_isSlide {o : OM} {Y : Pk} {d d2 idx : Nat} {C : Ctr} (hS : Sound o Y_X9_isSlide d2 C) (hd : d2 + 1 ≤ d) (hl : Cond.methodLink (yN Y).cls idx yX9_isSlide ∈ wsG ∨ ∃ host, Cond.methodLinkNest (yN Y).cls idx yX9_isSlide host ∈ nestW) : CallOK o Y d (.invokestatic idx) (1, arg 1 C) := callS_ok hS hd cw_X9_isSlide hl w_1399 (by decide +kernel)
def Y_X9_overOf : Pk := (yX9_overOf, cX9_overOf, 6, some .int, 1)
def T_X9_overOf : Tb := ([(13, 9022)], [], [], [], [], [(112, 0)], 6)
def V_X9_overOf : List (Nat × Nat) := [(0, 4), (6, 6), (44, 6), (45, 6), (54, 6)]
def B_X9_overOf : Bk := [(0, [.iconst (0), .istore 4, .iconst (0), .istore 5], 6), (6, [.iload 5, .aload 0, .getfield 9022, .iload 1, .iaload, .if_icmp .ge 54, .iload 4, .iload 5, .iload 3, .isub, .i2l, .jsr 0, .aload 0, .getfield 9022, .iload 2, .iaload, .iconst (1), .isub, .i2l, .invokestatic 0, .ifCond .eq 44, .iconst (1), .goto 45], 44), (44, [.iconst (0)], 45), (45, [.iadd, .istore 4, .iinc 5 1, .goto 6], 54), (54, [.iload 4, .ireturn], 57)]
theorem k_X9_overOf : chkB T_X9_overOf cX9_overOf B_X9_overOf = true := by decide +kernel
theorem cw_X9_overOf : calW Y_X9_overOf := ⟨pn_X9, Or.inr (Or.inl ⟨rfl, rfl⟩), w_1407, w_11, mh_X9, by decide⟩
theorem cl_X9_overOf {o : OM} {Y : Pk} {d d2 idx : Nat} {C : Ctr} (hS : Sound o Y_X9_overOf d2 C) (hd : d2 + 1 ≤ d) (hl : Cond.methodLink (yN Y).cls idx yX9_overOf ∈ wsG ∨ ∃ host, Cond.methodLinkNest (yN Y).cls idx yX9_overOf host ∈ nestW) : CallOK o Y d (.invokevirtual idx) (4, rcv 9 6 C) := callV_ok hS hd cw_X9_overOf hl w_1406 wp_102 (Or.inl ⟨TX9, 55, rfl⟩) (by decide +kernel)
def Y_X9_term : Pk := (yX9_term, cX9_term, 4, some .int, 1)
def T_X9_term : Tb := ([], [], [], [], [], [(247, 0)], 4)
def V_X9_term : List (Nat × Nat) := [(0, 3), (16, 4), (19, 4)]
def B_X9_term : Bk := [(0, [.iload 0, .iload 1, .invokestatic 0, .istore 3, .iload 2, .ifCond .ne 16, .iload 0, .iload 3, .idiv, .goto 19], 16), (16, [.iload 1, .iload 3, .idiv], 19), (19, [.ireturn], 20)]
theorem k_X9_term : chkB T_X9_term cX9_term B_X9_term = true := by decide +kernel
theorem cw_X9_term : calW Y_X9_term := ⟨pn_X9, Or.inr (Or.inl ⟨rfl, rfl⟩), w_1435, w_11, mh_X9, by decide⟩
theorem cl_X9_term {o : OM} {Y : Pk} {d d2 idx : Nat} {C : Ctr} (hS : Sound o Y_X9_term d2 C) (hd : d2 + 1 ≤ d) (hl : Cond.methodLink (yN Y).cls idx yX9_term ∈ wsG ∨ ∃ host, Cond.methodLinkNest (yN Y).cls idx yX9_term host ∈ nestW) : CallOK o Y d (.invokestatic idx) (3, arg 4 C) := callS_ok hS hd cw_X9_term hl w_1434 (by decide +kernel)
def Y_X9_isPart : Pk := (yX9_isPart, cX9_isPart, 1, some .boolean, 2)
def T_X9_isPart : Tb := ([], [], [], [], [], [(112, 0)], 1)
def V_X9_isPart : List (Nat × Nat) := [(0, 1)]
def B_X9_isPart : Bk := [(0, [.iload 0, .i2l, .jsr 0, .jsr 1, .invokestatic 0, .ireturn], 8)]
theorem k_X9_isPart : chkB T_X9_isPart cX9_isPart B_X9_isPart = true := by decide +kernel
theorem cw_X9_isPart : calW Y_X9_isPart := ⟨pn_X9, Or.inr (Or.inr (Or.inl ⟨rfl, rfl⟩)), w_1432, w_11, mh_X9, by decide⟩
theorem cl_X9_isPart {o : OM} {Y : Pk} {d d2 idx : Nat} {C : Ctr} (hS : Sound o Y_X9_isPart d2 C) (hd : d2 + 1 ≤ d) (hl : Cond.methodLink (yN Y).cls idx yX9_isPart ∈ wsG ∨ ∃ host, Cond.methodLinkNest (yN Y).cls idx yX9_isPart host ∈ nestW) : CallOK o Y d (.invokestatic idx) (1, arg 1 C) := callS_ok hS hd cw_X9_isPart hl w_1431 (by decide +kernel)
def Y_X9_price : Pk := (yX9_price, cX9_price, 7, some .int, 1)
def T_X9_price : Tb := ([(13, 9022), (259, 9190), (265, 9200), (268, 9250), (271, 9260), (22, 9052), (278, 9230), (19, 9042), (284, 9240), (287, 9210), (290, 9220)], [(274, 100000000)], [], [], [(275, 2)], [(256, 0), (262, 1), (281, 3)], 7)
def V_X9_price : List (Nat × Nat) := [(0, 4), (56, 4), (60, 4), (128, 6), (132, 6), (133, 6), (170, 7), (171, 7), (173, 6), (183, 6), (255, 6)]
def B_X9_price : Bk := [(0, [.iload 1, .iload 3, .invokestatic 0, .iadd, .aload 0, .getfield 9022, .aload 0, .getfield 9190, .iaload, .if_icmp .gt 56, .iload 2, .iload 3, .invokestatic 1, .iadd, .aload 0, .getfield 9022, .aload 0, .getfield 9200, .iaload, .if_icmp .gt 56, .iload 3, .ifCond .ne 60, .iload 1, .aload 0, .getfield 9250, .if_icmp .ne 60, .iload 2, .aload 0, .getfield 9260, .if_icmp .ne 60], 56), (56, [.iconst (100000000), .ireturn], 60), (60, [.iconst (16), .aload 0, .getfield 9190, .imul, .iload 1, .iadd, .istore 4, .iconst (16), .aload 0, .getfield 9200, .imul, .iload 2, .iadd, .istore 5, .iload 3, .ifCond .ne 173, .aload 0, .iload 4, .invokestatic 2, .aload 0, .iload 5, .invokestatic 2, .if_icmp .ne 128, .aload 0, .iload 4, .invokestatic 2, .iconst (1), .if_icmp .ne 132, .aload 0, .getfield 9052, .iload 4, .iaload, .aload 0, .getfield 9052, .iload 5, .iaload, .if_icmp .eq 132], 128), (128, [.iconst (1), .goto 133], 132), (132, [.iconst (0)], 133), (133, [.istore 6, .aload 0, .getfield 9230, .aload 0, .getfield 9042, .iload 4, .iaload, .aload 0, .getfield 9042, .iload 5, .iaload, .isub, .invokestatic 3, .imul, .iload 6, .ifCond .eq 170, .aload 0, .getfield 9240, .goto 171], 170), (170, [.iconst (0)], 171), (171, [.iadd, .ireturn], 173), (173, [.iload 3, .iconst (3), .if_icmp .ge 183, .aload 0, .getfield 9210, .ireturn], 183), (183, [.iload 3, .iconst (3), .if_icmp .ne 255, .aload 0, .getfield 9220, .aload 0, .getfield 9230, .aload 0, .getfield 9042, .iload 4, .iaload, .aload 0, .getfield 9042, .iload 5, .iaload, .isub, .aload 0, .getfield 9042, .iload 5, .iconst (1), .iadd, .iaload, .isub, .invokestatic 3, .imul, .iadd, .aload 0, .getfield 9240, .aload 0, .iload 4, .invokestatic 2, .aload 0, .iload 5, .invokestatic 2, .iadd, .aload 0, .iload 5, .iconst (1), .iadd, .invokestatic 2, .iadd, .imul, .iadd, .ireturn], 255), (255, [.aload 0, .getfield 9220, .aload 0, .getfield 9230, .aload 0, .getfield 9042, .iload 4, .iaload, .aload 0, .getfield 9042, .iload 4, .iconst (1), .iadd, .iaload, .iadd, .aload 0, .getfield 9042, .iload 5, .iaload, .isub, .invokestatic 3, .imul, .iadd, .aload 0, .getfield 9240, .aload 0, .iload 4, .invokestatic 2, .aload 0, .iload 4, .iconst (1), .iadd, .invokestatic 2, .iadd, .aload 0, .iload 5, .invokestatic 2, .iadd, .imul, .iadd, .ireturn], 322)]
theorem k_X9_price : chkB T_X9_price cX9_price B_X9_price = true := by decide +kernel
theorem cw_X9_price : calW Y_X9_price := ⟨pn_X9, Or.inr (Or.inl ⟨rfl, rfl⟩), w_1457, w_11, mh_X9, by decide⟩
theorem cl_X9_price {o : OM} {Y : Pk} {d d2 idx : Nat} {C : Ctr} (hS : Sound o Y_X9_price d2 C) (hd : d2 + 1 ≤ d) (hl : Cond.methodLink (yN Y).cls idx yX9_price ∈ wsG ∨ ∃ host, Cond.methodLinkNest (yN Y).cls idx yX9_price host ∈ nestW) : CallOK o Y d (.invokevirtual idx) (4, rcv 9 7 C) := callV_ok hS hd cw_X9_price hl w_1456 wp_107 (Or.inl ⟨TX9, 55, rfl⟩) (by decide +kernel)
def Y_X9_behind : Pk := (yX9_behind, cX9_behind, 4, some .int, 1)
def T_X9_behind : Tb := ([], [], [], [], [], [(256, 0), (262, 1)], 4)
def V_X9_behind : List (Nat × Nat) := [(0, 4)]
def B_X9_behind : Bk := [(0, [.iconst (17), .iload 1, .iload 3, .invokestatic 0, .iadd, .imul, .iload 2, .iadd, .iload 3, .invokestatic 1, .iadd, .ireturn], 17)]
theorem k_X9_behind : chkB T_X9_behind cX9_behind B_X9_behind = true := by decide +kernel
theorem cw_X9_behind : calW Y_X9_behind := ⟨pn_X9, Or.inr (Or.inl ⟨rfl, rfl⟩), w_1474, w_11, mh_X9, by decide⟩
theorem cl_X9_behind {o : OM} {Y : Pk} {d d2 idx : Nat} {C : Ctr} (hS : Sound o Y_X9_behind d2 C) (hd : d2 + 1 ≤ d) (hl : Cond.methodLink (yN Y).cls idx yX9_behind ∈ wsG ∨ ∃ host, Cond.methodLinkNest (yN Y).cls idx yX9_behind host ∈ nestW) : CallOK o Y d (.invokevirtual idx) (4, rcv 9 4 C) := callV_ok hS hd cw_X9_behind hl w_1473 wp_109 (Or.inl ⟨TX9, 55, rfl⟩) (by decide +kernel)
def Y_X9_isLaw : Pk := (yX9_isLaw, cX9_isLaw, 2, some .boolean, 2)
def T_X9_isLaw : Tb := ([(207, 9110)], [], [], [], [], [(112, 0)], 2)
def V_X9_isLaw : List (Nat × Nat) := [(0, 2)]
def B_X9_isLaw : Bk := [(0, [.iload 1, .i2l, .jsr 0, .aload 0, .getfield 9110, .iconst (1), .isub, .i2l, .invokestatic 0, .ireturn], 14)]
theorem k_X9_isLaw : chkB T_X9_isLaw cX9_isLaw B_X9_isLaw = true := by decide +kernel
theorem cw_X9_isLaw : calW Y_X9_isLaw := ⟨pn_X9, Or.inr (Or.inr (Or.inl ⟨rfl, rfl⟩)), w_1446, w_11, mh_X9, by decide⟩
theorem cl_X9_isLaw {o : OM} {Y : Pk} {d d2 idx : Nat} {C : Ctr} (hS : Sound o Y_X9_isLaw d2 C) (hd : d2 + 1 ≤ d) (hl : Cond.methodLink (yN Y).cls idx yX9_isLaw ∈ wsG ∨ ∃ host, Cond.methodLinkNest (yN Y).cls idx yX9_isLaw host ∈ nestW) : CallOK o Y d (.invokevirtual idx) (2, rcv 9 2 C) := callV_ok hS hd cw_X9_isLaw hl w_1445 wp_105 (Or.inl ⟨TX9, 55, rfl⟩) (by decide +kernel)
def Y_X9_keep : Pk := (yX9_keep, cX9_keep, 4, some .int, 1)
def T_X9_keep : Tb := ([(325, 9320), (68, 9382)], [], [], [], [], [(112, 0)], 4)
def V_X9_keep : List (Nat × Nat) := [(0, 3), (19, 3), (32, 3), (33, 3)]
def B_X9_keep : Bk := [(0, [.iload 1, .i2l, .jsr 0, .aload 0, .getfield 9320, .iconst (1), .isub, .i2l, .invokestatic 0, .ifCond .ne 19, .iconst (-101), .ireturn], 19), (19, [.aload 0, .getfield 9382, .iload 1, .baload, .ifCond .eq 32, .iconst (1), .goto 33], 32), (32, [.iconst (0)], 33), (33, [.istore 3, .aload 0, .getfield 9382, .iload 1, .iload 2, .bastore, .iload 3, .ireturn], 43)]
theorem k_X9_keep : chkB T_X9_keep cX9_keep B_X9_keep = true := by decide +kernel
theorem cw_X9_keep : calW Y_X9_keep := ⟨pn_X9, Or.inr (Or.inl ⟨rfl, rfl⟩), w_1498, w_11, mh_X9, by decide⟩
theorem cl_X9_keep {o : OM} {Y : Pk} {d d2 idx : Nat} {C : Ctr} (hS : Sound o Y_X9_keep d2 C) (hd : d2 + 1 ≤ d) (hl : Cond.methodLink (yN Y).cls idx yX9_keep ∈ wsG ∨ ∃ host, Cond.methodLinkNest (yN Y).cls idx yX9_keep host ∈ nestW) : CallOK o Y d (.invokevirtual idx) (3, rcv 9 4 C) := callV_ok hS hd cw_X9_keep hl w_1496 w_1497 (Or.inl ⟨TX9, 55, rfl⟩) (by decide +kernel)
def Y_X9_allWidths : Pk := (yX9_allWidths, cX9_allWidths, 4, some .int, 1)
def T_X9_allWidths : Tb := ([(109, 9000), (80, 9432)], [], [], [], [(356, 0)], [], 4)
def V_X9_allWidths : List (Nat × Nat) := [(0, 1), (4, 3), (16, 4), (38, 4), (61, 4), (69, 4), (75, 3)]
def B_X9_allWidths : Bk := [(0, [.iconst (0), .istore 1, .iconst (0), .istore 2], 4), (4, [.iload 2, .aload 0, .getfield 9000, .if_icmp .ge 75, .iload 2, .iconst (1), .iadd, .istore 3], 16), (16, [.iload 3, .aload 0, .getfield 9000, .if_icmp .ge 69, .iload 1, .aload 0, .iload 2, .iload 3, .invokestatic 0, .ifCond .eq 38, .iconst (0), .goto 61], 38), (38, [.aload 0, .getfield 9432, .iconst (8), .iload 2, .imul, .iload 3, .iadd, .iaload, .aload 0, .getfield 9432, .iconst (8), .iload 3, .imul, .iload 2, .iadd, .iaload, .iadd], 61), (61, [.iadd, .istore 1, .iinc 3 1, .goto 16], 69), (69, [.iinc 2 1, .goto 4], 75), (75, [.iload 1, .ireturn], 77)]
theorem k_X9_allWidths : chkB T_X9_allWidths cX9_allWidths B_X9_allWidths = true := by decide +kernel
theorem cw_X9_allWidths : calW Y_X9_allWidths := ⟨pn_X9, Or.inr (Or.inl ⟨rfl, rfl⟩), w_1588, w_11, mh_X9, by decide⟩
theorem cl_X9_allWidths {o : OM} {Y : Pk} {d d2 idx : Nat} {C : Ctr} (hS : Sound o Y_X9_allWidths d2 C) (hd : d2 + 1 ≤ d) (hl : Cond.methodLink (yN Y).cls idx yX9_allWidths ∈ wsG ∨ ∃ host, Cond.methodLinkNest (yN Y).cls idx yX9_allWidths host ∈ nestW) : CallOK o Y d (.invokevirtual idx) (1, rcv 9 4 C) := callV_ok hS hd cw_X9_allWidths hl w_1587 wp_121 (Or.inl ⟨TX9, 55, rfl⟩) (by decide +kernel)
def Y_X9_ashBeside : Pk := (yX9_ashBeside, cX9_ashBeside, 6, some .int, 1)
def T_X9_ashBeside : Tb := ([(13, 9022), (16, 9032), (22, 9052)], [], [], [], [(338, 0)], [], 6)
def V_X9_ashBeside : List (Nat × Nat) := [(0, 5), (5, 6), (62, 6), (71, 6)]
def B_X9_ashBeside : Bk := [(0, [.iload 2, .iload 3, .iadd, .istore 5], 5), (5, [.iload 5, .ifCond .lt 71, .iload 5, .aload 0, .getfield 9022, .iload 1, .iaload, .if_icmp .ge 71, .aload 0, .getfield 9032, .iconst (16), .iload 1, .imul, .iload 5, .iadd, .iaload, .iconst (5), .if_icmp .ne 62, .aload 0, .iload 4, .aload 0, .getfield 9052, .iconst (16), .iload 1, .imul, .iload 5, .iadd, .iaload, .invokestatic 0, .iconst (-1), .if_icmp .eq 62, .iload 5, .ireturn], 62), (62, [.iload 5, .iload 3, .iadd, .istore 5, .goto 5], 71), (71, [.iconst (-1), .ireturn], 73)]
theorem k_X9_ashBeside : chkB T_X9_ashBeside cX9_ashBeside B_X9_ashBeside = true := by decide +kernel
theorem cw_X9_ashBeside : calW Y_X9_ashBeside := ⟨pn_X9, Or.inr (Or.inl ⟨rfl, rfl⟩), w_1604, w_11, mh_X9, by decide⟩
theorem cl_X9_ashBeside {o : OM} {Y : Pk} {d d2 idx : Nat} {C : Ctr} (hS : Sound o Y_X9_ashBeside d2 C) (hd : d2 + 1 ≤ d) (hl : Cond.methodLink (yN Y).cls idx yX9_ashBeside ∈ wsG ∨ ∃ host, Cond.methodLinkNest (yN Y).cls idx yX9_ashBeside host ∈ nestW) : CallOK o Y d (.invokevirtual idx) (5, rcv 9 6 C) := callV_ok hS hd cw_X9_ashBeside hl w_1603 wp_123 (Or.inl ⟨TX9, 55, rfl⟩) (by decide +kernel)
def Y_X9_countOf : Pk := (yX9_countOf, cX9_countOf, 5, some .int, 1)
def T_X9_countOf : Tb := ([(109, 9000), (13, 9022), (71, 9392), (204, 9090), (207, 9110), (325, 9320), (176, 9080), (318, 9310), (368, 9450)], [], [], [], [(345, 0), (362, 1)], [], 5)
def V_X9_countOf : List (Nat × Nat) := [(0, 2), (7, 5), (41, 5), (42, 5), (50, 5), (104, 5), (109, 5), (111, 5), (116, 5), (121, 5), (126, 5), (135, 5), (137, 5), (142, 5), (147, 5), (152, 5)]
def B_X9_countOf : Bk := [(0, [.iconst (0), .istore 2, .iconst (0), .istore 3, .iconst (0), .istore 4], 7), (7, [.iload 4, .aload 0, .getfield 9000, .if_icmp .ge 50, .iload 2, .aload 0, .getfield 9022, .iload 4, .iaload, .iadd, .istore 2, .iload 3, .aload 0, .getfield 9392, .iload 4, .baload, .ifCond .eq 41, .iconst (1), .goto 42], 41), (41, [.iconst (0)], 42), (42, [.iadd, .istore 3, .iinc 4 1, .goto 7], 50), (50, [.iload 1, .tableswitch 152 (0) (9) #[104, 109, 111, 116, 121, 126, 135, 137, 142, 147]], 104), (104, [.aload 0, .getfield 9000, .ireturn], 109), (109, [.iload 2, .ireturn], 111), (111, [.aload 0, .getfield 9090, .ireturn], 116), (116, [.aload 0, .getfield 9110, .ireturn], 121), (121, [.aload 0, .getfield 9320, .ireturn], 126), (126, [.aload 0, .aload 0, .invokestatic 0, .invokestatic 1, .ireturn], 135), (135, [.iload 3, .ireturn], 137), (137, [.aload 0, .getfield 9080, .ireturn], 142), (142, [.aload 0, .getfield 9310, .ireturn], 147), (147, [.aload 0, .getfield 9450, .ireturn], 152), (152, [.iconst (-102), .ireturn], 155)]
theorem k_X9_countOf : chkB T_X9_countOf cX9_countOf B_X9_countOf = true := by decide +kernel
theorem cw_X9_countOf : calW Y_X9_countOf := ⟨pn_X9, Or.inr (Or.inl ⟨rfl, rfl⟩), w_1620, w_11, mh_X9, by decide⟩
theorem cl_X9_countOf {o : OM} {Y : Pk} {d d2 idx : Nat} {C : Ctr} (hS : Sound o Y_X9_countOf d2 C) (hd : d2 + 1 ≤ d) (hl : Cond.methodLink (yN Y).cls idx yX9_countOf ∈ wsG ∨ ∃ host, Cond.methodLinkNest (yN Y).cls idx yX9_countOf host ∈ nestW) : CallOK o Y d (.invokevirtual idx) (2, rcv 9 5 C) := callV_ok hS hd cw_X9_countOf hl w_1619 wp_124 (Or.inl ⟨TX9, 55, rfl⟩) (by decide +kernel)
def Y_J0_length_8abf5 : Pk := (yJ0_length_8abf5, cJ0_length_8abf5, 1, some .int, 1)
def T_J0_length_8abf5 : Tb := ([(9, 20002)], [], [], [], [(335, 0)], [], 1)
def V_J0_length_8abf5 : List (Nat × Nat) := [(0, 1)]
def B_J0_length_8abf5 : Bk := [(0, [.aload 0, .getfield 20002, .arraylength, .aload 0, .invokestatic 0, .ishr, .ireturn], 11)]
theorem k_J0_length_8abf5 : chkB T_J0_length_8abf5 cJ0_length_8abf5 B_J0_length_8abf5 = true := by decide +kernel
theorem cw_J0_length_8abf5 : calW Y_J0_length_8abf5 := ⟨pn_J0, Or.inr (Or.inl ⟨rfl, rfl⟩), w_507, w_13, mh_J0, by decide⟩
theorem cl_J0_length_8abf5 {o : OM} {Y : Pk} {d d2 idx : Nat} {C : Ctr} (hS : Sound o Y_J0_length_8abf5 d2 C) (hd : d2 + 1 ≤ d) (hl : Cond.methodLink (yN Y).cls idx yJ0_length_8abf5 ∈ wsG ∨ ∃ host, Cond.methodLinkNest (yN Y).cls idx yJ0_length_8abf5 host ∈ nestW) : CallOK o Y d (.invokevirtual idx) (1, rcv 20 1 C) := callV_ok hS hd cw_J0_length_8abf5 hl w_505 w_506 (Or.inr ⟨rfl, rfl⟩) (by decide +kernel)
def Y_J1_indexOf_4cfef : Pk := (yJ1_indexOf_4cfef, cJ1_indexOf_4cfef, 4, some .int, 1)
def T_J1_indexOf_4cfef : Tb := ([], [], [], [], [], [(88, 0), (92, 1), (38, 2), (95, 3)], 4)
def V_J1_indexOf_4cfef : List (Nat × Nat) := [(0, 4), (9, 4), (29, 4)]
def B_J1_indexOf_4cfef : Bk := [(0, [.iload 1, .invokestatic 0, .ifCond .ne 9, .iconst (-1), .ireturn], 9), (9, [.iload 2, .iconst (0), .invokestatic 1, .istore 2, .iload 3, .aload 0, .arraylength, .invokestatic 2, .istore 3, .iload 2, .iload 3, .if_icmp .lt 29, .iconst (-1), .ireturn], 29), (29, [.aload 0, .iload 1, .iload 2, .iload 3, .invokestatic 3, .ireturn], 37)]
theorem k_J1_indexOf_4cfef : chkB T_J1_indexOf_4cfef cJ1_indexOf_4cfef B_J1_indexOf_4cfef = true := by decide +kernel
theorem cw_J1_indexOf_4cfef : calW Y_J1_indexOf_4cfef := ⟨pn_J1, Or.inr (Or.inl ⟨rfl, rfl⟩), w_514, w_14, mh_J1, by decide⟩
theorem cl_J1_indexOf_4cfef {o : OM} {Y : Pk} {d d2 idx : Nat} {C : Ctr} (hS : Sound o Y_J1_indexOf_4cfef d2 C) (hd : d2 + 1 ≤ d) (hl : Cond.methodLink (yN Y).cls idx yJ1_indexOf_4cfef ∈ wsG ∨ ∃ host, Cond.methodLinkNest (yN Y).cls idx yJ1_indexOf_4cfef host ∈ nestW) : CallOK o Y d (.invokestatic idx) (4, arg 4 C) := callS_ok hS hd cw_J1_indexOf_4cfef hl w_513 (by decide +kernel)
def Y_X1_yearsAhead : Pk := (yX1_yearsAhead, cX1_yearsAhead, 4, some .int, 1)
def T_X1_yearsAhead : Tb := ([], [], [], [], [(51, 0)], [], 4)
def V_X1_yearsAhead : List (Nat × Nat) := [(0, 4)]
def B_X1_yearsAhead : Bk := [(0, [.aload 0, .iload 1, .iload 2, .iload 3, .invokestatic 0, .iconst (2), .idiv, .ireturn], 10)]
theorem k_X1_yearsAhead : chkB T_X1_yearsAhead cX1_yearsAhead B_X1_yearsAhead = true := by decide +kernel
theorem cw_X1_yearsAhead : calW Y_X1_yearsAhead := ⟨pn_X1, Or.inr (Or.inl ⟨rfl, rfl⟩), w_612, w_5, mh_X1, by decide⟩
theorem cl_X1_yearsAhead {o : OM} {Y : Pk} {d d2 idx : Nat} {C : Ctr} (hS : Sound o Y_X1_yearsAhead d2 C) (hd : d2 + 1 ≤ d) (hl : Cond.methodLink (yN Y).cls idx yX1_yearsAhead ∈ wsG ∨ ∃ host, Cond.methodLinkNest (yN Y).cls idx yX1_yearsAhead host ∈ nestW) : CallOK o Y d (.invokevirtual idx) (4, rcv 1 4 C) := callV_ok hS hd cw_X1_yearsAhead hl w_611 wp_20 (Or.inl ⟨TX1, 3, rfl⟩) (by decide +kernel)
def Y_X1_yearsOfAll : Pk := (yX1_yearsOfAll, cX1_yearsOfAll, 3, some .int, 1)
def T_X1_yearsOfAll : Tb := ([(19, 1002), (54, 6022)], [], [], [], [(51, 0)], [], 3)
def V_X1_yearsOfAll : List (Nat × Nat) := [(0, 3)]
def B_X1_yearsOfAll : Bk := [(0, [.aload 0, .iload 1, .iload 2, .aload 0, .getfield 1002, .getfield 6022, .iload 2, .iaload, .invokestatic 0, .iconst (1), .iadd, .iconst (2), .idiv, .ireturn], 20)]
theorem k_X1_yearsOfAll : chkB T_X1_yearsOfAll cX1_yearsOfAll B_X1_yearsOfAll = true := by decide +kernel
theorem cw_X1_yearsOfAll : calW Y_X1_yearsOfAll := ⟨pn_X1, Or.inr (Or.inl ⟨rfl, rfl⟩), w_406, w_5, mh_X1, by decide⟩
theorem cl_X1_yearsOfAll {o : OM} {Y : Pk} {d d2 idx : Nat} {C : Ctr} (hS : Sound o Y_X1_yearsOfAll d2 C) (hd : d2 + 1 ≤ d) (hl : Cond.methodLink (yN Y).cls idx yX1_yearsOfAll ∈ wsG ∨ ∃ host, Cond.methodLinkNest (yN Y).cls idx yX1_yearsOfAll host ∈ nestW) : CallOK o Y d (.invokevirtual idx) (3, rcv 1 3 C) := callV_ok hS hd cw_X1_yearsOfAll hl w_405 wp_7 (Or.inl ⟨TX1, 3, rfl⟩) (by decide +kernel)
def Y_X3_bindJoin : Pk := (yX3_bindJoin, cX3_bindJoin, 3, some .boolean, 2)
def T_X3_bindJoin : Tb := ([(59, 3022), (120, 12), (123, 22), (126, 32), (129, 42)], [], [], [], [], [(101, 0)], 3)
def V_X3_bindJoin : List (Nat × Nat) := [(0, 3)]
def B_X3_bindJoin : Bk := [(0, [.aload 1, .aload 0, .getfield 3022, .getfield 12, .iload 2, .iaload, .aload 0, .getfield 3022, .getfield 22, .iload 2, .iaload, .aload 0, .getfield 3022, .getfield 32, .iload 2, .iaload, .aload 0, .getfield 3022, .getfield 42, .iload 2, .iaload, .invokestatic 0, .ireturn], 41)]
theorem k_X3_bindJoin : chkB T_X3_bindJoin cX3_bindJoin B_X3_bindJoin = true := by decide +kernel
theorem cw_X3_bindJoin : calW Y_X3_bindJoin := ⟨pn_X3, Or.inr (Or.inr (Or.inl ⟨rfl, rfl⟩)), w_874, w_10, mh_X3, by decide⟩
theorem cl_X3_bindJoin {o : OM} {Y : Pk} {d d2 idx : Nat} {C : Ctr} (hS : Sound o Y_X3_bindJoin d2 C) (hd : d2 + 1 ≤ d) (hl : Cond.methodLink (yN Y).cls idx yX3_bindJoin ∈ wsG ∨ ∃ host, Cond.methodLinkNest (yN Y).cls idx yX3_bindJoin host ∈ nestW) : CallOK o Y d (.invokevirtual idx) (3, rcv 3 3 C) := callV_ok hS hd cw_X3_bindJoin hl w_873 wp_56 (Or.inl ⟨TX3, 15, rfl⟩) (by decide +kernel)
def Y_X3_bindAshes : Pk := (yX3_bindAshes, cX3_bindAshes, 5, some .boolean, 2)
def T_X3_bindAshes : Tb := ([(51, 3002), (85, 6000), (26, 3072), (15, 3042)], [], [], [], [(152, 0), (156, 1)], [(101, 2)], 5)
def V_X3_bindAshes : List (Nat × Nat) := [(0, 2), (10, 4), (38, 4), (81, 4), (87, 4)]
def B_X3_bindAshes : Bk := [(0, [.aload 0, .iload 1, .invokestatic 0, .istore 2, .iload 2, .iconst (1), .iadd, .istore 3], 10), (10, [.iload 2, .iconst (-1), .if_icmp .eq 87, .iload 3, .aload 0, .getfield 3002, .getfield 6000, .if_icmp .ge 87, .aload 0, .iload 3, .iload 1, .invokestatic 1, .ifCond .ne 38, .goto 81], 38), (38, [.aload 0, .getfield 3072, .iload 2, .iconst (10), .imul, .iload 1, .iadd, .iaload, .aload 0, .getfield 3072, .iload 3, .iconst (10), .imul, .iload 1, .iadd, .iaload, .isub, .istore 4, .aload 0, .getfield 3042, .iload 2, .iload 3, .iload 4, .iload 4, .invokestatic 2, .ifCond .ne 81, .iconst (0), .ireturn], 81), (81, [.iinc 3 1, .goto 10], 87), (87, [.iconst (1), .ireturn], 89)]
theorem k_X3_bindAshes : chkB T_X3_bindAshes cX3_bindAshes B_X3_bindAshes = true := by decide +kernel
theorem cw_X3_bindAshes : calW Y_X3_bindAshes := ⟨pn_X3, Or.inr (Or.inr (Or.inl ⟨rfl, rfl⟩)), w_849, w_10, mh_X3, by decide⟩
theorem cl_X3_bindAshes {o : OM} {Y : Pk} {d d2 idx : Nat} {C : Ctr} (hS : Sound o Y_X3_bindAshes d2 C) (hd : d2 + 1 ≤ d) (hl : Cond.methodLink (yN Y).cls idx yX3_bindAshes ∈ wsG ∨ ∃ host, Cond.methodLinkNest (yN Y).cls idx yX3_bindAshes host ∈ nestW) : CallOK o Y d (.invokevirtual idx) (2, rcv 3 5 C) := callV_ok hS hd cw_X3_bindAshes hl w_848 wp_52 (Or.inl ⟨TX3, 15, rfl⟩) (by decide +kernel)
def Y_X3_groupAshes : Pk := (yX3_groupAshes, cX3_groupAshes, 4, none, 0)
def T_X3_groupAshes : Tb := ([(51, 3002), (85, 6000)], [], [], [], [(152, 0), (156, 1), (164, 2)], [], 4)
def V_X3_groupAshes : List (Nat × Nat) := [(0, 2), (10, 4), (41, 4), (47, 4)]
def B_X3_groupAshes : Bk := [(0, [.aload 0, .iload 1, .invokestatic 0, .istore 2, .iload 2, .iconst (1), .iadd, .istore 3], 10), (10, [.iload 2, .iconst (-1), .if_icmp .eq 47, .iload 3, .aload 0, .getfield 3002, .getfield 6000, .if_icmp .ge 47, .aload 0, .iload 3, .iload 1, .invokestatic 1, .ifCond .eq 41, .aload 0, .iload 2, .iload 3, .invokestatic 2], 41), (41, [.iinc 3 1, .goto 10], 47), (47, [.return_], 48)]
theorem k_X3_groupAshes : chkB T_X3_groupAshes cX3_groupAshes B_X3_groupAshes = true := by decide +kernel
theorem cw_X3_groupAshes : calW Y_X3_groupAshes := ⟨pn_X3, Or.inl ⟨rfl, rfl⟩, w_911, w_10, mh_X3, by decide⟩
theorem cl_X3_groupAshes {o : OM} {Y : Pk} {d d2 idx : Nat} {C : Ctr} (hS : Sound o Y_X3_groupAshes d2 C) (hd : d2 + 1 ≤ d) (hl : Cond.methodLink (yN Y).cls idx yX3_groupAshes ∈ wsG ∨ ∃ host, Cond.methodLinkNest (yN Y).cls idx yX3_groupAshes host ∈ nestW) : CallOK o Y d (.invokevirtual idx) (2, rcv 3 4 C) := callV_ok hS hd cw_X3_groupAshes hl w_910 wp_62 (Or.inl ⟨TX3, 15, rfl⟩) (by decide +kernel)
def Y_X3_widthsIfApart : Pk := (yX3_widthsIfApart, cX3_widthsIfApart, 7, some .int, 1)
def T_X3_widthsIfApart : Tb := ([(51, 3002), (85, 6000)], [], [], [], [(194, 0), (197, 1), (217, 2)], [], 7)
def V_X3_widthsIfApart : List (Nat × Nat) := [(0, 4), (6, 6), (24, 7), (70, 7), (93, 7), (96, 7), (102, 7), (108, 6)]
def B_X3_widthsIfApart : Bk := [(0, [.iconst (0), .istore 4, .iconst (0), .istore 5], 6), (6, [.iload 5, .aload 0, .getfield 3002, .getfield 6000, .if_icmp .ge 108, .iload 5, .iconst (1), .iadd, .istore 6], 24), (24, [.iload 6, .aload 0, .getfield 3002, .getfield 6000, .if_icmp .ge 102, .aload 0, .iload 5, .iload 6, .invokestatic 0, .ifCond .ne 96, .iload 4, .aload 0, .iload 1, .iload 5, .invokestatic 0, .ifCond .eq 70, .aload 0, .iload 5, .iload 6, .invokestatic 1, .goto 93], 70), (70, [.aload 0, .iload 1, .iload 2, .iload 3, .iload 5, .iload 6, .invokestatic 2, .aload 0, .iload 1, .iload 2, .iload 3, .iload 6, .iload 5, .invokestatic 2, .iadd], 93), (93, [.iadd, .istore 4], 96), (96, [.iinc 6 1, .goto 24], 102), (102, [.iinc 5 1, .goto 6], 108), (108, [.iload 4, .ireturn], 111)]
theorem k_X3_widthsIfApart : chkB T_X3_widthsIfApart cX3_widthsIfApart B_X3_widthsIfApart = true := by decide +kernel
theorem cw_X3_widthsIfApart : calW Y_X3_widthsIfApart := ⟨pn_X3, Or.inr (Or.inl ⟨rfl, rfl⟩), w_980, w_10, mh_X3, by decide⟩
theorem cl_X3_widthsIfApart {o : OM} {Y : Pk} {d d2 idx : Nat} {C : Ctr} (hS : Sound o Y_X3_widthsIfApart d2 C) (hd : d2 + 1 ≤ d) (hl : Cond.methodLink (yN Y).cls idx yX3_widthsIfApart ∈ wsG ∨ ∃ host, Cond.methodLinkNest (yN Y).cls idx yX3_widthsIfApart host ∈ nestW) : CallOK o Y d (.invokevirtual idx) (4, rcv 3 7 C) := callV_ok hS hd cw_X3_widthsIfApart hl w_979 wp_74 (Or.inl ⟨TX3, 15, rfl⟩) (by decide +kernel)
def Y_X5_readRow : Pk := (yX5_readRow, cX5_readRow, 5, none, 0)
def T_X5_readRow : Tb := ([(67, 5002), (75, 6022)], [], [], [], [(93, 0), (96, 1), (100, 2)], [], 5)
def V_X5_readRow : List (Nat × Nat) := [(0, 4), (3, 5), (60, 5), (61, 5), (68, 5)]
def B_X5_readRow : Bk := [(0, [.iconst (0), .istore 4], 3), (3, [.iload 4, .aload 0, .getfield 5002, .getfield 6022, .iload 1, .iaload, .if_icmp .ge 68, .aload 2, .iload 4, .aload 0, .getfield 5002, .iload 1, .iload 4, .invokestatic 0, .iastore, .aload 3, .iload 4, .aload 0, .getfield 5002, .iload 1, .iload 4, .invokestatic 1, .ifCond .eq 60, .aload 0, .getfield 5002, .iload 1, .iload 4, .invokestatic 2, .goto 61], 60), (60, [.iconst (-1)], 61), (61, [.iastore, .iinc 4 1, .goto 3], 68), (68, [.return_], 69)]
theorem k_X5_readRow : chkB T_X5_readRow cX5_readRow B_X5_readRow = true := by decide +kernel
theorem cw_X5_readRow : calW Y_X5_readRow := ⟨pn_X5, Or.inl ⟨rfl, rfl⟩, w_692, w_9, mh_X5, by decide⟩
theorem cl_X5_readRow {o : OM} {Y : Pk} {d d2 idx : Nat} {C : Ctr} (hS : Sound o Y_X5_readRow d2 C) (hd : d2 + 1 ≤ d) (hl : Cond.methodLink (yN Y).cls idx yX5_readRow ∈ wsG ∨ ∃ host, Cond.methodLinkNest (yN Y).cls idx yX5_readRow host ∈ nestW) : CallOK o Y d (.invokevirtual idx) (4, rcv 5 5 C) := callV_ok hS hd cw_X5_readRow hl w_691 wp_28 (Or.inl ⟨TX5, 20, rfl⟩) (by decide +kernel)
def Y_X5_priceOf : Pk := (yX5_priceOf, cX5_priceOf, 4, some .int, 1)
def T_X5_priceOf : Tb := ([(15, 5032), (9, 5022), (18, 5042), (21, 5052), (31, 5080)], [], [], [], [(132, 0), (143, 3)], [(135, 1), (139, 2)], 4)
def V_X5_priceOf : List (Nat × Nat) := [(0, 4), (36, 4), (43, 4), (80, 4), (81, 4), (97, 4), (134, 4), (135, 4), (151, 4)]
def B_X5_priceOf : Bk := [(0, [.iload 1, .tableswitch 151 (0) (4) #[36, 151, 151, 43, 97]], 36), (36, [.aload 0, .iload 2, .iload 3, .invokestatic 0, .ireturn], 43), (43, [.aload 0, .aload 0, .getfield 5032, .iload 3, .iaload, .aload 0, .getfield 5032, .iload 3, .iconst (1), .iadd, .iaload, .iadd, .aload 0, .getfield 5022, .iload 2, .iaload, .isub, .aload 0, .getfield 5042, .iload 2, .iaload, .iconst (-1), .if_icmp .eq 80, .iconst (1), .goto 81], 80), (80, [.iconst (0)], 81), (81, [.invokestatic 1, .aload 0, .getfield 5052, .iload 3, .invokestatic 2, .iadd, .invokestatic 3, .ireturn], 97), (97, [.aload 0, .aload 0, .getfield 5022, .iload 2, .iaload, .aload 0, .getfield 5022, .iload 2, .iconst (1), .iadd, .iaload, .iadd, .aload 0, .getfield 5032, .iload 3, .iaload, .isub, .aload 0, .getfield 5052, .iload 3, .iaload, .iconst (-1), .if_icmp .eq 134, .iconst (1), .goto 135], 134), (134, [.iconst (0)], 135), (135, [.invokestatic 1, .aload 0, .getfield 5042, .iload 2, .invokestatic 2, .iadd, .invokestatic 3, .ireturn], 151), (151, [.aload 0, .getfield 5080, .ireturn], 156)]
theorem k_X5_priceOf : chkB T_X5_priceOf cX5_priceOf B_X5_priceOf = true := by decide +kernel
theorem cw_X5_priceOf : calW Y_X5_priceOf := ⟨pn_X5, Or.inr (Or.inl ⟨rfl, rfl⟩), w_723, w_9, mh_X5, by decide⟩
theorem cl_X5_priceOf {o : OM} {Y : Pk} {d d2 idx : Nat} {C : Ctr} (hS : Sound o Y_X5_priceOf d2 C) (hd : d2 + 1 ≤ d) (hl : Cond.methodLink (yN Y).cls idx yX5_priceOf ∈ wsG ∨ ∃ host, Cond.methodLinkNest (yN Y).cls idx yX5_priceOf host ∈ nestW) : CallOK o Y d (.invokevirtual idx) (4, rcv 5 4 C) := callV_ok hS hd cw_X5_priceOf hl w_722 wp_34 (Or.inl ⟨TX5, 20, rfl⟩) (by decide +kernel)
def Y_X6_firstAsh : Pk := (yX6_firstAsh, cX6_firstAsh, 4, some .int, 1)
def T_X6_firstAsh : Tb := ([(19, 6022)], [], [], [], [(51, 0), (55, 1)], [], 4)
def V_X6_firstAsh : List (Nat × Nat) := [(0, 3), (2, 4), (33, 4), (39, 4)]
def B_X6_firstAsh : Bk := [(0, [.iconst (0), .istore 3], 2), (2, [.iload 3, .aload 0, .getfield 6022, .iload 1, .iaload, .if_icmp .ge 39, .aload 0, .iload 1, .iload 3, .invokestatic 0, .ifCond .eq 33, .aload 0, .iload 1, .iload 3, .invokestatic 1, .iload 2, .if_icmp .ne 33, .iload 3, .ireturn], 33), (33, [.iinc 3 1, .goto 2], 39), (39, [.iconst (-1), .ireturn], 41)]
theorem k_X6_firstAsh : chkB T_X6_firstAsh cX6_firstAsh B_X6_firstAsh = true := by decide +kernel
theorem cw_X6_firstAsh : calW Y_X6_firstAsh := ⟨pn_X6, Or.inr (Or.inl ⟨rfl, rfl⟩), w_1015, w_2, mh_X6, by decide⟩
theorem cl_X6_firstAsh {o : OM} {Y : Pk} {d d2 idx : Nat} {C : Ctr} (hS : Sound o Y_X6_firstAsh d2 C) (hd : d2 + 1 ≤ d) (hl : Cond.methodLink (yN Y).cls idx yX6_firstAsh ∈ wsG ∨ ∃ host, Cond.methodLinkNest (yN Y).cls idx yX6_firstAsh host ∈ nestW) : CallOK o Y d (.invokevirtual idx) (3, rcv 6 4 C) := callV_ok hS hd cw_X6_firstAsh hl w_1014 wp_79 (Or.inl ⟨TX6, 6, rfl⟩) (by decide +kernel)
def Y_X7_likeOf : Pk := (yX7_likeOf, cX7_likeOf, 11, some .int, 1)
def T_X7_likeOf : Tb := ([(9, 7002), (21, 6022)], [], [], [], [(34, 2), (37, 3), (41, 4)], [(15, 0), (30, 1)], 11)
def V_X7_likeOf : List (Nat × Nat) := [(0, 5), (21, 8), (116, 10), (171, 10), (173, 10), (176, 10), (182, 8)]
def B_X7_likeOf : Bk := [(0, [.aload 0, .getfield 7002, .getfield 6022, .iload 2, .iaload, .istore 5, .iconst (0), .istore 6, .iconst (0), .iload 3, .invokestatic 0, .istore 7], 21), (21, [.iload 7, .aload 0, .getfield 7002, .getfield 6022, .iload 1, .iaload, .if_icmp .ge 182, .iload 7, .iload 3, .isub, .iload 5, .if_icmp .ge 182, .iload 7, .iload 3, .isub, .istore 8, .iload 8, .iload 4, .iload 5, .invokestatic 1, .istore 9, .iload 7, .ifCond .le 116, .iload 8, .ifCond .le 116, .iload 8, .iconst (1), .isub, .iload 4, .iload 5, .invokestatic 1, .istore 10, .iload 6, .aload 0, .getfield 7002, .iload 1, .iload 7, .iconst (1), .isub, .iload 7, .invokestatic 2, .aload 0, .getfield 7002, .iload 2, .iload 10, .iload 9, .invokestatic 2, .imul, .iadd, .istore 6], 116), (116, [.aload 0, .getfield 7002, .iload 1, .iload 7, .invokestatic 3, .ifCond .eq 176, .aload 0, .getfield 7002, .iload 2, .iload 9, .invokestatic 3, .ifCond .eq 176, .iload 6, .aload 0, .getfield 7002, .iload 1, .iload 7, .invokestatic 4, .aload 0, .getfield 7002, .iload 2, .iload 9, .invokestatic 4, .if_icmp .ne 171, .iconst (5), .goto 173], 171), (171, [.iconst (-5)], 173), (173, [.iadd, .istore 6], 176), (176, [.iinc 7 1, .goto 21], 182), (182, [.iload 6, .ireturn], 185)]
theorem k_X7_likeOf : chkB T_X7_likeOf cX7_likeOf B_X7_likeOf = true := by decide +kernel
theorem cw_X7_likeOf : calW Y_X7_likeOf := ⟨pn_X7, Or.inr (Or.inl ⟨rfl, rfl⟩), w_640, w_8, mh_X7, by decide⟩
theorem cl_X7_likeOf {o : OM} {Y : Pk} {d d2 idx : Nat} {C : Ctr} (hS : Sound o Y_X7_likeOf d2 C) (hd : d2 + 1 ≤ d) (hl : Cond.methodLink (yN Y).cls idx yX7_likeOf ∈ wsG ∨ ∃ host, Cond.methodLinkNest (yN Y).cls idx yX7_likeOf host ∈ nestW) : CallOK o Y d (.invokevirtual idx) (5, rcv 7 11 C) := callV_ok hS hd cw_X7_likeOf hl w_639 wp_22 (Or.inl ⟨TX7, 1, rfl⟩) (by decide +kernel)
def Y_X8_leaf : Pk := (yX8_leaf, cX8_leaf, 5, some .int, 1)
def T_X8_leaf : Tb := ([(10, 8002), (106, 6022)], [], [], [], [(99, 0), (110, 2)], [(103, 1)], 5)
def V_X8_leaf : List (Nat × Nat) := [(0, 5), (14, 5), (27, 5), (44, 5)]
def B_X8_leaf : Bk := [(0, [.aload 0, .getfield 8002, .iload 1, .invokestatic 0, .ifCond .ne 14, .iconst (-101), .ireturn], 14), (14, [.iload 2, .iload 3, .iload 4, .invokestatic 1, .ifCond .ne 27, .iconst (-102), .ireturn], 27), (27, [.aload 0, .getfield 8002, .getfield 6022, .iload 1, .iaload, .iconst (16), .if_icmp .lt 44, .iconst (-104), .ireturn], 44), (44, [.aload 0, .getfield 8002, .iload 1, .iload 2, .iload 3, .iload 4, .invokestatic 2, .aload 0, .getfield 8002, .getfield 6022, .iload 1, .iaload, .ireturn], 66)]
theorem k_X8_leaf : chkB T_X8_leaf cX8_leaf B_X8_leaf = true := by decide +kernel
theorem cw_X8_leaf : calW Y_X8_leaf := ⟨pn_X8, Or.inr (Or.inl ⟨rfl, rfl⟩), w_363, w_1, mh_X8, by decide⟩
theorem cl_X8_leaf {o : OM} {Y : Pk} {d d2 idx : Nat} {C : Ctr} (hS : Sound o Y_X8_leaf d2 C) (hd : d2 + 1 ≤ d) (hl : Cond.methodLink (yN Y).cls idx yX8_leaf ∈ wsG ∨ ∃ host, Cond.methodLinkNest (yN Y).cls idx yX8_leaf host ∈ nestW) : CallOK o Y d (.invokevirtual idx) (5, rcv 8 5 C) := callV_ok hS hd cw_X8_leaf hl w_361 w_362 (Or.inl ⟨TX8, 13, rfl⟩) (by decide +kernel)
def Y_X8_as : Pk := (yX8_as, cX8_as, 4, some .int, 1)
def T_X8_as : Tb := ([(10, 8002)], [], [], [], [(114, 0), (118, 2)], [(88, 1), (122, 3)], 4)
def V_X8_as : List (Nat × Nat) := [(0, 4), (15, 4), (28, 4), (48, 4), (49, 4)]
def B_X8_as : Bk := [(0, [.aload 0, .getfield 8002, .iload 1, .iload 2, .invokestatic 0, .ifCond .ne 15, .iconst (-101), .ireturn], 15), (15, [.iload 3, .iconst (0), .iconst (6), .invokestatic 1, .ifCond .ne 28, .iconst (-102), .ireturn], 28), (28, [.aload 0, .getfield 8002, .iload 1, .iload 2, .invokestatic 2, .iload 3, .invokestatic 3, .ifCond .eq 48, .iload 2, .goto 49], 48), (48, [.iconst (-1)], 49), (49, [.ireturn], 50)]
theorem k_X8_as : chkB T_X8_as cX8_as B_X8_as = true := by decide +kernel
theorem cw_X8_as : calW Y_X8_as := ⟨pn_X8, Or.inr (Or.inl ⟨rfl, rfl⟩), w_382, w_1, mh_X8, by decide⟩
theorem cl_X8_as {o : OM} {Y : Pk} {d d2 idx : Nat} {C : Ctr} (hS : Sound o Y_X8_as d2 C) (hd : d2 + 1 ≤ d) (hl : Cond.methodLink (yN Y).cls idx yX8_as ∈ wsG ∨ ∃ host, Cond.methodLinkNest (yN Y).cls idx yX8_as host ∈ nestW) : CallOK o Y d (.invokevirtual idx) (4, rcv 8 4 C) := callV_ok hS hd cw_X8_as hl w_380 w_381 (Or.inl ⟨TX8, 13, rfl⟩) (by decide +kernel)
def Y_X8_change : Pk := (yX8_change, cX8_change, 7, some .int, 1)
def T_X8_change : Tb := ([(10, 8002)], [], [], [], [(114, 0), (132, 2), (135, 3)], [(103, 1)], 7)
def V_X8_change : List (Nat × Nat) := [(0, 6), (15, 6), (29, 6)]
def B_X8_change : Bk := [(0, [.aload 0, .getfield 8002, .iload 1, .iload 2, .invokestatic 0, .ifCond .ne 15, .iconst (-101), .ireturn], 15), (15, [.iload 3, .iload 4, .iload 5, .invokestatic 1, .ifCond .ne 29, .iconst (-102), .ireturn], 29), (29, [.aload 0, .getfield 8002, .iload 1, .iload 2, .invokestatic 2, .istore 6, .aload 0, .getfield 8002, .iload 1, .iload 2, .iload 3, .iload 4, .iload 5, .invokestatic 3, .iload 6, .ireturn], 57)]
theorem k_X8_change : chkB T_X8_change cX8_change B_X8_change = true := by decide +kernel
theorem cw_X8_change : calW Y_X8_change := ⟨pn_X8, Or.inr (Or.inl ⟨rfl, rfl⟩), w_442, w_1, mh_X8, by decide⟩
theorem cl_X8_change {o : OM} {Y : Pk} {d d2 idx : Nat} {C : Ctr} (hS : Sound o Y_X8_change d2 C) (hd : d2 + 1 ≤ d) (hl : Cond.methodLink (yN Y).cls idx yX8_change ∈ wsG ∨ ∃ host, Cond.methodLinkNest (yN Y).cls idx yX8_change host ∈ nestW) : CallOK o Y d (.invokevirtual idx) (6, rcv 8 7 C) := callV_ok hS hd cw_X8_change hl w_440 w_441 (Or.inl ⟨TX8, 13, rfl⟩) (by decide +kernel)
def Y_X8_lay : Pk := (yX8_lay, cX8_lay, 12, some .int, 1)
def T_X8_lay : Tb := ([(10, 8002), (106, 6022)], [], [], [], [(99, 0), (110, 4)], [(88, 1), (139, 2), (143, 3)], 12)
def V_X8_lay : List (Nat × Nat) := [(0, 6), (14, 6), (50, 6), (53, 6), (60, 9), (140, 12), (141, 12), (155, 12), (190, 12), (196, 9)]
def B_X8_lay : Bk := [(0, [.aload 0, .getfield 8002, .iload 1, .invokestatic 0, .ifCond .ne 14, .iconst (-101), .ireturn], 14), (14, [.iload 2, .ifCond .lt 50, .iload 3, .iconst (1), .iconst (20), .invokestatic 1, .ifCond .eq 50, .iload 4, .iconst (0), .iconst (99), .invokestatic 1, .ifCond .eq 50, .iload 5, .iconst (0), .iconst (99), .invokestatic 1, .ifCond .ne 53], 50), (50, [.iconst (-102), .ireturn], 53), (53, [.iload 2, .i2l, .lstore 6, .iconst (0), .istore 8], 60), (60, [.iload 8, .iload 3, .if_icmp .ge 196, .lload 6, .invokestatic 2, .lstore 6, .lload 6, .iconst (40), .invokestatic 3, .istore 9, .lload 6, .invokestatic 2, .lstore 6, .lload 6, .iconst (6), .invokestatic 3, .istore 10, .lload 6, .invokestatic 2, .lstore 6, .lload 6, .iconst (100), .invokestatic 3, .istore 11, .iload 11, .iload 4, .iload 5, .iadd, .if_icmp .lt 155, .aload 0, .getfield 8002, .iload 1, .iload 9, .iconst (34), .if_icmp .le 140, .iconst (1), .goto 141], 140), (140, [.iconst (0)], 141), (141, [.iconst (5), .iload 9, .iadd, .iload 10, .iadd, .iconst (0), .invokestatic 4, .goto 190], 155), (155, [.iload 11, .iload 4, .if_icmp .lt 190, .aload 0, .getfield 8002, .iload 1, .iconst (3), .iconst (3), .iload 9, .iadd, .iconst (0), .invokestatic 4, .aload 0, .getfield 8002, .iload 1, .iconst (3), .iconst (2), .iload 10, .iadd, .iconst (0), .invokestatic 4], 190), (190, [.iinc 8 1, .goto 60], 196), (196, [.aload 0, .getfield 8002, .getfield 6022, .iload 1, .iaload, .ireturn], 206)]
theorem k_X8_lay : chkB T_X8_lay cX8_lay B_X8_lay = true := by decide +kernel
theorem cw_X8_lay : calW Y_X8_lay := ⟨pn_X8, Or.inr (Or.inl ⟨rfl, rfl⟩), w_447, w_1, mh_X8, by decide⟩
theorem cl_X8_lay {o : OM} {Y : Pk} {d d2 idx : Nat} {C : Ctr} (hS : Sound o Y_X8_lay d2 C) (hd : d2 + 1 ≤ d) (hl : Cond.methodLink (yN Y).cls idx yX8_lay ∈ wsG ∨ ∃ host, Cond.methodLinkNest (yN Y).cls idx yX8_lay host ∈ nestW) : CallOK o Y d (.invokevirtual idx) (6, rcv 8 12 C) := callV_ok hS hd cw_X8_lay hl w_445 w_446 (Or.inl ⟨TX8, 13, rfl⟩) (by decide +kernel)
def Y_X8_letters : Pk := (yX8_letters, cX8_letters, 5, some .int, 1)
def T_X8_letters : Tb := ([(36, 8052), (151, 4000)], [], [], [], [(155, 2)], [(147, 0), (152, 1)], 5)
def V_X8_letters : List (Nat × Nat) := [(0, 3), (14, 4), (31, 4), (34, 5), (59, 5)]
def B_X8_letters : Bk := [(0, [.lload 1, .invokestatic 0, .istore 3, .iload 3, .iconst (-102), .if_icmp .ne 14, .iconst (-102), .ireturn], 14), (14, [.aload 0, .getfield 8052, .getfield 4000, .iload 3, .iadd, .iconst (30), .if_icmp .le 31, .iconst (-104), .ireturn], 31), (31, [.iconst (0), .istore 4], 34), (34, [.iload 4, .iload 3, .if_icmp .ge 59, .aload 0, .getfield 8052, .lload 1, .iload 4, .invokestatic 1, .invokestatic 2, .iinc 4 1, .goto 34], 59), (59, [.aload 0, .getfield 8052, .getfield 4000, .ireturn], 67)]
theorem k_X8_letters : chkB T_X8_letters cX8_letters B_X8_letters = true := by decide +kernel
theorem cw_X8_letters : calW Y_X8_letters := ⟨pn_X8, Or.inr (Or.inl ⟨rfl, rfl⟩), w_461, w_1, mh_X8, by decide⟩
theorem cl_X8_letters {o : OM} {Y : Pk} {d d2 idx : Nat} {C : Ctr} (hS : Sound o Y_X8_letters d2 C) (hd : d2 + 1 ≤ d) (hl : Cond.methodLink (yN Y).cls idx yX8_letters ∈ wsG ∨ ∃ host, Cond.methodLinkNest (yN Y).cls idx yX8_letters host ∈ nestW) : CallOK o Y d (.invokevirtual idx) (2, rcv 8 5 C) := callV_ok hS hd cw_X8_letters hl w_459 w_460 (Or.inl ⟨TX8, 13, rfl⟩) (by decide +kernel)
def Y_X8_over : Pk := (yX8_over, cX8_over, 4, some .int, 1)
def T_X8_over : Tb := ([(10, 8002), (59, 8082)], [], [], [], [(99, 0), (187, 2)], [(183, 1)], 4)
def V_X8_over : List (Nat × Nat) := [(0, 4), (22, 4), (25, 4), (35, 4)]
def B_X8_over : Bk := [(0, [.aload 0, .getfield 8002, .iload 1, .invokestatic 0, .ifCond .eq 22, .aload 0, .getfield 8002, .iload 2, .invokestatic 0, .ifCond .ne 25], 22), (22, [.iconst (-101), .ireturn], 25), (25, [.iload 3, .invokestatic 1, .ifCond .ne 35, .iconst (-102), .ireturn], 35), (35, [.aload 0, .getfield 8082, .iload 1, .iload 2, .iload 3, .invokestatic 2, .ireturn], 46)]
theorem k_X8_over : chkB T_X8_over cX8_over B_X8_over = true := by decide +kernel
theorem cw_X8_over : calW Y_X8_over := ⟨pn_X8, Or.inr (Or.inl ⟨rfl, rfl⟩), w_654, w_1, mh_X8, by decide⟩
theorem cl_X8_over {o : OM} {Y : Pk} {d d2 idx : Nat} {C : Ctr} (hS : Sound o Y_X8_over d2 C) (hd : d2 + 1 ≤ d) (hl : Cond.methodLink (yN Y).cls idx yX8_over ∈ wsG ∨ ∃ host, Cond.methodLinkNest (yN Y).cls idx yX8_over host ∈ nestW) : CallOK o Y d (.invokevirtual idx) (4, rcv 8 4 C) := callV_ok hS hd cw_X8_over hl w_652 w_653 (Or.inl ⟨TX8, 13, rfl⟩) (by decide +kernel)
def Y_X8_join : Pk := (yX8_join, cX8_join, 6, some .int, 1)
def T_X8_join : Tb := ([(10, 8002), (19, 8012), (237, 0)], [], [], [], [(99, 0), (240, 3)], [(234, 1), (88, 2)], 6)
def V_X8_join : List (Nat × Nat) := [(0, 6), (27, 6), (30, 6), (53, 6), (56, 6), (71, 6)]
def B_X8_join : Bk := [(0, [.aload 0, .getfield 8002, .iload 1, .invokestatic 0, .ifCond .eq 27, .aload 0, .getfield 8002, .iload 2, .invokestatic 0, .ifCond .eq 27, .iload 1, .iload 2, .if_icmp .ne 30], 27), (27, [.iconst (-101), .ireturn], 30), (30, [.iload 3, .iload 4, .iconst (999), .invokestatic 1, .ifCond .eq 53, .iload 5, .iconst (0), .iconst (99), .invokestatic 2, .ifCond .ne 56], 53), (53, [.iconst (-102), .ireturn], 56), (56, [.aload 0, .getfield 8012, .getfield 0, .iconst (12), .if_icmp .lt 71, .iconst (-104), .ireturn], 71), (71, [.aload 0, .getfield 8012, .iload 1, .iload 2, .iload 3, .iload 4, .iload 5, .invokestatic 3, .ireturn], 86)]
theorem k_X8_join : chkB T_X8_join cX8_join B_X8_join = true := by decide +kernel
theorem cw_X8_join : calW Y_X8_join := ⟨pn_X8, Or.inr (Or.inl ⟨rfl, rfl⟩), w_779, w_1, mh_X8, by decide⟩
theorem cl_X8_join {o : OM} {Y : Pk} {d d2 idx : Nat} {C : Ctr} (hS : Sound o Y_X8_join d2 C) (hd : d2 + 1 ≤ d) (hl : Cond.methodLink (yN Y).cls idx yX8_join ∈ wsG ∨ ∃ host, Cond.methodLinkNest (yN Y).cls idx yX8_join host ∈ nestW) : CallOK o Y d (.invokevirtual idx) (6, rcv 8 6 C) := callV_ok hS hd cw_X8_join hl w_777 w_778 (Or.inl ⟨TX8, 13, rfl⟩) (by decide +kernel)
def Y_X8_tie : Pk := (yX8_tie, cX8_tie, 5, some .int, 1)
def T_X8_tie : Tb := ([(10, 8002), (19, 8012)], [], [], [], [(99, 0), (255, 2), (258, 4)], [(234, 1), (247, 3)], 5)
def V_X8_tie : List (Nat × Nat) := [(0, 4), (14, 4), (28, 4)]
def B_X8_tie : Bk := [(0, [.aload 0, .getfield 8002, .iload 1, .invokestatic 0, .ifCond .ne 14, .iconst (-101), .ireturn], 14), (14, [.iload 2, .iload 3, .iconst (9999), .invokestatic 1, .ifCond .ne 28, .iconst (-102), .ireturn], 28), (28, [.aload 0, .getfield 8012, .iload 1, .invokestatic 2, .invokestatic 3, .istore 4, .aload 0, .getfield 8012, .iload 1, .iload 2, .iload 3, .invokestatic 4, .iload 4, .ireturn], 54)]
theorem k_X8_tie : chkB T_X8_tie cX8_tie B_X8_tie = true := by decide +kernel
theorem cw_X8_tie : calW Y_X8_tie := ⟨pn_X8, Or.inr (Or.inl ⟨rfl, rfl⟩), w_804, w_1, mh_X8, by decide⟩
theorem cl_X8_tie {o : OM} {Y : Pk} {d d2 idx : Nat} {C : Ctr} (hS : Sound o Y_X8_tie d2 C) (hd : d2 + 1 ≤ d) (hl : Cond.methodLink (yN Y).cls idx yX8_tie ∈ wsG ∨ ∃ host, Cond.methodLinkNest (yN Y).cls idx yX8_tie host ∈ nestW) : CallOK o Y d (.invokevirtual idx) (4, rcv 8 5 C) := callV_ok hS hd cw_X8_tie hl w_802 w_803 (Or.inl ⟨TX8, 13, rfl⟩) (by decide +kernel)
def Y_X8_image : Pk := (yX8_image, cX8_image, 1, some .int, 1)
def T_X8_image : Tb := ([(23, 8022), (10, 8002), (26, 8032), (19, 8012), (29, 8043), (92, 6000)], [], [], [], [(325, 0), (328, 1)], [], 1)
def V_X8_image : List (Nat × Nat) := [(0, 1)]
def B_X8_image : Bk := [(0, [.aload 0, .getfield 8022, .aload 0, .getfield 8002, .invokestatic 0, .aload 0, .getfield 8032, .aload 0, .getfield 8012, .invokestatic 1, .aload 0, .iconst (1), .putfield 8043, .aload 0, .getfield 8002, .getfield 6000, .ireturn], 35)]
theorem k_X8_image : chkB T_X8_image cX8_image B_X8_image = true := by decide +kernel
theorem cw_X8_image : calW Y_X8_image := ⟨pn_X8, Or.inr (Or.inl ⟨rfl, rfl⟩), w_1028, w_1, mh_X8, by decide⟩
theorem cl_X8_image {o : OM} {Y : Pk} {d d2 idx : Nat} {C : Ctr} (hS : Sound o Y_X8_image d2 C) (hd : d2 + 1 ≤ d) (hl : Cond.methodLink (yN Y).cls idx yX8_image ∈ wsG ∨ ∃ host, Cond.methodLinkNest (yN Y).cls idx yX8_image host ∈ nestW) : CallOK o Y d (.invokevirtual idx) (1, rcv 8 1 C) := callV_ok hS hd cw_X8_image hl w_1026 w_1027 (Or.inl ⟨TX8, 13, rfl⟩) (by decide +kernel)
def Y_X8_restore : Pk := (yX8_restore, cX8_restore, 1, some .int, 1)
def T_X8_restore : Tb := ([(29, 8043), (10, 8002), (23, 8022), (19, 8012), (26, 8032), (92, 6000)], [], [], [], [(325, 0), (328, 1)], [], 1)
def V_X8_restore : List (Nat × Nat) := [(0, 1), (10, 1)]
def B_X8_restore : Bk := [(0, [.aload 0, .getfield 8043, .ifCond .ne 10, .iconst (-103), .ireturn], 10), (10, [.aload 0, .getfield 8002, .aload 0, .getfield 8022, .invokestatic 0, .aload 0, .getfield 8012, .aload 0, .getfield 8032, .invokestatic 1, .aload 0, .getfield 8002, .getfield 6000, .ireturn], 40)]
theorem k_X8_restore : chkB T_X8_restore cX8_restore B_X8_restore = true := by decide +kernel
theorem cw_X8_restore : calW Y_X8_restore := ⟨pn_X8, Or.inr (Or.inl ⟨rfl, rfl⟩), w_1042, w_1, mh_X8, by decide⟩
theorem cl_X8_restore {o : OM} {Y : Pk} {d d2 idx : Nat} {C : Ctr} (hS : Sound o Y_X8_restore d2 C) (hd : d2 + 1 ≤ d) (hl : Cond.methodLink (yN Y).cls idx yX8_restore ∈ wsG ∨ ∃ host, Cond.methodLinkNest (yN Y).cls idx yX8_restore host ∈ nestW) : CallOK o Y d (.invokevirtual idx) (1, rcv 8 1 C) := callV_ok hS hd cw_X8_restore hl w_1040 w_1041 (Or.inl ⟨TX8, 13, rfl⟩) (by decide +kernel)
def Y_X8_aboutLeaf : Pk := (yX8_aboutLeaf, cX8_aboutLeaf, 4, some .int, 1)
def T_X8_aboutLeaf : Tb := ([(10, 8002)], [], [], [], [(118, 0), (132, 1), (380, 2), (383, 3)], [], 4)
def V_X8_aboutLeaf : List (Nat × Nat) := [(0, 4), (32, 4), (42, 4), (52, 4), (62, 4), (70, 4), (84, 4), (85, 4)]
def B_X8_aboutLeaf : Bk := [(0, [.iload 3, .tableswitch 85 (0) (3) #[32, 42, 52, 62]], 32), (32, [.aload 0, .getfield 8002, .iload 1, .iload 2, .invokestatic 0, .ireturn], 42), (42, [.aload 0, .getfield 8002, .iload 1, .iload 2, .invokestatic 1, .ireturn], 52), (52, [.aload 0, .getfield 8002, .iload 1, .iload 2, .invokestatic 2, .ireturn], 62), (62, [.iload 2, .ifCond .ne 70, .iconst (1), .goto 84], 70), (70, [.iconst (1), .aload 0, .getfield 8002, .iload 1, .iload 2, .iconst (1), .isub, .iload 2, .invokestatic 3, .iadd], 84), (84, [.ireturn], 85), (85, [.iconst (-102), .ireturn], 88)]
theorem k_X8_aboutLeaf : chkB T_X8_aboutLeaf cX8_aboutLeaf B_X8_aboutLeaf = true := by decide +kernel
theorem cw_X8_aboutLeaf : calW Y_X8_aboutLeaf := ⟨pn_X8, Or.inr (Or.inl ⟨rfl, rfl⟩), w_425, w_1, mh_X8, by decide⟩
theorem cl_X8_aboutLeaf {o : OM} {Y : Pk} {d d2 idx : Nat} {C : Ctr} (hS : Sound o Y_X8_aboutLeaf d2 C) (hd : d2 + 1 ≤ d) (hl : Cond.methodLink (yN Y).cls idx yX8_aboutLeaf ∈ wsG ∨ ∃ host, Cond.methodLinkNest (yN Y).cls idx yX8_aboutLeaf host ∈ nestW) : CallOK o Y d (.invokevirtual idx) (4, rcv 8 4 C) := callV_ok hS hd cw_X8_aboutLeaf hl w_424 wp_11 (Or.inl ⟨TX8, 13, rfl⟩) (by decide +kernel)
def Y_X9_isLeaf : Pk := (yX9_isLeaf, cX9_isLeaf, 3, some .boolean, 2)
def T_X9_isLeaf : Tb := ([(13, 9022)], [], [], [], [(116, 0)], [(112, 1)], 3)
def V_X9_isLeaf : List (Nat × Nat) := [(0, 3), (30, 3), (31, 3)]
def B_X9_isLeaf : Bk := [(0, [.aload 0, .iload 1, .invokestatic 0, .ifCond .eq 30, .iload 2, .i2l, .jsr 0, .aload 0, .getfield 9022, .iload 1, .iaload, .iconst (1), .isub, .i2l, .invokestatic 1, .ifCond .eq 30, .iconst (1), .goto 31], 30), (30, [.iconst (0)], 31), (31, [.ireturn], 32)]
theorem k_X9_isLeaf : chkB T_X9_isLeaf cX9_isLeaf B_X9_isLeaf = true := by decide +kernel
theorem cw_X9_isLeaf : calW Y_X9_isLeaf := ⟨pn_X9, Or.inr (Or.inr (Or.inl ⟨rfl, rfl⟩)), w_1288, w_11, mh_X9, by decide⟩
theorem cl_X9_isLeaf {o : OM} {Y : Pk} {d d2 idx : Nat} {C : Ctr} (hS : Sound o Y_X9_isLeaf d2 C) (hd : d2 + 1 ≤ d) (hl : Cond.methodLink (yN Y).cls idx yX9_isLeaf ∈ wsG ∨ ∃ host, Cond.methodLinkNest (yN Y).cls idx yX9_isLeaf host ∈ nestW) : CallOK o Y d (.invokevirtual idx) (3, rcv 9 3 C) := callV_ok hS hd cw_X9_isLeaf hl w_1287 wp_91 (Or.inl ⟨TX9, 55, rfl⟩) (by decide +kernel)
def Y_X9_leaf : Pk := (yX9_leaf, cX9_leaf, 5, some .int, 1)
def T_X9_leaf : Tb := ([(13, 9022)], [], [], [], [(116, 0), (132, 2)], [(128, 1)], 5)
def V_X9_leaf : List (Nat × Nat) := [(0, 5), (11, 5), (24, 5), (38, 5)]
def B_X9_leaf : Bk := [(0, [.aload 0, .iload 1, .invokestatic 0, .ifCond .ne 11, .iconst (-101), .ireturn], 11), (11, [.iload 2, .iload 3, .iload 4, .invokestatic 1, .ifCond .ne 24, .iconst (-102), .ireturn], 24), (24, [.aload 0, .getfield 9022, .iload 1, .iaload, .iconst (16), .if_icmp .ne 38, .iconst (-104), .ireturn], 38), (38, [.aload 0, .iload 1, .aload 0, .getfield 9022, .iload 1, .iaload, .iload 2, .iload 3, .iload 4, .invokestatic 2, .aload 0, .getfield 9022, .iload 1, .dup2, .iaload, .iconst (1), .iadd, .iastore, .aload 0, .getfield 9022, .iload 1, .iaload, .ireturn], 70)]
theorem k_X9_leaf : chkB T_X9_leaf cX9_leaf B_X9_leaf = true := by decide +kernel
theorem cw_X9_leaf : calW Y_X9_leaf := ⟨pn_X9, Or.inr (Or.inl ⟨rfl, rfl⟩), w_1266, w_11, mh_X9, by decide⟩
theorem cl_X9_leaf {o : OM} {Y : Pk} {d d2 idx : Nat} {C : Ctr} (hS : Sound o Y_X9_leaf d2 C) (hd : d2 + 1 ≤ d) (hl : Cond.methodLink (yN Y).cls idx yX9_leaf ∈ wsG ∨ ∃ host, Cond.methodLinkNest (yN Y).cls idx yX9_leaf host ∈ nestW) : CallOK o Y d (.invokevirtual idx) (5, rcv 9 5 C) := callV_ok hS hd cw_X9_leaf hl w_1264 w_1265 (Or.inl ⟨TX9, 55, rfl⟩) (by decide +kernel)
def Y_X9_lay : Pk := (yX9_lay, cX9_lay, 10, some .int, 1)
def T_X9_lay : Tb := ([(156, 9060), (13, 9022)], [], [(164, 20), (124, 99)], [], [(116, 0), (166, 2), (170, 3)], [(112, 1)], 10)
def V_X9_lay : List (Nat × Nat) := [(0, 6), (11, 6), (53, 6), (56, 6), (64, 7), (134, 10), (154, 10), (155, 10), (165, 10), (171, 7)]
def B_X9_lay : Bk := [(0, [.aload 0, .iload 1, .invokestatic 0, .ifCond .ne 11, .iconst (-101), .ireturn], 11), (11, [.iload 2, .ifCond .lt 53, .iload 3, .i2l, .jsr 1, .jsr (20), .invokestatic 1, .ifCond .eq 53, .iload 4, .i2l, .jsr 0, .jsr (99), .invokestatic 1, .ifCond .eq 53, .iload 5, .i2l, .jsr 0, .jsr (99), .invokestatic 1, .ifCond .ne 56], 53), (53, [.iconst (-102), .ireturn], 56), (56, [.aload 0, .iload 2, .putfield 9060, .iconst (0), .istore 6], 64), (64, [.iload 6, .iload 3, .if_icmp .ge 171, .aload 0, .iconst (40), .invokestatic 2, .istore 7, .aload 0, .iconst (6), .invokestatic 2, .istore 8, .aload 0, .iconst (100), .invokestatic 2, .istore 9, .iload 9, .iload 4, .if_icmp .lt 134, .iload 9, .iload 4, .iload 5, .iadd, .if_icmp .ge 134, .aload 0, .iload 1, .iconst (3), .iconst (3), .iload 7, .iadd, .invokestatic 3, .aload 0, .iload 1, .iconst (3), .iconst (2), .iload 8, .iadd, .invokestatic 3, .goto 165], 134), (134, [.iload 9, .iload 4, .if_icmp .lt 165, .aload 0, .iload 1, .iload 7, .iconst (34), .if_icmp .le 154, .iconst (1), .goto 155], 154), (154, [.iconst (0)], 155), (155, [.iconst (5), .iload 7, .iadd, .iload 8, .iadd, .invokestatic 3], 165), (165, [.iinc 6 1, .goto 64], 171), (171, [.aload 0, .getfield 9022, .iload 1, .iaload, .ireturn], 178)]
theorem k_X9_lay : chkB T_X9_lay cX9_lay B_X9_lay = true := by decide +kernel
theorem cw_X9_lay : calW Y_X9_lay := ⟨pn_X9, Or.inr (Or.inl ⟨rfl, rfl⟩), w_1321, w_11, mh_X9, by decide⟩
theorem cl_X9_lay {o : OM} {Y : Pk} {d d2 idx : Nat} {C : Ctr} (hS : Sound o Y_X9_lay d2 C) (hd : d2 + 1 ≤ d) (hl : Cond.methodLink (yN Y).cls idx yX9_lay ∈ wsG ∨ ∃ host, Cond.methodLinkNest (yN Y).cls idx yX9_lay host ∈ nestW) : CallOK o Y d (.invokevirtual idx) (6, rcv 9 10 C) := callV_ok hS hd cw_X9_lay hl w_1319 w_1320 (Or.inl ⟨TX9, 55, rfl⟩) (by decide +kernel)
def Y_X9_faultOf : Pk := (yX9_faultOf, cX9_faultOf, 3, some .int, 1)
def T_X9_faultOf : Tb := ([(179, 9140), (191, 9160), (34, 9132), (176, 9080), (25, 9072)], [], [], [], [(198, 0)], [], 3)
def V_X9_faultOf : List (Nat × Nat) := [(0, 2), (12, 3), (31, 3), (33, 3), (61, 3)]
def B_X9_faultOf : Bk := [(0, [.aload 0, .iconst (0), .putfield 9140, .aload 0, .iconst (0), .putfield 9160, .iconst (0), .istore 2], 12), (12, [.iload 2, .iconst (7), .if_icmp .ge 31, .aload 0, .getfield 9132, .iload 2, .iconst (-1), .iastore, .iinc 2 1, .goto 12], 31), (31, [.iconst (0), .istore 2], 33), (33, [.iload 2, .aload 0, .getfield 9080, .if_icmp .ge 61, .aload 0, .iload 1, .aload 0, .getfield 9072, .iload 2, .iaload, .invokestatic 0, .ifCond .eq 61, .iinc 2 1, .goto 33], 61), (61, [.iload 2, .ireturn], 63)]
theorem k_X9_faultOf : chkB T_X9_faultOf cX9_faultOf B_X9_faultOf = true := by decide +kernel
theorem cw_X9_faultOf : calW Y_X9_faultOf := ⟨pn_X9, Or.inr (Or.inl ⟨rfl, rfl⟩), w_1351, w_11, mh_X9, by decide⟩
theorem cl_X9_faultOf {o : OM} {Y : Pk} {d d2 idx : Nat} {C : Ctr} (hS : Sound o Y_X9_faultOf d2 C) (hd : d2 + 1 ≤ d) (hl : Cond.methodLink (yN Y).cls idx yX9_faultOf ∈ wsG ∨ ∃ host, Cond.methodLinkNest (yN Y).cls idx yX9_faultOf host ∈ nestW) : CallOK o Y d (.invokevirtual idx) (2, rcv 9 3 C) := callV_ok hS hd cw_X9_faultOf hl w_1350 wp_98 (Or.inl ⟨TX9, 55, rfl⟩) (by decide +kernel)
def Y_X9_atOf : Pk := (yX9_atOf, cX9_atOf, 4, some .int, 1)
def T_X9_atOf : Tb := ([], [], [], [], [(216, 0)], [], 4)
def V_X9_atOf : List (Nat × Nat) := [(0, 4)]
def B_X9_atOf : Bk := [(0, [.aload 0, .iload 1, .iload 2, .iload 3, .invokestatic 0, .iconst (2), .idiv, .ireturn], 10)]
theorem k_X9_atOf : chkB T_X9_atOf cX9_atOf B_X9_atOf = true := by decide +kernel
theorem cw_X9_atOf : calW Y_X9_atOf := ⟨pn_X9, Or.inr (Or.inl ⟨rfl, rfl⟩), w_1384, w_11, mh_X9, by decide⟩
theorem cl_X9_atOf {o : OM} {Y : Pk} {d d2 idx : Nat} {C : Ctr} (hS : Sound o Y_X9_atOf d2 C) (hd : d2 + 1 ≤ d) (hl : Cond.methodLink (yN Y).cls idx yX9_atOf ∈ wsG ∨ ∃ host, Cond.methodLinkNest (yN Y).cls idx yX9_atOf host ∈ nestW) : CallOK o Y d (.invokevirtual idx) (4, rcv 9 4 C) := callV_ok hS hd cw_X9_atOf hl w_1383 wp_101 (Or.inl ⟨TX9, 55, rfl⟩) (by decide +kernel)
def Y_X9_yearsOf : Pk := (yX9_yearsOf, cX9_yearsOf, 3, some .int, 1)
def T_X9_yearsOf : Tb := ([(13, 9022)], [], [], [], [(216, 0)], [], 3)
def V_X9_yearsOf : List (Nat × Nat) := [(0, 3)]
def B_X9_yearsOf : Bk := [(0, [.aload 0, .iload 1, .iload 2, .aload 0, .getfield 9022, .iload 2, .iaload, .invokestatic 0, .iconst (1), .iadd, .iconst (2), .idiv, .ireturn], 17)]
theorem k_X9_yearsOf : chkB T_X9_yearsOf cX9_yearsOf B_X9_yearsOf = true := by decide +kernel
theorem cw_X9_yearsOf : calW Y_X9_yearsOf := ⟨pn_X9, Or.inr (Or.inl ⟨rfl, rfl⟩), w_1298, w_11, mh_X9, by decide⟩
theorem cl_X9_yearsOf {o : OM} {Y : Pk} {d d2 idx : Nat} {C : Ctr} (hS : Sound o Y_X9_yearsOf d2 C) (hd : d2 + 1 ≤ d) (hl : Cond.methodLink (yN Y).cls idx yX9_yearsOf ∈ wsG ∨ ∃ host, Cond.methodLinkNest (yN Y).cls idx yX9_yearsOf host ∈ nestW) : CallOK o Y d (.invokevirtual idx) (3, rcv 9 3 C) := callV_ok hS hd cw_X9_yearsOf hl w_1297 wp_92 (Or.inl ⟨TX9, 55, rfl⟩) (by decide +kernel)
def Y_X9_likeOf : Pk := (yX9_likeOf, cX9_likeOf, 11, some .int, 1)
def T_X9_likeOf : Tb := ([(13, 9022), (19, 9042), (16, 9032), (22, 9052)], [], [], [], [(230, 1), (151, 3)], [(112, 0), (140, 2)], 11)
def V_X9_likeOf : List (Nat × Nat) := [(0, 5), (6, 7), (71, 10), (97, 10), (138, 11), (142, 11), (163, 11), (165, 11), (168, 8), (174, 7)]
def B_X9_likeOf : Bk := [(0, [.iconst (0), .istore 5, .iconst (0), .istore 6], 6), (6, [.iload 6, .aload 0, .getfield 9022, .iload 1, .iaload, .if_icmp .ge 174, .iload 6, .iload 3, .isub, .istore 7, .iload 7, .i2l, .jsr 0, .aload 0, .getfield 9022, .iload 2, .iaload, .iconst (1), .isub, .i2l, .invokestatic 0, .ifCond .eq 168, .iconst (16), .iload 1, .imul, .iload 6, .iadd, .istore 8, .aload 0, .iload 2, .iload 7, .iload 4, .invokestatic 1, .istore 9, .iload 7, .ifCond .ne 71, .iconst (0), .goto 97], 71), (71, [.aload 0, .getfield 9042, .iload 9, .iaload, .aload 0, .getfield 9042, .aload 0, .iload 2, .iload 7, .iconst (1), .isub, .iload 4, .invokestatic 1, .iaload, .invokestatic 2], 97), (97, [.istore 10, .iload 5, .aload 0, .iload 1, .iload 6, .invokestatic 3, .iload 10, .imul, .iadd, .istore 5, .iload 5, .aload 0, .getfield 9032, .iload 8, .iaload, .iconst (5), .if_icmp .ne 138, .aload 0, .getfield 9032, .iload 9, .iaload, .iconst (5), .if_icmp .eq 142], 138), (138, [.iconst (0), .goto 165], 142), (142, [.aload 0, .getfield 9052, .iload 8, .iaload, .aload 0, .getfield 9052, .iload 9, .iaload, .if_icmp .ne 163, .iconst (5), .goto 165], 163), (163, [.iconst (-5)], 165), (165, [.iadd, .istore 5], 168), (168, [.iinc 6 1, .goto 6], 174), (174, [.iload 5, .ireturn], 177)]
theorem k_X9_likeOf : chkB T_X9_likeOf cX9_likeOf B_X9_likeOf = true := by decide +kernel
theorem cw_X9_likeOf : calW Y_X9_likeOf := ⟨pn_X9, Or.inr (Or.inl ⟨rfl, rfl⟩), w_1412, w_11, mh_X9, by decide⟩
theorem cl_X9_likeOf {o : OM} {Y : Pk} {d d2 idx : Nat} {C : Ctr} (hS : Sound o Y_X9_likeOf d2 C) (hd : d2 + 1 ≤ d) (hl : Cond.methodLink (yN Y).cls idx yX9_likeOf ∈ wsG ∨ ∃ host, Cond.methodLinkNest (yN Y).cls idx yX9_likeOf host ∈ nestW) : CallOK o Y d (.invokevirtual idx) (5, rcv 9 11 C) := callV_ok hS hd cw_X9_likeOf hl w_1411 wp_103 (Or.inl ⟨TX9, 55, rfl⟩) (by decide +kernel)
def Y_X9_over : Pk := (yX9_over, cX9_over, 4, some .int, 1)
def T_X9_over : Tb := ([], [], [], [], [(116, 0), (237, 2)], [(233, 1)], 4)
def V_X9_over : List (Nat × Nat) := [(0, 4), (16, 4), (19, 4), (36, 4), (38, 4)]
def B_X9_over : Bk := [(0, [.aload 0, .iload 1, .invokestatic 0, .ifCond .eq 16, .aload 0, .iload 2, .invokestatic 0, .ifCond .ne 19], 16), (16, [.iconst (-101), .ireturn], 19), (19, [.iload 3, .invokestatic 1, .ifCond .eq 36, .aload 0, .iload 1, .iload 2, .iload 3, .invokestatic 2, .goto 38], 36), (36, [.iconst (-102)], 38), (38, [.ireturn], 39)]
theorem k_X9_over : chkB T_X9_over cX9_over B_X9_over = true := by decide +kernel
theorem cw_X9_over : calW Y_X9_over := ⟨pn_X9, Or.inr (Or.inl ⟨rfl, rfl⟩), w_1420, w_11, mh_X9, by decide⟩
theorem cl_X9_over {o : OM} {Y : Pk} {d d2 idx : Nat} {C : Ctr} (hS : Sound o Y_X9_over d2 C) (hd : d2 + 1 ≤ d) (hl : Cond.methodLink (yN Y).cls idx yX9_over ∈ wsG ∨ ∃ host, Cond.methodLinkNest (yN Y).cls idx yX9_over host ∈ nestW) : CallOK o Y d (.invokevirtual idx) (4, rcv 9 4 C) := callV_ok hS hd cw_X9_over hl w_1418 w_1419 (Or.inl ⟨TX9, 55, rfl⟩) (by decide +kernel)
def Y_X9_layTogether : Pk := (yX9_layTogether, cX9_layTogether, 16, none, 0)
def T_X9_layTogether : Tb := ([(259, 9190), (265, 9200), (31, 9122), (287, 9210), (290, 9220), (278, 9230), (284, 9240), (268, 9250), (271, 9260), (13, 9022), (37, 9172), (40, 9182)], [(274, 100000000), (301, 999999999)], [(299, 999999999)], [], [(293, 0), (296, 1)], [], 16)
def V_X9_layTogether : List (Nat × Nat) := [(0, 6), (84, 7), (97, 8), (128, 8), (129, 8), (140, 9), (143, 9), (154, 10), (155, 10), (160, 12), (192, 13), (210, 13), (239, 14), (241, 14), (255, 14), (257, 14), (289, 14), (292, 14), (309, 16), (312, 16), (314, 14), (320, 12), (356, 8), (362, 7)]
def B_X9_layTogether : Bk := [(0, [.aload 0, .iload 2, .putfield 9190, .aload 0, .iload 3, .putfield 9200, .aload 0, .aload 0, .getfield 9122, .iconst (4), .iload 1, .imul, .iaload, .putfield 9210, .aload 0, .aload 0, .getfield 9122, .iconst (4), .iload 1, .imul, .iconst (1), .iadd, .iaload, .putfield 9220, .aload 0, .aload 0, .getfield 9122, .iconst (4), .iload 1, .imul, .iconst (2), .iadd, .iaload, .putfield 9230, .aload 0, .aload 0, .getfield 9122, .iconst (4), .iload 1, .imul, .iconst (3), .iadd, .iaload, .putfield 9240, .aload 0, .iload 4, .putfield 9250, .aload 0, .iload 5, .putfield 9260, .aload 0, .getfield 9022, .iload 2, .iaload, .istore 6], 84), (84, [.iload 6, .ifCond .lt 362, .aload 0, .getfield 9022, .iload 3, .iaload, .istore 7], 97), (97, [.iload 7, .ifCond .lt 356, .iload 6, .aload 0, .getfield 9022, .iload 2, .iaload, .if_icmp .ne 128, .iload 7, .aload 0, .getfield 9022, .iload 3, .iaload, .if_icmp .ne 128, .iconst (1), .goto 129], 128), (128, [.iconst (0)], 129), (129, [.istore 8, .iload 8, .ifCond .eq 140, .iconst (0), .goto 143], 140), (140, [.iconst (100000000)], 143), (143, [.istore 9, .iload 8, .ifCond .eq 154, .iconst (1), .goto 155], 154), (154, [.iconst (0)], 155), (155, [.istore 10, .iconst (0), .istore 11], 160), (160, [.iload 11, .iconst (5), .if_icmp .ge 320, .aload 0, .iload 6, .iload 7, .iload 11, .invokestatic 0, .istore 12, .iload 12, .iconst (100000000), .if_icmp .ne 192, .iconst (100000000), .goto 210], 192), (192, [.iload 12, .aload 0, .getfield 9172, .aload 0, .iload 6, .iload 7, .iload 11, .invokestatic 1, .iaload, .iadd], 210), (210, [.istore 13, .iload 12, .iconst (100000000), .if_icmp .ge 314, .iload 13, .iconst (100000000), .if_icmp .ge 314, .iload 13, .iload 9, .if_icmp .ge 239, .iconst (0), .goto 241], 239), (239, [.iload 10], 241), (241, [.istore 10, .iload 13, .iload 9, .if_icmp .ge 255, .iload 13, .goto 257], 255), (255, [.iload 9], 257), (257, [.istore 9, .iload 13, .iload 9, .if_icmp .ne 289, .iload 10, .i2l, .aload 0, .getfield 9182, .aload 0, .iload 6, .iload 7, .iload 11, .invokestatic 1, .iaload, .i2l, .ladd, .goto 292], 289), (289, [.iload 10, .i2l], 292), (292, [.lstore 14, .lload 14, .jsr (999999999), .lcmp, .ifCond .le 309, .iconst (999999999), .goto 312], 309), (309, [.lload 14, .l2i], 312), (312, [.istore 10], 314), (314, [.iinc 11 1, .goto 160], 320), (320, [.aload 0, .getfield 9172, .iconst (17), .iload 6, .imul, .iload 7, .iadd, .iload 9, .iastore, .aload 0, .getfield 9182, .iconst (17), .iload 6, .imul, .iload 7, .iadd, .iload 10, .iastore, .iinc 7 (-1), .goto 97], 356), (356, [.iinc 6 (-1), .goto 84], 362), (362, [.return_], 363)]
theorem k_X9_layTogether : chkB T_X9_layTogether cX9_layTogether B_X9_layTogether = true := by decide +kernel
theorem cw_X9_layTogether : calW Y_X9_layTogether := ⟨pn_X9, Or.inl ⟨rfl, rfl⟩, w_1452, w_11, mh_X9, by decide⟩
theorem cl_X9_layTogether {o : OM} {Y : Pk} {d d2 idx : Nat} {C : Ctr} (hS : Sound o Y_X9_layTogether d2 C) (hd : d2 + 1 ≤ d) (hl : Cond.methodLink (yN Y).cls idx yX9_layTogether ∈ wsG ∨ ∃ host, Cond.methodLinkNest (yN Y).cls idx yX9_layTogether host ∈ nestW) : CallOK o Y d (.invokevirtual idx) (6, rcv 9 16 C) := callV_ok hS hd cw_X9_layTogether hl w_1451 wp_106 (Or.inl ⟨TX9, 55, rfl⟩) (by decide +kernel)
def Y_X9_layWay : Pk := (yX9_layWay, cX9_layWay, 5, none, 0)
def T_X9_layWay : Tb := ([(302, 9280), (13, 9022), (259, 9190), (265, 9200), (37, 9172), (46, 9292), (49, 9302), (43, 9272)], [(274, 100000000)], [], [], [(293, 0), (296, 1)], [(256, 2), (262, 3)], 5)
def V_X9_layWay : List (Nat × Nat) := [(0, 1), (9, 3), (35, 3), (37, 4), (84, 4), (90, 4), (93, 5), (119, 5), (120, 5), (137, 5), (138, 5), (145, 5), (182, 3)]
def B_X9_layWay : Bk := [(0, [.iconst (0), .istore 1, .iconst (0), .istore 2, .aload 0, .iconst (0), .putfield 9280], 9), (9, [.iload 1, .aload 0, .getfield 9022, .aload 0, .getfield 9190, .iaload, .if_icmp .lt 35, .iload 2, .aload 0, .getfield 9022, .aload 0, .getfield 9200, .iaload, .if_icmp .ge 182], 35), (35, [.iconst (0), .istore 3], 37), (37, [.aload 0, .iload 1, .iload 2, .iload 3, .invokestatic 0, .iconst (100000000), .if_icmp .eq 84, .aload 0, .iload 1, .iload 2, .iload 3, .invokestatic 0, .aload 0, .getfield 9172, .aload 0, .iload 1, .iload 2, .iload 3, .invokestatic 1, .iaload, .iadd, .aload 0, .getfield 9172, .iconst (17), .iload 1, .imul, .iload 2, .iadd, .iaload, .if_icmp .eq 90], 84), (84, [.iinc 3 1, .goto 37], 90), (90, [.iconst (0), .istore 4], 93), (93, [.iload 4, .iload 3, .invokestatic 2, .if_icmp .ge 145, .aload 0, .getfield 9292, .iload 1, .iload 4, .iadd, .iload 3, .iconst (1), .if_icmp .ne 119, .iconst (-1), .goto 120], 119), (119, [.iload 2], 120), (120, [.iastore, .aload 0, .getfield 9302, .iload 1, .iload 4, .iadd, .iload 3, .ifCond .ne 137, .iconst (1), .goto 138], 137), (137, [.iconst (0)], 138), (138, [.bastore, .iinc 4 1, .goto 93], 145), (145, [.aload 0, .getfield 9272, .aload 0, .getfield 9280, .iload 3, .iastore, .aload 0, .dup, .getfield 9280, .iconst (1), .iadd, .putfield 9280, .iload 1, .iload 3, .invokestatic 2, .iadd, .istore 1, .iload 2, .iload 3, .invokestatic 3, .iadd, .istore 2, .goto 9], 182), (182, [.return_], 183)]
theorem k_X9_layWay : chkB T_X9_layWay cX9_layWay B_X9_layWay = true := by decide +kernel
theorem cw_X9_layWay : calW Y_X9_layWay := ⟨pn_X9, Or.inl ⟨rfl, rfl⟩, w_1480, w_11, mh_X9, by decide⟩
theorem cl_X9_layWay {o : OM} {Y : Pk} {d d2 idx : Nat} {C : Ctr} (hS : Sound o Y_X9_layWay d2 C) (hd : d2 + 1 ≤ d) (hl : Cond.methodLink (yN Y).cls idx yX9_layWay ∈ wsG ∨ ∃ host, Cond.methodLinkNest (yN Y).cls idx yX9_layWay host ∈ nestW) : CallOK o Y d (.invokevirtual idx) (1, rcv 9 5 C) := callV_ok hS hd cw_X9_layWay hl w_1479 wp_110 (Or.inl ⟨TX9, 55, rfl⟩) (by decide +kernel)
def Y_X9_join : Pk := (yX9_join, cX9_join, 6, some .int, 1)
def T_X9_join : Tb := ([(325, 9320), (53, 9332), (56, 9342), (59, 9352), (62, 9362), (65, 9372), (68, 9382)], [], [(321, (-999)), (323, 999), (124, 99)], [], [(116, 0)], [(112, 1)], 6)
def V_X9_join : List (Nat × Nat) := [(0, 6), (21, 6), (24, 6), (65, 6), (68, 6), (80, 6)]
def B_X9_join : Bk := [(0, [.aload 0, .iload 1, .invokestatic 0, .ifCond .eq 21, .aload 0, .iload 2, .invokestatic 0, .ifCond .eq 21, .iload 1, .iload 2, .if_icmp .ne 24], 21), (21, [.iconst (-101), .ireturn], 24), (24, [.iload 3, .i2l, .jsr (-999), .jsr (999), .invokestatic 1, .ifCond .eq 65, .iload 4, .i2l, .iload 3, .i2l, .jsr (999), .invokestatic 1, .ifCond .eq 65, .iload 5, .i2l, .jsr 0, .jsr (99), .invokestatic 1, .ifCond .ne 68], 65), (65, [.iconst (-102), .ireturn], 68), (68, [.aload 0, .getfield 9320, .iconst (12), .if_icmp .ne 80, .iconst (-104), .ireturn], 80), (80, [.aload 0, .getfield 9332, .aload 0, .getfield 9320, .iload 1, .iastore, .aload 0, .getfield 9342, .aload 0, .getfield 9320, .iload 2, .iastore, .aload 0, .getfield 9352, .aload 0, .getfield 9320, .iload 3, .iastore, .aload 0, .getfield 9362, .aload 0, .getfield 9320, .iload 4, .iastore, .aload 0, .getfield 9372, .aload 0, .getfield 9320, .iload 5, .iastore, .aload 0, .getfield 9382, .aload 0, .getfield 9320, .iconst (1), .bastore, .aload 0, .dup, .getfield 9320, .iconst (1), .iadd, .putfield 9320, .aload 0, .getfield 9320, .iconst (1), .isub, .ireturn], 159)]
theorem k_X9_join : chkB T_X9_join cX9_join B_X9_join = true := by decide +kernel
theorem cw_X9_join : calW Y_X9_join := ⟨pn_X9, Or.inr (Or.inl ⟨rfl, rfl⟩), w_1492, w_11, mh_X9, by decide⟩
theorem cl_X9_join {o : OM} {Y : Pk} {d d2 idx : Nat} {C : Ctr} (hS : Sound o Y_X9_join d2 C) (hd : d2 + 1 ≤ d) (hl : Cond.methodLink (yN Y).cls idx yX9_join ∈ wsG ∨ ∃ host, Cond.methodLinkNest (yN Y).cls idx yX9_join host ∈ nestW) : CallOK o Y d (.invokevirtual idx) (6, rcv 9 6 C) := callV_ok hS hd cw_X9_join hl w_1490 w_1491 (Or.inl ⟨TX9, 55, rfl⟩) (by decide +kernel)
def Y_X9_tie : Pk := (yX9_tie, cX9_tie, 5, some .int, 1)
def T_X9_tie : Tb := ([(71, 9392), (74, 9402), (77, 9412)], [], [(328, (-9999)), (330, 9999)], [], [(116, 0)], [(112, 1)], 5)
def V_X9_tie : List (Nat × Nat) := [(0, 4), (11, 4), (38, 4), (41, 4), (54, 4), (55, 4)]
def B_X9_tie : Bk := [(0, [.aload 0, .iload 1, .invokestatic 0, .ifCond .ne 11, .iconst (-101), .ireturn], 11), (11, [.iload 2, .i2l, .jsr (-9999), .jsr (9999), .invokestatic 1, .ifCond .eq 38, .iload 3, .i2l, .iload 2, .i2l, .jsr (9999), .invokestatic 1, .ifCond .ne 41], 38), (38, [.iconst (-102), .ireturn], 41), (41, [.aload 0, .getfield 9392, .iload 1, .baload, .ifCond .eq 54, .iconst (1), .goto 55], 54), (54, [.iconst (0)], 55), (55, [.istore 4, .aload 0, .getfield 9392, .iload 1, .iconst (1), .bastore, .aload 0, .getfield 9402, .iload 1, .iload 2, .iastore, .aload 0, .getfield 9412, .iload 1, .iload 3, .iastore, .iload 4, .ireturn], 81)]
theorem k_X9_tie : chkB T_X9_tie cX9_tie B_X9_tie = true := by decide +kernel
theorem cw_X9_tie : calW Y_X9_tie := ⟨pn_X9, Or.inr (Or.inl ⟨rfl, rfl⟩), w_1502, w_11, mh_X9, by decide⟩
theorem cl_X9_tie {o : OM} {Y : Pk} {d d2 idx : Nat} {C : Ctr} (hS : Sound o Y_X9_tie d2 C) (hd : d2 + 1 ≤ d) (hl : Cond.methodLink (yN Y).cls idx yX9_tie ∈ wsG ∨ ∃ host, Cond.methodLinkNest (yN Y).cls idx yX9_tie host ∈ nestW) : CallOK o Y d (.invokevirtual idx) (4, rcv 9 5 C) := callV_ok hS hd cw_X9_tie hl w_1500 w_1501 (Or.inl ⟨TX9, 55, rfl⟩) (by decide +kernel)
def Y_X9_untie : Pk := (yX9_untie, cX9_untie, 3, some .int, 1)
def T_X9_untie : Tb := ([(71, 9392)], [], [], [], [(116, 0)], [], 3)
def V_X9_untie : List (Nat × Nat) := [(0, 2), (11, 2), (24, 2), (25, 2)]
def B_X9_untie : Bk := [(0, [.aload 0, .iload 1, .invokestatic 0, .ifCond .ne 11, .iconst (-101), .ireturn], 11), (11, [.aload 0, .getfield 9392, .iload 1, .baload, .ifCond .eq 24, .iconst (1), .goto 25], 24), (24, [.iconst (0)], 25), (25, [.istore 2, .aload 0, .getfield 9392, .iload 1, .iconst (0), .bastore, .iload 2, .ireturn], 35)]
theorem k_X9_untie : chkB T_X9_untie cX9_untie B_X9_untie = true := by decide +kernel
theorem cw_X9_untie : calW Y_X9_untie := ⟨pn_X9, Or.inr (Or.inl ⟨rfl, rfl⟩), w_1508, w_11, mh_X9, by decide⟩
theorem cl_X9_untie {o : OM} {Y : Pk} {d d2 idx : Nat} {C : Ctr} (hS : Sound o Y_X9_untie d2 C) (hd : d2 + 1 ≤ d) (hl : Cond.methodLink (yN Y).cls idx yX9_untie ∈ wsG ∨ ∃ host, Cond.methodLinkNest (yN Y).cls idx yX9_untie host ∈ nestW) : CallOK o Y d (.invokevirtual idx) (2, rcv 9 3 C) := callV_ok hS hd cw_X9_untie hl w_1506 w_1507 (Or.inl ⟨TX9, 55, rfl⟩) (by decide +kernel)
def Y_X9_count : Pk := (yX9_count, cX9_count, 2, some .int, 1)
def T_X9_count : Tb := ([], [], [], [], [(388, 0)], [], 2)
def V_X9_count : List (Nat × Nat) := [(0, 2)]
def B_X9_count : Bk := [(0, [.aload 0, .iload 1, .invokestatic 0, .ireturn], 6)]
theorem k_X9_count : chkB T_X9_count cX9_count B_X9_count = true := by decide +kernel
theorem cw_X9_count : calW Y_X9_count := ⟨pn_X9, Or.inr (Or.inl ⟨rfl, rfl⟩), w_1616, w_11, mh_X9, by decide⟩
theorem cl_X9_count {o : OM} {Y : Pk} {d d2 idx : Nat} {C : Ctr} (hS : Sound o Y_X9_count d2 C) (hd : d2 + 1 ≤ d) (hl : Cond.methodLink (yN Y).cls idx yX9_count ∈ wsG ∨ ∃ host, Cond.methodLinkNest (yN Y).cls idx yX9_count host ∈ nestW) : CallOK o Y d (.invokevirtual idx) (2, rcv 9 2 C) := callV_ok hS hd cw_X9_count hl w_1614 w_1615 (Or.inl ⟨TX9, 55, rfl⟩) (by decide +kernel)
def Y_X3_weaveFixed : Pk := (yX3_weaveFixed, cX3_weaveFixed, 2, some .boolean, 2)
def T_X3_weaveFixed : Tb := ([(15, 3042), (51, 3002), (85, 6000), (59, 3022), (95, 82), (98, 92)], [(71, 1000000000)], [], [], [(78, 1), (81, 2), (90, 3)], [(72, 0), (101, 4)], 2)
def V_X3_weaveFixed : List (Nat × Nat) := [(0, 1), (11, 2), (35, 2), (41, 2), (57, 2), (63, 2), (65, 2), (120, 2), (126, 2)]
def B_X3_weaveFixed : Bk := [(0, [.aload 0, .getfield 3042, .iconst (1000000000), .invokestatic 0, .iconst (0), .istore 1], 11), (11, [.iload 1, .iconst (8), .if_icmp .ge 35, .aload 0, .getfield 3042, .iload 1, .iconst (8), .imul, .iload 1, .iadd, .iconst (0), .iastore, .iinc 1 1, .goto 11], 35), (35, [.aload 0, .invokestatic 1, .iconst (0), .istore 1], 41), (41, [.iload 1, .iconst (9), .if_icmp .gt 63, .aload 0, .iload 1, .invokestatic 2, .ifCond .ne 57, .iconst (0), .ireturn], 57), (57, [.iinc 1 1, .goto 41], 63), (63, [.iconst (0), .istore 1], 65), (65, [.iload 1, .aload 0, .getfield 3002, .getfield 6000, .if_icmp .ge 126, .aload 0, .getfield 3022, .iload 1, .invokestatic 3, .ifCond .eq 120, .aload 0, .getfield 3042, .iconst (7), .iload 1, .aload 0, .getfield 3022, .getfield 82, .iload 1, .iaload, .aload 0, .getfield 3022, .getfield 92, .iload 1, .iaload, .invokestatic 4, .ifCond .ne 120, .iconst (0), .ireturn], 120), (120, [.iinc 1 1, .goto 65], 126), (126, [.iconst (1), .ireturn], 128)]
theorem k_X3_weaveFixed : chkB T_X3_weaveFixed cX3_weaveFixed B_X3_weaveFixed = true := by decide +kernel
theorem cw_X3_weaveFixed : calW Y_X3_weaveFixed := ⟨pn_X3, Or.inr (Or.inr (Or.inl ⟨rfl, rfl⟩)), w_836, w_10, mh_X3, by decide⟩
theorem cl_X3_weaveFixed {o : OM} {Y : Pk} {d d2 idx : Nat} {C : Ctr} (hS : Sound o Y_X3_weaveFixed d2 C) (hd : d2 + 1 ≤ d) (hl : Cond.methodLink (yN Y).cls idx yX3_weaveFixed ∈ wsG ∨ ∃ host, Cond.methodLinkNest (yN Y).cls idx yX3_weaveFixed host ∈ nestW) : CallOK o Y d (.invokevirtual idx) (1, rcv 3 2 C) := callV_ok hS hd cw_X3_weaveFixed hl w_835 wp_50 (Or.inl ⟨TX3, 15, rfl⟩) (by decide +kernel)
def Y_X3_weaveJoins : Pk := (yX3_weaveJoins, cX3_weaveJoins, 4, some .boolean, 2)
def T_X3_weaveJoins : Tb := ([(15, 3042), (59, 3022), (111, 0)], [], [], [], [(114, 1), (117, 2)], [(105, 0)], 4)
def V_X3_weaveJoins : List (Nat × Nat) := [(0, 3), (14, 4), (52, 4), (58, 4)]
def B_X3_weaveJoins : Bk := [(0, [.aload 0, .getfield 3042, .iconst (0), .aload 1, .iconst (0), .iconst (64), .invokestatic 0, .iconst (0), .istore 3], 14), (14, [.iload 3, .aload 0, .getfield 3022, .getfield 0, .if_icmp .ge 58, .aload 0, .getfield 3022, .iload 3, .invokestatic 1, .ifCond .eq 52, .iload 3, .iload 2, .if_icmp .eq 52, .aload 0, .aload 1, .iload 3, .invokestatic 2, .ifCond .ne 52, .iconst (0), .ireturn], 52), (52, [.iinc 3 1, .goto 14], 58), (58, [.iconst (1), .ireturn], 60)]
theorem k_X3_weaveJoins : chkB T_X3_weaveJoins cX3_weaveJoins B_X3_weaveJoins = true := by decide +kernel
theorem cw_X3_weaveJoins : calW Y_X3_weaveJoins := ⟨pn_X3, Or.inr (Or.inr (Or.inl ⟨rfl, rfl⟩)), w_868, w_10, mh_X3, by decide⟩
theorem cl_X3_weaveJoins {o : OM} {Y : Pk} {d d2 idx : Nat} {C : Ctr} (hS : Sound o Y_X3_weaveJoins d2 C) (hd : d2 + 1 ≤ d) (hl : Cond.methodLink (yN Y).cls idx yX3_weaveJoins ∈ wsG ∨ ∃ host, Cond.methodLinkNest (yN Y).cls idx yX3_weaveJoins host ∈ nestW) : CallOK o Y d (.invokevirtual idx) (3, rcv 3 4 C) := callV_ok hS hd cw_X3_weaveJoins hl w_867 wp_55 (Or.inl ⟨TX3, 15, rfl⟩) (by decide +kernel)
def Y_X3_group : Pk := (yX3_group, cX3_group, 2, none, 0)
def T_X3_group : Tb := ([(29, 3082), (59, 3022), (111, 0), (120, 12), (123, 22), (51, 3002), (85, 6000)], [], [], [], [(114, 0), (164, 1), (90, 2), (78, 3), (168, 4)], [], 2)
def V_X3_group : List (Nat × Nat) := [(0, 1), (2, 2), (21, 2), (23, 2), (67, 2), (73, 2), (75, 2), (104, 2), (110, 2), (116, 2), (133, 2)]
def B_X3_group : Bk := [(0, [.iconst (0), .istore 1], 2), (2, [.iload 1, .iconst (8), .if_icmp .ge 21, .aload 0, .getfield 3082, .iload 1, .iload 1, .iastore, .iinc 1 1, .goto 2], 21), (21, [.iconst (0), .istore 1], 23), (23, [.iload 1, .aload 0, .getfield 3022, .getfield 0, .if_icmp .ge 73, .aload 0, .getfield 3022, .iload 1, .invokestatic 0, .ifCond .eq 67, .aload 0, .aload 0, .getfield 3022, .getfield 12, .iload 1, .iaload, .aload 0, .getfield 3022, .getfield 22, .iload 1, .iaload, .invokestatic 1], 67), (67, [.iinc 1 1, .goto 23], 73), (73, [.iconst (0), .istore 1], 75), (75, [.iload 1, .aload 0, .getfield 3002, .getfield 6000, .if_icmp .ge 110, .aload 0, .getfield 3022, .iload 1, .invokestatic 2, .ifCond .eq 104, .aload 0, .iconst (7), .iload 1, .invokestatic 1], 104), (104, [.iinc 1 1, .goto 75], 110), (110, [.aload 0, .invokestatic 3, .iconst (0), .istore 1], 116), (116, [.iload 1, .iconst (9), .if_icmp .gt 133, .aload 0, .iload 1, .invokestatic 4, .iinc 1 1, .goto 116], 133), (133, [.return_], 134)]
theorem k_X3_group : chkB T_X3_group cX3_group B_X3_group = true := by decide +kernel
theorem cw_X3_group : calW Y_X3_group := ⟨pn_X3, Or.inl ⟨rfl, rfl⟩, w_903, w_10, mh_X3, by decide⟩
theorem cl_X3_group {o : OM} {Y : Pk} {d d2 idx : Nat} {C : Ctr} (hS : Sound o Y_X3_group d2 C) (hd : d2 + 1 ≤ d) (hl : Cond.methodLink (yN Y).cls idx yX3_group ∈ wsG ∨ ∃ host, Cond.methodLinkNest (yN Y).cls idx yX3_group host ∈ nestW) : CallOK o Y d (.invokevirtual idx) (1, rcv 3 2 C) := callV_ok hS hd cw_X3_group hl w_902 wp_60 (Or.inl ⟨TX3, 15, rfl⟩) (by decide +kernel)
def Y_X3_castFrom : Pk := (yX3_castFrom, cX3_castFrom, 4, none, 0)
def T_X3_castFrom : Tb := ([(36, 3100), (59, 3022), (111, 0), (23, 3062), (187, 52)], [], [], [], [(181, 1), (184, 2), (114, 3), (117, 4), (177, 5)], [(172, 0)], 4)
def V_X3_castFrom : List (Nat × Nat) := [(0, 4), (12, 4), (29, 4), (36, 4), (68, 4), (77, 4), (116, 4)]
def B_X3_castFrom : Bk := [(0, [.iload 2, .invokestatic 0, .aload 0, .getfield 3100, .if_icmp .le 12, .return_], 12), (12, [.iload 1, .aload 0, .getfield 3022, .getfield 0, .if_icmp .ge 29, .iload 1, .iconst (12), .if_icmp .lt 36], 29), (29, [.aload 0, .iload 2, .iload 3, .invokestatic 1, .return_], 36), (36, [.aload 0, .iload 1, .invokestatic 2, .aload 0, .getfield 3022, .iload 1, .invokestatic 3, .ifCond .eq 68, .aload 0, .aload 0, .getfield 3062, .iload 1, .iconst (1), .iadd, .aaload, .iload 1, .invokestatic 4, .ifCond .eq 77], 68), (68, [.aload 0, .iload 1, .iconst (1), .iadd, .iload 2, .iload 3, .invokestatic 5], 77), (77, [.aload 0, .getfield 3022, .iload 1, .invokestatic 3, .ifCond .eq 116, .aload 0, .iload 1, .invokestatic 2, .aload 0, .iload 1, .iconst (1), .iadd, .iload 2, .iconst (1), .iload 1, .ishl, .ior, .iload 3, .aload 0, .getfield 3022, .getfield 52, .iload 1, .iaload, .iadd, .invokestatic 5], 116), (116, [.return_], 117)]
theorem k_X3_castFrom : chkB T_X3_castFrom cX3_castFrom B_X3_castFrom = true := by decide +kernel
theorem cw_X3_castFrom : calW Y_X3_castFrom := ⟨pn_X3, Or.inl ⟨rfl, rfl⟩, w_937, w_10, mh_X3, by decide⟩
theorem cl_X3_castFrom {o : OM} {Y : Pk} {d d2 idx : Nat} {C : Ctr} (hS : Sound o Y_X3_castFrom d2 C) (hd : d2 + 1 ≤ d) (hl : Cond.methodLink (yN Y).cls idx yX3_castFrom ∈ wsG ∨ ∃ host, Cond.methodLinkNest (yN Y).cls idx yX3_castFrom host ∈ nestW) : CallOK o Y d (.invokevirtual idx) (4, rcv 3 4 C) := callV_ok hS hd cw_X3_castFrom hl w_936 wp_66 (Or.inl ⟨TX3, 15, rfl⟩) (by decide +kernel)
def Y_X3_worstOfDig : Pk := (yX3_worstOfDig, cX3_worstOfDig, 6, some .int, 1)
def T_X3_worstOfDig : Tb := ([], [], [], [], [(206, 0), (197, 1), (209, 2)], [(212, 3)], 6)
def V_X3_worstOfDig : List (Nat × Nat) := [(0, 3), (14, 6), (54, 6)]
def B_X3_worstOfDig : Bk := [(0, [.iconst (0), .istore 3, .aload 0, .iload 1, .iload 2, .iconst (0), .invokestatic 0, .istore 4, .iconst (0), .istore 5], 14), (14, [.iload 5, .aload 0, .iload 1, .iload 2, .invokestatic 1, .if_icmp .gt 54, .iload 5, .iconst (40), .if_icmp .gt 54, .iload 3, .aload 0, .iload 1, .iload 2, .iload 4, .iload 5, .iadd, .invokestatic 2, .invokestatic 3, .istore 3, .iinc 5 1, .goto 14], 54), (54, [.iload 3, .ireturn], 56)]
theorem k_X3_worstOfDig : chkB T_X3_worstOfDig cX3_worstOfDig B_X3_worstOfDig = true := by decide +kernel
theorem cw_X3_worstOfDig : calW Y_X3_worstOfDig := ⟨pn_X3, Or.inr (Or.inl ⟨rfl, rfl⟩), w_975, w_10, mh_X3, by decide⟩
theorem cl_X3_worstOfDig {o : OM} {Y : Pk} {d d2 idx : Nat} {C : Ctr} (hS : Sound o Y_X3_worstOfDig d2 C) (hd : d2 + 1 ≤ d) (hl : Cond.methodLink (yN Y).cls idx yX3_worstOfDig ∈ wsG ∨ ∃ host, Cond.methodLinkNest (yN Y).cls idx yX3_worstOfDig host ∈ nestW) : CallOK o Y d (.invokevirtual idx) (3, rcv 3 6 C) := callV_ok hS hd cw_X3_worstOfDig hl w_974 wp_73 (Or.inl ⟨TX3, 15, rfl⟩) (by decide +kernel)
def Y_X5_fillPlace : Pk := (yX5_fillPlace, cX5_fillPlace, 8, none, 0)
def T_X5_fillPlace : Tb := ([(49, 5142), (52, 5152)], [(120, 999999999)], [], [], [(111, 0), (114, 1), (118, 2)], [(121, 3)], 8)
def V_X5_fillPlace : List (Nat × Nat) := [(0, 3), (8, 6), (28, 6), (67, 8), (82, 8), (105, 6), (111, 6), (130, 6), (131, 6), (151, 6), (153, 6)]
def B_X5_fillPlace : Bk := [(0, [.iconst (-1), .istore 3, .iconst (0), .istore 4, .iconst (0), .istore 5], 8), (8, [.iload 5, .iconst (5), .if_icmp .ge 111, .aload 0, .iload 5, .iload 1, .iload 2, .invokestatic 0, .ifCond .ne 28, .goto 105], 28), (28, [.aload 0, .iload 5, .iload 1, .iload 2, .invokestatic 1, .istore 6, .aload 0, .iload 5, .iload 1, .iload 2, .invokestatic 2, .aload 0, .getfield 5142, .iload 6, .iaload, .iadd, .istore 7, .iload 3, .iconst (-1), .if_icmp .eq 67, .iload 7, .iload 3, .if_icmp .ge 82], 67), (67, [.iload 7, .istore 3, .aload 0, .getfield 5152, .iload 6, .iaload, .istore 4, .goto 105], 82), (82, [.iload 7, .iload 3, .if_icmp .ne 105, .iconst (999999999), .iload 4, .aload 0, .getfield 5152, .iload 6, .iaload, .iadd, .invokestatic 3, .istore 4], 105), (105, [.iinc 5 1, .goto 8], 111), (111, [.aload 0, .getfield 5142, .iload 1, .iconst (17), .imul, .iload 2, .iadd, .iload 3, .iconst (-1), .if_icmp .ne 130, .iconst (0), .goto 131], 130), (130, [.iload 3], 131), (131, [.iastore, .aload 0, .getfield 5152, .iload 1, .iconst (17), .imul, .iload 2, .iadd, .iload 3, .iconst (-1), .if_icmp .ne 151, .iconst (1), .goto 153], 151), (151, [.iload 4], 153), (153, [.iastore, .return_], 155)]
theorem k_X5_fillPlace : chkB T_X5_fillPlace cX5_fillPlace B_X5_fillPlace = true := by decide +kernel
theorem cw_X5_fillPlace : calW Y_X5_fillPlace := ⟨pn_X5, Or.inl ⟨rfl, rfl⟩, w_707, w_9, mh_X5, by decide⟩
theorem cl_X5_fillPlace {o : OM} {Y : Pk} {d d2 idx : Nat} {C : Ctr} (hS : Sound o Y_X5_fillPlace d2 C) (hd : d2 + 1 ≤ d) (hl : Cond.methodLink (yN Y).cls idx yX5_fillPlace ∈ wsG ∨ ∃ host, Cond.methodLinkNest (yN Y).cls idx yX5_fillPlace host ∈ nestW) : CallOK o Y d (.invokevirtual idx) (3, rcv 5 8 C) := callV_ok hS hd cw_X5_fillPlace hl w_706 wp_31 (Or.inl ⟨TX5, 20, rfl⟩) (by decide +kernel)
def Y_X5_leastStepFrom : Pk := (yX5_leastStepFrom, cX5_leastStepFrom, 4, some .int, 1)
def T_X5_leastStepFrom : Tb := ([(49, 5142)], [], [], [], [(111, 0), (118, 1), (114, 2)], [], 4)
def V_X5_leastStepFrom : List (Nat × Nat) := [(0, 3), (2, 4), (53, 4), (59, 4)]
def B_X5_leastStepFrom : Bk := [(0, [.iconst (0), .istore 3], 2), (2, [.iload 3, .iconst (5), .if_icmp .ge 59, .aload 0, .iload 3, .iload 1, .iload 2, .invokestatic 0, .ifCond .eq 53, .aload 0, .iload 3, .iload 1, .iload 2, .invokestatic 1, .aload 0, .getfield 5142, .aload 0, .iload 3, .iload 1, .iload 2, .invokestatic 2, .iaload, .iadd, .aload 0, .getfield 5142, .iload 1, .iconst (17), .imul, .iload 2, .iadd, .iaload, .if_icmp .ne 53, .iload 3, .ireturn], 53), (53, [.iinc 3 1, .goto 2], 59), (59, [.iconst (-1), .ireturn], 61)]
theorem k_X5_leastStepFrom : chkB T_X5_leastStepFrom cX5_leastStepFrom B_X5_leastStepFrom = true := by decide +kernel
theorem cw_X5_leastStepFrom : calW Y_X5_leastStepFrom := ⟨pn_X5, Or.inr (Or.inl ⟨rfl, rfl⟩), w_758, w_9, mh_X5, by decide⟩
theorem cl_X5_leastStepFrom {o : OM} {Y : Pk} {d d2 idx : Nat} {C : Ctr} (hS : Sound o Y_X5_leastStepFrom d2 C) (hd : d2 + 1 ≤ d) (hl : Cond.methodLink (yN Y).cls idx yX5_leastStepFrom ∈ wsG ∨ ∃ host, Cond.methodLinkNest (yN Y).cls idx yX5_leastStepFrom host ∈ nestW) : CallOK o Y d (.invokevirtual idx) (3, rcv 5 4 C) := callV_ok hS hd cw_X5_leastStepFrom hl w_757 wp_40 (Or.inl ⟨TX5, 20, rfl⟩) (by decide +kernel)
def Y_X6_isSharedAsh : Pk := (yX6_isSharedAsh, cX6_isSharedAsh, 4, some .boolean, 2)
def T_X6_isSharedAsh : Tb := ([], [], [], [], [(51, 0), (55, 1), (62, 2)], [], 4)
def V_X6_isSharedAsh : List (Nat × Nat) := [(0, 4), (28, 4), (29, 4)]
def B_X6_isSharedAsh : Bk := [(0, [.aload 0, .iload 1, .iload 2, .invokestatic 0, .ifCond .eq 28, .aload 0, .iload 3, .aload 0, .iload 1, .iload 2, .invokestatic 1, .invokestatic 2, .iconst (-1), .if_icmp .eq 28, .iconst (1), .goto 29], 28), (28, [.iconst (0)], 29), (29, [.ireturn], 30)]
theorem k_X6_isSharedAsh : chkB T_X6_isSharedAsh cX6_isSharedAsh B_X6_isSharedAsh = true := by decide +kernel
theorem cw_X6_isSharedAsh : calW Y_X6_isSharedAsh := ⟨pn_X6, Or.inr (Or.inr (Or.inl ⟨rfl, rfl⟩)), w_1009, w_2, mh_X6, by decide⟩
theorem cl_X6_isSharedAsh {o : OM} {Y : Pk} {d d2 idx : Nat} {C : Ctr} (hS : Sound o Y_X6_isSharedAsh d2 C) (hd : d2 + 1 ≤ d) (hl : Cond.methodLink (yN Y).cls idx yX6_isSharedAsh ∈ wsG ∨ ∃ host, Cond.methodLinkNest (yN Y).cls idx yX6_isSharedAsh host ∈ nestW) : CallOK o Y d (.invokevirtual idx) (4, rcv 6 4 C) := callV_ok hS hd cw_X6_isSharedAsh hl w_1008 wp_78 (Or.inl ⟨TX6, 6, rfl⟩) (by decide +kernel)
def Y_X7_best : Pk := (yX7_best, cX7_best, 9, some .int, 1)
def T_X7_best : Tb := ([], [(44, (-100004))], [], [], [(45, 0), (48, 1)], [], 9)
def V_X7_best : List (Nat × Nat) := [(0, 4), (10, 7), (35, 7), (39, 7), (56, 8), (81, 9), (89, 8), (95, 7)]
def B_X7_best : Bk := [(0, [.iconst (-100004), .istore 4, .iconst (0), .istore 5, .iconst (0), .istore 6], 10), (10, [.iload 6, .iconst (30), .if_icmp .gt 95, .iload 6, .iconst (2), .irem, .iconst (1), .if_icmp .ne 35, .iload 6, .iconst (1), .iadd, .ineg, .iconst (2), .idiv, .goto 39], 35), (35, [.iload 6, .iconst (2), .idiv], 39), (39, [.istore 7, .aload 0, .iload 1, .iload 2, .iload 7, .invokestatic 0, .iload 3, .if_icmp .ge 56, .goto 89], 56), (56, [.aload 0, .iload 1, .iload 2, .iload 7, .iconst (0), .invokestatic 1, .istore 8, .iload 4, .iconst (-100004), .if_icmp .eq 81, .iload 8, .iload 5, .if_icmp .le 89], 81), (81, [.iload 7, .istore 4, .iload 8, .istore 5], 89), (89, [.iinc 6 1, .goto 10], 95), (95, [.iload 4, .ireturn], 98)]
theorem k_X7_best : chkB T_X7_best cX7_best B_X7_best = true := by decide +kernel
theorem cw_X7_best : calW Y_X7_best := ⟨pn_X7, Or.inr (Or.inl ⟨rfl, rfl⟩), w_662, w_8, mh_X7, by decide⟩
theorem cl_X7_best {o : OM} {Y : Pk} {d d2 idx : Nat} {C : Ctr} (hS : Sound o Y_X7_best d2 C) (hd : d2 + 1 ≤ d) (hl : Cond.methodLink (yN Y).cls idx yX7_best ∈ wsG ∨ ∃ host, Cond.methodLinkNest (yN Y).cls idx yX7_best host ∈ nestW) : CallOK o Y d (.invokevirtual idx) (4, rcv 7 9 C) := callV_ok hS hd cw_X7_best hl w_661 wp_24 (Or.inl ⟨TX7, 1, rfl⟩) (by decide +kernel)
def Y_X7_turnsAsLike : Pk := (yX7_turnsAsLike, cX7_turnsAsLike, 7, some .int, 1)
def T_X7_turnsAsLike : Tb := ([(9, 7002), (21, 6022)], [], [], [], [(48, 0)], [], 7)
def V_X7_turnsAsLike : List (Nat × Nat) := [(0, 4), (16, 7), (47, 7), (53, 7)]
def B_X7_turnsAsLike : Bk := [(0, [.aload 0, .iload 1, .iload 2, .iload 3, .iconst (0), .invokestatic 0, .istore 4, .iconst (0), .istore 5, .iconst (0), .istore 6], 16), (16, [.iload 6, .aload 0, .getfield 7002, .getfield 6022, .iload 2, .iaload, .if_icmp .ge 53, .aload 0, .iload 1, .iload 2, .iload 3, .iload 6, .invokestatic 0, .iload 4, .if_icmp .lt 47, .iinc 5 1], 47), (47, [.iinc 6 1, .goto 16], 53), (53, [.iload 5, .ireturn], 56)]
theorem k_X7_turnsAsLike : chkB T_X7_turnsAsLike cX7_turnsAsLike B_X7_turnsAsLike = true := by decide +kernel
theorem cw_X7_turnsAsLike : calW Y_X7_turnsAsLike := ⟨pn_X7, Or.inr (Or.inl ⟨rfl, rfl⟩), w_673, w_8, mh_X7, by decide⟩
theorem cl_X7_turnsAsLike {o : OM} {Y : Pk} {d d2 idx : Nat} {C : Ctr} (hS : Sound o Y_X7_turnsAsLike d2 C) (hd : d2 + 1 ≤ d) (hl : Cond.methodLink (yN Y).cls idx yX7_turnsAsLike ∈ wsG ∨ ∃ host, Cond.methodLinkNest (yN Y).cls idx yX7_turnsAsLike host ∈ nestW) : CallOK o Y d (.invokevirtual idx) (4, rcv 7 7 C) := callV_ok hS hd cw_X7_turnsAsLike hl w_672 wp_25 (Or.inl ⟨TX7, 1, rfl⟩) (by decide +kernel)
def Y_X8_at : Pk := (yX8_at, cX8_at, 4, some .int, 1)
def T_X8_at : Tb := ([(45, 8062), (10, 8002), (106, 6022)], [], [], [], [(175, 0), (99, 1), (176, 3)], [(88, 2)], 4)
def V_X8_at : List (Nat × Nat) := [(0, 4), (39, 4), (42, 4)]
def B_X8_at : Bk := [(0, [.aload 0, .getfield 8062, .iload 1, .invokestatic 0, .ifCond .eq 39, .aload 0, .getfield 8002, .iload 2, .invokestatic 1, .ifCond .eq 39, .iload 3, .iconst (0), .aload 0, .getfield 8002, .getfield 6022, .iload 2, .iaload, .invokestatic 2, .ifCond .ne 42], 39), (39, [.iconst (-101), .ireturn], 42), (42, [.aload 0, .getfield 8062, .iload 1, .iload 2, .iload 3, .invokestatic 3, .ireturn], 53)]
theorem k_X8_at : chkB T_X8_at cX8_at B_X8_at = true := by decide +kernel
theorem cw_X8_at : calW Y_X8_at := ⟨pn_X8, Or.inr (Or.inl ⟨rfl, rfl⟩), w_604, w_1, mh_X8, by decide⟩
theorem cl_X8_at {o : OM} {Y : Pk} {d d2 idx : Nat} {C : Ctr} (hS : Sound o Y_X8_at d2 C) (hd : d2 + 1 ≤ d) (hl : Cond.methodLink (yN Y).cls idx yX8_at ∈ wsG ∨ ∃ host, Cond.methodLinkNest (yN Y).cls idx yX8_at host ∈ nestW) : CallOK o Y d (.invokevirtual idx) (4, rcv 8 4 C) := callV_ok hS hd cw_X8_at hl w_602 w_603 (Or.inl ⟨TX8, 13, rfl⟩) (by decide +kernel)
def Y_X8_years : Pk := (yX8_years, cX8_years, 3, some .int, 1)
def T_X8_years : Tb := ([(45, 8062), (10, 8002)], [], [], [], [(175, 0), (99, 1), (179, 2)], [], 3)
def V_X8_years : List (Nat × Nat) := [(0, 3), (22, 3), (25, 3)]
def B_X8_years : Bk := [(0, [.aload 0, .getfield 8062, .iload 1, .invokestatic 0, .ifCond .eq 22, .aload 0, .getfield 8002, .iload 2, .invokestatic 1, .ifCond .ne 25], 22), (22, [.iconst (-101), .ireturn], 25), (25, [.aload 0, .getfield 8062, .iload 1, .iload 2, .invokestatic 2, .ireturn], 35)]
theorem k_X8_years : chkB T_X8_years cX8_years B_X8_years = true := by decide +kernel
theorem cw_X8_years : calW Y_X8_years := ⟨pn_X8, Or.inr (Or.inl ⟨rfl, rfl⟩), w_616, w_1, mh_X8, by decide⟩
theorem cl_X8_years {o : OM} {Y : Pk} {d d2 idx : Nat} {C : Ctr} (hS : Sound o Y_X8_years d2 C) (hd : d2 + 1 ≤ d) (hl : Cond.methodLink (yN Y).cls idx yX8_years ∈ wsG ∨ ∃ host, Cond.methodLinkNest (yN Y).cls idx yX8_years host ∈ nestW) : CallOK o Y d (.invokevirtual idx) (3, rcv 8 3 C) := callV_ok hS hd cw_X8_years hl w_614 w_615 (Or.inl ⟨TX8, 13, rfl⟩) (by decide +kernel)
def Y_X8_lean : Pk := (yX8_lean, cX8_lean, 5, some .int, 1)
def T_X8_lean : Tb := ([(45, 8062), (10, 8002), (92, 6000)], [(182, (-100001))], [], [], [(175, 0), (179, 1)], [], 5)
def V_X8_lean : List (Nat × Nat) := [(0, 3), (22, 3), (25, 3), (30, 5), (72, 5)]
def B_X8_lean : Bk := [(0, [.aload 0, .getfield 8062, .iload 1, .invokestatic 0, .ifCond .eq 22, .aload 0, .getfield 8062, .iload 2, .invokestatic 0, .ifCond .ne 25], 22), (22, [.iconst (-100001), .ireturn], 25), (25, [.iconst (0), .istore 3, .iconst (0), .istore 4], 30), (30, [.iload 4, .aload 0, .getfield 8002, .getfield 6000, .if_icmp .ge 72, .iload 3, .aload 0, .getfield 8062, .iload 1, .iload 4, .invokestatic 1, .aload 0, .getfield 8062, .iload 2, .iload 4, .invokestatic 1, .isub, .iadd, .istore 3, .iinc 4 1, .goto 30], 72), (72, [.iload 3, .ireturn], 74)]
theorem k_X8_lean : chkB T_X8_lean cX8_lean B_X8_lean = true := by decide +kernel
theorem cw_X8_lean : calW Y_X8_lean := ⟨pn_X8, Or.inr (Or.inl ⟨rfl, rfl⟩), w_620, w_1, mh_X8, by decide⟩
theorem cl_X8_lean {o : OM} {Y : Pk} {d d2 idx : Nat} {C : Ctr} (hS : Sound o Y_X8_lean d2 C) (hd : d2 + 1 ≤ d) (hl : Cond.methodLink (yN Y).cls idx yX8_lean ∈ wsG ∨ ∃ host, Cond.methodLinkNest (yN Y).cls idx yX8_lean host ∈ nestW) : CallOK o Y d (.invokevirtual idx) (3, rcv 8 5 C) := callV_ok hS hd cw_X8_lean hl w_618 w_619 (Or.inl ⟨TX8, 13, rfl⟩) (by decide +kernel)
def Y_X8_like : Pk := (yX8_like, cX8_like, 4, some .int, 1)
def T_X8_like : Tb := ([(10, 8002), (59, 8082)], [(182, (-100001)), (186, (-100002)), (190, (-100004))], [], [], [(99, 0), (187, 2), (191, 3)], [(183, 1)], 4)
def V_X8_like : List (Nat × Nat) := [(0, 4), (22, 4), (25, 4), (35, 4), (51, 4)]
def B_X8_like : Bk := [(0, [.aload 0, .getfield 8002, .iload 1, .invokestatic 0, .ifCond .eq 22, .aload 0, .getfield 8002, .iload 2, .invokestatic 0, .ifCond .ne 25], 22), (22, [.iconst (-100001), .ireturn], 25), (25, [.iload 3, .invokestatic 1, .ifCond .ne 35, .iconst (-100002), .ireturn], 35), (35, [.aload 0, .getfield 8082, .iload 1, .iload 2, .iload 3, .invokestatic 2, .ifCond .ne 51, .iconst (-100004), .ireturn], 51), (51, [.aload 0, .getfield 8082, .iload 1, .iload 2, .iload 3, .iconst (0), .invokestatic 3, .ireturn], 63)]
theorem k_X8_like : chkB T_X8_like cX8_like B_X8_like = true := by decide +kernel
theorem cw_X8_like : calW Y_X8_like := ⟨pn_X8, Or.inr (Or.inl ⟨rfl, rfl⟩), w_625, w_1, mh_X8, by decide⟩
theorem cl_X8_like {o : OM} {Y : Pk} {d d2 idx : Nat} {C : Ctr} (hS : Sound o Y_X8_like d2 C) (hd : d2 + 1 ≤ d) (hl : Cond.methodLink (yN Y).cls idx yX8_like ∈ wsG ∨ ∃ host, Cond.methodLinkNest (yN Y).cls idx yX8_like host ∈ nestW) : CallOK o Y d (.invokevirtual idx) (4, rcv 8 4 C) := callV_ok hS hd cw_X8_like hl w_623 w_624 (Or.inl ⟨TX8, 13, rfl⟩) (by decide +kernel)
def Y_X8_aboutPit : Pk := (yX8_aboutPit, cX8_aboutPit, 3, some .int, 1)
def T_X8_aboutPit : Tb := ([(10, 8002), (308, 6012), (106, 6022), (45, 8062)], [], [], [], [(179, 0)], [], 3)
def V_X8_aboutPit : List (Nat × Nat) := [(0, 3), (28, 3), (38, 3), (48, 3), (58, 3)]
def B_X8_aboutPit : Bk := [(0, [.iload 2, .tableswitch 58 (0) (2) #[28, 38, 48]], 28), (28, [.aload 0, .getfield 8002, .getfield 6012, .iload 1, .iaload, .ireturn], 38), (38, [.aload 0, .getfield 8002, .getfield 6022, .iload 1, .iaload, .ireturn], 48), (48, [.aload 0, .getfield 8062, .iconst (-1), .iload 1, .invokestatic 0, .ireturn], 58), (58, [.iconst (-102), .ireturn], 61)]
theorem k_X8_aboutPit : chkB T_X8_aboutPit cX8_aboutPit B_X8_aboutPit = true := by decide +kernel
theorem cw_X8_aboutPit : calW Y_X8_aboutPit := ⟨pn_X8, Or.inr (Or.inl ⟨rfl, rfl⟩), w_402, w_1, mh_X8, by decide⟩
theorem cl_X8_aboutPit {o : OM} {Y : Pk} {d d2 idx : Nat} {C : Ctr} (hS : Sound o Y_X8_aboutPit d2 C) (hd : d2 + 1 ≤ d) (hl : Cond.methodLink (yN Y).cls idx yX8_aboutPit ∈ wsG ∨ ∃ host, Cond.methodLinkNest (yN Y).cls idx yX8_aboutPit host ∈ nestW) : CallOK o Y d (.invokevirtual idx) (3, rcv 8 3 C) := callV_ok hS hd cw_X8_aboutPit hl w_401 wp_6 (Or.inl ⟨TX8, 13, rfl⟩) (by decide +kernel)
def Y_X8_foldPit : Pk := (yX8_foldPit, cX8_foldPit, 5, some .long, 3)
def T_X8_foldPit : Tb := ([(10, 8002), (308, 6012), (106, 6022), (45, 8062), (165, 1010)], [], [], [], [(118, 1), (132, 2), (380, 3), (179, 4)], [(363, 0)], 5)
def V_X8_foldPit : List (Nat × Nat) := [(0, 4), (18, 5), (86, 5), (89, 5), (123, 5)]
def B_X8_foldPit : Bk := [(0, [.lload 1, .aload 0, .getfield 8002, .getfield 6012, .iload 3, .iaload, .i2l, .invokestatic 0, .lstore 1, .iconst (0), .istore 4], 18), (18, [.iload 4, .aload 0, .getfield 8002, .getfield 6022, .iload 3, .iaload, .if_icmp .ge 86, .lload 1, .aload 0, .getfield 8002, .iload 3, .iload 4, .invokestatic 1, .i2l, .invokestatic 0, .lstore 1, .lload 1, .aload 0, .getfield 8002, .iload 3, .iload 4, .invokestatic 2, .i2l, .invokestatic 0, .lstore 1, .lload 1, .aload 0, .getfield 8002, .iload 3, .iload 4, .invokestatic 3, .i2l, .invokestatic 0, .lstore 1, .iinc 4 1, .goto 18], 86), (86, [.iconst (-1), .istore 4], 89), (89, [.iload 4, .aload 0, .getfield 8062, .getfield 1010, .if_icmp .ge 123, .lload 1, .aload 0, .getfield 8062, .iload 4, .iload 3, .invokestatic 4, .i2l, .invokestatic 0, .lstore 1, .iinc 4 1, .goto 89], 123), (123, [.lload 1, .lreturn], 125)]
theorem k_X8_foldPit : chkB T_X8_foldPit cX8_foldPit B_X8_foldPit = true := by decide +kernel
theorem cw_X8_foldPit : calW Y_X8_foldPit := ⟨pn_X8, Or.inr (Or.inr (Or.inr (Or.inl ⟨rfl, rfl⟩))), w_1060, w_1, mh_X8, by decide⟩
theorem cl_X8_foldPit {o : OM} {Y : Pk} {d d2 idx : Nat} {C : Ctr} (hS : Sound o Y_X8_foldPit d2 C) (hd : d2 + 1 ≤ d) (hl : Cond.methodLink (yN Y).cls idx yX8_foldPit ∈ wsG ∨ ∃ host, Cond.methodLinkNest (yN Y).cls idx yX8_foldPit host ∈ nestW) : CallOK o Y d (.invokevirtual idx) (3, rcv 8 5 C) := callV_ok hS hd cw_X8_foldPit hl w_1059 wp_85 (Or.inl ⟨TX8, 13, rfl⟩) (by decide +kernel)
def Y_X9_as : Pk := (yX9_as, cX9_as, 6, some .int, 1)
def T_X9_as : Tb := ([(16, 9032)], [], [(122, 6)], [], [(136, 0)], [(112, 1)], 6)
def V_X9_as : List (Nat × Nat) := [(0, 4), (12, 4), (27, 4), (61, 5), (73, 5), (77, 5), (78, 5), (89, 6), (90, 6)]
def B_X9_as : Bk := [(0, [.aload 0, .iload 1, .iload 2, .invokestatic 0, .ifCond .ne 12, .iconst (-101), .ireturn], 12), (12, [.iload 3, .i2l, .jsr 0, .jsr (6), .invokestatic 1, .ifCond .ne 27, .iconst (-102), .ireturn], 27), (27, [.aload 0, .getfield 9032, .iconst (16), .iload 1, .imul, .iload 2, .iadd, .iaload, .istore 4, .iload 3, .ifCond .eq 73, .iload 3, .iload 4, .if_icmp .eq 73, .iload 3, .iconst (1), .if_icmp .ne 61, .iload 4, .iconst (5), .if_icmp .eq 73], 61), (61, [.iload 3, .iconst (6), .if_icmp .ne 77, .iload 4, .iconst (4), .if_icmp .ne 77], 73), (73, [.iconst (1), .goto 78], 77), (77, [.iconst (0)], 78), (78, [.istore 5, .iload 5, .ifCond .eq 89, .iload 2, .goto 90], 89), (89, [.iconst (-1)], 90), (90, [.ireturn], 91)]
theorem k_X9_as : chkB T_X9_as cX9_as B_X9_as = true := by decide +kernel
theorem cw_X9_as : calW Y_X9_as := ⟨pn_X9, Or.inr (Or.inl ⟨rfl, rfl⟩), w_1284, w_11, mh_X9, by decide⟩
theorem cl_X9_as {o : OM} {Y : Pk} {d d2 idx : Nat} {C : Ctr} (hS : Sound o Y_X9_as d2 C) (hd : d2 + 1 ≤ d) (hl : Cond.methodLink (yN Y).cls idx yX9_as ∈ wsG ∨ ∃ host, Cond.methodLinkNest (yN Y).cls idx yX9_as host ∈ nestW) : CallOK o Y d (.invokevirtual idx) (4, rcv 9 6 C) := callV_ok hS hd cw_X9_as hl w_1282 w_1283 (Or.inl ⟨TX9, 55, rfl⟩) (by decide +kernel)
def Y_X9_about : Pk := (yX9_about, cX9_about, 5, some .int, 1)
def T_X9_about : Tb := ([(7, 9012), (13, 9022), (16, 9032), (19, 9042), (22, 9052)], [], [(144, 2), (146, 3)], [], [(116, 0), (136, 1), (148, 3), (151, 4)], [(112, 2)], 5)
def V_X9_about : List (Nat × Nat) := [(0, 4), (22, 4), (25, 4), (39, 4), (42, 4), (51, 4), (69, 4), (83, 4), (89, 4), (90, 4), (112, 5), (127, 5), (142, 5), (155, 5), (163, 5)]
def B_X9_about : Bk := [(0, [.aload 0, .iload 1, .invokestatic 0, .ifCond .eq 22, .iload 2, .iconst (-1), .if_icmp .eq 25, .aload 0, .iload 1, .iload 2, .invokestatic 1, .ifCond .ne 25], 22), (22, [.iconst (-101), .ireturn], 25), (25, [.iload 3, .i2l, .jsr 0, .iload 2, .iconst (-1), .if_icmp .ne 39, .jsr (2), .goto 42], 39), (39, [.jsr (3)], 42), (42, [.invokestatic 2, .ifCond .ne 51, .iconst (-102), .ireturn], 51), (51, [.iload 2, .iconst (-1), .if_icmp .ne 90, .iload 3, .ifCond .ne 69, .aload 0, .getfield 9012, .iload 1, .iaload, .goto 89], 69), (69, [.iload 3, .iconst (1), .if_icmp .ne 83, .aload 0, .getfield 9022, .iload 1, .iaload, .goto 89], 83), (83, [.aload 0, .iconst (-1), .iload 1, .invokestatic 3], 89), (89, [.ireturn], 90), (90, [.iconst (16), .iload 1, .imul, .iload 2, .iadd, .istore 4, .iload 3, .ifCond .ne 112, .aload 0, .getfield 9032, .iload 4, .iaload, .goto 163], 112), (112, [.iload 3, .iconst (1), .if_icmp .ne 127, .aload 0, .getfield 9042, .iload 4, .iaload, .goto 163], 127), (127, [.iload 3, .iconst (2), .if_icmp .ne 142, .aload 0, .getfield 9052, .iload 4, .iaload, .goto 163], 142), (142, [.aload 0, .iload 1, .iload 2, .invokestatic 4, .ifCond .ge 155, .iconst (0), .goto 163], 155), (155, [.iconst (1), .aload 0, .iload 1, .iload 2, .invokestatic 4, .iadd], 163), (163, [.ireturn], 164)]
theorem k_X9_about : chkB T_X9_about cX9_about B_X9_about = true := by decide +kernel
theorem cw_X9_about : calW Y_X9_about := ⟨pn_X9, Or.inr (Or.inl ⟨rfl, rfl⟩), w_1292, w_11, mh_X9, by decide⟩
theorem cl_X9_about {o : OM} {Y : Pk} {d d2 idx : Nat} {C : Ctr} (hS : Sound o Y_X9_about d2 C) (hd : d2 + 1 ≤ d) (hl : Cond.methodLink (yN Y).cls idx yX9_about ∈ wsG ∨ ∃ host, Cond.methodLinkNest (yN Y).cls idx yX9_about host ∈ nestW) : CallOK o Y d (.invokevirtual idx) (4, rcv 9 5 C) := callV_ok hS hd cw_X9_about hl w_1290 w_1291 (Or.inl ⟨TX9, 55, rfl⟩) (by decide +kernel)
def Y_X9_change : Pk := (yX9_change, cX9_change, 7, some .int, 1)
def T_X9_change : Tb := ([(19, 9042)], [], [], [], [(136, 0), (132, 2)], [(128, 1)], 7)
def V_X9_change : List (Nat × Nat) := [(0, 6), (12, 6), (26, 6)]
def B_X9_change : Bk := [(0, [.aload 0, .iload 1, .iload 2, .invokestatic 0, .ifCond .ne 12, .iconst (-101), .ireturn], 12), (12, [.iload 3, .iload 4, .iload 5, .invokestatic 1, .ifCond .ne 26, .iconst (-102), .ireturn], 26), (26, [.aload 0, .getfield 9042, .iconst (16), .iload 1, .imul, .iload 2, .iadd, .iaload, .istore 6, .aload 0, .iload 1, .iload 2, .iload 3, .iload 4, .iload 5, .invokestatic 2, .iload 6, .ireturn], 53)]
theorem k_X9_change : chkB T_X9_change cX9_change B_X9_change = true := by decide +kernel
theorem cw_X9_change : calW Y_X9_change := ⟨pn_X9, Or.inr (Or.inl ⟨rfl, rfl⟩), w_1317, w_11, mh_X9, by decide⟩
theorem cl_X9_change {o : OM} {Y : Pk} {d d2 idx : Nat} {C : Ctr} (hS : Sound o Y_X9_change d2 C) (hd : d2 + 1 ≤ d) (hl : Cond.methodLink (yN Y).cls idx yX9_change ∈ wsG ∨ ∃ host, Cond.methodLinkNest (yN Y).cls idx yX9_change host ∈ nestW) : CallOK o Y d (.invokevirtual idx) (6, rcv 9 7 C) := callV_ok hS hd cw_X9_change hl w_1315 w_1316 (Or.inl ⟨TX9, 55, rfl⟩) (by decide +kernel)
def Y_X9_fault : Pk := (yX9_fault, cX9_fault, 2, some .int, 1)
def T_X9_fault : Tb := ([], [], [], [], [(201, 1)], [(112, 0)], 2)
def V_X9_fault : List (Nat × Nat) := [(0, 2), (18, 2), (20, 2)]
def B_X9_fault : Bk := [(0, [.iload 1, .i2l, .jsr 0, .jsr 1, .invokestatic 0, .ifCond .eq 18, .aload 0, .iload 1, .invokestatic 1, .goto 20], 18), (18, [.iconst (-102)], 20), (20, [.ireturn], 21)]
theorem k_X9_fault : chkB T_X9_fault cX9_fault B_X9_fault = true := by decide +kernel
theorem cw_X9_fault : calW Y_X9_fault := ⟨pn_X9, Or.inr (Or.inl ⟨rfl, rfl⟩), w_1347, w_11, mh_X9, by decide⟩
theorem cl_X9_fault {o : OM} {Y : Pk} {d d2 idx : Nat} {C : Ctr} (hS : Sound o Y_X9_fault d2 C) (hd : d2 + 1 ≤ d) (hl : Cond.methodLink (yN Y).cls idx yX9_fault ∈ wsG ∨ ∃ host, Cond.methodLinkNest (yN Y).cls idx yX9_fault host ∈ nestW) : CallOK o Y d (.invokevirtual idx) (2, rcv 9 2 C) := callV_ok hS hd cw_X9_fault hl w_1345 w_1346 (Or.inl ⟨TX9, 55, rfl⟩) (by decide +kernel)
def Y_X9_hand : Pk := (yX9_hand, cX9_hand, 2, some .int, 1)
def T_X9_hand : Tb := ([(176, 9080), (179, 9140), (204, 9090), (28, 9102), (34, 9132)], [], [], [], [(201, 0)], [], 2)
def V_X9_hand : List (Nat × Nat) := [(0, 1), (20, 1), (23, 1), (34, 1), (36, 2), (68, 2)]
def B_X9_hand : Bk := [(0, [.aload 0, .iconst (0), .invokestatic 0, .aload 0, .getfield 9080, .if_icmp .lt 20, .aload 0, .getfield 9140, .iconst (2), .if_icmp .ge 23], 20), (20, [.iconst (-103), .ireturn], 23), (23, [.aload 0, .getfield 9090, .iconst (4), .if_icmp .ne 34, .iconst (-104), .ireturn], 34), (34, [.iconst (0), .istore 1], 36), (36, [.iload 1, .iconst (7), .if_icmp .ge 68, .aload 0, .getfield 9102, .iconst (7), .aload 0, .getfield 9090, .imul, .iload 1, .iadd, .aload 0, .getfield 9132, .iload 1, .iaload, .iastore, .iinc 1 1, .goto 36], 68), (68, [.aload 0, .dup, .getfield 9090, .iconst (1), .iadd, .putfield 9090, .aload 0, .iconst (0), .putfield 9080, .aload 0, .getfield 9090, .iconst (1), .isub, .ireturn], 90)]
theorem k_X9_hand : chkB T_X9_hand cX9_hand B_X9_hand = true := by decide +kernel
theorem cw_X9_hand : calW Y_X9_hand := ⟨pn_X9, Or.inr (Or.inl ⟨rfl, rfl⟩), w_1367, w_11, mh_X9, by decide⟩
theorem cl_X9_hand {o : OM} {Y : Pk} {d d2 idx : Nat} {C : Ctr} (hS : Sound o Y_X9_hand d2 C) (hd : d2 + 1 ≤ d) (hl : Cond.methodLink (yN Y).cls idx yX9_hand ∈ wsG ∨ ∃ host, Cond.methodLinkNest (yN Y).cls idx yX9_hand host ∈ nestW) : CallOK o Y d (.invokevirtual idx) (1, rcv 9 2 C) := callV_ok hS hd cw_X9_hand hl w_1365 w_1366 (Or.inl ⟨TX9, 55, rfl⟩) (by decide +kernel)
def Y_X9_law : Pk := (yX9_law, cX9_law, 3, some .int, 1)
def T_X9_law : Tb := ([(176, 9080), (179, 9140), (207, 9110), (31, 9122), (34, 9132)], [], [], [], [(201, 0)], [], 3)
def V_X9_law : List (Nat × Nat) := [(0, 1), (20, 1), (23, 1), (34, 1), (36, 2), (50, 2), (59, 2), (68, 2), (70, 2), (97, 3), (103, 3), (110, 2)]
def B_X9_law : Bk := [(0, [.aload 0, .iconst (1), .invokestatic 0, .aload 0, .getfield 9080, .if_icmp .lt 20, .aload 0, .getfield 9140, .iconst (2), .if_icmp .ge 23], 20), (20, [.iconst (-103), .ireturn], 23), (23, [.aload 0, .getfield 9110, .iconst (4), .if_icmp .ne 34, .iconst (-104), .ireturn], 34), (34, [.iconst (0), .istore 1], 36), (36, [.iload 1, .iconst (4), .if_icmp .ge 110, .iload 1, .ifCond .ne 50, .iconst (9), .goto 70], 50), (50, [.iload 1, .iconst (1), .if_icmp .ne 59, .iconst (3), .goto 70], 59), (59, [.iload 1, .iconst (2), .if_icmp .ne 68, .iconst (1), .goto 70], 68), (68, [.iconst (40)], 70), (70, [.istore 2, .aload 0, .getfield 9122, .iconst (4), .aload 0, .getfield 9110, .imul, .iload 1, .iadd, .aload 0, .getfield 9132, .iload 1, .iaload, .iconst (-1), .if_icmp .ne 97, .iload 2, .goto 103], 97), (97, [.aload 0, .getfield 9132, .iload 1, .iaload], 103), (103, [.iastore, .iinc 1 1, .goto 36], 110), (110, [.aload 0, .dup, .getfield 9110, .iconst (1), .iadd, .putfield 9110, .aload 0, .iconst (0), .putfield 9080, .aload 0, .getfield 9110, .iconst (1), .isub, .ireturn], 132)]
theorem k_X9_law : chkB T_X9_law cX9_law B_X9_law = true := by decide +kernel
theorem cw_X9_law : calW Y_X9_law := ⟨pn_X9, Or.inr (Or.inl ⟨rfl, rfl⟩), w_1371, w_11, mh_X9, by decide⟩
theorem cl_X9_law {o : OM} {Y : Pk} {d d2 idx : Nat} {C : Ctr} (hS : Sound o Y_X9_law d2 C) (hd : d2 + 1 ≤ d) (hl : Cond.methodLink (yN Y).cls idx yX9_law ∈ wsG ∨ ∃ host, Cond.methodLinkNest (yN Y).cls idx yX9_law host ∈ nestW) : CallOK o Y d (.invokevirtual idx) (1, rcv 9 3 C) := callV_ok hS hd cw_X9_law hl w_1369 w_1370 (Or.inl ⟨TX9, 55, rfl⟩) (by decide +kernel)
def Y_X9_at : Pk := (yX9_at, cX9_at, 4, some .int, 1)
def T_X9_at : Tb := ([(13, 9022)], [], [], [], [(219, 0), (116, 1), (222, 3)], [(112, 2)], 4)
def V_X9_at : List (Nat × Nat) := [(0, 4), (42, 4), (44, 4)]
def B_X9_at : Bk := [(0, [.aload 0, .iload 1, .invokestatic 0, .ifCond .eq 42, .aload 0, .iload 2, .invokestatic 1, .ifCond .eq 42, .iload 3, .i2l, .jsr 0, .aload 0, .getfield 9022, .iload 2, .iaload, .i2l, .invokestatic 2, .ifCond .eq 42, .aload 0, .iload 1, .iload 2, .iload 3, .invokestatic 3, .goto 44], 42), (42, [.iconst (-101)], 44), (44, [.ireturn], 45)]
theorem k_X9_at : chkB T_X9_at cX9_at B_X9_at = true := by decide +kernel
theorem cw_X9_at : calW Y_X9_at := ⟨pn_X9, Or.inr (Or.inl ⟨rfl, rfl⟩), w_1375, w_11, mh_X9, by decide⟩
theorem cl_X9_at {o : OM} {Y : Pk} {d d2 idx : Nat} {C : Ctr} (hS : Sound o Y_X9_at d2 C) (hd : d2 + 1 ≤ d) (hl : Cond.methodLink (yN Y).cls idx yX9_at ∈ wsG ∨ ∃ host, Cond.methodLinkNest (yN Y).cls idx yX9_at host ∈ nestW) : CallOK o Y d (.invokevirtual idx) (4, rcv 9 4 C) := callV_ok hS hd cw_X9_at hl w_1373 w_1374 (Or.inl ⟨TX9, 55, rfl⟩) (by decide +kernel)
def Y_X9_years : Pk := (yX9_years, cX9_years, 3, some .int, 1)
def T_X9_years : Tb := ([], [], [], [], [(219, 0), (116, 1), (148, 2)], [], 3)
def V_X9_years : List (Nat × Nat) := [(0, 3), (25, 3), (27, 3)]
def B_X9_years : Bk := [(0, [.aload 0, .iload 1, .invokestatic 0, .ifCond .eq 25, .aload 0, .iload 2, .invokestatic 1, .ifCond .eq 25, .aload 0, .iload 1, .iload 2, .invokestatic 2, .goto 27], 25), (25, [.iconst (-101)], 27), (27, [.ireturn], 28)]
theorem k_X9_years : chkB T_X9_years cX9_years B_X9_years = true := by decide +kernel
theorem cw_X9_years : calW Y_X9_years := ⟨pn_X9, Or.inr (Or.inl ⟨rfl, rfl⟩), w_1388, w_11, mh_X9, by decide⟩
theorem cl_X9_years {o : OM} {Y : Pk} {d d2 idx : Nat} {C : Ctr} (hS : Sound o Y_X9_years d2 C) (hd : d2 + 1 ≤ d) (hl : Cond.methodLink (yN Y).cls idx yX9_years ∈ wsG ∨ ∃ host, Cond.methodLinkNest (yN Y).cls idx yX9_years host ∈ nestW) : CallOK o Y d (.invokevirtual idx) (3, rcv 9 3 C) := callV_ok hS hd cw_X9_years hl w_1386 w_1387 (Or.inl ⟨TX9, 55, rfl⟩) (by decide +kernel)
def Y_X9_lean : Pk := (yX9_lean, cX9_lean, 5, some .int, 1)
def T_X9_lean : Tb := ([(109, 9000)], [(225, (-100001))], [], [], [(219, 0), (148, 1)], [], 5)
def V_X9_lean : List (Nat × Nat) := [(0, 3), (16, 3), (19, 3), (24, 5), (57, 5)]
def B_X9_lean : Bk := [(0, [.aload 0, .iload 1, .invokestatic 0, .ifCond .eq 16, .aload 0, .iload 2, .invokestatic 0, .ifCond .ne 19], 16), (16, [.iconst (-100001), .ireturn], 19), (19, [.iconst (0), .istore 3, .iconst (0), .istore 4], 24), (24, [.iload 4, .aload 0, .getfield 9000, .if_icmp .ge 57, .iload 3, .aload 0, .iload 1, .iload 4, .invokestatic 1, .aload 0, .iload 2, .iload 4, .invokestatic 1, .isub, .iadd, .istore 3, .iinc 4 1, .goto 24], 57), (57, [.iload 3, .ireturn], 59)]
theorem k_X9_lean : chkB T_X9_lean cX9_lean B_X9_lean = true := by decide +kernel
theorem cw_X9_lean : calW Y_X9_lean := ⟨pn_X9, Or.inr (Or.inl ⟨rfl, rfl⟩), w_1392, w_11, mh_X9, by decide⟩
theorem cl_X9_lean {o : OM} {Y : Pk} {d d2 idx : Nat} {C : Ctr} (hS : Sound o Y_X9_lean d2 C) (hd : d2 + 1 ≤ d) (hl : Cond.methodLink (yN Y).cls idx yX9_lean ∈ wsG ∨ ∃ host, Cond.methodLinkNest (yN Y).cls idx yX9_lean host ∈ nestW) : CallOK o Y d (.invokevirtual idx) (3, rcv 9 5 C) := callV_ok hS hd cw_X9_lean hl w_1390 w_1391 (Or.inl ⟨TX9, 55, rfl⟩) (by decide +kernel)
def Y_X9_like : Pk := (yX9_like, cX9_like, 4, some .int, 1)
def T_X9_like : Tb := ([], [(225, (-100001)), (236, (-100002)), (240, (-100004))], [], [], [(116, 0), (237, 2), (241, 3)], [(233, 1)], 4)
def V_X9_like : List (Nat × Nat) := [(0, 4), (16, 4), (19, 4), (29, 4), (44, 4), (52, 4)]
def B_X9_like : Bk := [(0, [.aload 0, .iload 1, .invokestatic 0, .ifCond .eq 16, .aload 0, .iload 2, .invokestatic 0, .ifCond .ne 19], 16), (16, [.iconst (-100001), .ireturn], 19), (19, [.iload 3, .invokestatic 1, .ifCond .ne 29, .iconst (-100002), .ireturn], 29), (29, [.aload 0, .iload 1, .iload 2, .iload 3, .invokestatic 2, .ifCond .ne 44, .iconst (-100004), .goto 52], 44), (44, [.aload 0, .iload 1, .iload 2, .iload 3, .iconst (0), .invokestatic 3], 52), (52, [.ireturn], 53)]
theorem k_X9_like : chkB T_X9_like cX9_like B_X9_like = true := by decide +kernel
theorem cw_X9_like : calW Y_X9_like := ⟨pn_X9, Or.inr (Or.inl ⟨rfl, rfl⟩), w_1397, w_11, mh_X9, by decide⟩
theorem cl_X9_like {o : OM} {Y : Pk} {d d2 idx : Nat} {C : Ctr} (hS : Sound o Y_X9_like d2 C) (hd : d2 + 1 ≤ d) (hl : Cond.methodLink (yN Y).cls idx yX9_like ∈ wsG ∨ ∃ host, Cond.methodLinkNest (yN Y).cls idx yX9_like host ∈ nestW) : CallOK o Y d (.invokevirtual idx) (4, rcv 9 4 C) := callV_ok hS hd cw_X9_like hl w_1395 w_1396 (Or.inl ⟨TX9, 55, rfl⟩) (by decide +kernel)
def Y_X9_slide : Pk := (yX9_slide, cX9_slide, 11, some .int, 1)
def T_X9_slide : Tb := ([], [(225, (-100001)), (236, (-100002)), (240, (-100004))], [(245, 16)], [], [(116, 0), (237, 2), (241, 3)], [(112, 1)], 11)
def V_X9_slide : List (Nat × Nat) := [(0, 4), (16, 4), (19, 4), (34, 4), (44, 7), (54, 8), (83, 9), (84, 9), (103, 10), (104, 10), (125, 11), (133, 11), (139, 8), (145, 7)]
def B_X9_slide : Bk := [(0, [.aload 0, .iload 1, .invokestatic 0, .ifCond .eq 16, .aload 0, .iload 2, .invokestatic 0, .ifCond .ne 19], 16), (16, [.iconst (-100001), .ireturn], 19), (19, [.iload 3, .i2l, .jsr 1, .jsr (16), .invokestatic 1, .ifCond .ne 34, .iconst (-100002), .ireturn], 34), (34, [.iconst (-100004), .istore 4, .iconst (0), .istore 5, .iconst (0), .istore 6], 44), (44, [.iload 6, .iconst (16), .if_icmp .ge 145, .iconst (-1), .istore 7], 54), (54, [.iload 7, .iconst (2), .if_icmp .ge 139, .iload 7, .iload 6, .imul, .istore 8, .aload 0, .iload 1, .iload 2, .iload 8, .invokestatic 2, .iload 3, .if_icmp .lt 83, .iconst (1), .goto 84], 83), (83, [.iconst (0)], 84), (84, [.istore 9, .iload 9, .ifCond .eq 103, .aload 0, .iload 1, .iload 2, .iload 8, .iconst (0), .invokestatic 3, .goto 104], 103), (103, [.iconst (0)], 104), (104, [.istore 10, .iload 9, .ifCond .eq 133, .iload 4, .iconst (-100004), .if_icmp .eq 125, .iload 10, .iload 5, .if_icmp .le 133], 125), (125, [.iload 8, .istore 4, .iload 10, .istore 5], 133), (133, [.iinc 7 2, .goto 54], 139), (139, [.iinc 6 1, .goto 44], 145), (145, [.iload 4, .ireturn], 148)]
theorem k_X9_slide : chkB T_X9_slide cX9_slide B_X9_slide = true := by decide +kernel
theorem cw_X9_slide : calW Y_X9_slide := ⟨pn_X9, Or.inr (Or.inl ⟨rfl, rfl⟩), w_1424, w_11, mh_X9, by decide⟩
theorem cl_X9_slide {o : OM} {Y : Pk} {d d2 idx : Nat} {C : Ctr} (hS : Sound o Y_X9_slide d2 C) (hd : d2 + 1 ≤ d) (hl : Cond.methodLink (yN Y).cls idx yX9_slide ∈ wsG ∨ ∃ host, Cond.methodLinkNest (yN Y).cls idx yX9_slide host ∈ nestW) : CallOK o Y d (.invokevirtual idx) (4, rcv 9 11 C) := callV_ok hS hd cw_X9_slide hl w_1422 w_1423 (Or.inl ⟨TX9, 55, rfl⟩) (by decide +kernel)
def Y_X9_chance : Pk := (yX9_chance, cX9_chance, 7, some .int, 1)
def T_X9_chance : Tb := ([(13, 9022)], [], [], [], [(116, 0), (237, 3), (241, 4)], [(233, 1), (250, 2), (253, 5)], 7)
def V_X9_chance : List (Nat × Nat) := [(0, 5), (16, 5), (19, 5), (34, 5), (37, 5), (50, 5), (56, 7), (93, 7), (94, 7), (103, 7)]
def B_X9_chance : Bk := [(0, [.aload 0, .iload 1, .invokestatic 0, .ifCond .eq 16, .aload 0, .iload 2, .invokestatic 0, .ifCond .ne 19], 16), (16, [.iconst (-101), .ireturn], 19), (19, [.iload 3, .invokestatic 1, .ifCond .eq 34, .iload 4, .invokestatic 2, .ifCond .ne 37], 34), (34, [.iconst (-102), .ireturn], 37), (37, [.aload 0, .iload 1, .iload 2, .iload 3, .invokestatic 3, .ifCond .ne 50, .iconst (-103), .ireturn], 50), (50, [.iconst (0), .istore 5, .iconst (0), .istore 6], 56), (56, [.iload 6, .aload 0, .getfield 9022, .iload 2, .iaload, .if_icmp .ge 103, .iload 5, .aload 0, .iload 1, .iload 2, .iload 3, .iload 6, .invokestatic 4, .aload 0, .iload 1, .iload 2, .iload 3, .iconst (0), .invokestatic 4, .if_icmp .lt 93, .iconst (1), .goto 94], 93), (93, [.iconst (0)], 94), (94, [.iadd, .istore 5, .iinc 6 1, .goto 56], 103), (103, [.iload 5, .aload 0, .getfield 9022, .iload 2, .iaload, .iload 4, .invokestatic 5, .ireturn], 117)]
theorem k_X9_chance : chkB T_X9_chance cX9_chance B_X9_chance = true := by decide +kernel
theorem cw_X9_chance : calW Y_X9_chance := ⟨pn_X9, Or.inr (Or.inl ⟨rfl, rfl⟩), w_1429, w_11, mh_X9, by decide⟩
theorem cl_X9_chance {o : OM} {Y : Pk} {d d2 idx : Nat} {C : Ctr} (hS : Sound o Y_X9_chance d2 C) (hd : d2 + 1 ≤ d) (hl : Cond.methodLink (yN Y).cls idx yX9_chance ∈ wsG ∨ ∃ host, Cond.methodLinkNest (yN Y).cls idx yX9_chance host ∈ nestW) : CallOK o Y d (.invokevirtual idx) (5, rcv 9 7 C) := callV_ok hS hd cw_X9_chance hl w_1427 w_1428 (Or.inl ⟨TX9, 55, rfl⟩) (by decide +kernel)
def Y_X9_together : Pk := (yX9_together, cX9_together, 5, some .int, 1)
def T_X9_together : Tb := ([(37, 9172), (40, 9182), (302, 9280), (43, 9272)], [], [(144, 2), (308, 10), (310, 41)], [], [(305, 0), (116, 1), (312, 3), (315, 4)], [(112, 2)], 5)
def V_X9_together : List (Nat × Nat) := [(0, 5), (24, 5), (27, 5), (58, 5), (87, 5), (93, 5), (94, 5), (111, 5), (136, 5), (137, 5)]
def B_X9_together : Bk := [(0, [.aload 0, .iload 1, .invokestatic 0, .ifCond .eq 24, .aload 0, .iload 2, .invokestatic 1, .ifCond .eq 24, .aload 0, .iload 3, .invokestatic 1, .ifCond .ne 27], 24), (24, [.iconst (-101), .ireturn], 27), (27, [.iload 4, .i2l, .jsr 0, .jsr (2), .invokestatic 2, .ifCond .ne 58, .iload 4, .i2l, .jsr (10), .jsr (41), .invokestatic 2, .ifCond .ne 58, .iconst (-102), .ireturn], 58), (58, [.aload 0, .iload 1, .iload 2, .iload 3, .iconst (-1), .iconst (-1), .invokestatic 3, .iload 4, .iconst (2), .if_icmp .ge 94, .iload 4, .ifCond .ne 87, .aload 0, .getfield 9172, .iconst (0), .iaload, .goto 93], 87), (87, [.aload 0, .getfield 9182, .iconst (0), .iaload], 93), (93, [.ireturn], 94), (94, [.aload 0, .invokestatic 4, .iload 4, .iconst (2), .if_icmp .ne 111, .aload 0, .getfield 9280, .goto 137], 111), (111, [.iload 4, .iconst (10), .isub, .aload 0, .getfield 9280, .if_icmp .ge 136, .aload 0, .getfield 9272, .iload 4, .iconst (10), .isub, .iaload, .goto 137], 136), (136, [.iconst (-1)], 137), (137, [.ireturn], 138)]
theorem k_X9_together : chkB T_X9_together cX9_together B_X9_together = true := by decide +kernel
theorem cw_X9_together : calW Y_X9_together := ⟨pn_X9, Or.inr (Or.inl ⟨rfl, rfl⟩), w_1442, w_11, mh_X9, by decide⟩
theorem cl_X9_together {o : OM} {Y : Pk} {d d2 idx : Nat} {C : Ctr} (hS : Sound o Y_X9_together d2 C) (hd : d2 + 1 ≤ d) (hl : Cond.methodLink (yN Y).cls idx yX9_together ∈ wsG ∨ ∃ host, Cond.methodLinkNest (yN Y).cls idx yX9_together host ∈ nestW) : CallOK o Y d (.invokevirtual idx) (5, rcv 9 5 C) := callV_ok hS hd cw_X9_together hl w_1440 w_1441 (Or.inl ⟨TX9, 55, rfl⟩) (by decide +kernel)
def Y_X9_lies : Pk := (yX9_lies, cX9_lies, 5, some .int, 1)
def T_X9_lies : Tb := ([(46, 9292)], [], [], [], [(305, 0), (116, 1), (136, 2), (312, 3), (315, 4)], [], 5)
def V_X9_lies : List (Nat × Nat) := [(0, 5), (26, 5), (29, 5)]
def B_X9_lies : Bk := [(0, [.aload 0, .iload 1, .invokestatic 0, .ifCond .eq 26, .aload 0, .iload 3, .invokestatic 1, .ifCond .eq 26, .aload 0, .iload 2, .iload 4, .invokestatic 2, .ifCond .ne 29], 26), (26, [.iconst (-101), .ireturn], 29), (29, [.aload 0, .iload 1, .iload 2, .iload 3, .iconst (-1), .iconst (-1), .invokestatic 3, .aload 0, .invokestatic 4, .aload 0, .getfield 9292, .iload 4, .iaload, .ireturn], 50)]
theorem k_X9_lies : chkB T_X9_lies cX9_lies B_X9_lies = true := by decide +kernel
theorem cw_X9_lies : calW Y_X9_lies := ⟨pn_X9, Or.inr (Or.inl ⟨rfl, rfl⟩), w_1484, w_11, mh_X9, by decide⟩
theorem cl_X9_lies {o : OM} {Y : Pk} {d d2 idx : Nat} {C : Ctr} (hS : Sound o Y_X9_lies d2 C) (hd : d2 + 1 ≤ d) (hl : Cond.methodLink (yN Y).cls idx yX9_lies ∈ wsG ∨ ∃ host, Cond.methodLinkNest (yN Y).cls idx yX9_lies host ∈ nestW) : CallOK o Y d (.invokevirtual idx) (5, rcv 9 5 C) := callV_ok hS hd cw_X9_lies hl w_1482 w_1483 (Or.inl ⟨TX9, 55, rfl⟩) (by decide +kernel)
def Y_X9_sure : Pk := (yX9_sure, cX9_sure, 6, some .int, 1)
def T_X9_sure : Tb := ([(318, 9310), (49, 9302), (37, 9172), (46, 9292)], [], [], [], [(305, 0), (116, 1), (136, 2), (312, 3), (315, 4)], [], 6)
def V_X9_sure : List (Nat × Nat) := [(0, 5), (26, 5), (29, 5), (41, 5), (76, 5)]
def B_X9_sure : Bk := [(0, [.aload 0, .iload 1, .invokestatic 0, .ifCond .eq 26, .aload 0, .iload 3, .invokestatic 1, .ifCond .eq 26, .aload 0, .iload 2, .iload 4, .invokestatic 2, .ifCond .ne 29], 26), (26, [.iconst (-101), .ireturn], 29), (29, [.aload 0, .getfield 9310, .iconst (100), .if_icmp .ne 41, .iconst (-103), .ireturn], 41), (41, [.aload 0, .dup, .getfield 9310, .iconst (1), .iadd, .putfield 9310, .aload 0, .iload 1, .iload 2, .iload 3, .iconst (-1), .iconst (-1), .invokestatic 3, .aload 0, .invokestatic 4, .aload 0, .getfield 9302, .iload 4, .baload, .ifCond .ne 76, .iconst (-1), .ireturn], 76), (76, [.aload 0, .getfield 9172, .iconst (0), .iaload, .istore 5, .aload 0, .iload 1, .iload 2, .iload 3, .iload 4, .aload 0, .getfield 9292, .iload 4, .iaload, .invokestatic 3, .aload 0, .getfield 9172, .iconst (0), .iaload, .iload 5, .isub, .ireturn], 110)]
theorem k_X9_sure : chkB T_X9_sure cX9_sure B_X9_sure = true := by decide +kernel
theorem cw_X9_sure : calW Y_X9_sure := ⟨pn_X9, Or.inr (Or.inl ⟨rfl, rfl⟩), w_1488, w_11, mh_X9, by decide⟩
theorem cl_X9_sure {o : OM} {Y : Pk} {d d2 idx : Nat} {C : Ctr} (hS : Sound o Y_X9_sure d2 C) (hd : d2 + 1 ≤ d) (hl : Cond.methodLink (yN Y).cls idx yX9_sure ∈ wsG ∨ ∃ host, Cond.methodLinkNest (yN Y).cls idx yX9_sure host ∈ nestW) : CallOK o Y d (.invokevirtual idx) (5, rcv 9 6 C) := callV_ok hS hd cw_X9_sure hl w_1486 w_1487 (Or.inl ⟨TX9, 55, rfl⟩) (by decide +kernel)
def Y_X9_layNet : Pk := (yX9_layNet, cX9_layNet, 8, some .boolean, 2)
def T_X9_layNet : Tb := ([(80, 9432), (325, 9320), (53, 9332), (56, 9342), (59, 9352), (62, 9362), (109, 9000), (71, 9392), (74, 9402), (77, 9412), (101, 9423)], [(333, 10000000)], [], [], [(334, 0), (338, 1), (222, 2), (341, 3)], [], 8)
def V_X9_layNet : List (Nat × Nat) := [(0, 2), (2, 3), (24, 3), (27, 3), (34, 3), (36, 3), (81, 3), (87, 3), (89, 3), (125, 3), (127, 4), (142, 5), (208, 7), (214, 5), (220, 4), (226, 3)]
def B_X9_layNet : Bk := [(0, [.iconst (0), .istore 2], 2), (2, [.iload 2, .iconst (64), .if_icmp .ge 34, .aload 0, .getfield 9432, .iload 2, .iload 2, .iconst (9), .irem, .ifCond .ne 24, .iconst (0), .goto 27], 24), (24, [.iconst (10000000)], 27), (27, [.iastore, .iinc 2 1, .goto 2], 34), (34, [.iconst (0), .istore 2], 36), (36, [.iload 2, .aload 0, .getfield 9320, .if_icmp .ge 87, .iload 1, .iload 2, .ishr, .iconst (1), .iand, .iconst (1), .if_icmp .ne 81, .aload 0, .aload 0, .getfield 9332, .iload 2, .iaload, .aload 0, .getfield 9342, .iload 2, .iaload, .aload 0, .getfield 9352, .iload 2, .iaload, .aload 0, .getfield 9362, .iload 2, .iaload, .invokestatic 0], 81), (81, [.iinc 2 1, .goto 36], 87), (87, [.iconst (0), .istore 2], 89), (89, [.iload 2, .aload 0, .getfield 9000, .if_icmp .ge 226, .aload 0, .getfield 9392, .iload 2, .baload, .ifCond .eq 125, .aload 0, .iconst (7), .iload 2, .aload 0, .getfield 9402, .iload 2, .iaload, .aload 0, .getfield 9412, .iload 2, .iaload, .invokestatic 0], 125), (125, [.iconst (0), .istore 3], 127), (127, [.iload 3, .iload 2, .if_icmp .ge 220, .aload 0, .getfield 9423, .ifCond .eq 220, .iconst (0), .istore 4], 142), (142, [.iload 4, .iconst (10), .if_icmp .ge 214, .aload 0, .iload 2, .iload 4, .invokestatic 1, .istore 5, .aload 0, .iload 3, .iload 4, .invokestatic 1, .istore 6, .iload 5, .iconst (-1), .if_icmp .eq 208, .iload 6, .iconst (-1), .if_icmp .eq 208, .aload 0, .iconst (-1), .iload 3, .iload 6, .invokestatic 2, .aload 0, .iconst (-1), .iload 2, .iload 5, .invokestatic 2, .isub, .istore 7, .aload 0, .iload 3, .iload 2, .iload 7, .iload 7, .invokestatic 0], 208), (208, [.iinc 4 1, .goto 142], 214), (214, [.iinc 3 1, .goto 127], 220), (220, [.iinc 2 1, .goto 89], 226), (226, [.aload 0, .invokestatic 3, .ireturn], 231)]
theorem k_X9_layNet : chkB T_X9_layNet cX9_layNet B_X9_layNet = true := by decide +kernel
theorem cw_X9_layNet : calW Y_X9_layNet := ⟨pn_X9, Or.inr (Or.inr (Or.inl ⟨rfl, rfl⟩)), w_1528, w_11, mh_X9, by decide⟩
theorem cl_X9_layNet {o : OM} {Y : Pk} {d d2 idx : Nat} {C : Ctr} (hS : Sound o Y_X9_layNet d2 C) (hd : d2 + 1 ≤ d) (hl : Cond.methodLink (yN Y).cls idx yX9_layNet ∈ wsG ∨ ∃ host, Cond.methodLinkNest (yN Y).cls idx yX9_layNet host ∈ nestW) : CallOK o Y d (.invokevirtual idx) (2, rcv 9 8 C) := callV_ok hS hd cw_X9_layNet hl w_1527 wp_113 (Or.inl ⟨TX9, 55, rfl⟩) (by decide +kernel)
def Y_X9_tookBy : Pk := (yX9_tookBy, cX9_tookBy, 11, some .int, 1)
def T_X9_tookBy : Tb := ([(22, 9052), (16, 9032)], [], [], [], [(376, 0), (338, 1), (216, 2), (212, 3), (222, 4)], [], 11)
def V_X9_tookBy : List (Nat × Nat) := [(0, 4), (32, 6), (34, 6), (83, 8), (84, 8), (92, 10), (124, 10), (125, 10), (133, 10), (140, 10), (203, 11), (204, 11)]
def B_X9_tookBy : Bk := [(0, [.aload 0, .iload 1, .iload 2, .iconst (-1), .iload 3, .invokestatic 0, .istore 4, .aload 0, .iload 1, .iload 2, .iconst (1), .iload 3, .invokestatic 0, .istore 5, .iload 4, .iconst (-1), .if_icmp .eq 32, .iload 5, .iconst (-1), .if_icmp .ne 34], 32), (32, [.iconst (-1), .ireturn], 34), (34, [.aload 0, .iload 3, .aload 0, .getfield 9052, .iconst (16), .iload 1, .imul, .iload 4, .iadd, .iaload, .invokestatic 1, .istore 6, .aload 0, .iload 3, .aload 0, .getfield 9052, .iconst (16), .iload 1, .imul, .iload 5, .iadd, .iaload, .invokestatic 1, .istore 7, .iload 6, .iload 7, .if_icmp .ge 83, .iconst (1), .goto 84], 83), (83, [.iconst (0)], 84), (84, [.istore 8, .iload 6, .iconst (1), .iadd, .istore 9], 92), (92, [.iload 9, .iload 7, .if_icmp .ge 133, .iload 8, .ifCond .eq 124, .aload 0, .getfield 9032, .iconst (16), .iload 3, .imul, .iload 9, .iadd, .iaload, .iconst (4), .if_icmp .eq 124, .iconst (1), .goto 125], 124), (124, [.iconst (0)], 125), (125, [.istore 8, .iinc 9 1, .goto 92], 133), (133, [.iload 8, .ifCond .ne 140, .iconst (-1), .ireturn], 140), (140, [.aload 0, .iconst (-1), .iload 1, .iload 5, .invokestatic 2, .aload 0, .iconst (-1), .iload 1, .iload 2, .invokestatic 3, .isub, .iconst (2), .idiv, .aload 0, .iconst (-1), .iload 1, .iload 4, .invokestatic 4, .isub, .istore 9, .aload 0, .iconst (-1), .iload 3, .iload 7, .invokestatic 4, .aload 0, .iconst (-1), .iload 3, .iload 6, .invokestatic 4, .isub, .istore 10, .iload 10, .iload 9, .if_icmp .le 203, .iload 10, .iload 9, .isub, .goto 204], 203), (203, [.iconst (0)], 204), (204, [.ireturn], 205)]
theorem k_X9_tookBy : chkB T_X9_tookBy cX9_tookBy B_X9_tookBy = true := by decide +kernel
theorem cw_X9_tookBy : calW Y_X9_tookBy := ⟨pn_X9, Or.inr (Or.inl ⟨rfl, rfl⟩), w_1600, w_11, mh_X9, by decide⟩
theorem cl_X9_tookBy {o : OM} {Y : Pk} {d d2 idx : Nat} {C : Ctr} (hS : Sound o Y_X9_tookBy d2 C) (hd : d2 + 1 ≤ d) (hl : Cond.methodLink (yN Y).cls idx yX9_tookBy ∈ wsG ∨ ∃ host, Cond.methodLinkNest (yN Y).cls idx yX9_tookBy host ∈ nestW) : CallOK o Y d (.invokevirtual idx) (4, rcv 9 11 C) := callV_ok hS hd cw_X9_tookBy hl w_1599 wp_122 (Or.inl ⟨TX9, 55, rfl⟩) (by decide +kernel)
def Y_X9_tellPit : Pk := (yX9_tellPit, cX9_tellPit, 3, none, 0)
def T_X9_tellPit : Tb := ([(7, 9012), (13, 9022), (16, 9032), (19, 9042), (22, 9052), (204, 9090)], [], [], [], [(397, 0), (148, 1)], [], 3)
def V_X9_tellPit : List (Nat × Nat) := [(0, 2), (13, 3), (77, 3), (79, 3), (104, 3)]
def B_X9_tellPit : Bk := [(0, [.aload 0, .aload 0, .getfield 9012, .iload 1, .iaload, .i2l, .invokestatic 0, .iconst (0), .istore 2], 13), (13, [.iload 2, .aload 0, .getfield 9022, .iload 1, .iaload, .if_icmp .ge 77, .aload 0, .aload 0, .getfield 9032, .iconst (16), .iload 1, .imul, .iload 2, .iadd, .iaload, .i2l, .invokestatic 0, .aload 0, .aload 0, .getfield 9042, .iconst (16), .iload 1, .imul, .iload 2, .iadd, .iaload, .i2l, .invokestatic 0, .aload 0, .aload 0, .getfield 9052, .iconst (16), .iload 1, .imul, .iload 2, .iadd, .iaload, .i2l, .invokestatic 0, .iinc 2 1, .goto 13], 77), (77, [.iconst (-1), .istore 2], 79), (79, [.iload 2, .aload 0, .getfield 9090, .if_icmp .ge 104, .aload 0, .aload 0, .iload 2, .iload 1, .invokestatic 1, .i2l, .invokestatic 0, .iinc 2 1, .goto 79], 104), (104, [.return_], 105)]
theorem k_X9_tellPit : chkB T_X9_tellPit cX9_tellPit B_X9_tellPit = true := by decide +kernel
theorem cw_X9_tellPit : calW Y_X9_tellPit := ⟨pn_X9, Or.inl ⟨rfl, rfl⟩, w_1629, w_11, mh_X9, by decide⟩
theorem cl_X9_tellPit {o : OM} {Y : Pk} {d d2 idx : Nat} {C : Ctr} (hS : Sound o Y_X9_tellPit d2 C) (hd : d2 + 1 ≤ d) (hl : Cond.methodLink (yN Y).cls idx yX9_tellPit ∈ wsG ∨ ∃ host, Cond.methodLinkNest (yN Y).cls idx yX9_tellPit host ∈ nestW) : CallOK o Y d (.invokevirtual idx) (2, rcv 9 3 C) := callV_ok hS hd cw_X9_tellPit hl w_1628 wp_125 (Or.inl ⟨TX9, 55, rfl⟩) (by decide +kernel)
def Y_X9_tellLaw : Pk := (yX9_tellLaw, cX9_tellLaw, 4, none, 0)
def T_X9_tellLaw : Tb := ([(109, 9000), (37, 9172)], [], [], [], [(312, 0), (397, 1)], [], 4)
def V_X9_tellLaw : List (Nat × Nat) := [(0, 2), (2, 3), (14, 4), (48, 4), (54, 3)]
def B_X9_tellLaw : Bk := [(0, [.iconst (0), .istore 2], 2), (2, [.iload 2, .aload 0, .getfield 9000, .if_icmp .ge 54, .iload 2, .iconst (1), .iadd, .istore 3], 14), (14, [.iload 3, .aload 0, .getfield 9000, .if_icmp .ge 48, .aload 0, .iload 1, .iload 2, .iload 3, .iconst (-1), .iconst (-1), .invokestatic 0, .aload 0, .aload 0, .getfield 9172, .iconst (0), .iaload, .i2l, .invokestatic 1, .iinc 3 1, .goto 14], 48), (48, [.iinc 2 1, .goto 2], 54), (54, [.return_], 55)]
theorem k_X9_tellLaw : chkB T_X9_tellLaw cX9_tellLaw B_X9_tellLaw = true := by decide +kernel
theorem cw_X9_tellLaw : calW Y_X9_tellLaw := ⟨pn_X9, Or.inl ⟨rfl, rfl⟩, w_1638, w_11, mh_X9, by decide⟩
theorem cl_X9_tellLaw {o : OM} {Y : Pk} {d d2 idx : Nat} {C : Ctr} (hS : Sound o Y_X9_tellLaw d2 C) (hd : d2 + 1 ≤ d) (hl : Cond.methodLink (yN Y).cls idx yX9_tellLaw ∈ wsG ∨ ∃ host, Cond.methodLinkNest (yN Y).cls idx yX9_tellLaw host ∈ nestW) : CallOK o Y d (.invokevirtual idx) (2, rcv 9 4 C) := callV_ok hS hd cw_X9_tellLaw hl w_1637 wp_127 (Or.inl ⟨TX9, 55, rfl⟩) (by decide +kernel)
def Y_X3_weaveWhole : Pk := (yX3_weaveWhole, cX3_weaveWhole, 1, some .boolean, 2)
def T_X3_weaveWhole : Tb := ([(11, 3032)], [], [], [], [(63, 0), (67, 1)], [], 1)
def V_X3_weaveWhole : List (Nat × Nat) := [(0, 1), (23, 1), (24, 1)]
def B_X3_weaveWhole : Bk := [(0, [.aload 0, .invokestatic 0, .ifCond .eq 23, .aload 0, .aload 0, .getfield 3032, .iconst (-1), .invokestatic 1, .ifCond .eq 23, .iconst (1), .goto 24], 23), (23, [.iconst (0)], 24), (24, [.ireturn], 25)]
theorem k_X3_weaveWhole : chkB T_X3_weaveWhole cX3_weaveWhole B_X3_weaveWhole = true := by decide +kernel
theorem cw_X3_weaveWhole : calW Y_X3_weaveWhole := ⟨pn_X3, Or.inr (Or.inr (Or.inl ⟨rfl, rfl⟩)), w_832, w_10, mh_X3, by decide⟩
theorem cl_X3_weaveWhole {o : OM} {Y : Pk} {d d2 idx : Nat} {C : Ctr} (hS : Sound o Y_X3_weaveWhole d2 C) (hd : d2 + 1 ≤ d) (hl : Cond.methodLink (yN Y).cls idx yX3_weaveWhole ∈ wsG ∨ ∃ host, Cond.methodLinkNest (yN Y).cls idx yX3_weaveWhole host ∈ nestW) : CallOK o Y d (.invokevirtual idx) (1, rcv 3 1 C) := callV_ok hS hd cw_X3_weaveWhole hl w_831 wp_49 (Or.inl ⟨TX3, 15, rfl⟩) (by decide +kernel)
def Y_X3_leastCast : Pk := (yX3_leastCast, cX3_leastCast, 1, some .int, 1)
def T_X3_leastCast : Tb := ([(32, 3090), (36, 3100), (39, 3110), (15, 3042), (23, 3062)], [], [], [], [(63, 0), (177, 2)], [(105, 1)], 1)
def V_X3_leastCast : List (Nat × Nat) := [(0, 1), (47, 1)]
def B_X3_leastCast : Bk := [(0, [.aload 0, .iconst (-1), .putfield 3090, .aload 0, .iconst (13), .putfield 3100, .aload 0, .iconst (-1), .putfield 3110, .aload 0, .invokestatic 0, .ifCond .eq 47, .aload 0, .getfield 3042, .iconst (0), .aload 0, .getfield 3062, .iconst (0), .aaload, .iconst (0), .iconst (64), .invokestatic 1, .aload 0, .iconst (0), .iconst (0), .iconst (0), .invokestatic 2], 47), (47, [.aload 0, .getfield 3090, .ireturn], 52)]
theorem k_X3_leastCast : chkB T_X3_leastCast cX3_leastCast B_X3_leastCast = true := by decide +kernel
theorem cw_X3_leastCast : calW Y_X3_leastCast := ⟨pn_X3, Or.inr (Or.inl ⟨rfl, rfl⟩), w_933, w_10, mh_X3, by decide⟩
theorem cl_X3_leastCast {o : OM} {Y : Pk} {d d2 idx : Nat} {C : Ctr} (hS : Sound o Y_X3_leastCast d2 C) (hd : d2 + 1 ≤ d) (hl : Cond.methodLink (yN Y).cls idx yX3_leastCast ∈ wsG ∨ ∃ host, Cond.methodLinkNest (yN Y).cls idx yX3_leastCast host ∈ nestW) : CallOK o Y d (.invokevirtual idx) (1, rcv 3 1 C) := callV_ok hS hd cw_X3_leastCast hl w_932 wp_65 (Or.inl ⟨TX3, 15, rfl⟩) (by decide +kernel)
def Y_X3_isWiderWithout : Pk := (yX3_isWiderWithout, cX3_isWiderWithout, 4, some .boolean, 2)
def T_X3_isWiderWithout : Tb := ([(18, 3052), (11, 3032)], [], [], [], [(67, 0)], [], 4)
def V_X3_isWiderWithout : List (Nat × Nat) := [(0, 4), (60, 4), (64, 4), (65, 4)]
def B_X3_isWiderWithout : Bk := [(0, [.aload 0, .aload 0, .getfield 3052, .iload 1, .invokestatic 0, .pop, .aload 0, .getfield 3052, .iload 2, .iconst (8), .imul, .iload 3, .iadd, .iaload, .aload 0, .getfield 3032, .iload 2, .iconst (8), .imul, .iload 3, .iadd, .iaload, .if_icmp .gt 60, .aload 0, .getfield 3052, .iload 3, .iconst (8), .imul, .iload 2, .iadd, .iaload, .aload 0, .getfield 3032, .iload 3, .iconst (8), .imul, .iload 2, .iadd, .iaload, .if_icmp .le 64], 60), (60, [.iconst (1), .goto 65], 64), (64, [.iconst (0)], 65), (65, [.ireturn], 66)]
theorem k_X3_isWiderWithout : chkB T_X3_isWiderWithout cX3_isWiderWithout B_X3_isWiderWithout = true := by decide +kernel
theorem cw_X3_isWiderWithout : calW Y_X3_isWiderWithout := ⟨pn_X3, Or.inr (Or.inr (Or.inl ⟨rfl, rfl⟩)), w_957, w_10, mh_X3, by decide⟩
theorem cl_X3_isWiderWithout {o : OM} {Y : Pk} {d d2 idx : Nat} {C : Ctr} (hS : Sound o Y_X3_isWiderWithout d2 C) (hd : d2 + 1 ≤ d) (hl : Cond.methodLink (yN Y).cls idx yX3_isWiderWithout ∈ wsG ∨ ∃ host, Cond.methodLinkNest (yN Y).cls idx yX3_isWiderWithout host ∈ nestW) : CallOK o Y d (.invokevirtual idx) (4, rcv 3 4 C) := callV_ok hS hd cw_X3_isWiderWithout hl w_956 wp_70 (Or.inl ⟨TX3, 15, rfl⟩) (by decide +kernel)
def Y_X3_findDig : Pk := (yX3_findDig, cX3_findDig, 4, none, 0)
def T_X3_findDig : Tb := ([(42, 3120), (45, 3130), (48, 3140), (51, 3002), (85, 6000)], [], [], [], [(194, 0), (197, 1), (203, 3)], [(200, 2)], 4)
def V_X3_findDig : List (Nat × Nat) := [(0, 1), (17, 2), (32, 3), (70, 3), (93, 4), (108, 3), (114, 3), (120, 2)]
def B_X3_findDig : Bk := [(0, [.aload 0, .iconst (-1), .putfield 3120, .aload 0, .iconst (-1), .putfield 3130, .aload 0, .iconst (-1), .putfield 3140, .iconst (0), .istore 1], 17), (17, [.iload 1, .aload 0, .getfield 3002, .getfield 6000, .if_icmp .ge 120, .iload 1, .iconst (1), .iadd, .istore 2], 32), (32, [.iload 2, .aload 0, .getfield 3002, .getfield 6000, .if_icmp .ge 114, .aload 0, .iload 1, .iload 2, .invokestatic 0, .ifCond .ne 108, .aload 0, .iload 1, .iload 2, .invokestatic 1, .iconst (1), .iconst (40), .invokestatic 2, .ifCond .ne 70, .goto 108], 70), (70, [.aload 0, .iload 1, .iload 2, .invokestatic 3, .istore 3, .aload 0, .getfield 3140, .iconst (-1), .if_icmp .eq 93, .iload 3, .aload 0, .getfield 3140, .if_icmp .ge 108], 93), (93, [.aload 0, .iload 1, .putfield 3120, .aload 0, .iload 2, .putfield 3130, .aload 0, .iload 3, .putfield 3140], 108), (108, [.iinc 2 1, .goto 32], 114), (114, [.iinc 1 1, .goto 17], 120), (120, [.return_], 121)]
theorem k_X3_findDig : chkB T_X3_findDig cX3_findDig B_X3_findDig = true := by decide +kernel
theorem cw_X3_findDig : calW Y_X3_findDig := ⟨pn_X3, Or.inl ⟨rfl, rfl⟩, w_965, w_10, mh_X3, by decide⟩
theorem cl_X3_findDig {o : OM} {Y : Pk} {d d2 idx : Nat} {C : Ctr} (hS : Sound o Y_X3_findDig d2 C) (hd : d2 + 1 ≤ d) (hl : Cond.methodLink (yN Y).cls idx yX3_findDig ∈ wsG ∨ ∃ host, Cond.methodLinkNest (yN Y).cls idx yX3_findDig host ∈ nestW) : CallOK o Y d (.invokevirtual idx) (1, rcv 3 4 C) := callV_ok hS hd cw_X3_findDig hl w_964 wp_71 (Or.inl ⟨TX3, 15, rfl⟩) (by decide +kernel)
def Y_X5_fillAll : Pk := (yX5_fillAll, cX5_fillAll, 3, none, 0)
def T_X5_fillAll : Tb := ([(24, 5060), (28, 5070)], [], [], [], [(107, 0)], [], 3)
def V_X5_fillAll : List (Nat × Nat) := [(0, 1), (5, 2), (14, 3), (30, 3), (36, 2)]
def B_X5_fillAll : Bk := [(0, [.aload 0, .getfield 5060, .istore 1], 5), (5, [.iload 1, .ifCond .lt 36, .aload 0, .getfield 5070, .istore 2], 14), (14, [.iload 2, .ifCond .lt 30, .aload 0, .iload 1, .iload 2, .invokestatic 0, .iinc 2 (-1), .goto 14], 30), (30, [.iinc 1 (-1), .goto 5], 36), (36, [.return_], 37)]
theorem k_X5_fillAll : chkB T_X5_fillAll cX5_fillAll B_X5_fillAll = true := by decide +kernel
theorem cw_X5_fillAll : calW Y_X5_fillAll := ⟨pn_X5, Or.inl ⟨rfl, rfl⟩, w_703, w_9, mh_X5, by decide⟩
theorem cl_X5_fillAll {o : OM} {Y : Pk} {d d2 idx : Nat} {C : Ctr} (hS : Sound o Y_X5_fillAll d2 C) (hd : d2 + 1 ≤ d) (hl : Cond.methodLink (yN Y).cls idx yX5_fillAll ∈ wsG ∨ ∃ host, Cond.methodLinkNest (yN Y).cls idx yX5_fillAll host ∈ nestW) : CallOK o Y d (.invokevirtual idx) (1, rcv 5 3 C) := callV_ok hS hd cw_X5_fillAll hl w_702 wp_30 (Or.inl ⟨TX5, 20, rfl⟩) (by decide +kernel)
def Y_X5_goTheWay : Pk := (yX5_goTheWay, cX5_goTheWay, 6, none, 0)
def T_X5_goTheWay : Tb := ([(58, 5170), (55, 5162), (64, 5192), (61, 5182)], [], [], [(126, 100), (129, 101)], [(150, 0)], [], 6)
def V_X5_goTheWay : List (Nat × Nat) := [(0, 1), (11, 4), (32, 5), (56, 6), (97, 6), (98, 6), (105, 6), (129, 4)]
def B_X5_goTheWay : Bk := [(0, [.iconst (0), .istore 1, .iconst (0), .istore 2, .aload 0, .iconst (0), .putfield 5170, .iconst (0), .istore 3], 11), (11, [.iload 3, .iconst (32), .if_icmp .ge 129, .aload 0, .iload 1, .iload 2, .invokestatic 0, .istore 4, .iload 4, .iconst (-1), .if_icmp .ne 32, .return_], 32), (32, [.aload 0, .getfield 5162, .aload 0, .getfield 5170, .iload 4, .iastore, .aload 0, .dup, .getfield 5170, .iconst (1), .iadd, .putfield 5170, .iload 1, .istore 5], 56), (56, [.iload 5, .iload 1, .anewarray 100, .iload 4, .iaload, .iadd, .if_icmp .ge 105, .aload 0, .getfield 5192, .iload 5, .iload 4, .iastore, .aload 0, .getfield 5182, .iload 5, .anewarray 101, .iload 4, .iaload, .ifCond .ne 97, .iconst (-1), .goto 98], 97), (97, [.iload 2], 98), (98, [.iastore, .iinc 5 1, .goto 56], 105), (105, [.iload 1, .anewarray 100, .iload 4, .iaload, .iadd, .istore 1, .iload 2, .anewarray 101, .iload 4, .iaload, .iadd, .istore 2, .iinc 3 1, .goto 11], 129), (129, [.return_], 130)]
theorem k_X5_goTheWay : chkB T_X5_goTheWay cX5_goTheWay B_X5_goTheWay = true := by decide +kernel
theorem cw_X5_goTheWay : calW Y_X5_goTheWay := ⟨pn_X5, Or.inl ⟨rfl, rfl⟩, w_754, w_9, mh_X5, by decide⟩
theorem cl_X5_goTheWay {o : OM} {Y : Pk} {d d2 idx : Nat} {C : Ctr} (hS : Sound o Y_X5_goTheWay d2 C) (hd : d2 + 1 ≤ d) (hl : Cond.methodLink (yN Y).cls idx yX5_goTheWay ∈ wsG ∨ ∃ host, Cond.methodLinkNest (yN Y).cls idx yX5_goTheWay host ∈ nestW) : CallOK o Y d (.invokevirtual idx) (1, rcv 5 6 C) := callV_ok hS hd cw_X5_goTheWay hl w_753 wp_39 (Or.inl ⟨TX5, 20, rfl⟩) (by decide +kernel)
def Y_X6_sharedAshAhead : Pk := (yX6_sharedAshAhead, cX6_sharedAshAhead, 5, some .int, 1)
def T_X6_sharedAshAhead : Tb := ([], [], [], [], [(58, 0)], [], 5)
def V_X6_sharedAshAhead : List (Nat × Nat) := [(0, 4), (5, 5), (24, 5), (30, 5)]
def B_X6_sharedAshAhead : Bk := [(0, [.iload 2, .iconst (1), .isub, .istore 4], 5), (5, [.iload 4, .ifCond .lt 30, .aload 0, .iload 1, .iload 4, .iload 3, .invokestatic 0, .ifCond .eq 24, .iload 4, .ireturn], 24), (24, [.iinc 4 (-1), .goto 5], 30), (30, [.iconst (-1), .ireturn], 32)]
theorem k_X6_sharedAshAhead : chkB T_X6_sharedAshAhead cX6_sharedAshAhead B_X6_sharedAshAhead = true := by decide +kernel
theorem cw_X6_sharedAshAhead : calW Y_X6_sharedAshAhead := ⟨pn_X6, Or.inr (Or.inl ⟨rfl, rfl⟩), w_1005, w_2, mh_X6, by decide⟩
theorem cl_X6_sharedAshAhead {o : OM} {Y : Pk} {d d2 idx : Nat} {C : Ctr} (hS : Sound o Y_X6_sharedAshAhead d2 C) (hd : d2 + 1 ≤ d) (hl : Cond.methodLink (yN Y).cls idx yX6_sharedAshAhead ∈ wsG ∨ ∃ host, Cond.methodLinkNest (yN Y).cls idx yX6_sharedAshAhead host ∈ nestW) : CallOK o Y d (.invokevirtual idx) (4, rcv 6 5 C) := callV_ok hS hd cw_X6_sharedAshAhead hl w_1004 wp_77 (Or.inl ⟨TX6, 6, rfl⟩) (by decide +kernel)
def Y_X6_sharedAshBehind : Pk := (yX6_sharedAshBehind, cX6_sharedAshBehind, 5, some .int, 1)
def T_X6_sharedAshBehind : Tb := ([(19, 6022)], [], [], [], [(58, 0)], [], 5)
def V_X6_sharedAshBehind : List (Nat × Nat) := [(0, 4), (5, 5), (30, 5), (36, 5)]
def B_X6_sharedAshBehind : Bk := [(0, [.iload 2, .iconst (1), .iadd, .istore 4], 5), (5, [.iload 4, .aload 0, .getfield 6022, .iload 1, .iaload, .if_icmp .ge 36, .aload 0, .iload 1, .iload 4, .iload 3, .invokestatic 0, .ifCond .eq 30, .iload 4, .ireturn], 30), (30, [.iinc 4 1, .goto 5], 36), (36, [.iconst (-1), .ireturn], 38)]
theorem k_X6_sharedAshBehind : chkB T_X6_sharedAshBehind cX6_sharedAshBehind B_X6_sharedAshBehind = true := by decide +kernel
theorem cw_X6_sharedAshBehind : calW Y_X6_sharedAshBehind := ⟨pn_X6, Or.inr (Or.inl ⟨rfl, rfl⟩), w_1019, w_2, mh_X6, by decide⟩
theorem cl_X6_sharedAshBehind {o : OM} {Y : Pk} {d d2 idx : Nat} {C : Ctr} (hS : Sound o Y_X6_sharedAshBehind d2 C) (hd : d2 + 1 ≤ d) (hl : Cond.methodLink (yN Y).cls idx yX6_sharedAshBehind ∈ wsG ∨ ∃ host, Cond.methodLinkNest (yN Y).cls idx yX6_sharedAshBehind host ∈ nestW) : CallOK o Y d (.invokevirtual idx) (4, rcv 6 5 C) := callV_ok hS hd cw_X6_sharedAshBehind hl w_1018 wp_80 (Or.inl ⟨TX6, 6, rfl⟩) (by decide +kernel)
def Y_X8_about : Pk := (yX8_about, cX8_about, 4, some .int, 1)
def T_X8_about : Tb := ([(10, 8002)], [], [], [], [(99, 0), (125, 1), (114, 2), (128, 3)], [], 4)
def V_X8_about : List (Nat × Nat) := [(0, 4), (14, 4), (26, 4), (41, 4)]
def B_X8_about : Bk := [(0, [.aload 0, .getfield 8002, .iload 1, .invokestatic 0, .ifCond .ne 14, .iconst (-101), .ireturn], 14), (14, [.iload 2, .iconst (-1), .if_icmp .ne 26, .aload 0, .iload 1, .iload 3, .invokestatic 1, .ireturn], 26), (26, [.aload 0, .getfield 8002, .iload 1, .iload 2, .invokestatic 2, .ifCond .ne 41, .iconst (-101), .ireturn], 41), (41, [.aload 0, .iload 1, .iload 2, .iload 3, .invokestatic 3, .ireturn], 49)]
theorem k_X8_about : chkB T_X8_about cX8_about B_X8_about = true := by decide +kernel
theorem cw_X8_about : calW Y_X8_about := ⟨pn_X8, Or.inr (Or.inl ⟨rfl, rfl⟩), w_398, w_1, mh_X8, by decide⟩
theorem cl_X8_about {o : OM} {Y : Pk} {d d2 idx : Nat} {C : Ctr} (hS : Sound o Y_X8_about d2 C) (hd : d2 + 1 ≤ d) (hl : Cond.methodLink (yN Y).cls idx yX8_about ∈ wsG ∨ ∃ host, Cond.methodLinkNest (yN Y).cls idx yX8_about host ∈ nestW) : CallOK o Y d (.invokevirtual idx) (4, rcv 8 4 C) := callV_ok hS hd cw_X8_about hl w_396 w_397 (Or.inl ⟨TX8, 13, rfl⟩) (by decide +kernel)
def Y_X8_slide : Pk := (yX8_slide, cX8_slide, 4, some .int, 1)
def T_X8_slide : Tb := ([(10, 8002), (59, 8082)], [(182, (-100001)), (186, (-100002))], [], [], [(99, 0), (195, 2)], [(88, 1)], 4)
def V_X8_slide : List (Nat × Nat) := [(0, 4), (22, 4), (25, 4), (38, 4)]
def B_X8_slide : Bk := [(0, [.aload 0, .getfield 8002, .iload 1, .invokestatic 0, .ifCond .eq 22, .aload 0, .getfield 8002, .iload 2, .invokestatic 0, .ifCond .ne 25], 22), (22, [.iconst (-100001), .ireturn], 25), (25, [.iload 3, .iconst (1), .iconst (16), .invokestatic 1, .ifCond .ne 38, .iconst (-100002), .ireturn], 38), (38, [.aload 0, .getfield 8082, .iload 1, .iload 2, .iload 3, .invokestatic 2, .ireturn], 49)]
theorem k_X8_slide : chkB T_X8_slide cX8_slide B_X8_slide = true := by decide +kernel
theorem cw_X8_slide : calW Y_X8_slide := ⟨pn_X8, Or.inr (Or.inl ⟨rfl, rfl⟩), w_658, w_1, mh_X8, by decide⟩
theorem cl_X8_slide {o : OM} {Y : Pk} {d d2 idx : Nat} {C : Ctr} (hS : Sound o Y_X8_slide d2 C) (hd : d2 + 1 ≤ d) (hl : Cond.methodLink (yN Y).cls idx yX8_slide ∈ wsG ∨ ∃ host, Cond.methodLinkNest (yN Y).cls idx yX8_slide host ∈ nestW) : CallOK o Y d (.invokevirtual idx) (4, rcv 8 4 C) := callV_ok hS hd cw_X8_slide hl w_656 w_657 (Or.inl ⟨TX8, 13, rfl⟩) (by decide +kernel)
def Y_X8_chance : Pk := (yX8_chance, cX8_chance, 5, some .int, 1)
def T_X8_chance : Tb := ([(10, 8002), (59, 8082), (106, 6022)], [], [], [], [(99, 0), (187, 3), (198, 4)], [(183, 1), (88, 2), (201, 5)], 5)
def V_X8_chance : List (Nat × Nat) := [(0, 5), (22, 5), (25, 5), (42, 5), (45, 5), (61, 5)]
def B_X8_chance : Bk := [(0, [.aload 0, .getfield 8002, .iload 1, .invokestatic 0, .ifCond .eq 22, .aload 0, .getfield 8002, .iload 2, .invokestatic 0, .ifCond .ne 25], 22), (22, [.iconst (-101), .ireturn], 25), (25, [.iload 3, .invokestatic 1, .ifCond .eq 42, .iload 4, .iconst (0), .iconst (1), .invokestatic 2, .ifCond .ne 45], 42), (42, [.iconst (-102), .ireturn], 45), (45, [.aload 0, .getfield 8082, .iload 1, .iload 2, .iload 3, .invokestatic 3, .ifCond .ne 61, .iconst (-103), .ireturn], 61), (61, [.aload 0, .getfield 8082, .iload 1, .iload 2, .iload 3, .invokestatic 4, .aload 0, .getfield 8002, .getfield 6022, .iload 2, .iaload, .iload 4, .invokestatic 5, .ireturn], 86)]
theorem k_X8_chance : chkB T_X8_chance cX8_chance B_X8_chance = true := by decide +kernel
theorem cw_X8_chance : calW Y_X8_chance := ⟨pn_X8, Or.inr (Or.inl ⟨rfl, rfl⟩), w_669, w_1, mh_X8, by decide⟩
theorem cl_X8_chance {o : OM} {Y : Pk} {d d2 idx : Nat} {C : Ctr} (hS : Sound o Y_X8_chance d2 C) (hd : d2 + 1 ≤ d) (hl : Cond.methodLink (yN Y).cls idx yX8_chance ∈ wsG ∨ ∃ host, Cond.methodLinkNest (yN Y).cls idx yX8_chance host ∈ nestW) : CallOK o Y d (.invokevirtual idx) (5, rcv 8 5 C) := callV_ok hS hd cw_X8_chance hl w_667 w_668 (Or.inl ⟨TX8, 13, rfl⟩) (by decide +kernel)
def Y_X8_calendars : Pk := (yX8_calendars, cX8_calendars, 2, some .int, 1)
def T_X8_calendars : Tb := ([(77, 8102)], [], [], [], [(281, 1), (284, 2), (287, 3)], [(88, 0)], 2)
def V_X8_calendars : List (Nat × Nat) := [(0, 2), (12, 2), (33, 2), (40, 2)]
def B_X8_calendars : Bk := [(0, [.iload 1, .iconst (0), .iconst (1), .invokestatic 0, .ifCond .ne 12, .iconst (-102), .ireturn], 12), (12, [.aload 0, .getfield 8102, .invokestatic 1, .iload 1, .ifCond .ne 33, .aload 0, .getfield 8102, .invokestatic 2, .goto 40], 33), (33, [.aload 0, .getfield 8102, .invokestatic 3], 40), (40, [.ireturn], 41)]
theorem k_X8_calendars : chkB T_X8_calendars cX8_calendars B_X8_calendars = true := by decide +kernel
theorem cw_X8_calendars : calW Y_X8_calendars := ⟨pn_X8, Or.inr (Or.inl ⟨rfl, rfl⟩), w_899, w_1, mh_X8, by decide⟩
theorem cl_X8_calendars {o : OM} {Y : Pk} {d d2 idx : Nat} {C : Ctr} (hS : Sound o Y_X8_calendars d2 C) (hd : d2 + 1 ≤ d) (hl : Cond.methodLink (yN Y).cls idx yX8_calendars ∈ wsG ∨ ∃ host, Cond.methodLinkNest (yN Y).cls idx yX8_calendars host ∈ nestW) : CallOK o Y d (.invokevirtual idx) (2, rcv 8 2 C) := callV_ok hS hd cw_X8_calendars hl w_897 w_898 (Or.inl ⟨TX8, 13, rfl⟩) (by decide +kernel)
def Y_X9_layKept : Pk := (yX9_layKept, cX9_layKept, 1, some .boolean, 2)
def T_X9_layKept : Tb := ([], [], [], [], [(345, 0), (349, 1)], [], 1)
def V_X9_layKept : List (Nat × Nat) := [(0, 1)]
def B_X9_layKept : Bk := [(0, [.aload 0, .aload 0, .invokestatic 0, .invokestatic 1, .ireturn], 9)]
theorem k_X9_layKept : chkB T_X9_layKept cX9_layKept B_X9_layKept = true := by decide +kernel
theorem cw_X9_layKept : calW Y_X9_layKept := ⟨pn_X9, Or.inr (Or.inr (Or.inl ⟨rfl, rfl⟩)), w_1520, w_11, mh_X9, by decide⟩
theorem cl_X9_layKept {o : OM} {Y : Pk} {d d2 idx : Nat} {C : Ctr} (hS : Sound o Y_X9_layKept d2 C) (hd : d2 + 1 ≤ d) (hl : Cond.methodLink (yN Y).cls idx yX9_layKept ∈ wsG ∨ ∃ host, Cond.methodLinkNest (yN Y).cls idx yX9_layKept host ∈ nestW) : CallOK o Y d (.invokevirtual idx) (1, rcv 9 1 C) := callV_ok hS hd cw_X9_layKept hl w_1519 wp_111 (Or.inl ⟨TX9, 55, rfl⟩) (by decide +kernel)
def Y_X9_castOut : Pk := (yX9_castOut, cX9_castOut, 6, some .int, 1)
def T_X9_castOut : Tb := ([(325, 9320)], [], [], [], [(345, 0), (362, 1), (365, 2), (349, 3)], [], 6)
def V_X9_castOut : List (Nat × Nat) := [(0, 1), (9, 4), (36, 4), (47, 4), (72, 5), (76, 5), (77, 5), (100, 6), (101, 6), (102, 4), (108, 4)]
def B_X9_castOut : Bk := [(0, [.aload 0, .invokestatic 0, .istore 1, .iconst (-1), .istore 2, .iconst (0), .istore 3], 9), (9, [.iload 3, .iconst (1), .aload 0, .getfield 9320, .ishl, .if_icmp .ge 108, .iload 3, .iload 1, .iconst (-1), .ixor, .iand, .ifCond .ne 102, .iload 2, .iconst (-1), .if_icmp .ne 36, .iconst (-1), .goto 47], 36), (36, [.aload 0, .iload 3, .invokestatic 1, .aload 0, .iload 2, .invokestatic 1, .isub], 47), (47, [.istore 4, .iload 4, .ifCond .lt 72, .iload 4, .ifCond .ne 76, .aload 0, .iload 3, .invokestatic 2, .aload 0, .iload 2, .invokestatic 2, .if_icmp .le 76], 72), (72, [.iconst (1), .goto 77], 76), (76, [.iconst (0)], 77), (77, [.istore 5, .iload 5, .ifCond .eq 100, .aload 0, .iload 1, .iload 3, .iconst (-1), .ixor, .iand, .invokestatic 3, .ifCond .eq 100, .iload 3, .goto 101], 100), (100, [.iload 2], 101), (101, [.istore 2], 102), (102, [.iinc 3 1, .goto 9], 108), (108, [.iload 2, .ireturn], 110)]
theorem k_X9_castOut : chkB T_X9_castOut cX9_castOut B_X9_castOut = true := by decide +kernel
theorem cw_X9_castOut : calW Y_X9_castOut := ⟨pn_X9, Or.inr (Or.inl ⟨rfl, rfl⟩), w_1567, w_11, mh_X9, by decide⟩
theorem cl_X9_castOut {o : OM} {Y : Pk} {d d2 idx : Nat} {C : Ctr} (hS : Sound o Y_X9_castOut d2 C) (hd : d2 + 1 ≤ d) (hl : Cond.methodLink (yN Y).cls idx yX9_castOut ∈ wsG ∨ ∃ host, Cond.methodLinkNest (yN Y).cls idx yX9_castOut host ∈ nestW) : CallOK o Y d (.invokevirtual idx) (1, rcv 9 6 C) := callV_ok hS hd cw_X9_castOut hl w_1565 w_1566 (Or.inl ⟨TX9, 55, rfl⟩) (by decide +kernel)
def Y_X9_took : Pk := (yX9_took, cX9_took, 8, some .int, 1)
def T_X9_took : Tb := ([(16, 9032), (109, 9000)], [], [], [], [(136, 0), (379, 2)], [(250, 1)], 8)
def V_X9_took : List (Nat × Nat) := [(0, 4), (12, 4), (22, 4), (40, 4), (46, 6), (65, 6), (73, 6), (101, 7), (108, 7), (112, 7), (113, 7), (125, 8), (127, 8), (135, 6)]
def B_X9_took : Bk := [(0, [.aload 0, .iload 1, .iload 2, .invokestatic 0, .ifCond .ne 12, .iconst (-101), .ireturn], 12), (12, [.iload 3, .invokestatic 1, .ifCond .ne 22, .iconst (-102), .ireturn], 22), (22, [.aload 0, .getfield 9032, .iconst (16), .iload 1, .imul, .iload 2, .iadd, .iaload, .iconst (4), .if_icmp .eq 40, .iconst (-103), .ireturn], 40), (40, [.iconst (-1), .istore 4, .iconst (0), .istore 5], 46), (46, [.iload 5, .aload 0, .getfield 9000, .if_icmp .ge 135, .iload 5, .iload 1, .if_icmp .ne 65, .iconst (-1), .goto 73], 65), (65, [.aload 0, .iload 1, .iload 2, .iload 5, .invokestatic 2], 73), (73, [.istore 6, .iload 6, .iconst (-1), .if_icmp .eq 112, .iload 4, .iconst (-1), .if_icmp .eq 108, .iload 3, .ifCond .ne 101, .iload 6, .iload 4, .if_icmp .ge 112, .goto 108], 101), (101, [.iload 6, .iload 4, .if_icmp .le 112], 108), (108, [.iconst (1), .goto 113], 112), (112, [.iconst (0)], 113), (113, [.istore 7, .iload 7, .ifCond .eq 125, .iload 6, .goto 127], 125), (125, [.iload 4], 127), (127, [.istore 4, .iinc 5 1, .goto 46], 135), (135, [.iload 4, .ireturn], 138)]
theorem k_X9_took : chkB T_X9_took cX9_took B_X9_took = true := by decide +kernel
theorem cw_X9_took : calW Y_X9_took := ⟨pn_X9, Or.inr (Or.inl ⟨rfl, rfl⟩), w_1596, w_11, mh_X9, by decide⟩
theorem cl_X9_took {o : OM} {Y : Pk} {d d2 idx : Nat} {C : Ctr} (hS : Sound o Y_X9_took d2 C) (hd : d2 + 1 ≤ d) (hl : Cond.methodLink (yN Y).cls idx yX9_took ∈ wsG ∨ ∃ host, Cond.methodLinkNest (yN Y).cls idx yX9_took host ∈ nestW) : CallOK o Y d (.invokevirtual idx) (4, rcv 9 8 C) := callV_ok hS hd cw_X9_took hl w_1594 w_1595 (Or.inl ⟨TX9, 55, rfl⟩) (by decide +kernel)
def Y_X3_joinsThatHold : Pk := (yX3_joinsThatHold, cX3_joinsThatHold, 5, some .int, 1)
def T_X3_joinsThatHold : Tb := ([(59, 3022), (111, 0)], [], [], [], [(114, 0), (190, 1)], [], 5)
def V_X3_joinsThatHold : List (Nat × Nat) := [(0, 3), (5, 5), (47, 5), (53, 5)]
def B_X3_joinsThatHold : Bk := [(0, [.iconst (0), .istore 3, .iconst (0), .istore 4], 5), (5, [.iload 4, .aload 0, .getfield 3022, .getfield 0, .if_icmp .ge 53, .aload 0, .getfield 3022, .iload 4, .invokestatic 0, .ifCond .eq 47, .aload 0, .iload 4, .iload 1, .iload 2, .invokestatic 1, .ifCond .eq 47, .iload 3, .iconst (1), .iload 4, .ishl, .ior, .istore 3], 47), (47, [.iinc 4 1, .goto 5], 53), (53, [.iload 3, .ireturn], 55)]
theorem k_X3_joinsThatHold : chkB T_X3_joinsThatHold cX3_joinsThatHold B_X3_joinsThatHold = true := by decide +kernel
theorem cw_X3_joinsThatHold : calW Y_X3_joinsThatHold := ⟨pn_X3, Or.inr (Or.inl ⟨rfl, rfl⟩), w_953, w_10, mh_X3, by decide⟩
theorem cl_X3_joinsThatHold {o : OM} {Y : Pk} {d d2 idx : Nat} {C : Ctr} (hS : Sound o Y_X3_joinsThatHold d2 C) (hd : d2 + 1 ≤ d) (hl : Cond.methodLink (yN Y).cls idx yX3_joinsThatHold ∈ wsG ∨ ∃ host, Cond.methodLinkNest (yN Y).cls idx yX3_joinsThatHold host ∈ nestW) : CallOK o Y d (.invokevirtual idx) (3, rcv 3 5 C) := callV_ok hS hd cw_X3_joinsThatHold hl w_952 wp_69 (Or.inl ⟨TX3, 15, rfl⟩) (by decide +kernel)
def Y_X5_setTogether : Pk := (yX5_setTogether, cX5_setTogether, 4, none, 0)
def T_X5_setTogether : Tb := ([(67, 5002), (75, 6022), (24, 5060), (28, 5070), (9, 5022), (18, 5042), (15, 5032), (21, 5052), (71, 5012), (31, 5080), (34, 5090), (37, 5100), (40, 5110), (43, 5120), (46, 5130)], [], [], [], [(80, 0), (84, 1), (90, 2)], [], 4)
def V_X5_setTogether : List (Nat × Nat) := [(0, 4)]
def B_X5_setTogether : Bk := [(0, [.aload 0, .aload 0, .getfield 5002, .getfield 6022, .iload 2, .iaload, .putfield 5060, .aload 0, .aload 0, .getfield 5002, .getfield 6022, .iload 3, .iaload, .putfield 5070, .aload 0, .iload 2, .aload 0, .getfield 5022, .aload 0, .getfield 5042, .invokestatic 0, .aload 0, .iload 3, .aload 0, .getfield 5032, .aload 0, .getfield 5052, .invokestatic 0, .aload 0, .aload 0, .getfield 5012, .iload 1, .iconst (0), .invokestatic 1, .putfield 5080, .aload 0, .aload 0, .getfield 5012, .iload 1, .iconst (1), .invokestatic 1, .putfield 5090, .aload 0, .aload 0, .getfield 5012, .iload 1, .iconst (2), .invokestatic 1, .putfield 5100, .aload 0, .aload 0, .getfield 5012, .iload 1, .iconst (3), .invokestatic 1, .putfield 5110, .aload 0, .iconst (-1), .putfield 5120, .aload 0, .iconst (-1), .putfield 5130, .aload 0, .invokestatic 2, .return_], 119)]
theorem k_X5_setTogether : chkB T_X5_setTogether cX5_setTogether B_X5_setTogether = true := by decide +kernel
theorem cw_X5_setTogether : calW Y_X5_setTogether := ⟨pn_X5, Or.inl ⟨rfl, rfl⟩, w_688, w_9, mh_X5, by decide⟩
theorem cl_X5_setTogether {o : OM} {Y : Pk} {d d2 idx : Nat} {C : Ctr} (hS : Sound o Y_X5_setTogether d2 C) (hd : d2 + 1 ≤ d) (hl : Cond.methodLink (yN Y).cls idx yX5_setTogether ∈ wsG ∨ ∃ host, Cond.methodLinkNest (yN Y).cls idx yX5_setTogether host ∈ nestW) : CallOK o Y d (.invokevirtual idx) (4, rcv 5 4 C) := callV_ok hS hd cw_X5_setTogether hl w_687 wp_27 (Or.inl ⟨TX5, 20, rfl⟩) (by decide +kernel)
def Y_X5_leastWithout : Pk := (yX5_leastWithout, cX5_leastWithout, 3, some .int, 1)
def T_X5_leastWithout : Tb := ([(43, 5120), (46, 5130), (49, 5142)], [], [], [], [(90, 0)], [], 3)
def V_X5_leastWithout : List (Nat × Nat) := [(0, 3)]
def B_X5_leastWithout : Bk := [(0, [.aload 0, .iload 1, .putfield 5120, .aload 0, .iload 2, .putfield 5130, .aload 0, .invokestatic 0, .aload 0, .getfield 5142, .iconst (0), .iaload, .ireturn], 21)]
theorem k_X5_leastWithout : chkB T_X5_leastWithout cX5_leastWithout B_X5_leastWithout = true := by decide +kernel
theorem cw_X5_leastWithout : calW Y_X5_leastWithout := ⟨pn_X5, Or.inr (Or.inl ⟨rfl, rfl⟩), w_775, w_9, mh_X5, by decide⟩
theorem cl_X5_leastWithout {o : OM} {Y : Pk} {d d2 idx : Nat} {C : Ctr} (hS : Sound o Y_X5_leastWithout d2 C) (hd : d2 + 1 ≤ d) (hl : Cond.methodLink (yN Y).cls idx yX5_leastWithout ∈ wsG ∨ ∃ host, Cond.methodLinkNest (yN Y).cls idx yX5_leastWithout host ∈ nestW) : CallOK o Y d (.invokevirtual idx) (3, rcv 5 3 C) := callV_ok hS hd cw_X5_leastWithout hl w_774 wp_42 (Or.inl ⟨TX5, 20, rfl⟩) (by decide +kernel)
def Y_X8_closes : Pk := (yX8_closes, cX8_closes, 1, some .int, 1)
def T_X8_closes : Tb := ([(77, 8102)], [], [], [], [(267, 0)], [(247, 1)], 1)
def V_X8_closes : List (Nat × Nat) := [(0, 1)]
def B_X8_closes : Bk := [(0, [.aload 0, .getfield 8102, .invokestatic 0, .invokestatic 1, .ireturn], 11)]
theorem k_X8_closes : chkB T_X8_closes cX8_closes B_X8_closes = true := by decide +kernel
theorem cw_X8_closes : calW Y_X8_closes := ⟨pn_X8, Or.inr (Or.inl ⟨rfl, rfl⟩), w_828, w_1, mh_X8, by decide⟩
theorem cl_X8_closes {o : OM} {Y : Pk} {d d2 idx : Nat} {C : Ctr} (hS : Sound o Y_X8_closes d2 C) (hd : d2 + 1 ≤ d) (hl : Cond.methodLink (yN Y).cls idx yX8_closes ∈ wsG ∨ ∃ host, Cond.methodLinkNest (yN Y).cls idx yX8_closes host ∈ nestW) : CallOK o Y d (.invokevirtual idx) (1, rcv 8 1 C) := callV_ok hS hd cw_X8_closes hl w_826 w_827 (Or.inl ⟨TX8, 13, rfl⟩) (by decide +kernel)
def Y_X8_span : Pk := (yX8_span, cX8_span, 4, some .int, 1)
def T_X8_span : Tb := ([(10, 8002), (77, 8102)], [(182, (-100001)), (186, (-100002)), (271, (-100003))], [], [], [(99, 0), (267, 2), (272, 3)], [(88, 1)], 4)
def V_X8_span : List (Nat × Nat) := [(0, 4), (22, 4), (25, 4), (37, 4), (51, 4)]
def B_X8_span : Bk := [(0, [.aload 0, .getfield 8002, .iload 1, .invokestatic 0, .ifCond .eq 22, .aload 0, .getfield 8002, .iload 2, .invokestatic 0, .ifCond .ne 25], 22), (22, [.iconst (-100001), .ireturn], 25), (25, [.iload 3, .iconst (0), .iconst (1), .invokestatic 1, .ifCond .ne 37, .iconst (-100002), .ireturn], 37), (37, [.aload 0, .getfield 8102, .invokestatic 2, .ifCond .ne 51, .iconst (-100003), .ireturn], 51), (51, [.aload 0, .iload 1, .iload 2, .iload 3, .invokestatic 3, .ireturn], 59)]
theorem k_X8_span : chkB T_X8_span cX8_span B_X8_span = true := by decide +kernel
theorem cw_X8_span : calW Y_X8_span := ⟨pn_X8, Or.inr (Or.inl ⟨rfl, rfl⟩), w_878, w_1, mh_X8, by decide⟩
theorem cl_X8_span {o : OM} {Y : Pk} {d d2 idx : Nat} {C : Ctr} (hS : Sound o Y_X8_span d2 C) (hd : d2 + 1 ≤ d) (hl : Cond.methodLink (yN Y).cls idx yX8_span ∈ wsG ∨ ∃ host, Cond.methodLinkNest (yN Y).cls idx yX8_span host ∈ nestW) : CallOK o Y d (.invokevirtual idx) (4, rcv 8 4 C) := callV_ok hS hd cw_X8_span hl w_876 w_877 (Or.inl ⟨TX8, 13, rfl⟩) (by decide +kernel)
def Y_X8_date : Pk := (yX8_date, cX8_date, 4, some .int, 1)
def T_X8_date : Tb := ([(10, 8002), (77, 8102), (45, 8062)], [(182, (-100001)), (186, (-100002)), (271, (-100003)), (190, (-100004))], [], [], [(114, 0), (267, 2), (275, 3), (278, 4), (176, 5)], [(88, 1)], 4)
def V_X8_date : List (Nat × Nat) := [(0, 4), (15, 4), (27, 4), (41, 4), (57, 4)]
def B_X8_date : Bk := [(0, [.aload 0, .getfield 8002, .iload 1, .iload 2, .invokestatic 0, .ifCond .ne 15, .iconst (-100001), .ireturn], 15), (15, [.iload 3, .iconst (0), .iconst (1), .invokestatic 1, .ifCond .ne 27, .iconst (-100002), .ireturn], 27), (27, [.aload 0, .getfield 8102, .invokestatic 2, .ifCond .ne 41, .iconst (-100003), .ireturn], 41), (41, [.aload 0, .getfield 8102, .iconst (7), .iload 1, .invokestatic 3, .ifCond .eq 57, .iconst (-100004), .ireturn], 57), (57, [.aload 0, .getfield 8102, .iconst (7), .iload 1, .iload 3, .invokestatic 4, .aload 0, .getfield 8062, .iconst (-1), .iload 1, .iload 2, .invokestatic 5, .iadd, .ireturn], 80)]
theorem k_X8_date : chkB T_X8_date cX8_date B_X8_date = true := by decide +kernel
theorem cw_X8_date : calW Y_X8_date := ⟨pn_X8, Or.inr (Or.inl ⟨rfl, rfl⟩), w_895, w_1, mh_X8, by decide⟩
theorem cl_X8_date {o : OM} {Y : Pk} {d d2 idx : Nat} {C : Ctr} (hS : Sound o Y_X8_date d2 C) (hd : d2 + 1 ≤ d) (hl : Cond.methodLink (yN Y).cls idx yX8_date ∈ wsG ∨ ∃ host, Cond.methodLinkNest (yN Y).cls idx yX8_date host ∈ nestW) : CallOK o Y d (.invokevirtual idx) (4, rcv 8 4 C) := callV_ok hS hd cw_X8_date hl w_893 w_894 (Or.inl ⟨TX8, 13, rfl⟩) (by decide +kernel)
def Y_X8_castOut : Pk := (yX8_castOut, cX8_castOut, 1, some .int, 1)
def T_X8_castOut : Tb := ([(77, 8102)], [], [], [], [(290, 0)], [], 1)
def V_X8_castOut : List (Nat × Nat) := [(0, 1)]
def B_X8_castOut : Bk := [(0, [.aload 0, .getfield 8102, .invokestatic 0, .ireturn], 8)]
theorem k_X8_castOut : chkB T_X8_castOut cX8_castOut B_X8_castOut = true := by decide +kernel
theorem cw_X8_castOut : calW Y_X8_castOut := ⟨pn_X8, Or.inr (Or.inl ⟨rfl, rfl⟩), w_929, w_1, mh_X8, by decide⟩
theorem cl_X8_castOut {o : OM} {Y : Pk} {d d2 idx : Nat} {C : Ctr} (hS : Sound o Y_X8_castOut d2 C) (hd : d2 + 1 ≤ d) (hl : Cond.methodLink (yN Y).cls idx yX8_castOut ∈ wsG ∨ ∃ host, Cond.methodLinkNest (yN Y).cls idx yX8_castOut host ∈ nestW) : CallOK o Y d (.invokevirtual idx) (1, rcv 8 1 C) := callV_ok hS hd cw_X8_castOut hl w_927 w_928 (Or.inl ⟨TX8, 13, rfl⟩) (by decide +kernel)
def Y_X8_dig : Pk := (yX8_dig, cX8_dig, 2, some .int, 1)
def T_X8_dig : Tb := ([(85, 8120), (77, 8102), (299, 3120), (302, 3130), (305, 3140)], [], [], [], [(267, 1), (296, 2)], [(88, 0)], 2)
def V_X8_dig : List (Nat × Nat) := [(0, 2), (12, 2), (31, 2), (34, 2), (63, 2), (78, 2), (85, 2)]
def B_X8_dig : Bk := [(0, [.iload 1, .iconst (0), .iconst (2), .invokestatic 0, .ifCond .ne 12, .iconst (-102), .ireturn], 12), (12, [.aload 0, .getfield 8120, .iconst (8), .if_icmp .ge 31, .aload 0, .getfield 8102, .invokestatic 1, .ifCond .ne 34], 31), (31, [.iconst (-103), .ireturn], 34), (34, [.aload 0, .dup, .getfield 8120, .iconst (1), .iadd, .putfield 8120, .aload 0, .getfield 8102, .invokestatic 2, .iload 1, .ifCond .ne 63, .aload 0, .getfield 8102, .getfield 3120, .ireturn], 63), (63, [.iload 1, .iconst (1), .if_icmp .ne 78, .aload 0, .getfield 8102, .getfield 3130, .goto 85], 78), (78, [.aload 0, .getfield 8102, .getfield 3140], 85), (85, [.ireturn], 86)]
theorem k_X8_dig : chkB T_X8_dig cX8_dig B_X8_dig = true := by decide +kernel
theorem cw_X8_dig : calW Y_X8_dig := ⟨pn_X8, Or.inr (Or.inl ⟨rfl, rfl⟩), w_961, w_1, mh_X8, by decide⟩
theorem cl_X8_dig {o : OM} {Y : Pk} {d d2 idx : Nat} {C : Ctr} (hS : Sound o Y_X8_dig d2 C) (hd : d2 + 1 ≤ d) (hl : Cond.methodLink (yN Y).cls idx yX8_dig ∈ wsG ∨ ∃ host, Cond.methodLinkNest (yN Y).cls idx yX8_dig host ∈ nestW) : CallOK o Y d (.invokevirtual idx) (2, rcv 8 2 C) := callV_ok hS hd cw_X8_dig hl w_959 w_960 (Or.inl ⟨TX8, 13, rfl⟩) (by decide +kernel)
def Y_X8_pace : Pk := (yX8_pace, cX8_pace, 10, some .int, 1)
def T_X8_pace : Tb := ([(10, 8002), (308, 6012), (77, 8102)], [], [], [], [(99, 0), (267, 3), (275, 4), (278, 5)], [(88, 1), (311, 2), (316, 6), (319, 7), (201, 8)], 10)
def V_X8_pace : List (Nat × Nat) := [(0, 5), (22, 5), (25, 5), (44, 5), (47, 5), (98, 6), (101, 6), (138, 8), (179, 10), (181, 10)]
def B_X8_pace : Bk := [(0, [.aload 0, .getfield 8002, .iload 1, .invokestatic 0, .ifCond .eq 22, .aload 0, .getfield 8002, .iload 2, .invokestatic 0, .ifCond .ne 25], 22), (22, [.iconst (-101), .ireturn], 25), (25, [.iload 3, .iconst (0), .iconst (1), .invokestatic 1, .ifCond .eq 44, .iload 4, .iconst (0), .iconst (1), .invokestatic 1, .ifCond .ne 47], 44), (44, [.iconst (-102), .ireturn], 47), (47, [.aload 0, .getfield 8002, .getfield 6012, .iload 1, .iaload, .aload 0, .getfield 8002, .getfield 6012, .iload 2, .iaload, .isub, .invokestatic 2, .istore 5, .iload 5, .ifCond .eq 98, .aload 0, .getfield 8102, .invokestatic 3, .ifCond .eq 98, .aload 0, .getfield 8102, .iload 1, .iload 2, .invokestatic 4, .ifCond .eq 101], 98), (98, [.iconst (-103), .ireturn], 101), (101, [.aload 0, .getfield 8102, .iload 1, .iload 2, .iconst (0), .invokestatic 5, .istore 6, .aload 0, .getfield 8102, .iload 1, .iload 2, .iconst (1), .invokestatic 5, .istore 7, .iload 6, .ifCond .gt 138, .iload 7, .ifCond .lt 138, .iconst (-103), .ireturn], 138), (138, [.iload 6, .invokestatic 2, .iload 7, .invokestatic 2, .invokestatic 6, .istore 8, .iload 6, .invokestatic 2, .iload 7, .invokestatic 2, .invokestatic 7, .istore 9, .iload 5, .iload 3, .ifCond .ne 179, .iload 8, .goto 181], 179), (179, [.iload 9], 181), (181, [.iload 4, .invokestatic 8, .ireturn], 187)]
theorem k_X8_pace : chkB T_X8_pace cX8_pace B_X8_pace = true := by decide +kernel
theorem cw_X8_pace : calW Y_X8_pace := ⟨pn_X8, Or.inr (Or.inl ⟨rfl, rfl⟩), w_990, w_1, mh_X8, by decide⟩
theorem cl_X8_pace {o : OM} {Y : Pk} {d d2 idx : Nat} {C : Ctr} (hS : Sound o Y_X8_pace d2 C) (hd : d2 + 1 ≤ d) (hl : Cond.methodLink (yN Y).cls idx yX8_pace ∈ wsG ∨ ∃ host, Cond.methodLinkNest (yN Y).cls idx yX8_pace host ∈ nestW) : CallOK o Y d (.invokevirtual idx) (5, rcv 8 10 C) := callV_ok hS hd cw_X8_pace hl w_988 w_989 (Or.inl ⟨TX8, 13, rfl⟩) (by decide +kernel)
def Y_X8_tookBy : Pk := (yX8_tookBy, cX8_tookBy, 10, some .int, 1)
def T_X8_tookBy : Tb := ([(10, 8002), (45, 8062)], [], [], [], [(386, 0), (389, 1), (380, 2), (392, 3), (395, 4), (176, 5)], [(316, 6)], 10)
def V_X8_tookBy : List (Nat × Nat) := [(0, 4), (36, 6), (38, 6), (106, 8), (108, 8)]
def B_X8_tookBy : Bk := [(0, [.aload 0, .getfield 8002, .iload 1, .iload 2, .iload 3, .invokestatic 0, .istore 4, .aload 0, .getfield 8002, .iload 1, .iload 2, .iload 3, .invokestatic 1, .istore 5, .iload 4, .iconst (-1), .if_icmp .eq 36, .iload 5, .iconst (-1), .if_icmp .ne 38], 36), (36, [.iconst (-1), .ireturn], 38), (38, [.aload 0, .getfield 8002, .iload 3, .aload 0, .getfield 8002, .iload 1, .iload 4, .invokestatic 2, .invokestatic 3, .istore 6, .aload 0, .getfield 8002, .iload 3, .aload 0, .getfield 8002, .iload 1, .iload 5, .invokestatic 2, .invokestatic 3, .istore 7, .iload 6, .iconst (-1), .if_icmp .eq 106, .iload 7, .iload 6, .if_icmp .le 106, .aload 0, .getfield 8002, .iload 3, .iload 6, .iload 7, .invokestatic 4, .ifCond .eq 108], 106), (106, [.iconst (-1), .ireturn], 108), (108, [.aload 0, .getfield 8062, .iconst (-1), .iload 3, .iload 7, .invokestatic 5, .aload 0, .getfield 8062, .iconst (-1), .iload 3, .iload 6, .invokestatic 5, .isub, .istore 8, .aload 0, .getfield 8062, .iconst (-1), .iload 1, .iload 5, .invokestatic 5, .aload 0, .getfield 8062, .iconst (-1), .iload 1, .iload 4, .invokestatic 5, .isub, .istore 9, .iconst (0), .iload 8, .iload 9, .aload 0, .getfield 8002, .iload 1, .iload 2, .invokestatic 2, .isub, .isub, .invokestatic 6, .ireturn], 178)]
theorem k_X8_tookBy : chkB T_X8_tookBy cX8_tookBy B_X8_tookBy = true := by decide +kernel
theorem cw_X8_tookBy : calW Y_X8_tookBy := ⟨pn_X8, Or.inr (Or.inl ⟨rfl, rfl⟩), w_1001, w_1, mh_X8, by decide⟩
theorem cl_X8_tookBy {o : OM} {Y : Pk} {d d2 idx : Nat} {C : Ctr} (hS : Sound o Y_X8_tookBy d2 C) (hd : d2 + 1 ≤ d) (hl : Cond.methodLink (yN Y).cls idx yX8_tookBy ∈ wsG ∨ ∃ host, Cond.methodLinkNest (yN Y).cls idx yX8_tookBy host ∈ nestW) : CallOK o Y d (.invokevirtual idx) (4, rcv 8 10 C) := callV_ok hS hd cw_X8_tookBy hl w_1000 wp_76 (Or.inl ⟨TX8, 13, rfl⟩) (by decide +kernel)
def Y_X8_foldNet : Pk := (yX8_foldNet, cX8_foldNet, 6, some .long, 3)
def T_X8_foldNet : Tb := ([(77, 8102), (19, 8012), (264, 103), (10, 8002), (92, 6000)], [], [], [], [(267, 0), (272, 3), (281, 4), (284, 5)], [(247, 1), (363, 2)], 6)
def V_X8_foldNet : List (Nat × Nat) := [(0, 3), (37, 5), (59, 6), (107, 6), (113, 5)]
def B_X8_foldNet : Bk := [(0, [.aload 0, .getfield 8102, .invokestatic 0, .istore 3, .lload 1, .aload 0, .getfield 8012, .getfield 103, .invokestatic 1, .i2l, .invokestatic 2, .lstore 1, .lload 1, .iload 3, .invokestatic 1, .i2l, .invokestatic 2, .lstore 1, .iconst (0), .istore 4], 37), (37, [.iload 3, .ifCond .eq 113, .iload 4, .aload 0, .getfield 8002, .getfield 6000, .if_icmp .ge 113, .iload 4, .iconst (1), .iadd, .istore 5], 59), (59, [.iload 5, .aload 0, .getfield 8002, .getfield 6000, .if_icmp .ge 107, .lload 1, .aload 0, .iload 4, .iload 5, .iconst (0), .invokestatic 3, .i2l, .invokestatic 2, .lstore 1, .lload 1, .aload 0, .iload 4, .iload 5, .iconst (1), .invokestatic 3, .i2l, .invokestatic 2, .lstore 1, .iinc 5 1, .goto 59], 107), (107, [.iinc 4 1, .goto 37], 113), (113, [.aload 0, .getfield 8102, .invokestatic 4, .lload 1, .aload 0, .getfield 8102, .invokestatic 5, .i2l, .invokestatic 2, .lreturn], 133)]
theorem k_X8_foldNet : chkB T_X8_foldNet cX8_foldNet B_X8_foldNet = true := by decide +kernel
theorem cw_X8_foldNet : calW Y_X8_foldNet := ⟨pn_X8, Or.inr (Or.inr (Or.inr (Or.inl ⟨rfl, rfl⟩))), w_1080, w_1, mh_X8, by decide⟩
theorem cl_X8_foldNet {o : OM} {Y : Pk} {d d2 idx : Nat} {C : Ctr} (hS : Sound o Y_X8_foldNet d2 C) (hd : d2 + 1 ≤ d) (hl : Cond.methodLink (yN Y).cls idx yX8_foldNet ∈ wsG ∨ ∃ host, Cond.methodLinkNest (yN Y).cls idx yX8_foldNet host ∈ nestW) : CallOK o Y d (.invokevirtual idx) (2, rcv 8 6 C) := callV_ok hS hd cw_X8_foldNet hl w_1079 wp_88 (Or.inl ⟨TX8, 13, rfl⟩) (by decide +kernel)
def Y_X9_closes : Pk := (yX9_closes, cX9_closes, 1, some .int, 1)
def T_X9_closes : Tb := ([], [], [], [], [(352, 0)], [], 1)
def V_X9_closes : List (Nat × Nat) := [(0, 1), (11, 1), (12, 1)]
def B_X9_closes : Bk := [(0, [.aload 0, .invokestatic 0, .ifCond .eq 11, .iconst (1), .goto 12], 11), (11, [.iconst (0)], 12), (12, [.ireturn], 13)]
theorem k_X9_closes : chkB T_X9_closes cX9_closes B_X9_closes = true := by decide +kernel
theorem cw_X9_closes : calW Y_X9_closes := ⟨pn_X9, Or.inr (Or.inl ⟨rfl, rfl⟩), w_1516, w_11, mh_X9, by decide⟩
theorem cl_X9_closes {o : OM} {Y : Pk} {d d2 idx : Nat} {C : Ctr} (hS : Sound o Y_X9_closes d2 C) (hd : d2 + 1 ≤ d) (hl : Cond.methodLink (yN Y).cls idx yX9_closes ∈ wsG ∨ ∃ host, Cond.methodLinkNest (yN Y).cls idx yX9_closes host ∈ nestW) : CallOK o Y d (.invokevirtual idx) (1, rcv 9 1 C) := callV_ok hS hd cw_X9_closes hl w_1514 w_1515 (Or.inl ⟨TX9, 55, rfl⟩) (by decide +kernel)
def Y_X9_span : Pk := (yX9_span, cX9_span, 4, some .int, 1)
def T_X9_span : Tb := ([(80, 9432)], [(225, (-100001)), (236, (-100002)), (355, (-100003)), (240, (-100004))], [], [], [(116, 0), (352, 2), (356, 3)], [(250, 1)], 4)
def V_X9_span : List (Nat × Nat) := [(0, 4), (16, 4), (19, 4), (29, 4), (40, 4), (54, 4), (73, 4), (84, 4)]
def B_X9_span : Bk := [(0, [.aload 0, .iload 1, .invokestatic 0, .ifCond .eq 16, .aload 0, .iload 2, .invokestatic 0, .ifCond .ne 19], 16), (16, [.iconst (-100001), .ireturn], 19), (19, [.iload 3, .invokestatic 1, .ifCond .ne 29, .iconst (-100002), .ireturn], 29), (29, [.aload 0, .invokestatic 2, .ifCond .ne 40, .iconst (-100003), .ireturn], 40), (40, [.aload 0, .iload 1, .iload 2, .invokestatic 3, .ifCond .eq 54, .iconst (-100004), .goto 84], 54), (54, [.iload 3, .ifCond .ne 73, .aload 0, .getfield 9432, .iconst (8), .iload 2, .imul, .iload 1, .iadd, .iaload, .ineg, .goto 84], 73), (73, [.aload 0, .getfield 9432, .iconst (8), .iload 1, .imul, .iload 2, .iadd, .iaload], 84), (84, [.ireturn], 85)]
theorem k_X9_span : chkB T_X9_span cX9_span B_X9_span = true := by decide +kernel
theorem cw_X9_span : calW Y_X9_span := ⟨pn_X9, Or.inr (Or.inl ⟨rfl, rfl⟩), w_1546, w_11, mh_X9, by decide⟩
theorem cl_X9_span {o : OM} {Y : Pk} {d d2 idx : Nat} {C : Ctr} (hS : Sound o Y_X9_span d2 C) (hd : d2 + 1 ≤ d) (hl : Cond.methodLink (yN Y).cls idx yX9_span ∈ wsG ∨ ∃ host, Cond.methodLinkNest (yN Y).cls idx yX9_span host ∈ nestW) : CallOK o Y d (.invokevirtual idx) (4, rcv 9 4 C) := callV_ok hS hd cw_X9_span hl w_1544 w_1545 (Or.inl ⟨TX9, 55, rfl⟩) (by decide +kernel)
def Y_X9_date : Pk := (yX9_date, cX9_date, 4, some .int, 1)
def T_X9_date : Tb := ([(80, 9432)], [(225, (-100001)), (236, (-100002)), (355, (-100003)), (240, (-100004))], [], [], [(136, 0), (352, 2), (356, 3), (222, 4)], [(250, 1)], 4)
def V_X9_date : List (Nat × Nat) := [(0, 4), (12, 4), (22, 4), (33, 4), (48, 4), (75, 4), (84, 4), (85, 4)]
def B_X9_date : Bk := [(0, [.aload 0, .iload 1, .iload 2, .invokestatic 0, .ifCond .ne 12, .iconst (-100001), .ireturn], 12), (12, [.iload 3, .invokestatic 1, .ifCond .ne 22, .iconst (-100002), .ireturn], 22), (22, [.aload 0, .invokestatic 2, .ifCond .ne 33, .iconst (-100003), .ireturn], 33), (33, [.aload 0, .iconst (7), .iload 1, .invokestatic 3, .ifCond .eq 48, .iconst (-100004), .goto 85], 48), (48, [.aload 0, .iconst (-1), .iload 1, .iload 2, .invokestatic 4, .iload 3, .ifCond .ne 75, .aload 0, .getfield 9432, .iconst (8), .iload 1, .imul, .iconst (7), .iadd, .iaload, .ineg, .goto 84], 75), (75, [.aload 0, .getfield 9432, .iconst (56), .iload 1, .iadd, .iaload], 84), (84, [.iadd], 85), (85, [.ireturn], 86)]
theorem k_X9_date : chkB T_X9_date cX9_date B_X9_date = true := by decide +kernel
theorem cw_X9_date : calW Y_X9_date := ⟨pn_X9, Or.inr (Or.inl ⟨rfl, rfl⟩), w_1555, w_11, mh_X9, by decide⟩
theorem cl_X9_date {o : OM} {Y : Pk} {d d2 idx : Nat} {C : Ctr} (hS : Sound o Y_X9_date d2 C) (hd : d2 + 1 ≤ d) (hl : Cond.methodLink (yN Y).cls idx yX9_date ∈ wsG ∨ ∃ host, Cond.methodLinkNest (yN Y).cls idx yX9_date host ∈ nestW) : CallOK o Y d (.invokevirtual idx) (4, rcv 9 4 C) := callV_ok hS hd cw_X9_date hl w_1553 w_1554 (Or.inl ⟨TX9, 55, rfl⟩) (by decide +kernel)
def Y_X9_layCalendars : Pk := (yX9_layCalendars, cX9_layCalendars, 4, some .int, 1)
def T_X9_layCalendars : Tb := ([(109, 9000), (83, 9442)], [], [], [], [(352, 0), (356, 1)], [], 4)
def V_X9_layCalendars : List (Nat × Nat) := [(0, 1), (9, 3), (26, 4), (64, 4), (70, 4), (77, 4), (97, 4), (103, 3)]
def B_X9_layCalendars : Bk := [(0, [.aload 0, .invokestatic 0, .pop, .iconst (0), .istore 1, .iconst (0), .istore 2], 9), (9, [.iload 2, .aload 0, .getfield 9000, .if_icmp .ge 103, .aload 0, .getfield 9442, .iload 2, .iconst (-1), .iastore, .iconst (0), .istore 3], 26), (26, [.iload 3, .iload 2, .if_icmp .ge 77, .aload 0, .getfield 9442, .iload 2, .aload 0, .getfield 9442, .iload 2, .iaload, .iconst (-1), .if_icmp .ne 64, .aload 0, .iload 2, .iload 3, .invokestatic 1, .ifCond .ne 64, .aload 0, .getfield 9442, .iload 3, .iaload, .goto 70], 64), (64, [.aload 0, .getfield 9442, .iload 2, .iaload], 70), (70, [.iastore, .iinc 3 1, .goto 26], 77), (77, [.aload 0, .getfield 9442, .iload 2, .iaload, .iconst (-1), .if_icmp .ne 97, .aload 0, .getfield 9442, .iload 2, .iload 1, .iastore, .iinc 1 1], 97), (97, [.iinc 2 1, .goto 9], 103), (103, [.iload 1, .ireturn], 105)]
theorem k_X9_layCalendars : chkB T_X9_layCalendars cX9_layCalendars B_X9_layCalendars = true := by decide +kernel
theorem cw_X9_layCalendars : calW Y_X9_layCalendars := ⟨pn_X9, Or.inr (Or.inl ⟨rfl, rfl⟩), w_1563, w_11, mh_X9, by decide⟩
theorem cl_X9_layCalendars {o : OM} {Y : Pk} {d d2 idx : Nat} {C : Ctr} (hS : Sound o Y_X9_layCalendars d2 C) (hd : d2 + 1 ≤ d) (hl : Cond.methodLink (yN Y).cls idx yX9_layCalendars ∈ wsG ∨ ∃ host, Cond.methodLinkNest (yN Y).cls idx yX9_layCalendars host ∈ nestW) : CallOK o Y d (.invokevirtual idx) (1, rcv 9 4 C) := callV_ok hS hd cw_X9_layCalendars hl w_1562 wp_118 (Or.inl ⟨TX9, 55, rfl⟩) (by decide +kernel)
def Y_X9_hangs : Pk := (yX9_hangs, cX9_hangs, 8, some .int, 1)
def T_X9_hangs : Tb := ([(80, 9432), (325, 9320)], [], [], [], [(116, 0), (352, 1), (356, 2), (345, 3), (349, 4)], [], 8)
def V_X9_hangs : List (Nat × Nat) := [(0, 3), (16, 3), (19, 3), (35, 3), (38, 3), (75, 8), (141, 8), (148, 8), (149, 8), (152, 8), (158, 8)]
def B_X9_hangs : Bk := [(0, [.aload 0, .iload 1, .invokestatic 0, .ifCond .eq 16, .aload 0, .iload 2, .invokestatic 0, .ifCond .ne 19], 16), (16, [.iconst (-101), .ireturn], 19), (19, [.aload 0, .invokestatic 1, .ifCond .eq 35, .aload 0, .iload 1, .iload 2, .invokestatic 2, .ifCond .eq 38], 35), (35, [.iconst (-103), .ireturn], 38), (38, [.aload 0, .invokestatic 3, .istore 3, .aload 0, .getfield 9432, .iconst (8), .iload 2, .imul, .iload 1, .iadd, .iaload, .istore 4, .aload 0, .getfield 9432, .iconst (8), .iload 1, .imul, .iload 2, .iadd, .iaload, .istore 5, .iconst (0), .istore 6, .iconst (0), .istore 7], 75), (75, [.iload 7, .aload 0, .getfield 9320, .if_icmp .ge 158, .iload 3, .iload 7, .ishr, .iconst (1), .iand, .iconst (1), .if_icmp .ne 152, .aload 0, .iload 3, .iconst (1), .iload 7, .ishl, .iconst (-1), .ixor, .iand, .invokestatic 4, .pop, .iload 6, .aload 0, .getfield 9432, .iconst (8), .iload 1, .imul, .iload 2, .iadd, .iaload, .iload 5, .if_icmp .ne 141, .aload 0, .getfield 9432, .iconst (8), .iload 2, .imul, .iload 1, .iadd, .iaload, .iload 4, .if_icmp .eq 148], 141), (141, [.iconst (1), .iload 7, .ishl, .goto 149], 148), (148, [.iconst (0)], 149), (149, [.ior, .istore 6], 152), (152, [.iinc 7 1, .goto 75], 158), (158, [.iload 6, .ireturn], 161)]
theorem k_X9_hangs : chkB T_X9_hangs cX9_hangs B_X9_hangs = true := by decide +kernel
theorem cw_X9_hangs : calW Y_X9_hangs := ⟨pn_X9, Or.inr (Or.inl ⟨rfl, rfl⟩), w_1579, w_11, mh_X9, by decide⟩
theorem cl_X9_hangs {o : OM} {Y : Pk} {d d2 idx : Nat} {C : Ctr} (hS : Sound o Y_X9_hangs d2 C) (hd : d2 + 1 ≤ d) (hl : Cond.methodLink (yN Y).cls idx yX9_hangs ∈ wsG ∨ ∃ host, Cond.methodLinkNest (yN Y).cls idx yX9_hangs host ∈ nestW) : CallOK o Y d (.invokevirtual idx) (3, rcv 9 8 C) := callV_ok hS hd cw_X9_hangs hl w_1577 w_1578 (Or.inl ⟨TX9, 55, rfl⟩) (by decide +kernel)
def Y_X9_dig : Pk := (yX9_dig, cX9_dig, 11, some .int, 1)
def T_X9_dig : Tb := ([(368, 9450), (109, 9000), (80, 9432)], [], [(144, 2), (371, 40)], [], [(352, 1), (356, 2), (334, 3), (341, 4), (373, 5)], [(112, 0)], 11)
def V_X9_dig : List (Nat × Nat) := [(0, 2), (15, 2), (31, 2), (34, 2), (54, 6), (69, 7), (148, 11), (193, 11), (195, 11), (203, 11), (216, 11), (220, 11), (221, 11), (233, 11), (234, 11), (245, 11), (246, 11), (257, 11), (259, 11), (261, 9), (267, 7), (273, 6), (281, 6), (290, 6), (292, 6)]
def B_X9_dig : Bk := [(0, [.iload 1, .i2l, .jsr 0, .jsr (2), .invokestatic 0, .ifCond .ne 15, .iconst (-102), .ireturn], 15), (15, [.aload 0, .invokestatic 1, .ifCond .eq 31, .aload 0, .getfield 9450, .iconst (8), .if_icmp .ne 34], 31), (31, [.iconst (-103), .ireturn], 34), (34, [.aload 0, .dup, .getfield 9450, .iconst (1), .iadd, .putfield 9450, .iconst (-1), .istore 2, .iconst (-1), .istore 3, .iconst (-1), .istore 4, .iconst (0), .istore 5], 54), (54, [.iload 5, .aload 0, .getfield 9000, .if_icmp .ge 273, .iload 5, .iconst (1), .iadd, .istore 6], 69), (69, [.iload 6, .aload 0, .getfield 9000, .if_icmp .ge 267, .aload 0, .invokestatic 1, .pop, .aload 0, .getfield 9432, .iconst (8), .iload 6, .imul, .iload 5, .iadd, .iaload, .ineg, .istore 7, .aload 0, .getfield 9432, .iconst (8), .iload 5, .imul, .iload 6, .iadd, .iaload, .istore 8, .aload 0, .iload 5, .iload 6, .invokestatic 2, .ifCond .ne 261, .iload 8, .iload 7, .isub, .i2l, .jsr 1, .jsr (40), .invokestatic 0, .ifCond .eq 261, .iconst (0), .istore 9, .iload 7, .istore 10], 148), (148, [.iload 10, .iload 8, .if_icmp .gt 203, .aload 0, .invokestatic 1, .pop, .aload 0, .iload 5, .iload 6, .iload 10, .iload 10, .invokestatic 3, .aload 0, .invokestatic 4, .pop, .aload 0, .invokestatic 5, .iload 9, .if_icmp .le 193, .aload 0, .invokestatic 5, .goto 195], 193), (193, [.iload 9], 195), (195, [.istore 9, .iinc 10 1, .goto 148], 203), (203, [.iload 4, .iconst (-1), .if_icmp .eq 216, .iload 9, .iload 4, .if_icmp .ge 220], 216), (216, [.iconst (1), .goto 221], 220), (220, [.iconst (0)], 221), (221, [.istore 10, .iload 10, .ifCond .eq 233, .iload 5, .goto 234], 233), (233, [.iload 2], 234), (234, [.istore 2, .iload 10, .ifCond .eq 245, .iload 6, .goto 246], 245), (245, [.iload 3], 246), (246, [.istore 3, .iload 10, .ifCond .eq 257, .iload 9, .goto 259], 257), (257, [.iload 4], 259), (259, [.istore 4], 261), (261, [.iinc 6 1, .goto 69], 267), (267, [.iinc 5 1, .goto 54], 273), (273, [.iload 1, .ifCond .ne 281, .iload 2, .goto 292], 281), (281, [.iload 1, .iconst (1), .if_icmp .ne 290, .iload 3, .goto 292], 290), (290, [.iload 4], 292), (292, [.ireturn], 293)]
theorem k_X9_dig : chkB T_X9_dig cX9_dig B_X9_dig = true := by decide +kernel
theorem cw_X9_dig : calW Y_X9_dig := ⟨pn_X9, Or.inr (Or.inl ⟨rfl, rfl⟩), w_1583, w_11, mh_X9, by decide⟩
theorem cl_X9_dig {o : OM} {Y : Pk} {d d2 idx : Nat} {C : Ctr} (hS : Sound o Y_X9_dig d2 C) (hd : d2 + 1 ≤ d) (hl : Cond.methodLink (yN Y).cls idx yX9_dig ∈ wsG ∨ ∃ host, Cond.methodLinkNest (yN Y).cls idx yX9_dig host ∈ nestW) : CallOK o Y d (.invokevirtual idx) (2, rcv 9 11 C) := callV_ok hS hd cw_X9_dig hl w_1581 w_1582 (Or.inl ⟨TX9, 55, rfl⟩) (by decide +kernel)
def Y_X9_pace : Pk := (yX9_pace, cX9_pace, 9, some .int, 1)
def T_X9_pace : Tb := ([(7, 9012), (80, 9432)], [], [], [], [(116, 0), (352, 2), (356, 3)], [(250, 1), (281, 4), (253, 5)], 9)
def V_X9_pace : List (Nat × Nat) := [(0, 5), (16, 5), (19, 5), (34, 5), (37, 5), (68, 5), (71, 5), (111, 7), (132, 7), (137, 7), (180, 9), (182, 9)]
def B_X9_pace : Bk := [(0, [.aload 0, .iload 1, .invokestatic 0, .ifCond .eq 16, .aload 0, .iload 2, .invokestatic 0, .ifCond .ne 19], 16), (16, [.iconst (-101), .ireturn], 19), (19, [.iload 3, .invokestatic 1, .ifCond .eq 34, .iload 4, .invokestatic 1, .ifCond .ne 37], 34), (34, [.iconst (-102), .ireturn], 37), (37, [.aload 0, .getfield 9012, .iload 1, .iaload, .aload 0, .getfield 9012, .iload 2, .iaload, .if_icmp .eq 68, .aload 0, .invokestatic 2, .ifCond .eq 68, .aload 0, .iload 1, .iload 2, .invokestatic 3, .ifCond .eq 71], 68), (68, [.iconst (-103), .ireturn], 71), (71, [.aload 0, .getfield 9432, .iconst (8), .iload 2, .imul, .iload 1, .iadd, .iaload, .ineg, .istore 5, .aload 0, .getfield 9432, .iconst (8), .iload 1, .imul, .iload 2, .iadd, .iaload, .istore 6, .iload 5, .ifCond .gt 111, .iload 6, .ifCond .lt 111, .iconst (-103), .ireturn], 111), (111, [.iload 5, .invokestatic 4, .iload 6, .invokestatic 4, .if_icmp .ge 132, .iload 5, .invokestatic 4, .goto 137], 132), (132, [.iload 6, .invokestatic 4], 137), (137, [.istore 7, .iload 5, .invokestatic 4, .iload 6, .invokestatic 4, .iadd, .iload 7, .isub, .istore 8, .aload 0, .getfield 9012, .iload 1, .iaload, .aload 0, .getfield 9012, .iload 2, .iaload, .isub, .invokestatic 4, .iload 3, .ifCond .ne 180, .iload 8, .goto 182], 180), (180, [.iload 7], 182), (182, [.iload 4, .invokestatic 5, .ireturn], 188)]
theorem k_X9_pace : chkB T_X9_pace cX9_pace B_X9_pace = true := by decide +kernel
theorem cw_X9_pace : calW Y_X9_pace := ⟨pn_X9, Or.inr (Or.inl ⟨rfl, rfl⟩), w_1592, w_11, mh_X9, by decide⟩
theorem cl_X9_pace {o : OM} {Y : Pk} {d d2 idx : Nat} {C : Ctr} (hS : Sound o Y_X9_pace d2 C) (hd : d2 + 1 ≤ d) (hl : Cond.methodLink (yN Y).cls idx yX9_pace ∈ wsG ∨ ∃ host, Cond.methodLinkNest (yN Y).cls idx yX9_pace host ∈ nestW) : CallOK o Y d (.invokevirtual idx) (5, rcv 9 9 C) := callV_ok hS hd cw_X9_pace hl w_1590 w_1591 (Or.inl ⟨TX9, 55, rfl⟩) (by decide +kernel)
def Y_J0_indexOf_7cf53 : Pk := (yJ0_indexOf_7cf53, cJ0_indexOf_7cf53, 3, some .int, 1)
def T_J0_indexOf_7cf53 : Tb := ([(9, 20002)], [], [], [], [(492, 0), (505, 1)], [(637, 2), (640, 3)], 3)
def V_J0_indexOf_7cf53 : List (Nat × Nat) := [(0, 3), (23, 3), (36, 3)]
def B_J0_indexOf_7cf53 : Bk := [(0, [.aload 0, .invokestatic 0, .ifCond .eq 23, .aload 0, .getfield 20002, .iload 1, .iload 2, .aload 0, .invokestatic 1, .invokestatic 2, .goto 36], 23), (23, [.aload 0, .getfield 20002, .iload 1, .iload 2, .aload 0, .invokestatic 1, .invokestatic 3], 36), (36, [.ireturn], 37)]
theorem k_J0_indexOf_7cf53 : chkB T_J0_indexOf_7cf53 cJ0_indexOf_7cf53 B_J0_indexOf_7cf53 = true := by decide +kernel
theorem cw_J0_indexOf_7cf53 : calW Y_J0_indexOf_7cf53 := ⟨pn_J0, Or.inr (Or.inl ⟨rfl, rfl⟩), w_497, w_13, mh_J0, by decide⟩
theorem cl_J0_indexOf_7cf53 {o : OM} {Y : Pk} {d d2 idx : Nat} {C : Ctr} (hS : Sound o Y_J0_indexOf_7cf53 d2 C) (hd : d2 + 1 ≤ d) (hl : Cond.methodLink (yN Y).cls idx yJ0_indexOf_7cf53 ∈ wsG ∨ ∃ host, Cond.methodLinkNest (yN Y).cls idx yJ0_indexOf_7cf53 host ∈ nestW) : CallOK o Y d (.invokevirtual idx) (3, rcv 20 3 C) := callV_ok hS hd cw_J0_indexOf_7cf53 hl w_495 w_496 (Or.inr ⟨rfl, rfl⟩) (by decide +kernel)
def Y_X8_together : Pk := (yX8_together, cX8_together, 5, some .int, 1)
def T_X8_together : Tb := ([(52, 8072), (10, 8002), (68, 8092), (219, 5170)], [], [], [], [(204, 0), (99, 1), (205, 3), (209, 4), (213, 5), (216, 6), (222, 7)], [(88, 2)], 5)
def V_X8_together : List (Nat × Nat) := [(0, 5), (33, 5), (36, 5), (61, 5), (84, 5), (98, 5), (121, 5), (133, 5)]
def B_X8_together : Bk := [(0, [.aload 0, .getfield 8072, .iload 1, .invokestatic 0, .ifCond .eq 33, .aload 0, .getfield 8002, .iload 2, .invokestatic 1, .ifCond .eq 33, .aload 0, .getfield 8002, .iload 3, .invokestatic 1, .ifCond .ne 36], 33), (33, [.iconst (-101), .ireturn], 36), (36, [.iload 4, .iconst (0), .iconst (2), .invokestatic 2, .ifCond .ne 61, .iload 4, .iconst (10), .iconst (41), .invokestatic 2, .ifCond .ne 61, .iconst (-102), .ireturn], 61), (61, [.aload 0, .getfield 8092, .iload 1, .iload 2, .iload 3, .invokestatic 3, .iload 4, .ifCond .ne 84, .aload 0, .getfield 8092, .invokestatic 4, .ireturn], 84), (84, [.iload 4, .iconst (1), .if_icmp .ne 98, .aload 0, .getfield 8092, .invokestatic 5, .ireturn], 98), (98, [.aload 0, .getfield 8092, .invokestatic 6, .iload 4, .iconst (2), .if_icmp .ne 121, .aload 0, .getfield 8092, .getfield 5170, .goto 133], 121), (121, [.aload 0, .getfield 8092, .iload 4, .iconst (10), .isub, .invokestatic 7], 133), (133, [.ireturn], 134)]
theorem k_X8_together : chkB T_X8_together cX8_together B_X8_together = true := by decide +kernel
theorem cw_X8_together : calW Y_X8_together := ⟨pn_X8, Or.inr (Or.inl ⟨rfl, rfl⟩), w_680, w_1, mh_X8, by decide⟩
theorem cl_X8_together {o : OM} {Y : Pk} {d d2 idx : Nat} {C : Ctr} (hS : Sound o Y_X8_together d2 C) (hd : d2 + 1 ≤ d) (hl : Cond.methodLink (yN Y).cls idx yX8_together ∈ wsG ∨ ∃ host, Cond.methodLinkNest (yN Y).cls idx yX8_together host ∈ nestW) : CallOK o Y d (.invokevirtual idx) (5, rcv 8 5 C) := callV_ok hS hd cw_X8_together hl w_678 w_679 (Or.inl ⟨TX8, 13, rfl⟩) (by decide +kernel)
def Y_X8_lies : Pk := (yX8_lies, cX8_lies, 5, some .int, 1)
def T_X8_lies : Tb := ([(52, 8072), (10, 8002), (68, 8092), (225, 5182)], [], [], [], [(204, 0), (99, 1), (114, 2), (205, 3), (216, 4)], [], 5)
def V_X8_lies : List (Nat × Nat) := [(0, 5), (35, 5), (38, 5)]
def B_X8_lies : Bk := [(0, [.aload 0, .getfield 8072, .iload 1, .invokestatic 0, .ifCond .eq 35, .aload 0, .getfield 8002, .iload 3, .invokestatic 1, .ifCond .eq 35, .aload 0, .getfield 8002, .iload 2, .iload 4, .invokestatic 2, .ifCond .ne 38], 35), (35, [.iconst (-101), .ireturn], 38), (38, [.aload 0, .getfield 8092, .iload 1, .iload 2, .iload 3, .invokestatic 3, .aload 0, .getfield 8092, .invokestatic 4, .aload 0, .getfield 8092, .getfield 5182, .iload 4, .iaload, .ireturn], 66)]
theorem k_X8_lies : chkB T_X8_lies cX8_lies B_X8_lies = true := by decide +kernel
theorem cw_X8_lies : calW Y_X8_lies := ⟨pn_X8, Or.inr (Or.inl ⟨rfl, rfl⟩), w_767, w_1, mh_X8, by decide⟩
theorem cl_X8_lies {o : OM} {Y : Pk} {d d2 idx : Nat} {C : Ctr} (hS : Sound o Y_X8_lies d2 C) (hd : d2 + 1 ≤ d) (hl : Cond.methodLink (yN Y).cls idx yX8_lies ∈ wsG ∨ ∃ host, Cond.methodLinkNest (yN Y).cls idx yX8_lies host ∈ nestW) : CallOK o Y d (.invokevirtual idx) (5, rcv 8 5 C) := callV_ok hS hd cw_X8_lies hl w_765 w_766 (Or.inl ⟨TX8, 13, rfl⟩) (by decide +kernel)
def Y_X8_sure : Pk := (yX8_sure, cX8_sure, 6, some .int, 1)
def T_X8_sure : Tb := ([(52, 8072), (10, 8002), (81, 8110), (68, 8092), (228, 5192), (225, 5182)], [], [], [], [(204, 0), (99, 1), (114, 2), (205, 3), (216, 4), (209, 5), (231, 6)], [], 6)
def V_X8_sure : List (Nat × Nat) := [(0, 5), (35, 5), (38, 5), (50, 5), (92, 5)]
def B_X8_sure : Bk := [(0, [.aload 0, .getfield 8072, .iload 1, .invokestatic 0, .ifCond .eq 35, .aload 0, .getfield 8002, .iload 3, .invokestatic 1, .ifCond .eq 35, .aload 0, .getfield 8002, .iload 2, .iload 4, .invokestatic 2, .ifCond .ne 38], 35), (35, [.iconst (-101), .ireturn], 38), (38, [.aload 0, .getfield 8110, .iconst (100), .if_icmp .lt 50, .iconst (-103), .ireturn], 50), (50, [.aload 0, .dup, .getfield 8110, .iconst (1), .iadd, .putfield 8110, .aload 0, .getfield 8092, .iload 1, .iload 2, .iload 3, .invokestatic 3, .aload 0, .getfield 8092, .invokestatic 4, .aload 0, .getfield 8092, .getfield 5192, .iload 4, .iaload, .ifCond .eq 92, .iconst (-1), .ireturn], 92), (92, [.aload 0, .getfield 8092, .invokestatic 5, .istore 5, .aload 0, .getfield 8092, .iload 4, .aload 0, .getfield 8092, .getfield 5182, .iload 4, .iaload, .invokestatic 6, .iload 5, .isub, .ireturn], 124)]
theorem k_X8_sure : chkB T_X8_sure cX8_sure B_X8_sure = true := by decide +kernel
theorem cw_X8_sure : calW Y_X8_sure := ⟨pn_X8, Or.inr (Or.inl ⟨rfl, rfl⟩), w_771, w_1, mh_X8, by decide⟩
theorem cl_X8_sure {o : OM} {Y : Pk} {d d2 idx : Nat} {C : Ctr} (hS : Sound o Y_X8_sure d2 C) (hd : d2 + 1 ≤ d) (hl : Cond.methodLink (yN Y).cls idx yX8_sure ∈ wsG ∨ ∃ host, Cond.methodLinkNest (yN Y).cls idx yX8_sure host ∈ nestW) : CallOK o Y d (.invokevirtual idx) (5, rcv 8 6 C) := callV_ok hS hd cw_X8_sure hl w_769 w_770 (Or.inl ⟨TX8, 13, rfl⟩) (by decide +kernel)
def Y_X8_hangs : Pk := (yX8_hangs, cX8_hangs, 3, some .int, 1)
def T_X8_hangs : Tb := ([(10, 8002), (77, 8102)], [], [], [], [(99, 0), (267, 1), (275, 2), (293, 3)], [], 3)
def V_X8_hangs : List (Nat × Nat) := [(0, 3), (22, 3), (25, 3), (47, 3), (50, 3)]
def B_X8_hangs : Bk := [(0, [.aload 0, .getfield 8002, .iload 1, .invokestatic 0, .ifCond .eq 22, .aload 0, .getfield 8002, .iload 2, .invokestatic 0, .ifCond .ne 25], 22), (22, [.iconst (-101), .ireturn], 25), (25, [.aload 0, .getfield 8102, .invokestatic 1, .ifCond .eq 47, .aload 0, .getfield 8102, .iload 1, .iload 2, .invokestatic 2, .ifCond .eq 50], 47), (47, [.iconst (-103), .ireturn], 50), (50, [.aload 0, .getfield 8102, .iload 1, .iload 2, .invokestatic 3, .ireturn], 60)]
theorem k_X8_hangs : chkB T_X8_hangs cX8_hangs B_X8_hangs = true := by decide +kernel
theorem cw_X8_hangs : calW Y_X8_hangs := ⟨pn_X8, Or.inr (Or.inl ⟨rfl, rfl⟩), w_949, w_1, mh_X8, by decide⟩
theorem cl_X8_hangs {o : OM} {Y : Pk} {d d2 idx : Nat} {C : Ctr} (hS : Sound o Y_X8_hangs d2 C) (hd : d2 + 1 ≤ d) (hl : Cond.methodLink (yN Y).cls idx yX8_hangs ∈ wsG ∨ ∃ host, Cond.methodLinkNest (yN Y).cls idx yX8_hangs host ∈ nestW) : CallOK o Y d (.invokevirtual idx) (3, rcv 8 3 C) := callV_ok hS hd cw_X8_hangs hl w_947 w_948 (Or.inl ⟨TX8, 13, rfl⟩) (by decide +kernel)
def Y_X8_took : Pk := (yX8_took, cX8_took, 7, some .int, 1)
def T_X8_took : Tb := ([(10, 8002), (92, 6000)], [], [], [], [(114, 0), (118, 2), (322, 3)], [(88, 1)], 7)
def V_X8_took : List (Nat × Nat) := [(0, 4), (15, 4), (27, 4), (43, 4), (49, 6), (71, 6), (79, 6), (90, 7), (110, 7), (117, 7), (121, 7), (127, 6)]
def B_X8_took : Bk := [(0, [.aload 0, .getfield 8002, .iload 1, .iload 2, .invokestatic 0, .ifCond .ne 15, .iconst (-101), .ireturn], 15), (15, [.iload 3, .iconst (0), .iconst (1), .invokestatic 1, .ifCond .ne 27, .iconst (-102), .ireturn], 27), (27, [.aload 0, .getfield 8002, .iload 1, .iload 2, .invokestatic 2, .iconst (4), .if_icmp .eq 43, .iconst (-103), .ireturn], 43), (43, [.iconst (-1), .istore 4, .iconst (0), .istore 5], 49), (49, [.iload 5, .aload 0, .getfield 8002, .getfield 6000, .if_icmp .ge 127, .iload 5, .iload 1, .if_icmp .ne 71, .iconst (-1), .goto 79], 71), (71, [.aload 0, .iload 1, .iload 2, .iload 5, .invokestatic 3], 79), (79, [.istore 6, .iload 6, .iconst (-1), .if_icmp .ne 90, .goto 121], 90), (90, [.iload 4, .iconst (-1), .if_icmp .eq 117, .iload 3, .ifCond .ne 110, .iload 6, .iload 4, .if_icmp .ge 121, .goto 117], 110), (110, [.iload 6, .iload 4, .if_icmp .le 121], 117), (117, [.iload 6, .istore 4], 121), (121, [.iinc 5 1, .goto 49], 127), (127, [.iload 4, .ireturn], 130)]
theorem k_X8_took : chkB T_X8_took cX8_took B_X8_took = true := by decide +kernel
theorem cw_X8_took : calW Y_X8_took := ⟨pn_X8, Or.inr (Or.inl ⟨rfl, rfl⟩), w_997, w_1, mh_X8, by decide⟩
theorem cl_X8_took {o : OM} {Y : Pk} {d d2 idx : Nat} {C : Ctr} (hS : Sound o Y_X8_took d2 C) (hd : d2 + 1 ≤ d) (hl : Cond.methodLink (yN Y).cls idx yX8_took ∈ wsG ∨ ∃ host, Cond.methodLinkNest (yN Y).cls idx yX8_took host ∈ nestW) : CallOK o Y d (.invokevirtual idx) (4, rcv 8 7 C) := callV_ok hS hd cw_X8_took hl w_995 w_996 (Or.inl ⟨TX8, 13, rfl⟩) (by decide +kernel)
def Y_X8_foldLaw : Pk := (yX8_foldLaw, cX8_foldLaw, 6, some .long, 3)
def T_X8_foldLaw : Tb := ([(10, 8002), (92, 6000), (68, 8092)], [], [], [], [(205, 0), (209, 1)], [(363, 2)], 6)
def V_X8_foldLaw : List (Nat × Nat) := [(0, 4), (3, 5), (21, 6), (64, 6), (70, 5)]
def B_X8_foldLaw : Bk := [(0, [.iconst (0), .istore 4], 3), (3, [.iload 4, .aload 0, .getfield 8002, .getfield 6000, .if_icmp .ge 70, .iload 4, .iconst (1), .iadd, .istore 5], 21), (21, [.iload 5, .aload 0, .getfield 8002, .getfield 6000, .if_icmp .ge 64, .aload 0, .getfield 8092, .iload 3, .iload 4, .iload 5, .invokestatic 0, .lload 1, .aload 0, .getfield 8092, .invokestatic 1, .i2l, .invokestatic 2, .lstore 1, .iinc 5 1, .goto 21], 64), (64, [.iinc 4 1, .goto 3], 70), (70, [.lload 1, .lreturn], 72)]
theorem k_X8_foldLaw : chkB T_X8_foldLaw cX8_foldLaw B_X8_foldLaw = true := by decide +kernel
theorem cw_X8_foldLaw : calW Y_X8_foldLaw := ⟨pn_X8, Or.inr (Or.inr (Or.inr (Or.inl ⟨rfl, rfl⟩))), w_1068, w_1, mh_X8, by decide⟩
theorem cl_X8_foldLaw {o : OM} {Y : Pk} {d d2 idx : Nat} {C : Ctr} (hS : Sound o Y_X8_foldLaw d2 C) (hd : d2 + 1 ≤ d) (hl : Cond.methodLink (yN Y).cls idx yX8_foldLaw ∈ wsG ∨ ∃ host, Cond.methodLinkNest (yN Y).cls idx yX8_foldLaw host ∈ nestW) : CallOK o Y d (.invokevirtual idx) (3, rcv 8 6 C) := callV_ok hS hd cw_X8_foldLaw hl w_1067 wp_86 (Or.inl ⟨TX8, 13, rfl⟩) (by decide +kernel)
def Y_X9_calendars : Pk := (yX9_calendars, cX9_calendars, 5, some .int, 1)
def T_X9_calendars : Tb := ([(109, 9000), (83, 9442)], [], [], [], [(359, 1)], [(112, 0)], 5)
def V_X9_calendars : List (Nat × Nat) := [(0, 2), (13, 2), (23, 5), (50, 5), (51, 5), (59, 5), (67, 5), (68, 5)]
def B_X9_calendars : Bk := [(0, [.iload 1, .i2l, .jsr 0, .jsr 1, .invokestatic 0, .ifCond .ne 13, .iconst (-102), .ireturn], 13), (13, [.aload 0, .invokestatic 1, .istore 2, .iconst (0), .istore 3, .iconst (0), .istore 4], 23), (23, [.iload 4, .aload 0, .getfield 9000, .if_icmp .ge 59, .iload 3, .aload 0, .getfield 9442, .iload 4, .iaload, .ifCond .ne 50, .iconst (1), .iload 4, .ishl, .goto 51], 50), (50, [.iconst (0)], 51), (51, [.ior, .istore 3, .iinc 4 1, .goto 23], 59), (59, [.iload 1, .ifCond .ne 67, .iload 2, .goto 68], 67), (67, [.iload 3], 68), (68, [.ireturn], 69)]
theorem k_X9_calendars : chkB T_X9_calendars cX9_calendars B_X9_calendars = true := by decide +kernel
theorem cw_X9_calendars : calW Y_X9_calendars := ⟨pn_X9, Or.inr (Or.inl ⟨rfl, rfl⟩), w_1559, w_11, mh_X9, by decide⟩
theorem cl_X9_calendars {o : OM} {Y : Pk} {d d2 idx : Nat} {C : Ctr} (hS : Sound o Y_X9_calendars d2 C) (hd : d2 + 1 ≤ d) (hl : Cond.methodLink (yN Y).cls idx yX9_calendars ∈ wsG ∨ ∃ host, Cond.methodLinkNest (yN Y).cls idx yX9_calendars host ∈ nestW) : CallOK o Y d (.invokevirtual idx) (2, rcv 9 5 C) := callV_ok hS hd cw_X9_calendars hl w_1557 w_1558 (Or.inl ⟨TX9, 55, rfl⟩) (by decide +kernel)
def Y_X9_tellNet : Pk := (yX9_tellNet, cX9_tellNet, 4, none, 0)
def T_X9_tellNet : Tb := ([(325, 9320), (53, 9332), (56, 9342), (59, 9352), (62, 9362), (65, 9372), (68, 9382), (109, 9000), (71, 9392), (74, 9402), (77, 9412), (101, 9423), (80, 9432)], [], [(401, (-100004))], [], [(397, 0), (352, 1), (356, 2), (359, 3)], [], 4)
def V_X9_tellNet : List (Nat × Nat) := [(0, 1), (2, 2), (79, 2), (80, 2), (89, 2), (91, 2), (136, 2), (142, 2), (154, 2), (155, 2), (172, 2), (173, 2), (178, 3), (194, 4), (218, 4), (231, 4), (250, 4), (262, 4), (271, 4), (277, 3)]
def B_X9_tellNet : Bk := [(0, [.iconst (0), .istore 1], 2), (2, [.iload 1, .aload 0, .getfield 9320, .if_icmp .ge 89, .aload 0, .aload 0, .getfield 9332, .iload 1, .iaload, .i2l, .invokestatic 0, .aload 0, .aload 0, .getfield 9342, .iload 1, .iaload, .i2l, .invokestatic 0, .aload 0, .aload 0, .getfield 9352, .iload 1, .iaload, .i2l, .invokestatic 0, .aload 0, .aload 0, .getfield 9362, .iload 1, .iaload, .i2l, .invokestatic 0, .aload 0, .aload 0, .getfield 9372, .iload 1, .iaload, .i2l, .invokestatic 0, .aload 0, .aload 0, .getfield 9382, .iload 1, .baload, .ifCond .eq 79, .jsr 1, .goto 80], 79), (79, [.jsr 0], 80), (80, [.invokestatic 0, .iinc 1 1, .goto 2], 89), (89, [.iconst (0), .istore 1], 91), (91, [.iload 1, .aload 0, .getfield 9000, .if_icmp .ge 142, .aload 0, .getfield 9392, .iload 1, .baload, .ifCond .eq 136, .aload 0, .iload 1, .i2l, .invokestatic 0, .aload 0, .aload 0, .getfield 9402, .iload 1, .iaload, .i2l, .invokestatic 0, .aload 0, .aload 0, .getfield 9412, .iload 1, .iaload, .i2l, .invokestatic 0], 136), (136, [.iinc 1 1, .goto 91], 142), (142, [.aload 0, .aload 0, .getfield 9423, .ifCond .eq 154, .jsr 1, .goto 155], 154), (154, [.jsr 0], 155), (155, [.invokestatic 0, .aload 0, .invokestatic 1, .istore 1, .aload 0, .iload 1, .ifCond .eq 172, .jsr 1, .goto 173], 172), (172, [.jsr 0], 173), (173, [.invokestatic 0, .iconst (0), .istore 2], 178), (178, [.iload 2, .aload 0, .getfield 9000, .if_icmp .ge 277, .iload 1, .ifCond .eq 277, .iload 2, .iconst (1), .iadd, .istore 3], 194), (194, [.iload 3, .aload 0, .getfield 9000, .if_icmp .ge 271, .aload 0, .aload 0, .iload 2, .iload 3, .invokestatic 2, .ifCond .eq 218, .jsr (-100004), .goto 231], 218), (218, [.aload 0, .getfield 9432, .iconst (8), .iload 3, .imul, .iload 2, .iadd, .iaload, .ineg, .i2l], 231), (231, [.invokestatic 0, .aload 0, .aload 0, .iload 2, .iload 3, .invokestatic 2, .ifCond .eq 250, .jsr (-100004), .goto 262], 250), (250, [.aload 0, .getfield 9432, .iconst (8), .iload 2, .imul, .iload 3, .iadd, .iaload, .i2l], 262), (262, [.invokestatic 0, .iinc 3 1, .goto 194], 271), (271, [.iinc 2 1, .goto 178], 277), (277, [.aload 0, .aload 0, .invokestatic 3, .i2l, .invokestatic 0, .return_], 287)]
theorem k_X9_tellNet : chkB T_X9_tellNet cX9_tellNet B_X9_tellNet = true := by decide +kernel
theorem cw_X9_tellNet : calW Y_X9_tellNet := ⟨pn_X9, Or.inl ⟨rfl, rfl⟩, w_1642, w_11, mh_X9, by decide⟩
theorem cl_X9_tellNet {o : OM} {Y : Pk} {d d2 idx : Nat} {C : Ctr} (hS : Sound o Y_X9_tellNet d2 C) (hd : d2 + 1 ≤ d) (hl : Cond.methodLink (yN Y).cls idx yX9_tellNet ∈ wsG ∨ ∃ host, Cond.methodLinkNest (yN Y).cls idx yX9_tellNet host ∈ nestW) : CallOK o Y d (.invokevirtual idx) (1, rcv 9 4 C) := callV_ok hS hd cw_X9_tellNet hl w_1641 wp_128 (Or.inl ⟨TX9, 55, rfl⟩) (by decide +kernel)
def Y_J0_indexOf_0f7a4 : Pk := (yJ0_indexOf_0f7a4, cJ0_indexOf_0f7a4, 2, some .int, 1)
def T_J0_indexOf_0f7a4 : Tb := ([], [], [], [], [(633, 0)], [], 2)
def V_J0_indexOf_0f7a4 : List (Nat × Nat) := [(0, 2)]
def B_J0_indexOf_0f7a4 : Bk := [(0, [.aload 0, .iload 1, .iconst (0), .invokestatic 0, .ireturn], 7)]
theorem k_J0_indexOf_0f7a4 : chkB T_J0_indexOf_0f7a4 cJ0_indexOf_0f7a4 B_J0_indexOf_0f7a4 = true := by decide +kernel
theorem cw_J0_indexOf_0f7a4 : calW Y_J0_indexOf_0f7a4 := ⟨pn_J0, Or.inr (Or.inl ⟨rfl, rfl⟩), w_493, w_13, mh_J0, by decide⟩
theorem cl_J0_indexOf_0f7a4 {o : OM} {Y : Pk} {d d2 idx : Nat} {C : Ctr} (hS : Sound o Y_J0_indexOf_0f7a4 d2 C) (hd : d2 + 1 ≤ d) (hl : Cond.methodLink (yN Y).cls idx yJ0_indexOf_0f7a4 ∈ wsG ∨ ∃ host, Cond.methodLinkNest (yN Y).cls idx yJ0_indexOf_0f7a4 host ∈ nestW) : CallOK o Y d (.invokevirtual idx) (2, rcv 20 2 C) := callV_ok hS hd cw_J0_indexOf_0f7a4 hl w_491 w_492 (Or.inr ⟨rfl, rfl⟩) (by decide +kernel)
def Y_X4_readItems : Pk := (yX4_readItems, cX4_readItems, 8, some .int, 1)
def T_X4_readItems : Tb := ([(23, 4032), (19, 4023), (9, 4000), (15, 4012)], [], [], [], [(40, 1), (50, 3)], [(34, 0), (46, 2)], 8)
def V_X4_readItems : List (Nat × Nat) := [(0, 3), (24, 7), (75, 8), (78, 8), (87, 8), (121, 8), (130, 8), (143, 8), (169, 8), (172, 8), (178, 7), (193, 7), (194, 7)]
def B_X4_readItems : Bk := [(0, [.aload 0, .getfield 4032, .iconst (-1), .invokestatic 0, .aload 0, .iconst (0), .putfield 4023, .iconst (-1), .istore 3, .iconst (0), .istore 4, .iconst (0), .istore 5, .iconst (0), .istore 6], 24), (24, [.iload 6, .aload 0, .getfield 4000, .if_icmp .ge 178, .aload 0, .getfield 4012, .iload 6, .iaload, .i2c, .istore 7, .iload 3, .iconst (-1), .if_icmp .ne 87, .aload 1, .iload 7, .invokestatic 1, .istore 3, .iload 3, .iconst (0), .iconst (6), .invokestatic 2, .ifCond .eq 75, .aload 0, .getfield 4032, .iload 3, .iaload, .iconst (-1), .if_icmp .eq 78], 75), (75, [.iload 6, .ireturn], 78), (78, [.iinc 4 1, .iconst (0), .istore 5, .goto 172], 87), (87, [.iload 7, .iconst (48), .if_icmp .lt 143, .iload 7, .iconst (57), .if_icmp .gt 143, .iload 5, .iload 2, .if_icmp .ge 143, .aload 0, .getfield 4032, .iload 3, .iload 5, .ifCond .ne 121, .iconst (0), .goto 130], 121), (121, [.iconst (10), .aload 0, .getfield 4032, .iload 3, .iaload, .imul], 130), (130, [.iload 7, .iadd, .iconst (48), .isub, .iastore, .iinc 5 1, .goto 172], 143), (143, [.iload 7, .iconst (44), .if_icmp .ne 169, .iload 5, .ifCond .le 169, .iload 4, .aload 1, .invokestatic 3, .if_icmp .ge 169, .iconst (-1), .istore 3, .goto 172], 169), (169, [.iload 6, .ireturn], 172), (172, [.iinc 6 1, .goto 24], 178), (178, [.aload 0, .iload 3, .iconst (-1), .if_icmp .eq 193, .iload 5, .ifCond .le 193, .iconst (1), .goto 194], 193), (193, [.iconst (0)], 194), (194, [.putfield 4023, .aload 0, .getfield 4000, .ireturn], 202)]
theorem k_X4_readItems : chkB T_X4_readItems cX4_readItems B_X4_readItems = true := by decide +kernel
theorem cw_X4_readItems : calW Y_X4_readItems := ⟨pn_X4, Or.inr (Or.inl ⟨rfl, rfl⟩), w_488, w_4, mh_X4, by decide⟩
theorem cl_X4_readItems {o : OM} {Y : Pk} {d d2 idx : Nat} {C : Ctr} (hS : Sound o Y_X4_readItems d2 C) (hd : d2 + 1 ≤ d) (hl : Cond.methodLink (yN Y).cls idx yX4_readItems ∈ wsG ∨ ∃ host, Cond.methodLinkNest (yN Y).cls idx yX4_readItems host ∈ nestW) : CallOK o Y d (.invokevirtual idx) (3, rcv 4 8 C) := callV_ok hS hd cw_X4_readItems hl w_487 wp_16 (Or.inl ⟨TX4, 4, rfl⟩) (by decide +kernel)
def Y_X8_digest : Pk := (yX8_digest, cX8_digest, 4, some .long, 3)
def T_X8_digest : Tb := ([(10, 8002), (92, 6000), (52, 8072), (173, 2000), (19, 8012), (36, 8052), (151, 4000), (360, 4012)], [], [(345, 379)], [], [(347, 0), (351, 1), (354, 2), (357, 3), (367, 5)], [(363, 4)], 4)
def V_X8_digest : List (Nat × Nat) := [(0, 1), (6, 4), (30, 4), (32, 4), (56, 4), (73, 4), (105, 4), (107, 4), (130, 4)]
def B_X8_digest : Bk := [(0, [.jsr (379), .lstore 1, .iconst (0), .istore 3], 6), (6, [.iload 3, .aload 0, .getfield 8002, .getfield 6000, .if_icmp .ge 30, .aload 0, .lload 1, .iload 3, .invokestatic 0, .lstore 1, .iinc 3 1, .goto 6], 30), (30, [.iconst (0), .istore 3], 32), (32, [.iload 3, .aload 0, .getfield 8072, .getfield 2000, .if_icmp .ge 56, .aload 0, .lload 1, .iload 3, .invokestatic 1, .lstore 1, .iinc 3 1, .goto 32], 56), (56, [.aload 0, .getfield 8012, .lload 1, .invokestatic 2, .lstore 1, .aload 0, .lload 1, .invokestatic 3, .lstore 1, .iconst (0), .istore 3], 73), (73, [.iload 3, .aload 0, .getfield 8052, .getfield 4000, .if_icmp .ge 105, .lload 1, .aload 0, .getfield 8052, .getfield 4012, .iload 3, .iaload, .i2l, .invokestatic 4, .lstore 1, .iinc 3 1, .goto 73], 105), (105, [.iconst (0), .istore 3], 107), (107, [.iload 3, .iconst (9), .if_icmp .gt 130, .lload 1, .aload 0, .iload 3, .invokestatic 5, .i2l, .invokestatic 4, .lstore 1, .iinc 3 1, .goto 107], 130), (130, [.lload 1, .lreturn], 132)]
theorem k_X8_digest : chkB T_X8_digest cX8_digest B_X8_digest = true := by decide +kernel
theorem cw_X8_digest : calW Y_X8_digest := ⟨pn_X8, Or.inr (Or.inr (Or.inr (Or.inl ⟨rfl, rfl⟩))), w_1055, w_1, mh_X8, by decide⟩
theorem cl_X8_digest {o : OM} {Y : Pk} {d d2 idx : Nat} {C : Ctr} (hS : Sound o Y_X8_digest d2 C) (hd : d2 + 1 ≤ d) (hl : Cond.methodLink (yN Y).cls idx yX8_digest ∈ wsG ∨ ∃ host, Cond.methodLinkNest (yN Y).cls idx yX8_digest host ∈ nestW) : CallOK o Y d (.invokevirtual idx) (1, rcv 8 4 C) := callV_ok hS hd cw_X8_digest hl w_1053 w_1054 (Or.inl ⟨TX8, 13, rfl⟩) (by decide +kernel)
def Y_X9_digest : Pk := (yX9_digest, cX9_digest, 2, some .long, 3)
def T_X9_digest : Tb := ([(393, 9541), (109, 9000), (207, 9110), (176, 9080), (25, 9072)], [], [(403, 379)], [], [(405, 0), (409, 1), (412, 2), (397, 3), (388, 4)], [], 2)
def V_X9_digest : List (Nat × Nat) := [(0, 1), (9, 2), (28, 2), (30, 2), (49, 2), (55, 2), (80, 2), (82, 2), (104, 2)]
def B_X9_digest : Bk := [(0, [.aload 0, .jsr (379), .putfield 9541, .iconst (0), .istore 1], 9), (9, [.iload 1, .aload 0, .getfield 9000, .if_icmp .ge 28, .aload 0, .iload 1, .invokestatic 0, .iinc 1 1, .goto 9], 28), (28, [.iconst (0), .istore 1], 30), (30, [.iload 1, .aload 0, .getfield 9110, .if_icmp .ge 49, .aload 0, .iload 1, .invokestatic 1, .iinc 1 1, .goto 30], 49), (49, [.aload 0, .invokestatic 2, .iconst (0), .istore 1], 55), (55, [.iload 1, .aload 0, .getfield 9080, .if_icmp .ge 80, .aload 0, .aload 0, .getfield 9072, .iload 1, .iaload, .i2l, .invokestatic 3, .iinc 1 1, .goto 55], 80), (80, [.iconst (0), .istore 1], 82), (82, [.iload 1, .iconst (10), .if_icmp .ge 104, .aload 0, .aload 0, .iload 1, .invokestatic 4, .i2l, .invokestatic 3, .iinc 1 1, .goto 82], 104), (104, [.aload 0, .getfield 9541, .lreturn], 109)]
theorem k_X9_digest : chkB T_X9_digest cX9_digest B_X9_digest = true := by decide +kernel
theorem cw_X9_digest : calW Y_X9_digest := ⟨pn_X9, Or.inr (Or.inr (Or.inr (Or.inl ⟨rfl, rfl⟩))), w_1624, w_11, mh_X9, by decide⟩
theorem cl_X9_digest {o : OM} {Y : Pk} {d d2 idx : Nat} {C : Ctr} (hS : Sound o Y_X9_digest d2 C) (hd : d2 + 1 ≤ d) (hl : Cond.methodLink (yN Y).cls idx yX9_digest ∈ wsG ∨ ∃ host, Cond.methodLinkNest (yN Y).cls idx yX9_digest host ∈ nestW) : CallOK o Y d (.invokevirtual idx) (1, rcv 9 2 C) := callV_ok hS hd cw_X9_digest hl w_1622 w_1623 (Or.inl ⟨TX9, 55, rfl⟩) (by decide +kernel)
def Y_X4_read : Pk := (yX4_read, cX4_read, 2, some .int, 1)
def T_X4_read : Tb := ([], [], [], [(26, 103), (32, 104)], [(28, 0)], [], 2)
def V_X4_read : List (Nat × Nat) := [(0, 2), (14, 2), (21, 2)]
def B_X4_read : Bk := [(0, [.iload 1, .ifCond .ne 14, .aload 0, .anewarray 103, .iconst (1), .invokestatic 0, .goto 21], 14), (14, [.aload 0, .anewarray 104, .iconst (2), .invokestatic 0], 21), (21, [.ireturn], 22)]
theorem k_X4_read : chkB T_X4_read cX4_read B_X4_read = true := by decide +kernel
theorem cw_X4_read : calW Y_X4_read := ⟨pn_X4, Or.inr (Or.inl ⟨rfl, rfl⟩), w_483, w_4, mh_X4, by decide⟩
theorem cl_X4_read {o : OM} {Y : Pk} {d d2 idx : Nat} {C : Ctr} (hS : Sound o Y_X4_read d2 C) (hd : d2 + 1 ≤ d) (hl : Cond.methodLink (yN Y).cls idx yX4_read ∈ wsG ∨ ∃ host, Cond.methodLinkNest (yN Y).cls idx yX4_read host ∈ nestW) : CallOK o Y d (.invokevirtual idx) (2, rcv 4 2 C) := callV_ok hS hd cw_X4_read hl w_482 wp_15 (Or.inl ⟨TX4, 4, rfl⟩) (by decide +kernel)
def Y_X8_fault : Pk := (yX8_fault, cX8_fault, 2, some .int, 1)
def T_X8_fault : Tb := ([(36, 8052)], [], [], [], [(159, 0)], [], 2)
def V_X8_fault : List (Nat × Nat) := [(0, 2), (12, 2)]
def B_X8_fault : Bk := [(0, [.iload 1, .ifCond .eq 12, .iload 1, .iconst (1), .if_icmp .eq 12, .iconst (-102), .ireturn], 12), (12, [.aload 0, .getfield 8052, .iload 1, .invokestatic 0, .ireturn], 21)]
theorem k_X8_fault : chkB T_X8_fault cX8_fault B_X8_fault = true := by decide +kernel
theorem cw_X8_fault : calW Y_X8_fault := ⟨pn_X8, Or.inr (Or.inl ⟨rfl, rfl⟩), w_479, w_1, mh_X8, by decide⟩
theorem cl_X8_fault {o : OM} {Y : Pk} {d d2 idx : Nat} {C : Ctr} (hS : Sound o Y_X8_fault d2 C) (hd : d2 + 1 ≤ d) (hl : Cond.methodLink (yN Y).cls idx yX8_fault ∈ wsG ∨ ∃ host, Cond.methodLinkNest (yN Y).cls idx yX8_fault host ∈ nestW) : CallOK o Y d (.invokevirtual idx) (2, rcv 8 2 C) := callV_ok hS hd cw_X8_fault hl w_477 w_478 (Or.inl ⟨TX8, 13, rfl⟩) (by decide +kernel)
def Y_X8_hand : Pk := (yX8_hand, cX8_hand, 1, some .int, 1)
def T_X8_hand : Tb := ([(36, 8052), (162, 4023), (45, 8062), (165, 1010), (151, 4000), (166, 4032)], [], [], [], [(159, 0), (169, 1)], [], 1)
def V_X8_hand : List (Nat × Nat) := [(0, 1), (22, 1), (36, 1)]
def B_X8_hand : Bk := [(0, [.aload 0, .getfield 8052, .iconst (0), .invokestatic 0, .pop, .aload 0, .getfield 8052, .getfield 4023, .ifCond .ne 22, .iconst (-103), .ireturn], 22), (22, [.aload 0, .getfield 8062, .getfield 1010, .iconst (4), .if_icmp .lt 36, .iconst (-104), .ireturn], 36), (36, [.aload 0, .getfield 8052, .iconst (0), .putfield 4000, .aload 0, .getfield 8062, .aload 0, .getfield 8052, .getfield 4032, .invokestatic 1, .ireturn], 59)]
theorem k_X8_hand : chkB T_X8_hand cX8_hand B_X8_hand = true := by decide +kernel
theorem cw_X8_hand : calW Y_X8_hand := ⟨pn_X8, Or.inr (Or.inl ⟨rfl, rfl⟩), w_583, w_1, mh_X8, by decide⟩
theorem cl_X8_hand {o : OM} {Y : Pk} {d d2 idx : Nat} {C : Ctr} (hS : Sound o Y_X8_hand d2 C) (hd : d2 + 1 ≤ d) (hl : Cond.methodLink (yN Y).cls idx yX8_hand ∈ wsG ∨ ∃ host, Cond.methodLinkNest (yN Y).cls idx yX8_hand host ∈ nestW) : CallOK o Y d (.invokevirtual idx) (1, rcv 8 1 C) := callV_ok hS hd cw_X8_hand hl w_581 w_582 (Or.inl ⟨TX8, 13, rfl⟩) (by decide +kernel)
def Y_X8_law : Pk := (yX8_law, cX8_law, 1, some .int, 1)
def T_X8_law : Tb := ([(36, 8052), (162, 4023), (52, 8072), (173, 2000), (151, 4000), (166, 4032)], [], [], [], [(159, 0), (174, 1)], [], 1)
def V_X8_law : List (Nat × Nat) := [(0, 1), (22, 1), (36, 1)]
def B_X8_law : Bk := [(0, [.aload 0, .getfield 8052, .iconst (1), .invokestatic 0, .pop, .aload 0, .getfield 8052, .getfield 4023, .ifCond .ne 22, .iconst (-103), .ireturn], 22), (22, [.aload 0, .getfield 8072, .getfield 2000, .iconst (4), .if_icmp .lt 36, .iconst (-104), .ireturn], 36), (36, [.aload 0, .getfield 8052, .iconst (0), .putfield 4000, .aload 0, .getfield 8072, .aload 0, .getfield 8052, .getfield 4032, .invokestatic 1, .ireturn], 59)]
theorem k_X8_law : chkB T_X8_law cX8_law B_X8_law = true := by decide +kernel
theorem cw_X8_law : calW Y_X8_law := ⟨pn_X8, Or.inr (Or.inl ⟨rfl, rfl⟩), w_594, w_1, mh_X8, by decide⟩
theorem cl_X8_law {o : OM} {Y : Pk} {d d2 idx : Nat} {C : Ctr} (hS : Sound o Y_X8_law d2 C) (hd : d2 + 1 ≤ d) (hl : Cond.methodLink (yN Y).cls idx yX8_law ∈ wsG ∨ ∃ host, Cond.methodLinkNest (yN Y).cls idx yX8_law host ∈ nestW) : CallOK o Y d (.invokevirtual idx) (1, rcv 8 1 C) := callV_ok hS hd cw_X8_law hl w_592 w_593 (Or.inl ⟨TX8, 13, rfl⟩) (by decide +kernel)
