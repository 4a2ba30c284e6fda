-- ===== pairs of calls: sure =====
theorem SetC_e {σ ρ τ : Sto} {l a b bi bj : Int} (h12 : ρ 12 = σ 12) (h13 : ρ 13 = σ 13) (h14 : ρ 14 = σ 14) (h15 : ρ 15 = σ 15) (h38 : ρ 38 = σ 38) (h : SetC σ τ l a b bi bj) : SetC ρ τ l a b bi bj := by
  unfold SetC at *
  rw [h12, h13, h14, h15, h38]
  exact h
theorem SetC_bar {σ τ τ2 : Sto} {l a b bi bj i j : Int} (h : SetC σ τ l a b bi bj) (h9 : ∀ x, ¬ x = 12 → ¬ x = 13 → ¬ x = 17 → τ2 9 x = τ 9 x) (h12 : τ2 9 12 = i) (h13 : τ2 9 13 = j) (ho : ∀ q : Nat, 38 < q → q < 43 → τ2 q = τ q) : SetC σ τ2 l a b i j := by
  unfold SetC at *
  rw [h9 6 (by decide) (by decide) (by decide), h9 7 (by decide) (by decide) (by decide), h9 8 (by decide) (by decide) (by decide), h9 9 (by decide) (by decide) (by decide), h9 10 (by decide) (by decide) (by decide), h9 11 (by decide) (by decide) (by decide), ho 39 (by decide) (by decide), ho 40 (by decide) (by decide), ho 41 (by decide) (by decide), ho 42 (by decide) (by decide)]
  exact ⟨h.1, h.2.1, h.2.2.1, h.2.2.2.1, h12, h13⟩
theorem sameC_t {τ σ ρ : Sto} (h : sameC τ σ) (h' : sameC σ ρ) : sameC τ ρ := ⟨fun p hp => (h.1 p hp).trans (h'.1 p hp), fun i hi a b => (h.2.1 i hi a b).trans (h'.2.1 i hi a b), h.2.2.1.trans h'.2.2.1, h.2.2.2.trans h'.2.2.2⟩
theorem sameC_s {τ σ : Sto} (h : sameS τ σ) : sameC τ σ := ⟨h.1, fun i hi _ _ => h.2.1 i hi, h.2.2.1, h.2.2.2.1⟩
theorem PrI_in {σ τ : Sto} {l a b bi bj : Int} (hR : Rel σ) (h : SetC σ τ l a b bi bj) (hl : 0 ≤ l ∧ l < 4) (ha : 0 ≤ a ∧ a < 7) (hb : 0 ≤ b ∧ b < 7) : PrI τ := SetC_PrI h (Rel_QC hR) hl ha hb
def A_X8_sure : List (Nat × Ctr) := [(2, rcv 2 2 C_X2_has), (2, rcv 6 2 C_X6_has), (3, rcv 6 3 C_X6_hasLeaf), (4, rcv 5 4 C_X5_setTogether), (1, rcv 5 6 C_X5_goTheWay), (1, rcv 5 1 C_X5_leastOfAll), (3, rcv 5 3 C_X5_leastWithout)]
theorem e_X8_sure (o : OM) : Ev o Y_X8_sure 6 T_X8_sure A_X8_sure := ⟨rfl, List.forall_mem_cons.mpr ⟨Or.inl f_X8_52, List.forall_mem_cons.mpr ⟨Or.inl f_X8_10, List.forall_mem_cons.mpr ⟨Or.inl f_X8_81, List.forall_mem_cons.mpr ⟨Or.inl f_X8_68, List.forall_mem_cons.mpr ⟨Or.inl f_X8_228, List.forall_mem_cons.mpr ⟨Or.inl f_X8_225, fun _ h => absurd h List.not_mem_nil⟩⟩⟩⟩⟩⟩, fun _ h => absurd h List.not_mem_nil, fun _ h => absurd h List.not_mem_nil, fun _ h => absurd h List.not_mem_nil, List.forall_mem_cons.mpr ⟨cl_X2_has (s_X2_has o) (by decide) (Or.inr ⟨_, wn_67⟩), List.forall_mem_cons.mpr ⟨cl_X6_has (s_X6_has o) (by decide) (Or.inr ⟨_, wn_42⟩), List.forall_mem_cons.mpr ⟨cl_X6_hasLeaf (s_X6_hasLeaf o) (by decide) (Or.inr ⟨_, wn_44⟩), List.forall_mem_cons.mpr ⟨cl_X5_setTogether (s_X5_setTogether o) (by decide) (Or.inr ⟨_, wn_68⟩), List.forall_mem_cons.mpr ⟨cl_X5_goTheWay (s_X5_goTheWay o) (by decide) (Or.inr ⟨_, wn_76⟩), List.forall_mem_cons.mpr ⟨cl_X5_leastOfAll (s_X5_leastOfAll o) (by decide) (Or.inr ⟨_, wn_74⟩), List.forall_mem_cons.mpr ⟨cl_X5_leastWithout (s_X5_leastWithout o) (by decide) (Or.inr ⟨_, wn_79⟩), fun _ h => absurd h List.not_mem_nil⟩⟩⟩⟩⟩⟩⟩, fun _ h => absurd h List.not_mem_nil⟩
def C_X8_sure : Ctr := fun A σ k => wpl A_X8_sure V_X8_sure (yK Y_X8_sure) B_X8_sure k 4 0 [] (entL A) σ
theorem s_X8_sure (o : OM) : Sound o Y_X8_sure 6 C_X8_sure := fun Q A σ _ hC => at_wpl (e_X8_sure o) k_X8_sure 4 0 [] (entL A) σ hC
def A_X9_sure : List (Nat × Ctr) := [(2, rcv 9 2 C_X9_isLaw), (2, rcv 9 2 C_X9_isPit), (3, rcv 9 3 C_X9_isLeaf), (6, rcv 9 16 C_X9_layTogether), (1, rcv 9 5 C_X9_layWay)]
theorem e_X9_sure (o : OM) : Ev o Y_X9_sure 3 T_X9_sure A_X9_sure := ⟨rfl, List.forall_mem_cons.mpr ⟨Or.inl f_X9_318, List.forall_mem_cons.mpr ⟨Or.inl f_X9_49, List.forall_mem_cons.mpr ⟨Or.inl f_X9_37, List.forall_mem_cons.mpr ⟨Or.inl f_X9_46, fun _ h => absurd h List.not_mem_nil⟩⟩⟩⟩, fun _ h => absurd h List.not_mem_nil, fun _ h => absurd h List.not_mem_nil, fun _ h => absurd h List.not_mem_nil, List.forall_mem_cons.mpr ⟨cl_X9_isLaw (s_X9_isLaw o) (by decide) (Or.inl w_1443), List.forall_mem_cons.mpr ⟨cl_X9_isPit (s_X9_isPit o) (by decide) (Or.inl w_1267), List.forall_mem_cons.mpr ⟨cl_X9_isLeaf (s_X9_isLeaf o) (by decide) (Or.inl w_1285), List.forall_mem_cons.mpr ⟨cl_X9_layTogether (s_X9_layTogether o) (by decide) (Or.inl w_1449), List.forall_mem_cons.mpr ⟨cl_X9_layWay (s_X9_layWay o) (by decide) (Or.inl w_1477), fun _ h => absurd h List.not_mem_nil⟩⟩⟩⟩⟩, fun _ h => absurd h List.not_mem_nil⟩
def C_X9_sure : Ctr := fun A σ k => wpl A_X9_sure V_X9_sure (yK Y_X9_sure) B_X9_sure k 4 0 [] (entL A) σ
theorem s_X9_sure (o : OM) : Sound o Y_X9_sure 3 C_X9_sure := fun Q A σ _ hC => at_wpl (e_X9_sure o) k_X9_sure 4 0 [] (entL A) σ hC
theorem op_sure {σ : Sto} (hR : Rel σ) {a b c d : Int} {κ : List AV → Sto → Prop} (hκ : ∀ v τ, Mid C_X9_sure [vR 67, vI a, vI b, vI c, vI d] (σ 102) v τ → κ [vI v] τ) : C_X8_sure [vR 0, vI a, vI b, vI c, vI d] σ κ := by
  obtain ⟨⟨c1, c2, c3, c4, c5, c6, c7, c8, c9, c10, c11, c12, c13, c14, c15, c16⟩, ⟨e1, e2, e3, e4, e5, e6, e7, e8, e9, e10, e11, e12, e13, e14, e15⟩, ⟨g1, g2, g3, g4⟩, ⟨h1, h2, h3, h4, h5, h6⟩, ⟨l1, l2, l3, l4⟩, hImg, ⟨n1, n2, n3, n4⟩⟩ := id hR
  have hQ := Rel_QC hR
  have unk : ¬ ((0 ≤ a ∧ a < σ 7 0) ∧ (0 ≤ c ∧ c < σ 1 0) ∧ (0 ≤ b ∧ b < σ 1 0 ∧ 0 ≤ d ∧ d < σ 12 b)) → κ [vI (-101)] σ := by
    intro h
    refine hκ _ _ (fun κ' hκ' => ?_)
    simp only [C_X9_sure, sq_iconst, sq_jsr, sq_anewarray, sq_iload, sq_lload, sq_aload, sq_istore, sq_lstore, sq_astore, sq_iinc, sq_getfield, st_put0, st_put1, st_put3, sq_inv, sq_goto, sq_icmp, sq_ifc, sq_tsw, sq_iadd, sq_isub, sq_imul, sq_ineg, sq_idiv, sq_irem, sq_iand, sq_ior, sq_ixor, sq_ishl, sq_ishr, sq_iushr, sq_ladd, sq_lmul, sq_ldiv, sq_lrem, sq_land, sq_lor, sq_lshl, sq_lushr, sq_lcmp, sq_i2l, sq_l2i, sq_i2c, sq_i2b, sq_dupI, sq_dupR, sq_dup2, sq_pop, sq_iaload, sq_baload, sq_aaload, sq_iastore, sq_bastore, sq_alen, sq_ireturn, sq_lreturn, sq_return, wq_c, wq_n, wlq_s, lkp, tbl, dBk, nth, setL, canSet, cmpI, tk, swK, rdF, entL, catS, cat1, arg, rcv, ald, bld, aln, br, Ccopy, Cmax, Cmin, Cabs, List.take, List.drop, List.reverse, List.reverseAux, List.length, List.append, List.nil_append, List.cons_append, true_and, and_true, and_self, forall_const, true_implies, false_implies, not_true_eq_false, not_false_eq_true, Option.map, reduceCtorEq, reduceIte, or_true, true_or, false_or, or_false, false_and, and_false, List.map, List.append_nil, implies_true, yK, Nat.reduceBEq, beq_self_eq_true, Int.zero_ne_one, Nat.reduceDiv, Nat.reduceMod, Nat.reduceAdd, Nat.reduceSub, Nat.reduceMul, Nat.reduceEqDiff, Nat.reduceLeDiff, Int.reduceToNat, Int.reduceNeg, Int.reduceEq, Int.reduceLT, Int.reduceLE, Int.reduceNatCast, Int.reduceNatCast', Int.reduceAdd, Int.reduceSub, Int.reduceMul, eq_self, Prod.mk.injEq, A_X9_sure, V_X9_sure, B_X9_sure, Y_X9_sure, C_X9_isLaw, A_X9_isLaw, V_X9_isLaw, B_X9_isLaw, Y_X9_isLaw, C_X9_in, C_X9_isPit, C_X9_isLeaf, C_X9_layTogether, C_X9_layWay, shpT, rfsT, br, e1, e5, l1]
    exact ⟨⟨by omega, by omega⟩, fun za => ⟨c1, fun zb => ⟨⟨c1, c2⟩, fun zc => absurd ⟨⟨za.1, by omega⟩, zb, zc⟩ h, fun _ => hκ' _ hR rfl⟩, fun _ => hκ' _ hR rfl⟩, fun _ => hκ' _ hR rfl⟩
  simp only [C_X8_sure, sq_iconst, sq_jsr, sq_anewarray, sq_iload, sq_lload, sq_aload, sq_istore, sq_lstore, sq_astore, sq_iinc, sq_getfield, st_put0, st_put1, st_put3, sq_inv, sq_goto, sq_icmp, sq_ifc, sq_tsw, sq_iadd, sq_isub, sq_imul, sq_ineg, sq_idiv, sq_irem, sq_iand, sq_ior, sq_ixor, sq_ishl, sq_ishr, sq_iushr, sq_ladd, sq_lmul, sq_ldiv, sq_lrem, sq_land, sq_lor, sq_lshl, sq_lushr, sq_lcmp, sq_i2l, sq_l2i, sq_i2c, sq_i2b, sq_dupI, sq_dupR, sq_dup2, sq_pop, sq_iaload, sq_baload, sq_aaload, sq_iastore, sq_bastore, sq_alen, sq_ireturn, sq_lreturn, sq_return, wq_c, wq_n, wlq_s, lkp, tbl, dBk, nth, setL, canSet, cmpI, tk, swK, rdF, entL, catS, cat1, arg, rcv, ald, bld, aln, br, Ccopy, Cmax, Cmin, Cabs, List.take, List.drop, List.reverse, List.reverseAux, List.length, List.append, List.nil_append, List.cons_append, true_and, and_true, and_self, forall_const, true_implies, false_implies, not_true_eq_false, not_false_eq_true, Option.map, reduceCtorEq, reduceIte, or_true, true_or, false_or, or_false, false_and, and_false, List.map, List.append_nil, implies_true, yK, Nat.reduceBEq, beq_self_eq_true, Int.zero_ne_one, Nat.reduceDiv, Nat.reduceMod, Nat.reduceAdd, Nat.reduceSub, Nat.reduceMul, Nat.reduceEqDiff, Nat.reduceLeDiff, Int.reduceToNat, Int.reduceNeg, Int.reduceEq, Int.reduceLT, Int.reduceLE, Int.reduceNatCast, Int.reduceNatCast', Int.reduceAdd, Int.reduceSub, Int.reduceMul, eq_self, Prod.mk.injEq, A_X8_sure, V_X8_sure, B_X8_sure, Y_X8_sure, C_X2_has, C_X6_has, C_X6_hasLeaf, C_X5_setTogether, C_X5_goTheWay, C_X5_leastOfAll, C_X5_leastWithout, shpT, rfsT, br, su_r]
  refine ⟨fun qa => ⟨fun qc => ⟨c1, fun qb => ⟨fun q1 => ⟨⟨by omega, by omega⟩, ⟨⟨by omega, by omega⟩, ⟨by omega, by omega⟩, ⟨by omega, by omega⟩, hQ⟩, fun τ f1 f2 f3 f4 => ⟨⟨f4, f3⟩, fun τ1 K k1 k2 k3 k4 k5 k6 => ?_⟩⟩, fun q1 => hκ _ _ (fun κ' hκ' => ?_)⟩, fun qb => unk (fun z => qb z.2.2)⟩, fun qc => unk (fun z => qc z.2.1)⟩, fun qa => unk (fun z => qa z.1)⟩
  · have f2 : SetC σ τ a b c (-1) (-1) := f2
    have sb := c2 b qb.1 (by omega)
    have dn : 0 ≤ d ∧ d < 16 := ⟨by omega, by omega⟩
    have offs : ∀ τx : Sto, (∀ p : Nat, ¬ (p = 9 ∨ (38 < p ∧ p < 48)) → τx p = su σ 0 11 (σ 0 11 + 1) p) → (sameC τx σ ∧ τx 0 11 = σ 0 11 + 1 ∧ τx 0 12 = σ 0 12 ∧ τx 67 = σ 67) := by
      intro τx hx
      have h1 : sameS τx (su σ 0 11 (σ 0 11 + 1)) := offP_same hx
      refine ⟨sameC_t (sameC_s h1) ⟨fun p hp => su_r (by rintro rfl; exact absurd hp (by decide)), fun i _ _ _ => rfl, rfl, rfl⟩, by rw [h1.2.2.2.2.1]; rfl, by rw [h1.2.2.2.2.2]; rfl, by rw [hx 67 (by decide)]; rfl⟩
    have key : ∀ (τx : Sto) (v : Int), (∀ p : Nat, ¬ (p = 9 ∨ (38 < p ∧ p < 48)) → τx p = su σ 0 11 (σ 0 11 + 1) p) → (∀ (ρ ρ2 : Sto) (K' : Nat), SetM σ ρ a b c (-1) (-1) → TabM ρ → PrM ρ → fsM ρ (pth (fsM ρ) K').1 (pth (fsM ρ) K').2 = -1 → WayM (fsM ρ) K' (ρ2 79) (ρ2 80) (ρ2 81) → ρ2 77 = ρ 77 → (ρ2 81 d = 0 → v = -1) ∧ (¬ ρ2 81 d = 0 → ∀ ρ3 : Sto, SetM σ ρ3 a b c d (ρ2 80 d) → TabM ρ3 → PrM ρ3 → v = ρ3 77 0 - ρ2 77 0 ∧ i32 (ρ3 77 0 - ρ2 77 0))) → κ [vI v] τx := by
      intro τx v hx hv
      obtain ⟨sC, x1, x2, x3⟩ := offs τx hx
      have t0 : τx 67 0 = σ 1 0 := by rw [x3, e1]
      have t11 : τx 67 11 = σ 7 0 := by rw [x3, l1]
      have t31 : τx 67 31 = σ 0 11 := by rw [x3, n1]
      have t69 : τx 69 = σ 12 := by rw [sC.1 69 rfl, e5]
      obtain ⟨τy, hy⟩ : ∃ t : Sto, t = su τx 67 31 (σ 0 11 + 1) := ⟨_, rfl⟩
      have yC : sameC τy σ := sameC_t ⟨fun p hp => by rw [hy]; exact su_r (by rintro rfl; exact absurd hp (by decide)), fun i _ h31 _ => by rw [hy, su_at, if_neg h31], by rw [hy]; rfl, by rw [hy]; rfl⟩ sC
      have hY : Rel τy := Rel_c yC hR ⟨by rw [hy, su_at, if_pos rfl, su_r (by decide), x1], by rw [hy, su_r (by decide), x1]; omega, by rw [hy, su_at, if_neg (by decide), su_r (by decide), x2, x3, n3], by rw [hy, su_r (by decide), x2]; exact n4⟩
      refine hκ _ _ (fun κ' hκ' => ?_)
      have hk : ∀ (r : Int) (τ' : Sto), r = v → sameS τ' τy → κ' [vI r] τ' := fun r τ' q1 q2 => q1 ▸ hκ' τ' (Rel_e q2 hY) (by rw [q2.1 102 rfl, yC.1 102 rfl])
      clear hκ' hκ
      have pre : (0 ≤ a ∧ a < 4) ∧ (0 ≤ b ∧ b < 7) ∧ (0 ≤ c ∧ c < 7) := ⟨⟨by omega, by omega⟩, ⟨by omega, by omega⟩, ⟨by omega, by omega⟩⟩
      have eM : ∀ (ρ : Sto) (bi bj : Int), SetM τy ρ a b c bi bj → SetM σ ρ a b c bi bj := by
        intro ρ bi bj h
        unfold SetM at *
        rw [← yC.1 12 rfl, ← yC.1 13 rfl, ← yC.1 14 rfl, ← yC.1 15 rfl, ← yC.1 38 rfl]
        exact h
      simp only [C_X9_sure, sq_iconst, sq_jsr, sq_anewarray, sq_iload, sq_lload, sq_aload, sq_istore, sq_lstore, sq_astore, sq_iinc, sq_getfield, st_put0, st_put1, st_put3, sq_inv, sq_goto, sq_icmp, sq_ifc, sq_tsw, sq_iadd, sq_isub, sq_imul, sq_ineg, sq_idiv, sq_irem, sq_iand, sq_ior, sq_ixor, sq_ishl, sq_ishr, sq_iushr, sq_ladd, sq_lmul, sq_ldiv, sq_lrem, sq_land, sq_lor, sq_lshl, sq_lushr, sq_lcmp, sq_i2l, sq_l2i, sq_i2c, sq_i2b, sq_dupI, sq_dupR, sq_dup2, sq_pop, sq_iaload, sq_baload, sq_aaload, sq_iastore, sq_bastore, sq_alen, sq_ireturn, sq_lreturn, sq_return, wq_c, wq_n, wlq_s, lkp, tbl, dBk, nth, setL, canSet, cmpI, tk, swK, rdF, entL, catS, cat1, arg, rcv, ald, bld, aln, br, Ccopy, Cmax, Cmin, Cabs, List.take, List.drop, List.reverse, List.reverseAux, List.length, List.append, List.nil_append, List.cons_append, true_and, and_true, and_self, forall_const, true_implies, false_implies, not_true_eq_false, not_false_eq_true, Option.map, reduceCtorEq, reduceIte, or_true, true_or, false_or, or_false, false_and, and_false, List.map, List.append_nil, implies_true, yK, Nat.reduceBEq, beq_self_eq_true, Int.zero_ne_one, Nat.reduceDiv, Nat.reduceMod, Nat.reduceAdd, Nat.reduceSub, Nat.reduceMul, Nat.reduceEqDiff, Nat.reduceLeDiff, Int.reduceToNat, Int.reduceNeg, Int.reduceEq, Int.reduceLT, Int.reduceLE, Int.reduceNatCast, Int.reduceNatCast', Int.reduceAdd, Int.reduceSub, Int.reduceMul, eq_self, Prod.mk.injEq, A_X9_sure, V_X9_sure, B_X9_sure, Y_X9_sure, C_X9_isLaw, A_X9_isLaw, V_X9_isLaw, B_X9_isLaw, Y_X9_isLaw, C_X9_in, C_X9_isPit, C_X9_isLeaf, C_X9_layTogether, C_X9_layWay, shpT, rfsT, br, su_r, t0, t11, t31, ← hy]
      refine ⟨⟨by omega, by omega⟩, fun _ => ⟨c1, fun _ => ⟨⟨c1, by rw [t69]; exact c2⟩, fun _ => ⟨fun _ => ⟨⟨by omega, by omega⟩, ⟨pre.1, pre.2.1, pre.2.2, ?_⟩, fun ρ g1 g2 => ?_⟩, fun z => absurd (by omega) z⟩, fun z => absurd (by rw [t69]; exact qb) z⟩, fun z => absurd qc z⟩, fun z => absurd (by omega) z⟩
      · exact Rel_QM hY
      · have gM := eM ρ _ _ (SetM_of hY (sameS_r τy) g1)
        have gP := PrM_of hY (sameS_r τy) pre.1 pre.2.1 pre.2.2 g1
        have gs := setM_same g1
        refine ⟨⟨gP, g2⟩, fun ρ2 K' o1 o2 o3 o4 o5 o6 => ?_⟩
        have s2 := sameS_t (offM_same o1) gs
        have w := hv ρ ρ2 K' gM g2 gP o4 o6 (o1.1 77 (by decide) (by decide))
        refine ⟨dn, fun z => ⟨dn, ⟨pre.1, pre.2.1, pre.2.2, Rel_QM (Rel_e s2 hY)⟩, fun ρ3 r1 r2 => ?_⟩, fun z => hk _ _ (w.1 (Classical.not_not.mp z)).symm s2⟩
        have w2 := w.2 z ρ3 (eM ρ3 _ _ (SetM_of hY s2 r1)) r2 (PrM_of hY s2 pre.1 pre.2.1 pre.2.2 r1)
        exact ⟨w2.2, hk _ _ w2.1.symm (sameS_t (setM_same r1) s2)⟩
    have x1 : ∀ p : Nat, ¬ (p = 9 ∨ (38 < p ∧ p < 48)) → τ1 p = su σ 0 11 (σ 0 11 + 1) p := fun p hp => by rw [offW_off k1 p hp, f1 p hp]
    refine ⟨dn, fun z => ⟨dn, ?_, fun τ2 v1 v2 => ?_⟩, fun z => key τ1 (-1) x1 (fun ρ ρ2 K' m1 m2 m3 m4 m5 m6 => ⟨fun _ => rfl, fun y => ?_⟩)⟩
    · exact PrI_in (l := a) (a := b) (b := c) (bi := -1) (bj := -1) hR (SetC_bar (i := -1) (j := -1) f2 (fun x _ _ h17 => k1.2 x h17) (by rw [k1.2 12 (by decide)]; exact f2.2.2.2.2.1) (by rw [k1.2 13 (by decide)]; exact f2.2.2.2.2.2) (fun q q1 q2 => k1.1 q (by omega) (by omega))) ⟨by omega, by omega⟩ ⟨by omega, by omega⟩ ⟨by omega, by omega⟩
    · have t43 : τ1 43 = τ 43 := k1.1 43 (by decide) (by decide)
      have s9 : SetC σ τ2 a b c d (τ1 46 d) := by
        refine SetC_bar f2 (fun x h12 h13 h17 => ?_) ?_ ?_ (fun q q1 q2 => ?_)
        · rw [v1 9 (by decide) (by decide), su_at, if_neg h13, su_at, if_neg h12, k1.2 x h17]
        · rw [v1 9 (by decide) (by decide), su_at, if_neg (by decide), su_at, if_pos rfl]
        · rw [v1 9 (by decide) (by decide), su_at, if_pos rfl]
        · rw [v1 q (by omega) (by omega), su_r (by omega), su_r (by omega), k1.1 q (by omega) (by omega)]
      have I2 := PrI_in hR s9 ⟨by omega, by omega⟩ ⟨by omega, by omega⟩ ⟨by omega, by omega⟩
      have b1 := (v2 0 0 (by omega) I2.1.1 (by omega) I2.2.1.1).2.2.1
      have b2 := (f3 0 0 (by omega) f4.1.1 (by omega) f4.2.1.1).2.2.1
      have i1 := I2.1
      have i2 := I2.2.1
      have i3 := f4.1
      have i4 := f4.2.1
      have b1 : 0 ≤ τ2 43 0 ∧ τ2 43 0 ≤ 20000 * (τ2 9 6 - 0 + (τ2 9 7 - 0)) := b1
      have b2 : 0 ≤ τ 43 0 ∧ τ 43 0 ≤ 20000 * (τ 9 6 - 0 + (τ 9 7 - 0)) := b2
      have bnd : i32 (τ2 43 0 - τ1 43 0) := by rw [t43]; exact ⟨by omega, by omega⟩
      refine ⟨bnd, key τ2 _ (fun p hp => ?_) (fun ρ ρ2 K' m1 m2 m3 m4 m5 m6 => ?_)⟩
      · rw [v1 p (by omega) (by omega), su_r (by omega), su_r (by omega)]
        exact x1 p hp
      · have tw := two_way f2 m1 f3 f4 m2 m3 k4 k5 k6 m4 m5
        have td := tw.2.2 d qb.2.2.1 (by rw [f2.1.1]; exact qb.2.2.2)
        have l81 := td.2.1.mp z
        refine ⟨fun y => by omega, fun _ ρ3 r1 r2 r3 => ?_⟩
        rw [← td.1] at r1
        have a1 := ((two_tab s9 r1 v2 r2 r3).2.2 0 0 (by omega) I2.1.1 (by omega) I2.2.1.1).1
        have a2 := ((two_tab f2 m1 f3 m2 m3).2.2 0 0 (by omega) f4.1.1 (by omega) f4.2.1.1).1
        have a1 : τ2 43 0 = ρ3 77 0 := a1
        have a2 : τ 43 0 = ρ 77 0 := a2
        have e : ρ3 77 0 - ρ2 77 0 = τ2 43 0 - τ1 43 0 := by rw [m6, ← a1, ← a2, t43]
        rw [e]
        exact ⟨rfl, bnd⟩
    · exfalso
      have tw := two_way f2 m1 f3 f4 m2 m3 k4 k5 k6 m4 m5
      have td := tw.2.2 d qb.2.2.1 (by rw [f2.1.1]; exact qb.2.2.2)
      exact z (td.2.1.mpr (by have := td.2.2.1; omega))
  · simp only [C_X9_sure, sq_iconst, sq_jsr, sq_anewarray, sq_iload, sq_lload, sq_aload, sq_istore, sq_lstore, sq_astore, sq_iinc, sq_getfield, st_put0, st_put1, st_put3, sq_inv, sq_goto, sq_icmp, sq_ifc, sq_tsw, sq_iadd, sq_isub, sq_imul, sq_ineg, sq_idiv, sq_irem, sq_iand, sq_ior, sq_ixor, sq_ishl, sq_ishr, sq_iushr, sq_ladd, sq_lmul, sq_ldiv, sq_lrem, sq_land, sq_lor, sq_lshl, sq_lushr, sq_lcmp, sq_i2l, sq_l2i, sq_i2c, sq_i2b, sq_dupI, sq_dupR, sq_dup2, sq_pop, sq_iaload, sq_baload, sq_aaload, sq_iastore, sq_bastore, sq_alen, sq_ireturn, sq_lreturn, sq_return, wq_c, wq_n, wlq_s, lkp, tbl, dBk, nth, setL, canSet, cmpI, tk, swK, rdF, entL, catS, cat1, arg, rcv, ald, bld, aln, br, Ccopy, Cmax, Cmin, Cabs, List.take, List.drop, List.reverse, List.reverseAux, List.length, List.append, List.nil_append, List.cons_append, true_and, and_true, and_self, forall_const, true_implies, false_implies, not_true_eq_false, not_false_eq_true, Option.map, reduceCtorEq, reduceIte, or_true, true_or, false_or, or_false, false_and, and_false, List.map, List.append_nil, implies_true, yK, Nat.reduceBEq, beq_self_eq_true, Int.zero_ne_one, Nat.reduceDiv, Nat.reduceMod, Nat.reduceAdd, Nat.reduceSub, Nat.reduceMul, Nat.reduceEqDiff, Nat.reduceLeDiff, Int.reduceToNat, Int.reduceNeg, Int.reduceEq, Int.reduceLT, Int.reduceLE, Int.reduceNatCast, Int.reduceNatCast', Int.reduceAdd, Int.reduceSub, Int.reduceMul, eq_self, Prod.mk.injEq, A_X9_sure, V_X9_sure, B_X9_sure, Y_X9_sure, C_X9_isLaw, A_X9_isLaw, V_X9_isLaw, B_X9_isLaw, Y_X9_isLaw, C_X9_in, C_X9_isPit, C_X9_isLeaf, C_X9_layTogether, C_X9_layWay, shpT, rfsT, br, e1, e5, l1, n1]
    exact ⟨⟨by omega, by omega⟩, fun _ => ⟨c1, fun _ => ⟨⟨c1, c2⟩, fun _ => ⟨fun z => absurd (by omega) z, fun _ => hκ' _ hR rfl⟩, fun z => absurd qb z⟩, fun z => absurd qc z⟩, fun z => absurd (by omega) z⟩

