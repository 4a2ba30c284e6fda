-- ===== digest of the class =====
theorem ef {h v : Int} : w64 (w64 (31 * h) + v) = fdl h v := rfl
def A_X8_foldPit : List (Nat × Ctr) := [(2, arg 4 C_X8_fold), (3, rcv 6 3 C_X6_kindOf), (3, rcv 6 3 C_X6_thicknessOf), (3, rcv 6 3 C_X6_nOf), (3, rcv 1 3 C_X1_yearsOfAll)]
theorem e_X8_foldPit (o : OM) : Ev o Y_X8_foldPit 3 T_X8_foldPit A_X8_foldPit := ⟨rfl, List.forall_mem_cons.mpr ⟨Or.inl f_X8_10, List.forall_mem_cons.mpr ⟨Or.inl f_X8_308, List.forall_mem_cons.mpr ⟨Or.inl f_X8_106, List.forall_mem_cons.mpr ⟨Or.inl f_X8_45, List.forall_mem_cons.mpr ⟨Or.inl f_X8_165, fun _ h => absurd h List.not_mem_nil⟩⟩⟩⟩⟩, fun _ h => absurd h List.not_mem_nil, fun _ h => absurd h List.not_mem_nil, fun _ h => absurd h List.not_mem_nil, List.forall_mem_cons.mpr ⟨cl_X6_kindOf (s_X6_kindOf o) (by decide) (Or.inr ⟨_, wn_45⟩), List.forall_mem_cons.mpr ⟨cl_X6_thicknessOf (s_X6_thicknessOf o) (by decide) (Or.inr ⟨_, wn_49⟩), List.forall_mem_cons.mpr ⟨cl_X6_nOf (s_X6_nOf o) (by decide) (Or.inr ⟨_, wn_50⟩), List.forall_mem_cons.mpr ⟨cl_X1_yearsOfAll (s_X1_yearsOfAll o) (by decide) (Or.inr ⟨_, wn_46⟩), fun _ h => absurd h List.not_mem_nil⟩⟩⟩⟩, List.forall_mem_cons.mpr ⟨cl_X8_fold (s_X8_fold o) (by decide) (Or.inl w_1061), fun _ h => absurd h List.not_mem_nil⟩⟩
def C_X8_foldPit : Ctr := fun A σ κ => match A with
  | [.inr (.inr (.inl 0)), .inr (.inl h), .inl p] => (Rel σ ∧ (0 ≤ p ∧ p < σ 1 0)) ∧ κ [vL (pitH σ p h)] σ
  | _ => False
set_option maxRecDepth 20000 in
theorem s_X8_foldPit (o : OM) : Sound o Y_X8_foldPit 3 C_X8_foldPit := by
  intro Q A σ hA hC
  match A, hA, hC with
  | [.inr (.inr (.inl 0)), .inr (.inl h), .inl p], hA, hC =>
    obtain ⟨h0, hq⟩ : (Rel σ ∧ (0 ≤ p ∧ p < σ 1 0)) ∧ Q [vL (pitH σ p h)] σ := hC
    have hQ : ∀ r_ τ, r_ = (pitH σ p h) → τ = (σ) → Q [vL r_] τ := fun r_ τ e e2 => e ▸ e2 ▸ hq
    obtain ⟨hR, hp⟩ := h0
    obtain ⟨⟨c1, c2, c3, c4, c5, c6, c7, c8, c9, c10, c11, c12, c13, c14, c15, c16⟩, ⟨e1, e2, e3, e4, e5, e6, e7, e8, e9, e10, e11, e12, e13, e14, e15⟩, ⟨g1, g2, g3, g4⟩, ⟨h1, h2, h3, h4, h5, h6⟩, ⟨l1, l2, l3, l4⟩, hImg, ⟨n1, n2, n3, n4⟩⟩ := id hR
    have s12 := c2 p hp.1 (by omega)
    obtain ⟨P18, hP18⟩ : ∃ P : Nat → List AV → List AV → Sto → Prop, P = fun m S L τ => ∃ n : Nat, S = [] ∧ L = [vR 0, vL (itr (lfH σ p) (fdl h (σ 11 p)) n), vX, vI p, vI (n : Int)] ∧ τ = σ ∧ (n : Int) ≤ σ 12 p ∧ m = 100 - n := ⟨_, rfl⟩
    obtain ⟨P89, hP89⟩ : ∃ P : Nat → List AV → List AV → Sto → Prop, P = fun m S L τ => ∃ n : Nat, S = [] ∧ L = [vR 0, vL (itr (yrH σ p) (itr (lfH σ p) (fdl h (σ 11 p)) (σ 12 p).toNat) n), vX, vI p, vI ((n : Int) - 1)] ∧ τ = σ ∧ (n : Int) ≤ σ 6 1 + 1 ∧ m = 20 - n := ⟨_, rfl⟩
    refine at_meth (lv := V_X8_foldPit) (B := B_X8_foldPit) (e_X8_foldPit o) k_X8_foldPit 4 [(18, P18), (89, P89)] (List.forall_mem_cons.mpr ⟨?_, List.forall_mem_cons.mpr ⟨?_, fun _ h => absurd h List.not_mem_nil⟩⟩) 0 [] _ σ ?_
    · intro m S L τ hI
      rw [hP18] at hI
      obtain ⟨n, rfl, rfl, rfl, hn, hm⟩ := hI
      simp only [sq_iconst, sq_jsr, sq_anewarray, sq_iload, sq_lload, sq_aload, sq_istore, sq_lstore, sq_astore, sq_iinc, sq_getfield, st_put0, st_put1, st_put3, sq_inv, sq_goto, sq_icmp, sq_ifc, sq_tsw, sq_iadd, sq_isub, sq_imul, sq_ineg, sq_idiv, sq_irem, sq_iand, sq_ior, sq_ixor, sq_ishl, sq_ishr, sq_iushr, sq_ladd, sq_lmul, sq_ldiv, sq_lrem, sq_land, sq_lor, sq_lshl, sq_lushr, sq_lcmp, sq_i2l, sq_l2i, sq_i2c, sq_i2b, sq_dupI, sq_dupR, sq_dup2, sq_pop, sq_iaload, sq_baload, sq_aaload, sq_iastore, sq_bastore, sq_alen, sq_ireturn, sq_lreturn, sq_return, wq_c, wq_n, wlq_s, lkp, tbl, dBk, nth, setL, canSet, cmpI, tk, swK, rdF, entL, catS, cat1, arg, rcv, ald, bld, aln, br, Ccopy, Cmax, Cmin, Cabs, List.take, List.drop, List.reverse, List.reverseAux, List.length, List.append, List.nil_append, List.cons_append, true_and, and_true, and_self, forall_const, true_implies, false_implies, not_true_eq_false, not_false_eq_true, Option.map, reduceCtorEq, reduceIte, or_true, true_or, false_or, or_false, false_and, and_false, List.map, List.append_nil, implies_true, yK, Nat.reduceBEq, beq_self_eq_true, Int.zero_ne_one, Nat.reduceDiv, Nat.reduceMod, Nat.reduceAdd, Nat.reduceSub, Nat.reduceMul, Nat.reduceEqDiff, Nat.reduceLeDiff, Int.reduceToNat, Int.reduceNeg, Int.reduceEq, Int.reduceLT, Int.reduceLE, Int.reduceNatCast, Int.reduceNatCast', Int.reduceAdd, Int.reduceSub, Int.reduceMul, eq_self, Prod.mk.injEq, A_X8_foldPit, V_X8_foldPit, B_X8_foldPit, Y_X8_foldPit, C_X8_fold, C_X6_kindOf, C_X6_thicknessOf, C_X6_nOf, C_X1_yearsOfAll, shpT, rfsT, wjq_s, look, br, ef]
      refine ⟨⟨by omega, by omega⟩, fun h' => ?_, fun h' => ⟨⟨hp.1, (by omega), (by omega), (by omega)⟩, ⟨hp.1, (by omega), (by omega), (by omega)⟩, ⟨hp.1, (by omega), (by omega), (by omega)⟩, ⟨by omega, by omega⟩, ?_⟩⟩
      · rw [hP89]
        have e : (τ 12 p).toNat = n := by omega
        exact ⟨_, by omega, 0, rfl, by rw [e]; rfl, rfl, (by omega), rfl⟩
      · rw [hP18]
        exact ⟨_, by omega, n + 1, rfl, rfl, rfl, (by omega), rfl⟩
    · intro m S L τ hI
      rw [hP89] at hI
      obtain ⟨n, rfl, rfl, rfl, hn, hm⟩ := hI
      simp only [sq_iconst, sq_jsr, sq_anewarray, sq_iload, sq_lload, sq_aload, sq_istore, sq_lstore, sq_astore, sq_iinc, sq_getfield, st_put0, st_put1, st_put3, sq_inv, sq_goto, sq_icmp, sq_ifc, sq_tsw, sq_iadd, sq_isub, sq_imul, sq_ineg, sq_idiv, sq_irem, sq_iand, sq_ior, sq_ixor, sq_ishl, sq_ishr, sq_iushr, sq_ladd, sq_lmul, sq_ldiv, sq_lrem, sq_land, sq_lor, sq_lshl, sq_lushr, sq_lcmp, sq_i2l, sq_l2i, sq_i2c, sq_i2b, sq_dupI, sq_dupR, sq_dup2, sq_pop, sq_iaload, sq_baload, sq_aaload, sq_iastore, sq_bastore, sq_alen, sq_ireturn, sq_lreturn, sq_return, wq_c, wq_n, wlq_s, lkp, tbl, dBk, nth, setL, canSet, cmpI, tk, swK, rdF, entL, catS, cat1, arg, rcv, ald, bld, aln, br, Ccopy, Cmax, Cmin, Cabs, List.take, List.drop, List.reverse, List.reverseAux, List.length, List.append, List.nil_append, List.cons_append, true_and, and_true, and_self, forall_const, true_implies, false_implies, not_true_eq_false, not_false_eq_true, Option.map, reduceCtorEq, reduceIte, or_true, true_or, false_or, or_false, false_and, and_false, List.map, List.append_nil, implies_true, yK, Nat.reduceBEq, beq_self_eq_true, Int.zero_ne_one, Nat.reduceDiv, Nat.reduceMod, Nat.reduceAdd, Nat.reduceSub, Nat.reduceMul, Nat.reduceEqDiff, Nat.reduceLeDiff, Int.reduceToNat, Int.reduceNeg, Int.reduceEq, Int.reduceLT, Int.reduceLE, Int.reduceNatCast, Int.reduceNatCast', Int.reduceAdd, Int.reduceSub, Int.reduceMul, eq_self, Prod.mk.injEq, A_X8_foldPit, V_X8_foldPit, B_X8_foldPit, Y_X8_foldPit, C_X8_fold, C_X6_kindOf, C_X6_thicknessOf, C_X6_nOf, C_X1_yearsOfAll, shpT, rfsT, wjq_s, look, br, ef]
      refine ⟨fun h' => ?_, fun h' => ⟨⟨⟨by omega, by omega⟩, ⟨by omega, by omega⟩, s12, c3, h3⟩, ⟨by omega, by omega⟩, ?_⟩⟩
      · have e : (τ 6 1 + 1).toNat = n := by omega
        exact hQ _ _ (by unfold pitH; rw [e]) rfl
      · rw [hP89]
        refine ⟨_, ?_, n + 1, rfl, ?_, rfl, (by omega), rfl⟩
        · omega
        · rw [show ((n + 1 : Nat) : Int) - 1 = (n : Int) - 1 + 1 by omega]
          rfl
    · simp only [sq_iconst, sq_jsr, sq_anewarray, sq_iload, sq_lload, sq_aload, sq_istore, sq_lstore, sq_astore, sq_iinc, sq_getfield, st_put0, st_put1, st_put3, sq_inv, sq_goto, sq_icmp, sq_ifc, sq_tsw, sq_iadd, sq_isub, sq_imul, sq_ineg, sq_idiv, sq_irem, sq_iand, sq_ior, sq_ixor, sq_ishl, sq_ishr, sq_iushr, sq_ladd, sq_lmul, sq_ldiv, sq_lrem, sq_land, sq_lor, sq_lshl, sq_lushr, sq_lcmp, sq_i2l, sq_l2i, sq_i2c, sq_i2b, sq_dupI, sq_dupR, sq_dup2, sq_pop, sq_iaload, sq_baload, sq_aaload, sq_iastore, sq_bastore, sq_alen, sq_ireturn, sq_lreturn, sq_return, wq_c, wq_n, wlq_s, lkp, tbl, dBk, nth, setL, canSet, cmpI, tk, swK, rdF, entL, catS, cat1, arg, rcv, ald, bld, aln, br, Ccopy, Cmax, Cmin, Cabs, List.take, List.drop, List.reverse, List.reverseAux, List.length, List.append, List.nil_append, List.cons_append, true_and, and_true, and_self, forall_const, true_implies, false_implies, not_true_eq_false, not_false_eq_true, Option.map, reduceCtorEq, reduceIte, or_true, true_or, false_or, or_false, false_and, and_false, List.map, List.append_nil, implies_true, yK, Nat.reduceBEq, beq_self_eq_true, Int.zero_ne_one, Nat.reduceDiv, Nat.reduceMod, Nat.reduceAdd, Nat.reduceSub, Nat.reduceMul, Nat.reduceEqDiff, Nat.reduceLeDiff, Int.reduceToNat, Int.reduceNeg, Int.reduceEq, Int.reduceLT, Int.reduceLE, Int.reduceNatCast, Int.reduceNatCast', Int.reduceAdd, Int.reduceSub, Int.reduceMul, eq_self, Prod.mk.injEq, A_X8_foldPit, V_X8_foldPit, B_X8_foldPit, Y_X8_foldPit, C_X8_fold, C_X6_kindOf, C_X6_thicknessOf, C_X6_nOf, C_X1_yearsOfAll, shpT, rfsT, wjq_s, look, br, ef]
      rw [hP18]
      exact ⟨⟨by omega, by omega⟩, _, 0, rfl, rfl, rfl, (by omega), rfl⟩
def A_X8_foldLaw : List (Nat × Ctr) := [(4, rcv 5 4 C_X5_setTogether), (1, rcv 5 1 C_X5_leastOfAll), (2, arg 4 C_X8_fold)]
theorem e_X8_foldLaw (o : OM) : Ev o Y_X8_foldLaw 6 T_X8_foldLaw A_X8_foldLaw := ⟨rfl, List.forall_mem_cons.mpr ⟨Or.inl f_X8_10, List.forall_mem_cons.mpr ⟨Or.inl f_X8_92, List.forall_mem_cons.mpr ⟨Or.inl f_X8_68, fun _ h => absurd h List.not_mem_nil⟩⟩⟩, fun _ h => absurd h List.not_mem_nil, fun _ h => absurd h List.not_mem_nil, fun _ h => absurd h List.not_mem_nil, List.forall_mem_cons.mpr ⟨cl_X5_setTogether (s_X5_setTogether o) (by decide) (Or.inr ⟨_, wn_68⟩), List.forall_mem_cons.mpr ⟨cl_X5_leastOfAll (s_X5_leastOfAll o) (by decide) (Or.inr ⟨_, wn_74⟩), fun _ h => absurd h List.not_mem_nil⟩⟩, List.forall_mem_cons.mpr ⟨cl_X8_fold (s_X8_fold o) (by decide) (Or.inl w_1061), fun _ h => absurd h List.not_mem_nil⟩⟩
def C_X8_foldLaw : Ctr := fun A σ κ => match A with
  | [.inr (.inr (.inl 0)), .inr (.inl h), .inl l] => (Rel σ ∧ (0 ≤ l ∧ l < 4)) ∧ ∀ τ, offP σ τ → κ [vL (lawH σ l h)] τ
  | _ => False
set_option maxRecDepth 20000 in
theorem s_X8_foldLaw (o : OM) : Sound o Y_X8_foldLaw 6 C_X8_foldLaw := by
  intro Q A σ hA hC
  match A, hA, hC with
  | [.inr (.inr (.inl 0)), .inr (.inl h), .inl l], hA, hC =>
    obtain ⟨h0, hq⟩ : (Rel σ ∧ (0 ≤ l ∧ l < 4)) ∧ ∀ τ, offP σ τ → Q [vL (lawH σ l h)] τ := hC
    obtain ⟨hR, hl⟩ := h0
    obtain ⟨⟨c1, c2, c3, c4, c5, c6, c7, c8, c9, c10, c11, c12, c13, c14, c15, c16⟩, ⟨e1, e2, e3, e4, e5, e6, e7, e8, e9, e10, e11, e12, e13, e14, e15⟩, ⟨g1, g2, g3, g4⟩, ⟨h1, h2, h3, h4, h5, h6⟩, ⟨l1, l2, l3, l4⟩, hImg, ⟨n1, n2, n3, n4⟩⟩ := id hR
    obtain ⟨g, hg⟩ : ∃ g : Int → Int → Int, g = prH (fun a b h => fdl h (lsf σ l a b)) (σ 1 0) := ⟨_, rfl⟩
    obtain ⟨P3, hP3⟩ : ∃ P : Nat → List AV → List AV → Sto → Prop, P = fun m S L τ => ∃ a : Nat, S = [] ∧ L = [vR 0, vL (itr g h a), vX, vI l, vI (a : Int)] ∧ offP σ τ ∧ (a : Int) ≤ σ 1 0 ∧ m = (8 - a) * 20 := ⟨_, rfl⟩
    obtain ⟨P21, hP21⟩ : ∃ P : Nat → List AV → List AV → Sto → Prop, P = fun m S L τ => ∃ a k : Nat, S = [] ∧ L = [vR 0, vL (itr (fun k h => fdl h (lsf σ l a ((a : Int) + 1 + k))) (itr g h a) k), vX, vI l, vI (a : Int), vI ((a : Int) + 1 + k)] ∧ offP σ τ ∧ (a : Int) < σ 1 0 ∧ (a : Int) + 1 + k ≤ σ 1 0 ∧ m = (8 - a) * 20 - 1 - k := ⟨_, rfl⟩
    refine at_meth (lv := V_X8_foldLaw) (B := B_X8_foldLaw) (e_X8_foldLaw o) k_X8_foldLaw 4 [(3, P3), (21, P21)] (List.forall_mem_cons.mpr ⟨?_, List.forall_mem_cons.mpr ⟨?_, fun _ h => absurd h List.not_mem_nil⟩⟩) 0 [] _ σ ?_
    · intro m S L τ hI
      rw [hP3] at hI
      obtain ⟨a, rfl, rfl, ho, ha, hm⟩ := hI
      have t1 : τ 1 = σ 1 := ho 1 (by omega)
      simp only [sq_iconst, sq_jsr, sq_anewarray, sq_iload, sq_lload, sq_aload, sq_istore, sq_lstore, sq_astore, sq_iinc, sq_getfield, st_put0, st_put1, st_put3, sq_inv, sq_goto, sq_icmp, sq_ifc, sq_tsw, sq_iadd, sq_isub, sq_imul, sq_ineg, sq_idiv, sq_irem, sq_iand, sq_ior, sq_ixor, sq_ishl, sq_ishr, sq_iushr, sq_ladd, sq_lmul, sq_ldiv, sq_lrem, sq_land, sq_lor, sq_lshl, sq_lushr, sq_lcmp, sq_i2l, sq_l2i, sq_i2c, sq_i2b, sq_dupI, sq_dupR, sq_dup2, sq_pop, sq_iaload, sq_baload, sq_aaload, sq_iastore, sq_bastore, sq_alen, sq_ireturn, sq_lreturn, sq_return, wq_c, wq_n, wlq_s, lkp, tbl, dBk, nth, setL, canSet, cmpI, tk, swK, rdF, entL, catS, cat1, arg, rcv, ald, bld, aln, br, Ccopy, Cmax, Cmin, Cabs, List.take, List.drop, List.reverse, List.reverseAux, List.length, List.append, List.nil_append, List.cons_append, true_and, and_true, and_self, forall_const, true_implies, false_implies, not_true_eq_false, not_false_eq_true, Option.map, reduceCtorEq, reduceIte, or_true, true_or, false_or, or_false, false_and, and_false, List.map, List.append_nil, implies_true, yK, Nat.reduceBEq, beq_self_eq_true, Int.zero_ne_one, Nat.reduceDiv, Nat.reduceMod, Nat.reduceAdd, Nat.reduceSub, Nat.reduceMul, Nat.reduceEqDiff, Nat.reduceLeDiff, Int.reduceToNat, Int.reduceNeg, Int.reduceEq, Int.reduceLT, Int.reduceLE, Int.reduceNatCast, Int.reduceNatCast', Int.reduceAdd, Int.reduceSub, Int.reduceMul, eq_self, Prod.mk.injEq, A_X8_foldLaw, V_X8_foldLaw, B_X8_foldLaw, Y_X8_foldLaw, C_X5_setTogether, C_X5_leastOfAll, C_X8_fold, shpT, rfsT, wjq_s, look, br, ef, t1]
      refine ⟨fun h' => ?_, fun h' => ⟨⟨by omega, by omega⟩, ?_⟩⟩
      · have e : (σ 1 0).toNat = a := by omega
        have := hq τ ho
        unfold lawH at this
        rw [← hg, e] at this
        exact this
      · rw [hP21]
        exact ⟨_, by omega, a, 0, rfl, by rw [show (a : Int) + 1 + ((0 : Nat) : Int) = (a : Int) + 1 by omega]; rfl, ho, (by omega), (by omega), rfl⟩
    · intro m S L τ hI
      rw [hP21] at hI
      obtain ⟨a, k, rfl, rfl, ho, ha, hk, hm⟩ := hI
      have t1 : τ 1 = σ 1 := ho 1 (by omega)
      simp only [sq_iconst, sq_jsr, sq_anewarray, sq_iload, sq_lload, sq_aload, sq_istore, sq_lstore, sq_astore, sq_iinc, sq_getfield, st_put0, st_put1, st_put3, sq_inv, sq_goto, sq_icmp, sq_ifc, sq_tsw, sq_iadd, sq_isub, sq_imul, sq_ineg, sq_idiv, sq_irem, sq_iand, sq_ior, sq_ixor, sq_ishl, sq_ishr, sq_iushr, sq_ladd, sq_lmul, sq_ldiv, sq_lrem, sq_land, sq_lor, sq_lshl, sq_lushr, sq_lcmp, sq_i2l, sq_l2i, sq_i2c, sq_i2b, sq_dupI, sq_dupR, sq_dup2, sq_pop, sq_iaload, sq_baload, sq_aaload, sq_iastore, sq_bastore, sq_alen, sq_ireturn, sq_lreturn, sq_return, wq_c, wq_n, wlq_s, lkp, tbl, dBk, nth, setL, canSet, cmpI, tk, swK, rdF, entL, catS, cat1, arg, rcv, ald, bld, aln, br, Ccopy, Cmax, Cmin, Cabs, List.take, List.drop, List.reverse, List.reverseAux, List.length, List.append, List.nil_append, List.cons_append, true_and, and_true, and_self, forall_const, true_implies, false_implies, not_true_eq_false, not_false_eq_true, Option.map, reduceCtorEq, reduceIte, or_true, true_or, false_or, or_false, false_and, and_false, List.map, List.append_nil, implies_true, yK, Nat.reduceBEq, beq_self_eq_true, Int.zero_ne_one, Nat.reduceDiv, Nat.reduceMod, Nat.reduceAdd, Nat.reduceSub, Nat.reduceMul, Nat.reduceEqDiff, Nat.reduceLeDiff, Int.reduceToNat, Int.reduceNeg, Int.reduceEq, Int.reduceLT, Int.reduceLE, Int.reduceNatCast, Int.reduceNatCast', Int.reduceAdd, Int.reduceSub, Int.reduceMul, eq_self, Prod.mk.injEq, A_X8_foldLaw, V_X8_foldLaw, B_X8_foldLaw, Y_X8_foldLaw, C_X5_setTogether, C_X5_leastOfAll, C_X8_fold, shpT, rfsT, wjq_s, look, br, ef, t1]
      have sm := offP_same ho
      have hT := Rel_e sm hR
      refine ⟨fun h' => ⟨⟨by omega, by omega⟩, ?_⟩, fun h' => ⟨⟨hl, ⟨by omega, by omega⟩, ⟨by omega, by omega⟩, Rel_QC hT⟩, fun T f1 f2 f3 f4 => ⟨⟨by omega, by omega⟩, ?_⟩⟩⟩
      · rw [hP3]
        have e : (σ 1 0 - ((a : Int) + 1)).toNat = k := by omega
        refine ⟨_, ?_, a + 1, rfl, ?_, ho, (by omega), rfl⟩
        · omega
        · rw [itr_s]
          have : g (a : Int) (itr g h a) = itr (fun k h => fdl h (lsf σ l a ((a : Int) + 1 + k))) (itr g h a) k := by
            rw [hg]
            unfold prH
            rw [e]
          rw [this]
          rfl
      · rw [hP21]
        have ev : T 43 0 = lsf σ l a ((a : Int) + 1 + k) := by rw [lsf_C hT hl ⟨by omega, by omega⟩ ⟨by omega, by omega⟩ f2 f3, lsf_e hR sm]
        refine ⟨_, ?_, a, k + 1, rfl, ?_, fun q hq' => by rw [f1 q hq', ho q hq'], ha, (by omega), rfl⟩
        · omega
        · rw [ev, show (a : Int) + 1 + ((k + 1 : Nat) : Int) = (a : Int) + 1 + k + 1 by omega]
          rfl
    · simp only [sq_iconst, sq_jsr, sq_anewarray, sq_iload, sq_lload, sq_aload, sq_istore, sq_lstore, sq_astore, sq_iinc, sq_getfield, st_put0, st_put1, st_put3, sq_inv, sq_goto, sq_icmp, sq_ifc, sq_tsw, sq_iadd, sq_isub, sq_imul, sq_ineg, sq_idiv, sq_irem, sq_iand, sq_ior, sq_ixor, sq_ishl, sq_ishr, sq_iushr, sq_ladd, sq_lmul, sq_ldiv, sq_lrem, sq_land, sq_lor, sq_lshl, sq_lushr, sq_lcmp, sq_i2l, sq_l2i, sq_i2c, sq_i2b, sq_dupI, sq_dupR, sq_dup2, sq_pop, sq_iaload, sq_baload, sq_aaload, sq_iastore, sq_bastore, sq_alen, sq_ireturn, sq_lreturn, sq_return, wq_c, wq_n, wlq_s, lkp, tbl, dBk, nth, setL, canSet, cmpI, tk, swK, rdF, entL, catS, cat1, arg, rcv, ald, bld, aln, br, Ccopy, Cmax, Cmin, Cabs, List.take, List.drop, List.reverse, List.reverseAux, List.length, List.append, List.nil_append, List.cons_append, true_and, and_true, and_self, forall_const, true_implies, false_implies, not_true_eq_false, not_false_eq_true, Option.map, reduceCtorEq, reduceIte, or_true, true_or, false_or, or_false, false_and, and_false, List.map, List.append_nil, implies_true, yK, Nat.reduceBEq, beq_self_eq_true, Int.zero_ne_one, Nat.reduceDiv, Nat.reduceMod, Nat.reduceAdd, Nat.reduceSub, Nat.reduceMul, Nat.reduceEqDiff, Nat.reduceLeDiff, Int.reduceToNat, Int.reduceNeg, Int.reduceEq, Int.reduceLT, Int.reduceLE, Int.reduceNatCast, Int.reduceNatCast', Int.reduceAdd, Int.reduceSub, Int.reduceMul, eq_self, Prod.mk.injEq, A_X8_foldLaw, V_X8_foldLaw, B_X8_foldLaw, Y_X8_foldLaw, C_X5_setTogether, C_X5_leastOfAll, C_X8_fold, shpT, rfsT, wjq_s, look, br, ef]
      rw [hP3]
      exact ⟨_, 0, rfl, rfl, fun _ _ => rfl, (by omega), rfl⟩
def A_X0_foldInto : List (Nat × Ctr) := [(2, arg 4 C_X8_fold), (2, rcv 0 2 C_X0_isKept), (1, arg 1 C_X8_asNumber), (2, rcv 0 2 C_X0_isTied)]
theorem e_X0_foldInto (o : OM) : Ev o Y_X0_foldInto 1 T_X0_foldInto A_X0_foldInto := ⟨rfl, List.forall_mem_cons.mpr ⟨Or.inl f_X0_9, List.forall_mem_cons.mpr ⟨Or.inl f_X0_15, List.forall_mem_cons.mpr ⟨Or.inl f_X0_19, List.forall_mem_cons.mpr ⟨Or.inl f_X0_22, List.forall_mem_cons.mpr ⟨Or.inl f_X0_25, List.forall_mem_cons.mpr ⟨Or.inl f_X0_28, List.forall_mem_cons.mpr ⟨Or.inl f_X0_37, List.forall_mem_cons.mpr ⟨Or.inl f_X0_40, fun _ h => absurd h List.not_mem_nil⟩⟩⟩⟩⟩⟩⟩⟩, fun _ h => absurd h List.not_mem_nil, fun _ h => absurd h List.not_mem_nil, fun _ h => absurd h List.not_mem_nil, List.forall_mem_cons.mpr ⟨cl_X0_isKept (s_X0_isKept o) (by decide) (Or.inl w_1074), List.forall_mem_cons.mpr ⟨cl_X0_isTied (s_X0_isTied o) (by decide) (Or.inl w_1076), fun _ h => absurd h List.not_mem_nil⟩⟩, List.forall_mem_cons.mpr ⟨cl_X8_fold (s_X8_fold o) (by decide) (Or.inr ⟨_, wn_109⟩), List.forall_mem_cons.mpr ⟨cl_X8_asNumber (s_X8_asNumber o) (by decide) (Or.inr ⟨_, wn_110⟩), fun _ h => absurd h List.not_mem_nil⟩⟩⟩
def C_X0_foldInto : Ctr := fun A σ κ => match A with
  | [.inr (.inr (.inl 2)), .inr (.inl h)] => (Rel σ) ∧ κ [vL (bdH σ h)] σ
  | _ => False
set_option maxRecDepth 20000 in
theorem s_X0_foldInto (o : OM) : Sound o Y_X0_foldInto 1 C_X0_foldInto := by
  intro Q A σ hA hC
  match A, hA, hC with
  | [.inr (.inr (.inl 2)), .inr (.inl h)], hA, hC =>
    obtain ⟨h0, hq⟩ : (Rel σ) ∧ Q [vL (bdH σ h)] σ := hC
    have hQ : ∀ r_ τ, r_ = (bdH σ h) → τ = (σ) → Q [vL r_] τ := fun r_ τ e e2 => e ▸ e2 ▸ hq
    obtain ⟨⟨c1, c2, c3, c4, c5, c6, c7, c8, c9, c10, c11, c12, c13, c14, c15, c16⟩, ⟨e1, e2, e3, e4, e5, e6, e7, e8, e9, e10, e11, e12, e13, e14, e15⟩, ⟨g1, g2, g3, g4⟩, ⟨h1, h2, h3, h4, h5, h6⟩, ⟨l1, l2, l3, l4⟩, hImg, ⟨n1, n2, n3, n4⟩⟩ := id h0
    obtain ⟨gj, hgj⟩ : ∃ g : Int → Int → Int, g = jnH σ := ⟨_, rfl⟩
    obtain ⟨gt, hgt⟩ : ∃ g : Int → Int → Int, g = tiH σ := ⟨_, rfl⟩
    have hQ : ∀ r_ τ, r_ = itr gt (itr gj h (σ 2 0).toNat) 7 → τ = σ → Q [vL r_] τ := fun r τ e1 e2 => hQ r τ (by rw [e1, hgj, hgt]; rfl) e2
    have jy : ∀ (n : Int) x, bb (σ 2 6) n = true → gj n x = fdl (fdl (fdl (fdl (fdl (fdl x (σ 16 n)) (σ 17 n)) (σ 18 n)) (σ 19 n)) (σ 20 n)) 1 := fun n x w => by rw [hgj]; unfold jnH; rw [if_pos w]
    have jn : ∀ (n : Int) x, ¬ bb (σ 2 6) n = true → gj n x = fdl (fdl (fdl (fdl (fdl (fdl x (σ 16 n)) (σ 17 n)) (σ 18 n)) (σ 19 n)) (σ 20 n)) 0 := fun n x w => by rw [hgj]; unfold jnH; rw [if_neg w]
    have ty : ∀ (n : Int) x, bb (σ 2 7) n = true → gt n x = fdl (fdl (fdl x n) (σ 21 n)) (σ 22 n) := fun n x w => by rw [hgt]; unfold tiH; rw [if_pos w]
    have tn : ∀ (n : Int) x, ¬ bb (σ 2 7) n = true → gt n x = x := fun n x w => by rw [hgt]; unfold tiH; rw [if_neg w]
    clear hgj hgt
    obtain ⟨P2, hP2⟩ : ∃ P : Nat → List AV → List AV → Sto → Prop, P = fun m S L τ => ∃ n : Nat, S = [] ∧ L = [vR 2, vL (itr gj h n), vX, vI (n : Int)] ∧ τ = σ ∧ (n : Int) ≤ σ 2 0 ∧ m = 100 - n := ⟨_, rfl⟩
    obtain ⟨P92, hP92⟩ : ∃ P : Nat → List AV → List AV → Sto → Prop, P = fun m S L τ => ∃ n : Nat, S = [] ∧ L = [vR 2, vL (itr gt (itr gj h (σ 2 0).toNat) n), vX, vI (n : Int)] ∧ τ = σ ∧ (n : Int) ≤ 7 ∧ m = 20 - n := ⟨_, rfl⟩
    refine at_meth (lv := V_X0_foldInto) (B := B_X0_foldInto) (e_X0_foldInto o) k_X0_foldInto 4 [(2, P2), (92, P92)] (List.forall_mem_cons.mpr ⟨?_, List.forall_mem_cons.mpr ⟨?_, fun _ h => absurd h List.not_mem_nil⟩⟩) 0 [] _ σ ?_
    · intro m S L τ hI
      rw [hP2] at hI
      obtain ⟨n, rfl, rfl, rfl, hn, hm⟩ := hI
      simp only [sq_iconst, sq_jsr, sq_anewarray, sq_iload, sq_lload, sq_aload, sq_istore, sq_lstore, sq_astore, sq_iinc, sq_getfield, st_put0, st_put1, st_put3, sq_inv, sq_goto, sq_icmp, sq_ifc, sq_tsw, sq_iadd, sq_isub, sq_imul, sq_ineg, sq_idiv, sq_irem, sq_iand, sq_ior, sq_ixor, sq_ishl, sq_ishr, sq_iushr, sq_ladd, sq_lmul, sq_ldiv, sq_lrem, sq_land, sq_lor, sq_lshl, sq_lushr, sq_lcmp, sq_i2l, sq_l2i, sq_i2c, sq_i2b, sq_dupI, sq_dupR, sq_dup2, sq_pop, sq_iaload, sq_baload, sq_aaload, sq_iastore, sq_bastore, sq_alen, sq_ireturn, sq_lreturn, sq_return, wq_c, wq_n, wlq_s, lkp, tbl, dBk, nth, setL, canSet, cmpI, tk, swK, rdF, entL, catS, cat1, arg, rcv, ald, bld, aln, br, Ccopy, Cmax, Cmin, Cabs, List.take, List.drop, List.reverse, List.reverseAux, List.length, List.append, List.nil_append, List.cons_append, true_and, and_true, and_self, forall_const, true_implies, false_implies, not_true_eq_false, not_false_eq_true, Option.map, reduceCtorEq, reduceIte, or_true, true_or, false_or, or_false, false_and, and_false, List.map, List.append_nil, implies_true, yK, Nat.reduceBEq, beq_self_eq_true, Int.zero_ne_one, Nat.reduceDiv, Nat.reduceMod, Nat.reduceAdd, Nat.reduceSub, Nat.reduceMul, Nat.reduceEqDiff, Nat.reduceLeDiff, Int.reduceToNat, Int.reduceNeg, Int.reduceEq, Int.reduceLT, Int.reduceLE, Int.reduceNatCast, Int.reduceNatCast', Int.reduceAdd, Int.reduceSub, Int.reduceMul, eq_self, Prod.mk.injEq, A_X0_foldInto, V_X0_foldInto, B_X0_foldInto, Y_X0_foldInto, C_X8_fold, C_X0_isKept, C_X8_asNumber, C_X0_isTied, shpT, rfsT, wjq_s, look, br, ef]
      have ab := and_bit (a := τ 2 6) (j := n) (by omega) (by omega)
      refine ⟨fun h' => ?_, fun h' => ⟨⟨by omega, by omega⟩, ⟨by omega, by omega⟩, ⟨by omega, by omega⟩, ⟨by omega, by omega⟩, ⟨by omega, by omega⟩, ⟨by omega, by omega⟩, fun w => ⟨⟨by omega, by omega⟩, ?_⟩, fun w => ⟨⟨by omega, by omega⟩, ?_⟩⟩⟩
      · rw [hP92]
        have e : (τ 2 0).toNat = n := by omega
        exact ⟨_, by omega, 0, rfl, by rw [e]; rfl, rfl, (by omega), rfl⟩
      · rw [hP2]
        refine ⟨_, ?_, n + 1, rfl, ?_, rfl, (by omega), rfl⟩
        · omega
        · rw [itr_s, jy _ _ (ab.mp w)]
          rfl
      · rw [hP2]
        refine ⟨_, ?_, n + 1, rfl, ?_, rfl, (by omega), rfl⟩
        · omega
        · rw [itr_s, jn _ _ (fun y => w (ab.mpr y))]
          rfl
    · intro m S L τ hI
      rw [hP92] at hI
      obtain ⟨n, rfl, rfl, rfl, hn, hm⟩ := hI
      simp only [sq_iconst, sq_jsr, sq_anewarray, sq_iload, sq_lload, sq_aload, sq_istore, sq_lstore, sq_astore, sq_iinc, sq_getfield, st_put0, st_put1, st_put3, sq_inv, sq_goto, sq_icmp, sq_ifc, sq_tsw, sq_iadd, sq_isub, sq_imul, sq_ineg, sq_idiv, sq_irem, sq_iand, sq_ior, sq_ixor, sq_ishl, sq_ishr, sq_iushr, sq_ladd, sq_lmul, sq_ldiv, sq_lrem, sq_land, sq_lor, sq_lshl, sq_lushr, sq_lcmp, sq_i2l, sq_l2i, sq_i2c, sq_i2b, sq_dupI, sq_dupR, sq_dup2, sq_pop, sq_iaload, sq_baload, sq_aaload, sq_iastore, sq_bastore, sq_alen, sq_ireturn, sq_lreturn, sq_return, wq_c, wq_n, wlq_s, lkp, tbl, dBk, nth, setL, canSet, cmpI, tk, swK, rdF, entL, catS, cat1, arg, rcv, ald, bld, aln, br, Ccopy, Cmax, Cmin, Cabs, List.take, List.drop, List.reverse, List.reverseAux, List.length, List.append, List.nil_append, List.cons_append, true_and, and_true, and_self, forall_const, true_implies, false_implies, not_true_eq_false, not_false_eq_true, Option.map, reduceCtorEq, reduceIte, or_true, true_or, false_or, or_false, false_and, and_false, List.map, List.append_nil, implies_true, yK, Nat.reduceBEq, beq_self_eq_true, Int.zero_ne_one, Nat.reduceDiv, Nat.reduceMod, Nat.reduceAdd, Nat.reduceSub, Nat.reduceMul, Nat.reduceEqDiff, Nat.reduceLeDiff, Int.reduceToNat, Int.reduceNeg, Int.reduceEq, Int.reduceLT, Int.reduceLE, Int.reduceNatCast, Int.reduceNatCast', Int.reduceAdd, Int.reduceSub, Int.reduceMul, eq_self, Prod.mk.injEq, A_X0_foldInto, V_X0_foldInto, B_X0_foldInto, Y_X0_foldInto, C_X8_fold, C_X0_isKept, C_X8_asNumber, C_X0_isTied, shpT, rfsT, wjq_s, look, br, ef]
      have ab := and_bit (a := τ 2 7) (j := n) (by omega) (by omega)
      refine ⟨fun h' => ?_, fun h' => ⟨⟨by omega, by omega⟩, fun w => ⟨⟨by omega, by omega⟩, ⟨by omega, by omega⟩, ⟨by omega, by omega⟩, ?_⟩, fun w => ⟨⟨by omega, by omega⟩, ?_⟩⟩⟩
      · have e : n = 7 := by omega
        subst e
        exact hQ _ _ rfl rfl
      · rw [hP92]
        refine ⟨_, ?_, n + 1, rfl, ?_, rfl, (by omega), rfl⟩
        · omega
        · rw [itr_s, ty _ _ (ab.mp w)]
          rfl
      · rw [hP92]
        refine ⟨_, ?_, n + 1, rfl, ?_, rfl, (by omega), rfl⟩
        · omega
        · rw [itr_s, tn _ _ (fun y => w (ab.mpr y))]
          rfl
    · simp only [sq_iconst, sq_jsr, sq_anewarray, sq_iload, sq_lload, sq_aload, sq_istore, sq_lstore, sq_astore, sq_iinc, sq_getfield, st_put0, st_put1, st_put3, sq_inv, sq_goto, sq_icmp, sq_ifc, sq_tsw, sq_iadd, sq_isub, sq_imul, sq_ineg, sq_idiv, sq_irem, sq_iand, sq_ior, sq_ixor, sq_ishl, sq_ishr, sq_iushr, sq_ladd, sq_lmul, sq_ldiv, sq_lrem, sq_land, sq_lor, sq_lshl, sq_lushr, sq_lcmp, sq_i2l, sq_l2i, sq_i2c, sq_i2b, sq_dupI, sq_dupR, sq_dup2, sq_pop, sq_iaload, sq_baload, sq_aaload, sq_iastore, sq_bastore, sq_alen, sq_ireturn, sq_lreturn, sq_return, wq_c, wq_n, wlq_s, lkp, tbl, dBk, nth, setL, canSet, cmpI, tk, swK, rdF, entL, catS, cat1, arg, rcv, ald, bld, aln, br, Ccopy, Cmax, Cmin, Cabs, List.take, List.drop, List.reverse, List.reverseAux, List.length, List.append, List.nil_append, List.cons_append, true_and, and_true, and_self, forall_const, true_implies, false_implies, not_true_eq_false, not_false_eq_true, Option.map, reduceCtorEq, reduceIte, or_true, true_or, false_or, or_false, false_and, and_false, List.map, List.append_nil, implies_true, yK, Nat.reduceBEq, beq_self_eq_true, Int.zero_ne_one, Nat.reduceDiv, Nat.reduceMod, Nat.reduceAdd, Nat.reduceSub, Nat.reduceMul, Nat.reduceEqDiff, Nat.reduceLeDiff, Int.reduceToNat, Int.reduceNeg, Int.reduceEq, Int.reduceLT, Int.reduceLE, Int.reduceNatCast, Int.reduceNatCast', Int.reduceAdd, Int.reduceSub, Int.reduceMul, eq_self, Prod.mk.injEq, A_X0_foldInto, V_X0_foldInto, B_X0_foldInto, Y_X0_foldInto, C_X8_fold, C_X0_isKept, C_X8_asNumber, C_X0_isTied, shpT, rfsT, wjq_s, look, br, ef]
      rw [hP2]
      exact ⟨_, 0, rfl, rfl, rfl, (by omega), rfl⟩

