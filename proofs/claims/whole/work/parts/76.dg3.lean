-- ===== digest of the class: the net, the whole =====
noncomputable def spG (σ : Sto) : Int → Int → Int := prH (fun a b h => fdl (fdl h (spv (clM σ) 0 a b)) (spv (clM σ) 1 a b)) (σ 1 0)
theorem netH_y {σ : Sto} {m : Mx} (h : CloK (KC σ) m) (x : Int) : netH σ x = fdl (itr (spG σ) (fdl (fdl x (σ 2 10)) 1) (σ 1 0).toNat) (grN σ) := by
  unfold netH spH
  rw [clN_y h, if_pos rfl]
  rfl
theorem netH_n {σ : Sto} (h : NoM (KC σ)) (x : Int) : netH σ x = fdl (fdl (fdl x (σ 2 10)) 0) (grN σ) := by
  unfold netH spH
  rw [clN_n h, if_neg (by decide)]
theorem spv_g {σ : Sto} {g : Int → Int} (hI : NIc σ) (hN : NetK (KC σ) g) {a b : Int} (ha : nd a) (hb : nd b) : (g (a * 8 + b) = 1000000000 → ∀ e, -100004 = spv (clM σ) e a b) ∧ (¬ g (a * 8 + b) = 1000000000 → -(g (b * 8 + a)) = spv (clM σ) 0 a b ∧ g (a * 8 + b) = spv (clM σ) 1 a b) := by
  have hc := NetK_Clo hN
  refine ⟨fun z e => ?_, fun z => ?_⟩
  · rw [← spv_e hc ha hb]
    unfold spv
    rw [if_pos (og_z.mpr z)]
  · have hS := CloK_sym (KC_nd hI) hc
    have z2 : ¬ g (b * 8 + a) = 1000000000 := fun y => z (og_z.mp (hS b a hb ha (og_z.mpr y)))
    rw [← spv_e hc ha hb, ← spv_e hc ha hb]
    unfold spv
    rw [if_neg (fun y => z (og_z.mp y)), if_pos rfl, if_neg (fun y => z (og_z.mp y)), if_neg (by decide)]
    unfold og
    rw [if_neg z, if_neg z2]
    exact ⟨rfl, rfl⟩
def A_X8_foldNet : List (Nat × Ctr) := [(1, rcv 3 1 C_X3_weaveWhole), (1, arg 1 C_X8_asNumber), (2, arg 4 C_X8_fold), (4, rcv 8 4 C_X8_spanTold), (1, rcv 3 2 C_X3_group), (1, rcv 3 3 C_X3_groups)]
theorem e_X8_foldNet (o : OM) : Ev o Y_X8_foldNet 5 T_X8_foldNet A_X8_foldNet := ⟨rfl, List.forall_mem_cons.mpr ⟨Or.inl f_X8_77, List.forall_mem_cons.mpr ⟨Or.inl f_X8_19, List.forall_mem_cons.mpr ⟨Or.inl f_X8_264, List.forall_mem_cons.mpr ⟨Or.inl f_X8_10, List.forall_mem_cons.mpr ⟨Or.inl f_X8_92, fun _ h => absurd h List.not_mem_nil⟩⟩⟩⟩⟩, fun _ h => absurd h List.not_mem_nil, fun _ h => absurd h List.not_mem_nil, fun _ h => absurd h List.not_mem_nil, List.forall_mem_cons.mpr ⟨cl_X3_weaveWhole (s_X3_weaveWhole o) (by decide) (Or.inr ⟨_, wn_86⟩), List.forall_mem_cons.mpr ⟨cl_X8_spanTold (s_X8_spanTold o) (by decide) (Or.inl w_880), List.forall_mem_cons.mpr ⟨cl_X3_group (s_X3_group o) (by decide) (Or.inr ⟨_, wn_94⟩), List.forall_mem_cons.mpr ⟨cl_X3_groups (s_X3_groups o) (by decide) (Or.inr ⟨_, wn_95⟩), fun _ h => absurd h List.not_mem_nil⟩⟩⟩⟩, List.forall_mem_cons.mpr ⟨cl_X8_asNumber (s_X8_asNumber o) (by decide) (Or.inl w_799), List.forall_mem_cons.mpr ⟨cl_X8_fold (s_X8_fold o) (by decide) (Or.inl w_1061), fun _ h => absurd h List.not_mem_nil⟩⟩⟩
def C_X8_foldNet : Ctr := fun A σ κ => match A with
  | [.inr (.inr (.inl 0)), .inr (.inl h)] => (Rel σ) ∧ ∀ τ, sameS τ σ → κ [vL (netH σ h)] τ
  | _ => False
set_option maxRecDepth 20000 in
theorem s_X8_foldNet (o : OM) : Sound o Y_X8_foldNet 5 C_X8_foldNet := by
  intro Q A σ hA hC
  match A, hA, hC with
  | [.inr (.inr (.inl 0)), .inr (.inl h)], hA, hC =>
    obtain ⟨h0, hq⟩ : (Rel σ) ∧ ∀ τ, sameS τ σ → Q [vL (netH σ h)] τ := hC
    obtain ⟨⟨c1, c2, c3, c4, c5, c6, c7, c8, c9, c10, c11, c12, c13, c14, c15, c16⟩, ⟨e1, e2, e3, e4, e5, e6, e7, e8, e9, e10, e11, e12, e13, e14, e15⟩, ⟨g1, g2, g3, g4⟩, ⟨h1, h2, h3, h4, h5, h6⟩, ⟨l1, l2, l3, l4⟩, hImg, ⟨n1, n2, n3, n4⟩⟩ := id h0
    obtain ⟨g, hg⟩ : ∃ g : Int → Int → Int, g = spG σ := ⟨_, rfl⟩
    obtain ⟨P37, hP37⟩ : ∃ P : Nat → List AV → List AV → Sto → Prop, P = fun m S L τ => ∃ (a : Nat) (cl x : Int), S = [] ∧ L = [vR 0, vL x, vX, vI cl, vI (a : Int)] ∧ (∀ p : Nat, p ≠ 48 → p ≠ 49 → p ≠ 65 → τ p = σ p) ∧ ((cl = 1 ∧ NetK (KC σ) (τ 48) ∧ x = itr g (fdl (fdl h (σ 2 10)) 1) a ∧ (a : Int) ≤ σ 1 0) ∨ (cl = 0 ∧ NoM (KC σ) ∧ x = fdl (fdl h (σ 2 10)) 0)) ∧ m = (8 - a) * 20 := ⟨_, rfl⟩
    obtain ⟨P59, hP59⟩ : ∃ P : Nat → List AV → List AV → Sto → Prop, P = fun m S L τ => ∃ (a k : Nat), S = [] ∧ L = [vR 0, vL (itr (fun k h => fdl (fdl h (spv (clM σ) 0 a ((a : Int) + 1 + k))) (spv (clM σ) 1 a ((a : Int) + 1 + k))) (itr g (fdl (fdl h (σ 2 10)) 1) a) k), vX, vI 1, vI (a : Int), vI ((a : Int) + 1 + k)] ∧ (∀ p : Nat, p ≠ 48 → p ≠ 49 → p ≠ 65 → τ p = σ p) ∧ NetK (KC σ) (τ 48) ∧ (a : Int) < σ 1 0 ∧ (a : Int) + 1 + k ≤ σ 1 0 ∧ m = (8 - a) * 20 - 1 - k := ⟨_, rfl⟩
    refine at_meth (lv := V_X8_foldNet) (B := B_X8_foldNet) (e_X8_foldNet o) k_X8_foldNet 4 [(37, P37), (59, P59)] (List.forall_mem_cons.mpr ⟨?_, List.forall_mem_cons.mpr ⟨?_, fun _ h => absurd h List.not_mem_nil⟩⟩) 0 [] _ σ ?_
    · intro m S L τ hI
      rw [hP37] at hI
      obtain ⟨a, cl, x, rfl, rfl, hf, hc, hm⟩ := hI
      have t1 : τ 1 = σ 1 := hf 1 (by decide) (by decide) (by decide)
      simp only [sq_iconst, sq_jsr, sq_anewarray, sq_iload, sq_lload, sq_aload, sq_istore, sq_lstore, sq_astore, sq_iinc, sq_getfield, st_put0, st_put1, st_put3, sq_inv, sq_goto, sq_icmp, sq_ifc, sq_tsw, sq_iadd, sq_isub, sq_imul, sq_ineg, sq_idiv, sq_irem, sq_iand, sq_ior, sq_ixor, sq_ishl, sq_ishr, sq_iushr, sq_ladd, sq_lmul, sq_ldiv, sq_lrem, sq_land, sq_lor, sq_lshl, sq_lushr, sq_lcmp, sq_i2l, sq_l2i, sq_i2c, sq_i2b, sq_dupI, sq_dupR, sq_dup2, sq_pop, sq_iaload, sq_baload, sq_aaload, sq_iastore, sq_bastore, sq_alen, sq_ireturn, sq_lreturn, sq_return, wq_c, wq_n, wlq_s, lkp, tbl, dBk, nth, setL, canSet, cmpI, tk, swK, rdF, entL, catS, cat1, arg, rcv, ald, bld, aln, br, Ccopy, Cmax, Cmin, Cabs, List.take, List.drop, List.reverse, List.reverseAux, List.length, List.append, List.nil_append, List.cons_append, true_and, and_true, and_self, forall_const, true_implies, false_implies, not_true_eq_false, not_false_eq_true, Option.map, reduceCtorEq, reduceIte, or_true, true_or, false_or, or_false, false_and, and_false, List.map, List.append_nil, implies_true, yK, Nat.reduceBEq, beq_self_eq_true, Int.zero_ne_one, Nat.reduceDiv, Nat.reduceMod, Nat.reduceAdd, Nat.reduceSub, Nat.reduceMul, Nat.reduceEqDiff, Nat.reduceLeDiff, Int.reduceToNat, Int.reduceNeg, Int.reduceEq, Int.reduceLT, Int.reduceLE, Int.reduceNatCast, Int.reduceNatCast', Int.reduceAdd, Int.reduceSub, Int.reduceMul, eq_self, Prod.mk.injEq, A_X8_foldNet, V_X8_foldNet, B_X8_foldNet, Y_X8_foldNet, C_X3_weaveWhole, C_X8_asNumber, C_X8_fold, C_X8_spanTold, A_X8_spanTold, V_X8_spanTold, B_X8_spanTold, Y_X8_spanTold, C_X3_isFloating, C_X3_endOfSpan, C_X3_group, C_X3_groups, shpT, rfsT, wjq_s, look, br, ef, t1]
      obtain ⟨s1, s2, s3⟩ := lo_same hf
      have hT := Rel_e s1 h0
      have eK := KC_e s2
      have en : ∀ y, (∀ z, y = z → netH σ h = fdl z (grN σ)) → NIc τ ∧ ∀ (τ_1 : Sto), (∀ (p : Nat), p ≠ 65 → p ≠ 66 → τ_1 p = τ p) → LbI (τ_1 66) → LabK (KC τ) (τ_1 66) → ((0 ≤ τ_1 1 0 ∧ τ_1 1 0 ≤ 7) ∧ LbI (τ_1 66)) ∧ Q [vL (fdl y (nGr (τ_1 66) (τ_1 1 0)))] τ_1 := by
        intro y hy
        refine ⟨Rel_cI hT, fun T f1 f2 f3 => ?_⟩
        have u1 : T 1 = σ 1 := by rw [f1 1 (by decide) (by decide), t1]
        have sm : sameS T σ := sameS_t (sameS_p (fun p hp => f1 p (stP_n rfl (by decide) (by decide) (by decide) hp) (stP_n rfl (by decide) (by decide) (by decide) hp))) s1
        rw [u1]
        refine ⟨⟨c1, f2⟩, ?_⟩
        rw [eK] at f3
        rw [grN_e c1 f3, ← hy y rfl]
        exact hq T sm
      rcases hc with ⟨rfl, hN, hx, ha⟩ | ⟨rfl, hN, hx⟩
      · refine ⟨fun w => absurd w (by decide), fun _ => ⟨fun w => en x (fun z e => ?_), fun w => ⟨⟨by omega, by omega⟩, ?_⟩⟩⟩
        · have e1 : (σ 1 0).toNat = a := by omega
          rw [netH_y (NetK_Clo hN), ← e, hx, hg, e1]
        · rw [hP59]
          exact ⟨_, by omega, a, 0, rfl, by rw [hx, show (a : Int) + 1 + ((0 : Nat) : Int) = (a : Int) + 1 by omega]; rfl, hf, hN, (by omega), (by omega), rfl⟩
      · exact ⟨fun _ => en x (fun z e => by rw [netH_n hN, ← e, hx]), fun w => absurd rfl w⟩
    · intro m S L τ hI
      rw [hP59] at hI
      obtain ⟨a, k, rfl, rfl, hf, hN, ha, hk, hm⟩ := hI
      have t1 : τ 1 = σ 1 := hf 1 (by decide) (by decide) (by decide)
      simp only [sq_iconst, sq_jsr, sq_anewarray, sq_iload, sq_lload, sq_aload, sq_istore, sq_lstore, sq_astore, sq_iinc, sq_getfield, st_put0, st_put1, st_put3, sq_inv, sq_goto, sq_icmp, sq_ifc, sq_tsw, sq_iadd, sq_isub, sq_imul, sq_ineg, sq_idiv, sq_irem, sq_iand, sq_ior, sq_ixor, sq_ishl, sq_ishr, sq_iushr, sq_ladd, sq_lmul, sq_ldiv, sq_lrem, sq_land, sq_lor, sq_lshl, sq_lushr, sq_lcmp, sq_i2l, sq_l2i, sq_i2c, sq_i2b, sq_dupI, sq_dupR, sq_dup2, sq_pop, sq_iaload, sq_baload, sq_aaload, sq_iastore, sq_bastore, sq_alen, sq_ireturn, sq_lreturn, sq_return, wq_c, wq_n, wlq_s, lkp, tbl, dBk, nth, setL, canSet, cmpI, tk, swK, rdF, entL, catS, cat1, arg, rcv, ald, bld, aln, br, Ccopy, Cmax, Cmin, Cabs, List.take, List.drop, List.reverse, List.reverseAux, List.length, List.append, List.nil_append, List.cons_append, true_and, and_true, and_self, forall_const, true_implies, false_implies, not_true_eq_false, not_false_eq_true, Option.map, reduceCtorEq, reduceIte, or_true, true_or, false_or, or_false, false_and, and_false, List.map, List.append_nil, implies_true, yK, Nat.reduceBEq, beq_self_eq_true, Int.zero_ne_one, Nat.reduceDiv, Nat.reduceMod, Nat.reduceAdd, Nat.reduceSub, Nat.reduceMul, Nat.reduceEqDiff, Nat.reduceLeDiff, Int.reduceToNat, Int.reduceNeg, Int.reduceEq, Int.reduceLT, Int.reduceLE, Int.reduceNatCast, Int.reduceNatCast', Int.reduceAdd, Int.reduceSub, Int.reduceMul, eq_self, Prod.mk.injEq, A_X8_foldNet, V_X8_foldNet, B_X8_foldNet, Y_X8_foldNet, C_X3_weaveWhole, C_X8_asNumber, C_X8_fold, C_X8_spanTold, A_X8_spanTold, V_X8_spanTold, B_X8_spanTold, Y_X8_spanTold, C_X3_isFloating, C_X3_endOfSpan, C_X3_group, C_X3_groups, shpT, rfsT, wjq_s, look, C_X8_spanTold, sq_iconst, sq_jsr, sq_anewarray, sq_iload, sq_lload, sq_aload, sq_istore, sq_lstore, sq_astore, sq_iinc, sq_getfield, st_put0, st_put1, st_put3, sq_inv, sq_goto, sq_icmp, sq_ifc, sq_tsw, sq_iadd, sq_isub, sq_imul, sq_ineg, sq_idiv, sq_irem, sq_iand, sq_ior, sq_ixor, sq_ishl, sq_ishr, sq_iushr, sq_ladd, sq_lmul, sq_ldiv, sq_lrem, sq_land, sq_lor, sq_lshl, sq_lushr, sq_lcmp, sq_i2l, sq_l2i, sq_i2c, sq_i2b, sq_dupI, sq_dupR, sq_dup2, sq_pop, sq_iaload, sq_baload, sq_aaload, sq_iastore, sq_bastore, sq_alen, sq_ireturn, sq_lreturn, sq_return, wq_c, wq_n, wlq_s, lkp, tbl, dBk, nth, setL, canSet, cmpI, tk, swK, rdF, entL, catS, cat1, arg, rcv, ald, bld, aln, br, Ccopy, Cmax, Cmin, Cabs, List.take, List.drop, List.reverse, List.reverseAux, List.length, List.append, List.nil_append, List.cons_append, true_and, and_true, and_self, forall_const, true_implies, false_implies, not_true_eq_false, not_false_eq_true, Option.map, reduceCtorEq, reduceIte, or_true, true_or, false_or, or_false, false_and, and_false, List.map, List.append_nil, implies_true, yK, Nat.reduceBEq, beq_self_eq_true, Int.zero_ne_one, Nat.reduceDiv, Nat.reduceMod, Nat.reduceAdd, Nat.reduceSub, Nat.reduceMul, Nat.reduceEqDiff, Nat.reduceLeDiff, Int.reduceToNat, Int.reduceNeg, Int.reduceEq, Int.reduceLT, Int.reduceLE, Int.reduceNatCast, Int.reduceNatCast', Int.reduceAdd, Int.reduceSub, Int.reduceMul, eq_self, Prod.mk.injEq, A_X8_spanTold, V_X8_spanTold, B_X8_spanTold, Y_X8_spanTold, C_X3_isFloating, C_X3_endOfSpan, shpT, rfsT, br, ef, t1]
      have na : nd (a : Int) := ⟨by omega, by omega⟩
      have nb : nd ((a : Int) + 1 + k) := by unfold nd; omega
      obtain ⟨v1, v2⟩ := spv_g (Rel_cI h0) hN na nb
      have gi := NetK_in hN
      have hi : (a : Int) + 1 + k < σ 1 0 → i32 ((a : Int) + 1 + k + 1) := fun w => ⟨by omega, by omega⟩
      have nx : ∀ u v, ¬ σ 1 0 ≤ (a : Int) + 1 + k → u = spv (clM σ) 0 a ((a : Int) + 1 + k) → v = spv (clM σ) 1 a ((a : Int) + 1 + k) → i32 ((a : Int) + 1 + k + 1) ∧ ∃ m_1, m_1 < m ∧ P59 m_1 [] [vR 0, vL (fdl (fdl (itr (fun k h => fdl (fdl h (spv (clM σ) 0 a ((a : Int) + 1 + k))) (spv (clM σ) 1 a ((a : Int) + 1 + k))) (itr g (fdl (fdl h (σ 2 10)) 1) a) k) u) v), vX, vI 1, vI (a : Int), vI ((a : Int) + 1 + k + 1)] τ := by
        intro u v w hu hv
        subst hu
        subst hv
        rw [hP59]
        exact ⟨hi (by omega), _, by omega, a, k + 1, rfl, by rw [show (a : Int) + 1 + ((k + 1 : Nat) : Int) = (a : Int) + 1 + k + 1 by omega]; rfl, hf, hN, ha, (by omega), rfl⟩
      refine ⟨fun w => ⟨⟨by omega, by omega⟩, ?_⟩, fun w => ⟨⟨na, nb⟩, fun y => ⟨⟨na, nb⟩, fun _ => nx _ _ w (v1 y 0) (v1 y 1), fun y2 => absurd y y2⟩, fun y => ⟨⟨na, nb, gi⟩, ⟨na, nb⟩, fun y2 => absurd y2 y, fun _ => ⟨⟨na, nb, gi⟩, nx _ _ w (v2 y).1 (v2 y).2⟩⟩⟩⟩
      rw [hP37]
      have e : (σ 1 0 - ((a : Int) + 1)).toNat = k := by omega
      refine ⟨_, ?_, a + 1, 1, _, rfl, rfl, hf, Or.inl ⟨rfl, hN, ?_, (by omega)⟩, rfl⟩
      · omega
      · rw [itr_s, hg]
        show _ = prH _ _ _ _
        unfold prH
        rw [e]
    · simp only [sq_iconst, sq_jsr, sq_anewarray, sq_iload, sq_lload, sq_aload, sq_istore, sq_lstore, sq_astore, sq_iinc, sq_getfield, st_put0, st_put1, st_put3, sq_inv, sq_goto, sq_icmp, sq_ifc, sq_tsw, sq_iadd, sq_isub, sq_imul, sq_ineg, sq_idiv, sq_irem, sq_iand, sq_ior, sq_ixor, sq_ishl, sq_ishr, sq_iushr, sq_ladd, sq_lmul, sq_ldiv, sq_lrem, sq_land, sq_lor, sq_lshl, sq_lushr, sq_lcmp, sq_i2l, sq_l2i, sq_i2c, sq_i2b, sq_dupI, sq_dupR, sq_dup2, sq_pop, sq_iaload, sq_baload, sq_aaload, sq_iastore, sq_bastore, sq_alen, sq_ireturn, sq_lreturn, sq_return, wq_c, wq_n, wlq_s, lkp, tbl, dBk, nth, setL, canSet, cmpI, tk, swK, rdF, entL, catS, cat1, arg, rcv, ald, bld, aln, br, Ccopy, Cmax, Cmin, Cabs, List.take, List.drop, List.reverse, List.reverseAux, List.length, List.append, List.nil_append, List.cons_append, true_and, and_true, and_self, forall_const, true_implies, false_implies, not_true_eq_false, not_false_eq_true, Option.map, reduceCtorEq, reduceIte, or_true, true_or, false_or, or_false, false_and, and_false, List.map, List.append_nil, implies_true, yK, Nat.reduceBEq, beq_self_eq_true, Int.zero_ne_one, Nat.reduceDiv, Nat.reduceMod, Nat.reduceAdd, Nat.reduceSub, Nat.reduceMul, Nat.reduceEqDiff, Nat.reduceLeDiff, Int.reduceToNat, Int.reduceNeg, Int.reduceEq, Int.reduceLT, Int.reduceLE, Int.reduceNatCast, Int.reduceNatCast', Int.reduceAdd, Int.reduceSub, Int.reduceMul, eq_self, Prod.mk.injEq, A_X8_foldNet, V_X8_foldNet, B_X8_foldNet, Y_X8_foldNet, C_X3_weaveWhole, C_X8_asNumber, C_X8_fold, C_X8_spanTold, A_X8_spanTold, V_X8_spanTold, B_X8_spanTold, Y_X8_spanTold, C_X3_isFloating, C_X3_endOfSpan, C_X3_group, C_X3_groups, shpT, rfsT, wjq_s, look, br, ef]
      refine ⟨Rel_cI h0, fun τ f1 f2 f3 => ⟨?_, ?_⟩, fun τ f1 f2 => ⟨?_, ?_⟩⟩
      · rw [f1 2 (by decide) (by decide) (by decide)]; exact c16
      · rw [hP37, f1 2 (by decide) (by decide) (by decide)]
        exact ⟨_, 0, 1, _, rfl, rfl, f1, Or.inl ⟨rfl, f2, rfl, (by omega)⟩, rfl⟩
      · rw [f1 2 (by decide) (by decide) (by decide)]; exact c16
      · rw [hP37, f1 2 (by decide) (by decide) (by decide)]
        exact ⟨_, 0, 0, _, rfl, rfl, f1, Or.inr ⟨rfl, f2, rfl⟩, rfl⟩
/-- a count, on both sides -/
theorem cnt8 {σ : Sto} (hR : Rel σ) {i : Int} (hi : 0 ≤ i ∧ i ≤ 9) {κ : List AV → Sto → Prop} (hκ : κ [vI (cnf σ i)] σ) : C_X8_count [vR 0, vI i] σ κ := by
  obtain ⟨⟨c1, c2, c3, c4, c5, c6, c7, c8, c9, c10, c11, c12, c13, c14, c15, c16⟩, ⟨e1, e2, e3, e4, e5, e6, e7, e8, e9, e10, e11, e12, e13, e14, e15⟩, ⟨g1, g2, g3, g4⟩, ⟨h1, h2, h3, h4, h5, h6⟩, ⟨l1, l2, l3, l4⟩, hImg, ⟨n1, n2, n3, n4⟩⟩ := id hR
  have t7 : 0 ≤ σ 2 7 ∧ σ 2 7 < 4096 := ⟨c13.1, by omega⟩
  simp only [C_X8_count, sq_iconst, sq_jsr, sq_anewarray, sq_iload, sq_lload, sq_aload, sq_istore, sq_lstore, sq_astore, sq_iinc, sq_getfield, st_put0, st_put1, st_put3, sq_inv, sq_goto, sq_icmp, sq_ifc, sq_tsw, sq_iadd, sq_isub, sq_imul, sq_ineg, sq_idiv, sq_irem, sq_iand, sq_ior, sq_ixor, sq_ishl, sq_ishr, sq_iushr, sq_ladd, sq_lmul, sq_ldiv, sq_lrem, sq_land, sq_lor, sq_lshl, sq_lushr, sq_lcmp, sq_i2l, sq_l2i, sq_i2c, sq_i2b, sq_dupI, sq_dupR, sq_dup2, sq_pop, sq_iaload, sq_baload, sq_aaload, sq_iastore, sq_bastore, sq_alen, sq_ireturn, sq_lreturn, sq_return, wq_c, wq_n, wlq_s, lkp, tbl, dBk, nth, setL, canSet, cmpI, tk, swK, rdF, entL, catS, cat1, arg, rcv, ald, bld, aln, br, Ccopy, Cmax, Cmin, Cabs, List.take, List.drop, List.reverse, List.reverseAux, List.length, List.append, List.nil_append, List.cons_append, true_and, and_true, and_self, forall_const, true_implies, false_implies, not_true_eq_false, not_false_eq_true, Option.map, reduceCtorEq, reduceIte, or_true, true_or, false_or, or_false, false_and, and_false, List.map, List.append_nil, implies_true, yK, Nat.reduceBEq, beq_self_eq_true, Int.zero_ne_one, Nat.reduceDiv, Nat.reduceMod, Nat.reduceAdd, Nat.reduceSub, Nat.reduceMul, Nat.reduceEqDiff, Nat.reduceLeDiff, Int.reduceToNat, Int.reduceNeg, Int.reduceEq, Int.reduceLT, Int.reduceLE, Int.reduceNatCast, Int.reduceNatCast', Int.reduceAdd, Int.reduceSub, Int.reduceMul, eq_self, Prod.mk.injEq, A_X8_count, V_X8_count, B_X8_count, Y_X8_count, C_X6_leavesOfAll, C_J6_bitCount_0f7a4, shpT, rfsT, br]
  refine ⟨⟨fun z => ?_, fun z => ⟨⟨c1, c2⟩, ?_⟩, fun z => ?_, fun z => ?_, fun z => ?_, fun z => ⟨c10, ?_⟩, fun z => ⟨t7, ?_⟩, fun z => ?_, fun z => ?_, fun z => ?_⟩, fun z => by omega⟩
  all_goals
    subst z
    exact hκ
def A_X8_digest : List (Nat × Ctr) := [(3, rcv 8 5 C_X8_foldPit), (3, rcv 8 6 C_X8_foldLaw), (2, rcv 0 4 C_X0_foldInto), (2, rcv 8 6 C_X8_foldNet), (2, arg 4 C_X8_fold), (2, rcv 8 2 C_X8_count)]
theorem e_X8_digest (o : OM) : Ev o Y_X8_digest 7 T_X8_digest A_X8_digest := ⟨rfl, List.forall_mem_cons.mpr ⟨Or.inl f_X8_10, List.forall_mem_cons.mpr ⟨Or.inl f_X8_92, List.forall_mem_cons.mpr ⟨Or.inl f_X8_52, List.forall_mem_cons.mpr ⟨Or.inl f_X8_173, List.forall_mem_cons.mpr ⟨Or.inl f_X8_19, List.forall_mem_cons.mpr ⟨Or.inl f_X8_36, List.forall_mem_cons.mpr ⟨Or.inl f_X8_151, List.forall_mem_cons.mpr ⟨Or.inl f_X8_360, fun _ h => absurd h List.not_mem_nil⟩⟩⟩⟩⟩⟩⟩⟩, fun _ h => absurd h List.not_mem_nil, List.forall_mem_cons.mpr ⟨⟨w_1056, by decide, by decide⟩, fun _ h => absurd h List.not_mem_nil⟩, fun _ h => absurd h List.not_mem_nil, List.forall_mem_cons.mpr ⟨cl_X8_foldPit (s_X8_foldPit o) (by decide) (Or.inl w_1057), List.forall_mem_cons.mpr ⟨cl_X8_foldLaw (s_X8_foldLaw o) (by decide) (Or.inl w_1065), List.forall_mem_cons.mpr ⟨cl_X0_foldInto (s_X0_foldInto o) (by decide) (Or.inr ⟨_, wn_108⟩), List.forall_mem_cons.mpr ⟨cl_X8_foldNet (s_X8_foldNet o) (by decide) (Or.inl w_1077), List.forall_mem_cons.mpr ⟨cl_X8_count (s_X8_count o) (by decide) (Or.inl w_1081), fun _ h => absurd h List.not_mem_nil⟩⟩⟩⟩⟩, List.forall_mem_cons.mpr ⟨cl_X8_fold (s_X8_fold o) (by decide) (Or.inl w_1061), fun _ h => absurd h List.not_mem_nil⟩⟩
def C_X8_digest : Ctr := fun A σ κ => match A with
  | [.inr (.inr (.inl 0))] => (Rel σ) ∧ ∀ τ, sameS τ σ → κ [vL (dgs σ)] τ
  | _ => False
set_option maxRecDepth 20000 in
theorem s_X8_digest (o : OM) : Sound o Y_X8_digest 7 C_X8_digest := by
  intro Q A σ hA hC
  match A, hA, hC with
  | [.inr (.inr (.inl 0))], hA, hC =>
    obtain ⟨h0, hq⟩ : (Rel σ) ∧ ∀ τ, sameS τ σ → Q [vL (dgs σ)] τ := hC
    obtain ⟨⟨c1, c2, c3, c4, c5, c6, c7, c8, c9, c10, c11, c12, c13, c14, c15, c16⟩, ⟨e1, e2, e3, e4, e5, e6, e7, e8, e9, e10, e11, e12, e13, e14, e15⟩, ⟨g1, g2, g3, g4⟩, ⟨h1, h2, h3, h4, h5, h6⟩, ⟨l1, l2, l3, l4⟩, hImg, ⟨n1, n2, n3, n4⟩⟩ := id h0
    obtain ⟨gp, hgp⟩ : ∃ g : Int → Int → Int, g = pitH σ := ⟨_, rfl⟩
    obtain ⟨gl, hgl⟩ : ∃ g : Int → Int → Int, g = lawH σ := ⟨_, rfl⟩
    obtain ⟨gw, hgw⟩ : ∃ g : Int → Int → Int, g = fun i h => fdl h (σ 35 i) := ⟨_, rfl⟩
    obtain ⟨gc, hgc⟩ : ∃ g : Int → Int → Int, g = fun i h => fdl h (cnf σ i) := ⟨_, rfl⟩
    obtain ⟨H1, hH1⟩ : ∃ x : Int, x = itr gp 379 (σ 1 0).toNat := ⟨_, rfl⟩
    obtain ⟨H2, hH2⟩ : ∃ x : Int, x = netH σ (bdH σ (itr gl H1 (σ 7 0).toNat)) := ⟨_, rfl⟩
    obtain ⟨H3, hH3⟩ : ∃ x : Int, x = itr gw H2 (σ 5 0).toNat := ⟨_, rfl⟩
    have hq : ∀ τ, sameS τ σ → Q [vL (itr gc H3 10)] τ := fun τ h => by
      have := hq τ h
      unfold dgs at this
      rw [hH3, hH2, hH1, hgp, hgl, hgw, hgc]
      exact this
    obtain ⟨P6, hP6⟩ : ∃ P : Nat → List AV → List AV → Sto → Prop, P = fun m S L τ => ∃ n : Nat, S = [] ∧ L = [vR 0, vL (itr gp 379 n), vX, vI (n : Int)] ∧ τ = σ ∧ (n : Int) ≤ σ 1 0 ∧ m = 400 - n := ⟨_, rfl⟩
    obtain ⟨P32, hP32⟩ : ∃ P : Nat → List AV → List AV → Sto → Prop, P = fun m S L τ => ∃ n : Nat, S = [] ∧ L = [vR 0, vL (itr gl H1 n), vX, vI (n : Int)] ∧ sameS τ σ ∧ (n : Int) ≤ σ 7 0 ∧ m = 300 - n := ⟨_, rfl⟩
    obtain ⟨P73, hP73⟩ : ∃ P : Nat → List AV → List AV → Sto → Prop, P = fun m S L τ => ∃ n : Nat, S = [] ∧ L = [vR 0, vL (itr gw H2 n), vX, vI (n : Int)] ∧ sameS τ σ ∧ (n : Int) ≤ σ 5 0 ∧ m = 200 - n := ⟨_, rfl⟩
    obtain ⟨P107, hP107⟩ : ∃ P : Nat → List AV → List AV → Sto → Prop, P = fun m S L τ => ∃ n : Nat, S = [] ∧ L = [vR 0, vL (itr gc H3 n), vX, vI (n : Int)] ∧ sameS τ σ ∧ (n : Int) ≤ 10 ∧ m = 100 - n := ⟨_, rfl⟩
    refine at_meth (lv := V_X8_digest) (B := B_X8_digest) (e_X8_digest o) k_X8_digest 4 [(6, P6), (32, P32), (73, P73), (107, P107)] (List.forall_mem_cons.mpr ⟨?_, List.forall_mem_cons.mpr ⟨?_, List.forall_mem_cons.mpr ⟨?_, List.forall_mem_cons.mpr ⟨?_, fun _ h => absurd h List.not_mem_nil⟩⟩⟩⟩) 0 [] _ σ ?_
    · intro m S L τ hI
      rw [hP6] at hI
      obtain ⟨n, rfl, rfl, hs, hn, hm⟩ := hI
      subst hs
      simp only [sq_iconst, sq_jsr, sq_anewarray, sq_iload, sq_lload, sq_aload, sq_istore, sq_lstore, sq_astore, sq_iinc, sq_getfield, st_put0, st_put1, st_put3, sq_inv, sq_goto, sq_icmp, sq_ifc, sq_tsw, sq_iadd, sq_isub, sq_imul, sq_ineg, sq_idiv, sq_irem, sq_iand, sq_ior, sq_ixor, sq_ishl, sq_ishr, sq_iushr, sq_ladd, sq_lmul, sq_ldiv, sq_lrem, sq_land, sq_lor, sq_lshl, sq_lushr, sq_lcmp, sq_i2l, sq_l2i, sq_i2c, sq_i2b, sq_dupI, sq_dupR, sq_dup2, sq_pop, sq_iaload, sq_baload, sq_aaload, sq_iastore, sq_bastore, sq_alen, sq_ireturn, sq_lreturn, sq_return, wq_c, wq_n, wlq_s, lkp, tbl, dBk, nth, setL, canSet, cmpI, tk, swK, rdF, entL, catS, cat1, arg, rcv, ald, bld, aln, br, Ccopy, Cmax, Cmin, Cabs, List.take, List.drop, List.reverse, List.reverseAux, List.length, List.append, List.nil_append, List.cons_append, true_and, and_true, and_self, forall_const, true_implies, false_implies, not_true_eq_false, not_false_eq_true, Option.map, reduceCtorEq, reduceIte, or_true, true_or, false_or, or_false, false_and, and_false, List.map, List.append_nil, implies_true, yK, Nat.reduceBEq, beq_self_eq_true, Int.zero_ne_one, Nat.reduceDiv, Nat.reduceMod, Nat.reduceAdd, Nat.reduceSub, Nat.reduceMul, Nat.reduceEqDiff, Nat.reduceLeDiff, Int.reduceToNat, Int.reduceNeg, Int.reduceEq, Int.reduceLT, Int.reduceLE, Int.reduceNatCast, Int.reduceNatCast', Int.reduceAdd, Int.reduceSub, Int.reduceMul, eq_self, Prod.mk.injEq, A_X8_digest, V_X8_digest, B_X8_digest, Y_X8_digest, C_X8_foldPit, C_X8_foldLaw, C_X0_foldInto, C_X8_foldNet, C_X8_fold, C_X6_leavesOfAll, C_J6_bitCount_0f7a4, shpT, rfsT, wjq_s, look, br, ef]
      refine ⟨fun w => ?_, fun w => ⟨⟨h0, ⟨by omega, by omega⟩⟩, ⟨by omega, by omega⟩, ?_⟩⟩
      · rw [hP32]
        have e : (τ 1 0).toNat = n := by omega
        exact ⟨_, by omega, 0, rfl, by rw [hH1, e]; rfl, sameS_r τ, (by omega), rfl⟩
      · rw [hP6]
        exact ⟨_, by omega, n + 1, rfl, by rw [itr_s, hgp]; rfl, rfl, (by omega), rfl⟩
    · intro m S L τ hI
      rw [hP32] at hI
      obtain ⟨n, rfl, rfl, hs, hn, hm⟩ := hI
      have hT := Rel_e hs h0
      have t7 : τ 7 = σ 7 := hs.1 7 rfl
      simp only [sq_iconst, sq_jsr, sq_anewarray, sq_iload, sq_lload, sq_aload, sq_istore, sq_lstore, sq_astore, sq_iinc, sq_getfield, st_put0, st_put1, st_put3, sq_inv, sq_goto, sq_icmp, sq_ifc, sq_tsw, sq_iadd, sq_isub, sq_imul, sq_ineg, sq_idiv, sq_irem, sq_iand, sq_ior, sq_ixor, sq_ishl, sq_ishr, sq_iushr, sq_ladd, sq_lmul, sq_ldiv, sq_lrem, sq_land, sq_lor, sq_lshl, sq_lushr, sq_lcmp, sq_i2l, sq_l2i, sq_i2c, sq_i2b, sq_dupI, sq_dupR, sq_dup2, sq_pop, sq_iaload, sq_baload, sq_aaload, sq_iastore, sq_bastore, sq_alen, sq_ireturn, sq_lreturn, sq_return, wq_c, wq_n, wlq_s, lkp, tbl, dBk, nth, setL, canSet, cmpI, tk, swK, rdF, entL, catS, cat1, arg, rcv, ald, bld, aln, br, Ccopy, Cmax, Cmin, Cabs, List.take, List.drop, List.reverse, List.reverseAux, List.length, List.append, List.nil_append, List.cons_append, true_and, and_true, and_self, forall_const, true_implies, false_implies, not_true_eq_false, not_false_eq_true, Option.map, reduceCtorEq, reduceIte, or_true, true_or, false_or, or_false, false_and, and_false, List.map, List.append_nil, implies_true, yK, Nat.reduceBEq, beq_self_eq_true, Int.zero_ne_one, Nat.reduceDiv, Nat.reduceMod, Nat.reduceAdd, Nat.reduceSub, Nat.reduceMul, Nat.reduceEqDiff, Nat.reduceLeDiff, Int.reduceToNat, Int.reduceNeg, Int.reduceEq, Int.reduceLT, Int.reduceLE, Int.reduceNatCast, Int.reduceNatCast', Int.reduceAdd, Int.reduceSub, Int.reduceMul, eq_self, Prod.mk.injEq, A_X8_digest, V_X8_digest, B_X8_digest, Y_X8_digest, C_X8_foldPit, C_X8_foldLaw, C_X0_foldInto, C_X8_foldNet, C_X8_fold, C_X6_leavesOfAll, C_J6_bitCount_0f7a4, shpT, rfsT, wjq_s, look, br, ef, t7]
      refine ⟨fun w => ⟨hT, hT, fun T f1 => ?_⟩, fun w => ⟨⟨hT, ⟨by omega, by omega⟩⟩, fun T f1 => ⟨⟨by omega, by omega⟩, ?_⟩⟩⟩
      · rw [hP73]
        have e : (σ 7 0).toNat = n := by omega
        exact ⟨_, by omega, 0, rfl, by rw [netH_e hs, bdH_e hs, hH2, e]; rfl, sameS_t f1 hs, (by omega), rfl⟩
      · rw [hP32]
        exact ⟨_, by omega, n + 1, rfl, by rw [itr_s, hgl, lawH_e h0 hs]; rfl, sameS_t (offP_same f1) hs, (by omega), rfl⟩
    · intro m S L τ hI
      rw [hP73] at hI
      obtain ⟨n, rfl, rfl, hs, hn, hm⟩ := hI
      have hT := Rel_e hs h0
      simp only [sq_iconst, sq_jsr, sq_anewarray, sq_iload, sq_lload, sq_aload, sq_istore, sq_lstore, sq_astore, sq_iinc, sq_getfield, st_put0, st_put1, st_put3, sq_inv, sq_goto, sq_icmp, sq_ifc, sq_tsw, sq_iadd, sq_isub, sq_imul, sq_ineg, sq_idiv, sq_irem, sq_iand, sq_ior, sq_ixor, sq_ishl, sq_ishr, sq_iushr, sq_ladd, sq_lmul, sq_ldiv, sq_lrem, sq_land, sq_lor, sq_lshl, sq_lushr, sq_lcmp, sq_i2l, sq_l2i, sq_i2c, sq_i2b, sq_dupI, sq_dupR, sq_dup2, sq_pop, sq_iaload, sq_baload, sq_aaload, sq_iastore, sq_bastore, sq_alen, sq_ireturn, sq_lreturn, sq_return, wq_c, wq_n, wlq_s, lkp, tbl, dBk, nth, setL, canSet, cmpI, tk, swK, rdF, entL, catS, cat1, arg, rcv, ald, bld, aln, br, Ccopy, Cmax, Cmin, Cabs, List.take, List.drop, List.reverse, List.reverseAux, List.length, List.append, List.nil_append, List.cons_append, true_and, and_true, and_self, forall_const, true_implies, false_implies, not_true_eq_false, not_false_eq_true, Option.map, reduceCtorEq, reduceIte, or_true, true_or, false_or, or_false, false_and, and_false, List.map, List.append_nil, implies_true, yK, Nat.reduceBEq, beq_self_eq_true, Int.zero_ne_one, Nat.reduceDiv, Nat.reduceMod, Nat.reduceAdd, Nat.reduceSub, Nat.reduceMul, Nat.reduceEqDiff, Nat.reduceLeDiff, Int.reduceToNat, Int.reduceNeg, Int.reduceEq, Int.reduceLT, Int.reduceLE, Int.reduceNatCast, Int.reduceNatCast', Int.reduceAdd, Int.reduceSub, Int.reduceMul, eq_self, Prod.mk.injEq, A_X8_digest, V_X8_digest, B_X8_digest, Y_X8_digest, C_X8_foldPit, C_X8_foldLaw, C_X0_foldInto, C_X8_foldNet, C_X8_fold, C_X6_leavesOfAll, C_J6_bitCount_0f7a4, shpT, rfsT, wjq_s, look, br, ef, hs.2.2.1, hs.1 35 rfl]
      refine ⟨fun w => ?_, fun w => ⟨⟨by omega, by omega⟩, ⟨by omega, by omega⟩, ?_⟩⟩
      · rw [hP107]
        have e : (σ 5 0).toNat = n := by omega
        exact ⟨_, by omega, 0, rfl, by rw [hH3, e]; rfl, hs, (by omega), rfl⟩
      · rw [hP73]
        exact ⟨_, by omega, n + 1, rfl, by rw [itr_s, hgw]; rfl, hs, (by omega), rfl⟩
    · intro m S L τ hI
      rw [hP107] at hI
      obtain ⟨n, rfl, rfl, hs, hn, hm⟩ := hI
      have hT := Rel_e hs h0
      simp only [sq_iconst, sq_jsr, sq_anewarray, sq_iload, sq_lload, sq_aload, sq_istore, sq_lstore, sq_astore, sq_iinc, sq_getfield, st_put0, st_put1, st_put3, sq_inv, sq_goto, sq_icmp, sq_ifc, sq_tsw, sq_iadd, sq_isub, sq_imul, sq_ineg, sq_idiv, sq_irem, sq_iand, sq_ior, sq_ixor, sq_ishl, sq_ishr, sq_iushr, sq_ladd, sq_lmul, sq_ldiv, sq_lrem, sq_land, sq_lor, sq_lshl, sq_lushr, sq_lcmp, sq_i2l, sq_l2i, sq_i2c, sq_i2b, sq_dupI, sq_dupR, sq_dup2, sq_pop, sq_iaload, sq_baload, sq_aaload, sq_iastore, sq_bastore, sq_alen, sq_ireturn, sq_lreturn, sq_return, wq_c, wq_n, wlq_s, lkp, tbl, dBk, nth, setL, canSet, cmpI, tk, swK, rdF, entL, catS, cat1, arg, rcv, ald, bld, aln, br, Ccopy, Cmax, Cmin, Cabs, List.take, List.drop, List.reverse, List.reverseAux, List.length, List.append, List.nil_append, List.cons_append, true_and, and_true, and_self, forall_const, true_implies, false_implies, not_true_eq_false, not_false_eq_true, Option.map, reduceCtorEq, reduceIte, or_true, true_or, false_or, or_false, false_and, and_false, List.map, List.append_nil, implies_true, yK, Nat.reduceBEq, beq_self_eq_true, Int.zero_ne_one, Nat.reduceDiv, Nat.reduceMod, Nat.reduceAdd, Nat.reduceSub, Nat.reduceMul, Nat.reduceEqDiff, Nat.reduceLeDiff, Int.reduceToNat, Int.reduceNeg, Int.reduceEq, Int.reduceLT, Int.reduceLE, Int.reduceNatCast, Int.reduceNatCast', Int.reduceAdd, Int.reduceSub, Int.reduceMul, eq_self, Prod.mk.injEq, A_X8_digest, V_X8_digest, B_X8_digest, Y_X8_digest, C_X8_foldPit, C_X8_foldLaw, C_X0_foldInto, C_X8_foldNet, C_X8_fold, C_X6_leavesOfAll, C_J6_bitCount_0f7a4, shpT, rfsT, wjq_s, look, br, ef]
      refine ⟨fun w => ?_, fun w => cnt8 hT ⟨by omega, by omega⟩ ?_⟩
      · have e : n = 10 := by omega
        subst e
        exact hq τ hs
      · simp only [sq_iconst, sq_jsr, sq_anewarray, sq_iload, sq_lload, sq_aload, sq_istore, sq_lstore, sq_astore, sq_iinc, sq_getfield, st_put0, st_put1, st_put3, sq_inv, sq_goto, sq_icmp, sq_ifc, sq_tsw, sq_iadd, sq_isub, sq_imul, sq_ineg, sq_idiv, sq_irem, sq_iand, sq_ior, sq_ixor, sq_ishl, sq_ishr, sq_iushr, sq_ladd, sq_lmul, sq_ldiv, sq_lrem, sq_land, sq_lor, sq_lshl, sq_lushr, sq_lcmp, sq_i2l, sq_l2i, sq_i2c, sq_i2b, sq_dupI, sq_dupR, sq_dup2, sq_pop, sq_iaload, sq_baload, sq_aaload, sq_iastore, sq_bastore, sq_alen, sq_ireturn, sq_lreturn, sq_return, wq_c, wq_n, wlq_s, lkp, tbl, dBk, nth, setL, canSet, cmpI, tk, swK, rdF, entL, catS, cat1, arg, rcv, ald, bld, aln, br, Ccopy, Cmax, Cmin, Cabs, List.take, List.drop, List.reverse, List.reverseAux, List.length, List.append, List.nil_append, List.cons_append, true_and, and_true, and_self, forall_const, true_implies, false_implies, not_true_eq_false, not_false_eq_true, Option.map, reduceCtorEq, reduceIte, or_true, true_or, false_or, or_false, false_and, and_false, List.map, List.append_nil, implies_true, yK, Nat.reduceBEq, beq_self_eq_true, Int.zero_ne_one, Nat.reduceDiv, Nat.reduceMod, Nat.reduceAdd, Nat.reduceSub, Nat.reduceMul, Nat.reduceEqDiff, Nat.reduceLeDiff, Int.reduceToNat, Int.reduceNeg, Int.reduceEq, Int.reduceLT, Int.reduceLE, Int.reduceNatCast, Int.reduceNatCast', Int.reduceAdd, Int.reduceSub, Int.reduceMul, eq_self, Prod.mk.injEq, A_X8_digest, V_X8_digest, B_X8_digest, Y_X8_digest, C_X8_foldPit, C_X8_foldLaw, C_X0_foldInto, C_X8_foldNet, C_X8_fold, C_X6_leavesOfAll, C_J6_bitCount_0f7a4, shpT, rfsT, wjq_s, look, br, ef]
        rw [hP107]
        exact ⟨⟨by omega, by omega⟩, _, by omega, n + 1, rfl, by rw [itr_s, hgc, cnf_e hs]; rfl, hs, (by omega), rfl⟩
    · simp only [sq_iconst, sq_jsr, sq_anewarray, sq_iload, sq_lload, sq_aload, sq_istore, sq_lstore, sq_astore, sq_iinc, sq_getfield, st_put0, st_put1, st_put3, sq_inv, sq_goto, sq_icmp, sq_ifc, sq_tsw, sq_iadd, sq_isub, sq_imul, sq_ineg, sq_idiv, sq_irem, sq_iand, sq_ior, sq_ixor, sq_ishl, sq_ishr, sq_iushr, sq_ladd, sq_lmul, sq_ldiv, sq_lrem, sq_land, sq_lor, sq_lshl, sq_lushr, sq_lcmp, sq_i2l, sq_l2i, sq_i2c, sq_i2b, sq_dupI, sq_dupR, sq_dup2, sq_pop, sq_iaload, sq_baload, sq_aaload, sq_iastore, sq_bastore, sq_alen, sq_ireturn, sq_lreturn, sq_return, wq_c, wq_n, wlq_s, lkp, tbl, dBk, nth, setL, canSet, cmpI, tk, swK, rdF, entL, catS, cat1, arg, rcv, ald, bld, aln, br, Ccopy, Cmax, Cmin, Cabs, List.take, List.drop, List.reverse, List.reverseAux, List.length, List.append, List.nil_append, List.cons_append, true_and, and_true, and_self, forall_const, true_implies, false_implies, not_true_eq_false, not_false_eq_true, Option.map, reduceCtorEq, reduceIte, or_true, true_or, false_or, or_false, false_and, and_false, List.map, List.append_nil, implies_true, yK, Nat.reduceBEq, beq_self_eq_true, Int.zero_ne_one, Nat.reduceDiv, Nat.reduceMod, Nat.reduceAdd, Nat.reduceSub, Nat.reduceMul, Nat.reduceEqDiff, Nat.reduceLeDiff, Int.reduceToNat, Int.reduceNeg, Int.reduceEq, Int.reduceLT, Int.reduceLE, Int.reduceNatCast, Int.reduceNatCast', Int.reduceAdd, Int.reduceSub, Int.reduceMul, eq_self, Prod.mk.injEq, A_X8_digest, V_X8_digest, B_X8_digest, Y_X8_digest, C_X8_foldPit, C_X8_foldLaw, C_X0_foldInto, C_X8_foldNet, C_X8_fold, C_X6_leavesOfAll, C_J6_bitCount_0f7a4, shpT, rfsT, wjq_s, look, br, ef]
      rw [hP6]
      exact ⟨_, 0, rfl, rfl, rfl, (by omega), rfl⟩

