-- ===== counts =====
def A_X8_count : List (Nat × Ctr) := [(1, rcv 6 3 C_X6_leavesOfAll), (1, arg 1 C_J6_bitCount_0f7a4)]
theorem e_X8_count (o : OM) : Ev o Y_X8_count 1 T_X8_count A_X8_count := ⟨rfl, List.forall_mem_cons.mpr ⟨Or.inl f_X8_10, List.forall_mem_cons.mpr ⟨Or.inl f_X8_92, List.forall_mem_cons.mpr ⟨Or.inl f_X8_45, List.forall_mem_cons.mpr ⟨Or.inl f_X8_165, List.forall_mem_cons.mpr ⟨Or.inl f_X8_52, List.forall_mem_cons.mpr ⟨Or.inl f_X8_173, List.forall_mem_cons.mpr ⟨Or.inl f_X8_19, List.forall_mem_cons.mpr ⟨Or.inl f_X8_237, List.forall_mem_cons.mpr ⟨Or.inl f_X8_334, List.forall_mem_cons.mpr ⟨Or.inl f_X8_342, List.forall_mem_cons.mpr ⟨Or.inl f_X8_36, List.forall_mem_cons.mpr ⟨Or.inl f_X8_151, List.forall_mem_cons.mpr ⟨Or.inl f_X8_81, List.forall_mem_cons.mpr ⟨Or.inl f_X8_85, fun _ h => absurd h List.not_mem_nil⟩⟩⟩⟩⟩⟩⟩⟩⟩⟩⟩⟩⟩⟩, fun _ h => absurd h List.not_mem_nil, fun _ h => absurd h List.not_mem_nil, fun _ h => absurd h List.not_mem_nil, List.forall_mem_cons.mpr ⟨cl_X6_leavesOfAll (s_X6_leavesOfAll o) (by decide) (Or.inr ⟨_, wn_107⟩), fun _ h => absurd h List.not_mem_nil⟩, List.forall_mem_cons.mpr ⟨cl_J6_bitCount_0f7a4 (s_J6_bitCount_0f7a4 o) (by decide) (Or.inl w_1051), fun _ h => absurd h List.not_mem_nil⟩⟩
def C_X8_count : Ctr := fun A σ k => wpl A_X8_count V_X8_count (yK Y_X8_count) B_X8_count k 2 0 [] (entL A) σ
theorem s_X8_count (o : OM) : Sound o Y_X8_count 1 C_X8_count := fun Q A σ _ hC => at_wpl (e_X8_count o) k_X8_count 2 0 [] (entL A) σ hC
def tdI (f : Int → Int) (p : Int) : Int := if f p = 0 then 0 else 1
def A_X9_countOf : List (Nat × Ctr) := [(1, rcv 9 3 C_X9_keptSet), (2, rcv 9 4 C_X9_manyOf)]
theorem e_X9_countOf (o : OM) : Ev o Y_X9_countOf 1 T_X9_countOf A_X9_countOf := ⟨rfl, List.forall_mem_cons.mpr ⟨Or.inl f_X9_109, List.forall_mem_cons.mpr ⟨Or.inl f_X9_13, List.forall_mem_cons.mpr ⟨Or.inl f_X9_71, List.forall_mem_cons.mpr ⟨Or.inl f_X9_204, List.forall_mem_cons.mpr ⟨Or.inl f_X9_207, List.forall_mem_cons.mpr ⟨Or.inl f_X9_325, List.forall_mem_cons.mpr ⟨Or.inl f_X9_176, List.forall_mem_cons.mpr ⟨Or.inl f_X9_318, List.forall_mem_cons.mpr ⟨Or.inl f_X9_368, fun _ h => absurd h List.not_mem_nil⟩⟩⟩⟩⟩⟩⟩⟩⟩, fun _ h => absurd h List.not_mem_nil, fun _ h => absurd h List.not_mem_nil, fun _ h => absurd h List.not_mem_nil, List.forall_mem_cons.mpr ⟨cl_X9_keptSet (s_X9_keptSet o) (by decide) (Or.inl w_1521), List.forall_mem_cons.mpr ⟨cl_X9_manyOf (s_X9_manyOf o) (by decide) (Or.inl w_1568), fun _ h => absurd h List.not_mem_nil⟩⟩, fun _ h => absurd h List.not_mem_nil⟩
def C_X9_countOf : Ctr := fun A σ κ => match A with
  | [.inr (.inr (.inl 67)), .inl a] => ((0 ≤ σ 67 0 ∧ σ 67 0 ≤ 7) ∧ (∀ p, 0 ≤ p → p < 7 → 0 ≤ σ 69 p ∧ σ 69 p ≤ 16) ∧ (0 ≤ σ 67 32 ∧ σ 67 32 ≤ 12)) ∧ (a = 0 → κ [vI (σ 67 0)] σ) ∧ (a = 1 → κ [vI (sumI (σ 69) (σ 67 0))] σ) ∧ (a = 2 → κ [vI (σ 67 9)] σ) ∧ (a = 3 → κ [vI (σ 67 11)] σ) ∧ (a = 4 → κ [vI (σ 67 32)] σ) ∧ (a = 5 → ∀ r : Int, (0 ≤ r ∧ r < 4096) → (∀ i, 0 ≤ i → i < 32 → (bb r i = true ↔ i < σ 67 32 ∧ ¬ σ 87 i = 0)) → κ [vI (sumI (fun j => if bb r j = true then 1 else 0) (σ 67 32))] σ) ∧ (a = 6 → κ [vI (sumI (tdI (σ 88)) (σ 67 0))] σ) ∧ (a = 7 → κ [vI (σ 67 8)] σ) ∧ (a = 8 → κ [vI (σ 67 31)] σ) ∧ (a = 9 → κ [vI (σ 67 45)] σ) ∧ (a < 0 ∨ 9 < a → κ [vI (-102)] σ)
  | _ => False
set_option maxRecDepth 20000 in
theorem s_X9_countOf (o : OM) : Sound o Y_X9_countOf 1 C_X9_countOf := by
  intro Q A σ hA hC
  match A, hA, hC with
  | [.inr (.inr (.inl 67)), .inl a], hA, hC =>
    obtain ⟨h0, hq⟩ : ((0 ≤ σ 67 0 ∧ σ 67 0 ≤ 7) ∧ (∀ p, 0 ≤ p → p < 7 → 0 ≤ σ 69 p ∧ σ 69 p ≤ 16) ∧ (0 ≤ σ 67 32 ∧ σ 67 32 ≤ 12)) ∧ (a = 0 → Q [vI (σ 67 0)] σ) ∧ (a = 1 → Q [vI (sumI (σ 69) (σ 67 0))] σ) ∧ (a = 2 → Q [vI (σ 67 9)] σ) ∧ (a = 3 → Q [vI (σ 67 11)] σ) ∧ (a = 4 → Q [vI (σ 67 32)] σ) ∧ (a = 5 → ∀ r : Int, (0 ≤ r ∧ r < 4096) → (∀ i, 0 ≤ i → i < 32 → (bb r i = true ↔ i < σ 67 32 ∧ ¬ σ 87 i = 0)) → Q [vI (sumI (fun j => if bb r j = true then 1 else 0) (σ 67 32))] σ) ∧ (a = 6 → Q [vI (sumI (tdI (σ 88)) (σ 67 0))] σ) ∧ (a = 7 → Q [vI (σ 67 8)] σ) ∧ (a = 8 → Q [vI (σ 67 31)] σ) ∧ (a = 9 → Q [vI (σ 67 45)] σ) ∧ (a < 0 ∨ 9 < a → Q [vI (-102)] σ) := hC
    obtain ⟨hn, hs, hJ⟩ := h0
    obtain ⟨P7, hP7⟩ : ∃ P : Nat → List AV → List AV → Sto → Prop, P = fun m S L τ => ∃ p : Int, S = [] ∧ L = [vR 67, vI a, vI (sumI (σ 69) p), vI (sumI (tdI (σ 88)) p), vI p] ∧ τ = σ ∧ 0 ≤ p ∧ p ≤ σ 67 0 ∧ m = (7 - p).toNat := ⟨_, rfl⟩
    obtain ⟨q0, q1, q2, q3, q4, q5, q6, q7, q8, q9, q10⟩ := hq
    refine at_meth (lv := V_X9_countOf) (B := B_X9_countOf) (e_X9_countOf o) k_X9_countOf 5 [(7, P7)] (List.forall_mem_cons.mpr ⟨?_, fun _ h => absurd h List.not_mem_nil⟩) 0 [] _ σ ?_
    · intro m S L τ hI
      rw [hP7] at hI
      obtain ⟨p, rfl, rfl, rfl, p0, p1, hm⟩ := hI
      simp only [sq_iconst, sq_jsr, sq_anewarray, sq_iload, sq_lload, sq_aload, sq_istore, sq_lstore, sq_astore, sq_iinc, sq_getfield, st_put0, st_put1, st_put3, sq_inv, sq_goto, sq_icmp, sq_ifc, sq_tsw, sq_iadd, sq_isub, sq_imul, sq_ineg, sq_idiv, sq_irem, sq_iand, sq_ior, sq_ixor, sq_ishl, sq_ishr, sq_iushr, sq_ladd, sq_lmul, sq_ldiv, sq_lrem, sq_land, sq_lor, sq_lshl, sq_lushr, sq_lcmp, sq_i2l, sq_l2i, sq_i2c, sq_i2b, sq_dupI, sq_dupR, sq_dup2, sq_pop, sq_iaload, sq_baload, sq_aaload, sq_iastore, sq_bastore, sq_alen, sq_ireturn, sq_lreturn, sq_return, wq_c, wq_n, wlq_s, lkp, tbl, dBk, nth, setL, canSet, cmpI, tk, swK, rdF, entL, catS, cat1, arg, rcv, ald, bld, aln, br, Ccopy, Cmax, Cmin, Cabs, List.take, List.drop, List.reverse, List.reverseAux, List.length, List.append, List.nil_append, List.cons_append, true_and, and_true, and_self, forall_const, true_implies, false_implies, not_true_eq_false, not_false_eq_true, Option.map, reduceCtorEq, reduceIte, or_true, true_or, false_or, or_false, false_and, and_false, List.map, List.append_nil, implies_true, yK, Nat.reduceBEq, beq_self_eq_true, Int.zero_ne_one, Nat.reduceDiv, Nat.reduceMod, Nat.reduceAdd, Nat.reduceSub, Nat.reduceMul, Nat.reduceEqDiff, Nat.reduceLeDiff, Int.reduceToNat, Int.reduceNeg, Int.reduceEq, Int.reduceLT, Int.reduceLE, Int.reduceNatCast, Int.reduceNatCast', Int.reduceAdd, Int.reduceSub, Int.reduceMul, eq_self, Prod.mk.injEq, A_X9_countOf, V_X9_countOf, B_X9_countOf, Y_X9_countOf, C_X9_keptSet, C_X9_manyOf, shpT, rfsT, wjq_s, look]
      have b1 := sumI_le (f := τ 69) (lo := 0) (hi := 16) p0 (fun x x0 x1 => hs x x0 (by omega))
      have b2 := sumI_le (f := tdI (τ 88)) (lo := 0) (hi := 1) p0 (fun x x0 x1 => by unfold tdI; split <;> omega)
      refine ⟨fun h => ?_, fun h => ?_⟩
      · have e : p = τ 67 0 := by omega
        subst e
        exact ⟨⟨q0, q1, q2, q3, q4, fun z => ⟨hJ, fun r r1 r2 => ⟨hJ, q5 z r r1 r2⟩⟩, q6, q7, q8, q9⟩, q10⟩
      · have sp := hs p p0 (by omega)
        rw [hP7]
        have mv : ∀ v, v = sumI (tdI (τ 88)) (p + 1) → ∃ m_1, m_1 < m ∧ ∃ p' : Int, ([] : List AV) = [] ∧ [vR 67, vI a, vI (sumI (τ 69) p + τ 69 p), vI v, vI (p + 1)] = [vR 67, vI a, vI (sumI (τ 69) p'), vI (sumI (tdI (τ 88)) p'), vI p'] ∧ τ = τ ∧ 0 ≤ p' ∧ p' ≤ τ 67 0 ∧ m_1 = (7 - p').toNat := fun v hv => ⟨_, by omega, p + 1, rfl, by rw [hv, sumI_s (τ 69) p0], rfl, by omega, by omega, rfl⟩
        have s1 := sumI_s (tdI (τ 88)) p0
        exact ⟨⟨by omega, by omega⟩, ⟨by omega, by omega⟩, ⟨by omega, by omega⟩, fun z => ⟨⟨by omega, by omega⟩, ⟨by omega, by omega⟩, mv _ (by rw [s1]; unfold tdI; rw [if_pos z])⟩, fun z => ⟨⟨by omega, by omega⟩, ⟨by omega, by omega⟩, mv _ (by rw [s1]; unfold tdI; rw [if_neg z])⟩⟩
    · simp only [sq_iconst, sq_jsr, sq_anewarray, sq_iload, sq_lload, sq_aload, sq_istore, sq_lstore, sq_astore, sq_iinc, sq_getfield, st_put0, st_put1, st_put3, sq_inv, sq_goto, sq_icmp, sq_ifc, sq_tsw, sq_iadd, sq_isub, sq_imul, sq_ineg, sq_idiv, sq_irem, sq_iand, sq_ior, sq_ixor, sq_ishl, sq_ishr, sq_iushr, sq_ladd, sq_lmul, sq_ldiv, sq_lrem, sq_land, sq_lor, sq_lshl, sq_lushr, sq_lcmp, sq_i2l, sq_l2i, sq_i2c, sq_i2b, sq_dupI, sq_dupR, sq_dup2, sq_pop, sq_iaload, sq_baload, sq_aaload, sq_iastore, sq_bastore, sq_alen, sq_ireturn, sq_lreturn, sq_return, wq_c, wq_n, wlq_s, lkp, tbl, dBk, nth, setL, canSet, cmpI, tk, swK, rdF, entL, catS, cat1, arg, rcv, ald, bld, aln, br, Ccopy, Cmax, Cmin, Cabs, List.take, List.drop, List.reverse, List.reverseAux, List.length, List.append, List.nil_append, List.cons_append, true_and, and_true, and_self, forall_const, true_implies, false_implies, not_true_eq_false, not_false_eq_true, Option.map, reduceCtorEq, reduceIte, or_true, true_or, false_or, or_false, false_and, and_false, List.map, List.append_nil, implies_true, yK, Nat.reduceBEq, beq_self_eq_true, Int.zero_ne_one, Nat.reduceDiv, Nat.reduceMod, Nat.reduceAdd, Nat.reduceSub, Nat.reduceMul, Nat.reduceEqDiff, Nat.reduceLeDiff, Int.reduceToNat, Int.reduceNeg, Int.reduceEq, Int.reduceLT, Int.reduceLE, Int.reduceNatCast, Int.reduceNatCast', Int.reduceAdd, Int.reduceSub, Int.reduceMul, eq_self, Prod.mk.injEq, A_X9_countOf, V_X9_countOf, B_X9_countOf, Y_X9_countOf, C_X9_keptSet, C_X9_manyOf, shpT, rfsT, wjq_s, look]
      rw [hP7]
      exact ⟨_, 0, rfl, rfl, rfl, (by omega), hn.1, rfl⟩
def A_X9_count : List (Nat × Ctr) := [(2, rcv 9 5 C_X9_countOf)]
theorem e_X9_count (o : OM) : Ev o Y_X9_count 2 T_X9_count A_X9_count := ⟨rfl, fun _ h => absurd h List.not_mem_nil, fun _ h => absurd h List.not_mem_nil, fun _ h => absurd h List.not_mem_nil, fun _ h => absurd h List.not_mem_nil, List.forall_mem_cons.mpr ⟨cl_X9_countOf (s_X9_countOf o) (by decide) (Or.inl w_1617), fun _ h => absurd h List.not_mem_nil⟩, fun _ h => absurd h List.not_mem_nil⟩
def C_X9_count : Ctr := fun A σ k => wpl A_X9_count V_X9_count (yK Y_X9_count) B_X9_count k 1 0 [] (entL A) σ
theorem s_X9_count (o : OM) : Sound o Y_X9_count 2 C_X9_count := fun Q A σ _ hC => at_wpl (e_X9_count o) k_X9_count 1 0 [] (entL A) σ hC
theorem op_count {σ : Sto} (hR : Rel σ) {a : Int} {κ : List AV → Sto → Prop} (hκ : ∀ v τ, Mid C_X9_count [vR 67, vI a] (σ 102) v τ → κ [vI v] τ) : C_X8_count [vR 0, vI a] σ κ := by
  obtain ⟨⟨c1, c2, c3, c4, c5, c6, c7, c8, c9, c10, c11, c12, c13, c14, c15, c16⟩, ⟨e1, e2, e3, e4, e5, e6, e7, e8, e9, e10, e11, e12, e13, e14, e15⟩, ⟨g1, g2, g3, g4⟩, ⟨h1, h2, h3, h4, h5, h6⟩, ⟨l1, l2, l3, l4⟩, hImg, ⟨n1, n2, n3, n4⟩⟩ := id hR
  have hk : ∀ v, (∀ κ', (κ' [vI v] σ) → C_X9_count [vR 67, vI a] σ κ') → κ [vI v] σ := fun v h => hκ _ _ (fun κ' hκ' => h κ' (hκ' σ hR rfl))
  clear hκ
  have pre : (0 ≤ σ 67 0 ∧ σ 67 0 ≤ 7) ∧ (∀ p, 0 ≤ p → p < 7 → 0 ≤ σ 69 p ∧ σ 69 p ≤ 16) ∧ (0 ≤ σ 67 32 ∧ σ 67 32 ≤ 12) := by
    rw [e1, e2, e5]; exact ⟨c1, c2, c6⟩
  simp only [C_X9_count, sq_iconst, sq_jsr, sq_anewarray, sq_iload, sq_lload, sq_aload, sq_istore, sq_lstore, sq_astore, sq_iinc, sq_getfield, st_put0, st_put1, st_put3, sq_inv, sq_goto, sq_icmp, sq_ifc, sq_tsw, sq_iadd, sq_isub, sq_imul, sq_ineg, sq_idiv, sq_irem, sq_iand, sq_ior, sq_ixor, sq_ishl, sq_ishr, sq_iushr, sq_ladd, sq_lmul, sq_ldiv, sq_lrem, sq_land, sq_lor, sq_lshl, sq_lushr, sq_lcmp, sq_i2l, sq_l2i, sq_i2c, sq_i2b, sq_dupI, sq_dupR, sq_dup2, sq_pop, sq_iaload, sq_baload, sq_aaload, sq_iastore, sq_bastore, sq_alen, sq_ireturn, sq_lreturn, sq_return, wq_c, wq_n, wlq_s, lkp, tbl, dBk, nth, setL, canSet, cmpI, tk, swK, rdF, entL, catS, cat1, arg, rcv, ald, bld, aln, br, Ccopy, Cmax, Cmin, Cabs, List.take, List.drop, List.reverse, List.reverseAux, List.length, List.append, List.nil_append, List.cons_append, true_and, and_true, and_self, forall_const, true_implies, false_implies, not_true_eq_false, not_false_eq_true, Option.map, reduceCtorEq, reduceIte, or_true, true_or, false_or, or_false, false_and, and_false, List.map, List.append_nil, implies_true, yK, Nat.reduceBEq, beq_self_eq_true, Int.zero_ne_one, Nat.reduceDiv, Nat.reduceMod, Nat.reduceAdd, Nat.reduceSub, Nat.reduceMul, Nat.reduceEqDiff, Nat.reduceLeDiff, Int.reduceToNat, Int.reduceNeg, Int.reduceEq, Int.reduceLT, Int.reduceLE, Int.reduceNatCast, Int.reduceNatCast', Int.reduceAdd, Int.reduceSub, Int.reduceMul, eq_self, Prod.mk.injEq, A_X9_count, V_X9_count, B_X9_count, Y_X9_count, C_X9_countOf, shpT, rfsT] at hk
  have p5 : ∀ r : Int, (0 ≤ r ∧ r < 4096) → (∀ i, 0 ≤ i → i < 32 → (bb r i = true ↔ i < σ 67 32 ∧ ¬ σ 87 i = 0)) → sumI (fun j => if bb r j = true then 1 else 0) (σ 67 32) = pop (σ 2 6) := by
    intro r r1 r2
    have er : r = σ 2 6 := by
      refine bb_ext ⟨by omega, by omega⟩ ⟨by omega, by omega⟩ (fun j j0 j1 => ?_)
      have iff : bb r j = true ↔ bb (σ 2 6) j = true := by rw [r2 j j0 j1, c11 j j0 j1, e2]
      cases x1 : bb r j <;> cases x2 : bb (σ 2 6) j <;> rw [x1, x2] at iff <;> simp at iff ⊢
    rw [er, e2]
    unfold pop
    refine (sumI_z c6.1 c6.2 (fun j j0 j1 => ?_)).symm
    have w := c11 j (by omega) (by omega)
    exact if_neg (fun z => by have := (w.mp z).1; omega)
  have p6 : sumI (tdI (σ 88)) (σ 1 0) = pop (σ 2 7) := by
    unfold pop
    rw [sumI_z (a := σ 1 0) (b := 12) c1.1 (by omega) (fun j j0 j1 => ?_)]
    · refine sumI_congr (fun p x0 x1 => ?_)
      have w := c14 p x0 (by omega)
      unfold tdI
      by_cases z : σ 88 p = 0
      · rw [if_pos z, if_neg (fun y => (w.mp y).2 z)]
      · rw [if_neg z, if_pos (w.mpr ⟨x1, z⟩)]
    · have w := c14 j (by omega) (by omega)
      exact if_neg (fun z => by have := (w.mp z).1; omega)
  have hk2 : ∀ v, (a = 0 → v = σ 1 0) → (a = 1 → v = sumI (σ 12) (σ 1 0)) → (a = 2 → v = σ 6 1) → (a = 3 → v = σ 7 0) → (a = 4 → v = σ 2 0) → (a = 5 → v = pop (σ 2 6)) → (a = 6 → v = pop (σ 2 7)) → (a = 7 → v = σ 5 0) → (a = 8 → v = σ 0 11) → (a = 9 → v = σ 0 12) → (a < 0 ∨ 9 < a → v = -102) → κ [vI v] σ := by
    intro v h0 h1' h2' h3' h4' h5' h6' h7 h8 h9 h10
    refine hk v (fun κ' hκ' => ⟨pre, fun z => ?_, fun z => ?_, fun z => ?_, fun z => ?_, fun z => ?_, fun z r r1 r2 => ?_, fun z => ?_, fun z => ?_, fun z => ?_, fun z => ?_, fun z => ?_⟩)
    · rw [e1, ← h0 z]; exact hκ'
    · rw [e1, e5, ← h1' z]; exact hκ'
    · rw [h1, ← h2' z]; exact hκ'
    · rw [l1, ← h3' z]; exact hκ'
    · rw [e2, ← h4' z]; exact hκ'
    · rw [p5 r r1 r2, ← h5' z]; exact hκ'
    · rw [e1, p6, ← h6' z]; exact hκ'
    · rw [g1, ← h7 z]; exact hκ'
    · rw [n1, ← h8 z]; exact hκ'
    · rw [n3, ← h9 z]; exact hκ'
    · rw [← h10 z]; exact hκ'
  have t7 : 0 ≤ σ 2 7 ∧ σ 2 7 < 4096 := ⟨c13.1, by omega⟩
  clear hk p5 p6 pre
  simp only [C_X8_count, sq_iconst, sq_jsr, sq_anewarray, sq_iload, sq_lload, sq_aload, sq_istore, sq_lstore, sq_astore, sq_iinc, sq_getfield, st_put0, st_put1, st_put3, sq_inv, sq_goto, sq_icmp, sq_ifc, sq_tsw, sq_iadd, sq_isub, sq_imul, sq_ineg, sq_idiv, sq_irem, sq_iand, sq_ior, sq_ixor, sq_ishl, sq_ishr, sq_iushr, sq_ladd, sq_lmul, sq_ldiv, sq_lrem, sq_land, sq_lor, sq_lshl, sq_lushr, sq_lcmp, sq_i2l, sq_l2i, sq_i2c, sq_i2b, sq_dupI, sq_dupR, sq_dup2, sq_pop, sq_iaload, sq_baload, sq_aaload, sq_iastore, sq_bastore, sq_alen, sq_ireturn, sq_lreturn, sq_return, wq_c, wq_n, wlq_s, lkp, tbl, dBk, nth, setL, canSet, cmpI, tk, swK, rdF, entL, catS, cat1, arg, rcv, ald, bld, aln, br, Ccopy, Cmax, Cmin, Cabs, List.take, List.drop, List.reverse, List.reverseAux, List.length, List.append, List.nil_append, List.cons_append, true_and, and_true, and_self, forall_const, true_implies, false_implies, not_true_eq_false, not_false_eq_true, Option.map, reduceCtorEq, reduceIte, or_true, true_or, false_or, or_false, false_and, and_false, List.map, List.append_nil, implies_true, yK, Nat.reduceBEq, beq_self_eq_true, Int.zero_ne_one, Nat.reduceDiv, Nat.reduceMod, Nat.reduceAdd, Nat.reduceSub, Nat.reduceMul, Nat.reduceEqDiff, Nat.reduceLeDiff, Int.reduceToNat, Int.reduceNeg, Int.reduceEq, Int.reduceLT, Int.reduceLE, Int.reduceNatCast, Int.reduceNatCast', Int.reduceAdd, Int.reduceSub, Int.reduceMul, eq_self, Prod.mk.injEq, A_X8_count, V_X8_count, B_X8_count, Y_X8_count, C_X6_leavesOfAll, C_J6_bitCount_0f7a4, shpT, rfsT, br]
  refine ⟨⟨fun z => ?_, fun z => ⟨⟨c1, c2⟩, ?_⟩, fun z => ?_, fun z => ?_, fun z => ?_, fun z => ⟨c10, ?_⟩, fun z => ⟨t7, ?_⟩, fun z => ?_, fun z => ?_, fun z => ?_⟩, fun z => ?_⟩
  all_goals
    clear hR hImg c1 c2 c3 c4 c5 c6 c7 c8 c9 c10 c11 c12 c13 c14 c15 c16
    refine hk2 _ ?_ ?_ ?_ ?_ ?_ ?_ ?_ ?_ ?_ ?_ ?_
    all_goals
      intro y
      first
      | rfl
      | (exfalso; clear hk2; omega)

