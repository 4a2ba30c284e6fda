-- ===== pairing of the class: the way =====
def A_X5_leastOfAll : List (Nat × Ctr) := []
theorem e_X5_leastOfAll (o : OM) : Ev o Y_X5_leastOfAll 0 T_X5_leastOfAll A_X5_leastOfAll := ⟨rfl, List.forall_mem_cons.mpr ⟨Or.inl f_X5_49, fun _ h => absurd h List.not_mem_nil⟩, fun _ h => absurd h List.not_mem_nil, fun _ h => absurd h List.not_mem_nil, fun _ h => absurd h List.not_mem_nil, fun _ h => absurd h List.not_mem_nil, fun _ h => absurd h List.not_mem_nil⟩
def C_X5_leastOfAll : Ctr := fun A σ κ => match A with
  | [.inr (.inr (.inl 9))] => (True) ∧ κ [vI (σ 43 0)] σ
  | _ => False
set_option maxRecDepth 20000 in
theorem s_X5_leastOfAll (o : OM) : Sound o Y_X5_leastOfAll 0 C_X5_leastOfAll := by
  intro Q A σ hA hC
  match A, hA, hC with
  | [.inr (.inr (.inl 9))], hA, hC =>
    obtain ⟨h0, hq⟩ : (True) ∧ Q [vI (σ 43 0)] σ := hC
    have hQ : ∀ r_ τ, r_ = (σ 43 0) → τ = (σ) → Q [vI r_] τ := fun r_ τ e e2 => e ▸ e2 ▸ hq
    refine at_wpl (lv := V_X5_leastOfAll) (B := B_X5_leastOfAll) (e_X5_leastOfAll o) k_X5_leastOfAll 1 0 [] _ σ ?_
    simp only [sq_iconst, sq_jsr, sq_anewarray, sq_iload, sq_lload, sq_aload, sq_istore, sq_lstore, sq_astore, sq_iinc, sq_getfield, st_put0, st_put1, st_put3, sq_inv, sq_goto, sq_icmp, sq_ifc, sq_tsw, sq_iadd, sq_isub, sq_imul, sq_ineg, sq_idiv, sq_irem, sq_iand, sq_ior, sq_ixor, sq_ishl, sq_ishr, sq_iushr, sq_ladd, sq_lmul, sq_ldiv, sq_lrem, sq_land, sq_lor, sq_lshl, sq_lushr, sq_lcmp, sq_i2l, sq_l2i, sq_i2c, sq_i2b, sq_dupI, sq_dupR, sq_dup2, sq_pop, sq_iaload, sq_baload, sq_aaload, sq_iastore, sq_bastore, sq_alen, sq_ireturn, sq_lreturn, sq_return, wq_c, wq_n, wlq_s, lkp, tbl, dBk, nth, setL, canSet, cmpI, tk, swK, rdF, entL, catS, cat1, arg, rcv, ald, bld, aln, br, Ccopy, Cmax, Cmin, Cabs, List.take, List.drop, List.reverse, List.reverseAux, List.length, List.append, List.nil_append, List.cons_append, true_and, and_true, and_self, forall_const, true_implies, false_implies, not_true_eq_false, not_false_eq_true, Option.map, reduceCtorEq, reduceIte, or_true, true_or, false_or, or_false, false_and, and_false, List.map, List.append_nil, implies_true, yK, Nat.reduceBEq, beq_self_eq_true, Int.zero_ne_one, Nat.reduceDiv, Nat.reduceMod, Nat.reduceAdd, Nat.reduceSub, Nat.reduceMul, Nat.reduceEqDiff, Nat.reduceLeDiff, Int.reduceToNat, Int.reduceNeg, Int.reduceEq, Int.reduceLT, Int.reduceLE, Int.reduceNatCast, Int.reduceNatCast', Int.reduceAdd, Int.reduceSub, Int.reduceMul, eq_self, Prod.mk.injEq, A_X5_leastOfAll, V_X5_leastOfAll, B_X5_leastOfAll, Y_X5_leastOfAll, shpT, rfsT]
    repeat' (first | assumption | (intro _) | apply And.intro)
    all_goals first | omega | assumption | (apply hQ <;> first | rfl | omega | (simp [*]; done) | (simp [*]; omega)) | skip
def A_X5_waysOfAll : List (Nat × Ctr) := []
theorem e_X5_waysOfAll (o : OM) : Ev o Y_X5_waysOfAll 0 T_X5_waysOfAll A_X5_waysOfAll := ⟨rfl, List.forall_mem_cons.mpr ⟨Or.inl f_X5_52, fun _ h => absurd h List.not_mem_nil⟩, fun _ h => absurd h List.not_mem_nil, fun _ h => absurd h List.not_mem_nil, fun _ h => absurd h List.not_mem_nil, fun _ h => absurd h List.not_mem_nil, fun _ h => absurd h List.not_mem_nil⟩
def C_X5_waysOfAll : Ctr := fun A σ κ => match A with
  | [.inr (.inr (.inl 9))] => (True) ∧ κ [vI (σ 44 0)] σ
  | _ => False
set_option maxRecDepth 20000 in
theorem s_X5_waysOfAll (o : OM) : Sound o Y_X5_waysOfAll 0 C_X5_waysOfAll := by
  intro Q A σ hA hC
  match A, hA, hC with
  | [.inr (.inr (.inl 9))], hA, hC =>
    obtain ⟨h0, hq⟩ : (True) ∧ Q [vI (σ 44 0)] σ := hC
    have hQ : ∀ r_ τ, r_ = (σ 44 0) → τ = (σ) → Q [vI r_] τ := fun r_ τ e e2 => e ▸ e2 ▸ hq
    refine at_wpl (lv := V_X5_waysOfAll) (B := B_X5_waysOfAll) (e_X5_waysOfAll o) k_X5_waysOfAll 1 0 [] _ σ ?_
    simp only [sq_iconst, sq_jsr, sq_anewarray, sq_iload, sq_lload, sq_aload, sq_istore, sq_lstore, sq_astore, sq_iinc, sq_getfield, st_put0, st_put1, st_put3, sq_inv, sq_goto, sq_icmp, sq_ifc, sq_tsw, sq_iadd, sq_isub, sq_imul, sq_ineg, sq_idiv, sq_irem, sq_iand, sq_ior, sq_ixor, sq_ishl, sq_ishr, sq_iushr, sq_ladd, sq_lmul, sq_ldiv, sq_lrem, sq_land, sq_lor, sq_lshl, sq_lushr, sq_lcmp, sq_i2l, sq_l2i, sq_i2c, sq_i2b, sq_dupI, sq_dupR, sq_dup2, sq_pop, sq_iaload, sq_baload, sq_aaload, sq_iastore, sq_bastore, sq_alen, sq_ireturn, sq_lreturn, sq_return, wq_c, wq_n, wlq_s, lkp, tbl, dBk, nth, setL, canSet, cmpI, tk, swK, rdF, entL, catS, cat1, arg, rcv, ald, bld, aln, br, Ccopy, Cmax, Cmin, Cabs, List.take, List.drop, List.reverse, List.reverseAux, List.length, List.append, List.nil_append, List.cons_append, true_and, and_true, and_self, forall_const, true_implies, false_implies, not_true_eq_false, not_false_eq_true, Option.map, reduceCtorEq, reduceIte, or_true, true_or, false_or, or_false, false_and, and_false, List.map, List.append_nil, implies_true, yK, Nat.reduceBEq, beq_self_eq_true, Int.zero_ne_one, Nat.reduceDiv, Nat.reduceMod, Nat.reduceAdd, Nat.reduceSub, Nat.reduceMul, Nat.reduceEqDiff, Nat.reduceLeDiff, Int.reduceToNat, Int.reduceNeg, Int.reduceEq, Int.reduceLT, Int.reduceLE, Int.reduceNatCast, Int.reduceNatCast', Int.reduceAdd, Int.reduceSub, Int.reduceMul, eq_self, Prod.mk.injEq, A_X5_waysOfAll, V_X5_waysOfAll, B_X5_waysOfAll, Y_X5_waysOfAll, shpT, rfsT]
    repeat' (first | assumption | (intro _) | apply And.intro)
    all_goals first | omega | assumption | (apply hQ <;> first | rfl | omega | (simp [*]; done) | (simp [*]; omega)) | skip
def A_X5_leastWithout : List (Nat × Ctr) := [(1, rcv 5 3 C_X5_fillAll)]
theorem e_X5_leastWithout (o : OM) : Ev o Y_X5_leastWithout 5 T_X5_leastWithout A_X5_leastWithout := ⟨rfl, List.forall_mem_cons.mpr ⟨Or.inl f_X5_43, List.forall_mem_cons.mpr ⟨Or.inl f_X5_46, List.forall_mem_cons.mpr ⟨Or.inl f_X5_49, fun _ h => absurd h List.not_mem_nil⟩⟩⟩, fun _ h => absurd h List.not_mem_nil, fun _ h => absurd h List.not_mem_nil, fun _ h => absurd h List.not_mem_nil, List.forall_mem_cons.mpr ⟨cl_X5_fillAll (s_X5_fillAll o) (by decide) (Or.inl w_700), fun _ h => absurd h List.not_mem_nil⟩, fun _ h => absurd h List.not_mem_nil⟩
def C_X5_leastWithout : Ctr := fun A σ κ => match A with
  | [.inr (.inr (.inl 9)), .inl i, .inl j] => (PrI σ) ∧ ∀ τ : Sto, (∀ q : Nat, q ≠ 43 → q ≠ 44 → τ q = su (su σ 9 12 i) 9 13 j q) → TabC τ → κ [vI (τ 43 0)] τ
  | _ => False
set_option maxRecDepth 20000 in
theorem s_X5_leastWithout (o : OM) : Sound o Y_X5_leastWithout 5 C_X5_leastWithout := by
  intro Q A σ hA hC
  match A, hA, hC with
  | [.inr (.inr (.inl 9)), .inl i, .inl j], hA, hC =>
    obtain ⟨h0, hq⟩ : (PrI σ) ∧ ∀ τ : Sto, (∀ q : Nat, q ≠ 43 → q ≠ 44 → τ q = su (su σ 9 12 i) 9 13 j q) → TabC τ → Q [vI (τ 43 0)] τ := hC
    refine at_wpl (lv := V_X5_leastWithout) (B := B_X5_leastWithout) (e_X5_leastWithout o) k_X5_leastWithout 1 0 [] _ σ ?_
    simp only [sq_iconst, sq_jsr, sq_anewarray, sq_iload, sq_lload, sq_aload, sq_istore, sq_lstore, sq_astore, sq_iinc, sq_getfield, st_put0, st_put1, st_put3, sq_inv, sq_goto, sq_icmp, sq_ifc, sq_tsw, sq_iadd, sq_isub, sq_imul, sq_ineg, sq_idiv, sq_irem, sq_iand, sq_ior, sq_ixor, sq_ishl, sq_ishr, sq_iushr, sq_ladd, sq_lmul, sq_ldiv, sq_lrem, sq_land, sq_lor, sq_lshl, sq_lushr, sq_lcmp, sq_i2l, sq_l2i, sq_i2c, sq_i2b, sq_dupI, sq_dupR, sq_dup2, sq_pop, sq_iaload, sq_baload, sq_aaload, sq_iastore, sq_bastore, sq_alen, sq_ireturn, sq_lreturn, sq_return, wq_c, wq_n, wlq_s, lkp, tbl, dBk, nth, setL, canSet, cmpI, tk, swK, rdF, entL, catS, cat1, arg, rcv, ald, bld, aln, br, Ccopy, Cmax, Cmin, Cabs, List.take, List.drop, List.reverse, List.reverseAux, List.length, List.append, List.nil_append, List.cons_append, true_and, and_true, and_self, forall_const, true_implies, false_implies, not_true_eq_false, not_false_eq_true, Option.map, reduceCtorEq, reduceIte, or_true, true_or, false_or, or_false, false_and, and_false, List.map, List.append_nil, implies_true, yK, Nat.reduceBEq, beq_self_eq_true, Int.zero_ne_one, Nat.reduceDiv, Nat.reduceMod, Nat.reduceAdd, Nat.reduceSub, Nat.reduceMul, Nat.reduceEqDiff, Nat.reduceLeDiff, Int.reduceToNat, Int.reduceNeg, Int.reduceEq, Int.reduceLT, Int.reduceLE, Int.reduceNatCast, Int.reduceNatCast', Int.reduceAdd, Int.reduceSub, Int.reduceMul, eq_self, Prod.mk.injEq, A_X5_leastWithout, V_X5_leastWithout, B_X5_leastWithout, Y_X5_leastWithout, C_X5_fillAll, shpT, rfsT, su_r, su_at]
    refine ⟨?_, fun τ e hT => hq τ e hT⟩
    unfold PrI at *
    simp only [su_r, su_at, Nat.reduceEqDiff, not_false_eq_true, Int.reduceEq, if_false]
    exact h0
def A_X5_stepOfTheWay : List (Nat × Ctr) := [(3, arg 3 C_X8_isWithin)]
theorem e_X5_stepOfTheWay (o : OM) : Ev o Y_X5_stepOfTheWay 1 T_X5_stepOfTheWay A_X5_stepOfTheWay := ⟨rfl, List.forall_mem_cons.mpr ⟨Or.inl f_X5_58, List.forall_mem_cons.mpr ⟨Or.inl f_X5_55, fun _ h => absurd h List.not_mem_nil⟩⟩, fun _ h => absurd h List.not_mem_nil, fun _ h => absurd h List.not_mem_nil, fun _ h => absurd h List.not_mem_nil, fun _ h => absurd h List.not_mem_nil, List.forall_mem_cons.mpr ⟨cl_X8_isWithin (s_X8_isWithin o) (by decide) (Or.inr ⟨_, wn_78⟩), fun _ h => absurd h List.not_mem_nil⟩⟩
def C_X5_stepOfTheWay : Ctr := fun A σ κ => match A with
  | [.inr (.inr (.inl 9)), .inl i] => (0 ≤ σ 9 17 ∧ σ 9 17 ≤ 32) ∧ κ [vI (if 0 ≤ i ∧ i ≤ σ 9 17 - 1 then σ 45 i else -1)] σ
  | _ => False
set_option maxRecDepth 20000 in
theorem s_X5_stepOfTheWay (o : OM) : Sound o Y_X5_stepOfTheWay 1 C_X5_stepOfTheWay := by
  intro Q A σ hA hC
  match A, hA, hC with
  | [.inr (.inr (.inl 9)), .inl i], hA, hC =>
    obtain ⟨h0, hq⟩ : (0 ≤ σ 9 17 ∧ σ 9 17 ≤ 32) ∧ Q [vI (if 0 ≤ i ∧ i ≤ σ 9 17 - 1 then σ 45 i else -1)] σ := hC
    have hQ : ∀ r_ τ, r_ = (if 0 ≤ i ∧ i ≤ σ 9 17 - 1 then σ 45 i else -1) → τ = (σ) → Q [vI r_] τ := fun r_ τ e e2 => e ▸ e2 ▸ hq
    refine at_wpl (lv := V_X5_stepOfTheWay) (B := B_X5_stepOfTheWay) (e_X5_stepOfTheWay o) k_X5_stepOfTheWay 3 0 [] _ σ ?_
    simp only [sq_iconst, sq_jsr, sq_anewarray, sq_iload, sq_lload, sq_aload, sq_istore, sq_lstore, sq_astore, sq_iinc, sq_getfield, st_put0, st_put1, st_put3, sq_inv, sq_goto, sq_icmp, sq_ifc, sq_tsw, sq_iadd, sq_isub, sq_imul, sq_ineg, sq_idiv, sq_irem, sq_iand, sq_ior, sq_ixor, sq_ishl, sq_ishr, sq_iushr, sq_ladd, sq_lmul, sq_ldiv, sq_lrem, sq_land, sq_lor, sq_lshl, sq_lushr, sq_lcmp, sq_i2l, sq_l2i, sq_i2c, sq_i2b, sq_dupI, sq_dupR, sq_dup2, sq_pop, sq_iaload, sq_baload, sq_aaload, sq_iastore, sq_bastore, sq_alen, sq_ireturn, sq_lreturn, sq_return, wq_c, wq_n, wlq_s, lkp, tbl, dBk, nth, setL, canSet, cmpI, tk, swK, rdF, entL, catS, cat1, arg, rcv, ald, bld, aln, br, Ccopy, Cmax, Cmin, Cabs, List.take, List.drop, List.reverse, List.reverseAux, List.length, List.append, List.nil_append, List.cons_append, true_and, and_true, and_self, forall_const, true_implies, false_implies, not_true_eq_false, not_false_eq_true, Option.map, reduceCtorEq, reduceIte, or_true, true_or, false_or, or_false, false_and, and_false, List.map, List.append_nil, implies_true, yK, Nat.reduceBEq, beq_self_eq_true, Int.zero_ne_one, Nat.reduceDiv, Nat.reduceMod, Nat.reduceAdd, Nat.reduceSub, Nat.reduceMul, Nat.reduceEqDiff, Nat.reduceLeDiff, Int.reduceToNat, Int.reduceNeg, Int.reduceEq, Int.reduceLT, Int.reduceLE, Int.reduceNatCast, Int.reduceNatCast', Int.reduceAdd, Int.reduceSub, Int.reduceMul, eq_self, Prod.mk.injEq, A_X5_stepOfTheWay, V_X5_stepOfTheWay, B_X5_stepOfTheWay, Y_X5_stepOfTheWay, C_X8_isWithin, shpT, rfsT]
    repeat' (first | assumption | (intro _) | apply And.intro)
    all_goals first | omega | assumption | (apply hQ <;> first | rfl | omega | (simp [*]; done) | (simp [*]; omega)) | skip
/-- the least step that gives what the table has -/
def fsP (σ : Sto) (i j : Int) : Int → Bool := fun s => okB (σ 9 6) (σ 9 7) (σ 9 12) (σ 9 13) s i j && decide (prS (σ 39) (σ 40) (σ 41) (σ 42) (σ 9 8) (σ 9 9) (σ 9 10) (σ 9 11) s i j + σ 43 ((i + o1 s) * 17 + (j + o2 s)) = σ 43 (i * 17 + j))
def fsC (σ : Sto) (i j : Int) : Int := ff (fsP σ i j) 0 5
def A_X5_leastStepFrom : List (Nat × Ctr) := [(4, rcv 5 4 C_X5_canStep), (4, rcv 5 4 C_X5_priceOf), (4, rcv 5 4 C_X5_placeAfter)]
theorem e_X5_leastStepFrom (o : OM) : Ev o Y_X5_leastStepFrom 3 T_X5_leastStepFrom A_X5_leastStepFrom := ⟨rfl, List.forall_mem_cons.mpr ⟨Or.inl f_X5_49, fun _ h => absurd h List.not_mem_nil⟩, fun _ h => absurd h List.not_mem_nil, fun _ h => absurd h List.not_mem_nil, fun _ h => absurd h List.not_mem_nil, List.forall_mem_cons.mpr ⟨cl_X5_canStep (s_X5_canStep o) (by decide) (Or.inl w_708), List.forall_mem_cons.mpr ⟨cl_X5_priceOf (s_X5_priceOf o) (by decide) (Or.inl w_720), List.forall_mem_cons.mpr ⟨cl_X5_placeAfter (s_X5_placeAfter o) (by decide) (Or.inl w_716), fun _ h => absurd h List.not_mem_nil⟩⟩⟩, fun _ h => absurd h List.not_mem_nil⟩
def C_X5_leastStepFrom : Ctr := fun A σ κ => match A with
  | [.inr (.inr (.inl 9)), .inl i, .inl j] => (PrI σ ∧ TabC σ ∧ (0 ≤ i ∧ i ≤ σ 9 6) ∧ (0 ≤ j ∧ j ≤ σ 9 7)) ∧ κ [vI (fsC σ i j)] σ
  | _ => False
set_option maxRecDepth 20000 in
theorem s_X5_leastStepFrom (o : OM) : Sound o Y_X5_leastStepFrom 3 C_X5_leastStepFrom := by
  intro Q A σ hA hC
  match A, hA, hC with
  | [.inr (.inr (.inl 9)), .inl i, .inl j], hA, hC =>
    obtain ⟨h0, hq⟩ : (PrI σ ∧ TabC σ ∧ (0 ≤ i ∧ i ≤ σ 9 6) ∧ (0 ≤ j ∧ j ≤ σ 9 7)) ∧ Q [vI (fsC σ i j)] σ := hC
    have hQ : ∀ r_ τ, r_ = (fsC σ i j) → τ = (σ) → Q [vI r_] τ := fun r_ τ e e2 => e ▸ e2 ▸ hq
    obtain ⟨⟨hn1, hn2, hR1, hR2, hL⟩, hT, hi, hj⟩ := h0
    refine at_meth (lv := V_X5_leastStepFrom) (B := B_X5_leastStepFrom) (e_X5_leastStepFrom o) k_X5_leastStepFrom 4 [(2, fun m S L τ => ∃ n : Int, S = [] ∧ L = [vR 9, vI i, vI j, vI n] ∧ τ = σ ∧ 0 ≤ n ∧ n ≤ 5 ∧ m = (5 - n).toNat ∧ fsC σ i j = ff (fsP σ i j) n (5 - n).toNat)] (List.forall_mem_cons.mpr ⟨?_, fun _ h => absurd h List.not_mem_nil⟩) 0 [] _ σ ?_
    · rintro m S L τ ⟨n, rfl, rfl, rfl, hn0, hn5, hm, he⟩
      simp only [sq_iconst, sq_jsr, sq_anewarray, sq_iload, sq_lload, sq_aload, sq_istore, sq_lstore, sq_astore, sq_iinc, sq_getfield, st_put0, st_put1, st_put3, sq_inv, sq_goto, sq_icmp, sq_ifc, sq_tsw, sq_iadd, sq_isub, sq_imul, sq_ineg, sq_idiv, sq_irem, sq_iand, sq_ior, sq_ixor, sq_ishl, sq_ishr, sq_iushr, sq_ladd, sq_lmul, sq_ldiv, sq_lrem, sq_land, sq_lor, sq_lshl, sq_lushr, sq_lcmp, sq_i2l, sq_l2i, sq_i2c, sq_i2b, sq_dupI, sq_dupR, sq_dup2, sq_pop, sq_iaload, sq_baload, sq_aaload, sq_iastore, sq_bastore, sq_alen, sq_ireturn, sq_lreturn, sq_return, wq_c, wq_n, wlq_s, lkp, tbl, dBk, nth, setL, canSet, cmpI, tk, swK, rdF, entL, catS, cat1, arg, rcv, ald, bld, aln, br, Ccopy, Cmax, Cmin, Cabs, List.take, List.drop, List.reverse, List.reverseAux, List.length, List.append, List.nil_append, List.cons_append, true_and, and_true, and_self, forall_const, true_implies, false_implies, not_true_eq_false, not_false_eq_true, Option.map, reduceCtorEq, reduceIte, or_true, true_or, false_or, or_false, false_and, and_false, List.map, List.append_nil, implies_true, yK, Nat.reduceBEq, beq_self_eq_true, Int.zero_ne_one, Nat.reduceDiv, Nat.reduceMod, Nat.reduceAdd, Nat.reduceSub, Nat.reduceMul, Nat.reduceEqDiff, Nat.reduceLeDiff, Int.reduceToNat, Int.reduceNeg, Int.reduceEq, Int.reduceLT, Int.reduceLE, Int.reduceNatCast, Int.reduceNatCast', Int.reduceAdd, Int.reduceSub, Int.reduceMul, eq_self, Prod.mk.injEq, A_X5_leastStepFrom, V_X5_leastStepFrom, B_X5_leastStepFrom, Y_X5_leastStepFrom, C_X5_canStep, C_X5_priceOf, C_X5_placeAfter, shpT, rfsT, wjq_s, look]
      have nx : n < 5 → fsP τ i j n = false → i32 (n + 1) ∧ ∃ m_1, m_1 < m ∧ ∃ n_1, [vR 9, vI i, vI j, vI (n + 1)] = [vR 9, vI i, vI j, vI n_1] ∧ 0 ≤ n_1 ∧ n_1 ≤ 5 ∧ m_1 = (5 - n_1).toNat ∧ fsC τ i j = ff (fsP τ i j) n_1 (5 - n_1).toNat := by
        intro h1 h2
        refine ⟨⟨by omega, by omega⟩, _, ?_, n + 1, rfl, by omega, by omega, rfl, ?_⟩
        · omega
        · rw [he, ff_s h1, h2]; rfl
      refine ⟨fun h1 => hQ _ _ (by rw [he, ff_e h1]) rfl, fun h1 => ⟨⟨by omega, by omega, by omega⟩, fun h2 => ?_, fun h2 => nx (by omega) ?_⟩⟩
      · have ho := o_in (s := n) ⟨by omega, by omega⟩
        have hok := okB_iff.mpr h2
        have hp := prS_in hR1 hR2 hL (s := n) ⟨by omega, by omega⟩ hi.1 hj.1 h2.2.1 h2.2.2
        obtain ⟨-, q1, q2⟩ := h2
        have r1 := RI_mono hR1 q1
        have r2 := RI_mono hR2 q2
        obtain ⟨-, -, t1, -⟩ := hT (i + o1 n) (j + o2 n) (by omega) q1 (by omega) q2
        obtain ⟨-, -, t2, -⟩ := hT i j hi.1 hi.2 hj.1 hj.2
        refine ⟨⟨⟨by omega, by omega⟩, ⟨by omega, by omega⟩, ⟨by omega, by omega⟩, r1, r2, hL⟩, ⟨by omega, by omega, by omega⟩, by omega, ⟨by omega, by omega⟩, ⟨by omega, by omega⟩, ⟨by omega, by omega⟩, by omega, fun h3 => nx (by omega) ?_, fun h3 => hQ _ _ ?_ rfl⟩
        · unfold fsP; rw [hok]; simp [h3]
        · have h4 : fsP τ i j n = true := by unfold fsP; rw [hok]; simp; omega
          rw [he, ff_s (by omega), h4]; rfl
      · have : okB (τ 9 6) (τ 9 7) (τ 9 12) (τ 9 13) n i j = false := by
          cases hb : okB (τ 9 6) (τ 9 7) (τ 9 12) (τ 9 13) n i j with
          | false => rfl
          | true => exact absurd (okB_iff.mp hb) h2
        unfold fsP
        rw [this]
        rfl
    · simp only [sq_iconst, sq_jsr, sq_anewarray, sq_iload, sq_lload, sq_aload, sq_istore, sq_lstore, sq_astore, sq_iinc, sq_getfield, st_put0, st_put1, st_put3, sq_inv, sq_goto, sq_icmp, sq_ifc, sq_tsw, sq_iadd, sq_isub, sq_imul, sq_ineg, sq_idiv, sq_irem, sq_iand, sq_ior, sq_ixor, sq_ishl, sq_ishr, sq_iushr, sq_ladd, sq_lmul, sq_ldiv, sq_lrem, sq_land, sq_lor, sq_lshl, sq_lushr, sq_lcmp, sq_i2l, sq_l2i, sq_i2c, sq_i2b, sq_dupI, sq_dupR, sq_dup2, sq_pop, sq_iaload, sq_baload, sq_aaload, sq_iastore, sq_bastore, sq_alen, sq_ireturn, sq_lreturn, sq_return, wq_c, wq_n, wlq_s, lkp, tbl, dBk, nth, setL, canSet, cmpI, tk, swK, rdF, entL, catS, cat1, arg, rcv, ald, bld, aln, br, Ccopy, Cmax, Cmin, Cabs, List.take, List.drop, List.reverse, List.reverseAux, List.length, List.append, List.nil_append, List.cons_append, true_and, and_true, and_self, forall_const, true_implies, false_implies, not_true_eq_false, not_false_eq_true, Option.map, reduceCtorEq, reduceIte, or_true, true_or, false_or, or_false, false_and, and_false, List.map, List.append_nil, implies_true, yK, Nat.reduceBEq, beq_self_eq_true, Int.zero_ne_one, Nat.reduceDiv, Nat.reduceMod, Nat.reduceAdd, Nat.reduceSub, Nat.reduceMul, Nat.reduceEqDiff, Nat.reduceLeDiff, Int.reduceToNat, Int.reduceNeg, Int.reduceEq, Int.reduceLT, Int.reduceLE, Int.reduceNatCast, Int.reduceNatCast', Int.reduceAdd, Int.reduceSub, Int.reduceMul, eq_self, Prod.mk.injEq, A_X5_leastStepFrom, V_X5_leastStepFrom, B_X5_leastStepFrom, Y_X5_leastStepFrom, C_X5_canStep, C_X5_priceOf, C_X5_placeAfter, shpT, rfsT, wjq_s, look]
      exact ⟨_, 0, rfl, by omega, by omega, rfl, rfl⟩

