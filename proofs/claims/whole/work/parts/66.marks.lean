-- ===== letters of the rules =====
def hlt (c : Int) : Int := if c = 108 then 0 else if c = 119 then 1 else if c = 110 then 2 else if c = 104 then 3 else if c = 102 then 4 else if c = 97 then 5 else if c = 115 then 6 else -1
def llt (c : Int) : Int := if c = 108 then 0 else if c = 100 then 1 else if c = 117 then 2 else if c = 97 then 3 else -1
def A_X9_handLetter : List (Nat × Ctr) := []
theorem e_X9_handLetter (o : OM) : Ev o Y_X9_handLetter 0 T_X9_handLetter A_X9_handLetter := ⟨rfl, fun _ h => absurd h List.not_mem_nil, fun _ h => absurd h List.not_mem_nil, fun _ h => absurd h List.not_mem_nil, fun _ h => absurd h List.not_mem_nil, fun _ h => absurd h List.not_mem_nil, fun _ h => absurd h List.not_mem_nil⟩
def C_X9_handLetter : Ctr := fun A σ κ => match A with
  | [.inl c] => (True) ∧ κ [vI (hlt c)] σ
  | _ => False
set_option maxRecDepth 20000 in
theorem s_X9_handLetter (o : OM) : Sound o Y_X9_handLetter 0 C_X9_handLetter := by
  intro Q A σ hA hC
  match A, hA, hC with
  | [.inl c], hA, hC =>
    obtain ⟨h0, hq⟩ : (True) ∧ Q [vI (hlt c)] σ := hC
    have hQ : ∀ r_ τ, r_ = (hlt c) → τ = (σ) → Q [vI r_] τ := fun r_ τ e e2 => e ▸ e2 ▸ hq
    refine at_wpl (lv := V_X9_handLetter) (B := B_X9_handLetter) (e_X9_handLetter o) k_X9_handLetter 9 0 [] _ σ ?_
    simp only [sq_iconst, sq_jsr, sq_anewarray, sq_iload, sq_lload, sq_aload, sq_istore, sq_lstore, sq_astore, sq_iinc, sq_getfield, st_put0, st_put1, st_put3, sq_inv, sq_goto, sq_icmp, sq_ifc, sq_tsw, sq_iadd, sq_isub, sq_imul, sq_ineg, sq_idiv, sq_irem, sq_iand, sq_ior, sq_ixor, sq_ishl, sq_ishr, sq_iushr, sq_ladd, sq_lmul, sq_ldiv, sq_lrem, sq_land, sq_lor, sq_lshl, sq_lushr, sq_lcmp, sq_i2l, sq_l2i, sq_i2c, sq_i2b, sq_dupI, sq_dupR, sq_dup2, sq_pop, sq_iaload, sq_baload, sq_aaload, sq_iastore, sq_bastore, sq_alen, sq_ireturn, sq_lreturn, sq_return, wq_c, wq_n, wlq_s, lkp, tbl, dBk, nth, setL, canSet, cmpI, tk, swK, rdF, entL, catS, cat1, arg, rcv, ald, bld, aln, br, Ccopy, Cmax, Cmin, Cabs, List.take, List.drop, List.reverse, List.reverseAux, List.length, List.append, List.nil_append, List.cons_append, true_and, and_true, and_self, forall_const, true_implies, false_implies, not_true_eq_false, not_false_eq_true, Option.map, reduceCtorEq, reduceIte, or_true, true_or, false_or, or_false, false_and, and_false, List.map, List.append_nil, implies_true, yK, Nat.reduceBEq, beq_self_eq_true, Int.zero_ne_one, Nat.reduceDiv, Nat.reduceMod, Nat.reduceAdd, Nat.reduceSub, Nat.reduceMul, Nat.reduceEqDiff, Nat.reduceLeDiff, Int.reduceToNat, Int.reduceNeg, Int.reduceEq, Int.reduceLT, Int.reduceLE, Int.reduceNatCast, Int.reduceNatCast', Int.reduceAdd, Int.reduceSub, Int.reduceMul, eq_self, Prod.mk.injEq, A_X9_handLetter, V_X9_handLetter, B_X9_handLetter, Y_X9_handLetter, shpT, rfsT]
    repeat' (first | (intro _) | apply And.intro)
    all_goals
      refine hQ _ _ ?_ rfl
      unfold hlt
      repeat (first | rw [if_pos (by omega)] | rw [if_neg (by omega)])
def A_X9_lawLetter : List (Nat × Ctr) := []
theorem e_X9_lawLetter (o : OM) : Ev o Y_X9_lawLetter 0 T_X9_lawLetter A_X9_lawLetter := ⟨rfl, fun _ h => absurd h List.not_mem_nil, fun _ h => absurd h List.not_mem_nil, fun _ h => absurd h List.not_mem_nil, fun _ h => absurd h List.not_mem_nil, fun _ h => absurd h List.not_mem_nil, fun _ h => absurd h List.not_mem_nil⟩
def C_X9_lawLetter : Ctr := fun A σ κ => match A with
  | [.inl c] => (True) ∧ κ [vI (llt c)] σ
  | _ => False
set_option maxRecDepth 20000 in
theorem s_X9_lawLetter (o : OM) : Sound o Y_X9_lawLetter 0 C_X9_lawLetter := by
  intro Q A σ hA hC
  match A, hA, hC with
  | [.inl c], hA, hC =>
    obtain ⟨h0, hq⟩ : (True) ∧ Q [vI (llt c)] σ := hC
    have hQ : ∀ r_ τ, r_ = (llt c) → τ = (σ) → Q [vI r_] τ := fun r_ τ e e2 => e ▸ e2 ▸ hq
    refine at_wpl (lv := V_X9_lawLetter) (B := B_X9_lawLetter) (e_X9_lawLetter o) k_X9_lawLetter 6 0 [] _ σ ?_
    simp only [sq_iconst, sq_jsr, sq_anewarray, sq_iload, sq_lload, sq_aload, sq_istore, sq_lstore, sq_astore, sq_iinc, sq_getfield, st_put0, st_put1, st_put3, sq_inv, sq_goto, sq_icmp, sq_ifc, sq_tsw, sq_iadd, sq_isub, sq_imul, sq_ineg, sq_idiv, sq_irem, sq_iand, sq_ior, sq_ixor, sq_ishl, sq_ishr, sq_iushr, sq_ladd, sq_lmul, sq_ldiv, sq_lrem, sq_land, sq_lor, sq_lshl, sq_lushr, sq_lcmp, sq_i2l, sq_l2i, sq_i2c, sq_i2b, sq_dupI, sq_dupR, sq_dup2, sq_pop, sq_iaload, sq_baload, sq_aaload, sq_iastore, sq_bastore, sq_alen, sq_ireturn, sq_lreturn, sq_return, wq_c, wq_n, wlq_s, lkp, tbl, dBk, nth, setL, canSet, cmpI, tk, swK, rdF, entL, catS, cat1, arg, rcv, ald, bld, aln, br, Ccopy, Cmax, Cmin, Cabs, List.take, List.drop, List.reverse, List.reverseAux, List.length, List.append, List.nil_append, List.cons_append, true_and, and_true, and_self, forall_const, true_implies, false_implies, not_true_eq_false, not_false_eq_true, Option.map, reduceCtorEq, reduceIte, or_true, true_or, false_or, or_false, false_and, and_false, List.map, List.append_nil, implies_true, yK, Nat.reduceBEq, beq_self_eq_true, Int.zero_ne_one, Nat.reduceDiv, Nat.reduceMod, Nat.reduceAdd, Nat.reduceSub, Nat.reduceMul, Nat.reduceEqDiff, Nat.reduceLeDiff, Int.reduceToNat, Int.reduceNeg, Int.reduceEq, Int.reduceLT, Int.reduceLE, Int.reduceNatCast, Int.reduceNatCast', Int.reduceAdd, Int.reduceSub, Int.reduceMul, eq_self, Prod.mk.injEq, A_X9_lawLetter, V_X9_lawLetter, B_X9_lawLetter, Y_X9_lawLetter, shpT, rfsT]
    repeat' (first | (intro _) | apply And.intro)
    all_goals
      refine hQ _ _ ?_ rfl
      unfold llt
      repeat (first | rw [if_pos (by omega)] | rw [if_neg (by omega)])

