-- ===== the class: which joins must be thrown out =====
theorem rfs51 (j : Nat) : rfs 51 j = 52 + j := rfl
theorem lvS {n : Nat} (h : n < 13) : shp (52 + n) = (0, 64) := by
  have : n = 0 ∨ n = 1 ∨ n = 2 ∨ n = 3 ∨ n = 4 ∨ n = 5 ∨ n = 6 ∨ n = 7 ∨ n = 8 ∨ n = 9 ∨ n = 10 ∨ n = 11 ∨ n = 12 := by omega
  rcases this with rfl | rfl | rfl | rfl | rfl | rfl | rfl | rfl | rfl | rfl | rfl | rfl | rfl <;> rfl
def A_X3_copyLevel : List (Nat × Ctr) := [(5, Ccopy)]
theorem e_X3_copyLevel (o : OM) : Ev o Y_X3_copyLevel 1 T_X3_copyLevel A_X3_copyLevel := ⟨rfl, List.forall_mem_cons.mpr ⟨Or.inl f_X3_23, fun _ h => absurd h List.not_mem_nil⟩, fun _ h => absurd h List.not_mem_nil, fun _ h => absurd h List.not_mem_nil, fun _ h => absurd h List.not_mem_nil, fun _ h => absurd h List.not_mem_nil, List.forall_mem_cons.mpr ⟨copy_ok w_869 w_590 w_589 w_19, fun _ h => absurd h List.not_mem_nil⟩⟩
def C_X3_copyLevel : Ctr := fun A σ κ => match A with
  | [.inr (.inr (.inl 10)), .inl l] => (0 ≤ l ∧ l < 12) ∧ κ [] (cpS σ (52 + l.toNat) 0 (52 + (l + 1).toNat) 0 64)
  | _ => False
set_option maxRecDepth 20000 in
theorem s_X3_copyLevel (o : OM) : Sound o Y_X3_copyLevel 1 C_X3_copyLevel := by
  intro Q A σ hA hC
  match A, hA, hC with
  | [.inr (.inr (.inl 10)), .inl l], hA, hC =>
    obtain ⟨h0, hq⟩ : (0 ≤ l ∧ l < 12) ∧ Q [] (cpS σ (52 + l.toNat) 0 (52 + (l + 1).toNat) 0 64) := hC
    have hQ : ∀ τ, τ = (cpS σ (52 + l.toNat) 0 (52 + (l + 1).toNat) 0 64) → Q [] τ := fun τ e2 => e2 ▸ hq
    refine at_wpl (lv := V_X3_copyLevel) (B := B_X3_copyLevel) (e_X3_copyLevel o) k_X3_copyLevel 1 0 [] _ σ ?_
    simp only [sq_iconst, sq_jsr, sq_anewarray, sq_iload, sq_lload, sq_aload, sq_istore, sq_lstore, sq_astore, sq_iinc, sq_getfield, st_put0, st_put1, st_put3, sq_inv, sq_goto, sq_icmp, sq_ifc, sq_tsw, sq_iadd, sq_isub, sq_imul, sq_ineg, sq_idiv, sq_irem, sq_iand, sq_ior, sq_ixor, sq_ishl, sq_ishr, sq_iushr, sq_ladd, sq_lmul, sq_ldiv, sq_lrem, sq_land, sq_lor, sq_lshl, sq_lushr, sq_lcmp, sq_i2l, sq_l2i, sq_i2c, sq_i2b, sq_dupI, sq_dupR, sq_dup2, sq_pop, sq_iaload, sq_baload, sq_aaload, sq_iastore, sq_bastore, sq_alen, sq_ireturn, sq_lreturn, sq_return, wq_c, wq_n, wlq_s, lkp, tbl, dBk, nth, setL, canSet, cmpI, tk, swK, rdF, entL, catS, cat1, arg, rcv, ald, bld, aln, br, Ccopy, Cmax, Cmin, Cabs, List.take, List.drop, List.reverse, List.reverseAux, List.length, List.append, List.nil_append, List.cons_append, true_and, and_true, and_self, forall_const, true_implies, false_implies, not_true_eq_false, not_false_eq_true, Option.map, reduceCtorEq, reduceIte, or_true, true_or, false_or, or_false, false_and, and_false, List.map, List.append_nil, implies_true, yK, Nat.reduceBEq, beq_self_eq_true, Int.zero_ne_one, Nat.reduceDiv, Nat.reduceMod, Nat.reduceAdd, Nat.reduceSub, Nat.reduceMul, Nat.reduceEqDiff, Nat.reduceLeDiff, Int.reduceToNat, Int.reduceNeg, Int.reduceEq, Int.reduceLT, Int.reduceLE, Int.reduceNatCast, Int.reduceNatCast', Int.reduceAdd, Int.reduceSub, Int.reduceMul, eq_self, Prod.mk.injEq, A_X3_copyLevel, V_X3_copyLevel, B_X3_copyLevel, Y_X3_copyLevel, shpT, rfsT, rfs51]
    simp only [lvS (show l.toNat < 13 by omega), lvS (show (l + 1).toNat < 13 by omega)]
    skip
def A_X3_considerCast : List (Nat × Ctr) := [(1, arg 1 C_J6_bitCount_0f7a4)]
theorem e_X3_considerCast (o : OM) : Ev o Y_X3_considerCast 1 T_X3_considerCast A_X3_considerCast := ⟨rfl, List.forall_mem_cons.mpr ⟨Or.inl f_X3_36, List.forall_mem_cons.mpr ⟨Or.inl f_X3_39, List.forall_mem_cons.mpr ⟨Or.inl f_X3_32, fun _ h => absurd h List.not_mem_nil⟩⟩⟩, fun _ h => absurd h List.not_mem_nil, fun _ h => absurd h List.not_mem_nil, fun _ h => absurd h List.not_mem_nil, fun _ h => absurd h List.not_mem_nil, List.forall_mem_cons.mpr ⟨cl_J6_bitCount_0f7a4 (s_J6_bitCount_0f7a4 o) (by decide) (Or.inl w_916), fun _ h => absurd h List.not_mem_nil⟩⟩
def C_X3_considerCast : Ctr := fun A σ κ => match A with
  | [.inr (.inr (.inl 10)), .inl c, .inl dd] => (0 ≤ c ∧ c < 4096) ∧ κ [] (if pop c ≤ σ 10 10 ∧ (pop c < σ 10 10 ∨ σ 10 11 < dd ∨ (dd = σ 10 11 ∧ c < σ 10 9)) then su (su (su σ 10 9 c) 10 10 (pop c)) 10 11 dd else σ)
  | _ => False
set_option maxRecDepth 20000 in
theorem s_X3_considerCast (o : OM) : Sound o Y_X3_considerCast 1 C_X3_considerCast := by
  intro Q A σ hA hC
  match A, hA, hC with
  | [.inr (.inr (.inl 10)), .inl c, .inl dd], hA, hC =>
    obtain ⟨h0, hq⟩ : (0 ≤ c ∧ c < 4096) ∧ Q [] (if pop c ≤ σ 10 10 ∧ (pop c < σ 10 10 ∨ σ 10 11 < dd ∨ (dd = σ 10 11 ∧ c < σ 10 9)) then su (su (su σ 10 9 c) 10 10 (pop c)) 10 11 dd else σ) := hC
    have hQ : ∀ τ, τ = (if pop c ≤ σ 10 10 ∧ (pop c < σ 10 10 ∨ σ 10 11 < dd ∨ (dd = σ 10 11 ∧ c < σ 10 9)) then su (su (su σ 10 9 c) 10 10 (pop c)) 10 11 dd else σ) → Q [] τ := fun τ e2 => e2 ▸ hq
    refine at_wpl (lv := V_X3_considerCast) (B := B_X3_considerCast) (e_X3_considerCast o) k_X3_considerCast 4 0 [] _ σ ?_
    simp only [sq_iconst, sq_jsr, sq_anewarray, sq_iload, sq_lload, sq_aload, sq_istore, sq_lstore, sq_astore, sq_iinc, sq_getfield, st_put0, st_put1, st_put3, sq_inv, sq_goto, sq_icmp, sq_ifc, sq_tsw, sq_iadd, sq_isub, sq_imul, sq_ineg, sq_idiv, sq_irem, sq_iand, sq_ior, sq_ixor, sq_ishl, sq_ishr, sq_iushr, sq_ladd, sq_lmul, sq_ldiv, sq_lrem, sq_land, sq_lor, sq_lshl, sq_lushr, sq_lcmp, sq_i2l, sq_l2i, sq_i2c, sq_i2b, sq_dupI, sq_dupR, sq_dup2, sq_pop, sq_iaload, sq_baload, sq_aaload, sq_iastore, sq_bastore, sq_alen, sq_ireturn, sq_lreturn, sq_return, wq_c, wq_n, wlq_s, lkp, tbl, dBk, nth, setL, canSet, cmpI, tk, swK, rdF, entL, catS, cat1, arg, rcv, ald, bld, aln, br, Ccopy, Cmax, Cmin, Cabs, List.take, List.drop, List.reverse, List.reverseAux, List.length, List.append, List.nil_append, List.cons_append, true_and, and_true, and_self, forall_const, true_implies, false_implies, not_true_eq_false, not_false_eq_true, Option.map, reduceCtorEq, reduceIte, or_true, true_or, false_or, or_false, false_and, and_false, List.map, List.append_nil, implies_true, yK, Nat.reduceBEq, beq_self_eq_true, Int.zero_ne_one, Nat.reduceDiv, Nat.reduceMod, Nat.reduceAdd, Nat.reduceSub, Nat.reduceMul, Nat.reduceEqDiff, Nat.reduceLeDiff, Int.reduceToNat, Int.reduceNeg, Int.reduceEq, Int.reduceLT, Int.reduceLE, Int.reduceNatCast, Int.reduceNatCast', Int.reduceAdd, Int.reduceSub, Int.reduceMul, eq_self, Prod.mk.injEq, A_X3_considerCast, V_X3_considerCast, B_X3_considerCast, Y_X3_considerCast, C_J6_bitCount_0f7a4, shpT, rfsT]
    skip
def A_castk (C : Ctr) : List (Nat × Ctr) := [(1, arg 1 C_J6_bitCount_0f7a4), (3, rcv 3 5 C_X3_considerCast), (2, rcv 3 2 C_X3_copyLevel), (2, rcv 0 2 C_X0_isKept), (3, rcv 3 3 C_X3_bindJoin), (4, rcv 3 4 C)]
theorem e_castk (o : OM) {d : Nat} {C : Ctr} (h2 : 2 ≤ d) (hS : Sound o Y_X3_castFrom d C) : Ev o Y_X3_castFrom (d + 1) T_X3_castFrom (A_castk C) := ⟨rfl, List.forall_mem_cons.mpr ⟨Or.inl f_X3_36, List.forall_mem_cons.mpr ⟨Or.inl f_X3_59, List.forall_mem_cons.mpr ⟨Or.inl f_X3_111, List.forall_mem_cons.mpr ⟨Or.inl f_X3_23, List.forall_mem_cons.mpr ⟨Or.inl f_X3_187, fun _ h => absurd h List.not_mem_nil⟩⟩⟩⟩⟩, fun _ h => absurd h List.not_mem_nil, fun _ h => absurd h List.not_mem_nil, fun _ h => absurd h List.not_mem_nil, List.forall_mem_cons.mpr ⟨cl_X3_considerCast (s_X3_considerCast o) (by omega) (Or.inl w_938), List.forall_mem_cons.mpr ⟨cl_X3_copyLevel (s_X3_copyLevel o) (by omega) (Or.inl w_942), List.forall_mem_cons.mpr ⟨cl_X0_isKept (s_X0_isKept o) (by omega) (Or.inr ⟨_, wn_91⟩), List.forall_mem_cons.mpr ⟨cl_X3_bindJoin (s_X3_bindJoin o) (by omega) (Or.inl w_871), List.forall_mem_cons.mpr ⟨cl_X3_castFrom hS (Nat.le_refl _) (Or.inl w_934), fun _ h => absurd h List.not_mem_nil⟩⟩⟩⟩⟩, List.forall_mem_cons.mpr ⟨cl_J6_bitCount_0f7a4 (s_J6_bitCount_0f7a4 o) (by omega) (Or.inl w_916), fun _ h => absurd h List.not_mem_nil⟩⟩

