-- ===== weaving of the class =====
/-- a join's row lies in order -/
def JnI (σ : Sto) (j : Int) : Prop := nd (σ 16 j) ∧ nd (σ 17 j) ∧ (-100000 ≤ σ 18 j ∧ σ 18 j ≤ 100000) ∧ (-100000 ≤ σ 19 j ∧ σ 19 j ≤ 100000)
def A_X3_isFloating : List (Nat × Ctr) := []
theorem e_X3_isFloating (o : OM) : Ev o Y_X3_isFloating 0 T_X3_isFloating A_X3_isFloating := ⟨rfl, List.forall_mem_cons.mpr ⟨Or.inl f_X3_11, fun _ h => absurd h List.not_mem_nil⟩, List.forall_mem_cons.mpr ⟨⟨w_837, by decide, by decide⟩, fun _ h => absurd h List.not_mem_nil⟩, fun _ h => absurd h List.not_mem_nil, fun _ h => absurd h List.not_mem_nil, fun _ h => absurd h List.not_mem_nil, fun _ h => absurd h List.not_mem_nil⟩
def C_X3_isFloating : Ctr := fun A σ κ => match A with
  | [.inr (.inr (.inl 10)), .inl a, .inl b] => (nd a ∧ nd b) ∧ br (σ 48 (a * 8 + b) = 1000000000) κ σ
  | _ => False
set_option maxRecDepth 20000 in
theorem s_X3_isFloating (o : OM) : Sound o Y_X3_isFloating 0 C_X3_isFloating := by
  intro Q A σ hA hC
  match A, hA, hC with
  | [.inr (.inr (.inl 10)), .inl a, .inl b], hA, hC =>
    obtain ⟨h0, hq⟩ : (nd a ∧ nd b) ∧ br (σ 48 (a * 8 + b) = 1000000000) Q σ := hC
    have hT : (σ 48 (a * 8 + b) = 1000000000) → ∀ r_, r_ = 1 → Q [vI r_] σ := fun c_ r_ e => e ▸ hq.1 c_
    have hF : ¬ (σ 48 (a * 8 + b) = 1000000000) → ∀ r_, r_ = 0 → Q [vI r_] σ := fun c_ r_ e => e ▸ hq.2 c_
    refine at_wpl (lv := V_X3_isFloating) (B := B_X3_isFloating) (e_X3_isFloating o) k_X3_isFloating 3 0 [] _ σ ?_
    simp only [sq_iconst, sq_jsr, sq_anewarray, sq_iload, sq_lload, sq_aload, sq_istore, sq_lstore, sq_astore, sq_iinc, sq_getfield, st_put0, st_put1, st_put3, sq_inv, sq_goto, sq_icmp, sq_ifc, sq_tsw, sq_iadd, sq_isub, sq_imul, sq_ineg, sq_idiv, sq_irem, sq_iand, sq_ior, sq_ixor, sq_ishl, sq_ishr, sq_iushr, sq_ladd, sq_lmul, sq_ldiv, sq_lrem, sq_land, sq_lor, sq_lshl, sq_lushr, sq_lcmp, sq_i2l, sq_l2i, sq_i2c, sq_i2b, sq_dupI, sq_dupR, sq_dup2, sq_pop, sq_iaload, sq_baload, sq_aaload, sq_iastore, sq_bastore, sq_alen, sq_ireturn, sq_lreturn, sq_return, wq_c, wq_n, wlq_s, lkp, tbl, dBk, nth, setL, canSet, cmpI, tk, swK, rdF, entL, catS, cat1, arg, rcv, ald, bld, aln, br, Ccopy, Cmax, Cmin, Cabs, List.take, List.drop, List.reverse, List.reverseAux, List.length, List.append, List.nil_append, List.cons_append, true_and, and_true, and_self, forall_const, true_implies, false_implies, not_true_eq_false, not_false_eq_true, Option.map, reduceCtorEq, reduceIte, or_true, true_or, false_or, or_false, false_and, and_false, List.map, List.append_nil, implies_true, yK, Nat.reduceBEq, beq_self_eq_true, Int.zero_ne_one, Nat.reduceDiv, Nat.reduceMod, Nat.reduceAdd, Nat.reduceSub, Nat.reduceMul, Nat.reduceEqDiff, Nat.reduceLeDiff, Int.reduceToNat, Int.reduceNeg, Int.reduceEq, Int.reduceLT, Int.reduceLE, Int.reduceNatCast, Int.reduceNatCast', Int.reduceAdd, Int.reduceSub, Int.reduceMul, eq_self, Prod.mk.injEq, A_X3_isFloating, V_X3_isFloating, B_X3_isFloating, Y_X3_isFloating, shpT, rfsT]
    unfold nd at h0
    exact ⟨⟨by omega, by omega⟩, ⟨by omega, by omega⟩, ⟨by omega, by omega⟩, fun h => hF h _ rfl, fun h => hT (Classical.not_not.mp h) _ rfl⟩
def A_X3_hasAsh : List (Nat × Ctr) := []
theorem e_X3_hasAsh (o : OM) : Ev o Y_X3_hasAsh 0 T_X3_hasAsh A_X3_hasAsh := ⟨rfl, List.forall_mem_cons.mpr ⟨Or.inl f_X3_26, fun _ h => absurd h List.not_mem_nil⟩, fun _ h => absurd h List.not_mem_nil, fun _ h => absurd h List.not_mem_nil, fun _ h => absurd h List.not_mem_nil, fun _ h => absurd h List.not_mem_nil, fun _ h => absurd h List.not_mem_nil⟩
def C_X3_hasAsh : Ctr := fun A σ κ => match A with
  | [.inr (.inr (.inl 10)), .inl p, .inl n] => ((0 ≤ p ∧ p < 7) ∧ (0 ≤ n ∧ n < 10)) ∧ br (¬ σ 65 (p * 10 + n) = -1) κ σ
  | _ => False
set_option maxRecDepth 20000 in
theorem s_X3_hasAsh (o : OM) : Sound o Y_X3_hasAsh 0 C_X3_hasAsh := by
  intro Q A σ hA hC
  match A, hA, hC with
  | [.inr (.inr (.inl 10)), .inl p, .inl n], hA, hC =>
    obtain ⟨h0, hq⟩ : ((0 ≤ p ∧ p < 7) ∧ (0 ≤ n ∧ n < 10)) ∧ br (¬ σ 65 (p * 10 + n) = -1) Q σ := hC
    have hT : (¬ σ 65 (p * 10 + n) = -1) → ∀ r_, r_ = 1 → Q [vI r_] σ := fun c_ r_ e => e ▸ hq.1 c_
    have hF : ¬ (¬ σ 65 (p * 10 + n) = -1) → ∀ r_, r_ = 0 → Q [vI r_] σ := fun c_ r_ e => e ▸ hq.2 c_
    refine at_wpl (lv := V_X3_hasAsh) (B := B_X3_hasAsh) (e_X3_hasAsh o) k_X3_hasAsh 3 0 [] _ σ ?_
    simp only [sq_iconst, sq_jsr, sq_anewarray, sq_iload, sq_lload, sq_aload, sq_istore, sq_lstore, sq_astore, sq_iinc, sq_getfield, st_put0, st_put1, st_put3, sq_inv, sq_goto, sq_icmp, sq_ifc, sq_tsw, sq_iadd, sq_isub, sq_imul, sq_ineg, sq_idiv, sq_irem, sq_iand, sq_ior, sq_ixor, sq_ishl, sq_ishr, sq_iushr, sq_ladd, sq_lmul, sq_ldiv, sq_lrem, sq_land, sq_lor, sq_lshl, sq_lushr, sq_lcmp, sq_i2l, sq_l2i, sq_i2c, sq_i2b, sq_dupI, sq_dupR, sq_dup2, sq_pop, sq_iaload, sq_baload, sq_aaload, sq_iastore, sq_bastore, sq_alen, sq_ireturn, sq_lreturn, sq_return, wq_c, wq_n, wlq_s, lkp, tbl, dBk, nth, setL, canSet, cmpI, tk, swK, rdF, entL, catS, cat1, arg, rcv, ald, bld, aln, br, Ccopy, Cmax, Cmin, Cabs, List.take, List.drop, List.reverse, List.reverseAux, List.length, List.append, List.nil_append, List.cons_append, true_and, and_true, and_self, forall_const, true_implies, false_implies, not_true_eq_false, not_false_eq_true, Option.map, reduceCtorEq, reduceIte, or_true, true_or, false_or, or_false, false_and, and_false, List.map, List.append_nil, implies_true, yK, Nat.reduceBEq, beq_self_eq_true, Int.zero_ne_one, Nat.reduceDiv, Nat.reduceMod, Nat.reduceAdd, Nat.reduceSub, Nat.reduceMul, Nat.reduceEqDiff, Nat.reduceLeDiff, Int.reduceToNat, Int.reduceNeg, Int.reduceEq, Int.reduceLT, Int.reduceLE, Int.reduceNatCast, Int.reduceNatCast', Int.reduceAdd, Int.reduceSub, Int.reduceMul, eq_self, Prod.mk.injEq, A_X3_hasAsh, V_X3_hasAsh, B_X3_hasAsh, Y_X3_hasAsh, shpT, rfsT]
    exact ⟨⟨by omega, by omega⟩, ⟨by omega, by omega⟩, ⟨by omega, by omega⟩, fun h => hF (fun z => z h) _ rfl, fun h => hT h _ rfl⟩
def A_X3_bindJoin : List (Nat × Ctr) := [(5, arg 5 C_X3_bind)]
theorem e_X3_bindJoin (o : OM) : Ev o Y_X3_bindJoin 2 T_X3_bindJoin A_X3_bindJoin := ⟨rfl, List.forall_mem_cons.mpr ⟨Or.inl f_X3_59, List.forall_mem_cons.mpr ⟨Or.inl f_X3_120, List.forall_mem_cons.mpr ⟨Or.inl f_X3_123, List.forall_mem_cons.mpr ⟨Or.inl f_X3_126, List.forall_mem_cons.mpr ⟨Or.inl f_X3_129, fun _ h => absurd h List.not_mem_nil⟩⟩⟩⟩⟩, fun _ h => absurd h List.not_mem_nil, fun _ h => absurd h List.not_mem_nil, fun _ h => absurd h List.not_mem_nil, fun _ h => absurd h List.not_mem_nil, List.forall_mem_cons.mpr ⟨cl_X3_bind (s_X3_bind o) (by decide) (Or.inl w_858), fun _ h => absurd h List.not_mem_nil⟩⟩
def C_X3_bindJoin : Ctr := fun A σ κ => match A with
  | [.inr (.inr (.inl 10)), .inr (.inr (.inl q)), .inl j] => (shp q = (0, 64) ∧ (0 ≤ j ∧ j < 12) ∧ JnI σ j) ∧ ∃ E : Int → Int → Int → Prop, NetC E (σ q) ∧ (∀ τ : Sto, (∀ p : Nat, p ≠ q → τ p = σ p) → NetC (add2 E (σ 16 j) (σ 17 j) (σ 18 j) (σ 19 j)) (τ q) → κ [vI 1] τ) ∧ (∀ τ : Sto, (∀ p : Nat, p ≠ q → τ p = σ p) → (∀ M, ¬ Sat (add2 E (σ 16 j) (σ 17 j) (σ 18 j) (σ 19 j)) M) → κ [vI 0] τ)
  | _ => False
set_option maxRecDepth 20000 in
theorem s_X3_bindJoin (o : OM) : Sound o Y_X3_bindJoin 2 C_X3_bindJoin := by
  intro Q A σ hA hC
  match A, hA, hC with
  | [.inr (.inr (.inl 10)), .inr (.inr (.inl q)), .inl j], hA, hC =>
    obtain ⟨h0, hq⟩ : (shp q = (0, 64) ∧ (0 ≤ j ∧ j < 12) ∧ JnI σ j) ∧ ∃ E : Int → Int → Int → Prop, NetC E (σ q) ∧ (∀ τ : Sto, (∀ p : Nat, p ≠ q → τ p = σ p) → NetC (add2 E (σ 16 j) (σ 17 j) (σ 18 j) (σ 19 j)) (τ q) → Q [vI 1] τ) ∧ (∀ τ : Sto, (∀ p : Nat, p ≠ q → τ p = σ p) → (∀ M, ¬ Sat (add2 E (σ 16 j) (σ 17 j) (σ 18 j) (σ 19 j)) M) → Q [vI 0] τ) := hC
    refine at_wpl (lv := V_X3_bindJoin) (B := B_X3_bindJoin) (e_X3_bindJoin o) k_X3_bindJoin 1 0 [] _ σ ?_
    simp only [sq_iconst, sq_jsr, sq_anewarray, sq_iload, sq_lload, sq_aload, sq_istore, sq_lstore, sq_astore, sq_iinc, sq_getfield, st_put0, st_put1, st_put3, sq_inv, sq_goto, sq_icmp, sq_ifc, sq_tsw, sq_iadd, sq_isub, sq_imul, sq_ineg, sq_idiv, sq_irem, sq_iand, sq_ior, sq_ixor, sq_ishl, sq_ishr, sq_iushr, sq_ladd, sq_lmul, sq_ldiv, sq_lrem, sq_land, sq_lor, sq_lshl, sq_lushr, sq_lcmp, sq_i2l, sq_l2i, sq_i2c, sq_i2b, sq_dupI, sq_dupR, sq_dup2, sq_pop, sq_iaload, sq_baload, sq_aaload, sq_iastore, sq_bastore, sq_alen, sq_ireturn, sq_lreturn, sq_return, wq_c, wq_n, wlq_s, lkp, tbl, dBk, nth, setL, canSet, cmpI, tk, swK, rdF, entL, catS, cat1, arg, rcv, ald, bld, aln, br, Ccopy, Cmax, Cmin, Cabs, List.take, List.drop, List.reverse, List.reverseAux, List.length, List.append, List.nil_append, List.cons_append, true_and, and_true, and_self, forall_const, true_implies, false_implies, not_true_eq_false, not_false_eq_true, Option.map, reduceCtorEq, reduceIte, or_true, true_or, false_or, or_false, false_and, and_false, List.map, List.append_nil, implies_true, yK, Nat.reduceBEq, beq_self_eq_true, Int.zero_ne_one, Nat.reduceDiv, Nat.reduceMod, Nat.reduceAdd, Nat.reduceSub, Nat.reduceMul, Nat.reduceEqDiff, Nat.reduceLeDiff, Int.reduceToNat, Int.reduceNeg, Int.reduceEq, Int.reduceLT, Int.reduceLE, Int.reduceNatCast, Int.reduceNatCast', Int.reduceAdd, Int.reduceSub, Int.reduceMul, eq_self, Prod.mk.injEq, A_X3_bindJoin, V_X3_bindJoin, B_X3_bindJoin, Y_X3_bindJoin, C_X3_bind, shpT, rfsT]
    exact ⟨h0.2.1, h0.2.1, h0.2.1, h0.2.1, ⟨h0.1, h0.2.2⟩, hq⟩

