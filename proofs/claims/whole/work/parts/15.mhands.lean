-- ===== small methods of the reference =====
theorem lc_lt {a b : Int} : (lCmp a b < 0) ↔ a < b := by unfold lCmp; split <;> (try split) <;> omega
theorem lc_gt {a b : Int} : (0 < lCmp a b) ↔ b < a := by unfold lCmp; split <;> (try split) <;> omega
theorem lc_le {a b : Int} : (lCmp a b ≤ 0) ↔ a ≤ b := by unfold lCmp; split <;> (try split) <;> omega
theorem lc_ge {a b : Int} : (0 ≤ lCmp a b) ↔ b ≤ a := by unfold lCmp; split <;> (try split) <;> omega
theorem m16 (p : Int) : 16 * p = p * 16 := Int.mul_comm _ _
theorem m7 (p : Int) : 7 * p = p * 7 := Int.mul_comm _ _
theorem m4 (p : Int) : 4 * p = p * 4 := Int.mul_comm _ _
theorem m8 (p : Int) : 8 * p = p * 8 := Int.mul_comm _ _
theorem m17 (p : Int) : 17 * p = p * 17 := Int.mul_comm _ _
def A_X9_in : List (Nat × Ctr) := []
theorem e_X9_in (o : OM) : Ev o Y_X9_in 0 T_X9_in A_X9_in := ⟨rfl, fun _ h => absurd h List.not_mem_nil, fun _ h => absurd h List.not_mem_nil, fun _ h => absurd h List.not_mem_nil, fun _ h => absurd h List.not_mem_nil, fun _ h => absurd h List.not_mem_nil, fun _ h => absurd h List.not_mem_nil⟩
def C_X9_in : Ctr := fun A σ κ => match A with
  | [.inr (.inl a), .inr (.inl b), .inr (.inl c)] => (True) ∧ br (b ≤ a ∧ a ≤ c) κ σ
  | _ => False
set_option maxRecDepth 20000 in
theorem s_X9_in (o : OM) : Sound o Y_X9_in 0 C_X9_in := by
  intro Q A σ hA hC
  match A, hA, hC with
  | [.inr (.inl a), .inr (.inl b), .inr (.inl c)], hA, hC =>
    obtain ⟨h0, hq⟩ : (True) ∧ br (b ≤ a ∧ a ≤ c) Q σ := hC
    have hT : (b ≤ a ∧ a ≤ c) → ∀ r_, r_ = 1 → Q [vI r_] σ := fun c_ r_ e => e ▸ hq.1 c_
    have hF : ¬ (b ≤ a ∧ a ≤ c) → ∀ r_, r_ = 0 → Q [vI r_] σ := fun c_ r_ e => e ▸ hq.2 c_
    refine at_wpl (lv := V_X9_in) (B := B_X9_in) (e_X9_in o) k_X9_in 3 0 [] _ σ ?_
    simp only [sq_iconst, sq_jsr, sq_anewarray, sq_iload, sq_lload, sq_aload, sq_istore, sq_lstore, sq_astore, sq_iinc, sq_getfield, st_put0, st_put1, st_put3, sq_inv, sq_goto, sq_icmp, sq_ifc, sq_tsw, sq_iadd, sq_isub, sq_imul, sq_ineg, sq_idiv, sq_irem, sq_iand, sq_ior, sq_ixor, sq_ishl, sq_ishr, sq_iushr, sq_ladd, sq_lmul, sq_ldiv, sq_lrem, sq_land, sq_lor, sq_lshl, sq_lushr, sq_lcmp, sq_i2l, sq_l2i, sq_i2c, sq_i2b, sq_dupI, sq_dupR, sq_dup2, sq_pop, sq_iaload, sq_baload, sq_aaload, sq_iastore, sq_bastore, sq_alen, sq_ireturn, sq_lreturn, sq_return, wq_c, wq_n, wlq_s, lkp, tbl, dBk, nth, setL, canSet, cmpI, tk, swK, rdF, entL, catS, cat1, arg, rcv, ald, bld, aln, br, Ccopy, Cmax, Cmin, Cabs, List.take, List.drop, List.reverse, List.reverseAux, List.length, List.append, List.nil_append, List.cons_append, true_and, and_true, and_self, forall_const, true_implies, false_implies, not_true_eq_false, not_false_eq_true, Option.map, reduceCtorEq, reduceIte, or_true, true_or, false_or, or_false, false_and, and_false, List.map, List.append_nil, implies_true, yK, Nat.reduceBEq, beq_self_eq_true, Int.zero_ne_one, Nat.reduceDiv, Nat.reduceMod, Nat.reduceAdd, Nat.reduceSub, Nat.reduceMul, Nat.reduceEqDiff, Nat.reduceLeDiff, Int.reduceToNat, Int.reduceNeg, Int.reduceEq, Int.reduceLT, Int.reduceLE, Int.reduceNatCast, Int.reduceNatCast', Int.reduceAdd, Int.reduceSub, Int.reduceMul, eq_self, Prod.mk.injEq, A_X9_in, V_X9_in, B_X9_in, Y_X9_in, shpT, rfsT, lc_lt, lc_gt, lc_le, lc_ge]
    repeat' (first | assumption | (intro _) | apply And.intro)
    all_goals first | omega | assumption | (apply hT <;> first | rfl | omega | assumption | (simp [lc_lt, lc_gt, lc_le, lc_ge, *]; done)) | (apply hF <;> first | rfl | omega | assumption | (simp [lc_lt, lc_gt, lc_le, lc_ge, *]; done)) | skip
def A_X9_size : List (Nat × Ctr) := []
theorem e_X9_size (o : OM) : Ev o Y_X9_size 0 T_X9_size A_X9_size := ⟨rfl, fun _ h => absurd h List.not_mem_nil, fun _ h => absurd h List.not_mem_nil, fun _ h => absurd h List.not_mem_nil, fun _ h => absurd h List.not_mem_nil, fun _ h => absurd h List.not_mem_nil, fun _ h => absurd h List.not_mem_nil⟩
def C_X9_size : Ctr := fun A σ κ => match A with
  | [.inl a] => (-2147483647 ≤ a) ∧ κ [vI (iabs a)] σ
  | _ => False
set_option maxRecDepth 20000 in
theorem s_X9_size (o : OM) : Sound o Y_X9_size 0 C_X9_size := by
  intro Q A σ hA hC
  match A, hA, hC with
  | [.inl a], hA, hC =>
    obtain ⟨h0, hq⟩ : (-2147483647 ≤ a) ∧ Q [vI (iabs a)] σ := hC
    have hQ : ∀ r_ τ, r_ = (iabs a) → τ = (σ) → Q [vI r_] τ := fun r_ τ e e2 => e ▸ e2 ▸ hq
    refine at_wpl (lv := V_X9_size) (B := B_X9_size) (e_X9_size o) k_X9_size 3 0 [] _ σ ?_
    simp only [sq_iconst, sq_jsr, sq_anewarray, sq_iload, sq_lload, sq_aload, sq_istore, sq_lstore, sq_astore, sq_iinc, sq_getfield, st_put0, st_put1, st_put3, sq_inv, sq_goto, sq_icmp, sq_ifc, sq_tsw, sq_iadd, sq_isub, sq_imul, sq_ineg, sq_idiv, sq_irem, sq_iand, sq_ior, sq_ixor, sq_ishl, sq_ishr, sq_iushr, sq_ladd, sq_lmul, sq_ldiv, sq_lrem, sq_land, sq_lor, sq_lshl, sq_lushr, sq_lcmp, sq_i2l, sq_l2i, sq_i2c, sq_i2b, sq_dupI, sq_dupR, sq_dup2, sq_pop, sq_iaload, sq_baload, sq_aaload, sq_iastore, sq_bastore, sq_alen, sq_ireturn, sq_lreturn, sq_return, wq_c, wq_n, wlq_s, lkp, tbl, dBk, nth, setL, canSet, cmpI, tk, swK, rdF, entL, catS, cat1, arg, rcv, ald, bld, aln, br, Ccopy, Cmax, Cmin, Cabs, List.take, List.drop, List.reverse, List.reverseAux, List.length, List.append, List.nil_append, List.cons_append, true_and, and_true, and_self, forall_const, true_implies, false_implies, not_true_eq_false, not_false_eq_true, Option.map, reduceCtorEq, reduceIte, or_true, true_or, false_or, or_false, false_and, and_false, List.map, List.append_nil, implies_true, yK, Nat.reduceBEq, beq_self_eq_true, Int.zero_ne_one, Nat.reduceDiv, Nat.reduceMod, Nat.reduceAdd, Nat.reduceSub, Nat.reduceMul, Nat.reduceEqDiff, Nat.reduceLeDiff, Int.reduceToNat, Int.reduceNeg, Int.reduceEq, Int.reduceLT, Int.reduceLE, Int.reduceNatCast, Int.reduceNatCast', Int.reduceAdd, Int.reduceSub, Int.reduceMul, eq_self, Prod.mk.injEq, A_X9_size, V_X9_size, B_X9_size, Y_X9_size, shpT, rfsT, iabs]
    repeat' (first | assumption | (intro _) | apply And.intro)
    all_goals first | omega | assumption | (apply hQ <;> first | rfl | omega | (simp [iabs, *]; done) | (simp [iabs, *]; omega)) | skip
def A_X9_isPit : List (Nat × Ctr) := [(3, arg 6 C_X9_in)]
theorem e_X9_isPit (o : OM) : Ev o Y_X9_isPit 1 T_X9_isPit A_X9_isPit := ⟨rfl, List.forall_mem_cons.mpr ⟨Or.inl f_X9_109, fun _ h => absurd h List.not_mem_nil⟩, fun _ h => absurd h List.not_mem_nil, fun _ h => absurd h List.not_mem_nil, fun _ h => absurd h List.not_mem_nil, fun _ h => absurd h List.not_mem_nil, List.forall_mem_cons.mpr ⟨cl_X9_in (s_X9_in o) (by decide) (Or.inl w_1260), fun _ h => absurd h List.not_mem_nil⟩⟩
def C_X9_isPit : Ctr := fun A σ κ => match A with
  | [.inr (.inr (.inl 67)), .inl p] => (0 ≤ σ 67 0 ∧ σ 67 0 ≤ 7) ∧ br (0 ≤ p ∧ p < σ 67 0) κ σ
  | _ => False
set_option maxRecDepth 20000 in
theorem s_X9_isPit (o : OM) : Sound o Y_X9_isPit 1 C_X9_isPit := by
  intro Q A σ hA hC
  match A, hA, hC with
  | [.inr (.inr (.inl 67)), .inl p], hA, hC =>
    obtain ⟨h0, hq⟩ : (0 ≤ σ 67 0 ∧ σ 67 0 ≤ 7) ∧ br (0 ≤ p ∧ p < σ 67 0) Q σ := hC
    have hT : (0 ≤ p ∧ p < σ 67 0) → ∀ r_, r_ = 1 → Q [vI r_] σ := fun c_ r_ e => e ▸ hq.1 c_
    have hF : ¬ (0 ≤ p ∧ p < σ 67 0) → ∀ r_, r_ = 0 → Q [vI r_] σ := fun c_ r_ e => e ▸ hq.2 c_
    refine at_wpl (lv := V_X9_isPit) (B := B_X9_isPit) (e_X9_isPit o) k_X9_isPit 1 0 [] _ σ ?_
    simp only [sq_iconst, sq_jsr, sq_anewarray, sq_iload, sq_lload, sq_aload, sq_istore, sq_lstore, sq_astore, sq_iinc, sq_getfield, st_put0, st_put1, st_put3, sq_inv, sq_goto, sq_icmp, sq_ifc, sq_tsw, sq_iadd, sq_isub, sq_imul, sq_ineg, sq_idiv, sq_irem, sq_iand, sq_ior, sq_ixor, sq_ishl, sq_ishr, sq_iushr, sq_ladd, sq_lmul, sq_ldiv, sq_lrem, sq_land, sq_lor, sq_lshl, sq_lushr, sq_lcmp, sq_i2l, sq_l2i, sq_i2c, sq_i2b, sq_dupI, sq_dupR, sq_dup2, sq_pop, sq_iaload, sq_baload, sq_aaload, sq_iastore, sq_bastore, sq_alen, sq_ireturn, sq_lreturn, sq_return, wq_c, wq_n, wlq_s, lkp, tbl, dBk, nth, setL, canSet, cmpI, tk, swK, rdF, entL, catS, cat1, arg, rcv, ald, bld, aln, br, Ccopy, Cmax, Cmin, Cabs, List.take, List.drop, List.reverse, List.reverseAux, List.length, List.append, List.nil_append, List.cons_append, true_and, and_true, and_self, forall_const, true_implies, false_implies, not_true_eq_false, not_false_eq_true, Option.map, reduceCtorEq, reduceIte, or_true, true_or, false_or, or_false, false_and, and_false, List.map, List.append_nil, implies_true, yK, Nat.reduceBEq, beq_self_eq_true, Int.zero_ne_one, Nat.reduceDiv, Nat.reduceMod, Nat.reduceAdd, Nat.reduceSub, Nat.reduceMul, Nat.reduceEqDiff, Nat.reduceLeDiff, Int.reduceToNat, Int.reduceNeg, Int.reduceEq, Int.reduceLT, Int.reduceLE, Int.reduceNatCast, Int.reduceNatCast', Int.reduceAdd, Int.reduceSub, Int.reduceMul, eq_self, Prod.mk.injEq, A_X9_isPit, V_X9_isPit, B_X9_isPit, Y_X9_isPit, C_X9_in, shpT, rfsT]
    repeat' (first | assumption | (intro _) | apply And.intro)
    all_goals first | omega | assumption | (apply hT <;> first | rfl | omega | assumption | (simp [*]; done)) | (apply hF <;> first | rfl | omega | assumption | (simp [*]; done)) | skip
def A_X9_isLeaf : List (Nat × Ctr) := [(2, rcv 9 2 C_X9_isPit), (3, arg 6 C_X9_in)]
theorem e_X9_isLeaf (o : OM) : Ev o Y_X9_isLeaf 2 T_X9_isLeaf A_X9_isLeaf := ⟨rfl, List.forall_mem_cons.mpr ⟨Or.inl f_X9_13, fun _ h => absurd h List.not_mem_nil⟩, fun _ h => absurd h List.not_mem_nil, fun _ h => absurd h List.not_mem_nil, fun _ h => absurd h List.not_mem_nil, List.forall_mem_cons.mpr ⟨cl_X9_isPit (s_X9_isPit o) (by decide) (Or.inl w_1267), fun _ h => absurd h List.not_mem_nil⟩, List.forall_mem_cons.mpr ⟨cl_X9_in (s_X9_in o) (by decide) (Or.inl w_1260), fun _ h => absurd h List.not_mem_nil⟩⟩
def C_X9_isLeaf : Ctr := fun A σ κ => match A with
  | [.inr (.inr (.inl 67)), .inl p, .inl i] => ((0 ≤ σ 67 0 ∧ σ 67 0 ≤ 7) ∧ (∀ p, 0 ≤ p → p < 7 → 0 ≤ σ 69 p ∧ σ 69 p ≤ 16)) ∧ br (0 ≤ p ∧ p < σ 67 0 ∧ 0 ≤ i ∧ i < σ 69 p) κ σ
  | _ => False
set_option maxRecDepth 20000 in
theorem s_X9_isLeaf (o : OM) : Sound o Y_X9_isLeaf 2 C_X9_isLeaf := by
  intro Q A σ hA hC
  match A, hA, hC with
  | [.inr (.inr (.inl 67)), .inl p, .inl i], hA, hC =>
    obtain ⟨h0, hq⟩ : ((0 ≤ σ 67 0 ∧ σ 67 0 ≤ 7) ∧ (∀ p, 0 ≤ p → p < 7 → 0 ≤ σ 69 p ∧ σ 69 p ≤ 16)) ∧ br (0 ≤ p ∧ p < σ 67 0 ∧ 0 ≤ i ∧ i < σ 69 p) Q σ := hC
    have hT : (0 ≤ p ∧ p < σ 67 0 ∧ 0 ≤ i ∧ i < σ 69 p) → ∀ r_, r_ = 1 → Q [vI r_] σ := fun c_ r_ e => e ▸ hq.1 c_
    have hF : ¬ (0 ≤ p ∧ p < σ 67 0 ∧ 0 ≤ i ∧ i < σ 69 p) → ∀ r_, r_ = 0 → Q [vI r_] σ := fun c_ r_ e => e ▸ hq.2 c_
    refine at_wpl (lv := V_X9_isLeaf) (B := B_X9_isLeaf) (e_X9_isLeaf o) k_X9_isLeaf 3 0 [] _ σ ?_
    simp only [sq_iconst, sq_jsr, sq_anewarray, sq_iload, sq_lload, sq_aload, sq_istore, sq_lstore, sq_astore, sq_iinc, sq_getfield, st_put0, st_put1, st_put3, sq_inv, sq_goto, sq_icmp, sq_ifc, sq_tsw, sq_iadd, sq_isub, sq_imul, sq_ineg, sq_idiv, sq_irem, sq_iand, sq_ior, sq_ixor, sq_ishl, sq_ishr, sq_iushr, sq_ladd, sq_lmul, sq_ldiv, sq_lrem, sq_land, sq_lor, sq_lshl, sq_lushr, sq_lcmp, sq_i2l, sq_l2i, sq_i2c, sq_i2b, sq_dupI, sq_dupR, sq_dup2, sq_pop, sq_iaload, sq_baload, sq_aaload, sq_iastore, sq_bastore, sq_alen, sq_ireturn, sq_lreturn, sq_return, wq_c, wq_n, wlq_s, lkp, tbl, dBk, nth, setL, canSet, cmpI, tk, swK, rdF, entL, catS, cat1, arg, rcv, ald, bld, aln, br, Ccopy, Cmax, Cmin, Cabs, List.take, List.drop, List.reverse, List.reverseAux, List.length, List.append, List.nil_append, List.cons_append, true_and, and_true, and_self, forall_const, true_implies, false_implies, not_true_eq_false, not_false_eq_true, Option.map, reduceCtorEq, reduceIte, or_true, true_or, false_or, or_false, false_and, and_false, List.map, List.append_nil, implies_true, yK, Nat.reduceBEq, beq_self_eq_true, Int.zero_ne_one, Nat.reduceDiv, Nat.reduceMod, Nat.reduceAdd, Nat.reduceSub, Nat.reduceMul, Nat.reduceEqDiff, Nat.reduceLeDiff, Int.reduceToNat, Int.reduceNeg, Int.reduceEq, Int.reduceLT, Int.reduceLE, Int.reduceNatCast, Int.reduceNatCast', Int.reduceAdd, Int.reduceSub, Int.reduceMul, eq_self, Prod.mk.injEq, A_X9_isLeaf, V_X9_isLeaf, B_X9_isLeaf, Y_X9_isLeaf, C_X9_isPit, C_X9_in, shpT, rfsT]
    obtain ⟨hz, hs⟩ := h0
    refine ⟨hz, fun h1 => ⟨by omega, ?_, fun h2 => ?_, fun h2 => ?_⟩, fun h1 => ?_⟩
    · have := hs p (by omega) (by omega)
      exact ⟨by omega, by omega⟩
    · exact hT (by omega) _ rfl
    · exact hF (by omega) _ rfl
    · exact hF (by omega) _ rfl
def A_X9_isLeafTold : List (Nat × Ctr) := [(3, arg 6 C_X9_in)]
theorem e_X9_isLeafTold (o : OM) : Ev o Y_X9_isLeafTold 1 T_X9_isLeafTold A_X9_isLeafTold := ⟨rfl, fun _ h => absurd h List.not_mem_nil, fun _ h => absurd h List.not_mem_nil, List.forall_mem_cons.mpr ⟨⟨w_1274, by decide, by decide⟩, List.forall_mem_cons.mpr ⟨⟨w_1275, by decide, by decide⟩, List.forall_mem_cons.mpr ⟨⟨w_1276, by decide, by decide⟩, fun _ h => absurd h List.not_mem_nil⟩⟩⟩, fun _ h => absurd h List.not_mem_nil, fun _ h => absurd h List.not_mem_nil, List.forall_mem_cons.mpr ⟨cl_X9_in (s_X9_in o) (by decide) (Or.inl w_1260), fun _ h => absurd h List.not_mem_nil⟩⟩
def C_X9_isLeafTold : Ctr := fun A σ κ => match A with
  | [.inl c, .inl t, .inl n] => (True) ∧ br ((0 ≤ c ∧ c ≤ 6) ∧ (1 ≤ t ∧ t ≤ 99) ∧ (0 ≤ n ∧ n ≤ 9)) κ σ
  | _ => False
set_option maxRecDepth 20000 in
theorem s_X9_isLeafTold (o : OM) : Sound o Y_X9_isLeafTold 1 C_X9_isLeafTold := by
  intro Q A σ hA hC
  match A, hA, hC with
  | [.inl c, .inl t, .inl n], hA, hC =>
    obtain ⟨h0, hq⟩ : (True) ∧ br ((0 ≤ c ∧ c ≤ 6) ∧ (1 ≤ t ∧ t ≤ 99) ∧ (0 ≤ n ∧ n ≤ 9)) Q σ := hC
    have hT : ((0 ≤ c ∧ c ≤ 6) ∧ (1 ≤ t ∧ t ≤ 99) ∧ (0 ≤ n ∧ n ≤ 9)) → ∀ r_, r_ = 1 → Q [vI r_] σ := fun c_ r_ e => e ▸ hq.1 c_
    have hF : ¬ ((0 ≤ c ∧ c ≤ 6) ∧ (1 ≤ t ∧ t ≤ 99) ∧ (0 ≤ n ∧ n ≤ 9)) → ∀ r_, r_ = 0 → Q [vI r_] σ := fun c_ r_ e => e ▸ hq.2 c_
    refine at_wpl (lv := V_X9_isLeafTold) (B := B_X9_isLeafTold) (e_X9_isLeafTold o) k_X9_isLeafTold 3 0 [] _ σ ?_
    simp only [sq_iconst, sq_jsr, sq_anewarray, sq_iload, sq_lload, sq_aload, sq_istore, sq_lstore, sq_astore, sq_iinc, sq_getfield, st_put0, st_put1, st_put3, sq_inv, sq_goto, sq_icmp, sq_ifc, sq_tsw, sq_iadd, sq_isub, sq_imul, sq_ineg, sq_idiv, sq_irem, sq_iand, sq_ior, sq_ixor, sq_ishl, sq_ishr, sq_iushr, sq_ladd, sq_lmul, sq_ldiv, sq_lrem, sq_land, sq_lor, sq_lshl, sq_lushr, sq_lcmp, sq_i2l, sq_l2i, sq_i2c, sq_i2b, sq_dupI, sq_dupR, sq_dup2, sq_pop, sq_iaload, sq_baload, sq_aaload, sq_iastore, sq_bastore, sq_alen, sq_ireturn, sq_lreturn, sq_return, wq_c, wq_n, wlq_s, lkp, tbl, dBk, nth, setL, canSet, cmpI, tk, swK, rdF, entL, catS, cat1, arg, rcv, ald, bld, aln, br, Ccopy, Cmax, Cmin, Cabs, List.take, List.drop, List.reverse, List.reverseAux, List.length, List.append, List.nil_append, List.cons_append, true_and, and_true, and_self, forall_const, true_implies, false_implies, not_true_eq_false, not_false_eq_true, Option.map, reduceCtorEq, reduceIte, or_true, true_or, false_or, or_false, false_and, and_false, List.map, List.append_nil, implies_true, yK, Nat.reduceBEq, beq_self_eq_true, Int.zero_ne_one, Nat.reduceDiv, Nat.reduceMod, Nat.reduceAdd, Nat.reduceSub, Nat.reduceMul, Nat.reduceEqDiff, Nat.reduceLeDiff, Int.reduceToNat, Int.reduceNeg, Int.reduceEq, Int.reduceLT, Int.reduceLE, Int.reduceNatCast, Int.reduceNatCast', Int.reduceAdd, Int.reduceSub, Int.reduceMul, eq_self, Prod.mk.injEq, A_X9_isLeafTold, V_X9_isLeafTold, B_X9_isLeafTold, Y_X9_isLeafTold, C_X9_in, shpT, rfsT]
    repeat' (first | assumption | (intro _) | apply And.intro)
    all_goals first | omega | assumption | (apply hT <;> first | rfl | omega | assumption | (simp [*]; done)) | (apply hF <;> first | rfl | omega | assumption | (simp [*]; done)) | skip
def A_X9_put : List (Nat × Ctr) := []
theorem e_X9_put (o : OM) : Ev o Y_X9_put 0 T_X9_put A_X9_put := ⟨rfl, List.forall_mem_cons.mpr ⟨Or.inl f_X9_16, List.forall_mem_cons.mpr ⟨Or.inl f_X9_19, List.forall_mem_cons.mpr ⟨Or.inl f_X9_22, fun _ h => absurd h List.not_mem_nil⟩⟩⟩, fun _ h => absurd h List.not_mem_nil, fun _ h => absurd h List.not_mem_nil, fun _ h => absurd h List.not_mem_nil, fun _ h => absurd h List.not_mem_nil, fun _ h => absurd h List.not_mem_nil⟩
def C_X9_put : Ctr := fun A σ κ => match A with
  | [.inr (.inr (.inl 67)), .inl p, .inl i, .inl c, .inl t, .inl n] => (0 ≤ p ∧ p < 7 ∧ 0 ≤ i ∧ i < 16) ∧ κ [] (su (su (su σ 70 (p * 16 + i) c) 71 (p * 16 + i) t) 72 (p * 16 + i) n)
  | _ => False
set_option maxRecDepth 20000 in
theorem s_X9_put (o : OM) : Sound o Y_X9_put 0 C_X9_put := by
  intro Q A σ hA hC
  match A, hA, hC with
  | [.inr (.inr (.inl 67)), .inl p, .inl i, .inl c, .inl t, .inl n], hA, hC =>
    obtain ⟨h0, hq⟩ : (0 ≤ p ∧ p < 7 ∧ 0 ≤ i ∧ i < 16) ∧ Q [] (su (su (su σ 70 (p * 16 + i) c) 71 (p * 16 + i) t) 72 (p * 16 + i) n) := hC
    have hQ : ∀ τ, τ = (su (su (su σ 70 (p * 16 + i) c) 71 (p * 16 + i) t) 72 (p * 16 + i) n) → Q [] τ := fun τ e2 => e2 ▸ hq
    refine at_wpl (lv := V_X9_put) (B := B_X9_put) (e_X9_put o) k_X9_put 1 0 [] _ σ ?_
    simp only [sq_iconst, sq_jsr, sq_anewarray, sq_iload, sq_lload, sq_aload, sq_istore, sq_lstore, sq_astore, sq_iinc, sq_getfield, st_put0, st_put1, st_put3, sq_inv, sq_goto, sq_icmp, sq_ifc, sq_tsw, sq_iadd, sq_isub, sq_imul, sq_ineg, sq_idiv, sq_irem, sq_iand, sq_ior, sq_ixor, sq_ishl, sq_ishr, sq_iushr, sq_ladd, sq_lmul, sq_ldiv, sq_lrem, sq_land, sq_lor, sq_lshl, sq_lushr, sq_lcmp, sq_i2l, sq_l2i, sq_i2c, sq_i2b, sq_dupI, sq_dupR, sq_dup2, sq_pop, sq_iaload, sq_baload, sq_aaload, sq_iastore, sq_bastore, sq_alen, sq_ireturn, sq_lreturn, sq_return, wq_c, wq_n, wlq_s, lkp, tbl, dBk, nth, setL, canSet, cmpI, tk, swK, rdF, entL, catS, cat1, arg, rcv, ald, bld, aln, br, Ccopy, Cmax, Cmin, Cabs, List.take, List.drop, List.reverse, List.reverseAux, List.length, List.append, List.nil_append, List.cons_append, true_and, and_true, and_self, forall_const, true_implies, false_implies, not_true_eq_false, not_false_eq_true, Option.map, reduceCtorEq, reduceIte, or_true, true_or, false_or, or_false, false_and, and_false, List.map, List.append_nil, implies_true, yK, Nat.reduceBEq, beq_self_eq_true, Int.zero_ne_one, Nat.reduceDiv, Nat.reduceMod, Nat.reduceAdd, Nat.reduceSub, Nat.reduceMul, Nat.reduceEqDiff, Nat.reduceLeDiff, Int.reduceToNat, Int.reduceNeg, Int.reduceEq, Int.reduceLT, Int.reduceLE, Int.reduceNatCast, Int.reduceNatCast', Int.reduceAdd, Int.reduceSub, Int.reduceMul, eq_self, Prod.mk.injEq, A_X9_put, V_X9_put, B_X9_put, Y_X9_put, shpT, rfsT, m16]
    repeat' (first | assumption | (intro _) | apply And.intro)
    all_goals first | omega | assumption | (apply hQ <;> first | rfl | omega | (simp [m16, *]; done) | (simp [m16, *]; omega)) | skip
def A_X9_compare : List (Nat × Ctr) := []
theorem e_X9_compare (o : OM) : Ev o Y_X9_compare 0 T_X9_compare A_X9_compare := ⟨rfl, fun _ h => absurd h List.not_mem_nil, fun _ h => absurd h List.not_mem_nil, fun _ h => absurd h List.not_mem_nil, fun _ h => absurd h List.not_mem_nil, fun _ h => absurd h List.not_mem_nil, fun _ h => absurd h List.not_mem_nil⟩
def C_X9_compare : Ctr := fun A σ κ => match A with
  | [.inl a, .inl b] => (True) ∧ κ [vI (cmp3 a b)] σ
  | _ => False
set_option maxRecDepth 20000 in
theorem s_X9_compare (o : OM) : Sound o Y_X9_compare 0 C_X9_compare := by
  intro Q A σ hA hC
  match A, hA, hC with
  | [.inl a, .inl b], hA, hC =>
    obtain ⟨h0, hq⟩ : (True) ∧ Q [vI (cmp3 a b)] σ := hC
    have hQ : ∀ r_ τ, r_ = (cmp3 a b) → τ = (σ) → Q [vI r_] τ := fun r_ τ e e2 => e ▸ e2 ▸ hq
    refine at_wpl (lv := V_X9_compare) (B := B_X9_compare) (e_X9_compare o) k_X9_compare 4 0 [] _ σ ?_
    simp only [sq_iconst, sq_jsr, sq_anewarray, sq_iload, sq_lload, sq_aload, sq_istore, sq_lstore, sq_astore, sq_iinc, sq_getfield, st_put0, st_put1, st_put3, sq_inv, sq_goto, sq_icmp, sq_ifc, sq_tsw, sq_iadd, sq_isub, sq_imul, sq_ineg, sq_idiv, sq_irem, sq_iand, sq_ior, sq_ixor, sq_ishl, sq_ishr, sq_iushr, sq_ladd, sq_lmul, sq_ldiv, sq_lrem, sq_land, sq_lor, sq_lshl, sq_lushr, sq_lcmp, sq_i2l, sq_l2i, sq_i2c, sq_i2b, sq_dupI, sq_dupR, sq_dup2, sq_pop, sq_iaload, sq_baload, sq_aaload, sq_iastore, sq_bastore, sq_alen, sq_ireturn, sq_lreturn, sq_return, wq_c, wq_n, wlq_s, lkp, tbl, dBk, nth, setL, canSet, cmpI, tk, swK, rdF, entL, catS, cat1, arg, rcv, ald, bld, aln, br, Ccopy, Cmax, Cmin, Cabs, List.take, List.drop, List.reverse, List.reverseAux, List.length, List.append, List.nil_append, List.cons_append, true_and, and_true, and_self, forall_const, true_implies, false_implies, not_true_eq_false, not_false_eq_true, Option.map, reduceCtorEq, reduceIte, or_true, true_or, false_or, or_false, false_and, and_false, List.map, List.append_nil, implies_true, yK, Nat.reduceBEq, beq_self_eq_true, Int.zero_ne_one, Nat.reduceDiv, Nat.reduceMod, Nat.reduceAdd, Nat.reduceSub, Nat.reduceMul, Nat.reduceEqDiff, Nat.reduceLeDiff, Int.reduceToNat, Int.reduceNeg, Int.reduceEq, Int.reduceLT, Int.reduceLE, Int.reduceNatCast, Int.reduceNatCast', Int.reduceAdd, Int.reduceSub, Int.reduceMul, eq_self, Prod.mk.injEq, A_X9_compare, V_X9_compare, B_X9_compare, Y_X9_compare, shpT, rfsT, cmp3]
    repeat' (first | assumption | (intro _) | apply And.intro)
    all_goals first | omega | assumption | (apply hQ <;> first | rfl | omega | (simp [cmp3, *]; done) | (simp [cmp3, *]; omega)) | skip
def A_X9_stepOf : List (Nat × Ctr) := [(2, arg 2 C_X9_compare)]
theorem e_X9_stepOf (o : OM) : Ev o Y_X9_stepOf 1 T_X9_stepOf A_X9_stepOf := ⟨rfl, List.forall_mem_cons.mpr ⟨Or.inl f_X9_19, fun _ h => absurd h List.not_mem_nil⟩, fun _ h => absurd h List.not_mem_nil, fun _ h => absurd h List.not_mem_nil, fun _ h => absurd h List.not_mem_nil, fun _ h => absurd h List.not_mem_nil, List.forall_mem_cons.mpr ⟨cl_X9_compare (s_X9_compare o) (by decide) (Or.inl w_1311), fun _ h => absurd h List.not_mem_nil⟩⟩
def C_X9_stepOf : Ctr := fun A σ κ => match A with
  | [.inr (.inr (.inl 67)), .inl p, .inl i] => (0 ≤ p ∧ p < 7 ∧ 0 ≤ i ∧ i < 16) ∧ κ [vI (if i = 0 then 0 else cmp3 (σ 71 (p * 16 + i)) (σ 71 (p * 16 + i - 1)))] σ
  | _ => False
set_option maxRecDepth 20000 in
theorem s_X9_stepOf (o : OM) : Sound o Y_X9_stepOf 1 C_X9_stepOf := by
  intro Q A σ hA hC
  match A, hA, hC with
  | [.inr (.inr (.inl 67)), .inl p, .inl i], hA, hC =>
    obtain ⟨h0, hq⟩ : (0 ≤ p ∧ p < 7 ∧ 0 ≤ i ∧ i < 16) ∧ Q [vI (if i = 0 then 0 else cmp3 (σ 71 (p * 16 + i)) (σ 71 (p * 16 + i - 1)))] σ := hC
    have hQ : ∀ r_ τ, r_ = (if i = 0 then 0 else cmp3 (σ 71 (p * 16 + i)) (σ 71 (p * 16 + i - 1))) → τ = (σ) → Q [vI r_] τ := fun r_ τ e e2 => e ▸ e2 ▸ hq
    refine at_wpl (lv := V_X9_stepOf) (B := B_X9_stepOf) (e_X9_stepOf o) k_X9_stepOf 3 0 [] _ σ ?_
    simp only [sq_iconst, sq_jsr, sq_anewarray, sq_iload, sq_lload, sq_aload, sq_istore, sq_lstore, sq_astore, sq_iinc, sq_getfield, st_put0, st_put1, st_put3, sq_inv, sq_goto, sq_icmp, sq_ifc, sq_tsw, sq_iadd, sq_isub, sq_imul, sq_ineg, sq_idiv, sq_irem, sq_iand, sq_ior, sq_ixor, sq_ishl, sq_ishr, sq_iushr, sq_ladd, sq_lmul, sq_ldiv, sq_lrem, sq_land, sq_lor, sq_lshl, sq_lushr, sq_lcmp, sq_i2l, sq_l2i, sq_i2c, sq_i2b, sq_dupI, sq_dupR, sq_dup2, sq_pop, sq_iaload, sq_baload, sq_aaload, sq_iastore, sq_bastore, sq_alen, sq_ireturn, sq_lreturn, sq_return, wq_c, wq_n, wlq_s, lkp, tbl, dBk, nth, setL, canSet, cmpI, tk, swK, rdF, entL, catS, cat1, arg, rcv, ald, bld, aln, br, Ccopy, Cmax, Cmin, Cabs, List.take, List.drop, List.reverse, List.reverseAux, List.length, List.append, List.nil_append, List.cons_append, true_and, and_true, and_self, forall_const, true_implies, false_implies, not_true_eq_false, not_false_eq_true, Option.map, reduceCtorEq, reduceIte, or_true, true_or, false_or, or_false, false_and, and_false, List.map, List.append_nil, implies_true, yK, Nat.reduceBEq, beq_self_eq_true, Int.zero_ne_one, Nat.reduceDiv, Nat.reduceMod, Nat.reduceAdd, Nat.reduceSub, Nat.reduceMul, Nat.reduceEqDiff, Nat.reduceLeDiff, Int.reduceToNat, Int.reduceNeg, Int.reduceEq, Int.reduceLT, Int.reduceLE, Int.reduceNatCast, Int.reduceNatCast', Int.reduceAdd, Int.reduceSub, Int.reduceMul, eq_self, Prod.mk.injEq, A_X9_stepOf, V_X9_stepOf, B_X9_stepOf, Y_X9_stepOf, C_X9_compare, shpT, rfsT, m16]
    repeat' (first | assumption | (intro _) | apply And.intro)
    all_goals first | omega | assumption | (apply hQ <;> first | rfl | omega | (simp [m16, *]; done) | (simp [m16, *]; omega)) | skip
def A_X9_isHand : List (Nat × Ctr) := [(3, arg 6 C_X9_in)]
theorem e_X9_isHand (o : OM) : Ev o Y_X9_isHand 1 T_X9_isHand A_X9_isHand := ⟨rfl, List.forall_mem_cons.mpr ⟨Or.inl f_X9_204, fun _ h => absurd h List.not_mem_nil⟩, fun _ h => absurd h List.not_mem_nil, List.forall_mem_cons.mpr ⟨⟨w_1380, by decide, by decide⟩, fun _ h => absurd h List.not_mem_nil⟩, fun _ h => absurd h List.not_mem_nil, fun _ h => absurd h List.not_mem_nil, List.forall_mem_cons.mpr ⟨cl_X9_in (s_X9_in o) (by decide) (Or.inl w_1260), fun _ h => absurd h List.not_mem_nil⟩⟩
def C_X9_isHand : Ctr := fun A σ κ => match A with
  | [.inr (.inr (.inl 67)), .inl h] => (0 ≤ σ 67 9 ∧ σ 67 9 ≤ 4) ∧ br (-1 ≤ h ∧ h < σ 67 9) κ σ
  | _ => False
set_option maxRecDepth 20000 in
theorem s_X9_isHand (o : OM) : Sound o Y_X9_isHand 1 C_X9_isHand := by
  intro Q A σ hA hC
  match A, hA, hC with
  | [.inr (.inr (.inl 67)), .inl h], hA, hC =>
    obtain ⟨h0, hq⟩ : (0 ≤ σ 67 9 ∧ σ 67 9 ≤ 4) ∧ br (-1 ≤ h ∧ h < σ 67 9) Q σ := hC
    have hT : (-1 ≤ h ∧ h < σ 67 9) → ∀ r_, r_ = 1 → Q [vI r_] σ := fun c_ r_ e => e ▸ hq.1 c_
    have hF : ¬ (-1 ≤ h ∧ h < σ 67 9) → ∀ r_, r_ = 0 → Q [vI r_] σ := fun c_ r_ e => e ▸ hq.2 c_
    refine at_wpl (lv := V_X9_isHand) (B := B_X9_isHand) (e_X9_isHand o) k_X9_isHand 1 0 [] _ σ ?_
    simp only [sq_iconst, sq_jsr, sq_anewarray, sq_iload, sq_lload, sq_aload, sq_istore, sq_lstore, sq_astore, sq_iinc, sq_getfield, st_put0, st_put1, st_put3, sq_inv, sq_goto, sq_icmp, sq_ifc, sq_tsw, sq_iadd, sq_isub, sq_imul, sq_ineg, sq_idiv, sq_irem, sq_iand, sq_ior, sq_ixor, sq_ishl, sq_ishr, sq_iushr, sq_ladd, sq_lmul, sq_ldiv, sq_lrem, sq_land, sq_lor, sq_lshl, sq_lushr, sq_lcmp, sq_i2l, sq_l2i, sq_i2c, sq_i2b, sq_dupI, sq_dupR, sq_dup2, sq_pop, sq_iaload, sq_baload, sq_aaload, sq_iastore, sq_bastore, sq_alen, sq_ireturn, sq_lreturn, sq_return, wq_c, wq_n, wlq_s, lkp, tbl, dBk, nth, setL, canSet, cmpI, tk, swK, rdF, entL, catS, cat1, arg, rcv, ald, bld, aln, br, Ccopy, Cmax, Cmin, Cabs, List.take, List.drop, List.reverse, List.reverseAux, List.length, List.append, List.nil_append, List.cons_append, true_and, and_true, and_self, forall_const, true_implies, false_implies, not_true_eq_false, not_false_eq_true, Option.map, reduceCtorEq, reduceIte, or_true, true_or, false_or, or_false, false_and, and_false, List.map, List.append_nil, implies_true, yK, Nat.reduceBEq, beq_self_eq_true, Int.zero_ne_one, Nat.reduceDiv, Nat.reduceMod, Nat.reduceAdd, Nat.reduceSub, Nat.reduceMul, Nat.reduceEqDiff, Nat.reduceLeDiff, Int.reduceToNat, Int.reduceNeg, Int.reduceEq, Int.reduceLT, Int.reduceLE, Int.reduceNatCast, Int.reduceNatCast', Int.reduceAdd, Int.reduceSub, Int.reduceMul, eq_self, Prod.mk.injEq, A_X9_isHand, V_X9_isHand, B_X9_isHand, Y_X9_isHand, C_X9_in, shpT, rfsT]
    repeat' (first | assumption | (intro _) | apply And.intro)
    all_goals first | omega | assumption | (apply hT <;> first | rfl | omega | assumption | (simp [*]; done)) | (apply hF <;> first | rfl | omega | assumption | (simp [*]; done)) | skip
/-- a hand's row -/
def rowS (hr : Int → Int) (h : Int) : Int → Int := fun c => if h = -1 then -1 else hr (h * 7 + c)
def A_X9_halvesOf : List (Nat × Ctr) := []
theorem e_X9_halvesOf (o : OM) : Ev o Y_X9_halvesOf 0 T_X9_halvesOf A_X9_halvesOf := ⟨rfl, List.forall_mem_cons.mpr ⟨Or.inl f_X9_16, List.forall_mem_cons.mpr ⟨Or.inl f_X9_28, List.forall_mem_cons.mpr ⟨Or.inl f_X9_22, fun _ h => absurd h List.not_mem_nil⟩⟩⟩, fun _ h => absurd h List.not_mem_nil, fun _ h => absurd h List.not_mem_nil, fun _ h => absurd h List.not_mem_nil, fun _ h => absurd h List.not_mem_nil, fun _ h => absurd h List.not_mem_nil⟩
def C_X9_halvesOf : Ctr := fun A σ κ => match A with
  | [.inr (.inr (.inl 67)), .inl h, .inl p, .inl i] => ((-1 ≤ h ∧ h < 4) ∧ (0 ≤ p ∧ p < 7) ∧ (0 ≤ i ∧ i < 16) ∧ PI (σ 70) (σ 72)) ∧ κ [vI (hv (rowS (σ 74) h) (σ 70 (p * 16 + i)) (σ 72 (p * 16 + i)))] σ
  | _ => False
set_option maxRecDepth 20000 in
theorem s_X9_halvesOf (o : OM) : Sound o Y_X9_halvesOf 0 C_X9_halvesOf := by
  intro Q A σ hA hC
  match A, hA, hC with
  | [.inr (.inr (.inl 67)), .inl h, .inl p, .inl i], hA, hC =>
    obtain ⟨h0, hq⟩ : ((-1 ≤ h ∧ h < 4) ∧ (0 ≤ p ∧ p < 7) ∧ (0 ≤ i ∧ i < 16) ∧ PI (σ 70) (σ 72)) ∧ Q [vI (hv (rowS (σ 74) h) (σ 70 (p * 16 + i)) (σ 72 (p * 16 + i)))] σ := hC
    have hQ : ∀ r_ τ, r_ = (hv (rowS (σ 74) h) (σ 70 (p * 16 + i)) (σ 72 (p * 16 + i))) → τ = (σ) → Q [vI r_] τ := fun r_ τ e e2 => e ▸ e2 ▸ hq
    refine at_wpl (lv := V_X9_halvesOf) (B := B_X9_halvesOf) (e_X9_halvesOf o) k_X9_halvesOf 8 0 [] _ σ ?_
    simp only [sq_iconst, sq_jsr, sq_anewarray, sq_iload, sq_lload, sq_aload, sq_istore, sq_lstore, sq_astore, sq_iinc, sq_getfield, st_put0, st_put1, st_put3, sq_inv, sq_goto, sq_icmp, sq_ifc, sq_tsw, sq_iadd, sq_isub, sq_imul, sq_ineg, sq_idiv, sq_irem, sq_iand, sq_ior, sq_ixor, sq_ishl, sq_ishr, sq_iushr, sq_ladd, sq_lmul, sq_ldiv, sq_lrem, sq_land, sq_lor, sq_lshl, sq_lushr, sq_lcmp, sq_i2l, sq_l2i, sq_i2c, sq_i2b, sq_dupI, sq_dupR, sq_dup2, sq_pop, sq_iaload, sq_baload, sq_aaload, sq_iastore, sq_bastore, sq_alen, sq_ireturn, sq_lreturn, sq_return, wq_c, wq_n, wlq_s, lkp, tbl, dBk, nth, setL, canSet, cmpI, tk, swK, rdF, entL, catS, cat1, arg, rcv, ald, bld, aln, br, Ccopy, Cmax, Cmin, Cabs, List.take, List.drop, List.reverse, List.reverseAux, List.length, List.append, List.nil_append, List.cons_append, true_and, and_true, and_self, forall_const, true_implies, false_implies, not_true_eq_false, not_false_eq_true, Option.map, reduceCtorEq, reduceIte, or_true, true_or, false_or, or_false, false_and, and_false, List.map, List.append_nil, implies_true, yK, Nat.reduceBEq, beq_self_eq_true, Int.zero_ne_one, Nat.reduceDiv, Nat.reduceMod, Nat.reduceAdd, Nat.reduceSub, Nat.reduceMul, Nat.reduceEqDiff, Nat.reduceLeDiff, Int.reduceToNat, Int.reduceNeg, Int.reduceEq, Int.reduceLT, Int.reduceLE, Int.reduceNatCast, Int.reduceNatCast', Int.reduceAdd, Int.reduceSub, Int.reduceMul, eq_self, Prod.mk.injEq, A_X9_halvesOf, V_X9_halvesOf, B_X9_halvesOf, Y_X9_halvesOf, shpT, rfsT, m16, m7]
    obtain ⟨hh, hp, hi, hPI⟩ := h0
    have h5 := hPI (p * 16 + i) (by omega) (by omega)
    clear hq
    generalize σ 70 (p * 16 + i) = c at h5 hQ ⊢
    generalize σ 72 (p * 16 + i) = n at h5 hQ ⊢
    have hc : c = 0 ∨ c = 1 ∨ c = 2 ∨ c = 3 ∨ c = 4 ∨ c = 5 ∨ c = 6 := by omega
    rcases hc with rfl | rfl | rfl | rfl | rfl | rfl | rfl
    all_goals
      repeat' (first | assumption | (intro _) | apply And.intro)
    all_goals first | omega | (refine hQ _ _ ?_ rfl; simp [hv, rowS, *]; done) | (refine hQ _ _ ?_ rfl; simp [hv, rowS]; simp_all; done) | (exfalso; omega)
theorem TI_rowS {f : Int → Int} {h : Int} (hf : TI f 28) (h1 : -1 ≤ h ∧ h < 4) : TI (rowS f h) 7 := fun c h2 h3 => by
  unfold rowS
  split
  · omega
  · exact hf _ (by omega) (by omega)
def A_X9_halvesAhead : List (Nat × Ctr) := [(4, rcv 9 6 C_X9_halvesOf)]
theorem e_X9_halvesAhead (o : OM) : Ev o Y_X9_halvesAhead 1 T_X9_halvesAhead A_X9_halvesAhead := ⟨rfl, fun _ h => absurd h List.not_mem_nil, fun _ h => absurd h List.not_mem_nil, fun _ h => absurd h List.not_mem_nil, fun _ h => absurd h List.not_mem_nil, List.forall_mem_cons.mpr ⟨cl_X9_halvesOf (s_X9_halvesOf o) (by decide) (Or.inl w_1303), fun _ h => absurd h List.not_mem_nil⟩, fun _ h => absurd h List.not_mem_nil⟩
def C_X9_halvesAhead : Ctr := fun A σ κ => match A with
  | [.inr (.inr (.inl 67)), .inl h, .inl p, .inl n] => ((-1 ≤ h ∧ h < 4) ∧ (0 ≤ p ∧ p < 7) ∧ (0 ≤ n ∧ n ≤ 16) ∧ PI (σ 70) (σ 72) ∧ TI (σ 74) 28) ∧ κ [vI (hsum (rowS (σ 74) h) (σ 70) (σ 72) p n)] σ
  | _ => False
set_option maxRecDepth 20000 in
theorem s_X9_halvesAhead (o : OM) : Sound o Y_X9_halvesAhead 1 C_X9_halvesAhead := by
  intro Q A σ hA hC
  match A, hA, hC with
  | [.inr (.inr (.inl 67)), .inl h, .inl p, .inl n], hA, hC =>
    obtain ⟨h0, hq⟩ : ((-1 ≤ h ∧ h < 4) ∧ (0 ≤ p ∧ p < 7) ∧ (0 ≤ n ∧ n ≤ 16) ∧ PI (σ 70) (σ 72) ∧ TI (σ 74) 28) ∧ Q [vI (hsum (rowS (σ 74) h) (σ 70) (σ 72) p n)] σ := hC
    have hQ : ∀ r_ τ, r_ = (hsum (rowS (σ 74) h) (σ 70) (σ 72) p n) → τ = (σ) → Q [vI r_] τ := fun r_ τ e e2 => e ▸ e2 ▸ hq
    obtain ⟨hh, hp, hn, hPI, hTI⟩ := h0
    refine at_meth (lv := V_X9_halvesAhead) (B := B_X9_halvesAhead) (e_X9_halvesAhead o) k_X9_halvesAhead 3 [(6, fun m S L τ => ∃ i : Int, S = [] ∧ L = [vR 67, vI h, vI p, vI n, vI (hsum (rowS (σ 74) h) (σ 70) (σ 72) p i), vI i] ∧ τ = σ ∧ 0 ≤ i ∧ i ≤ n ∧ m = (n - i).toNat)] (List.forall_mem_cons.mpr ⟨?_, fun _ h => absurd h List.not_mem_nil⟩) 0 [] _ σ ?_
    · rintro m S L τ ⟨i, rfl, rfl, rfl, hi0, hin, hm⟩
      simp only [sq_iconst, sq_jsr, sq_anewarray, sq_iload, sq_lload, sq_aload, sq_istore, sq_lstore, sq_astore, sq_iinc, sq_getfield, st_put0, st_put1, st_put3, sq_inv, sq_goto, sq_icmp, sq_ifc, sq_tsw, sq_iadd, sq_isub, sq_imul, sq_ineg, sq_idiv, sq_irem, sq_iand, sq_ior, sq_ixor, sq_ishl, sq_ishr, sq_iushr, sq_ladd, sq_lmul, sq_ldiv, sq_lrem, sq_land, sq_lor, sq_lshl, sq_lushr, sq_lcmp, sq_i2l, sq_l2i, sq_i2c, sq_i2b, sq_dupI, sq_dupR, sq_dup2, sq_pop, sq_iaload, sq_baload, sq_aaload, sq_iastore, sq_bastore, sq_alen, sq_ireturn, sq_lreturn, sq_return, wq_c, wq_n, wlq_s, lkp, tbl, dBk, nth, setL, canSet, cmpI, tk, swK, rdF, entL, catS, cat1, arg, rcv, ald, bld, aln, br, Ccopy, Cmax, Cmin, Cabs, List.take, List.drop, List.reverse, List.reverseAux, List.length, List.append, List.nil_append, List.cons_append, true_and, and_true, and_self, forall_const, true_implies, false_implies, not_true_eq_false, not_false_eq_true, Option.map, reduceCtorEq, reduceIte, or_true, true_or, false_or, or_false, false_and, and_false, List.map, List.append_nil, implies_true, yK, Nat.reduceBEq, beq_self_eq_true, Int.zero_ne_one, Nat.reduceDiv, Nat.reduceMod, Nat.reduceAdd, Nat.reduceSub, Nat.reduceMul, Nat.reduceEqDiff, Nat.reduceLeDiff, Int.reduceToNat, Int.reduceNeg, Int.reduceEq, Int.reduceLT, Int.reduceLE, Int.reduceNatCast, Int.reduceNatCast', Int.reduceAdd, Int.reduceSub, Int.reduceMul, eq_self, Prod.mk.injEq, A_X9_halvesAhead, V_X9_halvesAhead, B_X9_halvesAhead, Y_X9_halvesAhead, C_X9_halvesOf, shpT, rfsT, wjq_s, look]
      have hle := hsum_le hPI (TI_rowS hTI hh) hp ⟨hi0, by omega⟩
      refine ⟨fun h1 => ?_, fun h1 => ?_⟩
      · have : i = n := by omega
        subst this
        exact hq
      · have h5 := hPI (p * 16 + i) (by omega) (by omega)
        have h6 := hv_le (r := rowS (τ 74) h) ⟨h5.1, h5.2.1⟩ ⟨h5.2.2.1, h5.2.2.2⟩ (TI_rowS hTI hh _ h5.1 (by omega))
        exact ⟨⟨hh, hp, by omega, hPI⟩, ⟨by omega, by omega⟩, ⟨by omega, by omega⟩, _, by omega, i + 1, by rw [hsum_s hi0], by omega, by omega, rfl⟩
    · simp only [sq_iconst, sq_jsr, sq_anewarray, sq_iload, sq_lload, sq_aload, sq_istore, sq_lstore, sq_astore, sq_iinc, sq_getfield, st_put0, st_put1, st_put3, sq_inv, sq_goto, sq_icmp, sq_ifc, sq_tsw, sq_iadd, sq_isub, sq_imul, sq_ineg, sq_idiv, sq_irem, sq_iand, sq_ior, sq_ixor, sq_ishl, sq_ishr, sq_iushr, sq_ladd, sq_lmul, sq_ldiv, sq_lrem, sq_land, sq_lor, sq_lshl, sq_lushr, sq_lcmp, sq_i2l, sq_l2i, sq_i2c, sq_i2b, sq_dupI, sq_dupR, sq_dup2, sq_pop, sq_iaload, sq_baload, sq_aaload, sq_iastore, sq_bastore, sq_alen, sq_ireturn, sq_lreturn, sq_return, wq_c, wq_n, wlq_s, lkp, tbl, dBk, nth, setL, canSet, cmpI, tk, swK, rdF, entL, catS, cat1, arg, rcv, ald, bld, aln, br, Ccopy, Cmax, Cmin, Cabs, List.take, List.drop, List.reverse, List.reverseAux, List.length, List.append, List.nil_append, List.cons_append, true_and, and_true, and_self, forall_const, true_implies, false_implies, not_true_eq_false, not_false_eq_true, Option.map, reduceCtorEq, reduceIte, or_true, true_or, false_or, or_false, false_and, and_false, List.map, List.append_nil, implies_true, yK, Nat.reduceBEq, beq_self_eq_true, Int.zero_ne_one, Nat.reduceDiv, Nat.reduceMod, Nat.reduceAdd, Nat.reduceSub, Nat.reduceMul, Nat.reduceEqDiff, Nat.reduceLeDiff, Int.reduceToNat, Int.reduceNeg, Int.reduceEq, Int.reduceLT, Int.reduceLE, Int.reduceNatCast, Int.reduceNatCast', Int.reduceAdd, Int.reduceSub, Int.reduceMul, eq_self, Prod.mk.injEq, A_X9_halvesAhead, V_X9_halvesAhead, B_X9_halvesAhead, Y_X9_halvesAhead, C_X9_halvesOf, shpT, rfsT, wjq_s, look]
      exact ⟨_, 0, rfl, by omega, by omega, rfl⟩
def A_X9_atOf : List (Nat × Ctr) := [(4, rcv 9 6 C_X9_halvesAhead)]
theorem e_X9_atOf (o : OM) : Ev o Y_X9_atOf 2 T_X9_atOf A_X9_atOf := ⟨rfl, fun _ h => absurd h List.not_mem_nil, fun _ h => absurd h List.not_mem_nil, fun _ h => absurd h List.not_mem_nil, fun _ h => absurd h List.not_mem_nil, List.forall_mem_cons.mpr ⟨cl_X9_halvesAhead (s_X9_halvesAhead o) (by decide) (Or.inl w_1299), fun _ h => absurd h List.not_mem_nil⟩, fun _ h => absurd h List.not_mem_nil⟩
def C_X9_atOf : Ctr := fun A σ κ => match A with
  | [.inr (.inr (.inl 67)), .inl h, .inl p, .inl n] => ((-1 ≤ h ∧ h < 4) ∧ (0 ≤ p ∧ p < 7) ∧ (0 ≤ n ∧ n ≤ 16) ∧ PI (σ 70) (σ 72) ∧ TI (σ 74) 28) ∧ κ [vI ((hsum (rowS (σ 74) h) (σ 70) (σ 72) p n).tdiv 2)] σ
  | _ => False
set_option maxRecDepth 20000 in
theorem s_X9_atOf (o : OM) : Sound o Y_X9_atOf 2 C_X9_atOf := by
  intro Q A σ hA hC
  match A, hA, hC with
  | [.inr (.inr (.inl 67)), .inl h, .inl p, .inl n], hA, hC =>
    obtain ⟨h0, hq⟩ : ((-1 ≤ h ∧ h < 4) ∧ (0 ≤ p ∧ p < 7) ∧ (0 ≤ n ∧ n ≤ 16) ∧ PI (σ 70) (σ 72) ∧ TI (σ 74) 28) ∧ Q [vI ((hsum (rowS (σ 74) h) (σ 70) (σ 72) p n).tdiv 2)] σ := hC
    have hQ : ∀ r_ τ, r_ = ((hsum (rowS (σ 74) h) (σ 70) (σ 72) p n).tdiv 2) → τ = (σ) → Q [vI r_] τ := fun r_ τ e e2 => e ▸ e2 ▸ hq
    refine at_wpl (lv := V_X9_atOf) (B := B_X9_atOf) (e_X9_atOf o) k_X9_atOf 1 0 [] _ σ ?_
    simp only [sq_iconst, sq_jsr, sq_anewarray, sq_iload, sq_lload, sq_aload, sq_istore, sq_lstore, sq_astore, sq_iinc, sq_getfield, st_put0, st_put1, st_put3, sq_inv, sq_goto, sq_icmp, sq_ifc, sq_tsw, sq_iadd, sq_isub, sq_imul, sq_ineg, sq_idiv, sq_irem, sq_iand, sq_ior, sq_ixor, sq_ishl, sq_ishr, sq_iushr, sq_ladd, sq_lmul, sq_ldiv, sq_lrem, sq_land, sq_lor, sq_lshl, sq_lushr, sq_lcmp, sq_i2l, sq_l2i, sq_i2c, sq_i2b, sq_dupI, sq_dupR, sq_dup2, sq_pop, sq_iaload, sq_baload, sq_aaload, sq_iastore, sq_bastore, sq_alen, sq_ireturn, sq_lreturn, sq_return, wq_c, wq_n, wlq_s, lkp, tbl, dBk, nth, setL, canSet, cmpI, tk, swK, rdF, entL, catS, cat1, arg, rcv, ald, bld, aln, br, Ccopy, Cmax, Cmin, Cabs, List.take, List.drop, List.reverse, List.reverseAux, List.length, List.append, List.nil_append, List.cons_append, true_and, and_true, and_self, forall_const, true_implies, false_implies, not_true_eq_false, not_false_eq_true, Option.map, reduceCtorEq, reduceIte, or_true, true_or, false_or, or_false, false_and, and_false, List.map, List.append_nil, implies_true, yK, Nat.reduceBEq, beq_self_eq_true, Int.zero_ne_one, Nat.reduceDiv, Nat.reduceMod, Nat.reduceAdd, Nat.reduceSub, Nat.reduceMul, Nat.reduceEqDiff, Nat.reduceLeDiff, Int.reduceToNat, Int.reduceNeg, Int.reduceEq, Int.reduceLT, Int.reduceLE, Int.reduceNatCast, Int.reduceNatCast', Int.reduceAdd, Int.reduceSub, Int.reduceMul, eq_self, Prod.mk.injEq, A_X9_atOf, V_X9_atOf, B_X9_atOf, Y_X9_atOf, C_X9_halvesAhead, shpT, rfsT]
    repeat' (first | assumption | (intro _) | apply And.intro)
    all_goals first | omega | assumption | (apply hQ <;> first | rfl | omega | (simp [*]; done) | (simp [*]; omega)) | skip
def A_X9_yearsOf : List (Nat × Ctr) := [(4, rcv 9 6 C_X9_halvesAhead)]
theorem e_X9_yearsOf (o : OM) : Ev o Y_X9_yearsOf 2 T_X9_yearsOf A_X9_yearsOf := ⟨rfl, List.forall_mem_cons.mpr ⟨Or.inl f_X9_13, fun _ h => absurd h List.not_mem_nil⟩, fun _ h => absurd h List.not_mem_nil, fun _ h => absurd h List.not_mem_nil, fun _ h => absurd h List.not_mem_nil, List.forall_mem_cons.mpr ⟨cl_X9_halvesAhead (s_X9_halvesAhead o) (by decide) (Or.inl w_1299), fun _ h => absurd h List.not_mem_nil⟩, fun _ h => absurd h List.not_mem_nil⟩
def C_X9_yearsOf : Ctr := fun A σ κ => match A with
  | [.inr (.inr (.inl 67)), .inl h, .inl p] => ((-1 ≤ h ∧ h < 4) ∧ (0 ≤ p ∧ p < 7) ∧ (0 ≤ σ 69 p ∧ σ 69 p ≤ 16) ∧ PI (σ 70) (σ 72) ∧ TI (σ 74) 28) ∧ κ [vI ((hsum (rowS (σ 74) h) (σ 70) (σ 72) p (σ 69 p) + 1).tdiv 2)] σ
  | _ => False
set_option maxRecDepth 20000 in
theorem s_X9_yearsOf (o : OM) : Sound o Y_X9_yearsOf 2 C_X9_yearsOf := by
  intro Q A σ hA hC
  match A, hA, hC with
  | [.inr (.inr (.inl 67)), .inl h, .inl p], hA, hC =>
    obtain ⟨h0, hq⟩ : ((-1 ≤ h ∧ h < 4) ∧ (0 ≤ p ∧ p < 7) ∧ (0 ≤ σ 69 p ∧ σ 69 p ≤ 16) ∧ PI (σ 70) (σ 72) ∧ TI (σ 74) 28) ∧ Q [vI ((hsum (rowS (σ 74) h) (σ 70) (σ 72) p (σ 69 p) + 1).tdiv 2)] σ := hC
    have hQ : ∀ r_ τ, r_ = ((hsum (rowS (σ 74) h) (σ 70) (σ 72) p (σ 69 p) + 1).tdiv 2) → τ = (σ) → Q [vI r_] τ := fun r_ τ e e2 => e ▸ e2 ▸ hq
    refine at_wpl (lv := V_X9_yearsOf) (B := B_X9_yearsOf) (e_X9_yearsOf o) k_X9_yearsOf 1 0 [] _ σ ?_
    simp only [sq_iconst, sq_jsr, sq_anewarray, sq_iload, sq_lload, sq_aload, sq_istore, sq_lstore, sq_astore, sq_iinc, sq_getfield, st_put0, st_put1, st_put3, sq_inv, sq_goto, sq_icmp, sq_ifc, sq_tsw, sq_iadd, sq_isub, sq_imul, sq_ineg, sq_idiv, sq_irem, sq_iand, sq_ior, sq_ixor, sq_ishl, sq_ishr, sq_iushr, sq_ladd, sq_lmul, sq_ldiv, sq_lrem, sq_land, sq_lor, sq_lshl, sq_lushr, sq_lcmp, sq_i2l, sq_l2i, sq_i2c, sq_i2b, sq_dupI, sq_dupR, sq_dup2, sq_pop, sq_iaload, sq_baload, sq_aaload, sq_iastore, sq_bastore, sq_alen, sq_ireturn, sq_lreturn, sq_return, wq_c, wq_n, wlq_s, lkp, tbl, dBk, nth, setL, canSet, cmpI, tk, swK, rdF, entL, catS, cat1, arg, rcv, ald, bld, aln, br, Ccopy, Cmax, Cmin, Cabs, List.take, List.drop, List.reverse, List.reverseAux, List.length, List.append, List.nil_append, List.cons_append, true_and, and_true, and_self, forall_const, true_implies, false_implies, not_true_eq_false, not_false_eq_true, Option.map, reduceCtorEq, reduceIte, or_true, true_or, false_or, or_false, false_and, and_false, List.map, List.append_nil, implies_true, yK, Nat.reduceBEq, beq_self_eq_true, Int.zero_ne_one, Nat.reduceDiv, Nat.reduceMod, Nat.reduceAdd, Nat.reduceSub, Nat.reduceMul, Nat.reduceEqDiff, Nat.reduceLeDiff, Int.reduceToNat, Int.reduceNeg, Int.reduceEq, Int.reduceLT, Int.reduceLE, Int.reduceNatCast, Int.reduceNatCast', Int.reduceAdd, Int.reduceSub, Int.reduceMul, eq_self, Prod.mk.injEq, A_X9_yearsOf, V_X9_yearsOf, B_X9_yearsOf, Y_X9_yearsOf, C_X9_halvesAhead, shpT, rfsT]
    obtain ⟨hh, hp, hn, hPI, hTI⟩ := h0
    have hle := hsum_le hPI (TI_rowS hTI hh) hp hn
    exact ⟨by omega, ⟨hh, hp, hn, hPI, hTI⟩, ⟨by omega, by omega⟩, hq⟩
def A_X9_ashAt : List (Nat × Ctr) := []
theorem e_X9_ashAt (o : OM) : Ev o Y_X9_ashAt 0 T_X9_ashAt A_X9_ashAt := ⟨rfl, List.forall_mem_cons.mpr ⟨Or.inl f_X9_13, List.forall_mem_cons.mpr ⟨Or.inl f_X9_16, List.forall_mem_cons.mpr ⟨Or.inl f_X9_22, fun _ h => absurd h List.not_mem_nil⟩⟩⟩, fun _ h => absurd h List.not_mem_nil, fun _ h => absurd h List.not_mem_nil, fun _ h => absurd h List.not_mem_nil, fun _ h => absurd h List.not_mem_nil, fun _ h => absurd h List.not_mem_nil⟩
def C_X9_ashAt : Ctr := fun A σ κ => match A with
  | [.inr (.inr (.inl 67)), .inl p, .inl n] => ((0 ≤ p ∧ p < 7) ∧ (0 ≤ σ 69 p ∧ σ 69 p ≤ 16)) ∧ κ [vI (ff (ashP (σ 70) (σ 72) p n) 0 (σ 69 p).toNat)] σ
  | _ => False
set_option maxRecDepth 20000 in
theorem s_X9_ashAt (o : OM) : Sound o Y_X9_ashAt 0 C_X9_ashAt := by
  intro Q A σ hA hC
  match A, hA, hC with
  | [.inr (.inr (.inl 67)), .inl p, .inl n], hA, hC =>
    obtain ⟨h0, hq⟩ : ((0 ≤ p ∧ p < 7) ∧ (0 ≤ σ 69 p ∧ σ 69 p ≤ 16)) ∧ Q [vI (ff (ashP (σ 70) (σ 72) p n) 0 (σ 69 p).toNat)] σ := hC
    have hQ : ∀ r_ τ, r_ = (ff (ashP (σ 70) (σ 72) p n) 0 (σ 69 p).toNat) → τ = (σ) → Q [vI r_] τ := fun r_ τ e e2 => e ▸ e2 ▸ hq
    obtain ⟨hp, hn⟩ := h0
    refine at_meth (lv := V_X9_ashAt) (B := B_X9_ashAt) (e_X9_ashAt o) k_X9_ashAt 4 [(2, fun m S L τ => ∃ i : Int, S = [] ∧ L = [vR 67, vI p, vI n, vI i] ∧ τ = σ ∧ 0 ≤ i ∧ i ≤ σ 69 p ∧ m = (σ 69 p - i).toNat ∧ ff (ashP (σ 70) (σ 72) p n) 0 (σ 69 p).toNat = ff (ashP (σ 70) (σ 72) p n) i (σ 69 p - i).toNat)] (List.forall_mem_cons.mpr ⟨?_, fun _ h => absurd h List.not_mem_nil⟩) 0 [] _ σ ?_
    · rintro m S L τ ⟨i, rfl, rfl, rfl, hi0, hin, hm, he⟩
      simp only [sq_iconst, sq_jsr, sq_anewarray, sq_iload, sq_lload, sq_aload, sq_istore, sq_lstore, sq_astore, sq_iinc, sq_getfield, st_put0, st_put1, st_put3, sq_inv, sq_goto, sq_icmp, sq_ifc, sq_tsw, sq_iadd, sq_isub, sq_imul, sq_ineg, sq_idiv, sq_irem, sq_iand, sq_ior, sq_ixor, sq_ishl, sq_ishr, sq_iushr, sq_ladd, sq_lmul, sq_ldiv, sq_lrem, sq_land, sq_lor, sq_lshl, sq_lushr, sq_lcmp, sq_i2l, sq_l2i, sq_i2c, sq_i2b, sq_dupI, sq_dupR, sq_dup2, sq_pop, sq_iaload, sq_baload, sq_aaload, sq_iastore, sq_bastore, sq_alen, sq_ireturn, sq_lreturn, sq_return, wq_c, wq_n, wlq_s, lkp, tbl, dBk, nth, setL, canSet, cmpI, tk, swK, rdF, entL, catS, cat1, arg, rcv, ald, bld, aln, br, Ccopy, Cmax, Cmin, Cabs, List.take, List.drop, List.reverse, List.reverseAux, List.length, List.append, List.nil_append, List.cons_append, true_and, and_true, and_self, forall_const, true_implies, false_implies, not_true_eq_false, not_false_eq_true, Option.map, reduceCtorEq, reduceIte, or_true, true_or, false_or, or_false, false_and, and_false, List.map, List.append_nil, implies_true, yK, Nat.reduceBEq, beq_self_eq_true, Int.zero_ne_one, Nat.reduceDiv, Nat.reduceMod, Nat.reduceAdd, Nat.reduceSub, Nat.reduceMul, Nat.reduceEqDiff, Nat.reduceLeDiff, Int.reduceToNat, Int.reduceNeg, Int.reduceEq, Int.reduceLT, Int.reduceLE, Int.reduceNatCast, Int.reduceNatCast', Int.reduceAdd, Int.reduceSub, Int.reduceMul, eq_self, Prod.mk.injEq, A_X9_ashAt, V_X9_ashAt, B_X9_ashAt, Y_X9_ashAt, shpT, rfsT, wjq_s, look, m16]
      have nx : i < τ 69 p → ashP (τ 70) (τ 72) p n i = false → i32 (i + 1) ∧ ∃ m_1, m_1 < m ∧ ∃ i_1, [vR 67, vI p, vI n, vI (i + 1)] = [vR 67, vI p, vI n, vI i_1] ∧ 0 ≤ i_1 ∧ i_1 ≤ τ 69 p ∧ m_1 = (τ 69 p - i_1).toNat ∧ ff (ashP (τ 70) (τ 72) p n) 0 (τ 69 p).toNat = ff (ashP (τ 70) (τ 72) p n) i_1 (τ 69 p - i_1).toNat := by
        intro h1 h2
        refine ⟨⟨by omega, by omega⟩, _, ?_, i + 1, rfl, by omega, by omega, rfl, ?_⟩
        · omega
        · rw [he, ff_s h1, h2]; rfl
      refine ⟨by omega, fun h1 => ?_, fun h1 => ?_⟩
      · exact hQ _ _ (by rw [he, ff_e h1]) rfl
      · have h2 : i < τ 69 p := by omega
        refine ⟨⟨by omega, by omega⟩, ⟨by omega, by omega⟩, by omega, fun h3 => ?_, fun h3 => ⟨⟨by omega, by omega⟩, ⟨by omega, by omega⟩, by omega, fun h4 => ?_, fun h4 => ?_⟩⟩
        · exact nx h2 (by simp [ashP, h3])
        · exact nx h2 (by simp [ashP, h4])
        · have h5 : ashP (τ 70) (τ 72) p n i = true := by simp only [ashP, decide_eq_true_eq]; omega
          exact hQ _ _ (by rw [he, ff_s h2, h5]; rfl) rfl
    · simp only [sq_iconst, sq_jsr, sq_anewarray, sq_iload, sq_lload, sq_aload, sq_istore, sq_lstore, sq_astore, sq_iinc, sq_getfield, st_put0, st_put1, st_put3, sq_inv, sq_goto, sq_icmp, sq_ifc, sq_tsw, sq_iadd, sq_isub, sq_imul, sq_ineg, sq_idiv, sq_irem, sq_iand, sq_ior, sq_ixor, sq_ishl, sq_ishr, sq_iushr, sq_ladd, sq_lmul, sq_ldiv, sq_lrem, sq_land, sq_lor, sq_lshl, sq_lushr, sq_lcmp, sq_i2l, sq_l2i, sq_i2c, sq_i2b, sq_dupI, sq_dupR, sq_dup2, sq_pop, sq_iaload, sq_baload, sq_aaload, sq_iastore, sq_bastore, sq_alen, sq_ireturn, sq_lreturn, sq_return, wq_c, wq_n, wlq_s, lkp, tbl, dBk, nth, setL, canSet, cmpI, tk, swK, rdF, entL, catS, cat1, arg, rcv, ald, bld, aln, br, Ccopy, Cmax, Cmin, Cabs, List.take, List.drop, List.reverse, List.reverseAux, List.length, List.append, List.nil_append, List.cons_append, true_and, and_true, and_self, forall_const, true_implies, false_implies, not_true_eq_false, not_false_eq_true, Option.map, reduceCtorEq, reduceIte, or_true, true_or, false_or, or_false, false_and, and_false, List.map, List.append_nil, implies_true, yK, Nat.reduceBEq, beq_self_eq_true, Int.zero_ne_one, Nat.reduceDiv, Nat.reduceMod, Nat.reduceAdd, Nat.reduceSub, Nat.reduceMul, Nat.reduceEqDiff, Nat.reduceLeDiff, Int.reduceToNat, Int.reduceNeg, Int.reduceEq, Int.reduceLT, Int.reduceLE, Int.reduceNatCast, Int.reduceNatCast', Int.reduceAdd, Int.reduceSub, Int.reduceMul, eq_self, Prod.mk.injEq, A_X9_ashAt, V_X9_ashAt, B_X9_ashAt, Y_X9_ashAt, shpT, rfsT, wjq_s, look]
      exact ⟨_, 0, rfl, by omega, by omega, rfl, by rw [Int.sub_zero]⟩

