-- ===== small methods of the class =====
def br (c : Prop) (k : List AV → Sto → Prop) (σ : Sto) : Prop := (c → k [vI 1] σ) ∧ (¬ c → k [vI 0] σ)
def A_X8_isWithin : List (Nat × Ctr) := []
theorem e_X8_isWithin (o : OM) : Ev o Y_X8_isWithin 0 T_X8_isWithin A_X8_isWithin := ⟨rfl, fun _ h => absurd h List.not_mem_nil, fun _ h => absurd h List.not_mem_nil, fun _ h => absurd h List.not_mem_nil, fun _ h => absurd h List.not_mem_nil, fun _ h => absurd h List.not_mem_nil, fun _ h => absurd h List.not_mem_nil⟩
def C_X8_isWithin : Ctr := fun A σ κ => match A with
  | [.inl a, .inl b, .inl c] => (True) ∧ br (b ≤ a ∧ a ≤ c) κ σ
  | _ => False
set_option maxRecDepth 20000 in
theorem s_X8_isWithin (o : OM) : Sound o Y_X8_isWithin 0 C_X8_isWithin := by
  intro Q A σ hA hC
  match A, hA, hC with
  | [.inl a, .inl b, .inl c], hA, hC =>
    obtain ⟨h0, hq⟩ : (True) ∧ br (b ≤ a ∧ a ≤ c) Q σ := hC
    have hT : (b ≤ a ∧ a ≤ c) → ∀ r_, r_ = 1 → Q [vI r_] σ := fun c_ r_ e => e ▸ hq.1 c_
    have hF : ¬ (b ≤ a ∧ a ≤ c) → ∀ r_, r_ = 0 → Q [vI r_] σ := fun c_ r_ e => e ▸ hq.2 c_
    refine at_wpl (lv := V_X8_isWithin) (B := B_X8_isWithin) (e_X8_isWithin o) k_X8_isWithin 3 0 [] _ σ ?_
    simp only [sq_iconst, sq_jsr, sq_anewarray, sq_iload, sq_lload, sq_aload, sq_istore, sq_lstore, sq_astore, sq_iinc, sq_getfield, st_put0, st_put1, st_put3, sq_inv, sq_goto, sq_icmp, sq_ifc, sq_tsw, sq_iadd, sq_isub, sq_imul, sq_ineg, sq_idiv, sq_irem, sq_iand, sq_ior, sq_ixor, sq_ishl, sq_ishr, sq_iushr, sq_ladd, sq_lmul, sq_ldiv, sq_lrem, sq_land, sq_lor, sq_lshl, sq_lushr, sq_lcmp, sq_i2l, sq_l2i, sq_i2c, sq_i2b, sq_dupI, sq_dupR, sq_dup2, sq_pop, sq_iaload, sq_baload, sq_aaload, sq_iastore, sq_bastore, sq_alen, sq_ireturn, sq_lreturn, sq_return, wq_c, wq_n, wlq_s, lkp, tbl, dBk, nth, setL, canSet, cmpI, tk, swK, rdF, entL, catS, cat1, arg, rcv, ald, bld, aln, br, Ccopy, Cmax, Cmin, Cabs, List.take, List.drop, List.reverse, List.reverseAux, List.length, List.append, List.nil_append, List.cons_append, true_and, and_true, and_self, forall_const, true_implies, false_implies, not_true_eq_false, not_false_eq_true, Option.map, reduceCtorEq, reduceIte, or_true, true_or, false_or, or_false, false_and, and_false, List.map, List.append_nil, implies_true, yK, Nat.reduceBEq, beq_self_eq_true, Int.zero_ne_one, Nat.reduceDiv, Nat.reduceMod, Nat.reduceAdd, Nat.reduceSub, Nat.reduceMul, Nat.reduceEqDiff, Nat.reduceLeDiff, Int.reduceToNat, Int.reduceNeg, Int.reduceEq, Int.reduceLT, Int.reduceLE, Int.reduceNatCast, Int.reduceNatCast', Int.reduceAdd, Int.reduceSub, Int.reduceMul, eq_self, Prod.mk.injEq, A_X8_isWithin, V_X8_isWithin, B_X8_isWithin, Y_X8_isWithin, shpT, rfsT]
    repeat' (first | assumption | (intro _) | apply And.intro)
    all_goals first | omega | assumption | (apply hT <;> first | rfl | omega | assumption | (simp [*]; done)) | (apply hF <;> first | rfl | omega | assumption | (simp [*]; done)) | skip
def A_X6_kindOf : List (Nat × Ctr) := []
theorem e_X6_kindOf (o : OM) : Ev o Y_X6_kindOf 0 T_X6_kindOf A_X6_kindOf := ⟨rfl, List.forall_mem_cons.mpr ⟨Or.inl f_X6_22, fun _ h => absurd h List.not_mem_nil⟩, fun _ h => absurd h List.not_mem_nil, fun _ h => absurd h List.not_mem_nil, fun _ h => absurd h List.not_mem_nil, fun _ h => absurd h List.not_mem_nil, fun _ h => absurd h List.not_mem_nil⟩
def C_X6_kindOf : Ctr := fun A σ κ => match A with
  | [.inr (.inr (.inl 1)), .inl p, .inl i] => (0 ≤ p ∧ p < 7 ∧ 0 ≤ i ∧ i < 16) ∧ κ [vI (σ 13 (p * 16 + i))] σ
  | _ => False
set_option maxRecDepth 20000 in
theorem s_X6_kindOf (o : OM) : Sound o Y_X6_kindOf 0 C_X6_kindOf := by
  intro Q A σ hA hC
  match A, hA, hC with
  | [.inr (.inr (.inl 1)), .inl p, .inl i], hA, hC =>
    obtain ⟨h0, hq⟩ : (0 ≤ p ∧ p < 7 ∧ 0 ≤ i ∧ i < 16) ∧ Q [vI (σ 13 (p * 16 + i))] σ := hC
    have hQ : ∀ r_ τ, r_ = (σ 13 (p * 16 + i)) → τ = (σ) → Q [vI r_] τ := fun r_ τ e e2 => e ▸ e2 ▸ hq
    refine at_wpl (lv := V_X6_kindOf) (B := B_X6_kindOf) (e_X6_kindOf o) k_X6_kindOf 1 0 [] _ σ ?_
    simp only [sq_iconst, sq_jsr, sq_anewarray, sq_iload, sq_lload, sq_aload, sq_istore, sq_lstore, sq_astore, sq_iinc, sq_getfield, st_put0, st_put1, st_put3, sq_inv, sq_goto, sq_icmp, sq_ifc, sq_tsw, sq_iadd, sq_isub, sq_imul, sq_ineg, sq_idiv, sq_irem, sq_iand, sq_ior, sq_ixor, sq_ishl, sq_ishr, sq_iushr, sq_ladd, sq_lmul, sq_ldiv, sq_lrem, sq_land, sq_lor, sq_lshl, sq_lushr, sq_lcmp, sq_i2l, sq_l2i, sq_i2c, sq_i2b, sq_dupI, sq_dupR, sq_dup2, sq_pop, sq_iaload, sq_baload, sq_aaload, sq_iastore, sq_bastore, sq_alen, sq_ireturn, sq_lreturn, sq_return, wq_c, wq_n, wlq_s, lkp, tbl, dBk, nth, setL, canSet, cmpI, tk, swK, rdF, entL, catS, cat1, arg, rcv, ald, bld, aln, br, Ccopy, Cmax, Cmin, Cabs, List.take, List.drop, List.reverse, List.reverseAux, List.length, List.append, List.nil_append, List.cons_append, true_and, and_true, and_self, forall_const, true_implies, false_implies, not_true_eq_false, not_false_eq_true, Option.map, reduceCtorEq, reduceIte, or_true, true_or, false_or, or_false, false_and, and_false, List.map, List.append_nil, implies_true, yK, Nat.reduceBEq, beq_self_eq_true, Int.zero_ne_one, Nat.reduceDiv, Nat.reduceMod, Nat.reduceAdd, Nat.reduceSub, Nat.reduceMul, Nat.reduceEqDiff, Nat.reduceLeDiff, Int.reduceToNat, Int.reduceNeg, Int.reduceEq, Int.reduceLT, Int.reduceLE, Int.reduceNatCast, Int.reduceNatCast', Int.reduceAdd, Int.reduceSub, Int.reduceMul, eq_self, Prod.mk.injEq, A_X6_kindOf, V_X6_kindOf, B_X6_kindOf, Y_X6_kindOf, shpT, rfsT]
    repeat' (first | assumption | (intro _) | apply And.intro)
    all_goals first | omega | assumption | (apply hQ <;> first | rfl | omega | (simp [*]; done) | (simp [*]; omega)) | skip
def A_X6_nOf : List (Nat × Ctr) := []
theorem e_X6_nOf (o : OM) : Ev o Y_X6_nOf 0 T_X6_nOf A_X6_nOf := ⟨rfl, List.forall_mem_cons.mpr ⟨Or.inl f_X6_28, fun _ h => absurd h List.not_mem_nil⟩, fun _ h => absurd h List.not_mem_nil, fun _ h => absurd h List.not_mem_nil, fun _ h => absurd h List.not_mem_nil, fun _ h => absurd h List.not_mem_nil, fun _ h => absurd h List.not_mem_nil⟩
def C_X6_nOf : Ctr := fun A σ κ => match A with
  | [.inr (.inr (.inl 1)), .inl p, .inl i] => (0 ≤ p ∧ p < 7 ∧ 0 ≤ i ∧ i < 16) ∧ κ [vI (σ 15 (p * 16 + i))] σ
  | _ => False
set_option maxRecDepth 20000 in
theorem s_X6_nOf (o : OM) : Sound o Y_X6_nOf 0 C_X6_nOf := by
  intro Q A σ hA hC
  match A, hA, hC with
  | [.inr (.inr (.inl 1)), .inl p, .inl i], hA, hC =>
    obtain ⟨h0, hq⟩ : (0 ≤ p ∧ p < 7 ∧ 0 ≤ i ∧ i < 16) ∧ Q [vI (σ 15 (p * 16 + i))] σ := hC
    have hQ : ∀ r_ τ, r_ = (σ 15 (p * 16 + i)) → τ = (σ) → Q [vI r_] τ := fun r_ τ e e2 => e ▸ e2 ▸ hq
    refine at_wpl (lv := V_X6_nOf) (B := B_X6_nOf) (e_X6_nOf o) k_X6_nOf 1 0 [] _ σ ?_
    simp only [sq_iconst, sq_jsr, sq_anewarray, sq_iload, sq_lload, sq_aload, sq_istore, sq_lstore, sq_astore, sq_iinc, sq_getfield, st_put0, st_put1, st_put3, sq_inv, sq_goto, sq_icmp, sq_ifc, sq_tsw, sq_iadd, sq_isub, sq_imul, sq_ineg, sq_idiv, sq_irem, sq_iand, sq_ior, sq_ixor, sq_ishl, sq_ishr, sq_iushr, sq_ladd, sq_lmul, sq_ldiv, sq_lrem, sq_land, sq_lor, sq_lshl, sq_lushr, sq_lcmp, sq_i2l, sq_l2i, sq_i2c, sq_i2b, sq_dupI, sq_dupR, sq_dup2, sq_pop, sq_iaload, sq_baload, sq_aaload, sq_iastore, sq_bastore, sq_alen, sq_ireturn, sq_lreturn, sq_return, wq_c, wq_n, wlq_s, lkp, tbl, dBk, nth, setL, canSet, cmpI, tk, swK, rdF, entL, catS, cat1, arg, rcv, ald, bld, aln, br, Ccopy, Cmax, Cmin, Cabs, List.take, List.drop, List.reverse, List.reverseAux, List.length, List.append, List.nil_append, List.cons_append, true_and, and_true, and_self, forall_const, true_implies, false_implies, not_true_eq_false, not_false_eq_true, Option.map, reduceCtorEq, reduceIte, or_true, true_or, false_or, or_false, false_and, and_false, List.map, List.append_nil, implies_true, yK, Nat.reduceBEq, beq_self_eq_true, Int.zero_ne_one, Nat.reduceDiv, Nat.reduceMod, Nat.reduceAdd, Nat.reduceSub, Nat.reduceMul, Nat.reduceEqDiff, Nat.reduceLeDiff, Int.reduceToNat, Int.reduceNeg, Int.reduceEq, Int.reduceLT, Int.reduceLE, Int.reduceNatCast, Int.reduceNatCast', Int.reduceAdd, Int.reduceSub, Int.reduceMul, eq_self, Prod.mk.injEq, A_X6_nOf, V_X6_nOf, B_X6_nOf, Y_X6_nOf, shpT, rfsT]
    repeat' (first | assumption | (intro _) | apply And.intro)
    all_goals first | omega | assumption | (apply hQ <;> first | rfl | omega | (simp [*]; done) | (simp [*]; omega)) | skip
def A_X6_thicknessOf : List (Nat × Ctr) := []
theorem e_X6_thicknessOf (o : OM) : Ev o Y_X6_thicknessOf 0 T_X6_thicknessOf A_X6_thicknessOf := ⟨rfl, List.forall_mem_cons.mpr ⟨Or.inl f_X6_25, fun _ h => absurd h List.not_mem_nil⟩, fun _ h => absurd h List.not_mem_nil, fun _ h => absurd h List.not_mem_nil, fun _ h => absurd h List.not_mem_nil, fun _ h => absurd h List.not_mem_nil, fun _ h => absurd h List.not_mem_nil⟩
def C_X6_thicknessOf : Ctr := fun A σ κ => match A with
  | [.inr (.inr (.inl 1)), .inl p, .inl i] => (0 ≤ p ∧ p < 7 ∧ 0 ≤ i ∧ i < 16) ∧ κ [vI (σ 14 (p * 16 + i))] σ
  | _ => False
set_option maxRecDepth 20000 in
theorem s_X6_thicknessOf (o : OM) : Sound o Y_X6_thicknessOf 0 C_X6_thicknessOf := by
  intro Q A σ hA hC
  match A, hA, hC with
  | [.inr (.inr (.inl 1)), .inl p, .inl i], hA, hC =>
    obtain ⟨h0, hq⟩ : (0 ≤ p ∧ p < 7 ∧ 0 ≤ i ∧ i < 16) ∧ Q [vI (σ 14 (p * 16 + i))] σ := hC
    have hQ : ∀ r_ τ, r_ = (σ 14 (p * 16 + i)) → τ = (σ) → Q [vI r_] τ := fun r_ τ e e2 => e ▸ e2 ▸ hq
    refine at_wpl (lv := V_X6_thicknessOf) (B := B_X6_thicknessOf) (e_X6_thicknessOf o) k_X6_thicknessOf 1 0 [] _ σ ?_
    simp only [sq_iconst, sq_jsr, sq_anewarray, sq_iload, sq_lload, sq_aload, sq_istore, sq_lstore, sq_astore, sq_iinc, sq_getfield, st_put0, st_put1, st_put3, sq_inv, sq_goto, sq_icmp, sq_ifc, sq_tsw, sq_iadd, sq_isub, sq_imul, sq_ineg, sq_idiv, sq_irem, sq_iand, sq_ior, sq_ixor, sq_ishl, sq_ishr, sq_iushr, sq_ladd, sq_lmul, sq_ldiv, sq_lrem, sq_land, sq_lor, sq_lshl, sq_lushr, sq_lcmp, sq_i2l, sq_l2i, sq_i2c, sq_i2b, sq_dupI, sq_dupR, sq_dup2, sq_pop, sq_iaload, sq_baload, sq_aaload, sq_iastore, sq_bastore, sq_alen, sq_ireturn, sq_lreturn, sq_return, wq_c, wq_n, wlq_s, lkp, tbl, dBk, nth, setL, canSet, cmpI, tk, swK, rdF, entL, catS, cat1, arg, rcv, ald, bld, aln, br, Ccopy, Cmax, Cmin, Cabs, List.take, List.drop, List.reverse, List.reverseAux, List.length, List.append, List.nil_append, List.cons_append, true_and, and_true, and_self, forall_const, true_implies, false_implies, not_true_eq_false, not_false_eq_true, Option.map, reduceCtorEq, reduceIte, or_true, true_or, false_or, or_false, false_and, and_false, List.map, List.append_nil, implies_true, yK, Nat.reduceBEq, beq_self_eq_true, Int.zero_ne_one, Nat.reduceDiv, Nat.reduceMod, Nat.reduceAdd, Nat.reduceSub, Nat.reduceMul, Nat.reduceEqDiff, Nat.reduceLeDiff, Int.reduceToNat, Int.reduceNeg, Int.reduceEq, Int.reduceLT, Int.reduceLE, Int.reduceNatCast, Int.reduceNatCast', Int.reduceAdd, Int.reduceSub, Int.reduceMul, eq_self, Prod.mk.injEq, A_X6_thicknessOf, V_X6_thicknessOf, B_X6_thicknessOf, Y_X6_thicknessOf, shpT, rfsT]
    repeat' (first | assumption | (intro _) | apply And.intro)
    all_goals first | omega | assumption | (apply hQ <;> first | rfl | omega | (simp [*]; done) | (simp [*]; omega)) | skip
/-- for how many halves a leaf of kind c and number n counts, by the row of a hand -/
def hv (r : Int → Int) (c n : Int) : Int := if r c = -1 then (if c = 4 then 2 * n else [2, 2, 2, 1, 0, 2, 0].getD c.toNat 0) else r c
def A_X1_halvesOf : List (Nat × Ctr) := []
theorem e_X1_halvesOf (o : OM) : Ev o Y_X1_halvesOf 0 T_X1_halvesOf A_X1_halvesOf := ⟨rfl, List.forall_mem_cons.mpr ⟨Or.inl f_X1_15, fun _ h => absurd h List.not_mem_nil⟩, fun _ h => absurd h List.not_mem_nil, fun _ h => absurd h List.not_mem_nil, List.forall_mem_cons.mpr ⟨ref_st w_420 (by decide) (by decide) (fun s h => h.2.2.2.1.1.1), fun _ h => absurd h List.not_mem_nil⟩, fun _ h => absurd h List.not_mem_nil, fun _ h => absurd h List.not_mem_nil⟩
def C_X1_halvesOf : Ctr := fun A σ κ => match A with
  | [.inr (.inr (.inl 6)), .inl h, .inl c, .inl n] => (-1 ≤ h ∧ h < 4 ∧ 0 ≤ c ∧ c < 7 ∧ 0 ≤ n ∧ n ≤ 9) ∧ κ [vI (hv (fun c => σ 37 ((h + 1) * 7 + c)) c n)] σ
  | _ => False
set_option maxRecDepth 20000 in
theorem s_X1_halvesOf (o : OM) : Sound o Y_X1_halvesOf 0 C_X1_halvesOf := by
  intro Q A σ hA hC
  match A, hA, hC with
  | [.inr (.inr (.inl 6)), .inl h, .inl c, .inl n], hA, hC =>
    obtain ⟨h0, hq⟩ : (-1 ≤ h ∧ h < 4 ∧ 0 ≤ c ∧ c < 7 ∧ 0 ≤ n ∧ n ≤ 9) ∧ Q [vI (hv (fun c => σ 37 ((h + 1) * 7 + c)) c n)] σ := hC
    have hQ : ∀ r_ τ, r_ = (hv (fun c => σ 37 ((h + 1) * 7 + c)) c n) → τ = (σ) → Q [vI r_] τ := fun r_ τ e e2 => e ▸ e2 ▸ hq
    refine at_wpl (lv := V_X1_halvesOf) (B := B_X1_halvesOf) (e_X1_halvesOf o) k_X1_halvesOf 4 0 [] _ σ ?_
    simp only [sq_iconst, sq_jsr, sq_anewarray, sq_iload, sq_lload, sq_aload, sq_istore, sq_lstore, sq_astore, sq_iinc, sq_getfield, st_put0, st_put1, st_put3, sq_inv, sq_goto, sq_icmp, sq_ifc, sq_tsw, sq_iadd, sq_isub, sq_imul, sq_ineg, sq_idiv, sq_irem, sq_iand, sq_ior, sq_ixor, sq_ishl, sq_ishr, sq_iushr, sq_ladd, sq_lmul, sq_ldiv, sq_lrem, sq_land, sq_lor, sq_lshl, sq_lushr, sq_lcmp, sq_i2l, sq_l2i, sq_i2c, sq_i2b, sq_dupI, sq_dupR, sq_dup2, sq_pop, sq_iaload, sq_baload, sq_aaload, sq_iastore, sq_bastore, sq_alen, sq_ireturn, sq_lreturn, sq_return, wq_c, wq_n, wlq_s, lkp, tbl, dBk, nth, setL, canSet, cmpI, tk, swK, rdF, entL, catS, cat1, arg, rcv, ald, bld, aln, br, Ccopy, Cmax, Cmin, Cabs, List.take, List.drop, List.reverse, List.reverseAux, List.length, List.append, List.nil_append, List.cons_append, true_and, and_true, and_self, forall_const, true_implies, false_implies, not_true_eq_false, not_false_eq_true, Option.map, reduceCtorEq, reduceIte, or_true, true_or, false_or, or_false, false_and, and_false, List.map, List.append_nil, implies_true, yK, Nat.reduceBEq, beq_self_eq_true, Int.zero_ne_one, Nat.reduceDiv, Nat.reduceMod, Nat.reduceAdd, Nat.reduceSub, Nat.reduceMul, Nat.reduceEqDiff, Nat.reduceLeDiff, Int.reduceToNat, Int.reduceNeg, Int.reduceEq, Int.reduceLT, Int.reduceLE, Int.reduceNatCast, Int.reduceNatCast', Int.reduceAdd, Int.reduceSub, Int.reduceMul, eq_self, Prod.mk.injEq, A_X1_halvesOf, V_X1_halvesOf, B_X1_halvesOf, Y_X1_halvesOf, shpT, rfsT, stc]
    repeat' (first | (intro _) | apply And.intro)
    all_goals first | omega | (refine hQ _ _ ?_ rfl; unfold hv; split <;> (try split) <;> first | rfl | omega | (exfalso; omega) | simp_all)
def A_X6_has : List (Nat × Ctr) := []
theorem e_X6_has (o : OM) : Ev o Y_X6_has 0 T_X6_has A_X6_has := ⟨rfl, List.forall_mem_cons.mpr ⟨Or.inl f_X6_9, fun _ h => absurd h List.not_mem_nil⟩, fun _ h => absurd h List.not_mem_nil, fun _ h => absurd h List.not_mem_nil, fun _ h => absurd h List.not_mem_nil, fun _ h => absurd h List.not_mem_nil, fun _ h => absurd h List.not_mem_nil⟩
def C_X6_has : Ctr := fun A σ κ => match A with
  | [.inr (.inr (.inl 1)), .inl p] => (True) ∧ br (0 ≤ p ∧ p < σ 1 0) κ σ
  | _ => False
set_option maxRecDepth 20000 in
theorem s_X6_has (o : OM) : Sound o Y_X6_has 0 C_X6_has := by
  intro Q A σ hA hC
  match A, hA, hC with
  | [.inr (.inr (.inl 1)), .inl p], hA, hC =>
    obtain ⟨h0, hq⟩ : (True) ∧ br (0 ≤ p ∧ p < σ 1 0) Q σ := hC
    have hT : (0 ≤ p ∧ p < σ 1 0) → ∀ r_, r_ = 1 → Q [vI r_] σ := fun c_ r_ e => e ▸ hq.1 c_
    have hF : ¬ (0 ≤ p ∧ p < σ 1 0) → ∀ r_, r_ = 0 → Q [vI r_] σ := fun c_ r_ e => e ▸ hq.2 c_
    refine at_wpl (lv := V_X6_has) (B := B_X6_has) (e_X6_has o) k_X6_has 3 0 [] _ σ ?_
    simp only [sq_iconst, sq_jsr, sq_anewarray, sq_iload, sq_lload, sq_aload, sq_istore, sq_lstore, sq_astore, sq_iinc, sq_getfield, st_put0, st_put1, st_put3, sq_inv, sq_goto, sq_icmp, sq_ifc, sq_tsw, sq_iadd, sq_isub, sq_imul, sq_ineg, sq_idiv, sq_irem, sq_iand, sq_ior, sq_ixor, sq_ishl, sq_ishr, sq_iushr, sq_ladd, sq_lmul, sq_ldiv, sq_lrem, sq_land, sq_lor, sq_lshl, sq_lushr, sq_lcmp, sq_i2l, sq_l2i, sq_i2c, sq_i2b, sq_dupI, sq_dupR, sq_dup2, sq_pop, sq_iaload, sq_baload, sq_aaload, sq_iastore, sq_bastore, sq_alen, sq_ireturn, sq_lreturn, sq_return, wq_c, wq_n, wlq_s, lkp, tbl, dBk, nth, setL, canSet, cmpI, tk, swK, rdF, entL, catS, cat1, arg, rcv, ald, bld, aln, br, Ccopy, Cmax, Cmin, Cabs, List.take, List.drop, List.reverse, List.reverseAux, List.length, List.append, List.nil_append, List.cons_append, true_and, and_true, and_self, forall_const, true_implies, false_implies, not_true_eq_false, not_false_eq_true, Option.map, reduceCtorEq, reduceIte, or_true, true_or, false_or, or_false, false_and, and_false, List.map, List.append_nil, implies_true, yK, Nat.reduceBEq, beq_self_eq_true, Int.zero_ne_one, Nat.reduceDiv, Nat.reduceMod, Nat.reduceAdd, Nat.reduceSub, Nat.reduceMul, Nat.reduceEqDiff, Nat.reduceLeDiff, Int.reduceToNat, Int.reduceNeg, Int.reduceEq, Int.reduceLT, Int.reduceLE, Int.reduceNatCast, Int.reduceNatCast', Int.reduceAdd, Int.reduceSub, Int.reduceMul, eq_self, Prod.mk.injEq, A_X6_has, V_X6_has, B_X6_has, Y_X6_has, shpT, rfsT]
    repeat' (first | assumption | (intro _) | apply And.intro)
    all_goals first | omega | assumption | (apply hT <;> first | rfl | omega | assumption | (simp [*]; done)) | (apply hF <;> first | rfl | omega | assumption | (simp [*]; done)) | skip
def A_X6_hasLeaf : List (Nat × Ctr) := [(2, rcv 6 2 C_X6_has)]
theorem e_X6_hasLeaf (o : OM) : Ev o Y_X6_hasLeaf 1 T_X6_hasLeaf A_X6_hasLeaf := ⟨rfl, List.forall_mem_cons.mpr ⟨Or.inl f_X6_19, fun _ h => absurd h List.not_mem_nil⟩, fun _ h => absurd h List.not_mem_nil, fun _ h => absurd h List.not_mem_nil, fun _ h => absurd h List.not_mem_nil, List.forall_mem_cons.mpr ⟨cl_X6_has (s_X6_has o) (by decide) (Or.inl w_387), fun _ h => absurd h List.not_mem_nil⟩, fun _ h => absurd h List.not_mem_nil⟩
def C_X6_hasLeaf : Ctr := fun A σ κ => match A with
  | [.inr (.inr (.inl 1)), .inl p, .inl i] => (0 ≤ σ 1 0 ∧ σ 1 0 ≤ 7) ∧ br (0 ≤ p ∧ p < σ 1 0 ∧ 0 ≤ i ∧ i < σ 12 p) κ σ
  | _ => False
set_option maxRecDepth 20000 in
theorem s_X6_hasLeaf (o : OM) : Sound o Y_X6_hasLeaf 1 C_X6_hasLeaf := by
  intro Q A σ hA hC
  match A, hA, hC with
  | [.inr (.inr (.inl 1)), .inl p, .inl i], hA, hC =>
    obtain ⟨h0, hq⟩ : (0 ≤ σ 1 0 ∧ σ 1 0 ≤ 7) ∧ br (0 ≤ p ∧ p < σ 1 0 ∧ 0 ≤ i ∧ i < σ 12 p) Q σ := hC
    have hT : (0 ≤ p ∧ p < σ 1 0 ∧ 0 ≤ i ∧ i < σ 12 p) → ∀ r_, r_ = 1 → Q [vI r_] σ := fun c_ r_ e => e ▸ hq.1 c_
    have hF : ¬ (0 ≤ p ∧ p < σ 1 0 ∧ 0 ≤ i ∧ i < σ 12 p) → ∀ r_, r_ = 0 → Q [vI r_] σ := fun c_ r_ e => e ▸ hq.2 c_
    refine at_wpl (lv := V_X6_hasLeaf) (B := B_X6_hasLeaf) (e_X6_hasLeaf o) k_X6_hasLeaf 3 0 [] _ σ ?_
    simp only [sq_iconst, sq_jsr, sq_anewarray, sq_iload, sq_lload, sq_aload, sq_istore, sq_lstore, sq_astore, sq_iinc, sq_getfield, st_put0, st_put1, st_put3, sq_inv, sq_goto, sq_icmp, sq_ifc, sq_tsw, sq_iadd, sq_isub, sq_imul, sq_ineg, sq_idiv, sq_irem, sq_iand, sq_ior, sq_ixor, sq_ishl, sq_ishr, sq_iushr, sq_ladd, sq_lmul, sq_ldiv, sq_lrem, sq_land, sq_lor, sq_lshl, sq_lushr, sq_lcmp, sq_i2l, sq_l2i, sq_i2c, sq_i2b, sq_dupI, sq_dupR, sq_dup2, sq_pop, sq_iaload, sq_baload, sq_aaload, sq_iastore, sq_bastore, sq_alen, sq_ireturn, sq_lreturn, sq_return, wq_c, wq_n, wlq_s, lkp, tbl, dBk, nth, setL, canSet, cmpI, tk, swK, rdF, entL, catS, cat1, arg, rcv, ald, bld, aln, br, Ccopy, Cmax, Cmin, Cabs, List.take, List.drop, List.reverse, List.reverseAux, List.length, List.append, List.nil_append, List.cons_append, true_and, and_true, and_self, forall_const, true_implies, false_implies, not_true_eq_false, not_false_eq_true, Option.map, reduceCtorEq, reduceIte, or_true, true_or, false_or, or_false, false_and, and_false, List.map, List.append_nil, implies_true, yK, Nat.reduceBEq, beq_self_eq_true, Int.zero_ne_one, Nat.reduceDiv, Nat.reduceMod, Nat.reduceAdd, Nat.reduceSub, Nat.reduceMul, Nat.reduceEqDiff, Nat.reduceLeDiff, Int.reduceToNat, Int.reduceNeg, Int.reduceEq, Int.reduceLT, Int.reduceLE, Int.reduceNatCast, Int.reduceNatCast', Int.reduceAdd, Int.reduceSub, Int.reduceMul, eq_self, Prod.mk.injEq, A_X6_hasLeaf, V_X6_hasLeaf, B_X6_hasLeaf, Y_X6_hasLeaf, C_X6_has, shpT, rfsT, br]
    repeat' (first | assumption | (intro _) | apply And.intro)
    all_goals first | omega | assumption | (apply hT <;> first | rfl | omega | assumption | (simp [br, *]; done)) | (apply hF <;> first | rfl | omega | assumption | (simp [br, *]; done)) | skip
def A_X6_open : List (Nat × Ctr) := []
theorem e_X6_open (o : OM) : Ev o Y_X6_open 0 T_X6_open A_X6_open := ⟨rfl, List.forall_mem_cons.mpr ⟨Or.inl f_X6_9, List.forall_mem_cons.mpr ⟨Or.inl f_X6_15, List.forall_mem_cons.mpr ⟨Or.inl f_X6_19, fun _ h => absurd h List.not_mem_nil⟩⟩⟩, fun _ h => absurd h List.not_mem_nil, fun _ h => absurd h List.not_mem_nil, fun _ h => absurd h List.not_mem_nil, fun _ h => absurd h List.not_mem_nil, fun _ h => absurd h List.not_mem_nil⟩
def C_X6_open : Ctr := fun A σ κ => match A with
  | [.inr (.inr (.inl 1)), .inl mi] => (0 ≤ σ 1 0 ∧ σ 1 0 < 7) ∧ κ [vI (σ 1 0)] (su (su (su σ 11 (σ 1 0) mi) 12 (σ 1 0) 0) 1 0 (σ 1 0 + 1))
  | _ => False
set_option maxRecDepth 20000 in
theorem s_X6_open (o : OM) : Sound o Y_X6_open 0 C_X6_open := by
  intro Q A σ hA hC
  match A, hA, hC with
  | [.inr (.inr (.inl 1)), .inl mi], hA, hC =>
    obtain ⟨h0, hq⟩ : (0 ≤ σ 1 0 ∧ σ 1 0 < 7) ∧ Q [vI (σ 1 0)] (su (su (su σ 11 (σ 1 0) mi) 12 (σ 1 0) 0) 1 0 (σ 1 0 + 1)) := hC
    have hQ : ∀ r_ τ, r_ = (σ 1 0) → τ = (su (su (su σ 11 (σ 1 0) mi) 12 (σ 1 0) 0) 1 0 (σ 1 0 + 1)) → Q [vI r_] τ := fun r_ τ e e2 => e ▸ e2 ▸ hq
    refine at_wpl (lv := V_X6_open) (B := B_X6_open) (e_X6_open o) k_X6_open 2 0 [] _ σ ?_
    simp only [sq_iconst, sq_jsr, sq_anewarray, sq_iload, sq_lload, sq_aload, sq_istore, sq_lstore, sq_astore, sq_iinc, sq_getfield, st_put0, st_put1, st_put3, sq_inv, sq_goto, sq_icmp, sq_ifc, sq_tsw, sq_iadd, sq_isub, sq_imul, sq_ineg, sq_idiv, sq_irem, sq_iand, sq_ior, sq_ixor, sq_ishl, sq_ishr, sq_iushr, sq_ladd, sq_lmul, sq_ldiv, sq_lrem, sq_land, sq_lor, sq_lshl, sq_lushr, sq_lcmp, sq_i2l, sq_l2i, sq_i2c, sq_i2b, sq_dupI, sq_dupR, sq_dup2, sq_pop, sq_iaload, sq_baload, sq_aaload, sq_iastore, sq_bastore, sq_alen, sq_ireturn, sq_lreturn, sq_return, wq_c, wq_n, wlq_s, lkp, tbl, dBk, nth, setL, canSet, cmpI, tk, swK, rdF, entL, catS, cat1, arg, rcv, ald, bld, aln, br, Ccopy, Cmax, Cmin, Cabs, List.take, List.drop, List.reverse, List.reverseAux, List.length, List.append, List.nil_append, List.cons_append, true_and, and_true, and_self, forall_const, true_implies, false_implies, not_true_eq_false, not_false_eq_true, Option.map, reduceCtorEq, reduceIte, or_true, true_or, false_or, or_false, false_and, and_false, List.map, List.append_nil, implies_true, yK, Nat.reduceBEq, beq_self_eq_true, Int.zero_ne_one, Nat.reduceDiv, Nat.reduceMod, Nat.reduceAdd, Nat.reduceSub, Nat.reduceMul, Nat.reduceEqDiff, Nat.reduceLeDiff, Int.reduceToNat, Int.reduceNeg, Int.reduceEq, Int.reduceLT, Int.reduceLE, Int.reduceNatCast, Int.reduceNatCast', Int.reduceAdd, Int.reduceSub, Int.reduceMul, eq_self, Prod.mk.injEq, A_X6_open, V_X6_open, B_X6_open, Y_X6_open, shpT, rfsT, su]
    repeat' (first | assumption | (intro _) | apply And.intro)
    all_goals first | omega | assumption | (apply hQ <;> first | rfl | omega | (simp [su, *]; done) | (simp [su, *]; omega)) | skip
def A_X6_put : List (Nat × Ctr) := []
theorem e_X6_put (o : OM) : Ev o Y_X6_put 0 T_X6_put A_X6_put := ⟨rfl, List.forall_mem_cons.mpr ⟨Or.inl f_X6_22, List.forall_mem_cons.mpr ⟨Or.inl f_X6_25, List.forall_mem_cons.mpr ⟨Or.inl f_X6_28, fun _ h => absurd h List.not_mem_nil⟩⟩⟩, fun _ h => absurd h List.not_mem_nil, fun _ h => absurd h List.not_mem_nil, fun _ h => absurd h List.not_mem_nil, fun _ h => absurd h List.not_mem_nil, fun _ h => absurd h List.not_mem_nil⟩
def C_X6_put : Ctr := fun A σ κ => match A with
  | [.inr (.inr (.inl 1)), .inl p, .inl i, .inl c, .inl t, .inl n] => (0 ≤ p ∧ p < 7 ∧ 0 ≤ i ∧ i < 16) ∧ κ [] (su (su (su σ 13 (p * 16 + i) c) 14 (p * 16 + i) t) 15 (p * 16 + i) n)
  | _ => False
set_option maxRecDepth 20000 in
theorem s_X6_put (o : OM) : Sound o Y_X6_put 0 C_X6_put := by
  intro Q A σ hA hC
  match A, hA, hC with
  | [.inr (.inr (.inl 1)), .inl p, .inl i, .inl c, .inl t, .inl n], hA, hC =>
    obtain ⟨h0, hq⟩ : (0 ≤ p ∧ p < 7 ∧ 0 ≤ i ∧ i < 16) ∧ Q [] (su (su (su σ 13 (p * 16 + i) c) 14 (p * 16 + i) t) 15 (p * 16 + i) n) := hC
    have hQ : ∀ τ, τ = (su (su (su σ 13 (p * 16 + i) c) 14 (p * 16 + i) t) 15 (p * 16 + i) n) → Q [] τ := fun τ e2 => e2 ▸ hq
    refine at_wpl (lv := V_X6_put) (B := B_X6_put) (e_X6_put o) k_X6_put 1 0 [] _ σ ?_
    simp only [sq_iconst, sq_jsr, sq_anewarray, sq_iload, sq_lload, sq_aload, sq_istore, sq_lstore, sq_astore, sq_iinc, sq_getfield, st_put0, st_put1, st_put3, sq_inv, sq_goto, sq_icmp, sq_ifc, sq_tsw, sq_iadd, sq_isub, sq_imul, sq_ineg, sq_idiv, sq_irem, sq_iand, sq_ior, sq_ixor, sq_ishl, sq_ishr, sq_iushr, sq_ladd, sq_lmul, sq_ldiv, sq_lrem, sq_land, sq_lor, sq_lshl, sq_lushr, sq_lcmp, sq_i2l, sq_l2i, sq_i2c, sq_i2b, sq_dupI, sq_dupR, sq_dup2, sq_pop, sq_iaload, sq_baload, sq_aaload, sq_iastore, sq_bastore, sq_alen, sq_ireturn, sq_lreturn, sq_return, wq_c, wq_n, wlq_s, lkp, tbl, dBk, nth, setL, canSet, cmpI, tk, swK, rdF, entL, catS, cat1, arg, rcv, ald, bld, aln, br, Ccopy, Cmax, Cmin, Cabs, List.take, List.drop, List.reverse, List.reverseAux, List.length, List.append, List.nil_append, List.cons_append, true_and, and_true, and_self, forall_const, true_implies, false_implies, not_true_eq_false, not_false_eq_true, Option.map, reduceCtorEq, reduceIte, or_true, true_or, false_or, or_false, false_and, and_false, List.map, List.append_nil, implies_true, yK, Nat.reduceBEq, beq_self_eq_true, Int.zero_ne_one, Nat.reduceDiv, Nat.reduceMod, Nat.reduceAdd, Nat.reduceSub, Nat.reduceMul, Nat.reduceEqDiff, Nat.reduceLeDiff, Int.reduceToNat, Int.reduceNeg, Int.reduceEq, Int.reduceLT, Int.reduceLE, Int.reduceNatCast, Int.reduceNatCast', Int.reduceAdd, Int.reduceSub, Int.reduceMul, eq_self, Prod.mk.injEq, A_X6_put, V_X6_put, B_X6_put, Y_X6_put, shpT, rfsT]
    repeat' (first | assumption | (intro _) | apply And.intro)
    all_goals first | omega | assumption | (apply hQ <;> first | rfl | omega | (simp [*]; done) | (simp [*]; omega)) | skip
def A_X6_isAsh : List (Nat × Ctr) := [(3, rcv 6 3 C_X6_kindOf)]
theorem e_X6_isAsh (o : OM) : Ev o Y_X6_isAsh 1 T_X6_isAsh A_X6_isAsh := ⟨rfl, fun _ h => absurd h List.not_mem_nil, fun _ h => absurd h List.not_mem_nil, fun _ h => absurd h List.not_mem_nil, fun _ h => absurd h List.not_mem_nil, List.forall_mem_cons.mpr ⟨cl_X6_kindOf (s_X6_kindOf o) (by decide) (Or.inl w_649), fun _ h => absurd h List.not_mem_nil⟩, fun _ h => absurd h List.not_mem_nil⟩
def C_X6_isAsh : Ctr := fun A σ κ => match A with
  | [.inr (.inr (.inl 1)), .inl p, .inl i] => (0 ≤ p ∧ p < 7 ∧ 0 ≤ i ∧ i < 16) ∧ br (σ 13 (p * 16 + i) = 5) κ σ
  | _ => False
set_option maxRecDepth 20000 in
theorem s_X6_isAsh (o : OM) : Sound o Y_X6_isAsh 1 C_X6_isAsh := by
  intro Q A σ hA hC
  match A, hA, hC with
  | [.inr (.inr (.inl 1)), .inl p, .inl i], hA, hC =>
    obtain ⟨h0, hq⟩ : (0 ≤ p ∧ p < 7 ∧ 0 ≤ i ∧ i < 16) ∧ br (σ 13 (p * 16 + i) = 5) Q σ := hC
    have hT : (σ 13 (p * 16 + i) = 5) → ∀ r_, r_ = 1 → Q [vI r_] σ := fun c_ r_ e => e ▸ hq.1 c_
    have hF : ¬ (σ 13 (p * 16 + i) = 5) → ∀ r_, r_ = 0 → Q [vI r_] σ := fun c_ r_ e => e ▸ hq.2 c_
    refine at_wpl (lv := V_X6_isAsh) (B := B_X6_isAsh) (e_X6_isAsh o) k_X6_isAsh 3 0 [] _ σ ?_
    simp only [sq_iconst, sq_jsr, sq_anewarray, sq_iload, sq_lload, sq_aload, sq_istore, sq_lstore, sq_astore, sq_iinc, sq_getfield, st_put0, st_put1, st_put3, sq_inv, sq_goto, sq_icmp, sq_ifc, sq_tsw, sq_iadd, sq_isub, sq_imul, sq_ineg, sq_idiv, sq_irem, sq_iand, sq_ior, sq_ixor, sq_ishl, sq_ishr, sq_iushr, sq_ladd, sq_lmul, sq_ldiv, sq_lrem, sq_land, sq_lor, sq_lshl, sq_lushr, sq_lcmp, sq_i2l, sq_l2i, sq_i2c, sq_i2b, sq_dupI, sq_dupR, sq_dup2, sq_pop, sq_iaload, sq_baload, sq_aaload, sq_iastore, sq_bastore, sq_alen, sq_ireturn, sq_lreturn, sq_return, wq_c, wq_n, wlq_s, lkp, tbl, dBk, nth, setL, canSet, cmpI, tk, swK, rdF, entL, catS, cat1, arg, rcv, ald, bld, aln, br, Ccopy, Cmax, Cmin, Cabs, List.take, List.drop, List.reverse, List.reverseAux, List.length, List.append, List.nil_append, List.cons_append, true_and, and_true, and_self, forall_const, true_implies, false_implies, not_true_eq_false, not_false_eq_true, Option.map, reduceCtorEq, reduceIte, or_true, true_or, false_or, or_false, false_and, and_false, List.map, List.append_nil, implies_true, yK, Nat.reduceBEq, beq_self_eq_true, Int.zero_ne_one, Nat.reduceDiv, Nat.reduceMod, Nat.reduceAdd, Nat.reduceSub, Nat.reduceMul, Nat.reduceEqDiff, Nat.reduceLeDiff, Int.reduceToNat, Int.reduceNeg, Int.reduceEq, Int.reduceLT, Int.reduceLE, Int.reduceNatCast, Int.reduceNatCast', Int.reduceAdd, Int.reduceSub, Int.reduceMul, eq_self, Prod.mk.injEq, A_X6_isAsh, V_X6_isAsh, B_X6_isAsh, Y_X6_isAsh, C_X6_kindOf, shpT, rfsT, C_X6_kindOf]
    repeat' (first | assumption | (intro _) | apply And.intro)
    all_goals first | omega | assumption | (apply hT <;> first | rfl | omega | assumption | (simp [C_X6_kindOf, *]; done)) | (apply hF <;> first | rfl | omega | assumption | (simp [C_X6_kindOf, *]; done)) | skip
def cmp3 (x y : Int) : Int := if x < y then -1 else if x = y then 0 else 1
theorem cmp3_in (x y : Int) : -1 ≤ cmp3 x y ∧ cmp3 x y ≤ 1 := by unfold cmp3; split <;> (try split) <;> omega
def A_J6_compare_7cf53 : List (Nat × Ctr) := []
theorem e_J6_compare_7cf53 (o : OM) : Ev o Y_J6_compare_7cf53 0 T_J6_compare_7cf53 A_J6_compare_7cf53 := ⟨rfl, fun _ h => absurd h List.not_mem_nil, fun _ h => absurd h List.not_mem_nil, fun _ h => absurd h List.not_mem_nil, fun _ h => absurd h List.not_mem_nil, fun _ h => absurd h List.not_mem_nil, fun _ h => absurd h List.not_mem_nil⟩
def C_J6_compare_7cf53 : Ctr := fun A σ κ => match A with
  | [.inl a, .inl b] => (True) ∧ κ [vI (cmp3 a b)] σ
  | _ => False
set_option maxRecDepth 20000 in
theorem s_J6_compare_7cf53 (o : OM) : Sound o Y_J6_compare_7cf53 0 C_J6_compare_7cf53 := by
  intro Q A σ hA hC
  match A, hA, hC with
  | [.inl a, .inl b], hA, hC =>
    obtain ⟨h0, hq⟩ : (True) ∧ Q [vI (cmp3 a b)] σ := hC
    have hQ : ∀ r_ τ, r_ = (cmp3 a b) → τ = (σ) → Q [vI r_] τ := fun r_ τ e e2 => e ▸ e2 ▸ hq
    refine at_wpl (lv := V_J6_compare_7cf53) (B := B_J6_compare_7cf53) (e_J6_compare_7cf53 o) k_J6_compare_7cf53 4 0 [] _ σ ?_
    simp only [sq_iconst, sq_jsr, sq_anewarray, sq_iload, sq_lload, sq_aload, sq_istore, sq_lstore, sq_astore, sq_iinc, sq_getfield, st_put0, st_put1, st_put3, sq_inv, sq_goto, sq_icmp, sq_ifc, sq_tsw, sq_iadd, sq_isub, sq_imul, sq_ineg, sq_idiv, sq_irem, sq_iand, sq_ior, sq_ixor, sq_ishl, sq_ishr, sq_iushr, sq_ladd, sq_lmul, sq_ldiv, sq_lrem, sq_land, sq_lor, sq_lshl, sq_lushr, sq_lcmp, sq_i2l, sq_l2i, sq_i2c, sq_i2b, sq_dupI, sq_dupR, sq_dup2, sq_pop, sq_iaload, sq_baload, sq_aaload, sq_iastore, sq_bastore, sq_alen, sq_ireturn, sq_lreturn, sq_return, wq_c, wq_n, wlq_s, lkp, tbl, dBk, nth, setL, canSet, cmpI, tk, swK, rdF, entL, catS, cat1, arg, rcv, ald, bld, aln, br, Ccopy, Cmax, Cmin, Cabs, List.take, List.drop, List.reverse, List.reverseAux, List.length, List.append, List.nil_append, List.cons_append, true_and, and_true, and_self, forall_const, true_implies, false_implies, not_true_eq_false, not_false_eq_true, Option.map, reduceCtorEq, reduceIte, or_true, true_or, false_or, or_false, false_and, and_false, List.map, List.append_nil, implies_true, yK, Nat.reduceBEq, beq_self_eq_true, Int.zero_ne_one, Nat.reduceDiv, Nat.reduceMod, Nat.reduceAdd, Nat.reduceSub, Nat.reduceMul, Nat.reduceEqDiff, Nat.reduceLeDiff, Int.reduceToNat, Int.reduceNeg, Int.reduceEq, Int.reduceLT, Int.reduceLE, Int.reduceNatCast, Int.reduceNatCast', Int.reduceAdd, Int.reduceSub, Int.reduceMul, eq_self, Prod.mk.injEq, A_J6_compare_7cf53, V_J6_compare_7cf53, B_J6_compare_7cf53, Y_J6_compare_7cf53, shpT, rfsT, cmp3]
    repeat' (first | assumption | (intro _) | apply And.intro)
    all_goals first | omega | assumption | (apply hQ <;> first | rfl | omega | (simp [cmp3, *]; done) | (simp [cmp3, *]; omega)) | skip
def A_X6_stepBetween : List (Nat × Ctr) := [(3, rcv 6 3 C_X6_thicknessOf), (2, arg 2 C_J6_compare_7cf53)]
theorem e_X6_stepBetween (o : OM) : Ev o Y_X6_stepBetween 1 T_X6_stepBetween A_X6_stepBetween := ⟨rfl, fun _ h => absurd h List.not_mem_nil, fun _ h => absurd h List.not_mem_nil, fun _ h => absurd h List.not_mem_nil, fun _ h => absurd h List.not_mem_nil, List.forall_mem_cons.mpr ⟨cl_X6_thicknessOf (s_X6_thicknessOf o) (by decide) (Or.inl w_435), fun _ h => absurd h List.not_mem_nil⟩, List.forall_mem_cons.mpr ⟨cl_J6_compare_7cf53 (s_J6_compare_7cf53 o) (by decide) (Or.inl w_436), fun _ h => absurd h List.not_mem_nil⟩⟩
def C_X6_stepBetween : Ctr := fun A σ κ => match A with
  | [.inr (.inr (.inl 1)), .inl p, .inl a, .inl i] => (0 ≤ p ∧ p < 7 ∧ 0 ≤ i ∧ i < 16 ∧ 0 ≤ a ∧ a < 16) ∧ κ [vI (cmp3 (σ 14 (p * 16 + i)) (σ 14 (p * 16 + a)))] σ
  | _ => False
set_option maxRecDepth 20000 in
theorem s_X6_stepBetween (o : OM) : Sound o Y_X6_stepBetween 1 C_X6_stepBetween := by
  intro Q A σ hA hC
  match A, hA, hC with
  | [.inr (.inr (.inl 1)), .inl p, .inl a, .inl i], hA, hC =>
    obtain ⟨h0, hq⟩ : (0 ≤ p ∧ p < 7 ∧ 0 ≤ i ∧ i < 16 ∧ 0 ≤ a ∧ a < 16) ∧ Q [vI (cmp3 (σ 14 (p * 16 + i)) (σ 14 (p * 16 + a)))] σ := hC
    have hQ : ∀ r_ τ, r_ = (cmp3 (σ 14 (p * 16 + i)) (σ 14 (p * 16 + a))) → τ = (σ) → Q [vI r_] τ := fun r_ τ e e2 => e ▸ e2 ▸ hq
    refine at_wpl (lv := V_X6_stepBetween) (B := B_X6_stepBetween) (e_X6_stepBetween o) k_X6_stepBetween 1 0 [] _ σ ?_
    simp only [sq_iconst, sq_jsr, sq_anewarray, sq_iload, sq_lload, sq_aload, sq_istore, sq_lstore, sq_astore, sq_iinc, sq_getfield, st_put0, st_put1, st_put3, sq_inv, sq_goto, sq_icmp, sq_ifc, sq_tsw, sq_iadd, sq_isub, sq_imul, sq_ineg, sq_idiv, sq_irem, sq_iand, sq_ior, sq_ixor, sq_ishl, sq_ishr, sq_iushr, sq_ladd, sq_lmul, sq_ldiv, sq_lrem, sq_land, sq_lor, sq_lshl, sq_lushr, sq_lcmp, sq_i2l, sq_l2i, sq_i2c, sq_i2b, sq_dupI, sq_dupR, sq_dup2, sq_pop, sq_iaload, sq_baload, sq_aaload, sq_iastore, sq_bastore, sq_alen, sq_ireturn, sq_lreturn, sq_return, wq_c, wq_n, wlq_s, lkp, tbl, dBk, nth, setL, canSet, cmpI, tk, swK, rdF, entL, catS, cat1, arg, rcv, ald, bld, aln, br, Ccopy, Cmax, Cmin, Cabs, List.take, List.drop, List.reverse, List.reverseAux, List.length, List.append, List.nil_append, List.cons_append, true_and, and_true, and_self, forall_const, true_implies, false_implies, not_true_eq_false, not_false_eq_true, Option.map, reduceCtorEq, reduceIte, or_true, true_or, false_or, or_false, false_and, and_false, List.map, List.append_nil, implies_true, yK, Nat.reduceBEq, beq_self_eq_true, Int.zero_ne_one, Nat.reduceDiv, Nat.reduceMod, Nat.reduceAdd, Nat.reduceSub, Nat.reduceMul, Nat.reduceEqDiff, Nat.reduceLeDiff, Int.reduceToNat, Int.reduceNeg, Int.reduceEq, Int.reduceLT, Int.reduceLE, Int.reduceNatCast, Int.reduceNatCast', Int.reduceAdd, Int.reduceSub, Int.reduceMul, eq_self, Prod.mk.injEq, A_X6_stepBetween, V_X6_stepBetween, B_X6_stepBetween, Y_X6_stepBetween, C_X6_thicknessOf, C_J6_compare_7cf53, shpT, rfsT]
    repeat' (first | assumption | (intro _) | apply And.intro)
    all_goals first | omega | assumption | (apply hQ <;> first | rfl | omega | (simp [*]; done) | (simp [*]; omega)) | skip
def A_X6_push : List (Nat × Ctr) := [(6, rcv 6 7 C_X6_put)]
theorem e_X6_push (o : OM) : Ev o Y_X6_push 1 T_X6_push A_X6_push := ⟨rfl, List.forall_mem_cons.mpr ⟨Or.inl f_X6_19, fun _ h => absurd h List.not_mem_nil⟩, fun _ h => absurd h List.not_mem_nil, fun _ h => absurd h List.not_mem_nil, fun _ h => absurd h List.not_mem_nil, List.forall_mem_cons.mpr ⟨cl_X6_put (s_X6_put o) (by decide) (Or.inl w_375), fun _ h => absurd h List.not_mem_nil⟩, fun _ h => absurd h List.not_mem_nil⟩
def C_X6_push : Ctr := fun A σ κ => match A with
  | [.inr (.inr (.inl 1)), .inl p, .inl c, .inl t, .inl n] => (0 ≤ p ∧ p < 7 ∧ 0 ≤ σ 12 p) ∧ κ [] (if σ 12 p < 16 then su (su (su (su σ 12 p (σ 12 p + 1)) 13 (p * 16 + σ 12 p) c) 14 (p * 16 + σ 12 p) t) 15 (p * 16 + σ 12 p) n else σ)
  | _ => False
set_option maxRecDepth 20000 in
theorem s_X6_push (o : OM) : Sound o Y_X6_push 1 C_X6_push := by
  intro Q A σ hA hC
  match A, hA, hC with
  | [.inr (.inr (.inl 1)), .inl p, .inl c, .inl t, .inl n], hA, hC =>
    obtain ⟨h0, hq⟩ : (0 ≤ p ∧ p < 7 ∧ 0 ≤ σ 12 p) ∧ Q [] (if σ 12 p < 16 then su (su (su (su σ 12 p (σ 12 p + 1)) 13 (p * 16 + σ 12 p) c) 14 (p * 16 + σ 12 p) t) 15 (p * 16 + σ 12 p) n else σ) := hC
    have hQ : ∀ τ, τ = (if σ 12 p < 16 then su (su (su (su σ 12 p (σ 12 p + 1)) 13 (p * 16 + σ 12 p) c) 14 (p * 16 + σ 12 p) t) 15 (p * 16 + σ 12 p) n else σ) → Q [] τ := fun τ e2 => e2 ▸ hq
    refine at_wpl (lv := V_X6_push) (B := B_X6_push) (e_X6_push o) k_X6_push 2 0 [] _ σ ?_
    simp only [sq_iconst, sq_jsr, sq_anewarray, sq_iload, sq_lload, sq_aload, sq_istore, sq_lstore, sq_astore, sq_iinc, sq_getfield, st_put0, st_put1, st_put3, sq_inv, sq_goto, sq_icmp, sq_ifc, sq_tsw, sq_iadd, sq_isub, sq_imul, sq_ineg, sq_idiv, sq_irem, sq_iand, sq_ior, sq_ixor, sq_ishl, sq_ishr, sq_iushr, sq_ladd, sq_lmul, sq_ldiv, sq_lrem, sq_land, sq_lor, sq_lshl, sq_lushr, sq_lcmp, sq_i2l, sq_l2i, sq_i2c, sq_i2b, sq_dupI, sq_dupR, sq_dup2, sq_pop, sq_iaload, sq_baload, sq_aaload, sq_iastore, sq_bastore, sq_alen, sq_ireturn, sq_lreturn, sq_return, wq_c, wq_n, wlq_s, lkp, tbl, dBk, nth, setL, canSet, cmpI, tk, swK, rdF, entL, catS, cat1, arg, rcv, ald, bld, aln, br, Ccopy, Cmax, Cmin, Cabs, List.take, List.drop, List.reverse, List.reverseAux, List.length, List.append, List.nil_append, List.cons_append, true_and, and_true, and_self, forall_const, true_implies, false_implies, not_true_eq_false, not_false_eq_true, Option.map, reduceCtorEq, reduceIte, or_true, true_or, false_or, or_false, false_and, and_false, List.map, List.append_nil, implies_true, yK, Nat.reduceBEq, beq_self_eq_true, Int.zero_ne_one, Nat.reduceDiv, Nat.reduceMod, Nat.reduceAdd, Nat.reduceSub, Nat.reduceMul, Nat.reduceEqDiff, Nat.reduceLeDiff, Int.reduceToNat, Int.reduceNeg, Int.reduceEq, Int.reduceLT, Int.reduceLE, Int.reduceNatCast, Int.reduceNatCast', Int.reduceAdd, Int.reduceSub, Int.reduceMul, eq_self, Prod.mk.injEq, A_X6_push, V_X6_push, B_X6_push, Y_X6_push, C_X6_put, shpT, rfsT, su]
    repeat' (first | assumption | (intro _) | apply And.intro)
    all_goals first | omega | assumption | (apply hQ <;> first | rfl | omega | (simp [su, *]; done) | (simp [su, *]; omega)) | skip
def A_X8_isRange : List (Nat × Ctr) := [(3, arg 3 C_X8_isWithin)]
theorem e_X8_isRange (o : OM) : Ev o Y_X8_isRange 1 T_X8_isRange A_X8_isRange := ⟨rfl, fun _ h => absurd h List.not_mem_nil, fun _ h => absurd h List.not_mem_nil, fun _ h => absurd h List.not_mem_nil, fun _ h => absurd h List.not_mem_nil, fun _ h => absurd h List.not_mem_nil, List.forall_mem_cons.mpr ⟨cl_X8_isWithin (s_X8_isWithin o) (by decide) (Or.inl w_353), fun _ h => absurd h List.not_mem_nil⟩⟩
def C_X8_isRange : Ctr := fun A σ κ => match A with
  | [.inl a, .inl b, .inl z] => (0 ≤ z ∧ z ≤ 9999) ∧ br (-z ≤ a ∧ a ≤ z ∧ a ≤ b ∧ b ≤ z) κ σ
  | _ => False
set_option maxRecDepth 20000 in
theorem s_X8_isRange (o : OM) : Sound o Y_X8_isRange 1 C_X8_isRange := by
  intro Q A σ hA hC
  match A, hA, hC with
  | [.inl a, .inl b, .inl z], hA, hC =>
    obtain ⟨h0, hq⟩ : (0 ≤ z ∧ z ≤ 9999) ∧ br (-z ≤ a ∧ a ≤ z ∧ a ≤ b ∧ b ≤ z) Q σ := hC
    have hT : (-z ≤ a ∧ a ≤ z ∧ a ≤ b ∧ b ≤ z) → ∀ r_, r_ = 1 → Q [vI r_] σ := fun c_ r_ e => e ▸ hq.1 c_
    have hF : ¬ (-z ≤ a ∧ a ≤ z ∧ a ≤ b ∧ b ≤ z) → ∀ r_, r_ = 0 → Q [vI r_] σ := fun c_ r_ e => e ▸ hq.2 c_
    refine at_wpl (lv := V_X8_isRange) (B := B_X8_isRange) (e_X8_isRange o) k_X8_isRange 3 0 [] _ σ ?_
    simp only [sq_iconst, sq_jsr, sq_anewarray, sq_iload, sq_lload, sq_aload, sq_istore, sq_lstore, sq_astore, sq_iinc, sq_getfield, st_put0, st_put1, st_put3, sq_inv, sq_goto, sq_icmp, sq_ifc, sq_tsw, sq_iadd, sq_isub, sq_imul, sq_ineg, sq_idiv, sq_irem, sq_iand, sq_ior, sq_ixor, sq_ishl, sq_ishr, sq_iushr, sq_ladd, sq_lmul, sq_ldiv, sq_lrem, sq_land, sq_lor, sq_lshl, sq_lushr, sq_lcmp, sq_i2l, sq_l2i, sq_i2c, sq_i2b, sq_dupI, sq_dupR, sq_dup2, sq_pop, sq_iaload, sq_baload, sq_aaload, sq_iastore, sq_bastore, sq_alen, sq_ireturn, sq_lreturn, sq_return, wq_c, wq_n, wlq_s, lkp, tbl, dBk, nth, setL, canSet, cmpI, tk, swK, rdF, entL, catS, cat1, arg, rcv, ald, bld, aln, br, Ccopy, Cmax, Cmin, Cabs, List.take, List.drop, List.reverse, List.reverseAux, List.length, List.append, List.nil_append, List.cons_append, true_and, and_true, and_self, forall_const, true_implies, false_implies, not_true_eq_false, not_false_eq_true, Option.map, reduceCtorEq, reduceIte, or_true, true_or, false_or, or_false, false_and, and_false, List.map, List.append_nil, implies_true, yK, Nat.reduceBEq, beq_self_eq_true, Int.zero_ne_one, Nat.reduceDiv, Nat.reduceMod, Nat.reduceAdd, Nat.reduceSub, Nat.reduceMul, Nat.reduceEqDiff, Nat.reduceLeDiff, Int.reduceToNat, Int.reduceNeg, Int.reduceEq, Int.reduceLT, Int.reduceLE, Int.reduceNatCast, Int.reduceNatCast', Int.reduceAdd, Int.reduceSub, Int.reduceMul, eq_self, Prod.mk.injEq, A_X8_isRange, V_X8_isRange, B_X8_isRange, Y_X8_isRange, C_X8_isWithin, shpT, rfsT]
    repeat' (first | assumption | (intro _) | apply And.intro)
    all_goals first | omega | assumption | (apply hT <;> first | rfl | omega | assumption | (simp [*]; done)) | (apply hF <;> first | rfl | omega | assumption | (simp [*]; done)) | skip
def A_X8_isSlide : List (Nat × Ctr) := [(3, arg 3 C_X8_isWithin)]
theorem e_X8_isSlide (o : OM) : Ev o Y_X8_isSlide 1 T_X8_isSlide A_X8_isSlide := ⟨rfl, fun _ h => absurd h List.not_mem_nil, fun _ h => absurd h List.not_mem_nil, fun _ h => absurd h List.not_mem_nil, fun _ h => absurd h List.not_mem_nil, fun _ h => absurd h List.not_mem_nil, List.forall_mem_cons.mpr ⟨cl_X8_isWithin (s_X8_isWithin o) (by decide) (Or.inl w_353), fun _ h => absurd h List.not_mem_nil⟩⟩
def C_X8_isSlide : Ctr := fun A σ κ => match A with
  | [.inl a] => (True) ∧ br (-15 ≤ a ∧ a ≤ 15) κ σ
  | _ => False
set_option maxRecDepth 20000 in
theorem s_X8_isSlide (o : OM) : Sound o Y_X8_isSlide 1 C_X8_isSlide := by
  intro Q A σ hA hC
  match A, hA, hC with
  | [.inl a], hA, hC =>
    obtain ⟨h0, hq⟩ : (True) ∧ br (-15 ≤ a ∧ a ≤ 15) Q σ := hC
    have hT : (-15 ≤ a ∧ a ≤ 15) → ∀ r_, r_ = 1 → Q [vI r_] σ := fun c_ r_ e => e ▸ hq.1 c_
    have hF : ¬ (-15 ≤ a ∧ a ≤ 15) → ∀ r_, r_ = 0 → Q [vI r_] σ := fun c_ r_ e => e ▸ hq.2 c_
    refine at_wpl (lv := V_X8_isSlide) (B := B_X8_isSlide) (e_X8_isSlide o) k_X8_isSlide 1 0 [] _ σ ?_
    simp only [sq_iconst, sq_jsr, sq_anewarray, sq_iload, sq_lload, sq_aload, sq_istore, sq_lstore, sq_astore, sq_iinc, sq_getfield, st_put0, st_put1, st_put3, sq_inv, sq_goto, sq_icmp, sq_ifc, sq_tsw, sq_iadd, sq_isub, sq_imul, sq_ineg, sq_idiv, sq_irem, sq_iand, sq_ior, sq_ixor, sq_ishl, sq_ishr, sq_iushr, sq_ladd, sq_lmul, sq_ldiv, sq_lrem, sq_land, sq_lor, sq_lshl, sq_lushr, sq_lcmp, sq_i2l, sq_l2i, sq_i2c, sq_i2b, sq_dupI, sq_dupR, sq_dup2, sq_pop, sq_iaload, sq_baload, sq_aaload, sq_iastore, sq_bastore, sq_alen, sq_ireturn, sq_lreturn, sq_return, wq_c, wq_n, wlq_s, lkp, tbl, dBk, nth, setL, canSet, cmpI, tk, swK, rdF, entL, catS, cat1, arg, rcv, ald, bld, aln, br, Ccopy, Cmax, Cmin, Cabs, List.take, List.drop, List.reverse, List.reverseAux, List.length, List.append, List.nil_append, List.cons_append, true_and, and_true, and_self, forall_const, true_implies, false_implies, not_true_eq_false, not_false_eq_true, Option.map, reduceCtorEq, reduceIte, or_true, true_or, false_or, or_false, false_and, and_false, List.map, List.append_nil, implies_true, yK, Nat.reduceBEq, beq_self_eq_true, Int.zero_ne_one, Nat.reduceDiv, Nat.reduceMod, Nat.reduceAdd, Nat.reduceSub, Nat.reduceMul, Nat.reduceEqDiff, Nat.reduceLeDiff, Int.reduceToNat, Int.reduceNeg, Int.reduceEq, Int.reduceLT, Int.reduceLE, Int.reduceNatCast, Int.reduceNatCast', Int.reduceAdd, Int.reduceSub, Int.reduceMul, eq_self, Prod.mk.injEq, A_X8_isSlide, V_X8_isSlide, B_X8_isSlide, Y_X8_isSlide, C_X8_isWithin, shpT, rfsT]
    repeat' (first | assumption | (intro _) | apply And.intro)
    all_goals first | omega | assumption | (apply hT <;> first | rfl | omega | assumption | (simp [*]; done)) | (apply hF <;> first | rfl | omega | assumption | (simp [*]; done)) | skip
def A_X8_isLeafAsTold : List (Nat × Ctr) := [(3, arg 3 C_X8_isWithin)]
theorem e_X8_isLeafAsTold (o : OM) : Ev o Y_X8_isLeafAsTold 1 T_X8_isLeafAsTold A_X8_isLeafAsTold := ⟨rfl, fun _ h => absurd h List.not_mem_nil, fun _ h => absurd h List.not_mem_nil, fun _ h => absurd h List.not_mem_nil, fun _ h => absurd h List.not_mem_nil, fun _ h => absurd h List.not_mem_nil, List.forall_mem_cons.mpr ⟨cl_X8_isWithin (s_X8_isWithin o) (by decide) (Or.inl w_353), fun _ h => absurd h List.not_mem_nil⟩⟩
def C_X8_isLeafAsTold : Ctr := fun A σ κ => match A with
  | [.inl c, .inl t, .inl n] => (True) ∧ br ((0 ≤ c ∧ c ≤ 6) ∧ (1 ≤ t ∧ t ≤ 99) ∧ (0 ≤ n ∧ n ≤ 9)) κ σ
  | _ => False
set_option maxRecDepth 20000 in
theorem s_X8_isLeafAsTold (o : OM) : Sound o Y_X8_isLeafAsTold 1 C_X8_isLeafAsTold := by
  intro Q A σ hA hC
  match A, hA, hC with
  | [.inl c, .inl t, .inl n], hA, hC =>
    obtain ⟨h0, hq⟩ : (True) ∧ br ((0 ≤ c ∧ c ≤ 6) ∧ (1 ≤ t ∧ t ≤ 99) ∧ (0 ≤ n ∧ n ≤ 9)) Q σ := hC
    have hT : ((0 ≤ c ∧ c ≤ 6) ∧ (1 ≤ t ∧ t ≤ 99) ∧ (0 ≤ n ∧ n ≤ 9)) → ∀ r_, r_ = 1 → Q [vI r_] σ := fun c_ r_ e => e ▸ hq.1 c_
    have hF : ¬ ((0 ≤ c ∧ c ≤ 6) ∧ (1 ≤ t ∧ t ≤ 99) ∧ (0 ≤ n ∧ n ≤ 9)) → ∀ r_, r_ = 0 → Q [vI r_] σ := fun c_ r_ e => e ▸ hq.2 c_
    refine at_wpl (lv := V_X8_isLeafAsTold) (B := B_X8_isLeafAsTold) (e_X8_isLeafAsTold o) k_X8_isLeafAsTold 3 0 [] _ σ ?_
    simp only [sq_iconst, sq_jsr, sq_anewarray, sq_iload, sq_lload, sq_aload, sq_istore, sq_lstore, sq_astore, sq_iinc, sq_getfield, st_put0, st_put1, st_put3, sq_inv, sq_goto, sq_icmp, sq_ifc, sq_tsw, sq_iadd, sq_isub, sq_imul, sq_ineg, sq_idiv, sq_irem, sq_iand, sq_ior, sq_ixor, sq_ishl, sq_ishr, sq_iushr, sq_ladd, sq_lmul, sq_ldiv, sq_lrem, sq_land, sq_lor, sq_lshl, sq_lushr, sq_lcmp, sq_i2l, sq_l2i, sq_i2c, sq_i2b, sq_dupI, sq_dupR, sq_dup2, sq_pop, sq_iaload, sq_baload, sq_aaload, sq_iastore, sq_bastore, sq_alen, sq_ireturn, sq_lreturn, sq_return, wq_c, wq_n, wlq_s, lkp, tbl, dBk, nth, setL, canSet, cmpI, tk, swK, rdF, entL, catS, cat1, arg, rcv, ald, bld, aln, br, Ccopy, Cmax, Cmin, Cabs, List.take, List.drop, List.reverse, List.reverseAux, List.length, List.append, List.nil_append, List.cons_append, true_and, and_true, and_self, forall_const, true_implies, false_implies, not_true_eq_false, not_false_eq_true, Option.map, reduceCtorEq, reduceIte, or_true, true_or, false_or, or_false, false_and, and_false, List.map, List.append_nil, implies_true, yK, Nat.reduceBEq, beq_self_eq_true, Int.zero_ne_one, Nat.reduceDiv, Nat.reduceMod, Nat.reduceAdd, Nat.reduceSub, Nat.reduceMul, Nat.reduceEqDiff, Nat.reduceLeDiff, Int.reduceToNat, Int.reduceNeg, Int.reduceEq, Int.reduceLT, Int.reduceLE, Int.reduceNatCast, Int.reduceNatCast', Int.reduceAdd, Int.reduceSub, Int.reduceMul, eq_self, Prod.mk.injEq, A_X8_isLeafAsTold, V_X8_isLeafAsTold, B_X8_isLeafAsTold, Y_X8_isLeafAsTold, C_X8_isWithin, shpT, rfsT]
    repeat' (first | assumption | (intro _) | apply And.intro)
    all_goals first | omega | assumption | (apply hT <;> first | rfl | omega | assumption | (simp [*]; done)) | (apply hF <;> first | rfl | omega | assumption | (simp [*]; done)) | skip
def A_X8_isOfKind : List (Nat × Ctr) := []
theorem e_X8_isOfKind (o : OM) : Ev o Y_X8_isOfKind 0 T_X8_isOfKind A_X8_isOfKind := ⟨rfl, fun _ h => absurd h List.not_mem_nil, fun _ h => absurd h List.not_mem_nil, fun _ h => absurd h List.not_mem_nil, fun _ h => absurd h List.not_mem_nil, fun _ h => absurd h List.not_mem_nil, fun _ h => absurd h List.not_mem_nil⟩
def C_X8_isOfKind : Ctr := fun A σ κ => match A with
  | [.inl w, .inl c] => (True) ∧ br (c = w ∨ c = 0 ∨ (w = 5 ∧ c = 1) ∨ (w = 4 ∧ c = 6)) κ σ
  | _ => False
set_option maxRecDepth 20000 in
theorem s_X8_isOfKind (o : OM) : Sound o Y_X8_isOfKind 0 C_X8_isOfKind := by
  intro Q A σ hA hC
  match A, hA, hC with
  | [.inl w, .inl c], hA, hC =>
    obtain ⟨h0, hq⟩ : (True) ∧ br (c = w ∨ c = 0 ∨ (w = 5 ∧ c = 1) ∨ (w = 4 ∧ c = 6)) Q σ := hC
    have hT : (c = w ∨ c = 0 ∨ (w = 5 ∧ c = 1) ∨ (w = 4 ∧ c = 6)) → ∀ r_, r_ = 1 → Q [vI r_] σ := fun c_ r_ e => e ▸ hq.1 c_
    have hF : ¬ (c = w ∨ c = 0 ∨ (w = 5 ∧ c = 1) ∨ (w = 4 ∧ c = 6)) → ∀ r_, r_ = 0 → Q [vI r_] σ := fun c_ r_ e => e ▸ hq.2 c_
    refine at_wpl (lv := V_X8_isOfKind) (B := B_X8_isOfKind) (e_X8_isOfKind o) k_X8_isOfKind 4 0 [] _ σ ?_
    simp only [sq_iconst, sq_jsr, sq_anewarray, sq_iload, sq_lload, sq_aload, sq_istore, sq_lstore, sq_astore, sq_iinc, sq_getfield, st_put0, st_put1, st_put3, sq_inv, sq_goto, sq_icmp, sq_ifc, sq_tsw, sq_iadd, sq_isub, sq_imul, sq_ineg, sq_idiv, sq_irem, sq_iand, sq_ior, sq_ixor, sq_ishl, sq_ishr, sq_iushr, sq_ladd, sq_lmul, sq_ldiv, sq_lrem, sq_land, sq_lor, sq_lshl, sq_lushr, sq_lcmp, sq_i2l, sq_l2i, sq_i2c, sq_i2b, sq_dupI, sq_dupR, sq_dup2, sq_pop, sq_iaload, sq_baload, sq_aaload, sq_iastore, sq_bastore, sq_alen, sq_ireturn, sq_lreturn, sq_return, wq_c, wq_n, wlq_s, lkp, tbl, dBk, nth, setL, canSet, cmpI, tk, swK, rdF, entL, catS, cat1, arg, rcv, ald, bld, aln, br, Ccopy, Cmax, Cmin, Cabs, List.take, List.drop, List.reverse, List.reverseAux, List.length, List.append, List.nil_append, List.cons_append, true_and, and_true, and_self, forall_const, true_implies, false_implies, not_true_eq_false, not_false_eq_true, Option.map, reduceCtorEq, reduceIte, or_true, true_or, false_or, or_false, false_and, and_false, List.map, List.append_nil, implies_true, yK, Nat.reduceBEq, beq_self_eq_true, Int.zero_ne_one, Nat.reduceDiv, Nat.reduceMod, Nat.reduceAdd, Nat.reduceSub, Nat.reduceMul, Nat.reduceEqDiff, Nat.reduceLeDiff, Int.reduceToNat, Int.reduceNeg, Int.reduceEq, Int.reduceLT, Int.reduceLE, Int.reduceNatCast, Int.reduceNatCast', Int.reduceAdd, Int.reduceSub, Int.reduceMul, eq_self, Prod.mk.injEq, A_X8_isOfKind, V_X8_isOfKind, B_X8_isOfKind, Y_X8_isOfKind, shpT, rfsT]
    repeat' (first | assumption | (intro _) | apply And.intro)
    all_goals first | omega | assumption | (apply hT <;> first | rfl | omega | assumption | (simp [*]; done)) | (apply hF <;> first | rfl | omega | assumption | (simp [*]; done)) | skip
def A_X8_asNumber : List (Nat × Ctr) := []
theorem e_X8_asNumber (o : OM) : Ev o Y_X8_asNumber 0 T_X8_asNumber A_X8_asNumber := ⟨rfl, fun _ h => absurd h List.not_mem_nil, fun _ h => absurd h List.not_mem_nil, fun _ h => absurd h List.not_mem_nil, fun _ h => absurd h List.not_mem_nil, fun _ h => absurd h List.not_mem_nil, fun _ h => absurd h List.not_mem_nil⟩
def C_X8_asNumber : Ctr := fun A σ κ => match A with
  | [.inl b] => (b = 0 ∨ b = 1) ∧ κ [vI (b)] σ
  | _ => False
set_option maxRecDepth 20000 in
theorem s_X8_asNumber (o : OM) : Sound o Y_X8_asNumber 0 C_X8_asNumber := by
  intro Q A σ hA hC
  match A, hA, hC with
  | [.inl b], hA, hC =>
    obtain ⟨h0, hq⟩ : (b = 0 ∨ b = 1) ∧ Q [vI (b)] σ := hC
    have hQ : ∀ r_ τ, r_ = (b) → τ = (σ) → Q [vI r_] τ := fun r_ τ e e2 => e ▸ e2 ▸ hq
    refine at_wpl (lv := V_X8_asNumber) (B := B_X8_asNumber) (e_X8_asNumber o) k_X8_asNumber 3 0 [] _ σ ?_
    simp only [sq_iconst, sq_jsr, sq_anewarray, sq_iload, sq_lload, sq_aload, sq_istore, sq_lstore, sq_astore, sq_iinc, sq_getfield, st_put0, st_put1, st_put3, sq_inv, sq_goto, sq_icmp, sq_ifc, sq_tsw, sq_iadd, sq_isub, sq_imul, sq_ineg, sq_idiv, sq_irem, sq_iand, sq_ior, sq_ixor, sq_ishl, sq_ishr, sq_iushr, sq_ladd, sq_lmul, sq_ldiv, sq_lrem, sq_land, sq_lor, sq_lshl, sq_lushr, sq_lcmp, sq_i2l, sq_l2i, sq_i2c, sq_i2b, sq_dupI, sq_dupR, sq_dup2, sq_pop, sq_iaload, sq_baload, sq_aaload, sq_iastore, sq_bastore, sq_alen, sq_ireturn, sq_lreturn, sq_return, wq_c, wq_n, wlq_s, lkp, tbl, dBk, nth, setL, canSet, cmpI, tk, swK, rdF, entL, catS, cat1, arg, rcv, ald, bld, aln, br, Ccopy, Cmax, Cmin, Cabs, List.take, List.drop, List.reverse, List.reverseAux, List.length, List.append, List.nil_append, List.cons_append, true_and, and_true, and_self, forall_const, true_implies, false_implies, not_true_eq_false, not_false_eq_true, Option.map, reduceCtorEq, reduceIte, or_true, true_or, false_or, or_false, false_and, and_false, List.map, List.append_nil, implies_true, yK, Nat.reduceBEq, beq_self_eq_true, Int.zero_ne_one, Nat.reduceDiv, Nat.reduceMod, Nat.reduceAdd, Nat.reduceSub, Nat.reduceMul, Nat.reduceEqDiff, Nat.reduceLeDiff, Int.reduceToNat, Int.reduceNeg, Int.reduceEq, Int.reduceLT, Int.reduceLE, Int.reduceNatCast, Int.reduceNatCast', Int.reduceAdd, Int.reduceSub, Int.reduceMul, eq_self, Prod.mk.injEq, A_X8_asNumber, V_X8_asNumber, B_X8_asNumber, Y_X8_asNumber, shpT, rfsT]
    repeat' (first | assumption | (intro _) | apply And.intro)
    all_goals first | omega | assumption | (apply hQ <;> first | rfl | omega | (simp [*]; done) | (simp [*]; omega)) | skip
def A_X8_fold : List (Nat × Ctr) := []
theorem e_X8_fold (o : OM) : Ev o Y_X8_fold 0 T_X8_fold A_X8_fold := ⟨rfl, fun _ h => absurd h List.not_mem_nil, fun _ h => absurd h List.not_mem_nil, List.forall_mem_cons.mpr ⟨⟨w_1064, by decide, by decide⟩, fun _ h => absurd h List.not_mem_nil⟩, fun _ h => absurd h List.not_mem_nil, fun _ h => absurd h List.not_mem_nil, fun _ h => absurd h List.not_mem_nil⟩
def C_X8_fold : Ctr := fun A σ κ => match A with
  | [.inr (.inl h), .inr (.inl v)] => (True) ∧ κ [vL (w64 (w64 (31 * h) + v))] σ
  | _ => False
set_option maxRecDepth 20000 in
theorem s_X8_fold (o : OM) : Sound o Y_X8_fold 0 C_X8_fold := by
  intro Q A σ hA hC
  match A, hA, hC with
  | [.inr (.inl h), .inr (.inl v)], hA, hC =>
    obtain ⟨h0, hq⟩ : (True) ∧ Q [vL (w64 (w64 (31 * h) + v))] σ := hC
    have hQ : ∀ r_ τ, r_ = (w64 (w64 (31 * h) + v)) → τ = (σ) → Q [vL r_] τ := fun r_ τ e e2 => e ▸ e2 ▸ hq
    refine at_wpl (lv := V_X8_fold) (B := B_X8_fold) (e_X8_fold o) k_X8_fold 1 0 [] _ σ ?_
    simp only [sq_iconst, sq_jsr, sq_anewarray, sq_iload, sq_lload, sq_aload, sq_istore, sq_lstore, sq_astore, sq_iinc, sq_getfield, st_put0, st_put1, st_put3, sq_inv, sq_goto, sq_icmp, sq_ifc, sq_tsw, sq_iadd, sq_isub, sq_imul, sq_ineg, sq_idiv, sq_irem, sq_iand, sq_ior, sq_ixor, sq_ishl, sq_ishr, sq_iushr, sq_ladd, sq_lmul, sq_ldiv, sq_lrem, sq_land, sq_lor, sq_lshl, sq_lushr, sq_lcmp, sq_i2l, sq_l2i, sq_i2c, sq_i2b, sq_dupI, sq_dupR, sq_dup2, sq_pop, sq_iaload, sq_baload, sq_aaload, sq_iastore, sq_bastore, sq_alen, sq_ireturn, sq_lreturn, sq_return, wq_c, wq_n, wlq_s, lkp, tbl, dBk, nth, setL, canSet, cmpI, tk, swK, rdF, entL, catS, cat1, arg, rcv, ald, bld, aln, br, Ccopy, Cmax, Cmin, Cabs, List.take, List.drop, List.reverse, List.reverseAux, List.length, List.append, List.nil_append, List.cons_append, true_and, and_true, and_self, forall_const, true_implies, false_implies, not_true_eq_false, not_false_eq_true, Option.map, reduceCtorEq, reduceIte, or_true, true_or, false_or, or_false, false_and, and_false, List.map, List.append_nil, implies_true, yK, Nat.reduceBEq, beq_self_eq_true, Int.zero_ne_one, Nat.reduceDiv, Nat.reduceMod, Nat.reduceAdd, Nat.reduceSub, Nat.reduceMul, Nat.reduceEqDiff, Nat.reduceLeDiff, Int.reduceToNat, Int.reduceNeg, Int.reduceEq, Int.reduceLT, Int.reduceLE, Int.reduceNatCast, Int.reduceNatCast', Int.reduceAdd, Int.reduceSub, Int.reduceMul, eq_self, Prod.mk.injEq, A_X8_fold, V_X8_fold, B_X8_fold, Y_X8_fold, shpT, rfsT]
    repeat' (first | assumption | (intro _) | apply And.intro)
    all_goals first | omega | assumption | (apply hQ <;> first | rfl | omega | (simp [*]; done) | (simp [*]; omega)) | skip
def A_X8_byteOf : List (Nat × Ctr) := []
theorem e_X8_byteOf (o : OM) : Ev o Y_X8_byteOf 0 T_X8_byteOf A_X8_byteOf := ⟨rfl, fun _ h => absurd h List.not_mem_nil, fun _ h => absurd h List.not_mem_nil, fun _ h => absurd h List.not_mem_nil, fun _ h => absurd h List.not_mem_nil, fun _ h => absurd h List.not_mem_nil, fun _ h => absurd h List.not_mem_nil⟩
def C_X8_byteOf : Ctr := fun A σ κ => match A with
  | [.inr (.inl w), .inl p] => (0 ≤ p ∧ p < 8) ∧ κ [vI (bAnd (w32 (lUshr w (8 * p))) 255)] σ
  | _ => False
set_option maxRecDepth 20000 in
theorem s_X8_byteOf (o : OM) : Sound o Y_X8_byteOf 0 C_X8_byteOf := by
  intro Q A σ hA hC
  match A, hA, hC with
  | [.inr (.inl w), .inl p], hA, hC =>
    obtain ⟨h0, hq⟩ : (0 ≤ p ∧ p < 8) ∧ Q [vI (bAnd (w32 (lUshr w (8 * p))) 255)] σ := hC
    have hQ : ∀ r_ τ, r_ = (bAnd (w32 (lUshr w (8 * p))) 255) → τ = (σ) → Q [vI r_] τ := fun r_ τ e e2 => e ▸ e2 ▸ hq
    refine at_wpl (lv := V_X8_byteOf) (B := B_X8_byteOf) (e_X8_byteOf o) k_X8_byteOf 1 0 [] _ σ ?_
    simp only [sq_iconst, sq_jsr, sq_anewarray, sq_iload, sq_lload, sq_aload, sq_istore, sq_lstore, sq_astore, sq_iinc, sq_getfield, st_put0, st_put1, st_put3, sq_inv, sq_goto, sq_icmp, sq_ifc, sq_tsw, sq_iadd, sq_isub, sq_imul, sq_ineg, sq_idiv, sq_irem, sq_iand, sq_ior, sq_ixor, sq_ishl, sq_ishr, sq_iushr, sq_ladd, sq_lmul, sq_ldiv, sq_lrem, sq_land, sq_lor, sq_lshl, sq_lushr, sq_lcmp, sq_i2l, sq_l2i, sq_i2c, sq_i2b, sq_dupI, sq_dupR, sq_dup2, sq_pop, sq_iaload, sq_baload, sq_aaload, sq_iastore, sq_bastore, sq_alen, sq_ireturn, sq_lreturn, sq_return, wq_c, wq_n, wlq_s, lkp, tbl, dBk, nth, setL, canSet, cmpI, tk, swK, rdF, entL, catS, cat1, arg, rcv, ald, bld, aln, br, Ccopy, Cmax, Cmin, Cabs, List.take, List.drop, List.reverse, List.reverseAux, List.length, List.append, List.nil_append, List.cons_append, true_and, and_true, and_self, forall_const, true_implies, false_implies, not_true_eq_false, not_false_eq_true, Option.map, reduceCtorEq, reduceIte, or_true, true_or, false_or, or_false, false_and, and_false, List.map, List.append_nil, implies_true, yK, Nat.reduceBEq, beq_self_eq_true, Int.zero_ne_one, Nat.reduceDiv, Nat.reduceMod, Nat.reduceAdd, Nat.reduceSub, Nat.reduceMul, Nat.reduceEqDiff, Nat.reduceLeDiff, Int.reduceToNat, Int.reduceNeg, Int.reduceEq, Int.reduceLT, Int.reduceLE, Int.reduceNatCast, Int.reduceNatCast', Int.reduceAdd, Int.reduceSub, Int.reduceMul, eq_self, Prod.mk.injEq, A_X8_byteOf, V_X8_byteOf, B_X8_byteOf, Y_X8_byteOf, shpT, rfsT]
    repeat' (first | assumption | (intro _) | apply And.intro)
    all_goals first | omega | assumption | (apply hQ <;> first | rfl | omega | (simp [*]; done) | (simp [*]; omega)) | skip
def A_X8_seedAfter : List (Nat × Ctr) := []
theorem e_X8_seedAfter (o : OM) : Ev o Y_X8_seedAfter 0 T_X8_seedAfter A_X8_seedAfter := ⟨rfl, fun _ h => absurd h List.not_mem_nil, fun _ h => absurd h List.not_mem_nil, List.forall_mem_cons.mpr ⟨⟨w_451, by decide, by decide⟩, List.forall_mem_cons.mpr ⟨⟨w_452, by decide, by decide⟩, List.forall_mem_cons.mpr ⟨⟨w_453, by decide, by decide⟩, fun _ h => absurd h List.not_mem_nil⟩⟩⟩, fun _ h => absurd h List.not_mem_nil, fun _ h => absurd h List.not_mem_nil, fun _ h => absurd h List.not_mem_nil⟩
def C_X8_seedAfter : Ctr := fun A σ κ => match A with
  | [.inr (.inl w)] => (True) ∧ κ [vL (lAnd (w64 (w64 (1103515245 * w) + 12345)) 2147483647)] σ
  | _ => False
set_option maxRecDepth 20000 in
theorem s_X8_seedAfter (o : OM) : Sound o Y_X8_seedAfter 0 C_X8_seedAfter := by
  intro Q A σ hA hC
  match A, hA, hC with
  | [.inr (.inl w)], hA, hC =>
    obtain ⟨h0, hq⟩ : (True) ∧ Q [vL (lAnd (w64 (w64 (1103515245 * w) + 12345)) 2147483647)] σ := hC
    have hQ : ∀ r_ τ, r_ = (lAnd (w64 (w64 (1103515245 * w) + 12345)) 2147483647) → τ = (σ) → Q [vL r_] τ := fun r_ τ e e2 => e ▸ e2 ▸ hq
    refine at_wpl (lv := V_X8_seedAfter) (B := B_X8_seedAfter) (e_X8_seedAfter o) k_X8_seedAfter 1 0 [] _ σ ?_
    simp only [sq_iconst, sq_jsr, sq_anewarray, sq_iload, sq_lload, sq_aload, sq_istore, sq_lstore, sq_astore, sq_iinc, sq_getfield, st_put0, st_put1, st_put3, sq_inv, sq_goto, sq_icmp, sq_ifc, sq_tsw, sq_iadd, sq_isub, sq_imul, sq_ineg, sq_idiv, sq_irem, sq_iand, sq_ior, sq_ixor, sq_ishl, sq_ishr, sq_iushr, sq_ladd, sq_lmul, sq_ldiv, sq_lrem, sq_land, sq_lor, sq_lshl, sq_lushr, sq_lcmp, sq_i2l, sq_l2i, sq_i2c, sq_i2b, sq_dupI, sq_dupR, sq_dup2, sq_pop, sq_iaload, sq_baload, sq_aaload, sq_iastore, sq_bastore, sq_alen, sq_ireturn, sq_lreturn, sq_return, wq_c, wq_n, wlq_s, lkp, tbl, dBk, nth, setL, canSet, cmpI, tk, swK, rdF, entL, catS, cat1, arg, rcv, ald, bld, aln, br, Ccopy, Cmax, Cmin, Cabs, List.take, List.drop, List.reverse, List.reverseAux, List.length, List.append, List.nil_append, List.cons_append, true_and, and_true, and_self, forall_const, true_implies, false_implies, not_true_eq_false, not_false_eq_true, Option.map, reduceCtorEq, reduceIte, or_true, true_or, false_or, or_false, false_and, and_false, List.map, List.append_nil, implies_true, yK, Nat.reduceBEq, beq_self_eq_true, Int.zero_ne_one, Nat.reduceDiv, Nat.reduceMod, Nat.reduceAdd, Nat.reduceSub, Nat.reduceMul, Nat.reduceEqDiff, Nat.reduceLeDiff, Int.reduceToNat, Int.reduceNeg, Int.reduceEq, Int.reduceLT, Int.reduceLE, Int.reduceNatCast, Int.reduceNatCast', Int.reduceAdd, Int.reduceSub, Int.reduceMul, eq_self, Prod.mk.injEq, A_X8_seedAfter, V_X8_seedAfter, B_X8_seedAfter, Y_X8_seedAfter, shpT, rfsT]
    repeat' (first | assumption | (intro _) | apply And.intro)
    all_goals first | omega | assumption | (apply hQ <;> first | rfl | omega | (simp [*]; done) | (simp [*]; omega)) | skip
def A_X2_has : List (Nat × Ctr) := []
theorem e_X2_has (o : OM) : Ev o Y_X2_has 0 T_X2_has A_X2_has := ⟨rfl, List.forall_mem_cons.mpr ⟨Or.inl f_X2_9, fun _ h => absurd h List.not_mem_nil⟩, fun _ h => absurd h List.not_mem_nil, fun _ h => absurd h List.not_mem_nil, fun _ h => absurd h List.not_mem_nil, fun _ h => absurd h List.not_mem_nil, fun _ h => absurd h List.not_mem_nil⟩
def C_X2_has : Ctr := fun A σ κ => match A with
  | [.inr (.inr (.inl 7)), .inl l] => (True) ∧ br (0 ≤ l ∧ l < σ 7 0) κ σ
  | _ => False
set_option maxRecDepth 20000 in
theorem s_X2_has (o : OM) : Sound o Y_X2_has 0 C_X2_has := by
  intro Q A σ hA hC
  match A, hA, hC with
  | [.inr (.inr (.inl 7)), .inl l], hA, hC =>
    obtain ⟨h0, hq⟩ : (True) ∧ br (0 ≤ l ∧ l < σ 7 0) Q σ := hC
    have hT : (0 ≤ l ∧ l < σ 7 0) → ∀ r_, r_ = 1 → Q [vI r_] σ := fun c_ r_ e => e ▸ hq.1 c_
    have hF : ¬ (0 ≤ l ∧ l < σ 7 0) → ∀ r_, r_ = 0 → Q [vI r_] σ := fun c_ r_ e => e ▸ hq.2 c_
    refine at_wpl (lv := V_X2_has) (B := B_X2_has) (e_X2_has o) k_X2_has 3 0 [] _ σ ?_
    simp only [sq_iconst, sq_jsr, sq_anewarray, sq_iload, sq_lload, sq_aload, sq_istore, sq_lstore, sq_astore, sq_iinc, sq_getfield, st_put0, st_put1, st_put3, sq_inv, sq_goto, sq_icmp, sq_ifc, sq_tsw, sq_iadd, sq_isub, sq_imul, sq_ineg, sq_idiv, sq_irem, sq_iand, sq_ior, sq_ixor, sq_ishl, sq_ishr, sq_iushr, sq_ladd, sq_lmul, sq_ldiv, sq_lrem, sq_land, sq_lor, sq_lshl, sq_lushr, sq_lcmp, sq_i2l, sq_l2i, sq_i2c, sq_i2b, sq_dupI, sq_dupR, sq_dup2, sq_pop, sq_iaload, sq_baload, sq_aaload, sq_iastore, sq_bastore, sq_alen, sq_ireturn, sq_lreturn, sq_return, wq_c, wq_n, wlq_s, lkp, tbl, dBk, nth, setL, canSet, cmpI, tk, swK, rdF, entL, catS, cat1, arg, rcv, ald, bld, aln, br, Ccopy, Cmax, Cmin, Cabs, List.take, List.drop, List.reverse, List.reverseAux, List.length, List.append, List.nil_append, List.cons_append, true_and, and_true, and_self, forall_const, true_implies, false_implies, not_true_eq_false, not_false_eq_true, Option.map, reduceCtorEq, reduceIte, or_true, true_or, false_or, or_false, false_and, and_false, List.map, List.append_nil, implies_true, yK, Nat.reduceBEq, beq_self_eq_true, Int.zero_ne_one, Nat.reduceDiv, Nat.reduceMod, Nat.reduceAdd, Nat.reduceSub, Nat.reduceMul, Nat.reduceEqDiff, Nat.reduceLeDiff, Int.reduceToNat, Int.reduceNeg, Int.reduceEq, Int.reduceLT, Int.reduceLE, Int.reduceNatCast, Int.reduceNatCast', Int.reduceAdd, Int.reduceSub, Int.reduceMul, eq_self, Prod.mk.injEq, A_X2_has, V_X2_has, B_X2_has, Y_X2_has, shpT, rfsT]
    repeat' (first | assumption | (intro _) | apply And.intro)
    all_goals first | omega | assumption | (apply hT <;> first | rfl | omega | assumption | (simp [*]; done)) | (apply hF <;> first | rfl | omega | assumption | (simp [*]; done)) | skip
def A_X1_has : List (Nat × Ctr) := []
theorem e_X1_has (o : OM) : Ev o Y_X1_has 0 T_X1_has A_X1_has := ⟨rfl, List.forall_mem_cons.mpr ⟨Or.inl f_X1_9, fun _ h => absurd h List.not_mem_nil⟩, fun _ h => absurd h List.not_mem_nil, fun _ h => absurd h List.not_mem_nil, fun _ h => absurd h List.not_mem_nil, fun _ h => absurd h List.not_mem_nil, fun _ h => absurd h List.not_mem_nil⟩
def C_X1_has : Ctr := fun A σ κ => match A with
  | [.inr (.inr (.inl 6)), .inl l] => (True) ∧ br (-1 ≤ l ∧ l < σ 6 1) κ σ
  | _ => False
set_option maxRecDepth 20000 in
theorem s_X1_has (o : OM) : Sound o Y_X1_has 0 C_X1_has := by
  intro Q A σ hA hC
  match A, hA, hC with
  | [.inr (.inr (.inl 6)), .inl l], hA, hC =>
    obtain ⟨h0, hq⟩ : (True) ∧ br (-1 ≤ l ∧ l < σ 6 1) Q σ := hC
    have hT : (-1 ≤ l ∧ l < σ 6 1) → ∀ r_, r_ = 1 → Q [vI r_] σ := fun c_ r_ e => e ▸ hq.1 c_
    have hF : ¬ (-1 ≤ l ∧ l < σ 6 1) → ∀ r_, r_ = 0 → Q [vI r_] σ := fun c_ r_ e => e ▸ hq.2 c_
    refine at_wpl (lv := V_X1_has) (B := B_X1_has) (e_X1_has o) k_X1_has 3 0 [] _ σ ?_
    simp only [sq_iconst, sq_jsr, sq_anewarray, sq_iload, sq_lload, sq_aload, sq_istore, sq_lstore, sq_astore, sq_iinc, sq_getfield, st_put0, st_put1, st_put3, sq_inv, sq_goto, sq_icmp, sq_ifc, sq_tsw, sq_iadd, sq_isub, sq_imul, sq_ineg, sq_idiv, sq_irem, sq_iand, sq_ior, sq_ixor, sq_ishl, sq_ishr, sq_iushr, sq_ladd, sq_lmul, sq_ldiv, sq_lrem, sq_land, sq_lor, sq_lshl, sq_lushr, sq_lcmp, sq_i2l, sq_l2i, sq_i2c, sq_i2b, sq_dupI, sq_dupR, sq_dup2, sq_pop, sq_iaload, sq_baload, sq_aaload, sq_iastore, sq_bastore, sq_alen, sq_ireturn, sq_lreturn, sq_return, wq_c, wq_n, wlq_s, lkp, tbl, dBk, nth, setL, canSet, cmpI, tk, swK, rdF, entL, catS, cat1, arg, rcv, ald, bld, aln, br, Ccopy, Cmax, Cmin, Cabs, List.take, List.drop, List.reverse, List.reverseAux, List.length, List.append, List.nil_append, List.cons_append, true_and, and_true, and_self, forall_const, true_implies, false_implies, not_true_eq_false, not_false_eq_true, Option.map, reduceCtorEq, reduceIte, or_true, true_or, false_or, or_false, false_and, and_false, List.map, List.append_nil, implies_true, yK, Nat.reduceBEq, beq_self_eq_true, Int.zero_ne_one, Nat.reduceDiv, Nat.reduceMod, Nat.reduceAdd, Nat.reduceSub, Nat.reduceMul, Nat.reduceEqDiff, Nat.reduceLeDiff, Int.reduceToNat, Int.reduceNeg, Int.reduceEq, Int.reduceLT, Int.reduceLE, Int.reduceNatCast, Int.reduceNatCast', Int.reduceAdd, Int.reduceSub, Int.reduceMul, eq_self, Prod.mk.injEq, A_X1_has, V_X1_has, B_X1_has, Y_X1_has, shpT, rfsT]
    repeat' (first | assumption | (intro _) | apply And.intro)
    all_goals first | omega | assumption | (apply hT <;> first | rfl | omega | assumption | (simp [*]; done)) | (apply hF <;> first | rfl | omega | assumption | (simp [*]; done)) | skip
def A_X2_priceOf : List (Nat × Ctr) := []
theorem e_X2_priceOf (o : OM) : Ev o Y_X2_priceOf 0 T_X2_priceOf A_X2_priceOf := ⟨rfl, List.forall_mem_cons.mpr ⟨Or.inl f_X2_15, fun _ h => absurd h List.not_mem_nil⟩, fun _ h => absurd h List.not_mem_nil, fun _ h => absurd h List.not_mem_nil, fun _ h => absurd h List.not_mem_nil, fun _ h => absurd h List.not_mem_nil, fun _ h => absurd h List.not_mem_nil⟩
def C_X2_priceOf : Ctr := fun A σ κ => match A with
  | [.inr (.inr (.inl 7)), .inl l, .inl i] => (0 ≤ l ∧ l < 4 ∧ 0 ≤ i ∧ i < 4) ∧ κ [vI (σ 38 (l * 4 + i))] σ
  | _ => False
set_option maxRecDepth 20000 in
theorem s_X2_priceOf (o : OM) : Sound o Y_X2_priceOf 0 C_X2_priceOf := by
  intro Q A σ hA hC
  match A, hA, hC with
  | [.inr (.inr (.inl 7)), .inl l, .inl i], hA, hC =>
    obtain ⟨h0, hq⟩ : (0 ≤ l ∧ l < 4 ∧ 0 ≤ i ∧ i < 4) ∧ Q [vI (σ 38 (l * 4 + i))] σ := hC
    have hQ : ∀ r_ τ, r_ = (σ 38 (l * 4 + i)) → τ = (σ) → Q [vI r_] τ := fun r_ τ e e2 => e ▸ e2 ▸ hq
    refine at_wpl (lv := V_X2_priceOf) (B := B_X2_priceOf) (e_X2_priceOf o) k_X2_priceOf 1 0 [] _ σ ?_
    simp only [sq_iconst, sq_jsr, sq_anewarray, sq_iload, sq_lload, sq_aload, sq_istore, sq_lstore, sq_astore, sq_iinc, sq_getfield, st_put0, st_put1, st_put3, sq_inv, sq_goto, sq_icmp, sq_ifc, sq_tsw, sq_iadd, sq_isub, sq_imul, sq_ineg, sq_idiv, sq_irem, sq_iand, sq_ior, sq_ixor, sq_ishl, sq_ishr, sq_iushr, sq_ladd, sq_lmul, sq_ldiv, sq_lrem, sq_land, sq_lor, sq_lshl, sq_lushr, sq_lcmp, sq_i2l, sq_l2i, sq_i2c, sq_i2b, sq_dupI, sq_dupR, sq_dup2, sq_pop, sq_iaload, sq_baload, sq_aaload, sq_iastore, sq_bastore, sq_alen, sq_ireturn, sq_lreturn, sq_return, wq_c, wq_n, wlq_s, lkp, tbl, dBk, nth, setL, canSet, cmpI, tk, swK, rdF, entL, catS, cat1, arg, rcv, ald, bld, aln, br, Ccopy, Cmax, Cmin, Cabs, List.take, List.drop, List.reverse, List.reverseAux, List.length, List.append, List.nil_append, List.cons_append, true_and, and_true, and_self, forall_const, true_implies, false_implies, not_true_eq_false, not_false_eq_true, Option.map, reduceCtorEq, reduceIte, or_true, true_or, false_or, or_false, false_and, and_false, List.map, List.append_nil, implies_true, yK, Nat.reduceBEq, beq_self_eq_true, Int.zero_ne_one, Nat.reduceDiv, Nat.reduceMod, Nat.reduceAdd, Nat.reduceSub, Nat.reduceMul, Nat.reduceEqDiff, Nat.reduceLeDiff, Int.reduceToNat, Int.reduceNeg, Int.reduceEq, Int.reduceLT, Int.reduceLE, Int.reduceNatCast, Int.reduceNatCast', Int.reduceAdd, Int.reduceSub, Int.reduceMul, eq_self, Prod.mk.injEq, A_X2_priceOf, V_X2_priceOf, B_X2_priceOf, Y_X2_priceOf, shpT, rfsT]
    repeat' (first | assumption | (intro _) | apply And.intro)
    all_goals first | omega | assumption | (apply hQ <;> first | rfl | omega | (simp [*]; done) | (simp [*]; omega)) | skip
def A_X0_isKept : List (Nat × Ctr) := []
theorem e_X0_isKept (o : OM) : Ev o Y_X0_isKept 0 T_X0_isKept A_X0_isKept := ⟨rfl, List.forall_mem_cons.mpr ⟨Or.inl f_X0_31, fun _ h => absurd h List.not_mem_nil⟩, fun _ h => absurd h List.not_mem_nil, fun _ h => absurd h List.not_mem_nil, fun _ h => absurd h List.not_mem_nil, fun _ h => absurd h List.not_mem_nil, fun _ h => absurd h List.not_mem_nil⟩
def C_X0_isKept : Ctr := fun A σ κ => match A with
  | [.inr (.inr (.inl 2)), .inl j] => (0 ≤ j ∧ j < 12) ∧ br (¬ bAnd (σ 2 6) (bShl 1 j) = 0) κ σ
  | _ => False
set_option maxRecDepth 20000 in
theorem s_X0_isKept (o : OM) : Sound o Y_X0_isKept 0 C_X0_isKept := by
  intro Q A σ hA hC
  match A, hA, hC with
  | [.inr (.inr (.inl 2)), .inl j], hA, hC =>
    obtain ⟨h0, hq⟩ : (0 ≤ j ∧ j < 12) ∧ br (¬ bAnd (σ 2 6) (bShl 1 j) = 0) Q σ := hC
    have hT : (¬ bAnd (σ 2 6) (bShl 1 j) = 0) → ∀ r_, r_ = 1 → Q [vI r_] σ := fun c_ r_ e => e ▸ hq.1 c_
    have hF : ¬ (¬ bAnd (σ 2 6) (bShl 1 j) = 0) → ∀ r_, r_ = 0 → Q [vI r_] σ := fun c_ r_ e => e ▸ hq.2 c_
    refine at_wpl (lv := V_X0_isKept) (B := B_X0_isKept) (e_X0_isKept o) k_X0_isKept 3 0 [] _ σ ?_
    simp only [sq_iconst, sq_jsr, sq_anewarray, sq_iload, sq_lload, sq_aload, sq_istore, sq_lstore, sq_astore, sq_iinc, sq_getfield, st_put0, st_put1, st_put3, sq_inv, sq_goto, sq_icmp, sq_ifc, sq_tsw, sq_iadd, sq_isub, sq_imul, sq_ineg, sq_idiv, sq_irem, sq_iand, sq_ior, sq_ixor, sq_ishl, sq_ishr, sq_iushr, sq_ladd, sq_lmul, sq_ldiv, sq_lrem, sq_land, sq_lor, sq_lshl, sq_lushr, sq_lcmp, sq_i2l, sq_l2i, sq_i2c, sq_i2b, sq_dupI, sq_dupR, sq_dup2, sq_pop, sq_iaload, sq_baload, sq_aaload, sq_iastore, sq_bastore, sq_alen, sq_ireturn, sq_lreturn, sq_return, wq_c, wq_n, wlq_s, lkp, tbl, dBk, nth, setL, canSet, cmpI, tk, swK, rdF, entL, catS, cat1, arg, rcv, ald, bld, aln, br, Ccopy, Cmax, Cmin, Cabs, List.take, List.drop, List.reverse, List.reverseAux, List.length, List.append, List.nil_append, List.cons_append, true_and, and_true, and_self, forall_const, true_implies, false_implies, not_true_eq_false, not_false_eq_true, Option.map, reduceCtorEq, reduceIte, or_true, true_or, false_or, or_false, false_and, and_false, List.map, List.append_nil, implies_true, yK, Nat.reduceBEq, beq_self_eq_true, Int.zero_ne_one, Nat.reduceDiv, Nat.reduceMod, Nat.reduceAdd, Nat.reduceSub, Nat.reduceMul, Nat.reduceEqDiff, Nat.reduceLeDiff, Int.reduceToNat, Int.reduceNeg, Int.reduceEq, Int.reduceLT, Int.reduceLE, Int.reduceNatCast, Int.reduceNatCast', Int.reduceAdd, Int.reduceSub, Int.reduceMul, eq_self, Prod.mk.injEq, A_X0_isKept, V_X0_isKept, B_X0_isKept, Y_X0_isKept, shpT, rfsT]
    repeat' (first | assumption | (intro _) | apply And.intro)
    all_goals first | omega | assumption | (apply hT <;> first | rfl | omega | assumption | (simp [*]; done)) | (apply hF <;> first | rfl | omega | assumption | (simp [*]; done)) | skip
def A_X0_setKept : List (Nat × Ctr) := []
theorem e_X0_setKept (o : OM) : Ev o Y_X0_setKept 0 T_X0_setKept A_X0_setKept := ⟨rfl, List.forall_mem_cons.mpr ⟨Or.inl f_X0_31, fun _ h => absurd h List.not_mem_nil⟩, fun _ h => absurd h List.not_mem_nil, fun _ h => absurd h List.not_mem_nil, fun _ h => absurd h List.not_mem_nil, fun _ h => absurd h List.not_mem_nil, fun _ h => absurd h List.not_mem_nil⟩
def C_X0_setKept : Ctr := fun A σ κ => match A with
  | [.inr (.inr (.inl 2)), .inl j, .inl b] => (0 ≤ j ∧ j < 12 ∧ (b = 0 ∨ b = 1)) ∧ (b = 0 → κ [] (su σ 2 6 (bAnd (σ 2 6) (bXor (bShl 1 j) (-1))))) ∧ (¬ b = 0 → κ [] (su σ 2 6 (bOr (σ 2 6) (bShl 1 j))))
  | _ => False
set_option maxRecDepth 20000 in
theorem s_X0_setKept (o : OM) : Sound o Y_X0_setKept 0 C_X0_setKept := by
  intro Q A σ hA hC
  match A, hA, hC with
  | [.inr (.inr (.inl 2)), .inl j, .inl b], hA, hC =>
    obtain ⟨h0, hq⟩ : (0 ≤ j ∧ j < 12 ∧ (b = 0 ∨ b = 1)) ∧ (b = 0 → Q [] (su σ 2 6 (bAnd (σ 2 6) (bXor (bShl 1 j) (-1))))) ∧ (¬ b = 0 → Q [] (su σ 2 6 (bOr (σ 2 6) (bShl 1 j)))) := hC
    refine at_wpl (lv := V_X0_setKept) (B := B_X0_setKept) (e_X0_setKept o) k_X0_setKept 3 0 [] _ σ ?_
    simp only [sq_iconst, sq_jsr, sq_anewarray, sq_iload, sq_lload, sq_aload, sq_istore, sq_lstore, sq_astore, sq_iinc, sq_getfield, st_put0, st_put1, st_put3, sq_inv, sq_goto, sq_icmp, sq_ifc, sq_tsw, sq_iadd, sq_isub, sq_imul, sq_ineg, sq_idiv, sq_irem, sq_iand, sq_ior, sq_ixor, sq_ishl, sq_ishr, sq_iushr, sq_ladd, sq_lmul, sq_ldiv, sq_lrem, sq_land, sq_lor, sq_lshl, sq_lushr, sq_lcmp, sq_i2l, sq_l2i, sq_i2c, sq_i2b, sq_dupI, sq_dupR, sq_dup2, sq_pop, sq_iaload, sq_baload, sq_aaload, sq_iastore, sq_bastore, sq_alen, sq_ireturn, sq_lreturn, sq_return, wq_c, wq_n, wlq_s, lkp, tbl, dBk, nth, setL, canSet, cmpI, tk, swK, rdF, entL, catS, cat1, arg, rcv, ald, bld, aln, br, Ccopy, Cmax, Cmin, Cabs, List.take, List.drop, List.reverse, List.reverseAux, List.length, List.append, List.nil_append, List.cons_append, true_and, and_true, and_self, forall_const, true_implies, false_implies, not_true_eq_false, not_false_eq_true, Option.map, reduceCtorEq, reduceIte, or_true, true_or, false_or, or_false, false_and, and_false, List.map, List.append_nil, implies_true, yK, Nat.reduceBEq, beq_self_eq_true, Int.zero_ne_one, Nat.reduceDiv, Nat.reduceMod, Nat.reduceAdd, Nat.reduceSub, Nat.reduceMul, Nat.reduceEqDiff, Nat.reduceLeDiff, Int.reduceToNat, Int.reduceNeg, Int.reduceEq, Int.reduceLT, Int.reduceLE, Int.reduceNatCast, Int.reduceNatCast', Int.reduceAdd, Int.reduceSub, Int.reduceMul, eq_self, Prod.mk.injEq, A_X0_setKept, V_X0_setKept, B_X0_setKept, Y_X0_setKept, shpT, rfsT]
    exact hq
def A_X0_isTied : List (Nat × Ctr) := []
theorem e_X0_isTied (o : OM) : Ev o Y_X0_isTied 0 T_X0_isTied A_X0_isTied := ⟨rfl, List.forall_mem_cons.mpr ⟨Or.inl f_X0_34, fun _ h => absurd h List.not_mem_nil⟩, fun _ h => absurd h List.not_mem_nil, fun _ h => absurd h List.not_mem_nil, fun _ h => absurd h List.not_mem_nil, fun _ h => absurd h List.not_mem_nil, fun _ h => absurd h List.not_mem_nil⟩
def C_X0_isTied : Ctr := fun A σ κ => match A with
  | [.inr (.inr (.inl 2)), .inl p] => (0 ≤ p ∧ p < 7) ∧ br (¬ bAnd (σ 2 7) (bShl 1 p) = 0) κ σ
  | _ => False
set_option maxRecDepth 20000 in
theorem s_X0_isTied (o : OM) : Sound o Y_X0_isTied 0 C_X0_isTied := by
  intro Q A σ hA hC
  match A, hA, hC with
  | [.inr (.inr (.inl 2)), .inl p], hA, hC =>
    obtain ⟨h0, hq⟩ : (0 ≤ p ∧ p < 7) ∧ br (¬ bAnd (σ 2 7) (bShl 1 p) = 0) Q σ := hC
    have hT : (¬ bAnd (σ 2 7) (bShl 1 p) = 0) → ∀ r_, r_ = 1 → Q [vI r_] σ := fun c_ r_ e => e ▸ hq.1 c_
    have hF : ¬ (¬ bAnd (σ 2 7) (bShl 1 p) = 0) → ∀ r_, r_ = 0 → Q [vI r_] σ := fun c_ r_ e => e ▸ hq.2 c_
    refine at_wpl (lv := V_X0_isTied) (B := B_X0_isTied) (e_X0_isTied o) k_X0_isTied 3 0 [] _ σ ?_
    simp only [sq_iconst, sq_jsr, sq_anewarray, sq_iload, sq_lload, sq_aload, sq_istore, sq_lstore, sq_astore, sq_iinc, sq_getfield, st_put0, st_put1, st_put3, sq_inv, sq_goto, sq_icmp, sq_ifc, sq_tsw, sq_iadd, sq_isub, sq_imul, sq_ineg, sq_idiv, sq_irem, sq_iand, sq_ior, sq_ixor, sq_ishl, sq_ishr, sq_iushr, sq_ladd, sq_lmul, sq_ldiv, sq_lrem, sq_land, sq_lor, sq_lshl, sq_lushr, sq_lcmp, sq_i2l, sq_l2i, sq_i2c, sq_i2b, sq_dupI, sq_dupR, sq_dup2, sq_pop, sq_iaload, sq_baload, sq_aaload, sq_iastore, sq_bastore, sq_alen, sq_ireturn, sq_lreturn, sq_return, wq_c, wq_n, wlq_s, lkp, tbl, dBk, nth, setL, canSet, cmpI, tk, swK, rdF, entL, catS, cat1, arg, rcv, ald, bld, aln, br, Ccopy, Cmax, Cmin, Cabs, List.take, List.drop, List.reverse, List.reverseAux, List.length, List.append, List.nil_append, List.cons_append, true_and, and_true, and_self, forall_const, true_implies, false_implies, not_true_eq_false, not_false_eq_true, Option.map, reduceCtorEq, reduceIte, or_true, true_or, false_or, or_false, false_and, and_false, List.map, List.append_nil, implies_true, yK, Nat.reduceBEq, beq_self_eq_true, Int.zero_ne_one, Nat.reduceDiv, Nat.reduceMod, Nat.reduceAdd, Nat.reduceSub, Nat.reduceMul, Nat.reduceEqDiff, Nat.reduceLeDiff, Int.reduceToNat, Int.reduceNeg, Int.reduceEq, Int.reduceLT, Int.reduceLE, Int.reduceNatCast, Int.reduceNatCast', Int.reduceAdd, Int.reduceSub, Int.reduceMul, eq_self, Prod.mk.injEq, A_X0_isTied, V_X0_isTied, B_X0_isTied, Y_X0_isTied, shpT, rfsT]
    repeat' (first | assumption | (intro _) | apply And.intro)
    all_goals first | omega | assumption | (apply hT <;> first | rfl | omega | assumption | (simp [*]; done)) | (apply hF <;> first | rfl | omega | assumption | (simp [*]; done)) | skip
def A_X0_dropTie : List (Nat × Ctr) := []
theorem e_X0_dropTie (o : OM) : Ev o Y_X0_dropTie 0 T_X0_dropTie A_X0_dropTie := ⟨rfl, List.forall_mem_cons.mpr ⟨Or.inl f_X0_34, fun _ h => absurd h List.not_mem_nil⟩, fun _ h => absurd h List.not_mem_nil, fun _ h => absurd h List.not_mem_nil, fun _ h => absurd h List.not_mem_nil, fun _ h => absurd h List.not_mem_nil, fun _ h => absurd h List.not_mem_nil⟩
def C_X0_dropTie : Ctr := fun A σ κ => match A with
  | [.inr (.inr (.inl 2)), .inl p] => (0 ≤ p ∧ p < 7) ∧ κ [] (su σ 2 7 (bAnd (σ 2 7) (bXor (bShl 1 p) (-1))))
  | _ => False
set_option maxRecDepth 20000 in
theorem s_X0_dropTie (o : OM) : Sound o Y_X0_dropTie 0 C_X0_dropTie := by
  intro Q A σ hA hC
  match A, hA, hC with
  | [.inr (.inr (.inl 2)), .inl p], hA, hC =>
    obtain ⟨h0, hq⟩ : (0 ≤ p ∧ p < 7) ∧ Q [] (su σ 2 7 (bAnd (σ 2 7) (bXor (bShl 1 p) (-1)))) := hC
    have hQ : ∀ τ, τ = (su σ 2 7 (bAnd (σ 2 7) (bXor (bShl 1 p) (-1)))) → Q [] τ := fun τ e2 => e2 ▸ hq
    refine at_wpl (lv := V_X0_dropTie) (B := B_X0_dropTie) (e_X0_dropTie o) k_X0_dropTie 1 0 [] _ σ ?_
    simp only [sq_iconst, sq_jsr, sq_anewarray, sq_iload, sq_lload, sq_aload, sq_istore, sq_lstore, sq_astore, sq_iinc, sq_getfield, st_put0, st_put1, st_put3, sq_inv, sq_goto, sq_icmp, sq_ifc, sq_tsw, sq_iadd, sq_isub, sq_imul, sq_ineg, sq_idiv, sq_irem, sq_iand, sq_ior, sq_ixor, sq_ishl, sq_ishr, sq_iushr, sq_ladd, sq_lmul, sq_ldiv, sq_lrem, sq_land, sq_lor, sq_lshl, sq_lushr, sq_lcmp, sq_i2l, sq_l2i, sq_i2c, sq_i2b, sq_dupI, sq_dupR, sq_dup2, sq_pop, sq_iaload, sq_baload, sq_aaload, sq_iastore, sq_bastore, sq_alen, sq_ireturn, sq_lreturn, sq_return, wq_c, wq_n, wlq_s, lkp, tbl, dBk, nth, setL, canSet, cmpI, tk, swK, rdF, entL, catS, cat1, arg, rcv, ald, bld, aln, br, Ccopy, Cmax, Cmin, Cabs, List.take, List.drop, List.reverse, List.reverseAux, List.length, List.append, List.nil_append, List.cons_append, true_and, and_true, and_self, forall_const, true_implies, false_implies, not_true_eq_false, not_false_eq_true, Option.map, reduceCtorEq, reduceIte, or_true, true_or, false_or, or_false, false_and, and_false, List.map, List.append_nil, implies_true, yK, Nat.reduceBEq, beq_self_eq_true, Int.zero_ne_one, Nat.reduceDiv, Nat.reduceMod, Nat.reduceAdd, Nat.reduceSub, Nat.reduceMul, Nat.reduceEqDiff, Nat.reduceLeDiff, Int.reduceToNat, Int.reduceNeg, Int.reduceEq, Int.reduceLT, Int.reduceLE, Int.reduceNatCast, Int.reduceNatCast', Int.reduceAdd, Int.reduceSub, Int.reduceMul, eq_self, Prod.mk.injEq, A_X0_dropTie, V_X0_dropTie, B_X0_dropTie, Y_X0_dropTie, shpT, rfsT]
    repeat' (first | assumption | (intro _) | apply And.intro)
    all_goals first | omega | assumption | (apply hQ <;> first | rfl | omega | (simp [*]; done) | (simp [*]; omega)) | skip
def A_X0_setTie : List (Nat × Ctr) := []
theorem e_X0_setTie (o : OM) : Ev o Y_X0_setTie 0 T_X0_setTie A_X0_setTie := ⟨rfl, List.forall_mem_cons.mpr ⟨Or.inl f_X0_34, List.forall_mem_cons.mpr ⟨Or.inl f_X0_37, List.forall_mem_cons.mpr ⟨Or.inl f_X0_40, fun _ h => absurd h List.not_mem_nil⟩⟩⟩, fun _ h => absurd h List.not_mem_nil, fun _ h => absurd h List.not_mem_nil, fun _ h => absurd h List.not_mem_nil, fun _ h => absurd h List.not_mem_nil, fun _ h => absurd h List.not_mem_nil⟩
def C_X0_setTie : Ctr := fun A σ κ => match A with
  | [.inr (.inr (.inl 2)), .inl p, .inl a, .inl b] => (0 ≤ p ∧ p < 7) ∧ κ [] (su (su (su σ 2 7 (bOr (σ 2 7) (bShl 1 p))) 21 p a) 22 p b)
  | _ => False
set_option maxRecDepth 20000 in
theorem s_X0_setTie (o : OM) : Sound o Y_X0_setTie 0 C_X0_setTie := by
  intro Q A σ hA hC
  match A, hA, hC with
  | [.inr (.inr (.inl 2)), .inl p, .inl a, .inl b], hA, hC =>
    obtain ⟨h0, hq⟩ : (0 ≤ p ∧ p < 7) ∧ Q [] (su (su (su σ 2 7 (bOr (σ 2 7) (bShl 1 p))) 21 p a) 22 p b) := hC
    have hQ : ∀ τ, τ = (su (su (su σ 2 7 (bOr (σ 2 7) (bShl 1 p))) 21 p a) 22 p b) → Q [] τ := fun τ e2 => e2 ▸ hq
    refine at_wpl (lv := V_X0_setTie) (B := B_X0_setTie) (e_X0_setTie o) k_X0_setTie 1 0 [] _ σ ?_
    simp only [sq_iconst, sq_jsr, sq_anewarray, sq_iload, sq_lload, sq_aload, sq_istore, sq_lstore, sq_astore, sq_iinc, sq_getfield, st_put0, st_put1, st_put3, sq_inv, sq_goto, sq_icmp, sq_ifc, sq_tsw, sq_iadd, sq_isub, sq_imul, sq_ineg, sq_idiv, sq_irem, sq_iand, sq_ior, sq_ixor, sq_ishl, sq_ishr, sq_iushr, sq_ladd, sq_lmul, sq_ldiv, sq_lrem, sq_land, sq_lor, sq_lshl, sq_lushr, sq_lcmp, sq_i2l, sq_l2i, sq_i2c, sq_i2b, sq_dupI, sq_dupR, sq_dup2, sq_pop, sq_iaload, sq_baload, sq_aaload, sq_iastore, sq_bastore, sq_alen, sq_ireturn, sq_lreturn, sq_return, wq_c, wq_n, wlq_s, lkp, tbl, dBk, nth, setL, canSet, cmpI, tk, swK, rdF, entL, catS, cat1, arg, rcv, ald, bld, aln, br, Ccopy, Cmax, Cmin, Cabs, List.take, List.drop, List.reverse, List.reverseAux, List.length, List.append, List.nil_append, List.cons_append, true_and, and_true, and_self, forall_const, true_implies, false_implies, not_true_eq_false, not_false_eq_true, Option.map, reduceCtorEq, reduceIte, or_true, true_or, false_or, or_false, false_and, and_false, List.map, List.append_nil, implies_true, yK, Nat.reduceBEq, beq_self_eq_true, Int.zero_ne_one, Nat.reduceDiv, Nat.reduceMod, Nat.reduceAdd, Nat.reduceSub, Nat.reduceMul, Nat.reduceEqDiff, Nat.reduceLeDiff, Int.reduceToNat, Int.reduceNeg, Int.reduceEq, Int.reduceLT, Int.reduceLE, Int.reduceNatCast, Int.reduceNatCast', Int.reduceAdd, Int.reduceSub, Int.reduceMul, eq_self, Prod.mk.injEq, A_X0_setTie, V_X0_setTie, B_X0_setTie, Y_X0_setTie, shpT, rfsT]
    repeat' (first | assumption | (intro _) | apply And.intro)
    all_goals first | omega | assumption | (apply hQ <;> first | rfl | omega | (simp [*]; done) | (simp [*]; omega)) | skip

