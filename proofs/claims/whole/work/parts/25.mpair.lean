-- ===== pairing of the reference: prices =====
def A_X9_wideA : List (Nat × Ctr) := []
theorem e_X9_wideA (o : OM) : Ev o Y_X9_wideA 0 T_X9_wideA A_X9_wideA := ⟨rfl, fun _ h => absurd h List.not_mem_nil, fun _ h => absurd h List.not_mem_nil, fun _ h => absurd h List.not_mem_nil, fun _ h => absurd h List.not_mem_nil, fun _ h => absurd h List.not_mem_nil, fun _ h => absurd h List.not_mem_nil⟩
def C_X9_wideA : Ctr := fun A σ κ => match A with
  | [.inl s] => (0 ≤ s ∧ s < 5) ∧ κ [vI (o1 s)] σ
  | _ => False
set_option maxRecDepth 20000 in
theorem s_X9_wideA (o : OM) : Sound o Y_X9_wideA 0 C_X9_wideA := by
  intro Q A σ hA hC
  match A, hA, hC with
  | [.inl s], hA, hC =>
    obtain ⟨h0, hq⟩ : (0 ≤ s ∧ s < 5) ∧ Q [vI (o1 s)] σ := hC
    have hQ : ∀ r_ τ, r_ = (o1 s) → τ = (σ) → Q [vI r_] τ := fun r_ τ e e2 => e ▸ e2 ▸ hq
    refine at_wpl (lv := V_X9_wideA) (B := B_X9_wideA) (e_X9_wideA o) k_X9_wideA 4 0 [] _ σ ?_
    simp only [sq_iconst, sq_jsr, sq_anewarray, sq_iload, sq_lload, sq_aload, sq_istore, sq_lstore, sq_astore, sq_iinc, sq_getfield, st_put0, st_put1, st_put3, sq_inv, sq_goto, sq_icmp, sq_ifc, sq_tsw, sq_iadd, sq_isub, sq_imul, sq_ineg, sq_idiv, sq_irem, sq_iand, sq_ior, sq_ixor, sq_ishl, sq_ishr, sq_iushr, sq_ladd, sq_lmul, sq_ldiv, sq_lrem, sq_land, sq_lor, sq_lshl, sq_lushr, sq_lcmp, sq_i2l, sq_l2i, sq_i2c, sq_i2b, sq_dupI, sq_dupR, sq_dup2, sq_pop, sq_iaload, sq_baload, sq_aaload, sq_iastore, sq_bastore, sq_alen, sq_ireturn, sq_lreturn, sq_return, wq_c, wq_n, wlq_s, lkp, tbl, dBk, nth, setL, canSet, cmpI, tk, swK, rdF, entL, catS, cat1, arg, rcv, ald, bld, aln, br, Ccopy, Cmax, Cmin, Cabs, List.take, List.drop, List.reverse, List.reverseAux, List.length, List.append, List.nil_append, List.cons_append, true_and, and_true, and_self, forall_const, true_implies, false_implies, not_true_eq_false, not_false_eq_true, Option.map, reduceCtorEq, reduceIte, or_true, true_or, false_or, or_false, false_and, and_false, List.map, List.append_nil, implies_true, yK, Nat.reduceBEq, beq_self_eq_true, Int.zero_ne_one, Nat.reduceDiv, Nat.reduceMod, Nat.reduceAdd, Nat.reduceSub, Nat.reduceMul, Nat.reduceEqDiff, Nat.reduceLeDiff, Int.reduceToNat, Int.reduceNeg, Int.reduceEq, Int.reduceLT, Int.reduceLE, Int.reduceNatCast, Int.reduceNatCast', Int.reduceAdd, Int.reduceSub, Int.reduceMul, eq_self, Prod.mk.injEq, A_X9_wideA, V_X9_wideA, B_X9_wideA, Y_X9_wideA, shpT, rfsT]
    have : s = 0 ∨ s = 1 ∨ s = 2 ∨ s = 3 ∨ s = 4 := by omega
    repeat' (first | (intro _) | apply And.intro)
    all_goals (refine hQ _ _ ?_ rfl; rcases this with rfl | rfl | rfl | rfl | rfl <;> first | rfl | omega)
def A_X9_wideB : List (Nat × Ctr) := []
theorem e_X9_wideB (o : OM) : Ev o Y_X9_wideB 0 T_X9_wideB A_X9_wideB := ⟨rfl, fun _ h => absurd h List.not_mem_nil, fun _ h => absurd h List.not_mem_nil, fun _ h => absurd h List.not_mem_nil, fun _ h => absurd h List.not_mem_nil, fun _ h => absurd h List.not_mem_nil, fun _ h => absurd h List.not_mem_nil⟩
def C_X9_wideB : Ctr := fun A σ κ => match A with
  | [.inl s] => (0 ≤ s ∧ s < 5) ∧ κ [vI (o2 s)] σ
  | _ => False
set_option maxRecDepth 20000 in
theorem s_X9_wideB (o : OM) : Sound o Y_X9_wideB 0 C_X9_wideB := by
  intro Q A σ hA hC
  match A, hA, hC with
  | [.inl s], hA, hC =>
    obtain ⟨h0, hq⟩ : (0 ≤ s ∧ s < 5) ∧ Q [vI (o2 s)] σ := hC
    have hQ : ∀ r_ τ, r_ = (o2 s) → τ = (σ) → Q [vI r_] τ := fun r_ τ e e2 => e ▸ e2 ▸ hq
    refine at_wpl (lv := V_X9_wideB) (B := B_X9_wideB) (e_X9_wideB o) k_X9_wideB 4 0 [] _ σ ?_
    simp only [sq_iconst, sq_jsr, sq_anewarray, sq_iload, sq_lload, sq_aload, sq_istore, sq_lstore, sq_astore, sq_iinc, sq_getfield, st_put0, st_put1, st_put3, sq_inv, sq_goto, sq_icmp, sq_ifc, sq_tsw, sq_iadd, sq_isub, sq_imul, sq_ineg, sq_idiv, sq_irem, sq_iand, sq_ior, sq_ixor, sq_ishl, sq_ishr, sq_iushr, sq_ladd, sq_lmul, sq_ldiv, sq_lrem, sq_land, sq_lor, sq_lshl, sq_lushr, sq_lcmp, sq_i2l, sq_l2i, sq_i2c, sq_i2b, sq_dupI, sq_dupR, sq_dup2, sq_pop, sq_iaload, sq_baload, sq_aaload, sq_iastore, sq_bastore, sq_alen, sq_ireturn, sq_lreturn, sq_return, wq_c, wq_n, wlq_s, lkp, tbl, dBk, nth, setL, canSet, cmpI, tk, swK, rdF, entL, catS, cat1, arg, rcv, ald, bld, aln, br, Ccopy, Cmax, Cmin, Cabs, List.take, List.drop, List.reverse, List.reverseAux, List.length, List.append, List.nil_append, List.cons_append, true_and, and_true, and_self, forall_const, true_implies, false_implies, not_true_eq_false, not_false_eq_true, Option.map, reduceCtorEq, reduceIte, or_true, true_or, false_or, or_false, false_and, and_false, List.map, List.append_nil, implies_true, yK, Nat.reduceBEq, beq_self_eq_true, Int.zero_ne_one, Nat.reduceDiv, Nat.reduceMod, Nat.reduceAdd, Nat.reduceSub, Nat.reduceMul, Nat.reduceEqDiff, Nat.reduceLeDiff, Int.reduceToNat, Int.reduceNeg, Int.reduceEq, Int.reduceLT, Int.reduceLE, Int.reduceNatCast, Int.reduceNatCast', Int.reduceAdd, Int.reduceSub, Int.reduceMul, eq_self, Prod.mk.injEq, A_X9_wideB, V_X9_wideB, B_X9_wideB, Y_X9_wideB, shpT, rfsT]
    have : s = 0 ∨ s = 1 ∨ s = 2 ∨ s = 3 ∨ s = 4 := by omega
    repeat' (first | (intro _) | apply And.intro)
    all_goals (refine hQ _ _ ?_ rfl; rcases this with rfl | rfl | rfl | rfl | rfl <;> first | rfl | omega)
def A_X9_ash : List (Nat × Ctr) := []
theorem e_X9_ash (o : OM) : Ev o Y_X9_ash 0 T_X9_ash A_X9_ash := ⟨rfl, List.forall_mem_cons.mpr ⟨Or.inl f_X9_16, fun _ h => absurd h List.not_mem_nil⟩, fun _ h => absurd h List.not_mem_nil, fun _ h => absurd h List.not_mem_nil, fun _ h => absurd h List.not_mem_nil, fun _ h => absurd h List.not_mem_nil, fun _ h => absurd h List.not_mem_nil⟩
def C_X9_ash : Ctr := fun A σ κ => match A with
  | [.inr (.inr (.inl 67)), .inl x] => (0 ≤ x ∧ x < 112) ∧ κ [vI (if σ 70 x = 5 then 1 else 0)] σ
  | _ => False
set_option maxRecDepth 20000 in
theorem s_X9_ash (o : OM) : Sound o Y_X9_ash 0 C_X9_ash := by
  intro Q A σ hA hC
  match A, hA, hC with
  | [.inr (.inr (.inl 67)), .inl x], hA, hC =>
    obtain ⟨h0, hq⟩ : (0 ≤ x ∧ x < 112) ∧ Q [vI (if σ 70 x = 5 then 1 else 0)] σ := hC
    have hQ : ∀ r_ τ, r_ = (if σ 70 x = 5 then 1 else 0) → τ = (σ) → Q [vI r_] τ := fun r_ τ e e2 => e ▸ e2 ▸ hq
    refine at_wpl (lv := V_X9_ash) (B := B_X9_ash) (e_X9_ash o) k_X9_ash 3 0 [] _ σ ?_
    simp only [sq_iconst, sq_jsr, sq_anewarray, sq_iload, sq_lload, sq_aload, sq_istore, sq_lstore, sq_astore, sq_iinc, sq_getfield, st_put0, st_put1, st_put3, sq_inv, sq_goto, sq_icmp, sq_ifc, sq_tsw, sq_iadd, sq_isub, sq_imul, sq_ineg, sq_idiv, sq_irem, sq_iand, sq_ior, sq_ixor, sq_ishl, sq_ishr, sq_iushr, sq_ladd, sq_lmul, sq_ldiv, sq_lrem, sq_land, sq_lor, sq_lshl, sq_lushr, sq_lcmp, sq_i2l, sq_l2i, sq_i2c, sq_i2b, sq_dupI, sq_dupR, sq_dup2, sq_pop, sq_iaload, sq_baload, sq_aaload, sq_iastore, sq_bastore, sq_alen, sq_ireturn, sq_lreturn, sq_return, wq_c, wq_n, wlq_s, lkp, tbl, dBk, nth, setL, canSet, cmpI, tk, swK, rdF, entL, catS, cat1, arg, rcv, ald, bld, aln, br, Ccopy, Cmax, Cmin, Cabs, List.take, List.drop, List.reverse, List.reverseAux, List.length, List.append, List.nil_append, List.cons_append, true_and, and_true, and_self, forall_const, true_implies, false_implies, not_true_eq_false, not_false_eq_true, Option.map, reduceCtorEq, reduceIte, or_true, true_or, false_or, or_false, false_and, and_false, List.map, List.append_nil, implies_true, yK, Nat.reduceBEq, beq_self_eq_true, Int.zero_ne_one, Nat.reduceDiv, Nat.reduceMod, Nat.reduceAdd, Nat.reduceSub, Nat.reduceMul, Nat.reduceEqDiff, Nat.reduceLeDiff, Int.reduceToNat, Int.reduceNeg, Int.reduceEq, Int.reduceLT, Int.reduceLE, Int.reduceNatCast, Int.reduceNatCast', Int.reduceAdd, Int.reduceSub, Int.reduceMul, eq_self, Prod.mk.injEq, A_X9_ash, V_X9_ash, B_X9_ash, Y_X9_ash, shpT, rfsT]
    repeat' (first | assumption | (intro _) | apply And.intro)
    all_goals first | omega | assumption | (apply hQ <;> first | rfl | omega | (simp [*]; done) | (simp [*]; omega)) | skip
def A_X9_behind : List (Nat × Ctr) := [(1, arg 1 C_X9_wideA), (1, arg 1 C_X9_wideB)]
theorem e_X9_behind (o : OM) : Ev o Y_X9_behind 1 T_X9_behind A_X9_behind := ⟨rfl, fun _ h => absurd h List.not_mem_nil, fun _ h => absurd h List.not_mem_nil, fun _ h => absurd h List.not_mem_nil, fun _ h => absurd h List.not_mem_nil, fun _ h => absurd h List.not_mem_nil, List.forall_mem_cons.mpr ⟨cl_X9_wideA (s_X9_wideA o) (by decide) (Or.inl w_1458), List.forall_mem_cons.mpr ⟨cl_X9_wideB (s_X9_wideB o) (by decide) (Or.inl w_1461), fun _ h => absurd h List.not_mem_nil⟩⟩⟩
def C_X9_behind : Ctr := fun A σ κ => match A with
  | [.inr (.inr (.inl 67)), .inl i, .inl j, .inl s] => ((0 ≤ i ∧ i ≤ 16) ∧ (0 ≤ j ∧ j ≤ 16) ∧ (0 ≤ s ∧ s < 5)) ∧ κ [vI ((i + o1 s) * 17 + (j + o2 s))] σ
  | _ => False
set_option maxRecDepth 20000 in
theorem s_X9_behind (o : OM) : Sound o Y_X9_behind 1 C_X9_behind := by
  intro Q A σ hA hC
  match A, hA, hC with
  | [.inr (.inr (.inl 67)), .inl i, .inl j, .inl s], hA, hC =>
    obtain ⟨h0, hq⟩ : ((0 ≤ i ∧ i ≤ 16) ∧ (0 ≤ j ∧ j ≤ 16) ∧ (0 ≤ s ∧ s < 5)) ∧ Q [vI ((i + o1 s) * 17 + (j + o2 s))] σ := hC
    have hQ : ∀ r_ τ, r_ = ((i + o1 s) * 17 + (j + o2 s)) → τ = (σ) → Q [vI r_] τ := fun r_ τ e e2 => e ▸ e2 ▸ hq
    refine at_wpl (lv := V_X9_behind) (B := B_X9_behind) (e_X9_behind o) k_X9_behind 1 0 [] _ σ ?_
    simp only [sq_iconst, sq_jsr, sq_anewarray, sq_iload, sq_lload, sq_aload, sq_istore, sq_lstore, sq_astore, sq_iinc, sq_getfield, st_put0, st_put1, st_put3, sq_inv, sq_goto, sq_icmp, sq_ifc, sq_tsw, sq_iadd, sq_isub, sq_imul, sq_ineg, sq_idiv, sq_irem, sq_iand, sq_ior, sq_ixor, sq_ishl, sq_ishr, sq_iushr, sq_ladd, sq_lmul, sq_ldiv, sq_lrem, sq_land, sq_lor, sq_lshl, sq_lushr, sq_lcmp, sq_i2l, sq_l2i, sq_i2c, sq_i2b, sq_dupI, sq_dupR, sq_dup2, sq_pop, sq_iaload, sq_baload, sq_aaload, sq_iastore, sq_bastore, sq_alen, sq_ireturn, sq_lreturn, sq_return, wq_c, wq_n, wlq_s, lkp, tbl, dBk, nth, setL, canSet, cmpI, tk, swK, rdF, entL, catS, cat1, arg, rcv, ald, bld, aln, br, Ccopy, Cmax, Cmin, Cabs, List.take, List.drop, List.reverse, List.reverseAux, List.length, List.append, List.nil_append, List.cons_append, true_and, and_true, and_self, forall_const, true_implies, false_implies, not_true_eq_false, not_false_eq_true, Option.map, reduceCtorEq, reduceIte, or_true, true_or, false_or, or_false, false_and, and_false, List.map, List.append_nil, implies_true, yK, Nat.reduceBEq, beq_self_eq_true, Int.zero_ne_one, Nat.reduceDiv, Nat.reduceMod, Nat.reduceAdd, Nat.reduceSub, Nat.reduceMul, Nat.reduceEqDiff, Nat.reduceLeDiff, Int.reduceToNat, Int.reduceNeg, Int.reduceEq, Int.reduceLT, Int.reduceLE, Int.reduceNatCast, Int.reduceNatCast', Int.reduceAdd, Int.reduceSub, Int.reduceMul, eq_self, Prod.mk.injEq, A_X9_behind, V_X9_behind, B_X9_behind, Y_X9_behind, C_X9_wideA, C_X9_wideB, shpT, rfsT, m17]
    obtain ⟨hi, hj, hs⟩ := h0
    have ho := o_in hs
    refine ⟨hs, ⟨by omega, by omega⟩, ⟨by omega, by omega⟩, ⟨by omega, by omega⟩, hs, ⟨by omega, by omega⟩, hQ _ _ (by omega) rfl⟩
/-- what the reference's pairing holds is in order -/
def PrM (σ : Sto) : Prop := (0 ≤ σ 67 19 ∧ σ 67 19 < 7) ∧ (0 ≤ σ 67 20 ∧ σ 67 20 < 7) ∧ QI (σ 70) (σ 71) (σ 72) (σ 69) (σ 75) ∧ LI (σ 67 21) (σ 67 22) (σ 67 23) (σ 67 24)
def mP (σ : Sto) (s i j : Int) : Int := prS (fun i => σ 71 (σ 67 19 * 16 + i)) (fun i => σ 71 (σ 67 20 * 16 + i)) (fun i => ashC (σ 70) (σ 72) (σ 67 19) i) (fun i => ashC (σ 70) (σ 72) (σ 67 20) i) (σ 67 21) (σ 67 22) (σ 67 23) (σ 67 24) s i j
def mOk (σ : Sto) (s i j : Int) : Bool := okB (σ 69 (σ 67 19)) (σ 69 (σ 67 20)) (σ 67 25) (σ 67 26) s i j
theorem na_ash {kd nm : Int → Int} {p i : Int} (h : 0 ≤ nm (p * 16 + i)) : na (ashC kd nm p i) = if kd (p * 16 + i) = 5 then 1 else 0 := by
  unfold na ashC
  split <;> split <;> first | rfl | omega | simp_all
theorem mP_in {σ : Sto} {s i j : Int} (h : PrM σ) (hs : 0 ≤ s ∧ s < 5) (hi : 0 ≤ i) (hj : 0 ≤ j) (hi2 : i + o1 s ≤ σ 69 (σ 67 19)) (hj2 : j + o2 s ≤ σ 69 (σ 67 20)) : 0 ≤ mP σ s i j ∧ mP σ s i j ≤ 20000 := by
  obtain ⟨h1, h2, ⟨q1, q2, q3, q4⟩, hl⟩ := h
  have ho := o_in hs
  have za := q3 _ h1.1 h1.2
  have zb := q3 _ h2.1 h2.2
  have key : ∀ p i, 0 ≤ p → p < 7 → 0 ≤ i → i < 16 → -1 ≤ ashC (σ 70) (σ 72) p i ∧ ashC (σ 70) (σ 72) p i ≤ 9 := by
    intro p i h1 h2 h3 h4
    have := q1 (p * 16 + i) (by omega) (by omega)
    unfold ashC
    split <;> omega
  refine prS_in (n1 := σ 69 (σ 67 19)) (n2 := σ 69 (σ 67 20)) (fun x a b => ?_) (fun x a b => ?_) hl hs hi hj hi2 hj2
  · have g1 := q2 (σ 67 19 * 16 + x) (by omega) (by omega)
    have g2 := key (σ 67 19) x h1.1 h1.2 a (by omega)
    exact ⟨g1.1, g1.2, g2.1, g2.2⟩
  · have g1 := q2 (σ 67 20 * 16 + x) (by omega) (by omega)
    have g2 := key (σ 67 20) x h2.1 h2.2 a (by omega)
    exact ⟨g1.1, g1.2, g2.1, g2.2⟩
def A_X9_price : List (Nat × Ctr) := [(1, arg 1 C_X9_wideA), (1, arg 1 C_X9_wideB), (2, rcv 9 2 C_X9_ash), (1, arg 1 C_X9_size)]
theorem e_X9_price (o : OM) : Ev o Y_X9_price 1 T_X9_price A_X9_price := ⟨rfl, List.forall_mem_cons.mpr ⟨Or.inl f_X9_13, List.forall_mem_cons.mpr ⟨Or.inl f_X9_259, List.forall_mem_cons.mpr ⟨Or.inl f_X9_265, List.forall_mem_cons.mpr ⟨Or.inl f_X9_268, List.forall_mem_cons.mpr ⟨Or.inl f_X9_271, List.forall_mem_cons.mpr ⟨Or.inl f_X9_22, List.forall_mem_cons.mpr ⟨Or.inl f_X9_278, List.forall_mem_cons.mpr ⟨Or.inl f_X9_19, List.forall_mem_cons.mpr ⟨Or.inl f_X9_284, List.forall_mem_cons.mpr ⟨Or.inl f_X9_287, List.forall_mem_cons.mpr ⟨Or.inl f_X9_290, fun _ h => absurd h List.not_mem_nil⟩⟩⟩⟩⟩⟩⟩⟩⟩⟩⟩, List.forall_mem_cons.mpr ⟨⟨w_1453, by decide, by decide⟩, fun _ h => absurd h List.not_mem_nil⟩, fun _ h => absurd h List.not_mem_nil, fun _ h => absurd h List.not_mem_nil, List.forall_mem_cons.mpr ⟨cl_X9_ash (s_X9_ash o) (by decide) (Or.inl w_1464), fun _ h => absurd h List.not_mem_nil⟩, List.forall_mem_cons.mpr ⟨cl_X9_wideA (s_X9_wideA o) (by decide) (Or.inl w_1458), List.forall_mem_cons.mpr ⟨cl_X9_wideB (s_X9_wideB o) (by decide) (Or.inl w_1461), List.forall_mem_cons.mpr ⟨cl_X9_size (s_X9_size o) (by decide) (Or.inl w_1468), fun _ h => absurd h List.not_mem_nil⟩⟩⟩⟩
def C_X9_price : Ctr := fun A σ κ => match A with
  | [.inr (.inr (.inl 67)), .inl i, .inl j, .inl s] => (PrM σ ∧ (0 ≤ i ∧ i ≤ σ 69 (σ 67 19)) ∧ (0 ≤ j ∧ j ≤ σ 69 (σ 67 20)) ∧ (0 ≤ s ∧ s < 5)) ∧ κ [vI (if mOk σ s i j = true then mP σ s i j else 100000000)] σ
  | _ => False
set_option maxRecDepth 20000 in
theorem s_X9_price (o : OM) : Sound o Y_X9_price 1 C_X9_price := by
  intro Q A σ hA hC
  match A, hA, hC with
  | [.inr (.inr (.inl 67)), .inl i, .inl j, .inl s], hA, hC =>
    obtain ⟨h0, hq⟩ : (PrM σ ∧ (0 ≤ i ∧ i ≤ σ 69 (σ 67 19)) ∧ (0 ≤ j ∧ j ≤ σ 69 (σ 67 20)) ∧ (0 ≤ s ∧ s < 5)) ∧ Q [vI (if mOk σ s i j = true then mP σ s i j else 100000000)] σ := hC
    have hQ : ∀ r_ τ, r_ = (if mOk σ s i j = true then mP σ s i j else 100000000) → τ = (σ) → Q [vI r_] τ := fun r_ τ e e2 => e ▸ e2 ▸ hq
    obtain ⟨hP, hi, hj, hs⟩ := h0
    obtain ⟨h1, h2, ⟨q1, q2, q3, q4⟩, l1, l2, l3, l4⟩ := id hP
    have ho := o_in hs
    have za := q3 _ h1.1 h1.2
    have zb := q3 _ h2.1 h2.2
    clear hq
    have hN : ¬ okP (σ 69 (σ 67 19)) (σ 69 (σ 67 20)) (σ 67 25) (σ 67 26) s i j → Q [vI 100000000] σ := fun h => hQ _ _ (by rw [if_neg (show ¬ mOk σ s i j = true from fun z => h (okB_iff.mp z))]) rfl
    have hY : okP (σ 69 (σ 67 19)) (σ 69 (σ 67 20)) (σ 67 25) (σ 67 26) s i j → ∀ r, r = mP σ s i j → Q [vI r] σ := fun h r e => hQ _ _ (by rw [if_pos (show mOk σ s i j = true from okB_iff.mpr h)]; exact e) rfl
    clear hQ
    generalize hx : σ 67 19 * 16 + i = x
    generalize hy : σ 67 20 * 16 + j = y
    refine at_meth (lv := V_X9_price) (B := B_X9_price) (e_X9_price o) k_X9_price 7 [(60, fun m S L τ => S = [] ∧ L = [vR 67, vI i, vI j, vI s] ∧ τ = σ ∧ okP (σ 69 (σ 67 19)) (σ 69 (σ 67 20)) (σ 67 25) (σ 67 26) s i j ∧ m = 2),
      (133, fun m S L τ => S = [vI (if ashC (σ 70) (σ 72) (σ 67 19) i = ashC (σ 70) (σ 72) (σ 67 20) j then 0 else 1)] ∧ L = [vR 67, vI i, vI j, vI s, vI x, vI y] ∧ τ = σ ∧ okP (σ 69 (σ 67 19)) (σ 69 (σ 67 20)) (σ 67 25) (σ 67 26) s i j ∧ s = 0 ∧ m = 1),
      (173, fun m S L τ => S = [] ∧ L = [vR 67, vI i, vI j, vI s, vI x, vI y] ∧ τ = σ ∧ okP (σ 69 (σ 67 19)) (σ 69 (σ 67 20)) (σ 67 25) (σ 67 26) s i j ∧ ¬ s = 0 ∧ m = 1)] (List.forall_mem_cons.mpr ⟨?_, List.forall_mem_cons.mpr ⟨?_, List.forall_mem_cons.mpr ⟨?_, fun _ h => absurd h List.not_mem_nil⟩⟩⟩) 0 [] _ σ ?_
    · rintro m S L τ ⟨rfl, rfl, rfl, hok, hm⟩
      simp only [sq_iconst, sq_jsr, sq_anewarray, sq_iload, sq_lload, sq_aload, sq_istore, sq_lstore, sq_astore, sq_iinc, sq_getfield, st_put0, st_put1, st_put3, sq_inv, sq_goto, sq_icmp, sq_ifc, sq_tsw, sq_iadd, sq_isub, sq_imul, sq_ineg, sq_idiv, sq_irem, sq_iand, sq_ior, sq_ixor, sq_ishl, sq_ishr, sq_iushr, sq_ladd, sq_lmul, sq_ldiv, sq_lrem, sq_land, sq_lor, sq_lshl, sq_lushr, sq_lcmp, sq_i2l, sq_l2i, sq_i2c, sq_i2b, sq_dupI, sq_dupR, sq_dup2, sq_pop, sq_iaload, sq_baload, sq_aaload, sq_iastore, sq_bastore, sq_alen, sq_ireturn, sq_lreturn, sq_return, wq_c, wq_n, wlq_s, lkp, tbl, dBk, nth, setL, canSet, cmpI, tk, swK, rdF, entL, catS, cat1, arg, rcv, ald, bld, aln, br, Ccopy, Cmax, Cmin, Cabs, List.take, List.drop, List.reverse, List.reverseAux, List.length, List.append, List.nil_append, List.cons_append, true_and, and_true, and_self, forall_const, true_implies, false_implies, not_true_eq_false, not_false_eq_true, Option.map, reduceCtorEq, reduceIte, or_true, true_or, false_or, or_false, false_and, and_false, List.map, List.append_nil, implies_true, yK, Nat.reduceBEq, beq_self_eq_true, Int.zero_ne_one, Nat.reduceDiv, Nat.reduceMod, Nat.reduceAdd, Nat.reduceSub, Nat.reduceMul, Nat.reduceEqDiff, Nat.reduceLeDiff, Int.reduceToNat, Int.reduceNeg, Int.reduceEq, Int.reduceLT, Int.reduceLE, Int.reduceNatCast, Int.reduceNatCast', Int.reduceAdd, Int.reduceSub, Int.reduceMul, eq_self, Prod.mk.injEq, A_X9_price, V_X9_price, B_X9_price, Y_X9_price, C_X9_wideA, C_X9_wideB, C_X9_ash, C_X9_size, shpT, rfsT, wjq_s, look, m16, hx, hy]
      have hs4 : s = 0 → i + 1 ≤ τ 69 (τ 67 19) ∧ j + 1 ≤ τ 69 (τ 67 20) := by
        rintro rfl
        exact hok.2
      refine ⟨⟨by omega, by omega⟩, ⟨by omega, by omega⟩, ⟨by omega, by omega⟩, ⟨by omega, by omega⟩, fun h3 => ⟨1, by omega, hok, h3, rfl⟩, fun h3 => ?_⟩
      have hs0 : s = 0 := by omega
      have hs4 := hs4 hs0
      have g1 := q1 x (by omega) (by omega)
      have g2 := q1 y (by omega) (by omega)
      have fin : ∀ v, v = (if ashC (τ 70) (τ 72) (τ 67 19) i = ashC (τ 70) (τ 72) (τ 67 20) j then 0 else 1) → ∃ m_1, m_1 < m ∧ [vI v] = [vI (if ashC (τ 70) (τ 72) (τ 67 19) i = ashC (τ 70) (τ 72) (τ 67 20) j then 0 else 1)] ∧ okP (τ 69 (τ 67 19)) (τ 69 (τ 67 20)) (τ 67 25) (τ 67 26) s i j ∧ s = 0 ∧ m_1 = 1 := fun v hv => ⟨1, by omega, by rw [hv], hok, hs0, rfl⟩
      unfold ashC at fin ⊢
      rw [hx, hy] at fin ⊢
      refine ⟨by omega, by omega, fun h4 => fin 1 ?_, fun h4 => ⟨by omega, fun h5 => fin 0 ?_, fun h5 => ⟨by omega, by omega, fun h6 => fin 0 ?_, fun h6 => fin 1 ?_⟩⟩⟩
      all_goals (by_cases a : τ 70 x = 5 <;> by_cases b : τ 70 y = 5 <;> simp only [a, b, if_true, if_false, reduceIte] at * <;> first | omega | (split <;> omega) | (simp_all; done) | skip)
    · rintro m S L τ ⟨rfl, rfl, rfl, hok, hs0, hm⟩
      simp only [sq_iconst, sq_jsr, sq_anewarray, sq_iload, sq_lload, sq_aload, sq_istore, sq_lstore, sq_astore, sq_iinc, sq_getfield, st_put0, st_put1, st_put3, sq_inv, sq_goto, sq_icmp, sq_ifc, sq_tsw, sq_iadd, sq_isub, sq_imul, sq_ineg, sq_idiv, sq_irem, sq_iand, sq_ior, sq_ixor, sq_ishl, sq_ishr, sq_iushr, sq_ladd, sq_lmul, sq_ldiv, sq_lrem, sq_land, sq_lor, sq_lshl, sq_lushr, sq_lcmp, sq_i2l, sq_l2i, sq_i2c, sq_i2b, sq_dupI, sq_dupR, sq_dup2, sq_pop, sq_iaload, sq_baload, sq_aaload, sq_iastore, sq_bastore, sq_alen, sq_ireturn, sq_lreturn, sq_return, wq_c, wq_n, wlq_s, lkp, tbl, dBk, nth, setL, canSet, cmpI, tk, swK, rdF, entL, catS, cat1, arg, rcv, ald, bld, aln, br, Ccopy, Cmax, Cmin, Cabs, List.take, List.drop, List.reverse, List.reverseAux, List.length, List.append, List.nil_append, List.cons_append, true_and, and_true, and_self, forall_const, true_implies, false_implies, not_true_eq_false, not_false_eq_true, Option.map, reduceCtorEq, reduceIte, or_true, true_or, false_or, or_false, false_and, and_false, List.map, List.append_nil, implies_true, yK, Nat.reduceBEq, beq_self_eq_true, Int.zero_ne_one, Nat.reduceDiv, Nat.reduceMod, Nat.reduceAdd, Nat.reduceSub, Nat.reduceMul, Nat.reduceEqDiff, Nat.reduceLeDiff, Int.reduceToNat, Int.reduceNeg, Int.reduceEq, Int.reduceLT, Int.reduceLE, Int.reduceNatCast, Int.reduceNatCast', Int.reduceAdd, Int.reduceSub, Int.reduceMul, eq_self, Prod.mk.injEq, A_X9_price, V_X9_price, B_X9_price, Y_X9_price, C_X9_wideA, C_X9_wideB, C_X9_ash, C_X9_size, shpT, rfsT, wjq_s, look, m16]
      subst hs0
      have hok2 : i + 1 ≤ τ 69 (τ 67 19) ∧ j + 1 ≤ τ 69 (τ 67 20) := hok.2
      have g1 := q2 x (by omega) (by omega)
      have g2 := q2 y (by omega) (by omega)
      have hmP : mP τ 0 i j = τ 67 23 * iabs (τ 71 x - τ 71 y) + (if ashC (τ 70) (τ 72) (τ 67 19) i = ashC (τ 70) (τ 72) (τ 67 20) j then 0 else τ 67 24) := by
        unfold mP prS
        dsimp only
        rw [if_pos rfl, hx, hy]
      have a3 := iabs_in (a := τ 71 x - τ 71 y) (M := 99) (by omega) (by omega)
      have a4 := mulb l3.1 l3.2 a3.1 a3.2
      refine ⟨by omega, by omega, ⟨by omega, by omega⟩, by omega, ⟨by omega, by omega⟩, fun h3 => ⟨⟨by omega, by omega⟩, hY hok _ ?_⟩, fun h3 => ⟨⟨by omega, by omega⟩, hY hok _ ?_⟩⟩
      · rw [hmP]
        by_cases e : ashC (τ 70) (τ 72) (τ 67 19) i = ashC (τ 70) (τ 72) (τ 67 20) j
        · rw [if_pos e]
        · rw [if_neg e] at h3; omega
      · rw [hmP]
        by_cases e : ashC (τ 70) (τ 72) (τ 67 19) i = ashC (τ 70) (τ 72) (τ 67 20) j
        · rw [if_pos e] at h3; omega
        · rw [if_neg e]
    · rintro m S L τ ⟨rfl, rfl, rfl, hok, hs0, hm⟩
      simp only [sq_iconst, sq_jsr, sq_anewarray, sq_iload, sq_lload, sq_aload, sq_istore, sq_lstore, sq_astore, sq_iinc, sq_getfield, st_put0, st_put1, st_put3, sq_inv, sq_goto, sq_icmp, sq_ifc, sq_tsw, sq_iadd, sq_isub, sq_imul, sq_ineg, sq_idiv, sq_irem, sq_iand, sq_ior, sq_ixor, sq_ishl, sq_ishr, sq_iushr, sq_ladd, sq_lmul, sq_ldiv, sq_lrem, sq_land, sq_lor, sq_lshl, sq_lushr, sq_lcmp, sq_i2l, sq_l2i, sq_i2c, sq_i2b, sq_dupI, sq_dupR, sq_dup2, sq_pop, sq_iaload, sq_baload, sq_aaload, sq_iastore, sq_bastore, sq_alen, sq_ireturn, sq_lreturn, sq_return, wq_c, wq_n, wlq_s, lkp, tbl, dBk, nth, setL, canSet, cmpI, tk, swK, rdF, entL, catS, cat1, arg, rcv, ald, bld, aln, br, Ccopy, Cmax, Cmin, Cabs, List.take, List.drop, List.reverse, List.reverseAux, List.length, List.append, List.nil_append, List.cons_append, true_and, and_true, and_self, forall_const, true_implies, false_implies, not_true_eq_false, not_false_eq_true, Option.map, reduceCtorEq, reduceIte, or_true, true_or, false_or, or_false, false_and, and_false, List.map, List.append_nil, implies_true, yK, Nat.reduceBEq, beq_self_eq_true, Int.zero_ne_one, Nat.reduceDiv, Nat.reduceMod, Nat.reduceAdd, Nat.reduceSub, Nat.reduceMul, Nat.reduceEqDiff, Nat.reduceLeDiff, Int.reduceToNat, Int.reduceNeg, Int.reduceEq, Int.reduceLT, Int.reduceLE, Int.reduceNatCast, Int.reduceNatCast', Int.reduceAdd, Int.reduceSub, Int.reduceMul, eq_self, Prod.mk.injEq, A_X9_price, V_X9_price, B_X9_price, Y_X9_price, C_X9_wideA, C_X9_wideB, C_X9_ash, C_X9_size, shpT, rfsT, wjq_s, look, m16]
      have b1 := fun p => na_in (if τ 70 p = 5 then 0 else -1)
      refine ⟨fun h3 => ⟨fun h4 => ?_, fun h4 => ?_⟩, fun h3 => hY hok _ ?_⟩
      · have hs4 : s = 4 := by omega
        subst hs4
        have hok2 : i + 2 ≤ τ 69 (τ 67 19) ∧ j + 1 ≤ τ 69 (τ 67 20) := hok.2
        have g1 := q2 x (by omega) (by omega)
        have g2 := q2 (x + 1) (by omega) (by omega)
        have g3 := q2 y (by omega) (by omega)
        have k1 := q1 x (by omega) (by omega)
        have k2 := q1 (x + 1) (by omega) (by omega)
        have k3 := q1 y (by omega) (by omega)
        have hmP : mP τ 4 i j = τ 67 22 + τ 67 23 * iabs (τ 71 x + τ 71 (x + 1) - τ 71 y) + τ 67 24 * ((if τ 70 y = 5 then 1 else 0) + ((if τ 70 x = 5 then 1 else 0) + (if τ 70 (x + 1) = 5 then 1 else 0))) := by
          unfold mP prS
          have e1 : τ 67 19 * 16 + (i + 1) = x + 1 := by omega
          dsimp only
          rw [if_neg (by decide), if_neg (by decide), if_pos rfl, na_ash (by rw [hy]; exact k3.2.2.1), na_ash (by rw [hx]; exact k1.2.2.1), na_ash (by rw [e1]; exact k2.2.2.1), hx, hy, e1]
        have a3 := iabs_in (a := τ 71 x + τ 71 (x + 1) - τ 71 y) (M := 198) (by omega) (by omega)
        have a4 := mulb l3.1 l3.2 a3.1 a3.2
        have b1 : 0 ≤ (if τ 70 x = 5 then (1 : Int) else 0) ∧ (if τ 70 x = 5 then (1 : Int) else 0) ≤ 1 := by split <;> omega
        have b2 : 0 ≤ (if τ 70 (x + 1) = 5 then (1 : Int) else 0) ∧ (if τ 70 (x + 1) = 5 then (1 : Int) else 0) ≤ 1 := by split <;> omega
        have b3 : 0 ≤ (if τ 70 y = 5 then (1 : Int) else 0) ∧ (if τ 70 y = 5 then (1 : Int) else 0) ≤ 1 := by split <;> omega
        generalize (if τ 70 x = 5 then (1 : Int) else 0) = c1 at *
        generalize (if τ 70 (x + 1) = 5 then (1 : Int) else 0) = c2 at *
        generalize (if τ 70 y = 5 then (1 : Int) else 0) = c3 at *
        have a5 := mulb l4.1 l4.2 (b := c1 + c2 + c3) (B := 3) (by omega) (by omega)
        rw [show c3 + (c1 + c2) = c1 + c2 + c3 by omega] at hmP
        generalize τ 67 23 * iabs (τ 71 x + τ 71 (x + 1) - τ 71 y) = w1 at *
        generalize τ 67 24 * (c1 + c2 + c3) = w2 at *
        repeat' (first | (intro _) | apply And.intro)
        all_goals first | omega | exact hY hok _ hmP.symm
      · have hs3 : s = 3 := by omega
        subst hs3
        have hok2 : i + 1 ≤ τ 69 (τ 67 19) ∧ j + 2 ≤ τ 69 (τ 67 20) := hok.2
        have g1 := q2 y (by omega) (by omega)
        have g2 := q2 (y + 1) (by omega) (by omega)
        have g3 := q2 x (by omega) (by omega)
        have k1 := q1 y (by omega) (by omega)
        have k2 := q1 (y + 1) (by omega) (by omega)
        have k3 := q1 x (by omega) (by omega)
        have hmP : mP τ 3 i j = τ 67 22 + τ 67 23 * iabs (τ 71 x - τ 71 y - τ 71 (y + 1)) + τ 67 24 * ((if τ 70 x = 5 then 1 else 0) + ((if τ 70 y = 5 then 1 else 0) + (if τ 70 (y + 1) = 5 then 1 else 0))) := by
          unfold mP prS
          have e1 : τ 67 20 * 16 + (j + 1) = y + 1 := by omega
          dsimp only
          rw [if_neg (by decide), if_pos rfl, na_ash (by rw [hx]; exact k3.2.2.1), na_ash (by rw [hy]; exact k1.2.2.1), na_ash (by rw [e1]; exact k2.2.2.1), hx, hy, e1, ← iabs_neg, show -(τ 71 y + τ 71 (y + 1) - τ 71 x) = τ 71 x - τ 71 y - τ 71 (y + 1) by omega]
        have a3 := iabs_in (a := τ 71 x - τ 71 y - τ 71 (y + 1)) (M := 198) (by omega) (by omega)
        have a4 := mulb l3.1 l3.2 a3.1 a3.2
        have b1 : 0 ≤ (if τ 70 y = 5 then (1 : Int) else 0) ∧ (if τ 70 y = 5 then (1 : Int) else 0) ≤ 1 := by split <;> omega
        have b2 : 0 ≤ (if τ 70 (y + 1) = 5 then (1 : Int) else 0) ∧ (if τ 70 (y + 1) = 5 then (1 : Int) else 0) ≤ 1 := by split <;> omega
        have b3 : 0 ≤ (if τ 70 x = 5 then (1 : Int) else 0) ∧ (if τ 70 x = 5 then (1 : Int) else 0) ≤ 1 := by split <;> omega
        generalize (if τ 70 y = 5 then (1 : Int) else 0) = c1 at *
        generalize (if τ 70 (y + 1) = 5 then (1 : Int) else 0) = c2 at *
        generalize (if τ 70 x = 5 then (1 : Int) else 0) = c3 at *
        have a5 := mulb l4.1 l4.2 (b := c3 + c1 + c2) (B := 3) (by omega) (by omega)
        rw [show c3 + (c1 + c2) = c3 + c1 + c2 by omega] at hmP
        generalize τ 67 23 * iabs (τ 71 x - τ 71 y - τ 71 (y + 1)) = w1 at *
        generalize τ 67 24 * (c3 + c1 + c2) = w2 at *
        repeat' (first | (intro _) | apply And.intro)
        all_goals first | omega | exact hY hok _ hmP.symm
      · unfold mP prS
        rw [if_neg hs0, if_neg (by omega), if_neg (by omega)]
    · simp only [sq_iconst, sq_jsr, sq_anewarray, sq_iload, sq_lload, sq_aload, sq_istore, sq_lstore, sq_astore, sq_iinc, sq_getfield, st_put0, st_put1, st_put3, sq_inv, sq_goto, sq_icmp, sq_ifc, sq_tsw, sq_iadd, sq_isub, sq_imul, sq_ineg, sq_idiv, sq_irem, sq_iand, sq_ior, sq_ixor, sq_ishl, sq_ishr, sq_iushr, sq_ladd, sq_lmul, sq_ldiv, sq_lrem, sq_land, sq_lor, sq_lshl, sq_lushr, sq_lcmp, sq_i2l, sq_l2i, sq_i2c, sq_i2b, sq_dupI, sq_dupR, sq_dup2, sq_pop, sq_iaload, sq_baload, sq_aaload, sq_iastore, sq_bastore, sq_alen, sq_ireturn, sq_lreturn, sq_return, wq_c, wq_n, wlq_s, lkp, tbl, dBk, nth, setL, canSet, cmpI, tk, swK, rdF, entL, catS, cat1, arg, rcv, ald, bld, aln, br, Ccopy, Cmax, Cmin, Cabs, List.take, List.drop, List.reverse, List.reverseAux, List.length, List.append, List.nil_append, List.cons_append, true_and, and_true, and_self, forall_const, true_implies, false_implies, not_true_eq_false, not_false_eq_true, Option.map, reduceCtorEq, reduceIte, or_true, true_or, false_or, or_false, false_and, and_false, List.map, List.append_nil, implies_true, yK, Nat.reduceBEq, beq_self_eq_true, Int.zero_ne_one, Nat.reduceDiv, Nat.reduceMod, Nat.reduceAdd, Nat.reduceSub, Nat.reduceMul, Nat.reduceEqDiff, Nat.reduceLeDiff, Int.reduceToNat, Int.reduceNeg, Int.reduceEq, Int.reduceLT, Int.reduceLE, Int.reduceNatCast, Int.reduceNatCast', Int.reduceAdd, Int.reduceSub, Int.reduceMul, eq_self, Prod.mk.injEq, A_X9_price, V_X9_price, B_X9_price, Y_X9_price, C_X9_wideA, C_X9_wideB, C_X9_ash, C_X9_size, shpT, rfsT, wjq_s, look, m16]
      have hgo : ¬ σ 69 (σ 67 19) < i + o1 s → ¬ σ 69 (σ 67 20) < j + o2 s → ¬ (s = 0 ∧ i = σ 67 25 ∧ j = σ 67 26) → ∃ m, okP (σ 69 (σ 67 19)) (σ 69 (σ 67 20)) (σ 67 25) (σ 67 26) s i j ∧ m = 2 := fun a b c => ⟨2, ⟨c, by omega, by omega⟩, rfl⟩
      refine ⟨hs, ⟨by omega, by omega⟩, h1, fun h3 => hN (fun z => by have := z.2.1; omega), fun h3 => ⟨hs, ⟨by omega, by omega⟩, h2, fun h4 => hN (fun z => by have := z.2.2; omega), fun h4 => ⟨fun h5 => hgo h3 h4 (by omega), fun h5 => ⟨fun h6 => hgo h3 h4 (by omega), fun h6 => ⟨fun h7 => hgo h3 h4 (by omega), fun h7 => hN (fun z => z.1 ⟨by omega, by omega, by omega⟩)⟩⟩⟩⟩⟩

