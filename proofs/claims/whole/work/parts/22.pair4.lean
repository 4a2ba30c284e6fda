-- ===== pairing of the class: rows, set together, least =====
theorem su_r {σ : Sto} {q k : Nat} {i v : Int} (h : ¬ k = q) : su σ q i v k = σ k := su_ne k h
theorem su_at {σ : Sto} {q : Nat} {i v j : Int} : su σ q i v q j = if j = i then v else σ q j := by rw [su_eq]
def ashC (kd nm : Int → Int) (p i : Int) : Int := if kd (p * 16 + i) = 5 then nm (p * 16 + i) else -1
def A_X5_readRow : List (Nat × Ctr) := [(3, rcv 6 3 C_X6_thicknessOf), (3, rcv 6 3 C_X6_isAsh), (3, rcv 6 3 C_X6_nOf)]
theorem e_X5_readRow (o : OM) : Ev o Y_X5_readRow 2 T_X5_readRow A_X5_readRow := ⟨rfl, List.forall_mem_cons.mpr ⟨Or.inl f_X5_67, List.forall_mem_cons.mpr ⟨Or.inl f_X5_75, fun _ h => absurd h List.not_mem_nil⟩⟩, fun _ h => absurd h List.not_mem_nil, fun _ h => absurd h List.not_mem_nil, fun _ h => absurd h List.not_mem_nil, List.forall_mem_cons.mpr ⟨cl_X6_thicknessOf (s_X6_thicknessOf o) (by decide) (Or.inr ⟨_, wn_69⟩), List.forall_mem_cons.mpr ⟨cl_X6_isAsh (s_X6_isAsh o) (by decide) (Or.inr ⟨_, wn_70⟩), List.forall_mem_cons.mpr ⟨cl_X6_nOf (s_X6_nOf o) (by decide) (Or.inr ⟨_, wn_71⟩), fun _ h => absurd h List.not_mem_nil⟩⟩⟩, fun _ h => absurd h List.not_mem_nil⟩
def C_X5_readRow : Ctr := fun A σ κ => match A with
  | [.inr (.inr (.inl 9)), .inl p, .inr (.inr (.inl qt)), .inr (.inr (.inl qe))] => ((shp qt = (0, 16) ∧ shp qe = (0, 16)) ∧ (38 < qt ∧ qt < 43 ∧ 38 < qe ∧ qe < 43 ∧ ¬ qt = qe) ∧ (0 ≤ p ∧ p < 7) ∧ (0 ≤ σ 12 p ∧ σ 12 p ≤ 16)) ∧ ∀ τ : Sto, (∀ q : Nat, q ≠ qt → q ≠ qe → τ q = σ q) → (∀ i, 0 ≤ i → i < σ 12 p → τ qt i = σ 14 (p * 16 + i) ∧ τ qe i = ashC (σ 13) (σ 15) p i) → κ [] τ
  | _ => False
set_option maxRecDepth 20000 in
theorem s_X5_readRow (o : OM) : Sound o Y_X5_readRow 2 C_X5_readRow := by
  intro Q A σ hA hC
  match A, hA, hC with
  | [.inr (.inr (.inl 9)), .inl p, .inr (.inr (.inl qt)), .inr (.inr (.inl qe))], hA, hC =>
    obtain ⟨h0, hq⟩ : ((shp qt = (0, 16) ∧ shp qe = (0, 16)) ∧ (38 < qt ∧ qt < 43 ∧ 38 < qe ∧ qe < 43 ∧ ¬ qt = qe) ∧ (0 ≤ p ∧ p < 7) ∧ (0 ≤ σ 12 p ∧ σ 12 p ≤ 16)) ∧ ∀ τ : Sto, (∀ q : Nat, q ≠ qt → q ≠ qe → τ q = σ q) → (∀ i, 0 ≤ i → i < σ 12 p → τ qt i = σ 14 (p * 16 + i) ∧ τ qe i = ashC (σ 13) (σ 15) p i) → Q [] τ := hC
    obtain ⟨⟨hs1, hs2⟩, hq1, hp, hn⟩ := h0
    refine at_meth (lv := V_X5_readRow) (B := B_X5_readRow) (e_X5_readRow o) k_X5_readRow 5 [(3, fun m S L τ => ∃ j : Int, S = [] ∧ L = [vR 9, vI p, vR qt, vR qe, vI j] ∧ (∀ q : Nat, q ≠ qt → q ≠ qe → τ q = σ q) ∧ 0 ≤ j ∧ j ≤ σ 12 p ∧ m = (σ 12 p - j).toNat ∧ (∀ i, 0 ≤ i → i < j → τ qt i = σ 14 (p * 16 + i) ∧ τ qe i = ashC (σ 13) (σ 15) p i))] (List.forall_mem_cons.mpr ⟨?_, fun _ h => absurd h List.not_mem_nil⟩) 0 [] _ σ ?_
    · rintro m S L τ ⟨j, rfl, rfl, he, hj0, hj1, hm, hd⟩
      simp only [sq_iconst, sq_jsr, sq_anewarray, sq_iload, sq_lload, sq_aload, sq_istore, sq_lstore, sq_astore, sq_iinc, sq_getfield, st_put0, st_put1, st_put3, sq_inv, sq_goto, sq_icmp, sq_ifc, sq_tsw, sq_iadd, sq_isub, sq_imul, sq_ineg, sq_idiv, sq_irem, sq_iand, sq_ior, sq_ixor, sq_ishl, sq_ishr, sq_iushr, sq_ladd, sq_lmul, sq_ldiv, sq_lrem, sq_land, sq_lor, sq_lshl, sq_lushr, sq_lcmp, sq_i2l, sq_l2i, sq_i2c, sq_i2b, sq_dupI, sq_dupR, sq_dup2, sq_pop, sq_iaload, sq_baload, sq_aaload, sq_iastore, sq_bastore, sq_alen, sq_ireturn, sq_lreturn, sq_return, wq_c, wq_n, wlq_s, lkp, tbl, dBk, nth, setL, canSet, cmpI, tk, swK, rdF, entL, catS, cat1, arg, rcv, ald, bld, aln, br, Ccopy, Cmax, Cmin, Cabs, List.take, List.drop, List.reverse, List.reverseAux, List.length, List.append, List.nil_append, List.cons_append, true_and, and_true, and_self, forall_const, true_implies, false_implies, not_true_eq_false, not_false_eq_true, Option.map, reduceCtorEq, reduceIte, or_true, true_or, false_or, or_false, false_and, and_false, List.map, List.append_nil, implies_true, yK, Nat.reduceBEq, beq_self_eq_true, Int.zero_ne_one, Nat.reduceDiv, Nat.reduceMod, Nat.reduceAdd, Nat.reduceSub, Nat.reduceMul, Nat.reduceEqDiff, Nat.reduceLeDiff, Int.reduceToNat, Int.reduceNeg, Int.reduceEq, Int.reduceLT, Int.reduceLE, Int.reduceNatCast, Int.reduceNatCast', Int.reduceAdd, Int.reduceSub, Int.reduceMul, eq_self, Prod.mk.injEq, A_X5_readRow, V_X5_readRow, B_X5_readRow, Y_X5_readRow, C_X6_thicknessOf, C_X6_isAsh, C_X6_nOf, shpT, rfsT, wjq_s, look, hs1, hs2]
      have e12 := he 12 (by omega) (by omega)
      have e13 := he 13 (by omega) (by omega)
      have e14 := he 14 (by omega) (by omega)
      have e15 := he 15 (by omega) (by omega)
      rw [e12, e14]
      have nx : ∀ v, v = ashC (σ 13) (σ 15) p j → j < σ 12 p → i32 (j + 1) ∧ ∃ m_1, m_1 < m ∧ ∃ j_1, [vR 9, vI p, vR qt, vR qe, vI (j + 1)] = [vR 9, vI p, vR qt, vR qe, vI j_1] ∧ (∀ q : Nat, q ≠ qt → q ≠ qe → su (su τ qt j (σ 14 (p * 16 + j))) qe j v q = σ q) ∧ 0 ≤ j_1 ∧ j_1 ≤ σ 12 p ∧ m_1 = (σ 12 p - j_1).toNat ∧ (∀ i, 0 ≤ i → i < j_1 → su (su τ qt j (σ 14 (p * 16 + j))) qe j v qt i = σ 14 (p * 16 + i) ∧ su (su τ qt j (σ 14 (p * 16 + j))) qe j v qe i = ashC (σ 13) (σ 15) p i) := by
        intro v hv hlt
        refine ⟨⟨by omega, by omega⟩, _, ?_, j + 1, rfl, fun q h1 h2 => by rw [su_ne q h2, su_ne q h1]; exact he q h1 h2, by omega, by omega, rfl, fun i h1 h2 => ?_⟩
        · omega
        · rw [su_ne qt hq1.2.2.2.2]
          by_cases hij : i = j
          · subst hij
            rw [su_y, su_y]
            exact ⟨rfl, hv⟩
          · rw [su_x hij, su_x hij, su_ne qe (fun z => hq1.2.2.2.2 z.symm)]
            exact hd i h1 (by omega)
      rw [su_ne 13 (by omega), su_ne 15 (by omega), e13, e15]
      refine ⟨by omega, fun h1 => hq τ he (fun i h2 h3 => hd i h2 (by omega)), fun h1 => ⟨by omega, by omega, by omega, fun h2 => ⟨by omega, by omega, nx _ ?_ (by omega)⟩, fun h2 => ⟨by omega, nx _ ?_ (by omega)⟩⟩⟩
      · unfold ashC; rw [if_pos h2]
      · unfold ashC; rw [if_neg h2]
    · simp only [sq_iconst, sq_jsr, sq_anewarray, sq_iload, sq_lload, sq_aload, sq_istore, sq_lstore, sq_astore, sq_iinc, sq_getfield, st_put0, st_put1, st_put3, sq_inv, sq_goto, sq_icmp, sq_ifc, sq_tsw, sq_iadd, sq_isub, sq_imul, sq_ineg, sq_idiv, sq_irem, sq_iand, sq_ior, sq_ixor, sq_ishl, sq_ishr, sq_iushr, sq_ladd, sq_lmul, sq_ldiv, sq_lrem, sq_land, sq_lor, sq_lshl, sq_lushr, sq_lcmp, sq_i2l, sq_l2i, sq_i2c, sq_i2b, sq_dupI, sq_dupR, sq_dup2, sq_pop, sq_iaload, sq_baload, sq_aaload, sq_iastore, sq_bastore, sq_alen, sq_ireturn, sq_lreturn, sq_return, wq_c, wq_n, wlq_s, lkp, tbl, dBk, nth, setL, canSet, cmpI, tk, swK, rdF, entL, catS, cat1, arg, rcv, ald, bld, aln, br, Ccopy, Cmax, Cmin, Cabs, List.take, List.drop, List.reverse, List.reverseAux, List.length, List.append, List.nil_append, List.cons_append, true_and, and_true, and_self, forall_const, true_implies, false_implies, not_true_eq_false, not_false_eq_true, Option.map, reduceCtorEq, reduceIte, or_true, true_or, false_or, or_false, false_and, and_false, List.map, List.append_nil, implies_true, yK, Nat.reduceBEq, beq_self_eq_true, Int.zero_ne_one, Nat.reduceDiv, Nat.reduceMod, Nat.reduceAdd, Nat.reduceSub, Nat.reduceMul, Nat.reduceEqDiff, Nat.reduceLeDiff, Int.reduceToNat, Int.reduceNeg, Int.reduceEq, Int.reduceLT, Int.reduceLE, Int.reduceNatCast, Int.reduceNatCast', Int.reduceAdd, Int.reduceSub, Int.reduceMul, eq_self, Prod.mk.injEq, A_X5_readRow, V_X5_readRow, B_X5_readRow, Y_X5_readRow, C_X6_thicknessOf, C_X6_isAsh, C_X6_nOf, shpT, rfsT, wjq_s, look]
      exact ⟨_, 0, rfl, by omega, by omega, rfl, fun i h1 h2 => by omega⟩
/-- two pits set together by a law, a bar left out: what the pairing holds then -/
def SetC (σ τ : Sto) (l a b bi bj : Int) : Prop := (τ 9 6 = σ 12 a ∧ τ 9 7 = σ 12 b) ∧ (∀ i, 0 ≤ i → i < σ 12 a → τ 39 i = σ 14 (a * 16 + i) ∧ τ 41 i = ashC (σ 13) (σ 15) a i) ∧ (∀ i, 0 ≤ i → i < σ 12 b → τ 40 i = σ 14 (b * 16 + i) ∧ τ 42 i = ashC (σ 13) (σ 15) b i) ∧ (τ 9 8 = σ 38 (l * 4) ∧ τ 9 9 = σ 38 (l * 4 + 1) ∧ τ 9 10 = σ 38 (l * 4 + 2) ∧ τ 9 11 = σ 38 (l * 4 + 3)) ∧ (τ 9 12 = bi ∧ τ 9 13 = bj)
/-- pits, leaves and laws in order, as pairing needs it -/
def QI (kd th nm sz lw : Int → Int) : Prop := PI kd nm ∧ (∀ j, 0 ≤ j → j < 112 → 0 ≤ th j ∧ th j ≤ 99) ∧ (∀ p, 0 ≤ p → p < 7 → 0 ≤ sz p ∧ sz p ≤ 16) ∧ (∀ j, 0 ≤ j → j < 16 → 0 ≤ lw j ∧ lw j ≤ 99)
theorem SetC_PrI {σ τ : Sto} {l a b bi bj : Int} (h : SetC σ τ l a b bi bj) (hq : QI (σ 13) (σ 14) (σ 15) (σ 12) (σ 38)) (hl : 0 ≤ l ∧ l < 4) (ha : 0 ≤ a ∧ a < 7) (hb : 0 ≤ b ∧ b < 7) : PrI τ := by
  obtain ⟨⟨s1, s2⟩, r1, r2, ⟨p1, p2, p3, p4⟩, -⟩ := h
  obtain ⟨q1, q2, q3, q4⟩ := hq
  have za := q3 a ha.1 ha.2
  have zb := q3 b hb.1 hb.2
  have key : ∀ p i, 0 ≤ p → p < 7 → 0 ≤ i → i < 16 → -1 ≤ ashC (σ 13) (σ 15) p i ∧ ashC (σ 13) (σ 15) p i ≤ 9 := by
    intro p i h1 h2 h3 h4
    have := q1 (p * 16 + i) (by omega) (by omega)
    unfold ashC
    split <;> omega
  refine ⟨by omega, by omega, fun i h1 h2 => ?_, fun i h1 h2 => ?_, ?_, ?_, ?_, ?_⟩
  · have h3 := r1 i h1 (by omega)
    have h4 := q2 (a * 16 + i) (by omega) (by omega)
    have h5 := key a i ha.1 ha.2 h1 (by omega)
    rw [h3.1, h3.2]
    omega
  · have h3 := r2 i h1 (by omega)
    have h4 := q2 (b * 16 + i) (by omega) (by omega)
    have h5 := key b i hb.1 hb.2 h1 (by omega)
    rw [h3.1, h3.2]
    omega
  · rw [p1]; exact q4 _ (by omega) (by omega)
  · rw [p2]; exact q4 _ (by omega) (by omega)
  · rw [p3]; exact q4 _ (by omega) (by omega)
  · rw [p4]; exact q4 _ (by omega) (by omega)
/-- the pairing's own places -/
def offP (σ τ : Sto) : Prop := ∀ q : Nat, ¬ (q = 9 ∨ (38 < q ∧ q < 48)) → τ q = σ q
def A_X5_setTogether : List (Nat × Ctr) := [(4, rcv 5 5 C_X5_readRow), (3, rcv 2 3 C_X2_priceOf), (1, rcv 5 3 C_X5_fillAll)]
theorem e_X5_setTogether (o : OM) : Ev o Y_X5_setTogether 5 T_X5_setTogether A_X5_setTogether := ⟨rfl, List.forall_mem_cons.mpr ⟨Or.inl f_X5_67, List.forall_mem_cons.mpr ⟨Or.inl f_X5_75, List.forall_mem_cons.mpr ⟨Or.inl f_X5_24, List.forall_mem_cons.mpr ⟨Or.inl f_X5_28, List.forall_mem_cons.mpr ⟨Or.inl f_X5_9, List.forall_mem_cons.mpr ⟨Or.inl f_X5_18, List.forall_mem_cons.mpr ⟨Or.inl f_X5_15, List.forall_mem_cons.mpr ⟨Or.inl f_X5_21, List.forall_mem_cons.mpr ⟨Or.inl f_X5_71, List.forall_mem_cons.mpr ⟨Or.inl f_X5_31, List.forall_mem_cons.mpr ⟨Or.inl f_X5_34, List.forall_mem_cons.mpr ⟨Or.inl f_X5_37, List.forall_mem_cons.mpr ⟨Or.inl f_X5_40, List.forall_mem_cons.mpr ⟨Or.inl f_X5_43, List.forall_mem_cons.mpr ⟨Or.inl f_X5_46, fun _ h => absurd h List.not_mem_nil⟩⟩⟩⟩⟩⟩⟩⟩⟩⟩⟩⟩⟩⟩⟩, fun _ h => absurd h List.not_mem_nil, fun _ h => absurd h List.not_mem_nil, fun _ h => absurd h List.not_mem_nil, List.forall_mem_cons.mpr ⟨cl_X5_readRow (s_X5_readRow o) (by decide) (Or.inl w_689), List.forall_mem_cons.mpr ⟨cl_X2_priceOf (s_X2_priceOf o) (by decide) (Or.inr ⟨_, wn_72⟩), List.forall_mem_cons.mpr ⟨cl_X5_fillAll (s_X5_fillAll o) (by decide) (Or.inl w_700), fun _ h => absurd h List.not_mem_nil⟩⟩⟩, fun _ h => absurd h List.not_mem_nil⟩
def C_X5_setTogether : Ctr := fun A σ κ => match A with
  | [.inr (.inr (.inl 9)), .inl l, .inl a, .inl b] => ((0 ≤ l ∧ l < 4) ∧ (0 ≤ a ∧ a < 7) ∧ (0 ≤ b ∧ b < 7) ∧ QI (σ 13) (σ 14) (σ 15) (σ 12) (σ 38)) ∧ ∀ τ : Sto, offP σ τ → SetC σ τ l a b (-1) (-1) → TabC τ → PrI τ → κ [] τ
  | _ => False
set_option maxRecDepth 20000 in
theorem s_X5_setTogether (o : OM) : Sound o Y_X5_setTogether 5 C_X5_setTogether := by
  intro Q A σ hA hC
  match A, hA, hC with
  | [.inr (.inr (.inl 9)), .inl l, .inl a, .inl b], hA, hC =>
    obtain ⟨h0, hq⟩ : ((0 ≤ l ∧ l < 4) ∧ (0 ≤ a ∧ a < 7) ∧ (0 ≤ b ∧ b < 7) ∧ QI (σ 13) (σ 14) (σ 15) (σ 12) (σ 38)) ∧ ∀ τ : Sto, offP σ τ → SetC σ τ l a b (-1) (-1) → TabC τ → PrI τ → Q [] τ := hC
    refine at_wpl (lv := V_X5_setTogether) (B := B_X5_setTogether) (e_X5_setTogether o) k_X5_setTogether 1 0 [] _ σ ?_
    simp only [sq_iconst, sq_jsr, sq_anewarray, sq_iload, sq_lload, sq_aload, sq_istore, sq_lstore, sq_astore, sq_iinc, sq_getfield, st_put0, st_put1, st_put3, sq_inv, sq_goto, sq_icmp, sq_ifc, sq_tsw, sq_iadd, sq_isub, sq_imul, sq_ineg, sq_idiv, sq_irem, sq_iand, sq_ior, sq_ixor, sq_ishl, sq_ishr, sq_iushr, sq_ladd, sq_lmul, sq_ldiv, sq_lrem, sq_land, sq_lor, sq_lshl, sq_lushr, sq_lcmp, sq_i2l, sq_l2i, sq_i2c, sq_i2b, sq_dupI, sq_dupR, sq_dup2, sq_pop, sq_iaload, sq_baload, sq_aaload, sq_iastore, sq_bastore, sq_alen, sq_ireturn, sq_lreturn, sq_return, wq_c, wq_n, wlq_s, lkp, tbl, dBk, nth, setL, canSet, cmpI, tk, swK, rdF, entL, catS, cat1, arg, rcv, ald, bld, aln, br, Ccopy, Cmax, Cmin, Cabs, List.take, List.drop, List.reverse, List.reverseAux, List.length, List.append, List.nil_append, List.cons_append, true_and, and_true, and_self, forall_const, true_implies, false_implies, not_true_eq_false, not_false_eq_true, Option.map, reduceCtorEq, reduceIte, or_true, true_or, false_or, or_false, false_and, and_false, List.map, List.append_nil, implies_true, yK, Nat.reduceBEq, beq_self_eq_true, Int.zero_ne_one, Nat.reduceDiv, Nat.reduceMod, Nat.reduceAdd, Nat.reduceSub, Nat.reduceMul, Nat.reduceEqDiff, Nat.reduceLeDiff, Int.reduceToNat, Int.reduceNeg, Int.reduceEq, Int.reduceLT, Int.reduceLE, Int.reduceNatCast, Int.reduceNatCast', Int.reduceAdd, Int.reduceSub, Int.reduceMul, eq_self, Prod.mk.injEq, A_X5_setTogether, V_X5_setTogether, B_X5_setTogether, Y_X5_setTogether, C_X5_readRow, C_X2_priceOf, C_X5_fillAll, shpT, rfsT, su_r, su_at]
    obtain ⟨hl, ha, hb, hQI⟩ := h0
    have za := hQI.2.2.1 a ha.1 ha.2
    have zb := hQI.2.2.1 b hb.1 hb.2
    refine ⟨ha, hb, ⟨by decide, ha, za⟩, fun τ1 e1 r1 => ⟨⟨by decide, hb, by rw [e1 12 (by decide) (by decide), su_r (by decide), su_r (by decide)]; exact zb⟩, fun τ2 e2 r2 => ?_⟩⟩
    have f1 : ∀ q : Nat, q ≠ 9 → q ≠ 39 → q ≠ 41 → τ1 q = σ q := fun q h1 h2 h3 => by rw [e1 q h2 h3, su_r h1, su_r h1]
    have f2 : ∀ q : Nat, q ≠ 9 → q ≠ 39 → q ≠ 41 → q ≠ 40 → q ≠ 42 → τ2 q = σ q := fun q h1 h2 h3 h4 h5 => by rw [e2 q h4 h5, f1 q h1 h2 h3]
    have g9 : τ2 9 = su (su σ 9 6 (σ 12 a)) 9 7 (σ 12 b) 9 := by rw [e2 9 (by decide) (by decide), e1 9 (by decide) (by decide)]
    have hS : ∀ ρ : Sto, (∀ q : Nat, q ≠ 43 → q ≠ 44 → ρ q = su (su (su (su (su (su τ2 9 8 (τ2 38 (l * 4 + 0))) 9 9 (τ2 38 (l * 4 + 1))) 9 10 (τ2 38 (l * 4 + 2))) 9 11 (τ2 38 (l * 4 + 3))) 9 12 (-1)) 9 13 (-1) q) → SetC σ ρ l a b (-1) (-1) := by
      intro ρ hρ
      have h9 := hρ 9 (by decide) (by decide)
      have ho : ∀ q : Nat, q ≠ 9 → q ≠ 43 → q ≠ 44 → ρ q = τ2 q := fun q h1 h2 h3 => by rw [hρ q h2 h3, su_r h1, su_r h1, su_r h1, su_r h1, su_r h1, su_r h1]
      have e38 := f2 38 (by decide) (by decide) (by decide) (by decide) (by decide)
      refine ⟨⟨?_, ?_⟩, fun i h1 h2 => ?_, fun i h1 h2 => ?_, ⟨?_, ?_, ?_, ?_⟩, ?_, ?_⟩
      · rw [h9]; simp [su_at, g9]
      · rw [h9]; simp [su_at, g9]
      · have h3 := r1 i h1 h2
        rw [ho 39 (by decide) (by decide) (by decide), ho 41 (by decide) (by decide) (by decide), e2 39 (by decide) (by decide), e2 41 (by decide) (by decide)]
        exact h3
      · have h3 := r2 i h1 (by rw [f1 12 (by decide) (by decide) (by decide)]; exact h2)
        rw [f1 14 (by decide) (by decide) (by decide), f1 13 (by decide) (by decide) (by decide), f1 15 (by decide) (by decide) (by decide)] at h3
        rw [ho 40 (by decide) (by decide) (by decide), ho 42 (by decide) (by decide) (by decide)]
        exact h3
      · rw [h9]; simp [su_at, e38]
      · rw [h9]; simp [su_at, e38]
      · rw [h9]; simp [su_at, e38]
      · rw [h9]; simp [su_at, e38]
      · rw [h9]; simp [su_at]
      · rw [h9]; simp [su_at]
    refine ⟨hl, hl, hl, hl, SetC_PrI (hS _ (fun _ _ _ => rfl)) hQI hl ha hb, fun ρ e3 hT => ?_⟩
    have hS3 := hS ρ e3
    refine hq ρ (fun q hq0 => ?_) hS3 hT (SetC_PrI hS3 hQI hl ha hb)
    have hq1 : q ≠ 9 := by omega
    rw [e3 q (by omega) (by omega), su_r hq1, su_r hq1, su_r hq1, su_r hq1, su_r hq1, su_r hq1]
    exact f2 q hq1 (by omega) (by omega) (by omega) (by omega)

