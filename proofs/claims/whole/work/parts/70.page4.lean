-- ===== reading the page: the class =====
def A_X4_readItems : List (Nat × Ctr) := [(2, arg 4 C_J7_fill_53178), (2, rcv 20 2 C_J0_indexOf_0f7a4), (3, arg 3 C_X8_isWithin), (1, rcv 20 1 C_J0_length_8abf5)]
theorem e_X4_readItems (o : OM) : Ev o Y_X4_readItems 7 T_X4_readItems A_X4_readItems := ⟨rfl, List.forall_mem_cons.mpr ⟨Or.inl f_X4_23, List.forall_mem_cons.mpr ⟨Or.inl f_X4_19, List.forall_mem_cons.mpr ⟨Or.inl f_X4_9, List.forall_mem_cons.mpr ⟨Or.inl f_X4_15, fun _ h => absurd h List.not_mem_nil⟩⟩⟩⟩, fun _ h => absurd h List.not_mem_nil, fun _ h => absurd h List.not_mem_nil, fun _ h => absurd h List.not_mem_nil, List.forall_mem_cons.mpr ⟨cl_J0_indexOf_0f7a4 (s_J0_indexOf_0f7a4 o) (by decide) (Or.inl w_490), List.forall_mem_cons.mpr ⟨cl_J0_length_8abf5 (s_J0_length_8abf5 o) (by decide) (Or.inl w_577), fun _ h => absurd h List.not_mem_nil⟩⟩, List.forall_mem_cons.mpr ⟨cl_J7_fill_53178 (s_J7_fill_53178 o) (by decide) (Or.inl w_489), List.forall_mem_cons.mpr ⟨cl_X8_isWithin (s_X8_isWithin o) (by decide) (Or.inr ⟨_, wn_55⟩), fun _ h => absurd h List.not_mem_nil⟩⟩⟩
def C_X4_readItems : Ctr := fun A σ κ => match A with
  | [.inr (.inr (.inl 5)), .inr (.inr (.inl q)), .inl ml] => (((q = 103 ∧ ml = 1) ∨ (q = 104 ∧ ml = 2)) ∧ (0 ≤ σ 5 0 ∧ σ 5 0 ≤ 30) ∧ (∀ j, 0 ≤ j → j < 30 → 0 ≤ σ 35 j ∧ σ 35 j ≤ 126)) ∧ rdC ml σ κ
  | _ => False
set_option maxRecDepth 20000 in
theorem s_X4_readItems (o : OM) : Sound o Y_X4_readItems 7 C_X4_readItems := by
  intro Q A σ hA hC
  match A, hA, hC with
  | [.inr (.inr (.inl 5)), .inr (.inr (.inl q)), .inl ml], hA, hC =>
    obtain ⟨h0, hq⟩ : (((q = 103 ∧ ml = 1) ∨ (q = 104 ∧ ml = 2)) ∧ (0 ≤ σ 5 0 ∧ σ 5 0 ≤ 30) ∧ (∀ j, 0 ≤ j → j < 30 → 0 ≤ σ 35 j ∧ σ 35 j ≤ 126)) ∧ rdC ml σ Q := hC
    obtain ⟨hqm, h5, h35⟩ := h0
    have hm : ml = 1 ∨ ml = 2 := by rcases hqm with h | h <;> omega
    have hq3 : q = 103 ∨ q = 104 := by rcases hqm with h | h <;> omega
    have hsq : shp q = (3, 20) := by rcases hq3 with rfl | rfl <;> rfl
    have hlt : ∀ c, ltq (q + 2) c = ltm ml c := fun c => by rcases hqm with ⟨rfl, rfl⟩ | ⟨rfl, rfl⟩ <;> rfl
    have hle : (if q = 103 then (7 : Int) else 4) = nnm ml := by rcases hqm with ⟨rfl, rfl⟩ | ⟨rfl, rfl⟩ <;> rfl
    obtain ⟨P24, hP24⟩ : ∃ P : Nat → List AV → List AV → Sto → Prop, P = fun m S L τ => ∃ (k : Nat) (z : Zr), S = [] ∧ L = [vR 5, vR q, vI ml, vI z.1, vI z.2.1, vI z.2.2.1, vI (k : Int)] ∧ CP σ τ ∧ τ 5 2 = 0 ∧ (∀ j, 0 ≤ j → j < 7 → τ 36 j = z.2.2.2 j) ∧ rdk ml (σ 35) k = some z ∧ (k : Int) ≤ σ 5 0 ∧ m = (σ 5 0 - k).toNat := ⟨_, rfl⟩
    refine at_meth (lv := V_X4_readItems) (B := B_X4_readItems) (e_X4_readItems o) k_X4_readItems 7 [(24, P24)] (List.forall_mem_cons.mpr ⟨?_, fun _ h => absurd h List.not_mem_nil⟩) 0 [] _ σ ?_
    · intro m S L τ hI
      rw [hP24] at hI
      obtain ⟨k, z, rfl, rfl, hC, hw, hr, hk, hks, hmm⟩ := hI
      have hz := rdk_I hm k z hk
      have t50 : τ 5 0 = σ 5 0 := hC.2 0 (by decide)
      have t35 : τ 35 = σ 35 := hC.1 35 (by decide) (by decide)
      simp only [sq_iconst, sq_jsr, sq_anewarray, sq_iload, sq_lload, sq_aload, sq_istore, sq_lstore, sq_astore, sq_iinc, sq_getfield, st_put0, st_put1, st_put3, sq_inv, sq_goto, sq_icmp, sq_ifc, sq_tsw, sq_iadd, sq_isub, sq_imul, sq_ineg, sq_idiv, sq_irem, sq_iand, sq_ior, sq_ixor, sq_ishl, sq_ishr, sq_iushr, sq_ladd, sq_lmul, sq_ldiv, sq_lrem, sq_land, sq_lor, sq_lshl, sq_lushr, sq_lcmp, sq_i2l, sq_l2i, sq_i2c, sq_i2b, sq_dupI, sq_dupR, sq_dup2, sq_pop, sq_iaload, sq_baload, sq_aaload, sq_iastore, sq_bastore, sq_alen, sq_ireturn, sq_lreturn, sq_return, wq_c, wq_n, wlq_s, lkp, tbl, dBk, nth, setL, canSet, cmpI, tk, swK, rdF, entL, catS, cat1, arg, rcv, ald, bld, aln, br, Ccopy, Cmax, Cmin, Cabs, List.take, List.drop, List.reverse, List.reverseAux, List.length, List.append, List.nil_append, List.cons_append, true_and, and_true, and_self, forall_const, true_implies, false_implies, not_true_eq_false, not_false_eq_true, Option.map, reduceCtorEq, reduceIte, or_true, true_or, false_or, or_false, false_and, and_false, List.map, List.append_nil, implies_true, yK, Nat.reduceBEq, beq_self_eq_true, Int.zero_ne_one, Nat.reduceDiv, Nat.reduceMod, Nat.reduceAdd, Nat.reduceSub, Nat.reduceMul, Nat.reduceEqDiff, Nat.reduceLeDiff, Int.reduceToNat, Int.reduceNeg, Int.reduceEq, Int.reduceLT, Int.reduceLE, Int.reduceNatCast, Int.reduceNatCast', Int.reduceAdd, Int.reduceSub, Int.reduceMul, eq_self, Prod.mk.injEq, A_X4_readItems, V_X4_readItems, B_X4_readItems, Y_X4_readItems, C_J7_fill_53178, C_J0_indexOf_0f7a4, C_X8_isWithin, C_J0_length_8abf5, shpT, rfsT, wjq_s, look, hsq, br, hlt, hle, t50, t35]
      refine ⟨fun h => ?_, fun h => ?_⟩
      · have hkk : (σ 5 0).toNat = k := by omega
        have fin : ∀ v, v = (if ¬ z.1 = -1 ∧ 0 < z.2.2.1 then 1 else 0) → Q [vI (su τ 5 2 v 5 0)] (su τ 5 2 v) := by
          intro v hv
          rw [su_x (by decide), t50]
          exact hq.2 z (by rw [hkk]; exact hk) (su τ 5 2 v) ⟨fun p p5 p36 => by rw [su_r p5]; exact hC.1 p p5 p36, fun i hi => by rw [su_x hi]; exact hC.2 i hi⟩ (fun j j0 j1 => by rw [su_r (by decide)]; exact hr j j0 j1) (by rw [su_y]; exact hv)
        exact ⟨fun h1 => fin 0 (by rw [if_neg (fun y => y.1 h1)]), fun h1 => ⟨fun h2 => fin 0 (by rw [if_neg (fun y => by omega)]), fun h2 => fin 1 (by rw [if_pos ⟨h1, by omega⟩])⟩⟩
      · have hc := h35 k (by omega) (by omega)
        have ec := bChr_id hc
        simp only [ec]
        have ft : stp ml (σ 35 k) z = none → Q [vI (k : Int)] τ := fun e => hq.1 k ⟨by omega, ⟨z, hk⟩, by rw [rdk_s hk]; exact e⟩ τ hC hw
        have nx : ∀ (z' : Zr) (τ' : Sto), stp ml (σ 35 k) z = some z' → CP σ τ' → τ' 5 2 = 0 → (∀ j, 0 ≤ j → j < 7 → τ' 36 j = z'.2.2.2 j) → i32 ((k : Int) + 1) ∧ ∃ m_1, m_1 < m ∧ P24 m_1 [] [vR 5, vR q, vI ml, vI z'.1, vI z'.2.1, vI z'.2.2.1, vI ((k : Int) + 1)] τ' := by
          intro z' τ' e a1 a2 a3
          rw [hP24]
          exact ⟨⟨by omega, by omega⟩, _, by omega, k + 1, z', rfl, rfl, a1, a2, a3, by rw [rdk_s hk]; exact e, (by omega), rfl⟩
        generalize σ 35 k = c at *
        unfold stp at ft nx
        obtain ⟨z1, z2, z3, z4, z5⟩ := hz
        have hn := nnm_in ml
        have hl := ltm_in ml c
        have mx : mxm ml ≤ 99 := by unfold mxm; split <;> decide
        have cm : ¬ z.1 = -1 → ¬ ((48 ≤ c ∧ c ≤ 57) ∧ z.2.2.1 < ml) → ((¬ c = 44 → Q [vI (k : Int)] τ) ∧ (¬¬ c = 44 → (z.2.2.1 ≤ 0 → Q [vI (k : Int)] τ) ∧ (¬ z.2.2.1 ≤ 0 → (q = 103 ∨ q = 104) ∧ (nnm ml ≤ z.2.1 → Q [vI (k : Int)] τ) ∧ (¬ nnm ml ≤ z.2.1 → i32 ((k : Int) + 1) ∧ ∃ m_1, m_1 < m ∧ P24 m_1 [] [vR 5, vR q, vI ml, vI (-1), vI z.2.1, vI z.2.2.1, vI ((k : Int) + 1)] τ)))) :=
          fun h1 h2 => ⟨fun h3 => ft (by rw [if_neg h1, if_neg h2, if_neg (fun y => h3 y.1)]), fun h3 => ⟨fun h4 => ft (by rw [if_neg h1, if_neg h2, if_neg (fun y => by omega)]), fun h4 => ⟨hq3, fun h5 => ft (by rw [if_neg h1, if_neg h2, if_neg (fun y => by omega)]), fun h5 => nx (-1, z.2.1, z.2.2.1, z.2.2.2) τ (by rw [if_neg h1, if_neg h2, if_pos ⟨Classical.not_not.mp h3, by omega, by omega⟩]) hC hw hr⟩⟩⟩
        have dg : ∀ v, ¬ z.1 = -1 → ((48 ≤ c ∧ c ≤ 57) ∧ z.2.2.1 < ml) → v = (if z.2.2.1 = 0 then 0 else 10 * z.2.2.2 z.1) + c - 48 → i32 ((k : Int) + 1) ∧ ∃ m_1, m_1 < m ∧ P24 m_1 [] [vR 5, vR q, vI ml, vI z.1, vI z.2.1, vI (z.2.2.1 + 1), vI ((k : Int) + 1)] (su τ 36 z.1 v) := fun v h1 h2 hv => by
          refine nx (z.1, z.2.1, z.2.2.1 + 1, upI z.2.2.2 z.1 ((if z.2.2.1 = 0 then 0 else 10 * z.2.2.2 z.1) + c - 48)) (su τ 36 z.1 v) (by rw [if_neg h1, if_pos h2]) ⟨fun p p5 p36 => by rw [su_r p36]; exact hC.1 p p5 p36, fun i hi => by rw [su_r (by decide)]; exact hC.2 i hi⟩ (by rw [su_r (by decide)]; exact hw) (fun j j0 j1 => ?_)
          rw [su_u, ← hv]
          show upI (τ 36) z.1 v j = upI z.2.2.2 z.1 v j
          unfold upI
          split
          · rfl
          · exact hr j j0 j1
        refine ⟨⟨by omega, by omega⟩, fun h1 => ?_, fun h1 => ?_⟩
        · have zi : 0 ≤ z.1 ∧ z.1 < 7 := ⟨by omega, by omega⟩
          have er := hr z.1 zi.1 zi.2
          have br := z4 z.1 zi.1 zi.2
          rw [er]
          refine ⟨fun h2 => cm h1 (fun y => by omega), fun h2 => ⟨fun h3 => cm h1 (fun y => by omega), fun h3 => ⟨fun h4 => cm h1 (fun y => by omega), fun h4 => ⟨fun h5 => ⟨zi, ⟨by omega, by omega⟩, ⟨by omega, by omega⟩, ⟨by omega, by omega⟩, zi, ⟨by omega, by omega⟩, dg _ h1 ⟨⟨by omega, by omega⟩, (by omega)⟩ (by rw [if_neg h5])⟩, fun h5 => ⟨⟨by omega, by omega⟩, ⟨by omega, by omega⟩, zi, ⟨by omega, by omega⟩, dg _ h1 ⟨⟨by omega, by omega⟩, (by omega)⟩ (by rw [if_pos (Classical.not_not.mp h5)])⟩⟩⟩⟩⟩
        · have h1 := Classical.not_not.mp h1
          refine ⟨⟨hq3, hc⟩, fun h2 => ⟨⟨by omega, by omega⟩, fun h3 => ⟨?_, nx (ltm ml c, z.2.1 + 1, 0, z.2.2.2) τ (by rw [if_pos h1, if_pos ⟨h2.1, by rw [← hr _ h2.1 (by omega)]; exact h3⟩]) hC hw hr⟩, fun h3 => ft (by rw [if_pos h1, if_neg (fun y => h3 (by rw [hr _ h2.1 (by omega)]; exact y.2))])⟩, fun h2 => ft (by rw [if_pos h1, if_neg (fun y => h2 ⟨y.1, by omega⟩)])⟩
          have := z2.2.2 h1
          exact ⟨by omega, by omega⟩
    · simp only [sq_iconst, sq_jsr, sq_anewarray, sq_iload, sq_lload, sq_aload, sq_istore, sq_lstore, sq_astore, sq_iinc, sq_getfield, st_put0, st_put1, st_put3, sq_inv, sq_goto, sq_icmp, sq_ifc, sq_tsw, sq_iadd, sq_isub, sq_imul, sq_ineg, sq_idiv, sq_irem, sq_iand, sq_ior, sq_ixor, sq_ishl, sq_ishr, sq_iushr, sq_ladd, sq_lmul, sq_ldiv, sq_lrem, sq_land, sq_lor, sq_lshl, sq_lushr, sq_lcmp, sq_i2l, sq_l2i, sq_i2c, sq_i2b, sq_dupI, sq_dupR, sq_dup2, sq_pop, sq_iaload, sq_baload, sq_aaload, sq_iastore, sq_bastore, sq_alen, sq_ireturn, sq_lreturn, sq_return, wq_c, wq_n, wlq_s, lkp, tbl, dBk, nth, setL, canSet, cmpI, tk, swK, rdF, entL, catS, cat1, arg, rcv, ald, bld, aln, br, Ccopy, Cmax, Cmin, Cabs, List.take, List.drop, List.reverse, List.reverseAux, List.length, List.append, List.nil_append, List.cons_append, true_and, and_true, and_self, forall_const, true_implies, false_implies, not_true_eq_false, not_false_eq_true, Option.map, reduceCtorEq, reduceIte, or_true, true_or, false_or, or_false, false_and, and_false, List.map, List.append_nil, implies_true, yK, Nat.reduceBEq, beq_self_eq_true, Int.zero_ne_one, Nat.reduceDiv, Nat.reduceMod, Nat.reduceAdd, Nat.reduceSub, Nat.reduceMul, Nat.reduceEqDiff, Nat.reduceLeDiff, Int.reduceToNat, Int.reduceNeg, Int.reduceEq, Int.reduceLT, Int.reduceLE, Int.reduceNatCast, Int.reduceNatCast', Int.reduceAdd, Int.reduceSub, Int.reduceMul, eq_self, Prod.mk.injEq, A_X4_readItems, V_X4_readItems, B_X4_readItems, Y_X4_readItems, C_J7_fill_53178, C_J0_indexOf_0f7a4, C_X8_isWithin, C_J0_length_8abf5, shpT, rfsT, wjq_s, look, br]
      rw [hP24]
      refine ⟨⟨7, rfl, by decide⟩, fun τ f1 f2 => ⟨_, 0, (-1, 0, 0, fun _ => -1), rfl, rfl, ⟨fun p p5 p36 => by rw [su_r p5]; exact f1 p p36, fun i hi => by rw [su_x hi, f1 5 (by decide)]⟩, su_y, fun j j0 j1 => by rw [su_r (by decide)]; exact f2 j j0 j1, rfl, (by omega), rfl⟩⟩
def A_X4_read : List (Nat × Ctr) := [(3, rcv 4 8 C_X4_readItems)]
theorem e_X4_read (o : OM) : Ev o Y_X4_read 8 T_X4_read A_X4_read := ⟨rfl, fun _ h => absurd h List.not_mem_nil, fun _ h => absurd h List.not_mem_nil, fun _ h => absurd h List.not_mem_nil, List.forall_mem_cons.mpr ⟨ref_tx (tx := "lwnhfas") (by decide) (fun s h => h.2.2.2.2.2.1), List.forall_mem_cons.mpr ⟨ref_tx (tx := "ldua") (by decide) (fun s h => h.2.2.2.2.2.2.1), fun _ h => absurd h List.not_mem_nil⟩⟩, List.forall_mem_cons.mpr ⟨cl_X4_readItems (s_X4_readItems o) (by decide) (Or.inl w_485), fun _ h => absurd h List.not_mem_nil⟩, fun _ h => absurd h List.not_mem_nil⟩
def C_X4_read : Ctr := fun A σ κ => match A with
  | [.inr (.inr (.inl 5)), .inl so] => ((so = 0 ∨ so = 1) ∧ (0 ≤ σ 5 0 ∧ σ 5 0 ≤ 30) ∧ (∀ j, 0 ≤ j → j < 30 → 0 ≤ σ 35 j ∧ σ 35 j ≤ 126)) ∧ rdC (so + 1) σ κ
  | _ => False
set_option maxRecDepth 20000 in
theorem s_X4_read (o : OM) : Sound o Y_X4_read 8 C_X4_read := by
  intro Q A σ hA hC
  match A, hA, hC with
  | [.inr (.inr (.inl 5)), .inl so], hA, hC =>
    obtain ⟨h0, hq⟩ : ((so = 0 ∨ so = 1) ∧ (0 ≤ σ 5 0 ∧ σ 5 0 ≤ 30) ∧ (∀ j, 0 ≤ j → j < 30 → 0 ≤ σ 35 j ∧ σ 35 j ≤ 126)) ∧ rdC (so + 1) σ Q := hC
    refine at_wpl (lv := V_X4_read) (B := B_X4_read) (e_X4_read o) k_X4_read 3 0 [] _ σ ?_
    simp only [sq_iconst, sq_jsr, sq_anewarray, sq_iload, sq_lload, sq_aload, sq_istore, sq_lstore, sq_astore, sq_iinc, sq_getfield, st_put0, st_put1, st_put3, sq_inv, sq_goto, sq_icmp, sq_ifc, sq_tsw, sq_iadd, sq_isub, sq_imul, sq_ineg, sq_idiv, sq_irem, sq_iand, sq_ior, sq_ixor, sq_ishl, sq_ishr, sq_iushr, sq_ladd, sq_lmul, sq_ldiv, sq_lrem, sq_land, sq_lor, sq_lshl, sq_lushr, sq_lcmp, sq_i2l, sq_l2i, sq_i2c, sq_i2b, sq_dupI, sq_dupR, sq_dup2, sq_pop, sq_iaload, sq_baload, sq_aaload, sq_iastore, sq_bastore, sq_alen, sq_ireturn, sq_lreturn, sq_return, wq_c, wq_n, wlq_s, lkp, tbl, dBk, nth, setL, canSet, cmpI, tk, swK, rdF, entL, catS, cat1, arg, rcv, ald, bld, aln, br, Ccopy, Cmax, Cmin, Cabs, List.take, List.drop, List.reverse, List.reverseAux, List.length, List.append, List.nil_append, List.cons_append, true_and, and_true, and_self, forall_const, true_implies, false_implies, not_true_eq_false, not_false_eq_true, Option.map, reduceCtorEq, reduceIte, or_true, true_or, false_or, or_false, false_and, and_false, List.map, List.append_nil, implies_true, yK, Nat.reduceBEq, beq_self_eq_true, Int.zero_ne_one, Nat.reduceDiv, Nat.reduceMod, Nat.reduceAdd, Nat.reduceSub, Nat.reduceMul, Nat.reduceEqDiff, Nat.reduceLeDiff, Int.reduceToNat, Int.reduceNeg, Int.reduceEq, Int.reduceLT, Int.reduceLE, Int.reduceNatCast, Int.reduceNatCast', Int.reduceAdd, Int.reduceSub, Int.reduceMul, eq_self, Prod.mk.injEq, A_X4_read, V_X4_read, B_X4_read, Y_X4_read, C_X4_readItems, shpT, rfsT, rdC]
    obtain ⟨hs, h1, h2⟩ := h0
    unfold rdC at hq
    refine ⟨fun h => ?_, fun h => ?_⟩
    · have e : so = 1 := by omega
      subst e
      exact ⟨⟨h1, h2⟩, hq⟩
    · have e : so = 0 := by omega
      subst e
      exact ⟨⟨h1, h2⟩, hq⟩

