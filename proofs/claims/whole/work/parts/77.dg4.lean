-- ===== digest of the reference =====
def A_X9_tell : List (Nat × Ctr) := []
theorem e_X9_tell (o : OM) : Ev o Y_X9_tell 0 T_X9_tell A_X9_tell := ⟨rfl, List.forall_mem_cons.mpr ⟨Or.inl f_X9_393, fun _ h => absurd h List.not_mem_nil⟩, fun _ h => absurd h List.not_mem_nil, List.forall_mem_cons.mpr ⟨⟨w_1634, by decide, by decide⟩, fun _ h => absurd h List.not_mem_nil⟩, fun _ h => absurd h List.not_mem_nil, fun _ h => absurd h List.not_mem_nil, fun _ h => absurd h List.not_mem_nil⟩
def C_X9_tell : Ctr := fun A σ κ => match A with
  | [.inr (.inr (.inl 67)), .inr (.inl v)] => (True) ∧ κ [] (su σ 67 54 (fdl (σ 67 54) v))
  | _ => False
set_option maxRecDepth 20000 in
theorem s_X9_tell (o : OM) : Sound o Y_X9_tell 0 C_X9_tell := by
  intro Q A σ hA hC
  match A, hA, hC with
  | [.inr (.inr (.inl 67)), .inr (.inl v)], hA, hC =>
    obtain ⟨h0, hq⟩ : (True) ∧ Q [] (su σ 67 54 (fdl (σ 67 54) v)) := hC
    have hQ : ∀ τ, τ = (su σ 67 54 (fdl (σ 67 54) v)) → Q [] τ := fun τ e2 => e2 ▸ hq
    refine at_wpl (lv := V_X9_tell) (B := B_X9_tell) (e_X9_tell o) k_X9_tell 1 0 [] _ σ ?_
    simp only [sq_iconst, sq_jsr, sq_anewarray, sq_iload, sq_lload, sq_aload, sq_istore, sq_lstore, sq_astore, sq_iinc, sq_getfield, st_put0, st_put1, st_put3, sq_inv, sq_goto, sq_icmp, sq_ifc, sq_tsw, sq_iadd, sq_isub, sq_imul, sq_ineg, sq_idiv, sq_irem, sq_iand, sq_ior, sq_ixor, sq_ishl, sq_ishr, sq_iushr, sq_ladd, sq_lmul, sq_ldiv, sq_lrem, sq_land, sq_lor, sq_lshl, sq_lushr, sq_lcmp, sq_i2l, sq_l2i, sq_i2c, sq_i2b, sq_dupI, sq_dupR, sq_dup2, sq_pop, sq_iaload, sq_baload, sq_aaload, sq_iastore, sq_bastore, sq_alen, sq_ireturn, sq_lreturn, sq_return, wq_c, wq_n, wlq_s, lkp, tbl, dBk, nth, setL, canSet, cmpI, tk, swK, rdF, entL, catS, cat1, arg, rcv, ald, bld, aln, br, Ccopy, Cmax, Cmin, Cabs, List.take, List.drop, List.reverse, List.reverseAux, List.length, List.append, List.nil_append, List.cons_append, true_and, and_true, and_self, forall_const, true_implies, false_implies, not_true_eq_false, not_false_eq_true, Option.map, reduceCtorEq, reduceIte, or_true, true_or, false_or, or_false, false_and, and_false, List.map, List.append_nil, implies_true, yK, Nat.reduceBEq, beq_self_eq_true, Int.zero_ne_one, Nat.reduceDiv, Nat.reduceMod, Nat.reduceAdd, Nat.reduceSub, Nat.reduceMul, Nat.reduceEqDiff, Nat.reduceLeDiff, Int.reduceToNat, Int.reduceNeg, Int.reduceEq, Int.reduceLT, Int.reduceLE, Int.reduceNatCast, Int.reduceNatCast', Int.reduceAdd, Int.reduceSub, Int.reduceMul, eq_self, Prod.mk.injEq, A_X9_tell, V_X9_tell, B_X9_tell, Y_X9_tell, shpT, rfsT, ef]
    exact hQ _ rfl
theorem sameS_h {τ σ : Sto} {v : Int} (h : sameS τ σ) : sameS (su τ 67 54 v) σ := by
  refine ⟨fun p hp => ?_, fun i hi => ?_, ?_, ?_, ?_, ?_⟩
  · rw [su_r (by rintro rfl; exact absurd hp (by decide))]; exact h.1 p hp
  · rw [su_x (by rintro rfl; exact absurd hi (by decide))]; exact h.2.1 i hi
  · rw [su_r (by decide)]; exact h.2.2.1
  · rw [su_r (by decide)]; exact h.2.2.2.1
  · rw [su_r (by decide)]; exact h.2.2.2.2.1
  · rw [su_r (by decide)]; exact h.2.2.2.2.2
theorem yrf_M {σ : Sto} (hR : Rel σ) {d p : Int} (hd : -1 ≤ d ∧ d < σ 6 1) (hp : 0 ≤ p ∧ p < 7) : (hsum (rowS (σ 74) d) (σ 13) (σ 15) p (σ 12 p) + 1).tdiv 2 = yrf σ d p := by
  unfold yrf
  rw [Rel_h2 hR hd hp (hR.1.2.1 p hp.1 hp.2)]
def A_X9_tellPit : List (Nat × Ctr) := [(2, rcv 9 3 C_X9_tell), (3, rcv 9 3 C_X9_yearsOf)]
theorem e_X9_tellPit (o : OM) : Ev o Y_X9_tellPit 3 T_X9_tellPit A_X9_tellPit := ⟨rfl, List.forall_mem_cons.mpr ⟨Or.inl f_X9_7, List.forall_mem_cons.mpr ⟨Or.inl f_X9_13, List.forall_mem_cons.mpr ⟨Or.inl f_X9_16, List.forall_mem_cons.mpr ⟨Or.inl f_X9_19, List.forall_mem_cons.mpr ⟨Or.inl f_X9_22, List.forall_mem_cons.mpr ⟨Or.inl f_X9_204, fun _ h => absurd h List.not_mem_nil⟩⟩⟩⟩⟩⟩, fun _ h => absurd h List.not_mem_nil, fun _ h => absurd h List.not_mem_nil, fun _ h => absurd h List.not_mem_nil, List.forall_mem_cons.mpr ⟨cl_X9_tell (s_X9_tell o) (by decide) (Or.inl w_1630), List.forall_mem_cons.mpr ⟨cl_X9_yearsOf (s_X9_yearsOf o) (by decide) (Or.inl w_1295), fun _ h => absurd h List.not_mem_nil⟩⟩, fun _ h => absurd h List.not_mem_nil⟩
def C_X9_tellPit : Ctr := fun A σ κ => match A with
  | [.inr (.inr (.inl 67)), .inl p] => (Rel σ ∧ (0 ≤ p ∧ p < σ 1 0)) ∧ κ [] (su σ 67 54 (pitH σ p (σ 67 54)))
  | _ => False
set_option maxRecDepth 20000 in
theorem s_X9_tellPit (o : OM) : Sound o Y_X9_tellPit 3 C_X9_tellPit := by
  intro Q A σ hA hC
  match A, hA, hC with
  | [.inr (.inr (.inl 67)), .inl p], hA, hC =>
    obtain ⟨h0, hq⟩ : (Rel σ ∧ (0 ≤ p ∧ p < σ 1 0)) ∧ Q [] (su σ 67 54 (pitH σ p (σ 67 54))) := hC
    have hQ : ∀ τ, τ = (su σ 67 54 (pitH σ p (σ 67 54))) → Q [] τ := fun τ e2 => e2 ▸ hq
    obtain ⟨hR, hp⟩ := h0
    obtain ⟨⟨c1, c2, c3, c4, c5, c6, c7, c8, c9, c10, c11, c12, c13, c14, c15, c16⟩, ⟨e1, e2, e3, e4, e5, e6, e7, e8, e9, e10, e11, e12, e13, e14, e15⟩, ⟨g1, g2, g3, g4⟩, ⟨h1, h2, h3, h4, h5, h6⟩, ⟨l1, l2, l3, l4⟩, hImg, ⟨n1, n2, n3, n4⟩⟩ := id hR
    have s12 := c2 p hp.1 (by omega)
    obtain ⟨g1', hg1⟩ : ∃ g : Int → Int → Int, g = lfH σ p := ⟨_, rfl⟩
    obtain ⟨g2', hg2⟩ : ∃ g : Int → Int → Int, g = yrH σ p := ⟨_, rfl⟩
    obtain ⟨H0, hH0⟩ : ∃ x : Int, x = fdl (σ 67 54) (σ 11 p) := ⟨_, rfl⟩
    obtain ⟨P13, hP13⟩ : ∃ P : Nat → List AV → List AV → Sto → Prop, P = fun m S L τ => ∃ n : Nat, S = [] ∧ L = [vR 67, vI p, vI (n : Int)] ∧ τ = su σ 67 54 (itr g1' H0 n) ∧ (n : Int) ≤ σ 12 p ∧ m = 100 - n := ⟨_, rfl⟩
    obtain ⟨P79, hP79⟩ : ∃ P : Nat → List AV → List AV → Sto → Prop, P = fun m S L τ => ∃ n : Nat, S = [] ∧ L = [vR 67, vI p, vI ((n : Int) - 1)] ∧ τ = su σ 67 54 (itr g2' (itr g1' H0 (σ 12 p).toNat) n) ∧ (n : Int) ≤ σ 6 1 + 1 ∧ m = 20 - n := ⟨_, rfl⟩
    refine at_meth (lv := V_X9_tellPit) (B := B_X9_tellPit) (e_X9_tellPit o) k_X9_tellPit 4 [(13, P13), (79, P79)] (List.forall_mem_cons.mpr ⟨?_, List.forall_mem_cons.mpr ⟨?_, fun _ h => absurd h List.not_mem_nil⟩⟩) 0 [] _ σ ?_
    · intro m S L τ hI
      rw [hP13] at hI
      obtain ⟨n, rfl, rfl, rfl, hn, hm⟩ := hI
      simp only [sq_iconst, sq_jsr, sq_anewarray, sq_iload, sq_lload, sq_aload, sq_istore, sq_lstore, sq_astore, sq_iinc, sq_getfield, st_put0, st_put1, st_put3, sq_inv, sq_goto, sq_icmp, sq_ifc, sq_tsw, sq_iadd, sq_isub, sq_imul, sq_ineg, sq_idiv, sq_irem, sq_iand, sq_ior, sq_ixor, sq_ishl, sq_ishr, sq_iushr, sq_ladd, sq_lmul, sq_ldiv, sq_lrem, sq_land, sq_lor, sq_lshl, sq_lushr, sq_lcmp, sq_i2l, sq_l2i, sq_i2c, sq_i2b, sq_dupI, sq_dupR, sq_dup2, sq_pop, sq_iaload, sq_baload, sq_aaload, sq_iastore, sq_bastore, sq_alen, sq_ireturn, sq_lreturn, sq_return, wq_c, wq_n, wlq_s, lkp, tbl, dBk, nth, setL, canSet, cmpI, tk, swK, rdF, entL, catS, cat1, arg, rcv, ald, bld, aln, br, Ccopy, Cmax, Cmin, Cabs, List.take, List.drop, List.reverse, List.reverseAux, List.length, List.append, List.nil_append, List.cons_append, true_and, and_true, and_self, forall_const, true_implies, false_implies, not_true_eq_false, not_false_eq_true, Option.map, reduceCtorEq, reduceIte, or_true, true_or, false_or, or_false, false_and, and_false, List.map, List.append_nil, implies_true, yK, Nat.reduceBEq, beq_self_eq_true, Int.zero_ne_one, Nat.reduceDiv, Nat.reduceMod, Nat.reduceAdd, Nat.reduceSub, Nat.reduceMul, Nat.reduceEqDiff, Nat.reduceLeDiff, Int.reduceToNat, Int.reduceNeg, Int.reduceEq, Int.reduceLT, Int.reduceLE, Int.reduceNatCast, Int.reduceNatCast', Int.reduceAdd, Int.reduceSub, Int.reduceMul, eq_self, Prod.mk.injEq, A_X9_tellPit, V_X9_tellPit, B_X9_tellPit, Y_X9_tellPit, C_X9_tell, C_X9_yearsOf, shpT, rfsT, wjq_s, look, br, su_at, su_r, su_s, su_y, e5, e6, e7, e8]
      rw [show 16 * p = p * 16 by omega]
      refine ⟨⟨by omega, by omega⟩, fun w => ?_, fun w => ⟨⟨by omega, by omega⟩, ⟨by omega, by omega⟩, ⟨by omega, by omega⟩, ⟨by omega, by omega⟩, ⟨by omega, by omega⟩, ⟨by omega, by omega⟩, ⟨by omega, by omega⟩, ⟨by omega, by omega⟩, ⟨by omega, by omega⟩, ⟨by omega, by omega⟩, ?_⟩⟩
      · rw [hP79]
        have e : (σ 12 p).toNat = n := by omega
        exact ⟨_, by omega, 0, rfl, rfl, by rw [e]; rfl, (by omega), rfl⟩
      · rw [hP13]
        exact ⟨_, by omega, n + 1, rfl, rfl, by rw [itr_s, hg1]; rfl, (by omega), rfl⟩
    · intro m S L τ hI
      rw [hP79] at hI
      obtain ⟨n, rfl, rfl, rfl, hn, hm⟩ := hI
      simp only [sq_iconst, sq_jsr, sq_anewarray, sq_iload, sq_lload, sq_aload, sq_istore, sq_lstore, sq_astore, sq_iinc, sq_getfield, st_put0, st_put1, st_put3, sq_inv, sq_goto, sq_icmp, sq_ifc, sq_tsw, sq_iadd, sq_isub, sq_imul, sq_ineg, sq_idiv, sq_irem, sq_iand, sq_ior, sq_ixor, sq_ishl, sq_ishr, sq_iushr, sq_ladd, sq_lmul, sq_ldiv, sq_lrem, sq_land, sq_lor, sq_lshl, sq_lushr, sq_lcmp, sq_i2l, sq_l2i, sq_i2c, sq_i2b, sq_dupI, sq_dupR, sq_dup2, sq_pop, sq_iaload, sq_baload, sq_aaload, sq_iastore, sq_bastore, sq_alen, sq_ireturn, sq_lreturn, sq_return, wq_c, wq_n, wlq_s, lkp, tbl, dBk, nth, setL, canSet, cmpI, tk, swK, rdF, entL, catS, cat1, arg, rcv, ald, bld, aln, br, Ccopy, Cmax, Cmin, Cabs, List.take, List.drop, List.reverse, List.reverseAux, List.length, List.append, List.nil_append, List.cons_append, true_and, and_true, and_self, forall_const, true_implies, false_implies, not_true_eq_false, not_false_eq_true, Option.map, reduceCtorEq, reduceIte, or_true, true_or, false_or, or_false, false_and, and_false, List.map, List.append_nil, implies_true, yK, Nat.reduceBEq, beq_self_eq_true, Int.zero_ne_one, Nat.reduceDiv, Nat.reduceMod, Nat.reduceAdd, Nat.reduceSub, Nat.reduceMul, Nat.reduceEqDiff, Nat.reduceLeDiff, Int.reduceToNat, Int.reduceNeg, Int.reduceEq, Int.reduceLT, Int.reduceLE, Int.reduceNatCast, Int.reduceNatCast', Int.reduceAdd, Int.reduceSub, Int.reduceMul, eq_self, Prod.mk.injEq, A_X9_tellPit, V_X9_tellPit, B_X9_tellPit, Y_X9_tellPit, C_X9_tell, C_X9_yearsOf, shpT, rfsT, wjq_s, look, br, su_at, su_r, su_s, su_y, e5, e6, e7, e8, h1]
      refine ⟨fun w => ?_, fun w => ⟨⟨⟨by omega, by omega⟩, ⟨by omega, by omega⟩, s12, c3, h4⟩, ⟨by omega, by omega⟩, ?_⟩⟩
      · have e : (σ 6 1 + 1).toNat = n := by omega
        exact hQ _ (by unfold pitH; rw [e, hg1, hg2, hH0])
      · rw [hP79]
        refine ⟨_, ?_, n + 1, rfl, ?_, ?_, (by omega), rfl⟩
        · omega
        · rw [show ((n + 1 : Nat) : Int) - 1 = (n : Int) - 1 + 1 by omega]
        · rw [itr_s, yrf_M hR ⟨by omega, by omega⟩ ⟨by omega, by omega⟩, hg2]
          rfl
    · simp only [sq_iconst, sq_jsr, sq_anewarray, sq_iload, sq_lload, sq_aload, sq_istore, sq_lstore, sq_astore, sq_iinc, sq_getfield, st_put0, st_put1, st_put3, sq_inv, sq_goto, sq_icmp, sq_ifc, sq_tsw, sq_iadd, sq_isub, sq_imul, sq_ineg, sq_idiv, sq_irem, sq_iand, sq_ior, sq_ixor, sq_ishl, sq_ishr, sq_iushr, sq_ladd, sq_lmul, sq_ldiv, sq_lrem, sq_land, sq_lor, sq_lshl, sq_lushr, sq_lcmp, sq_i2l, sq_l2i, sq_i2c, sq_i2b, sq_dupI, sq_dupR, sq_dup2, sq_pop, sq_iaload, sq_baload, sq_aaload, sq_iastore, sq_bastore, sq_alen, sq_ireturn, sq_lreturn, sq_return, wq_c, wq_n, wlq_s, lkp, tbl, dBk, nth, setL, canSet, cmpI, tk, swK, rdF, entL, catS, cat1, arg, rcv, ald, bld, aln, br, Ccopy, Cmax, Cmin, Cabs, List.take, List.drop, List.reverse, List.reverseAux, List.length, List.append, List.nil_append, List.cons_append, true_and, and_true, and_self, forall_const, true_implies, false_implies, not_true_eq_false, not_false_eq_true, Option.map, reduceCtorEq, reduceIte, or_true, true_or, false_or, or_false, false_and, and_false, List.map, List.append_nil, implies_true, yK, Nat.reduceBEq, beq_self_eq_true, Int.zero_ne_one, Nat.reduceDiv, Nat.reduceMod, Nat.reduceAdd, Nat.reduceSub, Nat.reduceMul, Nat.reduceEqDiff, Nat.reduceLeDiff, Int.reduceToNat, Int.reduceNeg, Int.reduceEq, Int.reduceLT, Int.reduceLE, Int.reduceNatCast, Int.reduceNatCast', Int.reduceAdd, Int.reduceSub, Int.reduceMul, eq_self, Prod.mk.injEq, A_X9_tellPit, V_X9_tellPit, B_X9_tellPit, Y_X9_tellPit, C_X9_tell, C_X9_yearsOf, shpT, rfsT, wjq_s, look, br, su_at, su_r, su_s, su_y, e4]
      rw [hP13]
      exact ⟨⟨by omega, by omega⟩, _, 0, rfl, rfl, by rw [hH0]; rfl, (by omega), rfl⟩
def A_X9_tellLaw : List (Nat × Ctr) := [(6, rcv 9 16 C_X9_layTogether), (2, rcv 9 3 C_X9_tell)]
theorem e_X9_tellLaw (o : OM) : Ev o Y_X9_tellLaw 3 T_X9_tellLaw A_X9_tellLaw := ⟨rfl, List.forall_mem_cons.mpr ⟨Or.inl f_X9_109, List.forall_mem_cons.mpr ⟨Or.inl f_X9_37, fun _ h => absurd h List.not_mem_nil⟩⟩, fun _ h => absurd h List.not_mem_nil, fun _ h => absurd h List.not_mem_nil, fun _ h => absurd h List.not_mem_nil, List.forall_mem_cons.mpr ⟨cl_X9_layTogether (s_X9_layTogether o) (by decide) (Or.inl w_1449), List.forall_mem_cons.mpr ⟨cl_X9_tell (s_X9_tell o) (by decide) (Or.inl w_1630), fun _ h => absurd h List.not_mem_nil⟩⟩, fun _ h => absurd h List.not_mem_nil⟩
def C_X9_tellLaw : Ctr := fun A σ κ => match A with
  | [.inr (.inr (.inl 67)), .inl l] => (Rel σ ∧ (0 ≤ l ∧ l < 4)) ∧ ∀ τ, sameS τ σ → τ 67 54 = lawH σ l (σ 67 54) → κ [] τ
  | _ => False
set_option maxRecDepth 20000 in
theorem s_X9_tellLaw (o : OM) : Sound o Y_X9_tellLaw 3 C_X9_tellLaw := by
  intro Q A σ hA hC
  match A, hA, hC with
  | [.inr (.inr (.inl 67)), .inl l], hA, hC =>
    obtain ⟨h0, hq⟩ : (Rel σ ∧ (0 ≤ l ∧ l < 4)) ∧ ∀ τ, sameS τ σ → τ 67 54 = lawH σ l (σ 67 54) → Q [] τ := hC
    obtain ⟨hR, hl⟩ := h0
    obtain ⟨⟨c1, c2, c3, c4, c5, c6, c7, c8, c9, c10, c11, c12, c13, c14, c15, c16⟩, ⟨e1, e2, e3, e4, e5, e6, e7, e8, e9, e10, e11, e12, e13, e14, e15⟩, ⟨g1, g2, g3, g4⟩, ⟨h1, h2, h3, h4, h5, h6⟩, ⟨l1, l2, l3, l4⟩, hImg, ⟨n1, n2, n3, n4⟩⟩ := id hR
    obtain ⟨g, hg⟩ : ∃ g : Int → Int → Int, g = prH (fun a b h => fdl h (lsf σ l a b)) (σ 1 0) := ⟨_, rfl⟩
    obtain ⟨P2, hP2⟩ : ∃ P : Nat → List AV → List AV → Sto → Prop, P = fun m S L τ => ∃ a : Nat, S = [] ∧ L = [vR 67, vI l, vI (a : Int)] ∧ sameS τ σ ∧ τ 67 54 = itr g (σ 67 54) a ∧ (a : Int) ≤ σ 1 0 ∧ m = (8 - a) * 20 := ⟨_, rfl⟩
    obtain ⟨P14, hP14⟩ : ∃ P : Nat → List AV → List AV → Sto → Prop, P = fun m S L τ => ∃ a k : Nat, S = [] ∧ L = [vR 67, vI l, vI (a : Int), vI ((a : Int) + 1 + k)] ∧ sameS τ σ ∧ τ 67 54 = itr (fun k h => fdl h (lsf σ l a ((a : Int) + 1 + k))) (itr g (σ 67 54) a) k ∧ (a : Int) < σ 1 0 ∧ (a : Int) + 1 + k ≤ σ 1 0 ∧ m = (8 - a) * 20 - 1 - k := ⟨_, rfl⟩
    refine at_meth (lv := V_X9_tellLaw) (B := B_X9_tellLaw) (e_X9_tellLaw o) k_X9_tellLaw 4 [(2, P2), (14, P14)] (List.forall_mem_cons.mpr ⟨?_, List.forall_mem_cons.mpr ⟨?_, fun _ h => absurd h List.not_mem_nil⟩⟩) 0 [] _ σ ?_
    · intro m S L τ hI
      rw [hP2] at hI
      obtain ⟨a, rfl, rfl, hs, hv, ha, hm⟩ := hI
      have t0 : τ 67 0 = σ 1 0 := by rw [hs.2.1 0 rfl, e1]
      simp only [sq_iconst, sq_jsr, sq_anewarray, sq_iload, sq_lload, sq_aload, sq_istore, sq_lstore, sq_astore, sq_iinc, sq_getfield, st_put0, st_put1, st_put3, sq_inv, sq_goto, sq_icmp, sq_ifc, sq_tsw, sq_iadd, sq_isub, sq_imul, sq_ineg, sq_idiv, sq_irem, sq_iand, sq_ior, sq_ixor, sq_ishl, sq_ishr, sq_iushr, sq_ladd, sq_lmul, sq_ldiv, sq_lrem, sq_land, sq_lor, sq_lshl, sq_lushr, sq_lcmp, sq_i2l, sq_l2i, sq_i2c, sq_i2b, sq_dupI, sq_dupR, sq_dup2, sq_pop, sq_iaload, sq_baload, sq_aaload, sq_iastore, sq_bastore, sq_alen, sq_ireturn, sq_lreturn, sq_return, wq_c, wq_n, wlq_s, lkp, tbl, dBk, nth, setL, canSet, cmpI, tk, swK, rdF, entL, catS, cat1, arg, rcv, ald, bld, aln, br, Ccopy, Cmax, Cmin, Cabs, List.take, List.drop, List.reverse, List.reverseAux, List.length, List.append, List.nil_append, List.cons_append, true_and, and_true, and_self, forall_const, true_implies, false_implies, not_true_eq_false, not_false_eq_true, Option.map, reduceCtorEq, reduceIte, or_true, true_or, false_or, or_false, false_and, and_false, List.map, List.append_nil, implies_true, yK, Nat.reduceBEq, beq_self_eq_true, Int.zero_ne_one, Nat.reduceDiv, Nat.reduceMod, Nat.reduceAdd, Nat.reduceSub, Nat.reduceMul, Nat.reduceEqDiff, Nat.reduceLeDiff, Int.reduceToNat, Int.reduceNeg, Int.reduceEq, Int.reduceLT, Int.reduceLE, Int.reduceNatCast, Int.reduceNatCast', Int.reduceAdd, Int.reduceSub, Int.reduceMul, eq_self, Prod.mk.injEq, A_X9_tellLaw, V_X9_tellLaw, B_X9_tellLaw, Y_X9_tellLaw, C_X9_layTogether, C_X9_tell, shpT, rfsT, wjq_s, look, br, t0]
      refine ⟨fun w => hq τ hs ?_, fun w => ⟨⟨by omega, by omega⟩, ?_⟩⟩
      · have e : (σ 1 0).toNat = a := by omega
        rw [hv]
        unfold lawH
        rw [← hg, e]
      · rw [hP14]
        exact ⟨_, by omega, a, 0, rfl, by rw [show (a : Int) + 1 + ((0 : Nat) : Int) = (a : Int) + 1 by omega], hs, hv, (by omega), (by omega), rfl⟩
    · intro m S L τ hI
      rw [hP14] at hI
      obtain ⟨a, k, rfl, rfl, hs, hv, ha, hk, hm⟩ := hI
      have t0 : τ 67 0 = σ 1 0 := by rw [hs.2.1 0 rfl, e1]
      simp only [sq_iconst, sq_jsr, sq_anewarray, sq_iload, sq_lload, sq_aload, sq_istore, sq_lstore, sq_astore, sq_iinc, sq_getfield, st_put0, st_put1, st_put3, sq_inv, sq_goto, sq_icmp, sq_ifc, sq_tsw, sq_iadd, sq_isub, sq_imul, sq_ineg, sq_idiv, sq_irem, sq_iand, sq_ior, sq_ixor, sq_ishl, sq_ishr, sq_iushr, sq_ladd, sq_lmul, sq_ldiv, sq_lrem, sq_land, sq_lor, sq_lshl, sq_lushr, sq_lcmp, sq_i2l, sq_l2i, sq_i2c, sq_i2b, sq_dupI, sq_dupR, sq_dup2, sq_pop, sq_iaload, sq_baload, sq_aaload, sq_iastore, sq_bastore, sq_alen, sq_ireturn, sq_lreturn, sq_return, wq_c, wq_n, wlq_s, lkp, tbl, dBk, nth, setL, canSet, cmpI, tk, swK, rdF, entL, catS, cat1, arg, rcv, ald, bld, aln, br, Ccopy, Cmax, Cmin, Cabs, List.take, List.drop, List.reverse, List.reverseAux, List.length, List.append, List.nil_append, List.cons_append, true_and, and_true, and_self, forall_const, true_implies, false_implies, not_true_eq_false, not_false_eq_true, Option.map, reduceCtorEq, reduceIte, or_true, true_or, false_or, or_false, false_and, and_false, List.map, List.append_nil, implies_true, yK, Nat.reduceBEq, beq_self_eq_true, Int.zero_ne_one, Nat.reduceDiv, Nat.reduceMod, Nat.reduceAdd, Nat.reduceSub, Nat.reduceMul, Nat.reduceEqDiff, Nat.reduceLeDiff, Int.reduceToNat, Int.reduceNeg, Int.reduceEq, Int.reduceLT, Int.reduceLE, Int.reduceNatCast, Int.reduceNatCast', Int.reduceAdd, Int.reduceSub, Int.reduceMul, eq_self, Prod.mk.injEq, A_X9_tellLaw, V_X9_tellLaw, B_X9_tellLaw, Y_X9_tellLaw, C_X9_layTogether, C_X9_tell, shpT, rfsT, wjq_s, look, br, t0]
      have hT := Rel_e hs hR
      refine ⟨fun w => ⟨⟨by omega, by omega⟩, ?_⟩, fun w => ⟨⟨hl, ⟨by omega, by omega⟩, ⟨by omega, by omega⟩, Rel_QM hT⟩, fun T f1 f2 => ⟨⟨by omega, by omega⟩, ?_⟩⟩⟩
      · rw [hP2]
        have e : (σ 1 0 - ((a : Int) + 1)).toNat = k := by omega
        refine ⟨_, ?_, a + 1, rfl, rfl, hs, ?_, (by omega), rfl⟩
        · omega
        · rw [hv, itr_s, hg]
          show _ = prH _ _ _ _
          unfold prH
          rw [e]
      · rw [hP14]
        have ev : T 77 0 = lsf σ l a ((a : Int) + 1 + k) := by rw [lsf_M hT hl ⟨by omega, by omega⟩ ⟨by omega, by omega⟩ f1 f2, lsf_e hR hs]
        have eh : T 67 54 = τ 67 54 := by
          rw [f1 67 (by decide) (by decide)]
          unfold setM
          simp only [su_at, Int.reduceEq, reduceIte]
        refine ⟨_, ?_, a, k + 1, rfl, ?_, sameS_h (sameS_t (setM_same f1) hs), ?_, ha, (by omega), rfl⟩
        · omega
        · rw [show (a : Int) + 1 + ((k + 1 : Nat) : Int) = (a : Int) + 1 + k + 1 by omega]
        · rw [su_y, ev, eh, hv]
          rfl
    · simp only [sq_iconst, sq_jsr, sq_anewarray, sq_iload, sq_lload, sq_aload, sq_istore, sq_lstore, sq_astore, sq_iinc, sq_getfield, st_put0, st_put1, st_put3, sq_inv, sq_goto, sq_icmp, sq_ifc, sq_tsw, sq_iadd, sq_isub, sq_imul, sq_ineg, sq_idiv, sq_irem, sq_iand, sq_ior, sq_ixor, sq_ishl, sq_ishr, sq_iushr, sq_ladd, sq_lmul, sq_ldiv, sq_lrem, sq_land, sq_lor, sq_lshl, sq_lushr, sq_lcmp, sq_i2l, sq_l2i, sq_i2c, sq_i2b, sq_dupI, sq_dupR, sq_dup2, sq_pop, sq_iaload, sq_baload, sq_aaload, sq_iastore, sq_bastore, sq_alen, sq_ireturn, sq_lreturn, sq_return, wq_c, wq_n, wlq_s, lkp, tbl, dBk, nth, setL, canSet, cmpI, tk, swK, rdF, entL, catS, cat1, arg, rcv, ald, bld, aln, br, Ccopy, Cmax, Cmin, Cabs, List.take, List.drop, List.reverse, List.reverseAux, List.length, List.append, List.nil_append, List.cons_append, true_and, and_true, and_self, forall_const, true_implies, false_implies, not_true_eq_false, not_false_eq_true, Option.map, reduceCtorEq, reduceIte, or_true, true_or, false_or, or_false, false_and, and_false, List.map, List.append_nil, implies_true, yK, Nat.reduceBEq, beq_self_eq_true, Int.zero_ne_one, Nat.reduceDiv, Nat.reduceMod, Nat.reduceAdd, Nat.reduceSub, Nat.reduceMul, Nat.reduceEqDiff, Nat.reduceLeDiff, Int.reduceToNat, Int.reduceNeg, Int.reduceEq, Int.reduceLT, Int.reduceLE, Int.reduceNatCast, Int.reduceNatCast', Int.reduceAdd, Int.reduceSub, Int.reduceMul, eq_self, Prod.mk.injEq, A_X9_tellLaw, V_X9_tellLaw, B_X9_tellLaw, Y_X9_tellLaw, C_X9_layTogether, C_X9_tell, shpT, rfsT, wjq_s, look, br]
      rw [hP2]
      exact ⟨_, 0, rfl, rfl, sameS_r σ, rfl, (by omega), rfl⟩
theorem itr_z2 {g : Int → Int → Int} {h : Int} {m : Nat} : ∀ d : Nat, (∀ i x, (m : Int) ≤ i → i < (m : Int) + d → g i x = x) → itr g h (m + d) = itr g h m
  | 0, _ => rfl
  | d + 1, hz => by
    show g ((m + d : Nat) : Int) (itr g h (m + d)) = _
    rw [hz _ _ (by omega) (by omega), itr_z2 d (fun i x i0 i1 => hz i x i0 (by omega))]
theorem spv_m {σ : Sto} {g : Int → Int} (hI : NIc σ) (hc : CloK (KC σ) (ogM g)) {a b : Int} (ha : nd a) (hb : nd b) : (g (a * 8 + b) = 10000000 → ∀ e, -100004 = spv (clM σ) e a b) ∧ (¬ g (a * 8 + b) = 10000000 → -(g (b * 8 + a)) = spv (clM σ) 0 a b ∧ g (a * 8 + b) = spv (clM σ) 1 a b) := by
  have oz : ∀ i j, ogM g i j = none ↔ g (i * 8 + j) = 10000000 := fun i j => by
    unfold ogM
    split <;> simp_all
  refine ⟨fun z e => ?_, fun z => ?_⟩
  · rw [← spv_e hc ha hb]
    unfold spv
    rw [if_pos ((oz a b).mpr z)]
  · have hS := CloK_sym (KC_nd hI) hc
    have z2 : ¬ g (b * 8 + a) = 10000000 := fun y => z ((oz a b).mp (hS b a hb ha ((oz b a).mpr y)))
    rw [← spv_e hc ha hb, ← spv_e hc ha hb]
    unfold spv
    rw [if_neg (fun y => z ((oz a b).mp y)), if_pos rfl, if_neg (fun y => z ((oz a b).mp y)), if_neg (by decide)]
    unfold ogM
    rw [if_neg z, if_neg z2]
    exact ⟨rfl, rfl⟩

