-- ===== digest of the reference: the net, the whole =====
theorem su_0 {σ : Sto} {q : Nat} {i : Int} : su σ q i (σ q i) = σ := by
  funext k j
  unfold su
  split
  · rename_i h
    subst h
    show (if j = i then σ k i else σ k j) = σ k j
    split
    · rename_i h; rw [h]
    · rfl
  · rfl
def A_X9_tellNet : List (Nat × Ctr) := [(2, rcv 9 3 C_X9_tell), (1, rcv 9 1 C_X9_layKept), (3, rcv 9 3 C_X9_floats), (1, rcv 9 4 C_X9_layCalendars)]
theorem e_X9_tellNet (o : OM) : Ev o Y_X9_tellNet 6 T_X9_tellNet A_X9_tellNet := ⟨rfl, List.forall_mem_cons.mpr ⟨Or.inl f_X9_325, List.forall_mem_cons.mpr ⟨Or.inl f_X9_53, List.forall_mem_cons.mpr ⟨Or.inl f_X9_56, List.forall_mem_cons.mpr ⟨Or.inl f_X9_59, List.forall_mem_cons.mpr ⟨Or.inl f_X9_62, List.forall_mem_cons.mpr ⟨Or.inl f_X9_65, List.forall_mem_cons.mpr ⟨Or.inl f_X9_68, List.forall_mem_cons.mpr ⟨Or.inl f_X9_109, List.forall_mem_cons.mpr ⟨Or.inl f_X9_71, List.forall_mem_cons.mpr ⟨Or.inl f_X9_74, List.forall_mem_cons.mpr ⟨Or.inl f_X9_77, List.forall_mem_cons.mpr ⟨Or.inl f_X9_101, List.forall_mem_cons.mpr ⟨Or.inl f_X9_80, fun _ h => absurd h List.not_mem_nil⟩⟩⟩⟩⟩⟩⟩⟩⟩⟩⟩⟩⟩, fun _ h => absurd h List.not_mem_nil, List.forall_mem_cons.mpr ⟨⟨w_1643, by decide, by decide⟩, fun _ h => absurd h List.not_mem_nil⟩, fun _ h => absurd h List.not_mem_nil, List.forall_mem_cons.mpr ⟨cl_X9_tell (s_X9_tell o) (by decide) (Or.inl w_1630), List.forall_mem_cons.mpr ⟨cl_X9_layKept (s_X9_layKept o) (by decide) (Or.inl w_1517), List.forall_mem_cons.mpr ⟨cl_X9_floats (s_X9_floats o) (by decide) (Or.inl w_1548), List.forall_mem_cons.mpr ⟨cl_X9_layCalendars (s_X9_layCalendars o) (by decide) (Or.inl w_1560), fun _ h => absurd h List.not_mem_nil⟩⟩⟩⟩, fun _ h => absurd h List.not_mem_nil⟩
def C_X9_tellNet : Ctr := fun A σ κ => match A with
  | [.inr (.inr (.inl 67))] => (Rel σ) ∧ ∀ τ, sameS τ σ → τ 67 54 = netH σ (bdH σ (σ 67 54)) → κ [] τ
  | _ => False
set_option maxRecDepth 20000 in
theorem s_X9_tellNet (o : OM) : Sound o Y_X9_tellNet 6 C_X9_tellNet := by
  intro Q A σ hA hC
  match A, hA, hC with
  | [.inr (.inr (.inl 67))], hA, hC =>
    obtain ⟨h0, hq⟩ : (Rel σ) ∧ ∀ τ, sameS τ σ → τ 67 54 = netH σ (bdH σ (σ 67 54)) → Q [] τ := hC
    obtain ⟨⟨c1, c2, c3, c4, c5, c6, c7, c8, c9, c10, c11, c12, c13, c14, c15, c16⟩, ⟨e1, e2, e3, e4, e5, e6, e7, e8, e9, e10, e11, e12, e13, e14, e15⟩, ⟨g1, g2, g3, g4⟩, ⟨h1, h2, h3, h4, h5, h6⟩, ⟨l1, l2, l3, l4⟩, hImg, ⟨n1, n2, n3, n4⟩⟩ := id h0
    obtain ⟨gj, hgj⟩ : ∃ g : Int → Int → Int, g = jnH σ := ⟨_, rfl⟩
    obtain ⟨gt, hgt⟩ : ∃ g : Int → Int → Int, g = tiH σ := ⟨_, rfl⟩
    obtain ⟨gs, hgs⟩ : ∃ g : Int → Int → Int, g = spG σ := ⟨_, rfl⟩
    obtain ⟨H1, hH1⟩ : ∃ x : Int, x = itr gj (σ 67 54) (σ 2 0).toNat := ⟨_, rfl⟩
    obtain ⟨H2, hH2⟩ : ∃ x : Int, x = fdl (bdH σ (σ 67 54)) (σ 2 10) := ⟨_, rfl⟩
    obtain ⟨P2, hP2⟩ : ∃ P : Nat → List AV → List AV → Sto → Prop, P = fun m S L τ => ∃ n : Nat, S = [] ∧ L = [vR 67, vI (n : Int)] ∧ τ = su σ 67 54 (itr gj (σ 67 54) n) ∧ (n : Int) ≤ σ 2 0 ∧ m = 1000 - n := ⟨_, rfl⟩
    obtain ⟨P91, hP91⟩ : ∃ P : Nat → List AV → List AV → Sto → Prop, P = fun m S L τ => ∃ n : Nat, S = [] ∧ L = [vR 67, vI (n : Int)] ∧ τ = su σ 67 54 (itr gt H1 n) ∧ (n : Int) ≤ σ 1 0 ∧ m = 500 - n := ⟨_, rfl⟩
    obtain ⟨P178, hP178⟩ : ∃ P : Nat → List AV → List AV → Sto → Prop, P = fun m S L τ => ∃ (a : Nat) (r : Int), S = [] ∧ L = [vR 67, vI r, vI (a : Int)] ∧ sameS τ σ ∧ ((r = 1 ∧ CloK (KC σ) (ogM (τ 91)) ∧ (∀ i j, nd i → nd j → τ 91 (i * 8 + j) = 10000000 ∨ (-4999999 ≤ τ 91 (i * 8 + j) ∧ τ 91 (i * 8 + j) ≤ 4999999)) ∧ τ 67 54 = itr gs (fdl H2 1) a ∧ (a : Int) ≤ σ 1 0) ∨ (r = 0 ∧ NoM (KC σ) ∧ τ 67 54 = fdl H2 0)) ∧ m = (8 - a) * 20 := ⟨_, rfl⟩
    obtain ⟨P194, hP194⟩ : ∃ P : Nat → List AV → List AV → Sto → Prop, P = fun m S L τ => ∃ (a k : Nat), S = [] ∧ L = [vR 67, vI 1, vI (a : Int), vI ((a : Int) + 1 + k)] ∧ sameS τ σ ∧ CloK (KC σ) (ogM (τ 91)) ∧ (∀ i j, nd i → nd j → τ 91 (i * 8 + j) = 10000000 ∨ (-4999999 ≤ τ 91 (i * 8 + j) ∧ τ 91 (i * 8 + j) ≤ 4999999)) ∧ τ 67 54 = itr (fun k h => fdl (fdl h (spv (clM σ) 0 a ((a : Int) + 1 + k))) (spv (clM σ) 1 a ((a : Int) + 1 + k))) (itr gs (fdl H2 1) a) k ∧ (a : Int) < σ 1 0 ∧ (a : Int) + 1 + k ≤ σ 1 0 ∧ m = (8 - a) * 20 - 1 - k := ⟨_, rfl⟩
    refine at_meth (lv := V_X9_tellNet) (B := B_X9_tellNet) (e_X9_tellNet o) k_X9_tellNet 8 [(2, P2), (91, P91), (178, P178), (194, P194)] (List.forall_mem_cons.mpr ⟨?_, List.forall_mem_cons.mpr ⟨?_, List.forall_mem_cons.mpr ⟨?_, List.forall_mem_cons.mpr ⟨?_, fun _ h => absurd h List.not_mem_nil⟩⟩⟩⟩) 0 [] _ σ ?_
    · intro m S L τ hI
      rw [hP2] at hI
      obtain ⟨n, rfl, rfl, rfl, hn, hm⟩ := hI
      simp only [sq_iconst, sq_jsr, sq_anewarray, sq_iload, sq_lload, sq_aload, sq_istore, sq_lstore, sq_astore, sq_iinc, sq_getfield, st_put0, st_put1, st_put3, sq_inv, sq_goto, sq_icmp, sq_ifc, sq_tsw, sq_iadd, sq_isub, sq_imul, sq_ineg, sq_idiv, sq_irem, sq_iand, sq_ior, sq_ixor, sq_ishl, sq_ishr, sq_iushr, sq_ladd, sq_lmul, sq_ldiv, sq_lrem, sq_land, sq_lor, sq_lshl, sq_lushr, sq_lcmp, sq_i2l, sq_l2i, sq_i2c, sq_i2b, sq_dupI, sq_dupR, sq_dup2, sq_pop, sq_iaload, sq_baload, sq_aaload, sq_iastore, sq_bastore, sq_alen, sq_ireturn, sq_lreturn, sq_return, wq_c, wq_n, wlq_s, lkp, tbl, dBk, nth, setL, canSet, cmpI, tk, swK, rdF, entL, catS, cat1, arg, rcv, ald, bld, aln, br, Ccopy, Cmax, Cmin, Cabs, List.take, List.drop, List.reverse, List.reverseAux, List.length, List.append, List.nil_append, List.cons_append, true_and, and_true, and_self, forall_const, true_implies, false_implies, not_true_eq_false, not_false_eq_true, Option.map, reduceCtorEq, reduceIte, or_true, true_or, false_or, or_false, false_and, and_false, List.map, List.append_nil, implies_true, yK, Nat.reduceBEq, beq_self_eq_true, Int.zero_ne_one, Nat.reduceDiv, Nat.reduceMod, Nat.reduceAdd, Nat.reduceSub, Nat.reduceMul, Nat.reduceEqDiff, Nat.reduceLeDiff, Int.reduceToNat, Int.reduceNeg, Int.reduceEq, Int.reduceLT, Int.reduceLE, Int.reduceNatCast, Int.reduceNatCast', Int.reduceAdd, Int.reduceSub, Int.reduceMul, eq_self, Prod.mk.injEq, A_X9_tellNet, V_X9_tellNet, B_X9_tellNet, Y_X9_tellNet, C_X9_tell, C_X9_layKept, C_X9_floats, C_X9_layCalendars, shpT, rfsT, wjq_s, look, br, su_at, su_r, su_s, su_y, e2, e9, e10, e11, e12, e13]
      have cb := c11 n (by omega)
      have jy : bb (σ 2 6) n = true → ∀ x, gj n x = fdl (fdl (fdl (fdl (fdl (fdl x (σ 16 n)) (σ 17 n)) (σ 18 n)) (σ 19 n)) (σ 20 n)) 1 := fun w x => by rw [hgj]; unfold jnH; rw [if_pos w]
      have jn : ¬ bb (σ 2 6) n = true → ∀ x, gj n x = fdl (fdl (fdl (fdl (fdl (fdl x (σ 16 n)) (σ 17 n)) (σ 18 n)) (σ 19 n)) (σ 20 n)) 0 := fun w x => by rw [hgj]; unfold jnH; rw [if_neg w]
      refine ⟨fun w => ?_, fun w => ⟨⟨by omega, by omega⟩, ⟨by omega, by omega⟩, ⟨by omega, by omega⟩, ⟨by omega, by omega⟩, ⟨by omega, by omega⟩, ⟨by omega, by omega⟩, fun y => ⟨⟨by omega, by omega⟩, ?_⟩, fun y => ⟨⟨by omega, by omega⟩, ?_⟩⟩⟩
      · rw [hP91]
        have e : (σ 2 0).toNat = n := by omega
        exact ⟨_, by omega, 0, rfl, rfl, by rw [hH1, e]; rfl, (by omega), rfl⟩
      · rw [hP2]
        refine ⟨_, ?_, n + 1, rfl, rfl, ?_, (by omega), rfl⟩
        · omega
        · rw [itr_s, jn (fun z => ((cb (by omega)).mp z).2 y)]
      · rw [hP2]
        refine ⟨_, ?_, n + 1, rfl, rfl, ?_, (by omega), rfl⟩
        · omega
        · rw [itr_s, jy ((cb (by omega)).mpr ⟨(by omega), y⟩)]
    · intro m S L τ hI
      rw [hP91] at hI
      obtain ⟨n, rfl, rfl, rfl, hn, hm⟩ := hI
      simp only [sq_iconst, sq_jsr, sq_anewarray, sq_iload, sq_lload, sq_aload, sq_istore, sq_lstore, sq_astore, sq_iinc, sq_getfield, st_put0, st_put1, st_put3, sq_inv, sq_goto, sq_icmp, sq_ifc, sq_tsw, sq_iadd, sq_isub, sq_imul, sq_ineg, sq_idiv, sq_irem, sq_iand, sq_ior, sq_ixor, sq_ishl, sq_ishr, sq_iushr, sq_ladd, sq_lmul, sq_ldiv, sq_lrem, sq_land, sq_lor, sq_lshl, sq_lushr, sq_lcmp, sq_i2l, sq_l2i, sq_i2c, sq_i2b, sq_dupI, sq_dupR, sq_dup2, sq_pop, sq_iaload, sq_baload, sq_aaload, sq_iastore, sq_bastore, sq_alen, sq_ireturn, sq_lreturn, sq_return, wq_c, wq_n, wlq_s, lkp, tbl, dBk, nth, setL, canSet, cmpI, tk, swK, rdF, entL, catS, cat1, arg, rcv, ald, bld, aln, br, Ccopy, Cmax, Cmin, Cabs, List.take, List.drop, List.reverse, List.reverseAux, List.length, List.append, List.nil_append, List.cons_append, true_and, and_true, and_self, forall_const, true_implies, false_implies, not_true_eq_false, not_false_eq_true, Option.map, reduceCtorEq, reduceIte, or_true, true_or, false_or, or_false, false_and, and_false, List.map, List.append_nil, implies_true, yK, Nat.reduceBEq, beq_self_eq_true, Int.zero_ne_one, Nat.reduceDiv, Nat.reduceMod, Nat.reduceAdd, Nat.reduceSub, Nat.reduceMul, Nat.reduceEqDiff, Nat.reduceLeDiff, Int.reduceToNat, Int.reduceNeg, Int.reduceEq, Int.reduceLT, Int.reduceLE, Int.reduceNatCast, Int.reduceNatCast', Int.reduceAdd, Int.reduceSub, Int.reduceMul, eq_self, Prod.mk.injEq, A_X9_tellNet, V_X9_tellNet, B_X9_tellNet, Y_X9_tellNet, C_X9_tell, C_X9_layKept, C_X9_floats, C_X9_layCalendars, shpT, rfsT, wjq_s, look, br, su_at, su_r, su_s, su_y, e1, e14, e15, e3]
      have ty : bb (σ 2 7) n = true → ∀ x, gt n x = fdl (fdl (fdl x n) (σ 21 n)) (σ 22 n) := fun w x => by rw [hgt]; unfold tiH; rw [if_pos w]
      have tn : ∀ i, ¬ bb (σ 2 7) i = true → ∀ x, gt i x = x := fun i w x => by rw [hgt]; unfold tiH; rw [if_neg w]
      have cb := c14 n (by omega) (by omega)
      have core : ∀ X (r : Int) (τ : Sto), X = H2 → (∀ (p : Nat), p ≠ 91 → τ p = su σ 67 54 X p) → LayP (KM (su σ 67 54 X) (ktM (su σ 67 54 X))) (τ 91) r → (r = 0 → ∃ m_1, m_1 < m ∧ P178 m_1 [] [vR 67, vI r, vI 0] (su τ 67 54 (fdl (τ 67 54) 0))) ∧ (¬r = 0 → ∃ m_1, m_1 < m ∧ P178 m_1 [] [vR 67, vI r, vI 0] (su τ 67 54 (fdl (τ 67 54) 1))) := by
        intro X r τ hX f1 f2
        have s0 : sameS (su σ 67 54 X) σ := sameS_h (sameS_r σ)
        have s1 : sameS τ σ := sameS_t (sm91 f1).1 s0
        have eK : KM (su σ 67 54 X) (ktM (su σ 67 54 X)) = KC σ := by rw [← Rel_KC (Rel_e s0 h0), KC_s s0]
        rw [eK] at f2
        have v : τ 67 54 = H2 := by rw [f1 67 (by decide), su_y, hX]
        rw [v, hP178]
        refine ⟨fun w => ⟨_, ?_, 0, r, rfl, rfl, sameS_h s1, Or.inr ⟨w, ?_, su_y⟩, rfl⟩, fun w => ?_⟩
        · omega
        · rcases f2.1 with ⟨z, -⟩ | ⟨-, z⟩
          · omega
          · exact z
        · rcases f2.1 with ⟨z, z1, z2⟩ | ⟨z, -⟩
          · refine ⟨_, ?_, 0, r, rfl, rfl, sameS_h s1, Or.inl ⟨z, ?_, ?_, su_y, (by omega)⟩, rfl⟩
            · omega
            · rw [su_r (by decide)]; exact z1
            · rw [su_r (by decide)]; exact z2
          · exact absurd z w
      have nI : ∀ X, NIm (su σ 67 54 X) := fun X => Rel_mI (Rel_e (sameS_h (sameS_r σ)) h0)
      have eH : σ 1 0 ≤ (n : Int) → ∀ c, c = σ 2 10 → fdl (itr gt H1 n) c = H2 := fun w c hc => by
        have e2' : itr gt H1 n = bdH σ (σ 67 54) := by
          have := itr_z2 (g := gt) (h := H1) (m := n) (7 - n) (fun i x i0 i1 => tn i (fun z => by have := ((c14 i (by omega) (by omega)).mp z).1; omega) x)
          rw [← this, show n + (7 - n) = 7 by omega, hH1, hgt, hgj]
          rfl
        rw [hH2, ← e2', hc]
      refine ⟨fun w => ⟨fun y => ⟨nI _, fun r τ f1 f2 => core _ r τ (eH w 0 (by omega)) f1 f2⟩, fun y => ⟨nI _, fun r τ f1 f2 => core _ r τ (eH w 1 (by omega)) f1 f2⟩⟩, fun w => ⟨⟨by omega, by omega⟩, fun y => ⟨⟨by omega, by omega⟩, ?_⟩, fun y => ⟨⟨by omega, by omega⟩, ⟨by omega, by omega⟩, ⟨by omega, by omega⟩, ?_⟩⟩⟩
      · rw [hP91]
        refine ⟨_, ?_, n + 1, rfl, rfl, ?_, (by omega), rfl⟩
        · omega
        · rw [itr_s, tn _ (fun z => (cb.mp z).2 y)]
      · rw [hP91]
        refine ⟨_, ?_, n + 1, rfl, rfl, ?_, (by omega), rfl⟩
        · omega
        · rw [itr_s, ty (cb.mpr ⟨(by omega), y⟩)]
    · intro m S L τ hI
      rw [hP178] at hI
      obtain ⟨a, r, rfl, rfl, hs, hr, hm⟩ := hI
      have t0 : τ 67 0 = σ 1 0 := by rw [hs.2.1 0 rfl, e1]
      simp only [sq_iconst, sq_jsr, sq_anewarray, sq_iload, sq_lload, sq_aload, sq_istore, sq_lstore, sq_astore, sq_iinc, sq_getfield, st_put0, st_put1, st_put3, sq_inv, sq_goto, sq_icmp, sq_ifc, sq_tsw, sq_iadd, sq_isub, sq_imul, sq_ineg, sq_idiv, sq_irem, sq_iand, sq_ior, sq_ixor, sq_ishl, sq_ishr, sq_iushr, sq_ladd, sq_lmul, sq_ldiv, sq_lrem, sq_land, sq_lor, sq_lshl, sq_lushr, sq_lcmp, sq_i2l, sq_l2i, sq_i2c, sq_i2b, sq_dupI, sq_dupR, sq_dup2, sq_pop, sq_iaload, sq_baload, sq_aaload, sq_iastore, sq_bastore, sq_alen, sq_ireturn, sq_lreturn, sq_return, wq_c, wq_n, wlq_s, lkp, tbl, dBk, nth, setL, canSet, cmpI, tk, swK, rdF, entL, catS, cat1, arg, rcv, ald, bld, aln, br, Ccopy, Cmax, Cmin, Cabs, List.take, List.drop, List.reverse, List.reverseAux, List.length, List.append, List.nil_append, List.cons_append, true_and, and_true, and_self, forall_const, true_implies, false_implies, not_true_eq_false, not_false_eq_true, Option.map, reduceCtorEq, reduceIte, or_true, true_or, false_or, or_false, false_and, and_false, List.map, List.append_nil, implies_true, yK, Nat.reduceBEq, beq_self_eq_true, Int.zero_ne_one, Nat.reduceDiv, Nat.reduceMod, Nat.reduceAdd, Nat.reduceSub, Nat.reduceMul, Nat.reduceEqDiff, Nat.reduceLeDiff, Int.reduceToNat, Int.reduceNeg, Int.reduceEq, Int.reduceLT, Int.reduceLE, Int.reduceNatCast, Int.reduceNatCast', Int.reduceAdd, Int.reduceSub, Int.reduceMul, eq_self, Prod.mk.injEq, A_X9_tellNet, V_X9_tellNet, B_X9_tellNet, Y_X9_tellNet, C_X9_tell, C_X9_layKept, C_X9_floats, C_X9_layCalendars, shpT, rfsT, wjq_s, look, br, su_at, su_r, su_s, su_y, t0]
      have hT := Rel_e hs h0
      have eK : KM τ (ktM τ) = KC σ := by rw [← Rel_KC hT, KC_s hs]
      have en : netH σ (bdH σ (σ 67 54)) = fdl (τ 67 54) (grN σ) → NIm τ ∧ ∀ (r : Int) (τ_1 : Sto) (l : Int → Int), (∀ (p : Nat), p ≠ 91 → p ≠ 92 → τ_1 p = τ p) → LabK (KM τ (ktM τ)) l → r = nGr l (σ 1 0) → (∀ (p : Int), 0 ≤ p → p < σ 1 0 → (τ_1 92 p = 0 ↔ l p = l 0)) → Q [] (su τ_1 67 54 (fdl (τ_1 67 54) r)) := by
        intro he
        refine ⟨Rel_mI hT, fun r T l f1 f2 f3 _ => ?_⟩
        have s1 : sameS T τ := sameS_p (fun p hp => f1 p (stP_n rfl (by decide) (by decide) (by decide) hp) (stP_n rfl (by decide) (by decide) (by decide) hp))
        rw [eK] at f2
        refine hq _ (sameS_h (sameS_t s1 hs)) ?_
        rw [su_y, f3, grN_e c1 f2, f1 67 (by decide) (by decide), he]
      rcases hr with ⟨rfl, hc, hb, hv, ha⟩ | ⟨rfl, hN, hv⟩
      · refine ⟨fun w => en ?_, fun w => ⟨fun y => absurd y (by decide), fun _ => ⟨⟨by omega, by omega⟩, ?_⟩⟩⟩
        · have e1' : (σ 1 0).toNat = a := by omega
          rw [netH_y hc, hv, hgs, e1', hH2]
        · rw [hP194]
          exact ⟨_, by omega, a, 0, rfl, by rw [show (a : Int) + 1 + ((0 : Nat) : Int) = (a : Int) + 1 by omega], hs, hc, hb, hv, (by omega), (by omega), rfl⟩
      · have he : netH σ (bdH σ (σ 67 54)) = fdl (τ 67 54) (grN σ) := by rw [netH_n hN, hv, hH2]
        exact ⟨fun _ => en he, fun w => ⟨fun _ => en he, fun y => absurd rfl y⟩⟩
    · intro m S L τ hI
      rw [hP194] at hI
      obtain ⟨a, k, rfl, rfl, hs, hc, hb, hv, ha, hk, hm⟩ := hI
      have t0 : τ 67 0 = σ 1 0 := by rw [hs.2.1 0 rfl, e1]
      simp only [sq_iconst, sq_jsr, sq_anewarray, sq_iload, sq_lload, sq_aload, sq_istore, sq_lstore, sq_astore, sq_iinc, sq_getfield, st_put0, st_put1, st_put3, sq_inv, sq_goto, sq_icmp, sq_ifc, sq_tsw, sq_iadd, sq_isub, sq_imul, sq_ineg, sq_idiv, sq_irem, sq_iand, sq_ior, sq_ixor, sq_ishl, sq_ishr, sq_iushr, sq_ladd, sq_lmul, sq_ldiv, sq_lrem, sq_land, sq_lor, sq_lshl, sq_lushr, sq_lcmp, sq_i2l, sq_l2i, sq_i2c, sq_i2b, sq_dupI, sq_dupR, sq_dup2, sq_pop, sq_iaload, sq_baload, sq_aaload, sq_iastore, sq_bastore, sq_alen, sq_ireturn, sq_lreturn, sq_return, wq_c, wq_n, wlq_s, lkp, tbl, dBk, nth, setL, canSet, cmpI, tk, swK, rdF, entL, catS, cat1, arg, rcv, ald, bld, aln, br, Ccopy, Cmax, Cmin, Cabs, List.take, List.drop, List.reverse, List.reverseAux, List.length, List.append, List.nil_append, List.cons_append, true_and, and_true, and_self, forall_const, true_implies, false_implies, not_true_eq_false, not_false_eq_true, Option.map, reduceCtorEq, reduceIte, or_true, true_or, false_or, or_false, false_and, and_false, List.map, List.append_nil, implies_true, yK, Nat.reduceBEq, beq_self_eq_true, Int.zero_ne_one, Nat.reduceDiv, Nat.reduceMod, Nat.reduceAdd, Nat.reduceSub, Nat.reduceMul, Nat.reduceEqDiff, Nat.reduceLeDiff, Int.reduceToNat, Int.reduceNeg, Int.reduceEq, Int.reduceLT, Int.reduceLE, Int.reduceNatCast, Int.reduceNatCast', Int.reduceAdd, Int.reduceSub, Int.reduceMul, eq_self, Prod.mk.injEq, A_X9_tellNet, V_X9_tellNet, B_X9_tellNet, Y_X9_tellNet, C_X9_tell, C_X9_layKept, C_X9_floats, C_X9_layCalendars, shpT, rfsT, wjq_s, look, br, su_at, su_r, su_s, su_y, t0]
      have na : nd (a : Int) := ⟨by omega, by omega⟩
      have nb : nd ((a : Int) + 1 + k) := by unfold nd; omega
      obtain ⟨v1, v2⟩ := spv_m (Rel_cI h0) hc na nb
      have b1 := hb _ _ na nb
      have b2 := hb _ _ nb na
      have m1 : 8 * (a : Int) = (a : Int) * 8 := by omega
      have m2 : 8 * ((a : Int) + 1 + k) = ((a : Int) + 1 + k) * 8 := by omega
      rw [m1, m2]
      have nx : ∀ u v, ¬ σ 1 0 ≤ (a : Int) + 1 + k → u = spv (clM σ) 0 a ((a : Int) + 1 + k) → v = spv (clM σ) 1 a ((a : Int) + 1 + k) → i32 ((a : Int) + 1 + k + 1) ∧ ∃ m_1, m_1 < m ∧ P194 m_1 [] [vR 67, vI 1, vI (a : Int), vI ((a : Int) + 1 + k + 1)] (su τ 67 54 (fdl (fdl (τ 67 54) u) v)) := by
        intro u v w hu hv'
        subst hu
        subst hv'
        rw [hP194]
        refine ⟨⟨by omega, by omega⟩, _, ?_, a, k + 1, rfl, ?_, sameS_h hs, ?_, ?_, ?_, ha, (by omega), rfl⟩
        · omega
        · rw [show (a : Int) + 1 + ((k + 1 : Nat) : Int) = (a : Int) + 1 + k + 1 by omega]
        · rw [su_r (by decide)]; exact hc
        · rw [su_r (by decide)]; exact hb
        · rw [su_y, hv]; rfl
      refine ⟨fun w => ⟨⟨by omega, by omega⟩, ?_⟩, fun w => ⟨⟨na, nb⟩, fun y => ⟨⟨na, nb⟩, fun _ => nx _ _ w (v1 y 0) (v1 y 1), fun y2 => absurd y y2⟩, fun y => ⟨⟨by omega, by omega⟩, ⟨by omega, by omega⟩, ⟨by omega, by omega⟩, ⟨by omega, by omega⟩, ⟨na, nb⟩, fun y2 => absurd y2 y, fun _ => ⟨⟨by omega, by omega⟩, ⟨by omega, by omega⟩, ⟨by omega, by omega⟩, nx _ _ w (v2 y).1 (v2 y).2⟩⟩⟩⟩
      rw [hP178]
      have e : (σ 1 0 - ((a : Int) + 1)).toNat = k := by omega
      refine ⟨_, ?_, a + 1, 1, rfl, rfl, hs, Or.inl ⟨rfl, hc, hb, ?_, (by omega)⟩, rfl⟩
      · omega
      · rw [hv, itr_s, hgs]
        show _ = prH _ _ _ _
        unfold prH
        rw [e]
    · simp only [sq_iconst, sq_jsr, sq_anewarray, sq_iload, sq_lload, sq_aload, sq_istore, sq_lstore, sq_astore, sq_iinc, sq_getfield, st_put0, st_put1, st_put3, sq_inv, sq_goto, sq_icmp, sq_ifc, sq_tsw, sq_iadd, sq_isub, sq_imul, sq_ineg, sq_idiv, sq_irem, sq_iand, sq_ior, sq_ixor, sq_ishl, sq_ishr, sq_iushr, sq_ladd, sq_lmul, sq_ldiv, sq_lrem, sq_land, sq_lor, sq_lshl, sq_lushr, sq_lcmp, sq_i2l, sq_l2i, sq_i2c, sq_i2b, sq_dupI, sq_dupR, sq_dup2, sq_pop, sq_iaload, sq_baload, sq_aaload, sq_iastore, sq_bastore, sq_alen, sq_ireturn, sq_lreturn, sq_return, wq_c, wq_n, wlq_s, lkp, tbl, dBk, nth, setL, canSet, cmpI, tk, swK, rdF, entL, catS, cat1, arg, rcv, ald, bld, aln, br, Ccopy, Cmax, Cmin, Cabs, List.take, List.drop, List.reverse, List.reverseAux, List.length, List.append, List.nil_append, List.cons_append, true_and, and_true, and_self, forall_const, true_implies, false_implies, not_true_eq_false, not_false_eq_true, Option.map, reduceCtorEq, reduceIte, or_true, true_or, false_or, or_false, false_and, and_false, List.map, List.append_nil, implies_true, yK, Nat.reduceBEq, beq_self_eq_true, Int.zero_ne_one, Nat.reduceDiv, Nat.reduceMod, Nat.reduceAdd, Nat.reduceSub, Nat.reduceMul, Nat.reduceEqDiff, Nat.reduceLeDiff, Int.reduceToNat, Int.reduceNeg, Int.reduceEq, Int.reduceLT, Int.reduceLE, Int.reduceNatCast, Int.reduceNatCast', Int.reduceAdd, Int.reduceSub, Int.reduceMul, eq_self, Prod.mk.injEq, A_X9_tellNet, V_X9_tellNet, B_X9_tellNet, Y_X9_tellNet, C_X9_tell, C_X9_layKept, C_X9_floats, C_X9_layCalendars, shpT, rfsT, wjq_s, look, br]
      rw [hP2]
      exact ⟨_, 0, rfl, rfl, su_0.symm, (by omega), rfl⟩
theorem cnt9 {σ : Sto} (hR : Rel σ) {i : Int} (hi : 0 ≤ i ∧ i ≤ 9) {κ : List AV → Sto → Prop} (hκ : κ [vI (cnf σ i)] σ) : C_X9_countOf [vR 67, vI i] σ κ := by
  obtain ⟨⟨c1, c2, c3, c4, c5, c6, c7, c8, c9, c10, c11, c12, c13, c14, c15, c16⟩, ⟨e1, e2, e3, e4, e5, e6, e7, e8, e9, e10, e11, e12, e13, e14, e15⟩, ⟨g1, g2, g3, g4⟩, ⟨h1, h2, h3, h4, h5, h6⟩, ⟨l1, l2, l3, l4⟩, hImg, ⟨n1, n2, n3, n4⟩⟩ := id hR
  have p5 : ∀ r : Int, (0 ≤ r ∧ r < 4096) → (∀ i, 0 ≤ i → i < 32 → (bb r i = true ↔ i < σ 67 32 ∧ ¬ σ 87 i = 0)) → sumI (fun j => if bb r j = true then 1 else 0) (σ 67 32) = pop (σ 2 6) := by
    intro r r1 r2
    have er : r = σ 2 6 := by
      refine bb_ext ⟨by omega, by omega⟩ ⟨by omega, by omega⟩ (fun j j0 j1 => ?_)
      have iff : bb r j = true ↔ bb (σ 2 6) j = true := by rw [r2 j j0 j1, c11 j j0 j1, e2]
      cases x1 : bb r j <;> cases x2 : bb (σ 2 6) j <;> rw [x1, x2] at iff <;> simp at iff ⊢
    rw [er, e2]
    unfold pop
    refine (sumI_z c6.1 c6.2 (fun j j0 j1 => ?_)).symm
    have w := c11 j (by omega) (by omega)
    exact if_neg (fun z => by have := (w.mp z).1; omega)
  have p6 : sumI (tdI (σ 88)) (σ 1 0) = pop (σ 2 7) := by
    unfold pop
    rw [sumI_z (a := σ 1 0) (b := 12) c1.1 (by omega) (fun j j0 j1 => ?_)]
    · refine sumI_congr (fun p x0 x1 => ?_)
      have w := c14 p x0 (by omega)
      unfold tdI
      by_cases z : σ 88 p = 0
      · rw [if_pos z, if_neg (fun y => (w.mp y).2 z)]
      · rw [if_neg z, if_pos (w.mpr ⟨x1, z⟩)]
    · have w := c14 j (by omega) (by omega)
      exact if_neg (fun z => by have := (w.mp z).1; omega)
  refine ⟨⟨by rw [e1]; exact c1, by rw [e5]; exact c2, by rw [e2]; exact c6⟩, fun z => ?_, fun z => ?_, fun z => ?_, fun z => ?_, fun z => ?_, fun z r r1 r2 => ?_, fun z => ?_, fun z => ?_, fun z => ?_, fun z => ?_, fun z => by omega⟩
  · subst z; rw [e1]; exact hκ
  · subst z; rw [e1, e5]; exact hκ
  · subst z; rw [h1]; exact hκ
  · subst z; rw [l1]; exact hκ
  · subst z; rw [e2]; exact hκ
  · subst z; rw [p5 r r1 r2]; exact hκ
  · subst z; rw [e1, p6]; exact hκ
  · subst z; rw [g1]; exact hκ
  · subst z; rw [n1]; exact hκ
  · subst z; rw [n3]; exact hκ
def A_X9_digest : List (Nat × Ctr) := [(2, rcv 9 3 C_X9_tellPit), (2, rcv 9 4 C_X9_tellLaw), (1, rcv 9 4 C_X9_tellNet), (2, rcv 9 3 C_X9_tell), (2, rcv 9 5 C_X9_countOf)]
theorem e_X9_digest (o : OM) : Ev o Y_X9_digest 7 T_X9_digest A_X9_digest := ⟨rfl, List.forall_mem_cons.mpr ⟨Or.inl f_X9_393, List.forall_mem_cons.mpr ⟨Or.inl f_X9_109, List.forall_mem_cons.mpr ⟨Or.inl f_X9_207, List.forall_mem_cons.mpr ⟨Or.inl f_X9_176, List.forall_mem_cons.mpr ⟨Or.inl f_X9_25, fun _ h => absurd h List.not_mem_nil⟩⟩⟩⟩⟩, fun _ h => absurd h List.not_mem_nil, List.forall_mem_cons.mpr ⟨⟨w_1625, by decide, by decide⟩, fun _ h => absurd h List.not_mem_nil⟩, fun _ h => absurd h List.not_mem_nil, List.forall_mem_cons.mpr ⟨cl_X9_tellPit (s_X9_tellPit o) (by decide) (Or.inl w_1626), List.forall_mem_cons.mpr ⟨cl_X9_tellLaw (s_X9_tellLaw o) (by decide) (Or.inl w_1635), List.forall_mem_cons.mpr ⟨cl_X9_tellNet (s_X9_tellNet o) (by decide) (Or.inl w_1639), List.forall_mem_cons.mpr ⟨cl_X9_tell (s_X9_tell o) (by decide) (Or.inl w_1630), List.forall_mem_cons.mpr ⟨cl_X9_countOf (s_X9_countOf o) (by decide) (Or.inl w_1617), fun _ h => absurd h List.not_mem_nil⟩⟩⟩⟩⟩, fun _ h => absurd h List.not_mem_nil⟩
def C_X9_digest : Ctr := fun A σ κ => match A with
  | [.inr (.inr (.inl 67))] => (Rel σ) ∧ ∀ τ, sameS τ σ → κ [vL (dgs σ)] τ
  | _ => False
set_option maxRecDepth 20000 in
theorem s_X9_digest (o : OM) : Sound o Y_X9_digest 7 C_X9_digest := by
  intro Q A σ hA hC
  match A, hA, hC with
  | [.inr (.inr (.inl 67))], hA, hC =>
    obtain ⟨h0, hq⟩ : (Rel σ) ∧ ∀ τ, sameS τ σ → Q [vL (dgs σ)] τ := hC
    obtain ⟨⟨c1, c2, c3, c4, c5, c6, c7, c8, c9, c10, c11, c12, c13, c14, c15, c16⟩, ⟨e1, e2, e3, e4, e5, e6, e7, e8, e9, e10, e11, e12, e13, e14, e15⟩, ⟨g1, g2, g3, g4⟩, ⟨h1, h2, h3, h4, h5, h6⟩, ⟨l1, l2, l3, l4⟩, hImg, ⟨n1, n2, n3, n4⟩⟩ := id h0
    obtain ⟨gp, hgp⟩ : ∃ g : Int → Int → Int, g = pitH σ := ⟨_, rfl⟩
    obtain ⟨gl, hgl⟩ : ∃ g : Int → Int → Int, g = lawH σ := ⟨_, rfl⟩
    obtain ⟨gw, hgw⟩ : ∃ g : Int → Int → Int, g = fun i h => fdl h (σ 35 i) := ⟨_, rfl⟩
    obtain ⟨gc, hgc⟩ : ∃ g : Int → Int → Int, g = fun i h => fdl h (cnf σ i) := ⟨_, rfl⟩
    obtain ⟨H1, hH1⟩ : ∃ x : Int, x = itr gp 379 (σ 1 0).toNat := ⟨_, rfl⟩
    obtain ⟨H2, hH2⟩ : ∃ x : Int, x = netH σ (bdH σ (itr gl H1 (σ 7 0).toNat)) := ⟨_, rfl⟩
    obtain ⟨H3, hH3⟩ : ∃ x : Int, x = itr gw H2 (σ 5 0).toNat := ⟨_, rfl⟩
    have hq : ∀ τ, sameS τ σ → Q [vL (itr gc H3 10)] τ := fun τ h => by
      have := hq τ h
      unfold dgs at this
      rw [hH3, hH2, hH1, hgp, hgl, hgw, hgc]
      exact this
    obtain ⟨P9, hP9⟩ : ∃ P : Nat → List AV → List AV → Sto → Prop, P = fun m S L τ => ∃ n : Nat, S = [] ∧ L = [vR 67, vI (n : Int)] ∧ sameS τ σ ∧ τ 67 54 = itr gp 379 n ∧ (n : Int) ≤ σ 1 0 ∧ m = 400 - n := ⟨_, rfl⟩
    obtain ⟨P30, hP30⟩ : ∃ P : Nat → List AV → List AV → Sto → Prop, P = fun m S L τ => ∃ n : Nat, S = [] ∧ L = [vR 67, vI (n : Int)] ∧ sameS τ σ ∧ τ 67 54 = itr gl H1 n ∧ (n : Int) ≤ σ 7 0 ∧ m = 300 - n := ⟨_, rfl⟩
    obtain ⟨P55, hP55⟩ : ∃ P : Nat → List AV → List AV → Sto → Prop, P = fun m S L τ => ∃ n : Nat, S = [] ∧ L = [vR 67, vI (n : Int)] ∧ sameS τ σ ∧ τ 67 54 = itr gw H2 n ∧ (n : Int) ≤ σ 5 0 ∧ m = 200 - n := ⟨_, rfl⟩
    obtain ⟨P82, hP82⟩ : ∃ P : Nat → List AV → List AV → Sto → Prop, P = fun m S L τ => ∃ n : Nat, S = [] ∧ L = [vR 67, vI (n : Int)] ∧ sameS τ σ ∧ τ 67 54 = itr gc H3 n ∧ (n : Int) ≤ 10 ∧ m = 100 - n := ⟨_, rfl⟩
    refine at_meth (lv := V_X9_digest) (B := B_X9_digest) (e_X9_digest o) k_X9_digest 4 [(9, P9), (30, P30), (55, P55), (82, P82)] (List.forall_mem_cons.mpr ⟨?_, List.forall_mem_cons.mpr ⟨?_, List.forall_mem_cons.mpr ⟨?_, List.forall_mem_cons.mpr ⟨?_, fun _ h => absurd h List.not_mem_nil⟩⟩⟩⟩) 0 [] _ σ ?_
    · intro m S L τ hI
      rw [hP9] at hI
      obtain ⟨n, rfl, rfl, hs, hv, hn, hm⟩ := hI
      have hT := Rel_e hs h0
      have t0 : τ 67 0 = σ 1 0 := by rw [hs.2.1 0 rfl, e1]
      simp only [sq_iconst, sq_jsr, sq_anewarray, sq_iload, sq_lload, sq_aload, sq_istore, sq_lstore, sq_astore, sq_iinc, sq_getfield, st_put0, st_put1, st_put3, sq_inv, sq_goto, sq_icmp, sq_ifc, sq_tsw, sq_iadd, sq_isub, sq_imul, sq_ineg, sq_idiv, sq_irem, sq_iand, sq_ior, sq_ixor, sq_ishl, sq_ishr, sq_iushr, sq_ladd, sq_lmul, sq_ldiv, sq_lrem, sq_land, sq_lor, sq_lshl, sq_lushr, sq_lcmp, sq_i2l, sq_l2i, sq_i2c, sq_i2b, sq_dupI, sq_dupR, sq_dup2, sq_pop, sq_iaload, sq_baload, sq_aaload, sq_iastore, sq_bastore, sq_alen, sq_ireturn, sq_lreturn, sq_return, wq_c, wq_n, wlq_s, lkp, tbl, dBk, nth, setL, canSet, cmpI, tk, swK, rdF, entL, catS, cat1, arg, rcv, ald, bld, aln, br, Ccopy, Cmax, Cmin, Cabs, List.take, List.drop, List.reverse, List.reverseAux, List.length, List.append, List.nil_append, List.cons_append, true_and, and_true, and_self, forall_const, true_implies, false_implies, not_true_eq_false, not_false_eq_true, Option.map, reduceCtorEq, reduceIte, or_true, true_or, false_or, or_false, false_and, and_false, List.map, List.append_nil, implies_true, yK, Nat.reduceBEq, beq_self_eq_true, Int.zero_ne_one, Nat.reduceDiv, Nat.reduceMod, Nat.reduceAdd, Nat.reduceSub, Nat.reduceMul, Nat.reduceEqDiff, Nat.reduceLeDiff, Int.reduceToNat, Int.reduceNeg, Int.reduceEq, Int.reduceLT, Int.reduceLE, Int.reduceNatCast, Int.reduceNatCast', Int.reduceAdd, Int.reduceSub, Int.reduceMul, eq_self, Prod.mk.injEq, A_X9_digest, V_X9_digest, B_X9_digest, Y_X9_digest, C_X9_tellPit, C_X9_tellLaw, C_X9_tellNet, C_X9_tell, shpT, rfsT, wjq_s, look, br, t0]
      have u1 : τ 1 = σ 1 := hs.1 1 rfl
      refine ⟨fun w => ?_, fun w => ⟨⟨hT, (by omega), by rw [u1]; omega⟩, ⟨by omega, by omega⟩, ?_⟩⟩
      · rw [hP30]
        have e : (σ 1 0).toNat = n := by omega
        exact ⟨_, by omega, 0, rfl, rfl, hs, by rw [hv, hH1, e]; rfl, (by omega), rfl⟩
      · rw [hP9]
        exact ⟨_, by omega, n + 1, rfl, rfl, sameS_h hs, by rw [su_y, hv, itr_s, hgp, pitH_e hs], (by omega), rfl⟩
    · intro m S L τ hI
      rw [hP30] at hI
      obtain ⟨n, rfl, rfl, hs, hv, hn, hm⟩ := hI
      have hT := Rel_e hs h0
      have t11 : τ 67 11 = σ 7 0 := by rw [hs.2.1 11 rfl, l1]
      simp only [sq_iconst, sq_jsr, sq_anewarray, sq_iload, sq_lload, sq_aload, sq_istore, sq_lstore, sq_astore, sq_iinc, sq_getfield, st_put0, st_put1, st_put3, sq_inv, sq_goto, sq_icmp, sq_ifc, sq_tsw, sq_iadd, sq_isub, sq_imul, sq_ineg, sq_idiv, sq_irem, sq_iand, sq_ior, sq_ixor, sq_ishl, sq_ishr, sq_iushr, sq_ladd, sq_lmul, sq_ldiv, sq_lrem, sq_land, sq_lor, sq_lshl, sq_lushr, sq_lcmp, sq_i2l, sq_l2i, sq_i2c, sq_i2b, sq_dupI, sq_dupR, sq_dup2, sq_pop, sq_iaload, sq_baload, sq_aaload, sq_iastore, sq_bastore, sq_alen, sq_ireturn, sq_lreturn, sq_return, wq_c, wq_n, wlq_s, lkp, tbl, dBk, nth, setL, canSet, cmpI, tk, swK, rdF, entL, catS, cat1, arg, rcv, ald, bld, aln, br, Ccopy, Cmax, Cmin, Cabs, List.take, List.drop, List.reverse, List.reverseAux, List.length, List.append, List.nil_append, List.cons_append, true_and, and_true, and_self, forall_const, true_implies, false_implies, not_true_eq_false, not_false_eq_true, Option.map, reduceCtorEq, reduceIte, or_true, true_or, false_or, or_false, false_and, and_false, List.map, List.append_nil, implies_true, yK, Nat.reduceBEq, beq_self_eq_true, Int.zero_ne_one, Nat.reduceDiv, Nat.reduceMod, Nat.reduceAdd, Nat.reduceSub, Nat.reduceMul, Nat.reduceEqDiff, Nat.reduceLeDiff, Int.reduceToNat, Int.reduceNeg, Int.reduceEq, Int.reduceLT, Int.reduceLE, Int.reduceNatCast, Int.reduceNatCast', Int.reduceAdd, Int.reduceSub, Int.reduceMul, eq_self, Prod.mk.injEq, A_X9_digest, V_X9_digest, B_X9_digest, Y_X9_digest, C_X9_tellPit, C_X9_tellLaw, C_X9_tellNet, C_X9_tell, shpT, rfsT, wjq_s, look, br, t11]
      refine ⟨fun w => ⟨hT, fun T f1 f2 => ?_⟩, fun w => ⟨⟨hT, ⟨by omega, by omega⟩⟩, fun T f1 f2 => ⟨⟨by omega, by omega⟩, ?_⟩⟩⟩
      · rw [hP55]
        have e : (σ 7 0).toNat = n := by omega
        exact ⟨_, by omega, 0, rfl, rfl, sameS_t f1 hs, by rw [f2, netH_e hs, bdH_e hs, hv, hH2, e]; rfl, (by omega), rfl⟩
      · rw [hP30]
        exact ⟨_, by omega, n + 1, rfl, rfl, sameS_t f1 hs, by rw [f2, hv, itr_s, hgl, lawH_e h0 hs], (by omega), rfl⟩
    · intro m S L τ hI
      rw [hP55] at hI
      obtain ⟨n, rfl, rfl, hs, hv, hn, hm⟩ := hI
      have hT := Rel_e hs h0
      have t8 : τ 67 8 = σ 5 0 := by rw [hs.2.1 8 rfl, g1]
      have t73 : τ 73 = σ 35 := by rw [hs.1 73 rfl, g3]
      simp only [sq_iconst, sq_jsr, sq_anewarray, sq_iload, sq_lload, sq_aload, sq_istore, sq_lstore, sq_astore, sq_iinc, sq_getfield, st_put0, st_put1, st_put3, sq_inv, sq_goto, sq_icmp, sq_ifc, sq_tsw, sq_iadd, sq_isub, sq_imul, sq_ineg, sq_idiv, sq_irem, sq_iand, sq_ior, sq_ixor, sq_ishl, sq_ishr, sq_iushr, sq_ladd, sq_lmul, sq_ldiv, sq_lrem, sq_land, sq_lor, sq_lshl, sq_lushr, sq_lcmp, sq_i2l, sq_l2i, sq_i2c, sq_i2b, sq_dupI, sq_dupR, sq_dup2, sq_pop, sq_iaload, sq_baload, sq_aaload, sq_iastore, sq_bastore, sq_alen, sq_ireturn, sq_lreturn, sq_return, wq_c, wq_n, wlq_s, lkp, tbl, dBk, nth, setL, canSet, cmpI, tk, swK, rdF, entL, catS, cat1, arg, rcv, ald, bld, aln, br, Ccopy, Cmax, Cmin, Cabs, List.take, List.drop, List.reverse, List.reverseAux, List.length, List.append, List.nil_append, List.cons_append, true_and, and_true, and_self, forall_const, true_implies, false_implies, not_true_eq_false, not_false_eq_true, Option.map, reduceCtorEq, reduceIte, or_true, true_or, false_or, or_false, false_and, and_false, List.map, List.append_nil, implies_true, yK, Nat.reduceBEq, beq_self_eq_true, Int.zero_ne_one, Nat.reduceDiv, Nat.reduceMod, Nat.reduceAdd, Nat.reduceSub, Nat.reduceMul, Nat.reduceEqDiff, Nat.reduceLeDiff, Int.reduceToNat, Int.reduceNeg, Int.reduceEq, Int.reduceLT, Int.reduceLE, Int.reduceNatCast, Int.reduceNatCast', Int.reduceAdd, Int.reduceSub, Int.reduceMul, eq_self, Prod.mk.injEq, A_X9_digest, V_X9_digest, B_X9_digest, Y_X9_digest, C_X9_tellPit, C_X9_tellLaw, C_X9_tellNet, C_X9_tell, shpT, rfsT, wjq_s, look, br, t8, t73]
      refine ⟨fun w => ?_, fun w => ⟨⟨by omega, by omega⟩, ⟨by omega, by omega⟩, ?_⟩⟩
      · rw [hP82]
        have e : (σ 5 0).toNat = n := by omega
        exact ⟨_, by omega, 0, rfl, rfl, hs, by rw [hv, hH3, e]; rfl, (by omega), rfl⟩
      · rw [hP55]
        exact ⟨_, by omega, n + 1, rfl, rfl, sameS_h hs, by rw [su_y, hv, itr_s, hgw], (by omega), rfl⟩
    · intro m S L τ hI
      rw [hP82] at hI
      obtain ⟨n, rfl, rfl, hs, hv, hn, hm⟩ := hI
      have hT := Rel_e hs h0
      simp only [sq_iconst, sq_jsr, sq_anewarray, sq_iload, sq_lload, sq_aload, sq_istore, sq_lstore, sq_astore, sq_iinc, sq_getfield, st_put0, st_put1, st_put3, sq_inv, sq_goto, sq_icmp, sq_ifc, sq_tsw, sq_iadd, sq_isub, sq_imul, sq_ineg, sq_idiv, sq_irem, sq_iand, sq_ior, sq_ixor, sq_ishl, sq_ishr, sq_iushr, sq_ladd, sq_lmul, sq_ldiv, sq_lrem, sq_land, sq_lor, sq_lshl, sq_lushr, sq_lcmp, sq_i2l, sq_l2i, sq_i2c, sq_i2b, sq_dupI, sq_dupR, sq_dup2, sq_pop, sq_iaload, sq_baload, sq_aaload, sq_iastore, sq_bastore, sq_alen, sq_ireturn, sq_lreturn, sq_return, wq_c, wq_n, wlq_s, lkp, tbl, dBk, nth, setL, canSet, cmpI, tk, swK, rdF, entL, catS, cat1, arg, rcv, ald, bld, aln, br, Ccopy, Cmax, Cmin, Cabs, List.take, List.drop, List.reverse, List.reverseAux, List.length, List.append, List.nil_append, List.cons_append, true_and, and_true, and_self, forall_const, true_implies, false_implies, not_true_eq_false, not_false_eq_true, Option.map, reduceCtorEq, reduceIte, or_true, true_or, false_or, or_false, false_and, and_false, List.map, List.append_nil, implies_true, yK, Nat.reduceBEq, beq_self_eq_true, Int.zero_ne_one, Nat.reduceDiv, Nat.reduceMod, Nat.reduceAdd, Nat.reduceSub, Nat.reduceMul, Nat.reduceEqDiff, Nat.reduceLeDiff, Int.reduceToNat, Int.reduceNeg, Int.reduceEq, Int.reduceLT, Int.reduceLE, Int.reduceNatCast, Int.reduceNatCast', Int.reduceAdd, Int.reduceSub, Int.reduceMul, eq_self, Prod.mk.injEq, A_X9_digest, V_X9_digest, B_X9_digest, Y_X9_digest, C_X9_tellPit, C_X9_tellLaw, C_X9_tellNet, C_X9_tell, shpT, rfsT, wjq_s, look, br]
      refine ⟨fun w => ?_, fun w => cnt9 hT ⟨by omega, by omega⟩ ?_⟩
      · have e : n = 10 := by omega
        subst e
        rw [hv]
        exact hq τ hs
      · simp only [sq_iconst, sq_jsr, sq_anewarray, sq_iload, sq_lload, sq_aload, sq_istore, sq_lstore, sq_astore, sq_iinc, sq_getfield, st_put0, st_put1, st_put3, sq_inv, sq_goto, sq_icmp, sq_ifc, sq_tsw, sq_iadd, sq_isub, sq_imul, sq_ineg, sq_idiv, sq_irem, sq_iand, sq_ior, sq_ixor, sq_ishl, sq_ishr, sq_iushr, sq_ladd, sq_lmul, sq_ldiv, sq_lrem, sq_land, sq_lor, sq_lshl, sq_lushr, sq_lcmp, sq_i2l, sq_l2i, sq_i2c, sq_i2b, sq_dupI, sq_dupR, sq_dup2, sq_pop, sq_iaload, sq_baload, sq_aaload, sq_iastore, sq_bastore, sq_alen, sq_ireturn, sq_lreturn, sq_return, wq_c, wq_n, wlq_s, lkp, tbl, dBk, nth, setL, canSet, cmpI, tk, swK, rdF, entL, catS, cat1, arg, rcv, ald, bld, aln, br, Ccopy, Cmax, Cmin, Cabs, List.take, List.drop, List.reverse, List.reverseAux, List.length, List.append, List.nil_append, List.cons_append, true_and, and_true, and_self, forall_const, true_implies, false_implies, not_true_eq_false, not_false_eq_true, Option.map, reduceCtorEq, reduceIte, or_true, true_or, false_or, or_false, false_and, and_false, List.map, List.append_nil, implies_true, yK, Nat.reduceBEq, beq_self_eq_true, Int.zero_ne_one, Nat.reduceDiv, Nat.reduceMod, Nat.reduceAdd, Nat.reduceSub, Nat.reduceMul, Nat.reduceEqDiff, Nat.reduceLeDiff, Int.reduceToNat, Int.reduceNeg, Int.reduceEq, Int.reduceLT, Int.reduceLE, Int.reduceNatCast, Int.reduceNatCast', Int.reduceAdd, Int.reduceSub, Int.reduceMul, eq_self, Prod.mk.injEq, A_X9_digest, V_X9_digest, B_X9_digest, Y_X9_digest, C_X9_tellPit, C_X9_tellLaw, C_X9_tellNet, C_X9_tell, shpT, rfsT, wjq_s, look, br]
        rw [hP82]
        exact ⟨⟨by omega, by omega⟩, _, by omega, n + 1, rfl, rfl, sameS_h hs, by rw [su_y, hv, itr_s, hgc, cnf_e hs], (by omega), rfl⟩
    · simp only [sq_iconst, sq_jsr, sq_anewarray, sq_iload, sq_lload, sq_aload, sq_istore, sq_lstore, sq_astore, sq_iinc, sq_getfield, st_put0, st_put1, st_put3, sq_inv, sq_goto, sq_icmp, sq_ifc, sq_tsw, sq_iadd, sq_isub, sq_imul, sq_ineg, sq_idiv, sq_irem, sq_iand, sq_ior, sq_ixor, sq_ishl, sq_ishr, sq_iushr, sq_ladd, sq_lmul, sq_ldiv, sq_lrem, sq_land, sq_lor, sq_lshl, sq_lushr, sq_lcmp, sq_i2l, sq_l2i, sq_i2c, sq_i2b, sq_dupI, sq_dupR, sq_dup2, sq_pop, sq_iaload, sq_baload, sq_aaload, sq_iastore, sq_bastore, sq_alen, sq_ireturn, sq_lreturn, sq_return, wq_c, wq_n, wlq_s, lkp, tbl, dBk, nth, setL, canSet, cmpI, tk, swK, rdF, entL, catS, cat1, arg, rcv, ald, bld, aln, br, Ccopy, Cmax, Cmin, Cabs, List.take, List.drop, List.reverse, List.reverseAux, List.length, List.append, List.nil_append, List.cons_append, true_and, and_true, and_self, forall_const, true_implies, false_implies, not_true_eq_false, not_false_eq_true, Option.map, reduceCtorEq, reduceIte, or_true, true_or, false_or, or_false, false_and, and_false, List.map, List.append_nil, implies_true, yK, Nat.reduceBEq, beq_self_eq_true, Int.zero_ne_one, Nat.reduceDiv, Nat.reduceMod, Nat.reduceAdd, Nat.reduceSub, Nat.reduceMul, Nat.reduceEqDiff, Nat.reduceLeDiff, Int.reduceToNat, Int.reduceNeg, Int.reduceEq, Int.reduceLT, Int.reduceLE, Int.reduceNatCast, Int.reduceNatCast', Int.reduceAdd, Int.reduceSub, Int.reduceMul, eq_self, Prod.mk.injEq, A_X9_digest, V_X9_digest, B_X9_digest, Y_X9_digest, C_X9_tellPit, C_X9_tellLaw, C_X9_tellNet, C_X9_tell, shpT, rfsT, wjq_s, look, br]
      rw [hP9]
      exact ⟨_, 0, rfl, rfl, sameS_h (sameS_r σ), by rw [su_y]; rfl, (by omega), rfl⟩
theorem dgs_e {τ σ : Sto} (hR : Rel σ) (h : sameS τ σ) : dgs τ = dgs σ := by
  unfold dgs
  rw [pitH_e h, lawH_e hR h, bdH_e h, netH_e h, cnf_e h, h.1 1 rfl, h.1 7 rfl, h.1 35 rfl, h.2.2.1]
theorem op_digest {σ : Sto} (hR : Rel σ) {κ : List AV → Sto → Prop} (hκ : ∀ v τ, MidL C_X9_digest [vR 67] (σ 102) v τ → κ [vL v] τ) : C_X8_digest [vR 0] σ κ := by
  refine ⟨hR, fun τ hs => hκ _ _ (fun κ' hκ' => ⟨Rel_e hs hR, fun T hT => ?_⟩)⟩
  rw [dgs_e hR hs]
  exact hκ' T (Rel_e hT (Rel_e hs hR)) (by rw [hT.1 102 rfl, hs.1 102 rfl])

