-- ===== reading the page: the reference =====
theorem MP_0 (σ : Sto) : MP σ σ := ⟨fun _ _ _ => rfl, fun _ _ => rfl⟩
theorem MP_s {σ τ : Sto} {i v : Int} (h : MP σ τ) (hi : i = 14 ∨ i = 15 ∨ i = 16) : MP σ (su τ 67 i v) := ⟨fun p p1 p2 => by rw [su_r p1]; exact h.1 p p1 p2, fun j hj => by rw [su_x (by omega)]; exact h.2 j hj⟩
theorem MP_r {σ τ : Sto} {i v : Int} (h : MP σ τ) : MP σ (su τ 76 i v) := ⟨fun p p1 p2 => by rw [su_r p2]; exact h.1 p p1 p2, fun j hj => by rw [su_r (by decide)]; exact h.2 j hj⟩
theorem MP_t {σ τ ρ : Sto} (h : MP σ τ) (h' : MP τ ρ) : MP σ ρ := ⟨fun p p1 p2 => by rw [h'.1 p p1 p2]; exact h.1 p p1 p2, fun j hj => by rw [h'.2 j hj]; exact h.2 j hj⟩
def A_X9_go : List (Nat × Ctr) := [(1, arg 1 C_X9_handLetter), (1, arg 1 C_X9_lawLetter), (3, arg 6 C_X9_in)]
theorem e_X9_go (o : OM) : Ev o Y_X9_go 1 T_X9_go A_X9_go := ⟨rfl, List.forall_mem_cons.mpr ⟨Or.inl f_X9_179, List.forall_mem_cons.mpr ⟨Or.inl f_X9_188, List.forall_mem_cons.mpr ⟨Or.inl f_X9_191, List.forall_mem_cons.mpr ⟨Or.inl f_X9_34, fun _ h => absurd h List.not_mem_nil⟩⟩⟩⟩, fun _ h => absurd h List.not_mem_nil, List.forall_mem_cons.mpr ⟨⟨w_1362, by decide, by decide⟩, List.forall_mem_cons.mpr ⟨⟨w_1363, by decide, by decide⟩, fun _ h => absurd h List.not_mem_nil⟩⟩, fun _ h => absurd h List.not_mem_nil, fun _ h => absurd h List.not_mem_nil, List.forall_mem_cons.mpr ⟨cl_X9_handLetter (s_X9_handLetter o) (by decide) (Or.inl w_1356), List.forall_mem_cons.mpr ⟨cl_X9_lawLetter (s_X9_lawLetter o) (by decide) (Or.inl w_1359), List.forall_mem_cons.mpr ⟨cl_X9_in (s_X9_in o) (by decide) (Or.inl w_1260), fun _ h => absurd h List.not_mem_nil⟩⟩⟩⟩
def C_X9_go : Ctr := fun A σ κ => match A with
  | [.inr (.inr (.inl 67)), .inl so, .inl c] => ((so = 0 ∨ so = 1) ∧ (0 ≤ c ∧ c ≤ 126)) ∧ ∃ z : Zr, RZ z σ ∧ ZI (so + 1) z ∧ (∀ z', stp (so + 1) c z = some z' → ∀ τ, MP σ τ → RZ z' τ → κ [vI 1] τ) ∧ (stp (so + 1) c z = none → ∀ τ, MP σ τ → κ [vI 0] τ)
  | _ => False
set_option maxRecDepth 20000 in
theorem s_X9_go (o : OM) : Sound o Y_X9_go 1 C_X9_go := by
  intro Q A σ hA hC
  match A, hA, hC with
  | [.inr (.inr (.inl 67)), .inl so, .inl c], hA, hC =>
    obtain ⟨h0, hq⟩ : ((so = 0 ∨ so = 1) ∧ (0 ≤ c ∧ c ≤ 126)) ∧ ∃ z : Zr, RZ z σ ∧ ZI (so + 1) z ∧ (∀ z', stp (so + 1) c z = some z' → ∀ τ, MP σ τ → RZ z' τ → Q [vI 1] τ) ∧ (stp (so + 1) c z = none → ∀ τ, MP σ τ → Q [vI 0] τ) := hC
    refine at_wpl (lv := V_X9_go) (B := B_X9_go) (e_X9_go o) k_X9_go 8 0 [] _ σ ?_
    simp only [sq_iconst, sq_jsr, sq_anewarray, sq_iload, sq_lload, sq_aload, sq_istore, sq_lstore, sq_astore, sq_iinc, sq_getfield, st_put0, st_put1, st_put3, sq_inv, sq_goto, sq_icmp, sq_ifc, sq_tsw, sq_iadd, sq_isub, sq_imul, sq_ineg, sq_idiv, sq_irem, sq_iand, sq_ior, sq_ixor, sq_ishl, sq_ishr, sq_iushr, sq_ladd, sq_lmul, sq_ldiv, sq_lrem, sq_land, sq_lor, sq_lshl, sq_lushr, sq_lcmp, sq_i2l, sq_l2i, sq_i2c, sq_i2b, sq_dupI, sq_dupR, sq_dup2, sq_pop, sq_iaload, sq_baload, sq_aaload, sq_iastore, sq_bastore, sq_alen, sq_ireturn, sq_lreturn, sq_return, wq_c, wq_n, wlq_s, lkp, tbl, dBk, nth, setL, canSet, cmpI, tk, swK, rdF, entL, catS, cat1, arg, rcv, ald, bld, aln, br, Ccopy, Cmax, Cmin, Cabs, List.take, List.drop, List.reverse, List.reverseAux, List.length, List.append, List.nil_append, List.cons_append, true_and, and_true, and_self, forall_const, true_implies, false_implies, not_true_eq_false, not_false_eq_true, Option.map, reduceCtorEq, reduceIte, or_true, true_or, false_or, or_false, false_and, and_false, List.map, List.append_nil, implies_true, yK, Nat.reduceBEq, beq_self_eq_true, Int.zero_ne_one, Nat.reduceDiv, Nat.reduceMod, Nat.reduceAdd, Nat.reduceSub, Nat.reduceMul, Nat.reduceEqDiff, Nat.reduceLeDiff, Int.reduceToNat, Int.reduceNeg, Int.reduceEq, Int.reduceLT, Int.reduceLE, Int.reduceNatCast, Int.reduceNatCast', Int.reduceAdd, Int.reduceSub, Int.reduceMul, eq_self, Prod.mk.injEq, A_X9_go, V_X9_go, B_X9_go, Y_X9_go, C_X9_handLetter, C_X9_lawLetter, C_X9_in, shpT, rfsT, su_at, su_r]
    obtain ⟨hso, hc⟩ := h0
    obtain ⟨z, ⟨r1, r2, r3, r4⟩, ⟨z1, z2, z3, z4, z5⟩, hs, hn⟩ := hq
    have nn := nnm_in (so + 1)
    have e7 : so = 0 → nnm (so + 1) = 7 := fun e => by rw [e]; rfl
    have e4 : so = 1 → nnm (so + 1) = 4 := fun e => by rw [e]; rfl
    have l7 : so = 0 → ltm (so + 1) c = hlt c := fun e => by rw [e]; rfl
    have l4 : so = 1 → ltm (so + 1) c = llt c := fun e => by rw [e]; rfl
    have mx : mxm (so + 1) ≤ 99 := by unfold mxm; split <;> decide
    unfold stp at hs hn
    have zi : ¬ σ 67 14 = 0 → ¬ z.1 = -1 ∧ σ 67 14 = z.2.2.1 + 1 ∧ σ 67 15 = z.1 ∧ (0 ≤ z.1 ∧ z.1 < 7) := fun h => by
      have h1 : ¬ z.1 = -1 := fun y => h (r1 y)
      have h2 := r2 h1
      exact ⟨h1, h2.1, h2.2, by omega, by omega⟩
    have cm : ¬ z.1 = -1 → ¬ ((48 ≤ c ∧ c ≤ 57) ∧ z.2.2.1 < so + 1) → 0 < z.2.2.1 → (¬c = 44 → Q [vI 0] (su σ 67 14 0)) ∧ (¬¬c = 44 → (¬so = 0 → (4 ≤ σ 67 16 → Q [vI 0] (su σ 67 14 0)) ∧ (¬4 ≤ σ 67 16 → Q [vI 1] (su σ 67 14 0))) ∧ (¬¬so = 0 → (7 ≤ σ 67 16 → Q [vI 0] (su σ 67 14 0)) ∧ (¬7 ≤ σ 67 16 → Q [vI 1] (su σ 67 14 0)))) := by
      intro h1 h2 h3
      have mp : MP σ (su σ 67 14 0) := MP_s (MP_0 σ) (Or.inl rfl)
      have no : ¬ (c = 44 ∧ 0 < z.2.2.1 ∧ z.2.1 < nnm (so + 1)) → Q [vI 0] (su σ 67 14 0) := fun y => hn (by rw [if_neg h1, if_neg h2, if_neg y]) _ mp
      have ye : (c = 44 ∧ 0 < z.2.2.1 ∧ z.2.1 < nnm (so + 1)) → Q [vI 1] (su σ 67 14 0) := fun y => hs _ (by rw [if_neg h1, if_neg h2, if_pos y]) _ mp ⟨fun _ => su_y, fun w => absurd rfl w, by rw [su_x (by decide)]; exact r3, fun j j0 j1 => by rw [su_r (by decide)]; exact r4 j j0 j1⟩
      rw [r3]
      exact ⟨fun y => no (fun w => y w.1), fun y => ⟨fun y0 => ⟨fun y1 => no (fun w => by have := e4 (by omega); omega), fun y1 => ye ⟨Classical.not_not.mp y, h3, by have := e4 (by omega); omega⟩⟩, fun y0 => ⟨fun y1 => no (fun w => by have := e7 (by omega); omega), fun y1 => ye ⟨Classical.not_not.mp y, h3, by have := e7 (by omega); omega⟩⟩⟩⟩
    have dg : ∀ v w, ¬ z.1 = -1 → ((48 ≤ c ∧ c ≤ 57) ∧ z.2.2.1 < so + 1) → σ 67 15 = z.1 → v = (if z.2.2.1 = 0 then 0 else 10 * z.2.2.2 z.1) + c - 48 → w = z.2.2.1 + 1 + 1 → Q [vI 1] (su (su σ 76 (σ 67 15) v) 67 14 w) := by
      intro v w h1 h2 h3 hv hw
      refine hs (z.1, z.2.1, z.2.2.1 + 1, upI z.2.2.2 z.1 ((if z.2.2.1 = 0 then 0 else 10 * z.2.2.2 z.1) + c - 48)) (by rw [if_neg h1, if_pos h2]) _ (MP_s (MP_r (MP_0 σ)) (Or.inl rfl)) ⟨fun y => absurd y h1, fun _ => ⟨by rw [su_y, hw], ?_⟩, ?_, fun j j0 j1 => ?_⟩
      · rw [su_x (by decide), su_r (by decide), h3]
      · rw [su_x (by decide), su_r (by decide), r3]
      · rw [su_r (by decide), su_u, h3, ← hv]
        show upI (σ 76) z.1 v j = upI z.2.2.2 z.1 v j
        unfold upI
        split
        · rfl
        · exact r4 j j0 j1
    refine ⟨fun h => ?_, fun h => ?_⟩
    · obtain ⟨h1, h2, h3, h4⟩ := zi h
      have er := r4 z.1 h4.1 h4.2
      have bz := z4 z.1 h4.1 h4.2
      have i15 : 0 ≤ σ 67 15 ∧ σ 67 15 < 7 := by rw [h3]; exact h4
      refine ⟨fun y1 => ⟨fun y2 => cm h1 (fun w => by omega) (by omega), fun y2 => ⟨fun y3 => cm h1 (fun w => by omega) (by omega), fun y3 => ⟨fun y4 => ?_, fun y4 => cm h1 (fun w => y4 w.1) (by omega)⟩⟩⟩, fun y1 => ⟨⟨by omega, by omega⟩, i15, fun y2 => dg _ _ h1 ⟨y2, by omega⟩ h3 (by rw [if_pos (by omega)]; omega) (by omega), fun y2 => hn (by rw [if_neg h1, if_neg (fun w => y2 w.1), if_neg (fun w => by omega)]) _ (MP_s (MP_r (MP_0 σ)) (Or.inl rfl))⟩⟩
      have e76 : σ 76 (σ 67 15) = z.2.2.2 z.1 := by rw [h3, er]
      rw [e76]
      exact ⟨i15, ⟨by omega, by omega⟩, ⟨by omega, by omega⟩, ⟨by omega, by omega⟩, i15, dg _ _ h1 ⟨y4, by omega⟩ h3 (by rw [if_neg (by omega)]) (by omega)⟩
    · have h := Classical.not_not.mp h
      have h1 : z.1 = -1 := Classical.byContradiction (fun y => by have := (r2 y).1; omega)
      have i6 := z2.2.2 h1
      have lt : ∀ x, x = ltm (so + 1) c → i32 (σ 67 16 + 1) ∧ (x = -1 → Q [vI 0] (su (su (su σ 67 15 x) 67 14 1) 67 16 (σ 67 16 + 1))) ∧ (¬ x = -1 → (0 ≤ x ∧ x < 7) ∧ (¬ σ 76 x = -1 → Q [vI 0] (su (su (su σ 67 15 x) 67 14 1) 67 16 (σ 67 16 + 1))) ∧ (¬¬ σ 76 x = -1 → Q [vI 1] (su (su (su σ 67 15 x) 67 14 1) 67 16 (σ 67 16 + 1)))) := by
        intro x hx
        have li := ltm_in (so + 1) c
        have mp : MP σ (su (su (su σ 67 15 x) 67 14 1) 67 16 (σ 67 16 + 1)) := MP_s (MP_s (MP_s (MP_0 σ) (by decide)) (by decide)) (by decide)
        refine ⟨⟨by omega, by omega⟩, fun y => hn (by rw [if_pos h1, if_neg (fun w => by omega)]) _ mp, fun y => ⟨⟨by omega, by omega⟩, fun y2 => hn (by rw [if_pos h1, if_neg (fun w => y2 (by rw [r4 x (by omega) (by omega), hx]; exact w.2))]) _ mp, fun y2 => ?_⟩⟩
        have y2 := Classical.not_not.mp y2
        refine hs (ltm (so + 1) c, z.2.1 + 1, 0, z.2.2.2) (by rw [if_pos h1, if_pos ⟨by omega, by rw [← hx, ← r4 x (by omega) (by omega)]; exact y2⟩]) _ mp ⟨fun w => absurd w (by show ¬ ltm (so + 1) c = -1; omega), fun _ => ⟨?_, ?_⟩, ?_, fun j j0 j1 => ?_⟩
        · rw [su_x (by decide), su_y]; rfl
        · rw [su_x (by decide), su_x (by decide), su_y, hx]
        · rw [su_y, r3]
        · rw [su_r (by decide), su_r (by decide), su_r (by decide)]; exact r4 j j0 j1
      exact ⟨fun y => lt _ (l4 (by omega)).symm, fun y => lt _ (l7 (by omega)).symm⟩
def A_X9_faultOf : List (Nat × Ctr) := [(3, rcv 9 3 C_X9_go)]
theorem e_X9_faultOf (o : OM) : Ev o Y_X9_faultOf 2 T_X9_faultOf A_X9_faultOf := ⟨rfl, List.forall_mem_cons.mpr ⟨Or.inl f_X9_179, List.forall_mem_cons.mpr ⟨Or.inl f_X9_191, List.forall_mem_cons.mpr ⟨Or.inl f_X9_34, List.forall_mem_cons.mpr ⟨Or.inl f_X9_176, List.forall_mem_cons.mpr ⟨Or.inl f_X9_25, fun _ h => absurd h List.not_mem_nil⟩⟩⟩⟩⟩, fun _ h => absurd h List.not_mem_nil, fun _ h => absurd h List.not_mem_nil, fun _ h => absurd h List.not_mem_nil, List.forall_mem_cons.mpr ⟨cl_X9_go (s_X9_go o) (by decide) (Or.inl w_1352), fun _ h => absurd h List.not_mem_nil⟩, fun _ h => absurd h List.not_mem_nil⟩
def C_X9_faultOf : Ctr := fun A σ κ => match A with
  | [.inr (.inr (.inl 67)), .inl so] => ((so = 0 ∨ so = 1) ∧ (0 ≤ σ 67 8 ∧ σ 67 8 ≤ 30) ∧ (∀ j, 0 ≤ j → j < 30 → 0 ≤ σ 73 j ∧ σ 73 j ≤ 126)) ∧ rdM (so + 1) σ κ
  | _ => False
set_option maxRecDepth 20000 in
theorem s_X9_faultOf (o : OM) : Sound o Y_X9_faultOf 2 C_X9_faultOf := by
  intro Q A σ hA hC
  match A, hA, hC with
  | [.inr (.inr (.inl 67)), .inl so], hA, hC =>
    obtain ⟨h0, hq⟩ : ((so = 0 ∨ so = 1) ∧ (0 ≤ σ 67 8 ∧ σ 67 8 ≤ 30) ∧ (∀ j, 0 ≤ j → j < 30 → 0 ≤ σ 73 j ∧ σ 73 j ≤ 126)) ∧ rdM (so + 1) σ Q := hC
    obtain ⟨hso, h8, h73⟩ := h0
    obtain ⟨P12, hP12⟩ : ∃ P : Nat → List AV → List AV → Sto → Prop, P = fun m S L τ => ∃ k : Int, S = [] ∧ L = [vR 67, vI so, vI k] ∧ MP σ τ ∧ τ 67 14 = 0 ∧ τ 67 16 = 0 ∧ (0 ≤ k ∧ k ≤ 7) ∧ (∀ j, 0 ≤ j → j < k → τ 76 j = -1) ∧ m = (107 - k).toNat := ⟨_, rfl⟩
    obtain ⟨P33, hP33⟩ : ∃ P : Nat → List AV → List AV → Sto → Prop, P = fun m S L τ => ∃ (k : Nat) (z : Zr), S = [] ∧ L = [vR 67, vI so, vI (k : Int)] ∧ MP σ τ ∧ RZ z τ ∧ rdk (so + 1) (σ 73) k = some z ∧ (k : Int) ≤ σ 67 8 ∧ m = (σ 67 8 - k).toNat := ⟨_, rfl⟩
    refine at_meth (lv := V_X9_faultOf) (B := B_X9_faultOf) (e_X9_faultOf o) k_X9_faultOf 4 [(12, P12), (33, P33)] (List.forall_mem_cons.mpr ⟨?_, List.forall_mem_cons.mpr ⟨?_, fun _ h => absurd h List.not_mem_nil⟩⟩) 0 [] _ σ ?_
    · intro m S L τ hI
      rw [hP12] at hI
      obtain ⟨k, rfl, rfl, hM, h14, h16, hk, hj, hm⟩ := hI
      simp only [sq_iconst, sq_jsr, sq_anewarray, sq_iload, sq_lload, sq_aload, sq_istore, sq_lstore, sq_astore, sq_iinc, sq_getfield, st_put0, st_put1, st_put3, sq_inv, sq_goto, sq_icmp, sq_ifc, sq_tsw, sq_iadd, sq_isub, sq_imul, sq_ineg, sq_idiv, sq_irem, sq_iand, sq_ior, sq_ixor, sq_ishl, sq_ishr, sq_iushr, sq_ladd, sq_lmul, sq_ldiv, sq_lrem, sq_land, sq_lor, sq_lshl, sq_lushr, sq_lcmp, sq_i2l, sq_l2i, sq_i2c, sq_i2b, sq_dupI, sq_dupR, sq_dup2, sq_pop, sq_iaload, sq_baload, sq_aaload, sq_iastore, sq_bastore, sq_alen, sq_ireturn, sq_lreturn, sq_return, wq_c, wq_n, wlq_s, lkp, tbl, dBk, nth, setL, canSet, cmpI, tk, swK, rdF, entL, catS, cat1, arg, rcv, ald, bld, aln, br, Ccopy, Cmax, Cmin, Cabs, List.take, List.drop, List.reverse, List.reverseAux, List.length, List.append, List.nil_append, List.cons_append, true_and, and_true, and_self, forall_const, true_implies, false_implies, not_true_eq_false, not_false_eq_true, Option.map, reduceCtorEq, reduceIte, or_true, true_or, false_or, or_false, false_and, and_false, List.map, List.append_nil, implies_true, yK, Nat.reduceBEq, beq_self_eq_true, Int.zero_ne_one, Nat.reduceDiv, Nat.reduceMod, Nat.reduceAdd, Nat.reduceSub, Nat.reduceMul, Nat.reduceEqDiff, Nat.reduceLeDiff, Int.reduceToNat, Int.reduceNeg, Int.reduceEq, Int.reduceLT, Int.reduceLE, Int.reduceNatCast, Int.reduceNatCast', Int.reduceAdd, Int.reduceSub, Int.reduceMul, eq_self, Prod.mk.injEq, A_X9_faultOf, V_X9_faultOf, B_X9_faultOf, Y_X9_faultOf, C_X9_go, shpT, rfsT, wjq_s, look, br]
      refine ⟨fun h => ?_, fun h => ⟨⟨by omega, by omega⟩, ⟨by omega, by omega⟩, ?_⟩⟩
      · rw [hP33]
        have e : k = 7 := by omega
        subst e
        exact ⟨_, by omega, 0, (-1, 0, 0, fun _ => -1), rfl, rfl, hM, ⟨fun _ => h14, fun w => absurd rfl w, h16, hj⟩, rfl, (by omega), rfl⟩
      · rw [hP12]
        refine ⟨_, ?_, k + 1, rfl, rfl, MP_r hM, by rw [su_r (by decide)]; exact h14, by rw [su_r (by decide)]; exact h16, ⟨by omega, by omega⟩, fun j j0 j1 => ?_, rfl⟩
        · omega
        · rw [su_at]
          split
          · rfl
          · exact hj j j0 (by omega)
    · intro m S L τ hI
      rw [hP33] at hI
      obtain ⟨k, z, rfl, rfl, hM, hZ, hk, hks, hm⟩ := hI
      have t8 : τ 67 8 = σ 67 8 := hM.2 8 (by decide)
      have t73 : τ 73 = σ 73 := hM.1 73 (by decide) (by decide)
      simp only [sq_iconst, sq_jsr, sq_anewarray, sq_iload, sq_lload, sq_aload, sq_istore, sq_lstore, sq_astore, sq_iinc, sq_getfield, st_put0, st_put1, st_put3, sq_inv, sq_goto, sq_icmp, sq_ifc, sq_tsw, sq_iadd, sq_isub, sq_imul, sq_ineg, sq_idiv, sq_irem, sq_iand, sq_ior, sq_ixor, sq_ishl, sq_ishr, sq_iushr, sq_ladd, sq_lmul, sq_ldiv, sq_lrem, sq_land, sq_lor, sq_lshl, sq_lushr, sq_lcmp, sq_i2l, sq_l2i, sq_i2c, sq_i2b, sq_dupI, sq_dupR, sq_dup2, sq_pop, sq_iaload, sq_baload, sq_aaload, sq_iastore, sq_bastore, sq_alen, sq_ireturn, sq_lreturn, sq_return, wq_c, wq_n, wlq_s, lkp, tbl, dBk, nth, setL, canSet, cmpI, tk, swK, rdF, entL, catS, cat1, arg, rcv, ald, bld, aln, br, Ccopy, Cmax, Cmin, Cabs, List.take, List.drop, List.reverse, List.reverseAux, List.length, List.append, List.nil_append, List.cons_append, true_and, and_true, and_self, forall_const, true_implies, false_implies, not_true_eq_false, not_false_eq_true, Option.map, reduceCtorEq, reduceIte, or_true, true_or, false_or, or_false, false_and, and_false, List.map, List.append_nil, implies_true, yK, Nat.reduceBEq, beq_self_eq_true, Int.zero_ne_one, Nat.reduceDiv, Nat.reduceMod, Nat.reduceAdd, Nat.reduceSub, Nat.reduceMul, Nat.reduceEqDiff, Nat.reduceLeDiff, Int.reduceToNat, Int.reduceNeg, Int.reduceEq, Int.reduceLT, Int.reduceLE, Int.reduceNatCast, Int.reduceNatCast', Int.reduceAdd, Int.reduceSub, Int.reduceMul, eq_self, Prod.mk.injEq, A_X9_faultOf, V_X9_faultOf, B_X9_faultOf, Y_X9_faultOf, C_X9_go, shpT, rfsT, wjq_s, look, br, t8, t73]
      refine ⟨fun h => ?_, fun h => ⟨⟨by omega, by omega⟩, ⟨hso, h73 k (by omega) (by omega)⟩, z, hZ, rdk_I (by omega) k z hk, fun z' e T g1 g2 => ?_, fun e T g1 => ?_⟩⟩
      · have e : (σ 67 8).toNat = k := by omega
        have := hq.2 z (by rw [e]; exact hk) τ hM hZ
        rw [show (k : Int) = σ 67 8 by omega]
        exact this
      · rw [hP33]
        exact ⟨⟨by omega, by omega⟩, _, by omega, k + 1, z', rfl, rfl, MP_t hM g1, g2, by rw [rdk_s hk]; exact e, (by omega), rfl⟩
      · exact hq.1 k ⟨by omega, ⟨z, hk⟩, by rw [rdk_s hk]; exact e⟩ T (MP_t hM g1)
    · simp only [sq_iconst, sq_jsr, sq_anewarray, sq_iload, sq_lload, sq_aload, sq_istore, sq_lstore, sq_astore, sq_iinc, sq_getfield, st_put0, st_put1, st_put3, sq_inv, sq_goto, sq_icmp, sq_ifc, sq_tsw, sq_iadd, sq_isub, sq_imul, sq_ineg, sq_idiv, sq_irem, sq_iand, sq_ior, sq_ixor, sq_ishl, sq_ishr, sq_iushr, sq_ladd, sq_lmul, sq_ldiv, sq_lrem, sq_land, sq_lor, sq_lshl, sq_lushr, sq_lcmp, sq_i2l, sq_l2i, sq_i2c, sq_i2b, sq_dupI, sq_dupR, sq_dup2, sq_pop, sq_iaload, sq_baload, sq_aaload, sq_iastore, sq_bastore, sq_alen, sq_ireturn, sq_lreturn, sq_return, wq_c, wq_n, wlq_s, lkp, tbl, dBk, nth, setL, canSet, cmpI, tk, swK, rdF, entL, catS, cat1, arg, rcv, ald, bld, aln, br, Ccopy, Cmax, Cmin, Cabs, List.take, List.drop, List.reverse, List.reverseAux, List.length, List.append, List.nil_append, List.cons_append, true_and, and_true, and_self, forall_const, true_implies, false_implies, not_true_eq_false, not_false_eq_true, Option.map, reduceCtorEq, reduceIte, or_true, true_or, false_or, or_false, false_and, and_false, List.map, List.append_nil, implies_true, yK, Nat.reduceBEq, beq_self_eq_true, Int.zero_ne_one, Nat.reduceDiv, Nat.reduceMod, Nat.reduceAdd, Nat.reduceSub, Nat.reduceMul, Nat.reduceEqDiff, Nat.reduceLeDiff, Int.reduceToNat, Int.reduceNeg, Int.reduceEq, Int.reduceLT, Int.reduceLE, Int.reduceNatCast, Int.reduceNatCast', Int.reduceAdd, Int.reduceSub, Int.reduceMul, eq_self, Prod.mk.injEq, A_X9_faultOf, V_X9_faultOf, B_X9_faultOf, Y_X9_faultOf, C_X9_go, shpT, rfsT, wjq_s, look, br]
      rw [hP12]
      exact ⟨_, 0, rfl, rfl, MP_s (MP_s (MP_0 σ) (by decide)) (by decide), by rw [su_x (by decide), su_y], su_y, ⟨by omega, by omega⟩, fun j j0 j1 => by omega, rfl⟩

