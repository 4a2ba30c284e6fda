-- ===== the class: least cast; the reference: kept sets, castings, calendars =====
def CstR (F : Int → Prop) (db : Int → Int) (r : Int) : Prop := ∃ bs bd, BstC F db r bs bd
theorem CstR_uni {F F' : Int → Prop} {db db' : Int → Int} {r r' : Int} (hF : ∀ c, F c ↔ F' c) (hd : ∀ c, F c → db c = db' c) (h : CstR F db r) (h' : CstR F' db' r') : r = r' := by
  obtain ⟨bs, bd, h⟩ := h
  obtain ⟨bs', bd', h'⟩ := h'
  rcases h with ⟨h1, -, -, h2⟩ | ⟨h1, -, -, h2⟩
  · rcases h' with ⟨g1, -, -, g2⟩ | ⟨g1, -, -, g2⟩
    · rw [h1, g1]
    · exact absurd ((hF _).mpr g1) (h2 _)
  · rcases h' with ⟨g1, -, -, g2⟩ | ⟨g1, -, -, g2⟩
    · exact absurd ((hF _).mp h1) (g2 _)
    · have a := h2 r' ((hF _).mpr g1)
      have b := g2 r ((hF _).mp h1)
      have c := hd r h1
      have d := hd r' ((hF _).mpr g1)
      omega
theorem dbt_0 (J : Int) (ds : Int → Int) : dbt J ds 0 = 0 := by
  have : ∀ n : Nat, sumN (fun j => if bb 0 j = true then ds j else 0) n = 0 := by
    intro n
    induction n with
    | zero => rfl
    | succ n ih =>
      show sumN _ n + (if bb 0 n = true then ds n else 0) = 0
      rw [ih, bb_0, if_neg (by simp)]
      rfl
  exact this J.toNat
theorem Cf13 {σ : Sto} {j c d : Int} {κ : List AV → Sto → Prop} (h : castB 12 σ j c d κ) : Cfk 13 [vR 10, vI j, vI c, vI d] σ κ := h
def A_X3_leastCast : List (Nat × Ctr) := [(1, rcv 3 2 C_X3_weaveFixed), (5, Ccopy), (4, rcv 3 4 C_X3_castFrom)]
theorem e_X3_leastCast (o : OM) : Ev o Y_X3_leastCast 16 T_X3_leastCast A_X3_leastCast := ⟨rfl, List.forall_mem_cons.mpr ⟨Or.inl f_X3_32, List.forall_mem_cons.mpr ⟨Or.inl f_X3_36, List.forall_mem_cons.mpr ⟨Or.inl f_X3_39, List.forall_mem_cons.mpr ⟨Or.inl f_X3_15, List.forall_mem_cons.mpr ⟨Or.inl f_X3_23, fun _ h => absurd h List.not_mem_nil⟩⟩⟩⟩⟩, fun _ h => absurd h List.not_mem_nil, fun _ h => absurd h List.not_mem_nil, fun _ h => absurd h List.not_mem_nil, List.forall_mem_cons.mpr ⟨cl_X3_weaveFixed (s_X3_weaveFixed o) (by decide) (Or.inl w_833), List.forall_mem_cons.mpr ⟨cl_X3_castFrom (s_X3_castFrom o) (by decide) (Or.inl w_934), fun _ h => absurd h List.not_mem_nil⟩⟩, List.forall_mem_cons.mpr ⟨copy_ok w_869 w_590 w_589 w_19, fun _ h => absurd h List.not_mem_nil⟩⟩
def C_X3_leastCast : Ctr := fun A σ κ => match A with
  | [.inr (.inr (.inl 10))] => (NIc σ ∧ (∀ i, 0 ≤ i → i < σ 2 0 → 0 ≤ σ 20 i ∧ σ 20 i ≤ 99)) ∧ ∀ (r : Int) (τ : Sto), (∀ p : Nat, p ≠ 10 → p ≠ 49 → p ≠ 65 → ¬ (52 ≤ p ∧ p ≤ 64) → τ p = σ p) → CstR (FeaC σ) (dbt (σ 2 0) (σ 20)) r → κ [vI r] τ
  | _ => False
set_option maxRecDepth 20000 in
theorem s_X3_leastCast (o : OM) : Sound o Y_X3_leastCast 16 C_X3_leastCast := by
  intro Q A σ hA hC
  match A, hA, hC with
  | [.inr (.inr (.inl 10))], hA, hC =>
    obtain ⟨h0, hq⟩ : (NIc σ ∧ (∀ i, 0 ≤ i → i < σ 2 0 → 0 ≤ σ 20 i ∧ σ 20 i ≤ 99)) ∧ ∀ (r : Int) (τ : Sto), (∀ p : Nat, p ≠ 10 → p ≠ 49 → p ≠ 65 → ¬ (52 ≤ p ∧ p ≤ 64) → τ p = σ p) → CstR (FeaC σ) (dbt (σ 2 0) (σ 20)) r → Q [vI r] τ := hC
    refine at_wpl (lv := V_X3_leastCast) (B := B_X3_leastCast) (e_X3_leastCast o) k_X3_leastCast 2 0 [] _ σ ?_
    simp only [sq_iconst, sq_jsr, sq_anewarray, sq_iload, sq_lload, sq_aload, sq_istore, sq_lstore, sq_astore, sq_iinc, sq_getfield, st_put0, st_put1, st_put3, sq_inv, sq_goto, sq_icmp, sq_ifc, sq_tsw, sq_iadd, sq_isub, sq_imul, sq_ineg, sq_idiv, sq_irem, sq_iand, sq_ior, sq_ixor, sq_ishl, sq_ishr, sq_iushr, sq_ladd, sq_lmul, sq_ldiv, sq_lrem, sq_land, sq_lor, sq_lshl, sq_lushr, sq_lcmp, sq_i2l, sq_l2i, sq_i2c, sq_i2b, sq_dupI, sq_dupR, sq_dup2, sq_pop, sq_iaload, sq_baload, sq_aaload, sq_iastore, sq_bastore, sq_alen, sq_ireturn, sq_lreturn, sq_return, wq_c, wq_n, wlq_s, lkp, tbl, dBk, nth, setL, canSet, cmpI, tk, swK, rdF, entL, catS, cat1, arg, rcv, ald, bld, aln, br, Ccopy, Cmax, Cmin, Cabs, List.take, List.drop, List.reverse, List.reverseAux, List.length, List.append, List.nil_append, List.cons_append, true_and, and_true, and_self, forall_const, true_implies, false_implies, not_true_eq_false, not_false_eq_true, Option.map, reduceCtorEq, reduceIte, or_true, true_or, false_or, or_false, false_and, and_false, List.map, List.append_nil, implies_true, yK, Nat.reduceBEq, beq_self_eq_true, Int.zero_ne_one, Nat.reduceDiv, Nat.reduceMod, Nat.reduceAdd, Nat.reduceSub, Nat.reduceMul, Nat.reduceEqDiff, Nat.reduceLeDiff, Int.reduceToNat, Int.reduceNeg, Int.reduceEq, Int.reduceLT, Int.reduceLE, Int.reduceNatCast, Int.reduceNatCast', Int.reduceAdd, Int.reduceSub, Int.reduceMul, eq_self, Prod.mk.injEq, A_X3_leastCast, V_X3_leastCast, B_X3_leastCast, Y_X3_leastCast, C_X3_weaveFixed, C_X3_castFrom, shpT, rfsT]
    obtain ⟨hI, hds⟩ := h0
    have hJ := hI.2.1
    have l1 : lo38 (su (su (su σ 10 9 (-1)) 10 10 13) 10 11 (-1)) σ := fun p hp h10 => by rw [su_r h10, su_r h10, su_r h10]
    rw [KF_e l1]
    refine ⟨NIc_e l1 hI, fun τ h1 h2 => ⟨rfl, Int.le_refl _, ?_⟩, fun τ h1 h2 => ?_⟩
    · refine Cf13 ?_
      rw [show rfs 51 0 = 52 from rfl]
      have l2 : lo38 (cpS τ 49 0 52 0 64) σ := fun p hp h10 => by rw [cpS_ne p (by omega), h1 p (by omega) (by omega)]; exact l1 p hp h10
      have hp : castPG σ 0 0 0 (cpS τ 49 0 52 0 64 52) := by
        refine ⟨hI, ⟨by omega, by omega⟩, ⟨by omega, by omega⟩, fun i i0 i1 z => ?_, (dbt_0 _ _).symm, hds, NetK_same (sameK_of (fun a b lo hi => ⟨Or.inl, fun z => z.elim id ?_⟩)) (NetK_congr (fun i i' x y => cp_lev i i' x y) h2)⟩
        · rw [bb_0] at z
          exact absurd z (by simp)
        · rintro ⟨i, z0, z1, -⟩
          omega
      refine ⟨?_, castPG_e l2 hp, fun _ => False, ?_, fun τ2 f1 f2 => ?_⟩
      · rw [l2 2 (by decide) (by decide)]
        have : ((12 : Nat) : Int) = 12 := rfl
        omega
      · rw [cpS_ne 10 (by decide), h1 10 (by decide) (by decide)]
        exact Or.inl ⟨rfl, rfl, rfl, fun _ z => z⟩
      · rw [l2 2 (by decide) (by decide), l2 20 (by decide) (by decide), extC_e l2] at f2
        refine ⟨Or.inl rfl, hq _ τ2 (fun p p1 p2 p3 p4 => ?_) ⟨_, _, BstC_ext (fun x => ?_) f2⟩⟩
        · rw [f1 p p1 (by have : (0 : Int).toNat = 0 := rfl; omega), cpS_ne p (by omega), h1 p p2 p3, su_r p1, su_r p1, su_r p1]
        · exact ⟨fun z => z.elim False.elim (fun z => z.1), fun z => Or.inr ⟨z, fun i i0 i1 => by omega⟩⟩
    · have e9 : τ 10 9 = -1 := by rw [h1 10 (by decide) (by decide)]; rfl
      rw [e9]
      refine hq (-1) τ (fun p p1 p2 p3 p4 => by rw [h1 p p2 p3, su_r p1, su_r p1, su_r p1]) ⟨13, -1, Or.inl ⟨rfl, rfl, rfl, fun c z => ?_⟩⟩
      obtain ⟨-, -, M, m1, m2⟩ := z
      exact h2 M m1 (fun a b lo hi z => m2 a b lo hi (Or.inl z))
def A_X9_floats : List (Nat × Ctr) := []
theorem e_X9_floats (o : OM) : Ev o Y_X9_floats 0 T_X9_floats A_X9_floats := ⟨rfl, List.forall_mem_cons.mpr ⟨Or.inl f_X9_80, fun _ h => absurd h List.not_mem_nil⟩, List.forall_mem_cons.mpr ⟨⟨w_1529, by decide, by decide⟩, fun _ h => absurd h List.not_mem_nil⟩, fun _ h => absurd h List.not_mem_nil, fun _ h => absurd h List.not_mem_nil, fun _ h => absurd h List.not_mem_nil, fun _ h => absurd h List.not_mem_nil⟩
def C_X9_floats : Ctr := fun A σ κ => match A with
  | [.inr (.inr (.inl 67)), .inl a, .inl b] => (nd a ∧ nd b) ∧ br (σ 91 (a * 8 + b) = 10000000) κ σ
  | _ => False
set_option maxRecDepth 20000 in
theorem s_X9_floats (o : OM) : Sound o Y_X9_floats 0 C_X9_floats := by
  intro Q A σ hA hC
  match A, hA, hC with
  | [.inr (.inr (.inl 67)), .inl a, .inl b], hA, hC =>
    obtain ⟨h0, hq⟩ : (nd a ∧ nd b) ∧ br (σ 91 (a * 8 + b) = 10000000) Q σ := hC
    have hT : (σ 91 (a * 8 + b) = 10000000) → ∀ r_, r_ = 1 → Q [vI r_] σ := fun c_ r_ e => e ▸ hq.1 c_
    have hF : ¬ (σ 91 (a * 8 + b) = 10000000) → ∀ r_, r_ = 0 → Q [vI r_] σ := fun c_ r_ e => e ▸ hq.2 c_
    refine at_wpl (lv := V_X9_floats) (B := B_X9_floats) (e_X9_floats o) k_X9_floats 3 0 [] _ σ ?_
    simp only [sq_iconst, sq_jsr, sq_anewarray, sq_iload, sq_lload, sq_aload, sq_istore, sq_lstore, sq_astore, sq_iinc, sq_getfield, st_put0, st_put1, st_put3, sq_inv, sq_goto, sq_icmp, sq_ifc, sq_tsw, sq_iadd, sq_isub, sq_imul, sq_ineg, sq_idiv, sq_irem, sq_iand, sq_ior, sq_ixor, sq_ishl, sq_ishr, sq_iushr, sq_ladd, sq_lmul, sq_ldiv, sq_lrem, sq_land, sq_lor, sq_lshl, sq_lushr, sq_lcmp, sq_i2l, sq_l2i, sq_i2c, sq_i2b, sq_dupI, sq_dupR, sq_dup2, sq_pop, sq_iaload, sq_baload, sq_aaload, sq_iastore, sq_bastore, sq_alen, sq_ireturn, sq_lreturn, sq_return, wq_c, wq_n, wlq_s, lkp, tbl, dBk, nth, setL, canSet, cmpI, tk, swK, rdF, entL, catS, cat1, arg, rcv, ald, bld, aln, br, Ccopy, Cmax, Cmin, Cabs, List.take, List.drop, List.reverse, List.reverseAux, List.length, List.append, List.nil_append, List.cons_append, true_and, and_true, and_self, forall_const, true_implies, false_implies, not_true_eq_false, not_false_eq_true, Option.map, reduceCtorEq, reduceIte, or_true, true_or, false_or, or_false, false_and, and_false, List.map, List.append_nil, implies_true, yK, Nat.reduceBEq, beq_self_eq_true, Int.zero_ne_one, Nat.reduceDiv, Nat.reduceMod, Nat.reduceAdd, Nat.reduceSub, Nat.reduceMul, Nat.reduceEqDiff, Nat.reduceLeDiff, Int.reduceToNat, Int.reduceNeg, Int.reduceEq, Int.reduceLT, Int.reduceLE, Int.reduceNatCast, Int.reduceNatCast', Int.reduceAdd, Int.reduceSub, Int.reduceMul, eq_self, Prod.mk.injEq, A_X9_floats, V_X9_floats, B_X9_floats, Y_X9_floats, shpT, rfsT, m8]
    unfold nd at h0
    exact ⟨⟨by omega, by omega⟩, ⟨by omega, by omega⟩, ⟨by omega, by omega⟩, fun h => hF h _ rfl, fun h => hT (Classical.not_not.mp h) _ rfl⟩
def A_X9_keptSet : List (Nat × Ctr) := []
theorem e_X9_keptSet (o : OM) : Ev o Y_X9_keptSet 0 T_X9_keptSet A_X9_keptSet := ⟨rfl, List.forall_mem_cons.mpr ⟨Or.inl f_X9_325, List.forall_mem_cons.mpr ⟨Or.inl f_X9_68, fun _ h => absurd h List.not_mem_nil⟩⟩, fun _ h => absurd h List.not_mem_nil, fun _ h => absurd h List.not_mem_nil, fun _ h => absurd h List.not_mem_nil, fun _ h => absurd h List.not_mem_nil, fun _ h => absurd h List.not_mem_nil⟩
def C_X9_keptSet : Ctr := fun A σ κ => match A with
  | [.inr (.inr (.inl 67))] => (0 ≤ σ 67 32 ∧ σ 67 32 ≤ 12) ∧ ∀ r : Int, (0 ≤ r ∧ r < 4096) → (∀ i, 0 ≤ i → i < 32 → (bb r i = true ↔ i < σ 67 32 ∧ ¬ σ 87 i = 0)) → κ [vI r] σ
  | _ => False
set_option maxRecDepth 20000 in
theorem s_X9_keptSet (o : OM) : Sound o Y_X9_keptSet 0 C_X9_keptSet := by
  intro Q A σ hA hC
  match A, hA, hC with
  | [.inr (.inr (.inl 67))], hA, hC =>
    obtain ⟨h0, hq⟩ : (0 ≤ σ 67 32 ∧ σ 67 32 ≤ 12) ∧ ∀ r : Int, (0 ≤ r ∧ r < 4096) → (∀ i, 0 ≤ i → i < 32 → (bb r i = true ↔ i < σ 67 32 ∧ ¬ σ 87 i = 0)) → Q [vI r] σ := hC
    refine at_meth (lv := V_X9_keptSet) (B := B_X9_keptSet) (e_X9_keptSet o) k_X9_keptSet 5 [(4, fun m S L τ => ∃ j s : Int, S = [] ∧ L = [vR 67, vI s, vI j] ∧ τ = σ ∧ 0 ≤ j ∧ j ≤ σ 67 32 ∧ i32 s ∧ (∀ i, 0 ≤ i → i < 32 → (bb s i = true ↔ i < j ∧ ¬ σ 87 i = 0)) ∧ m = (12 - j).toNat)] (List.forall_mem_cons.mpr ⟨?_, fun _ h => absurd h List.not_mem_nil⟩) 0 [] _ σ ?_
    · rintro m S L τ ⟨j, s, rfl, rfl, rfl, j0, j1, si, hs, hm⟩
      simp only [sq_iconst, sq_jsr, sq_anewarray, sq_iload, sq_lload, sq_aload, sq_istore, sq_lstore, sq_astore, sq_iinc, sq_getfield, st_put0, st_put1, st_put3, sq_inv, sq_goto, sq_icmp, sq_ifc, sq_tsw, sq_iadd, sq_isub, sq_imul, sq_ineg, sq_idiv, sq_irem, sq_iand, sq_ior, sq_ixor, sq_ishl, sq_ishr, sq_iushr, sq_ladd, sq_lmul, sq_ldiv, sq_lrem, sq_land, sq_lor, sq_lshl, sq_lushr, sq_lcmp, sq_i2l, sq_l2i, sq_i2c, sq_i2b, sq_dupI, sq_dupR, sq_dup2, sq_pop, sq_iaload, sq_baload, sq_aaload, sq_iastore, sq_bastore, sq_alen, sq_ireturn, sq_lreturn, sq_return, wq_c, wq_n, wlq_s, lkp, tbl, dBk, nth, setL, canSet, cmpI, tk, swK, rdF, entL, catS, cat1, arg, rcv, ald, bld, aln, br, Ccopy, Cmax, Cmin, Cabs, List.take, List.drop, List.reverse, List.reverseAux, List.length, List.append, List.nil_append, List.cons_append, true_and, and_true, and_self, forall_const, true_implies, false_implies, not_true_eq_false, not_false_eq_true, Option.map, reduceCtorEq, reduceIte, or_true, true_or, false_or, or_false, false_and, and_false, List.map, List.append_nil, implies_true, yK, Nat.reduceBEq, beq_self_eq_true, Int.zero_ne_one, Nat.reduceDiv, Nat.reduceMod, Nat.reduceAdd, Nat.reduceSub, Nat.reduceMul, Nat.reduceEqDiff, Nat.reduceLeDiff, Int.reduceToNat, Int.reduceNeg, Int.reduceEq, Int.reduceLT, Int.reduceLE, Int.reduceNatCast, Int.reduceNatCast', Int.reduceAdd, Int.reduceSub, Int.reduceMul, eq_self, Prod.mk.injEq, A_X9_keptSet, V_X9_keptSet, B_X9_keptSet, Y_X9_keptSet, shpT, rfsT, wjq_s, look]
      refine ⟨fun h => ?_, fun h => ⟨⟨by omega, by omega⟩, fun h1 => ⟨⟨by omega, by omega⟩, _, ?_, j + 1, _, rfl, (by omega), (by omega), bOr_i _ _, fun i i0 i1 => ?_, rfl⟩, fun h1 => ⟨⟨by omega, by omega⟩, _, ?_, j + 1, _, rfl, (by omega), (by omega), bOr_i _ _, fun i i0 i1 => ?_, rfl⟩⟩⟩
      · have : j = τ 67 32 := by omega
        subst this
        have lt := bb_lt (n := 12) si (by omega) (fun i i0 i1 => by
          by_cases c : bb s i = true
          · have := ((hs i (by omega) i1).mp c).1
            omega
          · simpa using c)
        exact hq s ⟨lt.1, by have := lt.2; omega⟩ hs
      · omega
      · rw [bb_or, bb_0, Bool.or_false, hs i i0 i1]
        constructor
        · rintro ⟨z1, z2⟩; exact ⟨by omega, z2⟩
        · rintro ⟨z1, z2⟩
          refine ⟨?_, z2⟩
          by_cases c : i = j
          · rw [c] at z2; exact absurd h1 z2
          · omega
      · omega
      · rw [bb_or, bb_shl j0 (by omega) i0 i1, Bool.or_eq_true, hs i i0 i1, decide_eq_true_eq]
        constructor
        · rintro (⟨z1, z2⟩ | e)
          · exact ⟨by omega, z2⟩
          · rw [e]; exact ⟨by omega, h1⟩
        · rintro ⟨z1, z2⟩
          by_cases c : i = j
          · exact Or.inr c
          · exact Or.inl ⟨by omega, z2⟩
    · simp only [sq_iconst, sq_jsr, sq_anewarray, sq_iload, sq_lload, sq_aload, sq_istore, sq_lstore, sq_astore, sq_iinc, sq_getfield, st_put0, st_put1, st_put3, sq_inv, sq_goto, sq_icmp, sq_ifc, sq_tsw, sq_iadd, sq_isub, sq_imul, sq_ineg, sq_idiv, sq_irem, sq_iand, sq_ior, sq_ixor, sq_ishl, sq_ishr, sq_iushr, sq_ladd, sq_lmul, sq_ldiv, sq_lrem, sq_land, sq_lor, sq_lshl, sq_lushr, sq_lcmp, sq_i2l, sq_l2i, sq_i2c, sq_i2b, sq_dupI, sq_dupR, sq_dup2, sq_pop, sq_iaload, sq_baload, sq_aaload, sq_iastore, sq_bastore, sq_alen, sq_ireturn, sq_lreturn, sq_return, wq_c, wq_n, wlq_s, lkp, tbl, dBk, nth, setL, canSet, cmpI, tk, swK, rdF, entL, catS, cat1, arg, rcv, ald, bld, aln, br, Ccopy, Cmax, Cmin, Cabs, List.take, List.drop, List.reverse, List.reverseAux, List.length, List.append, List.nil_append, List.cons_append, true_and, and_true, and_self, forall_const, true_implies, false_implies, not_true_eq_false, not_false_eq_true, Option.map, reduceCtorEq, reduceIte, or_true, true_or, false_or, or_false, false_and, and_false, List.map, List.append_nil, implies_true, yK, Nat.reduceBEq, beq_self_eq_true, Int.zero_ne_one, Nat.reduceDiv, Nat.reduceMod, Nat.reduceAdd, Nat.reduceSub, Nat.reduceMul, Nat.reduceEqDiff, Nat.reduceLeDiff, Int.reduceToNat, Int.reduceNeg, Int.reduceEq, Int.reduceLT, Int.reduceLE, Int.reduceNatCast, Int.reduceNatCast', Int.reduceAdd, Int.reduceSub, Int.reduceMul, eq_self, Prod.mk.injEq, A_X9_keptSet, V_X9_keptSet, B_X9_keptSet, Y_X9_keptSet, shpT, rfsT, wjq_s, look]
      exact ⟨_, 0, 0, rfl, (by omega), h0.1, i32_0, fun i i0 i1 => ⟨fun z => by rw [bb_0] at z; exact absurd z (by simp), fun z => by omega⟩, rfl⟩
theorem KM_S {σ : Sto} {S S' : Int → Prop} (h : ∀ j, 0 ≤ j → j < σ 67 32 → (S j ↔ S' j)) : KM σ S = KM σ S' := by
  funext a b lo hi
  refine propext ?_
  unfold KM KMd orK
  have : KJ S (σ 67 32) (σ 82) (σ 83) (σ 84) (σ 85) a b lo hi ↔ KJ S' (σ 67 32) (σ 82) (σ 83) (σ 84) (σ 85) a b lo hi := ⟨fun ⟨j, z0, z1, z2, z3⟩ => ⟨j, z0, z1, (h j z0 z1).mp z2, z3⟩, fun ⟨j, z0, z1, z2, z3⟩ => ⟨j, z0, z1, (h j z0 z1).mpr z2, z3⟩⟩
  rw [this]
def ktM (σ : Sto) : Int → Prop := fun j => ¬ σ 87 j = 0
def A_X9_layKept : List (Nat × Ctr) := [(1, rcv 9 3 C_X9_keptSet), (2, rcv 9 8 C_X9_layNet)]
theorem e_X9_layKept (o : OM) : Ev o Y_X9_layKept 4 T_X9_layKept A_X9_layKept := ⟨rfl, fun _ h => absurd h List.not_mem_nil, fun _ h => absurd h List.not_mem_nil, fun _ h => absurd h List.not_mem_nil, fun _ h => absurd h List.not_mem_nil, List.forall_mem_cons.mpr ⟨cl_X9_keptSet (s_X9_keptSet o) (by decide) (Or.inl w_1521), List.forall_mem_cons.mpr ⟨cl_X9_layNet (s_X9_layNet o) (by decide) (Or.inl w_1525), fun _ h => absurd h List.not_mem_nil⟩⟩, fun _ h => absurd h List.not_mem_nil⟩
def C_X9_layKept : Ctr := fun A σ κ => match A with
  | [.inr (.inr (.inl 67))] => (NIm σ) ∧ ∀ (r : Int) (τ : Sto), (∀ p : Nat, p ≠ 91 → τ p = σ p) → LayP (KM σ (ktM σ)) (τ 91) r → κ [vI r] τ
  | _ => False
set_option maxRecDepth 20000 in
theorem s_X9_layKept (o : OM) : Sound o Y_X9_layKept 4 C_X9_layKept := by
  intro Q A σ hA hC
  match A, hA, hC with
  | [.inr (.inr (.inl 67))], hA, hC =>
    obtain ⟨h0, hq⟩ : (NIm σ) ∧ ∀ (r : Int) (τ : Sto), (∀ p : Nat, p ≠ 91 → τ p = σ p) → LayP (KM σ (ktM σ)) (τ 91) r → Q [vI r] τ := hC
    refine at_wpl (lv := V_X9_layKept) (B := B_X9_layKept) (e_X9_layKept o) k_X9_layKept 1 0 [] _ σ ?_
    simp only [sq_iconst, sq_jsr, sq_anewarray, sq_iload, sq_lload, sq_aload, sq_istore, sq_lstore, sq_astore, sq_iinc, sq_getfield, st_put0, st_put1, st_put3, sq_inv, sq_goto, sq_icmp, sq_ifc, sq_tsw, sq_iadd, sq_isub, sq_imul, sq_ineg, sq_idiv, sq_irem, sq_iand, sq_ior, sq_ixor, sq_ishl, sq_ishr, sq_iushr, sq_ladd, sq_lmul, sq_ldiv, sq_lrem, sq_land, sq_lor, sq_lshl, sq_lushr, sq_lcmp, sq_i2l, sq_l2i, sq_i2c, sq_i2b, sq_dupI, sq_dupR, sq_dup2, sq_pop, sq_iaload, sq_baload, sq_aaload, sq_iastore, sq_bastore, sq_alen, sq_ireturn, sq_lreturn, sq_return, wq_c, wq_n, wlq_s, lkp, tbl, dBk, nth, setL, canSet, cmpI, tk, swK, rdF, entL, catS, cat1, arg, rcv, ald, bld, aln, br, Ccopy, Cmax, Cmin, Cabs, List.take, List.drop, List.reverse, List.reverseAux, List.length, List.append, List.nil_append, List.cons_append, true_and, and_true, and_self, forall_const, true_implies, false_implies, not_true_eq_false, not_false_eq_true, Option.map, reduceCtorEq, reduceIte, or_true, true_or, false_or, or_false, false_and, and_false, List.map, List.append_nil, implies_true, yK, Nat.reduceBEq, beq_self_eq_true, Int.zero_ne_one, Nat.reduceDiv, Nat.reduceMod, Nat.reduceAdd, Nat.reduceSub, Nat.reduceMul, Nat.reduceEqDiff, Nat.reduceLeDiff, Int.reduceToNat, Int.reduceNeg, Int.reduceEq, Int.reduceLT, Int.reduceLE, Int.reduceNatCast, Int.reduceNatCast', Int.reduceAdd, Int.reduceSub, Int.reduceMul, eq_self, Prod.mk.injEq, A_X9_layKept, V_X9_layKept, B_X9_layKept, Y_X9_layKept, C_X9_keptSet, C_X9_layNet, shpT, rfsT]
    refine ⟨h0.2.1, fun r r0 hr => ⟨h0, fun r1 τ h1 h2 => ?_⟩⟩
    have e : KM σ (inS r) = KM σ (ktM σ) := KM_S (fun j j0 j1 => by
      have := h0.2.1
      show (bAnd (bShr r j) 1 = 1) ↔ _
      rw [shr_bit1 j0 (by omega), hr j j0 (by omega)]
      exact ⟨fun z => z.2, fun z => ⟨j1, z⟩⟩)
    rw [e] at h2
    refine ⟨?_, hq r1 τ h1 h2⟩
    rcases h2.1 with ⟨e, -⟩ | ⟨e, -⟩
    · exact Or.inr e
    · exact Or.inl e
def A_X9_manyOf : List (Nat × Ctr) := []
theorem e_X9_manyOf (o : OM) : Ev o Y_X9_manyOf 0 T_X9_manyOf A_X9_manyOf := ⟨rfl, List.forall_mem_cons.mpr ⟨Or.inl f_X9_325, fun _ h => absurd h List.not_mem_nil⟩, fun _ h => absurd h List.not_mem_nil, fun _ h => absurd h List.not_mem_nil, fun _ h => absurd h List.not_mem_nil, fun _ h => absurd h List.not_mem_nil, fun _ h => absurd h List.not_mem_nil⟩
def C_X9_manyOf : Ctr := fun A σ κ => match A with
  | [.inr (.inr (.inl 67)), .inl set] => (0 ≤ σ 67 32 ∧ σ 67 32 ≤ 12) ∧ κ [vI (sumI (fun j => if bb set j = true then 1 else 0) (σ 67 32))] σ
  | _ => False
set_option maxRecDepth 20000 in
theorem s_X9_manyOf (o : OM) : Sound o Y_X9_manyOf 0 C_X9_manyOf := by
  intro Q A σ hA hC
  match A, hA, hC with
  | [.inr (.inr (.inl 67)), .inl set], hA, hC =>
    obtain ⟨h0, hq⟩ : (0 ≤ σ 67 32 ∧ σ 67 32 ≤ 12) ∧ Q [vI (sumI (fun j => if bb set j = true then 1 else 0) (σ 67 32))] σ := hC
    have hQ : ∀ r_ τ, r_ = (sumI (fun j => if bb set j = true then 1 else 0) (σ 67 32)) → τ = (σ) → Q [vI r_] τ := fun r_ τ e e2 => e ▸ e2 ▸ hq
    refine at_meth (lv := V_X9_manyOf) (B := B_X9_manyOf) (e_X9_manyOf o) k_X9_manyOf 3 [(4, fun m S L τ => ∃ j : Int, S = [] ∧ L = [vR 67, vI set, vI (sumI (fun j => if bb set j = true then 1 else 0) j), vI j] ∧ τ = σ ∧ 0 ≤ j ∧ j ≤ σ 67 32 ∧ m = (12 - j).toNat)] (List.forall_mem_cons.mpr ⟨?_, fun _ h => absurd h List.not_mem_nil⟩) 0 [] _ σ ?_
    · rintro m S L τ ⟨j, rfl, rfl, rfl, j0, j1, hm⟩
      simp only [sq_iconst, sq_jsr, sq_anewarray, sq_iload, sq_lload, sq_aload, sq_istore, sq_lstore, sq_astore, sq_iinc, sq_getfield, st_put0, st_put1, st_put3, sq_inv, sq_goto, sq_icmp, sq_ifc, sq_tsw, sq_iadd, sq_isub, sq_imul, sq_ineg, sq_idiv, sq_irem, sq_iand, sq_ior, sq_ixor, sq_ishl, sq_ishr, sq_iushr, sq_ladd, sq_lmul, sq_ldiv, sq_lrem, sq_land, sq_lor, sq_lshl, sq_lushr, sq_lcmp, sq_i2l, sq_l2i, sq_i2c, sq_i2b, sq_dupI, sq_dupR, sq_dup2, sq_pop, sq_iaload, sq_baload, sq_aaload, sq_iastore, sq_bastore, sq_alen, sq_ireturn, sq_lreturn, sq_return, wq_c, wq_n, wlq_s, lkp, tbl, dBk, nth, setL, canSet, cmpI, tk, swK, rdF, entL, catS, cat1, arg, rcv, ald, bld, aln, br, Ccopy, Cmax, Cmin, Cabs, List.take, List.drop, List.reverse, List.reverseAux, List.length, List.append, List.nil_append, List.cons_append, true_and, and_true, and_self, forall_const, true_implies, false_implies, not_true_eq_false, not_false_eq_true, Option.map, reduceCtorEq, reduceIte, or_true, true_or, false_or, or_false, false_and, and_false, List.map, List.append_nil, implies_true, yK, Nat.reduceBEq, beq_self_eq_true, Int.zero_ne_one, Nat.reduceDiv, Nat.reduceMod, Nat.reduceAdd, Nat.reduceSub, Nat.reduceMul, Nat.reduceEqDiff, Nat.reduceLeDiff, Int.reduceToNat, Int.reduceNeg, Int.reduceEq, Int.reduceLT, Int.reduceLE, Int.reduceNatCast, Int.reduceNatCast', Int.reduceAdd, Int.reduceSub, Int.reduceMul, eq_self, Prod.mk.injEq, A_X9_manyOf, V_X9_manyOf, B_X9_manyOf, Y_X9_manyOf, shpT, rfsT, wjq_s, look]
      have hle := sumI_le (f := fun j => if bb set j = true then (1 : Int) else 0) (lo := 0) (hi := 1) j0 (fun i _ _ => by show (0 : Int) ≤ (if bb set i = true then 1 else 0) ∧ (if bb set i = true then (1 : Int) else 0) ≤ 1; split <;> omega)
      refine ⟨fun h => ?_, fun h => ?_⟩
      · have : j = τ 67 32 := by omega
        exact hQ _ _ (by rw [this]) rfl
      · rw [shr_bit j0 (by omega)]
        have : (0 : Int) ≤ (if bb set j = true then 1 else 0) ∧ (if bb set j = true then (1 : Int) else 0) ≤ 1 := by split <;> omega
        refine ⟨⟨by omega, by omega⟩, ⟨by omega, by omega⟩, _, ?_, j + 1, by rw [sumI_s _ j0], (by omega), (by omega), rfl⟩
        omega
    · simp only [sq_iconst, sq_jsr, sq_anewarray, sq_iload, sq_lload, sq_aload, sq_istore, sq_lstore, sq_astore, sq_iinc, sq_getfield, st_put0, st_put1, st_put3, sq_inv, sq_goto, sq_icmp, sq_ifc, sq_tsw, sq_iadd, sq_isub, sq_imul, sq_ineg, sq_idiv, sq_irem, sq_iand, sq_ior, sq_ixor, sq_ishl, sq_ishr, sq_iushr, sq_ladd, sq_lmul, sq_ldiv, sq_lrem, sq_land, sq_lor, sq_lshl, sq_lushr, sq_lcmp, sq_i2l, sq_l2i, sq_i2c, sq_i2b, sq_dupI, sq_dupR, sq_dup2, sq_pop, sq_iaload, sq_baload, sq_aaload, sq_iastore, sq_bastore, sq_alen, sq_ireturn, sq_lreturn, sq_return, wq_c, wq_n, wlq_s, lkp, tbl, dBk, nth, setL, canSet, cmpI, tk, swK, rdF, entL, catS, cat1, arg, rcv, ald, bld, aln, br, Ccopy, Cmax, Cmin, Cabs, List.take, List.drop, List.reverse, List.reverseAux, List.length, List.append, List.nil_append, List.cons_append, true_and, and_true, and_self, forall_const, true_implies, false_implies, not_true_eq_false, not_false_eq_true, Option.map, reduceCtorEq, reduceIte, or_true, true_or, false_or, or_false, false_and, and_false, List.map, List.append_nil, implies_true, yK, Nat.reduceBEq, beq_self_eq_true, Int.zero_ne_one, Nat.reduceDiv, Nat.reduceMod, Nat.reduceAdd, Nat.reduceSub, Nat.reduceMul, Nat.reduceEqDiff, Nat.reduceLeDiff, Int.reduceToNat, Int.reduceNeg, Int.reduceEq, Int.reduceLT, Int.reduceLE, Int.reduceNatCast, Int.reduceNatCast', Int.reduceAdd, Int.reduceSub, Int.reduceMul, eq_self, Prod.mk.injEq, A_X9_manyOf, V_X9_manyOf, B_X9_manyOf, Y_X9_manyOf, shpT, rfsT, wjq_s, look]
      exact ⟨_, 0, rfl, (by omega), h0.1, rfl⟩
def A_X9_doubtOf : List (Nat × Ctr) := []
theorem e_X9_doubtOf (o : OM) : Ev o Y_X9_doubtOf 0 T_X9_doubtOf A_X9_doubtOf := ⟨rfl, List.forall_mem_cons.mpr ⟨Or.inl f_X9_325, List.forall_mem_cons.mpr ⟨Or.inl f_X9_65, fun _ h => absurd h List.not_mem_nil⟩⟩, fun _ h => absurd h List.not_mem_nil, fun _ h => absurd h List.not_mem_nil, fun _ h => absurd h List.not_mem_nil, fun _ h => absurd h List.not_mem_nil, fun _ h => absurd h List.not_mem_nil⟩
def C_X9_doubtOf : Ctr := fun A σ κ => match A with
  | [.inr (.inr (.inl 67)), .inl set] => ((0 ≤ σ 67 32 ∧ σ 67 32 ≤ 12) ∧ (∀ i, 0 ≤ i → i < σ 67 32 → 0 ≤ σ 86 i ∧ σ 86 i ≤ 99)) ∧ κ [vI (dbt (σ 67 32) (σ 86) set)] σ
  | _ => False
set_option maxRecDepth 20000 in
theorem s_X9_doubtOf (o : OM) : Sound o Y_X9_doubtOf 0 C_X9_doubtOf := by
  intro Q A σ hA hC
  match A, hA, hC with
  | [.inr (.inr (.inl 67)), .inl set], hA, hC =>
    obtain ⟨h0, hq⟩ : ((0 ≤ σ 67 32 ∧ σ 67 32 ≤ 12) ∧ (∀ i, 0 ≤ i → i < σ 67 32 → 0 ≤ σ 86 i ∧ σ 86 i ≤ 99)) ∧ Q [vI (dbt (σ 67 32) (σ 86) set)] σ := hC
    have hQ : ∀ r_ τ, r_ = (dbt (σ 67 32) (σ 86) set) → τ = (σ) → Q [vI r_] τ := fun r_ τ e e2 => e ▸ e2 ▸ hq
    obtain ⟨hJ, hd⟩ := h0
    refine at_meth (lv := V_X9_doubtOf) (B := B_X9_doubtOf) (e_X9_doubtOf o) k_X9_doubtOf 5 [(4, fun m S L τ => ∃ j : Int, S = [] ∧ L = [vR 67, vI set, vI (dbt j (σ 86) set), vI j] ∧ τ = σ ∧ 0 ≤ j ∧ j ≤ σ 67 32 ∧ m = (12 - j).toNat)] (List.forall_mem_cons.mpr ⟨?_, fun _ h => absurd h List.not_mem_nil⟩) 0 [] _ σ ?_
    · rintro m S L τ ⟨j, rfl, rfl, rfl, j0, j1, hm⟩
      simp only [sq_iconst, sq_jsr, sq_anewarray, sq_iload, sq_lload, sq_aload, sq_istore, sq_lstore, sq_astore, sq_iinc, sq_getfield, st_put0, st_put1, st_put3, sq_inv, sq_goto, sq_icmp, sq_ifc, sq_tsw, sq_iadd, sq_isub, sq_imul, sq_ineg, sq_idiv, sq_irem, sq_iand, sq_ior, sq_ixor, sq_ishl, sq_ishr, sq_iushr, sq_ladd, sq_lmul, sq_ldiv, sq_lrem, sq_land, sq_lor, sq_lshl, sq_lushr, sq_lcmp, sq_i2l, sq_l2i, sq_i2c, sq_i2b, sq_dupI, sq_dupR, sq_dup2, sq_pop, sq_iaload, sq_baload, sq_aaload, sq_iastore, sq_bastore, sq_alen, sq_ireturn, sq_lreturn, sq_return, wq_c, wq_n, wlq_s, lkp, tbl, dBk, nth, setL, canSet, cmpI, tk, swK, rdF, entL, catS, cat1, arg, rcv, ald, bld, aln, br, Ccopy, Cmax, Cmin, Cabs, List.take, List.drop, List.reverse, List.reverseAux, List.length, List.append, List.nil_append, List.cons_append, true_and, and_true, and_self, forall_const, true_implies, false_implies, not_true_eq_false, not_false_eq_true, Option.map, reduceCtorEq, reduceIte, or_true, true_or, false_or, or_false, false_and, and_false, List.map, List.append_nil, implies_true, yK, Nat.reduceBEq, beq_self_eq_true, Int.zero_ne_one, Nat.reduceDiv, Nat.reduceMod, Nat.reduceAdd, Nat.reduceSub, Nat.reduceMul, Nat.reduceEqDiff, Nat.reduceLeDiff, Int.reduceToNat, Int.reduceNeg, Int.reduceEq, Int.reduceLT, Int.reduceLE, Int.reduceNatCast, Int.reduceNatCast', Int.reduceAdd, Int.reduceSub, Int.reduceMul, eq_self, Prod.mk.injEq, A_X9_doubtOf, V_X9_doubtOf, B_X9_doubtOf, Y_X9_doubtOf, shpT, rfsT, wjq_s, look]
      have hle := sumI_le (f := fun i => if bb set i = true then τ 86 i else 0) (lo := 0) (hi := 99) j0 (fun i i0 i1 => by
        have := hd i i0 (by omega)
        show 0 ≤ (if bb set i = true then τ 86 i else 0) ∧ (if bb set i = true then τ 86 i else 0) ≤ 99
        split <;> omega)
      have de : dbt j (τ 86) set = sumI (fun i => if bb set i = true then τ 86 i else 0) j := rfl
      have ds : dbt (j + 1) (τ 86) set = dbt j (τ 86) set + (if bb set j = true then τ 86 j else 0) := sumI_s _ j0
      refine ⟨fun h => ?_, fun h => ?_⟩
      · have : j = τ 67 32 := by omega
        exact hQ _ _ (by rw [this]) rfl
      · rw [shr_bit1 j0 (by omega)]
        have dj := hd j j0 (by omega)
        refine ⟨fun h1 => ⟨⟨by omega, by omega⟩, ⟨by omega, by omega⟩, _, ?_, j + 1, ?_, (by omega), (by omega), rfl⟩, fun h1 => ⟨⟨by omega, by omega⟩, ⟨by omega, by omega⟩, ⟨by omega, by omega⟩, _, ?_, j + 1, ?_, (by omega), (by omega), rfl⟩⟩
        · omega
        · rw [ds, if_neg h1]
        · omega
        · rw [ds, if_pos (Classical.not_not.mp h1)]
    · simp only [sq_iconst, sq_jsr, sq_anewarray, sq_iload, sq_lload, sq_aload, sq_istore, sq_lstore, sq_astore, sq_iinc, sq_getfield, st_put0, st_put1, st_put3, sq_inv, sq_goto, sq_icmp, sq_ifc, sq_tsw, sq_iadd, sq_isub, sq_imul, sq_ineg, sq_idiv, sq_irem, sq_iand, sq_ior, sq_ixor, sq_ishl, sq_ishr, sq_iushr, sq_ladd, sq_lmul, sq_ldiv, sq_lrem, sq_land, sq_lor, sq_lshl, sq_lushr, sq_lcmp, sq_i2l, sq_l2i, sq_i2c, sq_i2b, sq_dupI, sq_dupR, sq_dup2, sq_pop, sq_iaload, sq_baload, sq_aaload, sq_iastore, sq_bastore, sq_alen, sq_ireturn, sq_lreturn, sq_return, wq_c, wq_n, wlq_s, lkp, tbl, dBk, nth, setL, canSet, cmpI, tk, swK, rdF, entL, catS, cat1, arg, rcv, ald, bld, aln, br, Ccopy, Cmax, Cmin, Cabs, List.take, List.drop, List.reverse, List.reverseAux, List.length, List.append, List.nil_append, List.cons_append, true_and, and_true, and_self, forall_const, true_implies, false_implies, not_true_eq_false, not_false_eq_true, Option.map, reduceCtorEq, reduceIte, or_true, true_or, false_or, or_false, false_and, and_false, List.map, List.append_nil, implies_true, yK, Nat.reduceBEq, beq_self_eq_true, Int.zero_ne_one, Nat.reduceDiv, Nat.reduceMod, Nat.reduceAdd, Nat.reduceSub, Nat.reduceMul, Nat.reduceEqDiff, Nat.reduceLeDiff, Int.reduceToNat, Int.reduceNeg, Int.reduceEq, Int.reduceLT, Int.reduceLE, Int.reduceNatCast, Int.reduceNatCast', Int.reduceAdd, Int.reduceSub, Int.reduceMul, eq_self, Prod.mk.injEq, A_X9_doubtOf, V_X9_doubtOf, B_X9_doubtOf, Y_X9_doubtOf, shpT, rfsT, wjq_s, look]
      exact ⟨_, 0, rfl, (by omega), hJ.1, rfl⟩
theorem shl1 {J : Int} (h0 : 0 ≤ J) (h1 : J ≤ 12) : bShl 1 J = 2 ^ J.toNat := by
  have : J = 0 ∨ J = 1 ∨ J = 2 ∨ J = 3 ∨ J = 4 ∨ J = 5 ∨ J = 6 ∨ J = 7 ∨ J = 8 ∨ J = 9 ∨ J = 10 ∨ J = 11 ∨ J = 12 := by omega
  rcases this with rfl | rfl | rfl | rfl | rfl | rfl | rfl | rfl | rfl | rfl | rfl | rfl | rfl <;> decide
theorem p2J {J : Int} (h0 : 0 ≤ J) (h1 : J ≤ 12) : (1 : Int) ≤ 2 ^ J.toNat ∧ (2 : Int) ^ J.toNat ≤ 4096 := by
  have : J = 0 ∨ J = 1 ∨ J = 2 ∨ J = 3 ∨ J = 4 ∨ J = 5 ∨ J = 6 ∨ J = 7 ∨ J = 8 ∨ J = 9 ∨ J = 10 ∨ J = 11 ∨ J = 12 := by omega
  rcases this with rfl | rfl | rfl | rfl | rfl | rfl | rfl | rfl | rfl | rfl | rfl | rfl | rfl <;> decide
theorem sumN_z {f : Int → Int} (n : Nat) : ∀ d : Nat, (∀ i : Int, n ≤ i → i < n + d → f i = 0) → sumN f (n + d) = sumN f n
  | 0, _ => rfl
  | d + 1, h => by
    have ih := sumN_z n d (fun i a b => h i a (by omega))
    show sumN f (n + d) + f ((n + d : Nat) : Int) = _
    rw [ih, h _ (by omega) (by omega)]
    omega
theorem popJ {J c : Int} (h0 : 0 ≤ J) (h1 : J ≤ 12) (h : ∀ i, J ≤ i → i < 32 → bb c i = false) : sumI (fun j => if bb c j = true then 1 else 0) J = pop c := by
  have := sumN_z (f := fun j => if bb c j = true then 1 else 0) J.toNat (12 - J.toNat) (fun i a b => by
    show (if bb c i = true then (1 : Int) else 0) = 0
    rw [h i (by omega) (by omega), if_neg (by simp)])
  rw [show J.toNat + (12 - J.toNat) = 12 by omega] at this
  exact this.symm
def FeaM (σ : Sto) (c : Int) : Prop := (0 ≤ c ∧ c < 4096) ∧ (∀ i, 0 ≤ i → i < 32 → bb c i = true → i < σ 67 32 ∧ ktM σ i) ∧ ∃ M, Base M ∧ AllC (KM σ (fun j => ktM σ j ∧ bb c j = false)) M
theorem andn_0 {s k : Int} : bAnd s (bXor k (-1)) = 0 ↔ ∀ i, 0 ≤ i → i < 32 → bb s i = true → bb k i = true := by
  constructor
  · intro h i i0 i1 z
    have := bb_and s (bXor k (-1)) i
    rw [h, bb_0, bb_not k i i1, z] at this
    cases e : bb k i
    · rw [e] at this; simp at this
    · rfl
  · intro h
    refine bb_ext (bAnd_i _ _) i32_0 (fun i i0 i1 => ?_)
    rw [bb_and, bb_0, bb_not k i i1]
    cases e : bb s i
    · rfl
    · rw [h i i0 i1 e]; rfl
theorem NIm_e {τ σ : Sto} (h : ∀ p : Nat, p ≠ 91 → τ p = σ p) (hI : NIm σ) : NIm τ := by
  unfold NIm at *
  simp only [h 67 (by decide), h 69 (by decide), h 70 (by decide), h 72 (by decide), h 74 (by decide), h 82 (by decide), h 83 (by decide), h 84 (by decide), h 85 (by decide), h 88 (by decide), h 89 (by decide), h 90 (by decide)]
  exact hI
theorem KM_e {τ σ : Sto} (h : ∀ p : Nat, p ≠ 91 → τ p = σ p) : KM τ = KM σ := by
  funext S
  unfold KM KMd
  simp only [h 67 (by decide), h 69 (by decide), h 70 (by decide), h 72 (by decide), h 82 (by decide), h 83 (by decide), h 84 (by decide), h 85 (by decide), h 88 (by decide), h 89 (by decide), h 90 (by decide)]
theorem LayP_yes {K : Kn} {g : Int → Int} {r : Int} (h : LayP K g r) : ¬ r = 0 ↔ ∃ M, Base M ∧ AllC K M := by
  rcases h.1 with ⟨e, c, -⟩ | ⟨e, c⟩
  · rw [e]
    exact ⟨fun _ => ⟨_, c.1, c.2.1⟩, fun _ => by omega⟩
  · rw [e]
    exact ⟨fun z => absurd rfl z, fun ⟨M, a, b⟩ => absurd b (c M a)⟩
theorem Cst_a {F : Int → Prop} {db : Int → Int} {b s : Int} (hB : CstR (fun c => F c ∧ c < s) db b) (hs : ¬ F s) : CstR (fun c => F c ∧ c < s + 1) db b := by
  obtain ⟨bs, bd, h⟩ := hB
  refine ⟨bs, bd, BstC_ext (fun c => ⟨fun z => ⟨z.1, by omega⟩, fun z => ⟨z.1, ?_⟩⟩) h⟩
  by_cases e : c = s
  · rw [e] at z; exact absurd z.1 hs
  · have := z.2; omega
theorem Cst_x {F : Int → Prop} {s : Int} (hs : F s) : ∀ c, ((F c ∧ c < s) ∨ c = s) ↔ (F c ∧ c < s + 1) := by
  intro c
  constructor
  · rintro (z | rfl)
    · exact ⟨z.1, by omega⟩
    · exact ⟨hs, by omega⟩
  · rintro ⟨z1, z2⟩
    by_cases e : c = s
    · exact Or.inr e
    · exact Or.inl ⟨z1, by omega⟩
theorem Cst_b {F : Int → Prop} {db : Int → Int} {b s : Int} (hB : CstR (fun c => F c ∧ c < s) db b) (hs : F s) (h : b = -1 ∨ pop s < pop b ∨ (pop s = pop b ∧ db b < db s)) (s0 : 0 ≤ s) (hF0 : ∀ c, F c → 0 ≤ c) : CstR (fun c => F c ∧ c < s + 1) db s := by
  obtain ⟨bs, bd, hb⟩ := hB
  have h1 := BstC_one (x := s) hb
  have px := pop_in s
  rw [if_pos (by
    rcases hb with ⟨e1, e2, e3, e4⟩ | ⟨e1, e2, e3, e4⟩
    · omega
    · have := e1.2
      by_cases z : b = -1
      · have e5 := hF0 b e1.1
        omega
      · omega)] at h1
  exact ⟨_, _, BstC_ext (Cst_x hs) h1⟩
theorem Cst_c {F : Int → Prop} {db : Int → Int} {b s : Int} (hB : CstR (fun c => F c ∧ c < s) db b) (h : ¬ (b = -1 ∨ pop s < pop b ∨ (pop s = pop b ∧ db b < db s))) : CstR (fun c => F c ∧ c < s + 1) db b := by
  by_cases hs : F s
  · obtain ⟨bs, bd, hb⟩ := hB
    have h1 := BstC_one (x := s) hb
    rw [if_neg (by
      rcases hb with ⟨e1, e2, e3, e4⟩ | ⟨e1, e2, e3, e4⟩
      · omega
      · have := e1.2
        omega)] at h1
    exact ⟨_, _, BstC_ext (Cst_x hs) h1⟩
  · exact Cst_a hB hs
def A_X9_castOut : List (Nat × Ctr) := [(1, rcv 9 3 C_X9_keptSet), (2, rcv 9 4 C_X9_manyOf), (2, rcv 9 4 C_X9_doubtOf), (2, rcv 9 8 C_X9_layNet)]
theorem e_X9_castOut (o : OM) : Ev o Y_X9_castOut 4 T_X9_castOut A_X9_castOut := ⟨rfl, List.forall_mem_cons.mpr ⟨Or.inl f_X9_325, fun _ h => absurd h List.not_mem_nil⟩, fun _ h => absurd h List.not_mem_nil, fun _ h => absurd h List.not_mem_nil, fun _ h => absurd h List.not_mem_nil, List.forall_mem_cons.mpr ⟨cl_X9_keptSet (s_X9_keptSet o) (by decide) (Or.inl w_1521), List.forall_mem_cons.mpr ⟨cl_X9_manyOf (s_X9_manyOf o) (by decide) (Or.inl w_1568), List.forall_mem_cons.mpr ⟨cl_X9_doubtOf (s_X9_doubtOf o) (by decide) (Or.inl w_1572), List.forall_mem_cons.mpr ⟨cl_X9_layNet (s_X9_layNet o) (by decide) (Or.inl w_1525), fun _ h => absurd h List.not_mem_nil⟩⟩⟩⟩, fun _ h => absurd h List.not_mem_nil⟩
def C_X9_castOut : Ctr := fun A σ κ => match A with
  | [.inr (.inr (.inl 67))] => (NIm σ ∧ (∀ i, 0 ≤ i → i < σ 67 32 → 0 ≤ σ 86 i ∧ σ 86 i ≤ 99)) ∧ ∀ (r : Int) (τ : Sto), (∀ p : Nat, p ≠ 91 → τ p = σ p) → CstR (FeaM σ) (dbt (σ 67 32) (σ 86)) r → κ [vI r] τ
  | _ => False
set_option maxRecDepth 20000 in
theorem s_X9_castOut (o : OM) : Sound o Y_X9_castOut 4 C_X9_castOut := by
  intro Q A σ hA hC
  match A, hA, hC with
  | [.inr (.inr (.inl 67))], hA, hC =>
    obtain ⟨h0, hq⟩ : (NIm σ ∧ (∀ i, 0 ≤ i → i < σ 67 32 → 0 ≤ σ 86 i ∧ σ 86 i ≤ 99)) ∧ ∀ (r : Int) (τ : Sto), (∀ p : Nat, p ≠ 91 → τ p = σ p) → CstR (FeaM σ) (dbt (σ 67 32) (σ 86)) r → Q [vI r] τ := hC
    obtain ⟨hI0, hds⟩ := h0
    have hJ := hI0.2.1
    have p2 := p2J hJ.1 hJ.2
    have fb : ∀ b s : Int, CstR (fun c => FeaM σ c ∧ c < s) (dbt (σ 67 32) (σ 86)) b → ¬ b = -1 → FeaM σ b := by
      rintro b s ⟨bs, bd, h⟩ hb
      rcases h with ⟨e1, -⟩ | ⟨e1, -⟩
      · exact absurd e1 hb
      · exact e1.1
    obtain ⟨P9, hP9⟩ : ∃ P : Nat → List AV → List AV → Sto → Prop, P = fun m S L τ => ∃ k b s : Int, S = [] ∧ L = [vR 67, vI k, vI b, vI s] ∧ (∀ p : Nat, p ≠ 91 → τ p = σ p) ∧ (∀ i, 0 ≤ i → i < 32 → (bb k i = true ↔ i < σ 67 32 ∧ ¬ σ 87 i = 0)) ∧ 0 ≤ s ∧ s ≤ 2 ^ (σ 67 32).toNat ∧ CstR (fun c => FeaM σ c ∧ c < s) (dbt (σ 67 32) (σ 86)) b ∧ m = ((4096 - s) * 4 + 3).toNat := ⟨_, rfl⟩
    obtain ⟨P47, hP47⟩ : ∃ P : Nat → List AV → List AV → Sto → Prop, P = fun m S L τ => ∃ k b s f : Int, S = [vI f] ∧ L = [vR 67, vI k, vI b, vI s] ∧ (∀ p : Nat, p ≠ 91 → τ p = σ p) ∧ (∀ i, 0 ≤ i → i < 32 → (bb k i = true ↔ i < σ 67 32 ∧ ¬ σ 87 i = 0)) ∧ 0 ≤ s ∧ s < 2 ^ (σ 67 32).toNat ∧ (∀ i, 0 ≤ i → i < 32 → bb s i = true → bb k i = true) ∧ CstR (fun c => FeaM σ c ∧ c < s) (dbt (σ 67 32) (σ 86)) b ∧ ((b = -1 ∧ f = -1) ∨ (¬ b = -1 ∧ f = pop s - pop b)) ∧ m = ((4096 - s) * 4 + 2).toNat := ⟨_, rfl⟩
    obtain ⟨P77, hP77⟩ : ∃ P : Nat → List AV → List AV → Sto → Prop, P = fun m S L τ => ∃ k b s f x : Int, S = [vI x] ∧ L = [vR 67, vI k, vI b, vI s, vI f] ∧ (∀ p : Nat, p ≠ 91 → τ p = σ p) ∧ (∀ i, 0 ≤ i → i < 32 → (bb k i = true ↔ i < σ 67 32 ∧ ¬ σ 87 i = 0)) ∧ 0 ≤ s ∧ s < 2 ^ (σ 67 32).toNat ∧ (∀ i, 0 ≤ i → i < 32 → bb s i = true → bb k i = true) ∧ CstR (fun c => FeaM σ c ∧ c < s) (dbt (σ 67 32) (σ 86)) b ∧ ((x = 1 ∧ (b = -1 ∨ pop s < pop b ∨ (pop s = pop b ∧ dbt (σ 67 32) (σ 86) b < dbt (σ 67 32) (σ 86) s))) ∨ (x = 0 ∧ ¬ (b = -1 ∨ pop s < pop b ∨ (pop s = pop b ∧ dbt (σ 67 32) (σ 86) b < dbt (σ 67 32) (σ 86) s)))) ∧ m = ((4096 - s) * 4 + 1).toNat := ⟨_, rfl⟩
    refine at_meth (lv := V_X9_castOut) (B := B_X9_castOut) (e_X9_castOut o) k_X9_castOut 10 [(9, P9), (47, P47), (77, P77)] (List.forall_mem_cons.mpr ⟨?_, List.forall_mem_cons.mpr ⟨?_, List.forall_mem_cons.mpr ⟨?_, fun _ h => absurd h List.not_mem_nil⟩⟩⟩) 0 [] _ σ ?_
    · intro m S L τ hI
      rw [hP9] at hI
      obtain ⟨k, b, s, rfl, rfl, he, hk, s0, s1, hB, hm⟩ := hI
      simp only [sq_iconst, sq_jsr, sq_anewarray, sq_iload, sq_lload, sq_aload, sq_istore, sq_lstore, sq_astore, sq_iinc, sq_getfield, st_put0, st_put1, st_put3, sq_inv, sq_goto, sq_icmp, sq_ifc, sq_tsw, sq_iadd, sq_isub, sq_imul, sq_ineg, sq_idiv, sq_irem, sq_iand, sq_ior, sq_ixor, sq_ishl, sq_ishr, sq_iushr, sq_ladd, sq_lmul, sq_ldiv, sq_lrem, sq_land, sq_lor, sq_lshl, sq_lushr, sq_lcmp, sq_i2l, sq_l2i, sq_i2c, sq_i2b, sq_dupI, sq_dupR, sq_dup2, sq_pop, sq_iaload, sq_baload, sq_aaload, sq_iastore, sq_bastore, sq_alen, sq_ireturn, sq_lreturn, sq_return, wq_c, wq_n, wlq_s, lkp, tbl, dBk, nth, setL, canSet, cmpI, tk, swK, rdF, entL, catS, cat1, arg, rcv, ald, bld, aln, br, Ccopy, Cmax, Cmin, Cabs, List.take, List.drop, List.reverse, List.reverseAux, List.length, List.append, List.nil_append, List.cons_append, true_and, and_true, and_self, forall_const, true_implies, false_implies, not_true_eq_false, not_false_eq_true, Option.map, reduceCtorEq, reduceIte, or_true, true_or, false_or, or_false, false_and, and_false, List.map, List.append_nil, implies_true, yK, Nat.reduceBEq, beq_self_eq_true, Int.zero_ne_one, Nat.reduceDiv, Nat.reduceMod, Nat.reduceAdd, Nat.reduceSub, Nat.reduceMul, Nat.reduceEqDiff, Nat.reduceLeDiff, Int.reduceToNat, Int.reduceNeg, Int.reduceEq, Int.reduceLT, Int.reduceLE, Int.reduceNatCast, Int.reduceNatCast', Int.reduceAdd, Int.reduceSub, Int.reduceMul, eq_self, Prod.mk.injEq, A_X9_castOut, V_X9_castOut, B_X9_castOut, Y_X9_castOut, C_X9_keptSet, C_X9_manyOf, C_X9_doubtOf, C_X9_layNet, shpT, rfsT, wjq_s, look, he 67 (by decide), he 86 (by decide), shl1 hJ.1 hJ.2]
      have a20 : ((4096 - (s + 1)) * 4 + 3).toNat < m ∨ 4096 ≤ s := by omega
      have a21 : ((4096 - s) * 4 + 2).toNat < m := by omega
      refine ⟨fun h => ?_, fun h => ⟨fun h1 => ⟨⟨by omega, by omega⟩, ?_⟩, fun h1 => ?_⟩⟩
      · refine hq b τ he ?_
        obtain ⟨bs, bd, hb⟩ := hB
        refine ⟨bs, bd, BstC_ext (fun c => ⟨fun z => z.1, fun z => ⟨z, ?_⟩⟩) hb⟩
        have := (bb_lt (a := c) (n := (σ 67 32).toNat) ⟨by have := z.1; omega, by have := z.1; omega⟩ (by omega) (fun i i0 i1 => by
          by_cases e : bb c i = true
          · have := (z.2.1 i (by omega) i1 e).1
            omega
          · simpa using e)).2
        omega
      · rw [hP9]
        refine ⟨_, a20.resolve_right (by omega), k, b, s + 1, rfl, rfl, he, hk, (by omega), (by omega), Cst_a hB (fun z => h1 (andn_0.mpr (fun i i0 i1 e => ?_))), rfl⟩
        exact (hk i i0 i1).mpr (z.2.1 i i0 i1 e)
      · have hsub := andn_0.mp (Classical.not_not.mp h1)
        have ps := popJ (c := s) hJ.1 hJ.2 (fun i i0 i1 => bb_hi (n := (σ 67 32).toNat) s0 (by omega) (by omega) (by omega))
        rw [hP47]
        refine ⟨fun h2 => ?_, fun h2 => ⟨_, a21, k, b, s, -1, rfl, rfl, he, hk, s0, (by omega), hsub, hB, Or.inl ⟨Classical.not_not.mp h2, rfl⟩, rfl⟩⟩
        have fbb := fb b s hB h2
        have pb := popJ (c := b) hJ.1 hJ.2 (fun i i0 i1 => by
          by_cases e : bb b i = true
          · have := (fbb.2.1 i (by omega) i1 e).1
            omega
          · simpa using e)
        rw [ps, pb]
        have q1 := pop_in s
        have q2 := pop_in b
        exact ⟨hJ, hJ, ⟨by omega, by omega⟩, _, a21, k, b, s, _, rfl, rfl, he, hk, s0, (by omega), hsub, hB, Or.inr ⟨h2, rfl⟩, rfl⟩
    · intro m S L τ hI
      rw [hP47] at hI
      obtain ⟨k, b, s, f, rfl, rfl, he, hk, s0, s1, hsub, hB, hf, hm⟩ := hI
      simp only [sq_iconst, sq_jsr, sq_anewarray, sq_iload, sq_lload, sq_aload, sq_istore, sq_lstore, sq_astore, sq_iinc, sq_getfield, st_put0, st_put1, st_put3, sq_inv, sq_goto, sq_icmp, sq_ifc, sq_tsw, sq_iadd, sq_isub, sq_imul, sq_ineg, sq_idiv, sq_irem, sq_iand, sq_ior, sq_ixor, sq_ishl, sq_ishr, sq_iushr, sq_ladd, sq_lmul, sq_ldiv, sq_lrem, sq_land, sq_lor, sq_lshl, sq_lushr, sq_lcmp, sq_i2l, sq_l2i, sq_i2c, sq_i2b, sq_dupI, sq_dupR, sq_dup2, sq_pop, sq_iaload, sq_baload, sq_aaload, sq_iastore, sq_bastore, sq_alen, sq_ireturn, sq_lreturn, sq_return, wq_c, wq_n, wlq_s, lkp, tbl, dBk, nth, setL, canSet, cmpI, tk, swK, rdF, entL, catS, cat1, arg, rcv, ald, bld, aln, br, Ccopy, Cmax, Cmin, Cabs, List.take, List.drop, List.reverse, List.reverseAux, List.length, List.append, List.nil_append, List.cons_append, true_and, and_true, and_self, forall_const, true_implies, false_implies, not_true_eq_false, not_false_eq_true, Option.map, reduceCtorEq, reduceIte, or_true, true_or, false_or, or_false, false_and, and_false, List.map, List.append_nil, implies_true, yK, Nat.reduceBEq, beq_self_eq_true, Int.zero_ne_one, Nat.reduceDiv, Nat.reduceMod, Nat.reduceAdd, Nat.reduceSub, Nat.reduceMul, Nat.reduceEqDiff, Nat.reduceLeDiff, Int.reduceToNat, Int.reduceNeg, Int.reduceEq, Int.reduceLT, Int.reduceLE, Int.reduceNatCast, Int.reduceNatCast', Int.reduceAdd, Int.reduceSub, Int.reduceMul, eq_self, Prod.mk.injEq, A_X9_castOut, V_X9_castOut, B_X9_castOut, Y_X9_castOut, C_X9_keptSet, C_X9_manyOf, C_X9_doubtOf, C_X9_layNet, shpT, rfsT, wjq_s, look, he 67 (by decide), he 86 (by decide)]
      have a21 : ((4096 - s) * 4 + 1).toNat < m := by omega
      rw [hP77]
      refine ⟨fun h => ⟨_, a21, k, b, s, f, 1, rfl, rfl, he, hk, s0, s1, hsub, hB, Or.inl ⟨rfl, (by omega)⟩, rfl⟩, fun h => ⟨fun h1 => ⟨_, a21, k, b, s, f, 0, rfl, rfl, he, hk, s0, s1, hsub, hB, Or.inr ⟨rfl, (by omega)⟩, rfl⟩, fun h1 => ⟨⟨hJ, hds⟩, ⟨hJ, hds⟩, fun h2 => ⟨_, a21, k, b, s, f, 0, rfl, rfl, he, hk, s0, s1, hsub, hB, Or.inr ⟨rfl, (by omega)⟩, rfl⟩, fun h2 => ⟨_, a21, k, b, s, f, 1, rfl, rfl, he, hk, s0, s1, hsub, hB, Or.inl ⟨rfl, (by omega)⟩, rfl⟩⟩⟩⟩
    · intro m S L τ hI
      rw [hP77] at hI
      obtain ⟨k, b, s, f, x, rfl, rfl, he, hk, s0, s1, hsub, hB, hf, hm⟩ := hI
      simp only [sq_iconst, sq_jsr, sq_anewarray, sq_iload, sq_lload, sq_aload, sq_istore, sq_lstore, sq_astore, sq_iinc, sq_getfield, st_put0, st_put1, st_put3, sq_inv, sq_goto, sq_icmp, sq_ifc, sq_tsw, sq_iadd, sq_isub, sq_imul, sq_ineg, sq_idiv, sq_irem, sq_iand, sq_ior, sq_ixor, sq_ishl, sq_ishr, sq_iushr, sq_ladd, sq_lmul, sq_ldiv, sq_lrem, sq_land, sq_lor, sq_lshl, sq_lushr, sq_lcmp, sq_i2l, sq_l2i, sq_i2c, sq_i2b, sq_dupI, sq_dupR, sq_dup2, sq_pop, sq_iaload, sq_baload, sq_aaload, sq_iastore, sq_bastore, sq_alen, sq_ireturn, sq_lreturn, sq_return, wq_c, wq_n, wlq_s, lkp, tbl, dBk, nth, setL, canSet, cmpI, tk, swK, rdF, entL, catS, cat1, arg, rcv, ald, bld, aln, br, Ccopy, Cmax, Cmin, Cabs, List.take, List.drop, List.reverse, List.reverseAux, List.length, List.append, List.nil_append, List.cons_append, true_and, and_true, and_self, forall_const, true_implies, false_implies, not_true_eq_false, not_false_eq_true, Option.map, reduceCtorEq, reduceIte, or_true, true_or, false_or, or_false, false_and, and_false, List.map, List.append_nil, implies_true, yK, Nat.reduceBEq, beq_self_eq_true, Int.zero_ne_one, Nat.reduceDiv, Nat.reduceMod, Nat.reduceAdd, Nat.reduceSub, Nat.reduceMul, Nat.reduceEqDiff, Nat.reduceLeDiff, Int.reduceToNat, Int.reduceNeg, Int.reduceEq, Int.reduceLT, Int.reduceLE, Int.reduceNatCast, Int.reduceNatCast', Int.reduceAdd, Int.reduceSub, Int.reduceMul, eq_self, Prod.mk.injEq, A_X9_castOut, V_X9_castOut, B_X9_castOut, Y_X9_castOut, C_X9_keptSet, C_X9_manyOf, C_X9_doubtOf, C_X9_layNet, shpT, rfsT, wjq_s, look, he 67 (by decide), he 86 (by decide)]
      have a20 : ((4096 - (s + 1)) * 4 + 3).toNat < m := by omega
      rw [hP9, KM_e he]
      refine ⟨fun h => ⟨⟨by omega, by omega⟩, _, a20, k, b, s + 1, rfl, rfl, he, hk, (by omega), (by omega), Cst_c hB (hf.resolve_left (by omega)).2, rfl⟩, fun h => ⟨NIm_e he hI0, fun r τ' h1 h2 => ?_⟩⟩
      have e : KM σ (inS (bAnd k (bXor s (-1)))) = KM σ (fun j => ktM σ j ∧ bb s j = false) := KM_S (fun j j0 j1 => by
        show (bAnd (bShr _ j) 1 = 1) ↔ _
        rw [shr_bit1 j0 (by omega), bb_and, bb_not s j (by omega)]
        have := hk j j0 (by omega)
        show _ ↔ (¬ σ 87 j = 0) ∧ _
        cases e1 : bb k j <;> cases e2 : bb s j <;> rw [e1] at this <;> simp at this ⊢
        · exact this j1
        · exact this.2)
      rw [e] at h2
      have hy := LayP_yes h2
      have fe : ¬ r = 0 ↔ FeaM σ s := by
        rw [hy]
        exact ⟨fun z => ⟨⟨s0, by omega⟩, fun i i0 i1 z => (hk i i0 i1).mp (hsub i i0 i1 z), z⟩, fun z => z.2.2⟩
      have bt := (hf.resolve_right (by omega)).2
      refine ⟨fun h3 => ⟨⟨by omega, by omega⟩, _, a20, k, b, s + 1, rfl, rfl, fun p hp => by rw [h1 p hp, he p hp], hk, (by omega), (by omega), Cst_a hB (fun z => fe.mpr z h3), rfl⟩, fun h3 => ⟨⟨by omega, by omega⟩, _, a20, k, s, s + 1, rfl, rfl, fun p hp => by rw [h1 p hp, he p hp], hk, (by omega), (by omega), Cst_b hB (fe.mp h3) bt s0 (fun c z => z.1.1), rfl⟩⟩
    · simp only [sq_iconst, sq_jsr, sq_anewarray, sq_iload, sq_lload, sq_aload, sq_istore, sq_lstore, sq_astore, sq_iinc, sq_getfield, st_put0, st_put1, st_put3, sq_inv, sq_goto, sq_icmp, sq_ifc, sq_tsw, sq_iadd, sq_isub, sq_imul, sq_ineg, sq_idiv, sq_irem, sq_iand, sq_ior, sq_ixor, sq_ishl, sq_ishr, sq_iushr, sq_ladd, sq_lmul, sq_ldiv, sq_lrem, sq_land, sq_lor, sq_lshl, sq_lushr, sq_lcmp, sq_i2l, sq_l2i, sq_i2c, sq_i2b, sq_dupI, sq_dupR, sq_dup2, sq_pop, sq_iaload, sq_baload, sq_aaload, sq_iastore, sq_bastore, sq_alen, sq_ireturn, sq_lreturn, sq_return, wq_c, wq_n, wlq_s, lkp, tbl, dBk, nth, setL, canSet, cmpI, tk, swK, rdF, entL, catS, cat1, arg, rcv, ald, bld, aln, br, Ccopy, Cmax, Cmin, Cabs, List.take, List.drop, List.reverse, List.reverseAux, List.length, List.append, List.nil_append, List.cons_append, true_and, and_true, and_self, forall_const, true_implies, false_implies, not_true_eq_false, not_false_eq_true, Option.map, reduceCtorEq, reduceIte, or_true, true_or, false_or, or_false, false_and, and_false, List.map, List.append_nil, implies_true, yK, Nat.reduceBEq, beq_self_eq_true, Int.zero_ne_one, Nat.reduceDiv, Nat.reduceMod, Nat.reduceAdd, Nat.reduceSub, Nat.reduceMul, Nat.reduceEqDiff, Nat.reduceLeDiff, Int.reduceToNat, Int.reduceNeg, Int.reduceEq, Int.reduceLT, Int.reduceLE, Int.reduceNatCast, Int.reduceNatCast', Int.reduceAdd, Int.reduceSub, Int.reduceMul, eq_self, Prod.mk.injEq, A_X9_castOut, V_X9_castOut, B_X9_castOut, Y_X9_castOut, C_X9_keptSet, C_X9_manyOf, C_X9_doubtOf, C_X9_layNet, shpT, rfsT, wjq_s, look]
      rw [hP9]
      refine ⟨hJ, fun r r0 hr => ⟨_, r, -1, 0, rfl, rfl, fun _ _ => rfl, hr, (by omega), (by omega), ⟨13, -1, Or.inl ⟨rfl, rfl, rfl, fun c z => ?_⟩⟩, rfl⟩⟩
      have := z.1.1
      have := z.2
      omega

