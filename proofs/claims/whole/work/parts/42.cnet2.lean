-- ===== the class: groups, which joins hold =====
theorem sum_1 {f g : Int → Int} {j v : Int} : ∀ n : Nat, (∀ i : Int, 0 ≤ i → i < n → ¬ i = j → f i = g i) → (0 ≤ j → j < n → f j = g j + v) → sumN f n = sumN g n + (if 0 ≤ j ∧ j < n then v else 0)
  | 0, _, _ => by
    rw [if_neg (by omega)]
    rfl
  | n + 1, h1, h2 => by
    have ih := sum_1 (f := f) (g := g) (j := j) (v := v) n (fun i a b c => h1 i a (by omega) c) (fun a b => h2 a (by omega))
    show sumN f n + f n = sumN g n + g n + _
    rw [ih]
    by_cases c : (n : Int) = j
    · rw [← c] at h2 ⊢
      rw [h2 (by omega) (by omega), if_neg (by omega), if_pos (by omega)]
      omega
    · rw [h1 n (by omega) (by omega) c]
      by_cases d : 0 ≤ j ∧ j < n
      · rw [if_pos d, if_pos (by omega)]; omega
      · rw [if_neg d, if_neg (by omega)]; omega
theorem pop_or {a j : Int} (h0 : 0 ≤ j) (h1 : j < 12) : pop (bOr a (bShl 1 j)) = pop a + (if bb a j = true then 0 else 1) := by
  have e : ∀ i, 0 ≤ i → i < 32 → bb (bOr a (bShl 1 j)) i = (bb a i || decide (i = j)) := fun i i0 i1 => by rw [bb_or, bb_shl h0 (by omega) i0 i1]
  have h := sum_1 (f := fun i => if bb (bOr a (bShl 1 j)) i = true then 1 else 0) (g := fun i => if bb a i = true then 1 else 0) (j := j) (v := if bb a j = true then 0 else 1) 12 (fun i i0 i1 c => by
    show (if bb (bOr a (bShl 1 j)) i = true then (1 : Int) else 0) = if bb a i = true then 1 else 0
    rw [e i i0 (by omega), decide_eq_false c, Bool.or_false]) (fun _ _ => by
    show (if bb (bOr a (bShl 1 j)) j = true then (1 : Int) else 0) = (if bb a j = true then 1 else 0) + _
    rw [e j h0 (by omega), decide_eq_true rfl, Bool.or_true, if_pos rfl]
    split <;> omega)
  rw [if_pos ⟨h0, by omega⟩] at h
  exact h
/-- no pit ahead has this label -/
def nwP (l : Int → Int) (p : Int) : Bool := decide (ff (fun q => decide (l q = l p)) 0 p.toNat = -1)
def nGr (l : Int → Int) (n : Int) : Int := sumI (fun p => if nwP l p = true then 1 else 0) n
theorem nwP_t {l : Int → Int} {p : Int} : nwP l p = true ↔ ∀ q, 0 ≤ q → q < p → ¬ l q = l p := by
  unfold nwP
  rw [decide_eq_true_eq]
  constructor
  · intro h q q0 q1 e
    exact ff_ex1 (P := fun q => decide (l q = l p)) p.toNat 0 q (by omega) q0 (by omega) (decide_eq_true e) h
  · intro h
    rcases ff_in (P := fun q => decide (l q = l p)) p.toNat 0 with z | ⟨z1, z2, z3⟩
    · exact z
    · exact absurd (of_decide_eq_true z3) (h _ z1 (by omega))
def A_X3_groups : List (Nat × Ctr) := [(1, arg 1 C_J6_bitCount_0f7a4)]
theorem e_X3_groups (o : OM) : Ev o Y_X3_groups 1 T_X3_groups A_X3_groups := ⟨rfl, List.forall_mem_cons.mpr ⟨Or.inl f_X3_51, List.forall_mem_cons.mpr ⟨Or.inl f_X3_85, List.forall_mem_cons.mpr ⟨Or.inl f_X3_29, fun _ h => absurd h List.not_mem_nil⟩⟩⟩, fun _ h => absurd h List.not_mem_nil, fun _ h => absurd h List.not_mem_nil, fun _ h => absurd h List.not_mem_nil, fun _ h => absurd h List.not_mem_nil, List.forall_mem_cons.mpr ⟨cl_J6_bitCount_0f7a4 (s_J6_bitCount_0f7a4 o) (by decide) (Or.inl w_916), fun _ h => absurd h List.not_mem_nil⟩⟩
def C_X3_groups : Ctr := fun A σ κ => match A with
  | [.inr (.inr (.inl 10))] => ((0 ≤ σ 1 0 ∧ σ 1 0 ≤ 7) ∧ LbI (σ 66)) ∧ κ [vI (nGr (σ 66) (σ 1 0))] σ
  | _ => False
set_option maxRecDepth 20000 in
theorem s_X3_groups (o : OM) : Sound o Y_X3_groups 1 C_X3_groups := by
  intro Q A σ hA hC
  match A, hA, hC with
  | [.inr (.inr (.inl 10))], hA, hC =>
    obtain ⟨h0, hq⟩ : ((0 ≤ σ 1 0 ∧ σ 1 0 ≤ 7) ∧ LbI (σ 66)) ∧ Q [vI (nGr (σ 66) (σ 1 0))] σ := hC
    have hQ : ∀ r_ τ, r_ = (nGr (σ 66) (σ 1 0)) → τ = (σ) → Q [vI r_] τ := fun r_ τ e e2 => e ▸ e2 ▸ hq
    obtain ⟨hn, hl⟩ := h0
    refine at_meth (lv := V_X3_groups) (B := B_X3_groups) (e_X3_groups o) k_X3_groups 3 [(4, fun m S L τ => ∃ p s : Int, S = [] ∧ L = [vR 10, vI s, vI p] ∧ τ = σ ∧ 0 ≤ p ∧ p ≤ σ 1 0 ∧ i32 s ∧ (∀ i, 0 ≤ i → i < 32 → (bb s i = true ↔ ∃ q, 0 ≤ q ∧ q < p ∧ σ 66 q = i)) ∧ pop s = nGr (σ 66) p ∧ m = (7 - p).toNat)] (List.forall_mem_cons.mpr ⟨?_, fun _ h => absurd h List.not_mem_nil⟩) 0 [] _ σ ?_
    · rintro m S L τ ⟨p, s, rfl, rfl, rfl, p0, p1, si, hs, hp, hm⟩
      simp only [sq_iconst, sq_jsr, sq_anewarray, sq_iload, sq_lload, sq_aload, sq_istore, sq_lstore, sq_astore, sq_iinc, sq_getfield, st_put0, st_put1, st_put3, sq_inv, sq_goto, sq_icmp, sq_ifc, sq_tsw, sq_iadd, sq_isub, sq_imul, sq_ineg, sq_idiv, sq_irem, sq_iand, sq_ior, sq_ixor, sq_ishl, sq_ishr, sq_iushr, sq_ladd, sq_lmul, sq_ldiv, sq_lrem, sq_land, sq_lor, sq_lshl, sq_lushr, sq_lcmp, sq_i2l, sq_l2i, sq_i2c, sq_i2b, sq_dupI, sq_dupR, sq_dup2, sq_pop, sq_iaload, sq_baload, sq_aaload, sq_iastore, sq_bastore, sq_alen, sq_ireturn, sq_lreturn, sq_return, wq_c, wq_n, wlq_s, lkp, tbl, dBk, nth, setL, canSet, cmpI, tk, swK, rdF, entL, catS, cat1, arg, rcv, ald, bld, aln, br, Ccopy, Cmax, Cmin, Cabs, List.take, List.drop, List.reverse, List.reverseAux, List.length, List.append, List.nil_append, List.cons_append, true_and, and_true, and_self, forall_const, true_implies, false_implies, not_true_eq_false, not_false_eq_true, Option.map, reduceCtorEq, reduceIte, or_true, true_or, false_or, or_false, false_and, and_false, List.map, List.append_nil, implies_true, yK, Nat.reduceBEq, beq_self_eq_true, Int.zero_ne_one, Nat.reduceDiv, Nat.reduceMod, Nat.reduceAdd, Nat.reduceSub, Nat.reduceMul, Nat.reduceEqDiff, Nat.reduceLeDiff, Int.reduceToNat, Int.reduceNeg, Int.reduceEq, Int.reduceLT, Int.reduceLE, Int.reduceNatCast, Int.reduceNatCast', Int.reduceAdd, Int.reduceSub, Int.reduceMul, eq_self, Prod.mk.injEq, A_X3_groups, V_X3_groups, B_X3_groups, Y_X3_groups, C_J6_bitCount_0f7a4, shpT, rfsT, wjq_s, look]
      refine ⟨fun h => ?_, fun h => ⟨⟨by omega, by omega⟩, ⟨by omega, by omega⟩, _, ?_, p + 1, _, rfl, (by omega), (by omega), bOr_i _ _, fun i i0 i1 => ?_, ?_, rfl⟩⟩
      · have : p = τ 1 0 := by omega
        subst this
        have lt := bb_lt (n := 8) si (by omega) (fun i i0 i1 => by
          by_cases c : bb s i = true
          · obtain ⟨q, q0, q1, q2⟩ := (hs i (by omega) i1).mp c
            have := hl q ⟨by omega, by omega⟩
            omega
          · simpa using c)
        exact ⟨⟨lt.1, by have := lt.2; omega⟩, hQ _ _ hp rfl⟩
      · omega
      · have lp := hl p ⟨by omega, by omega⟩
        rw [bb_or, bb_shl lp.1 (by omega) i0 i1, Bool.or_eq_true, hs i i0 i1, decide_eq_true_eq]
        constructor
        · rintro (⟨q, q0, q1, q2⟩ | e)
          · exact ⟨q, q0, by omega, q2⟩
          · exact ⟨p, p0, by omega, e.symm⟩
        · rintro ⟨q, q0, q1, q2⟩
          by_cases c : q = p
          · exact Or.inr (by rw [← q2, c])
          · exact Or.inl ⟨q, q0, by omega, q2⟩
      · have lp := hl p ⟨by omega, by omega⟩
        rw [pop_or lp.1 (by omega), hp]
        unfold nGr
        rw [sumI_s _ p0]
        congr 1
        by_cases c : bb s (τ 66 p) = true
        · rw [if_pos c]
          obtain ⟨q, q0, q1, q2⟩ := (hs _ lp.1 (by omega)).mp c
          rw [if_neg (fun z => nwP_t.mp z q q0 q1 q2)]
        · rw [if_neg c, if_pos (nwP_t.mpr (fun q q0 q1 q2 => c ((hs _ lp.1 (by omega)).mpr ⟨q, q0, q1, q2⟩)))]
    · simp only [sq_iconst, sq_jsr, sq_anewarray, sq_iload, sq_lload, sq_aload, sq_istore, sq_lstore, sq_astore, sq_iinc, sq_getfield, st_put0, st_put1, st_put3, sq_inv, sq_goto, sq_icmp, sq_ifc, sq_tsw, sq_iadd, sq_isub, sq_imul, sq_ineg, sq_idiv, sq_irem, sq_iand, sq_ior, sq_ixor, sq_ishl, sq_ishr, sq_iushr, sq_ladd, sq_lmul, sq_ldiv, sq_lrem, sq_land, sq_lor, sq_lshl, sq_lushr, sq_lcmp, sq_i2l, sq_l2i, sq_i2c, sq_i2b, sq_dupI, sq_dupR, sq_dup2, sq_pop, sq_iaload, sq_baload, sq_aaload, sq_iastore, sq_bastore, sq_alen, sq_ireturn, sq_lreturn, sq_return, wq_c, wq_n, wlq_s, lkp, tbl, dBk, nth, setL, canSet, cmpI, tk, swK, rdF, entL, catS, cat1, arg, rcv, ald, bld, aln, br, Ccopy, Cmax, Cmin, Cabs, List.take, List.drop, List.reverse, List.reverseAux, List.length, List.append, List.nil_append, List.cons_append, true_and, and_true, and_self, forall_const, true_implies, false_implies, not_true_eq_false, not_false_eq_true, Option.map, reduceCtorEq, reduceIte, or_true, true_or, false_or, or_false, false_and, and_false, List.map, List.append_nil, implies_true, yK, Nat.reduceBEq, beq_self_eq_true, Int.zero_ne_one, Nat.reduceDiv, Nat.reduceMod, Nat.reduceAdd, Nat.reduceSub, Nat.reduceMul, Nat.reduceEqDiff, Nat.reduceLeDiff, Int.reduceToNat, Int.reduceNeg, Int.reduceEq, Int.reduceLT, Int.reduceLE, Int.reduceNatCast, Int.reduceNatCast', Int.reduceAdd, Int.reduceSub, Int.reduceMul, eq_self, Prod.mk.injEq, A_X3_groups, V_X3_groups, B_X3_groups, Y_X3_groups, C_J6_bitCount_0f7a4, shpT, rfsT, wjq_s, look]
      exact ⟨_, 0, 0, rfl, (by omega), hn.1, i32_0, fun i i0 i1 => ⟨fun z => by rw [bb_0] at z; exact absurd z (by simp), fun ⟨q, q0, q1, _⟩ => by omega⟩, by unfold nGr; rw [sumI_0]; decide, rfl⟩
def A_X3_groupOfFirst : List (Nat × Ctr) := []
theorem e_X3_groupOfFirst (o : OM) : Ev o Y_X3_groupOfFirst 0 T_X3_groupOfFirst A_X3_groupOfFirst := ⟨rfl, List.forall_mem_cons.mpr ⟨Or.inl f_X3_51, List.forall_mem_cons.mpr ⟨Or.inl f_X3_85, List.forall_mem_cons.mpr ⟨Or.inl f_X3_29, fun _ h => absurd h List.not_mem_nil⟩⟩⟩, fun _ h => absurd h List.not_mem_nil, fun _ h => absurd h List.not_mem_nil, fun _ h => absurd h List.not_mem_nil, fun _ h => absurd h List.not_mem_nil, fun _ h => absurd h List.not_mem_nil⟩
def C_X3_groupOfFirst : Ctr := fun A σ κ => match A with
  | [.inr (.inr (.inl 10))] => ((0 ≤ σ 1 0 ∧ σ 1 0 ≤ 7)) ∧ ∀ r : Int, i32 r → (∀ i, 0 ≤ i → i < 32 → (bb r i = true ↔ i < σ 1 0 ∧ σ 66 i = σ 66 0)) → κ [vI r] σ
  | _ => False
set_option maxRecDepth 20000 in
theorem s_X3_groupOfFirst (o : OM) : Sound o Y_X3_groupOfFirst 0 C_X3_groupOfFirst := by
  intro Q A σ hA hC
  match A, hA, hC with
  | [.inr (.inr (.inl 10))], hA, hC =>
    obtain ⟨h0, hq⟩ : ((0 ≤ σ 1 0 ∧ σ 1 0 ≤ 7)) ∧ ∀ r : Int, i32 r → (∀ i, 0 ≤ i → i < 32 → (bb r i = true ↔ i < σ 1 0 ∧ σ 66 i = σ 66 0)) → Q [vI r] σ := hC
    refine at_meth (lv := V_X3_groupOfFirst) (B := B_X3_groupOfFirst) (e_X3_groupOfFirst o) k_X3_groupOfFirst 4 [(4, fun m S L τ => ∃ p s : Int, S = [] ∧ L = [vR 10, vI s, vI p] ∧ τ = σ ∧ 0 ≤ p ∧ p ≤ σ 1 0 ∧ i32 s ∧ (∀ i, 0 ≤ i → i < 32 → (bb s i = true ↔ i < p ∧ σ 66 i = σ 66 0)) ∧ m = (7 - p).toNat)] (List.forall_mem_cons.mpr ⟨?_, fun _ h => absurd h List.not_mem_nil⟩) 0 [] _ σ ?_
    · rintro m S L τ ⟨p, s, rfl, rfl, rfl, p0, p1, si, hs, hm⟩
      simp only [sq_iconst, sq_jsr, sq_anewarray, sq_iload, sq_lload, sq_aload, sq_istore, sq_lstore, sq_astore, sq_iinc, sq_getfield, st_put0, st_put1, st_put3, sq_inv, sq_goto, sq_icmp, sq_ifc, sq_tsw, sq_iadd, sq_isub, sq_imul, sq_ineg, sq_idiv, sq_irem, sq_iand, sq_ior, sq_ixor, sq_ishl, sq_ishr, sq_iushr, sq_ladd, sq_lmul, sq_ldiv, sq_lrem, sq_land, sq_lor, sq_lshl, sq_lushr, sq_lcmp, sq_i2l, sq_l2i, sq_i2c, sq_i2b, sq_dupI, sq_dupR, sq_dup2, sq_pop, sq_iaload, sq_baload, sq_aaload, sq_iastore, sq_bastore, sq_alen, sq_ireturn, sq_lreturn, sq_return, wq_c, wq_n, wlq_s, lkp, tbl, dBk, nth, setL, canSet, cmpI, tk, swK, rdF, entL, catS, cat1, arg, rcv, ald, bld, aln, br, Ccopy, Cmax, Cmin, Cabs, List.take, List.drop, List.reverse, List.reverseAux, List.length, List.append, List.nil_append, List.cons_append, true_and, and_true, and_self, forall_const, true_implies, false_implies, not_true_eq_false, not_false_eq_true, Option.map, reduceCtorEq, reduceIte, or_true, true_or, false_or, or_false, false_and, and_false, List.map, List.append_nil, implies_true, yK, Nat.reduceBEq, beq_self_eq_true, Int.zero_ne_one, Nat.reduceDiv, Nat.reduceMod, Nat.reduceAdd, Nat.reduceSub, Nat.reduceMul, Nat.reduceEqDiff, Nat.reduceLeDiff, Int.reduceToNat, Int.reduceNeg, Int.reduceEq, Int.reduceLT, Int.reduceLE, Int.reduceNatCast, Int.reduceNatCast', Int.reduceAdd, Int.reduceSub, Int.reduceMul, eq_self, Prod.mk.injEq, A_X3_groupOfFirst, V_X3_groupOfFirst, B_X3_groupOfFirst, Y_X3_groupOfFirst, shpT, rfsT, wjq_s, look]
      refine ⟨fun h => ?_, fun h => ⟨⟨by omega, by omega⟩, fun h1 => ⟨⟨by omega, by omega⟩, _, ?_, p + 1, _, rfl, (by omega), (by omega), si, fun i i0 i1 => ?_, rfl⟩, fun h1 => ⟨⟨by omega, by omega⟩, _, ?_, p + 1, _, rfl, (by omega), (by omega), bOr_i _ _, fun i i0 i1 => ?_, rfl⟩⟩⟩
      · have : p = τ 1 0 := by omega
        subst this
        exact hq s si hs
      · omega
      · rw [hs i i0 i1]
        constructor
        · rintro ⟨z1, z2⟩; exact ⟨by omega, z2⟩
        · rintro ⟨z1, z2⟩
          refine ⟨?_, z2⟩
          by_cases c : i = p
          · exact absurd (by rw [← c]; exact z2) h1
          · omega
      · omega
      · rw [bb_or, bb_shl p0 (by omega) i0 i1, Bool.or_eq_true, hs i i0 i1, decide_eq_true_eq]
        constructor
        · rintro (⟨z1, z2⟩ | e)
          · exact ⟨by omega, z2⟩
          · exact ⟨by omega, by rw [e]; exact Classical.not_not.mp h1⟩
        · rintro ⟨z1, z2⟩
          by_cases c : i = p
          · exact Or.inr c
          · exact Or.inl ⟨by omega, z2⟩
    · simp only [sq_iconst, sq_jsr, sq_anewarray, sq_iload, sq_lload, sq_aload, sq_istore, sq_lstore, sq_astore, sq_iinc, sq_getfield, st_put0, st_put1, st_put3, sq_inv, sq_goto, sq_icmp, sq_ifc, sq_tsw, sq_iadd, sq_isub, sq_imul, sq_ineg, sq_idiv, sq_irem, sq_iand, sq_ior, sq_ixor, sq_ishl, sq_ishr, sq_iushr, sq_ladd, sq_lmul, sq_ldiv, sq_lrem, sq_land, sq_lor, sq_lshl, sq_lushr, sq_lcmp, sq_i2l, sq_l2i, sq_i2c, sq_i2b, sq_dupI, sq_dupR, sq_dup2, sq_pop, sq_iaload, sq_baload, sq_aaload, sq_iastore, sq_bastore, sq_alen, sq_ireturn, sq_lreturn, sq_return, wq_c, wq_n, wlq_s, lkp, tbl, dBk, nth, setL, canSet, cmpI, tk, swK, rdF, entL, catS, cat1, arg, rcv, ald, bld, aln, br, Ccopy, Cmax, Cmin, Cabs, List.take, List.drop, List.reverse, List.reverseAux, List.length, List.append, List.nil_append, List.cons_append, true_and, and_true, and_self, forall_const, true_implies, false_implies, not_true_eq_false, not_false_eq_true, Option.map, reduceCtorEq, reduceIte, or_true, true_or, false_or, or_false, false_and, and_false, List.map, List.append_nil, implies_true, yK, Nat.reduceBEq, beq_self_eq_true, Int.zero_ne_one, Nat.reduceDiv, Nat.reduceMod, Nat.reduceAdd, Nat.reduceSub, Nat.reduceMul, Nat.reduceEqDiff, Nat.reduceLeDiff, Int.reduceToNat, Int.reduceNeg, Int.reduceEq, Int.reduceLT, Int.reduceLE, Int.reduceNatCast, Int.reduceNatCast', Int.reduceAdd, Int.reduceSub, Int.reduceMul, eq_self, Prod.mk.injEq, A_X3_groupOfFirst, V_X3_groupOfFirst, B_X3_groupOfFirst, Y_X3_groupOfFirst, shpT, rfsT, wjq_s, look]
      exact ⟨_, 0, 0, rfl, (by omega), h0.1, i32_0, fun i i0 i1 => ⟨fun z => by rw [bb_0] at z; exact absurd z (by simp), fun z => by omega⟩, rfl⟩
def KCm (σ : Sto) (j : Int) : Kn := orK (KF σ) (KJc σ (fun i => ktC σ i ∧ ¬ i = j))
def difM (m m' : Mx) (a b : Int) : Prop := ¬ (m a b = m' a b ∧ m b a = m' b a)
theorem CloK_mono {K K' : Kn} {m m' : Mx} (h : ∀ a b lo hi, K a b lo hi → K' a b lo hi) (h1 : CloK K m) (h2 : CloK K' m') : ∀ i j, nd i → nd j → ole (m' i j) (m i j) :=
  fun i j a b => h1.2.2 m' h2.1 (fun x y u v k => h2.2.1 x y u v (h x y u v k)) i j a b
theorem og_gt {g g' : Int → Int} {i j : Int} (h1 : gIn g) (h2 : gIn g') (a : nd i) (b : nd j) (h : ole (og g' i j) (og g i j)) : g' (i * 8 + j) ≤ g (i * 8 + j) ∧ (g' (i * 8 + j) = g (i * 8 + j) ↔ og g i j = og g' i j) := by
  have q1 := h1 i j a b
  have q2 := h2 i j a b
  unfold og at *
  by_cases c : g (i * 8 + j) = 1000000000
  · rw [if_pos c]
    by_cases d : g' (i * 8 + j) = 1000000000
    · rw [if_pos d]
      exact ⟨by omega, fun _ => rfl, fun _ => by omega⟩
    · rw [if_neg d]
      exact ⟨by omega, fun _ => by omega, fun z => absurd z (by simp)⟩
  · rw [if_neg c] at h ⊢
    by_cases d : g' (i * 8 + j) = 1000000000
    · rw [if_pos d] at h
      exact h.elim
    · rw [if_neg d] at h ⊢
      simp only [ole] at h
      exact ⟨h, fun z => by rw [z], fun z => by simp only [Option.some.injEq] at z; omega⟩
def A_X3_isWiderWithout : List (Nat × Ctr) := [(3, rcv 3 4 C_X3_weaveJoins)]
theorem e_X3_isWiderWithout (o : OM) : Ev o Y_X3_isWiderWithout 4 T_X3_isWiderWithout A_X3_isWiderWithout := ⟨rfl, List.forall_mem_cons.mpr ⟨Or.inl f_X3_18, List.forall_mem_cons.mpr ⟨Or.inl f_X3_11, fun _ h => absurd h List.not_mem_nil⟩⟩, fun _ h => absurd h List.not_mem_nil, fun _ h => absurd h List.not_mem_nil, fun _ h => absurd h List.not_mem_nil, List.forall_mem_cons.mpr ⟨cl_X3_weaveJoins (s_X3_weaveJoins o) (by decide) (Or.inl w_865), fun _ h => absurd h List.not_mem_nil⟩, fun _ h => absurd h List.not_mem_nil⟩
def C_X3_isWiderWithout : Ctr := fun A σ κ => match A with
  | [.inr (.inr (.inl 10)), .inl j, .inl a, .inl b] => (NIc σ ∧ nd a ∧ nd b ∧ NetK (KC σ) (σ 48) ∧ NetK (KF σ) (σ 49)) ∧ (∀ τ : Sto, (∀ p : Nat, p ≠ 50 → τ p = σ p) → (∃ m, CloK (KCm σ j) m ∧ difM m (og (σ 48)) a b) → κ [vI 1] τ) ∧ (∀ τ : Sto, (∀ p : Nat, p ≠ 50 → τ p = σ p) → (∃ m, CloK (KCm σ j) m ∧ ¬ difM m (og (σ 48)) a b) → κ [vI 0] τ)
  | _ => False
set_option maxRecDepth 20000 in
theorem s_X3_isWiderWithout (o : OM) : Sound o Y_X3_isWiderWithout 4 C_X3_isWiderWithout := by
  intro Q A σ hA hC
  match A, hA, hC with
  | [.inr (.inr (.inl 10)), .inl j, .inl a, .inl b], hA, hC =>
    obtain ⟨h0, hq⟩ : (NIc σ ∧ nd a ∧ nd b ∧ NetK (KC σ) (σ 48) ∧ NetK (KF σ) (σ 49)) ∧ (∀ τ : Sto, (∀ p : Nat, p ≠ 50 → τ p = σ p) → (∃ m, CloK (KCm σ j) m ∧ difM m (og (σ 48)) a b) → Q [vI 1] τ) ∧ (∀ τ : Sto, (∀ p : Nat, p ≠ 50 → τ p = σ p) → (∃ m, CloK (KCm σ j) m ∧ ¬ difM m (og (σ 48)) a b) → Q [vI 0] τ) := hC
    refine at_wpl (lv := V_X3_isWiderWithout) (B := B_X3_isWiderWithout) (e_X3_isWiderWithout o) k_X3_isWiderWithout 3 0 [] _ σ ?_
    simp only [sq_iconst, sq_jsr, sq_anewarray, sq_iload, sq_lload, sq_aload, sq_istore, sq_lstore, sq_astore, sq_iinc, sq_getfield, st_put0, st_put1, st_put3, sq_inv, sq_goto, sq_icmp, sq_ifc, sq_tsw, sq_iadd, sq_isub, sq_imul, sq_ineg, sq_idiv, sq_irem, sq_iand, sq_ior, sq_ixor, sq_ishl, sq_ishr, sq_iushr, sq_ladd, sq_lmul, sq_ldiv, sq_lrem, sq_land, sq_lor, sq_lshl, sq_lushr, sq_lcmp, sq_i2l, sq_l2i, sq_i2c, sq_i2b, sq_dupI, sq_dupR, sq_dup2, sq_pop, sq_iaload, sq_baload, sq_aaload, sq_iastore, sq_bastore, sq_alen, sq_ireturn, sq_lreturn, sq_return, wq_c, wq_n, wlq_s, lkp, tbl, dBk, nth, setL, canSet, cmpI, tk, swK, rdF, entL, catS, cat1, arg, rcv, ald, bld, aln, br, Ccopy, Cmax, Cmin, Cabs, List.take, List.drop, List.reverse, List.reverseAux, List.length, List.append, List.nil_append, List.cons_append, true_and, and_true, and_self, forall_const, true_implies, false_implies, not_true_eq_false, not_false_eq_true, Option.map, reduceCtorEq, reduceIte, or_true, true_or, false_or, or_false, false_and, and_false, List.map, List.append_nil, implies_true, yK, Nat.reduceBEq, beq_self_eq_true, Int.zero_ne_one, Nat.reduceDiv, Nat.reduceMod, Nat.reduceAdd, Nat.reduceSub, Nat.reduceMul, Nat.reduceEqDiff, Nat.reduceLeDiff, Int.reduceToNat, Int.reduceNeg, Int.reduceEq, Int.reduceLT, Int.reduceLE, Int.reduceNatCast, Int.reduceNatCast', Int.reduceAdd, Int.reduceSub, Int.reduceMul, eq_self, Prod.mk.injEq, A_X3_isWiderWithout, V_X3_isWiderWithout, B_X3_isWiderWithout, Y_X3_isWiderWithout, C_X3_weaveJoins, shpT, rfsT]
    obtain ⟨hI, ha, hb, hC, hF⟩ := h0
    obtain ⟨hq1, hq2⟩ := hq
    have na := ha
    have nb := hb
    unfold nd at ha hb
    refine ⟨hI, KF σ, hF, fun τ he hg => ?_, fun τ he hg => ?_⟩
    · have c1 := NetK_Clo hg
      have c2 := NetK_Clo hC
      have mo := CloK_mono (fun a b lo hi z => z.elim Or.inl (fun ⟨i, z0, z1, z2, z3⟩ => Or.inr ⟨i, z0, z1, z2.1, z3⟩)) c1 c2
      have g1 := og_gt (NetK_in hg) (NetK_in hC) na nb (mo a b na nb)
      have g2 := og_gt (NetK_in hg) (NetK_in hC) nb na (mo b a nb na)
      rw [he 48 (by decide)]
      refine ⟨⟨by omega, by omega⟩, ⟨by omega, by omega⟩, ⟨by omega, by omega⟩, ⟨by omega, by omega⟩, ⟨by omega, by omega⟩, ⟨by omega, by omega⟩, fun h => hq1 τ he ⟨_, c1, fun z => ?_⟩, fun h => ⟨⟨by omega, by omega⟩, ⟨by omega, by omega⟩, ⟨by omega, by omega⟩, ⟨by omega, by omega⟩, ⟨by omega, by omega⟩, ⟨by omega, by omega⟩, fun h1 => hq2 τ he ⟨_, c1, fun z => z ⟨g1.2.mp (by omega), g2.2.mp (by omega)⟩⟩, fun h1 => hq1 τ he ⟨_, c1, fun z => ?_⟩⟩⟩
      · have := g1.2.mpr z.1
        omega
      · have := g2.2.mpr z.2
        omega
    · exfalso
      have c2 := NetK_Clo hC
      exact hg _ c2.1 (fun a b lo hi z => c2.2.1 a b lo hi (z.elim Or.inl (fun ⟨i, z0, z1, z2, z3⟩ => Or.inr ⟨i, z0, z1, z2.1, z3⟩)))
def A_X3_joinsThatHold : List (Nat × Ctr) := [(2, rcv 0 2 C_X0_isKept), (4, rcv 3 4 C_X3_isWiderWithout)]
theorem e_X3_joinsThatHold (o : OM) : Ev o Y_X3_joinsThatHold 5 T_X3_joinsThatHold A_X3_joinsThatHold := ⟨rfl, List.forall_mem_cons.mpr ⟨Or.inl f_X3_59, List.forall_mem_cons.mpr ⟨Or.inl f_X3_111, fun _ h => absurd h List.not_mem_nil⟩⟩, fun _ h => absurd h List.not_mem_nil, fun _ h => absurd h List.not_mem_nil, fun _ h => absurd h List.not_mem_nil, List.forall_mem_cons.mpr ⟨cl_X0_isKept (s_X0_isKept o) (by decide) (Or.inr ⟨_, wn_91⟩), List.forall_mem_cons.mpr ⟨cl_X3_isWiderWithout (s_X3_isWiderWithout o) (by decide) (Or.inl w_954), fun _ h => absurd h List.not_mem_nil⟩⟩, fun _ h => absurd h List.not_mem_nil⟩
def C_X3_joinsThatHold : Ctr := fun A σ κ => match A with
  | [.inr (.inr (.inl 10)), .inl a, .inl b] => (NIc σ ∧ nd a ∧ nd b ∧ NetK (KC σ) (σ 48) ∧ NetK (KF σ) (σ 49)) ∧ ∀ (r : Int) (τ : Sto), (∀ p : Nat, p ≠ 50 → τ p = σ p) → i32 r → (∀ j, 0 ≤ j → j < 32 → (bb r j = true ↔ j < σ 2 0 ∧ ktC σ j ∧ ∃ m, CloK (KCm σ j) m ∧ difM m (og (σ 48)) a b)) → κ [vI r] τ
  | _ => False
set_option maxRecDepth 20000 in
theorem s_X3_joinsThatHold (o : OM) : Sound o Y_X3_joinsThatHold 5 C_X3_joinsThatHold := by
  intro Q A σ hA hC
  match A, hA, hC with
  | [.inr (.inr (.inl 10)), .inl a, .inl b], hA, hC =>
    obtain ⟨h0, hq⟩ : (NIc σ ∧ nd a ∧ nd b ∧ NetK (KC σ) (σ 48) ∧ NetK (KF σ) (σ 49)) ∧ ∀ (r : Int) (τ : Sto), (∀ p : Nat, p ≠ 50 → τ p = σ p) → i32 r → (∀ j, 0 ≤ j → j < 32 → (bb r j = true ↔ j < σ 2 0 ∧ ktC σ j ∧ ∃ m, CloK (KCm σ j) m ∧ difM m (og (σ 48)) a b)) → Q [vI r] τ := hC
    obtain ⟨hI, ha, hb, hC, hF⟩ := h0
    have hJ := hI.2.1
    refine at_meth (lv := V_X3_joinsThatHold) (B := B_X3_joinsThatHold) (e_X3_joinsThatHold o) k_X3_joinsThatHold 4 [(5, fun m S L τ => ∃ j s : Int, S = [] ∧ L = [vR 10, vI a, vI b, vI s, vI j] ∧ (∀ p : Nat, p ≠ 50 → τ p = σ p) ∧ 0 ≤ j ∧ j ≤ σ 2 0 ∧ i32 s ∧ (∀ i, 0 ≤ i → i < 32 → (bb s i = true ↔ i < j ∧ ktC σ i ∧ ∃ m, CloK (KCm σ i) m ∧ difM m (og (σ 48)) a b)) ∧ m = (12 - j).toNat)] (List.forall_mem_cons.mpr ⟨?_, fun _ h => absurd h List.not_mem_nil⟩) 0 [] _ σ ?_
    · rintro m S L τ ⟨j, s, rfl, rfl, he, j0, j1, si, hs, hm⟩
      simp only [sq_iconst, sq_jsr, sq_anewarray, sq_iload, sq_lload, sq_aload, sq_istore, sq_lstore, sq_astore, sq_iinc, sq_getfield, st_put0, st_put1, st_put3, sq_inv, sq_goto, sq_icmp, sq_ifc, sq_tsw, sq_iadd, sq_isub, sq_imul, sq_ineg, sq_idiv, sq_irem, sq_iand, sq_ior, sq_ixor, sq_ishl, sq_ishr, sq_iushr, sq_ladd, sq_lmul, sq_ldiv, sq_lrem, sq_land, sq_lor, sq_lshl, sq_lushr, sq_lcmp, sq_i2l, sq_l2i, sq_i2c, sq_i2b, sq_dupI, sq_dupR, sq_dup2, sq_pop, sq_iaload, sq_baload, sq_aaload, sq_iastore, sq_bastore, sq_alen, sq_ireturn, sq_lreturn, sq_return, wq_c, wq_n, wlq_s, lkp, tbl, dBk, nth, setL, canSet, cmpI, tk, swK, rdF, entL, catS, cat1, arg, rcv, ald, bld, aln, br, Ccopy, Cmax, Cmin, Cabs, List.take, List.drop, List.reverse, List.reverseAux, List.length, List.append, List.nil_append, List.cons_append, true_and, and_true, and_self, forall_const, true_implies, false_implies, not_true_eq_false, not_false_eq_true, Option.map, reduceCtorEq, reduceIte, or_true, true_or, false_or, or_false, false_and, and_false, List.map, List.append_nil, implies_true, yK, Nat.reduceBEq, beq_self_eq_true, Int.zero_ne_one, Nat.reduceDiv, Nat.reduceMod, Nat.reduceAdd, Nat.reduceSub, Nat.reduceMul, Nat.reduceEqDiff, Nat.reduceLeDiff, Int.reduceToNat, Int.reduceNeg, Int.reduceEq, Int.reduceLT, Int.reduceLE, Int.reduceNatCast, Int.reduceNatCast', Int.reduceAdd, Int.reduceSub, Int.reduceMul, eq_self, Prod.mk.injEq, A_X3_joinsThatHold, V_X3_joinsThatHold, B_X3_joinsThatHold, Y_X3_joinsThatHold, C_X0_isKept, C_X3_isWiderWithout, shpT, rfsT, wjq_s, look, he 2 (by decide)]
      have l3 : lo38 τ σ := fun p hp _ => he p (by omega)
      have eC : KC τ = KC σ := by
        unfold KC KJc ktC
        rw [KF_e l3]
        simp only [he 2 (by decide), he 16 (by decide), he 17 (by decide), he 18 (by decide), he 19 (by decide)]
      have eM : KCm τ j = KCm σ j := by
        unfold KCm KJc ktC
        rw [KF_e l3]
        simp only [he 2 (by decide), he 16 (by decide), he 17 (by decide), he 18 (by decide), he 19 (by decide)]
      have a20 : ¬ σ 2 0 ≤ j → (12 - (j + 1)).toNat < m := fun h => by omega
      have keep : ¬ σ 2 0 ≤ j → ∀ τ' : Sto, (∀ p : Nat, p ≠ 50 → τ' p = σ p) → ¬ (ktC σ j ∧ ∃ m, CloK (KCm σ j) m ∧ difM m (og (σ 48)) a b) → i32 (j + 1) ∧ ∃ m_1, m_1 < m ∧ ∃ j_1 s_1, [vR 10, vI a, vI b, vI s, vI (j + 1)] = [vR 10, vI a, vI b, vI s_1, vI j_1] ∧ (∀ p : Nat, p ≠ 50 → τ' p = σ p) ∧ 0 ≤ j_1 ∧ j_1 ≤ σ 2 0 ∧ i32 s_1 ∧ (∀ i, 0 ≤ i → i < 32 → (bb s_1 i = true ↔ i < j_1 ∧ ktC σ i ∧ ∃ m, CloK (KCm σ i) m ∧ difM m (og (σ 48)) a b)) ∧ m_1 = (12 - j_1).toNat := by
        intro h τ' he' hno
        refine ⟨⟨by omega, by omega⟩, _, a20 h, j + 1, s, rfl, he', (by omega), (by omega), si, fun i i0 i1 => ?_, rfl⟩
        rw [hs i i0 i1]
        constructor
        · rintro ⟨z1, z2⟩; exact ⟨by omega, z2⟩
        · rintro ⟨z1, z2⟩
          refine ⟨?_, z2⟩
          by_cases c : i = j
          · rw [c] at z2; exact absurd z2 hno
          · omega
      refine ⟨fun h => ?_, fun h => ⟨⟨by omega, by omega⟩, fun h1 => ⟨⟨NIc_e l3 hI, ha, hb, by rw [eC, he 48 (by decide)]; exact hC, by rw [KF_e l3, he 49 (by decide)]; exact hF⟩, fun τ' h2 h3 => ?_, fun τ' h2 h3 => ?_⟩, fun h1 => keep h τ he (fun z => h1 z.1)⟩⟩
      · have : j = σ 2 0 := by omega
        subst this
        exact hq s τ he si hs
      · rw [eM, he 48 (by decide)] at h3
        refine ⟨⟨by omega, by omega⟩, _, a20 h, j + 1, _, rfl, fun p hp => by rw [h2 p hp, he p hp], (by omega), (by omega), bOr_i _ _, fun i i0 i1 => ?_, rfl⟩
        rw [bb_or, bb_shl j0 (by omega) i0 i1, Bool.or_eq_true, hs i i0 i1, decide_eq_true_eq]
        constructor
        · rintro (⟨z1, z2⟩ | e)
          · exact ⟨by omega, z2⟩
          · rw [e]; exact ⟨by omega, h1, h3⟩
        · rintro ⟨z1, z2⟩
          by_cases c : i = j
          · exact Or.inr c
          · exact Or.inl ⟨by omega, z2⟩
      · rw [eM, he 48 (by decide)] at h3
        refine keep h τ' (fun p hp => by rw [h2 p hp, he p hp]) ?_
        rintro ⟨-, m1, z1, z2⟩
        obtain ⟨m2, z3, z4⟩ := h3
        refine z4 (fun z => z2 ?_)
        have u := CloK_uni (fun _ _ => Iff.rfl) z1 z3
        exact ⟨(u a b ha hb).trans z.1, (u b a hb ha).trans z.2⟩
    · simp only [sq_iconst, sq_jsr, sq_anewarray, sq_iload, sq_lload, sq_aload, sq_istore, sq_lstore, sq_astore, sq_iinc, sq_getfield, st_put0, st_put1, st_put3, sq_inv, sq_goto, sq_icmp, sq_ifc, sq_tsw, sq_iadd, sq_isub, sq_imul, sq_ineg, sq_idiv, sq_irem, sq_iand, sq_ior, sq_ixor, sq_ishl, sq_ishr, sq_iushr, sq_ladd, sq_lmul, sq_ldiv, sq_lrem, sq_land, sq_lor, sq_lshl, sq_lushr, sq_lcmp, sq_i2l, sq_l2i, sq_i2c, sq_i2b, sq_dupI, sq_dupR, sq_dup2, sq_pop, sq_iaload, sq_baload, sq_aaload, sq_iastore, sq_bastore, sq_alen, sq_ireturn, sq_lreturn, sq_return, wq_c, wq_n, wlq_s, lkp, tbl, dBk, nth, setL, canSet, cmpI, tk, swK, rdF, entL, catS, cat1, arg, rcv, ald, bld, aln, br, Ccopy, Cmax, Cmin, Cabs, List.take, List.drop, List.reverse, List.reverseAux, List.length, List.append, List.nil_append, List.cons_append, true_and, and_true, and_self, forall_const, true_implies, false_implies, not_true_eq_false, not_false_eq_true, Option.map, reduceCtorEq, reduceIte, or_true, true_or, false_or, or_false, false_and, and_false, List.map, List.append_nil, implies_true, yK, Nat.reduceBEq, beq_self_eq_true, Int.zero_ne_one, Nat.reduceDiv, Nat.reduceMod, Nat.reduceAdd, Nat.reduceSub, Nat.reduceMul, Nat.reduceEqDiff, Nat.reduceLeDiff, Int.reduceToNat, Int.reduceNeg, Int.reduceEq, Int.reduceLT, Int.reduceLE, Int.reduceNatCast, Int.reduceNatCast', Int.reduceAdd, Int.reduceSub, Int.reduceMul, eq_self, Prod.mk.injEq, A_X3_joinsThatHold, V_X3_joinsThatHold, B_X3_joinsThatHold, Y_X3_joinsThatHold, C_X0_isKept, C_X3_isWiderWithout, shpT, rfsT, wjq_s, look]
      exact ⟨_, 0, 0, rfl, (by omega), hJ.1, i32_0, fun i i0 i1 => ⟨fun z => by rw [bb_0] at z; exact absurd z (by simp), fun z => by omega⟩, rfl⟩

