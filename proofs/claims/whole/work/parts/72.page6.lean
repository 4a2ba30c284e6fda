-- ===== fault, hand, law =====
theorem Rel_t {τ σ : Sto} (h1 : ∀ p : Nat, ¬ (p = 5 ∨ p = 6 ∨ p = 7 ∨ p = 36 ∨ p = 37 ∨ p = 38 ∨ p = 67 ∨ (74 ≤ p ∧ p ≤ 76)) → τ p = σ p) (h2 : ∀ i, slM i = true → ¬ (i = 8 ∨ i = 9 ∨ i = 11) → τ 67 i = σ 67 i) (hP : RPage τ) (hH : RHand τ) (hL : RLaw τ) (hR : Rel σ) : Rel τ := by
  obtain ⟨r1, r2, -, -, -, r6, r7⟩ := hR
  refine ⟨?_, ?_, hP, hH, hL, ?_, ?_⟩
  · unfold RCur at *
    simp only [h1 1 (by decide), h1 2 (by decide), h1 11 (by decide), h1 12 (by decide), h1 13 (by decide), h1 14 (by decide), h1 15 (by decide), h1 16 (by decide), h1 17 (by decide), h1 18 (by decide), h1 19 (by decide), h1 20 (by decide), h1 21 (by decide), h1 22 (by decide), h1 87 (by decide), h1 88 (by decide)]
    exact r1
  · unfold REq at *
    simp only [h1 1 (by decide), h1 2 (by decide), h1 11 (by decide), h1 12 (by decide), h1 13 (by decide), h1 14 (by decide), h1 15 (by decide), h1 16 (by decide), h1 17 (by decide), h1 18 (by decide), h1 19 (by decide), h1 20 (by decide), h1 21 (by decide), h1 22 (by decide), h1 68 (by decide), h1 69 (by decide), h1 70 (by decide), h1 71 (by decide), h1 72 (by decide), h1 82 (by decide), h1 83 (by decide), h1 84 (by decide), h1 85 (by decide), h1 86 (by decide), h1 89 (by decide), h1 90 (by decide), h2 0 rfl (by decide), h2 32 rfl (by decide), h2 42 rfl (by decide)]
    exact r2
  · unfold RImg at *
    simp only [h1 23 (by decide), h1 24 (by decide), h1 25 (by decide), h1 26 (by decide), h1 27 (by decide), h1 28 (by decide), h1 29 (by decide), h1 30 (by decide), h1 31 (by decide), h1 32 (by decide), h1 33 (by decide), h1 34 (by decide), h1 3 (by decide), h1 4 (by decide), h1 93 (by decide), h1 94 (by decide), h1 95 (by decide), h1 96 (by decide), h1 97 (by decide), h1 0 (by decide), h2 46 rfl (by decide), h2 47 rfl (by decide), h2 48 rfl (by decide)]
    exact r6
  · unfold RCnt at *
    rw [h2 31 rfl (by decide), h2 45 rfl (by decide), h1 0 (by decide)]
    exact r7
theorem CP_same {σ τ : Sto} (h : CP σ τ) : sameS τ σ := ⟨fun p hp => h.1 p (by rintro rfl; exact absurd hp (by decide)) (by rintro rfl; exact absurd hp (by decide)), fun i _ => by rw [h.1 67 (by decide) (by decide)], h.2 0 (by decide), by rw [h.1 0 (by decide) (by decide)], by rw [h.1 0 (by decide) (by decide)], by rw [h.1 0 (by decide) (by decide)]⟩
theorem MP_same {σ τ : Sto} (h : MP σ τ) : sameS τ σ := ⟨fun p hp => h.1 p (by rintro rfl; exact absurd hp (by decide)) (by rintro rfl; exact absurd hp (by decide)), fun i hi => h.2 i (by rintro (rfl | rfl | rfl) <;> exact absurd hi (by decide)), by rw [h.1 5 (by decide) (by decide)], by rw [h.1 0 (by decide) (by decide)], by rw [h.1 0 (by decide) (by decide)], by rw [h.1 0 (by decide) (by decide)]⟩
def A_X8_fault : List (Nat × Ctr) := [(2, rcv 4 2 C_X4_read)]
theorem e_X8_fault (o : OM) : Ev o Y_X8_fault 9 T_X8_fault A_X8_fault := ⟨rfl, List.forall_mem_cons.mpr ⟨Or.inl f_X8_36, fun _ h => absurd h List.not_mem_nil⟩, fun _ h => absurd h List.not_mem_nil, fun _ h => absurd h List.not_mem_nil, fun _ h => absurd h List.not_mem_nil, List.forall_mem_cons.mpr ⟨cl_X4_read (s_X4_read o) (by decide) (Or.inr ⟨_, wn_54⟩), fun _ h => absurd h List.not_mem_nil⟩, fun _ h => absurd h List.not_mem_nil⟩
def C_X8_fault : Ctr := fun A σ k => wpl A_X8_fault V_X8_fault (yK Y_X8_fault) B_X8_fault k 2 0 [] (entL A) σ
theorem s_X8_fault (o : OM) : Sound o Y_X8_fault 9 C_X8_fault := fun Q A σ _ hC => at_wpl (e_X8_fault o) k_X8_fault 2 0 [] (entL A) σ hC
def A_X9_fault : List (Nat × Ctr) := [(3, arg 6 C_X9_in), (2, rcv 9 3 C_X9_faultOf)]
theorem e_X9_fault (o : OM) : Ev o Y_X9_fault 3 T_X9_fault A_X9_fault := ⟨rfl, fun _ h => absurd h List.not_mem_nil, fun _ h => absurd h List.not_mem_nil, fun _ h => absurd h List.not_mem_nil, fun _ h => absurd h List.not_mem_nil, List.forall_mem_cons.mpr ⟨cl_X9_faultOf (s_X9_faultOf o) (by decide) (Or.inl w_1348), fun _ h => absurd h List.not_mem_nil⟩, List.forall_mem_cons.mpr ⟨cl_X9_in (s_X9_in o) (by decide) (Or.inl w_1260), fun _ h => absurd h List.not_mem_nil⟩⟩
def C_X9_fault : Ctr := fun A σ k => wpl A_X9_fault V_X9_fault (yK Y_X9_fault) B_X9_fault k 3 0 [] (entL A) σ
theorem s_X9_fault (o : OM) : Sound o Y_X9_fault 3 C_X9_fault := fun Q A σ _ hC => at_wpl (e_X9_fault o) k_X9_fault 3 0 [] (entL A) σ hC
theorem op_fault {σ : Sto} (hR : Rel σ) {a : Int} {κ : List AV → Sto → Prop} (hκ : ∀ v τ, Mid C_X9_fault [vR 67, vI a] (σ 102) v τ → κ [vI v] τ) : C_X8_fault [vR 0, vI a] σ κ := by
  obtain ⟨⟨c1, c2, c3, c4, c5, c6, c7, c8, c9, c10, c11, c12, c13, c14, c15, c16⟩, ⟨e1, e2, e3, e4, e5, e6, e7, e8, e9, e10, e11, e12, e13, e14, e15⟩, ⟨g1, g2, g3, g4⟩, ⟨h1, h2, h3, h4, h5, h6⟩, ⟨l1, l2, l3, l4⟩, hImg, ⟨n1, n2, n3, n4⟩⟩ := id hR
  have core : ∀ (v : Int) (τ : Sto), (a = 0 ∨ a = 1) → CP σ τ → ((∃ k : Nat, v = k ∧ Fl (a + 1) (σ 35) (σ 5 0) k) ∨ (v = σ 5 0 ∧ ∃ z, rdk (a + 1) (σ 35) (σ 5 0).toNat = some z)) → κ [vI v] τ := by
    intro v τ ha hC hv
    refine hκ _ _ (fun κ' hκ' => ?_)
    have t8 : τ 67 8 = σ 5 0 := by rw [hC.1 67 (by decide) (by decide), g1]
    have t73 : τ 73 = σ 35 := by rw [hC.1 73 (by decide) (by decide), g3]
    simp only [C_X9_fault, sq_iconst, sq_jsr, sq_anewarray, sq_iload, sq_lload, sq_aload, sq_istore, sq_lstore, sq_astore, sq_iinc, sq_getfield, st_put0, st_put1, st_put3, sq_inv, sq_goto, sq_icmp, sq_ifc, sq_tsw, sq_iadd, sq_isub, sq_imul, sq_ineg, sq_idiv, sq_irem, sq_iand, sq_ior, sq_ixor, sq_ishl, sq_ishr, sq_iushr, sq_ladd, sq_lmul, sq_ldiv, sq_lrem, sq_land, sq_lor, sq_lshl, sq_lushr, sq_lcmp, sq_i2l, sq_l2i, sq_i2c, sq_i2b, sq_dupI, sq_dupR, sq_dup2, sq_pop, sq_iaload, sq_baload, sq_aaload, sq_iastore, sq_bastore, sq_alen, sq_ireturn, sq_lreturn, sq_return, wq_c, wq_n, wlq_s, lkp, tbl, dBk, nth, setL, canSet, cmpI, tk, swK, rdF, entL, catS, cat1, arg, rcv, ald, bld, aln, br, Ccopy, Cmax, Cmin, Cabs, List.take, List.drop, List.reverse, List.reverseAux, List.length, List.append, List.nil_append, List.cons_append, true_and, and_true, and_self, forall_const, true_implies, false_implies, not_true_eq_false, not_false_eq_true, Option.map, reduceCtorEq, reduceIte, or_true, true_or, false_or, or_false, false_and, and_false, List.map, List.append_nil, implies_true, yK, Nat.reduceBEq, beq_self_eq_true, Int.zero_ne_one, Nat.reduceDiv, Nat.reduceMod, Nat.reduceAdd, Nat.reduceSub, Nat.reduceMul, Nat.reduceEqDiff, Nat.reduceLeDiff, Int.reduceToNat, Int.reduceNeg, Int.reduceEq, Int.reduceLT, Int.reduceLE, Int.reduceNatCast, Int.reduceNatCast', Int.reduceAdd, Int.reduceSub, Int.reduceMul, eq_self, Prod.mk.injEq, A_X9_fault, V_X9_fault, B_X9_fault, Y_X9_fault, C_X9_in, C_X9_faultOf, shpT, rfsT, br, rdM, t8, t73]
    have fin : ∀ T, MP τ T → κ' [vI v] T := fun T hM => hκ' T (Rel_e (MP_same hM) (Rel_e (CP_same hC) hR)) (by rw [hM.1 102 (by decide) (by decide), hC.1 102 (by decide) (by decide)])
    refine ⟨fun _ => ⟨⟨ha, g2, g4⟩, fun k' f1 T hM => ?_, fun z' f1 T hM _ => ?_⟩, fun z => absurd ⟨by clear hv; omega, by clear hv; omega⟩ z⟩
    · rcases hv with ⟨k, rfl, f2⟩ | ⟨-, z, f2⟩
      · rw [Fl_uni f1 f2]; exact fin T hM
      · exact (Fl_not f1 f2).elim
    · rcases hv with ⟨k, rfl, f2⟩ | ⟨rfl, z, f2⟩
      · exact (Fl_not f2 f1).elim
      · exact fin T hM
  simp only [C_X8_fault, sq_iconst, sq_jsr, sq_anewarray, sq_iload, sq_lload, sq_aload, sq_istore, sq_lstore, sq_astore, sq_iinc, sq_getfield, st_put0, st_put1, st_put3, sq_inv, sq_goto, sq_icmp, sq_ifc, sq_tsw, sq_iadd, sq_isub, sq_imul, sq_ineg, sq_idiv, sq_irem, sq_iand, sq_ior, sq_ixor, sq_ishl, sq_ishr, sq_iushr, sq_ladd, sq_lmul, sq_ldiv, sq_lrem, sq_land, sq_lor, sq_lshl, sq_lushr, sq_lcmp, sq_i2l, sq_l2i, sq_i2c, sq_i2b, sq_dupI, sq_dupR, sq_dup2, sq_pop, sq_iaload, sq_baload, sq_aaload, sq_iastore, sq_bastore, sq_alen, sq_ireturn, sq_lreturn, sq_return, wq_c, wq_n, wlq_s, lkp, tbl, dBk, nth, setL, canSet, cmpI, tk, swK, rdF, entL, catS, cat1, arg, rcv, ald, bld, aln, br, Ccopy, Cmax, Cmin, Cabs, List.take, List.drop, List.reverse, List.reverseAux, List.length, List.append, List.nil_append, List.cons_append, true_and, and_true, and_self, forall_const, true_implies, false_implies, not_true_eq_false, not_false_eq_true, Option.map, reduceCtorEq, reduceIte, or_true, true_or, false_or, or_false, false_and, and_false, List.map, List.append_nil, implies_true, yK, Nat.reduceBEq, beq_self_eq_true, Int.zero_ne_one, Nat.reduceDiv, Nat.reduceMod, Nat.reduceAdd, Nat.reduceSub, Nat.reduceMul, Nat.reduceEqDiff, Nat.reduceLeDiff, Int.reduceToNat, Int.reduceNeg, Int.reduceEq, Int.reduceLT, Int.reduceLE, Int.reduceNatCast, Int.reduceNatCast', Int.reduceAdd, Int.reduceSub, Int.reduceMul, eq_self, Prod.mk.injEq, A_X8_fault, V_X8_fault, B_X8_fault, Y_X8_fault, C_X4_read, shpT, rfsT, br, rdC]
  have key : (a = 0 ∨ a = 1) → ((a = 0 ∨ a = 1) ∧ (0 ≤ σ 5 0 ∧ σ 5 0 ≤ 30) ∧ ∀ (j : Int), 0 ≤ j → j < 30 → 0 ≤ σ 35 j ∧ σ 35 j ≤ 126) ∧ (∀ (k : Nat), Fl (a + 1) (σ 35) (σ 5 0) k → ∀ (τ : Sto), CP σ τ → τ 5 2 = 0 → κ [vI (k : Int)] τ) ∧ ∀ (z : Zr), rdk (a + 1) (σ 35) (σ 5 0).toNat = some z → ∀ (τ : Sto), CP σ τ → (∀ (j : Int), 0 ≤ j → j < 7 → τ 36 j = z.snd.snd.snd j) → (τ 5 2 = if ¬z.fst = -1 ∧ 0 < z.snd.snd.fst then 1 else 0) → κ [vI (σ 5 0)] τ :=
    fun ha => ⟨⟨ha, g2, g4⟩, fun k f τ hC _ => core _ τ ha hC (Or.inl ⟨k, rfl, f⟩), fun z f τ hC _ _ => core _ τ ha hC (Or.inr ⟨rfl, z, f⟩)⟩
  refine ⟨fun h => key (Or.inl h), fun h => ⟨fun h1 => key (Or.inr h1), fun h1 => hκ _ _ (fun κ' hκ' => ?_)⟩⟩
  simp only [C_X9_fault, sq_iconst, sq_jsr, sq_anewarray, sq_iload, sq_lload, sq_aload, sq_istore, sq_lstore, sq_astore, sq_iinc, sq_getfield, st_put0, st_put1, st_put3, sq_inv, sq_goto, sq_icmp, sq_ifc, sq_tsw, sq_iadd, sq_isub, sq_imul, sq_ineg, sq_idiv, sq_irem, sq_iand, sq_ior, sq_ixor, sq_ishl, sq_ishr, sq_iushr, sq_ladd, sq_lmul, sq_ldiv, sq_lrem, sq_land, sq_lor, sq_lshl, sq_lushr, sq_lcmp, sq_i2l, sq_l2i, sq_i2c, sq_i2b, sq_dupI, sq_dupR, sq_dup2, sq_pop, sq_iaload, sq_baload, sq_aaload, sq_iastore, sq_bastore, sq_alen, sq_ireturn, sq_lreturn, sq_return, wq_c, wq_n, wlq_s, lkp, tbl, dBk, nth, setL, canSet, cmpI, tk, swK, rdF, entL, catS, cat1, arg, rcv, ald, bld, aln, br, Ccopy, Cmax, Cmin, Cabs, List.take, List.drop, List.reverse, List.reverseAux, List.length, List.append, List.nil_append, List.cons_append, true_and, and_true, and_self, forall_const, true_implies, false_implies, not_true_eq_false, not_false_eq_true, Option.map, reduceCtorEq, reduceIte, or_true, true_or, false_or, or_false, false_and, and_false, List.map, List.append_nil, implies_true, yK, Nat.reduceBEq, beq_self_eq_true, Int.zero_ne_one, Nat.reduceDiv, Nat.reduceMod, Nat.reduceAdd, Nat.reduceSub, Nat.reduceMul, Nat.reduceEqDiff, Nat.reduceLeDiff, Int.reduceToNat, Int.reduceNeg, Int.reduceEq, Int.reduceLT, Int.reduceLE, Int.reduceNatCast, Int.reduceNatCast', Int.reduceAdd, Int.reduceSub, Int.reduceMul, eq_self, Prod.mk.injEq, A_X9_fault, V_X9_fault, B_X9_fault, Y_X9_fault, C_X9_in, C_X9_faultOf, shpT, rfsT, br]
  exact ⟨fun z => by omega, fun _ => hκ' _ hR rfl⟩
/-- a row of told numbers, as the class keeps it -/
def pln (k : Int) : Int := if k = 0 then 9 else if k = 1 then 3 else if k = 2 then 1 else 40
def lwv (r : Int → Int) (k : Int) : Int := if r k = -1 then pln k else r k
def prw (f : Int → Int) (s : Int) (g : Int → Int) (n : Int) : Int → Int := fun j => if s ≤ j ∧ j < s + n then g (j - s) else f j
theorem prw_0 {f g : Int → Int} {s : Int} : f = prw f s g 0 := by
  funext j; unfold prw; rw [if_neg (by omega)]
theorem prw_s {f g : Int → Int} {s k v : Int} (h : 0 ≤ k) (hv : v = g k) : upI (prw f s g k) (s + k) v = prw f s g (k + 1) := by
  subst hv
  funext j
  unfold upI prw
  by_cases e : j = s + k
  · subst e
    rw [if_pos rfl, if_pos (by omega), show s + k - s = k by omega]
  · rw [if_neg e]
    by_cases c : s ≤ j ∧ j < s + k
    · rw [if_pos c, if_pos (by omega)]
    · rw [if_neg c, if_neg (by omega)]
theorem pln_s {k : Int} (h0 : 0 ≤ k) (h1 : k < 4) : (stc 99).getD k.toNat 0 = pln k := by
  have hc : k = 0 ∨ k = 1 ∨ k = 2 ∨ k = 3 := by omega
  rcases hc with rfl | rfl | rfl | rfl <;> rfl
def A_X2_take : List (Nat × Ctr) := []
theorem e_X2_take (o : OM) : Ev o Y_X2_take 0 T_X2_take A_X2_take := ⟨rfl, List.forall_mem_cons.mpr ⟨Or.inl f_X2_9, List.forall_mem_cons.mpr ⟨Or.inl f_X2_15, fun _ h => absurd h List.not_mem_nil⟩⟩, fun _ h => absurd h List.not_mem_nil, fun _ h => absurd h List.not_mem_nil, List.forall_mem_cons.mpr ⟨ref_st w_599 (by decide) (by decide) (fun s h => h.2.2.2.1.2.1.1), fun _ h => absurd h List.not_mem_nil⟩, fun _ h => absurd h List.not_mem_nil, fun _ h => absurd h List.not_mem_nil⟩
def C_X2_take : Ctr := fun A σ κ => match A with
  | [.inr (.inr (.inl 7)), .inr (.inr (.inl q))] => (q = 36 ∧ (0 ≤ σ 7 0 ∧ σ 7 0 ≤ 4)) ∧ (4 ≤ σ 7 0 → κ [vI (-1)] σ) ∧ (σ 7 0 < 4 → ∀ τ : Sto, (∀ p : Nat, ¬ p = 7 → ¬ p = 38 → τ p = σ p) → τ 7 0 = σ 7 0 + 1 → τ 38 = prw (σ 38) (σ 7 0 * 4) (lwv (σ 36)) 4 → κ [vI (σ 7 0)] τ)
  | _ => False
set_option maxRecDepth 20000 in
theorem s_X2_take (o : OM) : Sound o Y_X2_take 0 C_X2_take := by
  intro Q A σ hA hC
  match A, hA, hC with
  | [.inr (.inr (.inl 7)), .inr (.inr (.inl q))], hA, hC =>
    obtain ⟨h0, hq⟩ : (q = 36 ∧ (0 ≤ σ 7 0 ∧ σ 7 0 ≤ 4)) ∧ (4 ≤ σ 7 0 → Q [vI (-1)] σ) ∧ (σ 7 0 < 4 → ∀ τ : Sto, (∀ p : Nat, ¬ p = 7 → ¬ p = 38 → τ p = σ p) → τ 7 0 = σ 7 0 + 1 → τ 38 = prw (σ 38) (σ 7 0 * 4) (lwv (σ 36)) 4 → Q [vI (σ 7 0)] τ) := hC
    obtain ⟨rfl, h7⟩ := h0
    obtain ⟨P14, hP14⟩ : ∃ P : Nat → List AV → List AV → Sto → Prop, P = fun m S L τ => ∃ k : Int, S = [] ∧ L = [vR 7, vR 36, vI (σ 7 0), vI k] ∧ σ 7 0 < 4 ∧ (∀ p : Nat, ¬ p = 38 → τ p = σ p) ∧ (0 ≤ k ∧ k ≤ 4) ∧ τ 38 = prw (σ 38) (σ 7 0 * 4) (lwv (σ 36)) k ∧ m = (4 - k).toNat := ⟨_, rfl⟩
    refine at_meth (lv := V_X2_take) (B := B_X2_take) (e_X2_take o) k_X2_take 5 [(14, P14)] (List.forall_mem_cons.mpr ⟨?_, fun _ h => absurd h List.not_mem_nil⟩) 0 [] _ σ ?_
    · intro m S L τ hI
      rw [hP14] at hI
      obtain ⟨k, rfl, rfl, hlt, he, hk, h38, hm⟩ := hI
      have t7 : τ 7 = σ 7 := he 7 (by decide)
      have t36 : τ 36 = σ 36 := he 36 (by decide)
      simp only [sq_iconst, sq_jsr, sq_anewarray, sq_iload, sq_lload, sq_aload, sq_istore, sq_lstore, sq_astore, sq_iinc, sq_getfield, st_put0, st_put1, st_put3, sq_inv, sq_goto, sq_icmp, sq_ifc, sq_tsw, sq_iadd, sq_isub, sq_imul, sq_ineg, sq_idiv, sq_irem, sq_iand, sq_ior, sq_ixor, sq_ishl, sq_ishr, sq_iushr, sq_ladd, sq_lmul, sq_ldiv, sq_lrem, sq_land, sq_lor, sq_lshl, sq_lushr, sq_lcmp, sq_i2l, sq_l2i, sq_i2c, sq_i2b, sq_dupI, sq_dupR, sq_dup2, sq_pop, sq_iaload, sq_baload, sq_aaload, sq_iastore, sq_bastore, sq_alen, sq_ireturn, sq_lreturn, sq_return, wq_c, wq_n, wlq_s, lkp, tbl, dBk, nth, setL, canSet, cmpI, tk, swK, rdF, entL, catS, cat1, arg, rcv, ald, bld, aln, br, Ccopy, Cmax, Cmin, Cabs, List.take, List.drop, List.reverse, List.reverseAux, List.length, List.append, List.nil_append, List.cons_append, true_and, and_true, and_self, forall_const, true_implies, false_implies, not_true_eq_false, not_false_eq_true, Option.map, reduceCtorEq, reduceIte, or_true, true_or, false_or, or_false, false_and, and_false, List.map, List.append_nil, implies_true, yK, Nat.reduceBEq, beq_self_eq_true, Int.zero_ne_one, Nat.reduceDiv, Nat.reduceMod, Nat.reduceAdd, Nat.reduceSub, Nat.reduceMul, Nat.reduceEqDiff, Nat.reduceLeDiff, Int.reduceToNat, Int.reduceNeg, Int.reduceEq, Int.reduceLT, Int.reduceLE, Int.reduceNatCast, Int.reduceNatCast', Int.reduceAdd, Int.reduceSub, Int.reduceMul, eq_self, Prod.mk.injEq, A_X2_take, V_X2_take, B_X2_take, Y_X2_take, shpT, rfsT, wjq_s, look, br, t7, t36]
      have nx : ∀ v, ¬ 4 ≤ k → v = lwv (σ 36) k → (0 ≤ σ 7 0 * 4 + k ∧ σ 7 0 * 4 + k < 16) ∧ i32 (k + 1) ∧ ∃ m_1, m_1 < m ∧ P14 m_1 [] [vR 7, vR 36, vI (σ 7 0), vI (k + 1)] (su τ 38 (σ 7 0 * 4 + k) v) := by
        intro v h hv
        rw [hP14]
        refine ⟨⟨by omega, by omega⟩, ⟨by omega, by omega⟩, _, ?_, k + 1, rfl, rfl, hlt, fun p hp => by rw [su_r hp]; exact he p hp, ⟨by omega, by omega⟩, ?_, rfl⟩
        · omega
        · rw [su_u, h38, prw_s hk.1 hv]
      refine ⟨fun h => ⟨⟨by omega, by omega⟩, ?_⟩, fun h => ⟨⟨by omega, by omega⟩, ⟨by omega, by omega⟩, ⟨by omega, by omega⟩, fun h1 => ⟨⟨by omega, by omega⟩, nx _ h (by unfold lwv; rw [if_neg h1])⟩, fun h1 => ⟨⟨by omega, by omega⟩, nx _ h (by unfold lwv; rw [if_pos (Classical.not_not.mp h1), pln_s hk.1 (by omega)])⟩⟩⟩
      have e : k = 4 := by omega
      subst e
      exact hq.2 hlt (su τ 7 0 (σ 7 0 + 1)) (fun p p7 p38 => by rw [su_r p7]; exact he p p38) su_y (by rw [su_r (by decide)]; exact h38)
    · simp only [sq_iconst, sq_jsr, sq_anewarray, sq_iload, sq_lload, sq_aload, sq_istore, sq_lstore, sq_astore, sq_iinc, sq_getfield, st_put0, st_put1, st_put3, sq_inv, sq_goto, sq_icmp, sq_ifc, sq_tsw, sq_iadd, sq_isub, sq_imul, sq_ineg, sq_idiv, sq_irem, sq_iand, sq_ior, sq_ixor, sq_ishl, sq_ishr, sq_iushr, sq_ladd, sq_lmul, sq_ldiv, sq_lrem, sq_land, sq_lor, sq_lshl, sq_lushr, sq_lcmp, sq_i2l, sq_l2i, sq_i2c, sq_i2b, sq_dupI, sq_dupR, sq_dup2, sq_pop, sq_iaload, sq_baload, sq_aaload, sq_iastore, sq_bastore, sq_alen, sq_ireturn, sq_lreturn, sq_return, wq_c, wq_n, wlq_s, lkp, tbl, dBk, nth, setL, canSet, cmpI, tk, swK, rdF, entL, catS, cat1, arg, rcv, ald, bld, aln, br, Ccopy, Cmax, Cmin, Cabs, List.take, List.drop, List.reverse, List.reverseAux, List.length, List.append, List.nil_append, List.cons_append, true_and, and_true, and_self, forall_const, true_implies, false_implies, not_true_eq_false, not_false_eq_true, Option.map, reduceCtorEq, reduceIte, or_true, true_or, false_or, or_false, false_and, and_false, List.map, List.append_nil, implies_true, yK, Nat.reduceBEq, beq_self_eq_true, Int.zero_ne_one, Nat.reduceDiv, Nat.reduceMod, Nat.reduceAdd, Nat.reduceSub, Nat.reduceMul, Nat.reduceEqDiff, Nat.reduceLeDiff, Int.reduceToNat, Int.reduceNeg, Int.reduceEq, Int.reduceLT, Int.reduceLE, Int.reduceNatCast, Int.reduceNatCast', Int.reduceAdd, Int.reduceSub, Int.reduceMul, eq_self, Prod.mk.injEq, A_X2_take, V_X2_take, B_X2_take, Y_X2_take, shpT, rfsT, wjq_s, look, br]
      rw [hP14]
      exact ⟨fun h => ⟨_, 0, rfl, rfl, (by omega), fun _ _ => rfl, ⟨by omega, by omega⟩, prw_0, rfl⟩, fun h => hq.1 (by omega)⟩
/-- what a call that takes a text does, on the reference's side: row q from s on, size in slot i -/
def tkM (ml : Int) (σ : Sto) (q : Nat) (i s n : Int) (g : (Int → Int) → Int → Int) (κ : List AV → Sto → Prop) : Prop :=
  (∀ k : Nat, Fl ml (σ 73) (σ 67 8) k → ∀ τ, MP σ τ → κ [vI (-103)] τ) ∧
  (∀ z, rdk ml (σ 73) (σ 67 8).toNat = some z → (¬ (¬ z.1 = -1 ∧ 0 < z.2.2.1) → ∀ τ, MP σ τ → κ [vI (-103)] τ) ∧ ((¬ z.1 = -1 ∧ 0 < z.2.2.1) → (σ 67 i = 4 → ∀ τ, MP σ τ → κ [vI (-104)] τ) ∧
    (¬ σ 67 i = 4 → ∀ τ : Sto, (∀ p : Nat, ¬ p = 67 → ¬ p = 76 → ¬ p = q → τ p = σ p) → (∀ j, ¬ (j = 14 ∨ j = 15 ∨ j = 16) → ¬ j = 8 → ¬ j = i → τ 67 j = σ 67 j) → τ 67 8 = 0 → τ 67 i = σ 67 i + 1 → τ q = prw (σ q) s (g z.2.2.2) n → κ [vI (σ 67 i)] τ)))
def A_X9_hand : List (Nat × Ctr) := [(2, rcv 9 3 C_X9_faultOf)]
theorem e_X9_hand (o : OM) : Ev o Y_X9_hand 3 T_X9_hand A_X9_hand := ⟨rfl, List.forall_mem_cons.mpr ⟨Or.inl f_X9_176, List.forall_mem_cons.mpr ⟨Or.inl f_X9_179, List.forall_mem_cons.mpr ⟨Or.inl f_X9_204, List.forall_mem_cons.mpr ⟨Or.inl f_X9_28, List.forall_mem_cons.mpr ⟨Or.inl f_X9_34, fun _ h => absurd h List.not_mem_nil⟩⟩⟩⟩⟩, fun _ h => absurd h List.not_mem_nil, fun _ h => absurd h List.not_mem_nil, fun _ h => absurd h List.not_mem_nil, List.forall_mem_cons.mpr ⟨cl_X9_faultOf (s_X9_faultOf o) (by decide) (Or.inl w_1348), fun _ h => absurd h List.not_mem_nil⟩, fun _ h => absurd h List.not_mem_nil⟩
def C_X9_hand : Ctr := fun A σ κ => match A with
  | [.inr (.inr (.inl 67))] => ((0 ≤ σ 67 8 ∧ σ 67 8 ≤ 30) ∧ (∀ j, 0 ≤ j → j < 30 → 0 ≤ σ 73 j ∧ σ 73 j ≤ 126) ∧ (0 ≤ σ 67 9 ∧ σ 67 9 ≤ 4)) ∧ tkM 1 σ 74 9 (7 * σ 67 9) 7 (fun r => r) κ
  | _ => False
set_option maxRecDepth 20000 in
theorem s_X9_hand (o : OM) : Sound o Y_X9_hand 3 C_X9_hand := by
  intro Q A σ hA hC
  match A, hA, hC with
  | [.inr (.inr (.inl 67))], hA, hC =>
    obtain ⟨h0, hq⟩ : ((0 ≤ σ 67 8 ∧ σ 67 8 ≤ 30) ∧ (∀ j, 0 ≤ j → j < 30 → 0 ≤ σ 73 j ∧ σ 73 j ≤ 126) ∧ (0 ≤ σ 67 9 ∧ σ 67 9 ≤ 4)) ∧ tkM 1 σ 74 9 (7 * σ 67 9) 7 (fun r => r) Q := hC
    obtain ⟨h8, h73, h9⟩ := h0
    obtain ⟨hq1, hq2⟩ := hq
    obtain ⟨P36, hP36⟩ : ∃ P : Nat → List AV → List AV → Sto → Prop, P = fun m S L τ => ∃ (k : Int) (z : Zr), S = [] ∧ L = [vR 67, vI k] ∧ rdk 1 (σ 73) (σ 67 8).toNat = some z ∧ (¬ z.1 = -1 ∧ 0 < z.2.2.1) ∧ ¬ σ 67 9 = 4 ∧ (∀ p : Nat, ¬ p = 67 → ¬ p = 76 → ¬ p = 74 → τ p = σ p) ∧ (∀ i, ¬ (i = 14 ∨ i = 15 ∨ i = 16) → τ 67 i = σ 67 i) ∧ (∀ j, 0 ≤ j → j < 7 → τ 76 j = z.2.2.2 j) ∧ (0 ≤ k ∧ k ≤ 7) ∧ τ 74 = prw (σ 74) (7 * σ 67 9) z.2.2.2 k ∧ m = (7 - k).toNat := ⟨_, rfl⟩
    refine at_meth (lv := V_X9_hand) (B := B_X9_hand) (e_X9_hand o) k_X9_hand 5 [(36, P36)] (List.forall_mem_cons.mpr ⟨?_, fun _ h => absurd h List.not_mem_nil⟩) 0 [] _ σ ?_
    · intro m S L τ hI
      rw [hP36] at hI
      obtain ⟨k, z, rfl, rfl, hz, hzz, hn4, he, hi, h76, hk, h74, hm⟩ := hI
      have t9 : τ 67 9 = σ 67 9 := hi 9 (by decide)
      have e9 : su (su τ 67 9 (σ 67 9 + 1)) 67 8 0 67 9 = σ 67 9 + 1 := by rw [su_x (by decide), su_y]
      simp only [sq_iconst, sq_jsr, sq_anewarray, sq_iload, sq_lload, sq_aload, sq_istore, sq_lstore, sq_astore, sq_iinc, sq_getfield, st_put0, st_put1, st_put3, sq_inv, sq_goto, sq_icmp, sq_ifc, sq_tsw, sq_iadd, sq_isub, sq_imul, sq_ineg, sq_idiv, sq_irem, sq_iand, sq_ior, sq_ixor, sq_ishl, sq_ishr, sq_iushr, sq_ladd, sq_lmul, sq_ldiv, sq_lrem, sq_land, sq_lor, sq_lshl, sq_lushr, sq_lcmp, sq_i2l, sq_l2i, sq_i2c, sq_i2b, sq_dupI, sq_dupR, sq_dup2, sq_pop, sq_iaload, sq_baload, sq_aaload, sq_iastore, sq_bastore, sq_alen, sq_ireturn, sq_lreturn, sq_return, wq_c, wq_n, wlq_s, lkp, tbl, dBk, nth, setL, canSet, cmpI, tk, swK, rdF, entL, catS, cat1, arg, rcv, ald, bld, aln, br, Ccopy, Cmax, Cmin, Cabs, List.take, List.drop, List.reverse, List.reverseAux, List.length, List.append, List.nil_append, List.cons_append, true_and, and_true, and_self, forall_const, true_implies, false_implies, not_true_eq_false, not_false_eq_true, Option.map, reduceCtorEq, reduceIte, or_true, true_or, false_or, or_false, false_and, and_false, List.map, List.append_nil, implies_true, yK, Nat.reduceBEq, beq_self_eq_true, Int.zero_ne_one, Nat.reduceDiv, Nat.reduceMod, Nat.reduceAdd, Nat.reduceSub, Nat.reduceMul, Nat.reduceEqDiff, Nat.reduceLeDiff, Int.reduceToNat, Int.reduceNeg, Int.reduceEq, Int.reduceLT, Int.reduceLE, Int.reduceNatCast, Int.reduceNatCast', Int.reduceAdd, Int.reduceSub, Int.reduceMul, eq_self, Prod.mk.injEq, A_X9_hand, V_X9_hand, B_X9_hand, Y_X9_hand, C_X9_faultOf, shpT, rfsT, wjq_s, look, br, t9, e9]
      have nx : ∀ v, ¬ 7 ≤ k → v = z.2.2.2 k → (0 ≤ 7 * σ 67 9 + k ∧ 7 * σ 67 9 + k < 28) ∧ i32 (k + 1) ∧ ∃ m_1, m_1 < m ∧ P36 m_1 [] [vR 67, vI (k + 1)] (su τ 74 (7 * σ 67 9 + k) v) := by
        intro v h hv
        rw [hP36]
        refine ⟨⟨by omega, by omega⟩, ⟨by omega, by omega⟩, _, ?_, k + 1, z, rfl, rfl, hz, hzz, hn4, fun p p1 p2 p3 => by rw [su_r p3]; exact he p p1 p2 p3, fun i hi' => by rw [su_r (by decide)]; exact hi i hi', fun j j0 j1 => by rw [su_r (by decide)]; exact h76 j j0 j1, ⟨by omega, by omega⟩, ?_, rfl⟩
        · omega
        · rw [su_u, h74, prw_s hk.1 hv]
      have fi : 7 ≤ k → i32 (σ 67 9 + 1) ∧ i32 (σ 67 9 + 1 - 1) ∧ Q [vI (σ 67 9 + 1 - 1)] (su (su τ 67 9 (σ 67 9 + 1)) 67 8 0) := fun h => by
        have ek : k = 7 := by omega
        subst ek
        refine ⟨⟨by omega, by omega⟩, ⟨by omega, by omega⟩, ?_⟩
        rw [show σ 67 9 + 1 - 1 = σ 67 9 by omega]
        exact ((hq2 z hz).2 hzz).2 hn4 _ (fun p p1 p2 p3 => by rw [su_r p1, su_r p1]; exact he p p1 p2 p3) (fun j j1 j2 j3 => by rw [su_x j2, su_x j3]; exact hi j j1) su_y e9 (by rw [su_r (by decide), su_r (by decide)]; exact h74)
      exact ⟨fi, fun h => ⟨⟨by omega, by omega⟩, ⟨by omega, by omega⟩, ⟨by omega, by omega⟩, nx _ h (h76 k hk.1 (by omega))⟩⟩
    · simp only [sq_iconst, sq_jsr, sq_anewarray, sq_iload, sq_lload, sq_aload, sq_istore, sq_lstore, sq_astore, sq_iinc, sq_getfield, st_put0, st_put1, st_put3, sq_inv, sq_goto, sq_icmp, sq_ifc, sq_tsw, sq_iadd, sq_isub, sq_imul, sq_ineg, sq_idiv, sq_irem, sq_iand, sq_ior, sq_ixor, sq_ishl, sq_ishr, sq_iushr, sq_ladd, sq_lmul, sq_ldiv, sq_lrem, sq_land, sq_lor, sq_lshl, sq_lushr, sq_lcmp, sq_i2l, sq_l2i, sq_i2c, sq_i2b, sq_dupI, sq_dupR, sq_dup2, sq_pop, sq_iaload, sq_baload, sq_aaload, sq_iastore, sq_bastore, sq_alen, sq_ireturn, sq_lreturn, sq_return, wq_c, wq_n, wlq_s, lkp, tbl, dBk, nth, setL, canSet, cmpI, tk, swK, rdF, entL, catS, cat1, arg, rcv, ald, bld, aln, br, Ccopy, Cmax, Cmin, Cabs, List.take, List.drop, List.reverse, List.reverseAux, List.length, List.append, List.nil_append, List.cons_append, true_and, and_true, and_self, forall_const, true_implies, false_implies, not_true_eq_false, not_false_eq_true, Option.map, reduceCtorEq, reduceIte, or_true, true_or, false_or, or_false, false_and, and_false, List.map, List.append_nil, implies_true, yK, Nat.reduceBEq, beq_self_eq_true, Int.zero_ne_one, Nat.reduceDiv, Nat.reduceMod, Nat.reduceAdd, Nat.reduceSub, Nat.reduceMul, Nat.reduceEqDiff, Nat.reduceLeDiff, Int.reduceToNat, Int.reduceNeg, Int.reduceEq, Int.reduceLT, Int.reduceLE, Int.reduceNatCast, Int.reduceNatCast', Int.reduceAdd, Int.reduceSub, Int.reduceMul, eq_self, Prod.mk.injEq, A_X9_hand, V_X9_hand, B_X9_hand, Y_X9_hand, C_X9_faultOf, shpT, rfsT, wjq_s, look, br, rdM]
      refine ⟨⟨h8, h73⟩, fun k hk τ hM => ?_, fun z hz τ hM hZ => ?_⟩
      · have t8 : τ 67 8 = σ 67 8 := hM.2 8 (by decide)
        have := hk.1
        rw [t8]
        exact ⟨fun _ => hq1 k hk τ hM, fun w => absurd this w⟩
      · have t8 : τ 67 8 = σ 67 8 := hM.2 8 (by decide)
        have t9 : τ 67 9 = σ 67 9 := hM.2 9 (by decide)
        rw [t8, t9]
        have st : 2 ≤ τ 67 14 ↔ (¬ z.1 = -1 ∧ 0 < z.2.2.1) := by
          constructor
          · intro w
            have h1 : ¬ z.1 = -1 := fun y => by have := hZ.1 y; omega
            have := (hZ.2.1 h1).1
            exact ⟨h1, by omega⟩
          · intro w
            have := (hZ.2.1 w.1).1
            omega
        obtain ⟨a1, a2⟩ := hq2 z hz
        refine ⟨fun w => by omega, fun _ => ⟨fun w => ⟨fun w2 => ?_, fun w2 => (a2 (st.mp w)).1 (Classical.not_not.mp w2) τ hM⟩, fun w => a1 (fun y => w (st.mpr y)) τ hM⟩⟩
        rw [hP36]
        exact ⟨_, 0, z, rfl, rfl, hz, st.mp w, w2, fun p p1 p2 _ => hM.1 p p1 p2, hM.2, hZ.2.2.2, ⟨by omega, by omega⟩, by rw [hM.1 74 (by decide) (by decide)]; exact prw_0, rfl⟩
def A_X9_law : List (Nat × Ctr) := [(2, rcv 9 3 C_X9_faultOf)]
theorem e_X9_law (o : OM) : Ev o Y_X9_law 3 T_X9_law A_X9_law := ⟨rfl, List.forall_mem_cons.mpr ⟨Or.inl f_X9_176, List.forall_mem_cons.mpr ⟨Or.inl f_X9_179, List.forall_mem_cons.mpr ⟨Or.inl f_X9_207, List.forall_mem_cons.mpr ⟨Or.inl f_X9_31, List.forall_mem_cons.mpr ⟨Or.inl f_X9_34, fun _ h => absurd h List.not_mem_nil⟩⟩⟩⟩⟩, fun _ h => absurd h List.not_mem_nil, fun _ h => absurd h List.not_mem_nil, fun _ h => absurd h List.not_mem_nil, List.forall_mem_cons.mpr ⟨cl_X9_faultOf (s_X9_faultOf o) (by decide) (Or.inl w_1348), fun _ h => absurd h List.not_mem_nil⟩, fun _ h => absurd h List.not_mem_nil⟩
def C_X9_law : Ctr := fun A σ κ => match A with
  | [.inr (.inr (.inl 67))] => ((0 ≤ σ 67 8 ∧ σ 67 8 ≤ 30) ∧ (∀ j, 0 ≤ j → j < 30 → 0 ≤ σ 73 j ∧ σ 73 j ≤ 126) ∧ (0 ≤ σ 67 11 ∧ σ 67 11 ≤ 4)) ∧ tkM 2 σ 75 11 (4 * σ 67 11) 4 lwv κ
  | _ => False
set_option maxRecDepth 20000 in
theorem s_X9_law (o : OM) : Sound o Y_X9_law 3 C_X9_law := by
  intro Q A σ hA hC
  match A, hA, hC with
  | [.inr (.inr (.inl 67))], hA, hC =>
    obtain ⟨h0, hq⟩ : ((0 ≤ σ 67 8 ∧ σ 67 8 ≤ 30) ∧ (∀ j, 0 ≤ j → j < 30 → 0 ≤ σ 73 j ∧ σ 73 j ≤ 126) ∧ (0 ≤ σ 67 11 ∧ σ 67 11 ≤ 4)) ∧ tkM 2 σ 75 11 (4 * σ 67 11) 4 lwv Q := hC
    obtain ⟨h8, h73, h9⟩ := h0
    obtain ⟨hq1, hq2⟩ := hq
    obtain ⟨P36, hP36⟩ : ∃ P : Nat → List AV → List AV → Sto → Prop, P = fun m S L τ => ∃ (k : Int) (z : Zr), S = [] ∧ L = [vR 67, vI k] ∧ rdk 2 (σ 73) (σ 67 8).toNat = some z ∧ (¬ z.1 = -1 ∧ 0 < z.2.2.1) ∧ ¬ σ 67 11 = 4 ∧ (∀ p : Nat, ¬ p = 67 → ¬ p = 76 → ¬ p = 75 → τ p = σ p) ∧ (∀ i, ¬ (i = 14 ∨ i = 15 ∨ i = 16) → τ 67 i = σ 67 i) ∧ (∀ j, 0 ≤ j → j < 7 → τ 76 j = z.2.2.2 j) ∧ (0 ≤ k ∧ k ≤ 4) ∧ τ 75 = prw (σ 75) (4 * σ 67 11) (lwv z.2.2.2) k ∧ m = (4 - k).toNat := ⟨_, rfl⟩
    refine at_meth (lv := V_X9_law) (B := B_X9_law) (e_X9_law o) k_X9_law 9 [(36, P36)] (List.forall_mem_cons.mpr ⟨?_, fun _ h => absurd h List.not_mem_nil⟩) 0 [] _ σ ?_
    · intro m S L τ hI
      rw [hP36] at hI
      obtain ⟨k, z, rfl, rfl, hz, hzz, hn4, he, hi, h76, hk, h74, hm⟩ := hI
      have t9 : τ 67 11 = σ 67 11 := hi 11 (by decide)
      have e9 : su (su τ 67 11 (σ 67 11 + 1)) 67 8 0 67 11 = σ 67 11 + 1 := by rw [su_x (by decide), su_y]
      simp only [sq_iconst, sq_jsr, sq_anewarray, sq_iload, sq_lload, sq_aload, sq_istore, sq_lstore, sq_astore, sq_iinc, sq_getfield, st_put0, st_put1, st_put3, sq_inv, sq_goto, sq_icmp, sq_ifc, sq_tsw, sq_iadd, sq_isub, sq_imul, sq_ineg, sq_idiv, sq_irem, sq_iand, sq_ior, sq_ixor, sq_ishl, sq_ishr, sq_iushr, sq_ladd, sq_lmul, sq_ldiv, sq_lrem, sq_land, sq_lor, sq_lshl, sq_lushr, sq_lcmp, sq_i2l, sq_l2i, sq_i2c, sq_i2b, sq_dupI, sq_dupR, sq_dup2, sq_pop, sq_iaload, sq_baload, sq_aaload, sq_iastore, sq_bastore, sq_alen, sq_ireturn, sq_lreturn, sq_return, wq_c, wq_n, wlq_s, lkp, tbl, dBk, nth, setL, canSet, cmpI, tk, swK, rdF, entL, catS, cat1, arg, rcv, ald, bld, aln, br, Ccopy, Cmax, Cmin, Cabs, List.take, List.drop, List.reverse, List.reverseAux, List.length, List.append, List.nil_append, List.cons_append, true_and, and_true, and_self, forall_const, true_implies, false_implies, not_true_eq_false, not_false_eq_true, Option.map, reduceCtorEq, reduceIte, or_true, true_or, false_or, or_false, false_and, and_false, List.map, List.append_nil, implies_true, yK, Nat.reduceBEq, beq_self_eq_true, Int.zero_ne_one, Nat.reduceDiv, Nat.reduceMod, Nat.reduceAdd, Nat.reduceSub, Nat.reduceMul, Nat.reduceEqDiff, Nat.reduceLeDiff, Int.reduceToNat, Int.reduceNeg, Int.reduceEq, Int.reduceLT, Int.reduceLE, Int.reduceNatCast, Int.reduceNatCast', Int.reduceAdd, Int.reduceSub, Int.reduceMul, eq_self, Prod.mk.injEq, A_X9_law, V_X9_law, B_X9_law, Y_X9_law, C_X9_faultOf, shpT, rfsT, wjq_s, look, br, t9, e9]
      have nx : ∀ v, ¬ 4 ≤ k → v = lwv z.2.2.2 k → (0 ≤ 4 * σ 67 11 + k ∧ 4 * σ 67 11 + k < 16) ∧ i32 (k + 1) ∧ ∃ m_1, m_1 < m ∧ P36 m_1 [] [vR 67, vI (k + 1)] (su τ 75 (4 * σ 67 11 + k) v) := by
        intro v h hv
        rw [hP36]
        refine ⟨⟨by omega, by omega⟩, ⟨by omega, by omega⟩, _, ?_, k + 1, z, rfl, rfl, hz, hzz, hn4, fun p p1 p2 p3 => by rw [su_r p3]; exact he p p1 p2 p3, fun i hi' => by rw [su_r (by decide)]; exact hi i hi', fun j j0 j1 => by rw [su_r (by decide)]; exact h76 j j0 j1, ⟨by omega, by omega⟩, ?_, rfl⟩
        · omega
        · rw [su_u, h74, prw_s hk.1 hv]
      have fi : 4 ≤ k → i32 (σ 67 11 + 1) ∧ i32 (σ 67 11 + 1 - 1) ∧ Q [vI (σ 67 11 + 1 - 1)] (su (su τ 67 11 (σ 67 11 + 1)) 67 8 0) := fun h => by
        have ek : k = 4 := by omega
        subst ek
        refine ⟨⟨by omega, by omega⟩, ⟨by omega, by omega⟩, ?_⟩
        rw [show σ 67 11 + 1 - 1 = σ 67 11 by omega]
        exact ((hq2 z hz).2 hzz).2 hn4 _ (fun p p1 p2 p3 => by rw [su_r p1, su_r p1]; exact he p p1 p2 p3) (fun j j1 j2 j3 => by rw [su_x j2, su_x j3]; exact hi j j1) su_y e9 (by rw [su_r (by decide), su_r (by decide)]; exact h74)
      have ek := h76 k hk.1 (by omega)
      rw [ek]
      have bd : ∀ c, c = pln k → ¬ 4 ≤ k → i32 (4 * σ 67 11) ∧ i32 (4 * σ 67 11 + k) ∧ (0 ≤ k ∧ k < 7) ∧ (¬ z.2.2.2 k = -1 → (0 ≤ k ∧ k < 7) ∧ (0 ≤ 4 * σ 67 11 + k ∧ 4 * σ 67 11 + k < 16) ∧ i32 (k + 1) ∧ ∃ m_1, m_1 < m ∧ P36 m_1 [] [vR 67, vI (k + 1)] (su τ 75 (4 * σ 67 11 + k) (z.2.2.2 k))) ∧ (¬¬ z.2.2.2 k = -1 → (0 ≤ 4 * σ 67 11 + k ∧ 4 * σ 67 11 + k < 16) ∧ i32 (k + 1) ∧ ∃ m_1, m_1 < m ∧ P36 m_1 [] [vR 67, vI (k + 1)] (su τ 75 (4 * σ 67 11 + k) c)) :=
        fun c hc h => ⟨⟨by omega, by omega⟩, ⟨by omega, by omega⟩, ⟨by omega, by omega⟩, fun w => ⟨⟨by omega, by omega⟩, nx _ h (by unfold lwv; rw [if_neg w])⟩, fun w => nx _ h (by unfold lwv; rw [if_pos (Classical.not_not.mp w), hc])⟩
      exact ⟨fi, fun h => ⟨fun h1 => ⟨fun h2 => ⟨fun h3 => bd 40 (by unfold pln; rw [if_neg h1, if_neg h2, if_neg h3]) h, fun h3 => bd 1 (by unfold pln; rw [if_neg h1, if_neg h2, if_pos (Classical.not_not.mp h3)]) h⟩, fun h2 => bd 3 (by unfold pln; rw [if_neg h1, if_pos (Classical.not_not.mp h2)]) h⟩, fun h1 => bd 9 (by unfold pln; rw [if_pos (Classical.not_not.mp h1)]) h⟩⟩
    · simp only [sq_iconst, sq_jsr, sq_anewarray, sq_iload, sq_lload, sq_aload, sq_istore, sq_lstore, sq_astore, sq_iinc, sq_getfield, st_put0, st_put1, st_put3, sq_inv, sq_goto, sq_icmp, sq_ifc, sq_tsw, sq_iadd, sq_isub, sq_imul, sq_ineg, sq_idiv, sq_irem, sq_iand, sq_ior, sq_ixor, sq_ishl, sq_ishr, sq_iushr, sq_ladd, sq_lmul, sq_ldiv, sq_lrem, sq_land, sq_lor, sq_lshl, sq_lushr, sq_lcmp, sq_i2l, sq_l2i, sq_i2c, sq_i2b, sq_dupI, sq_dupR, sq_dup2, sq_pop, sq_iaload, sq_baload, sq_aaload, sq_iastore, sq_bastore, sq_alen, sq_ireturn, sq_lreturn, sq_return, wq_c, wq_n, wlq_s, lkp, tbl, dBk, nth, setL, canSet, cmpI, tk, swK, rdF, entL, catS, cat1, arg, rcv, ald, bld, aln, br, Ccopy, Cmax, Cmin, Cabs, List.take, List.drop, List.reverse, List.reverseAux, List.length, List.append, List.nil_append, List.cons_append, true_and, and_true, and_self, forall_const, true_implies, false_implies, not_true_eq_false, not_false_eq_true, Option.map, reduceCtorEq, reduceIte, or_true, true_or, false_or, or_false, false_and, and_false, List.map, List.append_nil, implies_true, yK, Nat.reduceBEq, beq_self_eq_true, Int.zero_ne_one, Nat.reduceDiv, Nat.reduceMod, Nat.reduceAdd, Nat.reduceSub, Nat.reduceMul, Nat.reduceEqDiff, Nat.reduceLeDiff, Int.reduceToNat, Int.reduceNeg, Int.reduceEq, Int.reduceLT, Int.reduceLE, Int.reduceNatCast, Int.reduceNatCast', Int.reduceAdd, Int.reduceSub, Int.reduceMul, eq_self, Prod.mk.injEq, A_X9_law, V_X9_law, B_X9_law, Y_X9_law, C_X9_faultOf, shpT, rfsT, wjq_s, look, br, rdM]
      refine ⟨⟨h8, h73⟩, fun k hk τ hM => ?_, fun z hz τ hM hZ => ?_⟩
      · have t8 : τ 67 8 = σ 67 8 := hM.2 8 (by decide)
        have := hk.1
        rw [t8]
        exact ⟨fun _ => hq1 k hk τ hM, fun w => absurd this w⟩
      · have t8 : τ 67 8 = σ 67 8 := hM.2 8 (by decide)
        have t9 : τ 67 11 = σ 67 11 := hM.2 11 (by decide)
        rw [t8, t9]
        have st : 2 ≤ τ 67 14 ↔ (¬ z.1 = -1 ∧ 0 < z.2.2.1) := by
          constructor
          · intro w
            have h1 : ¬ z.1 = -1 := fun y => by have := hZ.1 y; omega
            have := (hZ.2.1 h1).1
            exact ⟨h1, by omega⟩
          · intro w
            have := (hZ.2.1 w.1).1
            omega
        obtain ⟨a1, a2⟩ := hq2 z hz
        refine ⟨fun w => by omega, fun _ => ⟨fun w => ⟨fun w2 => ?_, fun w2 => (a2 (st.mp w)).1 (Classical.not_not.mp w2) τ hM⟩, fun w => a1 (fun y => w (st.mpr y)) τ hM⟩⟩
        rw [hP36]
        exact ⟨_, 0, z, rfl, rfl, hz, st.mp w, w2, fun p p1 p2 _ => hM.1 p p1 p2, hM.2, hZ.2.2.2, ⟨by omega, by omega⟩, by rw [hM.1 75 (by decide) (by decide)]; exact prw_0, rfl⟩
def A_X1_take : List (Nat × Ctr) := [(5, Ccopy)]
theorem e_X1_take (o : OM) : Ev o Y_X1_take 1 T_X1_take A_X1_take := ⟨rfl, List.forall_mem_cons.mpr ⟨Or.inl f_X1_9, List.forall_mem_cons.mpr ⟨Or.inl f_X1_15, fun _ h => absurd h List.not_mem_nil⟩⟩, fun _ h => absurd h List.not_mem_nil, fun _ h => absurd h List.not_mem_nil, fun _ h => absurd h List.not_mem_nil, fun _ h => absurd h List.not_mem_nil, List.forall_mem_cons.mpr ⟨copy_ok w_588 w_590 w_589 w_19, fun _ h => absurd h List.not_mem_nil⟩⟩
def C_X1_take : Ctr := fun A σ k => wpl A_X1_take V_X1_take (yK Y_X1_take) B_X1_take k 2 0 [] (entL A) σ
theorem s_X1_take (o : OM) : Sound o Y_X1_take 1 C_X1_take := fun Q A σ _ hC => at_wpl (e_X1_take o) k_X1_take 2 0 [] (entL A) σ hC
def A_X8_hand : List (Nat × Ctr) := [(2, rcv 4 2 C_X4_read), (2, rcv 1 3 C_X1_take)]
theorem e_X8_hand (o : OM) : Ev o Y_X8_hand 9 T_X8_hand A_X8_hand := ⟨rfl, List.forall_mem_cons.mpr ⟨Or.inl f_X8_36, List.forall_mem_cons.mpr ⟨Or.inl f_X8_162, List.forall_mem_cons.mpr ⟨Or.inl f_X8_45, List.forall_mem_cons.mpr ⟨Or.inl f_X8_165, List.forall_mem_cons.mpr ⟨Or.inl f_X8_151, List.forall_mem_cons.mpr ⟨Or.inl f_X8_166, fun _ h => absurd h List.not_mem_nil⟩⟩⟩⟩⟩⟩, fun _ h => absurd h List.not_mem_nil, fun _ h => absurd h List.not_mem_nil, fun _ h => absurd h List.not_mem_nil, List.forall_mem_cons.mpr ⟨cl_X4_read (s_X4_read o) (by decide) (Or.inr ⟨_, wn_54⟩), List.forall_mem_cons.mpr ⟨cl_X1_take (s_X1_take o) (by decide) (Or.inr ⟨_, wn_56⟩), fun _ h => absurd h List.not_mem_nil⟩⟩, fun _ h => absurd h List.not_mem_nil⟩
def C_X8_hand : Ctr := fun A σ k => wpl A_X8_hand V_X8_hand (yK Y_X8_hand) B_X8_hand k 3 0 [] (entL A) σ
theorem s_X8_hand (o : OM) : Sound o Y_X8_hand 9 C_X8_hand := fun Q A σ _ hC => at_wpl (e_X8_hand o) k_X8_hand 3 0 [] (entL A) σ hC
def A_X8_law : List (Nat × Ctr) := [(2, rcv 4 2 C_X4_read), (2, rcv 2 4 C_X2_take)]
theorem e_X8_law (o : OM) : Ev o Y_X8_law 9 T_X8_law A_X8_law := ⟨rfl, List.forall_mem_cons.mpr ⟨Or.inl f_X8_36, List.forall_mem_cons.mpr ⟨Or.inl f_X8_162, List.forall_mem_cons.mpr ⟨Or.inl f_X8_52, List.forall_mem_cons.mpr ⟨Or.inl f_X8_173, List.forall_mem_cons.mpr ⟨Or.inl f_X8_151, List.forall_mem_cons.mpr ⟨Or.inl f_X8_166, fun _ h => absurd h List.not_mem_nil⟩⟩⟩⟩⟩⟩, fun _ h => absurd h List.not_mem_nil, fun _ h => absurd h List.not_mem_nil, fun _ h => absurd h List.not_mem_nil, List.forall_mem_cons.mpr ⟨cl_X4_read (s_X4_read o) (by decide) (Or.inr ⟨_, wn_54⟩), List.forall_mem_cons.mpr ⟨cl_X2_take (s_X2_take o) (by decide) (Or.inr ⟨_, wn_57⟩), fun _ h => absurd h List.not_mem_nil⟩⟩, fun _ h => absurd h List.not_mem_nil⟩
def C_X8_law : Ctr := fun A σ k => wpl A_X8_law V_X8_law (yK Y_X8_law) B_X8_law k 3 0 [] (entL A) σ
theorem s_X8_law (o : OM) : Sound o Y_X8_law 9 C_X8_law := fun Q A σ _ hC => at_wpl (e_X8_law o) k_X8_law 3 0 [] (entL A) σ hC
theorem prw_c {f g g' : Int → Int} {s n : Int} (h : ∀ j, 0 ≤ j → j < n → g j = g' j) : prw f s g n = prw f s g' n := by
  funext j
  unfold prw
  split
  · rename_i c
    exact h _ (by omega) (by omega)
  · rfl
theorem op_hand {σ : Sto} (hR : Rel σ) {κ : List AV → Sto → Prop} (hκ : ∀ v τ, Mid C_X9_hand [vR 67] (σ 102) v τ → κ [vI v] τ) : C_X8_hand [vR 0] σ κ := by
  obtain ⟨⟨c1, c2, c3, c4, c5, c6, c7, c8, c9, c10, c11, c12, c13, c14, c15, c16⟩, ⟨e1, e2, e3, e4, e5, e6, e7, e8, e9, e10, e11, e12, e13, e14, e15⟩, ⟨g1, g2, g3, g4⟩, ⟨h1, h2, h3, h4, h5, h6⟩, ⟨l1, l2, l3, l4⟩, hImg, ⟨n1, n2, n3, n4⟩⟩ := id hR
  have cpr : ∀ (T : Sto) (d : Int), cpS T 36 0 37 d 7 6 = T 6 := fun _ _ => rfl
  simp only [C_X8_hand, sq_iconst, sq_jsr, sq_anewarray, sq_iload, sq_lload, sq_aload, sq_istore, sq_lstore, sq_astore, sq_iinc, sq_getfield, st_put0, st_put1, st_put3, sq_inv, sq_goto, sq_icmp, sq_ifc, sq_tsw, sq_iadd, sq_isub, sq_imul, sq_ineg, sq_idiv, sq_irem, sq_iand, sq_ior, sq_ixor, sq_ishl, sq_ishr, sq_iushr, sq_ladd, sq_lmul, sq_ldiv, sq_lrem, sq_land, sq_lor, sq_lshl, sq_lushr, sq_lcmp, sq_i2l, sq_l2i, sq_i2c, sq_i2b, sq_dupI, sq_dupR, sq_dup2, sq_pop, sq_iaload, sq_baload, sq_aaload, sq_iastore, sq_bastore, sq_alen, sq_ireturn, sq_lreturn, sq_return, wq_c, wq_n, wlq_s, lkp, tbl, dBk, nth, setL, canSet, cmpI, tk, swK, rdF, entL, catS, cat1, arg, rcv, ald, bld, aln, br, Ccopy, Cmax, Cmin, Cabs, List.take, List.drop, List.reverse, List.reverseAux, List.length, List.append, List.nil_append, List.cons_append, true_and, and_true, and_self, forall_const, true_implies, false_implies, not_true_eq_false, not_false_eq_true, Option.map, reduceCtorEq, reduceIte, or_true, true_or, false_or, or_false, false_and, and_false, List.map, List.append_nil, implies_true, yK, Nat.reduceBEq, beq_self_eq_true, Int.zero_ne_one, Nat.reduceDiv, Nat.reduceMod, Nat.reduceAdd, Nat.reduceSub, Nat.reduceMul, Nat.reduceEqDiff, Nat.reduceLeDiff, Int.reduceToNat, Int.reduceNeg, Int.reduceEq, Int.reduceLT, Int.reduceLE, Int.reduceNatCast, Int.reduceNatCast', Int.reduceAdd, Int.reduceSub, Int.reduceMul, eq_self, Prod.mk.injEq, A_X8_hand, V_X8_hand, B_X8_hand, Y_X8_hand, C_X4_read, C_X1_take, A_X1_take, V_X1_take, B_X1_take, Y_X1_take, shpT, rfsT, br, rdC, su_r, Nat.reduceEqDiff, not_false_eq_true, cpr]
  -- the reference on any store that holds its rows as they were
  have md : ∀ (T : Sto) (κ' : List AV → Sto → Prop), T 67 = σ 67 → T 73 = σ 73 → T 74 = σ 74 → ((∀ k : Nat, Fl 1 (σ 35) (σ 5 0) k → ∀ τ, MP T τ → κ' [vI (-103)] τ) ∧ (∀ z, rdk 1 (σ 35) (σ 5 0).toNat = some z → (¬ (¬ z.1 = -1 ∧ 0 < z.2.2.1) → ∀ τ, MP T τ → κ' [vI (-103)] τ) ∧ ((¬ z.1 = -1 ∧ 0 < z.2.2.1) → (σ 6 1 = 4 → ∀ τ, MP T τ → κ' [vI (-104)] τ) ∧ (¬ σ 6 1 = 4 → ∀ τ : Sto, (∀ p : Nat, ¬ p = 67 → ¬ p = 76 → ¬ p = 74 → τ p = T p) → (∀ j, ¬ (j = 14 ∨ j = 15 ∨ j = 16) → ¬ j = 8 → ¬ j = 9 → τ 67 j = T 67 j) → τ 67 8 = 0 → τ 67 9 = σ 6 1 + 1 → τ 74 = prw (σ 74) (7 * σ 6 1) z.2.2.2 7 → κ' [vI (σ 6 1)] τ)))) → C_X9_hand [vR 67] T κ' := by
    intro T κ' a1 a2 a3 h
    have b8 : T 67 8 = σ 5 0 := by rw [a1, g1]
    have b9 : T 67 9 = σ 6 1 := by rw [a1, h1]
    have b73 : T 73 = σ 35 := by rw [a2, g3]
    refine ⟨by rw [b8, b9, b73]; exact ⟨g2, g4, h2⟩, ?_⟩
    unfold tkM
    rw [b8, b9, b73, a3]
    exact h
  have fr : ∀ T τ, CP σ T → MP T τ → Rel τ ∧ τ 102 = σ 102 := fun T τ hC hM => ⟨Rel_e (MP_same hM) (Rel_e (CP_same hC) hR), by rw [hM.1 102 (by decide) (by decide), hC.1 102 (by decide) (by decide)]⟩
  refine ⟨⟨g2, g4⟩, fun k hk τ hC hw => ⟨fun w => absurd hw w, fun _ => hκ _ _ (fun κ' hκ' => md τ κ' (hC.1 67 (by decide) (by decide)) (hC.1 73 (by decide) (by decide)) (hC.1 74 (by decide) (by decide)) ⟨fun k' _ T hM => hκ' T (fr τ T hC hM).1 (fr τ T hC hM).2, fun z hz => (Fl_not hk hz).elim⟩)⟩, fun z hz τ hC hr hw => ?_⟩
  have t6 : τ 6 1 = σ 6 1 := by rw [hC.1 6 (by decide) (by decide)]
  have uz : ∀ z', rdk 1 (σ 35) (σ 5 0).toNat = some z' → z' = z := fun z' hz' => by rw [hz] at hz'; exact (Option.some.inj hz').symm
  have zI := rdk_I (Or.inl rfl) _ z hz
  simp only [t6]
  by_cases hzz : ¬ z.1 = -1 ∧ 0 < z.2.2.1
  · rw [if_pos hzz] at hw
    refine ⟨fun _ => ⟨fun w => ⟨fun _ => ⟨⟨by omega, by omega⟩, ⟨by omega, by omega⟩, (by omega), (by omega), ⟨by omega, by omega⟩, hκ _ _ (fun κ' hκ' => ?_)⟩, fun y => absurd w y⟩, fun w => hκ _ _ (fun κ' hκ' => md τ κ' (hC.1 67 (by decide) (by decide)) (hC.1 73 (by decide) (by decide)) (hC.1 74 (by decide) (by decide)) ⟨fun k' hk' T hM => (Fl_not hk' hz).elim, fun z' hz' => ?_⟩)⟩, fun w => by omega⟩
    · generalize hT : su (cpS (su τ 5 0 0) 36 0 37 ((σ 6 1 + 1) * 7) 7) 6 1 (σ 6 1 + 1) = T
      have ft : ∀ p : Nat, ¬ p = 5 → ¬ p = 6 → ¬ p = 36 → ¬ p = 37 → T p = σ p := fun p p5 p6 p36 p37 => by
        rw [← hT, su_r p6]
        show (if p = 37 then _ else su τ 5 0 0 p) = _
        rw [if_neg p37, su_r p5, hC.1 p p5 p36]
      have t61 : T 6 1 = σ 6 1 + 1 := by rw [← hT, su_y]
      have t50 : T 5 0 = 0 := by
        rw [← hT, su_r (by decide)]
        show su τ 5 0 0 5 0 = 0
        rw [su_y]
      have t37 : ∀ j, T 37 j = if (σ 6 1 + 1) * 7 ≤ j ∧ j < (σ 6 1 + 1) * 7 + 7 then z.2.2.2 (j - (σ 6 1 + 1) * 7) else σ 37 j := fun j => by
        rw [← hT, su_r (by decide)]
        show (if (σ 6 1 + 1) * 7 ≤ j ∧ j < (σ 6 1 + 1) * 7 + 7 then su τ 5 0 0 36 (0 + (j - (σ 6 1 + 1) * 7)) else su τ 5 0 0 37 j) = _
        by_cases c : (σ 6 1 + 1) * 7 ≤ j ∧ j < (σ 6 1 + 1) * 7 + 7
        · rw [if_pos c, if_pos c, su_r (by decide), hr _ (by omega) (by omega), Int.zero_add]
        · rw [if_neg c, if_neg c, su_r (by decide), hC.1 37 (by decide) (by decide)]
      refine md T κ' (ft 67 (by decide) (by decide) (by decide) (by decide)) (ft 73 (by decide) (by decide) (by decide) (by decide)) (ft 74 (by decide) (by decide) (by decide) (by decide)) ⟨fun k' hk' _ _ => (Fl_not hk' hz).elim, fun z' hz' => ?_⟩
      rw [uz z' hz']
      refine ⟨fun y => absurd hzz y, fun _ => ⟨fun y => by omega, fun _ ρ f1 f2 f3 f4 f5 => ?_⟩⟩
      have fo : ∀ p : Nat, ¬ p = 67 → ¬ p = 76 → ¬ p = 74 → ¬ p = 5 → ¬ p = 6 → ¬ p = 36 → ¬ p = 37 → ρ p = σ p := fun p a b c d e f g => by rw [f1 p a b c, ft p d e f g]
      refine hκ' ρ (Rel_t (σ := σ) (fun p hp => fo p (by omega) (by omega) (by omega) (by omega) (by omega) (by omega) (by omega)) (fun i hi h8 => ?_) ?_ ?_ ?_ hR) (fo 102 (by decide) (by decide) (by decide) (by decide) (by decide) (by decide) (by decide))
      · rw [f2 i (by rintro (rfl | rfl | rfl) <;> exact absurd hi (by decide)) (by omega) (by omega), ft 67 (by decide) (by decide) (by decide) (by decide)]
      · refine ⟨by rw [f3, f1 5 (by decide) (by decide) (by decide), t50], by rw [f1 5 (by decide) (by decide) (by decide), t50]; decide, by rw [fo 73 (by decide) (by decide) (by decide) (by decide) (by decide) (by decide) (by decide), fo 35 (by decide) (by decide) (by decide) (by decide) (by decide) (by decide) (by decide), g3], by rw [fo 35 (by decide) (by decide) (by decide) (by decide) (by decide) (by decide) (by decide)]; exact g4⟩
      · have r6 : ρ 6 1 = σ 6 1 + 1 := by rw [f1 6 (by decide) (by decide) (by decide), t61]
        have r37 : ∀ j, ρ 37 j = if (σ 6 1 + 1) * 7 ≤ j ∧ j < (σ 6 1 + 1) * 7 + 7 then z.2.2.2 (j - (σ 6 1 + 1) * 7) else σ 37 j := fun j => by rw [f1 37 (by decide) (by decide) (by decide), t37 j]
        have z9 : ∀ j, 0 ≤ j → j < 7 → -1 ≤ z.2.2.2 j ∧ z.2.2.2 j ≤ 9 := zI.2.2.2.1
        refine ⟨by rw [f4, r6], by rw [r6]; exact ⟨by omega, by omega⟩, fun j j0 j1 => ?_, fun j j0 j1 => ?_, fun c c0 c1 => ?_, fun h c a1 a2 c0 c1 => ?_⟩
        · rw [r37 j]
          split
          · exact z9 _ (by omega) (by omega)
          · exact h3 j j0 j1
        · rw [f5]
          unfold prw
          split
          · exact z9 _ (by omega) (by omega)
          · exact h4 j j0 j1
        · rw [r37 c, if_neg (by omega)]
          exact h5 c c0 c1
        · rw [r6] at a2
          rw [r37, f5]
          unfold prw
          by_cases e : h = σ 6 1
          · rw [if_pos (by omega), if_pos (by omega), show (h + 1) * 7 + c - (σ 6 1 + 1) * 7 = h * 7 + c - 7 * σ 6 1 by omega]
          · rw [if_neg (by omega), if_neg (by omega)]
            exact h6 h c a1 (by omega) c0 c1
      · unfold RLaw
        rw [f2 11 (by decide) (by decide) (by decide), ft 67 (by decide) (by decide) (by decide) (by decide), fo 7 (by decide) (by decide) (by decide) (by decide) (by decide) (by decide) (by decide), fo 75 (by decide) (by decide) (by decide) (by decide) (by decide) (by decide) (by decide), fo 38 (by decide) (by decide) (by decide) (by decide) (by decide) (by decide) (by decide)]
        exact ⟨l1, l2, l3, l4⟩
    · rw [uz z' hz']
      exact ⟨fun y => absurd hzz y, fun _ => ⟨fun _ T hM => hκ' T (fr τ T hC hM).1 (fr τ T hC hM).2, fun y => by omega⟩⟩
  · rw [if_neg hzz] at hw
    refine ⟨fun w => absurd hw w, fun _ => hκ _ _ (fun κ' hκ' => md τ κ' (hC.1 67 (by decide) (by decide)) (hC.1 73 (by decide) (by decide)) (hC.1 74 (by decide) (by decide)) ⟨fun k' hk' T hM => (Fl_not hk' hz).elim, fun z' hz' => ?_⟩)⟩
    rw [uz z' hz']
    exact ⟨fun _ T hM => hκ' T (fr τ T hC hM).1 (fr τ T hC hM).2, fun y => absurd y hzz⟩
theorem op_law {σ : Sto} (hR : Rel σ) {κ : List AV → Sto → Prop} (hκ : ∀ v τ, Mid C_X9_law [vR 67] (σ 102) v τ → κ [vI v] τ) : C_X8_law [vR 0] σ κ := by
  obtain ⟨⟨c1, c2, c3, c4, c5, c6, c7, c8, c9, c10, c11, c12, c13, c14, c15, c16⟩, ⟨e1, e2, e3, e4, e5, e6, e7, e8, e9, e10, e11, e12, e13, e14, e15⟩, ⟨g1, g2, g3, g4⟩, ⟨h1, h2, h3, h4, h5, h6⟩, ⟨l1, l2, l3, l4⟩, hImg, ⟨n1, n2, n3, n4⟩⟩ := id hR
  simp only [C_X8_law, sq_iconst, sq_jsr, sq_anewarray, sq_iload, sq_lload, sq_aload, sq_istore, sq_lstore, sq_astore, sq_iinc, sq_getfield, st_put0, st_put1, st_put3, sq_inv, sq_goto, sq_icmp, sq_ifc, sq_tsw, sq_iadd, sq_isub, sq_imul, sq_ineg, sq_idiv, sq_irem, sq_iand, sq_ior, sq_ixor, sq_ishl, sq_ishr, sq_iushr, sq_ladd, sq_lmul, sq_ldiv, sq_lrem, sq_land, sq_lor, sq_lshl, sq_lushr, sq_lcmp, sq_i2l, sq_l2i, sq_i2c, sq_i2b, sq_dupI, sq_dupR, sq_dup2, sq_pop, sq_iaload, sq_baload, sq_aaload, sq_iastore, sq_bastore, sq_alen, sq_ireturn, sq_lreturn, sq_return, wq_c, wq_n, wlq_s, lkp, tbl, dBk, nth, setL, canSet, cmpI, tk, swK, rdF, entL, catS, cat1, arg, rcv, ald, bld, aln, br, Ccopy, Cmax, Cmin, Cabs, List.take, List.drop, List.reverse, List.reverseAux, List.length, List.append, List.nil_append, List.cons_append, true_and, and_true, and_self, forall_const, true_implies, false_implies, not_true_eq_false, not_false_eq_true, Option.map, reduceCtorEq, reduceIte, or_true, true_or, false_or, or_false, false_and, and_false, List.map, List.append_nil, implies_true, yK, Nat.reduceBEq, beq_self_eq_true, Int.zero_ne_one, Nat.reduceDiv, Nat.reduceMod, Nat.reduceAdd, Nat.reduceSub, Nat.reduceMul, Nat.reduceEqDiff, Nat.reduceLeDiff, Int.reduceToNat, Int.reduceNeg, Int.reduceEq, Int.reduceLT, Int.reduceLE, Int.reduceNatCast, Int.reduceNatCast', Int.reduceAdd, Int.reduceSub, Int.reduceMul, eq_self, Prod.mk.injEq, A_X8_law, V_X8_law, B_X8_law, Y_X8_law, C_X4_read, C_X2_take, shpT, rfsT, br, rdC, su_r, Nat.reduceEqDiff, not_false_eq_true]
  have md : ∀ (T : Sto) (κ' : List AV → Sto → Prop), T 67 = σ 67 → T 73 = σ 73 → T 75 = σ 75 → ((∀ k : Nat, Fl 2 (σ 35) (σ 5 0) k → ∀ τ, MP T τ → κ' [vI (-103)] τ) ∧ (∀ z, rdk 2 (σ 35) (σ 5 0).toNat = some z → (¬ (¬ z.1 = -1 ∧ 0 < z.2.2.1) → ∀ τ, MP T τ → κ' [vI (-103)] τ) ∧ ((¬ z.1 = -1 ∧ 0 < z.2.2.1) → (σ 7 0 = 4 → ∀ τ, MP T τ → κ' [vI (-104)] τ) ∧ (¬ σ 7 0 = 4 → ∀ τ : Sto, (∀ p : Nat, ¬ p = 67 → ¬ p = 76 → ¬ p = 75 → τ p = T p) → (∀ j, ¬ (j = 14 ∨ j = 15 ∨ j = 16) → ¬ j = 8 → ¬ j = 11 → τ 67 j = T 67 j) → τ 67 8 = 0 → τ 67 11 = σ 7 0 + 1 → τ 75 = prw (σ 75) (4 * σ 7 0) (lwv z.2.2.2) 4 → κ' [vI (σ 7 0)] τ)))) → C_X9_law [vR 67] T κ' := by
    intro T κ' a1 a2 a3 h
    have b8 : T 67 8 = σ 5 0 := by rw [a1, g1]
    have b9 : T 67 11 = σ 7 0 := by rw [a1, l1]
    have b73 : T 73 = σ 35 := by rw [a2, g3]
    refine ⟨by rw [b8, b9, b73]; exact ⟨g2, g4, l2⟩, ?_⟩
    unfold tkM
    rw [b8, b9, b73, a3]
    exact h
  have fr : ∀ T τ, CP σ T → MP T τ → Rel τ ∧ τ 102 = σ 102 := fun T τ hC hM => ⟨Rel_e (MP_same hM) (Rel_e (CP_same hC) hR), by rw [hM.1 102 (by decide) (by decide), hC.1 102 (by decide) (by decide)]⟩
  refine ⟨⟨g2, g4⟩, fun k hk τ hC hw => ⟨fun w => absurd hw w, fun _ => hκ _ _ (fun κ' hκ' => md τ κ' (hC.1 67 (by decide) (by decide)) (hC.1 73 (by decide) (by decide)) (hC.1 75 (by decide) (by decide)) ⟨fun k' _ T hM => hκ' T (fr τ T hC hM).1 (fr τ T hC hM).2, fun z hz => (Fl_not hk hz).elim⟩)⟩, fun z hz τ hC hr hw => ?_⟩
  have t7 : τ 7 0 = σ 7 0 := by rw [hC.1 7 (by decide) (by decide)]
  have uz : ∀ z', rdk 2 (σ 35) (σ 5 0).toNat = some z' → z' = z := fun z' hz' => by rw [hz] at hz'; exact (Option.some.inj hz').symm
  have zI := rdk_I (Or.inr rfl) _ z hz
  simp only [t7]
  by_cases hzz : ¬ z.1 = -1 ∧ 0 < z.2.2.1
  · rw [if_pos hzz] at hw
    refine ⟨fun _ => ⟨fun w => ⟨l2, fun y => by omega, fun _ T u1 u2 u3 => hκ _ _ (fun κ' hκ' => ?_)⟩, fun w => hκ _ _ (fun κ' hκ' => md τ κ' (hC.1 67 (by decide) (by decide)) (hC.1 73 (by decide) (by decide)) (hC.1 75 (by decide) (by decide)) ⟨fun k' hk' T hM => (Fl_not hk' hz).elim, fun z' hz' => ?_⟩)⟩, fun w => by omega⟩
    · have ft : ∀ p : Nat, ¬ p = 5 → ¬ p = 7 → ¬ p = 36 → ¬ p = 38 → T p = σ p := fun p p5 p7 p36 p38 => by rw [u1 p p7 p38, su_r p5, hC.1 p p5 p36]
      have t50 : T 5 0 = 0 := by rw [u1 5 (by decide) (by decide), su_y]
      have t38 : T 38 = prw (σ 38) (σ 7 0 * 4) (lwv z.2.2.2) 4 := by
        rw [u3, hC.1 38 (by decide) (by decide)]
        refine prw_c (fun j j0 j1 => ?_)
        unfold lwv
        rw [hr j j0 (by omega)]
      refine md T κ' (ft 67 (by decide) (by decide) (by decide) (by decide)) (ft 73 (by decide) (by decide) (by decide) (by decide)) (ft 75 (by decide) (by decide) (by decide) (by decide)) ⟨fun k' hk' _ _ => (Fl_not hk' hz).elim, fun z' hz' => ?_⟩
      rw [uz z' hz']
      refine ⟨fun y => absurd hzz y, fun _ => ⟨fun y => by omega, fun _ ρ f1 f2 f3 f4 f5 => ?_⟩⟩
      have fo : ∀ p : Nat, ¬ p = 67 → ¬ p = 76 → ¬ p = 75 → ¬ p = 5 → ¬ p = 7 → ¬ p = 36 → ¬ p = 38 → ρ p = σ p := fun p a b c d e f g => by rw [f1 p a b c, ft p d e f g]
      refine hκ' ρ (Rel_t (σ := σ) (fun p hp => fo p (by omega) (by omega) (by omega) (by omega) (by omega) (by omega) (by omega)) (fun i hi h8 => ?_) ?_ ?_ ?_ hR) (fo 102 (by decide) (by decide) (by decide) (by decide) (by decide) (by decide) (by decide))
      · rw [f2 i (by rintro (rfl | rfl | rfl) <;> exact absurd hi (by decide)) (by omega) (by omega), ft 67 (by decide) (by decide) (by decide) (by decide)]
      · refine ⟨by rw [f3, f1 5 (by decide) (by decide) (by decide), t50], by rw [f1 5 (by decide) (by decide) (by decide), t50]; decide, by rw [fo 73 (by decide) (by decide) (by decide) (by decide) (by decide) (by decide) (by decide), fo 35 (by decide) (by decide) (by decide) (by decide) (by decide) (by decide) (by decide), g3], by rw [fo 35 (by decide) (by decide) (by decide) (by decide) (by decide) (by decide) (by decide)]; exact g4⟩
      · unfold RHand
        rw [f2 9 (by decide) (by decide) (by decide), ft 67 (by decide) (by decide) (by decide) (by decide), fo 6 (by decide) (by decide) (by decide) (by decide) (by decide) (by decide) (by decide), fo 37 (by decide) (by decide) (by decide) (by decide) (by decide) (by decide) (by decide), fo 74 (by decide) (by decide) (by decide) (by decide) (by decide) (by decide) (by decide)]
        exact ⟨h1, h2, h3, h4, h5, h6⟩
      · have r7 : ρ 7 0 = σ 7 0 + 1 := by rw [f1 7 (by decide) (by decide) (by decide), u2]
        have r38 : ρ 38 = prw (σ 38) (σ 7 0 * 4) (lwv z.2.2.2) 4 := by rw [f1 38 (by decide) (by decide) (by decide), t38]
        have z9 : ∀ j, 0 ≤ j → j < 7 → -1 ≤ z.2.2.2 j ∧ z.2.2.2 j ≤ 99 := zI.2.2.2.1
        refine ⟨by rw [f4, r7], by rw [r7]; exact ⟨by omega, by omega⟩, by rw [f5, r38, l3, show 4 * σ 7 0 = σ 7 0 * 4 by omega], fun j j0 j1 => ?_⟩
        rw [r38]
        unfold prw
        split
        · rename_i c
          have := z9 (j - σ 7 0 * 4) (by omega) (by omega)
          unfold lwv pln
          repeat' split
          all_goals omega
        · exact l4 j j0 j1
    · rw [uz z' hz']
      exact ⟨fun y => absurd hzz y, fun _ => ⟨fun _ T hM => hκ' T (fr τ T hC hM).1 (fr τ T hC hM).2, fun y => by omega⟩⟩
  · rw [if_neg hzz] at hw
    refine ⟨fun w => absurd hw w, fun _ => hκ _ _ (fun κ' hκ' => md τ κ' (hC.1 67 (by decide) (by decide)) (hC.1 73 (by decide) (by decide)) (hC.1 75 (by decide) (by decide)) ⟨fun k' hk' T hM => (Fl_not hk' hz).elim, fun z' hz' => ?_⟩)⟩
    rw [uz z' hz']
    exact ⟨fun _ T hM => hκ' T (fr τ T hC hM).1 (fr τ T hC hM).2, fun y => absurd y hzz⟩

