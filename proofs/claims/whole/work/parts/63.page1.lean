-- ===== the page: blank; bytes of a long =====
def A_X8_blank : List (Nat × Ctr) := []
theorem e_X8_blank (o : OM) : Ev o Y_X8_blank 0 T_X8_blank A_X8_blank := ⟨rfl, List.forall_mem_cons.mpr ⟨Or.inl f_X8_36, List.forall_mem_cons.mpr ⟨Or.inl f_X8_151, fun _ h => absurd h List.not_mem_nil⟩⟩, fun _ h => absurd h List.not_mem_nil, fun _ h => absurd h List.not_mem_nil, fun _ h => absurd h List.not_mem_nil, fun _ h => absurd h List.not_mem_nil, fun _ h => absurd h List.not_mem_nil⟩
def C_X8_blank : Ctr := fun A σ k => wpl A_X8_blank V_X8_blank (yK Y_X8_blank) B_X8_blank k 1 0 [] (entL A) σ
theorem s_X8_blank (o : OM) : Sound o Y_X8_blank 0 C_X8_blank := fun Q A σ _ hC => at_wpl (e_X8_blank o) k_X8_blank 1 0 [] (entL A) σ hC
def A_X9_blank : List (Nat × Ctr) := []
theorem e_X9_blank (o : OM) : Ev o Y_X9_blank 0 T_X9_blank A_X9_blank := ⟨rfl, List.forall_mem_cons.mpr ⟨Or.inl f_X9_176, fun _ h => absurd h List.not_mem_nil⟩, fun _ h => absurd h List.not_mem_nil, fun _ h => absurd h List.not_mem_nil, fun _ h => absurd h List.not_mem_nil, fun _ h => absurd h List.not_mem_nil, fun _ h => absurd h List.not_mem_nil⟩
def C_X9_blank : Ctr := fun A σ k => wpl A_X9_blank V_X9_blank (yK Y_X9_blank) B_X9_blank k 1 0 [] (entL A) σ
theorem s_X9_blank (o : OM) : Sound o Y_X9_blank 0 C_X9_blank := fun Q A σ _ hC => at_wpl (e_X9_blank o) k_X9_blank 1 0 [] (entL A) σ hC
theorem Rel_p {τ σ : Sto} (h1 : ∀ p : Nat, ¬ (p = 5 ∨ p = 35 ∨ p = 67 ∨ p = 73) → τ p = σ p) (h2 : ∀ i, ¬ i = 8 → τ 67 i = σ 67 i) (hp : RPage τ) (hR : Rel σ) : Rel τ := by
  obtain ⟨r1, r2, -, r4, r5, r6, r7⟩ := hR
  refine ⟨?_, ?_, hp, ?_, ?_, ?_, ?_⟩
  · unfold RCur at *
    simp only [h1 1 (by decide), h1 2 (by decide), h1 11 (by decide), h1 12 (by decide), h1 13 (by decide), h1 14 (by decide), h1 15 (by decide), h1 16 (by decide), h1 17 (by decide), h1 18 (by decide), h1 19 (by decide), h1 20 (by decide), h1 21 (by decide), h1 22 (by decide), h1 87 (by decide), h1 88 (by decide), h1 68 (by decide), h1 69 (by decide), h1 70 (by decide), h1 71 (by decide), h1 72 (by decide), h1 82 (by decide), h1 83 (by decide), h1 84 (by decide), h1 85 (by decide), h1 86 (by decide), h1 89 (by decide), h1 90 (by decide)]
    exact r1
  · unfold REq at *
    simp only [h1 1 (by decide), h1 2 (by decide), h1 11 (by decide), h1 12 (by decide), h1 13 (by decide), h1 14 (by decide), h1 15 (by decide), h1 16 (by decide), h1 17 (by decide), h1 18 (by decide), h1 19 (by decide), h1 20 (by decide), h1 21 (by decide), h1 22 (by decide), h1 87 (by decide), h1 88 (by decide), h1 68 (by decide), h1 69 (by decide), h1 70 (by decide), h1 71 (by decide), h1 72 (by decide), h1 82 (by decide), h1 83 (by decide), h1 84 (by decide), h1 85 (by decide), h1 86 (by decide), h1 89 (by decide), h1 90 (by decide), h2 0 (by decide), h2 32 (by decide), h2 42 (by decide)]
    exact r2
  · unfold RHand at *
    rw [h2 9 (by decide), h1 6 (by decide), h1 37 (by decide), h1 74 (by decide)]
    exact r4
  · unfold RLaw at *
    rw [h2 11 (by decide), h1 7 (by decide), h1 75 (by decide), h1 38 (by decide)]
    exact r5
  · unfold RImg at *
    simp only [h1 23 (by decide), h1 24 (by decide), h1 25 (by decide), h1 26 (by decide), h1 27 (by decide), h1 28 (by decide), h1 29 (by decide), h1 30 (by decide), h1 31 (by decide), h1 32 (by decide), h1 33 (by decide), h1 34 (by decide), h1 3 (by decide), h1 4 (by decide), h1 93 (by decide), h1 94 (by decide), h1 95 (by decide), h1 96 (by decide), h1 97 (by decide), h1 0 (by decide), h2 46 (by decide), h2 47 (by decide), h2 48 (by decide)]
    exact r6
  · unfold RCnt at *
    rw [h2 31 (by decide), h2 45 (by decide), h1 0 (by decide)]
    exact r7
theorem op_blank {σ : Sto} (hR : Rel σ) {κ : List AV → Sto → Prop} (hκ : ∀ v τ, Mid C_X9_blank [vR 67] (σ 102) v τ → κ [vI v] τ) : C_X8_blank [vR 0] σ κ := by
  obtain ⟨⟨c1, c2, c3, c4, c5, c6, c7, c8, c9, c10, c11, c12, c13, c14, c15, c16⟩, ⟨e1, e2, e3, e4, e5, e6, e7, e8, e9, e10, e11, e12, e13, e14, e15⟩, ⟨g1, g2, g3, g4⟩, ⟨h1, h2, h3, h4, h5, h6⟩, ⟨l1, l2, l3, l4⟩, hImg, ⟨n1, n2, n3, n4⟩⟩ := id hR
  simp only [C_X8_blank, sq_iconst, sq_jsr, sq_anewarray, sq_iload, sq_lload, sq_aload, sq_istore, sq_lstore, sq_astore, sq_iinc, sq_getfield, st_put0, st_put1, st_put3, sq_inv, sq_goto, sq_icmp, sq_ifc, sq_tsw, sq_iadd, sq_isub, sq_imul, sq_ineg, sq_idiv, sq_irem, sq_iand, sq_ior, sq_ixor, sq_ishl, sq_ishr, sq_iushr, sq_ladd, sq_lmul, sq_ldiv, sq_lrem, sq_land, sq_lor, sq_lshl, sq_lushr, sq_lcmp, sq_i2l, sq_l2i, sq_i2c, sq_i2b, sq_dupI, sq_dupR, sq_dup2, sq_pop, sq_iaload, sq_baload, sq_aaload, sq_iastore, sq_bastore, sq_alen, sq_ireturn, sq_lreturn, sq_return, wq_c, wq_n, wlq_s, lkp, tbl, dBk, nth, setL, canSet, cmpI, tk, swK, rdF, entL, catS, cat1, arg, rcv, ald, bld, aln, br, Ccopy, Cmax, Cmin, Cabs, List.take, List.drop, List.reverse, List.reverseAux, List.length, List.append, List.nil_append, List.cons_append, true_and, and_true, and_self, forall_const, true_implies, false_implies, not_true_eq_false, not_false_eq_true, Option.map, reduceCtorEq, reduceIte, or_true, true_or, false_or, or_false, false_and, and_false, List.map, List.append_nil, implies_true, yK, Nat.reduceBEq, beq_self_eq_true, Int.zero_ne_one, Nat.reduceDiv, Nat.reduceMod, Nat.reduceAdd, Nat.reduceSub, Nat.reduceMul, Nat.reduceEqDiff, Nat.reduceLeDiff, Int.reduceToNat, Int.reduceNeg, Int.reduceEq, Int.reduceLT, Int.reduceLE, Int.reduceNatCast, Int.reduceNatCast', Int.reduceAdd, Int.reduceSub, Int.reduceMul, eq_self, Prod.mk.injEq, A_X8_blank, V_X8_blank, B_X8_blank, Y_X8_blank, shpT, rfsT, br]
  refine hκ _ _ (fun κ' hκ' => ?_)
  simp only [C_X9_blank, sq_iconst, sq_jsr, sq_anewarray, sq_iload, sq_lload, sq_aload, sq_istore, sq_lstore, sq_astore, sq_iinc, sq_getfield, st_put0, st_put1, st_put3, sq_inv, sq_goto, sq_icmp, sq_ifc, sq_tsw, sq_iadd, sq_isub, sq_imul, sq_ineg, sq_idiv, sq_irem, sq_iand, sq_ior, sq_ixor, sq_ishl, sq_ishr, sq_iushr, sq_ladd, sq_lmul, sq_ldiv, sq_lrem, sq_land, sq_lor, sq_lshl, sq_lushr, sq_lcmp, sq_i2l, sq_l2i, sq_i2c, sq_i2b, sq_dupI, sq_dupR, sq_dup2, sq_pop, sq_iaload, sq_baload, sq_aaload, sq_iastore, sq_bastore, sq_alen, sq_ireturn, sq_lreturn, sq_return, wq_c, wq_n, wlq_s, lkp, tbl, dBk, nth, setL, canSet, cmpI, tk, swK, rdF, entL, catS, cat1, arg, rcv, ald, bld, aln, br, Ccopy, Cmax, Cmin, Cabs, List.take, List.drop, List.reverse, List.reverseAux, List.length, List.append, List.nil_append, List.cons_append, true_and, and_true, and_self, forall_const, true_implies, false_implies, not_true_eq_false, not_false_eq_true, Option.map, reduceCtorEq, reduceIte, or_true, true_or, false_or, or_false, false_and, and_false, List.map, List.append_nil, implies_true, yK, Nat.reduceBEq, beq_self_eq_true, Int.zero_ne_one, Nat.reduceDiv, Nat.reduceMod, Nat.reduceAdd, Nat.reduceSub, Nat.reduceMul, Nat.reduceEqDiff, Nat.reduceLeDiff, Int.reduceToNat, Int.reduceNeg, Int.reduceEq, Int.reduceLT, Int.reduceLE, Int.reduceNatCast, Int.reduceNatCast', Int.reduceAdd, Int.reduceSub, Int.reduceMul, eq_self, Prod.mk.injEq, A_X9_blank, V_X9_blank, B_X9_blank, Y_X9_blank, shpT, rfsT, br, su_r]
  rw [g1]
  refine hκ' _ (Rel_p (σ := σ) (fun p hp => ?_) (fun i hi => ?_) ?_ hR) ?_
  · rw [su_ne p (by omega), su_ne p (by omega)]
  · rw [su_x hi, su_ne 67 (by decide)]
  · unfold RPage
    simp only [su_r, su_at, reduceIte, Nat.reduceEqDiff, not_false_eq_true]
    exact ⟨trivial, ⟨by decide, by decide⟩, g3, g4⟩
  · rw [su_ne 102 (by decide), su_ne 102 (by decide)]
def byt (w p : Int) : Int := bAnd (w32 (lUshr w (8 * p))) 255
theorem bA_in (y : Int) : 0 ≤ bAnd y 255 ∧ bAnd y 255 ≤ 255 := by
  unfold bAnd
  have h : ((Int32.ofInt y) &&& Int32.ofInt 255).toBitVec.toNat ≤ 255 := by
    rw [Int32.toBitVec_and, BitVec.toNat_and]
    exact Nat.and_le_right
  show 0 ≤ ((Int32.ofInt y) &&& Int32.ofInt 255).toBitVec.toInt ∧ ((Int32.ofInt y) &&& Int32.ofInt 255).toBitVec.toInt ≤ 255
  rw [BitVec.toInt_eq_toNat_of_lt (by omega)]
  omega
theorem byt_in (w p : Int) : 0 ≤ byt w p ∧ byt w p ≤ 255 := bA_in _
theorem lA_255 (x : Int) : w32 (lAnd x 255) = bAnd (w32 x) 255 := by
  unfold w32 lAnd bAnd
  rw [Int32.ofInt_toInt]
  congr 1
  apply Int32.toBitVec_inj.mp
  simp
theorem lU_2 {w k : Int} (h0 : 0 ≤ k) (h1 : k < 7) : lUshr (lUshr w (8 * k)) 8 = lUshr w (8 * (k + 1)) := by
  unfold lUshr
  rw [Int64.ofInt_toInt]
  congr 2
  apply UInt64.toNat_inj.mp
  have hc : k = 0 ∨ k = 1 ∨ k = 2 ∨ k = 3 ∨ k = 4 ∨ k = 5 ∨ k = 6 := by omega
  rcases hc with rfl | rfl | rfl | rfl | rfl | rfl | rfl
  all_goals
    simp only [UInt64.toNat_shiftRight, UInt64.toUInt64_toInt64]
    rw [← Nat.shiftRight_add]
    rfl

