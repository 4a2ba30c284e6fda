-- ===== letters =====
def nzb (w p : Int) : Int := if byt w p = 0 then 0 else 1
def lcn (w p : Int) : Int := sumI (nzb w) p
def LOK (w k : Int) : Prop := ∀ p, 0 ≤ p → p < k → byt w p ≤ 126 ∧ (byt w p = 0 ∨ lcn w p = p)
theorem lcn_s {w k : Int} (h : 0 ≤ k) : lcn w (k + 1) = lcn w k + nzb w k := sumI_s _ h
theorem lcn_in {w k : Int} (h : 0 ≤ k) : 0 ≤ lcn w k ∧ lcn w k ≤ k := by
  have := sumI_le (f := nzb w) (lo := 0) (hi := 1) h (fun x _ _ => by unfold nzb; split <;> omega)
  unfold lcn
  omega
theorem LOK_s {w k : Int} (h : 0 ≤ k) (h1 : LOK w k) (h2 : byt w k ≤ 126) (h3 : byt w k = 0 ∨ lcn w k = k) : LOK w (k + 1) := fun p p0 p1 => by
  by_cases e : p = k
  · subst e; exact ⟨h2, h3⟩
  · exact h1 p p0 (by omega)
def A_X8_lettersIn : List (Nat × Ctr) := [(2, arg 3 C_X8_byteOf)]
theorem e_X8_lettersIn (o : OM) : Ev o Y_X8_lettersIn 1 T_X8_lettersIn A_X8_lettersIn := ⟨rfl, fun _ h => absurd h List.not_mem_nil, fun _ h => absurd h List.not_mem_nil, fun _ h => absurd h List.not_mem_nil, fun _ h => absurd h List.not_mem_nil, fun _ h => absurd h List.not_mem_nil, List.forall_mem_cons.mpr ⟨cl_X8_byteOf (s_X8_byteOf o) (by decide) (Or.inl w_465), fun _ h => absurd h List.not_mem_nil⟩⟩
def C_X8_lettersIn : Ctr := fun A σ κ => match A with
  | [.inr (.inl w)] => (True) ∧ (LOK w 8 → κ [vI (lcn w 8)] σ) ∧ (¬ LOK w 8 → κ [vI (-102)] σ)
  | _ => False
set_option maxRecDepth 20000 in
theorem s_X8_lettersIn (o : OM) : Sound o Y_X8_lettersIn 1 C_X8_lettersIn := by
  intro Q A σ hA hC
  match A, hA, hC with
  | [.inr (.inl w)], hA, hC =>
    obtain ⟨h0, hq⟩ : (True) ∧ (LOK w 8 → Q [vI (lcn w 8)] σ) ∧ (¬ LOK w 8 → Q [vI (-102)] σ) := hC
    obtain ⟨P4, hP4⟩ : ∃ P : Nat → List AV → List AV → Sto → Prop, P = fun m S L τ => ∃ k : Int, S = [] ∧ L = [vL w, vX, vI (lcn w k), vI k] ∧ τ = σ ∧ 0 ≤ k ∧ k ≤ 8 ∧ LOK w k ∧ m = (8 - k).toNat := ⟨_, rfl⟩
    refine at_meth (lv := V_X8_lettersIn) (B := B_X8_lettersIn) (e_X8_lettersIn o) k_X8_lettersIn 5 [(4, P4)] (List.forall_mem_cons.mpr ⟨?_, fun _ h => absurd h List.not_mem_nil⟩) 0 [] _ σ ?_
    · intro m S L τ hI
      rw [hP4] at hI
      obtain ⟨k, rfl, rfl, rfl, k0, k1, hk, hm⟩ := hI
      simp only [sq_iconst, sq_jsr, sq_anewarray, sq_iload, sq_lload, sq_aload, sq_istore, sq_lstore, sq_astore, sq_iinc, sq_getfield, st_put0, st_put1, st_put3, sq_inv, sq_goto, sq_icmp, sq_ifc, sq_tsw, sq_iadd, sq_isub, sq_imul, sq_ineg, sq_idiv, sq_irem, sq_iand, sq_ior, sq_ixor, sq_ishl, sq_ishr, sq_iushr, sq_ladd, sq_lmul, sq_ldiv, sq_lrem, sq_land, sq_lor, sq_lshl, sq_lushr, sq_lcmp, sq_i2l, sq_l2i, sq_i2c, sq_i2b, sq_dupI, sq_dupR, sq_dup2, sq_pop, sq_iaload, sq_baload, sq_aaload, sq_iastore, sq_bastore, sq_alen, sq_ireturn, sq_lreturn, sq_return, wq_c, wq_n, wlq_s, lkp, tbl, dBk, nth, setL, canSet, cmpI, tk, swK, rdF, entL, catS, cat1, arg, rcv, ald, bld, aln, br, Ccopy, Cmax, Cmin, Cabs, List.take, List.drop, List.reverse, List.reverseAux, List.length, List.append, List.nil_append, List.cons_append, true_and, and_true, and_self, forall_const, true_implies, false_implies, not_true_eq_false, not_false_eq_true, Option.map, reduceCtorEq, reduceIte, or_true, true_or, false_or, or_false, false_and, and_false, List.map, List.append_nil, implies_true, yK, Nat.reduceBEq, beq_self_eq_true, Int.zero_ne_one, Nat.reduceDiv, Nat.reduceMod, Nat.reduceAdd, Nat.reduceSub, Nat.reduceMul, Nat.reduceEqDiff, Nat.reduceLeDiff, Int.reduceToNat, Int.reduceNeg, Int.reduceEq, Int.reduceLT, Int.reduceLE, Int.reduceNatCast, Int.reduceNatCast', Int.reduceAdd, Int.reduceSub, Int.reduceMul, eq_self, Prod.mk.injEq, A_X8_lettersIn, V_X8_lettersIn, B_X8_lettersIn, Y_X8_lettersIn, C_X8_byteOf, shpT, rfsT, wjq_s, look]
      have eb : bAnd (w32 (lUshr w (8 * k))) 255 = byt w k := rfl
      simp only [eb]
      have li := lcn_in (w := w) k0
      have ls := lcn_s (w := w) k0
      have nx : ∀ v, ¬ 8 ≤ k → v = lcn w (k + 1) → byt w k ≤ 126 → (byt w k = 0 ∨ lcn w k = k) → i32 (k + 1) ∧ ∃ m_1, m_1 < m ∧ P4 m_1 [] [vL w, vX, vI v, vI (k + 1)] τ := fun v h hv h2 h3 => by
        rw [hP4]
        exact ⟨⟨by omega, by omega⟩, _, by omega, k + 1, rfl, by rw [hv], rfl, by omega, by omega, LOK_s k0 hk h2 h3, rfl⟩
      have n0 : byt w k = 0 → lcn w k = lcn w (k + 1) := fun h => by rw [ls]; unfold nzb; rw [if_pos h]; omega
      have n1 : ¬ byt w k = 0 → lcn w k + 1 = lcn w (k + 1) := fun h => by rw [ls]; unfold nzb; rw [if_neg h]
      refine ⟨fun h => ?_, fun h => ⟨⟨by omega, by omega⟩, fun h1 => hq.2 (fun z => ?_), fun h1 => ⟨fun h2 => ⟨fun h3 => nx _ h (n0 h2) (by omega) (Or.inl h2), fun h3 => absurd h2 h3⟩, fun h2 => ⟨fun h3 => ⟨fun h4 => absurd h4 h2, fun h4 => ⟨⟨by omega, by omega⟩, nx _ h (n1 h2) (by omega) (Or.inr (by omega))⟩⟩, fun h3 => hq.2 (fun z => ?_)⟩⟩⟩⟩
      · have e : k = 8 := by omega
        subst e
        exact hq.1 hk
      · have := (z k k0 (by omega)).1
        omega
      · have := (z k k0 (by omega)).2
        omega
    · simp only [sq_iconst, sq_jsr, sq_anewarray, sq_iload, sq_lload, sq_aload, sq_istore, sq_lstore, sq_astore, sq_iinc, sq_getfield, st_put0, st_put1, st_put3, sq_inv, sq_goto, sq_icmp, sq_ifc, sq_tsw, sq_iadd, sq_isub, sq_imul, sq_ineg, sq_idiv, sq_irem, sq_iand, sq_ior, sq_ixor, sq_ishl, sq_ishr, sq_iushr, sq_ladd, sq_lmul, sq_ldiv, sq_lrem, sq_land, sq_lor, sq_lshl, sq_lushr, sq_lcmp, sq_i2l, sq_l2i, sq_i2c, sq_i2b, sq_dupI, sq_dupR, sq_dup2, sq_pop, sq_iaload, sq_baload, sq_aaload, sq_iastore, sq_bastore, sq_alen, sq_ireturn, sq_lreturn, sq_return, wq_c, wq_n, wlq_s, lkp, tbl, dBk, nth, setL, canSet, cmpI, tk, swK, rdF, entL, catS, cat1, arg, rcv, ald, bld, aln, br, Ccopy, Cmax, Cmin, Cabs, List.take, List.drop, List.reverse, List.reverseAux, List.length, List.append, List.nil_append, List.cons_append, true_and, and_true, and_self, forall_const, true_implies, false_implies, not_true_eq_false, not_false_eq_true, Option.map, reduceCtorEq, reduceIte, or_true, true_or, false_or, or_false, false_and, and_false, List.map, List.append_nil, implies_true, yK, Nat.reduceBEq, beq_self_eq_true, Int.zero_ne_one, Nat.reduceDiv, Nat.reduceMod, Nat.reduceAdd, Nat.reduceSub, Nat.reduceMul, Nat.reduceEqDiff, Nat.reduceLeDiff, Int.reduceToNat, Int.reduceNeg, Int.reduceEq, Int.reduceLT, Int.reduceLE, Int.reduceNatCast, Int.reduceNatCast', Int.reduceAdd, Int.reduceSub, Int.reduceMul, eq_self, Prod.mk.injEq, A_X8_lettersIn, V_X8_lettersIn, B_X8_lettersIn, Y_X8_lettersIn, C_X8_byteOf, shpT, rfsT, wjq_s, look]
      rw [hP4]
      exact ⟨_, 0, rfl, rfl, rfl, (by omega), (by omega), fun p p0 p1 => by omega, rfl⟩
def wrt (f : Int → Int) (s w n : Int) : Int → Int := fun j => if s ≤ j ∧ j < s + n then byt w (j - s) else f j
theorem wrt_0 {f : Int → Int} {s w : Int} : f = wrt f s w 0 := by
  funext j; unfold wrt; rw [if_neg (by omega)]
theorem wrt_s {f : Int → Int} {s w k : Int} (h : 0 ≤ k) : upI (wrt f s w k) (s + k) (byt w k) = wrt f s w (k + 1) := by
  funext j
  unfold upI wrt
  by_cases e : j = s + k
  · subst e
    rw [if_pos rfl, if_pos (by omega), show s + k - s = k by omega]
  · rw [if_neg e]
    by_cases c : s ≤ j ∧ j < s + k
    · rw [if_pos c, if_pos (by omega)]
    · rw [if_neg c, if_neg (by omega)]
def A_X4_write : List (Nat × Ctr) := []
theorem e_X4_write (o : OM) : Ev o Y_X4_write 0 T_X4_write A_X4_write := ⟨rfl, List.forall_mem_cons.mpr ⟨Or.inl f_X4_9, List.forall_mem_cons.mpr ⟨Or.inl f_X4_15, fun _ h => absurd h List.not_mem_nil⟩⟩, fun _ h => absurd h List.not_mem_nil, fun _ h => absurd h List.not_mem_nil, fun _ h => absurd h List.not_mem_nil, fun _ h => absurd h List.not_mem_nil, fun _ h => absurd h List.not_mem_nil⟩
def C_X4_write : Ctr := fun A σ k => wpl A_X4_write V_X4_write (yK Y_X4_write) B_X4_write k 2 0 [] (entL A) σ
theorem s_X4_write (o : OM) : Sound o Y_X4_write 0 C_X4_write := fun Q A σ _ hC => at_wpl (e_X4_write o) k_X4_write 2 0 [] (entL A) σ hC
def A_X8_letters : List (Nat × Ctr) := [(1, arg 5 C_X8_lettersIn), (2, arg 3 C_X8_byteOf), (2, rcv 4 2 C_X4_write)]
theorem e_X8_letters (o : OM) : Ev o Y_X8_letters 2 T_X8_letters A_X8_letters := ⟨rfl, List.forall_mem_cons.mpr ⟨Or.inl f_X8_36, List.forall_mem_cons.mpr ⟨Or.inl f_X8_151, fun _ h => absurd h List.not_mem_nil⟩⟩, fun _ h => absurd h List.not_mem_nil, fun _ h => absurd h List.not_mem_nil, fun _ h => absurd h List.not_mem_nil, List.forall_mem_cons.mpr ⟨cl_X4_write (s_X4_write o) (by decide) (Or.inr ⟨_, wn_53⟩), fun _ h => absurd h List.not_mem_nil⟩, List.forall_mem_cons.mpr ⟨cl_X8_lettersIn (s_X8_lettersIn o) (by decide) (Or.inl w_462), List.forall_mem_cons.mpr ⟨cl_X8_byteOf (s_X8_byteOf o) (by decide) (Or.inl w_465), fun _ h => absurd h List.not_mem_nil⟩⟩⟩
def C_X8_letters : Ctr := fun A σ κ => match A with
  | [.inr (.inr (.inl 0)), .inr (.inl w)] => (0 ≤ σ 5 0 ∧ σ 5 0 ≤ 30) ∧ (¬ LOK w 8 → κ [vI (-102)] σ) ∧ (LOK w 8 → (30 < σ 5 0 + lcn w 8 → κ [vI (-104)] σ) ∧ (¬ 30 < σ 5 0 + lcn w 8 → ∀ τ : Sto, (∀ p : Nat, ¬ p = 5 → ¬ p = 35 → τ p = σ p) → τ 5 0 = σ 5 0 + lcn w 8 → τ 35 = wrt (σ 35) (σ 5 0) w (lcn w 8) → κ [vI (σ 5 0 + lcn w 8)] τ))
  | _ => False
set_option maxRecDepth 20000 in
theorem s_X8_letters (o : OM) : Sound o Y_X8_letters 2 C_X8_letters := by
  intro Q A σ hA hC
  match A, hA, hC with
  | [.inr (.inr (.inl 0)), .inr (.inl w)], hA, hC =>
    obtain ⟨h0, hq⟩ : (0 ≤ σ 5 0 ∧ σ 5 0 ≤ 30) ∧ (¬ LOK w 8 → Q [vI (-102)] σ) ∧ (LOK w 8 → (30 < σ 5 0 + lcn w 8 → Q [vI (-104)] σ) ∧ (¬ 30 < σ 5 0 + lcn w 8 → ∀ τ : Sto, (∀ p : Nat, ¬ p = 5 → ¬ p = 35 → τ p = σ p) → τ 5 0 = σ 5 0 + lcn w 8 → τ 35 = wrt (σ 35) (σ 5 0) w (lcn w 8) → Q [vI (σ 5 0 + lcn w 8)] τ)) := hC
    have li := lcn_in (w := w) (k := 8) (by decide)
    obtain ⟨P34, hP34⟩ : ∃ P : Nat → List AV → List AV → Sto → Prop, P = fun m S L τ => ∃ k : Int, S = [] ∧ L = [vR 0, vL w, vX, vI (lcn w 8), vI k] ∧ (∀ p : Nat, ¬ p = 5 → ¬ p = 35 → τ p = σ p) ∧ LOK w 8 ∧ ¬ 30 < σ 5 0 + lcn w 8 ∧ 0 ≤ k ∧ k ≤ lcn w 8 ∧ τ 5 0 = σ 5 0 + k ∧ τ 35 = wrt (σ 35) (σ 5 0) w k ∧ m = (8 - k).toNat := ⟨_, rfl⟩
    refine at_meth (lv := V_X8_letters) (B := B_X8_letters) (e_X8_letters o) k_X8_letters 5 [(34, P34)] (List.forall_mem_cons.mpr ⟨?_, fun _ h => absurd h List.not_mem_nil⟩) 0 [] _ σ ?_
    · intro m S L τ hI
      rw [hP34] at hI
      obtain ⟨k, rfl, rfl, he, hl, hf, k0, k1, h5, h35, hm⟩ := hI
      simp only [sq_iconst, sq_jsr, sq_anewarray, sq_iload, sq_lload, sq_aload, sq_istore, sq_lstore, sq_astore, sq_iinc, sq_getfield, st_put0, st_put1, st_put3, sq_inv, sq_goto, sq_icmp, sq_ifc, sq_tsw, sq_iadd, sq_isub, sq_imul, sq_ineg, sq_idiv, sq_irem, sq_iand, sq_ior, sq_ixor, sq_ishl, sq_ishr, sq_iushr, sq_ladd, sq_lmul, sq_ldiv, sq_lrem, sq_land, sq_lor, sq_lshl, sq_lushr, sq_lcmp, sq_i2l, sq_l2i, sq_i2c, sq_i2b, sq_dupI, sq_dupR, sq_dup2, sq_pop, sq_iaload, sq_baload, sq_aaload, sq_iastore, sq_bastore, sq_alen, sq_ireturn, sq_lreturn, sq_return, wq_c, wq_n, wlq_s, lkp, tbl, dBk, nth, setL, canSet, cmpI, tk, swK, rdF, entL, catS, cat1, arg, rcv, ald, bld, aln, br, Ccopy, Cmax, Cmin, Cabs, List.take, List.drop, List.reverse, List.reverseAux, List.length, List.append, List.nil_append, List.cons_append, true_and, and_true, and_self, forall_const, true_implies, false_implies, not_true_eq_false, not_false_eq_true, Option.map, reduceCtorEq, reduceIte, or_true, true_or, false_or, or_false, false_and, and_false, List.map, List.append_nil, implies_true, yK, Nat.reduceBEq, beq_self_eq_true, Int.zero_ne_one, Nat.reduceDiv, Nat.reduceMod, Nat.reduceAdd, Nat.reduceSub, Nat.reduceMul, Nat.reduceEqDiff, Nat.reduceLeDiff, Int.reduceToNat, Int.reduceNeg, Int.reduceEq, Int.reduceLT, Int.reduceLE, Int.reduceNatCast, Int.reduceNatCast', Int.reduceAdd, Int.reduceSub, Int.reduceMul, eq_self, Prod.mk.injEq, A_X8_letters, V_X8_letters, B_X8_letters, Y_X8_letters, C_X8_lettersIn, C_X8_byteOf, C_X4_write, A_X4_write, V_X4_write, B_X4_write, Y_X4_write, shpT, rfsT, wjq_s, look, C_X4_write, sq_iconst, sq_jsr, sq_anewarray, sq_iload, sq_lload, sq_aload, sq_istore, sq_lstore, sq_astore, sq_iinc, sq_getfield, st_put0, st_put1, st_put3, sq_inv, sq_goto, sq_icmp, sq_ifc, sq_tsw, sq_iadd, sq_isub, sq_imul, sq_ineg, sq_idiv, sq_irem, sq_iand, sq_ior, sq_ixor, sq_ishl, sq_ishr, sq_iushr, sq_ladd, sq_lmul, sq_ldiv, sq_lrem, sq_land, sq_lor, sq_lshl, sq_lushr, sq_lcmp, sq_i2l, sq_l2i, sq_i2c, sq_i2b, sq_dupI, sq_dupR, sq_dup2, sq_pop, sq_iaload, sq_baload, sq_aaload, sq_iastore, sq_bastore, sq_alen, sq_ireturn, sq_lreturn, sq_return, wq_c, wq_n, wlq_s, lkp, tbl, dBk, nth, setL, canSet, cmpI, tk, swK, rdF, entL, catS, cat1, arg, rcv, ald, bld, aln, br, Ccopy, Cmax, Cmin, Cabs, List.take, List.drop, List.reverse, List.reverseAux, List.length, List.append, List.nil_append, List.cons_append, true_and, and_true, and_self, forall_const, true_implies, false_implies, not_true_eq_false, not_false_eq_true, Option.map, reduceCtorEq, reduceIte, or_true, true_or, false_or, or_false, false_and, and_false, List.map, List.append_nil, implies_true, yK, Nat.reduceBEq, beq_self_eq_true, Int.zero_ne_one, Nat.reduceDiv, Nat.reduceMod, Nat.reduceAdd, Nat.reduceSub, Nat.reduceMul, Nat.reduceEqDiff, Nat.reduceLeDiff, Int.reduceToNat, Int.reduceNeg, Int.reduceEq, Int.reduceLT, Int.reduceLE, Int.reduceNatCast, Int.reduceNatCast', Int.reduceAdd, Int.reduceSub, Int.reduceMul, eq_self, Prod.mk.injEq, A_X4_write, V_X4_write, B_X4_write, Y_X4_write, shpT, rfsT, br]
      have eb : bAnd (w32 (lUshr w (8 * k))) 255 = byt w k := rfl
      have e5 : su τ 35 (τ 5 0) (byt w k) 5 0 = τ 5 0 := by rw [su_ne 5 (by decide)]
      rw [eb, e5, hP34]
      refine ⟨fun h => ?_, fun h => ⟨⟨by omega, by omega⟩, fun h1 => by exfalso; omega, fun h1 => ⟨⟨by omega, by omega⟩, ⟨by omega, by omega⟩, ⟨by omega, by omega⟩, _, ?_, k + 1, rfl, rfl, fun p p5 p35 => ?_, hl, hf, (by omega), (by omega), ?_, ?_, rfl⟩⟩⟩
      · have e : k = lcn w 8 := by omega
        rw [h5, e]
        exact (hq.2 hl).2 hf τ he (by rw [h5, e]) (by rw [h35, e])
      · omega
      · rw [su_ne p p5, su_ne p p35, he p p5 p35]
      · rw [su_y, h5]; omega
      · rw [su_ne 35 (by decide), su_u, h5, h35, wrt_s k0]
    · simp only [sq_iconst, sq_jsr, sq_anewarray, sq_iload, sq_lload, sq_aload, sq_istore, sq_lstore, sq_astore, sq_iinc, sq_getfield, st_put0, st_put1, st_put3, sq_inv, sq_goto, sq_icmp, sq_ifc, sq_tsw, sq_iadd, sq_isub, sq_imul, sq_ineg, sq_idiv, sq_irem, sq_iand, sq_ior, sq_ixor, sq_ishl, sq_ishr, sq_iushr, sq_ladd, sq_lmul, sq_ldiv, sq_lrem, sq_land, sq_lor, sq_lshl, sq_lushr, sq_lcmp, sq_i2l, sq_l2i, sq_i2c, sq_i2b, sq_dupI, sq_dupR, sq_dup2, sq_pop, sq_iaload, sq_baload, sq_aaload, sq_iastore, sq_bastore, sq_alen, sq_ireturn, sq_lreturn, sq_return, wq_c, wq_n, wlq_s, lkp, tbl, dBk, nth, setL, canSet, cmpI, tk, swK, rdF, entL, catS, cat1, arg, rcv, ald, bld, aln, br, Ccopy, Cmax, Cmin, Cabs, List.take, List.drop, List.reverse, List.reverseAux, List.length, List.append, List.nil_append, List.cons_append, true_and, and_true, and_self, forall_const, true_implies, false_implies, not_true_eq_false, not_false_eq_true, Option.map, reduceCtorEq, reduceIte, or_true, true_or, false_or, or_false, false_and, and_false, List.map, List.append_nil, implies_true, yK, Nat.reduceBEq, beq_self_eq_true, Int.zero_ne_one, Nat.reduceDiv, Nat.reduceMod, Nat.reduceAdd, Nat.reduceSub, Nat.reduceMul, Nat.reduceEqDiff, Nat.reduceLeDiff, Int.reduceToNat, Int.reduceNeg, Int.reduceEq, Int.reduceLT, Int.reduceLE, Int.reduceNatCast, Int.reduceNatCast', Int.reduceAdd, Int.reduceSub, Int.reduceMul, eq_self, Prod.mk.injEq, A_X8_letters, V_X8_letters, B_X8_letters, Y_X8_letters, C_X8_lettersIn, C_X8_byteOf, C_X4_write, A_X4_write, V_X4_write, B_X4_write, Y_X4_write, shpT, rfsT, wjq_s, look, br]
      rw [hP34]
      exact ⟨fun hl => ⟨fun h => ⟨⟨by omega, by omega⟩, fun h1 => ⟨_, 0, rfl, rfl, fun _ _ _ => rfl, hl, (by omega), (by omega), (by omega), (by omega), wrt_0, rfl⟩, fun h1 => (hq.2 hl).1 (by omega)⟩, fun h => by exfalso; omega⟩, fun hl => hq.1 hl⟩
theorem LOK_i {w k : Int} (h : 0 ≤ k) : LOK w (k + 1) ↔ LOK w k ∧ byt w k ≤ 126 ∧ (byt w k = 0 ∨ lcn w k = k) :=
  ⟨fun z => ⟨fun p p0 p1 => z p p0 (by omega), z k h (by omega)⟩, fun z => LOK_s h z.1 z.2.1 z.2.2⟩
theorem lU_0 {w : Int} (h : i64 w) : lUshr w 0 = w := by
  unfold lUshr
  unfold i64 at h
  rw [show ((Int32.ofInt 0).toInt64.toUInt64 &&& Int64.toUInt64 63) = 0 from rfl]
  simp
  exact Int.bmod_eq_of_le (by show -((18446744073709551616 : Int) / 2) ≤ w; omega) (by show w < ((18446744073709551616 : Int) + 1) / 2; omega)
def A_X9_letters : List (Nat × Ctr) := []
theorem e_X9_letters (o : OM) : Ev o Y_X9_letters 0 T_X9_letters A_X9_letters := ⟨rfl, List.forall_mem_cons.mpr ⟨Or.inl f_X9_176, List.forall_mem_cons.mpr ⟨Or.inl f_X9_25, fun _ h => absurd h List.not_mem_nil⟩⟩, fun _ h => absurd h List.not_mem_nil, List.forall_mem_cons.mpr ⟨⟨w_1339, by decide, by decide⟩, fun _ h => absurd h List.not_mem_nil⟩, fun _ h => absurd h List.not_mem_nil, fun _ h => absurd h List.not_mem_nil, fun _ h => absurd h List.not_mem_nil⟩
def C_X9_letters : Ctr := fun A σ κ => match A with
  | [.inr (.inr (.inl 67)), .inr (.inl w)] => (0 ≤ σ 67 8 ∧ σ 67 8 ≤ 30) ∧ (¬ LOK w 8 → κ [vI (-102)] σ) ∧ (LOK w 8 → (30 < σ 67 8 + lcn w 8 → κ [vI (-104)] σ) ∧ (¬ 30 < σ 67 8 + lcn w 8 → ∀ τ : Sto, (∀ p : Nat, ¬ p = 67 → ¬ p = 73 → τ p = σ p) → (∀ i, ¬ i = 8 → τ 67 i = σ 67 i) → τ 67 8 = σ 67 8 + lcn w 8 → τ 73 = wrt (σ 73) (σ 67 8) w (lcn w 8) → κ [vI (σ 67 8 + lcn w 8)] τ))
  | _ => False
set_option maxRecDepth 20000 in
theorem s_X9_letters (o : OM) : Sound o Y_X9_letters 0 C_X9_letters := by
  intro Q A σ hA hC
  match A, hA, hC with
  | [.inr (.inr (.inl 67)), .inr (.inl w)], hA, hC =>
    obtain ⟨h0, hq⟩ : (0 ≤ σ 67 8 ∧ σ 67 8 ≤ 30) ∧ (¬ LOK w 8 → Q [vI (-102)] σ) ∧ (LOK w 8 → (30 < σ 67 8 + lcn w 8 → Q [vI (-104)] σ) ∧ (¬ 30 < σ 67 8 + lcn w 8 → ∀ τ : Sto, (∀ p : Nat, ¬ p = 67 → ¬ p = 73 → τ p = σ p) → (∀ i, ¬ i = 8 → τ 67 i = σ 67 i) → τ 67 8 = σ 67 8 + lcn w 8 → τ 73 = wrt (σ 73) (σ 67 8) w (lcn w 8) → Q [vI (σ 67 8 + lcn w 8)] τ)) := hC
    have li := lcn_in (w := w) (k := 8) (by decide)
    have hw : i64 w := (okL_cons.mp (okL_cons.mp hA).2).1
    obtain ⟨P11, hP11⟩ : ∃ P : Nat → List AV → List AV → Sto → Prop, P = fun m S L τ => ∃ k fl sh : Int, S = [] ∧ L = [vR 67, vL w, vX, vI (lcn w k), vI fl, vL sh, vX, vI k] ∧ τ = σ ∧ 0 ≤ k ∧ k ≤ 8 ∧ (k < 8 → sh = lUshr w (8 * k)) ∧ ((fl = 1 ∧ LOK w k) ∨ (fl = 0 ∧ ¬ LOK w k)) ∧ m = (8 - k + 100).toNat := ⟨_, rfl⟩
    obtain ⟨P108, hP108⟩ : ∃ P : Nat → List AV → List AV → Sto → Prop, P = fun m S L τ => ∃ k fl sh : Int, S = [] ∧ L = [vR 67, vL w, vX, vI (lcn w 8), vI fl, vL sh, vX, vI k] ∧ (∀ p : Nat, ¬ p = 67 → ¬ p = 73 → τ p = σ p) ∧ (∀ i, ¬ i = 8 → τ 67 i = σ 67 i) ∧ LOK w 8 ∧ ¬ 30 < σ 67 8 + lcn w 8 ∧ 0 ≤ k ∧ k ≤ lcn w 8 ∧ τ 67 8 = σ 67 8 + k ∧ τ 73 = wrt (σ 73) (σ 67 8) w k ∧ m = (8 - k).toNat := ⟨_, rfl⟩
    refine at_meth (lv := V_X9_letters) (B := B_X9_letters) (e_X9_letters o) k_X9_letters 7 [(11, P11), (108, P108)] (List.forall_mem_cons.mpr ⟨?_, List.forall_mem_cons.mpr ⟨?_, fun _ h => absurd h List.not_mem_nil⟩⟩) 0 [] _ σ ?_
    · intro m S L τ hI
      rw [hP11] at hI
      obtain ⟨k, fl, sh, rfl, rfl, rfl, k0, k1, hsh, hfl, hm⟩ := hI
      simp only [sq_iconst, sq_jsr, sq_anewarray, sq_iload, sq_lload, sq_aload, sq_istore, sq_lstore, sq_astore, sq_iinc, sq_getfield, st_put0, st_put1, st_put3, sq_inv, sq_goto, sq_icmp, sq_ifc, sq_tsw, sq_iadd, sq_isub, sq_imul, sq_ineg, sq_idiv, sq_irem, sq_iand, sq_ior, sq_ixor, sq_ishl, sq_ishr, sq_iushr, sq_ladd, sq_lmul, sq_ldiv, sq_lrem, sq_land, sq_lor, sq_lshl, sq_lushr, sq_lcmp, sq_i2l, sq_l2i, sq_i2c, sq_i2b, sq_dupI, sq_dupR, sq_dup2, sq_pop, sq_iaload, sq_baload, sq_aaload, sq_iastore, sq_bastore, sq_alen, sq_ireturn, sq_lreturn, sq_return, wq_c, wq_n, wlq_s, lkp, tbl, dBk, nth, setL, canSet, cmpI, tk, swK, rdF, entL, catS, cat1, arg, rcv, ald, bld, aln, br, Ccopy, Cmax, Cmin, Cabs, List.take, List.drop, List.reverse, List.reverseAux, List.length, List.append, List.nil_append, List.cons_append, true_and, and_true, and_self, forall_const, true_implies, false_implies, not_true_eq_false, not_false_eq_true, Option.map, reduceCtorEq, reduceIte, or_true, true_or, false_or, or_false, false_and, and_false, List.map, List.append_nil, implies_true, yK, Nat.reduceBEq, beq_self_eq_true, Int.zero_ne_one, Nat.reduceDiv, Nat.reduceMod, Nat.reduceAdd, Nat.reduceSub, Nat.reduceMul, Nat.reduceEqDiff, Nat.reduceLeDiff, Int.reduceToNat, Int.reduceNeg, Int.reduceEq, Int.reduceLT, Int.reduceLE, Int.reduceNatCast, Int.reduceNatCast', Int.reduceAdd, Int.reduceSub, Int.reduceMul, eq_self, Prod.mk.injEq, A_X9_letters, V_X9_letters, B_X9_letters, Y_X9_letters, shpT, rfsT, wjq_s, look, br]
      have lk := lcn_in (w := w) k0
      have ls := lcn_s (w := w) k0
      refine ⟨fun h => ?_, fun h => ?_⟩
      · have e : k = 8 := by omega
        subst e
        rw [hP108]
        refine ⟨fun h1 => ?_, fun h1 => hq.1 (hfl.elim (fun z => by omega) (fun z => z.2))⟩
        have hl : LOK w 8 := hfl.elim (fun z => z.2) (fun z => absurd z.1 h1)
        exact ⟨⟨by omega, by omega⟩, fun h2 => ⟨_, by omega, 0, fl, sh, rfl, rfl, fun _ _ _ => rfl, fun _ _ => rfl, hl, (by omega), (by omega), (by omega), (by omega), wrt_0, rfl⟩, fun h2 => (hq.2 hl).1 (by omega)⟩
      · have eb : w32 (lAnd sh 255) = byt w k := by rw [lA_255, hsh (by omega)]; rfl
        have bi := byt_in w k
        have sf : ∀ fl' : Int, ((fl' = 1 ∧ LOK w (k + 1)) ∨ (fl' = 0 ∧ ¬ LOK w (k + 1))) → (byt w k ≤ 0 → i32 (lcn w k + 0) ∧ i32 (k + 1) ∧ ∃ m_1, m_1 < m ∧ P11 m_1 [] [vR 67, vL w, vX, vI (lcn w k + 0), vI fl', vL (lUshr sh 8), vX, vI (k + 1)] τ) ∧ (¬ byt w k ≤ 0 → i32 (lcn w k + 1) ∧ i32 (k + 1) ∧ ∃ m_1, m_1 < m ∧ P11 m_1 [] [vR 67, vL w, vX, vI (lcn w k + 1), vI fl', vL (lUshr sh 8), vX, vI (k + 1)] τ) := by
          intro fl' hf
          have hs' : k + 1 < 8 → lUshr sh 8 = lUshr w (8 * (k + 1)) := fun z => by rw [hsh (by omega), lU_2 k0 (by omega)]
          rw [hP11]
          refine ⟨fun z => ⟨⟨by omega, by omega⟩, ⟨by omega, by omega⟩, _, ?_, k + 1, fl', lUshr sh 8, rfl, ?_, rfl, (by omega), (by omega), hs', hf, rfl⟩, fun z => ⟨⟨by omega, by omega⟩, ⟨by omega, by omega⟩, _, ?_, k + 1, fl', lUshr sh 8, rfl, ?_, rfl, (by omega), (by omega), hs', hf, rfl⟩⟩
          · omega
          · rw [ls]; unfold nzb; rw [if_pos (by omega)]
          · omega
          · rw [ls]; unfold nzb; rw [if_neg (by omega)]
        simp only [eb]
        have li' := LOK_i (w := w) k0
        have n1 : ¬ fl = 0 → LOK w k := fun z => hfl.elim (fun y => y.2) (fun y => absurd y.1 z)
        have n0 : fl = 0 → ¬ LOK w k := fun z => hfl.elim (fun y => by omega) (fun y => y.2)
        exact ⟨fun h1 => sf 0 (Or.inr ⟨rfl, fun z => n0 h1 (li'.mp z).1⟩), fun h1 => ⟨fun h2 => sf 0 (Or.inr ⟨rfl, fun z => by have := (li'.mp z).2.1; omega⟩), fun h2 => ⟨fun h3 => sf 1 (Or.inl ⟨rfl, li'.mpr ⟨n1 h1, (by omega), Or.inl h3⟩⟩), fun h3 => ⟨fun h4 => sf 0 (Or.inr ⟨rfl, fun z => (li'.mp z).2.2.elim h3 h4⟩), fun h4 => sf 1 (Or.inl ⟨rfl, li'.mpr ⟨n1 h1, (by omega), Or.inr (Classical.not_not.mp h4)⟩⟩)⟩⟩⟩⟩
    · intro m S L τ hI
      rw [hP108] at hI
      obtain ⟨k, fl, sh, rfl, rfl, he, he2, hl, hf, k0, k1, h8, h73, hm⟩ := hI
      simp only [sq_iconst, sq_jsr, sq_anewarray, sq_iload, sq_lload, sq_aload, sq_istore, sq_lstore, sq_astore, sq_iinc, sq_getfield, st_put0, st_put1, st_put3, sq_inv, sq_goto, sq_icmp, sq_ifc, sq_tsw, sq_iadd, sq_isub, sq_imul, sq_ineg, sq_idiv, sq_irem, sq_iand, sq_ior, sq_ixor, sq_ishl, sq_ishr, sq_iushr, sq_ladd, sq_lmul, sq_ldiv, sq_lrem, sq_land, sq_lor, sq_lshl, sq_lushr, sq_lcmp, sq_i2l, sq_l2i, sq_i2c, sq_i2b, sq_dupI, sq_dupR, sq_dup2, sq_pop, sq_iaload, sq_baload, sq_aaload, sq_iastore, sq_bastore, sq_alen, sq_ireturn, sq_lreturn, sq_return, wq_c, wq_n, wlq_s, lkp, tbl, dBk, nth, setL, canSet, cmpI, tk, swK, rdF, entL, catS, cat1, arg, rcv, ald, bld, aln, br, Ccopy, Cmax, Cmin, Cabs, List.take, List.drop, List.reverse, List.reverseAux, List.length, List.append, List.nil_append, List.cons_append, true_and, and_true, and_self, forall_const, true_implies, false_implies, not_true_eq_false, not_false_eq_true, Option.map, reduceCtorEq, reduceIte, or_true, true_or, false_or, or_false, false_and, and_false, List.map, List.append_nil, implies_true, yK, Nat.reduceBEq, beq_self_eq_true, Int.zero_ne_one, Nat.reduceDiv, Nat.reduceMod, Nat.reduceAdd, Nat.reduceSub, Nat.reduceMul, Nat.reduceEqDiff, Nat.reduceLeDiff, Int.reduceToNat, Int.reduceNeg, Int.reduceEq, Int.reduceLT, Int.reduceLE, Int.reduceNatCast, Int.reduceNatCast', Int.reduceAdd, Int.reduceSub, Int.reduceMul, eq_self, Prod.mk.injEq, A_X9_letters, V_X9_letters, B_X9_letters, Y_X9_letters, shpT, rfsT, wjq_s, look, br]
      have eb : w32 (lAnd (lUshr w (8 * k)) 255) = byt w k := by rw [lA_255]; rfl
      have e67 : su τ 73 (τ 67 8) (byt w k) 67 8 = τ 67 8 := by rw [su_ne 67 (by decide)]
      rw [eb, e67, hP108]
      refine ⟨fun h => ?_, fun h => ⟨⟨by omega, by omega⟩, ⟨by omega, by omega⟩, ⟨by omega, by omega⟩, ⟨by omega, by omega⟩, _, ?_, k + 1, fl, sh, rfl, rfl, fun p p5 p35 => ?_, fun i hi => ?_, hl, hf, (by omega), (by omega), ?_, ?_, rfl⟩⟩
      · have e : k = lcn w 8 := by omega
        rw [h8, e]
        exact (hq.2 hl).2 hf τ he he2 (by rw [h8, e]) (by rw [h73, e])
      · omega
      · rw [su_ne p p5, su_ne p p35, he p p5 p35]
      · rw [su_x hi, su_ne 67 (by decide), he2 i hi]
      · rw [su_y, h8]; omega
      · rw [su_ne 73 (by decide), su_u, h8, h73, wrt_s k0]
    · simp only [sq_iconst, sq_jsr, sq_anewarray, sq_iload, sq_lload, sq_aload, sq_istore, sq_lstore, sq_astore, sq_iinc, sq_getfield, st_put0, st_put1, st_put3, sq_inv, sq_goto, sq_icmp, sq_ifc, sq_tsw, sq_iadd, sq_isub, sq_imul, sq_ineg, sq_idiv, sq_irem, sq_iand, sq_ior, sq_ixor, sq_ishl, sq_ishr, sq_iushr, sq_ladd, sq_lmul, sq_ldiv, sq_lrem, sq_land, sq_lor, sq_lshl, sq_lushr, sq_lcmp, sq_i2l, sq_l2i, sq_i2c, sq_i2b, sq_dupI, sq_dupR, sq_dup2, sq_pop, sq_iaload, sq_baload, sq_aaload, sq_iastore, sq_bastore, sq_alen, sq_ireturn, sq_lreturn, sq_return, wq_c, wq_n, wlq_s, lkp, tbl, dBk, nth, setL, canSet, cmpI, tk, swK, rdF, entL, catS, cat1, arg, rcv, ald, bld, aln, br, Ccopy, Cmax, Cmin, Cabs, List.take, List.drop, List.reverse, List.reverseAux, List.length, List.append, List.nil_append, List.cons_append, true_and, and_true, and_self, forall_const, true_implies, false_implies, not_true_eq_false, not_false_eq_true, Option.map, reduceCtorEq, reduceIte, or_true, true_or, false_or, or_false, false_and, and_false, List.map, List.append_nil, implies_true, yK, Nat.reduceBEq, beq_self_eq_true, Int.zero_ne_one, Nat.reduceDiv, Nat.reduceMod, Nat.reduceAdd, Nat.reduceSub, Nat.reduceMul, Nat.reduceEqDiff, Nat.reduceLeDiff, Int.reduceToNat, Int.reduceNeg, Int.reduceEq, Int.reduceLT, Int.reduceLE, Int.reduceNatCast, Int.reduceNatCast', Int.reduceAdd, Int.reduceSub, Int.reduceMul, eq_self, Prod.mk.injEq, A_X9_letters, V_X9_letters, B_X9_letters, Y_X9_letters, shpT, rfsT, wjq_s, look, br]
      rw [hP11]
      exact ⟨_, 0, 1, w, rfl, rfl, rfl, (by omega), (by omega), fun _ => (lU_0 hw).symm, Or.inl ⟨rfl, fun p p0 p1 => by omega⟩, rfl⟩
theorem op_letters {σ : Sto} (hR : Rel σ) {w : Int} {κ : List AV → Sto → Prop} (hκ : ∀ v τ, Mid C_X9_letters [vR 67, vL w] (σ 102) v τ → κ [vI v] τ) : C_X8_letters [vR 0, vL w] σ κ := by
  obtain ⟨⟨c1, c2, c3, c4, c5, c6, c7, c8, c9, c10, c11, c12, c13, c14, c15, c16⟩, ⟨e1, e2, e3, e4, e5, e6, e7, e8, e9, e10, e11, e12, e13, e14, e15⟩, ⟨g1, g2, g3, g4⟩, ⟨h1, h2, h3, h4, h5, h6⟩, ⟨l1, l2, l3, l4⟩, hImg, ⟨n1, n2, n3, n4⟩⟩ := id hR
  have li := lcn_in (w := w) (k := 8) (by decide)
  refine ⟨g2, fun h => hκ _ _ (fun κ' hκ' => ⟨by rw [g1]; exact g2, fun _ => hκ' _ hR rfl, fun z => absurd z h⟩), fun hl => ⟨fun h => hκ _ _ (fun κ' hκ' => ⟨by rw [g1]; exact g2, fun z => absurd hl z, fun _ => ⟨fun _ => hκ' _ hR rfl, fun z => absurd (by rw [g1]; exact h) z⟩⟩), fun h T f1 f2 f3 => hκ _ _ (fun κ' hκ' => ?_)⟩⟩
  have t67 : T 67 8 = σ 5 0 := by rw [f1 67 (by decide) (by decide), g1]
  refine ⟨by rw [t67]; exact g2, fun z => absurd hl z, fun _ => ⟨fun z => absurd (by rw [← t67]; exact z) h, fun _ τ k1 k2 k3 k4 => ?_⟩⟩
  rw [t67] at k3 k4 ⊢
  refine hκ' τ (Rel_p (σ := σ) (fun p hp => ?_) (fun i hi => ?_) ?_ hR) (by rw [k1 102 (by decide) (by decide), f1 102 (by decide) (by decide)])
  · rw [k1 p (by omega) (by omega), f1 p (by omega) (by omega)]
  · rw [k2 i hi, f1 67 (by decide) (by decide)]
  · have e5 : τ 5 0 = σ 5 0 + lcn w 8 := by rw [k1 5 (by decide) (by decide), f2]
    have e35 : τ 35 = wrt (σ 35) (σ 5 0) w (lcn w 8) := by rw [k1 35 (by decide) (by decide), f3]
    refine ⟨by rw [k3, e5], by rw [e5]; omega, by rw [k4, e35, f1 73 (by decide) (by decide), g3], fun j j0 j1 => ?_⟩
    rw [e35]
    unfold wrt
    split
    · rename_i c
      have b1 := byt_in w (j - σ 5 0)
      have b2 := (hl (j - σ 5 0) (by omega) (by omega)).1
      omega
    · exact g4 j j0 j1

