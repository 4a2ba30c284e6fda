-- ===== lowest terms =====
theorem tmodN (a b : Nat) : ((a : Int)).tmod (b : Int) = ((a % b : Nat) : Int) := by
  rw [Int.tmod_eq_emod_of_nonneg (by omega)]
  omega
theorem tdivN (a b : Nat) : ((a : Int)).tdiv (b : Int) = ((a / b : Nat) : Int) := by
  rw [Int.tdiv_eq_ediv_of_nonneg (by omega)]
  omega
/-- a part in lowest terms: 0 above, else below -/
def ltS (up low part : Int) : Int := (if part = 0 then up else low).tdiv (Nat.gcd up.toNat low.toNat : Nat)
def A_X9_common : List (Nat × Ctr) := []
theorem e_X9_common (o : OM) : Ev o Y_X9_common 0 T_X9_common A_X9_common := ⟨rfl, fun _ h => absurd h List.not_mem_nil, fun _ h => absurd h List.not_mem_nil, fun _ h => absurd h List.not_mem_nil, fun _ h => absurd h List.not_mem_nil, fun _ h => absurd h List.not_mem_nil, fun _ h => absurd h List.not_mem_nil⟩
def C_X9_common : Ctr := fun A σ κ => match A with
  | [.inl a, .inl b] => (0 ≤ a ∧ 0 ≤ b) ∧ κ [vI ((Nat.gcd a.toNat b.toNat : Nat))] σ
  | _ => False
set_option maxRecDepth 20000 in
theorem s_X9_common (o : OM) : Sound o Y_X9_common 0 C_X9_common := by
  intro Q A σ hA hC
  match A, hA, hC with
  | [.inl a, .inl b], hA, hC =>
    obtain ⟨h0, hq⟩ : (0 ≤ a ∧ 0 ≤ b) ∧ Q [vI ((Nat.gcd a.toNat b.toNat : Nat))] σ := hC
    have hQ : ∀ r_ τ, r_ = ((Nat.gcd a.toNat b.toNat : Nat)) → τ = (σ) → Q [vI r_] τ := fun r_ τ e e2 => e ▸ e2 ▸ hq
    obtain ⟨x0, rfl⟩ : ∃ n : Nat, a = n := ⟨a.toNat, by omega⟩
    obtain ⟨y0, rfl⟩ : ∃ n : Nat, b = n := ⟨b.toNat, by omega⟩
    rw [Int.toNat_natCast, Int.toNat_natCast] at hQ
    refine at_meth (lv := V_X9_common) (B := B_X9_common) (e_X9_common o) k_X9_common 3 [(4, fun m S L τ => ∃ x y : Nat, S = [] ∧ L = [vI x0, vI y0, vI x, vI y] ∧ τ = σ ∧ Nat.gcd x y = Nat.gcd x0 y0 ∧ m = x)] (List.forall_mem_cons.mpr ⟨?_, fun _ h => absurd h List.not_mem_nil⟩) 0 [] _ σ ?_
    · rintro m S L τ ⟨x, y, rfl, rfl, rfl, hg, hm⟩
      simp only [sq_iconst, sq_jsr, sq_anewarray, sq_iload, sq_lload, sq_aload, sq_istore, sq_lstore, sq_astore, sq_iinc, sq_getfield, st_put0, st_put1, st_put3, sq_inv, sq_goto, sq_icmp, sq_ifc, sq_tsw, sq_iadd, sq_isub, sq_imul, sq_ineg, sq_idiv, sq_irem, sq_iand, sq_ior, sq_ixor, sq_ishl, sq_ishr, sq_iushr, sq_ladd, sq_lmul, sq_ldiv, sq_lrem, sq_land, sq_lor, sq_lshl, sq_lushr, sq_lcmp, sq_i2l, sq_l2i, sq_i2c, sq_i2b, sq_dupI, sq_dupR, sq_dup2, sq_pop, sq_iaload, sq_baload, sq_aaload, sq_iastore, sq_bastore, sq_alen, sq_ireturn, sq_lreturn, sq_return, wq_c, wq_n, wlq_s, lkp, tbl, dBk, nth, setL, canSet, cmpI, tk, swK, rdF, entL, catS, cat1, arg, rcv, ald, bld, aln, br, Ccopy, Cmax, Cmin, Cabs, List.take, List.drop, List.reverse, List.reverseAux, List.length, List.append, List.nil_append, List.cons_append, true_and, and_true, and_self, forall_const, true_implies, false_implies, not_true_eq_false, not_false_eq_true, Option.map, reduceCtorEq, reduceIte, or_true, true_or, false_or, or_false, false_and, and_false, List.map, List.append_nil, implies_true, yK, Nat.reduceBEq, beq_self_eq_true, Int.zero_ne_one, Nat.reduceDiv, Nat.reduceMod, Nat.reduceAdd, Nat.reduceSub, Nat.reduceMul, Nat.reduceEqDiff, Nat.reduceLeDiff, Int.reduceToNat, Int.reduceNeg, Int.reduceEq, Int.reduceLT, Int.reduceLE, Int.reduceNatCast, Int.reduceNatCast', Int.reduceAdd, Int.reduceSub, Int.reduceMul, eq_self, Prod.mk.injEq, A_X9_common, V_X9_common, B_X9_common, Y_X9_common, shpT, rfsT, wjq_s, look]
      refine ⟨fun h1 => ?_, fun h1 => ⟨by omega, y % x, ?_, y % x, x, ?_, ?_, rfl⟩⟩
      · have : x = 0 := by omega
        subst this
        rw [Nat.gcd_zero_left] at hg
        exact hQ _ _ (by rw [hg]) rfl
      · have := Nat.mod_lt y (show x > 0 by omega)
        omega
      · rw [tmodN]
      · rw [← hg, ← Nat.gcd_rec]
    · simp only [sq_iconst, sq_jsr, sq_anewarray, sq_iload, sq_lload, sq_aload, sq_istore, sq_lstore, sq_astore, sq_iinc, sq_getfield, st_put0, st_put1, st_put3, sq_inv, sq_goto, sq_icmp, sq_ifc, sq_tsw, sq_iadd, sq_isub, sq_imul, sq_ineg, sq_idiv, sq_irem, sq_iand, sq_ior, sq_ixor, sq_ishl, sq_ishr, sq_iushr, sq_ladd, sq_lmul, sq_ldiv, sq_lrem, sq_land, sq_lor, sq_lshl, sq_lushr, sq_lcmp, sq_i2l, sq_l2i, sq_i2c, sq_i2b, sq_dupI, sq_dupR, sq_dup2, sq_pop, sq_iaload, sq_baload, sq_aaload, sq_iastore, sq_bastore, sq_alen, sq_ireturn, sq_lreturn, sq_return, wq_c, wq_n, wlq_s, lkp, tbl, dBk, nth, setL, canSet, cmpI, tk, swK, rdF, entL, catS, cat1, arg, rcv, ald, bld, aln, br, Ccopy, Cmax, Cmin, Cabs, List.take, List.drop, List.reverse, List.reverseAux, List.length, List.append, List.nil_append, List.cons_append, true_and, and_true, and_self, forall_const, true_implies, false_implies, not_true_eq_false, not_false_eq_true, Option.map, reduceCtorEq, reduceIte, or_true, true_or, false_or, or_false, false_and, and_false, List.map, List.append_nil, implies_true, yK, Nat.reduceBEq, beq_self_eq_true, Int.zero_ne_one, Nat.reduceDiv, Nat.reduceMod, Nat.reduceAdd, Nat.reduceSub, Nat.reduceMul, Nat.reduceEqDiff, Nat.reduceLeDiff, Int.reduceToNat, Int.reduceNeg, Int.reduceEq, Int.reduceLT, Int.reduceLE, Int.reduceNatCast, Int.reduceNatCast', Int.reduceAdd, Int.reduceSub, Int.reduceMul, eq_self, Prod.mk.injEq, A_X9_common, V_X9_common, B_X9_common, Y_X9_common, shpT, rfsT, wjq_s, look]
      exact ⟨_, x0, y0, rfl, rfl, rfl⟩
theorem gcd_pos {a b : Int} (h : 0 < b) : 0 < ((Nat.gcd a.toNat b.toNat : Nat) : Int) := by
  have := Nat.gcd_pos_of_pos_right a.toNat (show 0 < b.toNat by omega)
  omega
def A_X9_term : List (Nat × Ctr) := [(2, arg 5 C_X9_common)]
theorem e_X9_term (o : OM) : Ev o Y_X9_term 1 T_X9_term A_X9_term := ⟨rfl, fun _ h => absurd h List.not_mem_nil, fun _ h => absurd h List.not_mem_nil, fun _ h => absurd h List.not_mem_nil, fun _ h => absurd h List.not_mem_nil, fun _ h => absurd h List.not_mem_nil, List.forall_mem_cons.mpr ⟨cl_X9_common (s_X9_common o) (by decide) (Or.inl w_1436), fun _ h => absurd h List.not_mem_nil⟩⟩
def C_X9_term : Ctr := fun A σ κ => match A with
  | [.inl a, .inl b, .inl c] => (0 ≤ a ∧ 0 < b) ∧ κ [vI (ltS a b c)] σ
  | _ => False
set_option maxRecDepth 20000 in
theorem s_X9_term (o : OM) : Sound o Y_X9_term 1 C_X9_term := by
  intro Q A σ hA hC
  match A, hA, hC with
  | [.inl a, .inl b, .inl c], hA, hC =>
    obtain ⟨h0, hq⟩ : (0 ≤ a ∧ 0 < b) ∧ Q [vI (ltS a b c)] σ := hC
    have hQ : ∀ r_ τ, r_ = (ltS a b c) → τ = (σ) → Q [vI r_] τ := fun r_ τ e e2 => e ▸ e2 ▸ hq
    refine at_wpl (lv := V_X9_term) (B := B_X9_term) (e_X9_term o) k_X9_term 3 0 [] _ σ ?_
    simp only [sq_iconst, sq_jsr, sq_anewarray, sq_iload, sq_lload, sq_aload, sq_istore, sq_lstore, sq_astore, sq_iinc, sq_getfield, st_put0, st_put1, st_put3, sq_inv, sq_goto, sq_icmp, sq_ifc, sq_tsw, sq_iadd, sq_isub, sq_imul, sq_ineg, sq_idiv, sq_irem, sq_iand, sq_ior, sq_ixor, sq_ishl, sq_ishr, sq_iushr, sq_ladd, sq_lmul, sq_ldiv, sq_lrem, sq_land, sq_lor, sq_lshl, sq_lushr, sq_lcmp, sq_i2l, sq_l2i, sq_i2c, sq_i2b, sq_dupI, sq_dupR, sq_dup2, sq_pop, sq_iaload, sq_baload, sq_aaload, sq_iastore, sq_bastore, sq_alen, sq_ireturn, sq_lreturn, sq_return, wq_c, wq_n, wlq_s, lkp, tbl, dBk, nth, setL, canSet, cmpI, tk, swK, rdF, entL, catS, cat1, arg, rcv, ald, bld, aln, br, Ccopy, Cmax, Cmin, Cabs, List.take, List.drop, List.reverse, List.reverseAux, List.length, List.append, List.nil_append, List.cons_append, true_and, and_true, and_self, forall_const, true_implies, false_implies, not_true_eq_false, not_false_eq_true, Option.map, reduceCtorEq, reduceIte, or_true, true_or, false_or, or_false, false_and, and_false, List.map, List.append_nil, implies_true, yK, Nat.reduceBEq, beq_self_eq_true, Int.zero_ne_one, Nat.reduceDiv, Nat.reduceMod, Nat.reduceAdd, Nat.reduceSub, Nat.reduceMul, Nat.reduceEqDiff, Nat.reduceLeDiff, Int.reduceToNat, Int.reduceNeg, Int.reduceEq, Int.reduceLT, Int.reduceLE, Int.reduceNatCast, Int.reduceNatCast', Int.reduceAdd, Int.reduceSub, Int.reduceMul, eq_self, Prod.mk.injEq, A_X9_term, V_X9_term, B_X9_term, Y_X9_term, C_X9_common, shpT, rfsT]
    have hg := gcd_pos (a := a) h0.2
    exact ⟨by omega, fun h1 => ⟨hg, hQ _ _ (by unfold ltS; rw [if_neg h1]) rfl⟩, fun h1 => ⟨hg, hQ _ _ (by unfold ltS; rw [if_pos (by omega)]) rfl⟩⟩
theorem mod_half {c r : Nat} (hr : 0 < r) (h : r < c) : 2 * (c % r) < c := by
  have h1 := Nat.mod_lt c hr
  have h2 := Nat.div_add_mod c r
  have h3 : 1 ≤ c / r := (Nat.le_div_iff_mul_le hr).mpr (by omega)
  have h4 : r * 1 ≤ r * (c / r) := Nat.mul_le_mul_left r h3
  omega
def A_X8_partInLowestTerms : List (Nat × Ctr) := []
theorem e_X8_partInLowestTerms (o : OM) : Ev o Y_X8_partInLowestTerms 0 T_X8_partInLowestTerms A_X8_partInLowestTerms := ⟨rfl, fun _ h => absurd h List.not_mem_nil, fun _ h => absurd h List.not_mem_nil, fun _ h => absurd h List.not_mem_nil, fun _ h => absurd h List.not_mem_nil, fun _ h => absurd h List.not_mem_nil, fun _ h => absurd h List.not_mem_nil⟩
def C_X8_partInLowestTerms : Ctr := fun A σ κ => match A with
  | [.inl a, .inl b, .inl c] => ((0 ≤ a ∧ a < 134217728) ∧ (0 < b ∧ b < 134217728)) ∧ κ [vI (ltS a b c)] σ
  | _ => False
set_option maxRecDepth 20000 in
theorem s_X8_partInLowestTerms (o : OM) : Sound o Y_X8_partInLowestTerms 0 C_X8_partInLowestTerms := by
  intro Q A σ hA hC
  match A, hA, hC with
  | [.inl a, .inl b, .inl c], hA, hC =>
    obtain ⟨h0, hq⟩ : ((0 ≤ a ∧ a < 134217728) ∧ (0 < b ∧ b < 134217728)) ∧ Q [vI (ltS a b c)] σ := hC
    have hQ : ∀ r_ τ, r_ = (ltS a b c) → τ = (σ) → Q [vI r_] τ := fun r_ τ e e2 => e ▸ e2 ▸ hq
    obtain ⟨hA0, hB0⟩ := h0
    have hg := gcd_pos (a := a) hB0.1
    obtain ⟨x0, rfl⟩ : ∃ n : Nat, a = n := ⟨a.toNat, by omega⟩
    obtain ⟨y0, rfl⟩ : ∃ n : Nat, b = n := ⟨b.toNat, by omega⟩
    rw [Int.toNat_natCast, Int.toNat_natCast] at hg
    refine at_meth (lv := V_X8_partInLowestTerms) (B := B_X8_partInLowestTerms) (e_X8_partInLowestTerms o) k_X8_partInLowestTerms 7 [(8, fun m S L τ => ∃ (x y i : Nat), S = [] ∧ L = [vI x0, vI y0, vI c, vI x, vI y, vI i] ∧ τ = σ ∧ Nat.gcd x y = Nat.gcd x0 y0 ∧ i ≤ 64 ∧ m = 64 - i ∧ x < 2147483648 ∧ ((i % 2 = 0 ∧ y * 2 ^ (i / 2) < 134217728) ∨ (i % 2 = 1 ∧ y < x ∧ x * 2 ^ (i / 2) < 134217728)))] (List.forall_mem_cons.mpr ⟨?_, fun _ h => absurd h List.not_mem_nil⟩) 0 [] _ σ ?_
    · rintro m S L τ ⟨x, y, i, rfl, rfl, rfl, hgc, hi, hm, hx, hyy⟩
      simp only [sq_iconst, sq_jsr, sq_anewarray, sq_iload, sq_lload, sq_aload, sq_istore, sq_lstore, sq_astore, sq_iinc, sq_getfield, st_put0, st_put1, st_put3, sq_inv, sq_goto, sq_icmp, sq_ifc, sq_tsw, sq_iadd, sq_isub, sq_imul, sq_ineg, sq_idiv, sq_irem, sq_iand, sq_ior, sq_ixor, sq_ishl, sq_ishr, sq_iushr, sq_ladd, sq_lmul, sq_ldiv, sq_lrem, sq_land, sq_lor, sq_lshl, sq_lushr, sq_lcmp, sq_i2l, sq_l2i, sq_i2c, sq_i2b, sq_dupI, sq_dupR, sq_dup2, sq_pop, sq_iaload, sq_baload, sq_aaload, sq_iastore, sq_bastore, sq_alen, sq_ireturn, sq_lreturn, sq_return, wq_c, wq_n, wlq_s, lkp, tbl, dBk, nth, setL, canSet, cmpI, tk, swK, rdF, entL, catS, cat1, arg, rcv, ald, bld, aln, br, Ccopy, Cmax, Cmin, Cabs, List.take, List.drop, List.reverse, List.reverseAux, List.length, List.append, List.nil_append, List.cons_append, true_and, and_true, and_self, forall_const, true_implies, false_implies, not_true_eq_false, not_false_eq_true, Option.map, reduceCtorEq, reduceIte, or_true, true_or, false_or, or_false, false_and, and_false, List.map, List.append_nil, implies_true, yK, Nat.reduceBEq, beq_self_eq_true, Int.zero_ne_one, Nat.reduceDiv, Nat.reduceMod, Nat.reduceAdd, Nat.reduceSub, Nat.reduceMul, Nat.reduceEqDiff, Nat.reduceLeDiff, Int.reduceToNat, Int.reduceNeg, Int.reduceEq, Int.reduceLT, Int.reduceLE, Int.reduceNatCast, Int.reduceNatCast', Int.reduceAdd, Int.reduceSub, Int.reduceMul, eq_self, Prod.mk.injEq, A_X8_partInLowestTerms, V_X8_partInLowestTerms, B_X8_partInLowestTerms, Y_X8_partInLowestTerms, shpT, rfsT, wjq_s, look]
      have fin : y = 0 → (¬c = 0 → (¬(x : Int) = 0 → 0 < (x : Int) ∧ Q [vI ((y0 : Int).tdiv (x : Int))] τ) ∧ (¬¬(x : Int) = 0 → Q [vI (y0 : Int)] τ)) ∧ (¬¬c = 0 → (¬(x : Int) = 0 → 0 < (x : Int) ∧ Q [vI ((x0 : Int).tdiv (x : Int))] τ) ∧ (¬¬(x : Int) = 0 → Q [vI (x0 : Int)] τ)) := by
        intro hy
        subst hy
        rw [Nat.gcd_zero_right] at hgc
        have hlt : ∀ p, ltS (x0 : Int) (y0 : Int) p = (if p = 0 then (x0 : Int) else y0).tdiv (x : Int) := by
          intro p
          unfold ltS
          rw [Int.toNat_natCast, Int.toNat_natCast, ← hgc]
        refine ⟨fun h1 => ⟨fun h2 => ⟨by omega, hQ _ _ (by rw [hlt, if_neg h1]) rfl⟩, fun h2 => ?_⟩, fun h1 => ⟨fun h2 => ⟨by omega, hQ _ _ (by rw [hlt, if_pos (by omega)]) rfl⟩, fun h2 => ?_⟩⟩
        · omega
        · omega
      refine ⟨fun h1 => fin ?_, fun h1 => ⟨fun h2 => fin (by omega), fun h2 => ⟨by omega, ⟨by omega, by omega⟩, _, ?_, y, x % y, i + 1, by rw [tmodN]; rfl, ?_, by omega, rfl, ?_, ?_⟩⟩⟩
      · have h64 : i = 64 := by omega
        subst h64
        rcases hyy with ⟨-, h⟩ | ⟨h, -⟩
        · rcases Nat.eq_zero_or_pos y with h0 | h0
          · exact h0
          · have : 1 * 2 ^ (64 / 2) ≤ y * 2 ^ (64 / 2) := Nat.mul_le_mul_right _ h0
            omega
        · omega
      · omega
      · rw [Nat.gcd_comm, ← Nat.gcd_rec, Nat.gcd_comm]; exact hgc
      · rcases hyy with ⟨-, h⟩ | ⟨-, h, -⟩
        · have : y * 1 ≤ y * 2 ^ (i / 2) := Nat.mul_le_mul_left _ (Nat.one_le_two_pow)
          omega
        · omega
      · have hy0 : 0 < y := by omega
        have hml := Nat.mod_lt x hy0
        rcases hyy with ⟨he, h⟩ | ⟨ho, h1, h2⟩
        · exact Or.inr ⟨by omega, hml, by rw [show (i + 1) / 2 = i / 2 by omega]; exact h⟩
        · refine Or.inl ⟨by omega, ?_⟩
          rw [show (i + 1) / 2 = i / 2 + 1 by omega, Nat.pow_succ, ← Nat.mul_assoc, Nat.mul_right_comm]
          have h3 := mod_half hy0 h1
          have h4 : (x % y * 2) * 2 ^ (i / 2) ≤ x * 2 ^ (i / 2) := Nat.mul_le_mul_right _ (by omega)
          omega
    · simp only [sq_iconst, sq_jsr, sq_anewarray, sq_iload, sq_lload, sq_aload, sq_istore, sq_lstore, sq_astore, sq_iinc, sq_getfield, st_put0, st_put1, st_put3, sq_inv, sq_goto, sq_icmp, sq_ifc, sq_tsw, sq_iadd, sq_isub, sq_imul, sq_ineg, sq_idiv, sq_irem, sq_iand, sq_ior, sq_ixor, sq_ishl, sq_ishr, sq_iushr, sq_ladd, sq_lmul, sq_ldiv, sq_lrem, sq_land, sq_lor, sq_lshl, sq_lushr, sq_lcmp, sq_i2l, sq_l2i, sq_i2c, sq_i2b, sq_dupI, sq_dupR, sq_dup2, sq_pop, sq_iaload, sq_baload, sq_aaload, sq_iastore, sq_bastore, sq_alen, sq_ireturn, sq_lreturn, sq_return, wq_c, wq_n, wlq_s, lkp, tbl, dBk, nth, setL, canSet, cmpI, tk, swK, rdF, entL, catS, cat1, arg, rcv, ald, bld, aln, br, Ccopy, Cmax, Cmin, Cabs, List.take, List.drop, List.reverse, List.reverseAux, List.length, List.append, List.nil_append, List.cons_append, true_and, and_true, and_self, forall_const, true_implies, false_implies, not_true_eq_false, not_false_eq_true, Option.map, reduceCtorEq, reduceIte, or_true, true_or, false_or, or_false, false_and, and_false, List.map, List.append_nil, implies_true, yK, Nat.reduceBEq, beq_self_eq_true, Int.zero_ne_one, Nat.reduceDiv, Nat.reduceMod, Nat.reduceAdd, Nat.reduceSub, Nat.reduceMul, Nat.reduceEqDiff, Nat.reduceLeDiff, Int.reduceToNat, Int.reduceNeg, Int.reduceEq, Int.reduceLT, Int.reduceLE, Int.reduceNatCast, Int.reduceNatCast', Int.reduceAdd, Int.reduceSub, Int.reduceMul, eq_self, Prod.mk.injEq, A_X8_partInLowestTerms, V_X8_partInLowestTerms, B_X8_partInLowestTerms, Y_X8_partInLowestTerms, shpT, rfsT, wjq_s, look]
      exact ⟨_, x0, y0, 0, rfl, rfl, by omega, rfl, by omega, Or.inl ⟨rfl, by simp; omega⟩⟩

