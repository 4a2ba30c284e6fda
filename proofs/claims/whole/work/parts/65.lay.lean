-- ===== lay: what is drawn =====
def sdn (w : Int) : Int := lAnd (w64 (w64 (1103515245 * w) + 12345)) 2147483647
theorem lA_31 (y : Int) : 0 ≤ lAnd y 2147483647 ∧ lAnd y 2147483647 ≤ 2147483647 := by
  unfold lAnd
  have h : ((Int64.ofInt y) &&& Int64.ofInt 2147483647).toBitVec.toNat ≤ 2147483647 := by
    rw [Int64.toBitVec_and, BitVec.toNat_and]
    exact Nat.and_le_right
  show 0 ≤ ((Int64.ofInt y) &&& Int64.ofInt 2147483647).toBitVec.toInt ∧ ((Int64.ofInt y) &&& Int64.ofInt 2147483647).toBitVec.toInt ≤ 2147483647
  rw [BitVec.toInt_eq_toNat_of_lt (by omega)]
  omega
theorem sdn_in (w : Int) : 0 ≤ sdn w ∧ sdn w ≤ 2147483647 := lA_31 _
theorem w32_id {x : Int} (h : i32 x) : w32 x = x := by
  unfold w32
  unfold i32 at h
  exact Int32.toInt_ofInt_of_le (by omega) (by omega)
theorem w32_sdn (w : Int) : w32 (sdn w) = sdn w := w32_id ⟨by have := sdn_in w; omega, by have := sdn_in w; omega⟩
def drw (w n : Int) : Int := (w.tdiv 65536).tmod n
theorem drw_in {w n : Int} (hw : 0 ≤ w) (hn : 0 < n) : 0 ≤ drw w n ∧ drw w n < n := by
  unfold drw
  have h : 0 ≤ w.tdiv 65536 := Int.tdiv_nonneg hw (by decide)
  exact ⟨Int.tmod_nonneg _ h, Int.tmod_lt_of_pos _ hn⟩
def A_X8_drawn : List (Nat × Ctr) := []
theorem e_X8_drawn (o : OM) : Ev o Y_X8_drawn 0 T_X8_drawn A_X8_drawn := ⟨rfl, fun _ h => absurd h List.not_mem_nil, fun _ h => absurd h List.not_mem_nil, List.forall_mem_cons.mpr ⟨⟨w_457, by decide, by decide⟩, fun _ h => absurd h List.not_mem_nil⟩, fun _ h => absurd h List.not_mem_nil, fun _ h => absurd h List.not_mem_nil, fun _ h => absurd h List.not_mem_nil⟩
def C_X8_drawn : Ctr := fun A σ κ => match A with
  | [.inr (.inl w), .inl n] => ((0 ≤ w ∧ w ≤ 2147483647) ∧ (0 < n ∧ n ≤ 100)) ∧ κ [vI (drw w n)] σ
  | _ => False
set_option maxRecDepth 20000 in
theorem s_X8_drawn (o : OM) : Sound o Y_X8_drawn 0 C_X8_drawn := by
  intro Q A σ hA hC
  match A, hA, hC with
  | [.inr (.inl w), .inl n], hA, hC =>
    obtain ⟨h0, hq⟩ : ((0 ≤ w ∧ w ≤ 2147483647) ∧ (0 < n ∧ n ≤ 100)) ∧ Q [vI (drw w n)] σ := hC
    have hQ : ∀ r_ τ, r_ = (drw w n) → τ = (σ) → Q [vI r_] τ := fun r_ τ e e2 => e ▸ e2 ▸ hq
    refine at_wpl (lv := V_X8_drawn) (B := B_X8_drawn) (e_X8_drawn o) k_X8_drawn 3 0 [] _ σ ?_
    simp only [sq_iconst, sq_jsr, sq_anewarray, sq_iload, sq_lload, sq_aload, sq_istore, sq_lstore, sq_astore, sq_iinc, sq_getfield, st_put0, st_put1, st_put3, sq_inv, sq_goto, sq_icmp, sq_ifc, sq_tsw, sq_iadd, sq_isub, sq_imul, sq_ineg, sq_idiv, sq_irem, sq_iand, sq_ior, sq_ixor, sq_ishl, sq_ishr, sq_iushr, sq_ladd, sq_lmul, sq_ldiv, sq_lrem, sq_land, sq_lor, sq_lshl, sq_lushr, sq_lcmp, sq_i2l, sq_l2i, sq_i2c, sq_i2b, sq_dupI, sq_dupR, sq_dup2, sq_pop, sq_iaload, sq_baload, sq_aaload, sq_iastore, sq_bastore, sq_alen, sq_ireturn, sq_lreturn, sq_return, wq_c, wq_n, wlq_s, lkp, tbl, dBk, nth, setL, canSet, cmpI, tk, swK, rdF, entL, catS, cat1, arg, rcv, ald, bld, aln, br, Ccopy, Cmax, Cmin, Cabs, List.take, List.drop, List.reverse, List.reverseAux, List.length, List.append, List.nil_append, List.cons_append, true_and, and_true, and_self, forall_const, true_implies, false_implies, not_true_eq_false, not_false_eq_true, Option.map, reduceCtorEq, reduceIte, or_true, true_or, false_or, or_false, false_and, and_false, List.map, List.append_nil, implies_true, yK, Nat.reduceBEq, beq_self_eq_true, Int.zero_ne_one, Nat.reduceDiv, Nat.reduceMod, Nat.reduceAdd, Nat.reduceSub, Nat.reduceMul, Nat.reduceEqDiff, Nat.reduceLeDiff, Int.reduceToNat, Int.reduceNeg, Int.reduceEq, Int.reduceLT, Int.reduceLE, Int.reduceNatCast, Int.reduceNatCast', Int.reduceAdd, Int.reduceSub, Int.reduceMul, eq_self, Prod.mk.injEq, A_X8_drawn, V_X8_drawn, B_X8_drawn, Y_X8_drawn, shpT, rfsT]
    have d := drw_in (w := w) (n := n) h0.1.1 h0.2.1
    refine ⟨fun h => ⟨h, hQ _ _ ?_ rfl⟩, fun h => absurd h0.2.1 h⟩
    show w32 (drw w n) = drw w n
    exact w32_id ⟨by omega, by omega⟩
def A_X9_draw : List (Nat × Ctr) := []
theorem e_X9_draw (o : OM) : Ev o Y_X9_draw 0 T_X9_draw A_X9_draw := ⟨rfl, List.forall_mem_cons.mpr ⟨Or.inl f_X9_156, fun _ h => absurd h List.not_mem_nil⟩, List.forall_mem_cons.mpr ⟨⟨w_1330, by decide, by decide⟩, fun _ h => absurd h List.not_mem_nil⟩, List.forall_mem_cons.mpr ⟨⟨w_1327, by decide, by decide⟩, List.forall_mem_cons.mpr ⟨⟨w_1328, by decide, by decide⟩, List.forall_mem_cons.mpr ⟨⟨w_1329, by decide, by decide⟩, fun _ h => absurd h List.not_mem_nil⟩⟩⟩, fun _ h => absurd h List.not_mem_nil, fun _ h => absurd h List.not_mem_nil, fun _ h => absurd h List.not_mem_nil⟩
def C_X9_draw : Ctr := fun A σ κ => match A with
  | [.inr (.inr (.inl 67)), .inl n] => ((0 < n ∧ n ≤ 100)) ∧ κ [vI (drw (sdn (σ 67 6)) n)] (su σ 67 6 (sdn (σ 67 6)))
  | _ => False
set_option maxRecDepth 20000 in
theorem s_X9_draw (o : OM) : Sound o Y_X9_draw 0 C_X9_draw := by
  intro Q A σ hA hC
  match A, hA, hC with
  | [.inr (.inr (.inl 67)), .inl n], hA, hC =>
    obtain ⟨h0, hq⟩ : ((0 < n ∧ n ≤ 100)) ∧ Q [vI (drw (sdn (σ 67 6)) n)] (su σ 67 6 (sdn (σ 67 6))) := hC
    refine at_wpl (lv := V_X9_draw) (B := B_X9_draw) (e_X9_draw o) k_X9_draw 1 0 [] _ σ ?_
    simp only [sq_iconst, sq_jsr, sq_anewarray, sq_iload, sq_lload, sq_aload, sq_istore, sq_lstore, sq_astore, sq_iinc, sq_getfield, st_put0, st_put1, st_put3, sq_inv, sq_goto, sq_icmp, sq_ifc, sq_tsw, sq_iadd, sq_isub, sq_imul, sq_ineg, sq_idiv, sq_irem, sq_iand, sq_ior, sq_ixor, sq_ishl, sq_ishr, sq_iushr, sq_ladd, sq_lmul, sq_ldiv, sq_lrem, sq_land, sq_lor, sq_lshl, sq_lushr, sq_lcmp, sq_i2l, sq_l2i, sq_i2c, sq_i2b, sq_dupI, sq_dupR, sq_dup2, sq_pop, sq_iaload, sq_baload, sq_aaload, sq_iastore, sq_bastore, sq_alen, sq_ireturn, sq_lreturn, sq_return, wq_c, wq_n, wlq_s, lkp, tbl, dBk, nth, setL, canSet, cmpI, tk, swK, rdF, entL, catS, cat1, arg, rcv, ald, bld, aln, br, Ccopy, Cmax, Cmin, Cabs, List.take, List.drop, List.reverse, List.reverseAux, List.length, List.append, List.nil_append, List.cons_append, true_and, and_true, and_self, forall_const, true_implies, false_implies, not_true_eq_false, not_false_eq_true, Option.map, reduceCtorEq, reduceIte, or_true, true_or, false_or, or_false, false_and, and_false, List.map, List.append_nil, implies_true, yK, Nat.reduceBEq, beq_self_eq_true, Int.zero_ne_one, Nat.reduceDiv, Nat.reduceMod, Nat.reduceAdd, Nat.reduceSub, Nat.reduceMul, Nat.reduceEqDiff, Nat.reduceLeDiff, Int.reduceToNat, Int.reduceNeg, Int.reduceEq, Int.reduceLT, Int.reduceLE, Int.reduceNatCast, Int.reduceNatCast', Int.reduceAdd, Int.reduceSub, Int.reduceMul, eq_self, Prod.mk.injEq, A_X9_draw, V_X9_draw, B_X9_draw, Y_X9_draw, shpT, rfsT]
    have e : w32 (lAnd (w64 (w64 (1103515245 * σ 67 6) + 12345)) 2147483647) = sdn (σ 67 6) := w32_sdn _
    rw [e, su_y]
    exact ⟨h0.1, hq⟩
def A_X9_layOne : List (Nat × Ctr) := [(6, rcv 9 6 C_X9_put)]
theorem e_X9_layOne (o : OM) : Ev o Y_X9_layOne 1 T_X9_layOne A_X9_layOne := ⟨rfl, List.forall_mem_cons.mpr ⟨Or.inl f_X9_13, fun _ h => absurd h List.not_mem_nil⟩, fun _ h => absurd h List.not_mem_nil, fun _ h => absurd h List.not_mem_nil, fun _ h => absurd h List.not_mem_nil, List.forall_mem_cons.mpr ⟨cl_X9_put (s_X9_put o) (by decide) (Or.inl w_1277), fun _ h => absurd h List.not_mem_nil⟩, fun _ h => absurd h List.not_mem_nil⟩
def C_X9_layOne : Ctr := fun A σ κ => match A with
  | [.inr (.inr (.inl 67)), .inl p, .inl c, .inl t] => (0 ≤ p ∧ p < 7 ∧ 0 ≤ σ 69 p) ∧ (σ 69 p < 16 → κ [] (su (su (su (su σ 70 (p * 16 + σ 69 p) c) 71 (p * 16 + σ 69 p) t) 72 (p * 16 + σ 69 p) 0) 69 p (σ 69 p + 1))) ∧ (¬ σ 69 p < 16 → κ [] σ)
  | _ => False
set_option maxRecDepth 20000 in
theorem s_X9_layOne (o : OM) : Sound o Y_X9_layOne 1 C_X9_layOne := by
  intro Q A σ hA hC
  match A, hA, hC with
  | [.inr (.inr (.inl 67)), .inl p, .inl c, .inl t], hA, hC =>
    obtain ⟨h0, hq⟩ : (0 ≤ p ∧ p < 7 ∧ 0 ≤ σ 69 p) ∧ (σ 69 p < 16 → Q [] (su (su (su (su σ 70 (p * 16 + σ 69 p) c) 71 (p * 16 + σ 69 p) t) 72 (p * 16 + σ 69 p) 0) 69 p (σ 69 p + 1))) ∧ (¬ σ 69 p < 16 → Q [] σ) := hC
    refine at_wpl (lv := V_X9_layOne) (B := B_X9_layOne) (e_X9_layOne o) k_X9_layOne 2 0 [] _ σ ?_
    simp only [sq_iconst, sq_jsr, sq_anewarray, sq_iload, sq_lload, sq_aload, sq_istore, sq_lstore, sq_astore, sq_iinc, sq_getfield, st_put0, st_put1, st_put3, sq_inv, sq_goto, sq_icmp, sq_ifc, sq_tsw, sq_iadd, sq_isub, sq_imul, sq_ineg, sq_idiv, sq_irem, sq_iand, sq_ior, sq_ixor, sq_ishl, sq_ishr, sq_iushr, sq_ladd, sq_lmul, sq_ldiv, sq_lrem, sq_land, sq_lor, sq_lshl, sq_lushr, sq_lcmp, sq_i2l, sq_l2i, sq_i2c, sq_i2b, sq_dupI, sq_dupR, sq_dup2, sq_pop, sq_iaload, sq_baload, sq_aaload, sq_iastore, sq_bastore, sq_alen, sq_ireturn, sq_lreturn, sq_return, wq_c, wq_n, wlq_s, lkp, tbl, dBk, nth, setL, canSet, cmpI, tk, swK, rdF, entL, catS, cat1, arg, rcv, ald, bld, aln, br, Ccopy, Cmax, Cmin, Cabs, List.take, List.drop, List.reverse, List.reverseAux, List.length, List.append, List.nil_append, List.cons_append, true_and, and_true, and_self, forall_const, true_implies, false_implies, not_true_eq_false, not_false_eq_true, Option.map, reduceCtorEq, reduceIte, or_true, true_or, false_or, or_false, false_and, and_false, List.map, List.append_nil, implies_true, yK, Nat.reduceBEq, beq_self_eq_true, Int.zero_ne_one, Nat.reduceDiv, Nat.reduceMod, Nat.reduceAdd, Nat.reduceSub, Nat.reduceMul, Nat.reduceEqDiff, Nat.reduceLeDiff, Int.reduceToNat, Int.reduceNeg, Int.reduceEq, Int.reduceLT, Int.reduceLE, Int.reduceNatCast, Int.reduceNatCast', Int.reduceAdd, Int.reduceSub, Int.reduceMul, eq_self, Prod.mk.injEq, A_X9_layOne, V_X9_layOne, B_X9_layOne, Y_X9_layOne, C_X9_put, shpT, rfsT]
    have e : su (su (su σ 70 (p * 16 + σ 69 p) c) 71 (p * 16 + σ 69 p) t) 72 (p * 16 + σ 69 p) 0 69 p = σ 69 p := by rw [su_ne 69 (by decide), su_ne 69 (by decide), su_ne 69 (by decide)]
    rw [e]
    exact ⟨⟨by omega, by omega⟩, fun h => hq.2 (by omega), fun h => ⟨⟨by omega, by omega⟩, ⟨h0.1, h0.2.1, h0.2.2, (by omega)⟩, ⟨by omega, by omega⟩, ⟨by omega, by omega⟩, ⟨by omega, by omega⟩, hq.1 (by omega)⟩⟩
/-- one pit's size and the rows of all leaves -/
abbrev Q4 := Int × (Int → Int) × (Int → Int) × (Int → Int)
def psh (p c t : Int) (q : Q4) : Q4 := if q.1 < 16 then (q.1 + 1, upI q.2.1 (p * 16 + q.1) c, upI q.2.2.1 (p * 16 + q.1) t, upI q.2.2.2 (p * 16 + q.1) 0) else q
def layW (p a b s : Int) (q : Q4) : Q4 := if a + b ≤ drw (sdn (sdn (sdn s))) 100 then psh p (if drw (sdn s) 40 ≤ 34 then 0 else 1) (5 + drw (sdn s) 40 + drw (sdn (sdn s)) 6) q else if a ≤ drw (sdn (sdn (sdn s))) 100 then psh p 3 (2 + drw (sdn (sdn s)) 6) (psh p 3 (3 + drw (sdn s) 40) q) else q
def layS (s : Int) : Nat → Int
  | 0 => s
  | n + 1 => sdn (sdn (sdn (layS s n)))
def layN (p a b s : Int) (q : Q4) : Nat → Q4
  | 0 => q
  | n + 1 => layW p a b (layS s n) (layN p a b s q n)
theorem layS_in {s : Int} (h : 0 ≤ s ∧ s ≤ 2147483647) : ∀ n, 0 ≤ layS s n ∧ layS s n ≤ 2147483647
  | 0 => h
  | n + 1 => sdn_in _
def Q4I (q : Q4) : Prop := (0 ≤ q.1 ∧ q.1 ≤ 16) ∧ PI q.2.1 q.2.2.2 ∧ (∀ j, 0 ≤ j → j < 112 → 0 ≤ q.2.2.1 j ∧ q.2.2.1 j ≤ 99)
theorem psh_I {p c t : Int} {q : Q4} (hc : 0 ≤ c ∧ c ≤ 6) (ht : 0 ≤ t ∧ t ≤ 99) (h : Q4I q) : Q4I (psh p c t q) := by
  unfold psh
  split
  · obtain ⟨h1, h2, h3⟩ := h
    refine ⟨⟨by show 0 ≤ q.1 + 1; omega, by show q.1 + 1 ≤ 16; omega⟩, fun j j0 j1 => ?_, fun j j0 j1 => ?_⟩
    · show 0 ≤ upI q.2.1 (p * 16 + q.1) c j ∧ upI q.2.1 (p * 16 + q.1) c j ≤ 6 ∧ 0 ≤ upI q.2.2.2 (p * 16 + q.1) 0 j ∧ upI q.2.2.2 (p * 16 + q.1) 0 j ≤ 9
      have := h2 j j0 j1
      unfold upI
      split <;> omega
    · show 0 ≤ upI q.2.2.1 (p * 16 + q.1) t j ∧ upI q.2.2.1 (p * 16 + q.1) t j ≤ 99
      have := h3 j j0 j1
      unfold upI
      split <;> omega
  · exact h
theorem layW_I {p a b s : Int} {q : Q4} (h : Q4I q) : Q4I (layW p a b s q) := by
  have d1 := drw_in (w := sdn s) (n := 40) (sdn_in _).1 (by decide)
  have d2 := drw_in (w := sdn (sdn s)) (n := 6) (sdn_in _).1 (by decide)
  unfold layW
  split
  · exact psh_I (by split <;> omega) (by omega) h
  · split
    · exact psh_I (by omega) (by omega) (psh_I (by omega) (by omega) h)
    · exact h
theorem layN_I {p a b s : Int} {q : Q4} (h : Q4I q) : ∀ n, Q4I (layN p a b s q n)
  | 0 => h
  | n + 1 => layW_I (layN_I h n)

