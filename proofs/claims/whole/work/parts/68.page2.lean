-- ===== letters in texts =====
theorem dead_c {o : OM} {Y : Pk} {d : Nat} {op : Instr} : CallOK o Y d op dCa := by
  intro Q p e R s m args below meth c cells slots Z C0 H locs ls pc A rest σ k h1 h2 h3 h4 h5 h6 h7 h8 h9
  exact h9.elim
theorem at_scr {o : OM} {Y : Pk} {d : Nat} {Q : List AV → Sto → Prop} {pc : Nat} {S L : List AV} {σ : Sto} (h : (σ 103 1 = 0 ∧ σ 104 1 = 0) → At o Y d Q pc S L σ) : At o Y d Q pc S L σ :=
  fun p e R s m args below meth c cells slots Z C0 H locs ls hH hS hl hoS hoL => h hH.2.1 p e R s m args below meth c cells slots Z C0 H locs ls hH hS hl hoS hoL
theorem bI8_id {c : Int} (h : 0 ≤ c ∧ c ≤ 126) : bI8 c = c := by
  obtain ⟨n, rfl⟩ : ∃ n : Nat, c = n := ⟨c.toNat, by omega⟩
  have hn : n < 127 := by omega
  have key : ∀ k : Fin 127, bI8 ((k.1 : Nat) : Int) = ((k.1 : Nat) : Int) := by decide +kernel
  exact key ⟨n, hn⟩
theorem bChr_id {c : Int} (h : 0 ≤ c ∧ c ≤ 126) : bChr c = c := by
  obtain ⟨n, rfl⟩ : ∃ n : Nat, c = n := ⟨c.toNat, by omega⟩
  have hn : n < 127 := by omega
  have key : ∀ k : Fin 127, bChr ((k.1 : Nat) : Int) = ((k.1 : Nat) : Int) := by decide +kernel
  exact key ⟨n, hn⟩
def A_J0_coder_7d493 : List (Nat × Ctr) := []
theorem e_J0_coder_7d493 (o : OM) : Ev o Y_J0_coder_7d493 0 T_J0_coder_7d493 A_J0_coder_7d493 := ⟨rfl, List.forall_mem_cons.mpr ⟨Or.inr f_J0_15, fun _ h => absurd h List.not_mem_nil⟩, fun _ h => absurd h List.not_mem_nil, fun _ h => absurd h List.not_mem_nil, List.forall_mem_cons.mpr ⟨ref_co w_502, fun _ h => absurd h List.not_mem_nil⟩, fun _ h => absurd h List.not_mem_nil, fun _ h => absurd h List.not_mem_nil⟩
def C_J0_coder_7d493 : Ctr := fun A σ κ => match A with
  | [.inr (.inr (.inl q))] => (q = 103 ∨ q = 104) ∧ κ [vI (0)] σ
  | _ => False
set_option maxRecDepth 20000 in
theorem s_J0_coder_7d493 (o : OM) : Sound o Y_J0_coder_7d493 0 C_J0_coder_7d493 := by
  intro Q A σ hA hC
  match A, hA, hC with
  | [.inr (.inr (.inl q))], hA, hC =>
    obtain ⟨h0, hq⟩ : (q = 103 ∨ q = 104) ∧ Q [vI (0)] σ := hC
    have hQ : ∀ r_ τ, r_ = (0) → τ = (σ) → Q [vI r_] τ := fun r_ τ e e2 => e ▸ e2 ▸ hq
    refine at_scr (fun hz => ?_)
    refine at_wpl (lv := V_J0_coder_7d493) (B := B_J0_coder_7d493) (e_J0_coder_7d493 o) k_J0_coder_7d493 3 0 [] _ σ ?_
    rcases h0 with rfl | rfl
    · simp only [sq_iconst, sq_jsr, sq_anewarray, sq_iload, sq_lload, sq_aload, sq_istore, sq_lstore, sq_astore, sq_iinc, sq_getfield, st_put0, st_put1, st_put3, sq_inv, sq_goto, sq_icmp, sq_ifc, sq_tsw, sq_iadd, sq_isub, sq_imul, sq_ineg, sq_idiv, sq_irem, sq_iand, sq_ior, sq_ixor, sq_ishl, sq_ishr, sq_iushr, sq_ladd, sq_lmul, sq_ldiv, sq_lrem, sq_land, sq_lor, sq_lshl, sq_lushr, sq_lcmp, sq_i2l, sq_l2i, sq_i2c, sq_i2b, sq_dupI, sq_dupR, sq_dup2, sq_pop, sq_iaload, sq_baload, sq_aaload, sq_iastore, sq_bastore, sq_alen, sq_ireturn, sq_lreturn, sq_return, wq_c, wq_n, wlq_s, lkp, tbl, dBk, nth, setL, canSet, cmpI, tk, swK, rdF, entL, catS, cat1, arg, rcv, ald, bld, aln, br, Ccopy, Cmax, Cmin, Cabs, List.take, List.drop, List.reverse, List.reverseAux, List.length, List.append, List.nil_append, List.cons_append, true_and, and_true, and_self, forall_const, true_implies, false_implies, not_true_eq_false, not_false_eq_true, Option.map, reduceCtorEq, reduceIte, or_true, true_or, false_or, or_false, false_and, and_false, List.map, List.append_nil, implies_true, yK, Nat.reduceBEq, beq_self_eq_true, Int.zero_ne_one, Nat.reduceDiv, Nat.reduceMod, Nat.reduceAdd, Nat.reduceSub, Nat.reduceMul, Nat.reduceEqDiff, Nat.reduceLeDiff, Int.reduceToNat, Int.reduceNeg, Int.reduceEq, Int.reduceLT, Int.reduceLE, Int.reduceNatCast, Int.reduceNatCast', Int.reduceAdd, Int.reduceSub, Int.reduceMul, eq_self, Prod.mk.injEq, A_J0_coder_7d493, V_J0_coder_7d493, B_J0_coder_7d493, Y_J0_coder_7d493, shpT, rfsT]
      exact ⟨hz.1, hQ _ _ hz.1 rfl⟩
    · simp only [sq_iconst, sq_jsr, sq_anewarray, sq_iload, sq_lload, sq_aload, sq_istore, sq_lstore, sq_astore, sq_iinc, sq_getfield, st_put0, st_put1, st_put3, sq_inv, sq_goto, sq_icmp, sq_ifc, sq_tsw, sq_iadd, sq_isub, sq_imul, sq_ineg, sq_idiv, sq_irem, sq_iand, sq_ior, sq_ixor, sq_ishl, sq_ishr, sq_iushr, sq_ladd, sq_lmul, sq_ldiv, sq_lrem, sq_land, sq_lor, sq_lshl, sq_lushr, sq_lcmp, sq_i2l, sq_l2i, sq_i2c, sq_i2b, sq_dupI, sq_dupR, sq_dup2, sq_pop, sq_iaload, sq_baload, sq_aaload, sq_iastore, sq_bastore, sq_alen, sq_ireturn, sq_lreturn, sq_return, wq_c, wq_n, wlq_s, lkp, tbl, dBk, nth, setL, canSet, cmpI, tk, swK, rdF, entL, catS, cat1, arg, rcv, ald, bld, aln, br, Ccopy, Cmax, Cmin, Cabs, List.take, List.drop, List.reverse, List.reverseAux, List.length, List.append, List.nil_append, List.cons_append, true_and, and_true, and_self, forall_const, true_implies, false_implies, not_true_eq_false, not_false_eq_true, Option.map, reduceCtorEq, reduceIte, or_true, true_or, false_or, or_false, false_and, and_false, List.map, List.append_nil, implies_true, yK, Nat.reduceBEq, beq_self_eq_true, Int.zero_ne_one, Nat.reduceDiv, Nat.reduceMod, Nat.reduceAdd, Nat.reduceSub, Nat.reduceMul, Nat.reduceEqDiff, Nat.reduceLeDiff, Int.reduceToNat, Int.reduceNeg, Int.reduceEq, Int.reduceLT, Int.reduceLE, Int.reduceNatCast, Int.reduceNatCast', Int.reduceAdd, Int.reduceSub, Int.reduceMul, eq_self, Prod.mk.injEq, A_J0_coder_7d493, V_J0_coder_7d493, B_J0_coder_7d493, Y_J0_coder_7d493, shpT, rfsT]
      exact ⟨hz.2, hQ _ _ hz.2 rfl⟩
def A_J0_isLatin1_aae02 : List (Nat × Ctr) := []
theorem e_J0_isLatin1_aae02 (o : OM) : Ev o Y_J0_isLatin1_aae02 0 T_J0_isLatin1_aae02 A_J0_isLatin1_aae02 := ⟨rfl, List.forall_mem_cons.mpr ⟨Or.inr f_J0_15, fun _ h => absurd h List.not_mem_nil⟩, fun _ h => absurd h List.not_mem_nil, fun _ h => absurd h List.not_mem_nil, List.forall_mem_cons.mpr ⟨ref_co w_502, fun _ h => absurd h List.not_mem_nil⟩, fun _ h => absurd h List.not_mem_nil, fun _ h => absurd h List.not_mem_nil⟩
def C_J0_isLatin1_aae02 : Ctr := fun A σ κ => match A with
  | [.inr (.inr (.inl q))] => (q = 103 ∨ q = 104) ∧ κ [vI (1)] σ
  | _ => False
set_option maxRecDepth 20000 in
theorem s_J0_isLatin1_aae02 (o : OM) : Sound o Y_J0_isLatin1_aae02 0 C_J0_isLatin1_aae02 := by
  intro Q A σ hA hC
  match A, hA, hC with
  | [.inr (.inr (.inl q))], hA, hC =>
    obtain ⟨h0, hq⟩ : (q = 103 ∨ q = 104) ∧ Q [vI (1)] σ := hC
    have hQ : ∀ r_ τ, r_ = (1) → τ = (σ) → Q [vI r_] τ := fun r_ τ e e2 => e ▸ e2 ▸ hq
    refine at_scr (fun hz => ?_)
    refine at_wpl (lv := V_J0_isLatin1_aae02) (B := B_J0_isLatin1_aae02) (e_J0_isLatin1_aae02 o) k_J0_isLatin1_aae02 3 0 [] _ σ ?_
    rcases h0 with rfl | rfl
    · simp only [sq_iconst, sq_jsr, sq_anewarray, sq_iload, sq_lload, sq_aload, sq_istore, sq_lstore, sq_astore, sq_iinc, sq_getfield, st_put0, st_put1, st_put3, sq_inv, sq_goto, sq_icmp, sq_ifc, sq_tsw, sq_iadd, sq_isub, sq_imul, sq_ineg, sq_idiv, sq_irem, sq_iand, sq_ior, sq_ixor, sq_ishl, sq_ishr, sq_iushr, sq_ladd, sq_lmul, sq_ldiv, sq_lrem, sq_land, sq_lor, sq_lshl, sq_lushr, sq_lcmp, sq_i2l, sq_l2i, sq_i2c, sq_i2b, sq_dupI, sq_dupR, sq_dup2, sq_pop, sq_iaload, sq_baload, sq_aaload, sq_iastore, sq_bastore, sq_alen, sq_ireturn, sq_lreturn, sq_return, wq_c, wq_n, wlq_s, lkp, tbl, dBk, nth, setL, canSet, cmpI, tk, swK, rdF, entL, catS, cat1, arg, rcv, ald, bld, aln, br, Ccopy, Cmax, Cmin, Cabs, List.take, List.drop, List.reverse, List.reverseAux, List.length, List.append, List.nil_append, List.cons_append, true_and, and_true, and_self, forall_const, true_implies, false_implies, not_true_eq_false, not_false_eq_true, Option.map, reduceCtorEq, reduceIte, or_true, true_or, false_or, or_false, false_and, and_false, List.map, List.append_nil, implies_true, yK, Nat.reduceBEq, beq_self_eq_true, Int.zero_ne_one, Nat.reduceDiv, Nat.reduceMod, Nat.reduceAdd, Nat.reduceSub, Nat.reduceMul, Nat.reduceEqDiff, Nat.reduceLeDiff, Int.reduceToNat, Int.reduceNeg, Int.reduceEq, Int.reduceLT, Int.reduceLE, Int.reduceNatCast, Int.reduceNatCast', Int.reduceAdd, Int.reduceSub, Int.reduceMul, eq_self, Prod.mk.injEq, A_J0_isLatin1_aae02, V_J0_isLatin1_aae02, B_J0_isLatin1_aae02, Y_J0_isLatin1_aae02, shpT, rfsT]
      exact ⟨fun z => absurd hz.1 z, fun _ => hQ _ _ rfl rfl⟩
    · simp only [sq_iconst, sq_jsr, sq_anewarray, sq_iload, sq_lload, sq_aload, sq_istore, sq_lstore, sq_astore, sq_iinc, sq_getfield, st_put0, st_put1, st_put3, sq_inv, sq_goto, sq_icmp, sq_ifc, sq_tsw, sq_iadd, sq_isub, sq_imul, sq_ineg, sq_idiv, sq_irem, sq_iand, sq_ior, sq_ixor, sq_ishl, sq_ishr, sq_iushr, sq_ladd, sq_lmul, sq_ldiv, sq_lrem, sq_land, sq_lor, sq_lshl, sq_lushr, sq_lcmp, sq_i2l, sq_l2i, sq_i2c, sq_i2b, sq_dupI, sq_dupR, sq_dup2, sq_pop, sq_iaload, sq_baload, sq_aaload, sq_iastore, sq_bastore, sq_alen, sq_ireturn, sq_lreturn, sq_return, wq_c, wq_n, wlq_s, lkp, tbl, dBk, nth, setL, canSet, cmpI, tk, swK, rdF, entL, catS, cat1, arg, rcv, ald, bld, aln, br, Ccopy, Cmax, Cmin, Cabs, List.take, List.drop, List.reverse, List.reverseAux, List.length, List.append, List.nil_append, List.cons_append, true_and, and_true, and_self, forall_const, true_implies, false_implies, not_true_eq_false, not_false_eq_true, Option.map, reduceCtorEq, reduceIte, or_true, true_or, false_or, or_false, false_and, and_false, List.map, List.append_nil, implies_true, yK, Nat.reduceBEq, beq_self_eq_true, Int.zero_ne_one, Nat.reduceDiv, Nat.reduceMod, Nat.reduceAdd, Nat.reduceSub, Nat.reduceMul, Nat.reduceEqDiff, Nat.reduceLeDiff, Int.reduceToNat, Int.reduceNeg, Int.reduceEq, Int.reduceLT, Int.reduceLE, Int.reduceNatCast, Int.reduceNatCast', Int.reduceAdd, Int.reduceSub, Int.reduceMul, eq_self, Prod.mk.injEq, A_J0_isLatin1_aae02, V_J0_isLatin1_aae02, B_J0_isLatin1_aae02, Y_J0_isLatin1_aae02, shpT, rfsT]
      exact ⟨fun z => absurd hz.2 z, fun _ => hQ _ _ rfl rfl⟩
def A_J0_length_8abf5 : List (Nat × Ctr) := [(1, rcv 20 1 C_J0_coder_7d493)]
theorem e_J0_length_8abf5 (o : OM) : Ev o Y_J0_length_8abf5 1 T_J0_length_8abf5 A_J0_length_8abf5 := ⟨rfl, List.forall_mem_cons.mpr ⟨Or.inr f_J0_9, fun _ h => absurd h List.not_mem_nil⟩, fun _ h => absurd h List.not_mem_nil, fun _ h => absurd h List.not_mem_nil, fun _ h => absurd h List.not_mem_nil, List.forall_mem_cons.mpr ⟨cl_J0_coder_7d493 (s_J0_coder_7d493 o) (by decide) (Or.inl w_508), fun _ h => absurd h List.not_mem_nil⟩, fun _ h => absurd h List.not_mem_nil⟩
def C_J0_length_8abf5 : Ctr := fun A σ κ => match A with
  | [.inr (.inr (.inl q))] => (q = 103 ∨ q = 104) ∧ κ [vI (if q = 103 then 7 else 4)] σ
  | _ => False
set_option maxRecDepth 20000 in
theorem s_J0_length_8abf5 (o : OM) : Sound o Y_J0_length_8abf5 1 C_J0_length_8abf5 := by
  intro Q A σ hA hC
  match A, hA, hC with
  | [.inr (.inr (.inl q))], hA, hC =>
    obtain ⟨h0, hq⟩ : (q = 103 ∨ q = 104) ∧ Q [vI (if q = 103 then 7 else 4)] σ := hC
    have hQ : ∀ r_ τ, r_ = (if q = 103 then 7 else 4) → τ = (σ) → Q [vI r_] τ := fun r_ τ e e2 => e ▸ e2 ▸ hq
    refine at_wpl (lv := V_J0_length_8abf5) (B := B_J0_length_8abf5) (e_J0_length_8abf5 o) k_J0_length_8abf5 1 0 [] _ σ ?_
    rcases h0 with rfl | rfl
    · simp only [sq_iconst, sq_jsr, sq_anewarray, sq_iload, sq_lload, sq_aload, sq_istore, sq_lstore, sq_astore, sq_iinc, sq_getfield, st_put0, st_put1, st_put3, sq_inv, sq_goto, sq_icmp, sq_ifc, sq_tsw, sq_iadd, sq_isub, sq_imul, sq_ineg, sq_idiv, sq_irem, sq_iand, sq_ior, sq_ixor, sq_ishl, sq_ishr, sq_iushr, sq_ladd, sq_lmul, sq_ldiv, sq_lrem, sq_land, sq_lor, sq_lshl, sq_lushr, sq_lcmp, sq_i2l, sq_l2i, sq_i2c, sq_i2b, sq_dupI, sq_dupR, sq_dup2, sq_pop, sq_iaload, sq_baload, sq_aaload, sq_iastore, sq_bastore, sq_alen, sq_ireturn, sq_lreturn, sq_return, wq_c, wq_n, wlq_s, lkp, tbl, dBk, nth, setL, canSet, cmpI, tk, swK, rdF, entL, catS, cat1, arg, rcv, ald, bld, aln, br, Ccopy, Cmax, Cmin, Cabs, List.take, List.drop, List.reverse, List.reverseAux, List.length, List.append, List.nil_append, List.cons_append, true_and, and_true, and_self, forall_const, true_implies, false_implies, not_true_eq_false, not_false_eq_true, Option.map, reduceCtorEq, reduceIte, or_true, true_or, false_or, or_false, false_and, and_false, List.map, List.append_nil, implies_true, yK, Nat.reduceBEq, beq_self_eq_true, Int.zero_ne_one, Nat.reduceDiv, Nat.reduceMod, Nat.reduceAdd, Nat.reduceSub, Nat.reduceMul, Nat.reduceEqDiff, Nat.reduceLeDiff, Int.reduceToNat, Int.reduceNeg, Int.reduceEq, Int.reduceLT, Int.reduceLE, Int.reduceNatCast, Int.reduceNatCast', Int.reduceAdd, Int.reduceSub, Int.reduceMul, eq_self, Prod.mk.injEq, A_J0_length_8abf5, V_J0_length_8abf5, B_J0_length_8abf5, Y_J0_length_8abf5, C_J0_coder_7d493, shpT, rfsT]
      exact hQ _ _ (by decide +kernel) rfl
    · simp only [sq_iconst, sq_jsr, sq_anewarray, sq_iload, sq_lload, sq_aload, sq_istore, sq_lstore, sq_astore, sq_iinc, sq_getfield, st_put0, st_put1, st_put3, sq_inv, sq_goto, sq_icmp, sq_ifc, sq_tsw, sq_iadd, sq_isub, sq_imul, sq_ineg, sq_idiv, sq_irem, sq_iand, sq_ior, sq_ixor, sq_ishl, sq_ishr, sq_iushr, sq_ladd, sq_lmul, sq_ldiv, sq_lrem, sq_land, sq_lor, sq_lshl, sq_lushr, sq_lcmp, sq_i2l, sq_l2i, sq_i2c, sq_i2b, sq_dupI, sq_dupR, sq_dup2, sq_pop, sq_iaload, sq_baload, sq_aaload, sq_iastore, sq_bastore, sq_alen, sq_ireturn, sq_lreturn, sq_return, wq_c, wq_n, wlq_s, lkp, tbl, dBk, nth, setL, canSet, cmpI, tk, swK, rdF, entL, catS, cat1, arg, rcv, ald, bld, aln, br, Ccopy, Cmax, Cmin, Cabs, List.take, List.drop, List.reverse, List.reverseAux, List.length, List.append, List.nil_append, List.cons_append, true_and, and_true, and_self, forall_const, true_implies, false_implies, not_true_eq_false, not_false_eq_true, Option.map, reduceCtorEq, reduceIte, or_true, true_or, false_or, or_false, false_and, and_false, List.map, List.append_nil, implies_true, yK, Nat.reduceBEq, beq_self_eq_true, Int.zero_ne_one, Nat.reduceDiv, Nat.reduceMod, Nat.reduceAdd, Nat.reduceSub, Nat.reduceMul, Nat.reduceEqDiff, Nat.reduceLeDiff, Int.reduceToNat, Int.reduceNeg, Int.reduceEq, Int.reduceLT, Int.reduceLE, Int.reduceNatCast, Int.reduceNatCast', Int.reduceAdd, Int.reduceSub, Int.reduceMul, eq_self, Prod.mk.injEq, A_J0_length_8abf5, V_J0_length_8abf5, B_J0_length_8abf5, Y_J0_length_8abf5, C_J0_coder_7d493, shpT, rfsT]
      exact hQ _ _ (by decide +kernel) rfl
def A_J1_canEncode_9a6ad : List (Nat × Ctr) := []
theorem e_J1_canEncode_9a6ad (o : OM) : Ev o Y_J1_canEncode_9a6ad 0 T_J1_canEncode_9a6ad A_J1_canEncode_9a6ad := ⟨rfl, fun _ h => absurd h List.not_mem_nil, fun _ h => absurd h List.not_mem_nil, fun _ h => absurd h List.not_mem_nil, fun _ h => absurd h List.not_mem_nil, fun _ h => absurd h List.not_mem_nil, fun _ h => absurd h List.not_mem_nil⟩
def C_J1_canEncode_9a6ad : Ctr := fun A σ κ => match A with
  | [.inl c] => (0 ≤ c ∧ c ≤ 126) ∧ κ [vI (1)] σ
  | _ => False
set_option maxRecDepth 20000 in
theorem s_J1_canEncode_9a6ad (o : OM) : Sound o Y_J1_canEncode_9a6ad 0 C_J1_canEncode_9a6ad := by
  intro Q A σ hA hC
  match A, hA, hC with
  | [.inl c], hA, hC =>
    obtain ⟨h0, hq⟩ : (0 ≤ c ∧ c ≤ 126) ∧ Q [vI (1)] σ := hC
    have hQ : ∀ r_ τ, r_ = (1) → τ = (σ) → Q [vI r_] τ := fun r_ τ e e2 => e ▸ e2 ▸ hq
    refine at_wpl (lv := V_J1_canEncode_9a6ad) (B := B_J1_canEncode_9a6ad) (e_J1_canEncode_9a6ad o) k_J1_canEncode_9a6ad 3 0 [] _ σ ?_
    simp only [sq_iconst, sq_jsr, sq_anewarray, sq_iload, sq_lload, sq_aload, sq_istore, sq_lstore, sq_astore, sq_iinc, sq_getfield, st_put0, st_put1, st_put3, sq_inv, sq_goto, sq_icmp, sq_ifc, sq_tsw, sq_iadd, sq_isub, sq_imul, sq_ineg, sq_idiv, sq_irem, sq_iand, sq_ior, sq_ixor, sq_ishl, sq_ishr, sq_iushr, sq_ladd, sq_lmul, sq_ldiv, sq_lrem, sq_land, sq_lor, sq_lshl, sq_lushr, sq_lcmp, sq_i2l, sq_l2i, sq_i2c, sq_i2b, sq_dupI, sq_dupR, sq_dup2, sq_pop, sq_iaload, sq_baload, sq_aaload, sq_iastore, sq_bastore, sq_alen, sq_ireturn, sq_lreturn, sq_return, wq_c, wq_n, wlq_s, lkp, tbl, dBk, nth, setL, canSet, cmpI, tk, swK, rdF, entL, catS, cat1, arg, rcv, ald, bld, aln, br, Ccopy, Cmax, Cmin, Cabs, List.take, List.drop, List.reverse, List.reverseAux, List.length, List.append, List.nil_append, List.cons_append, true_and, and_true, and_self, forall_const, true_implies, false_implies, not_true_eq_false, not_false_eq_true, Option.map, reduceCtorEq, reduceIte, or_true, true_or, false_or, or_false, false_and, and_false, List.map, List.append_nil, implies_true, yK, Nat.reduceBEq, beq_self_eq_true, Int.zero_ne_one, Nat.reduceDiv, Nat.reduceMod, Nat.reduceAdd, Nat.reduceSub, Nat.reduceMul, Nat.reduceEqDiff, Nat.reduceLeDiff, Int.reduceToNat, Int.reduceNeg, Int.reduceEq, Int.reduceLT, Int.reduceLE, Int.reduceNatCast, Int.reduceNatCast', Int.reduceAdd, Int.reduceSub, Int.reduceMul, eq_self, Prod.mk.injEq, A_J1_canEncode_9a6ad, V_J1_canEncode_9a6ad, B_J1_canEncode_9a6ad, Y_J1_canEncode_9a6ad, shpT, rfsT]
    repeat' (first | assumption | (intro _) | apply And.intro)
    all_goals first | omega | assumption | (apply hQ <;> first | rfl | omega | (simp [*]; done) | (simp [*]; omega)) | skip
/-- a letter's number in a text -/
def ltq (q : Nat) (c : Int) : Int := if q = 105 then hlt c else llt c
def leq (q : Nat) : Int := if q = 105 then 7 else 4
theorem hlt_f {c i : Int} (h0 : 0 ≤ i) (h1 : i < 7) (h : [108, 119, 110, 104, 102, 97, 115].getD i.toNat 0 = c) : hlt c = i := by
  obtain ⟨n, rfl⟩ : ∃ n : Nat, i = n := ⟨i.toNat, by omega⟩
  have hn : n < 7 := by omega
  subst h
  have key : ∀ k : Fin 7, hlt ([108, 119, 110, 104, 102, 97, 115].getD ((k.1 : Nat) : Int).toNat 0) = ((k.1 : Nat) : Int) := by decide +kernel
  exact key ⟨n, hn⟩
theorem llt_f {c i : Int} (h0 : 0 ≤ i) (h1 : i < 4) (h : [108, 100, 117, 97].getD i.toNat 0 = c) : llt c = i := by
  obtain ⟨n, rfl⟩ : ∃ n : Nat, i = n := ⟨i.toNat, by omega⟩
  have hn : n < 4 := by omega
  subst h
  have key : ∀ k : Fin 4, llt ([108, 100, 117, 97].getD ((k.1 : Nat) : Int).toNat 0) = ((k.1 : Nat) : Int) := by decide +kernel
  exact key ⟨n, hn⟩
theorem hlt_n {c : Int} (h : ∀ j : Int, 0 ≤ j → j < 7 → ¬ [108, 119, 110, 104, 102, 97, 115].getD j.toNat 0 = c) : hlt c = -1 := by
  have h0 : ¬ (108 : Int) = c := h 0 (by decide) (by decide)
  have h1 : ¬ (119 : Int) = c := h 1 (by decide) (by decide)
  have h2 : ¬ (110 : Int) = c := h 2 (by decide) (by decide)
  have h3 : ¬ (104 : Int) = c := h 3 (by decide) (by decide)
  have h4 : ¬ (102 : Int) = c := h 4 (by decide) (by decide)
  have h5 : ¬ (97 : Int) = c := h 5 (by decide) (by decide)
  have h6 : ¬ (115 : Int) = c := h 6 (by decide) (by decide)
  unfold hlt
  rw [if_neg (by omega), if_neg (by omega), if_neg (by omega), if_neg (by omega), if_neg (by omega), if_neg (by omega), if_neg (by omega)]
theorem llt_n {c : Int} (h : ∀ j : Int, 0 ≤ j → j < 4 → ¬ [108, 100, 117, 97].getD j.toNat 0 = c) : llt c = -1 := by
  have h0 : ¬ (108 : Int) = c := h 0 (by decide) (by decide)
  have h1 : ¬ (100 : Int) = c := h 1 (by decide) (by decide)
  have h2 : ¬ (117 : Int) = c := h 2 (by decide) (by decide)
  have h3 : ¬ (97 : Int) = c := h 3 (by decide) (by decide)
  unfold llt
  rw [if_neg (by omega), if_neg (by omega), if_neg (by omega), if_neg (by omega)]
theorem ltq_f {q : Nat} {c i : Int} (hq : q = 105 ∨ q = 106) (h0 : 0 ≤ i) (h1 : i < leq q) (h : (stc q).getD i.toNat 0 = c) : i = ltq q c := by
  rcases hq with rfl | rfl
  · exact (hlt_f h0 h1 h).symm
  · exact (llt_f h0 h1 h).symm
theorem ltq_n {q : Nat} {c : Int} (hq : q = 105 ∨ q = 106) (h : ∀ j : Int, 0 ≤ j → j < leq q → ¬ (stc q).getD j.toNat 0 = c) : -1 = ltq q c := by
  rcases hq with rfl | rfl
  · exact (hlt_n h).symm
  · exact (llt_n h).symm
def A_J1_indexOfChar_4cfef : List (Nat × Ctr) := []
theorem e_J1_indexOfChar_4cfef (o : OM) : Ev o Y_J1_indexOfChar_4cfef 0 T_J1_indexOfChar_4cfef A_J1_indexOfChar_4cfef := ⟨rfl, fun _ h => absurd h List.not_mem_nil, fun _ h => absurd h List.not_mem_nil, fun _ h => absurd h List.not_mem_nil, fun _ h => absurd h List.not_mem_nil, fun _ h => absurd h List.not_mem_nil, fun _ h => absurd h List.not_mem_nil⟩
def C_J1_indexOfChar_4cfef : Ctr := fun A σ κ => match A with
  | [.inr (.inr (.inl q)), .inl c, .inl f, .inl n] => ((q = 105 ∨ q = 106) ∧ (0 ≤ c ∧ c ≤ 126) ∧ f = 0 ∧ n = leq q) ∧ κ [vI (ltq q c)] σ
  | _ => False
set_option maxRecDepth 20000 in
theorem s_J1_indexOfChar_4cfef (o : OM) : Sound o Y_J1_indexOfChar_4cfef 0 C_J1_indexOfChar_4cfef := by
  intro Q A σ hA hC
  match A, hA, hC with
  | [.inr (.inr (.inl q)), .inl c, .inl f, .inl n], hA, hC =>
    obtain ⟨h0, hq⟩ : ((q = 105 ∨ q = 106) ∧ (0 ≤ c ∧ c ≤ 126) ∧ f = 0 ∧ n = leq q) ∧ Q [vI (ltq q c)] σ := hC
    have hQ : ∀ r_ τ, r_ = (ltq q c) → τ = (σ) → Q [vI r_] τ := fun r_ τ e e2 => e ▸ e2 ▸ hq
    obtain ⟨hqq, hc, rfl, rfl⟩ := h0
    have e8 : bI8 c = c := bI8_id hc
    have hsh : shp q = (7, (leq q).toNat) := by rcases hqq with rfl | rfl <;> rfl
    have hl : 0 < leq q ∧ leq q ≤ 7 := by rcases hqq with rfl | rfl <;> decide
    obtain ⟨P7, hP7⟩ : ∃ P : Nat → List AV → List AV → Sto → Prop, P = fun m S L τ => ∃ i : Int, S = [] ∧ L = [vR q, vI c, vI 0, vI (leq q), vI c, vI i] ∧ τ = σ ∧ 0 ≤ i ∧ i ≤ leq q ∧ (∀ j, 0 ≤ j → j < i → ¬ (stc q).getD j.toNat 0 = c) ∧ m = (leq q - i).toNat := ⟨_, rfl⟩
    refine at_meth (lv := V_J1_indexOfChar_4cfef) (B := B_J1_indexOfChar_4cfef) (e_J1_indexOfChar_4cfef o) k_J1_indexOfChar_4cfef 4 [(7, P7)] (List.forall_mem_cons.mpr ⟨?_, fun _ h => absurd h List.not_mem_nil⟩) 0 [] _ σ ?_
    · intro m S L τ hI
      rw [hP7] at hI
      obtain ⟨i, rfl, rfl, rfl, i0, i1, hj, hm⟩ := hI
      simp only [sq_iconst, sq_jsr, sq_anewarray, sq_iload, sq_lload, sq_aload, sq_istore, sq_lstore, sq_astore, sq_iinc, sq_getfield, st_put0, st_put1, st_put3, sq_inv, sq_goto, sq_icmp, sq_ifc, sq_tsw, sq_iadd, sq_isub, sq_imul, sq_ineg, sq_idiv, sq_irem, sq_iand, sq_ior, sq_ixor, sq_ishl, sq_ishr, sq_iushr, sq_ladd, sq_lmul, sq_ldiv, sq_lrem, sq_land, sq_lor, sq_lshl, sq_lushr, sq_lcmp, sq_i2l, sq_l2i, sq_i2c, sq_i2b, sq_dupI, sq_dupR, sq_dup2, sq_pop, sq_iaload, sq_baload, sq_aaload, sq_iastore, sq_bastore, sq_alen, sq_ireturn, sq_lreturn, sq_return, wq_c, wq_n, wlq_s, lkp, tbl, dBk, nth, setL, canSet, cmpI, tk, swK, rdF, entL, catS, cat1, arg, rcv, ald, bld, aln, br, Ccopy, Cmax, Cmin, Cabs, List.take, List.drop, List.reverse, List.reverseAux, List.length, List.append, List.nil_append, List.cons_append, true_and, and_true, and_self, forall_const, true_implies, false_implies, not_true_eq_false, not_false_eq_true, Option.map, reduceCtorEq, reduceIte, or_true, true_or, false_or, or_false, false_and, and_false, List.map, List.append_nil, implies_true, yK, Nat.reduceBEq, beq_self_eq_true, Int.zero_ne_one, Nat.reduceDiv, Nat.reduceMod, Nat.reduceAdd, Nat.reduceSub, Nat.reduceMul, Nat.reduceEqDiff, Nat.reduceLeDiff, Int.reduceToNat, Int.reduceNeg, Int.reduceEq, Int.reduceLT, Int.reduceLE, Int.reduceNatCast, Int.reduceNatCast', Int.reduceAdd, Int.reduceSub, Int.reduceMul, eq_self, Prod.mk.injEq, A_J1_indexOfChar_4cfef, V_J1_indexOfChar_4cfef, B_J1_indexOfChar_4cfef, Y_J1_indexOfChar_4cfef, shpT, rfsT, wjq_s, look, hsh]
      rw [hP7]
      refine ⟨fun h => hQ _ _ (ltq_n hqq (fun j j0 j1 => hj j j0 (by omega))) rfl, fun h => ⟨⟨i0, by omega⟩, fun h1 => ⟨⟨by omega, by omega⟩, _, ?_, i + 1, rfl, rfl, rfl, (by omega), (by omega), fun j j0 j1 => ?_, rfl⟩, fun h1 => hQ _ _ (ltq_f hqq i0 (by omega) (Classical.not_not.mp h1)) rfl⟩⟩
      · omega
      · by_cases e : j = i
        · rw [e]; exact h1
        · exact hj j j0 (by omega)
    · simp only [sq_iconst, sq_jsr, sq_anewarray, sq_iload, sq_lload, sq_aload, sq_istore, sq_lstore, sq_astore, sq_iinc, sq_getfield, st_put0, st_put1, st_put3, sq_inv, sq_goto, sq_icmp, sq_ifc, sq_tsw, sq_iadd, sq_isub, sq_imul, sq_ineg, sq_idiv, sq_irem, sq_iand, sq_ior, sq_ixor, sq_ishl, sq_ishr, sq_iushr, sq_ladd, sq_lmul, sq_ldiv, sq_lrem, sq_land, sq_lor, sq_lshl, sq_lushr, sq_lcmp, sq_i2l, sq_l2i, sq_i2c, sq_i2b, sq_dupI, sq_dupR, sq_dup2, sq_pop, sq_iaload, sq_baload, sq_aaload, sq_iastore, sq_bastore, sq_alen, sq_ireturn, sq_lreturn, sq_return, wq_c, wq_n, wlq_s, lkp, tbl, dBk, nth, setL, canSet, cmpI, tk, swK, rdF, entL, catS, cat1, arg, rcv, ald, bld, aln, br, Ccopy, Cmax, Cmin, Cabs, List.take, List.drop, List.reverse, List.reverseAux, List.length, List.append, List.nil_append, List.cons_append, true_and, and_true, and_self, forall_const, true_implies, false_implies, not_true_eq_false, not_false_eq_true, Option.map, reduceCtorEq, reduceIte, or_true, true_or, false_or, or_false, false_and, and_false, List.map, List.append_nil, implies_true, yK, Nat.reduceBEq, beq_self_eq_true, Int.zero_ne_one, Nat.reduceDiv, Nat.reduceMod, Nat.reduceAdd, Nat.reduceSub, Nat.reduceMul, Nat.reduceEqDiff, Nat.reduceLeDiff, Int.reduceToNat, Int.reduceNeg, Int.reduceEq, Int.reduceLT, Int.reduceLE, Int.reduceNatCast, Int.reduceNatCast', Int.reduceAdd, Int.reduceSub, Int.reduceMul, eq_self, Prod.mk.injEq, A_J1_indexOfChar_4cfef, V_J1_indexOfChar_4cfef, B_J1_indexOfChar_4cfef, Y_J1_indexOfChar_4cfef, shpT, rfsT, wjq_s, look, e8]
      rw [hP7]
      exact ⟨_, 0, rfl, rfl, rfl, (by omega), (by omega), fun j j0 j1 => by omega, rfl⟩
def A_J1_indexOf_4cfef : List (Nat × Ctr) := [(1, arg 1 C_J1_canEncode_9a6ad), (2, Cmax), (2, Cmin), (4, arg 6 C_J1_indexOfChar_4cfef)]
theorem e_J1_indexOf_4cfef (o : OM) : Ev o Y_J1_indexOf_4cfef 1 T_J1_indexOf_4cfef A_J1_indexOf_4cfef := ⟨rfl, fun _ h => absurd h List.not_mem_nil, fun _ h => absurd h List.not_mem_nil, fun _ h => absurd h List.not_mem_nil, fun _ h => absurd h List.not_mem_nil, fun _ h => absurd h List.not_mem_nil, List.forall_mem_cons.mpr ⟨cl_J1_canEncode_9a6ad (s_J1_canEncode_9a6ad o) (by decide) (Or.inl w_515), List.forall_mem_cons.mpr ⟨max_ok w_518 w_519 w_15 w_520, List.forall_mem_cons.mpr ⟨min_ok w_521 w_522 w_15 w_523, List.forall_mem_cons.mpr ⟨cl_J1_indexOfChar_4cfef (s_J1_indexOfChar_4cfef o) (by decide) (Or.inl w_524), fun _ h => absurd h List.not_mem_nil⟩⟩⟩⟩⟩
def C_J1_indexOf_4cfef : Ctr := fun A σ κ => match A with
  | [.inr (.inr (.inl q)), .inl c, .inl f, .inl n] => ((q = 105 ∨ q = 106) ∧ (0 ≤ c ∧ c ≤ 126) ∧ f = 0 ∧ n = leq q) ∧ κ [vI (ltq q c)] σ
  | _ => False
set_option maxRecDepth 20000 in
theorem s_J1_indexOf_4cfef (o : OM) : Sound o Y_J1_indexOf_4cfef 1 C_J1_indexOf_4cfef := by
  intro Q A σ hA hC
  match A, hA, hC with
  | [.inr (.inr (.inl q)), .inl c, .inl f, .inl n], hA, hC =>
    obtain ⟨h0, hq⟩ : ((q = 105 ∨ q = 106) ∧ (0 ≤ c ∧ c ≤ 126) ∧ f = 0 ∧ n = leq q) ∧ Q [vI (ltq q c)] σ := hC
    have hQ : ∀ r_ τ, r_ = (ltq q c) → τ = (σ) → Q [vI r_] τ := fun r_ τ e e2 => e ▸ e2 ▸ hq
    obtain ⟨hqq, hc, rfl, rfl⟩ := h0
    refine at_wpl (lv := V_J1_indexOf_4cfef) (B := B_J1_indexOf_4cfef) (e_J1_indexOf_4cfef o) k_J1_indexOf_4cfef 3 0 [] _ σ ?_
    rcases hqq with rfl | rfl
    · simp only [sq_iconst, sq_jsr, sq_anewarray, sq_iload, sq_lload, sq_aload, sq_istore, sq_lstore, sq_astore, sq_iinc, sq_getfield, st_put0, st_put1, st_put3, sq_inv, sq_goto, sq_icmp, sq_ifc, sq_tsw, sq_iadd, sq_isub, sq_imul, sq_ineg, sq_idiv, sq_irem, sq_iand, sq_ior, sq_ixor, sq_ishl, sq_ishr, sq_iushr, sq_ladd, sq_lmul, sq_ldiv, sq_lrem, sq_land, sq_lor, sq_lshl, sq_lushr, sq_lcmp, sq_i2l, sq_l2i, sq_i2c, sq_i2b, sq_dupI, sq_dupR, sq_dup2, sq_pop, sq_iaload, sq_baload, sq_aaload, sq_iastore, sq_bastore, sq_alen, sq_ireturn, sq_lreturn, sq_return, wq_c, wq_n, wlq_s, lkp, tbl, dBk, nth, setL, canSet, cmpI, tk, swK, rdF, entL, catS, cat1, arg, rcv, ald, bld, aln, br, Ccopy, Cmax, Cmin, Cabs, List.take, List.drop, List.reverse, List.reverseAux, List.length, List.append, List.nil_append, List.cons_append, true_and, and_true, and_self, forall_const, true_implies, false_implies, not_true_eq_false, not_false_eq_true, Option.map, reduceCtorEq, reduceIte, or_true, true_or, false_or, or_false, false_and, and_false, List.map, List.append_nil, implies_true, yK, Nat.reduceBEq, beq_self_eq_true, Int.zero_ne_one, Nat.reduceDiv, Nat.reduceMod, Nat.reduceAdd, Nat.reduceSub, Nat.reduceMul, Nat.reduceEqDiff, Nat.reduceLeDiff, Int.reduceToNat, Int.reduceNeg, Int.reduceEq, Int.reduceLT, Int.reduceLE, Int.reduceNatCast, Int.reduceNatCast', Int.reduceAdd, Int.reduceSub, Int.reduceMul, eq_self, Prod.mk.injEq, A_J1_indexOf_4cfef, V_J1_indexOf_4cfef, B_J1_indexOf_4cfef, Y_J1_indexOf_4cfef, C_J1_canEncode_9a6ad, C_J1_indexOfChar_4cfef, shpT, rfsT]
      have e1 : max (0 : Int) 0 = 0 := rfl
      have e2 : min (leq 105) 7 = leq 105 := rfl
      rw [e1, e2]
      exact ⟨hc, fun _ => ⟨⟨hc, rfl, rfl⟩, hQ _ _ rfl rfl⟩, fun z => absurd (by decide) z⟩
    · simp only [sq_iconst, sq_jsr, sq_anewarray, sq_iload, sq_lload, sq_aload, sq_istore, sq_lstore, sq_astore, sq_iinc, sq_getfield, st_put0, st_put1, st_put3, sq_inv, sq_goto, sq_icmp, sq_ifc, sq_tsw, sq_iadd, sq_isub, sq_imul, sq_ineg, sq_idiv, sq_irem, sq_iand, sq_ior, sq_ixor, sq_ishl, sq_ishr, sq_iushr, sq_ladd, sq_lmul, sq_ldiv, sq_lrem, sq_land, sq_lor, sq_lshl, sq_lushr, sq_lcmp, sq_i2l, sq_l2i, sq_i2c, sq_i2b, sq_dupI, sq_dupR, sq_dup2, sq_pop, sq_iaload, sq_baload, sq_aaload, sq_iastore, sq_bastore, sq_alen, sq_ireturn, sq_lreturn, sq_return, wq_c, wq_n, wlq_s, lkp, tbl, dBk, nth, setL, canSet, cmpI, tk, swK, rdF, entL, catS, cat1, arg, rcv, ald, bld, aln, br, Ccopy, Cmax, Cmin, Cabs, List.take, List.drop, List.reverse, List.reverseAux, List.length, List.append, List.nil_append, List.cons_append, true_and, and_true, and_self, forall_const, true_implies, false_implies, not_true_eq_false, not_false_eq_true, Option.map, reduceCtorEq, reduceIte, or_true, true_or, false_or, or_false, false_and, and_false, List.map, List.append_nil, implies_true, yK, Nat.reduceBEq, beq_self_eq_true, Int.zero_ne_one, Nat.reduceDiv, Nat.reduceMod, Nat.reduceAdd, Nat.reduceSub, Nat.reduceMul, Nat.reduceEqDiff, Nat.reduceLeDiff, Int.reduceToNat, Int.reduceNeg, Int.reduceEq, Int.reduceLT, Int.reduceLE, Int.reduceNatCast, Int.reduceNatCast', Int.reduceAdd, Int.reduceSub, Int.reduceMul, eq_self, Prod.mk.injEq, A_J1_indexOf_4cfef, V_J1_indexOf_4cfef, B_J1_indexOf_4cfef, Y_J1_indexOf_4cfef, C_J1_canEncode_9a6ad, C_J1_indexOfChar_4cfef, shpT, rfsT]
      have e1 : max (0 : Int) 0 = 0 := rfl
      have e2 : min (leq 106) 4 = leq 106 := rfl
      rw [e1, e2]
      exact ⟨hc, fun _ => ⟨⟨hc, rfl, rfl⟩, hQ _ _ rfl rfl⟩, fun z => absurd (by decide) z⟩
def A_J0_indexOf_7cf53 : List (Nat × Ctr) := [(1, rcv 20 1 C_J0_isLatin1_aae02), (1, rcv 20 1 C_J0_length_8abf5), (4, arg 4 C_J1_indexOf_4cfef), dCa]
theorem e_J0_indexOf_7cf53 (o : OM) : Ev o Y_J0_indexOf_7cf53 5 T_J0_indexOf_7cf53 A_J0_indexOf_7cf53 := ⟨rfl, List.forall_mem_cons.mpr ⟨Or.inr f_J0_9, fun _ h => absurd h List.not_mem_nil⟩, fun _ h => absurd h List.not_mem_nil, fun _ h => absurd h List.not_mem_nil, fun _ h => absurd h List.not_mem_nil, List.forall_mem_cons.mpr ⟨cl_J0_isLatin1_aae02 (s_J0_isLatin1_aae02 o) (by decide) (Or.inl w_498), List.forall_mem_cons.mpr ⟨cl_J0_length_8abf5 (s_J0_length_8abf5 o) (by decide) (Or.inl w_504), fun _ h => absurd h List.not_mem_nil⟩⟩, List.forall_mem_cons.mpr ⟨cl_J1_indexOf_4cfef (s_J1_indexOf_4cfef o) (by decide) (Or.inl w_512), List.forall_mem_cons.mpr ⟨dead_c, fun _ h => absurd h List.not_mem_nil⟩⟩⟩
def C_J0_indexOf_7cf53 : Ctr := fun A σ κ => match A with
  | [.inr (.inr (.inl q)), .inl c, .inl f] => ((q = 103 ∨ q = 104) ∧ (0 ≤ c ∧ c ≤ 126) ∧ f = 0) ∧ κ [vI (ltq (q + 2) c)] σ
  | _ => False
set_option maxRecDepth 20000 in
theorem s_J0_indexOf_7cf53 (o : OM) : Sound o Y_J0_indexOf_7cf53 5 C_J0_indexOf_7cf53 := by
  intro Q A σ hA hC
  match A, hA, hC with
  | [.inr (.inr (.inl q)), .inl c, .inl f], hA, hC =>
    obtain ⟨h0, hq⟩ : ((q = 103 ∨ q = 104) ∧ (0 ≤ c ∧ c ≤ 126) ∧ f = 0) ∧ Q [vI (ltq (q + 2) c)] σ := hC
    have hQ : ∀ r_ τ, r_ = (ltq (q + 2) c) → τ = (σ) → Q [vI r_] τ := fun r_ τ e e2 => e ▸ e2 ▸ hq
    obtain ⟨hqq, hc, rfl⟩ := h0
    refine at_wpl (lv := V_J0_indexOf_7cf53) (B := B_J0_indexOf_7cf53) (e_J0_indexOf_7cf53 o) k_J0_indexOf_7cf53 3 0 [] _ σ ?_
    rcases hqq with rfl | rfl
    · simp only [sq_iconst, sq_jsr, sq_anewarray, sq_iload, sq_lload, sq_aload, sq_istore, sq_lstore, sq_astore, sq_iinc, sq_getfield, st_put0, st_put1, st_put3, sq_inv, sq_goto, sq_icmp, sq_ifc, sq_tsw, sq_iadd, sq_isub, sq_imul, sq_ineg, sq_idiv, sq_irem, sq_iand, sq_ior, sq_ixor, sq_ishl, sq_ishr, sq_iushr, sq_ladd, sq_lmul, sq_ldiv, sq_lrem, sq_land, sq_lor, sq_lshl, sq_lushr, sq_lcmp, sq_i2l, sq_l2i, sq_i2c, sq_i2b, sq_dupI, sq_dupR, sq_dup2, sq_pop, sq_iaload, sq_baload, sq_aaload, sq_iastore, sq_bastore, sq_alen, sq_ireturn, sq_lreturn, sq_return, wq_c, wq_n, wlq_s, lkp, tbl, dBk, nth, setL, canSet, cmpI, tk, swK, rdF, entL, catS, cat1, arg, rcv, ald, bld, aln, br, Ccopy, Cmax, Cmin, Cabs, List.take, List.drop, List.reverse, List.reverseAux, List.length, List.append, List.nil_append, List.cons_append, true_and, and_true, and_self, forall_const, true_implies, false_implies, not_true_eq_false, not_false_eq_true, Option.map, reduceCtorEq, reduceIte, or_true, true_or, false_or, or_false, false_and, and_false, List.map, List.append_nil, implies_true, yK, Nat.reduceBEq, beq_self_eq_true, Int.zero_ne_one, Nat.reduceDiv, Nat.reduceMod, Nat.reduceAdd, Nat.reduceSub, Nat.reduceMul, Nat.reduceEqDiff, Nat.reduceLeDiff, Int.reduceToNat, Int.reduceNeg, Int.reduceEq, Int.reduceLT, Int.reduceLE, Int.reduceNatCast, Int.reduceNatCast', Int.reduceAdd, Int.reduceSub, Int.reduceMul, eq_self, Prod.mk.injEq, A_J0_indexOf_7cf53, V_J0_indexOf_7cf53, B_J0_indexOf_7cf53, Y_J0_indexOf_7cf53, C_J0_isLatin1_aae02, C_J0_length_8abf5, C_J1_indexOf_4cfef, shpT, rfsT]
      exact ⟨⟨hc, rfl⟩, hQ _ _ rfl rfl⟩
    · simp only [sq_iconst, sq_jsr, sq_anewarray, sq_iload, sq_lload, sq_aload, sq_istore, sq_lstore, sq_astore, sq_iinc, sq_getfield, st_put0, st_put1, st_put3, sq_inv, sq_goto, sq_icmp, sq_ifc, sq_tsw, sq_iadd, sq_isub, sq_imul, sq_ineg, sq_idiv, sq_irem, sq_iand, sq_ior, sq_ixor, sq_ishl, sq_ishr, sq_iushr, sq_ladd, sq_lmul, sq_ldiv, sq_lrem, sq_land, sq_lor, sq_lshl, sq_lushr, sq_lcmp, sq_i2l, sq_l2i, sq_i2c, sq_i2b, sq_dupI, sq_dupR, sq_dup2, sq_pop, sq_iaload, sq_baload, sq_aaload, sq_iastore, sq_bastore, sq_alen, sq_ireturn, sq_lreturn, sq_return, wq_c, wq_n, wlq_s, lkp, tbl, dBk, nth, setL, canSet, cmpI, tk, swK, rdF, entL, catS, cat1, arg, rcv, ald, bld, aln, br, Ccopy, Cmax, Cmin, Cabs, List.take, List.drop, List.reverse, List.reverseAux, List.length, List.append, List.nil_append, List.cons_append, true_and, and_true, and_self, forall_const, true_implies, false_implies, not_true_eq_false, not_false_eq_true, Option.map, reduceCtorEq, reduceIte, or_true, true_or, false_or, or_false, false_and, and_false, List.map, List.append_nil, implies_true, yK, Nat.reduceBEq, beq_self_eq_true, Int.zero_ne_one, Nat.reduceDiv, Nat.reduceMod, Nat.reduceAdd, Nat.reduceSub, Nat.reduceMul, Nat.reduceEqDiff, Nat.reduceLeDiff, Int.reduceToNat, Int.reduceNeg, Int.reduceEq, Int.reduceLT, Int.reduceLE, Int.reduceNatCast, Int.reduceNatCast', Int.reduceAdd, Int.reduceSub, Int.reduceMul, eq_self, Prod.mk.injEq, A_J0_indexOf_7cf53, V_J0_indexOf_7cf53, B_J0_indexOf_7cf53, Y_J0_indexOf_7cf53, C_J0_isLatin1_aae02, C_J0_length_8abf5, C_J1_indexOf_4cfef, shpT, rfsT]
      exact ⟨⟨hc, rfl⟩, hQ _ _ rfl rfl⟩
def A_J0_indexOf_0f7a4 : List (Nat × Ctr) := [(3, rcv 20 3 C_J0_indexOf_7cf53)]
theorem e_J0_indexOf_0f7a4 (o : OM) : Ev o Y_J0_indexOf_0f7a4 6 T_J0_indexOf_0f7a4 A_J0_indexOf_0f7a4 := ⟨rfl, fun _ h => absurd h List.not_mem_nil, fun _ h => absurd h List.not_mem_nil, fun _ h => absurd h List.not_mem_nil, fun _ h => absurd h List.not_mem_nil, List.forall_mem_cons.mpr ⟨cl_J0_indexOf_7cf53 (s_J0_indexOf_7cf53 o) (by decide) (Or.inl w_494), fun _ h => absurd h List.not_mem_nil⟩, fun _ h => absurd h List.not_mem_nil⟩
def C_J0_indexOf_0f7a4 : Ctr := fun A σ κ => match A with
  | [.inr (.inr (.inl q)), .inl c] => ((q = 103 ∨ q = 104) ∧ (0 ≤ c ∧ c ≤ 126)) ∧ κ [vI (ltq (q + 2) c)] σ
  | _ => False
set_option maxRecDepth 20000 in
theorem s_J0_indexOf_0f7a4 (o : OM) : Sound o Y_J0_indexOf_0f7a4 6 C_J0_indexOf_0f7a4 := by
  intro Q A σ hA hC
  match A, hA, hC with
  | [.inr (.inr (.inl q)), .inl c], hA, hC =>
    obtain ⟨h0, hq⟩ : ((q = 103 ∨ q = 104) ∧ (0 ≤ c ∧ c ≤ 126)) ∧ Q [vI (ltq (q + 2) c)] σ := hC
    have hQ : ∀ r_ τ, r_ = (ltq (q + 2) c) → τ = (σ) → Q [vI r_] τ := fun r_ τ e e2 => e ▸ e2 ▸ hq
    refine at_wpl (lv := V_J0_indexOf_0f7a4) (B := B_J0_indexOf_0f7a4) (e_J0_indexOf_0f7a4 o) k_J0_indexOf_0f7a4 1 0 [] _ σ ?_
    rcases h0.1 with rfl | rfl
    · simp only [sq_iconst, sq_jsr, sq_anewarray, sq_iload, sq_lload, sq_aload, sq_istore, sq_lstore, sq_astore, sq_iinc, sq_getfield, st_put0, st_put1, st_put3, sq_inv, sq_goto, sq_icmp, sq_ifc, sq_tsw, sq_iadd, sq_isub, sq_imul, sq_ineg, sq_idiv, sq_irem, sq_iand, sq_ior, sq_ixor, sq_ishl, sq_ishr, sq_iushr, sq_ladd, sq_lmul, sq_ldiv, sq_lrem, sq_land, sq_lor, sq_lshl, sq_lushr, sq_lcmp, sq_i2l, sq_l2i, sq_i2c, sq_i2b, sq_dupI, sq_dupR, sq_dup2, sq_pop, sq_iaload, sq_baload, sq_aaload, sq_iastore, sq_bastore, sq_alen, sq_ireturn, sq_lreturn, sq_return, wq_c, wq_n, wlq_s, lkp, tbl, dBk, nth, setL, canSet, cmpI, tk, swK, rdF, entL, catS, cat1, arg, rcv, ald, bld, aln, br, Ccopy, Cmax, Cmin, Cabs, List.take, List.drop, List.reverse, List.reverseAux, List.length, List.append, List.nil_append, List.cons_append, true_and, and_true, and_self, forall_const, true_implies, false_implies, not_true_eq_false, not_false_eq_true, Option.map, reduceCtorEq, reduceIte, or_true, true_or, false_or, or_false, false_and, and_false, List.map, List.append_nil, implies_true, yK, Nat.reduceBEq, beq_self_eq_true, Int.zero_ne_one, Nat.reduceDiv, Nat.reduceMod, Nat.reduceAdd, Nat.reduceSub, Nat.reduceMul, Nat.reduceEqDiff, Nat.reduceLeDiff, Int.reduceToNat, Int.reduceNeg, Int.reduceEq, Int.reduceLT, Int.reduceLE, Int.reduceNatCast, Int.reduceNatCast', Int.reduceAdd, Int.reduceSub, Int.reduceMul, eq_self, Prod.mk.injEq, A_J0_indexOf_0f7a4, V_J0_indexOf_0f7a4, B_J0_indexOf_0f7a4, Y_J0_indexOf_0f7a4, C_J0_indexOf_7cf53, shpT, rfsT]
      exact ⟨h0.2, hQ _ _ rfl rfl⟩
    · simp only [sq_iconst, sq_jsr, sq_anewarray, sq_iload, sq_lload, sq_aload, sq_istore, sq_lstore, sq_astore, sq_iinc, sq_getfield, st_put0, st_put1, st_put3, sq_inv, sq_goto, sq_icmp, sq_ifc, sq_tsw, sq_iadd, sq_isub, sq_imul, sq_ineg, sq_idiv, sq_irem, sq_iand, sq_ior, sq_ixor, sq_ishl, sq_ishr, sq_iushr, sq_ladd, sq_lmul, sq_ldiv, sq_lrem, sq_land, sq_lor, sq_lshl, sq_lushr, sq_lcmp, sq_i2l, sq_l2i, sq_i2c, sq_i2b, sq_dupI, sq_dupR, sq_dup2, sq_pop, sq_iaload, sq_baload, sq_aaload, sq_iastore, sq_bastore, sq_alen, sq_ireturn, sq_lreturn, sq_return, wq_c, wq_n, wlq_s, lkp, tbl, dBk, nth, setL, canSet, cmpI, tk, swK, rdF, entL, catS, cat1, arg, rcv, ald, bld, aln, br, Ccopy, Cmax, Cmin, Cabs, List.take, List.drop, List.reverse, List.reverseAux, List.length, List.append, List.nil_append, List.cons_append, true_and, and_true, and_self, forall_const, true_implies, false_implies, not_true_eq_false, not_false_eq_true, Option.map, reduceCtorEq, reduceIte, or_true, true_or, false_or, or_false, false_and, and_false, List.map, List.append_nil, implies_true, yK, Nat.reduceBEq, beq_self_eq_true, Int.zero_ne_one, Nat.reduceDiv, Nat.reduceMod, Nat.reduceAdd, Nat.reduceSub, Nat.reduceMul, Nat.reduceEqDiff, Nat.reduceLeDiff, Int.reduceToNat, Int.reduceNeg, Int.reduceEq, Int.reduceLT, Int.reduceLE, Int.reduceNatCast, Int.reduceNatCast', Int.reduceAdd, Int.reduceSub, Int.reduceMul, eq_self, Prod.mk.injEq, A_J0_indexOf_0f7a4, V_J0_indexOf_0f7a4, B_J0_indexOf_0f7a4, Y_J0_indexOf_0f7a4, C_J0_indexOf_7cf53, shpT, rfsT]
      exact ⟨h0.2, hQ _ _ rfl rfl⟩

