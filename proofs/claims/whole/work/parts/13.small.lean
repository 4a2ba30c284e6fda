-- ===== small methods =====
def br (c : Prop) (k : List AV → Sto → Prop) (σ : Sto) : Prop := (c → k [vI 1] σ) ∧ (¬ c → k [vI 0] σ)
def A_X8_isWithin : List (Nat × Ctr) := []
theorem e_X8_isWithin (o : OM) : Ev o Y_X8_isWithin 0 T_X8_isWithin A_X8_isWithin := ⟨rfl, fun _ h => absurd h List.not_mem_nil, fun _ h => absurd h List.not_mem_nil, fun _ h => absurd h List.not_mem_nil, fun _ h => absurd h List.not_mem_nil, fun _ h => absurd h List.not_mem_nil, fun _ h => absurd h List.not_mem_nil⟩
def C_X8_isWithin : Ctr := fun A σ k => match A with
  | [.inl a, .inl b, .inl c] => br (b ≤ a ∧ a ≤ c) k σ
  | _ => False
theorem s_X8_isWithin (o : OM) : Sound o Y_X8_isWithin 0 C_X8_isWithin := by
  intro Q A σ hA hC
  match A, hA, hC with
  | [.inl a, .inl b, .inl c], hA, hC =>
    refine at_wpl (lv := V_X8_isWithin) (B := B_X8_isWithin) (e_X8_isWithin o) k_X8_isWithin 4 0 [] _ σ ?_
    obtain ⟨h1, h2⟩ : br (b ≤ a ∧ a ≤ c) Q σ := hC
    simp [st_iconst, st_jsr, st_anewarray, st_iload, st_lload, st_aload, st_istore, st_lstore, st_astore, st_iinc, st_getfield, st_put0, st_put1, st_put3, st_inv, st_goto, st_icmp, st_ifc, st_tsw, st_iadd, st_isub, st_imul, st_ineg, st_idiv, st_irem, st_iand, st_ior, st_ixor, st_ishl, st_ishr, st_iushr, st_ladd, st_lmul, st_ldiv, st_lrem, st_land, st_lor, st_lshl, st_lushr, st_lcmp, st_i2l, st_l2i, st_i2c, st_i2b, st_dupI, st_dupR, st_dup2, st_pop, st_iaload, st_baload, st_aaload, st_iastore, st_bastore, st_alen, st_ireturn, st_lreturn, st_return, wp_c, wp_n, wpl_s, lkp, tbl, dBk, nth, setL, canSet, cmpI, tk, swK, rdF, entL, catS, cat1, arg, rcv, ald, bld, aln, Ccopy, Cmax, Cmin, Cabs, List.take, List.drop, List.reverse, List.reverseAux, List.length, List.append, List.nil_append, List.cons_append, Int.toNat, A_X8_isWithin, V_X8_isWithin, B_X8_isWithin, Y_X8_isWithin]
    trace_state
    sorry
def A_X6_kindOf : List (Nat × Ctr) := []
theorem e_X6_kindOf (o : OM) : Ev o Y_X6_kindOf 0 T_X6_kindOf A_X6_kindOf := ⟨rfl, List.forall_mem_cons.mpr ⟨Or.inl f_X6_22, fun _ h => absurd h List.not_mem_nil⟩, fun _ h => absurd h List.not_mem_nil, fun _ h => absurd h List.not_mem_nil, fun _ h => absurd h List.not_mem_nil, fun _ h => absurd h List.not_mem_nil, fun _ h => absurd h List.not_mem_nil⟩
def C_X6_kindOf : Ctr := fun A σ k => match A with
  | [.inr (.inr (.inl 1)), .inl p, .inl i] => (0 ≤ p ∧ p < 7 ∧ 0 ≤ i ∧ i < 16) ∧ k [vI (σ 13 (p * 16 + i))] σ
  | _ => False
theorem s_X6_kindOf (o : OM) : Sound o Y_X6_kindOf 0 C_X6_kindOf := by
  intro Q A σ hA hC
  match A, hA, hC with
  | [.inr (.inr (.inl 1)), .inl p, .inl i], hA, hC =>
    refine at_wpl (lv := V_X6_kindOf) (B := B_X6_kindOf) (e_X6_kindOf o) k_X6_kindOf 4 0 [] _ σ ?_
    obtain ⟨h1, h2⟩ : (0 ≤ p ∧ p < 7 ∧ 0 ≤ i ∧ i < 16) ∧ Q [vI (σ 13 (p * 16 + i))] σ := hC
    simp [st_iconst, st_jsr, st_anewarray, st_iload, st_lload, st_aload, st_istore, st_lstore, st_astore, st_iinc, st_getfield, st_put0, st_put1, st_put3, st_inv, st_goto, st_icmp, st_ifc, st_tsw, st_iadd, st_isub, st_imul, st_ineg, st_idiv, st_irem, st_iand, st_ior, st_ixor, st_ishl, st_ishr, st_iushr, st_ladd, st_lmul, st_ldiv, st_lrem, st_land, st_lor, st_lshl, st_lushr, st_lcmp, st_i2l, st_l2i, st_i2c, st_i2b, st_dupI, st_dupR, st_dup2, st_pop, st_iaload, st_baload, st_aaload, st_iastore, st_bastore, st_alen, st_ireturn, st_lreturn, st_return, wp_c, wp_n, wpl_s, lkp, tbl, dBk, nth, setL, canSet, cmpI, tk, swK, rdF, entL, catS, cat1, arg, rcv, ald, bld, aln, Ccopy, Cmax, Cmin, Cabs, List.take, List.drop, List.reverse, List.reverseAux, List.length, List.append, List.nil_append, List.cons_append, Int.toNat, A_X6_kindOf, V_X6_kindOf, B_X6_kindOf, Y_X6_kindOf, shpT, rfsT]
    trace_state
    sorry

