-- ===== pairs of calls: pace, lean, counts =====
/-- how fast, of two ends of a span -/
def pcS (mi x y c d : Int) : Int := ltS mi (if c = 0 then max (iabs x) (iabs y) else min (iabs x) (iabs y)) d
def A_X8_pace : List (Nat × Ctr) := [(2, rcv 6 2 C_X6_has), (3, arg 3 C_X8_isWithin), (1, Cabs), (1, rcv 3 1 C_X3_weaveWhole), (3, rcv 3 3 C_X3_isFloating), (4, rcv 3 4 C_X3_endOfSpan), (2, Cmax), (2, Cmin), (3, arg 7 C_X8_partInLowestTerms)]
theorem e_X8_pace (o : OM) : Ev o Y_X8_pace 5 T_X8_pace A_X8_pace := ⟨rfl, List.forall_mem_cons.mpr ⟨Or.inl f_X8_10, List.forall_mem_cons.mpr ⟨Or.inl f_X8_308, List.forall_mem_cons.mpr ⟨Or.inl f_X8_77, fun _ h => absurd h List.not_mem_nil⟩⟩⟩, fun _ h => absurd h List.not_mem_nil, fun _ h => absurd h List.not_mem_nil, fun _ h => absurd h List.not_mem_nil, List.forall_mem_cons.mpr ⟨cl_X6_has (s_X6_has o) (by decide) (Or.inr ⟨_, wn_42⟩), List.forall_mem_cons.mpr ⟨cl_X3_weaveWhole (s_X3_weaveWhole o) (by decide) (Or.inr ⟨_, wn_86⟩), List.forall_mem_cons.mpr ⟨cl_X3_isFloating (s_X3_isFloating o) (by decide) (Or.inr ⟨_, wn_92⟩), List.forall_mem_cons.mpr ⟨cl_X3_endOfSpan (s_X3_endOfSpan o) (by decide) (Or.inr ⟨_, wn_93⟩), fun _ h => absurd h List.not_mem_nil⟩⟩⟩⟩, List.forall_mem_cons.mpr ⟨cl_X8_isWithin (s_X8_isWithin o) (by decide) (Or.inl w_353), List.forall_mem_cons.mpr ⟨abs_ok w_991 w_729 w_15 w_730, List.forall_mem_cons.mpr ⟨max_ok w_992 w_519 w_15 w_520, List.forall_mem_cons.mpr ⟨min_ok w_993 w_522 w_15 w_523, List.forall_mem_cons.mpr ⟨cl_X8_partInLowestTerms (s_X8_partInLowestTerms o) (by decide) (Or.inl w_674), fun _ h => absurd h List.not_mem_nil⟩⟩⟩⟩⟩⟩
def C_X8_pace : Ctr := fun A σ k => wpl A_X8_pace V_X8_pace (yK Y_X8_pace) B_X8_pace k 7 0 [] (entL A) σ
theorem s_X8_pace (o : OM) : Sound o Y_X8_pace 5 C_X8_pace := fun Q A σ _ hC => at_wpl (e_X8_pace o) k_X8_pace 7 0 [] (entL A) σ hC
def A_X9_pace : List (Nat × Ctr) := [(2, rcv 9 2 C_X9_isPit), (1, arg 1 C_X9_isPart), (1, rcv 9 1 C_X9_layKept), (3, rcv 9 3 C_X9_floats), (1, arg 1 C_X9_size), (3, arg 4 C_X9_term)]
theorem e_X9_pace (o : OM) : Ev o Y_X9_pace 5 T_X9_pace A_X9_pace := ⟨rfl, List.forall_mem_cons.mpr ⟨Or.inl f_X9_7, List.forall_mem_cons.mpr ⟨Or.inl f_X9_80, fun _ h => absurd h List.not_mem_nil⟩⟩, fun _ h => absurd h List.not_mem_nil, fun _ h => absurd h List.not_mem_nil, fun _ h => absurd h List.not_mem_nil, List.forall_mem_cons.mpr ⟨cl_X9_isPit (s_X9_isPit o) (by decide) (Or.inl w_1267), List.forall_mem_cons.mpr ⟨cl_X9_layKept (s_X9_layKept o) (by decide) (Or.inl w_1517), List.forall_mem_cons.mpr ⟨cl_X9_floats (s_X9_floats o) (by decide) (Or.inl w_1548), fun _ h => absurd h List.not_mem_nil⟩⟩⟩, List.forall_mem_cons.mpr ⟨cl_X9_isPart (s_X9_isPart o) (by decide) (Or.inl w_1430), List.forall_mem_cons.mpr ⟨cl_X9_size (s_X9_size o) (by decide) (Or.inl w_1468), List.forall_mem_cons.mpr ⟨cl_X9_term (s_X9_term o) (by decide) (Or.inl w_1433), fun _ h => absurd h List.not_mem_nil⟩⟩⟩⟩
def C_X9_pace : Ctr := fun A σ k => wpl A_X9_pace V_X9_pace (yK Y_X9_pace) B_X9_pace k 9 0 [] (entL A) σ
theorem s_X9_pace (o : OM) : Sound o Y_X9_pace 5 C_X9_pace := fun Q A σ _ hC => at_wpl (e_X9_pace o) k_X9_pace 9 0 [] (entL A) σ hC
theorem iabs_z {a b : Int} : iabs (a - b) = 0 ↔ a = b := by unfold iabs; split <;> omega
theorem ogM_cyc {g : Int → Int} {a b : Int} (h : Base (ogM g)) (na : nd a) (nb : nd b) (h1 : ¬ g (a * 8 + b) = 10000000) (h2 : ¬ g (b * 8 + a) = 10000000) : 0 ≤ g (a * 8 + b) + g (b * 8 + a) := by
  have z := h.2 a b a na nb na
  rw [h.1 a na] at z
  unfold ogM at z
  rw [if_neg h1, if_neg h2] at z
  exact z
theorem og_cyc {g : Int → Int} {a b : Int} (h : Base (og g)) (na : nd a) (nb : nd b) (h1 : ¬ g (a * 8 + b) = 1000000000) (h2 : ¬ g (b * 8 + a) = 1000000000) : 0 ≤ g (a * 8 + b) + g (b * 8 + a) := by
  have z := h.2 a b a na nb na
  rw [h.1 a na] at z
  unfold og at z
  rw [if_neg h1, if_neg h2] at z
  exact z
set_option maxRecDepth 20000 in
theorem op_pace {σ : Sto} (hR : Rel σ) {a b c d : Int} {κ : List AV → Sto → Prop} (hκ : ∀ v τ, Mid C_X9_pace [vR 67, vI a, vI b, vI c, vI d] (σ 102) v τ → κ [vI v] τ) : C_X8_pace [vR 0, vI a, vI b, vI c, vI d] σ κ := by
  obtain ⟨⟨c1, c2, c3, c4, c5, c6, c7, c8, c9, c10, c11, c12, c13, c14, c15, c16⟩, ⟨e1, e2, e3, e4, e5, e6, e7, e8, e9, e10, e11, e12, e13, e14, e15⟩, ⟨g1, g2, g3, g4⟩, ⟨h1, h2, h3, h4, h5, h6⟩, ⟨l1, l2, l3, l4⟩, hImg, ⟨n1, n2, n3, n4⟩⟩ := id hR
  have hI := Rel_cI hR
  have hIm := Rel_mI hR
  have bad : ∀ v, ((¬ ((0 ≤ a ∧ a < σ 1 0) ∧ (0 ≤ b ∧ b < σ 1 0)) ∧ v = -101) ∨ (((0 ≤ a ∧ a < σ 1 0) ∧ (0 ≤ b ∧ b < σ 1 0)) ∧ ¬ ((0 ≤ c ∧ c ≤ 1) ∧ (0 ≤ d ∧ d ≤ 1)) ∧ v = -102) ∨ (((0 ≤ a ∧ a < σ 1 0) ∧ (0 ≤ b ∧ b < σ 1 0)) ∧ ((0 ≤ c ∧ c ≤ 1) ∧ (0 ≤ d ∧ d ≤ 1)) ∧ σ 11 a = σ 11 b ∧ v = -103)) → κ [vI v] σ := by
    intro v hv
    refine hκ _ _ (fun κ' hκ' => ?_)
    have hk : ∀ r, r = v → κ' [vI r] σ := fun r q => q ▸ hκ' σ hR rfl
    simp only [C_X9_pace, sq_iconst, sq_jsr, sq_anewarray, sq_iload, sq_lload, sq_aload, sq_istore, sq_lstore, sq_astore, sq_iinc, sq_getfield, st_put0, st_put1, st_put3, sq_inv, sq_goto, sq_icmp, sq_ifc, sq_tsw, sq_iadd, sq_isub, sq_imul, sq_ineg, sq_idiv, sq_irem, sq_iand, sq_ior, sq_ixor, sq_ishl, sq_ishr, sq_iushr, sq_ladd, sq_lmul, sq_ldiv, sq_lrem, sq_land, sq_lor, sq_lshl, sq_lushr, sq_lcmp, sq_i2l, sq_l2i, sq_i2c, sq_i2b, sq_dupI, sq_dupR, sq_dup2, sq_pop, sq_iaload, sq_baload, sq_aaload, sq_iastore, sq_bastore, sq_alen, sq_ireturn, sq_lreturn, sq_return, wq_c, wq_n, wlq_s, lkp, tbl, dBk, nth, setL, canSet, cmpI, tk, swK, rdF, entL, catS, cat1, arg, rcv, ald, bld, aln, br, Ccopy, Cmax, Cmin, Cabs, List.take, List.drop, List.reverse, List.reverseAux, List.length, List.append, List.nil_append, List.cons_append, true_and, and_true, and_self, forall_const, true_implies, false_implies, not_true_eq_false, not_false_eq_true, Option.map, reduceCtorEq, reduceIte, or_true, true_or, false_or, or_false, false_and, and_false, List.map, List.append_nil, implies_true, yK, Nat.reduceBEq, beq_self_eq_true, Int.zero_ne_one, Nat.reduceDiv, Nat.reduceMod, Nat.reduceAdd, Nat.reduceSub, Nat.reduceMul, Nat.reduceEqDiff, Nat.reduceLeDiff, Int.reduceToNat, Int.reduceNeg, Int.reduceEq, Int.reduceLT, Int.reduceLE, Int.reduceNatCast, Int.reduceNatCast', Int.reduceAdd, Int.reduceSub, Int.reduceMul, eq_self, Prod.mk.injEq, A_X9_pace, V_X9_pace, B_X9_pace, Y_X9_pace, C_X9_isPit, C_X9_isPart, A_X9_isPart, V_X9_isPart, B_X9_isPart, Y_X9_isPart, C_X9_in, C_X9_layKept, C_X9_floats, C_X9_size, C_X9_term, shpT, rfsT, br, m8, e1, e4]
    exact ⟨c1, fun za => ⟨c1, fun zb => ⟨fun zc => ⟨fun zd => ⟨⟨by omega, by omega⟩, ⟨by omega, by omega⟩, fun z => hk _ (by omega), fun z => by exfalso; omega⟩, fun zd => hk _ (by omega)⟩, fun zc => hk _ (by omega)⟩, fun zb => hk _ (by omega)⟩, fun za => hk _ (by omega)⟩
  have key : ((0 ≤ a ∧ a < σ 1 0) ∧ (0 ≤ b ∧ b < σ 1 0)) → ((0 ≤ c ∧ c ≤ 1) ∧ (0 ≤ d ∧ d ≤ 1)) → ¬ σ 11 a = σ 11 b → ∀ (τ : Sto) (v : Int), (∀ p : Nat, p ≠ 48 → p ≠ 49 → p ≠ 65 → τ p = σ p) → (∀ (τ' : Sto) (r : Int), (∀ i j, nd i → nd j → τ' 91 (i * 8 + j) = 10000000 ∨ (-4999999 ≤ τ' 91 (i * 8 + j) ∧ τ' 91 (i * 8 + j) ≤ 4999999)) ∨ r = 0 → LayP (KM τ (ktM τ)) (τ' 91) r → (r = 0 → v = -103) ∧ (¬ r = 0 → (∀ i j, nd i → nd j → (τ' 91 (i * 8 + j) = 10000000 → τ' 91 (j * 8 + i) = 10000000)) ∧ (τ' 91 (a * 8 + b) = 10000000 → v = -103) ∧ (¬ τ' 91 (a * 8 + b) = 10000000 → (-(τ' 91 (b * 8 + a)) ≤ 0 ∧ 0 ≤ τ' 91 (a * 8 + b) → v = -103) ∧ (¬ (-(τ' 91 (b * 8 + a)) ≤ 0 ∧ 0 ≤ τ' 91 (a * 8 + b)) → v = pcS (iabs (σ 11 a - σ 11 b)) (-(τ' 91 (b * 8 + a))) (τ' 91 (a * 8 + b)) c d)))) → κ [vI v] τ := by
    intro qab qcd q0 τ v f1 hv
    obtain ⟨s1, s2, s3⟩ := lo_same f1
    have hT := Rel_e s1 hR
    have na : nd a := ⟨by omega, by omega⟩
    have nb : nd b := ⟨by omega, by omega⟩
    have t67 : τ 67 0 = σ 1 0 := by rw [s1.2.1 0 rfl, e1]
    have t68 : τ 68 = σ 11 := by rw [s1.1 68 rfl, e4]
    refine hκ _ _ (fun κ' hκ' => ?_)
    simp only [C_X9_pace, sq_iconst, sq_jsr, sq_anewarray, sq_iload, sq_lload, sq_aload, sq_istore, sq_lstore, sq_astore, sq_iinc, sq_getfield, st_put0, st_put1, st_put3, sq_inv, sq_goto, sq_icmp, sq_ifc, sq_tsw, sq_iadd, sq_isub, sq_imul, sq_ineg, sq_idiv, sq_irem, sq_iand, sq_ior, sq_ixor, sq_ishl, sq_ishr, sq_iushr, sq_ladd, sq_lmul, sq_ldiv, sq_lrem, sq_land, sq_lor, sq_lshl, sq_lushr, sq_lcmp, sq_i2l, sq_l2i, sq_i2c, sq_i2b, sq_dupI, sq_dupR, sq_dup2, sq_pop, sq_iaload, sq_baload, sq_aaload, sq_iastore, sq_bastore, sq_alen, sq_ireturn, sq_lreturn, sq_return, wq_c, wq_n, wlq_s, lkp, tbl, dBk, nth, setL, canSet, cmpI, tk, swK, rdF, entL, catS, cat1, arg, rcv, ald, bld, aln, br, Ccopy, Cmax, Cmin, Cabs, List.take, List.drop, List.reverse, List.reverseAux, List.length, List.append, List.nil_append, List.cons_append, true_and, and_true, and_self, forall_const, true_implies, false_implies, not_true_eq_false, not_false_eq_true, Option.map, reduceCtorEq, reduceIte, or_true, true_or, false_or, or_false, false_and, and_false, List.map, List.append_nil, implies_true, yK, Nat.reduceBEq, beq_self_eq_true, Int.zero_ne_one, Nat.reduceDiv, Nat.reduceMod, Nat.reduceAdd, Nat.reduceSub, Nat.reduceMul, Nat.reduceEqDiff, Nat.reduceLeDiff, Int.reduceToNat, Int.reduceNeg, Int.reduceEq, Int.reduceLT, Int.reduceLE, Int.reduceNatCast, Int.reduceNatCast', Int.reduceAdd, Int.reduceSub, Int.reduceMul, eq_self, Prod.mk.injEq, A_X9_pace, V_X9_pace, B_X9_pace, Y_X9_pace, C_X9_isPit, C_X9_isPart, A_X9_isPart, V_X9_isPart, B_X9_isPart, Y_X9_isPart, C_X9_in, C_X9_layKept, C_X9_floats, C_X9_size, C_X9_term, shpT, rfsT, br, m8, t67, t68]
    refine ⟨c1, fun _ => ⟨c1, fun _ => ⟨fun _ => ⟨fun _ => ⟨⟨by omega, by omega⟩, ⟨by omega, by omega⟩, fun z => absurd z q0, fun _ => ⟨Rel_mI hT, fun r τ' g1 g2 => ?_⟩⟩, fun z => absurd qcd.2 z⟩, fun z => absurd qcd.1 z⟩, fun z => absurd qab.2 z⟩, fun z => absurd qab.1 z⟩
    obtain ⟨t1, t2⟩ := sm91 g1
    have hk : ∀ x, x = v → κ' [vI x] τ' := fun x q => q ▸ hκ' τ' (Rel_e t1 hT) (by rw [t2, s3])
    have hin : (∀ i j, nd i → nd j → τ' 91 (i * 8 + j) = 10000000 ∨ (-4999999 ≤ τ' 91 (i * 8 + j) ∧ τ' 91 (i * 8 + j) ≤ 4999999)) ∨ r = 0 := by
      rcases g2.1 with ⟨-, -, z⟩ | ⟨z, -⟩
      · exact Or.inl z
      · exact Or.inr z
    have w := hv τ' r hin g2
    rw [g1 68 (by decide), t68]
    refine ⟨fun z => hk _ (w.1 z).symm, fun z => ?_⟩
    have b1 := hin.resolve_right z a b na nb
    have b2 := hin.resolve_right z b a nb na
    have w2 := w.2 z
    have sy := w2.1 b a nb na
    have m1 := c5 a qab.1.1 (by omega)
    have m2 := c5 b qab.2.1 (by omega)
    have w3 := w2.2.1
    have w4 := w2.2.2
    clear hv w w2 hκ
    unfold nd at na nb
    refine ⟨⟨na, nb⟩, fun y => hk _ (w3 y).symm, fun y => ?_⟩
    have y2 : ¬ τ' 91 (b * 8 + a) = 10000000 := fun q => y (sy q)
    have w5 := w4 y
    have cyc : 0 ≤ τ' 91 (a * 8 + b) + τ' 91 (b * 8 + a) := by
      rcases g2.1 with ⟨-, z', -⟩ | ⟨z', -⟩
      · exact ogM_cyc z'.1 na nb y y2
      · exact absurd z' z
    clear w4 w3 sy
    generalize τ' 91 (a * 8 + b) = Y at *
    generalize τ' 91 (b * 8 + a) = X at *
    have ix : (0 ≤ -X ∧ iabs (-X) = -X) ∨ (-X < 0 ∧ iabs (-X) = X) := by unfold iabs; split <;> omega
    have iy : (0 ≤ Y ∧ iabs Y = Y) ∨ (Y < 0 ∧ iabs Y = -Y) := by unfold iabs; split <;> omega
    have iw : 0 ≤ iabs (σ 11 a - σ 11 b) := by unfold iabs; split <;> omega
    unfold pcS at w5
    generalize iabs (-X) = U at *
    generalize iabs Y = V at *
    generalize iabs (σ 11 a - σ 11 b) = W at *
    obtain ⟨u1, u2⟩ := w5
    have v1 : (-X ≤ 0 ∧ 0 ≤ Y) → κ' [vI (-103)] τ' := fun q => hk _ (u1 q).symm
    have v2 : ¬ (-X ≤ 0 ∧ 0 ≤ Y) → ∀ q, (c = 0 ∧ (q = U ∧ V ≤ U ∨ q = V ∧ U ≤ V) ∨ ¬ c = 0 ∧ (q = U ∧ U ≤ V ∨ q = V ∧ V ≤ U)) → κ' [vI (ltS W q d)] τ' := fun q0 q q1 => hk _ (by
      rw [u2 q0]
      congr 1
      clear u1 u2 v1
      split <;> omega)
    clear u1 u2 hk
    unfold i32
    clear hκ' g1 g2 t1 t2 hin s1 s2 s3 hT f1 bad hR hI hIm
    refine ⟨(by omega), (by omega), (by omega), (by omega), (by omega), (by omega), (by omega), fun q1 => ⟨(by omega), (by omega), fun q2 => ⟨(by omega), (by omega), (by omega), (by omega), (by omega), (by omega), (by omega), (by omega), (by omega), fun q3 => ⟨(by omega), v2 (by omega) _ (by omega)⟩, fun q3 => ⟨(by omega), v2 (by omega) _ (by omega)⟩⟩, fun q2 => ⟨(by omega), (by omega), (by omega), (by omega), (by omega), (by omega), (by omega), (by omega), (by omega), fun q3 => ⟨(by omega), v2 (by omega) _ (by omega)⟩, fun q3 => ⟨(by omega), v2 (by omega) _ (by omega)⟩⟩⟩, fun q1 => ⟨fun q4 => ⟨(by omega), (by omega), fun q2 => ⟨(by omega), (by omega), (by omega), (by omega), (by omega), (by omega), (by omega), (by omega), (by omega), fun q3 => ⟨(by omega), v2 (by omega) _ (by omega)⟩, fun q3 => ⟨(by omega), v2 (by omega) _ (by omega)⟩⟩, fun q2 => ⟨(by omega), (by omega), (by omega), (by omega), (by omega), (by omega), (by omega), (by omega), (by omega), fun q3 => ⟨(by omega), v2 (by omega) _ (by omega)⟩, fun q3 => ⟨(by omega), v2 (by omega) _ (by omega)⟩⟩⟩, fun q4 => v1 (by omega)⟩⟩
  have kt : ((0 ≤ a ∧ a < σ 1 0) ∧ (0 ≤ b ∧ b < σ 1 0)) → ((0 ≤ c ∧ c ≤ 1) ∧ (0 ≤ d ∧ d ≤ 1)) → ¬ σ 11 a = σ 11 b → ∀ (τ : Sto), (∀ p : Nat, p ≠ 48 → p ≠ 49 → p ≠ 65 → τ p = σ p) → NetK (KC σ) (τ 48) → ∀ v : Int, (τ 48 (a * 8 + b) = 1000000000 → v = -103) → (¬ τ 48 (a * 8 + b) = 1000000000 → (-(τ 48 (b * 8 + a)) ≤ 0 ∧ 0 ≤ τ 48 (a * 8 + b) → v = -103) ∧ (¬ (-(τ 48 (b * 8 + a)) ≤ 0 ∧ 0 ≤ τ 48 (a * 8 + b)) → v = pcS (iabs (σ 11 a - σ 11 b)) (-(τ 48 (b * 8 + a))) (τ 48 (a * 8 + b)) c d)) → κ [vI v] τ := by
    intro qab qcd q0 τ f1 f2 v v1 v2
    have na : nd a := ⟨by omega, by omega⟩
    have nb : nd b := ⟨by omega, by omega⟩
    refine key qab qcd q0 τ v f1 (fun τ' r hin g2 => ?_)
    obtain ⟨y1, y2, y3, y4⟩ := lay_y (Rel_e (lo_same f1).1 hR) (lo_same f1).2.1 f2 g2
    have o1 := og_eq (y3 a b na nb)
    have o2 := og_eq (y3 b a nb na)
    have sy := CloK_sym (KC_nd hI) (NetK_Clo f2)
    refine ⟨fun z => by omega, fun z => ⟨fun i j hi hj q => ?_, fun q => v1 (o1.1.mpr q), fun q => ?_⟩⟩
    · exact (og_eq (y3 j i hj hi)).1.mp (og_z.mp (sy i j hi hj (og_z.mpr ((og_eq (y3 i j hi hj)).1.mpr q))))
    · have n1 : ¬ τ 48 (a * 8 + b) = 1000000000 := fun y => q (o1.1.mp y)
      have n2 : ¬ τ 48 (b * 8 + a) = 1000000000 := fun y => n1 (og_z.mp (sy b a nb na (og_z.mpr y)))
      rw [← o1.2 n1, ← o2.2 n2]
      exact v2 n1
  simp only [C_X8_pace, sq_iconst, sq_jsr, sq_anewarray, sq_iload, sq_lload, sq_aload, sq_istore, sq_lstore, sq_astore, sq_iinc, sq_getfield, st_put0, st_put1, st_put3, sq_inv, sq_goto, sq_icmp, sq_ifc, sq_tsw, sq_iadd, sq_isub, sq_imul, sq_ineg, sq_idiv, sq_irem, sq_iand, sq_ior, sq_ixor, sq_ishl, sq_ishr, sq_iushr, sq_ladd, sq_lmul, sq_ldiv, sq_lrem, sq_land, sq_lor, sq_lshl, sq_lushr, sq_lcmp, sq_i2l, sq_l2i, sq_i2c, sq_i2b, sq_dupI, sq_dupR, sq_dup2, sq_pop, sq_iaload, sq_baload, sq_aaload, sq_iastore, sq_bastore, sq_alen, sq_ireturn, sq_lreturn, sq_return, wq_c, wq_n, wlq_s, lkp, tbl, dBk, nth, setL, canSet, cmpI, tk, swK, rdF, entL, catS, cat1, arg, rcv, ald, bld, aln, br, Ccopy, Cmax, Cmin, Cabs, List.take, List.drop, List.reverse, List.reverseAux, List.length, List.append, List.nil_append, List.cons_append, true_and, and_true, and_self, forall_const, true_implies, false_implies, not_true_eq_false, not_false_eq_true, Option.map, reduceCtorEq, reduceIte, or_true, true_or, false_or, or_false, false_and, and_false, List.map, List.append_nil, implies_true, yK, Nat.reduceBEq, beq_self_eq_true, Int.zero_ne_one, Nat.reduceDiv, Nat.reduceMod, Nat.reduceAdd, Nat.reduceSub, Nat.reduceMul, Nat.reduceEqDiff, Nat.reduceLeDiff, Int.reduceToNat, Int.reduceNeg, Int.reduceEq, Int.reduceLT, Int.reduceLE, Int.reduceNatCast, Int.reduceNatCast', Int.reduceAdd, Int.reduceSub, Int.reduceMul, eq_self, Prod.mk.injEq, A_X8_pace, V_X8_pace, B_X8_pace, Y_X8_pace, C_X6_has, C_X8_isWithin, C_X3_weaveWhole, C_X3_isFloating, C_X3_endOfSpan, C_X8_partInLowestTerms, shpT, rfsT, br]
  refine ⟨fun za => ⟨fun zb => ⟨fun zc => ⟨fun zd => ⟨⟨by omega, by omega⟩, ⟨by omega, by omega⟩, ?_, ?_, fun z => bad _ (Or.inr (Or.inr ⟨⟨za, zb⟩, ⟨zc, zd⟩, iabs_z.mp z, rfl⟩)), fun z => ⟨hI, fun τ f1 f2 f3 => ?_, fun τ f1 f2 => key ⟨za, zb⟩ ⟨zc, zd⟩ (fun y => z (iabs_z.mpr y)) τ _ f1 (fun τ' r hin g2 => ?_)⟩⟩, fun zd => bad _ (Or.inr (Or.inl ⟨⟨za, zb⟩, fun y => zd y.2, rfl⟩))⟩, fun zc => bad _ (Or.inr (Or.inl ⟨⟨za, zb⟩, fun y => zc y.1, rfl⟩))⟩, fun zb => bad _ (Or.inl ⟨fun y => zb y.2, rfl⟩)⟩, fun za => bad _ (Or.inl ⟨fun y => za y.1, rfl⟩)⟩
  · have m1 := c5 a za.1 (by omega)
    have m2 := c5 b zb.1 (by omega)
    unfold i32; omega
  · have m1 := c5 a za.1 (by omega)
    have m2 := c5 b zb.1 (by omega)
    unfold i32; omega
  · have na : nd a := ⟨by omega, by omega⟩
    have nb : nd b := ⟨by omega, by omega⟩
    have k := kt ⟨za, zb⟩ ⟨zc, zd⟩ (fun y => z (iabs_z.mpr y)) τ f1 f2
    clear kt key bad
    have b1 := NetK_in2 f2 a b na nb
    have b2 := NetK_in2 f2 b a nb na
    refine ⟨⟨na, nb⟩, fun y => k _ (fun _ => rfl) (fun q => absurd y q), fun y => ⟨⟨na, nb, NetK_in f2⟩, ⟨na, nb, NetK_in f2⟩, ?_⟩⟩
    have n2 : ¬ τ 48 (b * 8 + a) = 1000000000 := fun q => y (og_z.mp (CloK_sym (KC_nd hI) (NetK_Clo f2) b a nb na (og_z.mpr q)))
    have cyc := og_cyc (NetK_Clo f2).1 na nb y n2
    generalize τ 48 (a * 8 + b) = Y at *
    generalize τ 48 (b * 8 + a) = X at *
    have ix : (0 ≤ -X ∧ iabs (-X) = -X) ∨ (-X < 0 ∧ iabs (-X) = X) := by unfold iabs; split <;> omega
    have iy : (0 ≤ Y ∧ iabs Y = Y) ∨ (Y < 0 ∧ iabs Y = -Y) := by unfold iabs; split <;> omega
    have m1 := c5 a za.1 (by omega)
    have m2 := c5 b zb.1 (by omega)
    have iw : 0 ≤ iabs (σ 11 a - σ 11 b) ∧ iabs (σ 11 a - σ 11 b) < 1000000 := by unfold iabs; split <;> omega
    unfold pcS at k
    generalize iabs (-X) = U at *
    generalize iabs Y = V at *
    generalize iabs (σ 11 a - σ 11 b) = W at *
    have k1 : (-X ≤ 0 ∧ 0 ≤ Y) → κ [vI (-103)] τ := fun q => k _ (fun _ => rfl) (fun _ => ⟨fun _ => rfl, fun z => absurd q z⟩)
    have k2 : ¬ (-X ≤ 0 ∧ 0 ≤ Y) → (¬ c = 0 → κ [vI (ltS W (min U V) d)] τ) ∧ (¬¬ c = 0 → κ [vI (ltS W (max U V) d)] τ) := fun q => ⟨fun w => k _ (fun z => absurd z y) (fun _ => ⟨fun z => absurd z q, fun _ => by rw [if_neg w]⟩), fun w => k _ (fun z => absurd z y) (fun _ => ⟨fun z => absurd z q, fun _ => by rw [if_pos (Classical.not_not.mp w)]⟩)⟩
    clear k hR hI hIm hκ f1 f2 f3 hImg
    unfold i32
    exact ⟨fun q1 => ⟨(by omega), (by omega), (by omega), (by omega), fun q3 => ⟨⟨(by omega), ⟨by omega, by omega⟩⟩, (k2 (by omega)).1 q3⟩, fun q3 => ⟨⟨(by omega), ⟨by omega, by omega⟩⟩, (k2 (by omega)).2 q3⟩⟩, fun q1 => ⟨fun q2 => ⟨(by omega), (by omega), (by omega), (by omega), fun q3 => ⟨⟨(by omega), ⟨by omega, by omega⟩⟩, (k2 (by omega)).1 q3⟩, fun q3 => ⟨⟨(by omega), ⟨by omega, by omega⟩⟩, (k2 (by omega)).2 q3⟩⟩, fun q2 => k1 (by omega)⟩⟩
  · have := lay_n (Rel_e (lo_same f1).1 hR) (lo_same f1).2.1 f2 g2
    exact ⟨fun _ => rfl, fun y => absurd this y⟩
def yrs (r kd nm sz : Int → Int) (p : Int) : Int := (hsum r kd nm p (sz p) + 1).tdiv 2
theorem yrs_in {r kd nm sz : Int → Int} {p : Int} (h1 : PI kd nm) (h2 : TI r 7) (hp : 0 ≤ p ∧ p < 7) (hs : 0 ≤ sz p ∧ sz p ≤ 16) : 0 ≤ yrs r kd nm sz p ∧ yrs r kd nm sz p ≤ 200 := by
  have := hsum_le h1 h2 hp hs
  unfold yrs
  rw [tdiv2 (by omega)]
  omega
def A_X8_lean : List (Nat × Ctr) := [(2, rcv 1 2 C_X1_has), (3, rcv 1 3 C_X1_yearsOfAll)]
theorem e_X8_lean (o : OM) : Ev o Y_X8_lean 3 T_X8_lean A_X8_lean := ⟨rfl, List.forall_mem_cons.mpr ⟨Or.inl f_X8_45, List.forall_mem_cons.mpr ⟨Or.inl f_X8_10, List.forall_mem_cons.mpr ⟨Or.inl f_X8_92, fun _ h => absurd h List.not_mem_nil⟩⟩⟩, List.forall_mem_cons.mpr ⟨⟨w_621, by decide, by decide⟩, fun _ h => absurd h List.not_mem_nil⟩, fun _ h => absurd h List.not_mem_nil, fun _ h => absurd h List.not_mem_nil, List.forall_mem_cons.mpr ⟨cl_X1_has (s_X1_has o) (by decide) (Or.inr ⟨_, wn_58⟩), List.forall_mem_cons.mpr ⟨cl_X1_yearsOfAll (s_X1_yearsOfAll o) (by decide) (Or.inr ⟨_, wn_46⟩), fun _ h => absurd h List.not_mem_nil⟩⟩, fun _ h => absurd h List.not_mem_nil⟩
def C_X8_lean : Ctr := fun A σ κ => match A with
  | [.inr (.inr (.inl 0)), .inl a, .inl b] => (NIc σ ∧ (0 ≤ σ 6 1 ∧ σ 6 1 ≤ 4)) ∧ κ [vI (if ¬ ((-1 ≤ a ∧ a < σ 6 1) ∧ (-1 ≤ b ∧ b < σ 6 1)) then -100001 else sumI (fun p => yrs (fun c => σ 37 ((a + 1) * 7 + c)) (σ 13) (σ 15) (σ 12) p - yrs (fun c => σ 37 ((b + 1) * 7 + c)) (σ 13) (σ 15) (σ 12) p) (σ 1 0))] σ
  | _ => False
set_option maxRecDepth 20000 in
theorem s_X8_lean (o : OM) : Sound o Y_X8_lean 3 C_X8_lean := by
  intro Q A σ hA hC
  match A, hA, hC with
  | [.inr (.inr (.inl 0)), .inl a, .inl b], hA, hC =>
    obtain ⟨h0, hq⟩ : (NIc σ ∧ (0 ≤ σ 6 1 ∧ σ 6 1 ≤ 4)) ∧ Q [vI (if ¬ ((-1 ≤ a ∧ a < σ 6 1) ∧ (-1 ≤ b ∧ b < σ 6 1)) then -100001 else sumI (fun p => yrs (fun c => σ 37 ((a + 1) * 7 + c)) (σ 13) (σ 15) (σ 12) p - yrs (fun c => σ 37 ((b + 1) * 7 + c)) (σ 13) (σ 15) (σ 12) p) (σ 1 0))] σ := hC
    have hQ : ∀ r_ τ, r_ = (if ¬ ((-1 ≤ a ∧ a < σ 6 1) ∧ (-1 ≤ b ∧ b < σ 6 1)) then -100001 else sumI (fun p => yrs (fun c => σ 37 ((a + 1) * 7 + c)) (σ 13) (σ 15) (σ 12) p - yrs (fun c => σ 37 ((b + 1) * 7 + c)) (σ 13) (σ 15) (σ 12) p) (σ 1 0)) → τ = (σ) → Q [vI r_] τ := fun r_ τ e e2 => e ▸ e2 ▸ hq
    obtain ⟨⟨hn, hJ, hs, hPI, hTI, hpl, hji, hti⟩, hh⟩ := h0
    obtain ⟨f, hf⟩ : ∃ f, f = fun p => yrs (fun c => σ 37 ((a + 1) * 7 + c)) (σ 13) (σ 15) (σ 12) p - yrs (fun c => σ 37 ((b + 1) * 7 + c)) (σ 13) (σ 15) (σ 12) p := ⟨_, rfl⟩
    rw [← hf] at hQ hq
    obtain ⟨P30, hP30⟩ : ∃ P : Nat → List AV → List AV → Sto → Prop, P = fun mm S L τ => ∃ p : Int, S = [] ∧ L = [vR 0, vI a, vI b, vI (sumI f p), vI p] ∧ τ = σ ∧ ((-1 ≤ a ∧ a < σ 6 1) ∧ (-1 ≤ b ∧ b < σ 6 1)) ∧ 0 ≤ p ∧ p ≤ σ 1 0 ∧ mm = (7 - p).toNat := ⟨_, rfl⟩
    refine at_meth (lv := V_X8_lean) (B := B_X8_lean) (e_X8_lean o) k_X8_lean 4 [(30, P30)] (List.forall_mem_cons.mpr ⟨?_, fun _ h => absurd h List.not_mem_nil⟩) 0 [] _ σ ?_
    · intro mm S L τ hI
      rw [hP30] at hI
      obtain ⟨p, rfl, rfl, rfl, hab, p0, p1, hm⟩ := hI
      simp only [sq_iconst, sq_jsr, sq_anewarray, sq_iload, sq_lload, sq_aload, sq_istore, sq_lstore, sq_astore, sq_iinc, sq_getfield, st_put0, st_put1, st_put3, sq_inv, sq_goto, sq_icmp, sq_ifc, sq_tsw, sq_iadd, sq_isub, sq_imul, sq_ineg, sq_idiv, sq_irem, sq_iand, sq_ior, sq_ixor, sq_ishl, sq_ishr, sq_iushr, sq_ladd, sq_lmul, sq_ldiv, sq_lrem, sq_land, sq_lor, sq_lshl, sq_lushr, sq_lcmp, sq_i2l, sq_l2i, sq_i2c, sq_i2b, sq_dupI, sq_dupR, sq_dup2, sq_pop, sq_iaload, sq_baload, sq_aaload, sq_iastore, sq_bastore, sq_alen, sq_ireturn, sq_lreturn, sq_return, wq_c, wq_n, wlq_s, lkp, tbl, dBk, nth, setL, canSet, cmpI, tk, swK, rdF, entL, catS, cat1, arg, rcv, ald, bld, aln, br, Ccopy, Cmax, Cmin, Cabs, List.take, List.drop, List.reverse, List.reverseAux, List.length, List.append, List.nil_append, List.cons_append, true_and, and_true, and_self, forall_const, true_implies, false_implies, not_true_eq_false, not_false_eq_true, Option.map, reduceCtorEq, reduceIte, or_true, true_or, false_or, or_false, false_and, and_false, List.map, List.append_nil, implies_true, yK, Nat.reduceBEq, beq_self_eq_true, Int.zero_ne_one, Nat.reduceDiv, Nat.reduceMod, Nat.reduceAdd, Nat.reduceSub, Nat.reduceMul, Nat.reduceEqDiff, Nat.reduceLeDiff, Int.reduceToNat, Int.reduceNeg, Int.reduceEq, Int.reduceLT, Int.reduceLE, Int.reduceNatCast, Int.reduceNatCast', Int.reduceAdd, Int.reduceSub, Int.reduceMul, eq_self, Prod.mk.injEq, A_X8_lean, V_X8_lean, B_X8_lean, Y_X8_lean, C_X1_has, C_X1_yearsOfAll, shpT, rfsT, wjq_s, look]
      have bn : ∀ q, 0 ≤ q → q < τ 1 0 → -200 ≤ f q ∧ f q ≤ 200 := fun q q0 q1 => by
        have y1 := yrs_in (r := fun c => τ 37 ((a + 1) * 7 + c)) hPI (TI_row hTI ⟨hab.1.1, by omega⟩) ⟨q0, by omega⟩ (hs q q0 (by omega))
        have y2 := yrs_in (r := fun c => τ 37 ((b + 1) * 7 + c)) hPI (TI_row hTI ⟨hab.2.1, by omega⟩) ⟨q0, by omega⟩ (hs q q0 (by omega))
        rw [hf]
        show -200 ≤ yrs _ _ _ _ q - yrs _ _ _ _ q ∧ yrs _ _ _ _ q - yrs _ _ _ _ q ≤ 200
        omega
      have hle := sumI_le (f := f) (lo := -200) (hi := 200) p0 (fun q q0 q1 => bn q q0 (by omega))
      refine ⟨fun h => ?_, fun h => ?_⟩
      · have e : p = τ 1 0 := by omega
        exact hQ _ _ (by rw [if_neg (fun z => z hab), e]) rfl
      · have sp := hs p p0 (by omega)
        have b1 := bn p p0 (by omega)
        have e : (hsum (fun c => τ 37 ((a + 1) * 7 + c)) (τ 13) (τ 15) p (τ 12 p) + 1).tdiv 2 - (hsum (fun c => τ 37 ((b + 1) * 7 + c)) (τ 13) (τ 15) p (τ 12 p) + 1).tdiv 2 = f p := by rw [hf]; rfl
        rw [e, hP30]
        refine ⟨⟨⟨by omega, by omega⟩, ⟨by omega, by omega⟩, sp, hPI, hTI⟩, ⟨⟨by omega, by omega⟩, ⟨by omega, by omega⟩, sp, hPI, hTI⟩, ⟨by omega, by omega⟩, ⟨by omega, by omega⟩, ⟨by omega, by omega⟩, _, ?_, p + 1, rfl, by rw [sumI_s _ p0], rfl, hab, (by omega), (by omega), rfl⟩
        omega
    · simp only [sq_iconst, sq_jsr, sq_anewarray, sq_iload, sq_lload, sq_aload, sq_istore, sq_lstore, sq_astore, sq_iinc, sq_getfield, st_put0, st_put1, st_put3, sq_inv, sq_goto, sq_icmp, sq_ifc, sq_tsw, sq_iadd, sq_isub, sq_imul, sq_ineg, sq_idiv, sq_irem, sq_iand, sq_ior, sq_ixor, sq_ishl, sq_ishr, sq_iushr, sq_ladd, sq_lmul, sq_ldiv, sq_lrem, sq_land, sq_lor, sq_lshl, sq_lushr, sq_lcmp, sq_i2l, sq_l2i, sq_i2c, sq_i2b, sq_dupI, sq_dupR, sq_dup2, sq_pop, sq_iaload, sq_baload, sq_aaload, sq_iastore, sq_bastore, sq_alen, sq_ireturn, sq_lreturn, sq_return, wq_c, wq_n, wlq_s, lkp, tbl, dBk, nth, setL, canSet, cmpI, tk, swK, rdF, entL, catS, cat1, arg, rcv, ald, bld, aln, br, Ccopy, Cmax, Cmin, Cabs, List.take, List.drop, List.reverse, List.reverseAux, List.length, List.append, List.nil_append, List.cons_append, true_and, and_true, and_self, forall_const, true_implies, false_implies, not_true_eq_false, not_false_eq_true, Option.map, reduceCtorEq, reduceIte, or_true, true_or, false_or, or_false, false_and, and_false, List.map, List.append_nil, implies_true, yK, Nat.reduceBEq, beq_self_eq_true, Int.zero_ne_one, Nat.reduceDiv, Nat.reduceMod, Nat.reduceAdd, Nat.reduceSub, Nat.reduceMul, Nat.reduceEqDiff, Nat.reduceLeDiff, Int.reduceToNat, Int.reduceNeg, Int.reduceEq, Int.reduceLT, Int.reduceLE, Int.reduceNatCast, Int.reduceNatCast', Int.reduceAdd, Int.reduceSub, Int.reduceMul, eq_self, Prod.mk.injEq, A_X8_lean, V_X8_lean, B_X8_lean, Y_X8_lean, C_X1_has, C_X1_yearsOfAll, shpT, rfsT, wjq_s, look]
      rw [hP30]
      exact ⟨fun h => ⟨fun h1 => ⟨_, 0, rfl, rfl, rfl, ⟨h, h1⟩, (by omega), hn.1, rfl⟩, fun h1 => hQ _ _ (by rw [if_pos (fun z => h1 z.2)]) rfl⟩, fun h => hQ _ _ (by rw [if_pos (fun z => h z.1)]) rfl⟩
def A_X9_lean : List (Nat × Ctr) := [(2, rcv 9 2 C_X9_isHand), (3, rcv 9 3 C_X9_yearsOf)]
theorem e_X9_lean (o : OM) : Ev o Y_X9_lean 3 T_X9_lean A_X9_lean := ⟨rfl, List.forall_mem_cons.mpr ⟨Or.inl f_X9_109, fun _ h => absurd h List.not_mem_nil⟩, List.forall_mem_cons.mpr ⟨⟨w_1393, by decide, by decide⟩, fun _ h => absurd h List.not_mem_nil⟩, fun _ h => absurd h List.not_mem_nil, fun _ h => absurd h List.not_mem_nil, List.forall_mem_cons.mpr ⟨cl_X9_isHand (s_X9_isHand o) (by decide) (Or.inl w_1376), List.forall_mem_cons.mpr ⟨cl_X9_yearsOf (s_X9_yearsOf o) (by decide) (Or.inl w_1295), fun _ h => absurd h List.not_mem_nil⟩⟩, fun _ h => absurd h List.not_mem_nil⟩
def C_X9_lean : Ctr := fun A σ κ => match A with
  | [.inr (.inr (.inl 67)), .inl a, .inl b] => (NIm σ ∧ (0 ≤ σ 67 9 ∧ σ 67 9 ≤ 4)) ∧ κ [vI (if ¬ ((-1 ≤ a ∧ a < σ 67 9) ∧ (-1 ≤ b ∧ b < σ 67 9)) then -100001 else sumI (fun p => yrs (rowS (σ 74) a) (σ 70) (σ 72) (σ 69) p - yrs (rowS (σ 74) b) (σ 70) (σ 72) (σ 69) p) (σ 67 0))] σ
  | _ => False
set_option maxRecDepth 20000 in
theorem s_X9_lean (o : OM) : Sound o Y_X9_lean 3 C_X9_lean := by
  intro Q A σ hA hC
  match A, hA, hC with
  | [.inr (.inr (.inl 67)), .inl a, .inl b], hA, hC =>
    obtain ⟨h0, hq⟩ : (NIm σ ∧ (0 ≤ σ 67 9 ∧ σ 67 9 ≤ 4)) ∧ Q [vI (if ¬ ((-1 ≤ a ∧ a < σ 67 9) ∧ (-1 ≤ b ∧ b < σ 67 9)) then -100001 else sumI (fun p => yrs (rowS (σ 74) a) (σ 70) (σ 72) (σ 69) p - yrs (rowS (σ 74) b) (σ 70) (σ 72) (σ 69) p) (σ 67 0))] σ := hC
    have hQ : ∀ r_ τ, r_ = (if ¬ ((-1 ≤ a ∧ a < σ 67 9) ∧ (-1 ≤ b ∧ b < σ 67 9)) then -100001 else sumI (fun p => yrs (rowS (σ 74) a) (σ 70) (σ 72) (σ 69) p - yrs (rowS (σ 74) b) (σ 70) (σ 72) (σ 69) p) (σ 67 0)) → τ = (σ) → Q [vI r_] τ := fun r_ τ e e2 => e ▸ e2 ▸ hq
    obtain ⟨⟨hn, hJ, hs, hPI, hTI, hji, hti⟩, hh⟩ := h0
    obtain ⟨f, hf⟩ : ∃ f, f = fun p => yrs (rowS (σ 74) a) (σ 70) (σ 72) (σ 69) p - yrs (rowS (σ 74) b) (σ 70) (σ 72) (σ 69) p := ⟨_, rfl⟩
    rw [← hf] at hQ hq
    obtain ⟨P30, hP30⟩ : ∃ P : Nat → List AV → List AV → Sto → Prop, P = fun mm S L τ => ∃ p : Int, S = [] ∧ L = [vR 67, vI a, vI b, vI (sumI f p), vI p] ∧ τ = σ ∧ ((-1 ≤ a ∧ a < σ 67 9) ∧ (-1 ≤ b ∧ b < σ 67 9)) ∧ 0 ≤ p ∧ p ≤ σ 67 0 ∧ mm = (7 - p).toNat := ⟨_, rfl⟩
    refine at_meth (lv := V_X9_lean) (B := B_X9_lean) (e_X9_lean o) k_X9_lean 4 [(24, P30)] (List.forall_mem_cons.mpr ⟨?_, fun _ h => absurd h List.not_mem_nil⟩) 0 [] _ σ ?_
    · intro mm S L τ hI
      rw [hP30] at hI
      obtain ⟨p, rfl, rfl, rfl, hab, p0, p1, hm⟩ := hI
      simp only [sq_iconst, sq_jsr, sq_anewarray, sq_iload, sq_lload, sq_aload, sq_istore, sq_lstore, sq_astore, sq_iinc, sq_getfield, st_put0, st_put1, st_put3, sq_inv, sq_goto, sq_icmp, sq_ifc, sq_tsw, sq_iadd, sq_isub, sq_imul, sq_ineg, sq_idiv, sq_irem, sq_iand, sq_ior, sq_ixor, sq_ishl, sq_ishr, sq_iushr, sq_ladd, sq_lmul, sq_ldiv, sq_lrem, sq_land, sq_lor, sq_lshl, sq_lushr, sq_lcmp, sq_i2l, sq_l2i, sq_i2c, sq_i2b, sq_dupI, sq_dupR, sq_dup2, sq_pop, sq_iaload, sq_baload, sq_aaload, sq_iastore, sq_bastore, sq_alen, sq_ireturn, sq_lreturn, sq_return, wq_c, wq_n, wlq_s, lkp, tbl, dBk, nth, setL, canSet, cmpI, tk, swK, rdF, entL, catS, cat1, arg, rcv, ald, bld, aln, br, Ccopy, Cmax, Cmin, Cabs, List.take, List.drop, List.reverse, List.reverseAux, List.length, List.append, List.nil_append, List.cons_append, true_and, and_true, and_self, forall_const, true_implies, false_implies, not_true_eq_false, not_false_eq_true, Option.map, reduceCtorEq, reduceIte, or_true, true_or, false_or, or_false, false_and, and_false, List.map, List.append_nil, implies_true, yK, Nat.reduceBEq, beq_self_eq_true, Int.zero_ne_one, Nat.reduceDiv, Nat.reduceMod, Nat.reduceAdd, Nat.reduceSub, Nat.reduceMul, Nat.reduceEqDiff, Nat.reduceLeDiff, Int.reduceToNat, Int.reduceNeg, Int.reduceEq, Int.reduceLT, Int.reduceLE, Int.reduceNatCast, Int.reduceNatCast', Int.reduceAdd, Int.reduceSub, Int.reduceMul, eq_self, Prod.mk.injEq, A_X9_lean, V_X9_lean, B_X9_lean, Y_X9_lean, C_X9_isHand, C_X9_yearsOf, shpT, rfsT, wjq_s, look]
      have bn : ∀ q, 0 ≤ q → q < τ 67 0 → -200 ≤ f q ∧ f q ≤ 200 := fun q q0 q1 => by
        have y1 := yrs_in (r := rowS (τ 74) a) hPI (TI_rowS hTI ⟨hab.1.1, by omega⟩) ⟨q0, by omega⟩ (hs q q0 (by omega))
        have y2 := yrs_in (r := rowS (τ 74) b) hPI (TI_rowS hTI ⟨hab.2.1, by omega⟩) ⟨q0, by omega⟩ (hs q q0 (by omega))
        rw [hf]
        show -200 ≤ yrs _ _ _ _ q - yrs _ _ _ _ q ∧ yrs _ _ _ _ q - yrs _ _ _ _ q ≤ 200
        omega
      have hle := sumI_le (f := f) (lo := -200) (hi := 200) p0 (fun q q0 q1 => bn q q0 (by omega))
      refine ⟨fun h => ?_, fun h => ?_⟩
      · have e : p = τ 67 0 := by omega
        exact hQ _ _ (by rw [if_neg (fun z => z hab), e]) rfl
      · have sp := hs p p0 (by omega)
        have b1 := bn p p0 (by omega)
        have e : (hsum (rowS (τ 74) a) (τ 70) (τ 72) p (τ 69 p) + 1).tdiv 2 - (hsum (rowS (τ 74) b) (τ 70) (τ 72) p (τ 69 p) + 1).tdiv 2 = f p := by rw [hf]; rfl
        rw [e, hP30]
        refine ⟨⟨⟨by omega, by omega⟩, ⟨by omega, by omega⟩, sp, hPI, hTI⟩, ⟨⟨by omega, by omega⟩, ⟨by omega, by omega⟩, sp, hPI, hTI⟩, ⟨by omega, by omega⟩, ⟨by omega, by omega⟩, ⟨by omega, by omega⟩, _, ?_, p + 1, rfl, by rw [sumI_s _ p0], rfl, hab, (by omega), (by omega), rfl⟩
        omega
    · simp only [sq_iconst, sq_jsr, sq_anewarray, sq_iload, sq_lload, sq_aload, sq_istore, sq_lstore, sq_astore, sq_iinc, sq_getfield, st_put0, st_put1, st_put3, sq_inv, sq_goto, sq_icmp, sq_ifc, sq_tsw, sq_iadd, sq_isub, sq_imul, sq_ineg, sq_idiv, sq_irem, sq_iand, sq_ior, sq_ixor, sq_ishl, sq_ishr, sq_iushr, sq_ladd, sq_lmul, sq_ldiv, sq_lrem, sq_land, sq_lor, sq_lshl, sq_lushr, sq_lcmp, sq_i2l, sq_l2i, sq_i2c, sq_i2b, sq_dupI, sq_dupR, sq_dup2, sq_pop, sq_iaload, sq_baload, sq_aaload, sq_iastore, sq_bastore, sq_alen, sq_ireturn, sq_lreturn, sq_return, wq_c, wq_n, wlq_s, lkp, tbl, dBk, nth, setL, canSet, cmpI, tk, swK, rdF, entL, catS, cat1, arg, rcv, ald, bld, aln, br, Ccopy, Cmax, Cmin, Cabs, List.take, List.drop, List.reverse, List.reverseAux, List.length, List.append, List.nil_append, List.cons_append, true_and, and_true, and_self, forall_const, true_implies, false_implies, not_true_eq_false, not_false_eq_true, Option.map, reduceCtorEq, reduceIte, or_true, true_or, false_or, or_false, false_and, and_false, List.map, List.append_nil, implies_true, yK, Nat.reduceBEq, beq_self_eq_true, Int.zero_ne_one, Nat.reduceDiv, Nat.reduceMod, Nat.reduceAdd, Nat.reduceSub, Nat.reduceMul, Nat.reduceEqDiff, Nat.reduceLeDiff, Int.reduceToNat, Int.reduceNeg, Int.reduceEq, Int.reduceLT, Int.reduceLE, Int.reduceNatCast, Int.reduceNatCast', Int.reduceAdd, Int.reduceSub, Int.reduceMul, eq_self, Prod.mk.injEq, A_X9_lean, V_X9_lean, B_X9_lean, Y_X9_lean, C_X9_isHand, C_X9_yearsOf, shpT, rfsT, wjq_s, look]
      rw [hP30]
      exact ⟨hh, fun h => ⟨hh, fun h1 => ⟨_, 0, rfl, rfl, rfl, ⟨h, h1⟩, (by omega), hn.1, rfl⟩, fun h1 => hQ _ _ (by rw [if_pos (fun z => h1 z.2)]) rfl⟩, fun h => hQ _ _ (by rw [if_pos (fun z => h z.1)]) rfl⟩
theorem op_lean {σ : Sto} (hR : Rel σ) {a b : Int} {κ : List AV → Sto → Prop} (hκ : ∀ v τ, Mid C_X9_lean [vR 67, vI a, vI b] (σ 102) v τ → κ [vI v] τ) : C_X8_lean [vR 0, vI a, vI b] σ κ := by
  obtain ⟨⟨c1, c2, c3, c4, c5, c6, c7, c8, c9, c10, c11, c12, c13, c14, c15, c16⟩, ⟨e1, e2, e3, e4, e5, e6, e7, e8, e9, e10, e11, e12, e13, e14, e15⟩, ⟨g1, g2, g3, g4⟩, ⟨h1, h2, h3, h4, h5, h6⟩, ⟨l1, l2, l3, l4⟩, hImg, ⟨n1, n2, n3, n4⟩⟩ := id hR
  refine ⟨⟨Rel_cI hR, h2⟩, hκ _ _ (fun κ' hκ' => ⟨⟨Rel_mI hR, by rw [h1]; exact h2⟩, ?_⟩)⟩
  have e : (if ¬ ((-1 ≤ a ∧ a < σ 67 9) ∧ (-1 ≤ b ∧ b < σ 67 9)) then -100001 else sumI (fun p => yrs (rowS (σ 74) a) (σ 70) (σ 72) (σ 69) p - yrs (rowS (σ 74) b) (σ 70) (σ 72) (σ 69) p) (σ 67 0)) = (if ¬ ((-1 ≤ a ∧ a < σ 6 1) ∧ (-1 ≤ b ∧ b < σ 6 1)) then -100001 else sumI (fun p => yrs (fun c => σ 37 ((a + 1) * 7 + c)) (σ 13) (σ 15) (σ 12) p - yrs (fun c => σ 37 ((b + 1) * 7 + c)) (σ 13) (σ 15) (σ 12) p) (σ 1 0)) := by
    rw [h1, e1, e5, e6, e8]
    by_cases c : (-1 ≤ a ∧ a < σ 6 1) ∧ (-1 ≤ b ∧ b < σ 6 1)
    · rw [if_neg (fun z => z c), if_neg (fun z => z c)]
      refine sumI_congr (fun p p0 p1 => ?_)
      have s := c2 p p0 (by omega)
      show yrs _ _ _ _ _ - yrs _ _ _ _ _ = yrs _ _ _ _ _ - yrs _ _ _ _ _
      unfold yrs
      rw [Rel_h2 hR (d := a) (p := p) (n := σ 12 p) c.1 ⟨by omega, by omega⟩ s, Rel_h2 hR (d := b) (p := p) (n := σ 12 p) c.2 ⟨by omega, by omega⟩ s]
    · rw [if_pos c, if_pos c]
  rw [e]
  exact hκ' _ hR rfl

