-- ===== pairs of calls: what hangs, calendars, digging =====
def A_X8_hangs : List (Nat × Ctr) := [(2, rcv 6 2 C_X6_has), (1, rcv 3 1 C_X3_weaveWhole), (3, rcv 3 3 C_X3_isFloating), (3, rcv 3 5 C_X3_joinsThatHold)]
theorem e_X8_hangs (o : OM) : Ev o Y_X8_hangs 6 T_X8_hangs A_X8_hangs := ⟨rfl, List.forall_mem_cons.mpr ⟨Or.inl f_X8_10, List.forall_mem_cons.mpr ⟨Or.inl f_X8_77, fun _ h => absurd h List.not_mem_nil⟩⟩, fun _ h => absurd h List.not_mem_nil, fun _ h => absurd h List.not_mem_nil, fun _ h => absurd h List.not_mem_nil, List.forall_mem_cons.mpr ⟨cl_X6_has (s_X6_has o) (by decide) (Or.inr ⟨_, wn_42⟩), List.forall_mem_cons.mpr ⟨cl_X3_weaveWhole (s_X3_weaveWhole o) (by decide) (Or.inr ⟨_, wn_86⟩), List.forall_mem_cons.mpr ⟨cl_X3_isFloating (s_X3_isFloating o) (by decide) (Or.inr ⟨_, wn_92⟩), List.forall_mem_cons.mpr ⟨cl_X3_joinsThatHold (s_X3_joinsThatHold o) (by decide) (Or.inr ⟨_, wn_98⟩), fun _ h => absurd h List.not_mem_nil⟩⟩⟩⟩, fun _ h => absurd h List.not_mem_nil⟩
def C_X8_hangs : Ctr := fun A σ k => wpl A_X8_hangs V_X8_hangs (yK Y_X8_hangs) B_X8_hangs k 3 0 [] (entL A) σ
theorem s_X8_hangs (o : OM) : Sound o Y_X8_hangs 6 C_X8_hangs := fun Q A σ _ hC => at_wpl (e_X8_hangs o) k_X8_hangs 3 0 [] (entL A) σ hC
theorem op_hangs {σ : Sto} (hR : Rel σ) {a b : Int} {κ : List AV → Sto → Prop} (hκ : ∀ v τ, Mid C_X9_hangs [vR 67, vI a, vI b] (σ 102) v τ → κ [vI v] τ) : C_X8_hangs [vR 0, vI a, vI b] σ κ := by
  obtain ⟨⟨c1, c2, c3, c4, c5, c6, c7, c8, c9, c10, c11, c12, c13, c14, c15, c16⟩, ⟨e1, e2, e3, e4, e5, e6, e7, e8, e9, e10, e11, e12, e13, e14, e15⟩, ⟨g1, g2, g3, g4⟩, ⟨h1, h2, h3, h4, h5, h6⟩, ⟨l1, l2, l3, l4⟩, hImg, ⟨n1, n2, n3, n4⟩⟩ := id hR
  have hI := Rel_cI hR
  have unk : ¬ ((0 ≤ a ∧ a < σ 1 0) ∧ (0 ≤ b ∧ b < σ 1 0)) → κ [vI (-101)] σ := fun h => hκ _ _ (fun κ' hκ' => ⟨Rel_mI hR, by
    rw [e1]
    exact ⟨fun _ => hκ' _ hR rfl, fun z => absurd z h⟩⟩)
  simp only [C_X8_hangs, sq_iconst, sq_jsr, sq_anewarray, sq_iload, sq_lload, sq_aload, sq_istore, sq_lstore, sq_astore, sq_iinc, sq_getfield, st_put0, st_put1, st_put3, sq_inv, sq_goto, sq_icmp, sq_ifc, sq_tsw, sq_iadd, sq_isub, sq_imul, sq_ineg, sq_idiv, sq_irem, sq_iand, sq_ior, sq_ixor, sq_ishl, sq_ishr, sq_iushr, sq_ladd, sq_lmul, sq_ldiv, sq_lrem, sq_land, sq_lor, sq_lshl, sq_lushr, sq_lcmp, sq_i2l, sq_l2i, sq_i2c, sq_i2b, sq_dupI, sq_dupR, sq_dup2, sq_pop, sq_iaload, sq_baload, sq_aaload, sq_iastore, sq_bastore, sq_alen, sq_ireturn, sq_lreturn, sq_return, wq_c, wq_n, wlq_s, lkp, tbl, dBk, nth, setL, canSet, cmpI, tk, swK, rdF, entL, catS, cat1, arg, rcv, ald, bld, aln, br, Ccopy, Cmax, Cmin, Cabs, List.take, List.drop, List.reverse, List.reverseAux, List.length, List.append, List.nil_append, List.cons_append, true_and, and_true, and_self, forall_const, true_implies, false_implies, not_true_eq_false, not_false_eq_true, Option.map, reduceCtorEq, reduceIte, or_true, true_or, false_or, or_false, false_and, and_false, List.map, List.append_nil, implies_true, yK, Nat.reduceBEq, beq_self_eq_true, Int.zero_ne_one, Nat.reduceDiv, Nat.reduceMod, Nat.reduceAdd, Nat.reduceSub, Nat.reduceMul, Nat.reduceEqDiff, Nat.reduceLeDiff, Int.reduceToNat, Int.reduceNeg, Int.reduceEq, Int.reduceLT, Int.reduceLE, Int.reduceNatCast, Int.reduceNatCast', Int.reduceAdd, Int.reduceSub, Int.reduceMul, eq_self, Prod.mk.injEq, A_X8_hangs, V_X8_hangs, B_X8_hangs, Y_X8_hangs, C_X6_has, C_X3_weaveWhole, C_X3_isFloating, C_X3_joinsThatHold, shpT, rfsT, br]
  refine ⟨fun q1 => ⟨fun q2 => ⟨hI, fun τ f1 f2 f3 => ?_, fun τ f1 f2 => hκ _ _ (fun κ' hκ' => ?_)⟩, fun q2 => unk (fun z => q2 z.2)⟩, fun q1 => unk (fun z => q1 z.1)⟩
  · obtain ⟨s1, s2, s3⟩ := lo_same f1
    have hT := Rel_e s1 hR
    have na : nd a := ⟨by omega, by omega⟩
    have nb : nd b := ⟨by omega, by omega⟩
    have t67 : τ 67 0 = σ 1 0 := by rw [s1.2.1 0 rfl, e1]
    have eK : KC σ = KM τ (ktM τ) := by rw [← KC_e s2]; exact Rel_KC hT
    have cl := NetK_Clo f2
    rw [eK] at cl
    refine ⟨⟨na, nb⟩, fun z => hκ _ _ (fun κ' hκ' => ⟨Rel_mI hT, fun y => absurd (by rw [t67]; exact ⟨q1, q2⟩) y, fun _ => ⟨fun τ' g1 _ => ?_, fun r τ' m g1 g2 g3 g4 => ?_⟩⟩), fun z => ⟨⟨NIc_e s2 hI, na, nb, by rw [KC_e s2]; exact f2, by rw [KF_e s2]; exact f3⟩, fun r τ1 k1 k2 k3 => hκ _ _ (fun κ' hκ' => ?_)⟩⟩
    · obtain ⟨t1, t2⟩ := sm91 g1
      exact hκ' _ (Rel_e t1 hT) (by rw [t2, s3])
    · exact absurd ((CloK_uni (fun _ _ => Iff.rfl) g3 cl a b na nb).trans (og_n z)) g4
    · have s4 : sameS τ1 τ := sameS_p (fun p hp => k1 p (stP_n rfl (by decide) (by decide) (by decide) hp))
      have hT1 := Rel_e s4 hT
      have l1 : lo38 τ1 τ := fun p hp _ => k1 p (by omega)
      have t1 : τ1 67 0 = σ 1 0 := by rw [s4.2.1 0 rfl, t67]
      have t102 : τ1 102 = σ 102 := by rw [k1 102 (by decide), s3]
      have eK1 : KM τ (ktM τ) = KM τ1 (ktM τ1) := by rw [← Rel_KC hT, ← KC_e l1]; exact Rel_KC hT1
      rw [eK1] at cl
      have eM : ∀ j, KCm τ j = KMm τ1 j := fun j => by
        rw [← Rel_KCm hT1]
        unfold KCm KJc
        rw [ktC_e l1, KF_e l1, l1 2 (by decide) (by decide), l1 16 (by decide) (by decide), l1 17 (by decide) (by decide), l1 18 (by decide) (by decide), l1 19 (by decide) (by decide)]
      refine ⟨Rel_mI hT1, fun y => absurd (by rw [t1]; exact ⟨q1, q2⟩) y, fun _ => ⟨fun τ' g1 g2 => ?_, fun r2 τ' m g1 g2 g3 g4 g5 => ?_⟩⟩
      · exfalso
        rcases g2 with g2 | ⟨m, g2, g3⟩
        · exact g2 _ cl.1 cl.2.1
        · exact z (og_z.mp ((CloK_uni (fun _ _ => Iff.rfl) cl g2 a b na nb).trans g3))
      · obtain ⟨t1, t2⟩ := sm91 g1
        have er : r = r2 := by
          refine bb_ext k2 g2 (fun j j0 j1 => ?_)
          have u := CloK_uni (fun _ _ => Iff.rfl) cl g3
          have t2' : τ1 67 32 = τ 2 0 := by rw [hT1.2.1.2.1, l1 2 (by decide) (by decide)]
          have iff : bb r j = true ↔ bb r2 j = true := by
            rw [k3 j j0 j1, g5 j j0 j1, t2', eM j]
            constructor
            · rintro ⟨z1, z2, m', z3, z4⟩
              refine ⟨z1, (Rel_kt hT1 j0 (by rw [l1 2 (by decide) (by decide)]; exact z1)).mp (by rw [ktC_e l1]; exact z2), m', z3, fun y => z4 ?_⟩
              exact ⟨y.1.trans (u a b na nb).symm, y.2.trans (u b a nb na).symm⟩
            · rintro ⟨z1, z2, m', z3, z4⟩
              refine ⟨z1, ?_, m', z3, fun y => z4 ⟨y.1.trans (u a b na nb), y.2.trans (u b a nb na)⟩⟩
              rw [← ktC_e l1]
              exact (Rel_kt hT1 j0 (by rw [l1 2 (by decide) (by decide)]; exact z1)).mpr z2
          cases x1 : bb r j <;> cases x2 : bb r2 j <;> rw [x1, x2] at iff <;> simp at iff ⊢
        rw [← er]
        exact hκ' _ (Rel_e t1 hT1) (by rw [t2, t102])
  · obtain ⟨s1, s2, s3⟩ := lo_same f1
    have hT := Rel_e s1 hR
    have t67 : τ 67 0 = σ 1 0 := by rw [s1.2.1 0 rfl, e1]
    have eK : KC σ = KM τ (ktM τ) := by rw [← KC_e s2]; exact Rel_KC hT
    rw [eK] at f2
    refine ⟨Rel_mI hT, fun y => absurd (by rw [t67]; exact ⟨q1, q2⟩) y, fun _ => ⟨fun τ' g1 _ => ?_, fun r τ' m g1 g2 g3 => absurd g3.2.1 (f2 _ g3.1)⟩⟩
    obtain ⟨t1, t2⟩ := sm91 g1
    exact hκ' _ (Rel_e t1 hT) (by rw [t2, s3])
def A_X8_calendars : List (Nat × Ctr) := [(3, arg 3 C_X8_isWithin), (1, rcv 3 2 C_X3_group), (1, rcv 3 3 C_X3_groups), (1, rcv 3 3 C_X3_groupOfFirst)]
theorem e_X8_calendars (o : OM) : Ev o Y_X8_calendars 4 T_X8_calendars A_X8_calendars := ⟨rfl, List.forall_mem_cons.mpr ⟨Or.inl f_X8_77, fun _ h => absurd h List.not_mem_nil⟩, fun _ h => absurd h List.not_mem_nil, fun _ h => absurd h List.not_mem_nil, fun _ h => absurd h List.not_mem_nil, List.forall_mem_cons.mpr ⟨cl_X3_group (s_X3_group o) (by decide) (Or.inr ⟨_, wn_94⟩), List.forall_mem_cons.mpr ⟨cl_X3_groups (s_X3_groups o) (by decide) (Or.inr ⟨_, wn_95⟩), List.forall_mem_cons.mpr ⟨cl_X3_groupOfFirst (s_X3_groupOfFirst o) (by decide) (Or.inr ⟨_, wn_96⟩), fun _ h => absurd h List.not_mem_nil⟩⟩⟩, List.forall_mem_cons.mpr ⟨cl_X8_isWithin (s_X8_isWithin o) (by decide) (Or.inl w_353), fun _ h => absurd h List.not_mem_nil⟩⟩
def C_X8_calendars : Ctr := fun A σ k => wpl A_X8_calendars V_X8_calendars (yK Y_X8_calendars) B_X8_calendars k 4 0 [] (entL A) σ
theorem s_X8_calendars (o : OM) : Sound o Y_X8_calendars 4 C_X8_calendars := fun Q A σ _ hC => at_wpl (e_X8_calendars o) k_X8_calendars 4 0 [] (entL A) σ hC
theorem op_calendars {σ : Sto} (hR : Rel σ) {a : Int} {κ : List AV → Sto → Prop} (hκ : ∀ v τ, Mid C_X9_calendars [vR 67, vI a] (σ 102) v τ → κ [vI v] τ) : C_X8_calendars [vR 0, vI a] σ κ := by
  obtain ⟨⟨c1, c2, c3, c4, c5, c6, c7, c8, c9, c10, c11, c12, c13, c14, c15, c16⟩, ⟨e1, e2, e3, e4, e5, e6, e7, e8, e9, e10, e11, e12, e13, e14, e15⟩, ⟨g1, g2, g3, g4⟩, ⟨h1, h2, h3, h4, h5, h6⟩, ⟨l1, l2, l3, l4⟩, hImg, ⟨n1, n2, n3, n4⟩⟩ := id hR
  have hI := Rel_cI hR
  simp only [C_X8_calendars, sq_iconst, sq_jsr, sq_anewarray, sq_iload, sq_lload, sq_aload, sq_istore, sq_lstore, sq_astore, sq_iinc, sq_getfield, st_put0, st_put1, st_put3, sq_inv, sq_goto, sq_icmp, sq_ifc, sq_tsw, sq_iadd, sq_isub, sq_imul, sq_ineg, sq_idiv, sq_irem, sq_iand, sq_ior, sq_ixor, sq_ishl, sq_ishr, sq_iushr, sq_ladd, sq_lmul, sq_ldiv, sq_lrem, sq_land, sq_lor, sq_lshl, sq_lushr, sq_lcmp, sq_i2l, sq_l2i, sq_i2c, sq_i2b, sq_dupI, sq_dupR, sq_dup2, sq_pop, sq_iaload, sq_baload, sq_aaload, sq_iastore, sq_bastore, sq_alen, sq_ireturn, sq_lreturn, sq_return, wq_c, wq_n, wlq_s, lkp, tbl, dBk, nth, setL, canSet, cmpI, tk, swK, rdF, entL, catS, cat1, arg, rcv, ald, bld, aln, br, Ccopy, Cmax, Cmin, Cabs, List.take, List.drop, List.reverse, List.reverseAux, List.length, List.append, List.nil_append, List.cons_append, true_and, and_true, and_self, forall_const, true_implies, false_implies, not_true_eq_false, not_false_eq_true, Option.map, reduceCtorEq, reduceIte, or_true, true_or, false_or, or_false, false_and, and_false, List.map, List.append_nil, implies_true, yK, Nat.reduceBEq, beq_self_eq_true, Int.zero_ne_one, Nat.reduceDiv, Nat.reduceMod, Nat.reduceAdd, Nat.reduceSub, Nat.reduceMul, Nat.reduceEqDiff, Nat.reduceLeDiff, Int.reduceToNat, Int.reduceNeg, Int.reduceEq, Int.reduceLT, Int.reduceLE, Int.reduceNatCast, Int.reduceNatCast', Int.reduceAdd, Int.reduceSub, Int.reduceMul, eq_self, Prod.mk.injEq, A_X8_calendars, V_X8_calendars, B_X8_calendars, Y_X8_calendars, C_X8_isWithin, C_X3_group, C_X3_groups, C_X3_groupOfFirst, shpT, rfsT, br]
  refine ⟨fun q => ⟨hI, fun τ f1 f2 f3 => ?_⟩, fun q => hκ _ _ (fun κ' hκ' => ⟨Rel_mI hR, fun _ => hκ' _ hR rfl, fun z => absurd z q⟩)⟩
  have s1 : sameS τ σ := sameS_p (fun p hp => f1 p (stP_n rfl (by decide) (by decide) (by decide) hp) (stP_n rfl (by decide) (by decide) (by decide) hp))
  have s2 : lo38 τ σ := fun p hp _ => f1 p (by omega) (by omega)
  have hT := Rel_e s1 hR
  have s3 : τ 102 = σ 102 := s1.1 102 rfl
  have eK : KC σ = KM τ (ktM τ) := by rw [← KC_e s2]; exact Rel_KC hT
  rw [eK] at f3
  have t1 : τ 1 0 = σ 1 0 := by rw [s1.1 1 rfl]
  have t67 : τ 67 0 = τ 1 0 := hT.2.1.1
  have hl : ∀ l : Int → Int, LabK (KM τ (ktM τ)) l → ∀ i j, nd i → nd j → (τ 66 i = τ 66 j ↔ l i = l j) := fun l h i j c d => (f3 i j c d).trans (h i j c d).symm
  have fr : ∀ τ' : Sto, (∀ p : Nat, p ≠ 91 → p ≠ 92 → τ' p = τ p) → Rel τ' ∧ τ' 102 = σ 102 := fun τ' g => by
    have t1 : sameS τ' τ := sameS_p (fun p hp => g p (stP_n rfl (by decide) (by decide) (by decide) hp) (stP_n rfl (by decide) (by decide) (by decide) hp))
    exact ⟨Rel_e t1 hT, by rw [g 102 (by decide) (by decide), s3]⟩
  refine ⟨fun q1 => ⟨by rw [t1]; exact c1, fun r k1 k2 => hκ _ _ (fun κ' hκ' => ⟨Rel_mI hT, fun z => absurd q z, fun _ r2 τ' l g1 g2 g3 g4 => ?_⟩)⟩, fun q1 => ⟨⟨by rw [t1]; exact c1, f2⟩, hκ _ _ (fun κ' hκ' => ⟨Rel_mI hT, fun z => absurd q z, fun _ r2 τ' l g1 g2 g3 g4 => ?_⟩)⟩⟩
  · have g5 := g4 (by omega)
    have er : r = r2 := by
      refine bb_ext k1 g5.1 (fun j j0 j1 => ?_)
      have iff : bb r j = true ↔ bb r2 j = true := by
        rw [k2 j j0 j1, g5.2 j j0 j1, t67]
        refine and_congr_right (fun z => ?_)
        exact hl l g2 j 0 ⟨j0, by omega⟩ ⟨by decide, by decide⟩
      cases x1 : bb r j <;> cases x2 : bb r2 j <;> rw [x1, x2] at iff <;> simp at iff ⊢
    rw [← er]
    exact hκ' _ (fr τ' g1).1 (fr τ' g1).2
  · have er : nGr (τ 66) (τ 1 0) = r2 := by
      rw [g3 (Classical.not_not.mp q1), t67]
      refine sumI_congr (fun p p0 p1 => ?_)
      have : nwP (τ 66) p = true ↔ nwP l p = true := by
        rw [nwP_t, nwP_t]
        exact ⟨fun z x x0 x1 y => z x x0 x1 ((hl l g2 x p ⟨x0, by omega⟩ ⟨p0, by omega⟩).mpr y), fun z x x0 x1 y => z x x0 x1 ((hl l g2 x p ⟨x0, by omega⟩ ⟨p0, by omega⟩).mp y)⟩
      by_cases y : nwP (τ 66) p = true
      · rw [if_pos y, if_pos (this.mp y)]
      · rw [if_neg y, if_neg (fun z => y (this.mpr z))]
    rw [← er]
    exact hκ' _ (fr τ' g1).1 (fr τ' g1).2
/-- the state but for the two counts -/
def sameC (τ σ : Sto) : Prop := (∀ p : Nat, stP p = true → τ p = σ p) ∧ (∀ i, slM i = true → ¬ i = 31 → ¬ i = 45 → τ 67 i = σ 67 i) ∧ τ 5 0 = σ 5 0 ∧ τ 0 4 = σ 0 4
theorem Rel_c {τ σ : Sto} (h : sameC τ σ) (hR : Rel σ) (hc : RCnt τ) : Rel τ := by
  obtain ⟨h1, h2, h3, h4⟩ := h
  obtain ⟨r1, r2, r3, r4, r5, r6, -⟩ := hR
  refine ⟨?_, ?_, ?_, ?_, ?_, ?_, hc⟩
  · unfold RCur at *
    simp only [h1 1 rfl, h1 2 rfl, h1 11 rfl, h1 12 rfl, h1 13 rfl, h1 14 rfl, h1 15 rfl, h1 16 rfl, h1 17 rfl, h1 18 rfl, h1 19 rfl, h1 20 rfl, h1 21 rfl, h1 22 rfl, h1 87 rfl, h1 88 rfl]
    exact r1
  · unfold REq at *
    simp only [h2 0 rfl (by decide) (by decide), h2 32 rfl (by decide) (by decide), h2 42 rfl (by decide) (by decide), h1 1 rfl, h1 2 rfl, h1 11 rfl, h1 12 rfl, h1 13 rfl, h1 14 rfl, h1 15 rfl, h1 16 rfl, h1 17 rfl, h1 18 rfl, h1 19 rfl, h1 20 rfl, h1 21 rfl, h1 22 rfl, h1 68 rfl, h1 69 rfl, h1 70 rfl, h1 71 rfl, h1 72 rfl, h1 82 rfl, h1 83 rfl, h1 84 rfl, h1 85 rfl, h1 86 rfl, h1 89 rfl, h1 90 rfl]
    exact r2
  · unfold RPage at *
    rw [h2 8 rfl (by decide) (by decide), h3, h1 73 rfl, h1 35 rfl]
    exact r3
  · unfold RHand at *
    rw [h2 9 rfl (by decide) (by decide), h1 6 rfl, h1 37 rfl, h1 74 rfl]
    exact r4
  · unfold RLaw at *
    rw [h2 11 rfl (by decide) (by decide), h1 7 rfl, h1 38 rfl, h1 75 rfl]
    exact r5
  · unfold RImg at *
    rw [h2 46 rfl (by decide) (by decide), h2 47 rfl (by decide) (by decide), h2 48 rfl (by decide) (by decide), h4, h1 3 rfl, h1 4 rfl, h1 23 rfl, h1 24 rfl, h1 25 rfl, h1 26 rfl, h1 27 rfl, h1 28 rfl, h1 29 rfl, h1 30 rfl, h1 31 rfl, h1 32 rfl, h1 33 rfl, h1 34 rfl, h1 93 rfl, h1 94 rfl, h1 95 rfl, h1 96 rfl, h1 97 rfl]
    exact r6
theorem dgM_congr {m m' : Mx} (h : ∀ i j, nd i → nd j → m i j = m' i j) {a b v : Int} (na : nd a) (nb' : nd b) : ∀ i j, nd i → nd j → dgM m a b v i j = dgM m' a b v i j := by
  intro i j c d
  unfold dgM nb
  rw [h i j c d, h i a c na, h b j nb' d, h i b c nb', h b b nb' nb', h a j na d, h a a na na]
theorem dgW_congr {m m' : Mx} {n : Int} (h : ∀ i j, nd i → nd j → m i j = m' i j) (hn : n ≤ 8) {a b : Int} (na : nd a) (nb' : nd b) : dgW m n a b = dgW m' n a b := by
  unfold dgW
  rw [pw_congr h na nb', h b a nb' na]
  congr 1
  funext i
  exact wdO_congr (dgM_congr h na nb') hn
theorem dgE_congr {m m' : Mx} (h : ∀ i j, nd i → nd j → m i j = m' i j) {a b : Int} (na : nd a) (nb' : nd b) : dgE m a b ↔ dgE m' a b := by
  unfold dgE
  rw [pw_congr h na nb', h a b na nb']
def A_X8_dig : List (Nat × Ctr) := [(3, arg 3 C_X8_isWithin), (1, rcv 3 1 C_X3_weaveWhole), (1, rcv 3 4 C_X3_findDig)]
theorem e_X8_dig (o : OM) : Ev o Y_X8_dig 5 T_X8_dig A_X8_dig := ⟨rfl, List.forall_mem_cons.mpr ⟨Or.inl f_X8_85, List.forall_mem_cons.mpr ⟨Or.inl f_X8_77, List.forall_mem_cons.mpr ⟨Or.inl f_X8_299, List.forall_mem_cons.mpr ⟨Or.inl f_X8_302, List.forall_mem_cons.mpr ⟨Or.inl f_X8_305, fun _ h => absurd h List.not_mem_nil⟩⟩⟩⟩⟩, fun _ h => absurd h List.not_mem_nil, fun _ h => absurd h List.not_mem_nil, fun _ h => absurd h List.not_mem_nil, List.forall_mem_cons.mpr ⟨cl_X3_weaveWhole (s_X3_weaveWhole o) (by decide) (Or.inr ⟨_, wn_86⟩), List.forall_mem_cons.mpr ⟨cl_X3_findDig (s_X3_findDig o) (by decide) (Or.inr ⟨_, wn_99⟩), fun _ h => absurd h List.not_mem_nil⟩⟩, List.forall_mem_cons.mpr ⟨cl_X8_isWithin (s_X8_isWithin o) (by decide) (Or.inl w_353), fun _ h => absurd h List.not_mem_nil⟩⟩
def C_X8_dig : Ctr := fun A σ k => wpl A_X8_dig V_X8_dig (yK Y_X8_dig) B_X8_dig k 6 0 [] (entL A) σ
theorem s_X8_dig (o : OM) : Sound o Y_X8_dig 5 C_X8_dig := fun Q A σ _ hC => at_wpl (e_X8_dig o) k_X8_dig 6 0 [] (entL A) σ hC
theorem op_dig {σ : Sto} (hR : Rel σ) {a : Int} {κ : List AV → Sto → Prop} (hκ : ∀ v τ, Mid C_X9_dig [vR 67, vI a] (σ 102) v τ → κ [vI v] τ) : C_X8_dig [vR 0, vI a] σ κ := by
  obtain ⟨⟨c1, c2, c3, c4, c5, c6, c7, c8, c9, c10, c11, c12, c13, c14, c15, c16⟩, ⟨e1, e2, e3, e4, e5, e6, e7, e8, e9, e10, e11, e12, e13, e14, e15⟩, ⟨g1, g2, g3, g4⟩, ⟨h1, h2, h3, h4, h5, h6⟩, ⟨l1, l2, l3, l4⟩, hImg, ⟨n1, n2, n3, n4⟩⟩ := id hR
  have hI := Rel_cI hR
  have full : ∀ τ : Sto, sameS τ σ → 0 ≤ a ∧ a ≤ 2 → (σ 0 12 = 8 ∨ NoM (KM τ (ktM τ))) → κ [vI (-103)] τ := by
    intro τ s1 q hz
    have hT := Rel_e s1 hR
    have t45 : τ 67 45 = σ 0 12 := by rw [s1.2.1 45 rfl, n3]
    refine hκ _ _ (fun κ' hκ' => ⟨⟨Rel_mI hT, by rw [t45]; exact n4⟩, fun z => absurd q z, fun _ => ⟨fun τ' g1 _ => ?_, fun τ' m A B W g1 g2 g3 g4 => ?_⟩⟩)
    · obtain ⟨t1, t2⟩ := sm91 g1
      exact hκ' _ (Rel_e t1 hT) (by rw [t2, s1.1 102 rfl])
    · rw [t45] at g3
      rcases hz with hz | hz
      · exact absurd hz g3
      · exact absurd g2.2.1 (hz _ g2.1)
  simp only [C_X8_dig, sq_iconst, sq_jsr, sq_anewarray, sq_iload, sq_lload, sq_aload, sq_istore, sq_lstore, sq_astore, sq_iinc, sq_getfield, st_put0, st_put1, st_put3, sq_inv, sq_goto, sq_icmp, sq_ifc, sq_tsw, sq_iadd, sq_isub, sq_imul, sq_ineg, sq_idiv, sq_irem, sq_iand, sq_ior, sq_ixor, sq_ishl, sq_ishr, sq_iushr, sq_ladd, sq_lmul, sq_ldiv, sq_lrem, sq_land, sq_lor, sq_lshl, sq_lushr, sq_lcmp, sq_i2l, sq_l2i, sq_i2c, sq_i2b, sq_dupI, sq_dupR, sq_dup2, sq_pop, sq_iaload, sq_baload, sq_aaload, sq_iastore, sq_bastore, sq_alen, sq_ireturn, sq_lreturn, sq_return, wq_c, wq_n, wlq_s, lkp, tbl, dBk, nth, setL, canSet, cmpI, tk, swK, rdF, entL, catS, cat1, arg, rcv, ald, bld, aln, br, Ccopy, Cmax, Cmin, Cabs, List.take, List.drop, List.reverse, List.reverseAux, List.length, List.append, List.nil_append, List.cons_append, true_and, and_true, and_self, forall_const, true_implies, false_implies, not_true_eq_false, not_false_eq_true, Option.map, reduceCtorEq, reduceIte, or_true, true_or, false_or, or_false, false_and, and_false, List.map, List.append_nil, implies_true, yK, Nat.reduceBEq, beq_self_eq_true, Int.zero_ne_one, Nat.reduceDiv, Nat.reduceMod, Nat.reduceAdd, Nat.reduceSub, Nat.reduceMul, Nat.reduceEqDiff, Nat.reduceLeDiff, Int.reduceToNat, Int.reduceNeg, Int.reduceEq, Int.reduceLT, Int.reduceLE, Int.reduceNatCast, Int.reduceNatCast', Int.reduceAdd, Int.reduceSub, Int.reduceMul, eq_self, Prod.mk.injEq, A_X8_dig, V_X8_dig, B_X8_dig, Y_X8_dig, C_X8_isWithin, C_X3_weaveWhole, C_X3_findDig, shpT, rfsT, br]
  refine ⟨fun q => ⟨fun q1 => full σ (sameS_r σ) q (Or.inl (by omega)), fun q1 => ⟨hI, fun τ f1 f2 f3 => ?_, fun τ f1 f2 => ?_⟩⟩, fun q => hκ _ _ (fun κ' hκ' => ⟨⟨Rel_mI hR, by rw [n3]; exact n4⟩, fun _ => hκ' _ hR rfl, fun z => absurd z q⟩)⟩
  · obtain ⟨s1, s2, s3⟩ := lo_same f1
    have hT := Rel_e s1 hR
    have t12 : τ 0 12 = σ 0 12 := s1.2.2.2.2.2
    have t10 : τ 1 0 = σ 1 0 := by rw [s1.1 1 rfl]
    have eK : KC σ = KM τ (ktM τ) := by rw [← KC_e s2]; exact Rel_KC hT
    have cl := NetK_Clo f2
    simp only [su_r, Nat.reduceEqDiff, not_false_eq_true]
    refine ⟨⟨by omega, by omega⟩, ⟨⟨_, f2, KC_nd hI⟩, by rw [t10]; exact c1⟩, fun τ1 k1 k2 => ?_⟩
    have sC : ∀ τ2 : Sto, (∀ p : Nat, p ≠ 10 → p ≠ 91 → p ≠ 67 → p ≠ 0 → τ2 p = τ p) → (∀ i, ¬ i = 45 → τ2 67 i = τ 67 i) → (∀ i, ¬ i = 12 → τ2 0 i = τ 0 i) → τ2 67 45 = σ 0 12 + 1 → τ2 0 12 = σ 0 12 + 1 → Rel τ2 ∧ τ2 102 = σ 102 := by
      intro τ2 z1 z2 z3 z4 z5
      refine ⟨Rel_c (σ := τ) ⟨fun p hp => ?_, fun i hi _ h45 => z2 i h45, ?_, z3 4 (by decide)⟩ hT ⟨?_, ?_, by rw [z4, z5], by rw [z5]; omega⟩, by rw [z1 102 (by decide) (by decide) (by decide) (by decide), s3]⟩
      · exact z1 p (by rintro rfl; exact absurd hp (by decide)) (by rintro rfl; exact absurd hp (by decide)) (by rintro rfl; exact absurd hp (by decide)) (by rintro rfl; exact absurd hp (by decide))
      · rw [z1 5 (by decide) (by decide) (by decide) (by decide)]
      · rw [z2 31 (by decide), z3 11 (by decide)]; exact hT.2.2.2.2.2.2.1
      · rw [z3 11 (by decide)]; exact hT.2.2.2.2.2.2.2.1
    have fin : ∀ v, (v = if a = 0 then τ1 10 12 else if a = 1 then τ1 10 13 else τ1 10 14) → κ [vI v] τ1 := by
      intro v hv
      have t1 : ∀ p : Nat, p ≠ 10 → p ≠ 0 → τ1 p = τ p := fun p p1 p2 => by rw [k1 p p1, su_r p2]
      have l1 : lo38 τ1 τ ∨ True := Or.inr trivial
      have I1 : NIm τ1 := by
        have := Rel_mI hT
        unfold NIm at this ⊢
        rw [t1 67 (by decide) (by decide), t1 69 (by decide) (by decide), t1 70 (by decide) (by decide), t1 72 (by decide) (by decide), t1 74 (by decide) (by decide), t1 82 (by decide) (by decide), t1 83 (by decide) (by decide), t1 84 (by decide) (by decide), t1 85 (by decide) (by decide), t1 88 (by decide) (by decide), t1 89 (by decide) (by decide), t1 90 (by decide) (by decide)]
        exact this
      have eM : KM τ1 (ktM τ1) = KM τ (ktM τ) := by
        unfold KM KMd ktM
        simp only [t1 67 (by decide) (by decide), t1 69 (by decide) (by decide), t1 70 (by decide) (by decide), t1 72 (by decide) (by decide), t1 82 (by decide) (by decide), t1 83 (by decide) (by decide), t1 84 (by decide) (by decide), t1 85 (by decide) (by decide), t1 87 (by decide) (by decide), t1 88 (by decide) (by decide), t1 89 (by decide) (by decide), t1 90 (by decide) (by decide)]
      have t45 : τ1 67 45 = σ 0 12 := by rw [t1 67 (by decide) (by decide), s1.2.1 45 rfl, n3]
      have t0 : τ1 67 0 = σ 1 0 := by rw [t1 67 (by decide) (by decide), s1.2.1 0 rfl, e1]
      refine hκ _ _ (fun κ' hκ' => ⟨⟨I1, by rw [t45]; exact n4⟩, fun z => absurd q z, fun _ => ⟨fun τ' g1 g2 => ?_, fun τ' m A B W g1 g2 g3 g4 => ?_⟩⟩)
      · exfalso
        rw [eM, ← eK, t45] at g2
        rcases g2 with g2 | g2
        · exact g2 _ cl.1 cl.2.1
        · omega
      · rw [eM, ← eK] at g2
        rw [t0] at g4
        rw [t10] at k2
        have u := CloK_uni (fun _ _ => Iff.rfl) cl g2
        have hh := DB_uni (fun x y z => dgE_congr u (by unfold ahd at z; exact ⟨by omega, by omega⟩) (by unfold ahd at z; exact ⟨by omega, by omega⟩)) (fun x y z => dgW_congr u (by omega) (by unfold ahd at z; exact ⟨by omega, by omega⟩) (by unfold ahd at z; exact ⟨by omega, by omega⟩)) k2 g4
        have ev : (if a = 0 then A else if a = 1 then B else W) = v := by rw [hv, hh.1, hh.2.1, hh.2.2]
        rw [ev]
        have rr := sC τ' (fun p p1 p2 p3 p4 => by rw [g1 p p2, su_r p3, t1 p p1 p4]) (fun i hi => by rw [g1 67 (by decide), su_at, if_neg hi, t1 67 (by decide) (by decide)]) (fun i hi => by rw [g1 0 (by decide), su_r (by decide), k1 0 (by decide), su_at, if_neg hi]) (by rw [g1 67 (by decide), su_at, if_pos rfl, t45]) (by rw [g1 0 (by decide), su_r (by decide), k1 0 (by decide), su_at, if_pos rfl, t12])
        exact hκ' _ rr.1 rr.2
    exact ⟨fun q2 => ⟨fun q3 => fin _ (by rw [if_neg q2, if_neg q3]), fun q3 => fin _ (by rw [if_neg q2, if_pos (Classical.not_not.mp q3)])⟩, fun q2 => fin _ (by rw [if_pos (Classical.not_not.mp q2)])⟩
  · obtain ⟨s1, s2, s3⟩ := lo_same f1
    have hT := Rel_e s1 hR
    have eK : KC σ = KM τ (ktM τ) := by rw [← KC_e s2]; exact Rel_KC hT
    exact full τ s1 q (Or.inr (by rw [← eK]; exact f2))

