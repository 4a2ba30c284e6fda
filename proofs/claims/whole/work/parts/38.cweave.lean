-- ===== the class weaves =====
theorem ff_snoc {P : Int → Bool} : ∀ (n : Nat) (lo : Int), 0 ≤ lo → ff P lo (n + 1) = if ff P lo n = -1 then (if P (lo + n) then lo + n else -1) else ff P lo n
  | 0, lo, _ => by
    show (if P lo then lo else -1) = _
    rw [show ff P lo 0 = -1 from rfl, if_pos rfl]
    simp
  | n + 1, lo, h => by
    have ih := ff_snoc (P := P) n (lo + 1) (by omega)
    show (if P lo then lo else ff P (lo + 1) (n + 1)) = _
    rw [ih]
    by_cases c : P lo = true
    · rw [if_pos c]
      have e : ff P lo (n + 1) = lo := by
        show (if P lo then lo else _) = lo
        rw [if_pos c]
      rw [e, if_neg (by omega)]
    · rw [if_neg c]
      have e : ff P lo (n + 1) = ff P (lo + 1) n := by
        show (if P lo then lo else _) = _
        rw [if_neg c]
      rw [e, show lo + 1 + (n : Int) = lo + ((n + 1 : Nat) : Int) by omega]
def A_J7_fill_53178 : List (Nat × Ctr) := []
theorem e_J7_fill_53178 (o : OM) : Ev o Y_J7_fill_53178 0 T_J7_fill_53178 A_J7_fill_53178 := ⟨rfl, fun _ h => absurd h List.not_mem_nil, fun _ h => absurd h List.not_mem_nil, fun _ h => absurd h List.not_mem_nil, fun _ h => absurd h List.not_mem_nil, fun _ h => absurd h List.not_mem_nil, fun _ h => absurd h List.not_mem_nil⟩
def C_J7_fill_53178 : Ctr := fun A σ κ => match A with
  | [.inr (.inr (.inl q)), .inl v] => (∃ N : Nat, shp q = (0, N) ∧ N ≤ 1000) ∧ ∀ τ : Sto, (∀ p : Nat, p ≠ q → τ p = σ p) → (∀ j, 0 ≤ j → j < ((shp q).2 : Int) → τ q j = v) → κ [] τ
  | _ => False
set_option maxRecDepth 20000 in
theorem s_J7_fill_53178 (o : OM) : Sound o Y_J7_fill_53178 0 C_J7_fill_53178 := by
  intro Q A σ hA hC
  match A, hA, hC with
  | [.inr (.inr (.inl q)), .inl v], hA, hC =>
    obtain ⟨h0, hq⟩ : (∃ N : Nat, shp q = (0, N) ∧ N ≤ 1000) ∧ ∀ τ : Sto, (∀ p : Nat, p ≠ q → τ p = σ p) → (∀ j, 0 ≤ j → j < ((shp q).2 : Int) → τ q j = v) → Q [] τ := hC
    obtain ⟨N, hs, hN⟩ := h0
    rw [hs] at hq
    obtain ⟨P5, hP5⟩ : ∃ P : Nat → List AV → List AV → Sto → Prop, P = fun m S L τ => ∃ i : Int, S = [] ∧ L = [vR q, vI v, vI i, vI (N : Int)] ∧ (∀ p : Nat, p ≠ q → τ p = σ p) ∧ 0 ≤ i ∧ i ≤ N ∧ (∀ j, 0 ≤ j → j < i → τ q j = v) ∧ m = (N - i).toNat := ⟨_, rfl⟩
    refine at_meth (lv := V_J7_fill_53178) (B := B_J7_fill_53178) (e_J7_fill_53178 o) k_J7_fill_53178 3 [(5, P5)] (List.forall_mem_cons.mpr ⟨?_, fun _ h => absurd h List.not_mem_nil⟩) 0 [] _ σ ?_
    · intro m S L τ hI
      rw [hP5] at hI
      obtain ⟨i, rfl, rfl, he, i0, i1, hg, hm⟩ := hI
      simp only [sq_iconst, sq_jsr, sq_anewarray, sq_iload, sq_lload, sq_aload, sq_istore, sq_lstore, sq_astore, sq_iinc, sq_getfield, st_put0, st_put1, st_put3, sq_inv, sq_goto, sq_icmp, sq_ifc, sq_tsw, sq_iadd, sq_isub, sq_imul, sq_ineg, sq_idiv, sq_irem, sq_iand, sq_ior, sq_ixor, sq_ishl, sq_ishr, sq_iushr, sq_ladd, sq_lmul, sq_ldiv, sq_lrem, sq_land, sq_lor, sq_lshl, sq_lushr, sq_lcmp, sq_i2l, sq_l2i, sq_i2c, sq_i2b, sq_dupI, sq_dupR, sq_dup2, sq_pop, sq_iaload, sq_baload, sq_aaload, sq_iastore, sq_bastore, sq_alen, sq_ireturn, sq_lreturn, sq_return, wq_c, wq_n, wlq_s, lkp, tbl, dBk, nth, setL, canSet, cmpI, tk, swK, rdF, entL, catS, cat1, arg, rcv, ald, bld, aln, br, Ccopy, Cmax, Cmin, Cabs, List.take, List.drop, List.reverse, List.reverseAux, List.length, List.append, List.nil_append, List.cons_append, true_and, and_true, and_self, forall_const, true_implies, false_implies, not_true_eq_false, not_false_eq_true, Option.map, reduceCtorEq, reduceIte, or_true, true_or, false_or, or_false, false_and, and_false, List.map, List.append_nil, implies_true, yK, Nat.reduceBEq, beq_self_eq_true, Int.zero_ne_one, Nat.reduceDiv, Nat.reduceMod, Nat.reduceAdd, Nat.reduceSub, Nat.reduceMul, Nat.reduceEqDiff, Nat.reduceLeDiff, Int.reduceToNat, Int.reduceNeg, Int.reduceEq, Int.reduceLT, Int.reduceLE, Int.reduceNatCast, Int.reduceNatCast', Int.reduceAdd, Int.reduceSub, Int.reduceMul, eq_self, Prod.mk.injEq, A_J7_fill_53178, V_J7_fill_53178, B_J7_fill_53178, Y_J7_fill_53178, shpT, rfsT, wjq_s, look, hs]
      rw [hP5]
      refine ⟨fun h => hq τ he (fun j h1 h2 => hg j h1 (by have h2 : j < (N : Int) := h2; omega)), fun h => ⟨⟨by omega, by omega⟩, ⟨by omega, by omega⟩, _, ?_, i + 1, rfl, rfl, fun p hp => by rw [su_r hp]; exact he p hp, (by omega), (by omega), fun j h1 h2 => ?_, rfl⟩⟩
      · omega
      · rw [su_at]
        split
        · rfl
        · exact hg j h1 (by omega)
    · simp only [sq_iconst, sq_jsr, sq_anewarray, sq_iload, sq_lload, sq_aload, sq_istore, sq_lstore, sq_astore, sq_iinc, sq_getfield, st_put0, st_put1, st_put3, sq_inv, sq_goto, sq_icmp, sq_ifc, sq_tsw, sq_iadd, sq_isub, sq_imul, sq_ineg, sq_idiv, sq_irem, sq_iand, sq_ior, sq_ixor, sq_ishl, sq_ishr, sq_iushr, sq_ladd, sq_lmul, sq_ldiv, sq_lrem, sq_land, sq_lor, sq_lshl, sq_lushr, sq_lcmp, sq_i2l, sq_l2i, sq_i2c, sq_i2b, sq_dupI, sq_dupR, sq_dup2, sq_pop, sq_iaload, sq_baload, sq_aaload, sq_iastore, sq_bastore, sq_alen, sq_ireturn, sq_lreturn, sq_return, wq_c, wq_n, wlq_s, lkp, tbl, dBk, nth, setL, canSet, cmpI, tk, swK, rdF, entL, catS, cat1, arg, rcv, ald, bld, aln, br, Ccopy, Cmax, Cmin, Cabs, List.take, List.drop, List.reverse, List.reverseAux, List.length, List.append, List.nil_append, List.cons_append, true_and, and_true, and_self, forall_const, true_implies, false_implies, not_true_eq_false, not_false_eq_true, Option.map, reduceCtorEq, reduceIte, or_true, true_or, false_or, or_false, false_and, and_false, List.map, List.append_nil, implies_true, yK, Nat.reduceBEq, beq_self_eq_true, Int.zero_ne_one, Nat.reduceDiv, Nat.reduceMod, Nat.reduceAdd, Nat.reduceSub, Nat.reduceMul, Nat.reduceEqDiff, Nat.reduceLeDiff, Int.reduceToNat, Int.reduceNeg, Int.reduceEq, Int.reduceLT, Int.reduceLE, Int.reduceNatCast, Int.reduceNatCast', Int.reduceAdd, Int.reduceSub, Int.reduceMul, eq_self, Prod.mk.injEq, A_J7_fill_53178, V_J7_fill_53178, B_J7_fill_53178, Y_J7_fill_53178, shpT, rfsT, wjq_s, look, hs]
      rw [hP5]
      exact ⟨_, 0, rfl, rfl, fun _ _ => rfl, (by omega), (by omega), fun j h1 h2 => by omega, rfl⟩
def haP (ay : Int → Int) (n : Int) : Int → Bool := fun p => decide (¬ ay (p * 10 + n) = -1)
def A_X3_firstPitWithAsh : List (Nat × Ctr) := [(3, rcv 3 3 C_X3_hasAsh)]
theorem e_X3_firstPitWithAsh (o : OM) : Ev o Y_X3_firstPitWithAsh 1 T_X3_firstPitWithAsh A_X3_firstPitWithAsh := ⟨rfl, List.forall_mem_cons.mpr ⟨Or.inl f_X3_51, List.forall_mem_cons.mpr ⟨Or.inl f_X3_85, fun _ h => absurd h List.not_mem_nil⟩⟩, fun _ h => absurd h List.not_mem_nil, fun _ h => absurd h List.not_mem_nil, fun _ h => absurd h List.not_mem_nil, List.forall_mem_cons.mpr ⟨cl_X3_hasAsh (s_X3_hasAsh o) (by decide) (Or.inl w_854), fun _ h => absurd h List.not_mem_nil⟩, fun _ h => absurd h List.not_mem_nil⟩
def C_X3_firstPitWithAsh : Ctr := fun A σ κ => match A with
  | [.inr (.inr (.inl 10)), .inl n] => ((0 ≤ σ 1 0 ∧ σ 1 0 ≤ 7) ∧ (0 ≤ n ∧ n < 10)) ∧ κ [vI (ff (haP (σ 65) n) 0 (σ 1 0).toNat)] σ
  | _ => False
set_option maxRecDepth 20000 in
theorem s_X3_firstPitWithAsh (o : OM) : Sound o Y_X3_firstPitWithAsh 1 C_X3_firstPitWithAsh := by
  intro Q A σ hA hC
  match A, hA, hC with
  | [.inr (.inr (.inl 10)), .inl n], hA, hC =>
    obtain ⟨h0, hq⟩ : ((0 ≤ σ 1 0 ∧ σ 1 0 ≤ 7) ∧ (0 ≤ n ∧ n < 10)) ∧ Q [vI (ff (haP (σ 65) n) 0 (σ 1 0).toNat)] σ := hC
    have hQ : ∀ r_ τ, r_ = (ff (haP (σ 65) n) 0 (σ 1 0).toNat) → τ = (σ) → Q [vI r_] τ := fun r_ τ e e2 => e ▸ e2 ▸ hq
    obtain ⟨hz, hn⟩ := h0
    refine at_meth (lv := V_X3_firstPitWithAsh) (B := B_X3_firstPitWithAsh) (e_X3_firstPitWithAsh o) k_X3_firstPitWithAsh 4 [(2, fun m S L τ => ∃ i : Int, S = [] ∧ L = [vR 10, vI n, vI i] ∧ τ = σ ∧ 0 ≤ i ∧ i ≤ σ 1 0 ∧ m = (σ 1 0 - i).toNat ∧ ff (haP (σ 65) n) 0 (σ 1 0).toNat = ff (haP (σ 65) n) i (σ 1 0 - i).toNat)] (List.forall_mem_cons.mpr ⟨?_, fun _ h => absurd h List.not_mem_nil⟩) 0 [] _ σ ?_
    · rintro m S L τ ⟨i, rfl, rfl, rfl, hi0, hin, hm, he⟩
      simp only [sq_iconst, sq_jsr, sq_anewarray, sq_iload, sq_lload, sq_aload, sq_istore, sq_lstore, sq_astore, sq_iinc, sq_getfield, st_put0, st_put1, st_put3, sq_inv, sq_goto, sq_icmp, sq_ifc, sq_tsw, sq_iadd, sq_isub, sq_imul, sq_ineg, sq_idiv, sq_irem, sq_iand, sq_ior, sq_ixor, sq_ishl, sq_ishr, sq_iushr, sq_ladd, sq_lmul, sq_ldiv, sq_lrem, sq_land, sq_lor, sq_lshl, sq_lushr, sq_lcmp, sq_i2l, sq_l2i, sq_i2c, sq_i2b, sq_dupI, sq_dupR, sq_dup2, sq_pop, sq_iaload, sq_baload, sq_aaload, sq_iastore, sq_bastore, sq_alen, sq_ireturn, sq_lreturn, sq_return, wq_c, wq_n, wlq_s, lkp, tbl, dBk, nth, setL, canSet, cmpI, tk, swK, rdF, entL, catS, cat1, arg, rcv, ald, bld, aln, br, Ccopy, Cmax, Cmin, Cabs, List.take, List.drop, List.reverse, List.reverseAux, List.length, List.append, List.nil_append, List.cons_append, true_and, and_true, and_self, forall_const, true_implies, false_implies, not_true_eq_false, not_false_eq_true, Option.map, reduceCtorEq, reduceIte, or_true, true_or, false_or, or_false, false_and, and_false, List.map, List.append_nil, implies_true, yK, Nat.reduceBEq, beq_self_eq_true, Int.zero_ne_one, Nat.reduceDiv, Nat.reduceMod, Nat.reduceAdd, Nat.reduceSub, Nat.reduceMul, Nat.reduceEqDiff, Nat.reduceLeDiff, Int.reduceToNat, Int.reduceNeg, Int.reduceEq, Int.reduceLT, Int.reduceLE, Int.reduceNatCast, Int.reduceNatCast', Int.reduceAdd, Int.reduceSub, Int.reduceMul, eq_self, Prod.mk.injEq, A_X3_firstPitWithAsh, V_X3_firstPitWithAsh, B_X3_firstPitWithAsh, Y_X3_firstPitWithAsh, C_X3_hasAsh, shpT, rfsT, wjq_s, look]
      refine ⟨fun h => hQ _ _ (by rw [he, ff_e h]) rfl, fun h => ⟨⟨⟨by omega, by omega⟩, ⟨by omega, by omega⟩⟩, fun h1 => ?_, fun h1 => ?_⟩⟩
      · exact hQ _ _ (by rw [he, ff_s (by omega), show haP (τ 65) n i = true from decide_eq_true h1]; rfl) rfl
      · refine ⟨⟨by omega, by omega⟩, _, ?_, i + 1, rfl, (by omega), (by omega), rfl, ?_⟩
        · omega
        · rw [he, ff_s (by omega), show haP (τ 65) n i = false from decide_eq_false h1]; rfl
    · simp only [sq_iconst, sq_jsr, sq_anewarray, sq_iload, sq_lload, sq_aload, sq_istore, sq_lstore, sq_astore, sq_iinc, sq_getfield, st_put0, st_put1, st_put3, sq_inv, sq_goto, sq_icmp, sq_ifc, sq_tsw, sq_iadd, sq_isub, sq_imul, sq_ineg, sq_idiv, sq_irem, sq_iand, sq_ior, sq_ixor, sq_ishl, sq_ishr, sq_iushr, sq_ladd, sq_lmul, sq_ldiv, sq_lrem, sq_land, sq_lor, sq_lshl, sq_lushr, sq_lcmp, sq_i2l, sq_l2i, sq_i2c, sq_i2b, sq_dupI, sq_dupR, sq_dup2, sq_pop, sq_iaload, sq_baload, sq_aaload, sq_iastore, sq_bastore, sq_alen, sq_ireturn, sq_lreturn, sq_return, wq_c, wq_n, wlq_s, lkp, tbl, dBk, nth, setL, canSet, cmpI, tk, swK, rdF, entL, catS, cat1, arg, rcv, ald, bld, aln, br, Ccopy, Cmax, Cmin, Cabs, List.take, List.drop, List.reverse, List.reverseAux, List.length, List.append, List.nil_append, List.cons_append, true_and, and_true, and_self, forall_const, true_implies, false_implies, not_true_eq_false, not_false_eq_true, Option.map, reduceCtorEq, reduceIte, or_true, true_or, false_or, or_false, false_and, and_false, List.map, List.append_nil, implies_true, yK, Nat.reduceBEq, beq_self_eq_true, Int.zero_ne_one, Nat.reduceDiv, Nat.reduceMod, Nat.reduceAdd, Nat.reduceSub, Nat.reduceMul, Nat.reduceEqDiff, Nat.reduceLeDiff, Int.reduceToNat, Int.reduceNeg, Int.reduceEq, Int.reduceLT, Int.reduceLE, Int.reduceNatCast, Int.reduceNatCast', Int.reduceAdd, Int.reduceSub, Int.reduceMul, eq_self, Prod.mk.injEq, A_X3_firstPitWithAsh, V_X3_firstPitWithAsh, B_X3_firstPitWithAsh, Y_X3_firstPitWithAsh, C_X3_hasAsh, shpT, rfsT, wjq_s, look]
      exact ⟨_, 0, rfl, (by omega), (by omega), rfl, by rw [Int.sub_zero]⟩
def tdC (σ : Sto) : Int → Prop := fun p => ¬ bAnd (σ 2 7) (bShl 1 p) = 0
def NIc (σ : Sto) : Prop := (0 ≤ σ 1 0 ∧ σ 1 0 ≤ 7) ∧ (0 ≤ σ 2 0 ∧ σ 2 0 ≤ 12) ∧ (∀ p, 0 ≤ p → p < 7 → 0 ≤ σ 12 p ∧ σ 12 p ≤ 16) ∧ PI (σ 13) (σ 15) ∧ TI (σ 37) 35 ∧ (∀ c, 0 ≤ c → c < 7 → σ 37 c = -1) ∧ (∀ j, 0 ≤ j → j < σ 2 0 → JI (σ 16 j) (σ 17 j) (σ 18 j) (σ 19 j)) ∧ (∀ p, 0 ≤ p → p < σ 1 0 → tdC σ p → (-9999 ≤ σ 21 p ∧ σ 21 p ≤ 9999) ∧ (-9999 ≤ σ 22 p ∧ σ 22 p ≤ 9999))
def ayC (σ : Sto) (p x : Int) : Int := if ¬ σ 2 10 = 0 ∧ p < σ 1 0 ∧ ¬ asM (σ 13) (σ 15) (σ 12) p x = -1 then yrM (σ 13) (σ 15) (σ 12) p x else -1
/-- the same, of the first i leaves alone -/
def ayi (σ : Sto) (p i x : Int) : Int := if ff (ashP (σ 13) (σ 15) p x) 0 i.toNat = -1 then -1 else (hsum (fun _ => -1) (σ 13) (σ 15) p (ff (ashP (σ 13) (σ 15) p x) 0 i.toNat)).tdiv 2
theorem ayi_s {σ : Sto} {p i x : Int} (h : 0 ≤ i) : ayi σ p (i + 1) x = if ayi σ p i x = -1 ∧ ff (ashP (σ 13) (σ 15) p x) 0 i.toNat = -1 ∧ ashP (σ 13) (σ 15) p x i = true then (hsum (fun _ => -1) (σ 13) (σ 15) p i).tdiv 2 else ayi σ p i x := by
  unfold ayi
  rw [show (i + 1).toNat = i.toNat + 1 by omega, ff_snoc _ _ (by omega), show (0 : Int) + (i.toNat : Int) = i by omega]
  by_cases c : ff (ashP (σ 13) (σ 15) p x) 0 i.toNat = -1
  · rw [if_pos c, if_pos c]
    by_cases d : ashP (σ 13) (σ 15) p x i = true
    · rw [if_pos d, if_neg (by omega), if_pos ⟨rfl, c, d⟩]
    · rw [if_neg d, if_pos rfl, if_neg (fun z => d z.2.2)]
  · rw [if_neg c, if_neg c, if_neg (fun z => c z.2.1)]
theorem hv_pl {f : Int → Int} {c n : Int} (h : f c = -1) : hv f c n = hv (fun _ => -1) c n := by
  unfold hv
  rw [if_pos h, if_pos rfl]
def A_X3_findAshes : List (Nat × Ctr) := [(2, arg 4 C_J7_fill_53178), (3, rcv 6 3 C_X6_kindOf), (3, rcv 6 3 C_X6_nOf), (4, rcv 1 5 C_X1_halvesOf)]
theorem e_X3_findAshes (o : OM) : Ev o Y_X3_findAshes 1 T_X3_findAshes A_X3_findAshes := ⟨rfl, List.forall_mem_cons.mpr ⟨Or.inl f_X3_26, List.forall_mem_cons.mpr ⟨Or.inl f_X3_59, List.forall_mem_cons.mpr ⟨Or.inl f_X3_132, List.forall_mem_cons.mpr ⟨Or.inl f_X3_51, List.forall_mem_cons.mpr ⟨Or.inl f_X3_85, List.forall_mem_cons.mpr ⟨Or.inl f_X3_136, List.forall_mem_cons.mpr ⟨Or.inl f_X3_55, fun _ h => absurd h List.not_mem_nil⟩⟩⟩⟩⟩⟩⟩, fun _ h => absurd h List.not_mem_nil, fun _ h => absurd h List.not_mem_nil, fun _ h => absurd h List.not_mem_nil, List.forall_mem_cons.mpr ⟨cl_X6_kindOf (s_X6_kindOf o) (by decide) (Or.inr ⟨_, wn_87⟩), List.forall_mem_cons.mpr ⟨cl_X6_nOf (s_X6_nOf o) (by decide) (Or.inr ⟨_, wn_88⟩), List.forall_mem_cons.mpr ⟨cl_X1_halvesOf (s_X1_halvesOf o) (by decide) (Or.inr ⟨_, wn_89⟩), fun _ h => absurd h List.not_mem_nil⟩⟩⟩, List.forall_mem_cons.mpr ⟨cl_J7_fill_53178 (s_J7_fill_53178 o) (by decide) (Or.inl w_838), fun _ h => absurd h List.not_mem_nil⟩⟩
def C_X3_findAshes : Ctr := fun A σ κ => match A with
  | [.inr (.inr (.inl 10))] => (NIc σ) ∧ ∀ τ : Sto, (∀ p : Nat, p ≠ 65 → τ p = σ p) → (∀ p x, 0 ≤ p → p < 7 → 0 ≤ x → x < 10 → τ 65 (p * 10 + x) = ayC σ p x) → κ [] τ
  | _ => False
set_option maxRecDepth 20000 in
theorem s_X3_findAshes (o : OM) : Sound o Y_X3_findAshes 1 C_X3_findAshes := by
  intro Q A σ hA hC
  match A, hA, hC with
  | [.inr (.inr (.inl 10))], hA, hC =>
    obtain ⟨h0, hq⟩ : (NIc σ) ∧ ∀ τ : Sto, (∀ p : Nat, p ≠ 65 → τ p = σ p) → (∀ p x, 0 ≤ p → p < 7 → 0 ≤ x → x < 10 → τ 65 (p * 10 + x) = ayC σ p x) → Q [] τ := hC
    obtain ⟨hn, hJ, hs, hPI, hTI, hpl, hji, hti⟩ := h0
    obtain ⟨P10, hP10⟩ : ∃ P : Nat → List AV → List AV → Sto → Prop, P = fun m S L τ => ∃ p : Int, S = [] ∧ L = [vR 10, vI p] ∧ (∀ p : Nat, p ≠ 65 → τ p = σ p) ∧ 0 ≤ p ∧ p ≤ σ 1 0 ∧ (σ 2 10 = 0 → p = 0) ∧ (∀ a x, 0 ≤ a → a < 7 → 0 ≤ x → x < 10 → τ 65 (a * 10 + x) = if a < p then ayC σ a x else -1) ∧ m = ((7 - p) * 100).toNat := ⟨_, rfl⟩
    obtain ⟨P35, hP35⟩ : ∃ P : Nat → List AV → List AV → Sto → Prop, P = fun m S L τ => ∃ p i : Int, S = [] ∧ L = [vR 10, vI p, vI (hsum (fun _ => -1) (σ 13) (σ 15) p i), vI i] ∧ (∀ p : Nat, p ≠ 65 → τ p = σ p) ∧ 0 ≤ p ∧ p < σ 1 0 ∧ 0 ≤ i ∧ i ≤ σ 12 p ∧ ¬ σ 2 10 = 0 ∧ (∀ a x, 0 ≤ a → a < 7 → 0 ≤ x → x < 10 → τ 65 (a * 10 + x) = if a < p then ayC σ a x else if a = p then ayi σ p i x else -1) ∧ m = ((6 - p) * 100 + 50 + (16 - i)).toNat := ⟨_, rfl⟩
    have s37 : ∀ (τ : Sto) (i v : Int), su τ 65 i v 37 = τ 37 := fun _ _ _ => su_r (by decide)
    refine at_meth (lv := V_X3_findAshes) (B := B_X3_findAshes) (e_X3_findAshes o) k_X3_findAshes 4 [(10, P10), (35, P35)] (List.forall_mem_cons.mpr ⟨?_, List.forall_mem_cons.mpr ⟨?_, fun _ h => absurd h List.not_mem_nil⟩⟩) 0 [] _ σ ?_
    · intro m S L τ hI
      rw [hP10] at hI
      obtain ⟨p, rfl, rfl, he, p0, p1, hl, hg, hm⟩ := hI
      simp only [sq_iconst, sq_jsr, sq_anewarray, sq_iload, sq_lload, sq_aload, sq_istore, sq_lstore, sq_astore, sq_iinc, sq_getfield, st_put0, st_put1, st_put3, sq_inv, sq_goto, sq_icmp, sq_ifc, sq_tsw, sq_iadd, sq_isub, sq_imul, sq_ineg, sq_idiv, sq_irem, sq_iand, sq_ior, sq_ixor, sq_ishl, sq_ishr, sq_iushr, sq_ladd, sq_lmul, sq_ldiv, sq_lrem, sq_land, sq_lor, sq_lshl, sq_lushr, sq_lcmp, sq_i2l, sq_l2i, sq_i2c, sq_i2b, sq_dupI, sq_dupR, sq_dup2, sq_pop, sq_iaload, sq_baload, sq_aaload, sq_iastore, sq_bastore, sq_alen, sq_ireturn, sq_lreturn, sq_return, wq_c, wq_n, wlq_s, lkp, tbl, dBk, nth, setL, canSet, cmpI, tk, swK, rdF, entL, catS, cat1, arg, rcv, ald, bld, aln, br, Ccopy, Cmax, Cmin, Cabs, List.take, List.drop, List.reverse, List.reverseAux, List.length, List.append, List.nil_append, List.cons_append, true_and, and_true, and_self, forall_const, true_implies, false_implies, not_true_eq_false, not_false_eq_true, Option.map, reduceCtorEq, reduceIte, or_true, true_or, false_or, or_false, false_and, and_false, List.map, List.append_nil, implies_true, yK, Nat.reduceBEq, beq_self_eq_true, Int.zero_ne_one, Nat.reduceDiv, Nat.reduceMod, Nat.reduceAdd, Nat.reduceSub, Nat.reduceMul, Nat.reduceEqDiff, Nat.reduceLeDiff, Int.reduceToNat, Int.reduceNeg, Int.reduceEq, Int.reduceLT, Int.reduceLE, Int.reduceNatCast, Int.reduceNatCast', Int.reduceAdd, Int.reduceSub, Int.reduceMul, eq_self, Prod.mk.injEq, A_X3_findAshes, V_X3_findAshes, B_X3_findAshes, Y_X3_findAshes, C_J7_fill_53178, C_X6_kindOf, C_X6_nOf, C_X1_halvesOf, shpT, rfsT, wjq_s, look, he 1 (by decide), he 2 (by decide), he 12 (by decide), he 13 (by decide), he 15 (by decide), he 37 (by decide)]
      rw [hP35]
      refine ⟨fun h => hq τ he (fun a x a0 a1 x0 x1 => ?_), fun h => ⟨fun h1 => hq τ he (fun a x a0 a1 x0 x1 => ?_), fun h1 => ⟨_, ?_, p, 0, rfl, rfl, he, p0, (by omega), (by omega), (hs p p0 (by omega)).1, h, fun a x a0 a1 x0 x1 => ?_, rfl⟩⟩⟩
      · rw [hg a x a0 a1 x0 x1, if_neg (by have := hl h; omega)]
        unfold ayC
        rw [if_neg (fun z => z.1 h)]
      · rw [hg a x a0 a1 x0 x1]
        by_cases c : a < p
        · rw [if_pos c]
        · rw [if_neg c]
          unfold ayC
          rw [if_neg (by omega)]
      · omega
      · rw [hg a x a0 a1 x0 x1]
        by_cases c : a < p
        · rw [if_pos c, if_pos c]
        · rw [if_neg c, if_neg c]
          split
          · rfl
          · rfl
    · intro m S L τ hI
      rw [hP35] at hI
      obtain ⟨p, i, rfl, rfl, he, p0, p1, i0, i1, hl, hg, hm⟩ := hI
      simp only [sq_iconst, sq_jsr, sq_anewarray, sq_iload, sq_lload, sq_aload, sq_istore, sq_lstore, sq_astore, sq_iinc, sq_getfield, st_put0, st_put1, st_put3, sq_inv, sq_goto, sq_icmp, sq_ifc, sq_tsw, sq_iadd, sq_isub, sq_imul, sq_ineg, sq_idiv, sq_irem, sq_iand, sq_ior, sq_ixor, sq_ishl, sq_ishr, sq_iushr, sq_ladd, sq_lmul, sq_ldiv, sq_lrem, sq_land, sq_lor, sq_lshl, sq_lushr, sq_lcmp, sq_i2l, sq_l2i, sq_i2c, sq_i2b, sq_dupI, sq_dupR, sq_dup2, sq_pop, sq_iaload, sq_baload, sq_aaload, sq_iastore, sq_bastore, sq_alen, sq_ireturn, sq_lreturn, sq_return, wq_c, wq_n, wlq_s, lkp, tbl, dBk, nth, setL, canSet, cmpI, tk, swK, rdF, entL, catS, cat1, arg, rcv, ald, bld, aln, br, Ccopy, Cmax, Cmin, Cabs, List.take, List.drop, List.reverse, List.reverseAux, List.length, List.append, List.nil_append, List.cons_append, true_and, and_true, and_self, forall_const, true_implies, false_implies, not_true_eq_false, not_false_eq_true, Option.map, reduceCtorEq, reduceIte, or_true, true_or, false_or, or_false, false_and, and_false, List.map, List.append_nil, implies_true, yK, Nat.reduceBEq, beq_self_eq_true, Int.zero_ne_one, Nat.reduceDiv, Nat.reduceMod, Nat.reduceAdd, Nat.reduceSub, Nat.reduceMul, Nat.reduceEqDiff, Nat.reduceLeDiff, Int.reduceToNat, Int.reduceNeg, Int.reduceEq, Int.reduceLT, Int.reduceLE, Int.reduceNatCast, Int.reduceNatCast', Int.reduceAdd, Int.reduceSub, Int.reduceMul, eq_self, Prod.mk.injEq, A_X3_findAshes, V_X3_findAshes, B_X3_findAshes, Y_X3_findAshes, C_J7_fill_53178, C_X6_kindOf, C_X6_nOf, C_X1_halvesOf, shpT, rfsT, wjq_s, look, s37, he 1 (by decide), he 2 (by decide), he 12 (by decide), he 13 (by decide), he 15 (by decide), he 37 (by decide)]
      have sz := hs p p0 (by omega)
      refine ⟨⟨by omega, by omega⟩, fun h => ⟨⟨by omega, by omega⟩, ?_⟩, fun h => ?_⟩
      · rw [hP10]
        refine ⟨_, ?_, p + 1, rfl, rfl, he, (by omega), (by omega), fun z => absurd z hl, fun a x a0 a1 x0 x1 => ?_, rfl⟩
        · omega
        · rw [hg a x a0 a1 x0 x1]
          by_cases c : a < p
          · rw [if_pos c, if_pos (by omega)]
          · rw [if_neg c]
            by_cases d : a = p
            · rw [if_pos d, if_pos (by omega), d]
              have : i = σ 12 p := by omega
              subst this
              unfold ayi ayC asM yrM
              by_cases e : ff (ashP (σ 13) (σ 15) p x) 0 (σ 12 p).toNat = -1
              · rw [if_pos e, if_neg (fun z => z.2.2 e)]
              · rw [if_neg e, if_pos ⟨hl, p1, e⟩]
                rfl
            · rw [if_neg d, if_neg (by omega)]
      · have k5 := hPI (p * 16 + i) (by omega) (by omega)
        have hle := hsum_le hPI TI_m ⟨p0, by omega⟩ ⟨i0, by omega⟩
        have hv6 := hv_le (r := fun _ => -1) ⟨k5.1, k5.2.1⟩ ⟨k5.2.2.1, k5.2.2.2⟩ (by show (-1 : Int) ≤ -1 ∧ (-1 : Int) ≤ 9; decide)
        have hw : hv (fun c => σ 37 (0 + c)) (σ 13 (p * 16 + i)) (σ 15 (p * 16 + i)) = hv (fun _ => -1) (σ 13 (p * 16 + i)) (σ 15 (p * 16 + i)) := hv_pl (by show σ 37 (0 + _) = -1; rw [Int.zero_add]; exact hpl _ k5.1 (by omega))
        simp only [hw]
        have nx : ∀ τ' : Sto, (∀ p : Nat, p ≠ 65 → τ' p = σ p) → (∀ a x, 0 ≤ a → a < 7 → 0 ≤ x → x < 10 → τ' 65 (a * 10 + x) = if a < p then ayC σ a x else if a = p then ayi σ p (i + 1) x else -1) → i32 (hsum (fun _ => -1) (σ 13) (σ 15) p i + hv (fun _ => -1) (σ 13 (p * 16 + i)) (σ 15 (p * 16 + i))) ∧ i32 (i + 1) ∧ ∃ m_1, m_1 < m ∧ P35 m_1 [] [vR 10, vI p, vI (hsum (fun _ => -1) (σ 13) (σ 15) p i + hv (fun _ => -1) (σ 13 (p * 16 + i)) (σ 15 (p * 16 + i))), vI (i + 1)] τ' := by
          intro τ' he' hg'
          rw [hP35]
          refine ⟨⟨by omega, by omega⟩, ⟨by omega, by omega⟩, _, ?_, p, i + 1, rfl, by rw [hsum_s i0], he', p0, p1, (by omega), (by omega), hl, hg', rfl⟩
          omega
        have kd : 0 ≤ σ 13 (p * 16 + i) ∧ σ 13 (p * 16 + i) < 7 ∧ 0 ≤ σ 15 (p * 16 + i) ∧ σ 15 (p * 16 + i) ≤ 9 := ⟨(by omega), (by omega), (by omega), (by omega)⟩
        have pr : 0 ≤ p ∧ p < 7 ∧ 0 ≤ i ∧ i < 16 := ⟨(by omega), (by omega), (by omega), (by omega)⟩
        have tp := hg p (σ 15 (p * 16 + i)) p0 (by omega) (by omega) (by omega)
        rw [if_neg (by omega), if_pos rfl] at tp
        refine ⟨pr, pr, fun h1 => ⟨kd, nx τ he (fun a x a0 a1 x0 x1 => ?_)⟩, fun h1 => ⟨⟨by omega, by omega⟩, ⟨by omega, by omega⟩, ⟨by omega, by omega⟩, fun h2 => ⟨kd, nx τ he (fun a x a0 a1 x0 x1 => ?_)⟩, fun h2 => ⟨⟨by omega, by omega⟩, ⟨by omega, by omega⟩, ⟨by omega, by omega⟩, kd, nx _ (fun y hy => by rw [su_r hy]; exact he y hy) (fun a x a0 a1 x0 x1 => ?_)⟩⟩⟩
        · have ee : ayi σ p (i + 1) x = ayi σ p i x := by
            rw [ayi_s i0, show ashP (σ 13) (σ 15) p x i = false by simp [ashP, h1], if_neg (fun z => absurd z.2.2 (by simp))]
          rw [hg a x a0 a1 x0 x1, ee]
        · have ee : ayi σ p (i + 1) x = ayi σ p i x := by
            rw [ayi_s i0]
            by_cases c : x = σ 15 (p * 16 + i)
            · rw [← c] at tp h2
              rw [tp] at h2
              rw [if_neg (fun z => h2 z.1)]
            · rw [show ashP (σ 13) (σ 15) p x i = false by simp only [ashP, decide_eq_false_iff_not]; omega, if_neg (fun z => absurd z.2.2 (by simp))]
          rw [hg a x a0 a1 x0 x1, ee]
        · rw [su_at]
          by_cases c : a = p ∧ x = σ 15 (p * 16 + i)
          · rw [if_pos (by rw [c.1, c.2]), if_neg (show ¬ a < p by omega), if_pos c.1, ayi_s i0]
            have h3 : ayi σ p i x = -1 := by rw [c.2, ← tp]; exact Classical.not_not.mp h2
            have h4 : ff (ashP (σ 13) (σ 15) p x) 0 i.toNat = -1 := by
              by_cases e : ff (ashP (σ 13) (σ 15) p x) 0 i.toNat = -1
              · exact e
              · exfalso
                unfold ayi at h3
                rw [if_neg e] at h3
                have f1 := (ff_in (P := ashP (σ 13) (σ 15) p x) i.toNat 0).resolve_left e
                have f2 := hsum_le (n := ff (ashP (σ 13) (σ 15) p x) 0 i.toNat) hPI TI_m ⟨p0, by omega⟩ ⟨f1.1, by omega⟩
                rw [tdiv2 f2.1] at h3
                omega
            have h5 : ashP (σ 13) (σ 15) p x i = true := by
              simp only [ashP, decide_eq_true_eq]
              exact ⟨Classical.not_not.mp h1, c.2.symm⟩
            rw [if_pos ⟨h3, h4, h5⟩]
          · rw [if_neg (by omega), hg a x a0 a1 x0 x1]
            by_cases d : a < p
            · rw [if_pos d, if_pos d]
            · rw [if_neg d, if_neg d]
              by_cases e : a = p
              · rw [if_pos e, if_pos e]
                rw [ayi_s i0, show ashP (σ 13) (σ 15) p x i = false by simp only [ashP, decide_eq_false_iff_not]; omega, if_neg (fun z => absurd z.2.2 (by simp))]
              · rw [if_neg e, if_neg e]
    · simp only [sq_iconst, sq_jsr, sq_anewarray, sq_iload, sq_lload, sq_aload, sq_istore, sq_lstore, sq_astore, sq_iinc, sq_getfield, st_put0, st_put1, st_put3, sq_inv, sq_goto, sq_icmp, sq_ifc, sq_tsw, sq_iadd, sq_isub, sq_imul, sq_ineg, sq_idiv, sq_irem, sq_iand, sq_ior, sq_ixor, sq_ishl, sq_ishr, sq_iushr, sq_ladd, sq_lmul, sq_ldiv, sq_lrem, sq_land, sq_lor, sq_lshl, sq_lushr, sq_lcmp, sq_i2l, sq_l2i, sq_i2c, sq_i2b, sq_dupI, sq_dupR, sq_dup2, sq_pop, sq_iaload, sq_baload, sq_aaload, sq_iastore, sq_bastore, sq_alen, sq_ireturn, sq_lreturn, sq_return, wq_c, wq_n, wlq_s, lkp, tbl, dBk, nth, setL, canSet, cmpI, tk, swK, rdF, entL, catS, cat1, arg, rcv, ald, bld, aln, br, Ccopy, Cmax, Cmin, Cabs, List.take, List.drop, List.reverse, List.reverseAux, List.length, List.append, List.nil_append, List.cons_append, true_and, and_true, and_self, forall_const, true_implies, false_implies, not_true_eq_false, not_false_eq_true, Option.map, reduceCtorEq, reduceIte, or_true, true_or, false_or, or_false, false_and, and_false, List.map, List.append_nil, implies_true, yK, Nat.reduceBEq, beq_self_eq_true, Int.zero_ne_one, Nat.reduceDiv, Nat.reduceMod, Nat.reduceAdd, Nat.reduceSub, Nat.reduceMul, Nat.reduceEqDiff, Nat.reduceLeDiff, Int.reduceToNat, Int.reduceNeg, Int.reduceEq, Int.reduceLT, Int.reduceLE, Int.reduceNatCast, Int.reduceNatCast', Int.reduceAdd, Int.reduceSub, Int.reduceMul, eq_self, Prod.mk.injEq, A_X3_findAshes, V_X3_findAshes, B_X3_findAshes, Y_X3_findAshes, C_J7_fill_53178, C_X6_kindOf, C_X6_nOf, C_X1_halvesOf, shpT, rfsT, wjq_s, look]
      rw [hP10]
      exact ⟨⟨70, rfl, (by omega)⟩, fun τ h1 h2 => ⟨_, 0, rfl, rfl, h1, (by omega), (by omega), fun _ => rfl, fun a x a0 a1 x0 x1 => by rw [h2 _ (by omega) (by omega), if_neg (by omega)], rfl⟩⟩

