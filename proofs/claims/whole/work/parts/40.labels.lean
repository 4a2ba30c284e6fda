-- ===== what hangs together, of the class =====
/-- the labels are the finest that go with K -/
def LabK (K : Kn) (l : Int → Int) : Prop := ∀ i j, nd i → nd j → (l i = l j ↔ ∀ f, Rsp K f → f i = f j)
def LbI (l : Int → Int) : Prop := ∀ i, nd i → 0 ≤ l i ∧ l i < 8
theorem LabK_ext {K K' : Kn} {l : Int → Int} (h : ∀ f, Rsp K f ↔ Rsp K' f) (hL : LabK K l) : LabK K' l := fun i j a b => by
  rw [hL i j a b]
  exact ⟨fun z f hf => z f ((h f).mpr hf), fun z f hf => z f ((h f).mp hf)⟩
theorem Rsp_ext {K K' : Kn} (h : ∀ a b lo hi, K a b lo hi ↔ K' a b lo hi) : ∀ f, Rsp K f ↔ Rsp K' f := fun f => ⟨fun z a b lo hi k => z a b lo hi ((h a b lo hi).mpr k), fun z a b lo hi k => z a b lo hi ((h a b lo hi).mp k)⟩
theorem LabK_0 {l : Int → Int} (h : ∀ i, nd i → l i = i) : LabK noK l := fun i j a b => by
  rw [h i a, h j b]
  exact ⟨fun z f _ => by rw [z], fun z => z (fun x => x) (fun _ _ _ _ q => q.elim)⟩
/-- two sets of labels become one -/
theorem LabK_add {K : Kn} {l l' : Int → Int} {a b lo hi : Int} (ha : nd a) (hb : nd b) (hL : LabK K l) (h : ∀ i, nd i → l' i = if l i = l b then l a else l i) (hE : ∀ x y u v, K x y u v → nd x ∧ nd y) : LabK (addK K a b lo hi) l' := by
  have rl : ∀ f, Rsp K f → ∀ i j, nd i → nd j → l i = l j → f i = f j := fun f hf i j c d e => (hL i j c d).mp e f hf
  intro i j c d
  constructor
  · intro e f hf
    obtain ⟨f1, f2⟩ := Rsp_add.mp hf
    rw [h i c, h j d] at e
    by_cases c1 : l i = l b
    · by_cases c2 : l j = l b
      · exact rl f f1 i j c d (by rw [c1, c2])
      · rw [if_pos c1, if_neg c2] at e
        rw [rl f f1 i b c hb c1, ← f2, rl f f1 a j ha d e]
    · by_cases c2 : l j = l b
      · rw [if_neg c1, if_pos c2] at e
        rw [rl f f1 j b d hb c2, ← f2, rl f f1 i a c ha e]
      · rw [if_neg c1, if_neg c2] at e
        exact rl f f1 i j c d e
  · intro z
    refine z l' (Rsp_add.mpr ⟨fun x y u v k => ?_, ?_⟩)
    · obtain ⟨n1, n2⟩ := hE x y u v k
      have e : l x = l y := (hL x y n1 n2).mpr (fun f hf => hf x y u v k)
      rw [h x n1, h y n2, e]
    · rw [h a ha, h b hb, if_pos rfl]
      split <;> rfl
def A_X3_hangTogether : List (Nat × Ctr) := []
theorem e_X3_hangTogether (o : OM) : Ev o Y_X3_hangTogether 0 T_X3_hangTogether A_X3_hangTogether := ⟨rfl, List.forall_mem_cons.mpr ⟨Or.inl f_X3_29, fun _ h => absurd h List.not_mem_nil⟩, fun _ h => absurd h List.not_mem_nil, fun _ h => absurd h List.not_mem_nil, fun _ h => absurd h List.not_mem_nil, fun _ h => absurd h List.not_mem_nil, fun _ h => absurd h List.not_mem_nil⟩
def C_X3_hangTogether : Ctr := fun A σ κ => match A with
  | [.inr (.inr (.inl 10)), .inl a, .inl b] => (nd a ∧ nd b) ∧ ∀ τ : Sto, (∀ p : Nat, p ≠ 66 → τ p = σ p) → (∀ i, nd i → τ 66 i = if σ 66 i = σ 66 b then σ 66 a else σ 66 i) → κ [] τ
  | _ => False
set_option maxRecDepth 20000 in
theorem s_X3_hangTogether (o : OM) : Sound o Y_X3_hangTogether 0 C_X3_hangTogether := by
  intro Q A σ hA hC
  match A, hA, hC with
  | [.inr (.inr (.inl 10)), .inl a, .inl b], hA, hC =>
    obtain ⟨h0, hq⟩ : (nd a ∧ nd b) ∧ ∀ τ : Sto, (∀ p : Nat, p ≠ 66 → τ p = σ p) → (∀ i, nd i → τ 66 i = if σ 66 i = σ 66 b then σ 66 a else σ 66 i) → Q [] τ := hC
    obtain ⟨ha, hb⟩ := h0
    unfold nd at ha hb
    refine at_meth (lv := V_X3_hangTogether) (B := B_X3_hangTogether) (e_X3_hangTogether o) k_X3_hangTogether 4 [(18, fun m S L τ => ∃ i : Int, S = [] ∧ L = [vR 10, vI a, vI b, vI (σ 66 b), vI (σ 66 a), vI i] ∧ (∀ p : Nat, p ≠ 66 → τ p = σ p) ∧ 0 ≤ i ∧ i ≤ 8 ∧ (∀ j, nd j → τ 66 j = if j < i ∧ σ 66 j = σ 66 b then σ 66 a else σ 66 j) ∧ m = (8 - i).toNat)] (List.forall_mem_cons.mpr ⟨?_, fun _ h => absurd h List.not_mem_nil⟩) 0 [] _ σ ?_
    · rintro m S L τ ⟨i, rfl, rfl, he, i0, i1, hg, hm⟩
      simp only [sq_iconst, sq_jsr, sq_anewarray, sq_iload, sq_lload, sq_aload, sq_istore, sq_lstore, sq_astore, sq_iinc, sq_getfield, st_put0, st_put1, st_put3, sq_inv, sq_goto, sq_icmp, sq_ifc, sq_tsw, sq_iadd, sq_isub, sq_imul, sq_ineg, sq_idiv, sq_irem, sq_iand, sq_ior, sq_ixor, sq_ishl, sq_ishr, sq_iushr, sq_ladd, sq_lmul, sq_ldiv, sq_lrem, sq_land, sq_lor, sq_lshl, sq_lushr, sq_lcmp, sq_i2l, sq_l2i, sq_i2c, sq_i2b, sq_dupI, sq_dupR, sq_dup2, sq_pop, sq_iaload, sq_baload, sq_aaload, sq_iastore, sq_bastore, sq_alen, sq_ireturn, sq_lreturn, sq_return, wq_c, wq_n, wlq_s, lkp, tbl, dBk, nth, setL, canSet, cmpI, tk, swK, rdF, entL, catS, cat1, arg, rcv, ald, bld, aln, br, Ccopy, Cmax, Cmin, Cabs, List.take, List.drop, List.reverse, List.reverseAux, List.length, List.append, List.nil_append, List.cons_append, true_and, and_true, and_self, forall_const, true_implies, false_implies, not_true_eq_false, not_false_eq_true, Option.map, reduceCtorEq, reduceIte, or_true, true_or, false_or, or_false, false_and, and_false, List.map, List.append_nil, implies_true, yK, Nat.reduceBEq, beq_self_eq_true, Int.zero_ne_one, Nat.reduceDiv, Nat.reduceMod, Nat.reduceAdd, Nat.reduceSub, Nat.reduceMul, Nat.reduceEqDiff, Nat.reduceLeDiff, Int.reduceToNat, Int.reduceNeg, Int.reduceEq, Int.reduceLT, Int.reduceLE, Int.reduceNatCast, Int.reduceNatCast', Int.reduceAdd, Int.reduceSub, Int.reduceMul, eq_self, Prod.mk.injEq, A_X3_hangTogether, V_X3_hangTogether, B_X3_hangTogether, Y_X3_hangTogether, shpT, rfsT, wjq_s, look]
      refine ⟨fun h => hq τ he (fun j a => ?_), fun h => ?_⟩
      · rw [hg j a]
        unfold nd at a
        by_cases c : σ 66 j = σ 66 b
        · rw [if_pos c, if_pos ⟨by omega, c⟩]
        · rw [if_neg c, if_neg (fun z => c z.2)]
      · have gi := hg i ⟨by omega, by omega⟩
        rw [if_neg (by omega)] at gi
        rw [gi]
        refine ⟨⟨by omega, by omega⟩, fun h1 => ⟨⟨by omega, by omega⟩, _, ?_, i + 1, rfl, he, (by omega), (by omega), fun j a => ?_, rfl⟩, fun h1 => ⟨⟨by omega, by omega⟩, ⟨by omega, by omega⟩, _, ?_, i + 1, rfl, fun p hp => by rw [su_r hp]; exact he p hp, (by omega), (by omega), fun j a => ?_, rfl⟩⟩
        · omega
        · rw [hg j a]
          by_cases c : j < i ∧ σ 66 j = σ 66 b
          · rw [if_pos c, if_pos ⟨by omega, c.2⟩]
          · by_cases d : j = i
            · rw [d, if_neg (by omega), if_neg (fun z => h1 z.2)]
            · rw [if_neg c, if_neg (by omega)]
        · omega
        · rw [su_at]
          by_cases d : j = i
          · rw [if_pos d, d, if_pos ⟨by omega, Classical.not_not.mp h1⟩]
          · rw [if_neg d, hg j a]
            by_cases c : j < i ∧ σ 66 j = σ 66 b
            · rw [if_pos c, if_pos ⟨by omega, c.2⟩]
            · rw [if_neg c, if_neg (by omega)]
    · simp only [sq_iconst, sq_jsr, sq_anewarray, sq_iload, sq_lload, sq_aload, sq_istore, sq_lstore, sq_astore, sq_iinc, sq_getfield, st_put0, st_put1, st_put3, sq_inv, sq_goto, sq_icmp, sq_ifc, sq_tsw, sq_iadd, sq_isub, sq_imul, sq_ineg, sq_idiv, sq_irem, sq_iand, sq_ior, sq_ixor, sq_ishl, sq_ishr, sq_iushr, sq_ladd, sq_lmul, sq_ldiv, sq_lrem, sq_land, sq_lor, sq_lshl, sq_lushr, sq_lcmp, sq_i2l, sq_l2i, sq_i2c, sq_i2b, sq_dupI, sq_dupR, sq_dup2, sq_pop, sq_iaload, sq_baload, sq_aaload, sq_iastore, sq_bastore, sq_alen, sq_ireturn, sq_lreturn, sq_return, wq_c, wq_n, wlq_s, lkp, tbl, dBk, nth, setL, canSet, cmpI, tk, swK, rdF, entL, catS, cat1, arg, rcv, ald, bld, aln, br, Ccopy, Cmax, Cmin, Cabs, List.take, List.drop, List.reverse, List.reverseAux, List.length, List.append, List.nil_append, List.cons_append, true_and, and_true, and_self, forall_const, true_implies, false_implies, not_true_eq_false, not_false_eq_true, Option.map, reduceCtorEq, reduceIte, or_true, true_or, false_or, or_false, false_and, and_false, List.map, List.append_nil, implies_true, yK, Nat.reduceBEq, beq_self_eq_true, Int.zero_ne_one, Nat.reduceDiv, Nat.reduceMod, Nat.reduceAdd, Nat.reduceSub, Nat.reduceMul, Nat.reduceEqDiff, Nat.reduceLeDiff, Int.reduceToNat, Int.reduceNeg, Int.reduceEq, Int.reduceLT, Int.reduceLE, Int.reduceNatCast, Int.reduceNatCast', Int.reduceAdd, Int.reduceSub, Int.reduceMul, eq_self, Prod.mk.injEq, A_X3_hangTogether, V_X3_hangTogether, B_X3_hangTogether, Y_X3_hangTogether, shpT, rfsT, wjq_s, look]
      exact ⟨⟨by omega, by omega⟩, ⟨by omega, by omega⟩, _, 0, rfl, (by omega), (by omega), fun j a => by unfold nd at a; rw [if_neg (by omega)], rfl⟩
def A_X3_groupAshes : List (Nat × Ctr) := [(2, rcv 3 3 C_X3_firstPitWithAsh), (3, rcv 3 3 C_X3_hasAsh), (3, rcv 3 6 C_X3_hangTogether)]
theorem e_X3_groupAshes (o : OM) : Ev o Y_X3_groupAshes 2 T_X3_groupAshes A_X3_groupAshes := ⟨rfl, List.forall_mem_cons.mpr ⟨Or.inl f_X3_51, List.forall_mem_cons.mpr ⟨Or.inl f_X3_85, fun _ h => absurd h List.not_mem_nil⟩⟩, fun _ h => absurd h List.not_mem_nil, fun _ h => absurd h List.not_mem_nil, fun _ h => absurd h List.not_mem_nil, List.forall_mem_cons.mpr ⟨cl_X3_firstPitWithAsh (s_X3_firstPitWithAsh o) (by decide) (Or.inl w_850), List.forall_mem_cons.mpr ⟨cl_X3_hasAsh (s_X3_hasAsh o) (by decide) (Or.inl w_854), List.forall_mem_cons.mpr ⟨cl_X3_hangTogether (s_X3_hangTogether o) (by decide) (Or.inl w_904), fun _ h => absurd h List.not_mem_nil⟩⟩⟩, fun _ h => absurd h List.not_mem_nil⟩
def C_X3_groupAshes : Ctr := fun A σ κ => match A with
  | [.inr (.inr (.inl 10)), .inl n] => ((0 ≤ σ 1 0 ∧ σ 1 0 ≤ 7) ∧ (0 ≤ n ∧ n < 10) ∧ LbI (σ 66)) ∧ ∃ K : Kn, LabK K (σ 66) ∧ (∀ x y u v, K x y u v → nd x ∧ nd y) ∧ (∀ τ : Sto, (∀ p : Nat, p ≠ 66 → τ p = σ p) → LbI (τ 66) → LabK (orK K (KSd (σ 65) (σ 1 0) n (σ 1 0))) (τ 66) → κ [] τ)
  | _ => False
set_option maxRecDepth 20000 in
theorem s_X3_groupAshes (o : OM) : Sound o Y_X3_groupAshes 2 C_X3_groupAshes := by
  intro Q A σ hA hC
  match A, hA, hC with
  | [.inr (.inr (.inl 10)), .inl n], hA, hC =>
    obtain ⟨h0, hq⟩ : ((0 ≤ σ 1 0 ∧ σ 1 0 ≤ 7) ∧ (0 ≤ n ∧ n < 10) ∧ LbI (σ 66)) ∧ ∃ K : Kn, LabK K (σ 66) ∧ (∀ x y u v, K x y u v → nd x ∧ nd y) ∧ (∀ τ : Sto, (∀ p : Nat, p ≠ 66 → τ p = σ p) → LbI (τ 66) → LabK (orK K (KSd (σ 65) (σ 1 0) n (σ 1 0))) (τ 66) → Q [] τ) := hC
    obtain ⟨hn, hx, hl⟩ := h0
    obtain ⟨K, hK, hE, hq1⟩ := hq
    obtain ⟨one, hone⟩ : ∃ o, o = ff (haP (σ 65) n) 0 (σ 1 0).toNat := ⟨_, rfl⟩
    have on1 : one = -1 ∨ (0 ≤ one ∧ one < σ 1 0 ∧ ¬ σ 65 (one * 10 + n) = -1) := by
      rw [hone]
      rcases ff_in (P := haP (σ 65) n) (σ 1 0).toNat 0 with h | ⟨h1, h2, h3⟩
      · exact Or.inl h
      · exact Or.inr ⟨h1, by omega, of_decide_eq_true h3⟩
    have hE2 : ∀ P, P ≤ σ 1 0 → ∀ x y u v, orK K (KSd (σ 65) (σ 1 0) n P) x y u v → nd x ∧ nd y := by
      intro P hP x y u v z
      rcases z with z | ⟨p, z1, z2, z3, z4, z5, rfl, -⟩
      · exact hE x y u v z
      · rw [← hone] at z1
        unfold nd
        omega
    obtain ⟨P10, hP10⟩ : ∃ P : Nat → List AV → List AV → Sto → Prop, P = fun m S L τ => ∃ p : Int, S = [] ∧ L = [vR 10, vI n, vI one, vI p] ∧ (∀ p : Nat, p ≠ 66 → τ p = σ p) ∧ one + 1 ≤ p ∧ p ≤ σ 1 0 ∧ LbI (τ 66) ∧ LabK (orK K (KSd (σ 65) (σ 1 0) n p)) (τ 66) ∧ m = (7 - p).toNat := ⟨_, rfl⟩
    refine at_meth (lv := V_X3_groupAshes) (B := B_X3_groupAshes) (e_X3_groupAshes o) k_X3_groupAshes 4 [(10, P10)] (List.forall_mem_cons.mpr ⟨?_, fun _ h => absurd h List.not_mem_nil⟩) 0 [] _ σ ?_
    · intro m S L τ hI
      rw [hP10] at hI
      obtain ⟨p, rfl, rfl, he, p0, p1, hb, hg, hm⟩ := hI
      simp only [sq_iconst, sq_jsr, sq_anewarray, sq_iload, sq_lload, sq_aload, sq_istore, sq_lstore, sq_astore, sq_iinc, sq_getfield, st_put0, st_put1, st_put3, sq_inv, sq_goto, sq_icmp, sq_ifc, sq_tsw, sq_iadd, sq_isub, sq_imul, sq_ineg, sq_idiv, sq_irem, sq_iand, sq_ior, sq_ixor, sq_ishl, sq_ishr, sq_iushr, sq_ladd, sq_lmul, sq_ldiv, sq_lrem, sq_land, sq_lor, sq_lshl, sq_lushr, sq_lcmp, sq_i2l, sq_l2i, sq_i2c, sq_i2b, sq_dupI, sq_dupR, sq_dup2, sq_pop, sq_iaload, sq_baload, sq_aaload, sq_iastore, sq_bastore, sq_alen, sq_ireturn, sq_lreturn, sq_return, wq_c, wq_n, wlq_s, lkp, tbl, dBk, nth, setL, canSet, cmpI, tk, swK, rdF, entL, catS, cat1, arg, rcv, ald, bld, aln, br, Ccopy, Cmax, Cmin, Cabs, List.take, List.drop, List.reverse, List.reverseAux, List.length, List.append, List.nil_append, List.cons_append, true_and, and_true, and_self, forall_const, true_implies, false_implies, not_true_eq_false, not_false_eq_true, Option.map, reduceCtorEq, reduceIte, or_true, true_or, false_or, or_false, false_and, and_false, List.map, List.append_nil, implies_true, yK, Nat.reduceBEq, beq_self_eq_true, Int.zero_ne_one, Nat.reduceDiv, Nat.reduceMod, Nat.reduceAdd, Nat.reduceSub, Nat.reduceMul, Nat.reduceEqDiff, Nat.reduceLeDiff, Int.reduceToNat, Int.reduceNeg, Int.reduceEq, Int.reduceLT, Int.reduceLE, Int.reduceNatCast, Int.reduceNatCast', Int.reduceAdd, Int.reduceSub, Int.reduceMul, eq_self, Prod.mk.injEq, A_X3_groupAshes, V_X3_groupAshes, B_X3_groupAshes, Y_X3_groupAshes, C_X3_firstPitWithAsh, C_X3_hasAsh, C_X3_hangTogether, shpT, rfsT, wjq_s, look, he 1 (by decide), he 65 (by decide)]
      refine ⟨fun h => hq1 τ he hb (LabK_ext (Rsp_ext (fun a b lo hi => ?_)) hg), fun h => ⟨fun h1 => hq1 τ he hb ?_, fun h1 => ⟨⟨⟨by omega, by omega⟩, hx⟩, fun h2 => ?_, fun h2 => ⟨⟨by omega, by omega⟩, ?_⟩⟩⟩⟩
      · unfold orK
        constructor
        · rintro (z | ⟨q, z1, z2, -⟩)
          · exact Or.inl z
          · exact absurd (by rw [z1, ← hone, h]) z2
        · rintro (z | ⟨q, z1, z2, -⟩)
          · exact Or.inl z
          · exact absurd (by rw [z1, ← hone, h]) z2
      · have : p = σ 1 0 := by omega
        rw [this] at hg
        exact hg
      · have o2 := on1.resolve_left h
        have n1 : nd one := ⟨by omega, by omega⟩
        have n2 : nd p := ⟨by omega, by omega⟩
        refine ⟨⟨n1, n2⟩, fun τ' hf hN => ⟨⟨by omega, by omega⟩, ?_⟩⟩
        rw [hP10]
        refine ⟨_, ?_, p + 1, rfl, rfl, fun y hy => by rw [hf y hy, he y hy], (by omega), (by omega), fun i a => ?_, LabK_ext (Rsp_ext (fun a b lo hi => ?_)) (LabK_add (lo := σ 65 (one * 10 + n) - σ 65 (p * 10 + n)) (hi := σ 65 (one * 10 + n) - σ 65 (p * 10 + n)) n1 n2 hg hN (hE2 p p1)), rfl⟩
        · omega
        · rw [hN i a]
          have b1 := hb i a
          have b2 := hb one n1
          split <;> omega
        · unfold addK orK
          rw [KSd_s, or_assoc, ← hone]
          constructor
          · rintro (z | z | ⟨rfl, rfl, rfl, rfl⟩)
            · exact Or.inl z
            · exact Or.inr (Or.inl z)
            · exact Or.inr (Or.inr ⟨rfl, h, by omega, h2, rfl, rfl, rfl⟩)
          · rintro (z | z | ⟨rfl, z1, z2, z3, rfl, rfl, rfl⟩)
            · exact Or.inl z
            · exact Or.inr (Or.inl z)
            · exact Or.inr (Or.inr ⟨rfl, rfl, rfl, rfl⟩)
      · rw [hP10]
        refine ⟨_, ?_, p + 1, rfl, rfl, he, (by omega), (by omega), hb, LabK_ext (Rsp_ext (fun a b lo hi => ?_)) hg, rfl⟩
        · omega
        · unfold orK
          rw [KSd_s]
          exact ⟨fun z => z.elim Or.inl (fun z => Or.inr (Or.inl z)), fun z => z.elim Or.inl (fun z => z.elim Or.inr (fun z => absurd (Classical.not_not.mp h2) z.2.2.2.1))⟩
    · simp only [sq_iconst, sq_jsr, sq_anewarray, sq_iload, sq_lload, sq_aload, sq_istore, sq_lstore, sq_astore, sq_iinc, sq_getfield, st_put0, st_put1, st_put3, sq_inv, sq_goto, sq_icmp, sq_ifc, sq_tsw, sq_iadd, sq_isub, sq_imul, sq_ineg, sq_idiv, sq_irem, sq_iand, sq_ior, sq_ixor, sq_ishl, sq_ishr, sq_iushr, sq_ladd, sq_lmul, sq_ldiv, sq_lrem, sq_land, sq_lor, sq_lshl, sq_lushr, sq_lcmp, sq_i2l, sq_l2i, sq_i2c, sq_i2b, sq_dupI, sq_dupR, sq_dup2, sq_pop, sq_iaload, sq_baload, sq_aaload, sq_iastore, sq_bastore, sq_alen, sq_ireturn, sq_lreturn, sq_return, wq_c, wq_n, wlq_s, lkp, tbl, dBk, nth, setL, canSet, cmpI, tk, swK, rdF, entL, catS, cat1, arg, rcv, ald, bld, aln, br, Ccopy, Cmax, Cmin, Cabs, List.take, List.drop, List.reverse, List.reverseAux, List.length, List.append, List.nil_append, List.cons_append, true_and, and_true, and_self, forall_const, true_implies, false_implies, not_true_eq_false, not_false_eq_true, Option.map, reduceCtorEq, reduceIte, or_true, true_or, false_or, or_false, false_and, and_false, List.map, List.append_nil, implies_true, yK, Nat.reduceBEq, beq_self_eq_true, Int.zero_ne_one, Nat.reduceDiv, Nat.reduceMod, Nat.reduceAdd, Nat.reduceSub, Nat.reduceMul, Nat.reduceEqDiff, Nat.reduceLeDiff, Int.reduceToNat, Int.reduceNeg, Int.reduceEq, Int.reduceLT, Int.reduceLE, Int.reduceNatCast, Int.reduceNatCast', Int.reduceAdd, Int.reduceSub, Int.reduceMul, eq_self, Prod.mk.injEq, A_X3_groupAshes, V_X3_groupAshes, B_X3_groupAshes, Y_X3_groupAshes, C_X3_firstPitWithAsh, C_X3_hasAsh, C_X3_hangTogether, shpT, rfsT, wjq_s, look, ← hone]
      rw [hP10]
      refine ⟨⟨hn, hx⟩, ⟨by omega, by omega⟩, _, one + 1, rfl, rfl, fun _ _ => rfl, (by omega), (by omega), hl, LabK_ext (Rsp_ext (fun a b lo hi => ?_)) hK, rfl⟩
      refine ⟨Or.inl, fun z => z.elim id ?_⟩
      rintro ⟨q, z1, z2, z3, z4, -⟩
      rw [← hone] at z1
      omega
theorem Rsp_or {K K' : Kn} {f : Int → Int} : Rsp (orK K K') f ↔ Rsp K f ∧ Rsp K' f := ⟨fun h => ⟨fun a b lo hi k => h a b lo hi (Or.inl k), fun a b lo hi k => h a b lo hi (Or.inr k)⟩, fun h a b lo hi k => k.elim (h.1 a b lo hi) (h.2 a b lo hi)⟩
theorem star_rsp {σ : Sto} {ay : Int → Int} (hI : NIc σ) (ha : ∀ p x, 0 ≤ p → p < 7 → 0 ≤ x → x < 10 → ay (p * 10 + x) = ayC σ p x) : ∀ f, Rsp (KSA ay (σ 1 0) 10) f ↔ Rsp (KAc σ) f := by
  intro f
  refine ⟨fun h => ?_, fun h a b lo hi k => h a b lo hi (star_in hI ha k)⟩
  rintro a b lo hi ⟨q, p, x, ⟨hl, hb⟩, h1, h2, rfl, rfl, rfl, rfl⟩
  unfold bef at hb
  obtain ⟨one, o1, o2, o3, k1, k2⟩ := star hI ha hb.1 hb.2.1 ⟨hb.2.2.1, hb.2.2.2.1⟩ hl (by omega) h1 h2
  have c2 := h _ _ _ _ k2
  by_cases e : one = a
  · rw [← e]; exact c2
  · rw [← h _ _ _ _ (k1 (by omega))]; exact c2
theorem KJ_nd {σ : Sto} (hI : NIc σ) {S : Int → Prop} {J : Int} (hJ : J ≤ σ 2 0) : ∀ x y u v, KJ S J (σ 16) (σ 17) (σ 18) (σ 19) x y u v → nd x ∧ nd y := by
  rintro x y u v ⟨j, z0, z1, z2, rfl, rfl, -⟩
  have := hI.2.2.2.2.2.2.1 j z0 (by omega)
  unfold JI at this
  unfold nd
  omega
theorem KT_nd {T : Int → Prop} {n : Int} {tl th : Int → Int} (hn : n ≤ 7) : ∀ x y u v, KT T n tl th x y u v → nd x ∧ nd y := by
  rintro x y u v ⟨j, z0, z1, z2, rfl, rfl, -⟩
  unfold nd
  omega
theorem KSA_nd {ay : Int → Int} {N n : Int} (hN : 0 ≤ N ∧ N ≤ 7) : ∀ x y u v, KSA ay N n x y u v → nd x ∧ nd y := by
  rintro a b u v ⟨x, x0, x1, p, z1, z2, z3, z4, z5, rfl, -⟩
  have i1 := (ff_in (P := haP ay x) N.toNat 0).resolve_left (by rw [← z1]; exact z2)
  rw [← z1] at i1
  unfold nd
  omega
theorem or_nd {K K' : Kn} (h : ∀ x y u v, K x y u v → nd x ∧ nd y) (h' : ∀ x y u v, K' x y u v → nd x ∧ nd y) : ∀ x y u v, orK K K' x y u v → nd x ∧ nd y := fun x y u v z => z.elim (h x y u v) (h' x y u v)
theorem LbI_add {l l' : Int → Int} {a b : Int} (ha : nd a) (hb : LbI l) (h : ∀ i, nd i → l' i = if l i = l b then l a else l i) : LbI l' := fun i c => by
  rw [h i c]
  have b1 := hb i c
  have b2 := hb a ha
  split <;> omega
def A_X3_group : List (Nat × Ctr) := [(2, rcv 0 2 C_X0_isKept), (3, rcv 3 6 C_X3_hangTogether), (2, rcv 0 2 C_X0_isTied), (1, rcv 3 6 C_X3_findAshes), (2, rcv 3 4 C_X3_groupAshes)]
theorem e_X3_group (o : OM) : Ev o Y_X3_group 3 T_X3_group A_X3_group := ⟨rfl, List.forall_mem_cons.mpr ⟨Or.inl f_X3_29, List.forall_mem_cons.mpr ⟨Or.inl f_X3_59, List.forall_mem_cons.mpr ⟨Or.inl f_X3_111, List.forall_mem_cons.mpr ⟨Or.inl f_X3_120, List.forall_mem_cons.mpr ⟨Or.inl f_X3_123, List.forall_mem_cons.mpr ⟨Or.inl f_X3_51, List.forall_mem_cons.mpr ⟨Or.inl f_X3_85, fun _ h => absurd h List.not_mem_nil⟩⟩⟩⟩⟩⟩⟩, fun _ h => absurd h List.not_mem_nil, fun _ h => absurd h List.not_mem_nil, fun _ h => absurd h List.not_mem_nil, List.forall_mem_cons.mpr ⟨cl_X0_isKept (s_X0_isKept o) (by decide) (Or.inr ⟨_, wn_91⟩), List.forall_mem_cons.mpr ⟨cl_X3_hangTogether (s_X3_hangTogether o) (by decide) (Or.inl w_904), List.forall_mem_cons.mpr ⟨cl_X0_isTied (s_X0_isTied o) (by decide) (Or.inr ⟨_, wn_90⟩), List.forall_mem_cons.mpr ⟨cl_X3_findAshes (s_X3_findAshes o) (by decide) (Or.inl w_839), List.forall_mem_cons.mpr ⟨cl_X3_groupAshes (s_X3_groupAshes o) (by decide) (Or.inl w_908), fun _ h => absurd h List.not_mem_nil⟩⟩⟩⟩⟩, fun _ h => absurd h List.not_mem_nil⟩
def C_X3_group : Ctr := fun A σ κ => match A with
  | [.inr (.inr (.inl 10))] => (NIc σ) ∧ ∀ τ : Sto, (∀ p : Nat, p ≠ 65 → p ≠ 66 → τ p = σ p) → LbI (τ 66) → LabK (KC σ) (τ 66) → κ [] τ
  | _ => False
set_option maxRecDepth 20000 in
theorem s_X3_group (o : OM) : Sound o Y_X3_group 3 C_X3_group := by
  intro Q A σ hA hC
  match A, hA, hC with
  | [.inr (.inr (.inl 10))], hA, hC =>
    obtain ⟨h0, hq⟩ : (NIc σ) ∧ ∀ τ : Sto, (∀ p : Nat, p ≠ 65 → p ≠ 66 → τ p = σ p) → LbI (τ 66) → LabK (KC σ) (τ 66) → Q [] τ := hC
    obtain ⟨hn, hJ, hs, hPI, hTI, hpl, hji, hti⟩ := id h0
    obtain ⟨P2, hP2⟩ : ∃ P : Nat → List AV → List AV → Sto → Prop, P = fun m S L τ => ∃ k : Int, S = [] ∧ L = [vR 10, vI k] ∧ (∀ p : Nat, p ≠ 66 → τ p = σ p) ∧ 0 ≤ k ∧ k ≤ 8 ∧ (∀ i, 0 ≤ i → i < k → τ 66 i = i) ∧ m = (8 - k + 3000).toNat := ⟨_, rfl⟩
    obtain ⟨P23, hP23⟩ : ∃ P : Nat → List AV → List AV → Sto → Prop, P = fun m S L τ => ∃ j : Int, S = [] ∧ L = [vR 10, vI j] ∧ (∀ p : Nat, p ≠ 66 → τ p = σ p) ∧ 0 ≤ j ∧ j ≤ σ 2 0 ∧ LbI (τ 66) ∧ LabK (KJ (ktC σ) j (σ 16) (σ 17) (σ 18) (σ 19)) (τ 66) ∧ m = (12 - j + 2000).toNat := ⟨_, rfl⟩
    obtain ⟨P75, hP75⟩ : ∃ P : Nat → List AV → List AV → Sto → Prop, P = fun m S L τ => ∃ p : Int, S = [] ∧ L = [vR 10, vI p] ∧ (∀ p : Nat, p ≠ 66 → τ p = σ p) ∧ 0 ≤ p ∧ p ≤ σ 1 0 ∧ LbI (τ 66) ∧ LabK (orK (KJc σ (ktC σ)) (KT (tdC σ) p (σ 21) (σ 22))) (τ 66) ∧ m = (7 - p + 1000).toNat := ⟨_, rfl⟩
    obtain ⟨P116, hP116⟩ : ∃ P : Nat → List AV → List AV → Sto → Prop, P = fun m S L τ => ∃ n : Int, S = [] ∧ L = [vR 10, vI n] ∧ (∀ p : Nat, p ≠ 65 → p ≠ 66 → τ p = σ p) ∧ 0 ≤ n ∧ n ≤ 10 ∧ (∀ p x, 0 ≤ p → p < 7 → 0 ≤ x → x < 10 → τ 65 (p * 10 + x) = ayC σ p x) ∧ LbI (τ 66) ∧ LabK (orK (orK (KJc σ (ktC σ)) (KTc σ)) (KSA (τ 65) (σ 1 0) n)) (τ 66) ∧ m = (10 - n).toNat := ⟨_, rfl⟩
    refine at_meth (lv := V_X3_group) (B := B_X3_group) (e_X3_group o) k_X3_group 4 [(2, P2), (23, P23), (75, P75), (116, P116)] (List.forall_mem_cons.mpr ⟨?_, List.forall_mem_cons.mpr ⟨?_, List.forall_mem_cons.mpr ⟨?_, List.forall_mem_cons.mpr ⟨?_, fun _ h => absurd h List.not_mem_nil⟩⟩⟩⟩) 0 [] _ σ ?_
    · intro m S L τ hI
      rw [hP2] at hI
      obtain ⟨k, rfl, rfl, he, k0, k1, hg, hm⟩ := hI
      simp only [sq_iconst, sq_jsr, sq_anewarray, sq_iload, sq_lload, sq_aload, sq_istore, sq_lstore, sq_astore, sq_iinc, sq_getfield, st_put0, st_put1, st_put3, sq_inv, sq_goto, sq_icmp, sq_ifc, sq_tsw, sq_iadd, sq_isub, sq_imul, sq_ineg, sq_idiv, sq_irem, sq_iand, sq_ior, sq_ixor, sq_ishl, sq_ishr, sq_iushr, sq_ladd, sq_lmul, sq_ldiv, sq_lrem, sq_land, sq_lor, sq_lshl, sq_lushr, sq_lcmp, sq_i2l, sq_l2i, sq_i2c, sq_i2b, sq_dupI, sq_dupR, sq_dup2, sq_pop, sq_iaload, sq_baload, sq_aaload, sq_iastore, sq_bastore, sq_alen, sq_ireturn, sq_lreturn, sq_return, wq_c, wq_n, wlq_s, lkp, tbl, dBk, nth, setL, canSet, cmpI, tk, swK, rdF, entL, catS, cat1, arg, rcv, ald, bld, aln, br, Ccopy, Cmax, Cmin, Cabs, List.take, List.drop, List.reverse, List.reverseAux, List.length, List.append, List.nil_append, List.cons_append, true_and, and_true, and_self, forall_const, true_implies, false_implies, not_true_eq_false, not_false_eq_true, Option.map, reduceCtorEq, reduceIte, or_true, true_or, false_or, or_false, false_and, and_false, List.map, List.append_nil, implies_true, yK, Nat.reduceBEq, beq_self_eq_true, Int.zero_ne_one, Nat.reduceDiv, Nat.reduceMod, Nat.reduceAdd, Nat.reduceSub, Nat.reduceMul, Nat.reduceEqDiff, Nat.reduceLeDiff, Int.reduceToNat, Int.reduceNeg, Int.reduceEq, Int.reduceLT, Int.reduceLE, Int.reduceNatCast, Int.reduceNatCast', Int.reduceAdd, Int.reduceSub, Int.reduceMul, eq_self, Prod.mk.injEq, A_X3_group, V_X3_group, B_X3_group, Y_X3_group, C_X0_isKept, C_X3_hangTogether, C_X0_isTied, C_X3_findAshes, C_X3_groupAshes, shpT, rfsT, wjq_s, look]
      rw [hP23, hP2]
      refine ⟨fun h => ⟨_, ?_, 0, rfl, rfl, he, (by omega), hJ.1, fun i a => ?_, LabK_ext (Rsp_ext (fun a b lo hi => ⟨fun z => z.elim, ?_⟩)) (LabK_0 (fun i a => hg i a.1 (by have := a.2; omega))), rfl⟩, fun h => ⟨⟨by omega, by omega⟩, ⟨by omega, by omega⟩, _, ?_, k + 1, rfl, rfl, fun p hp => by rw [su_r hp]; exact he p hp, (by omega), (by omega), fun i i0 i1 => ?_, rfl⟩⟩
      · omega
      · unfold nd at a
        rw [hg i a.1 (by omega)]
        exact a
      · rintro ⟨j, z0, z1, -⟩
        omega
      · omega
      · rw [su_at]
        split
        · omega
        · exact hg i i0 (by omega)
    · intro m S L τ hI
      rw [hP23] at hI
      obtain ⟨j, rfl, rfl, he, j0, j1, hb, hg, hm⟩ := hI
      simp only [sq_iconst, sq_jsr, sq_anewarray, sq_iload, sq_lload, sq_aload, sq_istore, sq_lstore, sq_astore, sq_iinc, sq_getfield, st_put0, st_put1, st_put3, sq_inv, sq_goto, sq_icmp, sq_ifc, sq_tsw, sq_iadd, sq_isub, sq_imul, sq_ineg, sq_idiv, sq_irem, sq_iand, sq_ior, sq_ixor, sq_ishl, sq_ishr, sq_iushr, sq_ladd, sq_lmul, sq_ldiv, sq_lrem, sq_land, sq_lor, sq_lshl, sq_lushr, sq_lcmp, sq_i2l, sq_l2i, sq_i2c, sq_i2b, sq_dupI, sq_dupR, sq_dup2, sq_pop, sq_iaload, sq_baload, sq_aaload, sq_iastore, sq_bastore, sq_alen, sq_ireturn, sq_lreturn, sq_return, wq_c, wq_n, wlq_s, lkp, tbl, dBk, nth, setL, canSet, cmpI, tk, swK, rdF, entL, catS, cat1, arg, rcv, ald, bld, aln, br, Ccopy, Cmax, Cmin, Cabs, List.take, List.drop, List.reverse, List.reverseAux, List.length, List.append, List.nil_append, List.cons_append, true_and, and_true, and_self, forall_const, true_implies, false_implies, not_true_eq_false, not_false_eq_true, Option.map, reduceCtorEq, reduceIte, or_true, true_or, false_or, or_false, false_and, and_false, List.map, List.append_nil, implies_true, yK, Nat.reduceBEq, beq_self_eq_true, Int.zero_ne_one, Nat.reduceDiv, Nat.reduceMod, Nat.reduceAdd, Nat.reduceSub, Nat.reduceMul, Nat.reduceEqDiff, Nat.reduceLeDiff, Int.reduceToNat, Int.reduceNeg, Int.reduceEq, Int.reduceLT, Int.reduceLE, Int.reduceNatCast, Int.reduceNatCast', Int.reduceAdd, Int.reduceSub, Int.reduceMul, eq_self, Prod.mk.injEq, A_X3_group, V_X3_group, B_X3_group, Y_X3_group, C_X0_isKept, C_X3_hangTogether, C_X0_isTied, C_X3_findAshes, C_X3_groupAshes, shpT, rfsT, wjq_s, look, he 2 (by decide), he 16 (by decide), he 17 (by decide)]
      have a20 : ¬ σ 2 0 ≤ j → (12 - (j + 1) + 2000).toNat < m := fun h => by omega
      have a21 : (7 - 0 + 1000 : Int).toNat < m := by omega
      refine ⟨fun h => ?_, fun h => ⟨⟨by omega, by omega⟩, fun h1 => ?_, fun h1 => ⟨⟨by omega, by omega⟩, ?_⟩⟩⟩
      · rw [hP75]
        have : j = σ 2 0 := by omega
        subst this
        refine ⟨_, a21, 0, rfl, rfl, he, (by omega), hn.1, hb, LabK_ext (Rsp_ext (fun a b lo hi => ⟨Or.inl, fun z => z.elim id ?_⟩)) hg, rfl⟩
        rintro ⟨p, z0, z1, -⟩
        omega
      · have ji := hji j j0 (by omega)
        unfold JI at ji
        have n1 : nd (σ 16 j) := ⟨by omega, by omega⟩
        have n2 : nd (σ 17 j) := ⟨by omega, by omega⟩
        refine ⟨⟨by omega, by omega⟩, ⟨by omega, by omega⟩, ⟨n1, n2⟩, fun τ' hf hN => ⟨⟨by omega, by omega⟩, ?_⟩⟩
        rw [hP23]
        refine ⟨_, a20 h, j + 1, rfl, rfl, fun y hy => by rw [hf y hy, he y hy], (by omega), (by omega), LbI_add n1 hb hN, LabK_ext (Rsp_ext (fun a b lo hi => ?_)) (LabK_add (lo := σ 18 j) (hi := σ 19 j) n1 n2 hg hN (KJ_nd h0 j1)), rfl⟩
        rw [KJ_s j0]
        exact ⟨fun z => z.elim Or.inl (fun z => Or.inr ⟨h1, z⟩), fun z => z.elim Or.inl (fun z => Or.inr z.2)⟩
      · rw [hP23]
        refine ⟨_, a20 h, j + 1, rfl, rfl, he, (by omega), (by omega), hb, LabK_ext (Rsp_ext (fun a b lo hi => ?_)) hg, rfl⟩
        rw [KJ_s j0]
        exact ⟨Or.inl, fun z => z.elim id (fun z => absurd (Classical.not_not.mp h1) z.1)⟩
    · intro m S L τ hI
      rw [hP75] at hI
      obtain ⟨p, rfl, rfl, he, p0, p1, hb, hg, hm⟩ := hI
      simp only [sq_iconst, sq_jsr, sq_anewarray, sq_iload, sq_lload, sq_aload, sq_istore, sq_lstore, sq_astore, sq_iinc, sq_getfield, st_put0, st_put1, st_put3, sq_inv, sq_goto, sq_icmp, sq_ifc, sq_tsw, sq_iadd, sq_isub, sq_imul, sq_ineg, sq_idiv, sq_irem, sq_iand, sq_ior, sq_ixor, sq_ishl, sq_ishr, sq_iushr, sq_ladd, sq_lmul, sq_ldiv, sq_lrem, sq_land, sq_lor, sq_lshl, sq_lushr, sq_lcmp, sq_i2l, sq_l2i, sq_i2c, sq_i2b, sq_dupI, sq_dupR, sq_dup2, sq_pop, sq_iaload, sq_baload, sq_aaload, sq_iastore, sq_bastore, sq_alen, sq_ireturn, sq_lreturn, sq_return, wq_c, wq_n, wlq_s, lkp, tbl, dBk, nth, setL, canSet, cmpI, tk, swK, rdF, entL, catS, cat1, arg, rcv, ald, bld, aln, br, Ccopy, Cmax, Cmin, Cabs, List.take, List.drop, List.reverse, List.reverseAux, List.length, List.append, List.nil_append, List.cons_append, true_and, and_true, and_self, forall_const, true_implies, false_implies, not_true_eq_false, not_false_eq_true, Option.map, reduceCtorEq, reduceIte, or_true, true_or, false_or, or_false, false_and, and_false, List.map, List.append_nil, implies_true, yK, Nat.reduceBEq, beq_self_eq_true, Int.zero_ne_one, Nat.reduceDiv, Nat.reduceMod, Nat.reduceAdd, Nat.reduceSub, Nat.reduceMul, Nat.reduceEqDiff, Nat.reduceLeDiff, Int.reduceToNat, Int.reduceNeg, Int.reduceEq, Int.reduceLT, Int.reduceLE, Int.reduceNatCast, Int.reduceNatCast', Int.reduceAdd, Int.reduceSub, Int.reduceMul, eq_self, Prod.mk.injEq, A_X3_group, V_X3_group, B_X3_group, Y_X3_group, C_X0_isKept, C_X3_hangTogether, C_X0_isTied, C_X3_findAshes, C_X3_groupAshes, shpT, rfsT, wjq_s, look, he 1 (by decide), he 2 (by decide)]
      have l3 : lo38 τ σ := fun p hp _ => he p (by omega)
      have a20 : ¬ σ 1 0 ≤ p → (7 - (p + 1) + 1000).toNat < m := fun h => by omega
      have a21 : (10 - 0 : Int).toNat < m := by omega
      refine ⟨fun h => ⟨NIc_e l3 h0, fun τ' h1 h2 => ?_⟩, fun h => ⟨⟨by omega, by omega⟩, fun h1 => ?_, fun h1 => ⟨⟨by omega, by omega⟩, ?_⟩⟩⟩
      · rw [hP116]
        have : p = σ 1 0 := by omega
        subst this
        refine ⟨_, a21, 0, rfl, rfl, fun y hy hz => by rw [h1 y hy, he y hz], (by omega), (by omega), fun p x a0 a1 x0 x1 => by rw [h2 p x a0 a1 x0 x1, ayC_e l3], by rw [h1 66 (by decide)]; exact hb, ?_, rfl⟩
        rw [h1 66 (by decide)]
        refine LabK_ext (Rsp_ext (fun a b lo hi => ⟨Or.inl, fun z => z.elim id ?_⟩)) hg
        rintro ⟨x, z0, z1, -⟩
        omega
      · have n1 : nd (7 : Int) := ⟨by omega, by omega⟩
        have n2 : nd p := ⟨by omega, by omega⟩
        refine ⟨⟨n1, n2⟩, fun τ' hf hN => ⟨⟨by omega, by omega⟩, ?_⟩⟩
        rw [hP75]
        refine ⟨_, a20 h, p + 1, rfl, rfl, fun y hy => by rw [hf y hy, he y hy], (by omega), (by omega), LbI_add n1 hb hN, LabK_ext (Rsp_ext (fun a b lo hi => ?_)) (LabK_add (lo := σ 21 p) (hi := σ 22 p) n1 n2 hg hN (or_nd (KJ_nd h0 (Int.le_refl _)) (KT_nd (by omega)))), rfl⟩
        unfold addK orK
        rw [KT_s p0, or_assoc]
        exact ⟨fun z => z.elim Or.inl (fun z => Or.inr (z.elim Or.inl (fun z => Or.inr ⟨h1, z⟩))), fun z => z.elim Or.inl (fun z => Or.inr (z.elim Or.inl (fun z => Or.inr z.2)))⟩
      · rw [hP75]
        refine ⟨_, a20 h, p + 1, rfl, rfl, he, (by omega), (by omega), hb, LabK_ext (Rsp_ext (fun a b lo hi => ?_)) hg, rfl⟩
        unfold orK
        rw [KT_s p0]
        exact ⟨fun z => z.elim Or.inl (fun z => Or.inr (Or.inl z)), fun z => z.elim Or.inl (fun z => z.elim Or.inr (fun z => absurd (Classical.not_not.mp h1) z.1))⟩
    · intro m S L τ hI
      rw [hP116] at hI
      obtain ⟨n, rfl, rfl, he, n0, n1, ha, hb, hg, hm⟩ := hI
      simp only [sq_iconst, sq_jsr, sq_anewarray, sq_iload, sq_lload, sq_aload, sq_istore, sq_lstore, sq_astore, sq_iinc, sq_getfield, st_put0, st_put1, st_put3, sq_inv, sq_goto, sq_icmp, sq_ifc, sq_tsw, sq_iadd, sq_isub, sq_imul, sq_ineg, sq_idiv, sq_irem, sq_iand, sq_ior, sq_ixor, sq_ishl, sq_ishr, sq_iushr, sq_ladd, sq_lmul, sq_ldiv, sq_lrem, sq_land, sq_lor, sq_lshl, sq_lushr, sq_lcmp, sq_i2l, sq_l2i, sq_i2c, sq_i2b, sq_dupI, sq_dupR, sq_dup2, sq_pop, sq_iaload, sq_baload, sq_aaload, sq_iastore, sq_bastore, sq_alen, sq_ireturn, sq_lreturn, sq_return, wq_c, wq_n, wlq_s, lkp, tbl, dBk, nth, setL, canSet, cmpI, tk, swK, rdF, entL, catS, cat1, arg, rcv, ald, bld, aln, br, Ccopy, Cmax, Cmin, Cabs, List.take, List.drop, List.reverse, List.reverseAux, List.length, List.append, List.nil_append, List.cons_append, true_and, and_true, and_self, forall_const, true_implies, false_implies, not_true_eq_false, not_false_eq_true, Option.map, reduceCtorEq, reduceIte, or_true, true_or, false_or, or_false, false_and, and_false, List.map, List.append_nil, implies_true, yK, Nat.reduceBEq, beq_self_eq_true, Int.zero_ne_one, Nat.reduceDiv, Nat.reduceMod, Nat.reduceAdd, Nat.reduceSub, Nat.reduceMul, Nat.reduceEqDiff, Nat.reduceLeDiff, Int.reduceToNat, Int.reduceNeg, Int.reduceEq, Int.reduceLT, Int.reduceLE, Int.reduceNatCast, Int.reduceNatCast', Int.reduceAdd, Int.reduceSub, Int.reduceMul, eq_self, Prod.mk.injEq, A_X3_group, V_X3_group, B_X3_group, Y_X3_group, C_X0_isKept, C_X3_hangTogether, C_X0_isTied, C_X3_findAshes, C_X3_groupAshes, shpT, rfsT, wjq_s, look, he 1 (by decide) (by decide)]
      have a20 : ¬ 9 < n → (10 - (n + 1)).toNat < m := fun h => by omega
      refine ⟨fun h => ?_, fun h => ⟨⟨hn, ⟨by omega, by omega⟩, hb⟩, _, hg, or_nd (or_nd (KJ_nd h0 (Int.le_refl _)) (KT_nd hn.2)) (KSA_nd hn), fun τ' h1 h2 h3 => ⟨⟨by omega, by omega⟩, ?_⟩⟩⟩
      · have : n = 10 := by omega
        subst this
        refine hq τ he hb (LabK_ext (fun f => ?_) hg)
        unfold KC KF
        rw [Rsp_or, Rsp_or, Rsp_or, Rsp_or, star_rsp h0 ha f]
        exact ⟨fun z => ⟨⟨z.1.2, z.2⟩, z.1.1⟩, fun z => ⟨⟨z.2, z.1.1⟩, z.1.2⟩⟩
      · rw [hP116]
        refine ⟨_, a20 h, n + 1, rfl, rfl, fun y hy hz => by rw [h1 y hz, he y hy hz], (by omega), (by omega), by rw [h1 65 (by decide)]; exact ha, h2, ?_, rfl⟩
        rw [h1 65 (by decide)]
        refine LabK_ext (Rsp_ext (fun a b lo hi => ?_)) h3
        unfold orK
        rw [KSA_s n0]
        unfold orK
        rw [or_assoc]
    · simp only [sq_iconst, sq_jsr, sq_anewarray, sq_iload, sq_lload, sq_aload, sq_istore, sq_lstore, sq_astore, sq_iinc, sq_getfield, st_put0, st_put1, st_put3, sq_inv, sq_goto, sq_icmp, sq_ifc, sq_tsw, sq_iadd, sq_isub, sq_imul, sq_ineg, sq_idiv, sq_irem, sq_iand, sq_ior, sq_ixor, sq_ishl, sq_ishr, sq_iushr, sq_ladd, sq_lmul, sq_ldiv, sq_lrem, sq_land, sq_lor, sq_lshl, sq_lushr, sq_lcmp, sq_i2l, sq_l2i, sq_i2c, sq_i2b, sq_dupI, sq_dupR, sq_dup2, sq_pop, sq_iaload, sq_baload, sq_aaload, sq_iastore, sq_bastore, sq_alen, sq_ireturn, sq_lreturn, sq_return, wq_c, wq_n, wlq_s, lkp, tbl, dBk, nth, setL, canSet, cmpI, tk, swK, rdF, entL, catS, cat1, arg, rcv, ald, bld, aln, br, Ccopy, Cmax, Cmin, Cabs, List.take, List.drop, List.reverse, List.reverseAux, List.length, List.append, List.nil_append, List.cons_append, true_and, and_true, and_self, forall_const, true_implies, false_implies, not_true_eq_false, not_false_eq_true, Option.map, reduceCtorEq, reduceIte, or_true, true_or, false_or, or_false, false_and, and_false, List.map, List.append_nil, implies_true, yK, Nat.reduceBEq, beq_self_eq_true, Int.zero_ne_one, Nat.reduceDiv, Nat.reduceMod, Nat.reduceAdd, Nat.reduceSub, Nat.reduceMul, Nat.reduceEqDiff, Nat.reduceLeDiff, Int.reduceToNat, Int.reduceNeg, Int.reduceEq, Int.reduceLT, Int.reduceLE, Int.reduceNatCast, Int.reduceNatCast', Int.reduceAdd, Int.reduceSub, Int.reduceMul, eq_self, Prod.mk.injEq, A_X3_group, V_X3_group, B_X3_group, Y_X3_group, C_X0_isKept, C_X3_hangTogether, C_X0_isTied, C_X3_findAshes, C_X3_groupAshes, shpT, rfsT, wjq_s, look]
      rw [hP2]
      exact ⟨_, 0, rfl, rfl, fun _ _ => rfl, (by omega), (by omega), fun i h1 h2 => by omega, rfl⟩

