-- ===== one bound more, of the class =====
def nbI (g : Int → Int) (f t w i j : Int) : Int := if ¬ g (i * 8 + f) = 1000000000 ∧ ¬ g (t * 8 + j) = 1000000000 ∧ g (i * 8 + f) + w + g (t * 8 + j) < g (i * 8 + j) then g (i * 8 + f) + w + g (t * 8 + j) else g (i * 8 + j)
def gIn (g : Int → Int) : Prop := ∀ i j, nd i → nd j → g (i * 8 + j) = 1000000000 ∨ (-100000000 ≤ g (i * 8 + j) ∧ g (i * 8 + j) ≤ 100000000)
def A_X3_bound : List (Nat × Ctr) := []
theorem e_X3_bound (o : OM) : Ev o Y_X3_bound 0 T_X3_bound A_X3_bound := ⟨rfl, fun _ h => absurd h List.not_mem_nil, List.forall_mem_cons.mpr ⟨⟨w_837, by decide, by decide⟩, fun _ h => absurd h List.not_mem_nil⟩, fun _ h => absurd h List.not_mem_nil, fun _ h => absurd h List.not_mem_nil, fun _ h => absurd h List.not_mem_nil, fun _ h => absurd h List.not_mem_nil⟩
def C_X3_bound : Ctr := fun A σ κ => match A with
  | [.inr (.inr (.inl q)), .inl f, .inl t, .inl w] => (shp q = (0, 64) ∧ nd f ∧ nd t ∧ (-1000000 ≤ w ∧ w ≤ 1000000) ∧ gIn (σ q)) ∧ (σ q (f * 8 + t) ≤ w → κ [vI 1] σ) ∧ (w < σ q (f * 8 + t) → σ q (t * 8 + f) + w < 0 → κ [vI 0] σ) ∧ (w < σ q (f * 8 + t) → 0 ≤ σ q (t * 8 + f) + w → ∀ τ : Sto, (∀ p : Nat, p ≠ q → τ p = σ p) → (∀ i j, nd i → nd j → τ q (i * 8 + j) = nbI (σ q) f t w i j) → κ [vI 1] τ)
  | _ => False
set_option maxRecDepth 20000 in
theorem s_X3_bound (o : OM) : Sound o Y_X3_bound 0 C_X3_bound := by
  intro Q A σ hA hC
  match A, hA, hC with
  | [.inr (.inr (.inl q)), .inl f, .inl t, .inl w], hA, hC =>
    obtain ⟨h0, hq⟩ : (shp q = (0, 64) ∧ nd f ∧ nd t ∧ (-1000000 ≤ w ∧ w ≤ 1000000) ∧ gIn (σ q)) ∧ (σ q (f * 8 + t) ≤ w → Q [vI 1] σ) ∧ (w < σ q (f * 8 + t) → σ q (t * 8 + f) + w < 0 → Q [vI 0] σ) ∧ (w < σ q (f * 8 + t) → 0 ≤ σ q (t * 8 + f) + w → ∀ τ : Sto, (∀ p : Nat, p ≠ q → τ p = σ p) → (∀ i j, nd i → nd j → τ q (i * 8 + j) = nbI (σ q) f t w i j) → Q [vI 1] τ) := hC
    obtain ⟨hs, hf, ht, hw, hg⟩ := h0
    obtain ⟨hq1, hq2, hq3⟩ := hq
    obtain ⟨P32, hP32⟩ : ∃ P : Nat → List AV → List AV → Sto → Prop, P = fun m S L τ => ∃ i : Int, S = [] ∧ L = [vR q, vI f, vI t, vI w, vI i] ∧ (∀ p : Nat, p ≠ q → τ p = σ p) ∧ 0 ≤ i ∧ i ≤ 8 ∧ w < σ q (f * 8 + t) ∧ 0 ≤ σ q (t * 8 + f) + w ∧ (∀ a b, nd a → nd b → τ q (a * 8 + b) = if a < i then nbI (σ q) f t w a b else σ q (a * 8 + b)) ∧ m = ((8 - i) * 100).toNat := ⟨_, rfl⟩
    obtain ⟨P53, hP53⟩ : ∃ P : Nat → List AV → List AV → Sto → Prop, P = fun m S L τ => ∃ i j : Int, S = [] ∧ L = [vR q, vI f, vI t, vI w, vI i, vI (σ q (i * 8 + f)), vI j] ∧ (∀ p : Nat, p ≠ q → τ p = σ p) ∧ 0 ≤ i ∧ i < 8 ∧ 0 ≤ j ∧ j ≤ 8 ∧ w < σ q (f * 8 + t) ∧ 0 ≤ σ q (t * 8 + f) + w ∧ (∀ a b, nd a → nd b → τ q (a * 8 + b) = if a < i ∨ (a = i ∧ b < j) then nbI (σ q) f t w a b else σ q (a * 8 + b)) ∧ m = ((7 - i) * 100 + 50 + (8 - j)).toNat := ⟨_, rfl⟩
    have colf : 0 ≤ σ q (t * 8 + f) + w → ∀ a, nbI (σ q) f t w a f = σ q (a * 8 + f) := by
      intro h a
      unfold nbI
      split <;> omega
    have rowt : 0 ≤ σ q (t * 8 + f) + w → ∀ b, nbI (σ q) f t w t b = σ q (t * 8 + b) := by
      intro h b
      unfold nbI
      split <;> omega
    unfold nd at hf ht
    refine at_meth (lv := V_X3_bound) (B := B_X3_bound) (e_X3_bound o) k_X3_bound 5 [(32, P32), (53, P53)] (List.forall_mem_cons.mpr ⟨?_, List.forall_mem_cons.mpr ⟨?_, fun _ h => absurd h List.not_mem_nil⟩⟩) 0 [] _ σ ?_
    · intro m S L τ hI
      rw [hP32] at hI
      obtain ⟨i, rfl, rfl, he, hi0, hi1, c1, c2, hd, hm⟩ := hI
      simp only [sq_iconst, sq_jsr, sq_anewarray, sq_iload, sq_lload, sq_aload, sq_istore, sq_lstore, sq_astore, sq_iinc, sq_getfield, st_put0, st_put1, st_put3, sq_inv, sq_goto, sq_icmp, sq_ifc, sq_tsw, sq_iadd, sq_isub, sq_imul, sq_ineg, sq_idiv, sq_irem, sq_iand, sq_ior, sq_ixor, sq_ishl, sq_ishr, sq_iushr, sq_ladd, sq_lmul, sq_ldiv, sq_lrem, sq_land, sq_lor, sq_lshl, sq_lushr, sq_lcmp, sq_i2l, sq_l2i, sq_i2c, sq_i2b, sq_dupI, sq_dupR, sq_dup2, sq_pop, sq_iaload, sq_baload, sq_aaload, sq_iastore, sq_bastore, sq_alen, sq_ireturn, sq_lreturn, sq_return, wq_c, wq_n, wlq_s, lkp, tbl, dBk, nth, setL, canSet, cmpI, tk, swK, rdF, entL, catS, cat1, arg, rcv, ald, bld, aln, br, Ccopy, Cmax, Cmin, Cabs, List.take, List.drop, List.reverse, List.reverseAux, List.length, List.append, List.nil_append, List.cons_append, true_and, and_true, and_self, forall_const, true_implies, false_implies, not_true_eq_false, not_false_eq_true, Option.map, reduceCtorEq, reduceIte, or_true, true_or, false_or, or_false, false_and, and_false, List.map, List.append_nil, implies_true, yK, Nat.reduceBEq, beq_self_eq_true, Int.zero_ne_one, Nat.reduceDiv, Nat.reduceMod, Nat.reduceAdd, Nat.reduceSub, Nat.reduceMul, Nat.reduceEqDiff, Nat.reduceLeDiff, Int.reduceToNat, Int.reduceNeg, Int.reduceEq, Int.reduceLT, Int.reduceLE, Int.reduceNatCast, Int.reduceNatCast', Int.reduceAdd, Int.reduceSub, Int.reduceMul, eq_self, Prod.mk.injEq, A_X3_bound, V_X3_bound, B_X3_bound, Y_X3_bound, shpT, rfsT, wjq_s, look, hs]
      refine ⟨fun h => hq3 c1 c2 τ he (fun a b h1 h2 => by rw [hd a b h1 h2, if_pos (by unfold nd at h1; omega)]), fun h => ⟨⟨by omega, by omega⟩, ⟨by omega, by omega⟩, ⟨by omega, by omega⟩, ?_⟩⟩
      rw [hP53, hd i f ⟨hi0, by omega⟩ hf, if_neg (by omega)]
      refine ⟨_, ?_, i, 0, rfl, rfl, he, hi0, by omega, by omega, by omega, c1, c2, fun a b h1 h2 => ?_, rfl⟩
      · omega
      · rw [hd a b h1 h2]
        unfold nd at h2
        by_cases ha : a < i
        · rw [if_pos ha, if_pos (Or.inl ha)]
        · rw [if_neg ha, if_neg (by omega)]
    · intro m S L τ hI
      rw [hP53] at hI
      obtain ⟨i, j, rfl, rfl, he, hi0, hi1, hj0, hj1, c1, c2, hd, hm⟩ := hI
      simp only [sq_iconst, sq_jsr, sq_anewarray, sq_iload, sq_lload, sq_aload, sq_istore, sq_lstore, sq_astore, sq_iinc, sq_getfield, st_put0, st_put1, st_put3, sq_inv, sq_goto, sq_icmp, sq_ifc, sq_tsw, sq_iadd, sq_isub, sq_imul, sq_ineg, sq_idiv, sq_irem, sq_iand, sq_ior, sq_ixor, sq_ishl, sq_ishr, sq_iushr, sq_ladd, sq_lmul, sq_ldiv, sq_lrem, sq_land, sq_lor, sq_lshl, sq_lushr, sq_lcmp, sq_i2l, sq_l2i, sq_i2c, sq_i2b, sq_dupI, sq_dupR, sq_dup2, sq_pop, sq_iaload, sq_baload, sq_aaload, sq_iastore, sq_bastore, sq_alen, sq_ireturn, sq_lreturn, sq_return, wq_c, wq_n, wlq_s, lkp, tbl, dBk, nth, setL, canSet, cmpI, tk, swK, rdF, entL, catS, cat1, arg, rcv, ald, bld, aln, br, Ccopy, Cmax, Cmin, Cabs, List.take, List.drop, List.reverse, List.reverseAux, List.length, List.append, List.nil_append, List.cons_append, true_and, and_true, and_self, forall_const, true_implies, false_implies, not_true_eq_false, not_false_eq_true, Option.map, reduceCtorEq, reduceIte, or_true, true_or, false_or, or_false, false_and, and_false, List.map, List.append_nil, implies_true, yK, Nat.reduceBEq, beq_self_eq_true, Int.zero_ne_one, Nat.reduceDiv, Nat.reduceMod, Nat.reduceAdd, Nat.reduceSub, Nat.reduceMul, Nat.reduceEqDiff, Nat.reduceLeDiff, Int.reduceToNat, Int.reduceNeg, Int.reduceEq, Int.reduceLT, Int.reduceLE, Int.reduceNatCast, Int.reduceNatCast', Int.reduceAdd, Int.reduceSub, Int.reduceMul, eq_self, Prod.mk.injEq, A_X3_bound, V_X3_bound, B_X3_bound, Y_X3_bound, shpT, rfsT, wjq_s, look, hs]
      have out : (∀ b, nd b → ¬ b < j → nbI (σ q) f t w i b = σ q (i * 8 + b)) → i32 (i + 1) ∧ ∃ m_1, m_1 < m ∧ P32 m_1 [] [vR q, vI f, vI t, vI w, vI (i + 1)] τ := by
        intro hb
        rw [hP32]
        refine ⟨⟨by omega, by omega⟩, _, ?_, i + 1, rfl, rfl, he, by omega, by omega, c1, c2, fun a b h1 h2 => ?_, rfl⟩
        · omega
        · rw [hd a b h1 h2]
          by_cases ha : a < i
          · rw [if_pos (Or.inl ha), if_pos (by omega)]
          · by_cases ha2 : a = i
            · subst ha2
              by_cases hbj : b < j
              · rw [if_pos (Or.inr ⟨rfl, hbj⟩), if_pos (by omega)]
              · rw [if_neg (by omega), if_pos (by omega), hb b h2 hbj]
            · rw [if_neg (by omega), if_neg (by omega)]
      have nx : ∀ τ' : Sto, (∀ p : Nat, p ≠ q → τ' p = σ p) → j < 8 → (∀ a b, nd a → nd b → ¬ (a = i ∧ b = j) → τ' q (a * 8 + b) = τ q (a * 8 + b)) → τ' q (i * 8 + j) = nbI (σ q) f t w i j → i32 (j + 1) ∧ ∃ m_1, m_1 < m ∧ P53 m_1 [] [vR q, vI f, vI t, vI w, vI i, vI (σ q (i * 8 + f)), vI (j + 1)] τ' := by
        intro τ' he' hj h1 h2
        rw [hP53]
        refine ⟨⟨by omega, by omega⟩, _, ?_, i, j + 1, rfl, rfl, he', hi0, hi1, by omega, by omega, c1, c2, fun a b h3 h4 => ?_, rfl⟩
        · omega
        · by_cases hab : a = i ∧ b = j
          · rw [hab.1, hab.2, h2, if_pos (by omega)]
          · rw [h1 a b h3 h4 hab, hd a b h3 h4]
            by_cases hlt : a < i ∨ (a = i ∧ b < j)
            · rw [if_pos hlt, if_pos (by omega)]
            · rw [if_neg hlt, if_neg (by omega)]
      refine ⟨fun h => out (fun b h1 h2 => by unfold nbI; rw [if_neg (fun z => z.1 h)]), fun h => ⟨fun h1 => out (fun b h2 h3 => by unfold nd at h2; omega), fun h1 => ?_⟩⟩
      have etj : τ q (t * 8 + j) = σ q (t * 8 + j) := by
        rw [hd t j ht ⟨hj0, by omega⟩]
        split
        · exact rowt c2 j
        · rfl
      have eij : τ q (i * 8 + j) = σ q (i * 8 + j) := by rw [hd i j ⟨hi0, hi1⟩ ⟨hj0, by omega⟩, if_neg (by omega)]
      rw [etj, eij]
      have g1 := hg i f ⟨hi0, hi1⟩ hf
      have g2 := hg t j ht ⟨hj0, by omega⟩
      refine ⟨⟨by omega, by omega⟩, ⟨by omega, by omega⟩, ⟨by omega, by omega⟩, fun h2 => nx τ he (by omega) (fun _ _ _ _ _ => rfl) (by rw [eij]; unfold nbI; rw [if_neg (fun z => z.2.1 h2)]), fun h2 => ⟨⟨by omega, by omega⟩, ⟨by omega, by omega⟩, ⟨by omega, by omega⟩, ⟨by omega, by omega⟩, ⟨by omega, by omega⟩, fun h3 => nx τ he (by omega) (fun _ _ _ _ _ => rfl) (by rw [eij]; unfold nbI; rw [if_neg (by omega)]), fun h3 => ⟨⟨by omega, by omega⟩, ⟨by omega, by omega⟩, ⟨by omega, by omega⟩, ⟨by omega, by omega⟩, ⟨by omega, by omega⟩, nx _ (fun p hp => by rw [su_r hp]; exact he p hp) (by omega) (fun a b h4 h5 h6 => by unfold nd at h4 h5; rw [su_at, if_neg (by omega)]) (by rw [su_at, if_pos rfl]; unfold nbI; rw [if_pos ⟨h, h2, by omega⟩])⟩⟩⟩
    · simp only [sq_iconst, sq_jsr, sq_anewarray, sq_iload, sq_lload, sq_aload, sq_istore, sq_lstore, sq_astore, sq_iinc, sq_getfield, st_put0, st_put1, st_put3, sq_inv, sq_goto, sq_icmp, sq_ifc, sq_tsw, sq_iadd, sq_isub, sq_imul, sq_ineg, sq_idiv, sq_irem, sq_iand, sq_ior, sq_ixor, sq_ishl, sq_ishr, sq_iushr, sq_ladd, sq_lmul, sq_ldiv, sq_lrem, sq_land, sq_lor, sq_lshl, sq_lushr, sq_lcmp, sq_i2l, sq_l2i, sq_i2c, sq_i2b, sq_dupI, sq_dupR, sq_dup2, sq_pop, sq_iaload, sq_baload, sq_aaload, sq_iastore, sq_bastore, sq_alen, sq_ireturn, sq_lreturn, sq_return, wq_c, wq_n, wlq_s, lkp, tbl, dBk, nth, setL, canSet, cmpI, tk, swK, rdF, entL, catS, cat1, arg, rcv, ald, bld, aln, br, Ccopy, Cmax, Cmin, Cabs, List.take, List.drop, List.reverse, List.reverseAux, List.length, List.append, List.nil_append, List.cons_append, true_and, and_true, and_self, forall_const, true_implies, false_implies, not_true_eq_false, not_false_eq_true, Option.map, reduceCtorEq, reduceIte, or_true, true_or, false_or, or_false, false_and, and_false, List.map, List.append_nil, implies_true, yK, Nat.reduceBEq, beq_self_eq_true, Int.zero_ne_one, Nat.reduceDiv, Nat.reduceMod, Nat.reduceAdd, Nat.reduceSub, Nat.reduceMul, Nat.reduceEqDiff, Nat.reduceLeDiff, Int.reduceToNat, Int.reduceNeg, Int.reduceEq, Int.reduceLT, Int.reduceLE, Int.reduceNatCast, Int.reduceNatCast', Int.reduceAdd, Int.reduceSub, Int.reduceMul, eq_self, Prod.mk.injEq, A_X3_bound, V_X3_bound, B_X3_bound, Y_X3_bound, shpT, rfsT, wjq_s, look, hs]
      have g1 := hg t f ht hf
      refine ⟨⟨by omega, by omega⟩, ⟨by omega, by omega⟩, ⟨by omega, by omega⟩, fun h => ⟨⟨by omega, by omega⟩, ⟨by omega, by omega⟩, ⟨by omega, by omega⟩, ⟨by omega, by omega⟩, fun h1 => ?_, fun h1 => hq2 h (by omega)⟩, fun h => hq1 (by omega)⟩
      rw [hP32]
      exact ⟨_, 0, rfl, rfl, fun _ _ => rfl, by omega, by omega, h, h1, fun a b h2 h3 => by unfold nd at h2; rw [if_neg (by omega)], rfl⟩

