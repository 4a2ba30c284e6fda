-- ===== slides: like of the reference, best, turns, lowest terms =====
def A_X9_turned : List (Nat × Ctr) := []
theorem e_X9_turned (o : OM) : Ev o Y_X9_turned 0 T_X9_turned A_X9_turned := ⟨rfl, List.forall_mem_cons.mpr ⟨Or.inl f_X9_13, fun _ h => absurd h List.not_mem_nil⟩, fun _ h => absurd h List.not_mem_nil, fun _ h => absurd h List.not_mem_nil, fun _ h => absurd h List.not_mem_nil, fun _ h => absurd h List.not_mem_nil, fun _ h => absurd h List.not_mem_nil⟩
def C_X9_turned : Ctr := fun A σ κ => match A with
  | [.inr (.inr (.inl 67)), .inl b, .inl j, .inl r] => ((0 ≤ b ∧ b < 7) ∧ (0 < σ 69 b ∧ σ 69 b ≤ 16) ∧ (0 ≤ j ∧ j < σ 69 b) ∧ (0 ≤ r ∧ r < σ 69 b)) ∧ κ [vI (b * 16 + tp j r (σ 69 b))] σ
  | _ => False
set_option maxRecDepth 20000 in
theorem s_X9_turned (o : OM) : Sound o Y_X9_turned 0 C_X9_turned := by
  intro Q A σ hA hC
  match A, hA, hC with
  | [.inr (.inr (.inl 67)), .inl b, .inl j, .inl r], hA, hC =>
    obtain ⟨h0, hq⟩ : ((0 ≤ b ∧ b < 7) ∧ (0 < σ 69 b ∧ σ 69 b ≤ 16) ∧ (0 ≤ j ∧ j < σ 69 b) ∧ (0 ≤ r ∧ r < σ 69 b)) ∧ Q [vI (b * 16 + tp j r (σ 69 b))] σ := hC
    have hQ : ∀ r_ τ, r_ = (b * 16 + tp j r (σ 69 b)) → τ = (σ) → Q [vI r_] τ := fun r_ τ e e2 => e ▸ e2 ▸ hq
    refine at_wpl (lv := V_X9_turned) (B := B_X9_turned) (e_X9_turned o) k_X9_turned 1 0 [] _ σ ?_
    simp only [sq_iconst, sq_jsr, sq_anewarray, sq_iload, sq_lload, sq_aload, sq_istore, sq_lstore, sq_astore, sq_iinc, sq_getfield, st_put0, st_put1, st_put3, sq_inv, sq_goto, sq_icmp, sq_ifc, sq_tsw, sq_iadd, sq_isub, sq_imul, sq_ineg, sq_idiv, sq_irem, sq_iand, sq_ior, sq_ixor, sq_ishl, sq_ishr, sq_iushr, sq_ladd, sq_lmul, sq_ldiv, sq_lrem, sq_land, sq_lor, sq_lshl, sq_lushr, sq_lcmp, sq_i2l, sq_l2i, sq_i2c, sq_i2b, sq_dupI, sq_dupR, sq_dup2, sq_pop, sq_iaload, sq_baload, sq_aaload, sq_iastore, sq_bastore, sq_alen, sq_ireturn, sq_lreturn, sq_return, wq_c, wq_n, wlq_s, lkp, tbl, dBk, nth, setL, canSet, cmpI, tk, swK, rdF, entL, catS, cat1, arg, rcv, ald, bld, aln, br, Ccopy, Cmax, Cmin, Cabs, List.take, List.drop, List.reverse, List.reverseAux, List.length, List.append, List.nil_append, List.cons_append, true_and, and_true, and_self, forall_const, true_implies, false_implies, not_true_eq_false, not_false_eq_true, Option.map, reduceCtorEq, reduceIte, or_true, true_or, false_or, or_false, false_and, and_false, List.map, List.append_nil, implies_true, yK, Nat.reduceBEq, beq_self_eq_true, Int.zero_ne_one, Nat.reduceDiv, Nat.reduceMod, Nat.reduceAdd, Nat.reduceSub, Nat.reduceMul, Nat.reduceEqDiff, Nat.reduceLeDiff, Int.reduceToNat, Int.reduceNeg, Int.reduceEq, Int.reduceLT, Int.reduceLE, Int.reduceNatCast, Int.reduceNatCast', Int.reduceAdd, Int.reduceSub, Int.reduceMul, eq_self, Prod.mk.injEq, A_X9_turned, V_X9_turned, B_X9_turned, Y_X9_turned, shpT, rfsT, m16]
    obtain ⟨hb, hs, hj, hr⟩ := h0
    have ht := tp_in hj hr
    rw [tp_mod hj hr]
    exact ⟨⟨by omega, by omega⟩, ⟨by omega, by omega⟩, by omega, by omega, ⟨by omega, by omega⟩, hq⟩
def A_X9_likeOf : List (Nat × Ctr) := [(3, arg 6 C_X9_in), (4, rcv 9 4 C_X9_turned), (2, arg 2 C_X9_compare), (3, rcv 9 3 C_X9_stepOf)]
theorem e_X9_likeOf (o : OM) : Ev o Y_X9_likeOf 2 T_X9_likeOf A_X9_likeOf := ⟨rfl, List.forall_mem_cons.mpr ⟨Or.inl f_X9_13, List.forall_mem_cons.mpr ⟨Or.inl f_X9_19, List.forall_mem_cons.mpr ⟨Or.inl f_X9_16, List.forall_mem_cons.mpr ⟨Or.inl f_X9_22, fun _ h => absurd h List.not_mem_nil⟩⟩⟩⟩, fun _ h => absurd h List.not_mem_nil, fun _ h => absurd h List.not_mem_nil, fun _ h => absurd h List.not_mem_nil, List.forall_mem_cons.mpr ⟨cl_X9_turned (s_X9_turned o) (by decide) (Or.inl w_1413), List.forall_mem_cons.mpr ⟨cl_X9_stepOf (s_X9_stepOf o) (by decide) (Or.inl w_1307), fun _ h => absurd h List.not_mem_nil⟩⟩, List.forall_mem_cons.mpr ⟨cl_X9_in (s_X9_in o) (by decide) (Or.inl w_1260), List.forall_mem_cons.mpr ⟨cl_X9_compare (s_X9_compare o) (by decide) (Or.inl w_1311), fun _ h => absurd h List.not_mem_nil⟩⟩⟩
def C_X9_likeOf : Ctr := fun A σ κ => match A with
  | [.inr (.inr (.inl 67)), .inl a, .inl b, .inl k, .inl r] => ((0 ≤ a ∧ a < 7) ∧ (0 ≤ b ∧ b < 7) ∧ (-15 ≤ k ∧ k ≤ 15) ∧ (0 ≤ σ 69 a ∧ σ 69 a ≤ 16) ∧ (0 ≤ σ 69 b ∧ σ 69 b ≤ 16) ∧ (0 ≤ r ∧ (r < σ 69 b ∨ r = 0))) ∧ κ [vI (lkS (σ 70) (σ 71) (σ 72) (σ 69) a b k r)] σ
  | _ => False
set_option maxRecDepth 20000 in
theorem s_X9_likeOf (o : OM) : Sound o Y_X9_likeOf 2 C_X9_likeOf := by
  intro Q A σ hA hC
  match A, hA, hC with
  | [.inr (.inr (.inl 67)), .inl a, .inl b, .inl k, .inl r], hA, hC =>
    obtain ⟨h0, hq⟩ : ((0 ≤ a ∧ a < 7) ∧ (0 ≤ b ∧ b < 7) ∧ (-15 ≤ k ∧ k ≤ 15) ∧ (0 ≤ σ 69 a ∧ σ 69 a ≤ 16) ∧ (0 ≤ σ 69 b ∧ σ 69 b ≤ 16) ∧ (0 ≤ r ∧ (r < σ 69 b ∨ r = 0))) ∧ Q [vI (lkS (σ 70) (σ 71) (σ 72) (σ 69) a b k r)] σ := hC
    have hQ : ∀ r_ τ, r_ = (lkS (σ 70) (σ 71) (σ 72) (σ 69) a b k r) → τ = (σ) → Q [vI r_] τ := fun r_ τ e e2 => e ▸ e2 ▸ hq
    obtain ⟨ha, hb, hk, hsa, hsb, hr⟩ := h0
    refine at_meth (lv := V_X9_likeOf) (B := B_X9_likeOf) (e_X9_likeOf o) k_X9_likeOf 9 [(6, fun m S L τ => ∃ i : Int, S = [] ∧ L = [vR 67, vI a, vI b, vI k, vI r, vI (sumI (lkF (σ 70) (σ 71) (σ 72) (σ 69) a b k r) i), vI i] ∧ τ = σ ∧ 0 ≤ i ∧ i ≤ σ 69 a ∧ m = (σ 69 a - i).toNat)] (List.forall_mem_cons.mpr ⟨?_, fun _ h => absurd h List.not_mem_nil⟩) 0 [] _ σ ?_
    · rintro m S L τ ⟨i, rfl, rfl, rfl, hi0, hin, hm⟩
      simp only [sq_iconst, sq_jsr, sq_anewarray, sq_iload, sq_lload, sq_aload, sq_istore, sq_lstore, sq_astore, sq_iinc, sq_getfield, st_put0, st_put1, st_put3, sq_inv, sq_goto, sq_icmp, sq_ifc, sq_tsw, sq_iadd, sq_isub, sq_imul, sq_ineg, sq_idiv, sq_irem, sq_iand, sq_ior, sq_ixor, sq_ishl, sq_ishr, sq_iushr, sq_ladd, sq_lmul, sq_ldiv, sq_lrem, sq_land, sq_lor, sq_lshl, sq_lushr, sq_lcmp, sq_i2l, sq_l2i, sq_i2c, sq_i2b, sq_dupI, sq_dupR, sq_dup2, sq_pop, sq_iaload, sq_baload, sq_aaload, sq_iastore, sq_bastore, sq_alen, sq_ireturn, sq_lreturn, sq_return, wq_c, wq_n, wlq_s, lkp, tbl, dBk, nth, setL, canSet, cmpI, tk, swK, rdF, entL, catS, cat1, arg, rcv, ald, bld, aln, br, Ccopy, Cmax, Cmin, Cabs, List.take, List.drop, List.reverse, List.reverseAux, List.length, List.append, List.nil_append, List.cons_append, true_and, and_true, and_self, forall_const, true_implies, false_implies, not_true_eq_false, not_false_eq_true, Option.map, reduceCtorEq, reduceIte, or_true, true_or, false_or, or_false, false_and, and_false, List.map, List.append_nil, implies_true, yK, Nat.reduceBEq, beq_self_eq_true, Int.zero_ne_one, Nat.reduceDiv, Nat.reduceMod, Nat.reduceAdd, Nat.reduceSub, Nat.reduceMul, Nat.reduceEqDiff, Nat.reduceLeDiff, Int.reduceToNat, Int.reduceNeg, Int.reduceEq, Int.reduceLT, Int.reduceLE, Int.reduceNatCast, Int.reduceNatCast', Int.reduceAdd, Int.reduceSub, Int.reduceMul, eq_self, Prod.mk.injEq, A_X9_likeOf, V_X9_likeOf, B_X9_likeOf, Y_X9_likeOf, C_X9_in, C_X9_turned, C_X9_compare, C_X9_stepOf, shpT, rfsT, wjq_s, look, m16]
      have hle := lk_in (kd := τ 70) (th := τ 71) (nm := τ 72) (sz := τ 69) (a := a) (b := b) (k := k) (r := r) (n := i) ⟨hi0, by omega⟩
      have nx : ∀ v : Int, i < τ 69 a → v = sumI (lkF (τ 70) (τ 71) (τ 72) (τ 69) a b k r) i + lkF (τ 70) (τ 71) (τ 72) (τ 69) a b k r i → i32 (i + 1) ∧ ∃ m_1, m_1 < m ∧ ∃ i_1, [vR 67, vI a, vI b, vI k, vI r, vI v, vI (i + 1)] = [vR 67, vI a, vI b, vI k, vI r, vI (sumI (lkF (τ 70) (τ 71) (τ 72) (τ 69) a b k r) i_1), vI i_1] ∧ 0 ≤ i_1 ∧ i_1 ≤ τ 69 a ∧ m_1 = (τ 69 a - i_1).toNat := by
        intro v h1 h3
        refine ⟨⟨by omega, by omega⟩, _, ?_, i + 1, ?_, by omega, by omega, rfl⟩
        · omega
        · rw [sumI_s _ hi0, h3]
      refine ⟨ha, fun h1 => hQ _ _ (by rw [show i = τ 69 a by omega]; rfl) rfl, fun h1 => ⟨⟨by omega, by omega⟩, hb, ⟨by omega, by omega⟩, fun h2 => ?_, fun h2 => nx _ (by omega) (by unfold lkF; rw [if_neg (by omega)]; omega)⟩⟩
      have hlk : lkF (τ 70) (τ 71) (τ 72) (τ 69) a b k r i = tmS (τ 70) (τ 71) (τ 72) a b i (i - k) r (τ 69 b) := if_pos ⟨by omega, by omega⟩
      have ht := tp_in (j := i - k) (r := r) (n := τ 69 b) ⟨by omega, by omega⟩ ⟨by omega, by omega⟩
      have nx' := fun v => nx v (by omega)
      rw [hlk] at nx'
      rw [show a * 16 + i - 1 = a * 16 + (i - 1) by omega]
      have hst : -1 ≤ (if i = 0 then 0 else cmp3 (τ 71 (a * 16 + i)) (τ 71 (a * 16 + (i - 1)))) ∧ (if i = 0 then 0 else cmp3 (τ 71 (a * 16 + i)) (τ 71 (a * 16 + (i - 1)))) ≤ 1 := by
        have := cmp3_in (τ 71 (a * 16 + i)) (τ 71 (a * 16 + (i - 1)))
        split <;> omega
      refine ⟨⟨by omega, by omega⟩, ⟨by omega, by omega⟩, ⟨hb, by omega, by omega, by omega⟩, fun h3 => ?_, fun h3 => ?_⟩
      · have ht2 := tp_in (j := i - k - 1) (r := r) (n := τ 69 b) ⟨by omega, by omega⟩ ⟨by omega, by omega⟩
        have hts : tmS (τ 70) (τ 71) (τ 72) a b i (i - k) r (τ 69 b) = (if i = 0 then 0 else cmp3 (τ 71 (a * 16 + i)) (τ 71 (a * 16 + (i - 1)))) * cmp3 (τ 71 (b * 16 + tp (i - k) r (τ 69 b))) (τ 71 (b * 16 + tp (i - k - 1) r (τ 69 b))) + (if τ 70 (a * 16 + i) = 5 ∧ τ 70 (b * 16 + tp (i - k) r (τ 69 b)) = 5 then (if τ 72 (a * 16 + i) = τ 72 (b * 16 + tp (i - k) r (τ 69 b)) then 5 else -5) else 0) := by
          unfold tmS
          by_cases hi : i = 0
          · rw [if_pos (Or.inl hi), if_pos hi, Int.zero_mul]
          · rw [if_neg (by omega), if_neg hi]
        rw [hts] at nx'
        have hm1 := mul_in hst (cmp3_in (τ 71 (b * 16 + tp (i - k) r (τ 69 b))) (τ 71 (b * 16 + tp (i - k - 1) r (τ 69 b))))
        generalize (if i = 0 then 0 else cmp3 (τ 71 (a * 16 + i)) (τ 71 (a * 16 + (i - 1)))) * cmp3 (τ 71 (b * 16 + tp (i - k) r (τ 69 b))) (τ 71 (b * 16 + tp (i - k - 1) r (τ 69 b))) = pr at nx' hm1 ⊢
        exact ⟨by omega, ⟨by omega, by omega⟩, ⟨hb, by omega, by omega, by omega⟩, by omega, by omega, ⟨by omega, by omega⟩, ⟨by omega, by omega⟩, ⟨by omega, fun h5 => ⟨⟨by omega, by omega⟩, nx' _ (by rw [if_neg (fun z => h5 z.1)]; omega)⟩, fun h5 => ⟨by omega, fun h6 => ⟨by omega, by omega, fun h7 => ⟨⟨by omega, by omega⟩, nx' _ (by rw [if_pos ⟨by omega, h6⟩, if_neg h7]; omega)⟩, fun h7 => ⟨⟨by omega, by omega⟩, nx' _ (by rw [if_pos ⟨by omega, h6⟩, if_pos (by omega)]; omega)⟩⟩, fun h6 => ⟨⟨by omega, by omega⟩, nx' _ (by rw [if_neg (fun z => h6 z.2)]; omega)⟩⟩⟩⟩
      · have hts : tmS (τ 70) (τ 71) (τ 72) a b i (i - k) r (τ 69 b) = (if i = 0 then 0 else cmp3 (τ 71 (a * 16 + i)) (τ 71 (a * 16 + (i - 1)))) * 0 + (if τ 70 (a * 16 + i) = 5 ∧ τ 70 (b * 16 + tp (i - k) r (τ 69 b)) = 5 then (if τ 72 (a * 16 + i) = τ 72 (b * 16 + tp (i - k) r (τ 69 b)) then 5 else -5) else 0) := by
          unfold tmS
          rw [if_pos (Or.inr (by omega)), Int.mul_zero]
        rw [hts] at nx'
        generalize (if i = 0 then 0 else cmp3 (τ 71 (a * 16 + i)) (τ 71 (a * 16 + (i - 1)))) = st at nx' hst ⊢
        exact ⟨by omega, ⟨by omega, by omega⟩, ⟨by omega, by omega⟩, ⟨by omega, fun h5 => ⟨⟨by omega, by omega⟩, nx' _ (by rw [if_neg (fun z => h5 z.1)]; omega)⟩, fun h5 => ⟨by omega, fun h6 => ⟨by omega, by omega, fun h7 => ⟨⟨by omega, by omega⟩, nx' _ (by rw [if_pos ⟨by omega, h6⟩, if_neg h7]; omega)⟩, fun h7 => ⟨⟨by omega, by omega⟩, nx' _ (by rw [if_pos ⟨by omega, h6⟩, if_pos (by omega)]; omega)⟩⟩, fun h6 => ⟨⟨by omega, by omega⟩, nx' _ (by rw [if_neg (fun z => h6 z.2)]; omega)⟩⟩⟩⟩
    · simp only [sq_iconst, sq_jsr, sq_anewarray, sq_iload, sq_lload, sq_aload, sq_istore, sq_lstore, sq_astore, sq_iinc, sq_getfield, st_put0, st_put1, st_put3, sq_inv, sq_goto, sq_icmp, sq_ifc, sq_tsw, sq_iadd, sq_isub, sq_imul, sq_ineg, sq_idiv, sq_irem, sq_iand, sq_ior, sq_ixor, sq_ishl, sq_ishr, sq_iushr, sq_ladd, sq_lmul, sq_ldiv, sq_lrem, sq_land, sq_lor, sq_lshl, sq_lushr, sq_lcmp, sq_i2l, sq_l2i, sq_i2c, sq_i2b, sq_dupI, sq_dupR, sq_dup2, sq_pop, sq_iaload, sq_baload, sq_aaload, sq_iastore, sq_bastore, sq_alen, sq_ireturn, sq_lreturn, sq_return, wq_c, wq_n, wlq_s, lkp, tbl, dBk, nth, setL, canSet, cmpI, tk, swK, rdF, entL, catS, cat1, arg, rcv, ald, bld, aln, br, Ccopy, Cmax, Cmin, Cabs, List.take, List.drop, List.reverse, List.reverseAux, List.length, List.append, List.nil_append, List.cons_append, true_and, and_true, and_self, forall_const, true_implies, false_implies, not_true_eq_false, not_false_eq_true, Option.map, reduceCtorEq, reduceIte, or_true, true_or, false_or, or_false, false_and, and_false, List.map, List.append_nil, implies_true, yK, Nat.reduceBEq, beq_self_eq_true, Int.zero_ne_one, Nat.reduceDiv, Nat.reduceMod, Nat.reduceAdd, Nat.reduceSub, Nat.reduceMul, Nat.reduceEqDiff, Nat.reduceLeDiff, Int.reduceToNat, Int.reduceNeg, Int.reduceEq, Int.reduceLT, Int.reduceLE, Int.reduceNatCast, Int.reduceNatCast', Int.reduceAdd, Int.reduceSub, Int.reduceMul, eq_self, Prod.mk.injEq, A_X9_likeOf, V_X9_likeOf, B_X9_likeOf, Y_X9_likeOf, C_X9_in, C_X9_turned, C_X9_compare, C_X9_stepOf, shpT, rfsT, wjq_s, look]
      exact ⟨_, 0, rfl, by omega, by omega, rfl⟩
/-- the slides in the order in which like ones are taken -/
def kth (n : Int) : Int := if n % 2 = 1 then -((n + 1) / 2) else n / 2
def bsS (ov lk : Int → Int) (m k : Int) (x : Int × Int) : Int × Int := if m ≤ ov k ∧ (x.1 = -100004 ∨ x.2 < lk k) then (k, lk k) else x
def bst (ov lk : Int → Int) (m : Int) : Nat → Int × Int
  | 0 => (-100004, 0)
  | n + 1 => bsS ov lk m (kth n) (bst ov lk m n)
theorem kth_e {i : Nat} (h : ¬ (i : Int).tmod 2 = 1) : (i : Int).tdiv 2 = kth i := by
  rw [Int.tmod_eq_emod_of_nonneg (by omega)] at h
  rw [Int.tdiv_eq_ediv_of_nonneg (by omega)]
  unfold kth
  rw [if_neg h]
theorem kth_o {i : Nat} (h : (i : Int).tmod 2 = 1) : (-((i : Int) + 1)).tdiv 2 = kth i := by
  rw [Int.tmod_eq_emod_of_nonneg (by omega)] at h
  rw [Int.neg_tdiv, Int.tdiv_eq_ediv_of_nonneg (by omega)]
  unfold kth
  rw [if_pos h]
theorem kth_in {i : Nat} (h : i ≤ 30) : -15 ≤ kth i ∧ kth i ≤ 15 := by unfold kth; split <;> omega
def A_X7_best : List (Nat × Ctr) := [(4, rcv 7 6 C_X7_overOf), (5, rcv 7 11 C_X7_likeOf)]
theorem e_X7_best (o : OM) : Ev o Y_X7_best 3 T_X7_best A_X7_best := ⟨rfl, fun _ h => absurd h List.not_mem_nil, List.forall_mem_cons.mpr ⟨⟨w_663, by decide, by decide⟩, fun _ h => absurd h List.not_mem_nil⟩, fun _ h => absurd h List.not_mem_nil, fun _ h => absurd h List.not_mem_nil, List.forall_mem_cons.mpr ⟨cl_X7_overOf (s_X7_overOf o) (by decide) (Or.inl w_664), List.forall_mem_cons.mpr ⟨cl_X7_likeOf (s_X7_likeOf o) (by decide) (Or.inl w_665), fun _ h => absurd h List.not_mem_nil⟩⟩, fun _ h => absurd h List.not_mem_nil⟩
def C_X7_best : Ctr := fun A σ κ => match A with
  | [.inr (.inr (.inl 8)), .inl a, .inl b, .inl m] => ((0 ≤ a ∧ a < 7) ∧ (0 ≤ b ∧ b < 7) ∧ (1 ≤ m ∧ m ≤ 16) ∧ (0 ≤ σ 12 a ∧ σ 12 a ≤ 16) ∧ (0 ≤ σ 12 b ∧ σ 12 b ≤ 16)) ∧ κ [vI ((bst (fun k => ovr (σ 12 a) (σ 12 b) k) (fun k => lkS (σ 13) (σ 14) (σ 15) (σ 12) a b k 0) m 31).1)] σ
  | _ => False
set_option maxRecDepth 20000 in
theorem s_X7_best (o : OM) : Sound o Y_X7_best 3 C_X7_best := by
  intro Q A σ hA hC
  match A, hA, hC with
  | [.inr (.inr (.inl 8)), .inl a, .inl b, .inl m], hA, hC =>
    obtain ⟨h0, hq⟩ : ((0 ≤ a ∧ a < 7) ∧ (0 ≤ b ∧ b < 7) ∧ (1 ≤ m ∧ m ≤ 16) ∧ (0 ≤ σ 12 a ∧ σ 12 a ≤ 16) ∧ (0 ≤ σ 12 b ∧ σ 12 b ≤ 16)) ∧ Q [vI ((bst (fun k => ovr (σ 12 a) (σ 12 b) k) (fun k => lkS (σ 13) (σ 14) (σ 15) (σ 12) a b k 0) m 31).1)] σ := hC
    have hQ : ∀ r_ τ, r_ = ((bst (fun k => ovr (σ 12 a) (σ 12 b) k) (fun k => lkS (σ 13) (σ 14) (σ 15) (σ 12) a b k 0) m 31).1) → τ = (σ) → Q [vI r_] τ := fun r_ τ e e2 => e ▸ e2 ▸ hq
    obtain ⟨ha, hb, hm, hsa, hsb⟩ := h0
    refine at_meth (lv := V_X7_best) (B := B_X7_best) (e_X7_best o) k_X7_best 8 [(10, fun n S L τ => ∃ i : Nat, S = [] ∧ L = [vR 8, vI a, vI b, vI m, vI (bst (fun k => ovr (σ 12 a) (σ 12 b) k) (fun k => lkS (σ 13) (σ 14) (σ 15) (σ 12) a b k 0) m i).1, vI (bst (fun k => ovr (σ 12 a) (σ 12 b) k) (fun k => lkS (σ 13) (σ 14) (σ 15) (σ 12) a b k 0) m i).2, vI i] ∧ τ = σ ∧ i ≤ 31 ∧ n = 31 - i)] (List.forall_mem_cons.mpr ⟨?_, fun _ h => absurd h List.not_mem_nil⟩) 0 [] _ σ ?_
    · rintro n S L τ ⟨i, rfl, rfl, rfl, hin, hn⟩
      simp only [sq_iconst, sq_jsr, sq_anewarray, sq_iload, sq_lload, sq_aload, sq_istore, sq_lstore, sq_astore, sq_iinc, sq_getfield, st_put0, st_put1, st_put3, sq_inv, sq_goto, sq_icmp, sq_ifc, sq_tsw, sq_iadd, sq_isub, sq_imul, sq_ineg, sq_idiv, sq_irem, sq_iand, sq_ior, sq_ixor, sq_ishl, sq_ishr, sq_iushr, sq_ladd, sq_lmul, sq_ldiv, sq_lrem, sq_land, sq_lor, sq_lshl, sq_lushr, sq_lcmp, sq_i2l, sq_l2i, sq_i2c, sq_i2b, sq_dupI, sq_dupR, sq_dup2, sq_pop, sq_iaload, sq_baload, sq_aaload, sq_iastore, sq_bastore, sq_alen, sq_ireturn, sq_lreturn, sq_return, wq_c, wq_n, wlq_s, lkp, tbl, dBk, nth, setL, canSet, cmpI, tk, swK, rdF, entL, catS, cat1, arg, rcv, ald, bld, aln, br, Ccopy, Cmax, Cmin, Cabs, List.take, List.drop, List.reverse, List.reverseAux, List.length, List.append, List.nil_append, List.cons_append, true_and, and_true, and_self, forall_const, true_implies, false_implies, not_true_eq_false, not_false_eq_true, Option.map, reduceCtorEq, reduceIte, or_true, true_or, false_or, or_false, false_and, and_false, List.map, List.append_nil, implies_true, yK, Nat.reduceBEq, beq_self_eq_true, Int.zero_ne_one, Nat.reduceDiv, Nat.reduceMod, Nat.reduceAdd, Nat.reduceSub, Nat.reduceMul, Nat.reduceEqDiff, Nat.reduceLeDiff, Int.reduceToNat, Int.reduceNeg, Int.reduceEq, Int.reduceLT, Int.reduceLE, Int.reduceNatCast, Int.reduceNatCast', Int.reduceAdd, Int.reduceSub, Int.reduceMul, eq_self, Prod.mk.injEq, A_X7_best, V_X7_best, B_X7_best, Y_X7_best, C_X7_overOf, C_X7_likeOf, shpT, rfsT, wjq_s, look]
      have nx0 : ∀ x : Int × Int, i ≤ 30 → x = bst (fun k => ovr (τ 12 a) (τ 12 b) k) (fun k => lkS (τ 13) (τ 14) (τ 15) (τ 12) a b k 0) m (i + 1) → i32 ((i : Int) + 1) ∧ ∃ m_1, m_1 < n ∧ ∃ i_1 : Nat, [vR 8, vI a, vI b, vI m, vI x.1, vI x.2, vI ((i : Int) + 1)] = [vR 8, vI a, vI b, vI m, vI (bst (fun k => ovr (τ 12 a) (τ 12 b) k) (fun k => lkS (τ 13) (τ 14) (τ 15) (τ 12) a b k 0) m i_1).1, vI (bst (fun k => ovr (τ 12 a) (τ 12 b) k) (fun k => lkS (τ 13) (τ 14) (τ 15) (τ 12) a b k 0) m i_1).2, vI (i_1 : Int)] ∧ i_1 ≤ 31 ∧ m_1 = 31 - i_1 := by
        rintro x h30 rfl
        exact ⟨⟨by omega, by omega⟩, _, by omega, i + 1, rfl, by omega, rfl⟩
      refine ⟨fun h1 => hQ _ _ (by rw [show i = 31 by omega]) rfl, fun h1 => ?_⟩
      have hk := kth_in (i := i) (by omega)
      have nx := fun x => nx0 x (by omega)
      have hst : bst (fun k => ovr (τ 12 a) (τ 12 b) k) (fun k => lkS (τ 13) (τ 14) (τ 15) (τ 12) a b k 0) m (i + 1) = if m ≤ ovr (τ 12 a) (τ 12 b) (kth i) ∧ ((bst (fun k => ovr (τ 12 a) (τ 12 b) k) (fun k => lkS (τ 13) (τ 14) (τ 15) (τ 12) a b k 0) m i).1 = -100004 ∨ (bst (fun k => ovr (τ 12 a) (τ 12 b) k) (fun k => lkS (τ 13) (τ 14) (τ 15) (τ 12) a b k 0) m i).2 < lkS (τ 13) (τ 14) (τ 15) (τ 12) a b (kth i) 0) then (kth i, lkS (τ 13) (τ 14) (τ 15) (τ 12) a b (kth i) 0) else bst (fun k => ovr (τ 12 a) (τ 12 b) k) (fun k => lkS (τ 13) (τ 14) (τ 15) (τ 12) a b k 0) m i := rfl
      refine ⟨fun h2 => ?_, fun h2 => ?_⟩
      · rw [kth_e h2]
        refine ⟨⟨ha, hb, hk, hsa, hsb⟩, fun h3 => ⟨⟨ha, hb, hk, hsa, hsb⟩, fun h4 => nx (kth i, lkS (τ 13) (τ 14) (τ 15) (τ 12) a b (kth i) 0) (by rw [hst, if_pos ⟨h3, Or.inl h4⟩]), fun h4 => ⟨fun h5 => nx _ (by rw [hst, if_neg (fun z => z.2.elim h4 (fun y => by omega))]), fun h5 => nx (kth i, lkS (τ 13) (τ 14) (τ 15) (τ 12) a b (kth i) 0) (by rw [hst, if_pos ⟨h3, Or.inr (by omega)⟩])⟩⟩, fun h3 => nx _ (by rw [hst, if_neg (fun z => h3 z.1)])⟩
      · rw [kth_o (by omega)]
        refine ⟨⟨by omega, by omega⟩, ⟨by omega, by omega⟩, ?_⟩
        refine ⟨⟨ha, hb, hk, hsa, hsb⟩, fun h3 => ⟨⟨ha, hb, hk, hsa, hsb⟩, fun h4 => nx (kth i, lkS (τ 13) (τ 14) (τ 15) (τ 12) a b (kth i) 0) (by rw [hst, if_pos ⟨h3, Or.inl h4⟩]), fun h4 => ⟨fun h5 => nx _ (by rw [hst, if_neg (fun z => z.2.elim h4 (fun y => by omega))]), fun h5 => nx (kth i, lkS (τ 13) (τ 14) (τ 15) (τ 12) a b (kth i) 0) (by rw [hst, if_pos ⟨h3, Or.inr (by omega)⟩])⟩⟩, fun h3 => nx _ (by rw [hst, if_neg (fun z => h3 z.1)])⟩
    · simp only [sq_iconst, sq_jsr, sq_anewarray, sq_iload, sq_lload, sq_aload, sq_istore, sq_lstore, sq_astore, sq_iinc, sq_getfield, st_put0, st_put1, st_put3, sq_inv, sq_goto, sq_icmp, sq_ifc, sq_tsw, sq_iadd, sq_isub, sq_imul, sq_ineg, sq_idiv, sq_irem, sq_iand, sq_ior, sq_ixor, sq_ishl, sq_ishr, sq_iushr, sq_ladd, sq_lmul, sq_ldiv, sq_lrem, sq_land, sq_lor, sq_lshl, sq_lushr, sq_lcmp, sq_i2l, sq_l2i, sq_i2c, sq_i2b, sq_dupI, sq_dupR, sq_dup2, sq_pop, sq_iaload, sq_baload, sq_aaload, sq_iastore, sq_bastore, sq_alen, sq_ireturn, sq_lreturn, sq_return, wq_c, wq_n, wlq_s, lkp, tbl, dBk, nth, setL, canSet, cmpI, tk, swK, rdF, entL, catS, cat1, arg, rcv, ald, bld, aln, br, Ccopy, Cmax, Cmin, Cabs, List.take, List.drop, List.reverse, List.reverseAux, List.length, List.append, List.nil_append, List.cons_append, true_and, and_true, and_self, forall_const, true_implies, false_implies, not_true_eq_false, not_false_eq_true, Option.map, reduceCtorEq, reduceIte, or_true, true_or, false_or, or_false, false_and, and_false, List.map, List.append_nil, implies_true, yK, Nat.reduceBEq, beq_self_eq_true, Int.zero_ne_one, Nat.reduceDiv, Nat.reduceMod, Nat.reduceAdd, Nat.reduceSub, Nat.reduceMul, Nat.reduceEqDiff, Nat.reduceLeDiff, Int.reduceToNat, Int.reduceNeg, Int.reduceEq, Int.reduceLT, Int.reduceLE, Int.reduceNatCast, Int.reduceNatCast', Int.reduceAdd, Int.reduceSub, Int.reduceMul, eq_self, Prod.mk.injEq, A_X7_best, V_X7_best, B_X7_best, Y_X7_best, C_X7_overOf, C_X7_likeOf, shpT, rfsT, wjq_s, look]
      exact ⟨_, 0, rfl, by omega, rfl⟩
/-- of all turns, in how many like is at least as great -/
def tnS (lk : Int → Int) (n : Int) : Int := sumI (fun r => if lk 0 ≤ lk r then 1 else 0) n
theorem tn_in {lk : Int → Int} {n : Int} (hn : 0 ≤ n) : 0 ≤ tnS lk n ∧ tnS lk n ≤ n := by
  have := sumI_le (f := fun r => if lk 0 ≤ lk r then 1 else 0) (lo := 0) (hi := 1) hn (fun j _ _ => by show 0 ≤ (if _ then (1 : Int) else 0) ∧ _; split <;> omega)
  unfold tnS
  omega
def A_X7_turnsAsLike : List (Nat × Ctr) := [(5, rcv 7 11 C_X7_likeOf)]
theorem e_X7_turnsAsLike (o : OM) : Ev o Y_X7_turnsAsLike 3 T_X7_turnsAsLike A_X7_turnsAsLike := ⟨rfl, List.forall_mem_cons.mpr ⟨Or.inl f_X7_9, List.forall_mem_cons.mpr ⟨Or.inl f_X7_21, fun _ h => absurd h List.not_mem_nil⟩⟩, fun _ h => absurd h List.not_mem_nil, fun _ h => absurd h List.not_mem_nil, fun _ h => absurd h List.not_mem_nil, List.forall_mem_cons.mpr ⟨cl_X7_likeOf (s_X7_likeOf o) (by decide) (Or.inl w_665), fun _ h => absurd h List.not_mem_nil⟩, fun _ h => absurd h List.not_mem_nil⟩
def C_X7_turnsAsLike : Ctr := fun A σ κ => match A with
  | [.inr (.inr (.inl 8)), .inl a, .inl b, .inl k] => ((0 ≤ a ∧ a < 7) ∧ (0 ≤ b ∧ b < 7) ∧ (-15 ≤ k ∧ k ≤ 15) ∧ (0 ≤ σ 12 a ∧ σ 12 a ≤ 16) ∧ (0 ≤ σ 12 b ∧ σ 12 b ≤ 16)) ∧ κ [vI (tnS (fun r => lkS (σ 13) (σ 14) (σ 15) (σ 12) a b k r) (σ 12 b))] σ
  | _ => False
set_option maxRecDepth 20000 in
theorem s_X7_turnsAsLike (o : OM) : Sound o Y_X7_turnsAsLike 3 C_X7_turnsAsLike := by
  intro Q A σ hA hC
  match A, hA, hC with
  | [.inr (.inr (.inl 8)), .inl a, .inl b, .inl k], hA, hC =>
    obtain ⟨h0, hq⟩ : ((0 ≤ a ∧ a < 7) ∧ (0 ≤ b ∧ b < 7) ∧ (-15 ≤ k ∧ k ≤ 15) ∧ (0 ≤ σ 12 a ∧ σ 12 a ≤ 16) ∧ (0 ≤ σ 12 b ∧ σ 12 b ≤ 16)) ∧ Q [vI (tnS (fun r => lkS (σ 13) (σ 14) (σ 15) (σ 12) a b k r) (σ 12 b))] σ := hC
    have hQ : ∀ r_ τ, r_ = (tnS (fun r => lkS (σ 13) (σ 14) (σ 15) (σ 12) a b k r) (σ 12 b)) → τ = (σ) → Q [vI r_] τ := fun r_ τ e e2 => e ▸ e2 ▸ hq
    obtain ⟨ha, hb, hk, hsa, hsb⟩ := h0
    refine at_meth (lv := V_X7_turnsAsLike) (B := B_X7_turnsAsLike) (e_X7_turnsAsLike o) k_X7_turnsAsLike 4 [(16, fun m S L τ => ∃ i : Int, S = [] ∧ L = [vR 8, vI a, vI b, vI k, vI (lkS (σ 13) (σ 14) (σ 15) (σ 12) a b k 0), vI (tnS (fun r => lkS (σ 13) (σ 14) (σ 15) (σ 12) a b k r) i), vI i] ∧ τ = σ ∧ 0 ≤ i ∧ i ≤ σ 12 b ∧ m = (σ 12 b - i).toNat)] (List.forall_mem_cons.mpr ⟨?_, fun _ h => absurd h List.not_mem_nil⟩) 0 [] _ σ ?_
    · rintro m S L τ ⟨i, rfl, rfl, rfl, hi0, hin, hm⟩
      simp only [sq_iconst, sq_jsr, sq_anewarray, sq_iload, sq_lload, sq_aload, sq_istore, sq_lstore, sq_astore, sq_iinc, sq_getfield, st_put0, st_put1, st_put3, sq_inv, sq_goto, sq_icmp, sq_ifc, sq_tsw, sq_iadd, sq_isub, sq_imul, sq_ineg, sq_idiv, sq_irem, sq_iand, sq_ior, sq_ixor, sq_ishl, sq_ishr, sq_iushr, sq_ladd, sq_lmul, sq_ldiv, sq_lrem, sq_land, sq_lor, sq_lshl, sq_lushr, sq_lcmp, sq_i2l, sq_l2i, sq_i2c, sq_i2b, sq_dupI, sq_dupR, sq_dup2, sq_pop, sq_iaload, sq_baload, sq_aaload, sq_iastore, sq_bastore, sq_alen, sq_ireturn, sq_lreturn, sq_return, wq_c, wq_n, wlq_s, lkp, tbl, dBk, nth, setL, canSet, cmpI, tk, swK, rdF, entL, catS, cat1, arg, rcv, ald, bld, aln, br, Ccopy, Cmax, Cmin, Cabs, List.take, List.drop, List.reverse, List.reverseAux, List.length, List.append, List.nil_append, List.cons_append, true_and, and_true, and_self, forall_const, true_implies, false_implies, not_true_eq_false, not_false_eq_true, Option.map, reduceCtorEq, reduceIte, or_true, true_or, false_or, or_false, false_and, and_false, List.map, List.append_nil, implies_true, yK, Nat.reduceBEq, beq_self_eq_true, Int.zero_ne_one, Nat.reduceDiv, Nat.reduceMod, Nat.reduceAdd, Nat.reduceSub, Nat.reduceMul, Nat.reduceEqDiff, Nat.reduceLeDiff, Int.reduceToNat, Int.reduceNeg, Int.reduceEq, Int.reduceLT, Int.reduceLE, Int.reduceNatCast, Int.reduceNatCast', Int.reduceAdd, Int.reduceSub, Int.reduceMul, eq_self, Prod.mk.injEq, A_X7_turnsAsLike, V_X7_turnsAsLike, B_X7_turnsAsLike, Y_X7_turnsAsLike, C_X7_likeOf, shpT, rfsT, wjq_s, look]
      have hle := tn_in (lk := fun r => lkS (τ 13) (τ 14) (τ 15) (τ 12) a b k r) (n := i) hi0
      have hs : tnS (fun r => lkS (τ 13) (τ 14) (τ 15) (τ 12) a b k r) (i + 1) = tnS (fun r => lkS (τ 13) (τ 14) (τ 15) (τ 12) a b k r) i + if lkS (τ 13) (τ 14) (τ 15) (τ 12) a b k 0 ≤ lkS (τ 13) (τ 14) (τ 15) (τ 12) a b k i then 1 else 0 := sumI_s _ hi0
      refine ⟨hb, fun h1 => hQ _ _ (by rw [show i = τ 12 b by omega]) rfl, fun h1 => ⟨⟨ha, hb, hk, hsa, hsb, by omega⟩, fun h2 => ⟨⟨by omega, by omega⟩, _, ?_, i + 1, by rw [hs, if_neg (by omega), Int.add_zero], by omega, by omega, rfl⟩, fun h2 => ⟨⟨by omega, by omega⟩, ⟨by omega, by omega⟩, _, ?_, i + 1, by rw [hs, if_pos (by omega)], by omega, by omega, rfl⟩⟩⟩
      · omega
      · omega
    · simp only [sq_iconst, sq_jsr, sq_anewarray, sq_iload, sq_lload, sq_aload, sq_istore, sq_lstore, sq_astore, sq_iinc, sq_getfield, st_put0, st_put1, st_put3, sq_inv, sq_goto, sq_icmp, sq_ifc, sq_tsw, sq_iadd, sq_isub, sq_imul, sq_ineg, sq_idiv, sq_irem, sq_iand, sq_ior, sq_ixor, sq_ishl, sq_ishr, sq_iushr, sq_ladd, sq_lmul, sq_ldiv, sq_lrem, sq_land, sq_lor, sq_lshl, sq_lushr, sq_lcmp, sq_i2l, sq_l2i, sq_i2c, sq_i2b, sq_dupI, sq_dupR, sq_dup2, sq_pop, sq_iaload, sq_baload, sq_aaload, sq_iastore, sq_bastore, sq_alen, sq_ireturn, sq_lreturn, sq_return, wq_c, wq_n, wlq_s, lkp, tbl, dBk, nth, setL, canSet, cmpI, tk, swK, rdF, entL, catS, cat1, arg, rcv, ald, bld, aln, br, Ccopy, Cmax, Cmin, Cabs, List.take, List.drop, List.reverse, List.reverseAux, List.length, List.append, List.nil_append, List.cons_append, true_and, and_true, and_self, forall_const, true_implies, false_implies, not_true_eq_false, not_false_eq_true, Option.map, reduceCtorEq, reduceIte, or_true, true_or, false_or, or_false, false_and, and_false, List.map, List.append_nil, implies_true, yK, Nat.reduceBEq, beq_self_eq_true, Int.zero_ne_one, Nat.reduceDiv, Nat.reduceMod, Nat.reduceAdd, Nat.reduceSub, Nat.reduceMul, Nat.reduceEqDiff, Nat.reduceLeDiff, Int.reduceToNat, Int.reduceNeg, Int.reduceEq, Int.reduceLT, Int.reduceLE, Int.reduceNatCast, Int.reduceNatCast', Int.reduceAdd, Int.reduceSub, Int.reduceMul, eq_self, Prod.mk.injEq, A_X7_turnsAsLike, V_X7_turnsAsLike, B_X7_turnsAsLike, Y_X7_turnsAsLike, C_X7_likeOf, shpT, rfsT, wjq_s, look]
      exact ⟨⟨ha, hb, hk, hsa, hsb⟩, _, 0, rfl, by omega, by omega, rfl⟩

