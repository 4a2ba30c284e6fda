-- ===== slides, both sides =====
/-- how many are over -/
def ovr (sa sb k : Int) : Int := max 0 (min sa (sb + k) - max 0 k)
def A_X7_overOf : List (Nat × Ctr) := [(2, Cmax), (2, Cmin)]
theorem e_X7_overOf (o : OM) : Ev o Y_X7_overOf 1 T_X7_overOf A_X7_overOf := ⟨rfl, List.forall_mem_cons.mpr ⟨Or.inl f_X7_9, List.forall_mem_cons.mpr ⟨Or.inl f_X7_21, fun _ h => absurd h List.not_mem_nil⟩⟩, fun _ h => absurd h List.not_mem_nil, fun _ h => absurd h List.not_mem_nil, fun _ h => absurd h List.not_mem_nil, fun _ h => absurd h List.not_mem_nil, List.forall_mem_cons.mpr ⟨max_ok w_634 w_519 w_15 w_520, List.forall_mem_cons.mpr ⟨min_ok w_635 w_522 w_15 w_523, fun _ h => absurd h List.not_mem_nil⟩⟩⟩
def C_X7_overOf : Ctr := fun A σ κ => match A with
  | [.inr (.inr (.inl 8)), .inl a, .inl b, .inl k] => ((0 ≤ a ∧ a < 7) ∧ (0 ≤ b ∧ b < 7) ∧ (-15 ≤ k ∧ k ≤ 15) ∧ (0 ≤ σ 12 a ∧ σ 12 a ≤ 16) ∧ (0 ≤ σ 12 b ∧ σ 12 b ≤ 16)) ∧ κ [vI (ovr (σ 12 a) (σ 12 b) k)] σ
  | _ => False
set_option maxRecDepth 20000 in
theorem s_X7_overOf (o : OM) : Sound o Y_X7_overOf 1 C_X7_overOf := by
  intro Q A σ hA hC
  match A, hA, hC with
  | [.inr (.inr (.inl 8)), .inl a, .inl b, .inl k], hA, hC =>
    obtain ⟨h0, hq⟩ : ((0 ≤ a ∧ a < 7) ∧ (0 ≤ b ∧ b < 7) ∧ (-15 ≤ k ∧ k ≤ 15) ∧ (0 ≤ σ 12 a ∧ σ 12 a ≤ 16) ∧ (0 ≤ σ 12 b ∧ σ 12 b ≤ 16)) ∧ Q [vI (ovr (σ 12 a) (σ 12 b) k)] σ := hC
    have hQ : ∀ r_ τ, r_ = (ovr (σ 12 a) (σ 12 b) k) → τ = (σ) → Q [vI r_] τ := fun r_ τ e e2 => e ▸ e2 ▸ hq
    refine at_wpl (lv := V_X7_overOf) (B := B_X7_overOf) (e_X7_overOf o) k_X7_overOf 1 0 [] _ σ ?_
    simp only [sq_iconst, sq_jsr, sq_anewarray, sq_iload, sq_lload, sq_aload, sq_istore, sq_lstore, sq_astore, sq_iinc, sq_getfield, st_put0, st_put1, st_put3, sq_inv, sq_goto, sq_icmp, sq_ifc, sq_tsw, sq_iadd, sq_isub, sq_imul, sq_ineg, sq_idiv, sq_irem, sq_iand, sq_ior, sq_ixor, sq_ishl, sq_ishr, sq_iushr, sq_ladd, sq_lmul, sq_ldiv, sq_lrem, sq_land, sq_lor, sq_lshl, sq_lushr, sq_lcmp, sq_i2l, sq_l2i, sq_i2c, sq_i2b, sq_dupI, sq_dupR, sq_dup2, sq_pop, sq_iaload, sq_baload, sq_aaload, sq_iastore, sq_bastore, sq_alen, sq_ireturn, sq_lreturn, sq_return, wq_c, wq_n, wlq_s, lkp, tbl, dBk, nth, setL, canSet, cmpI, tk, swK, rdF, entL, catS, cat1, arg, rcv, ald, bld, aln, br, Ccopy, Cmax, Cmin, Cabs, List.take, List.drop, List.reverse, List.reverseAux, List.length, List.append, List.nil_append, List.cons_append, true_and, and_true, and_self, forall_const, true_implies, false_implies, not_true_eq_false, not_false_eq_true, Option.map, reduceCtorEq, reduceIte, or_true, true_or, false_or, or_false, false_and, and_false, List.map, List.append_nil, implies_true, yK, Nat.reduceBEq, beq_self_eq_true, Int.zero_ne_one, Nat.reduceDiv, Nat.reduceMod, Nat.reduceAdd, Nat.reduceSub, Nat.reduceMul, Nat.reduceEqDiff, Nat.reduceLeDiff, Int.reduceToNat, Int.reduceNeg, Int.reduceEq, Int.reduceLT, Int.reduceLE, Int.reduceNatCast, Int.reduceNatCast', Int.reduceAdd, Int.reduceSub, Int.reduceMul, eq_self, Prod.mk.injEq, A_X7_overOf, V_X7_overOf, B_X7_overOf, Y_X7_overOf, shpT, rfsT, ovr]
    repeat' (first | assumption | (intro _) | apply And.intro)
    all_goals first | omega | assumption | (apply hQ <;> first | rfl | omega | (simp [ovr, *]; done) | (simp [ovr, *]; omega)) | skip
def A_X9_overOf : List (Nat × Ctr) := [(3, arg 6 C_X9_in)]
theorem e_X9_overOf (o : OM) : Ev o Y_X9_overOf 1 T_X9_overOf A_X9_overOf := ⟨rfl, List.forall_mem_cons.mpr ⟨Or.inl f_X9_13, fun _ h => absurd h List.not_mem_nil⟩, fun _ h => absurd h List.not_mem_nil, fun _ h => absurd h List.not_mem_nil, fun _ h => absurd h List.not_mem_nil, fun _ h => absurd h List.not_mem_nil, List.forall_mem_cons.mpr ⟨cl_X9_in (s_X9_in o) (by decide) (Or.inl w_1260), fun _ h => absurd h List.not_mem_nil⟩⟩
def C_X9_overOf : Ctr := fun A σ κ => match A with
  | [.inr (.inr (.inl 67)), .inl a, .inl b, .inl k] => ((0 ≤ a ∧ a < 7) ∧ (0 ≤ b ∧ b < 7) ∧ (-15 ≤ k ∧ k ≤ 15) ∧ (0 ≤ σ 69 a ∧ σ 69 a ≤ 16) ∧ (0 ≤ σ 69 b ∧ σ 69 b ≤ 16)) ∧ κ [vI (ovr (σ 69 a) (σ 69 b) k)] σ
  | _ => False
set_option maxRecDepth 20000 in
theorem s_X9_overOf (o : OM) : Sound o Y_X9_overOf 1 C_X9_overOf := by
  intro Q A σ hA hC
  match A, hA, hC with
  | [.inr (.inr (.inl 67)), .inl a, .inl b, .inl k], hA, hC =>
    obtain ⟨h0, hq⟩ : ((0 ≤ a ∧ a < 7) ∧ (0 ≤ b ∧ b < 7) ∧ (-15 ≤ k ∧ k ≤ 15) ∧ (0 ≤ σ 69 a ∧ σ 69 a ≤ 16) ∧ (0 ≤ σ 69 b ∧ σ 69 b ≤ 16)) ∧ Q [vI (ovr (σ 69 a) (σ 69 b) k)] σ := hC
    have hQ : ∀ r_ τ, r_ = (ovr (σ 69 a) (σ 69 b) k) → τ = (σ) → Q [vI r_] τ := fun r_ τ e e2 => e ▸ e2 ▸ hq
    obtain ⟨ha, hb, hk, hsa, hsb⟩ := h0
    refine at_meth (lv := V_X9_overOf) (B := B_X9_overOf) (e_X9_overOf o) k_X9_overOf 5 [(6, fun m S L τ => ∃ i : Int, S = [] ∧ L = [vR 67, vI a, vI b, vI k, vI (ovr i (σ 69 b) k), vI i] ∧ τ = σ ∧ 0 ≤ i ∧ i ≤ σ 69 a ∧ m = (σ 69 a - i).toNat)] (List.forall_mem_cons.mpr ⟨?_, fun _ h => absurd h List.not_mem_nil⟩) 0 [] _ σ ?_
    · rintro m S L τ ⟨i, rfl, rfl, rfl, hi0, hin, hm⟩
      simp only [sq_iconst, sq_jsr, sq_anewarray, sq_iload, sq_lload, sq_aload, sq_istore, sq_lstore, sq_astore, sq_iinc, sq_getfield, st_put0, st_put1, st_put3, sq_inv, sq_goto, sq_icmp, sq_ifc, sq_tsw, sq_iadd, sq_isub, sq_imul, sq_ineg, sq_idiv, sq_irem, sq_iand, sq_ior, sq_ixor, sq_ishl, sq_ishr, sq_iushr, sq_ladd, sq_lmul, sq_ldiv, sq_lrem, sq_land, sq_lor, sq_lshl, sq_lushr, sq_lcmp, sq_i2l, sq_l2i, sq_i2c, sq_i2b, sq_dupI, sq_dupR, sq_dup2, sq_pop, sq_iaload, sq_baload, sq_aaload, sq_iastore, sq_bastore, sq_alen, sq_ireturn, sq_lreturn, sq_return, wq_c, wq_n, wlq_s, lkp, tbl, dBk, nth, setL, canSet, cmpI, tk, swK, rdF, entL, catS, cat1, arg, rcv, ald, bld, aln, br, Ccopy, Cmax, Cmin, Cabs, List.take, List.drop, List.reverse, List.reverseAux, List.length, List.append, List.nil_append, List.cons_append, true_and, and_true, and_self, forall_const, true_implies, false_implies, not_true_eq_false, not_false_eq_true, Option.map, reduceCtorEq, reduceIte, or_true, true_or, false_or, or_false, false_and, and_false, List.map, List.append_nil, implies_true, yK, Nat.reduceBEq, beq_self_eq_true, Int.zero_ne_one, Nat.reduceDiv, Nat.reduceMod, Nat.reduceAdd, Nat.reduceSub, Nat.reduceMul, Nat.reduceEqDiff, Nat.reduceLeDiff, Int.reduceToNat, Int.reduceNeg, Int.reduceEq, Int.reduceLT, Int.reduceLE, Int.reduceNatCast, Int.reduceNatCast', Int.reduceAdd, Int.reduceSub, Int.reduceMul, eq_self, Prod.mk.injEq, A_X9_overOf, V_X9_overOf, B_X9_overOf, Y_X9_overOf, C_X9_in, shpT, rfsT, wjq_s, look]
      have e1 : ∀ x y, (0 ≤ i - k ∧ i - k ≤ τ 69 b - 1 → x = ovr i (τ 69 b) k + 1) → (¬ (0 ≤ i - k ∧ i - k ≤ τ 69 b - 1) → x = ovr i (τ 69 b) k) → y = i + 1 → x = ovr y (τ 69 b) k := by
        intro x y h1 h2 h3
        subst h3
        unfold ovr at *
        omega
      refine ⟨by omega, fun h1 => ?_, fun h1 => ?_⟩
      · have : i = τ 69 a := by omega
        exact hQ _ _ (by rw [this]) rfl
      · have hb1 : 0 ≤ ovr i (τ 69 b) k ∧ ovr i (τ 69 b) k ≤ 16 := by unfold ovr; omega
        refine ⟨⟨by omega, by omega⟩, by omega, ⟨by omega, by omega⟩, fun h2 => ⟨⟨by omega, by omega⟩, ⟨by omega, by omega⟩, _, ?_, i + 1, ?_, by omega, by omega, rfl⟩, fun h2 => ⟨⟨by omega, by omega⟩, ⟨by omega, by omega⟩, _, ?_, i + 1, ?_, by omega, by omega, rfl⟩⟩
        · omega
        · rw [e1 (ovr i (τ 69 b) k + 1) (i + 1) (fun _ => rfl) (fun z => absurd h2 z) rfl]
        · omega
        · rw [e1 (ovr i (τ 69 b) k + 0) (i + 1) (fun z => absurd z h2) (fun _ => by omega) rfl]
    · simp only [sq_iconst, sq_jsr, sq_anewarray, sq_iload, sq_lload, sq_aload, sq_istore, sq_lstore, sq_astore, sq_iinc, sq_getfield, st_put0, st_put1, st_put3, sq_inv, sq_goto, sq_icmp, sq_ifc, sq_tsw, sq_iadd, sq_isub, sq_imul, sq_ineg, sq_idiv, sq_irem, sq_iand, sq_ior, sq_ixor, sq_ishl, sq_ishr, sq_iushr, sq_ladd, sq_lmul, sq_ldiv, sq_lrem, sq_land, sq_lor, sq_lshl, sq_lushr, sq_lcmp, sq_i2l, sq_l2i, sq_i2c, sq_i2b, sq_dupI, sq_dupR, sq_dup2, sq_pop, sq_iaload, sq_baload, sq_aaload, sq_iastore, sq_bastore, sq_alen, sq_ireturn, sq_lreturn, sq_return, wq_c, wq_n, wlq_s, lkp, tbl, dBk, nth, setL, canSet, cmpI, tk, swK, rdF, entL, catS, cat1, arg, rcv, ald, bld, aln, br, Ccopy, Cmax, Cmin, Cabs, List.take, List.drop, List.reverse, List.reverseAux, List.length, List.append, List.nil_append, List.cons_append, true_and, and_true, and_self, forall_const, true_implies, false_implies, not_true_eq_false, not_false_eq_true, Option.map, reduceCtorEq, reduceIte, or_true, true_or, false_or, or_false, false_and, and_false, List.map, List.append_nil, implies_true, yK, Nat.reduceBEq, beq_self_eq_true, Int.zero_ne_one, Nat.reduceDiv, Nat.reduceMod, Nat.reduceAdd, Nat.reduceSub, Nat.reduceMul, Nat.reduceEqDiff, Nat.reduceLeDiff, Int.reduceToNat, Int.reduceNeg, Int.reduceEq, Int.reduceLT, Int.reduceLE, Int.reduceNatCast, Int.reduceNatCast', Int.reduceAdd, Int.reduceSub, Int.reduceMul, eq_self, Prod.mk.injEq, A_X9_overOf, V_X9_overOf, B_X9_overOf, Y_X9_overOf, C_X9_in, shpT, rfsT, wjq_s, look]
      refine ⟨_, 0, ?_, by omega, by omega, rfl⟩
      rw [show ovr 0 (σ 69 b) k = 0 by unfold ovr; omega]
/-- the place of a turned leaf -/
def tp (j r n : Int) : Int := if j + r < n then j + r else j + r - n
/-- what leaf i of the first adds, lying on leaf j of the second turned by r -/
def tmS (kd th nm : Int → Int) (a b i j r n : Int) : Int := (if i = 0 ∨ j = 0 then 0 else cmp3 (th (a * 16 + i)) (th (a * 16 + (i - 1))) * cmp3 (th (b * 16 + tp j r n)) (th (b * 16 + tp (j - 1) r n))) + (if kd (a * 16 + i) = 5 ∧ kd (b * 16 + tp j r n) = 5 then (if nm (a * 16 + i) = nm (b * 16 + tp j r n) then 5 else -5) else 0)
def lkF (kd th nm sz : Int → Int) (a b k r : Int) : Int → Int := fun i => if 0 ≤ i - k ∧ i - k < sz b then tmS kd th nm a b i (i - k) r (sz b) else 0
def lkS (kd th nm sz : Int → Int) (a b k r : Int) : Int := sumI (lkF kd th nm sz a b k r) (sz a)
theorem mul_in {x y : Int} (hx : -1 ≤ x ∧ x ≤ 1) (hy : -1 ≤ y ∧ y ≤ 1) : -1 ≤ x * y ∧ x * y ≤ 1 := by
  have hx : x = -1 ∨ x = 0 ∨ x = 1 := by omega
  rcases hx with rfl | rfl | rfl <;> omega
theorem tmS_in {kd th nm : Int → Int} {a b i j r n : Int} : -6 ≤ tmS kd th nm a b i j r n ∧ tmS kd th nm a b i j r n ≤ 6 := by
  have h := mul_in (cmp3_in (th (a * 16 + i)) (th (a * 16 + (i - 1)))) (cmp3_in (th (b * 16 + tp j r n)) (th (b * 16 + tp (j - 1) r n)))
  unfold tmS
  split <;> split <;> (try split) <;> omega
theorem lkF_in {kd th nm sz : Int → Int} {a b k r i : Int} : -6 ≤ lkF kd th nm sz a b k r i ∧ lkF kd th nm sz a b k r i ≤ 6 := by
  unfold lkF
  split
  · exact tmS_in
  · omega
theorem lk_in {kd th nm sz : Int → Int} {a b k r n : Int} (hn : 0 ≤ n ∧ n ≤ 16) : -96 ≤ sumI (lkF kd th nm sz a b k r) n ∧ sumI (lkF kd th nm sz a b k r) n ≤ 96 := by
  have := sumI_le (f := lkF kd th nm sz a b k r) (lo := -6) (hi := 6) hn.1 (fun j _ _ => lkF_in)
  omega
theorem sumI_z {f : Int → Int} {a b : Int} (ha : 0 ≤ a) (hab : a ≤ b) (h : ∀ j, a ≤ j → j < b → f j = 0) : sumI f b = sumI f a := by
  obtain ⟨n, rfl⟩ : ∃ n : Nat, b = a + n := ⟨(b - a).toNat, by omega⟩
  clear hab
  induction n with
  | zero => simp
  | succ n ih =>
    rw [show a + ((n + 1 : Nat) : Int) = (a + n) + 1 by omega, sumI_s _ (by omega), ih (fun j h1 h2 => h j h1 (by omega)), h (a + n) (by omega) (by omega), Int.add_zero]
def A_X7_turnedPlace : List (Nat × Ctr) := []
theorem e_X7_turnedPlace (o : OM) : Ev o Y_X7_turnedPlace 0 T_X7_turnedPlace A_X7_turnedPlace := ⟨rfl, fun _ h => absurd h List.not_mem_nil, fun _ h => absurd h List.not_mem_nil, fun _ h => absurd h List.not_mem_nil, fun _ h => absurd h List.not_mem_nil, fun _ h => absurd h List.not_mem_nil, fun _ h => absurd h List.not_mem_nil⟩
def C_X7_turnedPlace : Ctr := fun A σ κ => match A with
  | [.inl j, .inl r, .inl n] => ((0 ≤ j ∧ j ≤ 16) ∧ (0 ≤ r ∧ r ≤ 16) ∧ (0 ≤ n ∧ n ≤ 16)) ∧ κ [vI (tp j r n)] σ
  | _ => False
set_option maxRecDepth 20000 in
theorem s_X7_turnedPlace (o : OM) : Sound o Y_X7_turnedPlace 0 C_X7_turnedPlace := by
  intro Q A σ hA hC
  match A, hA, hC with
  | [.inl j, .inl r, .inl n], hA, hC =>
    obtain ⟨h0, hq⟩ : ((0 ≤ j ∧ j ≤ 16) ∧ (0 ≤ r ∧ r ≤ 16) ∧ (0 ≤ n ∧ n ≤ 16)) ∧ Q [vI (tp j r n)] σ := hC
    have hQ : ∀ r_ τ, r_ = (tp j r n) → τ = (σ) → Q [vI r_] τ := fun r_ τ e e2 => e ▸ e2 ▸ hq
    refine at_wpl (lv := V_X7_turnedPlace) (B := B_X7_turnedPlace) (e_X7_turnedPlace o) k_X7_turnedPlace 3 0 [] _ σ ?_
    simp only [sq_iconst, sq_jsr, sq_anewarray, sq_iload, sq_lload, sq_aload, sq_istore, sq_lstore, sq_astore, sq_iinc, sq_getfield, st_put0, st_put1, st_put3, sq_inv, sq_goto, sq_icmp, sq_ifc, sq_tsw, sq_iadd, sq_isub, sq_imul, sq_ineg, sq_idiv, sq_irem, sq_iand, sq_ior, sq_ixor, sq_ishl, sq_ishr, sq_iushr, sq_ladd, sq_lmul, sq_ldiv, sq_lrem, sq_land, sq_lor, sq_lshl, sq_lushr, sq_lcmp, sq_i2l, sq_l2i, sq_i2c, sq_i2b, sq_dupI, sq_dupR, sq_dup2, sq_pop, sq_iaload, sq_baload, sq_aaload, sq_iastore, sq_bastore, sq_alen, sq_ireturn, sq_lreturn, sq_return, wq_c, wq_n, wlq_s, lkp, tbl, dBk, nth, setL, canSet, cmpI, tk, swK, rdF, entL, catS, cat1, arg, rcv, ald, bld, aln, br, Ccopy, Cmax, Cmin, Cabs, List.take, List.drop, List.reverse, List.reverseAux, List.length, List.append, List.nil_append, List.cons_append, true_and, and_true, and_self, forall_const, true_implies, false_implies, not_true_eq_false, not_false_eq_true, Option.map, reduceCtorEq, reduceIte, or_true, true_or, false_or, or_false, false_and, and_false, List.map, List.append_nil, implies_true, yK, Nat.reduceBEq, beq_self_eq_true, Int.zero_ne_one, Nat.reduceDiv, Nat.reduceMod, Nat.reduceAdd, Nat.reduceSub, Nat.reduceMul, Nat.reduceEqDiff, Nat.reduceLeDiff, Int.reduceToNat, Int.reduceNeg, Int.reduceEq, Int.reduceLT, Int.reduceLE, Int.reduceNatCast, Int.reduceNatCast', Int.reduceAdd, Int.reduceSub, Int.reduceMul, eq_self, Prod.mk.injEq, A_X7_turnedPlace, V_X7_turnedPlace, B_X7_turnedPlace, Y_X7_turnedPlace, shpT, rfsT, tp]
    repeat' (first | assumption | (intro _) | apply And.intro)
    all_goals first | omega | assumption | (apply hQ <;> first | rfl | omega | (simp [tp, *]; done) | (simp [tp, *]; omega)) | skip
theorem tp_in {j r n : Int} (hj : 0 ≤ j ∧ j < n) (hr : 0 ≤ r ∧ r < n) : 0 ≤ tp j r n ∧ tp j r n < n := by unfold tp; split <;> omega
theorem tp_mod {j r n : Int} (hj : 0 ≤ j ∧ j < n) (hr : 0 ≤ r ∧ r < n) : (j + r).tmod n = tp j r n := by
  rw [Int.tmod_eq_emod_of_nonneg (by omega)]
  unfold tp
  split
  · exact Int.emod_eq_of_lt (by omega) (by omega)
  · rw [← Int.sub_emod_right]
    exact Int.emod_eq_of_lt (by omega) (by omega)
def A_X7_likeOf : List (Nat × Ctr) := [(2, Cmax), (3, arg 3 C_X7_turnedPlace), (4, rcv 6 4 C_X6_stepBetween), (3, rcv 6 3 C_X6_isAsh), (3, rcv 6 3 C_X6_nOf)]
theorem e_X7_likeOf (o : OM) : Ev o Y_X7_likeOf 2 T_X7_likeOf A_X7_likeOf := ⟨rfl, List.forall_mem_cons.mpr ⟨Or.inl f_X7_9, List.forall_mem_cons.mpr ⟨Or.inl f_X7_21, fun _ h => absurd h List.not_mem_nil⟩⟩, fun _ h => absurd h List.not_mem_nil, fun _ h => absurd h List.not_mem_nil, fun _ h => absurd h List.not_mem_nil, List.forall_mem_cons.mpr ⟨cl_X6_stepBetween (s_X6_stepBetween o) (by decide) (Or.inr ⟨_, wn_62⟩), List.forall_mem_cons.mpr ⟨cl_X6_isAsh (s_X6_isAsh o) (by decide) (Or.inr ⟨_, wn_63⟩), List.forall_mem_cons.mpr ⟨cl_X6_nOf (s_X6_nOf o) (by decide) (Or.inr ⟨_, wn_64⟩), fun _ h => absurd h List.not_mem_nil⟩⟩⟩, List.forall_mem_cons.mpr ⟨max_ok w_634 w_519 w_15 w_520, List.forall_mem_cons.mpr ⟨cl_X7_turnedPlace (s_X7_turnedPlace o) (by decide) (Or.inl w_641), fun _ h => absurd h List.not_mem_nil⟩⟩⟩
def C_X7_likeOf : Ctr := fun A σ κ => match A with
  | [.inr (.inr (.inl 8)), .inl a, .inl b, .inl k, .inl r] => ((0 ≤ a ∧ a < 7) ∧ (0 ≤ b ∧ b < 7) ∧ (-15 ≤ k ∧ k ≤ 15) ∧ (0 ≤ σ 12 a ∧ σ 12 a ≤ 16) ∧ (0 ≤ σ 12 b ∧ σ 12 b ≤ 16) ∧ (0 ≤ r ∧ (r < σ 12 b ∨ r = 0))) ∧ κ [vI (lkS (σ 13) (σ 14) (σ 15) (σ 12) a b k r)] σ
  | _ => False
set_option maxRecDepth 20000 in
theorem s_X7_likeOf (o : OM) : Sound o Y_X7_likeOf 2 C_X7_likeOf := by
  intro Q A σ hA hC
  match A, hA, hC with
  | [.inr (.inr (.inl 8)), .inl a, .inl b, .inl k, .inl r], hA, hC =>
    obtain ⟨h0, hq⟩ : ((0 ≤ a ∧ a < 7) ∧ (0 ≤ b ∧ b < 7) ∧ (-15 ≤ k ∧ k ≤ 15) ∧ (0 ≤ σ 12 a ∧ σ 12 a ≤ 16) ∧ (0 ≤ σ 12 b ∧ σ 12 b ≤ 16) ∧ (0 ≤ r ∧ (r < σ 12 b ∨ r = 0))) ∧ Q [vI (lkS (σ 13) (σ 14) (σ 15) (σ 12) a b k r)] σ := hC
    have hQ : ∀ r_ τ, r_ = (lkS (σ 13) (σ 14) (σ 15) (σ 12) a b k r) → τ = (σ) → Q [vI r_] τ := fun r_ τ e e2 => e ▸ e2 ▸ hq
    obtain ⟨ha, hb, hk, hsa, hsb, hr⟩ := h0
    refine at_meth (lv := V_X7_likeOf) (B := B_X7_likeOf) (e_X7_likeOf o) k_X7_likeOf 7 [(21, fun m S L τ => ∃ i : Int, S = [] ∧ L = [vR 8, vI a, vI b, vI k, vI r, vI (σ 12 b), vI (sumI (lkF (σ 13) (σ 14) (σ 15) (σ 12) a b k r) i), vI i] ∧ τ = σ ∧ 0 ≤ i ∧ k ≤ i ∧ i ≤ 16 ∧ (i = max 0 k ∨ i ≤ σ 12 a) ∧ m = (16 - i).toNat)] (List.forall_mem_cons.mpr ⟨?_, fun _ h => absurd h List.not_mem_nil⟩) 0 [] _ σ ?_
    · rintro m S L τ ⟨i, rfl, rfl, rfl, hi0, hik, hin, hor, hm⟩
      simp only [sq_iconst, sq_jsr, sq_anewarray, sq_iload, sq_lload, sq_aload, sq_istore, sq_lstore, sq_astore, sq_iinc, sq_getfield, st_put0, st_put1, st_put3, sq_inv, sq_goto, sq_icmp, sq_ifc, sq_tsw, sq_iadd, sq_isub, sq_imul, sq_ineg, sq_idiv, sq_irem, sq_iand, sq_ior, sq_ixor, sq_ishl, sq_ishr, sq_iushr, sq_ladd, sq_lmul, sq_ldiv, sq_lrem, sq_land, sq_lor, sq_lshl, sq_lushr, sq_lcmp, sq_i2l, sq_l2i, sq_i2c, sq_i2b, sq_dupI, sq_dupR, sq_dup2, sq_pop, sq_iaload, sq_baload, sq_aaload, sq_iastore, sq_bastore, sq_alen, sq_ireturn, sq_lreturn, sq_return, wq_c, wq_n, wlq_s, lkp, tbl, dBk, nth, setL, canSet, cmpI, tk, swK, rdF, entL, catS, cat1, arg, rcv, ald, bld, aln, br, Ccopy, Cmax, Cmin, Cabs, List.take, List.drop, List.reverse, List.reverseAux, List.length, List.append, List.nil_append, List.cons_append, true_and, and_true, and_self, forall_const, true_implies, false_implies, not_true_eq_false, not_false_eq_true, Option.map, reduceCtorEq, reduceIte, or_true, true_or, false_or, or_false, false_and, and_false, List.map, List.append_nil, implies_true, yK, Nat.reduceBEq, beq_self_eq_true, Int.zero_ne_one, Nat.reduceDiv, Nat.reduceMod, Nat.reduceAdd, Nat.reduceSub, Nat.reduceMul, Nat.reduceEqDiff, Nat.reduceLeDiff, Int.reduceToNat, Int.reduceNeg, Int.reduceEq, Int.reduceLT, Int.reduceLE, Int.reduceNatCast, Int.reduceNatCast', Int.reduceAdd, Int.reduceSub, Int.reduceMul, eq_self, Prod.mk.injEq, A_X7_likeOf, V_X7_likeOf, B_X7_likeOf, Y_X7_likeOf, C_X7_turnedPlace, C_X6_stepBetween, C_X6_isAsh, C_X6_nOf, shpT, rfsT, wjq_s, look]
      have hle := lk_in (kd := τ 13) (th := τ 14) (nm := τ 15) (sz := τ 12) (a := a) (b := b) (k := k) (r := r) (n := i) ⟨hi0, hin⟩
      have hend : τ 12 a ≤ i ∨ τ 12 b ≤ i - k → sumI (lkF (τ 13) (τ 14) (τ 15) (τ 12) a b k r) i = lkS (τ 13) (τ 14) (τ 15) (τ 12) a b k r := by
        intro h
        unfold lkS
        by_cases h1 : τ 12 a ≤ i
        · exact sumI_z (by omega) h1 (fun j h2 h3 => if_neg (by omega))
        · exact (sumI_z hi0 (by omega) (fun j h2 h3 => if_neg (by omega))).symm
      have nx : ∀ v : Int, i < τ 12 a → i - k < τ 12 b → v = sumI (lkF (τ 13) (τ 14) (τ 15) (τ 12) a b k r) i + tmS (τ 13) (τ 14) (τ 15) a b i (i - k) r (τ 12 b) → i32 (i + 1) ∧ ∃ m_1, m_1 < m ∧ ∃ i_1, [vR 8, vI a, vI b, vI k, vI r, vI (τ 12 b), vI v, vI (i + 1)] = [vR 8, vI a, vI b, vI k, vI r, vI (τ 12 b), vI (sumI (lkF (τ 13) (τ 14) (τ 15) (τ 12) a b k r) i_1), vI i_1] ∧ 0 ≤ i_1 ∧ k ≤ i_1 ∧ i_1 ≤ 16 ∧ (i_1 = max 0 k ∨ i_1 ≤ τ 12 a) ∧ m_1 = (16 - i_1).toNat := by
        intro v h1 h2 h3
        refine ⟨⟨by omega, by omega⟩, _, ?_, i + 1, ?_, by omega, by omega, by omega, by omega, rfl⟩
        · omega
        · rw [sumI_s _ hi0, h3]
          show _ = [vR 8, vI a, vI b, vI k, vI r, vI (τ 12 b), vI (_ + if 0 ≤ i - k ∧ i - k < τ 12 b then _ else 0), vI (i + 1)]
          rw [if_pos ⟨by omega, h2⟩]
      refine ⟨ha, fun h1 => hQ _ _ (hend (Or.inl h1)) rfl, fun h1 => ⟨⟨by omega, by omega⟩, fun h2 => hQ _ _ (hend (Or.inr h2)) rfl, fun h2 => ?_⟩⟩
      have ht := tp_in (j := i - k) (r := r) (n := τ 12 b) ⟨by omega, by omega⟩ ⟨by omega, by omega⟩
      have nx' := fun v => nx v (by omega) (by omega)
      have hm1 := mul_in (cmp3_in (τ 14 (a * 16 + i)) (τ 14 (a * 16 + (i - 1)))) (cmp3_in (τ 14 (b * 16 + tp (i - k) r (τ 12 b))) (τ 14 (b * 16 + tp (i - k - 1) r (τ 12 b))))
      refine ⟨⟨by omega, by omega⟩, by omega, fun h3 => ?_, fun h3 => ⟨fun h4 => ?_, fun h4 => ?_⟩⟩
      · have hts : tmS (τ 13) (τ 14) (τ 15) a b i (i - k) r (τ 12 b) = 0 + (if τ 13 (a * 16 + i) = 5 ∧ τ 13 (b * 16 + tp (i - k) r (τ 12 b)) = 5 then (if τ 15 (a * 16 + i) = τ 15 (b * 16 + tp (i - k) r (τ 12 b)) then 5 else -5) else 0) := by
          unfold tmS; rw [if_pos (Or.inl (by omega))]
        rw [hts] at nx'
        refine ⟨by omega, fun h5 => ⟨by omega, fun h6 => ⟨by omega, by omega, fun h7 => ⟨⟨by omega, by omega⟩, nx' _ (by rw [if_pos ⟨h5, h6⟩, if_neg h7]; omega)⟩, fun h7 => ⟨⟨by omega, by omega⟩, nx' _ (by rw [if_pos ⟨h5, h6⟩, if_pos (by omega)]; omega)⟩⟩, fun h6 => nx' _ (by rw [if_neg (fun z => h6 z.2)]; omega)⟩, fun h5 => nx' _ (by rw [if_neg (fun z => h5 z.1)]; omega)⟩
      · have hts : tmS (τ 13) (τ 14) (τ 15) a b i (i - k) r (τ 12 b) = 0 + (if τ 13 (a * 16 + i) = 5 ∧ τ 13 (b * 16 + tp (i - k) r (τ 12 b)) = 5 then (if τ 15 (a * 16 + i) = τ 15 (b * 16 + tp (i - k) r (τ 12 b)) then 5 else -5) else 0) := by
          unfold tmS; rw [if_pos (Or.inr (by omega))]
        rw [hts] at nx'
        refine ⟨by omega, fun h5 => ⟨by omega, fun h6 => ⟨by omega, by omega, fun h7 => ⟨⟨by omega, by omega⟩, nx' _ (by rw [if_pos ⟨h5, h6⟩, if_neg h7]; omega)⟩, fun h7 => ⟨⟨by omega, by omega⟩, nx' _ (by rw [if_pos ⟨h5, h6⟩, if_pos (by omega)]; omega)⟩⟩, fun h6 => nx' _ (by rw [if_neg (fun z => h6 z.2)]; omega)⟩, fun h5 => nx' _ (by rw [if_neg (fun z => h5 z.1)]; omega)⟩
      · have ht2 := tp_in (j := i - k - 1) (r := r) (n := τ 12 b) ⟨by omega, by omega⟩ ⟨by omega, by omega⟩
        have hts : tmS (τ 13) (τ 14) (τ 15) a b i (i - k) r (τ 12 b) = cmp3 (τ 14 (a * 16 + i)) (τ 14 (a * 16 + (i - 1))) * cmp3 (τ 14 (b * 16 + tp (i - k) r (τ 12 b))) (τ 14 (b * 16 + tp (i - k - 1) r (τ 12 b))) + (if τ 13 (a * 16 + i) = 5 ∧ τ 13 (b * 16 + tp (i - k) r (τ 12 b)) = 5 then (if τ 15 (a * 16 + i) = τ 15 (b * 16 + tp (i - k) r (τ 12 b)) then 5 else -5) else 0) := by
          unfold tmS; rw [if_neg (by omega)]
        rw [hts] at nx'
        generalize cmp3 (τ 14 (a * 16 + i)) (τ 14 (a * 16 + (i - 1))) * cmp3 (τ 14 (b * 16 + tp (i - k) r (τ 12 b))) (τ 14 (b * 16 + tp (i - k - 1) r (τ 12 b))) = pr at nx' hm1 ⊢
        refine ⟨⟨by omega, by omega⟩, by omega, ⟨by omega, by omega⟩, by omega, by omega, ⟨by omega, by omega⟩, ⟨by omega, by omega⟩, by omega, fun h5 => ⟨by omega, fun h6 => ⟨by omega, by omega, fun h7 => ⟨⟨by omega, by omega⟩, nx' _ (by rw [if_pos ⟨h5, h6⟩, if_neg h7]; omega)⟩, fun h7 => ⟨⟨by omega, by omega⟩, nx' _ (by rw [if_pos ⟨h5, h6⟩, if_pos (by omega)]; omega)⟩⟩, fun h6 => nx' _ (by rw [if_neg (fun z => h6 z.2)]; omega)⟩, fun h5 => nx' _ (by rw [if_neg (fun z => h5 z.1)]; omega)⟩
    · simp only [sq_iconst, sq_jsr, sq_anewarray, sq_iload, sq_lload, sq_aload, sq_istore, sq_lstore, sq_astore, sq_iinc, sq_getfield, st_put0, st_put1, st_put3, sq_inv, sq_goto, sq_icmp, sq_ifc, sq_tsw, sq_iadd, sq_isub, sq_imul, sq_ineg, sq_idiv, sq_irem, sq_iand, sq_ior, sq_ixor, sq_ishl, sq_ishr, sq_iushr, sq_ladd, sq_lmul, sq_ldiv, sq_lrem, sq_land, sq_lor, sq_lshl, sq_lushr, sq_lcmp, sq_i2l, sq_l2i, sq_i2c, sq_i2b, sq_dupI, sq_dupR, sq_dup2, sq_pop, sq_iaload, sq_baload, sq_aaload, sq_iastore, sq_bastore, sq_alen, sq_ireturn, sq_lreturn, sq_return, wq_c, wq_n, wlq_s, lkp, tbl, dBk, nth, setL, canSet, cmpI, tk, swK, rdF, entL, catS, cat1, arg, rcv, ald, bld, aln, br, Ccopy, Cmax, Cmin, Cabs, List.take, List.drop, List.reverse, List.reverseAux, List.length, List.append, List.nil_append, List.cons_append, true_and, and_true, and_self, forall_const, true_implies, false_implies, not_true_eq_false, not_false_eq_true, Option.map, reduceCtorEq, reduceIte, or_true, true_or, false_or, or_false, false_and, and_false, List.map, List.append_nil, implies_true, yK, Nat.reduceBEq, beq_self_eq_true, Int.zero_ne_one, Nat.reduceDiv, Nat.reduceMod, Nat.reduceAdd, Nat.reduceSub, Nat.reduceMul, Nat.reduceEqDiff, Nat.reduceLeDiff, Int.reduceToNat, Int.reduceNeg, Int.reduceEq, Int.reduceLT, Int.reduceLE, Int.reduceNatCast, Int.reduceNatCast', Int.reduceAdd, Int.reduceSub, Int.reduceMul, eq_self, Prod.mk.injEq, A_X7_likeOf, V_X7_likeOf, B_X7_likeOf, Y_X7_likeOf, C_X7_turnedPlace, C_X6_stepBetween, C_X6_isAsh, C_X6_nOf, shpT, rfsT, wjq_s, look]
      refine ⟨hb, _, max 0 k, ?_, by omega, by omega, by omega, by omega, rfl⟩
      have h := sumI_z (f := lkF (σ 13) (σ 14) (σ 15) (σ 12) a b k r) (a := 0) (b := max 0 k) (by omega) (by omega) (fun j h2 h3 => if_neg (by omega))
      rw [h, sumI_0]

