-- ===== pairing of the class: prices =====
def o1 (s : Int) : Int := [1, 1, 0, 1, 2].getD s.toNat 0
def o2 (s : Int) : Int := [1, 0, 1, 2, 1].getD s.toNat 0
def na (e : Int) : Int := if e = -1 then 0 else 1
theorem o_in {s : Int} (h : 0 ≤ s ∧ s < 5) : 0 ≤ o1 s ∧ o1 s ≤ 2 ∧ 0 ≤ o2 s ∧ o2 s ≤ 2 ∧ 1 ≤ o1 s + o2 s := by
  have : s = 0 ∨ s = 1 ∨ s = 2 ∨ s = 3 ∨ s = 4 := by omega
  rcases this with rfl | rfl | rfl | rfl | rfl <;> decide
theorem na_in (e : Int) : 0 ≤ na e ∧ na e ≤ 1 := by unfold na; split <;> omega
theorem mulb {a b A B : Int} (h1 : 0 ≤ a) (h2 : a ≤ A) (h3 : 0 ≤ b) (h4 : b ≤ B) : 0 ≤ a * b ∧ a * b ≤ A * B := by
  refine ⟨Int.mul_nonneg h1 h3, ?_⟩
  have h5 := Int.mul_le_mul_of_nonneg_right h2 h3
  have h6 := Int.mul_le_mul_of_nonneg_left h4 (show 0 ≤ A by omega)
  omega
theorem iabs_in {a M : Int} (h1 : -M ≤ a) (h2 : a ≤ M) : 0 ≤ iabs a ∧ iabs a ≤ M := by unfold iabs; split <;> omega
theorem iabs_neg (a : Int) : iabs (-a) = iabs a := by unfold iabs; split <;> split <;> omega
/-- the price of a step -/
def prS (t1 t2 e1 e2 : Int → Int) (lo db un as s i j : Int) : Int := if s = 0 then un * iabs (t1 i - t2 j) + (if e1 i = e2 j then 0 else as) else if s = 3 then db + un * iabs (t2 j + t2 (j + 1) - t1 i) + as * (na (e1 i) + (na (e2 j) + na (e2 (j + 1)))) else if s = 4 then db + un * iabs (t1 i + t1 (i + 1) - t2 j) + as * (na (e2 j) + (na (e1 i) + na (e1 (i + 1)))) else lo
/-- whether a step can be done; the bar is one step 0 that is left out -/
def okP (n1 n2 bi bj s i j : Int) : Prop := ¬ (s = 0 ∧ i = bi ∧ j = bj) ∧ i + o1 s ≤ n1 ∧ j + o2 s ≤ n2
/-- rows of thickness, of ashes -/
def RI (t e : Int → Int) (n : Int) : Prop := ∀ i, 0 ≤ i → i < n → 0 ≤ t i ∧ t i ≤ 99 ∧ -1 ≤ e i ∧ e i ≤ 9
def LI (lo db un as : Int) : Prop := (0 ≤ lo ∧ lo ≤ 99) ∧ (0 ≤ db ∧ db ≤ 99) ∧ (0 ≤ un ∧ un ≤ 99) ∧ (0 ≤ as ∧ as ≤ 99)
theorem prS_in {t1 t2 e1 e2 : Int → Int} {lo db un as s i j n1 n2 : Int} (h1 : RI t1 e1 n1) (h2 : RI t2 e2 n2) (hl : LI lo db un as) (hs : 0 ≤ s ∧ s < 5) (hi : 0 ≤ i) (hj : 0 ≤ j) (hi2 : i + o1 s ≤ n1) (hj2 : j + o2 s ≤ n2) : 0 ≤ prS t1 t2 e1 e2 lo db un as s i j ∧ prS t1 t2 e1 e2 lo db un as s i j ≤ 20000 := by
  obtain ⟨l1, l2, l3, l4⟩ := hl
  have : s = 0 ∨ s = 1 ∨ s = 2 ∨ s = 3 ∨ s = 4 := by omega
  rcases this with rfl | rfl | rfl | rfl | rfl
  · have hi2 : i + 1 ≤ n1 := hi2
    have hj2 : j + 1 ≤ n2 := hj2
    have a1 := h1 i hi (by omega)
    have a2 := h2 j hj (by omega)
    have a3 := iabs_in (a := t1 i - t2 j) (M := 99) (by omega) (by omega)
    have a4 := mulb l3.1 l3.2 a3.1 a3.2
    unfold prS
    rw [if_pos rfl]
    split <;> omega
  · unfold prS; simp; omega
  · unfold prS; simp; omega
  · have hi2 : i + 1 ≤ n1 := hi2
    have hj2 : j + 2 ≤ n2 := hj2
    have a1 := h1 i hi (by omega)
    have a2 := h2 j hj (by omega)
    have a2' := h2 (j + 1) (by omega) (by omega)
    have a3 := iabs_in (a := t2 j + t2 (j + 1) - t1 i) (M := 198) (by omega) (by omega)
    have a4 := mulb l3.1 l3.2 a3.1 a3.2
    have b1 := na_in (e1 i)
    have b2 := na_in (e2 j)
    have b3 := na_in (e2 (j + 1))
    have a5 := mulb l4.1 l4.2 (b := na (e1 i) + (na (e2 j) + na (e2 (j + 1)))) (B := 3) (by omega) (by omega)
    unfold prS
    rw [if_neg (by decide), if_pos rfl]
    omega
  · have hi2 : i + 2 ≤ n1 := hi2
    have hj2 : j + 1 ≤ n2 := hj2
    have a1 := h1 i hi (by omega)
    have a2 := h2 j hj (by omega)
    have a2' := h1 (i + 1) (by omega) (by omega)
    have a3 := iabs_in (a := t1 i + t1 (i + 1) - t2 j) (M := 198) (by omega) (by omega)
    have a4 := mulb l3.1 l3.2 a3.1 a3.2
    have b1 := na_in (e2 j)
    have b2 := na_in (e1 i)
    have b3 := na_in (e1 (i + 1))
    have a5 := mulb l4.1 l4.2 (b := na (e2 j) + (na (e1 i) + na (e1 (i + 1)))) (B := 3) (by omega) (by omega)
    unfold prS
    rw [if_neg (by decide), if_neg (by decide), if_pos rfl]
    omega
def A_X5_canStep : List (Nat × Ctr) := []
theorem e_X5_canStep (o : OM) : Ev o Y_X5_canStep 0 T_X5_canStep A_X5_canStep := ⟨rfl, List.forall_mem_cons.mpr ⟨Or.inl f_X5_43, List.forall_mem_cons.mpr ⟨Or.inl f_X5_46, List.forall_mem_cons.mpr ⟨Or.inl f_X5_24, List.forall_mem_cons.mpr ⟨Or.inl f_X5_28, fun _ h => absurd h List.not_mem_nil⟩⟩⟩⟩, fun _ h => absurd h List.not_mem_nil, fun _ h => absurd h List.not_mem_nil, List.forall_mem_cons.mpr ⟨ref_st w_712 (by decide) (by decide) (fun s h => h.2.2.2.1.2.2.1.1), List.forall_mem_cons.mpr ⟨ref_st w_714 (by decide) (by decide) (fun s h => h.2.2.2.1.2.2.2.1), fun _ h => absurd h List.not_mem_nil⟩⟩, fun _ h => absurd h List.not_mem_nil, fun _ h => absurd h List.not_mem_nil⟩
def C_X5_canStep : Ctr := fun A σ κ => match A with
  | [.inr (.inr (.inl 9)), .inl s, .inl i, .inl j] => ((0 ≤ s ∧ s < 5) ∧ (0 ≤ i ∧ i ≤ 16) ∧ (0 ≤ j ∧ j ≤ 16)) ∧ br (okP (σ 9 6) (σ 9 7) (σ 9 12) (σ 9 13) s i j) κ σ
  | _ => False
set_option maxRecDepth 20000 in
theorem s_X5_canStep (o : OM) : Sound o Y_X5_canStep 0 C_X5_canStep := by
  intro Q A σ hA hC
  match A, hA, hC with
  | [.inr (.inr (.inl 9)), .inl s, .inl i, .inl j], hA, hC =>
    obtain ⟨h0, hq⟩ : ((0 ≤ s ∧ s < 5) ∧ (0 ≤ i ∧ i ≤ 16) ∧ (0 ≤ j ∧ j ≤ 16)) ∧ br (okP (σ 9 6) (σ 9 7) (σ 9 12) (σ 9 13) s i j) Q σ := hC
    have hT : (okP (σ 9 6) (σ 9 7) (σ 9 12) (σ 9 13) s i j) → ∀ r_, r_ = 1 → Q [vI r_] σ := fun c_ r_ e => e ▸ hq.1 c_
    have hF : ¬ (okP (σ 9 6) (σ 9 7) (σ 9 12) (σ 9 13) s i j) → ∀ r_, r_ = 0 → Q [vI r_] σ := fun c_ r_ e => e ▸ hq.2 c_
    refine at_wpl (lv := V_X5_canStep) (B := B_X5_canStep) (e_X5_canStep o) k_X5_canStep 4 0 [] _ σ ?_
    simp only [sq_iconst, sq_jsr, sq_anewarray, sq_iload, sq_lload, sq_aload, sq_istore, sq_lstore, sq_astore, sq_iinc, sq_getfield, st_put0, st_put1, st_put3, sq_inv, sq_goto, sq_icmp, sq_ifc, sq_tsw, sq_iadd, sq_isub, sq_imul, sq_ineg, sq_idiv, sq_irem, sq_iand, sq_ior, sq_ixor, sq_ishl, sq_ishr, sq_iushr, sq_ladd, sq_lmul, sq_ldiv, sq_lrem, sq_land, sq_lor, sq_lshl, sq_lushr, sq_lcmp, sq_i2l, sq_l2i, sq_i2c, sq_i2b, sq_dupI, sq_dupR, sq_dup2, sq_pop, sq_iaload, sq_baload, sq_aaload, sq_iastore, sq_bastore, sq_alen, sq_ireturn, sq_lreturn, sq_return, wq_c, wq_n, wlq_s, lkp, tbl, dBk, nth, setL, canSet, cmpI, tk, swK, rdF, entL, catS, cat1, arg, rcv, ald, bld, aln, br, Ccopy, Cmax, Cmin, Cabs, List.take, List.drop, List.reverse, List.reverseAux, List.length, List.append, List.nil_append, List.cons_append, true_and, and_true, and_self, forall_const, true_implies, false_implies, not_true_eq_false, not_false_eq_true, Option.map, reduceCtorEq, reduceIte, or_true, true_or, false_or, or_false, false_and, and_false, List.map, List.append_nil, implies_true, yK, Nat.reduceBEq, beq_self_eq_true, Int.zero_ne_one, Nat.reduceDiv, Nat.reduceMod, Nat.reduceAdd, Nat.reduceSub, Nat.reduceMul, Nat.reduceEqDiff, Nat.reduceLeDiff, Int.reduceToNat, Int.reduceNeg, Int.reduceEq, Int.reduceLT, Int.reduceLE, Int.reduceNatCast, Int.reduceNatCast', Int.reduceAdd, Int.reduceSub, Int.reduceMul, eq_self, Prod.mk.injEq, A_X5_canStep, V_X5_canStep, B_X5_canStep, Y_X5_canStep, shpT, rfsT, stc]
    obtain ⟨hs, hi, hj⟩ := h0
    have ho := o_in hs
    rw [show ([1, 1, 0, 1, 2] : List Int).getD s.toNat 0 = o1 s from rfl, show ([1, 0, 1, 2, 1] : List Int).getD s.toNat 0 = o2 s from rfl]
    unfold okP at hT hF
    repeat' (first | assumption | (intro _) | apply And.intro)
    all_goals first | omega | (apply hT <;> first | rfl | omega) | (apply hF <;> first | rfl | omega)
def A_X5_placeAfter : List (Nat × Ctr) := []
theorem e_X5_placeAfter (o : OM) : Ev o Y_X5_placeAfter 0 T_X5_placeAfter A_X5_placeAfter := ⟨rfl, fun _ h => absurd h List.not_mem_nil, fun _ h => absurd h List.not_mem_nil, fun _ h => absurd h List.not_mem_nil, List.forall_mem_cons.mpr ⟨ref_st w_712 (by decide) (by decide) (fun s h => h.2.2.2.1.2.2.1.1), List.forall_mem_cons.mpr ⟨ref_st w_714 (by decide) (by decide) (fun s h => h.2.2.2.1.2.2.2.1), fun _ h => absurd h List.not_mem_nil⟩⟩, fun _ h => absurd h List.not_mem_nil, fun _ h => absurd h List.not_mem_nil⟩
def C_X5_placeAfter : Ctr := fun A σ κ => match A with
  | [.inr (.inr (.inl 9)), .inl s, .inl i, .inl j] => ((0 ≤ s ∧ s < 5) ∧ (0 ≤ i ∧ i ≤ 16) ∧ (0 ≤ j ∧ j ≤ 16)) ∧ κ [vI ((i + o1 s) * 17 + (j + o2 s))] σ
  | _ => False
set_option maxRecDepth 20000 in
theorem s_X5_placeAfter (o : OM) : Sound o Y_X5_placeAfter 0 C_X5_placeAfter := by
  intro Q A σ hA hC
  match A, hA, hC with
  | [.inr (.inr (.inl 9)), .inl s, .inl i, .inl j], hA, hC =>
    obtain ⟨h0, hq⟩ : ((0 ≤ s ∧ s < 5) ∧ (0 ≤ i ∧ i ≤ 16) ∧ (0 ≤ j ∧ j ≤ 16)) ∧ Q [vI ((i + o1 s) * 17 + (j + o2 s))] σ := hC
    have hQ : ∀ r_ τ, r_ = ((i + o1 s) * 17 + (j + o2 s)) → τ = (σ) → Q [vI r_] τ := fun r_ τ e e2 => e ▸ e2 ▸ hq
    refine at_wpl (lv := V_X5_placeAfter) (B := B_X5_placeAfter) (e_X5_placeAfter o) k_X5_placeAfter 1 0 [] _ σ ?_
    simp only [sq_iconst, sq_jsr, sq_anewarray, sq_iload, sq_lload, sq_aload, sq_istore, sq_lstore, sq_astore, sq_iinc, sq_getfield, st_put0, st_put1, st_put3, sq_inv, sq_goto, sq_icmp, sq_ifc, sq_tsw, sq_iadd, sq_isub, sq_imul, sq_ineg, sq_idiv, sq_irem, sq_iand, sq_ior, sq_ixor, sq_ishl, sq_ishr, sq_iushr, sq_ladd, sq_lmul, sq_ldiv, sq_lrem, sq_land, sq_lor, sq_lshl, sq_lushr, sq_lcmp, sq_i2l, sq_l2i, sq_i2c, sq_i2b, sq_dupI, sq_dupR, sq_dup2, sq_pop, sq_iaload, sq_baload, sq_aaload, sq_iastore, sq_bastore, sq_alen, sq_ireturn, sq_lreturn, sq_return, wq_c, wq_n, wlq_s, lkp, tbl, dBk, nth, setL, canSet, cmpI, tk, swK, rdF, entL, catS, cat1, arg, rcv, ald, bld, aln, br, Ccopy, Cmax, Cmin, Cabs, List.take, List.drop, List.reverse, List.reverseAux, List.length, List.append, List.nil_append, List.cons_append, true_and, and_true, and_self, forall_const, true_implies, false_implies, not_true_eq_false, not_false_eq_true, Option.map, reduceCtorEq, reduceIte, or_true, true_or, false_or, or_false, false_and, and_false, List.map, List.append_nil, implies_true, yK, Nat.reduceBEq, beq_self_eq_true, Int.zero_ne_one, Nat.reduceDiv, Nat.reduceMod, Nat.reduceAdd, Nat.reduceSub, Nat.reduceMul, Nat.reduceEqDiff, Nat.reduceLeDiff, Int.reduceToNat, Int.reduceNeg, Int.reduceEq, Int.reduceLT, Int.reduceLE, Int.reduceNatCast, Int.reduceNatCast', Int.reduceAdd, Int.reduceSub, Int.reduceMul, eq_self, Prod.mk.injEq, A_X5_placeAfter, V_X5_placeAfter, B_X5_placeAfter, Y_X5_placeAfter, shpT, rfsT, stc]
    obtain ⟨hs, hi, hj⟩ := h0
    have ho := o_in hs
    rw [show ([1, 1, 0, 1, 2] : List Int).getD s.toNat 0 = o1 s from rfl, show ([1, 0, 1, 2, 1] : List Int).getD s.toNat 0 = o2 s from rfl]
    repeat' (first | assumption | (intro _) | apply And.intro)
    all_goals first | omega | (apply hQ <;> first | rfl | omega)
def A_X5_priceOfOneOnOne : List (Nat × Ctr) := [(1, Cabs)]
theorem e_X5_priceOfOneOnOne (o : OM) : Ev o Y_X5_priceOfOneOnOne 1 T_X5_priceOfOneOnOne A_X5_priceOfOneOnOne := ⟨rfl, List.forall_mem_cons.mpr ⟨Or.inl f_X5_37, List.forall_mem_cons.mpr ⟨Or.inl f_X5_9, List.forall_mem_cons.mpr ⟨Or.inl f_X5_15, List.forall_mem_cons.mpr ⟨Or.inl f_X5_18, List.forall_mem_cons.mpr ⟨Or.inl f_X5_21, List.forall_mem_cons.mpr ⟨Or.inl f_X5_40, fun _ h => absurd h List.not_mem_nil⟩⟩⟩⟩⟩⟩, fun _ h => absurd h List.not_mem_nil, fun _ h => absurd h List.not_mem_nil, fun _ h => absurd h List.not_mem_nil, fun _ h => absurd h List.not_mem_nil, List.forall_mem_cons.mpr ⟨abs_ok w_728 w_729 w_15 w_730, fun _ h => absurd h List.not_mem_nil⟩⟩
def C_X5_priceOfOneOnOne : Ctr := fun A σ κ => match A with
  | [.inr (.inr (.inl 9)), .inl i, .inl j] => ((0 ≤ i ∧ i < 16) ∧ (0 ≤ j ∧ j < 16) ∧ RI (σ 39) (σ 41) (i + 1) ∧ RI (σ 40) (σ 42) (j + 1) ∧ LI (σ 9 8) (σ 9 9) (σ 9 10) (σ 9 11)) ∧ κ [vI (σ 9 10 * iabs (σ 39 i - σ 40 j) + (if σ 41 i = σ 42 j then 0 else σ 9 11))] σ
  | _ => False
set_option maxRecDepth 20000 in
theorem s_X5_priceOfOneOnOne (o : OM) : Sound o Y_X5_priceOfOneOnOne 1 C_X5_priceOfOneOnOne := by
  intro Q A σ hA hC
  match A, hA, hC with
  | [.inr (.inr (.inl 9)), .inl i, .inl j], hA, hC =>
    obtain ⟨h0, hq⟩ : ((0 ≤ i ∧ i < 16) ∧ (0 ≤ j ∧ j < 16) ∧ RI (σ 39) (σ 41) (i + 1) ∧ RI (σ 40) (σ 42) (j + 1) ∧ LI (σ 9 8) (σ 9 9) (σ 9 10) (σ 9 11)) ∧ Q [vI (σ 9 10 * iabs (σ 39 i - σ 40 j) + (if σ 41 i = σ 42 j then 0 else σ 9 11))] σ := hC
    have hQ : ∀ r_ τ, r_ = (σ 9 10 * iabs (σ 39 i - σ 40 j) + (if σ 41 i = σ 42 j then 0 else σ 9 11)) → τ = (σ) → Q [vI r_] τ := fun r_ τ e e2 => e ▸ e2 ▸ hq
    refine at_wpl (lv := V_X5_priceOfOneOnOne) (B := B_X5_priceOfOneOnOne) (e_X5_priceOfOneOnOne o) k_X5_priceOfOneOnOne 3 0 [] _ σ ?_
    simp only [sq_iconst, sq_jsr, sq_anewarray, sq_iload, sq_lload, sq_aload, sq_istore, sq_lstore, sq_astore, sq_iinc, sq_getfield, st_put0, st_put1, st_put3, sq_inv, sq_goto, sq_icmp, sq_ifc, sq_tsw, sq_iadd, sq_isub, sq_imul, sq_ineg, sq_idiv, sq_irem, sq_iand, sq_ior, sq_ixor, sq_ishl, sq_ishr, sq_iushr, sq_ladd, sq_lmul, sq_ldiv, sq_lrem, sq_land, sq_lor, sq_lshl, sq_lushr, sq_lcmp, sq_i2l, sq_l2i, sq_i2c, sq_i2b, sq_dupI, sq_dupR, sq_dup2, sq_pop, sq_iaload, sq_baload, sq_aaload, sq_iastore, sq_bastore, sq_alen, sq_ireturn, sq_lreturn, sq_return, wq_c, wq_n, wlq_s, lkp, tbl, dBk, nth, setL, canSet, cmpI, tk, swK, rdF, entL, catS, cat1, arg, rcv, ald, bld, aln, br, Ccopy, Cmax, Cmin, Cabs, List.take, List.drop, List.reverse, List.reverseAux, List.length, List.append, List.nil_append, List.cons_append, true_and, and_true, and_self, forall_const, true_implies, false_implies, not_true_eq_false, not_false_eq_true, Option.map, reduceCtorEq, reduceIte, or_true, true_or, false_or, or_false, false_and, and_false, List.map, List.append_nil, implies_true, yK, Nat.reduceBEq, beq_self_eq_true, Int.zero_ne_one, Nat.reduceDiv, Nat.reduceMod, Nat.reduceAdd, Nat.reduceSub, Nat.reduceMul, Nat.reduceEqDiff, Nat.reduceLeDiff, Int.reduceToNat, Int.reduceNeg, Int.reduceEq, Int.reduceLT, Int.reduceLE, Int.reduceNatCast, Int.reduceNatCast', Int.reduceAdd, Int.reduceSub, Int.reduceMul, eq_self, Prod.mk.injEq, A_X5_priceOfOneOnOne, V_X5_priceOfOneOnOne, B_X5_priceOfOneOnOne, Y_X5_priceOfOneOnOne, shpT, rfsT]
    obtain ⟨hi, hj, h1, h2, l1, l2, l3, l4⟩ := h0
    have a1 := h1 i hi.1 (by omega)
    have a2 := h2 j hj.1 (by omega)
    have a3 := iabs_in (a := σ 39 i - σ 40 j) (M := 99) (by omega) (by omega)
    have a4 := mulb l3.1 l3.2 a3.1 a3.2
    repeat' (first | assumption | (intro _) | apply And.intro)
    all_goals first | omega | (refine hQ _ _ ?_ rfl; first | (rw [if_neg (by assumption)]; done) | (rw [if_pos (by omega)]; omega))
def A_X5_priceOfDoubled : List (Nat × Ctr) := [(1, Cabs)]
theorem e_X5_priceOfDoubled (o : OM) : Ev o Y_X5_priceOfDoubled 1 T_X5_priceOfDoubled A_X5_priceOfDoubled := ⟨rfl, List.forall_mem_cons.mpr ⟨Or.inl f_X5_34, List.forall_mem_cons.mpr ⟨Or.inl f_X5_37, List.forall_mem_cons.mpr ⟨Or.inl f_X5_40, fun _ h => absurd h List.not_mem_nil⟩⟩⟩, fun _ h => absurd h List.not_mem_nil, fun _ h => absurd h List.not_mem_nil, fun _ h => absurd h List.not_mem_nil, fun _ h => absurd h List.not_mem_nil, List.forall_mem_cons.mpr ⟨abs_ok w_728 w_729 w_15 w_730, fun _ h => absurd h List.not_mem_nil⟩⟩
def C_X5_priceOfDoubled : Ctr := fun A σ κ => match A with
  | [.inr (.inr (.inl 9)), .inl f, .inl n] => ((-198 ≤ f ∧ f ≤ 198) ∧ (0 ≤ n ∧ n ≤ 3) ∧ LI (σ 9 8) (σ 9 9) (σ 9 10) (σ 9 11)) ∧ κ [vI (σ 9 9 + σ 9 10 * iabs f + σ 9 11 * n)] σ
  | _ => False
set_option maxRecDepth 20000 in
theorem s_X5_priceOfDoubled (o : OM) : Sound o Y_X5_priceOfDoubled 1 C_X5_priceOfDoubled := by
  intro Q A σ hA hC
  match A, hA, hC with
  | [.inr (.inr (.inl 9)), .inl f, .inl n], hA, hC =>
    obtain ⟨h0, hq⟩ : ((-198 ≤ f ∧ f ≤ 198) ∧ (0 ≤ n ∧ n ≤ 3) ∧ LI (σ 9 8) (σ 9 9) (σ 9 10) (σ 9 11)) ∧ Q [vI (σ 9 9 + σ 9 10 * iabs f + σ 9 11 * n)] σ := hC
    have hQ : ∀ r_ τ, r_ = (σ 9 9 + σ 9 10 * iabs f + σ 9 11 * n) → τ = (σ) → Q [vI r_] τ := fun r_ τ e e2 => e ▸ e2 ▸ hq
    refine at_wpl (lv := V_X5_priceOfDoubled) (B := B_X5_priceOfDoubled) (e_X5_priceOfDoubled o) k_X5_priceOfDoubled 1 0 [] _ σ ?_
    simp only [sq_iconst, sq_jsr, sq_anewarray, sq_iload, sq_lload, sq_aload, sq_istore, sq_lstore, sq_astore, sq_iinc, sq_getfield, st_put0, st_put1, st_put3, sq_inv, sq_goto, sq_icmp, sq_ifc, sq_tsw, sq_iadd, sq_isub, sq_imul, sq_ineg, sq_idiv, sq_irem, sq_iand, sq_ior, sq_ixor, sq_ishl, sq_ishr, sq_iushr, sq_ladd, sq_lmul, sq_ldiv, sq_lrem, sq_land, sq_lor, sq_lshl, sq_lushr, sq_lcmp, sq_i2l, sq_l2i, sq_i2c, sq_i2b, sq_dupI, sq_dupR, sq_dup2, sq_pop, sq_iaload, sq_baload, sq_aaload, sq_iastore, sq_bastore, sq_alen, sq_ireturn, sq_lreturn, sq_return, wq_c, wq_n, wlq_s, lkp, tbl, dBk, nth, setL, canSet, cmpI, tk, swK, rdF, entL, catS, cat1, arg, rcv, ald, bld, aln, br, Ccopy, Cmax, Cmin, Cabs, List.take, List.drop, List.reverse, List.reverseAux, List.length, List.append, List.nil_append, List.cons_append, true_and, and_true, and_self, forall_const, true_implies, false_implies, not_true_eq_false, not_false_eq_true, Option.map, reduceCtorEq, reduceIte, or_true, true_or, false_or, or_false, false_and, and_false, List.map, List.append_nil, implies_true, yK, Nat.reduceBEq, beq_self_eq_true, Int.zero_ne_one, Nat.reduceDiv, Nat.reduceMod, Nat.reduceAdd, Nat.reduceSub, Nat.reduceMul, Nat.reduceEqDiff, Nat.reduceLeDiff, Int.reduceToNat, Int.reduceNeg, Int.reduceEq, Int.reduceLT, Int.reduceLE, Int.reduceNatCast, Int.reduceNatCast', Int.reduceAdd, Int.reduceSub, Int.reduceMul, eq_self, Prod.mk.injEq, A_X5_priceOfDoubled, V_X5_priceOfDoubled, B_X5_priceOfDoubled, Y_X5_priceOfDoubled, shpT, rfsT]
    obtain ⟨hf, hn, l1, l2, l3, l4⟩ := h0
    have a3 := iabs_in (a := f) (M := 198) (by omega) (by omega)
    have a4 := mulb l3.1 l3.2 a3.1 a3.2
    have a5 := mulb l4.1 l4.2 hn.1 hn.2
    repeat' (first | assumption | (intro _) | apply And.intro)
    all_goals omega
def A_X5_ashesFrom : List (Nat × Ctr) := []
theorem e_X5_ashesFrom (o : OM) : Ev o Y_X5_ashesFrom 0 T_X5_ashesFrom A_X5_ashesFrom := ⟨rfl, fun _ h => absurd h List.not_mem_nil, fun _ h => absurd h List.not_mem_nil, fun _ h => absurd h List.not_mem_nil, fun _ h => absurd h List.not_mem_nil, fun _ h => absurd h List.not_mem_nil, fun _ h => absurd h List.not_mem_nil⟩
def C_X5_ashesFrom : Ctr := fun A σ κ => match A with
  | [.inr (.inr (.inl q)), .inl i] => (((shp q).1 = 0 ∧ (shp q).2 = 16) ∧ (0 ≤ i ∧ i < 15)) ∧ κ [vI (na (σ q i) + na (σ q (i + 1)))] σ
  | _ => False
set_option maxRecDepth 20000 in
theorem s_X5_ashesFrom (o : OM) : Sound o Y_X5_ashesFrom 0 C_X5_ashesFrom := by
  intro Q A σ hA hC
  match A, hA, hC with
  | [.inr (.inr (.inl q)), .inl i], hA, hC =>
    obtain ⟨h0, hq⟩ : (((shp q).1 = 0 ∧ (shp q).2 = 16) ∧ (0 ≤ i ∧ i < 15)) ∧ Q [vI (na (σ q i) + na (σ q (i + 1)))] σ := hC
    have hQ : ∀ r_ τ, r_ = (na (σ q i) + na (σ q (i + 1))) → τ = (σ) → Q [vI r_] τ := fun r_ τ e e2 => e ▸ e2 ▸ hq
    refine at_wpl (lv := V_X5_ashesFrom) (B := B_X5_ashesFrom) (e_X5_ashesFrom o) k_X5_ashesFrom 5 0 [] _ σ ?_
    simp only [sq_iconst, sq_jsr, sq_anewarray, sq_iload, sq_lload, sq_aload, sq_istore, sq_lstore, sq_astore, sq_iinc, sq_getfield, st_put0, st_put1, st_put3, sq_inv, sq_goto, sq_icmp, sq_ifc, sq_tsw, sq_iadd, sq_isub, sq_imul, sq_ineg, sq_idiv, sq_irem, sq_iand, sq_ior, sq_ixor, sq_ishl, sq_ishr, sq_iushr, sq_ladd, sq_lmul, sq_ldiv, sq_lrem, sq_land, sq_lor, sq_lshl, sq_lushr, sq_lcmp, sq_i2l, sq_l2i, sq_i2c, sq_i2b, sq_dupI, sq_dupR, sq_dup2, sq_pop, sq_iaload, sq_baload, sq_aaload, sq_iastore, sq_bastore, sq_alen, sq_ireturn, sq_lreturn, sq_return, wq_c, wq_n, wlq_s, lkp, tbl, dBk, nth, setL, canSet, cmpI, tk, swK, rdF, entL, catS, cat1, arg, rcv, ald, bld, aln, br, Ccopy, Cmax, Cmin, Cabs, List.take, List.drop, List.reverse, List.reverseAux, List.length, List.append, List.nil_append, List.cons_append, true_and, and_true, and_self, forall_const, true_implies, false_implies, not_true_eq_false, not_false_eq_true, Option.map, reduceCtorEq, reduceIte, or_true, true_or, false_or, or_false, false_and, and_false, List.map, List.append_nil, implies_true, yK, Nat.reduceBEq, beq_self_eq_true, Int.zero_ne_one, Nat.reduceDiv, Nat.reduceMod, Nat.reduceAdd, Nat.reduceSub, Nat.reduceMul, Nat.reduceEqDiff, Nat.reduceLeDiff, Int.reduceToNat, Int.reduceNeg, Int.reduceEq, Int.reduceLT, Int.reduceLE, Int.reduceNatCast, Int.reduceNatCast', Int.reduceAdd, Int.reduceSub, Int.reduceMul, eq_self, Prod.mk.injEq, A_X5_ashesFrom, V_X5_ashesFrom, B_X5_ashesFrom, Y_X5_ashesFrom, shpT, rfsT, h0.1.1, h0.1.2, na]
    repeat' (first | assumption | (intro _) | apply And.intro)
    all_goals first | omega | assumption | (apply hQ <;> first | rfl | omega | (simp [h0.1.1, h0.1.2, na, *]; done) | (simp [h0.1.1, h0.1.2, na, *]; omega)) | skip

