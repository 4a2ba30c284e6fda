-- ===== the class: which joins must be thrown out =====
theorem rfs51 (j : Nat) : rfs 51 j = 52 + j := rfl
theorem lvS {n : Nat} (h : n < 13) : shp (52 + n) = (0, 64) := by
  have : n = 0 ∨ n = 1 ∨ n = 2 ∨ n = 3 ∨ n = 4 ∨ n = 5 ∨ n = 6 ∨ n = 7 ∨ n = 8 ∨ n = 9 ∨ n = 10 ∨ n = 11 ∨ n = 12 := by omega
  rcases this with rfl | rfl | rfl | rfl | rfl | rfl | rfl | rfl | rfl | rfl | rfl | rfl | rfl <;> rfl
def A_X3_copyLevel : List (Nat × Ctr) := [(5, Ccopy)]
theorem e_X3_copyLevel (o : OM) : Ev o Y_X3_copyLevel 1 T_X3_copyLevel A_X3_copyLevel := ⟨rfl, List.forall_mem_cons.mpr ⟨Or.inl f_X3_23, fun _ h => absurd h List.not_mem_nil⟩, fun _ h => absurd h List.not_mem_nil, fun _ h => absurd h List.not_mem_nil, fun _ h => absurd h List.not_mem_nil, fun _ h => absurd h List.not_mem_nil, List.forall_mem_cons.mpr ⟨copy_ok w_869 w_590 w_589 w_19, fun _ h => absurd h List.not_mem_nil⟩⟩
def C_X3_copyLevel : Ctr := fun A σ κ => match A with
  | [.inr (.inr (.inl 10)), .inl l] => (0 ≤ l ∧ l < 12) ∧ κ [] (cpS σ (52 + l.toNat) 0 (52 + (l + 1).toNat) 0 64)
  | _ => False
set_option maxRecDepth 20000 in
theorem s_X3_copyLevel (o : OM) : Sound o Y_X3_copyLevel 1 C_X3_copyLevel := by
  intro Q A σ hA hC
  match A, hA, hC with
  | [.inr (.inr (.inl 10)), .inl l], hA, hC =>
    obtain ⟨h0, hq⟩ : (0 ≤ l ∧ l < 12) ∧ Q [] (cpS σ (52 + l.toNat) 0 (52 + (l + 1).toNat) 0 64) := hC
    have hQ : ∀ τ, τ = (cpS σ (52 + l.toNat) 0 (52 + (l + 1).toNat) 0 64) → Q [] τ := fun τ e2 => e2 ▸ hq
    refine at_wpl (lv := V_X3_copyLevel) (B := B_X3_copyLevel) (e_X3_copyLevel o) k_X3_copyLevel 1 0 [] _ σ ?_
    simp only [sq_iconst, sq_jsr, sq_anewarray, sq_iload, sq_lload, sq_aload, sq_istore, sq_lstore, sq_astore, sq_iinc, sq_getfield, st_put0, st_put1, st_put3, sq_inv, sq_goto, sq_icmp, sq_ifc, sq_tsw, sq_iadd, sq_isub, sq_imul, sq_ineg, sq_idiv, sq_irem, sq_iand, sq_ior, sq_ixor, sq_ishl, sq_ishr, sq_iushr, sq_ladd, sq_lmul, sq_ldiv, sq_lrem, sq_land, sq_lor, sq_lshl, sq_lushr, sq_lcmp, sq_i2l, sq_l2i, sq_i2c, sq_i2b, sq_dupI, sq_dupR, sq_dup2, sq_pop, sq_iaload, sq_baload, sq_aaload, sq_iastore, sq_bastore, sq_alen, sq_ireturn, sq_lreturn, sq_return, wq_c, wq_n, wlq_s, lkp, tbl, dBk, nth, setL, canSet, cmpI, tk, swK, rdF, entL, catS, cat1, arg, rcv, ald, bld, aln, br, Ccopy, Cmax, Cmin, Cabs, List.take, List.drop, List.reverse, List.reverseAux, List.length, List.append, List.nil_append, List.cons_append, true_and, and_true, and_self, forall_const, true_implies, false_implies, not_true_eq_false, not_false_eq_true, Option.map, reduceCtorEq, reduceIte, or_true, true_or, false_or, or_false, false_and, and_false, List.map, List.append_nil, implies_true, yK, Nat.reduceBEq, beq_self_eq_true, Int.zero_ne_one, Nat.reduceDiv, Nat.reduceMod, Nat.reduceAdd, Nat.reduceSub, Nat.reduceMul, Nat.reduceEqDiff, Nat.reduceLeDiff, Int.reduceToNat, Int.reduceNeg, Int.reduceEq, Int.reduceLT, Int.reduceLE, Int.reduceNatCast, Int.reduceNatCast', Int.reduceAdd, Int.reduceSub, Int.reduceMul, eq_self, Prod.mk.injEq, A_X3_copyLevel, V_X3_copyLevel, B_X3_copyLevel, Y_X3_copyLevel, shpT, rfsT, rfs51]
    simp only [lvS (show l.toNat < 13 by omega), lvS (show (l + 1).toNat < 13 by omega)]
    exact ⟨⟨by omega, by omega⟩, ⟨by omega, by omega⟩, ⟨by omega, by omega⟩, trivial, trivial, Int.le_refl _, Int.le_refl _, hq⟩
def A_X3_considerCast : List (Nat × Ctr) := [(1, arg 1 C_J6_bitCount_0f7a4)]
theorem e_X3_considerCast (o : OM) : Ev o Y_X3_considerCast 1 T_X3_considerCast A_X3_considerCast := ⟨rfl, List.forall_mem_cons.mpr ⟨Or.inl f_X3_36, List.forall_mem_cons.mpr ⟨Or.inl f_X3_39, List.forall_mem_cons.mpr ⟨Or.inl f_X3_32, fun _ h => absurd h List.not_mem_nil⟩⟩⟩, fun _ h => absurd h List.not_mem_nil, fun _ h => absurd h List.not_mem_nil, fun _ h => absurd h List.not_mem_nil, fun _ h => absurd h List.not_mem_nil, List.forall_mem_cons.mpr ⟨cl_J6_bitCount_0f7a4 (s_J6_bitCount_0f7a4 o) (by decide) (Or.inl w_916), fun _ h => absurd h List.not_mem_nil⟩⟩
def C_X3_considerCast : Ctr := fun A σ κ => match A with
  | [.inr (.inr (.inl 10)), .inl c, .inl dd] => (0 ≤ c ∧ c < 4096) ∧ κ [] (if pop c ≤ σ 10 10 ∧ (pop c < σ 10 10 ∨ σ 10 11 < dd ∨ (dd = σ 10 11 ∧ c < σ 10 9)) then su (su (su σ 10 9 c) 10 10 (pop c)) 10 11 dd else σ)
  | _ => False
set_option maxRecDepth 20000 in
theorem s_X3_considerCast (o : OM) : Sound o Y_X3_considerCast 1 C_X3_considerCast := by
  intro Q A σ hA hC
  match A, hA, hC with
  | [.inr (.inr (.inl 10)), .inl c, .inl dd], hA, hC =>
    obtain ⟨h0, hq⟩ : (0 ≤ c ∧ c < 4096) ∧ Q [] (if pop c ≤ σ 10 10 ∧ (pop c < σ 10 10 ∨ σ 10 11 < dd ∨ (dd = σ 10 11 ∧ c < σ 10 9)) then su (su (su σ 10 9 c) 10 10 (pop c)) 10 11 dd else σ) := hC
    have hQ : ∀ τ, τ = (if pop c ≤ σ 10 10 ∧ (pop c < σ 10 10 ∨ σ 10 11 < dd ∨ (dd = σ 10 11 ∧ c < σ 10 9)) then su (su (su σ 10 9 c) 10 10 (pop c)) 10 11 dd else σ) → Q [] τ := fun τ e2 => e2 ▸ hq
    refine at_wpl (lv := V_X3_considerCast) (B := B_X3_considerCast) (e_X3_considerCast o) k_X3_considerCast 4 0 [] _ σ ?_
    simp only [sq_iconst, sq_jsr, sq_anewarray, sq_iload, sq_lload, sq_aload, sq_istore, sq_lstore, sq_astore, sq_iinc, sq_getfield, st_put0, st_put1, st_put3, sq_inv, sq_goto, sq_icmp, sq_ifc, sq_tsw, sq_iadd, sq_isub, sq_imul, sq_ineg, sq_idiv, sq_irem, sq_iand, sq_ior, sq_ixor, sq_ishl, sq_ishr, sq_iushr, sq_ladd, sq_lmul, sq_ldiv, sq_lrem, sq_land, sq_lor, sq_lshl, sq_lushr, sq_lcmp, sq_i2l, sq_l2i, sq_i2c, sq_i2b, sq_dupI, sq_dupR, sq_dup2, sq_pop, sq_iaload, sq_baload, sq_aaload, sq_iastore, sq_bastore, sq_alen, sq_ireturn, sq_lreturn, sq_return, wq_c, wq_n, wlq_s, lkp, tbl, dBk, nth, setL, canSet, cmpI, tk, swK, rdF, entL, catS, cat1, arg, rcv, ald, bld, aln, br, Ccopy, Cmax, Cmin, Cabs, List.take, List.drop, List.reverse, List.reverseAux, List.length, List.append, List.nil_append, List.cons_append, true_and, and_true, and_self, forall_const, true_implies, false_implies, not_true_eq_false, not_false_eq_true, Option.map, reduceCtorEq, reduceIte, or_true, true_or, false_or, or_false, false_and, and_false, List.map, List.append_nil, implies_true, yK, Nat.reduceBEq, beq_self_eq_true, Int.zero_ne_one, Nat.reduceDiv, Nat.reduceMod, Nat.reduceAdd, Nat.reduceSub, Nat.reduceMul, Nat.reduceEqDiff, Nat.reduceLeDiff, Int.reduceToNat, Int.reduceNeg, Int.reduceEq, Int.reduceLT, Int.reduceLE, Int.reduceNatCast, Int.reduceNatCast', Int.reduceAdd, Int.reduceSub, Int.reduceMul, eq_self, Prod.mk.injEq, A_X3_considerCast, V_X3_considerCast, B_X3_considerCast, Y_X3_considerCast, C_J6_bitCount_0f7a4, shpT, rfsT]
    clear hq
    refine ⟨h0, fun h => ⟨fun h1 => hQ _ ?_, fun h1 => hQ _ ?_⟩, fun h => ⟨fun h2 => ⟨fun h1 => hQ _ ?_, fun h1 => hQ _ ?_⟩, fun h2 => ⟨fun h3 => ⟨fun h1 => hQ _ ?_, fun h1 => hQ _ ?_⟩, fun h3 => ⟨fun h4 => ⟨fun h1 => hQ _ ?_, fun h1 => hQ _ ?_⟩, fun h4 => ⟨fun h1 => hQ _ ?_, fun h1 => hQ _ ?_⟩⟩⟩⟩⟩
    all_goals first | (rw [if_pos (by omega)]; done) | (rw [if_neg (by omega)]; done)
def A_castk (C : Ctr) : List (Nat × Ctr) := [(1, arg 1 C_J6_bitCount_0f7a4), (3, rcv 3 5 C_X3_considerCast), (2, rcv 3 2 C_X3_copyLevel), (2, rcv 0 2 C_X0_isKept), (3, rcv 3 3 C_X3_bindJoin), (4, rcv 3 4 C)]
theorem e_castk (o : OM) {d : Nat} {C : Ctr} (h2 : 2 ≤ d) (hS : Sound o Y_X3_castFrom d C) : Ev o Y_X3_castFrom (d + 1) T_X3_castFrom (A_castk C) := ⟨rfl, List.forall_mem_cons.mpr ⟨Or.inl f_X3_36, List.forall_mem_cons.mpr ⟨Or.inl f_X3_59, List.forall_mem_cons.mpr ⟨Or.inl f_X3_111, List.forall_mem_cons.mpr ⟨Or.inl f_X3_23, List.forall_mem_cons.mpr ⟨Or.inl f_X3_187, fun _ h => absurd h List.not_mem_nil⟩⟩⟩⟩⟩, fun _ h => absurd h List.not_mem_nil, fun _ h => absurd h List.not_mem_nil, fun _ h => absurd h List.not_mem_nil, List.forall_mem_cons.mpr ⟨cl_X3_considerCast (s_X3_considerCast o) (by omega) (Or.inl w_938), List.forall_mem_cons.mpr ⟨cl_X3_copyLevel (s_X3_copyLevel o) (by omega) (Or.inl w_942), List.forall_mem_cons.mpr ⟨cl_X0_isKept (s_X0_isKept o) (by omega) (Or.inr ⟨_, wn_91⟩), List.forall_mem_cons.mpr ⟨cl_X3_bindJoin (s_X3_bindJoin o) (by omega) (Or.inl w_871), List.forall_mem_cons.mpr ⟨cl_X3_castFrom hS (Nat.le_refl _) (Or.inl w_934), fun _ h => absurd h List.not_mem_nil⟩⟩⟩⟩⟩, List.forall_mem_cons.mpr ⟨cl_J6_bitCount_0f7a4 (s_J6_bitCount_0f7a4 o) (by omega) (Or.inl w_916), fun _ h => absurd h List.not_mem_nil⟩⟩
def FeaC (σ : Sto) (c : Int) : Prop := (0 ≤ c ∧ c < 4096) ∧ (∀ i, 0 ≤ i → i < 32 → bb c i = true → i < σ 2 0 ∧ ktC σ i) ∧ ∃ M, Base M ∧ AllC (orK (KF σ) (KJc σ (fun j => ktC σ j ∧ bb c j = false))) M
def dbt (J : Int) (ds : Int → Int) (c : Int) : Int := sumI (fun j => if bb c j = true then ds j else 0) J
def BstC (F : Int → Prop) (db : Int → Int) (bc bs bd : Int) : Prop := (bc = -1 ∧ bs = 13 ∧ bd = -1 ∧ ∀ c, ¬ F c) ∨ (F bc ∧ bs = pop bc ∧ bd = db bc ∧ ∀ c, F c → pop bc < pop c ∨ (pop bc = pop c ∧ (db c < db bc ∨ (db c = db bc ∧ bc ≤ c))))
theorem BstC_ext {F F' : Int → Prop} {db : Int → Int} {a b c : Int} (h : ∀ x, F x ↔ F' x) (hB : BstC F db a b c) : BstC F' db a b c := by
  have : F = F' := funext (fun x => propext (h x))
  rw [← this]
  exact hB
theorem pop_in (c : Int) : 0 ≤ pop c ∧ pop c ≤ 12 := by
  have := sumI_le (f := fun j => if bb c j = true then (1 : Int) else 0) (lo := 0) (hi := 1) (n := 12) (by omega) (fun j _ _ => by show (0 : Int) ≤ (if bb c j = true then 1 else 0) ∧ (if bb c j = true then (1 : Int) else 0) ≤ 1; split <;> omega)
  unfold pop
  omega
theorem sumN_mono {f g : Int → Int} : ∀ n : Nat, (∀ j : Int, 0 ≤ j → j < n → f j ≤ g j) → sumN f n ≤ sumN g n
  | 0, _ => Int.le_refl _
  | n + 1, h => by
    have := sumN_mono n (fun j a b => h j a (by omega))
    have := h n (by omega) (by omega)
    simp only [sumN]
    omega
theorem pop_mono {c c' : Int} (h : ∀ i, 0 ≤ i → i < 32 → bb c i = true → bb c' i = true) : pop c ≤ pop c' := by
  refine sumN_mono 12 (fun j a b => ?_)
  show (if bb c j = true then (1 : Int) else 0) ≤ (if bb c' j = true then 1 else 0)
  by_cases e : bb c j = true
  · rw [if_pos e, if_pos (h j a (by omega) e)]; omega
  · rw [if_neg e]; split <;> omega
/-- one more is looked at -/
theorem BstC_one {F : Int → Prop} {db : Int → Int} {bc bs bd x : Int} (hB : BstC F db bc bs bd) : if pop x ≤ bs ∧ (pop x < bs ∨ bd < db x ∨ (db x = bd ∧ x < bc)) then BstC (fun c => F c ∨ c = x) db x (pop x) (db x) else BstC (fun c => F c ∨ c = x) db bc bs bd := by
  have px := pop_in x
  rcases hB with ⟨rfl, rfl, rfl, h⟩ | ⟨h1, h2, h3, h4⟩
  · rw [if_pos (by omega)]
    refine Or.inr ⟨Or.inr rfl, rfl, rfl, fun c hc => ?_⟩
    rcases hc with hc | rfl
    · exact absurd hc (h c)
    · omega
  · split
    · rename_i hh
      refine Or.inr ⟨Or.inr rfl, rfl, rfl, fun c hc => ?_⟩
      rcases hc with hc | rfl
      · have := h4 c hc
        omega
      · omega
    · rename_i hh
      refine Or.inr ⟨Or.inl h1, h2, h3, fun c hc => ?_⟩
      rcases hc with hc | rfl
      · exact h4 c hc
      · omega
/-- none of those that are passed over would be better -/
theorem BstC_cut {F X : Int → Prop} {db : Int → Int} {bc bs bd : Int} (hB : BstC F db bc bs bd) (h : ∀ c, X c → bs < pop c) : BstC (fun c => F c ∨ X c) db bc bs bd := by
  rcases hB with ⟨h1, h2, h3, h4⟩ | ⟨h1, h2, h3, h4⟩
  · refine Or.inl ⟨h1, h2, h3, fun c hc => hc.elim (h4 c) (fun hc => ?_)⟩
    have := h c hc
    have := pop_in c
    omega
  · refine Or.inr ⟨Or.inl h1, h2, h3, fun c hc => hc.elim (h4 c) (fun hc => ?_)⟩
    have := h c hc
    omega
def extC (σ : Sto) (j c0 : Int) : Int → Prop := fun c => FeaC σ c ∧ ∀ i, 0 ≤ i → i < j → bb c i = bb c0 i
def castPG (σ : Sto) (j c dd : Int) (g : Int → Int) : Prop := NIc σ ∧ (0 ≤ j ∧ j ≤ σ 2 0) ∧ (0 ≤ c ∧ c < 4096) ∧ (∀ i, 0 ≤ i → i < 32 → bb c i = true → i < j ∧ ktC σ i) ∧ dd = dbt (σ 2 0) (σ 20) c ∧ (∀ i, 0 ≤ i → i < σ 2 0 → 0 ≤ σ 20 i ∧ σ 20 i ≤ 99) ∧ NetK (orK (KF σ) (KJ (fun i => ktC σ i ∧ bb c i = false) j (σ 16) (σ 17) (σ 18) (σ 19))) g
def castPre (σ : Sto) (j c dd : Int) : Prop := castPG σ j c dd (σ (52 + j.toNat))
def castB (k : Nat) (σ : Sto) (j c dd : Int) (κ : List AV → Sto → Prop) : Prop := σ 2 0 - j ≤ k ∧ castPre σ j c dd ∧ ∃ F : Int → Prop, BstC F (dbt (σ 2 0) (σ 20)) (σ 10 9) (σ 10 10) (σ 10 11) ∧ ∀ τ : Sto, (∀ p : Nat, p ≠ 10 → ¬ (52 + j.toNat < p ∧ p ≤ 64) → τ p = σ p) → BstC (fun x => F x ∨ extC σ j c x) (dbt (σ 2 0) (σ 20)) (τ 10 9) (τ 10 10) (τ 10 11) → κ [] τ
def Cfk : Nat → Ctr
  | 0 => fun _ _ _ => False
  | k + 1 => fun A σ κ => match A with
    | [.inr (.inr (.inl 10)), .inl j, .inl c, .inl dd] => castB k σ j c dd κ
    | _ => False
/-- the bits of both hands of a branch -/
theorem or_bits {c j : Int} (j0 : 0 ≤ j) (j1 : j < 32) : ∀ i, 0 ≤ i → i < 32 → bb (bOr c (bShl 1 j)) i = (bb c i || decide (i = j)) := fun i i0 i1 => by rw [bb_or, bb_shl j0 j1 i0 i1]
theorem dbt_or {J c j : Int} {ds : Int → Int} (hJ : J ≤ 32) (j0 : 0 ≤ j) (j1 : j < J) (hc : bb c j = false) : dbt J ds (bOr c (bShl 1 j)) = dbt J ds c + ds j := by
  have e := or_bits (c := c) j0 (show j < 32 by omega)
  have h := sum_1 (f := fun i => if bb (bOr c (bShl 1 j)) i = true then ds i else 0) (g := fun i => if bb c i = true then ds i else 0) (j := j) (v := ds j) J.toNat (fun i i0 i1 n => by
    show (if bb (bOr c (bShl 1 j)) i = true then ds i else 0) = if bb c i = true then ds i else 0
    rw [e i i0 (by omega), decide_eq_false n, Bool.or_false]) (fun _ _ => by
    show (if bb (bOr c (bShl 1 j)) j = true then ds j else 0) = (if bb c j = true then ds j else 0) + _
    rw [e j j0 (by omega), decide_eq_true rfl, Bool.or_true, if_pos rfl, hc, if_neg (by simp)]
    omega)
  rw [if_pos ⟨j0, by omega⟩] at h
  exact h
theorem ext_no {σ : Sto} {j c : Int} (j0 : 0 ≤ j) (j1 : j < 32) (hk : ¬ ktC σ j) (hc : bb c j = false) : ∀ x, extC σ (j + 1) c x ↔ extC σ j c x := by
  intro x
  refine ⟨fun z => ⟨z.1, fun i i0 i1 => z.2 i i0 (by omega)⟩, fun z => ⟨z.1, fun i i0 i1 => ?_⟩⟩
  by_cases e : i = j
  · rw [e, hc]
    by_cases d : bb x j = true
    · exact absurd (z.1.2.1 j j0 j1 d).2 hk
    · simpa using d
  · exact z.2 i i0 (by omega)
theorem ext_yes {σ : Sto} {j c : Int} (j0 : 0 ≤ j) (j1 : j < 32) (hc : bb c j = false) : ∀ x, (extC σ (j + 1) c x ∨ extC σ (j + 1) (bOr c (bShl 1 j)) x) ↔ extC σ j c x := by
  intro x
  have e := or_bits (c := c) j0 j1
  constructor
  · rintro (z | z)
    · exact ⟨z.1, fun i i0 i1 => z.2 i i0 (by omega)⟩
    · refine ⟨z.1, fun i i0 i1 => ?_⟩
      rw [z.2 i i0 (by omega), e i i0 (by omega), decide_eq_false (by omega), Bool.or_false]
  · intro z
    by_cases d : bb x j = true
    · refine Or.inr ⟨z.1, fun i i0 i1 => ?_⟩
      rw [e i i0 (by omega)]
      by_cases n : i = j
      · rw [n, d, decide_eq_true rfl, Bool.or_true]
      · rw [z.2 i i0 (by omega), decide_eq_false n, Bool.or_false]
    · refine Or.inl ⟨z.1, fun i i0 i1 => ?_⟩
      by_cases n : i = j
      · rw [n, hc]; simpa using d
      · exact z.2 i i0 (by omega)
theorem ktC_e {τ σ : Sto} (h : lo38 τ σ) : ktC τ = ktC σ := by
  unfold ktC
  simp only [h 2 (by decide) (by decide)]
theorem extC_e {τ σ : Sto} (h : lo38 τ σ) : extC τ = extC σ := by
  funext j c0
  unfold extC FeaC KJc
  simp only [h 2 (by decide) (by decide), ktC_e h, KF_e h, h 16 (by decide) (by decide), h 17 (by decide) (by decide), h 18 (by decide) (by decide), h 19 (by decide) (by decide)]
theorem cp_lev {τ : Sto} {a b : Nat} : ∀ i j, nd i → nd j → cpS τ a 0 b 0 64 b (i * 8 + j) = τ a (i * 8 + j) := by
  intro i j x y
  unfold nd at x y
  rw [cpS_eq]
  show (if 0 ≤ i * 8 + j ∧ i * 8 + j < 0 + 64 then τ a (0 + (i * 8 + j - 0)) else τ b (i * 8 + j)) = _
  rw [if_pos (by omega)]
  congr 1
  omega
theorem castPG_e {τ σ : Sto} {j c dd : Int} {g : Int → Int} (h : lo38 τ σ) (hp : castPG σ j c dd g) : castPG τ j c dd g := by
  obtain ⟨h1, h2, h3, h4, h5, h6, h7⟩ := hp
  unfold castPG
  rw [ktC_e h, KF_e h]
  simp only [h 2 (by decide) (by decide), h 16 (by decide) (by decide), h 17 (by decide) (by decide), h 18 (by decide) (by decide), h 19 (by decide) (by decide), h 20 (by decide) (by decide)]
  exact ⟨NIc_e h h1, h2, h3, h4, h5, h6, h7⟩
theorem ext_end {σ : Sto} {c dd : Int} {g : Int → Int} (hp : castPG σ (σ 2 0) c dd g) : ∀ x, extC σ (σ 2 0) c x ↔ x = c := by
  obtain ⟨hI, hj, hc, hcb, hdd, hds, hN⟩ := hp
  have hJ := hI.2.1
  intro x
  constructor
  · rintro ⟨⟨x0, x1, x2⟩, x3⟩
    refine bb_ext ⟨by omega, by omega⟩ ⟨by omega, by omega⟩ (fun i i0 i1 => ?_)
    by_cases e : i < σ 2 0
    · exact x3 i i0 e
    · have a : bb x i = false := by
        by_cases z : bb x i = true
        · exact absurd (x1 i i0 i1 z).1 e
        · simpa using z
      have b : bb c i = false := by
        by_cases z : bb c i = true
        · exact absurd (hcb i i0 i1 z).1 e
        · simpa using z
      rw [a, b]
  · rintro rfl
    have cl := NetK_Clo hN
    exact ⟨⟨hc, hcb, _, cl.1, cl.2.1⟩, fun _ _ _ => rfl⟩
set_option maxRecDepth 20000 in
theorem s_castk (o : OM) : ∀ k : Nat, Sound o Y_X3_castFrom (2 + k) (Cfk k)
  | 0 => fun Q A σ hA hC => hC.elim
  | k + 1 => by
    intro Q A σ hA hC
    have hE := e_castk o (d := 2 + k) (by omega) (s_castk o k)
    match A, hA, hC with
    | [.inr (.inr (.inl 10)), .inl j, .inl c, .inl dd], hA, hC =>
      obtain ⟨hk, hpre, F, hF, hq⟩ : castB k σ j c dd Q := hC
      obtain ⟨hI, hj, hc, hcb, hdd, hds, hN⟩ := id hpre
      have hJ := hI.2.1
      have bcj : bb c j = false := by
        by_cases z : bb c j = true
        · have := (hcb j hj.1 (by omega) z).1; omega
        · simpa using z
      obtain ⟨P77, hP77⟩ : ∃ P : Nat → List AV → List AV → Sto → Prop, P = fun m S L τ => S = [] ∧ L = [vR 10, vI j, vI c, vI dd] ∧ (∀ p : Nat, p ≠ 10 → ¬ (52 + j.toNat < p ∧ p ≤ 64) → τ p = σ p) ∧ j < σ 2 0 ∧ BstC (fun x => F x ∨ extC σ (j + 1) c x) (dbt (σ 2 0) (σ 20)) (τ 10 9) (τ 10 10) (τ 10 11) ∧ m = 0 := ⟨_, rfl⟩
      have call : ∀ (τ1 : Sto) (c1 d1 : Int) (F1 : Int → Prop) (κ : List AV → Sto → Prop), lo38 τ1 σ → j < σ 2 0 → castPG σ (j + 1) c1 d1 (τ1 (52 + (j + 1).toNat)) → BstC F1 (dbt (σ 2 0) (σ 20)) (τ1 10 9) (τ1 10 10) (τ1 10 11) → (∀ τ2 : Sto, (∀ p : Nat, p ≠ 10 → ¬ (52 + (j + 1).toNat < p ∧ p ≤ 64) → τ2 p = τ1 p) → BstC (fun x => F1 x ∨ extC σ (j + 1) c1 x) (dbt (σ 2 0) (σ 20)) (τ2 10 9) (τ2 10 10) (τ2 10 11) → κ [] τ2) → Cfk k [vR 10, vI (j + 1), vI c1, vI d1] τ1 κ := by
        intro τ1 c1 d1 F1 κ l3 j1 hp hB hκ
        obtain ⟨k', rfl⟩ : ∃ k', k = k' + 1 := ⟨k - 1, by omega⟩
        show castB k' τ1 (j + 1) c1 d1 κ
        unfold castB
        rw [l3 2 (by decide) (by decide), l3 20 (by decide) (by decide), extC_e l3]
        exact ⟨by omega, castPG_e l3 hp, F1, hB, hκ⟩
      refine at_meth (lv := V_X3_castFrom) (B := B_X3_castFrom) hE k_X3_castFrom 7 [(77, P77)] (List.forall_mem_cons.mpr ⟨?_, fun _ h => absurd h List.not_mem_nil⟩) 0 [] _ σ ?_
      · intro m S L τ hI
        rw [hP77] at hI
        obtain ⟨rfl, rfl, he, j1, hB, hm⟩ := hI
        simp only [sq_iconst, sq_jsr, sq_anewarray, sq_iload, sq_lload, sq_aload, sq_istore, sq_lstore, sq_astore, sq_iinc, sq_getfield, st_put0, st_put1, st_put3, sq_inv, sq_goto, sq_icmp, sq_ifc, sq_tsw, sq_iadd, sq_isub, sq_imul, sq_ineg, sq_idiv, sq_irem, sq_iand, sq_ior, sq_ixor, sq_ishl, sq_ishr, sq_iushr, sq_ladd, sq_lmul, sq_ldiv, sq_lrem, sq_land, sq_lor, sq_lshl, sq_lushr, sq_lcmp, sq_i2l, sq_l2i, sq_i2c, sq_i2b, sq_dupI, sq_dupR, sq_dup2, sq_pop, sq_iaload, sq_baload, sq_aaload, sq_iastore, sq_bastore, sq_alen, sq_ireturn, sq_lreturn, sq_return, wq_c, wq_n, wlq_s, lkp, tbl, dBk, nth, setL, canSet, cmpI, tk, swK, rdF, entL, catS, cat1, arg, rcv, ald, bld, aln, br, Ccopy, Cmax, Cmin, Cabs, List.take, List.drop, List.reverse, List.reverseAux, List.length, List.append, List.nil_append, List.cons_append, true_and, and_true, and_self, forall_const, true_implies, false_implies, not_true_eq_false, not_false_eq_true, Option.map, reduceCtorEq, reduceIte, or_true, true_or, false_or, or_false, false_and, and_false, List.map, List.append_nil, implies_true, yK, Nat.reduceBEq, beq_self_eq_true, Int.zero_ne_one, Nat.reduceDiv, Nat.reduceMod, Nat.reduceAdd, Nat.reduceSub, Nat.reduceMul, Nat.reduceEqDiff, Nat.reduceLeDiff, Int.reduceToNat, Int.reduceNeg, Int.reduceEq, Int.reduceLT, Int.reduceLE, Int.reduceNatCast, Int.reduceNatCast', Int.reduceAdd, Int.reduceSub, Int.reduceMul, eq_self, Prod.mk.injEq, A_castk, V_X3_castFrom, B_X3_castFrom, Y_X3_castFrom, C_J6_bitCount_0f7a4, C_X3_considerCast, C_X3_copyLevel, C_X0_isKept, C_X3_bindJoin, shpT, rfsT, wjq_s, look, rfs51, he 2 (by decide) (by omega), he 20 (by decide) (by omega)]
        have hnt : (j + 1).toNat = j.toNat + 1 := by omega
        have e20 : cpS τ (52 + j.toNat) 0 (52 + (j + 1).toNat) 0 64 20 = σ 20 := by rw [cpS_ne 20 (by omega), he 20 (by decide) (by omega)]
        rw [e20]
        have l3 : lo38 (cpS τ (52 + j.toNat) 0 (52 + (j + 1).toNat) 0 64) σ := fun p hp h10 => by rw [cpS_ne p (by omega), he p h10 (by omega)]
        have db : 0 ≤ dd ∧ dd ≤ 1200 := by
          have := sumI_le (f := fun i => if bb c i = true then σ 20 i else 0) (lo := 0) (hi := 99) hJ.1 (fun i i0 i1 => by
            have := hds i i0 i1
            show 0 ≤ (if bb c i = true then σ 20 i else 0) ∧ (if bb c i = true then σ 20 i else 0) ≤ 99
            split <;> omega)
          have e : dbt (σ 2 0) (σ 20) c = sumI (fun i => if bb c i = true then σ 20 i else 0) (σ 2 0) := rfl
          rw [hdd, e]
          omega
        have dj := hds j hj.1 j1
        have ob := or_bits (c := c) hj.1 (show j < 32 by omega)
        refine ⟨⟨by omega, by omega⟩, fun h1 => ⟨⟨by omega, by omega⟩, ⟨by omega, by omega⟩, ⟨by omega, by omega⟩, ⟨by omega, by omega⟩, call _ _ _ (fun x => F x ∨ extC σ (j + 1) c x) _ l3 j1 ⟨hI, ⟨by omega, by omega⟩, ?_, fun i i0 i1 z => ?_, ?_, hds, ?_⟩ ?_ (fun τ2 h2 h3 => ?_)⟩, fun h1 => hq τ he (BstC_ext (fun x => ?_) hB)⟩
        · have := bb_lt (n := 12) (bOr_i c (bShl 1 j)) (by omega) (fun i i0 i1 => by
            rw [ob i (by omega) i1, decide_eq_false (by omega), Bool.or_false]
            exact bb_hi (n := 12) hc.1 (by omega) hc.2 i0)
          exact ⟨this.1, by have := this.2; omega⟩
        · rw [ob i i0 i1, Bool.or_eq_true, decide_eq_true_eq] at z
          rcases z with z | rfl
          · have := hcb i i0 i1 z
            exact ⟨by omega, this.2⟩
          · exact ⟨by omega, h1⟩
        · rw [dbt_or (by omega) hj.1 j1 bcj, hdd]
        · refine NetK_same (sameK_of (fun a b lo hi => ?_)) (NetK_congr (g := σ (52 + j.toNat)) (fun i i' x y => by rw [cp_lev i i' x y, he (52 + j.toNat) (by omega) (by omega)]) hN)
          unfold orK
          rw [KJ_s hj.1]
          constructor
          · rintro (z | ⟨i, z0, z1, z2, z3⟩)
            · exact Or.inl z
            · refine Or.inr (Or.inl ⟨i, z0, z1, ⟨z2.1, ?_⟩, z3⟩)
              rw [ob i z0 (by omega), decide_eq_false (by omega), Bool.or_false]
              exact z2.2
          · rintro (z | ⟨i, z0, z1, z2, z3⟩ | ⟨z2, z3⟩)
            · exact Or.inl z
            · refine Or.inr ⟨i, z0, z1, ⟨z2.1, ?_⟩, z3⟩
              have := z2.2
              rw [ob i z0 (by omega), decide_eq_false (by omega), Bool.or_false] at this
              exact this
            · have := z2.2
              rw [ob j hj.1 (by omega), decide_eq_true rfl, Bool.or_true] at this
              exact absurd this (by simp)
        · rw [cpS_ne 10 (by omega)]
          exact hB
        · refine ⟨rfl, hq τ2 (fun p p1 p2 => ?_) (BstC_ext (fun x => ?_) h3)⟩
          · rw [h2 p p1 (by omega), cpS_ne p (by omega), he p p1 p2]
          · rw [or_assoc, ext_yes hj.1 (by omega) bcj]
        · rw [ext_no hj.1 (by omega) (show ¬ ktC σ j from h1) bcj]
      · simp only [sq_iconst, sq_jsr, sq_anewarray, sq_iload, sq_lload, sq_aload, sq_istore, sq_lstore, sq_astore, sq_iinc, sq_getfield, st_put0, st_put1, st_put3, sq_inv, sq_goto, sq_icmp, sq_ifc, sq_tsw, sq_iadd, sq_isub, sq_imul, sq_ineg, sq_idiv, sq_irem, sq_iand, sq_ior, sq_ixor, sq_ishl, sq_ishr, sq_iushr, sq_ladd, sq_lmul, sq_ldiv, sq_lrem, sq_land, sq_lor, sq_lshl, sq_lushr, sq_lcmp, sq_i2l, sq_l2i, sq_i2c, sq_i2b, sq_dupI, sq_dupR, sq_dup2, sq_pop, sq_iaload, sq_baload, sq_aaload, sq_iastore, sq_bastore, sq_alen, sq_ireturn, sq_lreturn, sq_return, wq_c, wq_n, wlq_s, lkp, tbl, dBk, nth, setL, canSet, cmpI, tk, swK, rdF, entL, catS, cat1, arg, rcv, ald, bld, aln, br, Ccopy, Cmax, Cmin, Cabs, List.take, List.drop, List.reverse, List.reverseAux, List.length, List.append, List.nil_append, List.cons_append, true_and, and_true, and_self, forall_const, true_implies, false_implies, not_true_eq_false, not_false_eq_true, Option.map, reduceCtorEq, reduceIte, or_true, true_or, false_or, or_false, false_and, and_false, List.map, List.append_nil, implies_true, yK, Nat.reduceBEq, beq_self_eq_true, Int.zero_ne_one, Nat.reduceDiv, Nat.reduceMod, Nat.reduceAdd, Nat.reduceSub, Nat.reduceMul, Nat.reduceEqDiff, Nat.reduceLeDiff, Int.reduceToNat, Int.reduceNeg, Int.reduceEq, Int.reduceLT, Int.reduceLE, Int.reduceNatCast, Int.reduceNatCast', Int.reduceAdd, Int.reduceSub, Int.reduceMul, eq_self, Prod.mk.injEq, A_castk, V_X3_castFrom, B_X3_castFrom, Y_X3_castFrom, C_J6_bitCount_0f7a4, C_X3_considerCast, C_X3_copyLevel, C_X0_isKept, C_X3_bindJoin, shpT, rfsT, wjq_s, look, rfs51]
        have hnt : (j + 1).toNat = j.toNat + 1 := by omega
        refine ⟨hc, fun h => ⟨fun h1 => ⟨hc, ?_⟩, fun h1 => ⟨fun h2 => ⟨⟨by omega, by omega⟩, ⟨by omega, by omega⟩, fun h3 => ?_, fun h3 => ?_⟩, fun h2 => by omega⟩⟩, fun h => ?_⟩
        · have ej : j = σ 2 0 := by omega
          rw [ej] at hpre
          have ee := ext_end hpre
          have h1' := BstC_one (x := c) hF
          rw [← hdd] at h1'
          by_cases cc : pop c ≤ σ 10 10 ∧ (pop c < σ 10 10 ∨ σ 10 11 < dd ∨ (dd = σ 10 11 ∧ c < σ 10 9))
          · rw [if_pos cc] at h1' ⊢
            refine hq _ (fun p p1 p2 => by rw [su_r p1, su_r p1, su_r p1]) ?_
            rw [su_at, su_at, su_at, su_at, su_at, su_at, su_at, su_at, su_at]
            refine BstC_ext (fun x => ?_) h1'
            rw [ej, ee]
          · rw [if_neg cc] at h1' ⊢
            refine hq _ (fun p p1 p2 => rfl) (BstC_ext (fun x => ?_) h1')
            rw [ej, ee]
        · have l3 : lo38 (cpS σ (52 + j.toNat) 0 (52 + (j + 1).toNat) 0 64) σ := fun p hp h10 => by rw [cpS_ne p (by omega)]
          have jn : JnI (cpS σ (52 + j.toNat) 0 (52 + (j + 1).toNat) 0 64) j := by
            have ji := hI.2.2.2.2.2.2.1 j hj.1 (by omega)
            unfold JI at ji
            unfold JnI nd
            rw [l3 16 (by decide) (by decide), l3 17 (by decide) (by decide), l3 18 (by decide) (by decide), l3 19 (by decide) (by decide)]
            omega
          rw [l3 2 (by decide) (by decide)] at h3
          obtain ⟨E, e1, e2⟩ := NetK_congr (g' := cpS σ (52 + j.toNat) 0 (52 + (j + 1).toNat) 0 64 (52 + (j + 1).toNat)) (fun i i' x y => cp_lev i i' x y) hN
          rw [l3 16 (by decide) (by decide), l3 17 (by decide) (by decide), l3 18 (by decide) (by decide), l3 19 (by decide) (by decide)]
          have kx : ∀ a b lo hi, addK (orK (KF σ) (KJ (fun i => ktC σ i ∧ bb c i = false) j (σ 16) (σ 17) (σ 18) (σ 19))) (σ 16 j) (σ 17 j) (σ 18 j) (σ 19 j) a b lo hi ↔ orK (KF σ) (KJ (fun i => ktC σ i ∧ bb c i = false) (j + 1) (σ 16) (σ 17) (σ 18) (σ 19)) a b lo hi := by
            intro a b lo hi
            unfold addK orK
            rw [KJ_s hj.1, or_assoc]
            exact ⟨fun z => z.elim Or.inl (fun z => Or.inr (z.elim Or.inl (fun z => Or.inr ⟨⟨h3, bcj⟩, z⟩))), fun z => z.elim Or.inl (fun z => Or.inr (z.elim Or.inl (fun z => Or.inr z.2)))⟩
          refine ⟨⟨by omega, by omega⟩, ⟨by omega, by omega⟩, ⟨lvS (by omega), ⟨by omega, by omega⟩, jn⟩, E, e1, fun τ1 f1 n1 => ⟨⟨by omega, by omega⟩, ?_⟩, fun τ1 f1 n1 => ?_⟩
          · have l4 : lo38 τ1 σ := fun p hp h10 => by rw [f1 p (by omega)]; exact l3 p hp h10
            refine call τ1 c dd F _ l4 (by omega) ⟨hI, ⟨by omega, by omega⟩, hc, fun i i0 i1 z => ⟨by have := (hcb i i0 i1 z).1; omega, (hcb i i0 i1 z).2⟩, hdd, hds, NetK_same (sameK_of kx) ⟨_, n1, NetK_add e2⟩⟩ (by rw [f1 10 (by omega), cpS_ne 10 (by omega)]; exact hF) (fun τ2 g1 g2 => ?_)
            rw [hP77]
            exact ⟨0, rfl, rfl, fun p p1 p2 => by rw [g1 p p1 (by omega), f1 p (by omega), cpS_ne p (by omega)], by omega, g2, rfl⟩
          · rw [hP77]
            refine ⟨0, rfl, rfl, fun p p1 p2 => by rw [f1 p (by omega), cpS_ne p (by omega)], by omega, ?_, rfl⟩
            rw [f1 10 (by omega), cpS_ne 10 (by omega)]
            refine BstC_ext (fun x => ⟨Or.inl, fun z => z.elim id (fun z => ?_)⟩) hF
            exfalso
            obtain ⟨⟨x0, x1, M, m1, m2⟩, x3⟩ := z
            refine n1 M ((NetK_add e2 M).mpr ⟨m1, fun a b lo hi z => m2 a b lo hi ?_⟩)
            rcases (kx a b lo hi).mp z with z | ⟨i, z0, z1, z2, z3⟩
            · exact Or.inl z
            · exact Or.inr ⟨i, z0, by omega, ⟨z2.1, by rw [x3 i z0 z1]; exact z2.2⟩, z3⟩
        · have l3 : lo38 (cpS σ (52 + j.toNat) 0 (52 + (j + 1).toNat) 0 64) σ := fun p hp h10 => by rw [cpS_ne p (by omega)]
          rw [l3 2 (by decide) (by decide)] at h3
          refine ⟨⟨by omega, by omega⟩, call _ c dd F _ l3 (by omega) ⟨hI, ⟨by omega, by omega⟩, hc, fun i i0 i1 z => ⟨by have := (hcb i i0 i1 z).1; omega, (hcb i i0 i1 z).2⟩, hdd, hds, NetK_same (sameK_of (fun a b lo hi => ?_)) (NetK_congr (fun i i' x y => cp_lev i i' x y) hN)⟩ (by rw [cpS_ne 10 (by omega)]; exact hF) (fun τ2 g1 g2 => ?_)⟩
          · unfold orK
            rw [KJ_s hj.1]
            exact ⟨fun z => z.elim Or.inl (fun z => Or.inr (Or.inl z)), fun z => z.elim Or.inl (fun z => z.elim Or.inr (fun z => absurd (Classical.not_not.mp h3) z.1.1))⟩
          · rw [hP77]
            exact ⟨0, rfl, rfl, fun p p1 p2 => by rw [g1 p p1 (by omega), cpS_ne p (by omega)], by omega, g2, rfl⟩
        · refine hq σ (fun _ _ _ => rfl) (BstC_cut hF (fun x hx => ?_))
          have := pop_mono (c := c) (c' := x) (fun i i0 i1 z => by
            have := (hcb i i0 i1 z).1
            rw [hx.2 i i0 this]
            exact z)
          omega
def C_X3_castFrom : Ctr := Cfk 13
theorem s_X3_castFrom (o : OM) : Sound o Y_X3_castFrom 15 C_X3_castFrom := s_castk o 13

