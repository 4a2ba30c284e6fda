-- ===== pairing of the class: the table =====
def A_X5_priceOf : List (Nat × Ctr) := [(3, rcv 5 4 C_X5_priceOfOneOnOne), (1, arg 1 C_X8_asNumber), (2, arg 3 C_X5_ashesFrom), (3, rcv 5 3 C_X5_priceOfDoubled)]
theorem e_X5_priceOf (o : OM) : Ev o Y_X5_priceOf 2 T_X5_priceOf A_X5_priceOf := ⟨rfl, List.forall_mem_cons.mpr ⟨Or.inl f_X5_15, List.forall_mem_cons.mpr ⟨Or.inl f_X5_9, List.forall_mem_cons.mpr ⟨Or.inl f_X5_18, List.forall_mem_cons.mpr ⟨Or.inl f_X5_21, List.forall_mem_cons.mpr ⟨Or.inl f_X5_31, fun _ h => absurd h List.not_mem_nil⟩⟩⟩⟩⟩, fun _ h => absurd h List.not_mem_nil, fun _ h => absurd h List.not_mem_nil, fun _ h => absurd h List.not_mem_nil, List.forall_mem_cons.mpr ⟨cl_X5_priceOfOneOnOne (s_X5_priceOfOneOnOne o) (by decide) (Or.inl w_724), List.forall_mem_cons.mpr ⟨cl_X5_priceOfDoubled (s_X5_priceOfDoubled o) (by decide) (Or.inl w_737), fun _ h => absurd h List.not_mem_nil⟩⟩, List.forall_mem_cons.mpr ⟨cl_X8_asNumber (s_X8_asNumber o) (by decide) (Or.inr ⟨_, wn_73⟩), List.forall_mem_cons.mpr ⟨cl_X5_ashesFrom (s_X5_ashesFrom o) (by decide) (Or.inl w_734), fun _ h => absurd h List.not_mem_nil⟩⟩⟩
def C_X5_priceOf : Ctr := fun A σ κ => match A with
  | [.inr (.inr (.inl 9)), .inl s, .inl i, .inl j] => ((0 ≤ s ∧ s < 5) ∧ (0 ≤ i ∧ i + o1 s ≤ 16) ∧ (0 ≤ j ∧ j + o2 s ≤ 16) ∧ RI (σ 39) (σ 41) (i + o1 s) ∧ RI (σ 40) (σ 42) (j + o2 s) ∧ LI (σ 9 8) (σ 9 9) (σ 9 10) (σ 9 11)) ∧ κ [vI (prS (σ 39) (σ 40) (σ 41) (σ 42) (σ 9 8) (σ 9 9) (σ 9 10) (σ 9 11) s i j)] σ
  | _ => False
set_option maxRecDepth 20000 in
theorem s_X5_priceOf (o : OM) : Sound o Y_X5_priceOf 2 C_X5_priceOf := by
  intro Q A σ hA hC
  match A, hA, hC with
  | [.inr (.inr (.inl 9)), .inl s, .inl i, .inl j], hA, hC =>
    obtain ⟨h0, hq⟩ : ((0 ≤ s ∧ s < 5) ∧ (0 ≤ i ∧ i + o1 s ≤ 16) ∧ (0 ≤ j ∧ j + o2 s ≤ 16) ∧ RI (σ 39) (σ 41) (i + o1 s) ∧ RI (σ 40) (σ 42) (j + o2 s) ∧ LI (σ 9 8) (σ 9 9) (σ 9 10) (σ 9 11)) ∧ Q [vI (prS (σ 39) (σ 40) (σ 41) (σ 42) (σ 9 8) (σ 9 9) (σ 9 10) (σ 9 11) s i j)] σ := hC
    have hQ : ∀ r_ τ, r_ = (prS (σ 39) (σ 40) (σ 41) (σ 42) (σ 9 8) (σ 9 9) (σ 9 10) (σ 9 11) s i j) → τ = (σ) → Q [vI r_] τ := fun r_ τ e e2 => e ▸ e2 ▸ hq
    refine at_wpl (lv := V_X5_priceOf) (B := B_X5_priceOf) (e_X5_priceOf o) k_X5_priceOf 4 0 [] _ σ ?_
    simp only [sq_iconst, sq_jsr, sq_anewarray, sq_iload, sq_lload, sq_aload, sq_istore, sq_lstore, sq_astore, sq_iinc, sq_getfield, st_put0, st_put1, st_put3, sq_inv, sq_goto, sq_icmp, sq_ifc, sq_tsw, sq_iadd, sq_isub, sq_imul, sq_ineg, sq_idiv, sq_irem, sq_iand, sq_ior, sq_ixor, sq_ishl, sq_ishr, sq_iushr, sq_ladd, sq_lmul, sq_ldiv, sq_lrem, sq_land, sq_lor, sq_lshl, sq_lushr, sq_lcmp, sq_i2l, sq_l2i, sq_i2c, sq_i2b, sq_dupI, sq_dupR, sq_dup2, sq_pop, sq_iaload, sq_baload, sq_aaload, sq_iastore, sq_bastore, sq_alen, sq_ireturn, sq_lreturn, sq_return, wq_c, wq_n, wlq_s, lkp, tbl, dBk, nth, setL, canSet, cmpI, tk, swK, rdF, entL, catS, cat1, arg, rcv, ald, bld, aln, br, Ccopy, Cmax, Cmin, Cabs, List.take, List.drop, List.reverse, List.reverseAux, List.length, List.append, List.nil_append, List.cons_append, true_and, and_true, and_self, forall_const, true_implies, false_implies, not_true_eq_false, not_false_eq_true, Option.map, reduceCtorEq, reduceIte, or_true, true_or, false_or, or_false, false_and, and_false, List.map, List.append_nil, implies_true, yK, Nat.reduceBEq, beq_self_eq_true, Int.zero_ne_one, Nat.reduceDiv, Nat.reduceMod, Nat.reduceAdd, Nat.reduceSub, Nat.reduceMul, Nat.reduceEqDiff, Nat.reduceLeDiff, Int.reduceToNat, Int.reduceNeg, Int.reduceEq, Int.reduceLT, Int.reduceLE, Int.reduceNatCast, Int.reduceNatCast', Int.reduceAdd, Int.reduceSub, Int.reduceMul, eq_self, Prod.mk.injEq, A_X5_priceOf, V_X5_priceOf, B_X5_priceOf, Y_X5_priceOf, C_X5_priceOfOneOnOne, C_X8_asNumber, C_X5_ashesFrom, C_X5_priceOfDoubled, shpT, rfsT]
    obtain ⟨hs, hi, hj, h1, h2, hl⟩ := h0
    refine ⟨⟨fun e => ?_, fun e => ?_, fun e => ?_, fun e => ?_, fun e => ?_⟩, fun e => by omega⟩
    · subst e
      have e1 : o1 0 = 1 := rfl
      have e2 : o2 0 = 1 := rfl
      rw [e1] at hi h1
      rw [e2] at hj h2
      exact ⟨⟨by omega, by omega, h1, h2, hl⟩, hq⟩
    · subst e; exact hq
    · subst e; exact hq
    · subst e
      have e1 : o1 3 = 1 := rfl
      have e2 : o2 3 = 2 := rfl
      rw [e1] at hi h1
      rw [e2] at hj h2
      have a1 := h1 i (by omega) (by omega)
      have a2 := h2 j (by omega) (by omega)
      have a3 := h2 (j + 1) (by omega) (by omega)
      have b2 := na_in (σ 42 j)
      have b3 := na_in (σ 42 (j + 1))
      repeat' (first | assumption | (intro _) | apply And.intro)
      all_goals first | omega | exact hl.1.1 | exact hl.1.2 | (refine hQ _ _ ?_ rfl; unfold prS; rw [if_neg (by decide), if_pos rfl]; unfold na; simp only [*, if_true, if_false]; done) | (refine hQ _ _ ?_ rfl; unfold prS; rw [if_neg (by decide), if_pos rfl, show na (σ 41 i) = _ from if_pos (by assumption)]; done) | (refine hQ _ _ ?_ rfl; unfold prS; rw [if_neg (by decide), if_pos rfl, show na (σ 41 i) = _ from if_neg (by assumption)]; done) | (obtain ⟨l1, l2, l3, l4⟩ := hl; omega)
    · subst e
      have e1 : o1 4 = 2 := rfl
      have e2 : o2 4 = 1 := rfl
      rw [e1] at hi h1
      rw [e2] at hj h2
      have a1 := h1 i (by omega) (by omega)
      have a2 := h2 j (by omega) (by omega)
      have a3 := h1 (i + 1) (by omega) (by omega)
      have b2 := na_in (σ 41 i)
      have b3 := na_in (σ 41 (i + 1))
      repeat' (first | assumption | (intro _) | apply And.intro)
      all_goals first | omega | (refine hQ _ _ ?_ rfl; unfold prS; rw [if_neg (by decide), if_neg (by decide), if_pos rfl, show na (σ 42 j) = _ from if_pos (by assumption)]; done) | (refine hQ _ _ ?_ rfl; unfold prS; rw [if_neg (by decide), if_neg (by decide), if_pos rfl, show na (σ 42 j) = _ from if_neg (by assumption)]; done) | (obtain ⟨l1, l2, l3, l4⟩ := hl; omega)
def okB (n1 n2 bi bj s i j : Int) : Bool := decide (¬ (s = 0 ∧ i = bi ∧ j = bj) ∧ i + o1 s ≤ n1 ∧ j + o2 s ≤ n2)
theorem okB_iff {n1 n2 bi bj s i j : Int} : okB n1 n2 bi bj s i j = true ↔ okP n1 n2 bi bj s i j := by unfold okB okP; rw [decide_eq_true_eq]
def cbs (x : Int × Int) (p w : Int) : Int × Int := if x.1 = -1 ∨ p < x.1 then (p, w) else if p = x.1 then (x.1, min 999999999 (x.2 + w)) else x
/-- the least and its ways, over the first n steps -/
def stN (pr : Int → Int) (ok : Int → Bool) (L W : Int → Int) : Nat → Int × Int
  | 0 => (-1, 0)
  | n + 1 => if ok n then cbs (stN pr ok L W n) (pr n + L n) (W n) else stN pr ok L W n
def finN (x : Int × Int) : Int × Int := if x.1 = -1 then (0, 1) else x
theorem cbs_in {x : Int × Int} {p w : Int} (hx : -1 ≤ x.1 ∧ x.1 ≤ 700000 ∧ 0 ≤ x.2 ∧ x.2 ≤ 999999999) (hp : 0 ≤ p ∧ p ≤ 700000) (hw : 0 ≤ w ∧ w ≤ 999999999) : -1 ≤ (cbs x p w).1 ∧ (cbs x p w).1 ≤ 700000 ∧ 0 ≤ (cbs x p w).2 ∧ (cbs x p w).2 ≤ 999999999 := by
  unfold cbs
  split
  · exact ⟨by omega, by omega, hw.1, hw.2⟩
  · split
    · exact ⟨by omega, by omega, by show 0 ≤ min 999999999 (x.2 + w); omega, by show min 999999999 (x.2 + w) ≤ _; omega⟩
    · exact hx
theorem stN_in {pr : Int → Int} {ok : Int → Bool} {L W : Int → Int} : ∀ n : Nat, (∀ s : Int, 0 ≤ s → s < n → ok s = true → (0 ≤ pr s + L s ∧ pr s + L s ≤ 700000) ∧ (0 ≤ W s ∧ W s ≤ 999999999)) → -1 ≤ (stN pr ok L W n).1 ∧ (stN pr ok L W n).1 ≤ 700000 ∧ 0 ≤ (stN pr ok L W n).2 ∧ (stN pr ok L W n).2 ≤ 999999999
  | 0, _ => by simp [stN]
  | n + 1, h => by
    have ih := stN_in n (fun s h1 h2 => h s h1 (by omega))
    unfold stN
    split
    · have h3 := h n (by omega) (by omega) (by assumption)
      exact cbs_in ih h3.1 h3.2
    · exact ih
def stC (σ : Sto) (i j : Int) (n : Nat) : Int × Int := stN (fun s => prS (σ 39) (σ 40) (σ 41) (σ 42) (σ 9 8) (σ 9 9) (σ 9 10) (σ 9 11) s i j) (fun s => okB (σ 9 6) (σ 9 7) (σ 9 12) (σ 9 13) s i j) (fun s => σ 43 ((i + o1 s) * 17 + (j + o2 s))) (fun s => σ 44 ((i + o1 s) * 17 + (j + o2 s))) n
/-- the rows and prices that the pairing holds are in order -/
def PrI (σ : Sto) : Prop := (0 ≤ σ 9 6 ∧ σ 9 6 ≤ 16) ∧ (0 ≤ σ 9 7 ∧ σ 9 7 ≤ 16) ∧ RI (σ 39) (σ 41) (σ 9 6) ∧ RI (σ 40) (σ 42) (σ 9 7) ∧ LI (σ 9 8) (σ 9 9) (σ 9 10) (σ 9 11)
theorem RI_mono {t e : Int → Int} {n m : Int} (h : RI t e n) (hm : m ≤ n) : RI t e m := fun i h1 h2 => h i h1 (by omega)
def A_X5_fillPlace : List (Nat × Ctr) := [(4, rcv 5 4 C_X5_canStep), (4, rcv 5 4 C_X5_placeAfter), (4, rcv 5 4 C_X5_priceOf), (2, Cmin)]
theorem e_X5_fillPlace (o : OM) : Ev o Y_X5_fillPlace 3 T_X5_fillPlace A_X5_fillPlace := ⟨rfl, List.forall_mem_cons.mpr ⟨Or.inl f_X5_49, List.forall_mem_cons.mpr ⟨Or.inl f_X5_52, fun _ h => absurd h List.not_mem_nil⟩⟩, List.forall_mem_cons.mpr ⟨⟨w_741, by decide, by decide⟩, fun _ h => absurd h List.not_mem_nil⟩, fun _ h => absurd h List.not_mem_nil, fun _ h => absurd h List.not_mem_nil, List.forall_mem_cons.mpr ⟨cl_X5_canStep (s_X5_canStep o) (by decide) (Or.inl w_708), List.forall_mem_cons.mpr ⟨cl_X5_placeAfter (s_X5_placeAfter o) (by decide) (Or.inl w_716), List.forall_mem_cons.mpr ⟨cl_X5_priceOf (s_X5_priceOf o) (by decide) (Or.inl w_720), fun _ h => absurd h List.not_mem_nil⟩⟩⟩, List.forall_mem_cons.mpr ⟨min_ok w_742 w_522 w_15 w_523, fun _ h => absurd h List.not_mem_nil⟩⟩
def C_X5_fillPlace : Ctr := fun A σ κ => match A with
  | [.inr (.inr (.inl 9)), .inl i, .inl j] => (PrI σ ∧ (0 ≤ i ∧ i ≤ σ 9 6) ∧ (0 ≤ j ∧ j ≤ σ 9 7) ∧ (∀ s, 0 ≤ s → s < 5 → okP (σ 9 6) (σ 9 7) (σ 9 12) (σ 9 13) s i j → (0 ≤ σ 43 ((i + o1 s) * 17 + (j + o2 s)) ∧ σ 43 ((i + o1 s) * 17 + (j + o2 s)) ≤ 640000) ∧ (0 ≤ σ 44 ((i + o1 s) * 17 + (j + o2 s)) ∧ σ 44 ((i + o1 s) * 17 + (j + o2 s)) ≤ 999999999))) ∧ κ [] (su (su σ 43 (i * 17 + j) (finN (stC σ i j 5)).1) 44 (i * 17 + j) (finN (stC σ i j 5)).2)
  | _ => False
set_option maxRecDepth 20000 in
theorem s_X5_fillPlace (o : OM) : Sound o Y_X5_fillPlace 3 C_X5_fillPlace := by
  intro Q A σ hA hC
  match A, hA, hC with
  | [.inr (.inr (.inl 9)), .inl i, .inl j], hA, hC =>
    obtain ⟨h0, hq⟩ : (PrI σ ∧ (0 ≤ i ∧ i ≤ σ 9 6) ∧ (0 ≤ j ∧ j ≤ σ 9 7) ∧ (∀ s, 0 ≤ s → s < 5 → okP (σ 9 6) (σ 9 7) (σ 9 12) (σ 9 13) s i j → (0 ≤ σ 43 ((i + o1 s) * 17 + (j + o2 s)) ∧ σ 43 ((i + o1 s) * 17 + (j + o2 s)) ≤ 640000) ∧ (0 ≤ σ 44 ((i + o1 s) * 17 + (j + o2 s)) ∧ σ 44 ((i + o1 s) * 17 + (j + o2 s)) ≤ 999999999))) ∧ Q [] (su (su σ 43 (i * 17 + j) (finN (stC σ i j 5)).1) 44 (i * 17 + j) (finN (stC σ i j 5)).2) := hC
    have hQ : ∀ τ, τ = (su (su σ 43 (i * 17 + j) (finN (stC σ i j 5)).1) 44 (i * 17 + j) (finN (stC σ i j 5)).2) → Q [] τ := fun τ e2 => e2 ▸ hq
    obtain ⟨⟨hn1, hn2, hR1, hR2, hL⟩, hi, hj, hnx⟩ := h0
    have hpr : ∀ s : Int, 0 ≤ s → s < 5 → okP (σ 9 6) (σ 9 7) (σ 9 12) (σ 9 13) s i j → 0 ≤ prS (σ 39) (σ 40) (σ 41) (σ 42) (σ 9 8) (σ 9 9) (σ 9 10) (σ 9 11) s i j ∧ prS (σ 39) (σ 40) (σ 41) (σ 42) (σ 9 8) (σ 9 9) (σ 9 10) (σ 9 11) s i j ≤ 20000 := fun s h1 h2 h3 => prS_in hR1 hR2 hL ⟨h1, h2⟩ hi.1 hj.1 h3.2.1 h3.2.2
    have hst : ∀ n : Nat, n ≤ 5 → -1 ≤ (stC σ i j n).1 ∧ (stC σ i j n).1 ≤ 700000 ∧ 0 ≤ (stC σ i j n).2 ∧ (stC σ i j n).2 ≤ 999999999 := fun n hn => stN_in n (fun s h1 h2 h3 => by
      have h4 := hpr s h1 (by omega) (okB_iff.mp h3)
      have h5 := hnx s h1 (by omega) (okB_iff.mp h3)
      exact ⟨by omega, h5.2⟩)
    refine at_meth (lv := V_X5_fillPlace) (B := B_X5_fillPlace) (e_X5_fillPlace o) k_X5_fillPlace 7 [(8, fun m S L τ => ∃ n : Nat, S = [] ∧ L = [vR 9, vI i, vI j, vI (stC σ i j n).1, vI (stC σ i j n).2, vI n] ∧ τ = σ ∧ n ≤ 5 ∧ m = 5 - n)] (List.forall_mem_cons.mpr ⟨?_, fun _ h => absurd h List.not_mem_nil⟩) 0 [] _ σ ?_
    · rintro m S L τ ⟨n, rfl, rfl, rfl, hn, hm⟩
      simp only [sq_iconst, sq_jsr, sq_anewarray, sq_iload, sq_lload, sq_aload, sq_istore, sq_lstore, sq_astore, sq_iinc, sq_getfield, st_put0, st_put1, st_put3, sq_inv, sq_goto, sq_icmp, sq_ifc, sq_tsw, sq_iadd, sq_isub, sq_imul, sq_ineg, sq_idiv, sq_irem, sq_iand, sq_ior, sq_ixor, sq_ishl, sq_ishr, sq_iushr, sq_ladd, sq_lmul, sq_ldiv, sq_lrem, sq_land, sq_lor, sq_lshl, sq_lushr, sq_lcmp, sq_i2l, sq_l2i, sq_i2c, sq_i2b, sq_dupI, sq_dupR, sq_dup2, sq_pop, sq_iaload, sq_baload, sq_aaload, sq_iastore, sq_bastore, sq_alen, sq_ireturn, sq_lreturn, sq_return, wq_c, wq_n, wlq_s, lkp, tbl, dBk, nth, setL, canSet, cmpI, tk, swK, rdF, entL, catS, cat1, arg, rcv, ald, bld, aln, br, Ccopy, Cmax, Cmin, Cabs, List.take, List.drop, List.reverse, List.reverseAux, List.length, List.append, List.nil_append, List.cons_append, true_and, and_true, and_self, forall_const, true_implies, false_implies, not_true_eq_false, not_false_eq_true, Option.map, reduceCtorEq, reduceIte, or_true, true_or, false_or, or_false, false_and, and_false, List.map, List.append_nil, implies_true, yK, Nat.reduceBEq, beq_self_eq_true, Int.zero_ne_one, Nat.reduceDiv, Nat.reduceMod, Nat.reduceAdd, Nat.reduceSub, Nat.reduceMul, Nat.reduceEqDiff, Nat.reduceLeDiff, Int.reduceToNat, Int.reduceNeg, Int.reduceEq, Int.reduceLT, Int.reduceLE, Int.reduceNatCast, Int.reduceNatCast', Int.reduceAdd, Int.reduceSub, Int.reduceMul, eq_self, Prod.mk.injEq, A_X5_fillPlace, V_X5_fillPlace, B_X5_fillPlace, Y_X5_fillPlace, C_X5_canStep, C_X5_placeAfter, C_X5_priceOf, shpT, rfsT, wjq_s, look]
      have nx : ∀ x : Int × Int, x = stC τ i j (n + 1) → n ≤ 4 → i32 ((n : Int) + 1) ∧ ∃ m_1, m_1 < m ∧ ∃ n_1 : Nat, [vR 9, vI i, vI j, vI x.1, vI x.2, vI ((n : Int) + 1)] = [vR 9, vI i, vI j, vI (stC τ i j n_1).1, vI (stC τ i j n_1).2, vI (n_1 : Int)] ∧ n_1 ≤ 5 ∧ m_1 = 5 - n_1 := by
        rintro x rfl h4
        exact ⟨⟨by omega, by omega⟩, _, by omega, n + 1, rfl, by omega, rfl⟩
      refine ⟨fun h1 => ?_, fun h1 => ?_⟩
      · have h5 : n = 5 := by omega
        subst h5
        refine ⟨⟨by omega, by omega⟩, ⟨by omega, by omega⟩, fun h2 => ⟨by omega, ⟨by omega, by omega⟩, ⟨by omega, by omega⟩, fun h3 => ⟨by omega, hQ _ (by unfold finN; rw [if_neg h2])⟩, fun h3 => absurd h2 h3⟩, fun h2 => ⟨by omega, ⟨by omega, by omega⟩, ⟨by omega, by omega⟩, fun h3 => absurd h3 h2, fun h3 => ⟨by omega, hQ _ (by unfold finN; rw [if_pos (by omega)])⟩⟩⟩
      · have hs1 : stC τ i j (n + 1) = if okB (τ 9 6) (τ 9 7) (τ 9 12) (τ 9 13) n i j = true then cbs (stC τ i j n) (prS (τ 39) (τ 40) (τ 41) (τ 42) (τ 9 8) (τ 9 9) (τ 9 10) (τ 9 11) n i j + τ 43 ((i + o1 n) * 17 + (j + o2 n))) (τ 44 ((i + o1 n) * 17 + (j + o2 n))) else stC τ i j n := rfl
        refine ⟨⟨by omega, by omega, by omega⟩, fun h2 => ?_, fun h2 => nx _ (by rw [hs1, if_neg (fun z => h2 (okB_iff.mp z))]) (by omega)⟩
        have hok := okB_iff.mpr h2
        rw [if_pos hok] at hs1
        have e1 := hnx n (by omega) (by omega) h2
        have e2 := hpr n (by omega) (by omega) h2
        have e3 := hst n (by omega)
        have ho := o_in (s := n) ⟨by omega, by omega⟩
        obtain ⟨-, q1, q2⟩ := h2
        have r1 := RI_mono hR1 q1
        have r2 := RI_mono hR2 q2
        generalize prS (τ 39) (τ 40) (τ 41) (τ 42) (τ 9 8) (τ 9 9) (τ 9 10) (τ 9 11) n i j = pr at *
        repeat' (first | exact r1 | exact r2 | exact hL | (intro _) | apply And.intro)
        all_goals first | omega | exact (nx (pr + τ 43 ((i + o1 n) * 17 + (j + o2 n)), τ 44 ((i + o1 n) * 17 + (j + o2 n))) (by rw [hs1]; unfold cbs; rw [if_pos (by omega)]) (by omega)).2 | exact (nx (stC τ i j n) (by rw [hs1]; unfold cbs; rw [if_neg (by omega), if_neg (by omega)]) (by omega)).2 | exact (nx ((stC τ i j n).1, min 999999999 ((stC τ i j n).2 + τ 44 ((i + o1 n) * 17 + (j + o2 n)))) (by rw [hs1]; unfold cbs; rw [if_neg (by omega), if_pos (by omega)]) (by omega)).2
    · simp only [sq_iconst, sq_jsr, sq_anewarray, sq_iload, sq_lload, sq_aload, sq_istore, sq_lstore, sq_astore, sq_iinc, sq_getfield, st_put0, st_put1, st_put3, sq_inv, sq_goto, sq_icmp, sq_ifc, sq_tsw, sq_iadd, sq_isub, sq_imul, sq_ineg, sq_idiv, sq_irem, sq_iand, sq_ior, sq_ixor, sq_ishl, sq_ishr, sq_iushr, sq_ladd, sq_lmul, sq_ldiv, sq_lrem, sq_land, sq_lor, sq_lshl, sq_lushr, sq_lcmp, sq_i2l, sq_l2i, sq_i2c, sq_i2b, sq_dupI, sq_dupR, sq_dup2, sq_pop, sq_iaload, sq_baload, sq_aaload, sq_iastore, sq_bastore, sq_alen, sq_ireturn, sq_lreturn, sq_return, wq_c, wq_n, wlq_s, lkp, tbl, dBk, nth, setL, canSet, cmpI, tk, swK, rdF, entL, catS, cat1, arg, rcv, ald, bld, aln, br, Ccopy, Cmax, Cmin, Cabs, List.take, List.drop, List.reverse, List.reverseAux, List.length, List.append, List.nil_append, List.cons_append, true_and, and_true, and_self, forall_const, true_implies, false_implies, not_true_eq_false, not_false_eq_true, Option.map, reduceCtorEq, reduceIte, or_true, true_or, false_or, or_false, false_and, and_false, List.map, List.append_nil, implies_true, yK, Nat.reduceBEq, beq_self_eq_true, Int.zero_ne_one, Nat.reduceDiv, Nat.reduceMod, Nat.reduceAdd, Nat.reduceSub, Nat.reduceMul, Nat.reduceEqDiff, Nat.reduceLeDiff, Int.reduceToNat, Int.reduceNeg, Int.reduceEq, Int.reduceLT, Int.reduceLE, Int.reduceNatCast, Int.reduceNatCast', Int.reduceAdd, Int.reduceSub, Int.reduceMul, eq_self, Prod.mk.injEq, A_X5_fillPlace, V_X5_fillPlace, B_X5_fillPlace, Y_X5_fillPlace, C_X5_canStep, C_X5_placeAfter, C_X5_priceOf, shpT, rfsT, wjq_s, look]
      exact ⟨_, 0, rfl, by omega, rfl⟩

/-- the table holds at a place what the steps from there give -/
def rcC (σ : Sto) (i j : Int) : Prop := σ 43 (i * 17 + j) = (finN (stC σ i j 5)).1 ∧ σ 44 (i * 17 + j) = (finN (stC σ i j 5)).2 ∧ (0 ≤ σ 43 (i * 17 + j) ∧ σ 43 (i * 17 + j) ≤ 20000 * ((σ 9 6 - i) + (σ 9 7 - j))) ∧ (0 ≤ σ 44 (i * 17 + j) ∧ σ 44 (i * 17 + j) ≤ 999999999)

