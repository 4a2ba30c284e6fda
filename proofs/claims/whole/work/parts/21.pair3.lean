-- ===== pairing of the class: the whole table =====
theorem cbs_le {x : Int × Int} {p w B : Int} (hx : x.1 ≤ B) (hp : p ≤ B) : (cbs x p w).1 ≤ B := by
  unfold cbs
  split
  · exact hp
  · split
    · exact hx
    · exact hx
theorem stN_le {pr : Int → Int} {ok : Int → Bool} {L W : Int → Int} {B : Int} (hB : -1 ≤ B) : ∀ n : Nat, (∀ s : Int, 0 ≤ s → s < n → ok s = true → pr s + L s ≤ B) → (stN pr ok L W n).1 ≤ B
  | 0, _ => by simp [stN]; omega
  | n + 1, h => by
    have ih := stN_le (pr := pr) (ok := ok) (L := L) (W := W) hB n (fun s h1 h2 => h s h1 (by omega))
    unfold stN
    split
    · exact cbs_le ih (h n (by omega) (by omega) (by assumption))
    · exact ih
theorem stN_congr {pr pr' : Int → Int} {ok ok' : Int → Bool} {L W L' W' : Int → Int} : ∀ n : Nat, (∀ s : Int, 0 ≤ s → s < n → ok s = ok' s ∧ (ok s = true → pr s = pr' s ∧ L s = L' s ∧ W s = W' s)) → stN pr ok L W n = stN pr' ok' L' W' n
  | 0, _ => rfl
  | n + 1, h => by
    have ih := stN_congr (pr := pr) (pr' := pr') (ok := ok) (ok' := ok') (L := L) (W := W) (L' := L') (W' := W') n (fun s h1 h2 => h s h1 (by omega))
    obtain ⟨h1, h2⟩ := h n (by omega) (by omega)
    unfold stN
    rw [ih, ← h1]
    by_cases ho : ok n = true
    · obtain ⟨e1, e2, e3⟩ := h2 ho
      rw [if_pos ho, if_pos ho, e1, e2, e3]
    · rw [if_neg ho, if_neg ho]
theorem stC_congr {σ τ : Sto} {i j : Int} (h9 : τ 9 = σ 9) (h39 : τ 39 = σ 39) (h40 : τ 40 = σ 40) (h41 : τ 41 = σ 41) (h42 : τ 42 = σ 42) (h : ∀ s, 0 ≤ s → s < 5 → okP (σ 9 6) (σ 9 7) (σ 9 12) (σ 9 13) s i j → τ 43 ((i + o1 s) * 17 + (j + o2 s)) = σ 43 ((i + o1 s) * 17 + (j + o2 s)) ∧ τ 44 ((i + o1 s) * 17 + (j + o2 s)) = σ 44 ((i + o1 s) * 17 + (j + o2 s))) : stC τ i j 5 = stC σ i j 5 := by
  unfold stC
  rw [h9, h39, h40, h41, h42]
  exact stN_congr 5 (fun s h1 h2 => ⟨rfl, fun h3 => ⟨rfl, h s h1 (by omega) (okB_iff.mp h3)⟩⟩)
theorem su_x {σ : Sto} {q : Nat} {i v j : Int} (h : ¬ j = i) : su σ q i v q j = σ q j := by rw [su_eq]; exact if_neg h
theorem su_y {σ : Sto} {q : Nat} {i v : Int} : su σ q i v q i = v := by rw [su_eq]; exact if_pos rfl
/-- one more place of the table -/
theorem rcC_put {σ : Sto} {i j : Int} (hP : PrI σ) (hi : 0 ≤ i ∧ i ≤ σ 9 6) (hj : 0 ≤ j ∧ j ≤ σ 9 7) (hd : ∀ a b, 0 ≤ a → a ≤ σ 9 6 → 0 ≤ b → b ≤ σ 9 7 → (i < a ∨ (a = i ∧ j < b)) → rcC σ a b) :
    ∀ τ, τ = su (su σ 43 (i * 17 + j) (finN (stC σ i j 5)).1) 44 (i * 17 + j) (finN (stC σ i j 5)).2 → ∀ a b, 0 ≤ a → a ≤ σ 9 6 → 0 ≤ b → b ≤ σ 9 7 → (i < a ∨ (a = i ∧ j ≤ b)) → rcC τ a b := by
  intro τ hτ a b ha1 ha2 hb1 hb2 hab
  obtain ⟨hn1, hn2, hR1, hR2, hL⟩ := hP
  have e43 : ∀ x, ¬ x = i * 17 + j → τ 43 x = σ 43 x := fun x hx => by rw [hτ, su_ne 43 (by decide), su_x hx]
  have e44 : ∀ x, ¬ x = i * 17 + j → τ 44 x = σ 44 x := fun x hx => by rw [hτ, su_x hx, su_ne 44 (by decide)]
  have f43 : τ 43 (i * 17 + j) = (finN (stC σ i j 5)).1 := by rw [hτ, su_ne 43 (by decide), su_y]
  have f44 : τ 44 (i * 17 + j) = (finN (stC σ i j 5)).2 := by rw [hτ, su_y]
  have eo : ∀ q, q ≠ 43 → q ≠ 44 → τ q = σ q := fun q h1 h2 => by rw [hτ, su_ne q h2, su_ne q h1]
  have est : stC τ a b 5 = stC σ a b 5 := stC_congr (eo 9 (by decide) (by decide)) (eo 39 (by decide) (by decide)) (eo 40 (by decide) (by decide)) (eo 41 (by decide) (by decide)) (eo 42 (by decide) (by decide)) (fun s h1 h2 h3 => by
    have ho := o_in (s := s) ⟨h1, h2⟩
    obtain ⟨-, q1, q2⟩ := h3
    exact ⟨e43 _ (by omega), e44 _ (by omega)⟩)
  unfold rcC
  rw [est, eo 9 (by decide) (by decide)]
  by_cases hab2 : a = i ∧ b = j
  · obtain ⟨rfl, rfl⟩ := hab2
    have hcand : ∀ s : Int, 0 ≤ s → s < 5 → okB (σ 9 6) (σ 9 7) (σ 9 12) (σ 9 13) s a b = true → (0 ≤ prS (σ 39) (σ 40) (σ 41) (σ 42) (σ 9 8) (σ 9 9) (σ 9 10) (σ 9 11) s a b + σ 43 ((a + o1 s) * 17 + (b + o2 s)) ∧ prS (σ 39) (σ 40) (σ 41) (σ 42) (σ 9 8) (σ 9 9) (σ 9 10) (σ 9 11) s a b + σ 43 ((a + o1 s) * 17 + (b + o2 s)) ≤ 20000 * ((σ 9 6 - a) + (σ 9 7 - b))) ∧ (0 ≤ σ 44 ((a + o1 s) * 17 + (b + o2 s)) ∧ σ 44 ((a + o1 s) * 17 + (b + o2 s)) ≤ 999999999) := by
      intro s h1 h2 h3
      have h3 := okB_iff.mp h3
      have ho := o_in (s := s) ⟨h1, h2⟩
      have hp := prS_in hR1 hR2 hL ⟨h1, h2⟩ ha1 hb1 h3.2.1 h3.2.2
      obtain ⟨-, q1, q2⟩ := h3
      have hr := hd (a + o1 s) (b + o2 s) (by omega) q1 (by omega) q2 (by omega)
      obtain ⟨-, -, r3, r4⟩ := hr
      exact ⟨by omega, r4⟩
    have hin : -1 ≤ (stC σ a b 5).1 ∧ (stC σ a b 5).1 ≤ 700000 ∧ 0 ≤ (stC σ a b 5).2 ∧ (stC σ a b 5).2 ≤ 999999999 := stN_in 5 (fun s h1 h2 h3 => by
      have := hcand s h1 (by omega) h3
      exact ⟨by omega, this.2⟩)
    have hle : (stC σ a b 5).1 ≤ 20000 * ((σ 9 6 - a) + (σ 9 7 - b)) := stN_le (by omega) 5 (fun s h1 h2 h3 => (hcand s h1 (by omega) h3).1.2)
    refine ⟨f43, f44, ?_, ?_⟩
    · rw [f43]
      unfold finN
      split
      · exact ⟨by decide, by show (0 : Int) ≤ _; omega⟩
      · omega
    · rw [f44]
      unfold finN
      split
      · decide
      · exact hin.2.2
  · have hx : ¬ a * 17 + b = i * 17 + j := by omega
    have hr := hd a b ha1 ha2 hb1 hb2 (by omega)
    rw [e43 _ hx, e44 _ hx]
    exact hr
theorem PrI_congr {σ τ : Sto} (h9 : τ 9 = σ 9) (h39 : τ 39 = σ 39) (h40 : τ 40 = σ 40) (h41 : τ 41 = σ 41) (h42 : τ 42 = σ 42) (h : PrI σ) : PrI τ := by
  unfold PrI at *
  rw [h9, h39, h40, h41, h42]
  exact h
/-- the whole table is in order -/
def TabC (τ : Sto) : Prop := ∀ i j, 0 ≤ i → i ≤ τ 9 6 → 0 ≤ j → j ≤ τ 9 7 → rcC τ i j
def A_X5_fillAll : List (Nat × Ctr) := [(3, rcv 5 8 C_X5_fillPlace)]
theorem e_X5_fillAll (o : OM) : Ev o Y_X5_fillAll 4 T_X5_fillAll A_X5_fillAll := ⟨rfl, List.forall_mem_cons.mpr ⟨Or.inl f_X5_24, List.forall_mem_cons.mpr ⟨Or.inl f_X5_28, fun _ h => absurd h List.not_mem_nil⟩⟩, fun _ h => absurd h List.not_mem_nil, fun _ h => absurd h List.not_mem_nil, fun _ h => absurd h List.not_mem_nil, List.forall_mem_cons.mpr ⟨cl_X5_fillPlace (s_X5_fillPlace o) (by decide) (Or.inl w_704), fun _ h => absurd h List.not_mem_nil⟩, fun _ h => absurd h List.not_mem_nil⟩
def C_X5_fillAll : Ctr := fun A σ κ => match A with
  | [.inr (.inr (.inl 9))] => (PrI σ) ∧ ∀ τ : Sto, (∀ q : Nat, q ≠ 43 → q ≠ 44 → τ q = σ q) → TabC τ → κ [] τ
  | _ => False
set_option maxRecDepth 20000 in
theorem s_X5_fillAll (o : OM) : Sound o Y_X5_fillAll 4 C_X5_fillAll := by
  intro Q A σ hA hC
  match A, hA, hC with
  | [.inr (.inr (.inl 9))], hA, hC =>
    obtain ⟨h0, hq⟩ : (PrI σ) ∧ ∀ τ : Sto, (∀ q : Nat, q ≠ 43 → q ≠ 44 → τ q = σ q) → TabC τ → Q [] τ := hC
    obtain ⟨hn1, hn2, -⟩ := id h0
    refine at_meth (lv := V_X5_fillAll) (B := B_X5_fillAll) (e_X5_fillAll o) k_X5_fillAll 4 [(5, fun m S L τ => ∃ i : Int, S = [] ∧ L = [vR 9, vI i] ∧ (∀ q : Nat, q ≠ 43 → q ≠ 44 → τ q = σ q) ∧ -1 ≤ i ∧ i ≤ σ 9 6 ∧ m = ((i + 1) * 20).toNat ∧ (∀ a b, 0 ≤ a → a ≤ τ 9 6 → 0 ≤ b → b ≤ τ 9 7 → i < a → rcC τ a b)),
      (14, fun m S L τ => ∃ i j : Int, S = [] ∧ L = [vR 9, vI i, vI j] ∧ (∀ q : Nat, q ≠ 43 → q ≠ 44 → τ q = σ q) ∧ 0 ≤ i ∧ i ≤ σ 9 6 ∧ -1 ≤ j ∧ j ≤ σ 9 7 ∧ m = (i * 20 + j + 2).toNat ∧ (∀ a b, 0 ≤ a → a ≤ τ 9 6 → 0 ≤ b → b ≤ τ 9 7 → (i < a ∨ (a = i ∧ j < b)) → rcC τ a b))] (List.forall_mem_cons.mpr ⟨?_, List.forall_mem_cons.mpr ⟨?_, fun _ h => absurd h List.not_mem_nil⟩⟩) 0 [] _ σ ?_
    · rintro m S L τ ⟨i, rfl, rfl, he, hi0, hi1, hm, hd⟩
      simp only [sq_iconst, sq_jsr, sq_anewarray, sq_iload, sq_lload, sq_aload, sq_istore, sq_lstore, sq_astore, sq_iinc, sq_getfield, st_put0, st_put1, st_put3, sq_inv, sq_goto, sq_icmp, sq_ifc, sq_tsw, sq_iadd, sq_isub, sq_imul, sq_ineg, sq_idiv, sq_irem, sq_iand, sq_ior, sq_ixor, sq_ishl, sq_ishr, sq_iushr, sq_ladd, sq_lmul, sq_ldiv, sq_lrem, sq_land, sq_lor, sq_lshl, sq_lushr, sq_lcmp, sq_i2l, sq_l2i, sq_i2c, sq_i2b, sq_dupI, sq_dupR, sq_dup2, sq_pop, sq_iaload, sq_baload, sq_aaload, sq_iastore, sq_bastore, sq_alen, sq_ireturn, sq_lreturn, sq_return, wq_c, wq_n, wlq_s, lkp, tbl, dBk, nth, setL, canSet, cmpI, tk, swK, rdF, entL, catS, cat1, arg, rcv, ald, bld, aln, br, Ccopy, Cmax, Cmin, Cabs, List.take, List.drop, List.reverse, List.reverseAux, List.length, List.append, List.nil_append, List.cons_append, true_and, and_true, and_self, forall_const, true_implies, false_implies, not_true_eq_false, not_false_eq_true, Option.map, reduceCtorEq, reduceIte, or_true, true_or, false_or, or_false, false_and, and_false, List.map, List.append_nil, implies_true, yK, Nat.reduceBEq, beq_self_eq_true, Int.zero_ne_one, Nat.reduceDiv, Nat.reduceMod, Nat.reduceAdd, Nat.reduceSub, Nat.reduceMul, Nat.reduceEqDiff, Nat.reduceLeDiff, Int.reduceToNat, Int.reduceNeg, Int.reduceEq, Int.reduceLT, Int.reduceLE, Int.reduceNatCast, Int.reduceNatCast', Int.reduceAdd, Int.reduceSub, Int.reduceMul, eq_self, Prod.mk.injEq, A_X5_fillAll, V_X5_fillAll, B_X5_fillAll, Y_X5_fillAll, C_X5_fillPlace, shpT, rfsT, wjq_s, look]
      have e9 := he 9 (by decide) (by decide)
      refine ⟨fun h1 => hq τ he (fun a b h2 h3 h4 h5 => hd a b h2 h3 h4 h5 (by omega)), fun h1 => ⟨_, ?_, i, τ 9 7, rfl, he, by omega, hi1, by rw [e9]; omega, by rw [e9]; omega, rfl, fun a b h2 h3 h4 h5 h6 => hd a b h2 h3 h4 h5 (by omega)⟩⟩
      rw [e9]
      omega
    · rintro m S L τ ⟨i, j, rfl, rfl, he, hi0, hi1, hj0, hj1, hm, hd⟩
      simp only [sq_iconst, sq_jsr, sq_anewarray, sq_iload, sq_lload, sq_aload, sq_istore, sq_lstore, sq_astore, sq_iinc, sq_getfield, st_put0, st_put1, st_put3, sq_inv, sq_goto, sq_icmp, sq_ifc, sq_tsw, sq_iadd, sq_isub, sq_imul, sq_ineg, sq_idiv, sq_irem, sq_iand, sq_ior, sq_ixor, sq_ishl, sq_ishr, sq_iushr, sq_ladd, sq_lmul, sq_ldiv, sq_lrem, sq_land, sq_lor, sq_lshl, sq_lushr, sq_lcmp, sq_i2l, sq_l2i, sq_i2c, sq_i2b, sq_dupI, sq_dupR, sq_dup2, sq_pop, sq_iaload, sq_baload, sq_aaload, sq_iastore, sq_bastore, sq_alen, sq_ireturn, sq_lreturn, sq_return, wq_c, wq_n, wlq_s, lkp, tbl, dBk, nth, setL, canSet, cmpI, tk, swK, rdF, entL, catS, cat1, arg, rcv, ald, bld, aln, br, Ccopy, Cmax, Cmin, Cabs, List.take, List.drop, List.reverse, List.reverseAux, List.length, List.append, List.nil_append, List.cons_append, true_and, and_true, and_self, forall_const, true_implies, false_implies, not_true_eq_false, not_false_eq_true, Option.map, reduceCtorEq, reduceIte, or_true, true_or, false_or, or_false, false_and, and_false, List.map, List.append_nil, implies_true, yK, Nat.reduceBEq, beq_self_eq_true, Int.zero_ne_one, Nat.reduceDiv, Nat.reduceMod, Nat.reduceAdd, Nat.reduceSub, Nat.reduceMul, Nat.reduceEqDiff, Nat.reduceLeDiff, Int.reduceToNat, Int.reduceNeg, Int.reduceEq, Int.reduceLT, Int.reduceLE, Int.reduceNatCast, Int.reduceNatCast', Int.reduceAdd, Int.reduceSub, Int.reduceMul, eq_self, Prod.mk.injEq, A_X5_fillAll, V_X5_fillAll, B_X5_fillAll, Y_X5_fillAll, C_X5_fillPlace, shpT, rfsT, wjq_s, look]
      have e9 := he 9 (by decide) (by decide)
      have hP : PrI τ := PrI_congr e9 (he 39 (by decide) (by decide)) (he 40 (by decide) (by decide)) (he 41 (by decide) (by decide)) (he 42 (by decide) (by decide)) h0
      refine ⟨fun h1 => ?_, fun h1 => ?_⟩
      · refine ⟨⟨by omega, by omega⟩, _, ?_, i - 1, rfl, he, by omega, by omega, rfl, fun a b h2 h3 h4 h5 h6 => hd a b h2 h3 h4 h5 (by omega)⟩
        omega
      · refine ⟨⟨hP, ⟨hi0, by rw [e9]; exact hi1⟩, ⟨by omega, by rw [e9]; exact hj1⟩, ?_⟩, ⟨by omega, by omega⟩, _, ?_, i, j - 1, rfl, ?_, hi0, hi1, by omega, by omega, rfl, ?_⟩
        · intro s h2 h3 h4
          have ho := o_in (s := s) ⟨h2, h3⟩
          obtain ⟨-, q1, q2⟩ := h4
          obtain ⟨-, -, r3, r4⟩ := hd (i + o1 s) (j + o2 s) (by omega) q1 (by omega) q2 (by omega)
          rw [e9] at r3 q1 q2
          exact ⟨by omega, r4⟩
        · omega
        · intro q h2 h3
          rw [su_ne q h3, su_ne q h2]
          exact he q h2 h3
        · intro a b h2 h3 h4 h5 h6
          have h9 : ∀ τ', τ' = su (su τ 43 (i * 17 + j) (finN (stC τ i j 5)).1) 44 (i * 17 + j) (finN (stC τ i j 5)).2 → τ' 9 = τ 9 := fun τ' h => by rw [h, su_ne 9 (by decide), su_ne 9 (by decide)]
          rw [h9 _ rfl] at h3 h5
          exact rcC_put hP ⟨hi0, by rw [e9]; exact hi1⟩ ⟨by omega, by rw [e9]; exact hj1⟩ hd _ rfl a b h2 h3 h4 h5 (by omega)
    · simp only [sq_iconst, sq_jsr, sq_anewarray, sq_iload, sq_lload, sq_aload, sq_istore, sq_lstore, sq_astore, sq_iinc, sq_getfield, st_put0, st_put1, st_put3, sq_inv, sq_goto, sq_icmp, sq_ifc, sq_tsw, sq_iadd, sq_isub, sq_imul, sq_ineg, sq_idiv, sq_irem, sq_iand, sq_ior, sq_ixor, sq_ishl, sq_ishr, sq_iushr, sq_ladd, sq_lmul, sq_ldiv, sq_lrem, sq_land, sq_lor, sq_lshl, sq_lushr, sq_lcmp, sq_i2l, sq_l2i, sq_i2c, sq_i2b, sq_dupI, sq_dupR, sq_dup2, sq_pop, sq_iaload, sq_baload, sq_aaload, sq_iastore, sq_bastore, sq_alen, sq_ireturn, sq_lreturn, sq_return, wq_c, wq_n, wlq_s, lkp, tbl, dBk, nth, setL, canSet, cmpI, tk, swK, rdF, entL, catS, cat1, arg, rcv, ald, bld, aln, br, Ccopy, Cmax, Cmin, Cabs, List.take, List.drop, List.reverse, List.reverseAux, List.length, List.append, List.nil_append, List.cons_append, true_and, and_true, and_self, forall_const, true_implies, false_implies, not_true_eq_false, not_false_eq_true, Option.map, reduceCtorEq, reduceIte, or_true, true_or, false_or, or_false, false_and, and_false, List.map, List.append_nil, implies_true, yK, Nat.reduceBEq, beq_self_eq_true, Int.zero_ne_one, Nat.reduceDiv, Nat.reduceMod, Nat.reduceAdd, Nat.reduceSub, Nat.reduceMul, Nat.reduceEqDiff, Nat.reduceLeDiff, Int.reduceToNat, Int.reduceNeg, Int.reduceEq, Int.reduceLT, Int.reduceLE, Int.reduceNatCast, Int.reduceNatCast', Int.reduceAdd, Int.reduceSub, Int.reduceMul, eq_self, Prod.mk.injEq, A_X5_fillAll, V_X5_fillAll, B_X5_fillAll, Y_X5_fillAll, C_X5_fillPlace, shpT, rfsT, wjq_s, look]
      exact ⟨_, σ 9 6, rfl, by omega, by omega, rfl, fun a b h2 h3 h4 h5 h6 => by omega⟩

