-- ===== pairs of calls: best slide, chance =====
theorem bsS_2 {ov lk : Int → Int} {m k : Int} {x : Int × Int} (hk : ¬ k = -100004) : bsS ov lk m k (bsS ov lk m k x) = bsS ov lk m k x := by
  unfold bsS
  by_cases h : m ≤ ov k ∧ (x.1 = -100004 ∨ x.2 < lk k)
  · rw [if_pos h, if_neg (by show ¬ (m ≤ ov k ∧ (k = -100004 ∨ lk k < lk k)); omega)]
  · rw [if_neg h, if_neg h]
def csN (t s : Int) : Nat := if s = -1 then (2 * t - 1).toNat else if s = 1 then (if t = 0 then 1 else (2 * t).toNat) else (2 * t + 1).toNat
theorem cs_step {ov lk : Int → Int} {m t s : Int} (t0 : 0 ≤ t) (hs : s = -1 ∨ s = 1) : bst ov lk m (csN t (s + 2)) = bsS ov lk m (s * t) (bst ov lk m (csN t s)) := by
  rcases hs with rfl | rfl
  · by_cases e : t = 0
    · subst e
      rfl
    · unfold csN
      rw [if_neg (by decide), if_pos (by decide), if_neg e, if_pos rfl, show (2 * t).toNat = (2 * t - 1).toNat + 1 by omega]
      show bsS ov lk m (kth _) _ = _
      rw [show kth ((2 * t - 1).toNat : Int) = -1 * t by unfold kth; rw [if_pos (by omega)]; omega]
  · by_cases e : t = 0
    · subst e
      show bsS ov lk m (kth 0) (bst ov lk m 0) = bsS ov lk m 0 (bsS ov lk m (kth 0) (bst ov lk m 0))
      rw [show kth 0 = 0 from rfl, bsS_2 (by decide)]
    · unfold csN
      rw [if_neg (by decide), if_neg (by decide), if_neg (by decide), if_pos rfl, if_neg e, show (2 * t + 1).toNat = (2 * t).toNat + 1 by omega]
      show bsS ov lk m (kth _) _ = _
      rw [show kth ((2 * t).toNat : Int) = 1 * t by unfold kth; rw [if_neg (by omega)]; omega]
def MsI (σ : Sto) : Prop := (0 ≤ σ 67 0 ∧ σ 67 0 ≤ 7) ∧ (∀ p, 0 ≤ p → p < 7 → 0 ≤ σ 69 p ∧ σ 69 p ≤ 16)
def A_X9_slide : List (Nat × Ctr) := [(2, rcv 9 2 C_X9_isPit), (3, arg 6 C_X9_in), (4, rcv 9 6 C_X9_overOf), (5, rcv 9 11 C_X9_likeOf)]
theorem e_X9_slide (o : OM) : Ev o Y_X9_slide 3 T_X9_slide A_X9_slide := ⟨rfl, fun _ h => absurd h List.not_mem_nil, List.forall_mem_cons.mpr ⟨⟨w_1393, by decide, by decide⟩, List.forall_mem_cons.mpr ⟨⟨w_1403, by decide, by decide⟩, List.forall_mem_cons.mpr ⟨⟨w_1408, by decide, by decide⟩, fun _ h => absurd h List.not_mem_nil⟩⟩⟩, List.forall_mem_cons.mpr ⟨⟨w_1425, by decide, by decide⟩, fun _ h => absurd h List.not_mem_nil⟩, fun _ h => absurd h List.not_mem_nil, List.forall_mem_cons.mpr ⟨cl_X9_isPit (s_X9_isPit o) (by decide) (Or.inl w_1267), List.forall_mem_cons.mpr ⟨cl_X9_overOf (s_X9_overOf o) (by decide) (Or.inl w_1404), List.forall_mem_cons.mpr ⟨cl_X9_likeOf (s_X9_likeOf o) (by decide) (Or.inl w_1409), fun _ h => absurd h List.not_mem_nil⟩⟩⟩, List.forall_mem_cons.mpr ⟨cl_X9_in (s_X9_in o) (by decide) (Or.inl w_1260), fun _ h => absurd h List.not_mem_nil⟩⟩
def C_X9_slide : Ctr := fun A σ κ => match A with
  | [.inr (.inr (.inl 67)), .inl a, .inl b, .inl m] => (MsI σ) ∧ κ [vI (if ¬ ((0 ≤ a ∧ a < σ 67 0) ∧ (0 ≤ b ∧ b < σ 67 0)) then -100001 else if ¬ (1 ≤ m ∧ m ≤ 16) then -100002 else (bst (fun k => ovr (σ 69 a) (σ 69 b) k) (fun k => lkS (σ 70) (σ 71) (σ 72) (σ 69) a b k 0) m 31).1)] σ
  | _ => False
set_option maxRecDepth 20000 in
theorem s_X9_slide (o : OM) : Sound o Y_X9_slide 3 C_X9_slide := by
  intro Q A σ hA hC
  match A, hA, hC with
  | [.inr (.inr (.inl 67)), .inl a, .inl b, .inl m], hA, hC =>
    obtain ⟨h0, hq⟩ : (MsI σ) ∧ Q [vI (if ¬ ((0 ≤ a ∧ a < σ 67 0) ∧ (0 ≤ b ∧ b < σ 67 0)) then -100001 else if ¬ (1 ≤ m ∧ m ≤ 16) then -100002 else (bst (fun k => ovr (σ 69 a) (σ 69 b) k) (fun k => lkS (σ 70) (σ 71) (σ 72) (σ 69) a b k 0) m 31).1)] σ := hC
    have hQ : ∀ r_ τ, r_ = (if ¬ ((0 ≤ a ∧ a < σ 67 0) ∧ (0 ≤ b ∧ b < σ 67 0)) then -100001 else if ¬ (1 ≤ m ∧ m ≤ 16) then -100002 else (bst (fun k => ovr (σ 69 a) (σ 69 b) k) (fun k => lkS (σ 70) (σ 71) (σ 72) (σ 69) a b k 0) m 31).1) → τ = (σ) → Q [vI r_] τ := fun r_ τ e e2 => e ▸ e2 ▸ hq
    obtain ⟨hn, hs⟩ := h0
    obtain ⟨ov, hov⟩ : ∃ f, f = fun k => ovr (σ 69 a) (σ 69 b) k := ⟨_, rfl⟩
    obtain ⟨lk, hlk⟩ : ∃ f, f = fun k => lkS (σ 70) (σ 71) (σ 72) (σ 69) a b k 0 := ⟨_, rfl⟩
    rw [← hov, ← hlk] at hQ hq
    have eov : ∀ k, ovr (σ 69 a) (σ 69 b) k = ov k := fun k => by rw [hov]
    have elk : ∀ k, lkS (σ 70) (σ 71) (σ 72) (σ 69) a b k 0 = lk k := fun k => by rw [hlk]
    obtain ⟨P44, hP44⟩ : ∃ P : Nat → List AV → List AV → Sto → Prop, P = fun mm S L τ => ∃ t : Int, S = [] ∧ L = [vR 67, vI a, vI b, vI m, vI (bst ov lk m (csN t (-1))).1, vI (bst ov lk m (csN t (-1))).2, vI t] ∧ τ = σ ∧ ((0 ≤ a ∧ a < σ 67 0) ∧ (0 ≤ b ∧ b < σ 67 0)) ∧ (1 ≤ m ∧ m ≤ 16) ∧ 0 ≤ t ∧ t ≤ 16 ∧ mm = ((16 - t) * 10).toNat := ⟨_, rfl⟩
    obtain ⟨P54, hP54⟩ : ∃ P : Nat → List AV → List AV → Sto → Prop, P = fun mm S L τ => ∃ t s : Int, S = [] ∧ L = [vR 67, vI a, vI b, vI m, vI (bst ov lk m (csN t s)).1, vI (bst ov lk m (csN t s)).2, vI t, vI s] ∧ τ = σ ∧ ((0 ≤ a ∧ a < σ 67 0) ∧ (0 ≤ b ∧ b < σ 67 0)) ∧ (1 ≤ m ∧ m ≤ 16) ∧ 0 ≤ t ∧ t < 16 ∧ (s = -1 ∨ s = 1 ∨ s = 3) ∧ mm = ((15 - t) * 10 + 4 - s).toNat := ⟨_, rfl⟩
    refine at_meth (lv := V_X9_slide) (B := B_X9_slide) (e_X9_slide o) k_X9_slide 9 [(44, P44), (54, P54)] (List.forall_mem_cons.mpr ⟨?_, List.forall_mem_cons.mpr ⟨?_, fun _ h => absurd h List.not_mem_nil⟩⟩) 0 [] _ σ ?_
    · intro mm S L τ hI
      rw [hP44] at hI
      obtain ⟨t, rfl, rfl, rfl, hab, hm, t0, t1, hmm⟩ := hI
      simp only [sq_iconst, sq_jsr, sq_anewarray, sq_iload, sq_lload, sq_aload, sq_istore, sq_lstore, sq_astore, sq_iinc, sq_getfield, st_put0, st_put1, st_put3, sq_inv, sq_goto, sq_icmp, sq_ifc, sq_tsw, sq_iadd, sq_isub, sq_imul, sq_ineg, sq_idiv, sq_irem, sq_iand, sq_ior, sq_ixor, sq_ishl, sq_ishr, sq_iushr, sq_ladd, sq_lmul, sq_ldiv, sq_lrem, sq_land, sq_lor, sq_lshl, sq_lushr, sq_lcmp, sq_i2l, sq_l2i, sq_i2c, sq_i2b, sq_dupI, sq_dupR, sq_dup2, sq_pop, sq_iaload, sq_baload, sq_aaload, sq_iastore, sq_bastore, sq_alen, sq_ireturn, sq_lreturn, sq_return, wq_c, wq_n, wlq_s, lkp, tbl, dBk, nth, setL, canSet, cmpI, tk, swK, rdF, entL, catS, cat1, arg, rcv, ald, bld, aln, br, Ccopy, Cmax, Cmin, Cabs, List.take, List.drop, List.reverse, List.reverseAux, List.length, List.append, List.nil_append, List.cons_append, true_and, and_true, and_self, forall_const, true_implies, false_implies, not_true_eq_false, not_false_eq_true, Option.map, reduceCtorEq, reduceIte, or_true, true_or, false_or, or_false, false_and, and_false, List.map, List.append_nil, implies_true, yK, Nat.reduceBEq, beq_self_eq_true, Int.zero_ne_one, Nat.reduceDiv, Nat.reduceMod, Nat.reduceAdd, Nat.reduceSub, Nat.reduceMul, Nat.reduceEqDiff, Nat.reduceLeDiff, Int.reduceToNat, Int.reduceNeg, Int.reduceEq, Int.reduceLT, Int.reduceLE, Int.reduceNatCast, Int.reduceNatCast', Int.reduceAdd, Int.reduceSub, Int.reduceMul, eq_self, Prod.mk.injEq, A_X9_slide, V_X9_slide, B_X9_slide, Y_X9_slide, C_X9_isPit, C_X9_in, C_X9_overOf, C_X9_likeOf, shpT, rfsT, wjq_s, look]
      rw [hP54]
      refine ⟨fun h => ?_, fun h => ⟨_, ?_, t, -1, rfl, rfl, rfl, hab, hm, t0, (by omega), Or.inl rfl, rfl⟩⟩
      · have e : t = 16 := by omega
        subst e
        exact hQ _ _ (by rw [if_neg (fun z => z hab), if_neg (fun z => z hm)]; rfl) rfl
      · omega
    · intro mm S L τ hI
      rw [hP54] at hI
      obtain ⟨t, s, rfl, rfl, rfl, hab, hm, t0, t1, hs3, hmm⟩ := hI
      simp only [sq_iconst, sq_jsr, sq_anewarray, sq_iload, sq_lload, sq_aload, sq_istore, sq_lstore, sq_astore, sq_iinc, sq_getfield, st_put0, st_put1, st_put3, sq_inv, sq_goto, sq_icmp, sq_ifc, sq_tsw, sq_iadd, sq_isub, sq_imul, sq_ineg, sq_idiv, sq_irem, sq_iand, sq_ior, sq_ixor, sq_ishl, sq_ishr, sq_iushr, sq_ladd, sq_lmul, sq_ldiv, sq_lrem, sq_land, sq_lor, sq_lshl, sq_lushr, sq_lcmp, sq_i2l, sq_l2i, sq_i2c, sq_i2b, sq_dupI, sq_dupR, sq_dup2, sq_pop, sq_iaload, sq_baload, sq_aaload, sq_iastore, sq_bastore, sq_alen, sq_ireturn, sq_lreturn, sq_return, wq_c, wq_n, wlq_s, lkp, tbl, dBk, nth, setL, canSet, cmpI, tk, swK, rdF, entL, catS, cat1, arg, rcv, ald, bld, aln, br, Ccopy, Cmax, Cmin, Cabs, List.take, List.drop, List.reverse, List.reverseAux, List.length, List.append, List.nil_append, List.cons_append, true_and, and_true, and_self, forall_const, true_implies, false_implies, not_true_eq_false, not_false_eq_true, Option.map, reduceCtorEq, reduceIte, or_true, true_or, false_or, or_false, false_and, and_false, List.map, List.append_nil, implies_true, yK, Nat.reduceBEq, beq_self_eq_true, Int.zero_ne_one, Nat.reduceDiv, Nat.reduceMod, Nat.reduceAdd, Nat.reduceSub, Nat.reduceMul, Nat.reduceEqDiff, Nat.reduceLeDiff, Int.reduceToNat, Int.reduceNeg, Int.reduceEq, Int.reduceLT, Int.reduceLE, Int.reduceNatCast, Int.reduceNatCast', Int.reduceAdd, Int.reduceSub, Int.reduceMul, eq_self, Prod.mk.injEq, A_X9_slide, V_X9_slide, B_X9_slide, Y_X9_slide, C_X9_isPit, C_X9_in, C_X9_overOf, C_X9_likeOf, shpT, rfsT, wjq_s, look, eov, elk]
      have sa := hs a hab.1.1 (by omega)
      have sb := hs b hab.2.1 (by omega)
      have a20 : ¬ 2 ≤ s → ((15 - t) * 10 + 4 - (s + 2)).toNat < mm := fun h => by omega
      have a21 : ((16 - (t + 1)) * 10).toNat < mm := by omega
      have st : -15 ≤ s * t ∧ s * t ≤ 15 ∨ 2 ≤ s := by
        rcases hs3 with rfl | rfl | rfl
        · left; omega
        · left; omega
        · right; omega
      have hk : ¬ 2 ≤ s → bst ov lk m (csN t (s + 2)) = bsS ov lk m (s * t) (bst ov lk m (csN t s)) := fun h => cs_step t0 (by omega)
      generalize hk0 : s * t = k at *
      have nx : ∀ x y, ¬ 2 ≤ s → (x, y) = bsS ov lk m k (bst ov lk m (csN t s)) → i32 (s + 2) ∧ ∃ m_1, m_1 < mm ∧ P54 m_1 [] [vR 67, vI a, vI b, vI m, vI x, vI y, vI t, vI (s + 2)] τ := by
        intro x y h hxy
        rw [hP54]
        refine ⟨⟨by omega, by omega⟩, _, a20 h, t, s + 2, rfl, ?_, rfl, hab, hm, t0, t1, (by omega), rfl⟩
        rw [hk h, ← hxy]
      generalize hx : bst ov lk m (csN t s) = x at *
      refine ⟨fun h => ⟨⟨by omega, by omega⟩, ?_⟩, fun h => ⟨⟨by omega, by omega⟩, ⟨⟨by omega, by omega⟩, ⟨by omega, by omega⟩, ⟨by omega, by omega⟩, sa, sb⟩, fun h1 => nx _ _ h ?_, fun h1 => ⟨⟨⟨by omega, by omega⟩, ⟨by omega, by omega⟩, ⟨by omega, by omega⟩, sa, sb⟩, fun h2 => nx _ _ h ?_, fun h2 => ⟨fun h3 => nx _ _ h ?_, fun h3 => nx _ _ h ?_⟩⟩⟩⟩
      · rw [hP44]
        refine ⟨_, a21, t + 1, rfl, ?_, rfl, hab, hm, (by omega), (by omega), rfl⟩
        have e : csN (t + 1) (-1) = csN t s := by
          have : s = 3 := by omega
          subst this
          unfold csN
          rw [if_pos rfl, if_neg (by decide), if_neg (by decide)]
          omega
        rw [e, hx]
      · unfold bsS; rw [if_neg (by omega)]
      · unfold bsS; rw [if_pos ⟨by omega, Or.inl h2⟩]
      · unfold bsS; rw [if_neg (by omega)]
      · unfold bsS; rw [if_pos ⟨by omega, Or.inr (by omega)⟩]
    · simp only [sq_iconst, sq_jsr, sq_anewarray, sq_iload, sq_lload, sq_aload, sq_istore, sq_lstore, sq_astore, sq_iinc, sq_getfield, st_put0, st_put1, st_put3, sq_inv, sq_goto, sq_icmp, sq_ifc, sq_tsw, sq_iadd, sq_isub, sq_imul, sq_ineg, sq_idiv, sq_irem, sq_iand, sq_ior, sq_ixor, sq_ishl, sq_ishr, sq_iushr, sq_ladd, sq_lmul, sq_ldiv, sq_lrem, sq_land, sq_lor, sq_lshl, sq_lushr, sq_lcmp, sq_i2l, sq_l2i, sq_i2c, sq_i2b, sq_dupI, sq_dupR, sq_dup2, sq_pop, sq_iaload, sq_baload, sq_aaload, sq_iastore, sq_bastore, sq_alen, sq_ireturn, sq_lreturn, sq_return, wq_c, wq_n, wlq_s, lkp, tbl, dBk, nth, setL, canSet, cmpI, tk, swK, rdF, entL, catS, cat1, arg, rcv, ald, bld, aln, br, Ccopy, Cmax, Cmin, Cabs, List.take, List.drop, List.reverse, List.reverseAux, List.length, List.append, List.nil_append, List.cons_append, true_and, and_true, and_self, forall_const, true_implies, false_implies, not_true_eq_false, not_false_eq_true, Option.map, reduceCtorEq, reduceIte, or_true, true_or, false_or, or_false, false_and, and_false, List.map, List.append_nil, implies_true, yK, Nat.reduceBEq, beq_self_eq_true, Int.zero_ne_one, Nat.reduceDiv, Nat.reduceMod, Nat.reduceAdd, Nat.reduceSub, Nat.reduceMul, Nat.reduceEqDiff, Nat.reduceLeDiff, Int.reduceToNat, Int.reduceNeg, Int.reduceEq, Int.reduceLT, Int.reduceLE, Int.reduceNatCast, Int.reduceNatCast', Int.reduceAdd, Int.reduceSub, Int.reduceMul, eq_self, Prod.mk.injEq, A_X9_slide, V_X9_slide, B_X9_slide, Y_X9_slide, C_X9_isPit, C_X9_in, C_X9_overOf, C_X9_likeOf, shpT, rfsT, wjq_s, look]
      rw [hP44]
      exact ⟨hn, fun h => ⟨hn, fun h1 => ⟨fun h2 => ⟨_, 0, rfl, rfl, rfl, ⟨h, h1⟩, h2, (by omega), (by omega), rfl⟩, fun h2 => hQ _ _ (by rw [if_neg (fun z => z ⟨h, h1⟩), if_pos h2]) rfl⟩, fun h1 => hQ _ _ (by rw [if_pos (fun z => h1 z.2)]) rfl⟩, fun h => hQ _ _ (by rw [if_pos (fun z => h z.1)]) rfl⟩
def A_X9_chance : List (Nat × Ctr) := [(2, rcv 9 2 C_X9_isPit), (1, arg 1 C_X9_isSlide), (1, arg 1 C_X9_isPart), (4, rcv 9 6 C_X9_overOf), (5, rcv 9 11 C_X9_likeOf), (3, arg 4 C_X9_term)]
theorem e_X9_chance (o : OM) : Ev o Y_X9_chance 3 T_X9_chance A_X9_chance := ⟨rfl, List.forall_mem_cons.mpr ⟨Or.inl f_X9_13, fun _ h => absurd h List.not_mem_nil⟩, fun _ h => absurd h List.not_mem_nil, fun _ h => absurd h List.not_mem_nil, fun _ h => absurd h List.not_mem_nil, List.forall_mem_cons.mpr ⟨cl_X9_isPit (s_X9_isPit o) (by decide) (Or.inl w_1267), List.forall_mem_cons.mpr ⟨cl_X9_overOf (s_X9_overOf o) (by decide) (Or.inl w_1404), List.forall_mem_cons.mpr ⟨cl_X9_likeOf (s_X9_likeOf o) (by decide) (Or.inl w_1409), fun _ h => absurd h List.not_mem_nil⟩⟩⟩, List.forall_mem_cons.mpr ⟨cl_X9_isSlide (s_X9_isSlide o) (by decide) (Or.inl w_1398), List.forall_mem_cons.mpr ⟨cl_X9_isPart (s_X9_isPart o) (by decide) (Or.inl w_1430), List.forall_mem_cons.mpr ⟨cl_X9_term (s_X9_term o) (by decide) (Or.inl w_1433), fun _ h => absurd h List.not_mem_nil⟩⟩⟩⟩
def C_X9_chance : Ctr := fun A σ κ => match A with
  | [.inr (.inr (.inl 67)), .inl a, .inl b, .inl k, .inl w] => (MsI σ) ∧ κ [vI (if ¬ ((0 ≤ a ∧ a < σ 67 0) ∧ (0 ≤ b ∧ b < σ 67 0)) then -101 else if ¬ ((-15 ≤ k ∧ k ≤ 15) ∧ (0 ≤ w ∧ w ≤ 1)) then -102 else if ovr (σ 69 a) (σ 69 b) k = 0 then -103 else ltS (tnS (fun r => lkS (σ 70) (σ 71) (σ 72) (σ 69) a b k r) (σ 69 b)) (σ 69 b) w)] σ
  | _ => False
set_option maxRecDepth 20000 in
theorem s_X9_chance (o : OM) : Sound o Y_X9_chance 3 C_X9_chance := by
  intro Q A σ hA hC
  match A, hA, hC with
  | [.inr (.inr (.inl 67)), .inl a, .inl b, .inl k, .inl w], hA, hC =>
    obtain ⟨h0, hq⟩ : (MsI σ) ∧ Q [vI (if ¬ ((0 ≤ a ∧ a < σ 67 0) ∧ (0 ≤ b ∧ b < σ 67 0)) then -101 else if ¬ ((-15 ≤ k ∧ k ≤ 15) ∧ (0 ≤ w ∧ w ≤ 1)) then -102 else if ovr (σ 69 a) (σ 69 b) k = 0 then -103 else ltS (tnS (fun r => lkS (σ 70) (σ 71) (σ 72) (σ 69) a b k r) (σ 69 b)) (σ 69 b) w)] σ := hC
    have hQ : ∀ r_ τ, r_ = (if ¬ ((0 ≤ a ∧ a < σ 67 0) ∧ (0 ≤ b ∧ b < σ 67 0)) then -101 else if ¬ ((-15 ≤ k ∧ k ≤ 15) ∧ (0 ≤ w ∧ w ≤ 1)) then -102 else if ovr (σ 69 a) (σ 69 b) k = 0 then -103 else ltS (tnS (fun r => lkS (σ 70) (σ 71) (σ 72) (σ 69) a b k r) (σ 69 b)) (σ 69 b) w) → τ = (σ) → Q [vI r_] τ := fun r_ τ e e2 => e ▸ e2 ▸ hq
    obtain ⟨hn, hs⟩ := h0
    obtain ⟨lk, hlk⟩ : ∃ f, f = fun r => lkS (σ 70) (σ 71) (σ 72) (σ 69) a b k r := ⟨_, rfl⟩
    rw [← hlk] at hQ hq
    have elk : ∀ r, lkS (σ 70) (σ 71) (σ 72) (σ 69) a b k r = lk r := fun k => by rw [hlk]
    obtain ⟨P56, hP56⟩ : ∃ P : Nat → List AV → List AV → Sto → Prop, P = fun mm S L τ => ∃ r : Int, S = [] ∧ L = [vR 67, vI a, vI b, vI k, vI w, vI (tnS lk r), vI r] ∧ τ = σ ∧ ((0 ≤ a ∧ a < σ 67 0) ∧ (0 ≤ b ∧ b < σ 67 0)) ∧ ((-15 ≤ k ∧ k ≤ 15) ∧ (0 ≤ w ∧ w ≤ 1)) ∧ ¬ ovr (σ 69 a) (σ 69 b) k = 0 ∧ 0 < σ 69 b ∧ 0 ≤ r ∧ r ≤ σ 69 b ∧ mm = (16 - r).toNat := ⟨_, rfl⟩
    refine at_meth (lv := V_X9_chance) (B := B_X9_chance) (e_X9_chance o) k_X9_chance 6 [(56, P56)] (List.forall_mem_cons.mpr ⟨?_, fun _ h => absurd h List.not_mem_nil⟩) 0 [] _ σ ?_
    · intro mm S L τ hI
      rw [hP56] at hI
      obtain ⟨r, rfl, rfl, rfl, hab, hkw, ho, hb, r0, r1, hmm⟩ := hI
      have sa := hs a hab.1.1 (by omega)
      have sb := hs b hab.2.1 (by omega)
      simp only [sq_iconst, sq_jsr, sq_anewarray, sq_iload, sq_lload, sq_aload, sq_istore, sq_lstore, sq_astore, sq_iinc, sq_getfield, st_put0, st_put1, st_put3, sq_inv, sq_goto, sq_icmp, sq_ifc, sq_tsw, sq_iadd, sq_isub, sq_imul, sq_ineg, sq_idiv, sq_irem, sq_iand, sq_ior, sq_ixor, sq_ishl, sq_ishr, sq_iushr, sq_ladd, sq_lmul, sq_ldiv, sq_lrem, sq_land, sq_lor, sq_lshl, sq_lushr, sq_lcmp, sq_i2l, sq_l2i, sq_i2c, sq_i2b, sq_dupI, sq_dupR, sq_dup2, sq_pop, sq_iaload, sq_baload, sq_aaload, sq_iastore, sq_bastore, sq_alen, sq_ireturn, sq_lreturn, sq_return, wq_c, wq_n, wlq_s, lkp, tbl, dBk, nth, setL, canSet, cmpI, tk, swK, rdF, entL, catS, cat1, arg, rcv, ald, bld, aln, br, Ccopy, Cmax, Cmin, Cabs, List.take, List.drop, List.reverse, List.reverseAux, List.length, List.append, List.nil_append, List.cons_append, true_and, and_true, and_self, forall_const, true_implies, false_implies, not_true_eq_false, not_false_eq_true, Option.map, reduceCtorEq, reduceIte, or_true, true_or, false_or, or_false, false_and, and_false, List.map, List.append_nil, implies_true, yK, Nat.reduceBEq, beq_self_eq_true, Int.zero_ne_one, Nat.reduceDiv, Nat.reduceMod, Nat.reduceAdd, Nat.reduceSub, Nat.reduceMul, Nat.reduceEqDiff, Nat.reduceLeDiff, Int.reduceToNat, Int.reduceNeg, Int.reduceEq, Int.reduceLT, Int.reduceLE, Int.reduceNatCast, Int.reduceNatCast', Int.reduceAdd, Int.reduceSub, Int.reduceMul, eq_self, Prod.mk.injEq, A_X9_chance, V_X9_chance, B_X9_chance, Y_X9_chance, C_X9_isPit, C_X9_isSlide, A_X9_isSlide, V_X9_isSlide, B_X9_isSlide, Y_X9_isSlide, C_X9_in, C_X9_isPart, A_X9_isPart, V_X9_isPart, B_X9_isPart, Y_X9_isPart, C_X9_overOf, C_X9_likeOf, C_X9_term, shpT, rfsT, wjq_s, look, elk]
      have tn := tn_in (lk := lk) r0
      have ts : tnS lk (r + 1) = tnS lk r + (if lk 0 ≤ lk r then 1 else 0) := sumI_s _ r0
      have a20 : ¬ τ 69 b ≤ r → (16 - (r + 1)).toNat < mm := fun h => by omega
      rw [hP56]
      refine ⟨⟨by omega, by omega⟩, fun h => ⟨⟨by omega, by omega⟩, ⟨tn.1, hb⟩, ?_⟩, fun h => ⟨⟨⟨by omega, by omega⟩, ⟨by omega, by omega⟩, hkw.1, sa, sb, r0, (by omega)⟩, ⟨⟨by omega, by omega⟩, ⟨by omega, by omega⟩, hkw.1, sa, sb⟩, fun h1 => ⟨⟨by omega, by omega⟩, ⟨by omega, by omega⟩, _, a20 h, r + 1, rfl, ?_, rfl, hab, hkw, ho, hb, (by omega), (by omega), rfl⟩, fun h1 => ⟨⟨by omega, by omega⟩, ⟨by omega, by omega⟩, _, a20 h, r + 1, rfl, ?_, rfl, hab, hkw, ho, hb, (by omega), (by omega), rfl⟩⟩⟩
      · have e : r = τ 69 b := by omega
        exact hQ _ _ (by rw [if_neg (fun z => z hab), if_neg (fun z => z hkw), if_neg ho, e]) rfl
      · rw [ts, if_neg (by omega)]
      · rw [ts, if_pos (by omega)]
    · simp only [sq_iconst, sq_jsr, sq_anewarray, sq_iload, sq_lload, sq_aload, sq_istore, sq_lstore, sq_astore, sq_iinc, sq_getfield, st_put0, st_put1, st_put3, sq_inv, sq_goto, sq_icmp, sq_ifc, sq_tsw, sq_iadd, sq_isub, sq_imul, sq_ineg, sq_idiv, sq_irem, sq_iand, sq_ior, sq_ixor, sq_ishl, sq_ishr, sq_iushr, sq_ladd, sq_lmul, sq_ldiv, sq_lrem, sq_land, sq_lor, sq_lshl, sq_lushr, sq_lcmp, sq_i2l, sq_l2i, sq_i2c, sq_i2b, sq_dupI, sq_dupR, sq_dup2, sq_pop, sq_iaload, sq_baload, sq_aaload, sq_iastore, sq_bastore, sq_alen, sq_ireturn, sq_lreturn, sq_return, wq_c, wq_n, wlq_s, lkp, tbl, dBk, nth, setL, canSet, cmpI, tk, swK, rdF, entL, catS, cat1, arg, rcv, ald, bld, aln, br, Ccopy, Cmax, Cmin, Cabs, List.take, List.drop, List.reverse, List.reverseAux, List.length, List.append, List.nil_append, List.cons_append, true_and, and_true, and_self, forall_const, true_implies, false_implies, not_true_eq_false, not_false_eq_true, Option.map, reduceCtorEq, reduceIte, or_true, true_or, false_or, or_false, false_and, and_false, List.map, List.append_nil, implies_true, yK, Nat.reduceBEq, beq_self_eq_true, Int.zero_ne_one, Nat.reduceDiv, Nat.reduceMod, Nat.reduceAdd, Nat.reduceSub, Nat.reduceMul, Nat.reduceEqDiff, Nat.reduceLeDiff, Int.reduceToNat, Int.reduceNeg, Int.reduceEq, Int.reduceLT, Int.reduceLE, Int.reduceNatCast, Int.reduceNatCast', Int.reduceAdd, Int.reduceSub, Int.reduceMul, eq_self, Prod.mk.injEq, A_X9_chance, V_X9_chance, B_X9_chance, Y_X9_chance, C_X9_isPit, C_X9_isSlide, A_X9_isSlide, V_X9_isSlide, B_X9_isSlide, Y_X9_isSlide, C_X9_in, C_X9_isPart, A_X9_isPart, V_X9_isPart, B_X9_isPart, Y_X9_isPart, C_X9_overOf, C_X9_likeOf, C_X9_term, shpT, rfsT, wjq_s, look]
      rw [hP56]
      refine ⟨hn, fun h => ⟨hn, fun h1 => ⟨fun h2 => ⟨fun h3 => ⟨⟨⟨by omega, by omega⟩, ⟨by omega, by omega⟩, h2, hs a h.1 (by omega), hs b h1.1 (by omega)⟩, fun h4 => ⟨_, 0, rfl, rfl, rfl, ⟨h, h1⟩, ⟨h2, h3⟩, h4, ?_, (by omega), (hs b h1.1 (by omega)).1, rfl⟩, fun h4 => hQ _ _ (by rw [if_neg (fun z => z ⟨h, h1⟩), if_neg (fun z => z ⟨h2, h3⟩), if_pos (Classical.not_not.mp h4)]) rfl⟩, fun h3 => hQ _ _ (by rw [if_neg (fun z => z ⟨h, h1⟩), if_pos (fun z => h3 z.2)]) rfl⟩, fun h2 => hQ _ _ (by rw [if_neg (fun z => z ⟨h, h1⟩), if_pos (fun z => h2 z.1)]) rfl⟩, fun h1 => hQ _ _ (by rw [if_pos (fun z => h1 z.2)]) rfl⟩, fun h => hQ _ _ (by rw [if_pos (fun z => h z.1)]) rfl⟩
      have := hs b h1.1 (by omega)
      unfold ovr at h4
      omega
def A_X8_slide : List (Nat × Ctr) := [(2, rcv 6 2 C_X6_has), (3, arg 3 C_X8_isWithin), (4, rcv 7 9 C_X7_best)]
theorem e_X8_slide (o : OM) : Ev o Y_X8_slide 4 T_X8_slide A_X8_slide := ⟨rfl, List.forall_mem_cons.mpr ⟨Or.inl f_X8_10, List.forall_mem_cons.mpr ⟨Or.inl f_X8_59, fun _ h => absurd h List.not_mem_nil⟩⟩, List.forall_mem_cons.mpr ⟨⟨w_621, by decide, by decide⟩, List.forall_mem_cons.mpr ⟨⟨w_629, by decide, by decide⟩, fun _ h => absurd h List.not_mem_nil⟩⟩, fun _ h => absurd h List.not_mem_nil, fun _ h => absurd h List.not_mem_nil, List.forall_mem_cons.mpr ⟨cl_X6_has (s_X6_has o) (by decide) (Or.inr ⟨_, wn_42⟩), List.forall_mem_cons.mpr ⟨cl_X7_best (s_X7_best o) (by decide) (Or.inr ⟨_, wn_65⟩), fun _ h => absurd h List.not_mem_nil⟩⟩, List.forall_mem_cons.mpr ⟨cl_X8_isWithin (s_X8_isWithin o) (by decide) (Or.inl w_353), fun _ h => absurd h List.not_mem_nil⟩⟩
def C_X8_slide : Ctr := fun A σ k => wpl A_X8_slide V_X8_slide (yK Y_X8_slide) B_X8_slide k 3 0 [] (entL A) σ
theorem s_X8_slide (o : OM) : Sound o Y_X8_slide 4 C_X8_slide := fun Q A σ _ hC => at_wpl (e_X8_slide o) k_X8_slide 3 0 [] (entL A) σ hC
theorem op_slide {σ : Sto} (hR : Rel σ) {a b m : Int} {κ : List AV → Sto → Prop} (hκ : ∀ v τ, Mid C_X9_slide [vR 67, vI a, vI b, vI m] (σ 102) v τ → κ [vI v] τ) : C_X8_slide [vR 0, vI a, vI b, vI m] σ κ := by
  obtain ⟨⟨c1, c2, c3, c4, c5, c6, c7, c8, c9, c10, c11, c12, c13, c14, c15, c16⟩, ⟨e1, e2, e3, e4, e5, e6, e7, e8, e9, e10, e11, e12, e13, e14, e15⟩, ⟨g1, g2, g3, g4⟩, ⟨h1, h2, h3, h4, h5, h6⟩, ⟨l1, l2, l3, l4⟩, hImg, ⟨n1, n2, n3, n4⟩⟩ := id hR
  have mid : ∀ v, v = (if ¬ ((0 ≤ a ∧ a < σ 1 0) ∧ (0 ≤ b ∧ b < σ 1 0)) then -100001 else if ¬ (1 ≤ m ∧ m ≤ 16) then -100002 else (bst (fun k => ovr (σ 12 a) (σ 12 b) k) (fun k => lkS (σ 13) (σ 14) (σ 15) (σ 12) a b k 0) m 31).1) → κ [vI v] σ := by
    intro v hv
    refine hκ v σ (fun κ' hκ' => ?_)
    refine ⟨⟨by rw [e1]; exact c1, by rw [e5]; exact c2⟩, ?_⟩
    rw [e1, e5, e6, e7, e8, ← hv]
    exact hκ' σ hR rfl
  simp only [C_X8_slide, sq_iconst, sq_jsr, sq_anewarray, sq_iload, sq_lload, sq_aload, sq_istore, sq_lstore, sq_astore, sq_iinc, sq_getfield, st_put0, st_put1, st_put3, sq_inv, sq_goto, sq_icmp, sq_ifc, sq_tsw, sq_iadd, sq_isub, sq_imul, sq_ineg, sq_idiv, sq_irem, sq_iand, sq_ior, sq_ixor, sq_ishl, sq_ishr, sq_iushr, sq_ladd, sq_lmul, sq_ldiv, sq_lrem, sq_land, sq_lor, sq_lshl, sq_lushr, sq_lcmp, sq_i2l, sq_l2i, sq_i2c, sq_i2b, sq_dupI, sq_dupR, sq_dup2, sq_pop, sq_iaload, sq_baload, sq_aaload, sq_iastore, sq_bastore, sq_alen, sq_ireturn, sq_lreturn, sq_return, wq_c, wq_n, wlq_s, lkp, tbl, dBk, nth, setL, canSet, cmpI, tk, swK, rdF, entL, catS, cat1, arg, rcv, ald, bld, aln, br, Ccopy, Cmax, Cmin, Cabs, List.take, List.drop, List.reverse, List.reverseAux, List.length, List.append, List.nil_append, List.cons_append, true_and, and_true, and_self, forall_const, true_implies, false_implies, not_true_eq_false, not_false_eq_true, Option.map, reduceCtorEq, reduceIte, or_true, true_or, false_or, or_false, false_and, and_false, List.map, List.append_nil, implies_true, yK, Nat.reduceBEq, beq_self_eq_true, Int.zero_ne_one, Nat.reduceDiv, Nat.reduceMod, Nat.reduceAdd, Nat.reduceSub, Nat.reduceMul, Nat.reduceEqDiff, Nat.reduceLeDiff, Int.reduceToNat, Int.reduceNeg, Int.reduceEq, Int.reduceLT, Int.reduceLE, Int.reduceNatCast, Int.reduceNatCast', Int.reduceAdd, Int.reduceSub, Int.reduceMul, eq_self, Prod.mk.injEq, A_X8_slide, V_X8_slide, B_X8_slide, Y_X8_slide, C_X6_has, C_X8_isWithin, C_X7_best, shpT, rfsT, br]
  refine ⟨fun h => ⟨fun q => ⟨fun q1 => ⟨⟨⟨by omega, by omega⟩, ⟨by omega, by omega⟩, q1, c2 a h.1 (by omega), c2 b q.1 (by omega)⟩, mid _ (by rw [if_neg (fun z => z ⟨h, q⟩), if_neg (fun z => z q1)])⟩, fun q1 => mid _ (by rw [if_neg (fun z => z ⟨h, q⟩), if_pos q1])⟩, fun q => mid _ (by rw [if_pos (fun z => q z.2)])⟩, fun h => mid _ (by rw [if_pos (fun z => h z.1)])⟩
def A_X8_chance : List (Nat × Ctr) := [(2, rcv 6 2 C_X6_has), (1, arg 1 C_X8_isSlide), (3, arg 3 C_X8_isWithin), (4, rcv 7 6 C_X7_overOf), (4, rcv 7 7 C_X7_turnsAsLike), (3, arg 7 C_X8_partInLowestTerms)]
theorem e_X8_chance (o : OM) : Ev o Y_X8_chance 4 T_X8_chance A_X8_chance := ⟨rfl, List.forall_mem_cons.mpr ⟨Or.inl f_X8_10, List.forall_mem_cons.mpr ⟨Or.inl f_X8_59, List.forall_mem_cons.mpr ⟨Or.inl f_X8_106, fun _ h => absurd h List.not_mem_nil⟩⟩⟩, fun _ h => absurd h List.not_mem_nil, fun _ h => absurd h List.not_mem_nil, fun _ h => absurd h List.not_mem_nil, List.forall_mem_cons.mpr ⟨cl_X6_has (s_X6_has o) (by decide) (Or.inr ⟨_, wn_42⟩), List.forall_mem_cons.mpr ⟨cl_X7_overOf (s_X7_overOf o) (by decide) (Or.inr ⟨_, wn_60⟩), List.forall_mem_cons.mpr ⟨cl_X7_turnsAsLike (s_X7_turnsAsLike o) (by decide) (Or.inr ⟨_, wn_66⟩), fun _ h => absurd h List.not_mem_nil⟩⟩⟩, List.forall_mem_cons.mpr ⟨cl_X8_isSlide (s_X8_isSlide o) (by decide) (Or.inl w_626), List.forall_mem_cons.mpr ⟨cl_X8_isWithin (s_X8_isWithin o) (by decide) (Or.inl w_353), List.forall_mem_cons.mpr ⟨cl_X8_partInLowestTerms (s_X8_partInLowestTerms o) (by decide) (Or.inl w_674), fun _ h => absurd h List.not_mem_nil⟩⟩⟩⟩
def C_X8_chance : Ctr := fun A σ k => wpl A_X8_chance V_X8_chance (yK Y_X8_chance) B_X8_chance k 4 0 [] (entL A) σ
theorem s_X8_chance (o : OM) : Sound o Y_X8_chance 4 C_X8_chance := fun Q A σ _ hC => at_wpl (e_X8_chance o) k_X8_chance 4 0 [] (entL A) σ hC
theorem op_chance {σ : Sto} (hR : Rel σ) {a b k w : Int} {κ : List AV → Sto → Prop} (hκ : ∀ v τ, Mid C_X9_chance [vR 67, vI a, vI b, vI k, vI w] (σ 102) v τ → κ [vI v] τ) : C_X8_chance [vR 0, vI a, vI b, vI k, vI w] σ κ := by
  obtain ⟨⟨c1, c2, c3, c4, c5, c6, c7, c8, c9, c10, c11, c12, c13, c14, c15, c16⟩, ⟨e1, e2, e3, e4, e5, e6, e7, e8, e9, e10, e11, e12, e13, e14, e15⟩, ⟨g1, g2, g3, g4⟩, ⟨h1, h2, h3, h4, h5, h6⟩, ⟨l1, l2, l3, l4⟩, hImg, ⟨n1, n2, n3, n4⟩⟩ := id hR
  have mid : ∀ v, v = (if ¬ ((0 ≤ a ∧ a < σ 1 0) ∧ (0 ≤ b ∧ b < σ 1 0)) then -101 else if ¬ ((-15 ≤ k ∧ k ≤ 15) ∧ (0 ≤ w ∧ w ≤ 1)) then -102 else if ovr (σ 12 a) (σ 12 b) k = 0 then -103 else ltS (tnS (fun r => lkS (σ 13) (σ 14) (σ 15) (σ 12) a b k r) (σ 12 b)) (σ 12 b) w) → κ [vI v] σ := by
    intro v hv
    refine hκ v σ (fun κ' hκ' => ?_)
    refine ⟨⟨by rw [e1]; exact c1, by rw [e5]; exact c2⟩, ?_⟩
    rw [e1, e5, e6, e7, e8, ← hv]
    exact hκ' σ hR rfl
  simp only [C_X8_chance, sq_iconst, sq_jsr, sq_anewarray, sq_iload, sq_lload, sq_aload, sq_istore, sq_lstore, sq_astore, sq_iinc, sq_getfield, st_put0, st_put1, st_put3, sq_inv, sq_goto, sq_icmp, sq_ifc, sq_tsw, sq_iadd, sq_isub, sq_imul, sq_ineg, sq_idiv, sq_irem, sq_iand, sq_ior, sq_ixor, sq_ishl, sq_ishr, sq_iushr, sq_ladd, sq_lmul, sq_ldiv, sq_lrem, sq_land, sq_lor, sq_lshl, sq_lushr, sq_lcmp, sq_i2l, sq_l2i, sq_i2c, sq_i2b, sq_dupI, sq_dupR, sq_dup2, sq_pop, sq_iaload, sq_baload, sq_aaload, sq_iastore, sq_bastore, sq_alen, sq_ireturn, sq_lreturn, sq_return, wq_c, wq_n, wlq_s, lkp, tbl, dBk, nth, setL, canSet, cmpI, tk, swK, rdF, entL, catS, cat1, arg, rcv, ald, bld, aln, br, Ccopy, Cmax, Cmin, Cabs, List.take, List.drop, List.reverse, List.reverseAux, List.length, List.append, List.nil_append, List.cons_append, true_and, and_true, and_self, forall_const, true_implies, false_implies, not_true_eq_false, not_false_eq_true, Option.map, reduceCtorEq, reduceIte, or_true, true_or, false_or, or_false, false_and, and_false, List.map, List.append_nil, implies_true, yK, Nat.reduceBEq, beq_self_eq_true, Int.zero_ne_one, Nat.reduceDiv, Nat.reduceMod, Nat.reduceAdd, Nat.reduceSub, Nat.reduceMul, Nat.reduceEqDiff, Nat.reduceLeDiff, Int.reduceToNat, Int.reduceNeg, Int.reduceEq, Int.reduceLT, Int.reduceLE, Int.reduceNatCast, Int.reduceNatCast', Int.reduceAdd, Int.reduceSub, Int.reduceMul, eq_self, Prod.mk.injEq, A_X8_chance, V_X8_chance, B_X8_chance, Y_X8_chance, C_X6_has, C_X8_isSlide, C_X8_isWithin, C_X7_overOf, C_X7_turnsAsLike, C_X8_partInLowestTerms, shpT, rfsT, br]
  refine ⟨fun h => ⟨fun q => ?_, fun q => mid _ (by rw [if_pos (fun z => q z.2)])⟩, fun h => mid _ (by rw [if_pos (fun z => h z.1)])⟩
  have sa := c2 a h.1 (by omega)
  have sb := c2 b q.1 (by omega)
  refine ⟨fun q1 => ⟨fun q2 => ⟨⟨⟨by omega, by omega⟩, ⟨by omega, by omega⟩, q1, sa, sb⟩, fun q3 => ⟨⟨⟨by omega, by omega⟩, ⟨by omega, by omega⟩, q1, sa, sb⟩, ⟨by omega, by omega⟩, ?_, mid _ (by rw [if_neg (fun z => z ⟨h, q⟩), if_neg (fun z => z ⟨q1, q2⟩), if_neg q3])⟩, fun q3 => mid _ (by rw [if_neg (fun z => z ⟨h, q⟩), if_neg (fun z => z ⟨q1, q2⟩), if_pos (Classical.not_not.mp q3)])⟩, fun q2 => mid _ (by rw [if_neg (fun z => z ⟨h, q⟩), if_pos (fun z => q2 z.2)])⟩, fun q1 => mid _ (by rw [if_neg (fun z => z ⟨h, q⟩), if_pos (fun z => q1 z.1)])⟩
  have tn := tn_in (lk := fun r => lkS (σ 13) (σ 14) (σ 15) (σ 12) a b k r) sb.1
  unfold ovr at q3
  exact ⟨⟨tn.1, (by omega)⟩, (by omega), (by omega)⟩

