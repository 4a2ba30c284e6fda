-- ===== pairs of calls: best slide, chance =====
theorem bsS_2 {ov lk : Int → Int} {m k : Int} {x : Int × Int} (hk : ¬ k = -100004) : bsS ov lk m k (bsS ov lk m k x) = bsS ov lk m k x := by
  unfold bsS
  by_cases h : m ≤ ov k ∧ (x.1 = -100004 ∨ x.2 < lk k)
  · rw [if_pos h, if_neg (by show ¬ (m ≤ ov k ∧ (k = -100004 ∨ lk k < lk k)); omega)]
  · rw [if_neg h, if_neg h]
def csN (t s : Int) : Nat := if s = -1 then (2 * t - 1).toNat else if s = 1 then (if t = 0 then 1 else (2 * t).toNat) else (2 * t + 1).toNat
theorem cs_step {ov lk : Int → Int} {m t s : Int} (t0 : 0 ≤ t) (hs : s = -1 ∨ s = 1) : bst ov lk m (csN t (s + 2)) = bsS ov lk m (s * t) (bst ov lk m (csN t s)) := by
  rcases hs with rfl | rfl
  · by_cases e : t = 0
    · subst e
      rfl
    · unfold csN
      rw [if_neg (by decide), if_pos (by decide), if_neg e, if_pos rfl, show (2 * t).toNat = (2 * t - 1).toNat + 1 by omega]
      show bsS ov lk m (kth _) _ = _
      rw [show kth ((2 * t - 1).toNat : Int) = -1 * t by unfold kth; rw [if_pos (by omega)]; omega]
  · by_cases e : t = 0
    · subst e
      show bsS ov lk m (kth 0) (bst ov lk m 0) = bsS ov lk m 0 (bsS ov lk m (kth 0) (bst ov lk m 0))
      rw [show kth 0 = 0 from rfl, bsS_2 (by decide)]
    · unfold csN
      rw [if_neg (by decide), if_neg (by decide), if_neg (by decide), if_pos rfl, if_neg e, show (2 * t + 1).toNat = (2 * t).toNat + 1 by omega]
      show bsS ov lk m (kth _) _ = _
      rw [show kth ((2 * t).toNat : Int) = 1 * t by unfold kth; rw [if_neg (by omega)]; omega]
def MsI (σ : Sto) : Prop := (0 ≤ σ 67 0 ∧ σ 67 0 ≤ 7) ∧ (∀ p, 0 ≤ p → p < 7 → 0 ≤ σ 69 p ∧ σ 69 p ≤ 16)
def A_X9_slide : List (Nat × Ctr) := [(2, rcv 9 2 C_X9_isPit), (3, arg 6 C_X9_in), (4, rcv 9 6 C_X9_overOf), (5, rcv 9 11 C_X9_likeOf)]
theorem e_X9_slide (o : OM) : Ev o Y_X9_slide 3 T_X9_slide A_X9_slide := ⟨rfl, fun _ h => absurd h List.not_mem_nil, List.forall_mem_cons.mpr ⟨⟨w_1393, by decide, by decide⟩, List.forall_mem_cons.mpr ⟨⟨w_1403, by decide, by decide⟩, List.forall_mem_cons.mpr ⟨⟨w_1408, by decide, by decide⟩, fun _ h => absurd h List.not_mem_nil⟩⟩⟩, List.forall_mem_cons.mpr ⟨⟨w_1425, by decide, by decide⟩, fun _ h => absurd h List.not_mem_nil⟩, fun _ h => absurd h List.not_mem_nil, List.forall_mem_cons.mpr ⟨cl_X9_isPit (s_X9_isPit o) (by decide) (Or.inl w_1267), List.forall_mem_cons.mpr ⟨cl_X9_overOf (s_X9_overOf o) (by decide) (Or.inl w_1404), List.forall_mem_cons.mpr ⟨cl_X9_likeOf (s_X9_likeOf o) (by decide) (Or.inl w_1409), fun _ h => absurd h List.not_mem_nil⟩⟩⟩, List.forall_mem_cons.mpr ⟨cl_X9_in (s_X9_in o) (by decide) (Or.inl w_1260), fun _ h => absurd h List.not_mem_nil⟩⟩
def C_X9_slide : Ctr := fun A σ κ => match A with
  | [.inr (.inr (.inl 67)), .inl a, .inl b, .inl m] => (MsI σ) ∧ κ [vI (if ¬ ((0 ≤ a ∧ a < σ 67 0) ∧ (0 ≤ b ∧ b < σ 67 0)) then -100001 else if ¬ (1 ≤ m ∧ m ≤ 16) then -100002 else (bst (fun k => ovr (σ 69 a) (σ 69 b) k) (fun k => lkS (σ 70) (σ 71) (σ 72) (σ 69) a b k 0) m 31).1)] σ
  | _ => False
set_option maxRecDepth 20000 in
theorem s_X9_slide (o : OM) : Sound o Y_X9_slide 3 C_X9_slide := by
  intro Q A σ hA hC
  match A, hA, hC with
  | [.inr (.inr (.inl 67)), .inl a, .inl b, .inl m], hA, hC =>
    obtain ⟨h0, hq⟩ : (MsI σ) ∧ Q [vI (if ¬ ((0 ≤ a ∧ a < σ 67 0) ∧ (0 ≤ b ∧ b < σ 67 0)) then -100001 else if ¬ (1 ≤ m ∧ m ≤ 16) then -100002 else (bst (fun k => ovr (σ 69 a) (σ 69 b) k) (fun k => lkS (σ 70) (σ 71) (σ 72) (σ 69) a b k 0) m 31).1)] σ := hC
    have hQ : ∀ r_ τ, r_ = (if ¬ ((0 ≤ a ∧ a < σ 67 0) ∧ (0 ≤ b ∧ b < σ 67 0)) then -100001 else if ¬ (1 ≤ m ∧ m ≤ 16) then -100002 else (bst (fun k => ovr (σ 69 a) (σ 69 b) k) (fun k => lkS (σ 70) (σ 71) (σ 72) (σ 69) a b k 0) m 31).1) → τ = (σ) → Q [vI r_] τ := fun r_ τ e e2 => e ▸ e2 ▸ hq
    obtain ⟨hn, hs⟩ := h0
    obtain ⟨ov, hov⟩ : ∃ f, f = fun k => ovr (σ 69 a) (σ 69 b) k := ⟨_, rfl⟩
    obtain ⟨lk, hlk⟩ : ∃ f, f = fun k => lkS (σ 70) (σ 71) (σ 72) (σ 69) a b k 0 := ⟨_, rfl⟩
    rw [← hov, ← hlk] at hQ hq
    have eov : ∀ k, ovr (σ 69 a) (σ 69 b) k = ov k := fun k => by rw [hov]
    have elk : ∀ k, lkS (σ 70) (σ 71) (σ 72) (σ 69) a b k 0 = lk k := fun k => by rw [hlk]
    obtain ⟨P44, hP44⟩ : ∃ P : Nat → List AV → List AV → Sto → Prop, P = fun mm S L τ => ∃ t : Int, S = [] ∧ L = [vR 67, vI a, vI b, vI m, vI (bst ov lk m (csN t (-1))).1, vI (bst ov lk m (csN t (-1))).2, vI t] ∧ τ = σ ∧ ((0 ≤ a ∧ a < σ 67 0) ∧ (0 ≤ b ∧ b < σ 67 0)) ∧ (1 ≤ m ∧ m ≤ 16) ∧ 0 ≤ t ∧ t ≤ 16 ∧ mm = ((16 - t) * 10).toNat := ⟨_, rfl⟩
    obtain ⟨P54, hP54⟩ : ∃ P : Nat → List AV → List AV → Sto → Prop, P = fun mm S L τ => ∃ t s : Int, S = [] ∧ L = [vR 67, vI a, vI b, vI m, vI (bst ov lk m (csN t s)).1, vI (bst ov lk m (csN t s)).2, vI t, vI s] ∧ τ = σ ∧ ((0 ≤ a ∧ a < σ 67 0) ∧ (0 ≤ b ∧ b < σ 67 0)) ∧ (1 ≤ m ∧ m ≤ 16) ∧ 0 ≤ t ∧ t < 16 ∧ (s = -1 ∨ s = 1 ∨ s = 3) ∧ mm = ((15 - t) * 10 + 4 - s).toNat := ⟨_, rfl⟩
    refine at_meth (lv := V_X9_slide) (B := B_X9_slide) (e_X9_slide o) k_X9_slide 9 [(44, P44), (54, P54)] (List.forall_mem_cons.mpr ⟨?_, List.forall_mem_cons.mpr ⟨?_, fun _ h => absurd h List.not_mem_nil⟩⟩) 0 [] _ σ ?_
    · intro mm S L τ hI
      rw [hP44] at hI
      obtain ⟨t, rfl, rfl, rfl, hab, hm, t0, t1, hmm⟩ := hI
      simp only [sq_iconst, sq_jsr, sq_anewarray, sq_iload, sq_lload, sq_aload, sq_istore, sq_lstore, sq_astore, sq_iinc, sq_getfield, st_put0, st_put1, st_put3, sq_inv, sq_goto, sq_icmp, sq_ifc, sq_tsw, sq_iadd, sq_isub, sq_imul, sq_ineg, sq_idiv, sq_irem, sq_iand, sq_ior, sq_ixor, sq_ishl, sq_ishr, sq_iushr, sq_ladd, sq_lmul, sq_ldiv, sq_lrem, sq_land, sq_lor, sq_lshl, sq_lushr, sq_lcmp, sq_i2l, sq_l2i, sq_i2c, sq_i2b, sq_dupI, sq_dupR, sq_dup2, sq_pop, sq_iaload, sq_baload, sq_aaload, sq_iastore, sq_bastore, sq_alen, sq_ireturn, sq_lreturn, sq_return, wq_c, wq_n, wlq_s, lkp, tbl, dBk, nth, setL, canSet, cmpI, tk, swK, rdF, entL, catS, cat1, arg, rcv, ald, bld, aln, br, Ccopy, Cmax, Cmin, Cabs, List.take, List.drop, List.reverse, List.reverseAux, List.length, List.append, List.nil_append, List.cons_append, true_and, and_true, and_self, forall_const, true_implies, false_implies, not_true_eq_false, not_false_eq_true, Option.map, reduceCtorEq, reduceIte, or_true, true_or, false_or, or_false, false_and, and_false, List.map, List.append_nil, implies_true, yK, Nat.reduceBEq, beq_self_eq_true, Int.zero_ne_one, Nat.reduceDiv, Nat.reduceMod, Nat.reduceAdd, Nat.reduceSub, Nat.reduceMul, Nat.reduceEqDiff, Nat.reduceLeDiff, Int.reduceToNat, Int.reduceNeg, Int.reduceEq, Int.reduceLT, Int.reduceLE, Int.reduceNatCast, Int.reduceNatCast', Int.reduceAdd, Int.reduceSub, Int.reduceMul, eq_self, Prod.mk.injEq, A_X9_slide, V_X9_slide, B_X9_slide, Y_X9_slide, C_X9_isPit, C_X9_in, C_X9_overOf, C_X9_likeOf, shpT, rfsT, wjq_s, look]
      rw [hP54]
      refine ⟨fun h => ?_, fun h => ⟨_, ?_, t, -1, rfl, rfl, rfl, hab, hm, t0, (by omega), Or.inl rfl, rfl⟩⟩
      · have e : t = 16 := by omega
        subst e
        exact hQ _ _ (by rw [if_neg (fun z => z hab), if_neg (fun z => z hm)]; rfl) rfl
      · omega
    · intro mm S L τ hI
      rw [hP54] at hI
      obtain ⟨t, s, rfl, rfl, rfl, hab, hm, t0, t1, hs3, hmm⟩ := hI
      simp only [sq_iconst, sq_jsr, sq_anewarray, sq_iload, sq_lload, sq_aload, sq_istore, sq_lstore, sq_astore, sq_iinc, sq_getfield, st_put0, st_put1, st_put3, sq_inv, sq_goto, sq_icmp, sq_ifc, sq_tsw, sq_iadd, sq_isub, sq_imul, sq_ineg, sq_idiv, sq_irem, sq_iand, sq_ior, sq_ixor, sq_ishl, sq_ishr, sq_iushr, sq_ladd, sq_lmul, sq_ldiv, sq_lrem, sq_land, sq_lor, sq_lshl, sq_lushr, sq_lcmp, sq_i2l, sq_l2i, sq_i2c, sq_i2b, sq_dupI, sq_dupR, sq_dup2, sq_pop, sq_iaload, sq_baload, sq_aaload, sq_iastore, sq_bastore, sq_alen, sq_ireturn, sq_lreturn, sq_return, wq_c, wq_n, wlq_s, lkp, tbl, dBk, nth, setL, canSet, cmpI, tk, swK, rdF, entL, catS, cat1, arg, rcv, ald, bld, aln, br, Ccopy, Cmax, Cmin, Cabs, List.take, List.drop, List.reverse, List.reverseAux, List.length, List.append, List.nil_append, List.cons_append, true_and, and_true, and_self, forall_const, true_implies, false_implies, not_true_eq_false, not_false_eq_true, Option.map, reduceCtorEq, reduceIte, or_true, true_or, false_or, or_false, false_and, and_false, List.map, List.append_nil, implies_true, yK, Nat.reduceBEq, beq_self_eq_true, Int.zero_ne_one, Nat.reduceDiv, Nat.reduceMod, Nat.reduceAdd, Nat.reduceSub, Nat.reduceMul, Nat.reduceEqDiff, Nat.reduceLeDiff, Int.reduceToNat, Int.reduceNeg, Int.reduceEq, Int.reduceLT, Int.reduceLE, Int.reduceNatCast, Int.reduceNatCast', Int.reduceAdd, Int.reduceSub, Int.reduceMul, eq_self, Prod.mk.injEq, A_X9_slide, V_X9_slide, B_X9_slide, Y_X9_slide, C_X9_isPit, C_X9_in, C_X9_overOf, C_X9_likeOf, shpT, rfsT, wjq_s, look, eov, elk]
      skip
    · simp only [sq_iconst, sq_jsr, sq_anewarray, sq_iload, sq_lload, sq_aload, sq_istore, sq_lstore, sq_astore, sq_iinc, sq_getfield, st_put0, st_put1, st_put3, sq_inv, sq_goto, sq_icmp, sq_ifc, sq_tsw, sq_iadd, sq_isub, sq_imul, sq_ineg, sq_idiv, sq_irem, sq_iand, sq_ior, sq_ixor, sq_ishl, sq_ishr, sq_iushr, sq_ladd, sq_lmul, sq_ldiv, sq_lrem, sq_land, sq_lor, sq_lshl, sq_lushr, sq_lcmp, sq_i2l, sq_l2i, sq_i2c, sq_i2b, sq_dupI, sq_dupR, sq_dup2, sq_pop, sq_iaload, sq_baload, sq_aaload, sq_iastore, sq_bastore, sq_alen, sq_ireturn, sq_lreturn, sq_return, wq_c, wq_n, wlq_s, lkp, tbl, dBk, nth, setL, canSet, cmpI, tk, swK, rdF, entL, catS, cat1, arg, rcv, ald, bld, aln, br, Ccopy, Cmax, Cmin, Cabs, List.take, List.drop, List.reverse, List.reverseAux, List.length, List.append, List.nil_append, List.cons_append, true_and, and_true, and_self, forall_const, true_implies, false_implies, not_true_eq_false, not_false_eq_true, Option.map, reduceCtorEq, reduceIte, or_true, true_or, false_or, or_false, false_and, and_false, List.map, List.append_nil, implies_true, yK, Nat.reduceBEq, beq_self_eq_true, Int.zero_ne_one, Nat.reduceDiv, Nat.reduceMod, Nat.reduceAdd, Nat.reduceSub, Nat.reduceMul, Nat.reduceEqDiff, Nat.reduceLeDiff, Int.reduceToNat, Int.reduceNeg, Int.reduceEq, Int.reduceLT, Int.reduceLE, Int.reduceNatCast, Int.reduceNatCast', Int.reduceAdd, Int.reduceSub, Int.reduceMul, eq_self, Prod.mk.injEq, A_X9_slide, V_X9_slide, B_X9_slide, Y_X9_slide, C_X9_isPit, C_X9_in, C_X9_overOf, C_X9_likeOf, shpT, rfsT, wjq_s, look]
      skip
def A_X9_chance : List (Nat × Ctr) := [(2, rcv 9 2 C_X9_isPit), (1, arg 1 C_X9_isSlide), (1, arg 1 C_X9_isPart), (4, rcv 9 6 C_X9_overOf), (5, rcv 9 11 C_X9_likeOf), (3, arg 4 C_X9_term)]
theorem e_X9_chance (o : OM) : Ev o Y_X9_chance 3 T_X9_chance A_X9_chance := ⟨rfl, List.forall_mem_cons.mpr ⟨Or.inl f_X9_13, fun _ h => absurd h List.not_mem_nil⟩, fun _ h => absurd h List.not_mem_nil, fun _ h => absurd h List.not_mem_nil, fun _ h => absurd h List.not_mem_nil, List.forall_mem_cons.mpr ⟨cl_X9_isPit (s_X9_isPit o) (by decide) (Or.inl w_1267), List.forall_mem_cons.mpr ⟨cl_X9_overOf (s_X9_overOf o) (by decide) (Or.inl w_1404), List.forall_mem_cons.mpr ⟨cl_X9_likeOf (s_X9_likeOf o) (by decide) (Or.inl w_1409), fun _ h => absurd h List.not_mem_nil⟩⟩⟩, List.forall_mem_cons.mpr ⟨cl_X9_isSlide (s_X9_isSlide o) (by decide) (Or.inl w_1398), List.forall_mem_cons.mpr ⟨cl_X9_isPart (s_X9_isPart o) (by decide) (Or.inl w_1430), List.forall_mem_cons.mpr ⟨cl_X9_term (s_X9_term o) (by decide) (Or.inl w_1433), fun _ h => absurd h List.not_mem_nil⟩⟩⟩⟩
def C_X9_chance : Ctr := fun A σ κ => match A with
  | [.inr (.inr (.inl 67)), .inl a, .inl b, .inl k, .inl w] => (MsI σ) ∧ κ [vI (if ¬ ((0 ≤ a ∧ a < σ 67 0) ∧ (0 ≤ b ∧ b < σ 67 0)) then -101 else if ¬ ((-15 ≤ k ∧ k ≤ 15) ∧ (0 ≤ w ∧ w ≤ 1)) then -102 else if ovr (σ 69 a) (σ 69 b) k = 0 then -103 else ltS (tnS (fun r => lkS (σ 70) (σ 71) (σ 72) (σ 69) a b k r) (σ 69 b)) (σ 69 b) w)] σ
  | _ => False
set_option maxRecDepth 20000 in
theorem s_X9_chance (o : OM) : Sound o Y_X9_chance 3 C_X9_chance := by
  intro Q A σ hA hC
  match A, hA, hC with
  | [.inr (.inr (.inl 67)), .inl a, .inl b, .inl k, .inl w], hA, hC =>
    obtain ⟨h0, hq⟩ : (MsI σ) ∧ Q [vI (if ¬ ((0 ≤ a ∧ a < σ 67 0) ∧ (0 ≤ b ∧ b < σ 67 0)) then -101 else if ¬ ((-15 ≤ k ∧ k ≤ 15) ∧ (0 ≤ w ∧ w ≤ 1)) then -102 else if ovr (σ 69 a) (σ 69 b) k = 0 then -103 else ltS (tnS (fun r => lkS (σ 70) (σ 71) (σ 72) (σ 69) a b k r) (σ 69 b)) (σ 69 b) w)] σ := hC
    have hQ : ∀ r_ τ, r_ = (if ¬ ((0 ≤ a ∧ a < σ 67 0) ∧ (0 ≤ b ∧ b < σ 67 0)) then -101 else if ¬ ((-15 ≤ k ∧ k ≤ 15) ∧ (0 ≤ w ∧ w ≤ 1)) then -102 else if ovr (σ 69 a) (σ 69 b) k = 0 then -103 else ltS (tnS (fun r => lkS (σ 70) (σ 71) (σ 72) (σ 69) a b k r) (σ 69 b)) (σ 69 b) w) → τ = (σ) → Q [vI r_] τ := fun r_ τ e e2 => e ▸ e2 ▸ hq
    obtain ⟨hn, hs⟩ := h0
    obtain ⟨lk, hlk⟩ : ∃ f, f = fun r => lkS (σ 70) (σ 71) (σ 72) (σ 69) a b k r := ⟨_, rfl⟩
    rw [← hlk] at hQ hq
    have elk : ∀ r, lkS (σ 70) (σ 71) (σ 72) (σ 69) a b k r = lk r := fun k => by rw [hlk]
    obtain ⟨P56, hP56⟩ : ∃ P : Nat → List AV → List AV → Sto → Prop, P = fun mm S L τ => ∃ r : Int, S = [] ∧ L = [vR 67, vI a, vI b, vI k, vI w, vI (tnS lk r), vI r] ∧ τ = σ ∧ ((0 ≤ a ∧ a < σ 67 0) ∧ (0 ≤ b ∧ b < σ 67 0)) ∧ ((-15 ≤ k ∧ k ≤ 15) ∧ (0 ≤ w ∧ w ≤ 1)) ∧ ¬ ovr (σ 69 a) (σ 69 b) k = 0 ∧ 0 < σ 69 b ∧ 0 ≤ r ∧ r ≤ σ 69 b ∧ mm = (16 - r).toNat := ⟨_, rfl⟩
    refine at_meth (lv := V_X9_chance) (B := B_X9_chance) (e_X9_chance o) k_X9_chance 6 [(56, P56)] (List.forall_mem_cons.mpr ⟨?_, fun _ h => absurd h List.not_mem_nil⟩) 0 [] _ σ ?_
    · intro mm S L τ hI
      rw [hP56] at hI
      obtain ⟨r, rfl, rfl, rfl, hab, hkw, ho, hb, r0, r1, hmm⟩ := hI
      have sa := hs a hab.1.1 (by omega)
      have sb := hs b hab.2.1 (by omega)
      simp only [sq_iconst, sq_jsr, sq_anewarray, sq_iload, sq_lload, sq_aload, sq_istore, sq_lstore, sq_astore, sq_iinc, sq_getfield, st_put0, st_put1, st_put3, sq_inv, sq_goto, sq_icmp, sq_ifc, sq_tsw, sq_iadd, sq_isub, sq_imul, sq_ineg, sq_idiv, sq_irem, sq_iand, sq_ior, sq_ixor, sq_ishl, sq_ishr, sq_iushr, sq_ladd, sq_lmul, sq_ldiv, sq_lrem, sq_land, sq_lor, sq_lshl, sq_lushr, sq_lcmp, sq_i2l, sq_l2i, sq_i2c, sq_i2b, sq_dupI, sq_dupR, sq_dup2, sq_pop, sq_iaload, sq_baload, sq_aaload, sq_iastore, sq_bastore, sq_alen, sq_ireturn, sq_lreturn, sq_return, wq_c, wq_n, wlq_s, lkp, tbl, dBk, nth, setL, canSet, cmpI, tk, swK, rdF, entL, catS, cat1, arg, rcv, ald, bld, aln, br, Ccopy, Cmax, Cmin, Cabs, List.take, List.drop, List.reverse, List.reverseAux, List.length, List.append, List.nil_append, List.cons_append, true_and, and_true, and_self, forall_const, true_implies, false_implies, not_true_eq_false, not_false_eq_true, Option.map, reduceCtorEq, reduceIte, or_true, true_or, false_or, or_false, false_and, and_false, List.map, List.append_nil, implies_true, yK, Nat.reduceBEq, beq_self_eq_true, Int.zero_ne_one, Nat.reduceDiv, Nat.reduceMod, Nat.reduceAdd, Nat.reduceSub, Nat.reduceMul, Nat.reduceEqDiff, Nat.reduceLeDiff, Int.reduceToNat, Int.reduceNeg, Int.reduceEq, Int.reduceLT, Int.reduceLE, Int.reduceNatCast, Int.reduceNatCast', Int.reduceAdd, Int.reduceSub, Int.reduceMul, eq_self, Prod.mk.injEq, A_X9_chance, V_X9_chance, B_X9_chance, Y_X9_chance, C_X9_isPit, C_X9_isSlide, A_X9_isSlide, V_X9_isSlide, B_X9_isSlide, Y_X9_isSlide, C_X9_in, C_X9_isPart, A_X9_isPart, V_X9_isPart, B_X9_isPart, Y_X9_isPart, C_X9_overOf, C_X9_likeOf, C_X9_term, shpT, rfsT, wjq_s, look, elk]
      skip
    · simp only [sq_iconst, sq_jsr, sq_anewarray, sq_iload, sq_lload, sq_aload, sq_istore, sq_lstore, sq_astore, sq_iinc, sq_getfield, st_put0, st_put1, st_put3, sq_inv, sq_goto, sq_icmp, sq_ifc, sq_tsw, sq_iadd, sq_isub, sq_imul, sq_ineg, sq_idiv, sq_irem, sq_iand, sq_ior, sq_ixor, sq_ishl, sq_ishr, sq_iushr, sq_ladd, sq_lmul, sq_ldiv, sq_lrem, sq_land, sq_lor, sq_lshl, sq_lushr, sq_lcmp, sq_i2l, sq_l2i, sq_i2c, sq_i2b, sq_dupI, sq_dupR, sq_dup2, sq_pop, sq_iaload, sq_baload, sq_aaload, sq_iastore, sq_bastore, sq_alen, sq_ireturn, sq_lreturn, sq_return, wq_c, wq_n, wlq_s, lkp, tbl, dBk, nth, setL, canSet, cmpI, tk, swK, rdF, entL, catS, cat1, arg, rcv, ald, bld, aln, br, Ccopy, Cmax, Cmin, Cabs, List.take, List.drop, List.reverse, List.reverseAux, List.length, List.append, List.nil_append, List.cons_append, true_and, and_true, and_self, forall_const, true_implies, false_implies, not_true_eq_false, not_false_eq_true, Option.map, reduceCtorEq, reduceIte, or_true, true_or, false_or, or_false, false_and, and_false, List.map, List.append_nil, implies_true, yK, Nat.reduceBEq, beq_self_eq_true, Int.zero_ne_one, Nat.reduceDiv, Nat.reduceMod, Nat.reduceAdd, Nat.reduceSub, Nat.reduceMul, Nat.reduceEqDiff, Nat.reduceLeDiff, Int.reduceToNat, Int.reduceNeg, Int.reduceEq, Int.reduceLT, Int.reduceLE, Int.reduceNatCast, Int.reduceNatCast', Int.reduceAdd, Int.reduceSub, Int.reduceMul, eq_self, Prod.mk.injEq, A_X9_chance, V_X9_chance, B_X9_chance, Y_X9_chance, C_X9_isPit, C_X9_isSlide, A_X9_isSlide, V_X9_isSlide, B_X9_isSlide, Y_X9_isSlide, C_X9_in, C_X9_isPart, A_X9_isPart, V_X9_isPart, B_X9_isPart, Y_X9_isPart, C_X9_overOf, C_X9_likeOf, C_X9_term, shpT, rfsT, wjq_s, look]
      skip

