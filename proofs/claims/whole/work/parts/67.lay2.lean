-- ===== lay: both calls =====
def LR (σ : Sto) (a b c d : Nat) (p : Int) (q : Q4) (τ : Sto) : Prop := τ a = upI (σ a) p q.1 ∧ τ b = q.2.1 ∧ τ c = q.2.2.1 ∧ τ d = q.2.2.2
def LV (s y a b : Int) : Prop := 0 ≤ s ∧ (1 ≤ y ∧ y ≤ 20) ∧ (0 ≤ a ∧ a ≤ 99) ∧ (0 ≤ b ∧ b ≤ 99)
theorem upI_0 {f : Int → Int} {p : Int} : f = upI f p (f p) := by
  funext j; unfold upI; split
  · rename_i h; rw [h]
  · rfl
theorem upI_u {f : Int → Int} {p u v : Int} : upI (upI f p u) p v = upI f p v := by
  funext j; unfold upI; split <;> rfl
theorem LR_0 {σ : Sto} {a b c d : Nat} {p : Int} : LR σ a b c d p (σ a p, σ b, σ c, σ d) σ := ⟨upI_0, rfl, rfl, rfl⟩
theorem psh_1 {p c t : Int} {q : Q4} (h : 0 ≤ q.1 ∧ q.1 ≤ 16) : 0 ≤ (psh p c t q).1 ∧ (psh p c t q).1 ≤ 16 := by
  unfold psh
  split
  · show 0 ≤ q.1 + 1 ∧ q.1 + 1 ≤ 16; omega
  · exact h
theorem layW_1 {p a b s : Int} {q : Q4} (h : 0 ≤ q.1 ∧ q.1 ≤ 16) : 0 ≤ (layW p a b s q).1 ∧ (layW p a b s q).1 ≤ 16 := by
  unfold layW
  split
  · exact psh_1 h
  · split
    · exact psh_1 (psh_1 h)
    · exact h
theorem layN_1 {p a b s : Int} {q : Q4} (h : 0 ≤ q.1 ∧ q.1 ≤ 16) : ∀ n, 0 ≤ (layN p a b s q n).1 ∧ (layN p a b s q n).1 ≤ 16
  | 0 => h
  | n + 1 => layW_1 (layN_1 h n)
/-- the class's store while it lays -/
def LC (σ : Sto) (p : Int) (q : Q4) (τ : Sto) : Prop := LR σ 12 13 14 15 p q τ ∧ (∀ k : Nat, ¬ (12 ≤ k ∧ k ≤ 15) → τ k = σ k)
theorem LC_p {σ τ : Sto} {p c t : Int} {q : Q4} (h : LC σ p q τ) : LC σ p (psh p c t q) (if τ 12 p < 16 then su (su (su (su τ 12 p (τ 12 p + 1)) 13 (p * 16 + τ 12 p) c) 14 (p * 16 + τ 12 p) t) 15 (p * 16 + τ 12 p) 0 else τ) := by
  obtain ⟨⟨h1, h2, h3, h4⟩, h5⟩ := h
  have e : τ 12 p = q.1 := by rw [h1, upI_s]
  rw [e]
  unfold psh
  by_cases c : q.1 < 16
  · rw [if_pos c, if_pos c]
    refine ⟨⟨?_, ?_, ?_, ?_⟩, fun k hk => ?_⟩
    · simp only [su_r, su_u, Nat.reduceEqDiff, not_false_eq_true]
      rw [h1, upI_u]
    · simp only [su_r, su_u, Nat.reduceEqDiff, not_false_eq_true]
      rw [h2]
    · simp only [su_r, su_u, Nat.reduceEqDiff, not_false_eq_true]
      rw [h3]
    · simp only [su_r, su_u, Nat.reduceEqDiff, not_false_eq_true]
      rw [h4]
    · rw [su_r (by omega), su_r (by omega), su_r (by omega), su_r (by omega), h5 k hk]
  · rw [if_neg c, if_neg c]
    exact ⟨⟨h1, h2, h3, h4⟩, h5⟩
theorem LC_1 {σ τ : Sto} {p : Int} {q : Q4} (h : LC σ p q τ) : τ 12 p = q.1 := by rw [h.1.1, upI_s]
abbrev q8 (σ : Sto) (p : Int) : Q4 := (σ 12 p, σ 13, σ 14, σ 15)
abbrev q9 (σ : Sto) (p : Int) : Q4 := (σ 69 p, σ 70, σ 71, σ 72)
def A_X8_lay : List (Nat × Ctr) := [(2, rcv 6 2 C_X6_has), (3, arg 3 C_X8_isWithin), (1, arg 2 C_X8_seedAfter), (2, arg 3 C_X8_drawn), (5, rcv 6 6 C_X6_push)]
theorem e_X8_lay (o : OM) : Ev o Y_X8_lay 2 T_X8_lay A_X8_lay := ⟨rfl, List.forall_mem_cons.mpr ⟨Or.inl f_X8_10, List.forall_mem_cons.mpr ⟨Or.inl f_X8_106, fun _ h => absurd h List.not_mem_nil⟩⟩, fun _ h => absurd h List.not_mem_nil, fun _ h => absurd h List.not_mem_nil, fun _ h => absurd h List.not_mem_nil, List.forall_mem_cons.mpr ⟨cl_X6_has (s_X6_has o) (by decide) (Or.inr ⟨_, wn_42⟩), List.forall_mem_cons.mpr ⟨cl_X6_push (s_X6_push o) (by decide) (Or.inr ⟨_, wn_43⟩), fun _ h => absurd h List.not_mem_nil⟩⟩, List.forall_mem_cons.mpr ⟨cl_X8_isWithin (s_X8_isWithin o) (by decide) (Or.inl w_353), List.forall_mem_cons.mpr ⟨cl_X8_seedAfter (s_X8_seedAfter o) (by decide) (Or.inl w_448), List.forall_mem_cons.mpr ⟨cl_X8_drawn (s_X8_drawn o) (by decide) (Or.inl w_454), fun _ h => absurd h List.not_mem_nil⟩⟩⟩⟩
def C_X8_lay : Ctr := fun A σ κ => match A with
  | [.inr (.inr (.inl 0)), .inl p, .inl s, .inl y, .inl a, .inl b] => ((0 ≤ σ 1 0 ∧ σ 1 0 ≤ 7) ∧ (∀ p, 0 ≤ p → p < 7 → 0 ≤ σ 12 p ∧ σ 12 p ≤ 16)) ∧ (¬ (0 ≤ p ∧ p < σ 1 0) → κ [vI (-101)] σ) ∧ (0 ≤ p ∧ p < σ 1 0 → (¬ LV s y a b → κ [vI (-102)] σ) ∧ (LV s y a b → ∀ τ, LC σ p (layN p a b s (q8 σ p) y.toNat) τ → κ [vI (layN p a b s (q8 σ p) y.toNat).1] τ))
  | _ => False
set_option maxRecDepth 20000 in
theorem s_X8_lay (o : OM) : Sound o Y_X8_lay 2 C_X8_lay := by
  intro Q A σ hA hC
  match A, hA, hC with
  | [.inr (.inr (.inl 0)), .inl p, .inl s, .inl y, .inl a, .inl b], hA, hC =>
    obtain ⟨h0, hq⟩ : ((0 ≤ σ 1 0 ∧ σ 1 0 ≤ 7) ∧ (∀ p, 0 ≤ p → p < 7 → 0 ≤ σ 12 p ∧ σ 12 p ≤ 16)) ∧ (¬ (0 ≤ p ∧ p < σ 1 0) → Q [vI (-101)] σ) ∧ (0 ≤ p ∧ p < σ 1 0 → (¬ LV s y a b → Q [vI (-102)] σ) ∧ (LV s y a b → ∀ τ, LC σ p (layN p a b s (q8 σ p) y.toNat) τ → Q [vI (layN p a b s (q8 σ p) y.toNat).1] τ)) := hC
    have hs : i32 s := (okL_cons.mp (okL_cons.mp (okL_cons.mp hA).2).2).1
    obtain ⟨P60, hP60⟩ : ∃ P : Nat → List AV → List AV → Sto → Prop, P = fun m S L τ => ∃ n : Nat, S = [] ∧ L = [vR 0, vI p, vI s, vI y, vI a, vI b, vL (layS s n), vX, vI (n : Int)] ∧ LC σ p (layN p a b s (q8 σ p) n) τ ∧ (0 ≤ p ∧ p < σ 1 0) ∧ LV s y a b ∧ (n : Int) ≤ y ∧ m = (y - n).toNat := ⟨_, rfl⟩
    refine at_meth (lv := V_X8_lay) (B := B_X8_lay) (e_X8_lay o) k_X8_lay 6 [(60, P60)] (List.forall_mem_cons.mpr ⟨?_, fun _ h => absurd h List.not_mem_nil⟩) 0 [] _ σ ?_
    · intro m S L τ hI
      rw [hP60] at hI
      obtain ⟨n, rfl, rfl, hL, hp, hv, hn, hm⟩ := hI
      simp only [sq_iconst, sq_jsr, sq_anewarray, sq_iload, sq_lload, sq_aload, sq_istore, sq_lstore, sq_astore, sq_iinc, sq_getfield, st_put0, st_put1, st_put3, sq_inv, sq_goto, sq_icmp, sq_ifc, sq_tsw, sq_iadd, sq_isub, sq_imul, sq_ineg, sq_idiv, sq_irem, sq_iand, sq_ior, sq_ixor, sq_ishl, sq_ishr, sq_iushr, sq_ladd, sq_lmul, sq_ldiv, sq_lrem, sq_land, sq_lor, sq_lshl, sq_lushr, sq_lcmp, sq_i2l, sq_l2i, sq_i2c, sq_i2b, sq_dupI, sq_dupR, sq_dup2, sq_pop, sq_iaload, sq_baload, sq_aaload, sq_iastore, sq_bastore, sq_alen, sq_ireturn, sq_lreturn, sq_return, wq_c, wq_n, wlq_s, lkp, tbl, dBk, nth, setL, canSet, cmpI, tk, swK, rdF, entL, catS, cat1, arg, rcv, ald, bld, aln, br, Ccopy, Cmax, Cmin, Cabs, List.take, List.drop, List.reverse, List.reverseAux, List.length, List.append, List.nil_append, List.cons_append, true_and, and_true, and_self, forall_const, true_implies, false_implies, not_true_eq_false, not_false_eq_true, Option.map, reduceCtorEq, reduceIte, or_true, true_or, false_or, or_false, false_and, and_false, List.map, List.append_nil, implies_true, yK, Nat.reduceBEq, beq_self_eq_true, Int.zero_ne_one, Nat.reduceDiv, Nat.reduceMod, Nat.reduceAdd, Nat.reduceSub, Nat.reduceMul, Nat.reduceEqDiff, Nat.reduceLeDiff, Int.reduceToNat, Int.reduceNeg, Int.reduceEq, Int.reduceLT, Int.reduceLE, Int.reduceNatCast, Int.reduceNatCast', Int.reduceAdd, Int.reduceSub, Int.reduceMul, eq_self, Prod.mk.injEq, A_X8_lay, V_X8_lay, B_X8_lay, Y_X8_lay, C_X6_has, C_X8_isWithin, C_X8_seedAfter, C_X8_drawn, C_X6_push, shpT, rfsT, wjq_s, look, br]
      have k1 := layN_1 (p := p) (a := a) (b := b) (s := s) (q := q8 σ p) (h0.2 p hp.1 (by omega)) n
      have k2 := layS_in (s := s) ⟨hv.1, hs.2⟩ n
      have hend : y ≤ (n : Int) → Q [vI (τ 12 p)] τ := fun h => by
        have e : y.toNat = n := by omega
        have := (hq.2 hp).2 hv τ (by rw [e]; exact hL)
        rw [e] at this
        rw [LC_1 hL]
        exact this
      have t12 := LC_1 hL
      have es : ∀ w, lAnd (w64 (w64 (1103515245 * w) + 12345)) 2147483647 = sdn w := fun _ => rfl
      simp only [es]
      have nx : ∀ (q : Q4) (τ' : Sto), ¬ y ≤ (n : Int) → LC σ p q τ' → q = layW p a b (layS s n) (layN p a b s (q8 σ p) n) → i32 ((n : Int) + 1) ∧ ∃ m_1, m_1 < m ∧ P60 m_1 [] [vR 0, vI p, vI s, vI y, vI a, vI b, vL (sdn (sdn (sdn (layS s n)))), vX, vI ((n : Int) + 1)] τ' := by
        intro q τ' h hc e
        have hy := hv.2.1
        subst e
        rw [hP60]
        exact ⟨⟨by omega, by omega⟩, _, by omega, n + 1, rfl, rfl, hc, hp, hv, (by omega), rfl⟩
      have d1 := drw_in (w := sdn (layS s n)) (n := 40) (sdn_in _).1 (by decide)
      have d2 := drw_in (w := sdn (sdn (layS s n))) (n := 6) (sdn_in _).1 (by decide)
      have i1 := sdn_in (layS s n)
      have i2 := sdn_in (sdn (layS s n))
      have i3 := sdn_in (sdn (sdn (layS s n)))
      have eW : layW p a b (layS s n) (layN p a b s (q8 σ p) n) = layW p a b (layS s n) (layN p a b s (q8 σ p) n) := rfl
      conv at eW => rhs; unfold layW
      rw [eW] at nx
      clear eW es
      generalize hw : drw (sdn (layS s n)) 40 = w at *
      generalize he : drw (sdn (sdn (layS s n))) 6 = e at *
      generalize hx : drw (sdn (sdn (sdn (layS s n)))) 100 = x at *
      generalize sdn (sdn (sdn (layS s n))) = s3 at *
      generalize sdn (sdn (layS s n)) = s2 at *
      generalize sdn (layS s n) = s1 at *
      generalize layN p a b s (q8 σ p) n = q at *
      obtain ⟨v1, v2, v3, v4⟩ := id hv
      exact ⟨fun h => ⟨⟨by omega, by omega⟩, hend h⟩, fun h => ⟨i1, i2, i3, ⟨by omega, by omega⟩, fun c1 => ⟨fun c2 => nx q τ h hL (by rw [if_neg (by omega), if_neg (by omega)]), fun c2 => ⟨⟨by omega, by omega⟩, ⟨hp.1, (by omega), (by omega)⟩, ⟨by omega, by omega⟩, ⟨hp.1, (by omega), by rw [LC_1 (LC_p hL)]; exact (psh_1 k1).1⟩, nx _ _ h (LC_p (LC_p hL)) (by rw [if_neg (by omega), if_pos (by omega)])⟩⟩, fun c1 => ⟨fun c2 => ⟨⟨by omega, by omega⟩, ⟨by omega, by omega⟩, ⟨hp.1, (by omega), (by omega)⟩, nx _ _ h (LC_p hL) (by rw [if_pos (by omega), if_pos c2])⟩, fun c2 => ⟨⟨by omega, by omega⟩, ⟨by omega, by omega⟩, ⟨hp.1, (by omega), (by omega)⟩, nx _ _ h (LC_p hL) (by rw [if_pos (by omega), if_neg c2])⟩⟩⟩⟩
    · simp only [sq_iconst, sq_jsr, sq_anewarray, sq_iload, sq_lload, sq_aload, sq_istore, sq_lstore, sq_astore, sq_iinc, sq_getfield, st_put0, st_put1, st_put3, sq_inv, sq_goto, sq_icmp, sq_ifc, sq_tsw, sq_iadd, sq_isub, sq_imul, sq_ineg, sq_idiv, sq_irem, sq_iand, sq_ior, sq_ixor, sq_ishl, sq_ishr, sq_iushr, sq_ladd, sq_lmul, sq_ldiv, sq_lrem, sq_land, sq_lor, sq_lshl, sq_lushr, sq_lcmp, sq_i2l, sq_l2i, sq_i2c, sq_i2b, sq_dupI, sq_dupR, sq_dup2, sq_pop, sq_iaload, sq_baload, sq_aaload, sq_iastore, sq_bastore, sq_alen, sq_ireturn, sq_lreturn, sq_return, wq_c, wq_n, wlq_s, lkp, tbl, dBk, nth, setL, canSet, cmpI, tk, swK, rdF, entL, catS, cat1, arg, rcv, ald, bld, aln, br, Ccopy, Cmax, Cmin, Cabs, List.take, List.drop, List.reverse, List.reverseAux, List.length, List.append, List.nil_append, List.cons_append, true_and, and_true, and_self, forall_const, true_implies, false_implies, not_true_eq_false, not_false_eq_true, Option.map, reduceCtorEq, reduceIte, or_true, true_or, false_or, or_false, false_and, and_false, List.map, List.append_nil, implies_true, yK, Nat.reduceBEq, beq_self_eq_true, Int.zero_ne_one, Nat.reduceDiv, Nat.reduceMod, Nat.reduceAdd, Nat.reduceSub, Nat.reduceMul, Nat.reduceEqDiff, Nat.reduceLeDiff, Int.reduceToNat, Int.reduceNeg, Int.reduceEq, Int.reduceLT, Int.reduceLE, Int.reduceNatCast, Int.reduceNatCast', Int.reduceAdd, Int.reduceSub, Int.reduceMul, eq_self, Prod.mk.injEq, A_X8_lay, V_X8_lay, B_X8_lay, Y_X8_lay, C_X6_has, C_X8_isWithin, C_X8_seedAfter, C_X8_drawn, C_X6_push, shpT, rfsT, wjq_s, look, br]
      rw [hP60]
      have no : ¬ (0 ≤ s ∧ (1 ≤ y ∧ y ≤ 20) ∧ (0 ≤ a ∧ a ≤ 99) ∧ (0 ≤ b ∧ b ≤ 99)) → (0 ≤ p ∧ p < σ 1 0) → Q [vI (-102)] σ := fun z hp => (hq.2 hp).1 z
      exact ⟨fun hp => ⟨fun z => no (fun y => by omega) hp, fun z1 => ⟨fun z2 => ⟨fun z3 => ⟨fun z4 => ⟨_, 0, rfl, rfl, ⟨LR_0, fun _ _ => rfl⟩, hp, ⟨(by omega), z2, z3, z4⟩, (by omega), rfl⟩, fun z => no (fun y => z y.2.2.2) hp⟩, fun z => no (fun y => z y.2.2.1) hp⟩, fun z => no (fun y => z y.2.1) hp⟩⟩, fun hp => hq.1 hp⟩
/-- the reference's store while it lays -/
def LM (σ : Sto) (p : Int) (q : Q4) (w : Int) (τ : Sto) : Prop := LR σ 69 70 71 72 p q τ ∧ (∀ k : Nat, ¬ (k = 67 ∨ (69 ≤ k ∧ k ≤ 72)) → τ k = σ k) ∧ (∀ i, ¬ i = 6 → τ 67 i = σ 67 i) ∧ τ 67 6 = w
theorem LM_1 {σ τ : Sto} {p w : Int} {q : Q4} (h : LM σ p q w τ) : τ 69 p = q.1 := by rw [h.1.1, upI_s]
theorem LM_y {σ τ : Sto} {p c t w : Int} {q : Q4} (h : LM σ p q w τ) (hc : τ 69 p < 16) : LM σ p (psh p c t q) w (su (su (su (su τ 70 (p * 16 + τ 69 p) c) 71 (p * 16 + τ 69 p) t) 72 (p * 16 + τ 69 p) 0) 69 p (τ 69 p + 1)) := by
  have e := LM_1 h
  obtain ⟨⟨h1, h2, h3, h4⟩, h5, h6, h7⟩ := h
  rw [e] at hc ⊢
  unfold psh
  rw [if_pos hc]
  refine ⟨⟨?_, ?_, ?_, ?_⟩, fun k hk => ?_, fun i hi => ?_, ?_⟩
  · simp only [su_r, su_u, Nat.reduceEqDiff, not_false_eq_true]
    rw [h1, upI_u]
  · simp only [su_r, su_u, Nat.reduceEqDiff, not_false_eq_true]
    rw [h2]
  · simp only [su_r, su_u, Nat.reduceEqDiff, not_false_eq_true]
    rw [h3]
  · simp only [su_r, su_u, Nat.reduceEqDiff, not_false_eq_true]
    rw [h4]
  · rw [su_r (by omega), su_r (by omega), su_r (by omega), su_r (by omega), h5 k hk]
  · simp only [su_r, Nat.reduceEqDiff, not_false_eq_true]
    exact h6 i hi
  · simp only [su_r, Nat.reduceEqDiff, not_false_eq_true]
    exact h7
theorem LM_n {σ τ : Sto} {p c t w : Int} {q : Q4} (h : LM σ p q w τ) (hc : ¬ τ 69 p < 16) : LM σ p (psh p c t q) w τ := by
  rw [LM_1 h] at hc
  unfold psh
  rw [if_neg hc]
  exact h
theorem LM_d {σ τ : Sto} {p w w' : Int} {q : Q4} (h : LM σ p q w τ) : LM σ p q w' (su τ 67 6 w') := by
  obtain ⟨⟨h1, h2, h3, h4⟩, h5, h6, h7⟩ := h
  refine ⟨⟨?_, ?_, ?_, ?_⟩, fun k hk => ?_, fun i hi => ?_, su_y⟩
  · rw [su_r (by decide), h1]
  · rw [su_r (by decide), h2]
  · rw [su_r (by decide), h3]
  · rw [su_r (by decide), h4]
  · rw [su_r (by omega), h5 k hk]
  · rw [su_x hi, h6 i hi]
theorem su_s {σ : Sto} {q : Nat} {i v w : Int} : su (su σ q i v) q i w = su σ q i w := by
  funext k j
  unfold su
  split
  · rw [if_pos rfl]
    show (if j = i then w else if j = i then v else σ q j) = if j = i then w else σ q j
    split <;> rfl
  · rfl
theorem LM_v {σ τ : Sto} {p c t w v : Int} {q : Q4} (h : LM σ p q w τ) (hv : τ 69 p = v) (hc : v < 16) : LM σ p (psh p c t q) w (su (su (su (su τ 70 (p * 16 + v) c) 71 (p * 16 + v) t) 72 (p * 16 + v) 0) 69 p (v + 1)) := by
  subst hv
  exact LM_y h hc
theorem LM_m {σ τ : Sto} {p c t w v : Int} {q : Q4} (h : LM σ p q w τ) (hv : τ 69 p = v) (hc : ¬ v < 16) : LM σ p (psh p c t q) w τ := by
  subst hv
  exact LM_n h hc
def A_X9_lay : List (Nat × Ctr) := [(2, rcv 9 2 C_X9_isPit), (3, arg 6 C_X9_in), (2, rcv 9 2 C_X9_draw), (4, rcv 9 4 C_X9_layOne)]
theorem e_X9_lay (o : OM) : Ev o Y_X9_lay 2 T_X9_lay A_X9_lay := ⟨rfl, List.forall_mem_cons.mpr ⟨Or.inl f_X9_156, List.forall_mem_cons.mpr ⟨Or.inl f_X9_13, fun _ h => absurd h List.not_mem_nil⟩⟩, fun _ h => absurd h List.not_mem_nil, List.forall_mem_cons.mpr ⟨⟨w_1322, by decide, by decide⟩, List.forall_mem_cons.mpr ⟨⟨w_1275, by decide, by decide⟩, fun _ h => absurd h List.not_mem_nil⟩⟩, fun _ h => absurd h List.not_mem_nil, List.forall_mem_cons.mpr ⟨cl_X9_isPit (s_X9_isPit o) (by decide) (Or.inl w_1267), List.forall_mem_cons.mpr ⟨cl_X9_draw (s_X9_draw o) (by decide) (Or.inl w_1323), List.forall_mem_cons.mpr ⟨cl_X9_layOne (s_X9_layOne o) (by decide) (Or.inl w_1331), fun _ h => absurd h List.not_mem_nil⟩⟩⟩, List.forall_mem_cons.mpr ⟨cl_X9_in (s_X9_in o) (by decide) (Or.inl w_1260), fun _ h => absurd h List.not_mem_nil⟩⟩
def C_X9_lay : Ctr := fun A σ κ => match A with
  | [.inr (.inr (.inl 67)), .inl p, .inl s, .inl y, .inl a, .inl b] => ((0 ≤ σ 67 0 ∧ σ 67 0 ≤ 7) ∧ (∀ p, 0 ≤ p → p < 7 → 0 ≤ σ 69 p ∧ σ 69 p ≤ 16)) ∧ (¬ (0 ≤ p ∧ p < σ 67 0) → κ [vI (-101)] σ) ∧ (0 ≤ p ∧ p < σ 67 0 → (¬ LV s y a b → κ [vI (-102)] σ) ∧ (LV s y a b → ∀ w τ, LM σ p (layN p a b s (q9 σ p) y.toNat) w τ → κ [vI (layN p a b s (q9 σ p) y.toNat).1] τ))
  | _ => False
set_option maxRecDepth 20000 in
theorem s_X9_lay (o : OM) : Sound o Y_X9_lay 2 C_X9_lay := by
  intro Q A σ hA hC
  match A, hA, hC with
  | [.inr (.inr (.inl 67)), .inl p, .inl s, .inl y, .inl a, .inl b], hA, hC =>
    obtain ⟨h0, hq⟩ : ((0 ≤ σ 67 0 ∧ σ 67 0 ≤ 7) ∧ (∀ p, 0 ≤ p → p < 7 → 0 ≤ σ 69 p ∧ σ 69 p ≤ 16)) ∧ (¬ (0 ≤ p ∧ p < σ 67 0) → Q [vI (-101)] σ) ∧ (0 ≤ p ∧ p < σ 67 0 → (¬ LV s y a b → Q [vI (-102)] σ) ∧ (LV s y a b → ∀ w τ, LM σ p (layN p a b s (q9 σ p) y.toNat) w τ → Q [vI (layN p a b s (q9 σ p) y.toNat).1] τ)) := hC
    have hs : i32 s := (okL_cons.mp (okL_cons.mp (okL_cons.mp hA).2).2).1
    obtain ⟨P64, hP64⟩ : ∃ P : Nat → List AV → List AV → Sto → Prop, P = fun m S L τ => ∃ n : Nat, S = [] ∧ L = [vR 67, vI p, vI s, vI y, vI a, vI b, vI (n : Int)] ∧ LM σ p (layN p a b s (q9 σ p) n) (layS s n) τ ∧ (0 ≤ p ∧ p < σ 67 0) ∧ LV s y a b ∧ (n : Int) ≤ y ∧ m = (y - n).toNat := ⟨_, rfl⟩
    refine at_meth (lv := V_X9_lay) (B := B_X9_lay) (e_X9_lay o) k_X9_lay 7 [(64, P64)] (List.forall_mem_cons.mpr ⟨?_, fun _ h => absurd h List.not_mem_nil⟩) 0 [] _ σ ?_
    · intro m S L τ hI
      rw [hP64] at hI
      obtain ⟨n, rfl, rfl, hL, hp, hv, hn, hm⟩ := hI
      simp only [sq_iconst, sq_jsr, sq_anewarray, sq_iload, sq_lload, sq_aload, sq_istore, sq_lstore, sq_astore, sq_iinc, sq_getfield, st_put0, st_put1, st_put3, sq_inv, sq_goto, sq_icmp, sq_ifc, sq_tsw, sq_iadd, sq_isub, sq_imul, sq_ineg, sq_idiv, sq_irem, sq_iand, sq_ior, sq_ixor, sq_ishl, sq_ishr, sq_iushr, sq_ladd, sq_lmul, sq_ldiv, sq_lrem, sq_land, sq_lor, sq_lshl, sq_lushr, sq_lcmp, sq_i2l, sq_l2i, sq_i2c, sq_i2b, sq_dupI, sq_dupR, sq_dup2, sq_pop, sq_iaload, sq_baload, sq_aaload, sq_iastore, sq_bastore, sq_alen, sq_ireturn, sq_lreturn, sq_return, wq_c, wq_n, wlq_s, lkp, tbl, dBk, nth, setL, canSet, cmpI, tk, swK, rdF, entL, catS, cat1, arg, rcv, ald, bld, aln, br, Ccopy, Cmax, Cmin, Cabs, List.take, List.drop, List.reverse, List.reverseAux, List.length, List.append, List.nil_append, List.cons_append, true_and, and_true, and_self, forall_const, true_implies, false_implies, not_true_eq_false, not_false_eq_true, Option.map, reduceCtorEq, reduceIte, or_true, true_or, false_or, or_false, false_and, and_false, List.map, List.append_nil, implies_true, yK, Nat.reduceBEq, beq_self_eq_true, Int.zero_ne_one, Nat.reduceDiv, Nat.reduceMod, Nat.reduceAdd, Nat.reduceSub, Nat.reduceMul, Nat.reduceEqDiff, Nat.reduceLeDiff, Int.reduceToNat, Int.reduceNeg, Int.reduceEq, Int.reduceLT, Int.reduceLE, Int.reduceNatCast, Int.reduceNatCast', Int.reduceAdd, Int.reduceSub, Int.reduceMul, eq_self, Prod.mk.injEq, A_X9_lay, V_X9_lay, B_X9_lay, Y_X9_lay, C_X9_isPit, C_X9_in, C_X9_draw, C_X9_layOne, shpT, rfsT, wjq_s, look, br, su_y, su_s]
      have k1 := layN_1 (p := p) (a := a) (b := b) (s := s) (q := q9 σ p) (h0.2 p hp.1 (by omega)) n
      have k2 := layS_in (s := s) ⟨hv.1, hs.2⟩ n
      have hend : y ≤ (n : Int) → Q [vI (τ 69 p)] τ := fun h => by
        have e : y.toNat = n := by omega
        have := (hq.2 hp).2 hv _ τ (by rw [e]; exact hL)
        rw [e] at this
        rw [LM_1 hL]
        exact this
      have t6 : τ 67 6 = layS s n := hL.2.2.2
      rw [t6]
      have nx : ∀ (q : Q4) (τ' : Sto), ¬ y ≤ (n : Int) → LM σ p q (sdn (sdn (sdn (layS s n)))) τ' → q = layW p a b (layS s n) (layN p a b s (q9 σ p) n) → i32 ((n : Int) + 1) ∧ ∃ m_1, m_1 < m ∧ P64 m_1 [] [vR 67, vI p, vI s, vI y, vI a, vI b, vI ((n : Int) + 1)] τ' := by
        intro q τ' h hc e
        have hy := hv.2.1
        subst e
        rw [hP64]
        exact ⟨⟨by omega, by omega⟩, _, by omega, n + 1, rfl, rfl, hc, hp, hv, (by omega), rfl⟩
      have d1 := drw_in (w := sdn (layS s n)) (n := 40) (sdn_in _).1 (by decide)
      have d2 := drw_in (w := sdn (sdn (layS s n))) (n := 6) (sdn_in _).1 (by decide)
      have hL3 : LM σ p (layN p a b s (q9 σ p) n) (sdn (sdn (sdn (layS s n)))) (su τ 67 6 (sdn (sdn (sdn (layS s n))))) := LM_d hL
      have eW : layW p a b (layS s n) (layN p a b s (q9 σ p) n) = layW p a b (layS s n) (layN p a b s (q9 σ p) n) := rfl
      conv at eW => rhs; unfold layW
      rw [eW] at nx
      clear eW t6
      generalize hw : drw (sdn (layS s n)) 40 = w at *
      generalize he : drw (sdn (sdn (layS s n))) 6 = e at *
      generalize hx : drw (sdn (sdn (sdn (layS s n)))) 100 = x at *
      generalize sdn (sdn (sdn (layS s n))) = s3 at *
      generalize layN p a b s (q9 σ p) n = q at *
      generalize su τ 67 6 s3 = τ3 at *
      obtain ⟨v1, v2, v3, v4⟩ := id hv
      have t69 := LM_1 hL3
      have pre : ∀ {q τ}, LM σ p q s3 τ → (0 ≤ q.1 ∧ q.1 ≤ 16) → 0 ≤ p ∧ p < 7 ∧ 0 ≤ τ 69 p := fun hl hz => ⟨hp.1, (by omega), by rw [LM_1 hl]; exact hz.1⟩
      have k3 := psh_1 (p := p) (c := 3) (t := 3 + w) k1
      refine ⟨fun h => ⟨⟨by omega, by omega⟩, hend h⟩, fun h => ⟨fun c1 => ⟨fun c2 => nx _ _ h hL3 (by rw [if_neg (by omega), if_neg (by omega)]), fun c2 => absurd c1 c2⟩, fun c1 => ⟨⟨by omega, by omega⟩, fun c2 => ⟨fun c3 => absurd c3 c1, fun c3 => ⟨fun c4 => ⟨⟨by omega, by omega⟩, ⟨by omega, by omega⟩, pre hL3 k1, fun c5 => nx _ _ h (LM_y hL3 c5) (by rw [if_pos c2, if_pos c4]), fun c5 => nx _ _ h (LM_n hL3 c5) (by rw [if_pos c2, if_pos c4])⟩, fun c4 => ⟨⟨by omega, by omega⟩, ⟨by omega, by omega⟩, pre hL3 k1, fun c5 => nx _ _ h (LM_y hL3 c5) (by rw [if_pos c2, if_neg c4]), fun c5 => nx _ _ h (LM_n hL3 c5) (by rw [if_pos c2, if_neg c4])⟩⟩⟩, fun c2 => ⟨⟨by omega, by omega⟩, pre hL3 k1, fun c5 => ⟨⟨by omega, by omega⟩, ⟨hp.1, (by omega), (by omega)⟩, fun c6 => nx _ _ h (LM_v (LM_y hL3 c5) su_y c6) (by rw [if_neg c2, if_pos (by omega)]), fun c6 => nx _ _ h (LM_m (LM_y hL3 c5) su_y c6) (by rw [if_neg c2, if_pos (by omega)])⟩, fun c5 => ⟨⟨by omega, by omega⟩, pre (LM_n (c := 3) (t := 3 + w) hL3 c5) k3, fun c6 => nx _ _ h (LM_y (LM_n hL3 c5) c6) (by rw [if_neg c2, if_pos (by omega)]), fun c6 => nx _ _ h (LM_n (LM_n hL3 c5) c6) (by rw [if_neg c2, if_pos (by omega)])⟩⟩⟩⟩⟩
    · simp only [sq_iconst, sq_jsr, sq_anewarray, sq_iload, sq_lload, sq_aload, sq_istore, sq_lstore, sq_astore, sq_iinc, sq_getfield, st_put0, st_put1, st_put3, sq_inv, sq_goto, sq_icmp, sq_ifc, sq_tsw, sq_iadd, sq_isub, sq_imul, sq_ineg, sq_idiv, sq_irem, sq_iand, sq_ior, sq_ixor, sq_ishl, sq_ishr, sq_iushr, sq_ladd, sq_lmul, sq_ldiv, sq_lrem, sq_land, sq_lor, sq_lshl, sq_lushr, sq_lcmp, sq_i2l, sq_l2i, sq_i2c, sq_i2b, sq_dupI, sq_dupR, sq_dup2, sq_pop, sq_iaload, sq_baload, sq_aaload, sq_iastore, sq_bastore, sq_alen, sq_ireturn, sq_lreturn, sq_return, wq_c, wq_n, wlq_s, lkp, tbl, dBk, nth, setL, canSet, cmpI, tk, swK, rdF, entL, catS, cat1, arg, rcv, ald, bld, aln, br, Ccopy, Cmax, Cmin, Cabs, List.take, List.drop, List.reverse, List.reverseAux, List.length, List.append, List.nil_append, List.cons_append, true_and, and_true, and_self, forall_const, true_implies, false_implies, not_true_eq_false, not_false_eq_true, Option.map, reduceCtorEq, reduceIte, or_true, true_or, false_or, or_false, false_and, and_false, List.map, List.append_nil, implies_true, yK, Nat.reduceBEq, beq_self_eq_true, Int.zero_ne_one, Nat.reduceDiv, Nat.reduceMod, Nat.reduceAdd, Nat.reduceSub, Nat.reduceMul, Nat.reduceEqDiff, Nat.reduceLeDiff, Int.reduceToNat, Int.reduceNeg, Int.reduceEq, Int.reduceLT, Int.reduceLE, Int.reduceNatCast, Int.reduceNatCast', Int.reduceAdd, Int.reduceSub, Int.reduceMul, eq_self, Prod.mk.injEq, A_X9_lay, V_X9_lay, B_X9_lay, Y_X9_lay, C_X9_isPit, C_X9_in, C_X9_draw, C_X9_layOne, shpT, rfsT, wjq_s, look, br]
      rw [hP64]
      have no : ¬ (0 ≤ s ∧ (1 ≤ y ∧ y ≤ 20) ∧ (0 ≤ a ∧ a ≤ 99) ∧ (0 ≤ b ∧ b ≤ 99)) → (0 ≤ p ∧ p < σ 67 0) → Q [vI (-102)] σ := fun z hp => (hq.2 hp).1 z
      exact ⟨h0.1, fun hp => ⟨fun z => no (fun y => by omega) hp, fun z1 => ⟨fun z2 => ⟨fun z3 => ⟨fun z4 => ⟨_, 0, rfl, rfl, LM_d ⟨LR_0, fun _ _ => rfl, fun _ _ => rfl, rfl⟩, hp, ⟨(by omega), z2, z3, z4⟩, (by omega), rfl⟩, fun z => no (fun y => z y.2.2.2) hp⟩, fun z => no (fun y => z y.2.2.1) hp⟩, fun z => no (fun y => z y.2.1) hp⟩⟩, fun hp => hq.1 hp⟩
theorem Pic_lay {n J kb tb lk p : Int} {mi sz kd th nm fa fb lo hi db tl tu kp td : Int → Int} {q : Q4} (h : Pic n J kb tb lk mi sz kd th nm fa fb lo hi db tl tu kp td) (hq : Q4I q) : Pic n J kb tb lk mi (upI sz p q.1) q.2.1 q.2.2.1 q.2.2.2 fa fb lo hi db tl tu kp td := by
  obtain ⟨c1, c2, c3, c4, c5⟩ := h
  exact ⟨c1, upI_P (P := fun x => 0 ≤ x ∧ x ≤ 16) c2 hq.1, hq.2.1, hq.2.2, c5⟩
theorem op_lay {σ : Sto} (hR : Rel σ) {p s y a b : Int} {κ : List AV → Sto → Prop} (hκ : ∀ v τ, Mid C_X9_lay [vR 67, vI p, vI s, vI y, vI a, vI b] (σ 102) v τ → κ [vI v] τ) : C_X8_lay [vR 0, vI p, vI s, vI y, vI a, vI b] σ κ := by
  obtain ⟨⟨c1, c2, c3, c4, c5, c6, c7, c8, c9, c10, c11, c12, c13, c14, c15, c16⟩, ⟨e1, e2, e3, e4, e5, e6, e7, e8, e9, e10, e11, e12, e13, e14, e15⟩, ⟨g1, g2, g3, g4⟩, ⟨h1, h2, h3, h4, h5, h6⟩, ⟨l1, l2, l3, l4⟩, hImg, ⟨n1, n2, n3, n4⟩⟩ := id hR
  refine ⟨⟨c1, c2⟩, fun h => hκ _ _ (fun κ' hκ' => ⟨⟨by rw [e1]; exact c1, by rw [e5]; exact c2⟩, fun _ => hκ' _ hR rfl, fun z => absurd (by rw [← e1]; exact z) h⟩), fun hp => ⟨fun h => hκ _ _ (fun κ' hκ' => ⟨⟨by rw [e1]; exact c1, by rw [e5]; exact c2⟩, fun z => absurd (by rw [e1]; exact hp) z, fun _ => ⟨fun _ => hκ' _ hR rfl, fun z => absurd z h⟩⟩), fun hv T hT => hκ _ _ (fun κ' hκ' => ?_)⟩⟩
  obtain ⟨⟨f1, f2, f3, f4⟩, f5⟩ := hT
  have t67 : T 67 = σ 67 := f5 67 (by decide)
  have t69 : T 69 = σ 12 := by rw [f5 69 (by decide), e5]
  have t70 : T 70 = σ 13 := by rw [f5 70 (by decide), e6]
  have t71 : T 71 = σ 14 := by rw [f5 71 (by decide), e7]
  have t72 : T 72 = σ 15 := by rw [f5 72 (by decide), e8]
  have eq9 : q9 T p = q8 σ p := by
    show (T 69 p, T 70, T 71, T 72) = (σ 12 p, σ 13, σ 14, σ 15)
    rw [t69, t70, t71, t72]
  have hI : Q4I (layN p a b s (q8 σ p) y.toNat) := layN_I ⟨c2 p hp.1 (by omega), c3, c4⟩ _
  refine ⟨⟨by rw [t67, e1]; exact c1, by rw [t69]; exact c2⟩, fun z => absurd (by rw [t67, e1]; exact hp) z, fun _ => ⟨fun z => absurd hv z, fun _ w τ hM => ?_⟩⟩
  rw [eq9] at hM ⊢
  obtain ⟨⟨m1, m2, m3, m4⟩, m5, m6, m7⟩ := hM
  have w12 : τ 12 = upI (σ 12) p (layN p a b s (q8 σ p) y.toNat).1 := by rw [m5 12 (by decide), f1]
  have w13 : τ 13 = (layN p a b s (q8 σ p) y.toNat).2.1 := by rw [m5 13 (by decide), f2]
  have w14 : τ 14 = (layN p a b s (q8 σ p) y.toNat).2.2.1 := by rw [m5 14 (by decide), f3]
  have w15 : τ 15 = (layN p a b s (q8 σ p) y.toNat).2.2.2 := by rw [m5 15 (by decide), f4]
  have ot : ∀ k : Nat, ¬ (k = 67 ∨ (69 ≤ k ∧ k ≤ 72)) → ¬ (12 ≤ k ∧ k ≤ 15) → τ k = σ k := fun k h1 h2 => by rw [m5 k h1, f5 k h2]
  have o67 : ∀ i, ¬ i = 6 → τ 67 i = σ 67 i := fun i hi => by rw [m6 i hi, t67]
  have sm : sameS τ (su τ 67 6 (σ 67 6)) := by
    refine ⟨fun k hk => (su_r (by rintro rfl; exact absurd hk (by decide))).symm, fun i hi => (su_x (by rintro rfl; exact absurd hi (by decide))).symm, ?_, ?_, ?_, ?_⟩ <;> rw [su_r (by decide)]
  have s67 : ∀ i, su τ 67 6 (σ 67 6) 67 i = σ 67 i := fun i => by
    by_cases hi : i = 6
    · rw [hi, su_y]
    · rw [su_x hi, o67 i hi]
  refine hκ' τ (Rel_e sm (Rel_cur hR (fun k hk => by rw [su_r (by omega)]; exact ot k (by omega) (by omega)) (fun i _ => s67 i) ?_ ?_)) (ot 102 (by decide) (by decide))
  · unfold RCur
    simp only [su_r, Nat.reduceEqDiff, not_false_eq_true]
    rw [w12, w13, w14, w15, ot 1 (by decide) (by decide), ot 2 (by decide) (by decide), ot 11 (by decide) (by decide), ot 16 (by decide) (by decide), ot 17 (by decide) (by decide), ot 18 (by decide) (by decide), ot 19 (by decide) (by decide), ot 20 (by decide) (by decide), ot 21 (by decide) (by decide), ot 22 (by decide) (by decide), ot 87 (by decide) (by decide), ot 88 (by decide) (by decide)]
    exact Pic_lay hR.1 hI
  · unfold REq
    rw [s67 0, s67 32, s67 42]
    simp only [su_r, Nat.reduceEqDiff, not_false_eq_true]
    rw [m1, m2, m3, m4, t69, w12, w13, w14, w15, ot 1 (by decide) (by decide), ot 2 (by decide) (by decide), ot 11 (by decide) (by decide), ot 16 (by decide) (by decide), ot 17 (by decide) (by decide), ot 18 (by decide) (by decide), ot 19 (by decide) (by decide), ot 20 (by decide) (by decide), ot 21 (by decide) (by decide), ot 22 (by decide) (by decide), ot 68 (by decide) (by decide), ot 82 (by decide) (by decide), ot 83 (by decide) (by decide), ot 84 (by decide) (by decide), ot 85 (by decide) (by decide), ot 86 (by decide) (by decide), ot 89 (by decide) (by decide), ot 90 (by decide) (by decide)]
    exact ⟨e1, e2, e3, e4, rfl, rfl, rfl, rfl, e9, e10, e11, e12, e13, e14, e15⟩

