-- ===== how much a flood took =====
set_option maxRecDepth 20000
def tA (kd nm sz : Int → Int) (p i q : Int) : Int := fb (shP kd nm sz p q) (i - 1) i.toNat
def tB (kd nm sz : Int → Int) (p i q : Int) : Int := ff (shP kd nm sz p q) (i + 1) (sz p - (i + 1)).toNat
def tC (kd nm sz : Int → Int) (p q a : Int) : Int := ff (ashP kd nm q (nm (p * 16 + a))) 0 (sz q).toNat
def tkb (H : Int → Int → Int) (kd nm sz : Int → Int) (p i q : Int) : Int := if tA kd nm sz p i q = -1 ∨ tB kd nm sz p i q = -1 then -1 else if tC kd nm sz p q (tB kd nm sz p i q) ≤ tC kd nm sz p q (tA kd nm sz p i q) ∨ ¬ ff (flP kd q) (tC kd nm sz p q (tA kd nm sz p i q) + 1) (tC kd nm sz p q (tB kd nm sz p i q) - (tC kd nm sz p q (tA kd nm sz p i q) + 1)).toNat = -1 then -1 else max 0 (H q (tC kd nm sz p q (tB kd nm sz p i q)) - H q (tC kd nm sz p q (tA kd nm sz p i q)) - (H p (tB kd nm sz p i q) - H p (tA kd nm sz p i q) - nm (p * 16 + i)))
theorem tA_e {kd nm sz : Int → Int} {p i q : Int} : fb (shP kd nm sz p q) (i - 1) i.toNat = tA kd nm sz p i q := rfl
theorem tB_e {kd nm sz : Int → Int} {p i q : Int} : ff (shP kd nm sz p q) (i + 1) (sz p - (i + 1)).toNat = tB kd nm sz p i q := rfl
theorem tC_e {kd nm sz : Int → Int} {p q a : Int} : ff (ashP kd nm q (nm (p * 16 + a))) 0 (sz q).toNat = tC kd nm sz p q a := rfl
theorem tA_in {kd nm sz : Int → Int} {p i q : Int} (hi : 0 ≤ i) (h : ¬ tA kd nm sz p i q = -1) : 0 ≤ tA kd nm sz p i q ∧ tA kd nm sz p i q < i ∧ ¬ tC kd nm sz p q (tA kd nm sz p i q) = -1 := by
  unfold tA at *
  rcases fb_in i.toNat (i - 1) (P := shP kd nm sz p q) with z | ⟨z1, z2, z3⟩
  · exact absurd z h
  · unfold shP at z3
    rw [decide_eq_true_eq] at z3
    exact ⟨by omega, by omega, z3.2⟩
theorem tB_in {kd nm sz : Int → Int} {p i q : Int} (h : ¬ tB kd nm sz p i q = -1) : i < tB kd nm sz p i q ∧ tB kd nm sz p i q < sz p ∧ ¬ tC kd nm sz p q (tB kd nm sz p i q) = -1 := by
  unfold tB at *
  rcases ff_in (sz p - (i + 1)).toNat (i + 1) (P := shP kd nm sz p q) with z | ⟨z1, z2, z3⟩
  · exact absurd z h
  · unfold shP at z3
    rw [decide_eq_true_eq] at z3
    exact ⟨by omega, by omega, z3.2⟩
theorem tC_in {kd nm sz : Int → Int} {p q a : Int} (hs : 0 ≤ sz q) (h : ¬ tC kd nm sz p q a = -1) : 0 ≤ tC kd nm sz p q a ∧ tC kd nm sz p q a < sz q := by
  unfold tC at *
  rcases ff_in (sz q).toNat 0 (P := ashP kd nm q (nm (p * 16 + a))) with z | ⟨z1, z2, z3⟩
  · exact absurd z h
  · exact ⟨by omega, by omega⟩
def yC (σ : Sto) (p n : Int) : Int := (hsum (fun c => σ 37 (0 + c)) (σ 13) (σ 15) p n).tdiv 2
theorem yC_in {σ : Sto} (h1 : PI (σ 13) (σ 15)) (h2 : TI (σ 37) 35) {p n : Int} (hp : 0 ≤ p ∧ p < 7) (hn : 0 ≤ n ∧ n ≤ 16) : 0 ≤ yC σ p n ∧ yC σ p n ≤ 144 := by
  have := hsum_le (r := fun c => σ 37 (0 + c)) h1 (fun j a b => h2 (0 + j) (by omega) (by omega)) hp hn
  unfold yC
  rw [tdiv2 this.1]
  omega
def A_X8_tookBy : List (Nat × Ctr) := [(4, rcv 6 5 C_X6_sharedAshAhead), (4, rcv 6 5 C_X6_sharedAshBehind), (3, rcv 6 3 C_X6_nOf), (3, rcv 6 4 C_X6_firstAsh), (4, rcv 6 5 C_X6_hasFloodBetween), (4, rcv 1 4 C_X1_yearsAhead), (2, Cmax)]
theorem e_X8_tookBy (o : OM) : Ev o Y_X8_tookBy 5 T_X8_tookBy A_X8_tookBy := ⟨rfl, List.forall_mem_cons.mpr ⟨Or.inl f_X8_10, List.forall_mem_cons.mpr ⟨Or.inl f_X8_45, fun _ h => absurd h List.not_mem_nil⟩⟩, fun _ h => absurd h List.not_mem_nil, fun _ h => absurd h List.not_mem_nil, fun _ h => absurd h List.not_mem_nil, List.forall_mem_cons.mpr ⟨cl_X6_sharedAshAhead (s_X6_sharedAshAhead o) (by decide) (Or.inr ⟨_, wn_101⟩), List.forall_mem_cons.mpr ⟨cl_X6_sharedAshBehind (s_X6_sharedAshBehind o) (by decide) (Or.inr ⟨_, wn_102⟩), List.forall_mem_cons.mpr ⟨cl_X6_nOf (s_X6_nOf o) (by decide) (Or.inr ⟨_, wn_50⟩), List.forall_mem_cons.mpr ⟨cl_X6_firstAsh (s_X6_firstAsh o) (by decide) (Or.inr ⟨_, wn_103⟩), List.forall_mem_cons.mpr ⟨cl_X6_hasFloodBetween (s_X6_hasFloodBetween o) (by decide) (Or.inr ⟨_, wn_104⟩), List.forall_mem_cons.mpr ⟨cl_X1_yearsAhead (s_X1_yearsAhead o) (by decide) (Or.inr ⟨_, wn_59⟩), fun _ h => absurd h List.not_mem_nil⟩⟩⟩⟩⟩⟩, List.forall_mem_cons.mpr ⟨max_ok w_992 w_519 w_15 w_520, fun _ h => absurd h List.not_mem_nil⟩⟩
def C_X8_tookBy : Ctr := fun A σ κ => match A with
  | [.inr (.inr (.inl 0)), .inl p, .inl i, .inl q] => ((0 ≤ p ∧ p < 7) ∧ (0 ≤ q ∧ q < 7) ∧ (0 ≤ i ∧ i < σ 12 p) ∧ (∀ p, 0 ≤ p → p < 7 → 0 ≤ σ 12 p ∧ σ 12 p ≤ 16) ∧ PI (σ 13) (σ 15) ∧ TI (σ 37) 35) ∧ κ [vI (tkb (yC σ) (σ 13) (σ 15) (σ 12) p i q)] σ
  | _ => False
set_option maxRecDepth 20000 in
theorem s_X8_tookBy (o : OM) : Sound o Y_X8_tookBy 5 C_X8_tookBy := by
  intro Q A σ hA hC
  match A, hA, hC with
  | [.inr (.inr (.inl 0)), .inl p, .inl i, .inl q], hA, hC =>
    obtain ⟨h0, hq⟩ : ((0 ≤ p ∧ p < 7) ∧ (0 ≤ q ∧ q < 7) ∧ (0 ≤ i ∧ i < σ 12 p) ∧ (∀ p, 0 ≤ p → p < 7 → 0 ≤ σ 12 p ∧ σ 12 p ≤ 16) ∧ PI (σ 13) (σ 15) ∧ TI (σ 37) 35) ∧ Q [vI (tkb (yC σ) (σ 13) (σ 15) (σ 12) p i q)] σ := hC
    have hQ : ∀ r_ τ, r_ = (tkb (yC σ) (σ 13) (σ 15) (σ 12) p i q) → τ = (σ) → Q [vI r_] τ := fun r_ τ e e2 => e ▸ e2 ▸ hq
    refine at_wpl (lv := V_X8_tookBy) (B := B_X8_tookBy) (e_X8_tookBy o) k_X8_tookBy 3 0 [] _ σ ?_
    simp only [sq_iconst, sq_jsr, sq_anewarray, sq_iload, sq_lload, sq_aload, sq_istore, sq_lstore, sq_astore, sq_iinc, sq_getfield, st_put0, st_put1, st_put3, sq_inv, sq_goto, sq_icmp, sq_ifc, sq_tsw, sq_iadd, sq_isub, sq_imul, sq_ineg, sq_idiv, sq_irem, sq_iand, sq_ior, sq_ixor, sq_ishl, sq_ishr, sq_iushr, sq_ladd, sq_lmul, sq_ldiv, sq_lrem, sq_land, sq_lor, sq_lshl, sq_lushr, sq_lcmp, sq_i2l, sq_l2i, sq_i2c, sq_i2b, sq_dupI, sq_dupR, sq_dup2, sq_pop, sq_iaload, sq_baload, sq_aaload, sq_iastore, sq_bastore, sq_alen, sq_ireturn, sq_lreturn, sq_return, wq_c, wq_n, wlq_s, lkp, tbl, dBk, nth, setL, canSet, cmpI, tk, swK, rdF, entL, catS, cat1, arg, rcv, ald, bld, aln, br, Ccopy, Cmax, Cmin, Cabs, List.take, List.drop, List.reverse, List.reverseAux, List.length, List.append, List.nil_append, List.cons_append, true_and, and_true, and_self, forall_const, true_implies, false_implies, not_true_eq_false, not_false_eq_true, Option.map, reduceCtorEq, reduceIte, or_true, true_or, false_or, or_false, false_and, and_false, List.map, List.append_nil, implies_true, yK, Nat.reduceBEq, beq_self_eq_true, Int.zero_ne_one, Nat.reduceDiv, Nat.reduceMod, Nat.reduceAdd, Nat.reduceSub, Nat.reduceMul, Nat.reduceEqDiff, Nat.reduceLeDiff, Int.reduceToNat, Int.reduceNeg, Int.reduceEq, Int.reduceLT, Int.reduceLE, Int.reduceNatCast, Int.reduceNatCast', Int.reduceAdd, Int.reduceSub, Int.reduceMul, eq_self, Prod.mk.injEq, A_X8_tookBy, V_X8_tookBy, B_X8_tookBy, Y_X8_tookBy, C_X6_sharedAshAhead, C_X6_sharedAshBehind, C_X6_nOf, C_X6_firstAsh, C_X6_hasFloodBetween, C_X1_yearsAhead, shpT, rfsT]
    obtain ⟨hp, hq1, hi, hs, hPI, hTI⟩ := h0
    have sp := hs p hp.1 hp.2
    have sq := hs q hq1.1 hq1.2
    simp only [tA_e, tB_e, tC_e]
    have hv : ∀ v, v = tkb (yC σ) (σ 13) (σ 15) (σ 12) p i q → Q [vI v] σ := fun v h => hQ _ _ h rfl
    unfold tkb at hv
    have xa := tA_in (kd := σ 13) (nm := σ 15) (sz := σ 12) (p := p) (q := q) hi.1
    have xb := tB_in (kd := σ 13) (nm := σ 15) (sz := σ 12) (p := p) (i := i) (q := q)
    have xc := tC_in (kd := σ 13) (nm := σ 15) (sz := σ 12) (p := p) (q := q) (a := tA (σ 13) (σ 15) (σ 12) p i q) sq.1
    have xd := tC_in (kd := σ 13) (nm := σ 15) (sz := σ 12) (p := p) (q := q) (a := tB (σ 13) (σ 15) (σ 12) p i q) sq.1
    clear hQ hC hA hq
    generalize tA (σ 13) (σ 15) (σ 12) p i q = A at *
    generalize tB (σ 13) (σ 15) (σ 12) p i q = B at *
    generalize tC (σ 13) (σ 15) (σ 12) p q A = C at *
    generalize tC (σ 13) (σ 15) (σ 12) p q B = D at *
    generalize ff (flP (σ 13) q) (C + 1) (D - (C + 1)).toNat = F at *
    refine ⟨⟨hp, ⟨by omega, by omega⟩, hq1, sq⟩, ⟨hp, ⟨by omega, by omega⟩, hq1, sq, hi.2, sp.2⟩, fun h => hv _ (by rw [if_pos (Or.inl h)]), fun ha => ⟨fun hb => ?_, fun h => hv _ (by rw [if_pos (Or.inr (Classical.not_not.mp h))])⟩⟩
    have za := xa ha
    have zb := xb hb
    have zc := xc za.2.2
    have zd := xd zb.2.2
    rw [if_neg (fun z => z.elim ha hb)] at hv
    refine ⟨⟨hp.1, hp.2, ⟨by omega, by omega⟩⟩, ⟨hq1, sq⟩, ⟨hp.1, hp.2, ⟨by omega, by omega⟩⟩, ⟨hq1, sq⟩, fun h => absurd h za.2.2, fun _ => ⟨fun h => hv _ (by rw [if_pos (Or.inl h)]), fun h => ⟨⟨hq1, ⟨by omega, by omega⟩, ⟨by omega, by omega⟩⟩, fun hf => hv _ (by rw [if_pos (Or.inr hf)]), fun hf => ?_⟩⟩⟩
    rw [if_neg (fun z => z.elim h hf)] at hv
    have e : ∀ p n, (hsum (fun c => σ 37 (0 + c)) (σ 13) (σ 15) p n).tdiv 2 = yC σ p n := fun _ _ => rfl
    simp only [e]
    have y1 := yC_in hPI hTI (p := q) (n := D) hq1 ⟨by omega, by omega⟩
    have y2 := yC_in hPI hTI (p := q) (n := C) hq1 ⟨by omega, by omega⟩
    have y3 := yC_in hPI hTI (p := p) (n := B) hp ⟨by omega, by omega⟩
    have y4 := yC_in hPI hTI (p := p) (n := A) hp ⟨by omega, by omega⟩
    have y5 := hPI (p * 16 + i) (by omega) (by omega)
    exact ⟨⟨hq1, ⟨by omega, by omega⟩, hPI, hTI⟩, ⟨hq1, ⟨by omega, by omega⟩, hPI, hTI⟩, ⟨by omega, by omega⟩, ⟨hp, ⟨by omega, by omega⟩, hPI, hTI⟩, ⟨hp, ⟨by omega, by omega⟩, hPI, hTI⟩, ⟨by omega, by omega⟩, ⟨hp.1, hp.2, hi.1, (by omega)⟩, ⟨by omega, by omega⟩, ⟨by omega, by omega⟩, hv _ rfl⟩
def A_X9_ashBeside : List (Nat × Ctr) := [(3, rcv 9 4 C_X9_ashAt)]
theorem e_X9_ashBeside (o : OM) : Ev o Y_X9_ashBeside 1 T_X9_ashBeside A_X9_ashBeside := ⟨rfl, List.forall_mem_cons.mpr ⟨Or.inl f_X9_13, List.forall_mem_cons.mpr ⟨Or.inl f_X9_16, List.forall_mem_cons.mpr ⟨Or.inl f_X9_22, fun _ h => absurd h List.not_mem_nil⟩⟩⟩, fun _ h => absurd h List.not_mem_nil, fun _ h => absurd h List.not_mem_nil, fun _ h => absurd h List.not_mem_nil, List.forall_mem_cons.mpr ⟨cl_X9_ashAt (s_X9_ashAt o) (by decide) (Or.inl w_1534), fun _ h => absurd h List.not_mem_nil⟩, fun _ h => absurd h List.not_mem_nil⟩
def C_X9_ashBeside : Ctr := fun A σ κ => match A with
  | [.inr (.inr (.inl 67)), .inl p, .inl i, .inl d, .inl q] => ((0 ≤ p ∧ p < 7) ∧ (0 ≤ q ∧ q < 7) ∧ (0 ≤ i ∧ i < σ 69 p) ∧ (∀ p, 0 ≤ p → p < 7 → 0 ≤ σ 69 p ∧ σ 69 p ≤ 16) ∧ (d = -1 ∨ d = 1)) ∧ κ [vI (if d = 1 then tB (σ 70) (σ 72) (σ 69) p i q else tA (σ 70) (σ 72) (σ 69) p i q)] σ
  | _ => False
set_option maxRecDepth 20000 in
theorem s_X9_ashBeside (o : OM) : Sound o Y_X9_ashBeside 1 C_X9_ashBeside := by
  intro Q A σ hA hC
  match A, hA, hC with
  | [.inr (.inr (.inl 67)), .inl p, .inl i, .inl d, .inl q], hA, hC =>
    obtain ⟨h0, hq⟩ : ((0 ≤ p ∧ p < 7) ∧ (0 ≤ q ∧ q < 7) ∧ (0 ≤ i ∧ i < σ 69 p) ∧ (∀ p, 0 ≤ p → p < 7 → 0 ≤ σ 69 p ∧ σ 69 p ≤ 16) ∧ (d = -1 ∨ d = 1)) ∧ Q [vI (if d = 1 then tB (σ 70) (σ 72) (σ 69) p i q else tA (σ 70) (σ 72) (σ 69) p i q)] σ := hC
    have hQ : ∀ r_ τ, r_ = (if d = 1 then tB (σ 70) (σ 72) (σ 69) p i q else tA (σ 70) (σ 72) (σ 69) p i q) → τ = (σ) → Q [vI r_] τ := fun r_ τ e e2 => e ▸ e2 ▸ hq
    obtain ⟨hp, hq1, hi, hs, hd⟩ := h0
    have sp := hs p hp.1 hp.2
    have sq := hs q hq1.1 hq1.2
    obtain ⟨P5, hP5⟩ : ∃ P : Nat → List AV → List AV → Sto → Prop, P = fun m S L τ => ∃ j : Int, S = [] ∧ L = [vR 67, vI p, vI i, vI d, vI q, vI j] ∧ τ = σ ∧ ((d = 1 ∧ 0 ≤ j ∧ j ≤ σ 69 p ∧ m = (σ 69 p - j).toNat ∧ tB (σ 70) (σ 72) (σ 69) p i q = ff (shP (σ 70) (σ 72) (σ 69) p q) j (σ 69 p - j).toNat) ∨ (d = -1 ∧ -1 ≤ j ∧ j < σ 69 p ∧ m = (j + 1).toNat ∧ tA (σ 70) (σ 72) (σ 69) p i q = fb (shP (σ 70) (σ 72) (σ 69) p q) j (j + 1).toNat)) := ⟨_, rfl⟩
    refine at_meth (lv := V_X9_ashBeside) (B := B_X9_ashBeside) (e_X9_ashBeside o) k_X9_ashBeside 4 [(5, P5)] (List.forall_mem_cons.mpr ⟨?_, fun _ h => absurd h List.not_mem_nil⟩) 0 [] _ σ ?_
    · intro m S L τ hI
      rw [hP5] at hI
      obtain ⟨j, rfl, rfl, rfl, hj⟩ := hI
      simp only [sq_iconst, sq_jsr, sq_anewarray, sq_iload, sq_lload, sq_aload, sq_istore, sq_lstore, sq_astore, sq_iinc, sq_getfield, st_put0, st_put1, st_put3, sq_inv, sq_goto, sq_icmp, sq_ifc, sq_tsw, sq_iadd, sq_isub, sq_imul, sq_ineg, sq_idiv, sq_irem, sq_iand, sq_ior, sq_ixor, sq_ishl, sq_ishr, sq_iushr, sq_ladd, sq_lmul, sq_ldiv, sq_lrem, sq_land, sq_lor, sq_lshl, sq_lushr, sq_lcmp, sq_i2l, sq_l2i, sq_i2c, sq_i2b, sq_dupI, sq_dupR, sq_dup2, sq_pop, sq_iaload, sq_baload, sq_aaload, sq_iastore, sq_bastore, sq_alen, sq_ireturn, sq_lreturn, sq_return, wq_c, wq_n, wlq_s, lkp, tbl, dBk, nth, setL, canSet, cmpI, tk, swK, rdF, entL, catS, cat1, arg, rcv, ald, bld, aln, br, Ccopy, Cmax, Cmin, Cabs, List.take, List.drop, List.reverse, List.reverseAux, List.length, List.append, List.nil_append, List.cons_append, true_and, and_true, and_self, forall_const, true_implies, false_implies, not_true_eq_false, not_false_eq_true, Option.map, reduceCtorEq, reduceIte, or_true, true_or, false_or, or_false, false_and, and_false, List.map, List.append_nil, implies_true, yK, Nat.reduceBEq, beq_self_eq_true, Int.zero_ne_one, Nat.reduceDiv, Nat.reduceMod, Nat.reduceAdd, Nat.reduceSub, Nat.reduceMul, Nat.reduceEqDiff, Nat.reduceLeDiff, Int.reduceToNat, Int.reduceNeg, Int.reduceEq, Int.reduceLT, Int.reduceLE, Int.reduceNatCast, Int.reduceNatCast', Int.reduceAdd, Int.reduceSub, Int.reduceMul, eq_self, Prod.mk.injEq, A_X9_ashBeside, V_X9_ashBeside, B_X9_ashBeside, Y_X9_ashBeside, C_X9_ashAt, shpT, rfsT, wjq_s, look, m16]
      have nx : 0 ≤ j → j < τ 69 p → shP (τ 70) (τ 72) (τ 69) p q j = false → i32 (j + d) ∧ ∃ m_1, m_1 < m ∧ P5 m_1 [] [vR 67, vI p, vI i, vI d, vI q, vI (j + d)] τ := by
        intro j0 j1 hs
        rw [hP5]
        rcases hj with ⟨rfl, x0, x1, x2, x3⟩ | ⟨rfl, x0, x1, x2, x3⟩
        · refine ⟨⟨by omega, by omega⟩, _, ?_, j + 1, rfl, rfl, rfl, Or.inl ⟨rfl, (by omega), (by omega), rfl, ?_⟩⟩
          · omega
          · rw [x3, ff_s j1, hs]; rfl
        · refine ⟨⟨by omega, by omega⟩, _, ?_, j + -1, rfl, rfl, rfl, Or.inr ⟨rfl, (by omega), (by omega), rfl, ?_⟩⟩
          · omega
          · rw [x3, fb_s j0, hs, show j + -1 + 1 = j by omega]; rfl
      refine ⟨fun h => ?_, fun h => ⟨hp, fun h1 => ?_, fun h1 => ⟨⟨by omega, by omega⟩, ⟨by omega, by omega⟩, ⟨by omega, by omega⟩, fun h2 => nx (by omega) (by omega) ?_, fun h2 => ⟨⟨by omega, by omega⟩, ⟨by omega, by omega⟩, ⟨by omega, by omega⟩, ⟨hq1, sq⟩, fun h3 => nx (by omega) (by omega) ?_, fun h3 => ?_⟩⟩⟩⟩
      · rcases hj with ⟨rfl, x0, x1, x2, x3⟩ | ⟨rfl, x0, x1, x2, x3⟩
        · omega
        · have e : j = -1 := by omega
          subst e
          exact hQ _ _ (by rw [if_neg (by decide), x3]; rfl) rfl
      · rcases hj with ⟨rfl, x0, x1, x2, x3⟩ | ⟨rfl, x0, x1, x2, x3⟩
        · exact hQ _ _ (by rw [if_pos rfl, x3, ff_e h1]) rfl
        · omega
      · unfold shP
        rw [decide_eq_false_iff_not]
        exact fun z => h2 z.1
      · unfold shP
        rw [decide_eq_false_iff_not]
        exact fun z => z.2 h3
      · have ht : shP (τ 70) (τ 72) (τ 69) p q j = true := by
          unfold shP
          rw [decide_eq_true_eq]
          exact ⟨Classical.not_not.mp h2, h3⟩
        rcases hj with ⟨rfl, x0, x1, x2, x3⟩ | ⟨rfl, x0, x1, x2, x3⟩
        · exact hQ _ _ (by rw [if_pos rfl, x3, ff_s (by omega), ht]; rfl) rfl
        · exact hQ _ _ (by rw [if_neg (by decide), x3, fb_s (by omega), ht]; rfl) rfl
    · simp only [sq_iconst, sq_jsr, sq_anewarray, sq_iload, sq_lload, sq_aload, sq_istore, sq_lstore, sq_astore, sq_iinc, sq_getfield, st_put0, st_put1, st_put3, sq_inv, sq_goto, sq_icmp, sq_ifc, sq_tsw, sq_iadd, sq_isub, sq_imul, sq_ineg, sq_idiv, sq_irem, sq_iand, sq_ior, sq_ixor, sq_ishl, sq_ishr, sq_iushr, sq_ladd, sq_lmul, sq_ldiv, sq_lrem, sq_land, sq_lor, sq_lshl, sq_lushr, sq_lcmp, sq_i2l, sq_l2i, sq_i2c, sq_i2b, sq_dupI, sq_dupR, sq_dup2, sq_pop, sq_iaload, sq_baload, sq_aaload, sq_iastore, sq_bastore, sq_alen, sq_ireturn, sq_lreturn, sq_return, wq_c, wq_n, wlq_s, lkp, tbl, dBk, nth, setL, canSet, cmpI, tk, swK, rdF, entL, catS, cat1, arg, rcv, ald, bld, aln, br, Ccopy, Cmax, Cmin, Cabs, List.take, List.drop, List.reverse, List.reverseAux, List.length, List.append, List.nil_append, List.cons_append, true_and, and_true, and_self, forall_const, true_implies, false_implies, not_true_eq_false, not_false_eq_true, Option.map, reduceCtorEq, reduceIte, or_true, true_or, false_or, or_false, false_and, and_false, List.map, List.append_nil, implies_true, yK, Nat.reduceBEq, beq_self_eq_true, Int.zero_ne_one, Nat.reduceDiv, Nat.reduceMod, Nat.reduceAdd, Nat.reduceSub, Nat.reduceMul, Nat.reduceEqDiff, Nat.reduceLeDiff, Int.reduceToNat, Int.reduceNeg, Int.reduceEq, Int.reduceLT, Int.reduceLE, Int.reduceNatCast, Int.reduceNatCast', Int.reduceAdd, Int.reduceSub, Int.reduceMul, eq_self, Prod.mk.injEq, A_X9_ashBeside, V_X9_ashBeside, B_X9_ashBeside, Y_X9_ashBeside, C_X9_ashAt, shpT, rfsT, wjq_s, look]
      rw [hP5]
      rcases hd with rfl | rfl
      · exact ⟨⟨by omega, by omega⟩, _, i + -1, rfl, rfl, rfl, Or.inr ⟨rfl, (by omega), (by omega), rfl, by unfold tA; rw [show i + -1 + 1 = i by omega]; rfl⟩⟩
      · exact ⟨⟨by omega, by omega⟩, _, i + 1, rfl, rfl, rfl, Or.inl ⟨rfl, (by omega), (by omega), rfl, rfl⟩⟩
def yM (σ : Sto) (p n : Int) : Int := (hsum (rowS (σ 74) (-1)) (σ 70) (σ 72) p n).tdiv 2
theorem TI_m1 {f : Int → Int} : TI (rowS f (-1)) 7 := fun j _ _ => by unfold rowS; rw [if_pos rfl]; omega
theorem yM_in {σ : Sto} (h1 : PI (σ 70) (σ 72)) {p n : Int} (hp : 0 ≤ p ∧ p < 7) (hn : 0 ≤ n ∧ n ≤ 16) : 0 ≤ yM σ p n ∧ yM σ p n ≤ 144 := by
  have := hsum_le (r := rowS (σ 74) (-1)) h1 TI_m1 hp hn
  unfold yM
  rw [tdiv2 this.1]
  omega
theorem sumI_mono {f : Int → Int} {a : Int} (ha : 0 ≤ a) : ∀ k : Nat, (∀ j, a ≤ j → j < a + k → 0 ≤ f j) → sumI f a ≤ sumI f (a + k)
  | 0, _ => by rw [show a + ((0 : Nat) : Int) = a by omega]; omega
  | k + 1, h => by
    have i1 := sumI_mono ha k (fun j x y => h j x (by omega))
    have i2 := h (a + k) (by omega) (by omega)
    rw [show a + ((k + 1 : Nat) : Int) = a + k + 1 by omega, sumI_s _ (by omega)]
    omega
def A_X9_tookBy : List (Nat × Ctr) := [(5, rcv 9 6 C_X9_ashBeside), (3, rcv 9 4 C_X9_ashAt), (4, rcv 9 6 C_X9_halvesAhead), (4, rcv 9 6 C_X9_halvesOf), (4, rcv 9 4 C_X9_atOf)]
theorem e_X9_tookBy (o : OM) : Ev o Y_X9_tookBy 3 T_X9_tookBy A_X9_tookBy := ⟨rfl, List.forall_mem_cons.mpr ⟨Or.inl f_X9_22, List.forall_mem_cons.mpr ⟨Or.inl f_X9_16, fun _ h => absurd h List.not_mem_nil⟩⟩, fun _ h => absurd h List.not_mem_nil, fun _ h => absurd h List.not_mem_nil, fun _ h => absurd h List.not_mem_nil, List.forall_mem_cons.mpr ⟨cl_X9_ashBeside (s_X9_ashBeside o) (by decide) (Or.inl w_1601), List.forall_mem_cons.mpr ⟨cl_X9_ashAt (s_X9_ashAt o) (by decide) (Or.inl w_1534), List.forall_mem_cons.mpr ⟨cl_X9_halvesAhead (s_X9_halvesAhead o) (by decide) (Or.inl w_1299), List.forall_mem_cons.mpr ⟨cl_X9_halvesOf (s_X9_halvesOf o) (by decide) (Or.inl w_1303), List.forall_mem_cons.mpr ⟨cl_X9_atOf (s_X9_atOf o) (by decide) (Or.inl w_1381), fun _ h => absurd h List.not_mem_nil⟩⟩⟩⟩⟩, fun _ h => absurd h List.not_mem_nil⟩
def C_X9_tookBy : Ctr := fun A σ κ => match A with
  | [.inr (.inr (.inl 67)), .inl p, .inl i, .inl q] => ((0 ≤ p ∧ p < 7) ∧ (0 ≤ q ∧ q < 7) ∧ (0 ≤ i ∧ i < σ 69 p) ∧ (∀ p, 0 ≤ p → p < 7 → 0 ≤ σ 69 p ∧ σ 69 p ≤ 16) ∧ PI (σ 70) (σ 72) ∧ TI (σ 74) 28 ∧ σ 70 (p * 16 + i) = 4) ∧ κ [vI (tkb (yM σ) (σ 70) (σ 72) (σ 69) p i q)] σ
  | _ => False
set_option maxRecDepth 20000 in
theorem s_X9_tookBy (o : OM) : Sound o Y_X9_tookBy 3 C_X9_tookBy := by
  intro Q A σ hA hC
  match A, hA, hC with
  | [.inr (.inr (.inl 67)), .inl p, .inl i, .inl q], hA, hC =>
    obtain ⟨h0, hq⟩ : ((0 ≤ p ∧ p < 7) ∧ (0 ≤ q ∧ q < 7) ∧ (0 ≤ i ∧ i < σ 69 p) ∧ (∀ p, 0 ≤ p → p < 7 → 0 ≤ σ 69 p ∧ σ 69 p ≤ 16) ∧ PI (σ 70) (σ 72) ∧ TI (σ 74) 28 ∧ σ 70 (p * 16 + i) = 4) ∧ Q [vI (tkb (yM σ) (σ 70) (σ 72) (σ 69) p i q)] σ := hC
    have hQ : ∀ r_ τ, r_ = (tkb (yM σ) (σ 70) (σ 72) (σ 69) p i q) → τ = (σ) → Q [vI r_] τ := fun r_ τ e e2 => e ▸ e2 ▸ hq
    obtain ⟨hp, hq1, hi, hs, hPI, hTI, hk4⟩ := h0
    have sp := hs p hp.1 hp.2
    have sq := hs q hq1.1 hq1.2
    have hw0 : ∀ v, v = tkb (yM σ) (σ 70) (σ 72) (σ 69) p i q → Q [vI v] σ := fun v h => hQ _ _ h rfl
    unfold tkb at hw0
    have xa := tA_in (kd := σ 70) (nm := σ 72) (sz := σ 69) (p := p) (q := q) hi.1
    have xb := tB_in (kd := σ 70) (nm := σ 72) (sz := σ 69) (p := p) (i := i) (q := q)
    have xc := tC_in (kd := σ 70) (nm := σ 72) (sz := σ 69) (p := p) (q := q) (a := tA (σ 70) (σ 72) (σ 69) p i q) sq.1
    have xd := tC_in (kd := σ 70) (nm := σ 72) (sz := σ 69) (p := p) (q := q) (a := tB (σ 70) (σ 72) (σ 69) p i q) sq.1
    obtain ⟨A', hA'⟩ : ∃ x, x = tA (σ 70) (σ 72) (σ 69) p i q := ⟨_, rfl⟩
    obtain ⟨B', hB'⟩ : ∃ x, x = tB (σ 70) (σ 72) (σ 69) p i q := ⟨_, rfl⟩
    rw [← hA'] at xa xc hw0
    rw [← hB'] at xb xd hw0
    obtain ⟨C', hC'⟩ : ∃ x, x = tC (σ 70) (σ 72) (σ 69) p q A' := ⟨_, rfl⟩
    obtain ⟨D', hD'⟩ : ∃ x, x = tC (σ 70) (σ 72) (σ 69) p q B' := ⟨_, rfl⟩
    rw [← hC'] at xa xc hw0
    rw [← hD'] at xb xd hw0
    obtain ⟨P92, hP92⟩ : ∃ P : Nat → List AV → List AV → Sto → Prop, P = fun m S L τ => ∃ j w : Int, S = [] ∧ L = [vR 67, vI p, vI i, vI q, vI A', vI B', vI C', vI D', vI w, vI j] ∧ τ = σ ∧ ¬ A' = -1 ∧ ¬ B' = -1 ∧ 0 ≤ j ∧ (w = 0 ∨ w = 1) ∧ m = (D' - j).toNat ∧ ((D' ≤ C' ∨ ¬ ff (flP (σ 70) q) (C' + 1) (D' - (C' + 1)).toNat = -1) ↔ (w = 0 ∨ ¬ ff (flP (σ 70) q) j (D' - j).toNat = -1)) := ⟨_, rfl⟩
    refine at_meth (lv := V_X9_tookBy) (B := B_X9_tookBy) (e_X9_tookBy o) k_X9_tookBy 6 [(92, P92)] (List.forall_mem_cons.mpr ⟨?_, fun _ h => absurd h List.not_mem_nil⟩) 0 [] _ σ ?_
    · intro m S L τ hI
      rw [hP92] at hI
      obtain ⟨j, w, rfl, rfl, rfl, ha, hb, j0, hw, hm, hF⟩ := hI
      simp only [sq_iconst, sq_jsr, sq_anewarray, sq_iload, sq_lload, sq_aload, sq_istore, sq_lstore, sq_astore, sq_iinc, sq_getfield, st_put0, st_put1, st_put3, sq_inv, sq_goto, sq_icmp, sq_ifc, sq_tsw, sq_iadd, sq_isub, sq_imul, sq_ineg, sq_idiv, sq_irem, sq_iand, sq_ior, sq_ixor, sq_ishl, sq_ishr, sq_iushr, sq_ladd, sq_lmul, sq_ldiv, sq_lrem, sq_land, sq_lor, sq_lshl, sq_lushr, sq_lcmp, sq_i2l, sq_l2i, sq_i2c, sq_i2b, sq_dupI, sq_dupR, sq_dup2, sq_pop, sq_iaload, sq_baload, sq_aaload, sq_iastore, sq_bastore, sq_alen, sq_ireturn, sq_lreturn, sq_return, wq_c, wq_n, wlq_s, lkp, tbl, dBk, nth, setL, canSet, cmpI, tk, swK, rdF, entL, catS, cat1, arg, rcv, ald, bld, aln, br, Ccopy, Cmax, Cmin, Cabs, List.take, List.drop, List.reverse, List.reverseAux, List.length, List.append, List.nil_append, List.cons_append, true_and, and_true, and_self, forall_const, true_implies, false_implies, not_true_eq_false, not_false_eq_true, Option.map, reduceCtorEq, reduceIte, or_true, true_or, false_or, or_false, false_and, and_false, List.map, List.append_nil, implies_true, yK, Nat.reduceBEq, beq_self_eq_true, Int.zero_ne_one, Nat.reduceDiv, Nat.reduceMod, Nat.reduceAdd, Nat.reduceSub, Nat.reduceMul, Nat.reduceEqDiff, Nat.reduceLeDiff, Int.reduceToNat, Int.reduceNeg, Int.reduceEq, Int.reduceLT, Int.reduceLE, Int.reduceNatCast, Int.reduceNatCast', Int.reduceAdd, Int.reduceSub, Int.reduceMul, eq_self, Prod.mk.injEq, A_X9_tookBy, V_X9_tookBy, B_X9_tookBy, Y_X9_tookBy, C_X9_ashBeside, C_X9_ashAt, C_X9_halvesAhead, C_X9_halvesOf, C_X9_atOf, shpT, rfsT, wjq_s, look, m16]
      have za := xa ha
      have zb := xb hb
      have zc := xc za.2.2
      have zd := xd zb.2.2
      rw [if_neg (fun z => z.elim ha hb)] at hw0
      refine ⟨fun h => ⟨fun h1 => ?_, fun h1 => ?_⟩, fun h => ?_⟩
      · have n0 : ¬ (D' ≤ C' ∨ ¬ ff (flP (τ 70) q) (C' + 1) (D' - (C' + 1)).toNat = -1) := fun z => (hF.mp z).elim h1 (fun y => y (ff_e h))
        rw [if_neg n0] at hw0
        clear hF n0
        rw [hk4]
        have ev : hv (rowS (τ 74) (-1)) 4 (τ 72 (p * 16 + i)) = 2 * τ 72 (p * 16 + i) := by
          unfold hv rowS
          rw [if_pos (if_pos rfl), if_pos rfl]
        have pos : 2 * τ 72 (p * 16 + i) ≤ hsum (rowS (τ 74) (-1)) (τ 70) (τ 72) p B' := by
          have s1 := hsum_s (r := rowS (τ 74) (-1)) (kd := τ 70) (nm := τ 72) (p := p) (i := i) hi.1
          have s2 := hsum_le (r := rowS (τ 74) (-1)) hPI TI_m1 hp (n := i) ⟨by omega, by omega⟩
          have s3 : hsum (rowS (τ 74) (-1)) (τ 70) (τ 72) p (i + 1) ≤ hsum (rowS (τ 74) (-1)) (τ 70) (τ 72) p B' := by
            have s4 := sumI_mono (f := fun x => hv (rowS (τ 74) (-1)) (τ 70 (p * 16 + x)) (τ 72 (p * 16 + x))) (a := i + 1) (by omega) (B' - (i + 1)).toNat (fun x x0 x1 => by have h5 := hPI (p * 16 + x) (by omega) (by omega); exact (hv_le ⟨h5.1, h5.2.1⟩ ⟨h5.2.2.1, h5.2.2.2⟩ (TI_m1 _ h5.1 (by omega))).1)
            rw [show i + 1 + (((B' - (i + 1)).toNat : Nat) : Int) = B' by omega] at s4
            exact s4
          rw [hk4, ev] at s1
          omega
        have y1 := yM_in hPI (p := q) (n := D') hq1 ⟨by omega, by omega⟩
        have y2 := yM_in hPI (p := q) (n := C') hq1 ⟨by omega, by omega⟩
        have y3 := yM_in hPI (p := p) (n := B') hp ⟨by omega, by omega⟩
        have y4 := yM_in hPI (p := p) (n := A') hp ⟨by omega, by omega⟩
        have y5 := hPI (p * 16 + i) (by omega) (by omega)
        have e : ∀ p n, (hsum (rowS (τ 74) (-1)) (τ 70) (τ 72) p n).tdiv 2 = yM τ p n := fun _ _ => rfl
        have hb3 := hsum_le (r := rowS (τ 74) (-1)) hPI TI_m1 hp (n := B') ⟨by omega, by omega⟩
        have e3 : (hsum (rowS (τ 74) (-1)) (τ 70) (τ 72) p B' - 2 * τ 72 (p * 16 + i)).tdiv 2 = yM τ p B' - τ 72 (p * 16 + i) := by
          unfold yM
          rw [tdiv2 (by omega), tdiv2 (by omega)]
          omega
        rw [ev, e3]
        simp only [e]
        exact ⟨⟨hp, ⟨by omega, by omega⟩, hPI, hTI⟩, ⟨hp, ⟨by omega, by omega⟩, hPI⟩, ⟨by omega, by omega⟩, ⟨hp, ⟨by omega, by omega⟩, hPI, hTI⟩, ⟨by omega, by omega⟩, ⟨hq1, ⟨by omega, by omega⟩, hPI, hTI⟩, ⟨hq1, ⟨by omega, by omega⟩, hPI, hTI⟩, ⟨by omega, by omega⟩, fun z => hw0 _ (by omega), fun z => ⟨⟨by omega, by omega⟩, hw0 _ (by omega)⟩⟩
      · exact hw0 _ (by rw [if_pos (hF.mpr (Or.inl (Classical.not_not.mp h1)))])
      · rw [hP92]
        have nx : ∀ w' : Int, (w' = 0 ∨ w' = 1) → ((w = 0 ∨ ¬ ff (flP (τ 70) q) j (D' - j).toNat = -1) ↔ (w' = 0 ∨ ¬ ff (flP (τ 70) q) (j + 1) (D' - (j + 1)).toNat = -1)) → i32 (j + 1) ∧ ∃ m_1, m_1 < m ∧ (∃ j' w'' : Int, ([] : List AV) = [] ∧ [vR 67, vI p, vI i, vI q, vI A', vI B', vI C', vI D', vI w', vI (j + 1)] = [vR 67, vI p, vI i, vI q, vI A', vI B', vI C', vI D', vI w'', vI j'] ∧ τ = τ ∧ ¬ A' = -1 ∧ ¬ B' = -1 ∧ 0 ≤ j' ∧ (w'' = 0 ∨ w'' = 1) ∧ m_1 = (D' - j').toNat ∧ ((D' ≤ C' ∨ ¬ ff (flP (τ 70) q) (C' + 1) (D' - (C' + 1)).toNat = -1) ↔ (w'' = 0 ∨ ¬ ff (flP (τ 70) q) j' (D' - j').toNat = -1))) := fun w' q1 q2 => ⟨⟨by omega, by omega⟩, _, by omega, j + 1, w', rfl, rfl, rfl, ha, hb, by omega, q1, rfl, hF.trans q2⟩
        have fs := ff_s (P := flP (τ 70) q) (i := j) (e := D') (by omega)
        refine ⟨fun h1 => nx 0 (Or.inl rfl) ⟨fun _ => Or.inl rfl, fun _ => Or.inl h1⟩, fun h1 => ⟨⟨by omega, by omega⟩, ⟨by omega, by omega⟩, ⟨by omega, by omega⟩, fun h2 => nx 0 (Or.inl rfl) ⟨fun _ => Or.inl rfl, fun _ => Or.inr ?_⟩, fun h2 => nx 1 (Or.inr rfl) ?_⟩⟩
        · rw [fs, if_pos (by unfold flP; rw [decide_eq_true_eq]; exact h2)]
          omega
        · rw [fs, if_neg (by unfold flP; rw [decide_eq_true_eq]; exact h2)]
          exact ⟨fun z => Or.inr (z.resolve_left h1), fun z => Or.inr (z.resolve_left (by decide))⟩
    · simp only [sq_iconst, sq_jsr, sq_anewarray, sq_iload, sq_lload, sq_aload, sq_istore, sq_lstore, sq_astore, sq_iinc, sq_getfield, st_put0, st_put1, st_put3, sq_inv, sq_goto, sq_icmp, sq_ifc, sq_tsw, sq_iadd, sq_isub, sq_imul, sq_ineg, sq_idiv, sq_irem, sq_iand, sq_ior, sq_ixor, sq_ishl, sq_ishr, sq_iushr, sq_ladd, sq_lmul, sq_ldiv, sq_lrem, sq_land, sq_lor, sq_lshl, sq_lushr, sq_lcmp, sq_i2l, sq_l2i, sq_i2c, sq_i2b, sq_dupI, sq_dupR, sq_dup2, sq_pop, sq_iaload, sq_baload, sq_aaload, sq_iastore, sq_bastore, sq_alen, sq_ireturn, sq_lreturn, sq_return, wq_c, wq_n, wlq_s, lkp, tbl, dBk, nth, setL, canSet, cmpI, tk, swK, rdF, entL, catS, cat1, arg, rcv, ald, bld, aln, br, Ccopy, Cmax, Cmin, Cabs, List.take, List.drop, List.reverse, List.reverseAux, List.length, List.append, List.nil_append, List.cons_append, true_and, and_true, and_self, forall_const, true_implies, false_implies, not_true_eq_false, not_false_eq_true, Option.map, reduceCtorEq, reduceIte, or_true, true_or, false_or, or_false, false_and, and_false, List.map, List.append_nil, implies_true, yK, Nat.reduceBEq, beq_self_eq_true, Int.zero_ne_one, Nat.reduceDiv, Nat.reduceMod, Nat.reduceAdd, Nat.reduceSub, Nat.reduceMul, Nat.reduceEqDiff, Nat.reduceLeDiff, Int.reduceToNat, Int.reduceNeg, Int.reduceEq, Int.reduceLT, Int.reduceLE, Int.reduceNatCast, Int.reduceNatCast', Int.reduceAdd, Int.reduceSub, Int.reduceMul, eq_self, Prod.mk.injEq, A_X9_tookBy, V_X9_tookBy, B_X9_tookBy, Y_X9_tookBy, C_X9_ashBeside, C_X9_ashAt, C_X9_halvesAhead, C_X9_halvesOf, C_X9_atOf, shpT, rfsT, wjq_s, look, m16, if_true, Int.reduceEq, if_false, reduceIte, tC_e, ← hA', ← hB', ← hC', ← hD']
      rw [hP92]
      refine ⟨⟨hp, hq1, hi, hs⟩, ⟨hp, hq1, hi, hs⟩, fun h => hw0 _ (by rw [if_pos (Or.inl h)]), fun ha => ⟨fun hb => ?_, fun h => hw0 _ (by rw [if_pos (Or.inr (Classical.not_not.mp h))])⟩⟩
      have za := xa ha
      have zb := xb hb
      have zc := xc za.2.2
      have zd := xd zb.2.2
      refine ⟨⟨by omega, by omega⟩, ⟨by omega, by omega⟩, ⟨by omega, by omega⟩, ⟨hq1, sq⟩, ⟨by omega, by omega⟩, ⟨by omega, by omega⟩, ⟨by omega, by omega⟩, ⟨hq1, sq⟩, fun h => ⟨⟨by omega, by omega⟩, _, C' + 1, 0, rfl, rfl, rfl, ha, hb, (by omega), Or.inl rfl, rfl, ⟨fun _ => Or.inl rfl, fun _ => Or.inl h⟩⟩, fun h => ⟨⟨by omega, by omega⟩, _, C' + 1, 1, rfl, rfl, rfl, ha, hb, (by omega), Or.inr rfl, rfl, ⟨fun z => Or.inr (z.resolve_left h), fun z => Or.inr (z.resolve_left (by decide))⟩⟩⟩
def tkv (T : Int → Int) (p n : Int) : Int := if n = p then -1 else T n
def tks (b a v : Int) : Int := if ¬ v = -1 ∧ (a = -1 ∨ (b = 0 ∧ v < a) ∨ (¬ b = 0 ∧ a < v)) then v else a
def tkf (T : Int → Int) (b p : Int) : Nat → Int
  | 0 => -1
  | n + 1 => tks b (tkf T b p n) (tkv T p n)
theorem tkf_s {T : Int → Int} {b p q : Int} (h : 0 ≤ q) : tkf T b p (q + 1).toNat = tks b (tkf T b p q.toNat) (tkv T p q) := by
  rw [show (q + 1).toNat = q.toNat + 1 by omega]
  show tks b (tkf T b p q.toNat) (tkv T p ((q.toNat : Nat) : Int)) = _
  rw [show ((q.toNat : Nat) : Int) = q by omega]
theorem tkf_c {T T' : Int → Int} {b p : Int} : ∀ n : Nat, (∀ q : Int, 0 ≤ q → q < n → ¬ q = p → T q = T' q) → tkf T b p n = tkf T' b p n
  | 0, _ => rfl
  | n + 1, h => by
    show tks b (tkf T b p n) (tkv T p n) = tks b (tkf T' b p n) (tkv T' p n)
    rw [tkf_c n (fun q q0 q1 => h q q0 (by omega))]
    unfold tkv
    by_cases e : (n : Int) = p
    · rw [if_pos e, if_pos e]
    · rw [if_neg e, if_neg e, h n (by omega) (by omega) e]
theorem tkb_c {H H' : Int → Int → Int} {kd nm sz : Int → Int} {p i q : Int} (hp : 0 ≤ p ∧ p < 7) (hq : 0 ≤ q ∧ q < 7) (hi : 0 ≤ i) (sp : sz p ≤ 16) (sq : 0 ≤ sz q ∧ sz q ≤ 16) (hH : ∀ p n, 0 ≤ p → p < 7 → 0 ≤ n → n ≤ 16 → H p n = H' p n) : tkb H kd nm sz p i q = tkb H' kd nm sz p i q := by
  unfold tkb
  by_cases c : tA kd nm sz p i q = -1 ∨ tB kd nm sz p i q = -1
  · rw [if_pos c, if_pos c]
  · rw [if_neg c, if_neg c]
    have za := tA_in hi (fun z => c (Or.inl z))
    have zb := tB_in (fun z => c (Or.inr z))
    have zc := tC_in sq.1 za.2.2
    have zd := tC_in sq.1 zb.2.2
    rw [hH q _ hq.1 hq.2 zd.1 (by omega), hH q _ hq.1 hq.2 zc.1 (by omega), hH p _ hp.1 hp.2 (by omega : 0 ≤ tB kd nm sz p i q) (by omega), hH p _ hp.1 hp.2 za.1 (by omega)]
def A_X8_took : List (Nat × Ctr) := [(3, rcv 6 3 C_X6_hasLeaf), (3, arg 3 C_X8_isWithin), (3, rcv 6 3 C_X6_kindOf), (4, rcv 8 10 C_X8_tookBy)]
theorem e_X8_took (o : OM) : Ev o Y_X8_took 6 T_X8_took A_X8_took := ⟨rfl, List.forall_mem_cons.mpr ⟨Or.inl f_X8_10, List.forall_mem_cons.mpr ⟨Or.inl f_X8_92, fun _ h => absurd h List.not_mem_nil⟩⟩, fun _ h => absurd h List.not_mem_nil, fun _ h => absurd h List.not_mem_nil, fun _ h => absurd h List.not_mem_nil, List.forall_mem_cons.mpr ⟨cl_X6_hasLeaf (s_X6_hasLeaf o) (by decide) (Or.inr ⟨_, wn_44⟩), List.forall_mem_cons.mpr ⟨cl_X6_kindOf (s_X6_kindOf o) (by decide) (Or.inr ⟨_, wn_45⟩), List.forall_mem_cons.mpr ⟨cl_X8_tookBy (s_X8_tookBy o) (by decide) (Or.inl w_998), fun _ h => absurd h List.not_mem_nil⟩⟩⟩, List.forall_mem_cons.mpr ⟨cl_X8_isWithin (s_X8_isWithin o) (by decide) (Or.inl w_353), fun _ h => absurd h List.not_mem_nil⟩⟩
def C_X8_took : Ctr := fun A σ κ => match A with
  | [.inr (.inr (.inl 0)), .inl p, .inl i, .inl b] => ((0 ≤ σ 1 0 ∧ σ 1 0 ≤ 7) ∧ (∀ p, 0 ≤ p → p < 7 → 0 ≤ σ 12 p ∧ σ 12 p ≤ 16) ∧ PI (σ 13) (σ 15) ∧ TI (σ 37) 35) ∧ κ [vI (if ¬ (0 ≤ p ∧ p < σ 1 0 ∧ 0 ≤ i ∧ i < σ 12 p) then -101 else if ¬ (0 ≤ b ∧ b ≤ 1) then -102 else if ¬ σ 13 (p * 16 + i) = 4 then -103 else tkf (fun q => tkb (yC σ) (σ 13) (σ 15) (σ 12) p i q) b p (σ 1 0).toNat)] σ
  | _ => False
set_option maxRecDepth 20000 in
theorem s_X8_took (o : OM) : Sound o Y_X8_took 6 C_X8_took := by
  intro Q A σ hA hC
  match A, hA, hC with
  | [.inr (.inr (.inl 0)), .inl p, .inl i, .inl b], hA, hC =>
    obtain ⟨h0, hq⟩ : ((0 ≤ σ 1 0 ∧ σ 1 0 ≤ 7) ∧ (∀ p, 0 ≤ p → p < 7 → 0 ≤ σ 12 p ∧ σ 12 p ≤ 16) ∧ PI (σ 13) (σ 15) ∧ TI (σ 37) 35) ∧ Q [vI (if ¬ (0 ≤ p ∧ p < σ 1 0 ∧ 0 ≤ i ∧ i < σ 12 p) then -101 else if ¬ (0 ≤ b ∧ b ≤ 1) then -102 else if ¬ σ 13 (p * 16 + i) = 4 then -103 else tkf (fun q => tkb (yC σ) (σ 13) (σ 15) (σ 12) p i q) b p (σ 1 0).toNat)] σ := hC
    have hQ : ∀ r_ τ, r_ = (if ¬ (0 ≤ p ∧ p < σ 1 0 ∧ 0 ≤ i ∧ i < σ 12 p) then -101 else if ¬ (0 ≤ b ∧ b ≤ 1) then -102 else if ¬ σ 13 (p * 16 + i) = 4 then -103 else tkf (fun q => tkb (yC σ) (σ 13) (σ 15) (σ 12) p i q) b p (σ 1 0).toNat) → τ = (σ) → Q [vI r_] τ := fun r_ τ e e2 => e ▸ e2 ▸ hq
    obtain ⟨hn, hs, hPI, hTI⟩ := h0
    obtain ⟨T, hT⟩ : ∃ T, T = fun q => tkb (yC σ) (σ 13) (σ 15) (σ 12) p i q := ⟨_, rfl⟩
    rw [← hT] at hQ
    clear hq
    obtain ⟨P49, hP49⟩ : ∃ P : Nat → List AV → List AV → Sto → Prop, P = fun m S L τ => ∃ q : Int, S = [] ∧ L = [vR 0, vI p, vI i, vI b, vI (tkf T b p q.toNat), vI q] ∧ τ = σ ∧ (0 ≤ p ∧ p < σ 1 0 ∧ 0 ≤ i ∧ i < σ 12 p) ∧ (0 ≤ b ∧ b ≤ 1) ∧ σ 13 (p * 16 + i) = 4 ∧ 0 ≤ q ∧ q ≤ σ 1 0 ∧ m = (7 - q).toNat := ⟨_, rfl⟩
    refine at_meth (lv := V_X8_took) (B := B_X8_took) (e_X8_took o) k_X8_took 9 [(49, P49)] (List.forall_mem_cons.mpr ⟨?_, fun _ h => absurd h List.not_mem_nil⟩) 0 [] _ σ ?_
    · intro m S L τ hI
      rw [hP49] at hI
      obtain ⟨q, rfl, rfl, rfl, hl, hb, hk, q0, q1, hm⟩ := hI
      simp only [sq_iconst, sq_jsr, sq_anewarray, sq_iload, sq_lload, sq_aload, sq_istore, sq_lstore, sq_astore, sq_iinc, sq_getfield, st_put0, st_put1, st_put3, sq_inv, sq_goto, sq_icmp, sq_ifc, sq_tsw, sq_iadd, sq_isub, sq_imul, sq_ineg, sq_idiv, sq_irem, sq_iand, sq_ior, sq_ixor, sq_ishl, sq_ishr, sq_iushr, sq_ladd, sq_lmul, sq_ldiv, sq_lrem, sq_land, sq_lor, sq_lshl, sq_lushr, sq_lcmp, sq_i2l, sq_l2i, sq_i2c, sq_i2b, sq_dupI, sq_dupR, sq_dup2, sq_pop, sq_iaload, sq_baload, sq_aaload, sq_iastore, sq_bastore, sq_alen, sq_ireturn, sq_lreturn, sq_return, wq_c, wq_n, wlq_s, lkp, tbl, dBk, nth, setL, canSet, cmpI, tk, swK, rdF, entL, catS, cat1, arg, rcv, ald, bld, aln, br, Ccopy, Cmax, Cmin, Cabs, List.take, List.drop, List.reverse, List.reverseAux, List.length, List.append, List.nil_append, List.cons_append, true_and, and_true, and_self, forall_const, true_implies, false_implies, not_true_eq_false, not_false_eq_true, Option.map, reduceCtorEq, reduceIte, or_true, true_or, false_or, or_false, false_and, and_false, List.map, List.append_nil, implies_true, yK, Nat.reduceBEq, beq_self_eq_true, Int.zero_ne_one, Nat.reduceDiv, Nat.reduceMod, Nat.reduceAdd, Nat.reduceSub, Nat.reduceMul, Nat.reduceEqDiff, Nat.reduceLeDiff, Int.reduceToNat, Int.reduceNeg, Int.reduceEq, Int.reduceLT, Int.reduceLE, Int.reduceNatCast, Int.reduceNatCast', Int.reduceAdd, Int.reduceSub, Int.reduceMul, eq_self, Prod.mk.injEq, A_X8_took, V_X8_took, B_X8_took, Y_X8_took, C_X6_hasLeaf, C_X8_isWithin, C_X6_kindOf, C_X8_tookBy, A_X8_tookBy, V_X8_tookBy, B_X8_tookBy, Y_X8_tookBy, C_X6_sharedAshAhead, C_X6_sharedAshBehind, C_X6_nOf, C_X6_firstAsh, C_X6_hasFloodBetween, C_X1_yearsAhead, shpT, rfsT, wjq_s, look]
      have fin : τ 1 0 ≤ q → Q [vI (tkf T b p q.toNat)] τ := fun h => by
        have e : q = τ 1 0 := by omega
        exact hQ _ _ (by rw [if_neg (fun z => z hl), if_neg (fun z => z hb), if_neg (fun z => z hk), e]) rfl
      have et : tkb (yC τ) (τ 13) (τ 15) (τ 12) p i q = T q := by rw [hT]
      simp only [et]
      have nx : ∀ v, ¬ τ 1 0 ≤ q → v = tks b (tkf T b p q.toNat) (tkv T p q) → i32 (q + 1) ∧ ∃ m_1, m_1 < m ∧ P49 m_1 [] [vR 0, vI p, vI i, vI b, vI v, vI (q + 1)] τ := fun v h hv => by
        rw [hP49]
        exact ⟨⟨by omega, by omega⟩, _, by omega, q + 1, rfl, by rw [hv, tkf_s q0], rfl, hl, hb, hk, by omega, by omega, rfl⟩
      have kp : ¬ q = p → tkv T p q = T q := fun h => if_neg h
      have kn : q = p → tkv T p q = -1 := fun h => if_pos h
      clear et hP49
      generalize tkf T b p q.toNat = a at *
      have tk : ¬ q = p → ¬ T q = -1 → (a = -1 ∨ (b = 0 ∧ T q < a) ∨ (¬ b = 0 ∧ a < T q)) → T q = tks b a (tkv T p q) := fun h h1 h2 => by
        rw [kp h]; unfold tks; rw [if_pos ⟨h1, h2⟩]
      have kk : ¬ q = p → ¬ (¬ T q = -1 ∧ (a = -1 ∨ (b = 0 ∧ T q < a) ∨ (¬ b = 0 ∧ a < T q))) → a = tks b a (tkv T p q) := fun h h1 => by
        rw [kp h]; unfold tks; rw [if_neg h1]
      have k0 : q = p → a = tks b a (tkv T p q) := fun h => by
        rw [kn h]; unfold tks; rw [if_neg (fun z => z.1 rfl)]
      refine ⟨fin, fun h => ⟨fun h1 => ⟨⟨⟨by omega, by omega⟩, ⟨by omega, by omega⟩, hl.2.2, hs, hPI, hTI⟩, fun h2 => ⟨fun h3 => nx _ h (tk h1 h2 (Or.inl h3)), fun h3 => ⟨fun h4 => ⟨fun h5 => nx _ h (kk h1 (fun z => by omega)), fun h5 => nx _ h (tk h1 h2 (Or.inr (Or.inr ⟨h4, by omega⟩)))⟩, fun h4 => ⟨fun h5 => nx _ h (kk h1 (fun z => by omega)), fun h5 => nx _ h (tk h1 h2 (Or.inr (Or.inl ⟨by omega, by omega⟩)))⟩⟩⟩, fun h2 => nx _ h (kk h1 (fun z => h2 z.1))⟩, fun h1 => nx _ h (k0 (Classical.not_not.mp h1))⟩⟩
    · simp only [sq_iconst, sq_jsr, sq_anewarray, sq_iload, sq_lload, sq_aload, sq_istore, sq_lstore, sq_astore, sq_iinc, sq_getfield, st_put0, st_put1, st_put3, sq_inv, sq_goto, sq_icmp, sq_ifc, sq_tsw, sq_iadd, sq_isub, sq_imul, sq_ineg, sq_idiv, sq_irem, sq_iand, sq_ior, sq_ixor, sq_ishl, sq_ishr, sq_iushr, sq_ladd, sq_lmul, sq_ldiv, sq_lrem, sq_land, sq_lor, sq_lshl, sq_lushr, sq_lcmp, sq_i2l, sq_l2i, sq_i2c, sq_i2b, sq_dupI, sq_dupR, sq_dup2, sq_pop, sq_iaload, sq_baload, sq_aaload, sq_iastore, sq_bastore, sq_alen, sq_ireturn, sq_lreturn, sq_return, wq_c, wq_n, wlq_s, lkp, tbl, dBk, nth, setL, canSet, cmpI, tk, swK, rdF, entL, catS, cat1, arg, rcv, ald, bld, aln, br, Ccopy, Cmax, Cmin, Cabs, List.take, List.drop, List.reverse, List.reverseAux, List.length, List.append, List.nil_append, List.cons_append, true_and, and_true, and_self, forall_const, true_implies, false_implies, not_true_eq_false, not_false_eq_true, Option.map, reduceCtorEq, reduceIte, or_true, true_or, false_or, or_false, false_and, and_false, List.map, List.append_nil, implies_true, yK, Nat.reduceBEq, beq_self_eq_true, Int.zero_ne_one, Nat.reduceDiv, Nat.reduceMod, Nat.reduceAdd, Nat.reduceSub, Nat.reduceMul, Nat.reduceEqDiff, Nat.reduceLeDiff, Int.reduceToNat, Int.reduceNeg, Int.reduceEq, Int.reduceLT, Int.reduceLE, Int.reduceNatCast, Int.reduceNatCast', Int.reduceAdd, Int.reduceSub, Int.reduceMul, eq_self, Prod.mk.injEq, A_X8_took, V_X8_took, B_X8_took, Y_X8_took, C_X6_hasLeaf, C_X8_isWithin, C_X6_kindOf, C_X8_tookBy, A_X8_tookBy, V_X8_tookBy, B_X8_tookBy, Y_X8_tookBy, C_X6_sharedAshAhead, C_X6_sharedAshBehind, C_X6_nOf, C_X6_firstAsh, C_X6_hasFloodBetween, C_X1_yearsAhead, shpT, rfsT, wjq_s, look]
      rw [hP49]
      exact ⟨hn, fun hl => ⟨fun hb => ⟨⟨hl.1, (by omega), hl.2.2.1, by have := hs p hl.1 (by omega); omega⟩, fun hk => ⟨_, 0, rfl, rfl, rfl, hl, hb, hk, (by omega), hn.1, rfl⟩, fun hk => hQ _ _ (by rw [if_neg (fun z => z hl), if_neg (fun z => z hb), if_pos hk]) rfl⟩, fun hb => hQ _ _ (by rw [if_neg (fun z => z hl), if_pos hb]) rfl⟩, fun hl => hQ _ _ (by rw [if_pos hl]) rfl⟩
def A_X9_took : List (Nat × Ctr) := [(3, rcv 9 3 C_X9_isLeaf), (1, arg 1 C_X9_isPart), (4, rcv 9 11 C_X9_tookBy)]
theorem e_X9_took (o : OM) : Ev o Y_X9_took 4 T_X9_took A_X9_took := ⟨rfl, List.forall_mem_cons.mpr ⟨Or.inl f_X9_16, List.forall_mem_cons.mpr ⟨Or.inl f_X9_109, fun _ h => absurd h List.not_mem_nil⟩⟩, fun _ h => absurd h List.not_mem_nil, fun _ h => absurd h List.not_mem_nil, fun _ h => absurd h List.not_mem_nil, List.forall_mem_cons.mpr ⟨cl_X9_isLeaf (s_X9_isLeaf o) (by decide) (Or.inl w_1285), List.forall_mem_cons.mpr ⟨cl_X9_tookBy (s_X9_tookBy o) (by decide) (Or.inl w_1597), fun _ h => absurd h List.not_mem_nil⟩⟩, List.forall_mem_cons.mpr ⟨cl_X9_isPart (s_X9_isPart o) (by decide) (Or.inl w_1430), fun _ h => absurd h List.not_mem_nil⟩⟩
def C_X9_took : Ctr := fun A σ κ => match A with
  | [.inr (.inr (.inl 67)), .inl p, .inl i, .inl b] => ((0 ≤ σ 67 0 ∧ σ 67 0 ≤ 7) ∧ (∀ p, 0 ≤ p → p < 7 → 0 ≤ σ 69 p ∧ σ 69 p ≤ 16) ∧ PI (σ 70) (σ 72) ∧ TI (σ 74) 28) ∧ κ [vI (if ¬ (0 ≤ p ∧ p < σ 67 0 ∧ 0 ≤ i ∧ i < σ 69 p) then -101 else if ¬ (0 ≤ b ∧ b ≤ 1) then -102 else if ¬ σ 70 (p * 16 + i) = 4 then -103 else tkf (fun q => tkb (yM σ) (σ 70) (σ 72) (σ 69) p i q) b p (σ 67 0).toNat)] σ
  | _ => False
set_option maxRecDepth 20000 in
theorem s_X9_took (o : OM) : Sound o Y_X9_took 4 C_X9_took := by
  intro Q A σ hA hC
  match A, hA, hC with
  | [.inr (.inr (.inl 67)), .inl p, .inl i, .inl b], hA, hC =>
    obtain ⟨h0, hq⟩ : ((0 ≤ σ 67 0 ∧ σ 67 0 ≤ 7) ∧ (∀ p, 0 ≤ p → p < 7 → 0 ≤ σ 69 p ∧ σ 69 p ≤ 16) ∧ PI (σ 70) (σ 72) ∧ TI (σ 74) 28) ∧ Q [vI (if ¬ (0 ≤ p ∧ p < σ 67 0 ∧ 0 ≤ i ∧ i < σ 69 p) then -101 else if ¬ (0 ≤ b ∧ b ≤ 1) then -102 else if ¬ σ 70 (p * 16 + i) = 4 then -103 else tkf (fun q => tkb (yM σ) (σ 70) (σ 72) (σ 69) p i q) b p (σ 67 0).toNat)] σ := hC
    have hQ : ∀ r_ τ, r_ = (if ¬ (0 ≤ p ∧ p < σ 67 0 ∧ 0 ≤ i ∧ i < σ 69 p) then -101 else if ¬ (0 ≤ b ∧ b ≤ 1) then -102 else if ¬ σ 70 (p * 16 + i) = 4 then -103 else tkf (fun q => tkb (yM σ) (σ 70) (σ 72) (σ 69) p i q) b p (σ 67 0).toNat) → τ = (σ) → Q [vI r_] τ := fun r_ τ e e2 => e ▸ e2 ▸ hq
    obtain ⟨hn, hs, hPI, hTI⟩ := h0
    obtain ⟨T, hT⟩ : ∃ T, T = fun q => tkb (yM σ) (σ 70) (σ 72) (σ 69) p i q := ⟨_, rfl⟩
    rw [← hT] at hQ
    clear hq
    obtain ⟨P46, hP46⟩ : ∃ P : Nat → List AV → List AV → Sto → Prop, P = fun m S L τ => ∃ q : Int, S = [] ∧ L = [vR 67, vI p, vI i, vI b, vI (tkf T b p q.toNat), vI q] ∧ τ = σ ∧ (0 ≤ p ∧ p < σ 67 0 ∧ 0 ≤ i ∧ i < σ 69 p) ∧ (0 ≤ b ∧ b ≤ 1) ∧ σ 70 (p * 16 + i) = 4 ∧ 0 ≤ q ∧ q ≤ σ 67 0 ∧ m = (7 - q).toNat := ⟨_, rfl⟩
    refine at_meth (lv := V_X9_took) (B := B_X9_took) (e_X9_took o) k_X9_took 10 [(46, P46)] (List.forall_mem_cons.mpr ⟨?_, fun _ h => absurd h List.not_mem_nil⟩) 0 [] _ σ ?_
    · intro m S L τ hI
      rw [hP46] at hI
      obtain ⟨q, rfl, rfl, rfl, hl, hb, hk, q0, q1, hm⟩ := hI
      simp only [sq_iconst, sq_jsr, sq_anewarray, sq_iload, sq_lload, sq_aload, sq_istore, sq_lstore, sq_astore, sq_iinc, sq_getfield, st_put0, st_put1, st_put3, sq_inv, sq_goto, sq_icmp, sq_ifc, sq_tsw, sq_iadd, sq_isub, sq_imul, sq_ineg, sq_idiv, sq_irem, sq_iand, sq_ior, sq_ixor, sq_ishl, sq_ishr, sq_iushr, sq_ladd, sq_lmul, sq_ldiv, sq_lrem, sq_land, sq_lor, sq_lshl, sq_lushr, sq_lcmp, sq_i2l, sq_l2i, sq_i2c, sq_i2b, sq_dupI, sq_dupR, sq_dup2, sq_pop, sq_iaload, sq_baload, sq_aaload, sq_iastore, sq_bastore, sq_alen, sq_ireturn, sq_lreturn, sq_return, wq_c, wq_n, wlq_s, lkp, tbl, dBk, nth, setL, canSet, cmpI, tk, swK, rdF, entL, catS, cat1, arg, rcv, ald, bld, aln, br, Ccopy, Cmax, Cmin, Cabs, List.take, List.drop, List.reverse, List.reverseAux, List.length, List.append, List.nil_append, List.cons_append, true_and, and_true, and_self, forall_const, true_implies, false_implies, not_true_eq_false, not_false_eq_true, Option.map, reduceCtorEq, reduceIte, or_true, true_or, false_or, or_false, false_and, and_false, List.map, List.append_nil, implies_true, yK, Nat.reduceBEq, beq_self_eq_true, Int.zero_ne_one, Nat.reduceDiv, Nat.reduceMod, Nat.reduceAdd, Nat.reduceSub, Nat.reduceMul, Nat.reduceEqDiff, Nat.reduceLeDiff, Int.reduceToNat, Int.reduceNeg, Int.reduceEq, Int.reduceLT, Int.reduceLE, Int.reduceNatCast, Int.reduceNatCast', Int.reduceAdd, Int.reduceSub, Int.reduceMul, eq_self, Prod.mk.injEq, A_X9_took, V_X9_took, B_X9_took, Y_X9_took, C_X9_isLeaf, C_X9_isPart, A_X9_isPart, V_X9_isPart, B_X9_isPart, Y_X9_isPart, C_X9_in, C_X9_tookBy, shpT, rfsT, wjq_s, look, m16]
      have fin : τ 67 0 ≤ q → Q [vI (tkf T b p q.toNat)] τ := fun h => by
        have e : q = τ 67 0 := by omega
        exact hQ _ _ (by rw [if_neg (fun z => z hl), if_neg (fun z => z hb), if_neg (fun z => z hk), e]) rfl
      have et : tkb (yM τ) (τ 70) (τ 72) (τ 69) p i q = T q := by rw [hT]
      simp only [et]
      have nx : ∀ v, ¬ τ 67 0 ≤ q → v = tks b (tkf T b p q.toNat) (tkv T p q) → i32 (q + 1) ∧ ∃ m_1, m_1 < m ∧ P46 m_1 [] [vR 67, vI p, vI i, vI b, vI v, vI (q + 1)] τ := fun v h hv => by
        rw [hP46]
        exact ⟨⟨by omega, by omega⟩, _, by omega, q + 1, rfl, by rw [hv, tkf_s q0], rfl, hl, hb, hk, by omega, by omega, rfl⟩
      have kp : ¬ q = p → tkv T p q = T q := fun h => if_neg h
      have kn : q = p → tkv T p q = -1 := fun h => if_pos h
      clear et hP46
      generalize tkf T b p q.toNat = a at *
      have tk : ¬ q = p → ¬ T q = -1 → (a = -1 ∨ (b = 0 ∧ T q < a) ∨ (¬ b = 0 ∧ a < T q)) → T q = tks b a (tkv T p q) := fun h h1 h2 => by
        rw [kp h]; unfold tks; rw [if_pos ⟨h1, h2⟩]
      have kk : ¬ q = p → ¬ (¬ T q = -1 ∧ (a = -1 ∨ (b = 0 ∧ T q < a) ∨ (¬ b = 0 ∧ a < T q))) → a = tks b a (tkv T p q) := fun h h1 => by
        rw [kp h]; unfold tks; rw [if_neg h1]
      have k0 : q = p → a = tks b a (tkv T p q) := fun h => by
        rw [kn h]; unfold tks; rw [if_neg (fun z => z.1 rfl)]
      refine ⟨fin, fun h => ⟨fun h1 => ⟨⟨⟨by omega, by omega⟩, ⟨by omega, by omega⟩, hl.2.2, hs, hPI, hTI, hk⟩, fun h2 => nx _ h (kk h1 (fun z => z.1 h2)), fun h2 => ⟨fun h3 => nx _ h (tk h1 h2 (Or.inl h3)), fun h3 => ⟨fun h4 => ⟨fun h5 => nx _ h (kk h1 (fun z => by omega)), fun h5 => nx _ h (tk h1 h2 (Or.inr (Or.inr ⟨h4, by omega⟩)))⟩, fun h4 => ⟨fun h5 => nx _ h (kk h1 (fun z => by omega)), fun h5 => nx _ h (tk h1 h2 (Or.inr (Or.inl ⟨by omega, by omega⟩)))⟩⟩⟩⟩, fun h1 => nx _ h (k0 (Classical.not_not.mp h1))⟩⟩
    · simp only [sq_iconst, sq_jsr, sq_anewarray, sq_iload, sq_lload, sq_aload, sq_istore, sq_lstore, sq_astore, sq_iinc, sq_getfield, st_put0, st_put1, st_put3, sq_inv, sq_goto, sq_icmp, sq_ifc, sq_tsw, sq_iadd, sq_isub, sq_imul, sq_ineg, sq_idiv, sq_irem, sq_iand, sq_ior, sq_ixor, sq_ishl, sq_ishr, sq_iushr, sq_ladd, sq_lmul, sq_ldiv, sq_lrem, sq_land, sq_lor, sq_lshl, sq_lushr, sq_lcmp, sq_i2l, sq_l2i, sq_i2c, sq_i2b, sq_dupI, sq_dupR, sq_dup2, sq_pop, sq_iaload, sq_baload, sq_aaload, sq_iastore, sq_bastore, sq_alen, sq_ireturn, sq_lreturn, sq_return, wq_c, wq_n, wlq_s, lkp, tbl, dBk, nth, setL, canSet, cmpI, tk, swK, rdF, entL, catS, cat1, arg, rcv, ald, bld, aln, br, Ccopy, Cmax, Cmin, Cabs, List.take, List.drop, List.reverse, List.reverseAux, List.length, List.append, List.nil_append, List.cons_append, true_and, and_true, and_self, forall_const, true_implies, false_implies, not_true_eq_false, not_false_eq_true, Option.map, reduceCtorEq, reduceIte, or_true, true_or, false_or, or_false, false_and, and_false, List.map, List.append_nil, implies_true, yK, Nat.reduceBEq, beq_self_eq_true, Int.zero_ne_one, Nat.reduceDiv, Nat.reduceMod, Nat.reduceAdd, Nat.reduceSub, Nat.reduceMul, Nat.reduceEqDiff, Nat.reduceLeDiff, Int.reduceToNat, Int.reduceNeg, Int.reduceEq, Int.reduceLT, Int.reduceLE, Int.reduceNatCast, Int.reduceNatCast', Int.reduceAdd, Int.reduceSub, Int.reduceMul, eq_self, Prod.mk.injEq, A_X9_took, V_X9_took, B_X9_took, Y_X9_took, C_X9_isLeaf, C_X9_isPart, A_X9_isPart, V_X9_isPart, B_X9_isPart, Y_X9_isPart, C_X9_in, C_X9_tookBy, shpT, rfsT, wjq_s, look, m16]
      rw [hP46]
      refine ⟨⟨hn, hs⟩, fun hl => ⟨fun hb => ?_, fun hb => hQ _ _ (by rw [if_neg (fun z => z hl), if_pos hb]) rfl⟩, fun hl => hQ _ _ (by rw [if_pos hl]) rfl⟩
      have sp := hs p hl.1 (by omega)
      exact ⟨⟨by omega, by omega⟩, ⟨by omega, by omega⟩, ⟨by omega, by omega⟩, fun hk => ⟨_, 0, rfl, rfl, rfl, hl, hb, hk, (by omega), hn.1, rfl⟩, fun hk => hQ _ _ (by rw [if_neg (fun z => z hl), if_neg (fun z => z hb), if_pos hk]) rfl⟩
theorem op_took {σ : Sto} (hR : Rel σ) {a b c : Int} {κ : List AV → Sto → Prop} (hκ : ∀ v τ, Mid C_X9_took [vR 67, vI a, vI b, vI c] (σ 102) v τ → κ [vI v] τ) : C_X8_took [vR 0, vI a, vI b, vI c] σ κ := by
  obtain ⟨⟨c1, c2, c3, c4, c5, c6, c7, c8, c9, c10, c11, c12, c13, c14, c15, c16⟩, ⟨e1, e2, e3, e4, e5, e6, e7, e8, e9, e10, e11, e12, e13, e14, e15⟩, ⟨g1, g2, g3, g4⟩, ⟨h1, h2, h3, h4, h5, h6⟩, ⟨l1, l2, l3, l4⟩, hImg, ⟨n1, n2, n3, n4⟩⟩ := id hR
  refine ⟨⟨c1, c2, c3, h3⟩, hκ _ _ (fun κ' hκ' => ⟨by rw [e1, e5, e6, e8]; exact ⟨c1, c2, c3, h4⟩, ?_⟩)⟩
  rw [e1, e5, e6, e8]
  have e : (if ¬ (0 ≤ a ∧ a < σ 1 0 ∧ 0 ≤ b ∧ b < σ 12 a) then -101 else if ¬ (0 ≤ c ∧ c ≤ 1) then -102 else if ¬ σ 13 (a * 16 + b) = 4 then -103 else tkf (fun q => tkb (yM σ) (σ 13) (σ 15) (σ 12) a b q) c a (σ 1 0).toNat) = (if ¬ (0 ≤ a ∧ a < σ 1 0 ∧ 0 ≤ b ∧ b < σ 12 a) then -101 else if ¬ (0 ≤ c ∧ c ≤ 1) then -102 else if ¬ σ 13 (a * 16 + b) = 4 then -103 else tkf (fun q => tkb (yC σ) (σ 13) (σ 15) (σ 12) a b q) c a (σ 1 0).toNat) := by
    by_cases q : 0 ≤ a ∧ a < σ 1 0 ∧ 0 ≤ b ∧ b < σ 12 a
    · rw [tkf_c (T' := fun q => tkb (yC σ) (σ 13) (σ 15) (σ 12) a b q) _ (fun x x0 x1 _ => ?_)]
      refine tkb_c ⟨by omega, by omega⟩ ⟨by omega, by omega⟩ q.2.2.1 (c2 a q.1 (by omega)).2 (c2 x x0 (by omega)) (fun p n p0 p1 n0 n1 => ?_)
      unfold yM yC
      rw [e6, e8, Rel_h2 hR (d := -1) (p := p) (n := n) ⟨by omega, by omega⟩ ⟨p0, p1⟩ ⟨n0, n1⟩]
      rfl
    · rw [if_pos q, if_pos q]
  rw [e]
  exact hκ' _ hR rfl

