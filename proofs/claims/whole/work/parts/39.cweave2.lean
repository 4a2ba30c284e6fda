-- ===== the class weaves, on =====
def KSd (ay : Int → Int) (N n P : Int) : Kn := fun a b lo hi => ∃ p, a = ff (haP ay n) 0 N.toNat ∧ ¬ a = -1 ∧ a < p ∧ p < P ∧ ¬ ay (p * 10 + n) = -1 ∧ b = p ∧ lo = ay (a * 10 + n) - ay (p * 10 + n) ∧ hi = ay (a * 10 + n) - ay (p * 10 + n)
theorem NoM_mono {K K' : Kn} (h : ∀ a b lo hi, K a b lo hi → K' a b lo hi) (hn : NoM K) : NoM K' := fun M hM hA => hn M hM (fun a b lo hi k => hA a b lo hi (h a b lo hi k))
theorem KSd_s {ay : Int → Int} {N n p a b lo hi : Int} : KSd ay N n (p + 1) a b lo hi ↔ KSd ay N n p a b lo hi ∨ (a = ff (haP ay n) 0 N.toNat ∧ ¬ a = -1 ∧ a < p ∧ ¬ ay (p * 10 + n) = -1 ∧ b = p ∧ lo = ay (a * 10 + n) - ay (p * 10 + n) ∧ hi = ay (a * 10 + n) - ay (p * 10 + n)) := by
  constructor
  · rintro ⟨q, h1, h2, h3, h4, h5⟩
    by_cases e : q = p
    · subst e; exact Or.inr ⟨h1, h2, h3, h5⟩
    · exact Or.inl ⟨q, h1, h2, h3, by omega, h5⟩
  · rintro (⟨q, h1, h2, h3, h4, h5⟩ | ⟨h1, h2, h3, h5⟩)
    · exact ⟨q, h1, h2, h3, by omega, h5⟩
    · exact ⟨p, h1, h2, h3, by omega, h5⟩
theorem KSd_mono {ay : Int → Int} {N n p p' a b lo hi : Int} (hp : p ≤ p') : KSd ay N n p a b lo hi → KSd ay N n p' a b lo hi := by
  rintro ⟨q, h1, h2, h3, h4, h5⟩
  exact ⟨q, h1, h2, h3, by omega, h5⟩
def A_X3_bindAshes : List (Nat × Ctr) := [(2, rcv 3 3 C_X3_firstPitWithAsh), (3, rcv 3 3 C_X3_hasAsh), (5, arg 5 C_X3_bind)]
theorem e_X3_bindAshes (o : OM) : Ev o Y_X3_bindAshes 2 T_X3_bindAshes A_X3_bindAshes := ⟨rfl, List.forall_mem_cons.mpr ⟨Or.inl f_X3_51, List.forall_mem_cons.mpr ⟨Or.inl f_X3_85, List.forall_mem_cons.mpr ⟨Or.inl f_X3_26, List.forall_mem_cons.mpr ⟨Or.inl f_X3_15, fun _ h => absurd h List.not_mem_nil⟩⟩⟩⟩, fun _ h => absurd h List.not_mem_nil, fun _ h => absurd h List.not_mem_nil, fun _ h => absurd h List.not_mem_nil, List.forall_mem_cons.mpr ⟨cl_X3_firstPitWithAsh (s_X3_firstPitWithAsh o) (by decide) (Or.inl w_850), List.forall_mem_cons.mpr ⟨cl_X3_hasAsh (s_X3_hasAsh o) (by decide) (Or.inl w_854), fun _ h => absurd h List.not_mem_nil⟩⟩, List.forall_mem_cons.mpr ⟨cl_X3_bind (s_X3_bind o) (by decide) (Or.inl w_858), fun _ h => absurd h List.not_mem_nil⟩⟩
def C_X3_bindAshes : Ctr := fun A σ κ => match A with
  | [.inr (.inr (.inl 10)), .inl n] => ((0 ≤ σ 1 0 ∧ σ 1 0 ≤ 7) ∧ (0 ≤ n ∧ n < 10) ∧ (∀ p x, 0 ≤ p → p < 7 → 0 ≤ x → x < 10 → -1 ≤ σ 65 (p * 10 + x) ∧ σ 65 (p * 10 + x) ≤ 144)) ∧ ∃ K : Kn, NetK K (σ 49) ∧ (∀ τ : Sto, (∀ p : Nat, p ≠ 49 → τ p = σ p) → NetK (orK K (KSd (σ 65) (σ 1 0) n (σ 1 0))) (τ 49) → κ [vI 1] τ) ∧ (∀ τ : Sto, (∀ p : Nat, p ≠ 49 → τ p = σ p) → NoM (orK K (KSd (σ 65) (σ 1 0) n (σ 1 0))) → κ [vI 0] τ)
  | _ => False
set_option maxRecDepth 20000 in
theorem s_X3_bindAshes (o : OM) : Sound o Y_X3_bindAshes 2 C_X3_bindAshes := by
  intro Q A σ hA hC
  match A, hA, hC with
  | [.inr (.inr (.inl 10)), .inl n], hA, hC =>
    obtain ⟨h0, hq⟩ : ((0 ≤ σ 1 0 ∧ σ 1 0 ≤ 7) ∧ (0 ≤ n ∧ n < 10) ∧ (∀ p x, 0 ≤ p → p < 7 → 0 ≤ x → x < 10 → -1 ≤ σ 65 (p * 10 + x) ∧ σ 65 (p * 10 + x) ≤ 144)) ∧ ∃ K : Kn, NetK K (σ 49) ∧ (∀ τ : Sto, (∀ p : Nat, p ≠ 49 → τ p = σ p) → NetK (orK K (KSd (σ 65) (σ 1 0) n (σ 1 0))) (τ 49) → Q [vI 1] τ) ∧ (∀ τ : Sto, (∀ p : Nat, p ≠ 49 → τ p = σ p) → NoM (orK K (KSd (σ 65) (σ 1 0) n (σ 1 0))) → Q [vI 0] τ) := hC
    obtain ⟨hn, hx, hy⟩ := h0
    obtain ⟨K, hK, hq1, hq2⟩ := hq
    obtain ⟨one, hone⟩ : ∃ o, o = ff (haP (σ 65) n) 0 (σ 1 0).toNat := ⟨_, rfl⟩
    have on1 : one = -1 ∨ (0 ≤ one ∧ one < σ 1 0 ∧ ¬ σ 65 (one * 10 + n) = -1) := by
      rw [hone]
      rcases ff_in (P := haP (σ 65) n) (σ 1 0).toNat 0 with h | ⟨h1, h2, h3⟩
      · exact Or.inl h
      · exact Or.inr ⟨h1, by omega, of_decide_eq_true h3⟩
    obtain ⟨P10, hP10⟩ : ∃ P : Nat → List AV → List AV → Sto → Prop, P = fun m S L τ => ∃ p : Int, S = [] ∧ L = [vR 10, vI n, vI one, vI p] ∧ (∀ p : Nat, p ≠ 49 → τ p = σ p) ∧ one + 1 ≤ p ∧ p ≤ σ 1 0 ∧ NetK (orK K (KSd (σ 65) (σ 1 0) n p)) (τ 49) ∧ m = (7 - p).toNat := ⟨_, rfl⟩
    refine at_meth (lv := V_X3_bindAshes) (B := B_X3_bindAshes) (e_X3_bindAshes o) k_X3_bindAshes 5 [(10, P10)] (List.forall_mem_cons.mpr ⟨?_, fun _ h => absurd h List.not_mem_nil⟩) 0 [] _ σ ?_
    · intro m S L τ hI
      rw [hP10] at hI
      obtain ⟨p, rfl, rfl, he, p0, p1, hg, hm⟩ := hI
      simp only [sq_iconst, sq_jsr, sq_anewarray, sq_iload, sq_lload, sq_aload, sq_istore, sq_lstore, sq_astore, sq_iinc, sq_getfield, st_put0, st_put1, st_put3, sq_inv, sq_goto, sq_icmp, sq_ifc, sq_tsw, sq_iadd, sq_isub, sq_imul, sq_ineg, sq_idiv, sq_irem, sq_iand, sq_ior, sq_ixor, sq_ishl, sq_ishr, sq_iushr, sq_ladd, sq_lmul, sq_ldiv, sq_lrem, sq_land, sq_lor, sq_lshl, sq_lushr, sq_lcmp, sq_i2l, sq_l2i, sq_i2c, sq_i2b, sq_dupI, sq_dupR, sq_dup2, sq_pop, sq_iaload, sq_baload, sq_aaload, sq_iastore, sq_bastore, sq_alen, sq_ireturn, sq_lreturn, sq_return, wq_c, wq_n, wlq_s, lkp, tbl, dBk, nth, setL, canSet, cmpI, tk, swK, rdF, entL, catS, cat1, arg, rcv, ald, bld, aln, br, Ccopy, Cmax, Cmin, Cabs, List.take, List.drop, List.reverse, List.reverseAux, List.length, List.append, List.nil_append, List.cons_append, true_and, and_true, and_self, forall_const, true_implies, false_implies, not_true_eq_false, not_false_eq_true, Option.map, reduceCtorEq, reduceIte, or_true, true_or, false_or, or_false, false_and, and_false, List.map, List.append_nil, implies_true, yK, Nat.reduceBEq, beq_self_eq_true, Int.zero_ne_one, Nat.reduceDiv, Nat.reduceMod, Nat.reduceAdd, Nat.reduceSub, Nat.reduceMul, Nat.reduceEqDiff, Nat.reduceLeDiff, Int.reduceToNat, Int.reduceNeg, Int.reduceEq, Int.reduceLT, Int.reduceLE, Int.reduceNatCast, Int.reduceNatCast', Int.reduceAdd, Int.reduceSub, Int.reduceMul, eq_self, Prod.mk.injEq, A_X3_bindAshes, V_X3_bindAshes, B_X3_bindAshes, Y_X3_bindAshes, C_X3_firstPitWithAsh, C_X3_hasAsh, C_X3_bind, shpT, rfsT, wjq_s, look, he 1 (by decide), he 65 (by decide)]
      refine ⟨fun h => hq1 τ he (NetK_same (sameK_of (fun a b lo hi => ?_)) hg), fun h => ⟨fun h1 => hq1 τ he ?_, fun h1 => ⟨⟨⟨by omega, by omega⟩, hx⟩, fun h2 => ?_, fun h2 => ⟨⟨by omega, by omega⟩, ?_⟩⟩⟩⟩
      · unfold orK
        constructor
        · rintro (z | ⟨q, z1, z2, -⟩)
          · exact Or.inl z
          · exact absurd (by rw [z1, ← hone, h]) z2
        · rintro (z | ⟨q, z1, z2, -⟩)
          · exact Or.inl z
          · exact absurd (by rw [z1, ← hone, h]) z2
      · have : p = σ 1 0 := by omega
        rw [this] at hg
        exact hg
      · have o2 := on1.resolve_left h
        have y1 := hy one n o2.1 (by omega) hx.1 hx.2
        have y2 := hy p n (by omega) (by omega) hx.1 hx.2
        have n1 : nd one := ⟨by omega, by omega⟩
        have n2 : nd p := ⟨by omega, by omega⟩
        obtain ⟨E, e1, e2⟩ := id hg
        have kx : ∀ a b lo hi, addK (orK K (KSd (σ 65) (σ 1 0) n p)) one p (σ 65 (one * 10 + n) - σ 65 (p * 10 + n)) (σ 65 (one * 10 + n) - σ 65 (p * 10 + n)) a b lo hi ↔ orK K (KSd (σ 65) (σ 1 0) n (p + 1)) a b lo hi := by
          intro a b lo hi
          unfold addK orK
          rw [KSd_s, or_assoc, ← hone]
          constructor
          · rintro (z | z | ⟨rfl, rfl, rfl, rfl⟩)
            · exact Or.inl z
            · exact Or.inr (Or.inl z)
            · exact Or.inr (Or.inr ⟨rfl, h, by omega, h2, rfl, rfl, rfl⟩)
          · rintro (z | z | ⟨rfl, z1, z2, z3, rfl, rfl, rfl⟩)
            · exact Or.inl z
            · exact Or.inr (Or.inl z)
            · exact Or.inr (Or.inr ⟨rfl, rfl, rfl, rfl⟩)
        refine ⟨⟨by omega, by omega⟩, ⟨by omega, by omega⟩, ⟨by omega, by omega⟩, ⟨by omega, by omega⟩, ⟨by omega, by omega⟩, ⟨by omega, by omega⟩, ⟨by omega, by omega⟩, ⟨n1, n2, (by omega), (by omega)⟩, E, e1, fun τ' hf hN => ⟨⟨by omega, by omega⟩, ?_⟩, fun τ' hf hN => ?_⟩
        · rw [hP10]
          refine ⟨_, ?_, p + 1, rfl, rfl, fun y hy => by rw [hf y hy, he y hy], (by omega), (by omega), NetK_same (sameK_of kx) ⟨_, hN, NetK_add e2⟩, rfl⟩
          omega
        · refine hq2 τ' (fun y hy => by rw [hf y hy, he y hy]) (NoM_mono (fun a b lo hi z => ?_) (fun M hb hp => hN M ((NetK_add e2 M).mpr ⟨hb, hp⟩)))
          exact ((kx a b lo hi).mp z).elim Or.inl (fun z => Or.inr (KSd_mono (by omega) z))
      · rw [hP10]
        refine ⟨_, ?_, p + 1, rfl, rfl, he, (by omega), (by omega), NetK_same (sameK_of (fun a b lo hi => ?_)) hg, rfl⟩
        · omega
        · unfold orK
          rw [KSd_s]
          exact ⟨fun z => z.elim Or.inl (fun z => Or.inr (Or.inl z)), fun z => z.elim Or.inl (fun z => z.elim Or.inr (fun z => absurd (Classical.not_not.mp h2) z.2.2.2.1))⟩
    · simp only [sq_iconst, sq_jsr, sq_anewarray, sq_iload, sq_lload, sq_aload, sq_istore, sq_lstore, sq_astore, sq_iinc, sq_getfield, st_put0, st_put1, st_put3, sq_inv, sq_goto, sq_icmp, sq_ifc, sq_tsw, sq_iadd, sq_isub, sq_imul, sq_ineg, sq_idiv, sq_irem, sq_iand, sq_ior, sq_ixor, sq_ishl, sq_ishr, sq_iushr, sq_ladd, sq_lmul, sq_ldiv, sq_lrem, sq_land, sq_lor, sq_lshl, sq_lushr, sq_lcmp, sq_i2l, sq_l2i, sq_i2c, sq_i2b, sq_dupI, sq_dupR, sq_dup2, sq_pop, sq_iaload, sq_baload, sq_aaload, sq_iastore, sq_bastore, sq_alen, sq_ireturn, sq_lreturn, sq_return, wq_c, wq_n, wlq_s, lkp, tbl, dBk, nth, setL, canSet, cmpI, tk, swK, rdF, entL, catS, cat1, arg, rcv, ald, bld, aln, br, Ccopy, Cmax, Cmin, Cabs, List.take, List.drop, List.reverse, List.reverseAux, List.length, List.append, List.nil_append, List.cons_append, true_and, and_true, and_self, forall_const, true_implies, false_implies, not_true_eq_false, not_false_eq_true, Option.map, reduceCtorEq, reduceIte, or_true, true_or, false_or, or_false, false_and, and_false, List.map, List.append_nil, implies_true, yK, Nat.reduceBEq, beq_self_eq_true, Int.zero_ne_one, Nat.reduceDiv, Nat.reduceMod, Nat.reduceAdd, Nat.reduceSub, Nat.reduceMul, Nat.reduceEqDiff, Nat.reduceLeDiff, Int.reduceToNat, Int.reduceNeg, Int.reduceEq, Int.reduceLT, Int.reduceLE, Int.reduceNatCast, Int.reduceNatCast', Int.reduceAdd, Int.reduceSub, Int.reduceMul, eq_self, Prod.mk.injEq, A_X3_bindAshes, V_X3_bindAshes, B_X3_bindAshes, Y_X3_bindAshes, C_X3_firstPitWithAsh, C_X3_hasAsh, C_X3_bind, shpT, rfsT, wjq_s, look, ← hone]
      rw [hP10]
      refine ⟨⟨hn, hx⟩, ⟨by omega, by omega⟩, _, one + 1, rfl, rfl, fun _ _ => rfl, (by omega), (by omega), NetK_same (sameK_of (fun a b lo hi => ?_)) hK, rfl⟩
      refine ⟨Or.inl, fun z => z.elim id ?_⟩
      rintro ⟨q, z1, z2, z3, z4, -⟩
      rw [← hone] at z1
      omega
def KSA (ay : Int → Int) (N n : Int) : Kn := fun a b lo hi => ∃ x, 0 ≤ x ∧ x < n ∧ KSd ay N x N a b lo hi
theorem KSA_s {ay : Int → Int} {N n a b lo hi : Int} (h : 0 ≤ n) : KSA ay N (n + 1) a b lo hi ↔ orK (KSA ay N n) (KSd ay N n N) a b lo hi := by
  constructor
  · rintro ⟨x, h1, h2, h3⟩
    by_cases e : x = n
    · subst e; exact Or.inr h3
    · exact Or.inl ⟨x, h1, by omega, h3⟩
  · rintro (⟨x, h1, h2, h3⟩ | h3)
    · exact ⟨x, h1, by omega, h3⟩
    · exact ⟨n, h, by omega, h3⟩
theorem AllC_or {K K' : Kn} {M : Mx} : AllC (orK K K') M ↔ AllC K M ∧ AllC K' M := ⟨fun h => ⟨fun a b lo hi k => h a b lo hi (Or.inl k), fun a b lo hi k => h a b lo hi (Or.inr k)⟩, fun h a b lo hi k => k.elim (h.1 a b lo hi) (h.2 a b lo hi)⟩
theorem ff_le {P : Int → Bool} : ∀ (n : Nat) (lo c : Int), lo ≤ c → c < lo + n → P c = true → ff P lo n ≤ c
  | 0, lo, c, h1, h2, _ => by omega
  | n + 1, lo, c, h1, h2, h3 => by
    unfold ff
    split
    · exact h1
    · rename_i h4
      by_cases e : lo = c
      · rw [e, h3] at h4
        exact absurd rfl h4
      · exact ff_le n (lo + 1) c (by omega) (by omega) h3
def KAc (σ : Sto) : Kn := KA (fun q p x => ¬ σ 2 10 = 0 ∧ bef (σ 1 0) 0 0 q p x) (asM (σ 13) (σ 15) (σ 12)) (yrM (σ 13) (σ 15) (σ 12))
theorem ayC_y {σ : Sto} {p x : Int} (hl : ¬ σ 2 10 = 0) (hp : p < σ 1 0) (h : ¬ asM (σ 13) (σ 15) (σ 12) p x = -1) : ayC σ p x = yrM (σ 13) (σ 15) (σ 12) p x := if_pos ⟨hl, hp, h⟩
theorem ayC_n {σ : Sto} {p x : Int} (h : ¬ ayC σ p x = -1) : ¬ σ 2 10 = 0 ∧ p < σ 1 0 ∧ ¬ asM (σ 13) (σ 15) (σ 12) p x = -1 := by
  unfold ayC at h
  split at h
  · assumption
  · exact absurd rfl h
/-- where a pit of an ash stands, the first one does; each of the later ones is bound to it -/
theorem star {σ : Sto} {ay : Int → Int} (hI : NIc σ) (ha : ∀ p x, 0 ≤ p → p < 7 → 0 ≤ x → x < 10 → ay (p * 10 + x) = ayC σ p x) {q p x : Int} (hq : 0 ≤ q) (hqp : q < p) (hx : 0 ≤ x ∧ x < 10) (hl : ¬ σ 2 10 = 0) (hp : p < σ 1 0) (h1 : ¬ asM (σ 13) (σ 15) (σ 12) q x = -1) (h2 : ¬ asM (σ 13) (σ 15) (σ 12) p x = -1) :
    ∃ one, 0 ≤ one ∧ one ≤ q ∧ ¬ asM (σ 13) (σ 15) (σ 12) one x = -1 ∧ (one < q → KSA ay (σ 1 0) 10 one q (yrM (σ 13) (σ 15) (σ 12) one x - yrM (σ 13) (σ 15) (σ 12) q x) (yrM (σ 13) (σ 15) (σ 12) one x - yrM (σ 13) (σ 15) (σ 12) q x)) ∧ KSA ay (σ 1 0) 10 one p (yrM (σ 13) (σ 15) (σ 12) one x - yrM (σ 13) (σ 15) (σ 12) p x) (yrM (σ 13) (σ 15) (σ 12) one x - yrM (σ 13) (σ 15) (σ 12) p x) := by
  obtain ⟨hn, hJ, hs, hPI, hTI, hpl, hji, hti⟩ := hI
  have gd : ∀ c, 0 ≤ c → c < σ 1 0 → ¬ asM (σ 13) (σ 15) (σ 12) c x = -1 → ay (c * 10 + x) = yrM (σ 13) (σ 15) (σ 12) c x ∧ ¬ ay (c * 10 + x) = -1 := by
    intro c c0 c1 c2
    have y := yrM_in hPI ⟨c0, by omega⟩ (hs c c0 (by omega)) c2
    rw [ha c x c0 (by omega) hx.1 hx.2, ayC_y hl c1 c2]
    exact ⟨rfl, by omega⟩
  have gq := gd q hq (by omega) h1
  have gp := gd p (by omega) hp h2
  have pq : haP ay x q = true := decide_eq_true gq.2
  have le := ff_le (P := haP ay x) (σ 1 0).toNat 0 q hq (by omega) pq
  have ne := ff_ex1 (P := haP ay x) (σ 1 0).toNat 0 q (by omega) hq (by omega) pq
  have i1 := (ff_in (P := haP ay x) (σ 1 0).toNat 0).resolve_left ne
  generalize hone : ff (haP ay x) 0 (σ 1 0).toNat = one at *
  have i3 : ¬ ay (one * 10 + x) = -1 := of_decide_eq_true i1.2.2
  have i4 : ¬ asM (σ 13) (σ 15) (σ 12) one x = -1 := by
    rw [ha one x i1.1 (by omega) hx.1 hx.2] at i3
    exact (ayC_n i3).2.2
  have go := gd one i1.1 (by omega) i4
  refine ⟨one, i1.1, le, i4, fun c => ⟨x, hx.1, hx.2, q, hone.symm, by omega, c, by omega, gq.2, rfl, by rw [go.1, gq.1], by rw [go.1, gq.1]⟩, ⟨x, hx.1, hx.2, p, hone.symm, by omega, by omega, by omega, gp.2, rfl, by rw [go.1, gp.1], by rw [go.1, gp.1]⟩⟩
theorem star_in {σ : Sto} {ay : Int → Int} (hI : NIc σ) (ha : ∀ p x, 0 ≤ p → p < 7 → 0 ≤ x → x < 10 → ay (p * 10 + x) = ayC σ p x) {a b lo hi : Int} (h : KSA ay (σ 1 0) 10 a b lo hi) : KAc σ a b lo hi := by
  obtain ⟨x, x0, x1, p, h1, h2, h3, h4, h5, rfl, h6, h7⟩ := h
  have hn := hI.1
  have i1 := (ff_in (P := haP ay x) (σ 1 0).toNat 0).resolve_left (by rw [← h1]; exact h2)
  rw [← h1] at i1
  have i3 : ¬ ay (a * 10 + x) = -1 := of_decide_eq_true i1.2.2
  rw [ha a x i1.1 (by omega) x0 x1] at i3 h6 h7
  rw [ha b x (by omega) (by omega) x0 x1] at h5 h6 h7
  have g1 := ayC_n i3
  have g2 := ayC_n h5
  rw [ayC_y g1.1 g1.2.1 g1.2.2, ayC_y g2.1 g2.2.1 g2.2.2] at h6 h7
  exact ⟨a, b, x, ⟨g1.1, by unfold bef; omega⟩, g1.2.2, g2.2.2, rfl, rfl, h6, h7⟩
theorem star_same {σ : Sto} {ay : Int → Int} (hI : NIc σ) (ha : ∀ p x, 0 ≤ p → p < 7 → 0 ≤ x → x < 10 → ay (p * 10 + x) = ayC σ p x) (T : Kn) : sameK (orK (KSA ay (σ 1 0) 10) T) (orK T (KAc σ)) := by
  intro M hM
  rw [AllC_or, AllC_or]
  refine ⟨fun h => ⟨h.2, ?_⟩, fun h => ⟨fun a b lo hi k => h.2 a b lo hi (star_in hI ha k), h.1⟩⟩
  rintro a b lo hi ⟨q, p, x, ⟨hl, hb⟩, h1, h2, rfl, rfl, rfl, rfl⟩
  unfold bef at hb
  have hn := hI.1
  obtain ⟨one, o1, o2, o3, k1, k2⟩ := star hI ha hb.1 hb.2.1 ⟨hb.2.2.1, hb.2.2.2.1⟩ hl (by omega) h1 h2
  have c2 := h.1 _ _ _ _ k2
  by_cases e : one = a
  · rw [← e]; exact c2
  · have c1 := h.1 _ _ _ _ (k1 (by omega))
    have n1 : nd one := ⟨by omega, by omega⟩
    have n2 : nd a := ⟨by omega, by omega⟩
    have n3 : nd b := ⟨by omega, by omega⟩
    have t1 := ole_trans (hM.2 a one b n2 n1 n3) (oad_mono c1.2 c2.1)
    have t2 := ole_trans (hM.2 b one a n3 n1 n2) (oad_mono c2.2 c1.1)
    refine ⟨ole_trans t1 ?_, ole_trans t2 ?_⟩ <;> simp only [oad, ole] <;> omega
def KTc (σ : Sto) : Kn := KT (tdC σ) (σ 1 0) (σ 21) (σ 22)
def KF (σ : Sto) : Kn := orK (KTc σ) (KAc σ)
/-- the class's own state stands at places up to 38 -/
def lo38 (τ σ : Sto) : Prop := ∀ p : Nat, p ≤ 38 → ¬ p = 10 → τ p = σ p
theorem NIc_e {τ σ : Sto} (h : lo38 τ σ) (hI : NIc σ) : NIc τ := by
  unfold NIc tdC at *
  simp only [h 1 (by decide) (by decide), h 2 (by decide) (by decide), h 12 (by decide) (by decide), h 13 (by decide) (by decide), h 15 (by decide) (by decide), h 37 (by decide) (by decide), h 16 (by decide) (by decide), h 17 (by decide) (by decide), h 18 (by decide) (by decide), h 19 (by decide) (by decide), h 21 (by decide) (by decide), h 22 (by decide) (by decide)]
  exact hI
theorem ayC_e {τ σ : Sto} (h : lo38 τ σ) : ayC τ = ayC σ := by
  funext p x
  unfold ayC
  simp only [h 1 (by decide) (by decide), h 2 (by decide) (by decide), h 12 (by decide) (by decide), h 13 (by decide) (by decide), h 15 (by decide) (by decide)]
theorem KF_e {τ σ : Sto} (h : lo38 τ σ) : KF τ = KF σ := by
  unfold KF KTc KAc tdC
  simp only [h 1 (by decide) (by decide), h 2 (by decide) (by decide), h 12 (by decide) (by decide), h 13 (by decide) (by decide), h 15 (by decide) (by decide), h 21 (by decide) (by decide), h 22 (by decide) (by decide)]
theorem ayC_in {σ : Sto} (hI : NIc σ) {p x : Int} (h0 : 0 ≤ p) (h1 : p < 7) : -1 ≤ ayC σ p x ∧ ayC σ p x ≤ 144 := by
  by_cases c : ayC σ p x = -1
  · omega
  · have g := ayC_n c
    rw [ayC_y g.1 g.2.1 g.2.2]
    have := yrM_in hI.2.2.2.1 ⟨h0, h1⟩ (hI.2.2.1 p h0 h1) g.2.2
    omega
def A_X3_weaveFixed : List (Nat × Ctr) := [(2, arg 4 C_J7_fill_53178), (1, rcv 3 6 C_X3_findAshes), (2, rcv 3 5 C_X3_bindAshes), (2, rcv 0 2 C_X0_isTied), (5, arg 5 C_X3_bind)]
theorem e_X3_weaveFixed (o : OM) : Ev o Y_X3_weaveFixed 3 T_X3_weaveFixed A_X3_weaveFixed := ⟨rfl, List.forall_mem_cons.mpr ⟨Or.inl f_X3_15, List.forall_mem_cons.mpr ⟨Or.inl f_X3_51, List.forall_mem_cons.mpr ⟨Or.inl f_X3_85, List.forall_mem_cons.mpr ⟨Or.inl f_X3_59, List.forall_mem_cons.mpr ⟨Or.inl f_X3_95, List.forall_mem_cons.mpr ⟨Or.inl f_X3_98, fun _ h => absurd h List.not_mem_nil⟩⟩⟩⟩⟩⟩, List.forall_mem_cons.mpr ⟨⟨w_837, by decide, by decide⟩, fun _ h => absurd h List.not_mem_nil⟩, fun _ h => absurd h List.not_mem_nil, fun _ h => absurd h List.not_mem_nil, List.forall_mem_cons.mpr ⟨cl_X3_findAshes (s_X3_findAshes o) (by decide) (Or.inl w_839), List.forall_mem_cons.mpr ⟨cl_X3_bindAshes (s_X3_bindAshes o) (by decide) (Or.inl w_846), List.forall_mem_cons.mpr ⟨cl_X0_isTied (s_X0_isTied o) (by decide) (Or.inr ⟨_, wn_90⟩), fun _ h => absurd h List.not_mem_nil⟩⟩⟩, List.forall_mem_cons.mpr ⟨cl_J7_fill_53178 (s_J7_fill_53178 o) (by decide) (Or.inl w_838), List.forall_mem_cons.mpr ⟨cl_X3_bind (s_X3_bind o) (by decide) (Or.inl w_858), fun _ h => absurd h List.not_mem_nil⟩⟩⟩
def C_X3_weaveFixed : Ctr := fun A σ κ => match A with
  | [.inr (.inr (.inl 10))] => (NIc σ) ∧ (∀ τ : Sto, (∀ p : Nat, p ≠ 49 → p ≠ 65 → τ p = σ p) → NetK (KF σ) (τ 49) → κ [vI 1] τ) ∧ (∀ τ : Sto, (∀ p : Nat, p ≠ 49 → p ≠ 65 → τ p = σ p) → NoM (KF σ) → κ [vI 0] τ)
  | _ => False
set_option maxRecDepth 20000 in
theorem s_X3_weaveFixed (o : OM) : Sound o Y_X3_weaveFixed 3 C_X3_weaveFixed := by
  intro Q A σ hA hC
  match A, hA, hC with
  | [.inr (.inr (.inl 10))], hA, hC =>
    obtain ⟨h0, hq⟩ : (NIc σ) ∧ (∀ τ : Sto, (∀ p : Nat, p ≠ 49 → p ≠ 65 → τ p = σ p) → NetK (KF σ) (τ 49) → Q [vI 1] τ) ∧ (∀ τ : Sto, (∀ p : Nat, p ≠ 49 → p ≠ 65 → τ p = σ p) → NoM (KF σ) → Q [vI 0] τ) := hC
    obtain ⟨hn, hJ, hs, hPI, hTI, hpl, hji, hti⟩ := id h0
    obtain ⟨hq1, hq2⟩ := hq
    obtain ⟨P11, hP11⟩ : ∃ P : Nat → List AV → List AV → Sto → Prop, P = fun m S L τ => ∃ k : Int, S = [] ∧ L = [vR 10, vI k] ∧ (∀ p : Nat, p ≠ 49 → τ p = σ p) ∧ 0 ≤ k ∧ k ≤ 8 ∧ (∀ i j, nd i → nd j → τ 49 (i * 8 + j) = if i = j ∧ i < k then 0 else 1000000000) ∧ m = (8 - k + 1000).toNat := ⟨_, rfl⟩
    obtain ⟨P41, hP41⟩ : ∃ P : Nat → List AV → List AV → Sto → Prop, P = fun m S L τ => ∃ n : Int, S = [] ∧ L = [vR 10, vI n] ∧ (∀ p : Nat, p ≠ 49 → p ≠ 65 → τ p = σ p) ∧ 0 ≤ n ∧ n ≤ 10 ∧ (∀ p x, 0 ≤ p → p < 7 → 0 ≤ x → x < 10 → τ 65 (p * 10 + x) = ayC σ p x) ∧ NetK (KSA (τ 65) (σ 1 0) n) (τ 49) ∧ m = (10 - n + 100).toNat := ⟨_, rfl⟩
    obtain ⟨P65, hP65⟩ : ∃ P : Nat → List AV → List AV → Sto → Prop, P = fun m S L τ => ∃ p : Int, S = [] ∧ L = [vR 10, vI p] ∧ (∀ p : Nat, p ≠ 49 → p ≠ 65 → τ p = σ p) ∧ 0 ≤ p ∧ p ≤ σ 1 0 ∧ (∀ p x, 0 ≤ p → p < 7 → 0 ≤ x → x < 10 → τ 65 (p * 10 + x) = ayC σ p x) ∧ NetK (orK (KSA (τ 65) (σ 1 0) 10) (KT (tdC σ) p (σ 21) (σ 22))) (τ 49) ∧ m = (7 - p).toNat := ⟨_, rfl⟩
    refine at_meth (lv := V_X3_weaveFixed) (B := B_X3_weaveFixed) (e_X3_weaveFixed o) k_X3_weaveFixed 4 [(11, P11), (41, P41), (65, P65)] (List.forall_mem_cons.mpr ⟨?_, List.forall_mem_cons.mpr ⟨?_, List.forall_mem_cons.mpr ⟨?_, fun _ h => absurd h List.not_mem_nil⟩⟩⟩) 0 [] _ σ ?_
    · intro m S L τ hI
      rw [hP11] at hI
      obtain ⟨k, rfl, rfl, he, k0, k1, hg, hm⟩ := hI
      simp only [sq_iconst, sq_jsr, sq_anewarray, sq_iload, sq_lload, sq_aload, sq_istore, sq_lstore, sq_astore, sq_iinc, sq_getfield, st_put0, st_put1, st_put3, sq_inv, sq_goto, sq_icmp, sq_ifc, sq_tsw, sq_iadd, sq_isub, sq_imul, sq_ineg, sq_idiv, sq_irem, sq_iand, sq_ior, sq_ixor, sq_ishl, sq_ishr, sq_iushr, sq_ladd, sq_lmul, sq_ldiv, sq_lrem, sq_land, sq_lor, sq_lshl, sq_lushr, sq_lcmp, sq_i2l, sq_l2i, sq_i2c, sq_i2b, sq_dupI, sq_dupR, sq_dup2, sq_pop, sq_iaload, sq_baload, sq_aaload, sq_iastore, sq_bastore, sq_alen, sq_ireturn, sq_lreturn, sq_return, wq_c, wq_n, wlq_s, lkp, tbl, dBk, nth, setL, canSet, cmpI, tk, swK, rdF, entL, catS, cat1, arg, rcv, ald, bld, aln, br, Ccopy, Cmax, Cmin, Cabs, List.take, List.drop, List.reverse, List.reverseAux, List.length, List.append, List.nil_append, List.cons_append, true_and, and_true, and_self, forall_const, true_implies, false_implies, not_true_eq_false, not_false_eq_true, Option.map, reduceCtorEq, reduceIte, or_true, true_or, false_or, or_false, false_and, and_false, List.map, List.append_nil, implies_true, yK, Nat.reduceBEq, beq_self_eq_true, Int.zero_ne_one, Nat.reduceDiv, Nat.reduceMod, Nat.reduceAdd, Nat.reduceSub, Nat.reduceMul, Nat.reduceEqDiff, Nat.reduceLeDiff, Int.reduceToNat, Int.reduceNeg, Int.reduceEq, Int.reduceLT, Int.reduceLE, Int.reduceNatCast, Int.reduceNatCast', Int.reduceAdd, Int.reduceSub, Int.reduceMul, eq_self, Prod.mk.injEq, A_X3_weaveFixed, V_X3_weaveFixed, B_X3_weaveFixed, Y_X3_weaveFixed, C_J7_fill_53178, C_X3_findAshes, C_X3_bindAshes, C_X0_isTied, C_X3_bind, shpT, rfsT, wjq_s, look]
      have l3 : lo38 τ σ := fun p hp _ => he p (by omega)
      refine ⟨fun h => ⟨NIc_e l3 h0, fun τ' h1 h2 => ?_⟩, fun h => ⟨⟨by omega, by omega⟩, ⟨by omega, by omega⟩, ⟨by omega, by omega⟩, ⟨by omega, by omega⟩, ?_⟩⟩
      · rw [hP41]
        refine ⟨_, ?_, 0, rfl, rfl, fun y hy hz => by rw [h1 y hz, he y hy], (by omega), (by omega), fun p x a0 a1 x0 x1 => by rw [h2 p x a0 a1 x0 x1, ayC_e l3], ?_, rfl⟩
        · omega
        · refine NetK_same (sameK_of (K := noK) (fun a b lo hi => ⟨fun z => z.elim, ?_⟩)) (NetK_0 (fun i j a b => ?_))
          · rintro ⟨x, x0, x1, -⟩
            omega
          · rw [h1 49 (by decide), hg i j a b]
            unfold nd at a
            by_cases c : i = j
            · rw [if_pos ⟨c, by omega⟩, if_pos c]
            · rw [if_neg (fun z => c z.1), if_neg c]
      · rw [hP11]
        refine ⟨_, ?_, k + 1, rfl, rfl, fun y hy => by rw [su_r hy]; exact he y hy, (by omega), (by omega), fun i j a b => ?_, rfl⟩
        · omega
        · unfold nd at a b
          rw [su_at]
          by_cases c : i * 8 + j = k * 8 + k
          · rw [if_pos c, if_pos (by omega)]
          · rw [if_neg c, hg i j a b]
            by_cases d : i = j ∧ i < k
            · rw [if_pos d, if_pos (by omega)]
            · rw [if_neg d, if_neg (by omega)]
    · intro m S L τ hI
      rw [hP41] at hI
      obtain ⟨n, rfl, rfl, he, n0, n1, ha, hg, hm⟩ := hI
      simp only [sq_iconst, sq_jsr, sq_anewarray, sq_iload, sq_lload, sq_aload, sq_istore, sq_lstore, sq_astore, sq_iinc, sq_getfield, st_put0, st_put1, st_put3, sq_inv, sq_goto, sq_icmp, sq_ifc, sq_tsw, sq_iadd, sq_isub, sq_imul, sq_ineg, sq_idiv, sq_irem, sq_iand, sq_ior, sq_ixor, sq_ishl, sq_ishr, sq_iushr, sq_ladd, sq_lmul, sq_ldiv, sq_lrem, sq_land, sq_lor, sq_lshl, sq_lushr, sq_lcmp, sq_i2l, sq_l2i, sq_i2c, sq_i2b, sq_dupI, sq_dupR, sq_dup2, sq_pop, sq_iaload, sq_baload, sq_aaload, sq_iastore, sq_bastore, sq_alen, sq_ireturn, sq_lreturn, sq_return, wq_c, wq_n, wlq_s, lkp, tbl, dBk, nth, setL, canSet, cmpI, tk, swK, rdF, entL, catS, cat1, arg, rcv, ald, bld, aln, br, Ccopy, Cmax, Cmin, Cabs, List.take, List.drop, List.reverse, List.reverseAux, List.length, List.append, List.nil_append, List.cons_append, true_and, and_true, and_self, forall_const, true_implies, false_implies, not_true_eq_false, not_false_eq_true, Option.map, reduceCtorEq, reduceIte, or_true, true_or, false_or, or_false, false_and, and_false, List.map, List.append_nil, implies_true, yK, Nat.reduceBEq, beq_self_eq_true, Int.zero_ne_one, Nat.reduceDiv, Nat.reduceMod, Nat.reduceAdd, Nat.reduceSub, Nat.reduceMul, Nat.reduceEqDiff, Nat.reduceLeDiff, Int.reduceToNat, Int.reduceNeg, Int.reduceEq, Int.reduceLT, Int.reduceLE, Int.reduceNatCast, Int.reduceNatCast', Int.reduceAdd, Int.reduceSub, Int.reduceMul, eq_self, Prod.mk.injEq, A_X3_weaveFixed, V_X3_weaveFixed, B_X3_weaveFixed, Y_X3_weaveFixed, C_J7_fill_53178, C_X3_findAshes, C_X3_bindAshes, C_X0_isTied, C_X3_bind, shpT, rfsT, wjq_s, look, he 1 (by decide) (by decide), he 2 (by decide) (by decide)]
      refine ⟨fun h => ?_, fun h => ⟨⟨hn, ⟨by omega, by omega⟩, fun p x a0 a1 x0 x1 => by rw [ha p x a0 a1 x0 x1]; exact ayC_in h0 a0 a1⟩, _, hg, fun τ' h1 h2 => ⟨⟨by omega, by omega⟩, ?_⟩, fun τ' h1 h2 => ?_⟩⟩
      · rw [hP65]
        have : n = 10 := by omega
        subst this
        refine ⟨_, ?_, 0, rfl, rfl, he, (by omega), hn.1, ha, NetK_same (sameK_of (fun a b lo hi => ⟨Or.inl, fun z => z.elim id ?_⟩)) hg, rfl⟩
        · omega
        · rintro ⟨p, q0, q1, -⟩
          omega
      · rw [hP41]
        refine ⟨_, ?_, n + 1, rfl, rfl, fun y hy hz => by rw [h1 y hy, he y hy hz], (by omega), (by omega), by rw [h1 65 (by decide)]; exact ha, ?_, rfl⟩
        · omega
        · rw [h1 65 (by decide)]
          exact NetK_same (sameK_of (fun a b lo hi => (KSA_s n0).symm)) h2
      · refine hq2 τ' (fun y hy hz => by rw [h1 y hy, he y hy hz]) ?_
        have h3 : NoM (orK (KSA (τ 65) (σ 1 0) 10) (KTc σ)) := NoM_mono (fun a b lo hi z => Or.inl (z.elim (fun ⟨x, z0, z1, z2⟩ => ⟨x, z0, by omega, z2⟩) (fun z => ⟨n, n0, by omega, z⟩))) h2
        exact NoM_same (star_same h0 ha (KTc σ)) h3
    · intro m S L τ hI
      rw [hP65] at hI
      obtain ⟨p, rfl, rfl, he, p0, p1, ha, hg, hm⟩ := hI
      simp only [sq_iconst, sq_jsr, sq_anewarray, sq_iload, sq_lload, sq_aload, sq_istore, sq_lstore, sq_astore, sq_iinc, sq_getfield, st_put0, st_put1, st_put3, sq_inv, sq_goto, sq_icmp, sq_ifc, sq_tsw, sq_iadd, sq_isub, sq_imul, sq_ineg, sq_idiv, sq_irem, sq_iand, sq_ior, sq_ixor, sq_ishl, sq_ishr, sq_iushr, sq_ladd, sq_lmul, sq_ldiv, sq_lrem, sq_land, sq_lor, sq_lshl, sq_lushr, sq_lcmp, sq_i2l, sq_l2i, sq_i2c, sq_i2b, sq_dupI, sq_dupR, sq_dup2, sq_pop, sq_iaload, sq_baload, sq_aaload, sq_iastore, sq_bastore, sq_alen, sq_ireturn, sq_lreturn, sq_return, wq_c, wq_n, wlq_s, lkp, tbl, dBk, nth, setL, canSet, cmpI, tk, swK, rdF, entL, catS, cat1, arg, rcv, ald, bld, aln, br, Ccopy, Cmax, Cmin, Cabs, List.take, List.drop, List.reverse, List.reverseAux, List.length, List.append, List.nil_append, List.cons_append, true_and, and_true, and_self, forall_const, true_implies, false_implies, not_true_eq_false, not_false_eq_true, Option.map, reduceCtorEq, reduceIte, or_true, true_or, false_or, or_false, false_and, and_false, List.map, List.append_nil, implies_true, yK, Nat.reduceBEq, beq_self_eq_true, Int.zero_ne_one, Nat.reduceDiv, Nat.reduceMod, Nat.reduceAdd, Nat.reduceSub, Nat.reduceMul, Nat.reduceEqDiff, Nat.reduceLeDiff, Int.reduceToNat, Int.reduceNeg, Int.reduceEq, Int.reduceLT, Int.reduceLE, Int.reduceNatCast, Int.reduceNatCast', Int.reduceAdd, Int.reduceSub, Int.reduceMul, eq_self, Prod.mk.injEq, A_X3_weaveFixed, V_X3_weaveFixed, B_X3_weaveFixed, Y_X3_weaveFixed, C_J7_fill_53178, C_X3_findAshes, C_X3_bindAshes, C_X0_isTied, C_X3_bind, shpT, rfsT, wjq_s, look, he 1 (by decide) (by decide), he 2 (by decide) (by decide), he 21 (by decide) (by decide), he 22 (by decide) (by decide)]
      refine ⟨fun h => ?_, fun h => ⟨⟨by omega, by omega⟩, fun h1 => ?_, fun h1 => ⟨⟨by omega, by omega⟩, ?_⟩⟩⟩
      · have : p = σ 1 0 := by omega
        subst this
        exact hq1 τ he (NetK_same (star_same h0 ha (KTc σ)) hg)
      · have ti := hti p p0 (by omega) h1
        have n1 : nd (7 : Int) := ⟨by omega, by omega⟩
        have n2 : nd p := ⟨by omega, by omega⟩
        obtain ⟨E, e1, e2⟩ := id hg
        have kx : ∀ a b lo hi, addK (orK (KSA (τ 65) (σ 1 0) 10) (KT (tdC σ) p (σ 21) (σ 22))) 7 p (σ 21 p) (σ 22 p) a b lo hi ↔ orK (KSA (τ 65) (σ 1 0) 10) (KT (tdC σ) (p + 1) (σ 21) (σ 22)) a b lo hi := by
          intro a b lo hi
          unfold addK orK
          rw [KT_s p0, or_assoc]
          exact ⟨fun z => z.elim Or.inl (fun z => Or.inr (z.elim Or.inl (fun z => Or.inr ⟨h1, z⟩))), fun z => z.elim Or.inl (fun z => Or.inr (z.elim Or.inl (fun z => Or.inr z.2)))⟩
        refine ⟨⟨by omega, by omega⟩, ⟨by omega, by omega⟩, ⟨n1, n2, ⟨by omega, by omega⟩, (by omega), (by omega)⟩, E, e1, fun τ' hf hN => ⟨⟨by omega, by omega⟩, ?_⟩, fun τ' hf hN => ?_⟩
        · rw [hP65]
          refine ⟨_, ?_, p + 1, rfl, rfl, fun y hy hz => by rw [hf y hy, he y hy hz], (by omega), (by omega), by rw [hf 65 (by decide)]; exact ha, ?_, rfl⟩
          · omega
          · rw [hf 65 (by decide)]
            exact NetK_same (sameK_of kx) ⟨_, hN, NetK_add e2⟩
        · refine hq2 τ' (fun y hy hz => by rw [hf y hy, he y hy hz]) (NoM_same (star_same h0 ha (KTc σ)) (NoM_mono (fun a b lo hi z => ?_) (fun M hb hp => hN M ((NetK_add e2 M).mpr ⟨hb, hp⟩))))
          exact ((kx a b lo hi).mp z).elim Or.inl (fun ⟨y, z0, z1, z2⟩ => Or.inr ⟨y, z0, by omega, z2⟩)
      · rw [hP65]
        refine ⟨_, ?_, p + 1, rfl, rfl, he, (by omega), (by omega), ha, NetK_same (sameK_of (fun a b lo hi => ?_)) hg, rfl⟩
        · omega
        · unfold orK
          rw [KT_s p0]
          exact ⟨fun z => z.elim Or.inl (fun z => Or.inr (Or.inl z)), fun z => z.elim Or.inl (fun z => z.elim Or.inr (fun z => absurd (Classical.not_not.mp h1) z.1))⟩
    · simp only [sq_iconst, sq_jsr, sq_anewarray, sq_iload, sq_lload, sq_aload, sq_istore, sq_lstore, sq_astore, sq_iinc, sq_getfield, st_put0, st_put1, st_put3, sq_inv, sq_goto, sq_icmp, sq_ifc, sq_tsw, sq_iadd, sq_isub, sq_imul, sq_ineg, sq_idiv, sq_irem, sq_iand, sq_ior, sq_ixor, sq_ishl, sq_ishr, sq_iushr, sq_ladd, sq_lmul, sq_ldiv, sq_lrem, sq_land, sq_lor, sq_lshl, sq_lushr, sq_lcmp, sq_i2l, sq_l2i, sq_i2c, sq_i2b, sq_dupI, sq_dupR, sq_dup2, sq_pop, sq_iaload, sq_baload, sq_aaload, sq_iastore, sq_bastore, sq_alen, sq_ireturn, sq_lreturn, sq_return, wq_c, wq_n, wlq_s, lkp, tbl, dBk, nth, setL, canSet, cmpI, tk, swK, rdF, entL, catS, cat1, arg, rcv, ald, bld, aln, br, Ccopy, Cmax, Cmin, Cabs, List.take, List.drop, List.reverse, List.reverseAux, List.length, List.append, List.nil_append, List.cons_append, true_and, and_true, and_self, forall_const, true_implies, false_implies, not_true_eq_false, not_false_eq_true, Option.map, reduceCtorEq, reduceIte, or_true, true_or, false_or, or_false, false_and, and_false, List.map, List.append_nil, implies_true, yK, Nat.reduceBEq, beq_self_eq_true, Int.zero_ne_one, Nat.reduceDiv, Nat.reduceMod, Nat.reduceAdd, Nat.reduceSub, Nat.reduceMul, Nat.reduceEqDiff, Nat.reduceLeDiff, Int.reduceToNat, Int.reduceNeg, Int.reduceEq, Int.reduceLT, Int.reduceLE, Int.reduceNatCast, Int.reduceNatCast', Int.reduceAdd, Int.reduceSub, Int.reduceMul, eq_self, Prod.mk.injEq, A_X3_weaveFixed, V_X3_weaveFixed, B_X3_weaveFixed, Y_X3_weaveFixed, C_J7_fill_53178, C_X3_findAshes, C_X3_bindAshes, C_X0_isTied, C_X3_bind, shpT, rfsT, wjq_s, look]
      rw [hP11]
      exact ⟨⟨64, rfl, (by omega)⟩, fun τ h1 h2 => ⟨_, 0, rfl, rfl, h1, (by omega), (by omega), fun i j a b => by unfold nd at a b; rw [h2 _ (by omega) (by omega), if_neg (by omega)], rfl⟩⟩
theorem og_congr {g g' : Int → Int} (h : ∀ i j, nd i → nd j → g' (i * 8 + j) = g (i * 8 + j)) : ∀ i j, nd i → nd j → og g' i j = og g i j := by
  intro i j a b
  unfold og
  rw [h i j a b]
theorem NetK_congr {K : Kn} {g g' : Int → Int} (h : ∀ i j, nd i → nd j → g' (i * 8 + j) = g (i * 8 + j)) (hN : NetK K g) : NetK K g' := by
  obtain ⟨E, ⟨⟨⟨s1, s2, s3⟩, c2⟩, c3, c4⟩, c5⟩ := hN
  have e := og_congr h
  refine ⟨E, ⟨⟨⟨fun i a => by rw [e i i a a]; exact s1 i a, fun i k j a b c => by rw [e i j a c, e i k a b, e k j b c]; exact s2 i k j a b c, fun f t w z => by rw [e f t (c4 f t w z).1 (c4 f t w z).2]; exact s3 f t w z⟩, fun M hM i j a b => by rw [e i j a b]; exact c2 M hM i j a b⟩, c3, c4⟩, c5⟩
def ktC (σ : Sto) : Int → Prop := fun j => ¬ bAnd (σ 2 6) (bShl 1 j) = 0
def KJc (σ : Sto) (S : Int → Prop) : Kn := KJ S (σ 2 0) (σ 16) (σ 17) (σ 18) (σ 19)
def A_X3_weaveJoins : List (Nat × Ctr) := [(5, Ccopy), (2, rcv 0 2 C_X0_isKept), (3, rcv 3 3 C_X3_bindJoin)]
theorem e_X3_weaveJoins (o : OM) : Ev o Y_X3_weaveJoins 3 T_X3_weaveJoins A_X3_weaveJoins := ⟨rfl, List.forall_mem_cons.mpr ⟨Or.inl f_X3_15, List.forall_mem_cons.mpr ⟨Or.inl f_X3_59, List.forall_mem_cons.mpr ⟨Or.inl f_X3_111, fun _ h => absurd h List.not_mem_nil⟩⟩⟩, fun _ h => absurd h List.not_mem_nil, fun _ h => absurd h List.not_mem_nil, fun _ h => absurd h List.not_mem_nil, List.forall_mem_cons.mpr ⟨cl_X0_isKept (s_X0_isKept o) (by decide) (Or.inr ⟨_, wn_91⟩), List.forall_mem_cons.mpr ⟨cl_X3_bindJoin (s_X3_bindJoin o) (by decide) (Or.inl w_871), fun _ h => absurd h List.not_mem_nil⟩⟩, List.forall_mem_cons.mpr ⟨copy_ok w_869 w_590 w_589 w_19, fun _ h => absurd h List.not_mem_nil⟩⟩
def C_X3_weaveJoins : Ctr := fun A σ κ => match A with
  | [.inr (.inr (.inl 10)), .inr (.inr (.inl q)), .inl lf] => (shp q = (0, 64) ∧ ¬ q = 49 ∧ ¬ q ≤ 38 ∧ NIc σ) ∧ ∃ K : Kn, NetK K (σ 49) ∧ (∀ τ : Sto, (∀ p : Nat, p ≠ q → τ p = σ p) → NetK (orK K (KJc σ (fun j => ktC σ j ∧ ¬ j = lf))) (τ q) → κ [vI 1] τ) ∧ (∀ τ : Sto, (∀ p : Nat, p ≠ q → τ p = σ p) → NoM (orK K (KJc σ (fun j => ktC σ j ∧ ¬ j = lf))) → κ [vI 0] τ)
  | _ => False
set_option maxRecDepth 20000 in
theorem s_X3_weaveJoins (o : OM) : Sound o Y_X3_weaveJoins 3 C_X3_weaveJoins := by
  intro Q A σ hA hC
  match A, hA, hC with
  | [.inr (.inr (.inl 10)), .inr (.inr (.inl q)), .inl lf], hA, hC =>
    obtain ⟨h0, hq⟩ : (shp q = (0, 64) ∧ ¬ q = 49 ∧ ¬ q ≤ 38 ∧ NIc σ) ∧ ∃ K : Kn, NetK K (σ 49) ∧ (∀ τ : Sto, (∀ p : Nat, p ≠ q → τ p = σ p) → NetK (orK K (KJc σ (fun j => ktC σ j ∧ ¬ j = lf))) (τ q) → Q [vI 1] τ) ∧ (∀ τ : Sto, (∀ p : Nat, p ≠ q → τ p = σ p) → NoM (orK K (KJc σ (fun j => ktC σ j ∧ ¬ j = lf))) → Q [vI 0] τ) := hC
    obtain ⟨hs0, hq49, hq38, hI⟩ := h0
    obtain ⟨hn, hJ, hs, hPI, hTI, hpl, hji, hti⟩ := id hI
    obtain ⟨K, hK, hq1, hq2⟩ := hq
    obtain ⟨P14, hP14⟩ : ∃ P : Nat → List AV → List AV → Sto → Prop, P = fun m S L τ => ∃ j : Int, S = [] ∧ L = [vR 10, vR q, vI lf, vI j] ∧ (∀ p : Nat, p ≠ q → τ p = σ p) ∧ 0 ≤ j ∧ j ≤ σ 2 0 ∧ NetK (orK K (KJ (fun j => ktC σ j ∧ ¬ j = lf) j (σ 16) (σ 17) (σ 18) (σ 19))) (τ q) ∧ m = (12 - j).toNat := ⟨_, rfl⟩
    refine at_meth (lv := V_X3_weaveJoins) (B := B_X3_weaveJoins) (e_X3_weaveJoins o) k_X3_weaveJoins 4 [(14, P14)] (List.forall_mem_cons.mpr ⟨?_, fun _ h => absurd h List.not_mem_nil⟩) 0 [] _ σ ?_
    · intro m S L τ hI
      rw [hP14] at hI
      obtain ⟨j, rfl, rfl, he, j0, j1, hg, hm⟩ := hI
      simp only [sq_iconst, sq_jsr, sq_anewarray, sq_iload, sq_lload, sq_aload, sq_istore, sq_lstore, sq_astore, sq_iinc, sq_getfield, st_put0, st_put1, st_put3, sq_inv, sq_goto, sq_icmp, sq_ifc, sq_tsw, sq_iadd, sq_isub, sq_imul, sq_ineg, sq_idiv, sq_irem, sq_iand, sq_ior, sq_ixor, sq_ishl, sq_ishr, sq_iushr, sq_ladd, sq_lmul, sq_ldiv, sq_lrem, sq_land, sq_lor, sq_lshl, sq_lushr, sq_lcmp, sq_i2l, sq_l2i, sq_i2c, sq_i2b, sq_dupI, sq_dupR, sq_dup2, sq_pop, sq_iaload, sq_baload, sq_aaload, sq_iastore, sq_bastore, sq_alen, sq_ireturn, sq_lreturn, sq_return, wq_c, wq_n, wlq_s, lkp, tbl, dBk, nth, setL, canSet, cmpI, tk, swK, rdF, entL, catS, cat1, arg, rcv, ald, bld, aln, br, Ccopy, Cmax, Cmin, Cabs, List.take, List.drop, List.reverse, List.reverseAux, List.length, List.append, List.nil_append, List.cons_append, true_and, and_true, and_self, forall_const, true_implies, false_implies, not_true_eq_false, not_false_eq_true, Option.map, reduceCtorEq, reduceIte, or_true, true_or, false_or, or_false, false_and, and_false, List.map, List.append_nil, implies_true, yK, Nat.reduceBEq, beq_self_eq_true, Int.zero_ne_one, Nat.reduceDiv, Nat.reduceMod, Nat.reduceAdd, Nat.reduceSub, Nat.reduceMul, Nat.reduceEqDiff, Nat.reduceLeDiff, Int.reduceToNat, Int.reduceNeg, Int.reduceEq, Int.reduceLT, Int.reduceLE, Int.reduceNatCast, Int.reduceNatCast', Int.reduceAdd, Int.reduceSub, Int.reduceMul, eq_self, Prod.mk.injEq, A_X3_weaveJoins, V_X3_weaveJoins, B_X3_weaveJoins, Y_X3_weaveJoins, C_X0_isKept, C_X3_bindJoin, shpT, rfsT, wjq_s, look, hs0, JnI, he 2 (by omega), he 16 (by omega), he 17 (by omega), he 18 (by omega), he 19 (by omega)]
      have a20 : ¬ σ 2 0 ≤ j → (12 - (j + 1)).toNat < m := fun h => by omega
      have kn : ¬ (ktC σ j ∧ ¬ j = lf) → NetK (orK K (KJ (fun j => ktC σ j ∧ ¬ j = lf) (j + 1) (σ 16) (σ 17) (σ 18) (σ 19))) (τ q) := by
        intro hh
        refine NetK_same (sameK_of (fun a b lo hi => ?_)) hg
        unfold orK
        rw [KJ_s j0]
        exact ⟨fun z => z.elim Or.inl (fun z => Or.inr (Or.inl z)), fun z => z.elim Or.inl (fun z => z.elim Or.inr (fun z => absurd z.1 hh))⟩
      have nx : ¬ (ktC σ j ∧ ¬ j = lf) → ¬ σ 2 0 ≤ j → i32 (j + 1) ∧ ∃ m_1, m_1 < m ∧ P14 m_1 [] [vR 10, vR q, vI lf, vI (j + 1)] τ := by
        intro hh h
        have k2 := kn hh
        have a1 : i32 (j + 1) := ⟨by omega, by omega⟩
        have a2 : (12 - (j + 1)).toNat < m := by clear k2 kn hh hg; omega
        have a3 : 0 ≤ j + 1 := by omega
        have a4 : j + 1 ≤ σ 2 0 := by omega
        rw [hP14]
        exact ⟨a1, _, a2, j + 1, rfl, rfl, he, a3, a4, k2, rfl⟩
      refine ⟨fun h => ?_, fun h => ⟨⟨by omega, by omega⟩, fun h1 => ⟨fun h2 => nx (fun z => z.2 h2) h, fun h2 => ?_⟩, fun h1 => nx (fun z => h1 z.1) h⟩⟩
      · have : j = σ 2 0 := by omega
        rw [this] at hg
        exact hq1 τ he hg
      · have ji := hji j j0 (by omega)
        unfold JI at ji
        have n1 : nd (σ 16 j) := ⟨by omega, by omega⟩
        have n2 : nd (σ 17 j) := ⟨by omega, by omega⟩
        have a2 := a20 h
        obtain ⟨E, e1, e2⟩ := id hg
        have kx : ∀ a b lo hi, addK (orK K (KJ (fun j => ktC σ j ∧ ¬ j = lf) j (σ 16) (σ 17) (σ 18) (σ 19))) (σ 16 j) (σ 17 j) (σ 18 j) (σ 19 j) a b lo hi ↔ orK K (KJ (fun j => ktC σ j ∧ ¬ j = lf) (j + 1) (σ 16) (σ 17) (σ 18) (σ 19)) a b lo hi := by
          intro a b lo hi
          unfold addK orK
          rw [KJ_s j0, or_assoc]
          exact ⟨fun z => z.elim Or.inl (fun z => Or.inr (z.elim Or.inl (fun z => Or.inr ⟨⟨h1, h2⟩, z⟩))), fun z => z.elim Or.inl (fun z => Or.inr (z.elim Or.inl (fun z => Or.inr z.2)))⟩
        refine ⟨⟨⟨by omega, by omega⟩, n1, n2, ⟨by omega, by omega⟩, ⟨by omega, by omega⟩⟩, E, e1, fun τ' hf hN => ⟨⟨by omega, by omega⟩, ?_⟩, fun τ' hf hN => ?_⟩
        · rw [hP14]
          exact ⟨_, a2, j + 1, rfl, rfl, fun y hy => by rw [hf y hy, he y hy], (by omega), (by omega), NetK_same (sameK_of kx) ⟨_, hN, NetK_add e2⟩, rfl⟩
        · refine hq2 τ' (fun y hy => by rw [hf y hy, he y hy]) (NoM_mono (fun a b lo hi z => ?_) (fun M hb hp => hN M ((NetK_add e2 M).mpr ⟨hb, hp⟩)))
          exact ((kx a b lo hi).mp z).elim Or.inl (fun ⟨y, z0, z1, z2⟩ => Or.inr ⟨y, z0, by omega, z2⟩)
    · simp only [sq_iconst, sq_jsr, sq_anewarray, sq_iload, sq_lload, sq_aload, sq_istore, sq_lstore, sq_astore, sq_iinc, sq_getfield, st_put0, st_put1, st_put3, sq_inv, sq_goto, sq_icmp, sq_ifc, sq_tsw, sq_iadd, sq_isub, sq_imul, sq_ineg, sq_idiv, sq_irem, sq_iand, sq_ior, sq_ixor, sq_ishl, sq_ishr, sq_iushr, sq_ladd, sq_lmul, sq_ldiv, sq_lrem, sq_land, sq_lor, sq_lshl, sq_lushr, sq_lcmp, sq_i2l, sq_l2i, sq_i2c, sq_i2b, sq_dupI, sq_dupR, sq_dup2, sq_pop, sq_iaload, sq_baload, sq_aaload, sq_iastore, sq_bastore, sq_alen, sq_ireturn, sq_lreturn, sq_return, wq_c, wq_n, wlq_s, lkp, tbl, dBk, nth, setL, canSet, cmpI, tk, swK, rdF, entL, catS, cat1, arg, rcv, ald, bld, aln, br, Ccopy, Cmax, Cmin, Cabs, List.take, List.drop, List.reverse, List.reverseAux, List.length, List.append, List.nil_append, List.cons_append, true_and, and_true, and_self, forall_const, true_implies, false_implies, not_true_eq_false, not_false_eq_true, Option.map, reduceCtorEq, reduceIte, or_true, true_or, false_or, or_false, false_and, and_false, List.map, List.append_nil, implies_true, yK, Nat.reduceBEq, beq_self_eq_true, Int.zero_ne_one, Nat.reduceDiv, Nat.reduceMod, Nat.reduceAdd, Nat.reduceSub, Nat.reduceMul, Nat.reduceEqDiff, Nat.reduceLeDiff, Int.reduceToNat, Int.reduceNeg, Int.reduceEq, Int.reduceLT, Int.reduceLE, Int.reduceNatCast, Int.reduceNatCast', Int.reduceAdd, Int.reduceSub, Int.reduceMul, eq_self, Prod.mk.injEq, A_X3_weaveJoins, V_X3_weaveJoins, B_X3_weaveJoins, Y_X3_weaveJoins, C_X0_isKept, C_X3_bindJoin, shpT, rfsT, wjq_s, look, hs0]
      rw [hP14]
      refine ⟨_, 0, rfl, rfl, fun p hp => cpS_ne p hp, (by omega), hJ.1, NetK_same (sameK_of (fun a b lo hi => ⟨Or.inl, fun z => z.elim id ?_⟩)) (NetK_congr (fun i j a b => ?_) hK), rfl⟩
      · rintro ⟨j, z0, z1, -⟩
        omega
      · unfold nd at a b
        rw [cpS_eq]
        show (if 0 ≤ i * 8 + j ∧ i * 8 + j < 0 + 64 then σ 49 (0 + (i * 8 + j - 0)) else σ q (i * 8 + j)) = _
        rw [if_pos (by omega)]
        congr 1
        omega
def KC (σ : Sto) : Kn := orK (KF σ) (KJc σ (ktC σ))
def A_X3_weaveWhole : List (Nat × Ctr) := [(1, rcv 3 2 C_X3_weaveFixed), (3, rcv 3 4 C_X3_weaveJoins)]
theorem e_X3_weaveWhole (o : OM) : Ev o Y_X3_weaveWhole 4 T_X3_weaveWhole A_X3_weaveWhole := ⟨rfl, List.forall_mem_cons.mpr ⟨Or.inl f_X3_11, fun _ h => absurd h List.not_mem_nil⟩, fun _ h => absurd h List.not_mem_nil, fun _ h => absurd h List.not_mem_nil, fun _ h => absurd h List.not_mem_nil, List.forall_mem_cons.mpr ⟨cl_X3_weaveFixed (s_X3_weaveFixed o) (by decide) (Or.inl w_833), List.forall_mem_cons.mpr ⟨cl_X3_weaveJoins (s_X3_weaveJoins o) (by decide) (Or.inl w_865), fun _ h => absurd h List.not_mem_nil⟩⟩, fun _ h => absurd h List.not_mem_nil⟩
def C_X3_weaveWhole : Ctr := fun A σ κ => match A with
  | [.inr (.inr (.inl 10))] => (NIc σ) ∧ (∀ τ : Sto, (∀ p : Nat, p ≠ 48 → p ≠ 49 → p ≠ 65 → τ p = σ p) → NetK (KC σ) (τ 48) → NetK (KF σ) (τ 49) → κ [vI 1] τ) ∧ (∀ τ : Sto, (∀ p : Nat, p ≠ 48 → p ≠ 49 → p ≠ 65 → τ p = σ p) → NoM (KC σ) → κ [vI 0] τ)
  | _ => False
set_option maxRecDepth 20000 in
theorem s_X3_weaveWhole (o : OM) : Sound o Y_X3_weaveWhole 4 C_X3_weaveWhole := by
  intro Q A σ hA hC
  match A, hA, hC with
  | [.inr (.inr (.inl 10))], hA, hC =>
    obtain ⟨h0, hq⟩ : (NIc σ) ∧ (∀ τ : Sto, (∀ p : Nat, p ≠ 48 → p ≠ 49 → p ≠ 65 → τ p = σ p) → NetK (KC σ) (τ 48) → NetK (KF σ) (τ 49) → Q [vI 1] τ) ∧ (∀ τ : Sto, (∀ p : Nat, p ≠ 48 → p ≠ 49 → p ≠ 65 → τ p = σ p) → NoM (KC σ) → Q [vI 0] τ) := hC
    refine at_wpl (lv := V_X3_weaveWhole) (B := B_X3_weaveWhole) (e_X3_weaveWhole o) k_X3_weaveWhole 3 0 [] _ σ ?_
    simp only [sq_iconst, sq_jsr, sq_anewarray, sq_iload, sq_lload, sq_aload, sq_istore, sq_lstore, sq_astore, sq_iinc, sq_getfield, st_put0, st_put1, st_put3, sq_inv, sq_goto, sq_icmp, sq_ifc, sq_tsw, sq_iadd, sq_isub, sq_imul, sq_ineg, sq_idiv, sq_irem, sq_iand, sq_ior, sq_ixor, sq_ishl, sq_ishr, sq_iushr, sq_ladd, sq_lmul, sq_ldiv, sq_lrem, sq_land, sq_lor, sq_lshl, sq_lushr, sq_lcmp, sq_i2l, sq_l2i, sq_i2c, sq_i2b, sq_dupI, sq_dupR, sq_dup2, sq_pop, sq_iaload, sq_baload, sq_aaload, sq_iastore, sq_bastore, sq_alen, sq_ireturn, sq_lreturn, sq_return, wq_c, wq_n, wlq_s, lkp, tbl, dBk, nth, setL, canSet, cmpI, tk, swK, rdF, entL, catS, cat1, arg, rcv, ald, bld, aln, br, Ccopy, Cmax, Cmin, Cabs, List.take, List.drop, List.reverse, List.reverseAux, List.length, List.append, List.nil_append, List.cons_append, true_and, and_true, and_self, forall_const, true_implies, false_implies, not_true_eq_false, not_false_eq_true, Option.map, reduceCtorEq, reduceIte, or_true, true_or, false_or, or_false, false_and, and_false, List.map, List.append_nil, implies_true, yK, Nat.reduceBEq, beq_self_eq_true, Int.zero_ne_one, Nat.reduceDiv, Nat.reduceMod, Nat.reduceAdd, Nat.reduceSub, Nat.reduceMul, Nat.reduceEqDiff, Nat.reduceLeDiff, Int.reduceToNat, Int.reduceNeg, Int.reduceEq, Int.reduceLT, Int.reduceLE, Int.reduceNatCast, Int.reduceNatCast', Int.reduceAdd, Int.reduceSub, Int.reduceMul, eq_self, Prod.mk.injEq, A_X3_weaveWhole, V_X3_weaveWhole, B_X3_weaveWhole, Y_X3_weaveWhole, C_X3_weaveFixed, C_X3_weaveJoins, shpT, rfsT]
    obtain ⟨hq1, hq2⟩ := hq
    have ek : ∀ τ : Sto, lo38 τ σ → ∀ a b lo hi, orK (KF σ) (KJc τ (fun j => ktC τ j ∧ ¬ j = -1)) a b lo hi ↔ KC σ a b lo hi := by
      intro τ l3 a b lo hi
      unfold KC orK KJc ktC
      simp only [l3 2 (by decide) (by decide), l3 16 (by decide) (by decide), l3 17 (by decide) (by decide), l3 18 (by decide) (by decide), l3 19 (by decide) (by decide)]
      refine ⟨fun z => z.elim Or.inl (fun ⟨j, z0, z1, z2, z3⟩ => Or.inr ⟨j, z0, z1, z2.1, z3⟩), fun z => z.elim Or.inl (fun ⟨j, z0, z1, z2, z3⟩ => Or.inr ⟨j, z0, z1, ⟨z2, by omega⟩, z3⟩)⟩
    refine ⟨h0, fun τ h1 h2 => ?_, fun τ h1 h2 => hq2 τ (fun p a b c => h1 p b c) (NoM_mono (fun a b lo hi z => Or.inl z) h2)⟩
    have l3 : lo38 τ σ := fun p hp _ => h1 p (by omega) (by omega)
    refine ⟨NIc_e l3 h0, KF σ, h2, fun τ' h3 h4 => hq1 τ' (fun p a b c => by rw [h3 p a, h1 p b c]) (NetK_same (sameK_of (ek τ l3)) h4) (by rw [h3 49 (by decide)]; exact h2), fun τ' h3 h4 => hq2 τ' (fun p a b c => by rw [h3 p a, h1 p b c]) (NoM_same (sameK_of (ek τ l3)) h4)⟩

