-- ===== the reference: what hangs on which, calendars =====
def KMm (σ : Sto) (j : Int) : Kn := KM σ (fun i => ktM σ i ∧ ¬ i = j)
theorem KM_mono {σ : Sto} {S S' : Int → Prop} (h : ∀ j, S j → S' j) : ∀ a b lo hi, KM σ S a b lo hi → KM σ S' a b lo hi := by
  rintro a b lo hi ((⟨j, z0, z1, z2, z3⟩ | z) | z)
  · exact Or.inl (Or.inl ⟨j, z0, z1, h j z2, z3⟩)
  · exact Or.inl (Or.inr z)
  · exact Or.inr z
theorem ogM_i {g g' : Int → Int} {i j : Int} : ogM g i j = ogM g' i j ↔ g (i * 8 + j) = g' (i * 8 + j) := by
  unfold ogM
  by_cases c1 : g (i * 8 + j) = 10000000 <;> by_cases c2 : g' (i * 8 + j) = 10000000
  · rw [if_pos c1, if_pos c2]; exact ⟨fun _ => by omega, fun _ => rfl⟩
  · rw [if_pos c1, if_neg c2]; exact ⟨fun z => absurd z (by simp), fun z => by omega⟩
  · rw [if_neg c1, if_pos c2]; exact ⟨fun z => absurd z (by simp), fun z => by omega⟩
  · rw [if_neg c1, if_neg c2]; exact ⟨fun z => by simpa using z, fun z => by rw [z]⟩
theorem ogM_z {g : Int → Int} {i j : Int} : ogM g i j = none ↔ g (i * 8 + j) = 10000000 := by
  unfold ogM
  split
  · simp [*]
  · simp [*]
def A_X9_hangs : List (Nat × Ctr) := [(2, rcv 9 2 C_X9_isPit), (1, rcv 9 1 C_X9_layKept), (3, rcv 9 3 C_X9_floats), (1, rcv 9 3 C_X9_keptSet), (2, rcv 9 8 C_X9_layNet)]
theorem e_X9_hangs (o : OM) : Ev o Y_X9_hangs 5 T_X9_hangs A_X9_hangs := ⟨rfl, List.forall_mem_cons.mpr ⟨Or.inl f_X9_80, List.forall_mem_cons.mpr ⟨Or.inl f_X9_325, fun _ h => absurd h List.not_mem_nil⟩⟩, fun _ h => absurd h List.not_mem_nil, fun _ h => absurd h List.not_mem_nil, fun _ h => absurd h List.not_mem_nil, List.forall_mem_cons.mpr ⟨cl_X9_isPit (s_X9_isPit o) (by decide) (Or.inl w_1267), List.forall_mem_cons.mpr ⟨cl_X9_layKept (s_X9_layKept o) (by decide) (Or.inl w_1517), List.forall_mem_cons.mpr ⟨cl_X9_floats (s_X9_floats o) (by decide) (Or.inl w_1548), List.forall_mem_cons.mpr ⟨cl_X9_keptSet (s_X9_keptSet o) (by decide) (Or.inl w_1521), List.forall_mem_cons.mpr ⟨cl_X9_layNet (s_X9_layNet o) (by decide) (Or.inl w_1525), fun _ h => absurd h List.not_mem_nil⟩⟩⟩⟩⟩, fun _ h => absurd h List.not_mem_nil⟩
def C_X9_hangs : Ctr := fun A σ κ => match A with
  | [.inr (.inr (.inl 67)), .inl a, .inl b] => (NIm σ) ∧ (¬ ((0 ≤ a ∧ a < σ 67 0) ∧ (0 ≤ b ∧ b < σ 67 0)) → κ [vI (-101)] σ) ∧ ((0 ≤ a ∧ a < σ 67 0) ∧ (0 ≤ b ∧ b < σ 67 0) → (∀ τ : Sto, (∀ p : Nat, p ≠ 91 → τ p = σ p) → (NoM (KM σ (ktM σ)) ∨ ∃ m, CloK (KM σ (ktM σ)) m ∧ m a b = none) → κ [vI (-103)] τ) ∧ (∀ (r : Int) (τ : Sto) (m : Mx), (∀ p : Nat, p ≠ 91 → τ p = σ p) → i32 r → CloK (KM σ (ktM σ)) m → ¬ m a b = none → (∀ j, 0 ≤ j → j < 32 → (bb r j = true ↔ j < σ 67 32 ∧ ktM σ j ∧ ∃ m', CloK (KMm σ j) m' ∧ difM m' m a b)) → κ [vI r] τ))
  | _ => False
set_option maxRecDepth 20000 in
theorem s_X9_hangs (o : OM) : Sound o Y_X9_hangs 5 C_X9_hangs := by
  intro Q A σ hA hC
  match A, hA, hC with
  | [.inr (.inr (.inl 67)), .inl a, .inl b], hA, hC =>
    obtain ⟨h0, hq⟩ : (NIm σ) ∧ (¬ ((0 ≤ a ∧ a < σ 67 0) ∧ (0 ≤ b ∧ b < σ 67 0)) → Q [vI (-101)] σ) ∧ ((0 ≤ a ∧ a < σ 67 0) ∧ (0 ≤ b ∧ b < σ 67 0) → (∀ τ : Sto, (∀ p : Nat, p ≠ 91 → τ p = σ p) → (NoM (KM σ (ktM σ)) ∨ ∃ m, CloK (KM σ (ktM σ)) m ∧ m a b = none) → Q [vI (-103)] τ) ∧ (∀ (r : Int) (τ : Sto) (m : Mx), (∀ p : Nat, p ≠ 91 → τ p = σ p) → i32 r → CloK (KM σ (ktM σ)) m → ¬ m a b = none → (∀ j, 0 ≤ j → j < 32 → (bb r j = true ↔ j < σ 67 32 ∧ ktM σ j ∧ ∃ m', CloK (KMm σ j) m' ∧ difM m' m a b)) → Q [vI r] τ)) := hC
    obtain ⟨hq1, hq2⟩ := hq
    have hn := h0.1
    have hJ := h0.2.1
    obtain ⟨P75, hP75⟩ : ∃ P : Nat → List AV → List AV → Sto → Prop, P = fun m S L τ => ∃ k lo hi s j : Int, ∃ g : Int → Int, S = [] ∧ L = [vR 67, vI a, vI b, vI k, vI lo, vI hi, vI s, vI j] ∧ (∀ p : Nat, p ≠ 91 → τ p = σ p) ∧ ((0 ≤ a ∧ a < σ 67 0) ∧ (0 ≤ b ∧ b < σ 67 0)) ∧ CloK (KM σ (ktM σ)) (ogM g) ∧ ¬ ogM g a b = none ∧ lo = g (b * 8 + a) ∧ hi = g (a * 8 + b) ∧ (∀ i, 0 ≤ i → i < 32 → (bb k i = true ↔ i < σ 67 32 ∧ ¬ σ 87 i = 0)) ∧ 0 ≤ j ∧ j ≤ σ 67 32 ∧ i32 s ∧ (∀ i, 0 ≤ i → i < 32 → (bb s i = true ↔ i < j ∧ ktM σ i ∧ ∃ m', CloK (KMm σ i) m' ∧ difM m' (ogM g) a b)) ∧ m = (12 - j).toNat := ⟨_, rfl⟩
    refine at_meth (lv := V_X9_hangs) (B := B_X9_hangs) (e_X9_hangs o) k_X9_hangs 6 [(75, P75)] (List.forall_mem_cons.mpr ⟨?_, fun _ h => absurd h List.not_mem_nil⟩) 0 [] _ σ ?_
    · intro m S L τ hI
      rw [hP75] at hI
      obtain ⟨k, lo, hi, s, j, g, rfl, rfl, he, hab, hC, hfl, hlo, hhi, hk, j0, j1, si, hs, hm⟩ := hI
      simp only [sq_iconst, sq_jsr, sq_anewarray, sq_iload, sq_lload, sq_aload, sq_istore, sq_lstore, sq_astore, sq_iinc, sq_getfield, st_put0, st_put1, st_put3, sq_inv, sq_goto, sq_icmp, sq_ifc, sq_tsw, sq_iadd, sq_isub, sq_imul, sq_ineg, sq_idiv, sq_irem, sq_iand, sq_ior, sq_ixor, sq_ishl, sq_ishr, sq_iushr, sq_ladd, sq_lmul, sq_ldiv, sq_lrem, sq_land, sq_lor, sq_lshl, sq_lushr, sq_lcmp, sq_i2l, sq_l2i, sq_i2c, sq_i2b, sq_dupI, sq_dupR, sq_dup2, sq_pop, sq_iaload, sq_baload, sq_aaload, sq_iastore, sq_bastore, sq_alen, sq_ireturn, sq_lreturn, sq_return, wq_c, wq_n, wlq_s, lkp, tbl, dBk, nth, setL, canSet, cmpI, tk, swK, rdF, entL, catS, cat1, arg, rcv, ald, bld, aln, br, Ccopy, Cmax, Cmin, Cabs, List.take, List.drop, List.reverse, List.reverseAux, List.length, List.append, List.nil_append, List.cons_append, true_and, and_true, and_self, forall_const, true_implies, false_implies, not_true_eq_false, not_false_eq_true, Option.map, reduceCtorEq, reduceIte, or_true, true_or, false_or, or_false, false_and, and_false, List.map, List.append_nil, implies_true, yK, Nat.reduceBEq, beq_self_eq_true, Int.zero_ne_one, Nat.reduceDiv, Nat.reduceMod, Nat.reduceAdd, Nat.reduceSub, Nat.reduceMul, Nat.reduceEqDiff, Nat.reduceLeDiff, Int.reduceToNat, Int.reduceNeg, Int.reduceEq, Int.reduceLT, Int.reduceLE, Int.reduceNatCast, Int.reduceNatCast', Int.reduceAdd, Int.reduceSub, Int.reduceMul, eq_self, Prod.mk.injEq, A_X9_hangs, V_X9_hangs, B_X9_hangs, Y_X9_hangs, C_X9_isPit, C_X9_layKept, C_X9_floats, C_X9_keptSet, C_X9_layNet, shpT, rfsT, wjq_s, look, he 67 (by decide), m8]
      have na : nd a := ⟨by omega, by omega⟩
      have nb : nd b := ⟨by omega, by omega⟩
      have a20 : ¬ σ 67 32 ≤ j → (12 - (j + 1)).toNat < m := fun h => by omega
      have nx : ∀ (τ' : Sto) (s' : Int), (∀ p : Nat, p ≠ 91 → τ' p = σ p) → ¬ σ 67 32 ≤ j → i32 s' → (∀ i, 0 ≤ i → i < 32 → (bb s' i = true ↔ i < j + 1 ∧ ktM σ i ∧ ∃ m', CloK (KMm σ i) m' ∧ difM m' (ogM g) a b)) → i32 (j + 1) ∧ ∃ m_1, m_1 < m ∧ P75 m_1 [] [vR 67, vI a, vI b, vI k, vI lo, vI hi, vI s', vI (j + 1)] τ' := by
        intro τ' s' he' h si' hs'
        rw [hP75]
        exact ⟨⟨by omega, by omega⟩, _, a20 h, k, lo, hi, s', j + 1, g, rfl, rfl, he', hab, hC, hfl, hlo, hhi, hk, (by omega), (by omega), si', hs', rfl⟩
      have same : ¬ (ktM σ j ∧ ∃ m', CloK (KMm σ j) m' ∧ difM m' (ogM g) a b) → ∀ i, 0 ≤ i → i < 32 → (bb s i = true ↔ i < j + 1 ∧ ktM σ i ∧ ∃ m', CloK (KMm σ i) m' ∧ difM m' (ogM g) a b) := by
        intro hno i i0 i1
        rw [hs i i0 i1]
        constructor
        · rintro ⟨z1, z2⟩; exact ⟨by omega, z2⟩
        · rintro ⟨z1, z2⟩
          refine ⟨?_, z2⟩
          by_cases c : i = j
          · rw [c] at z2; exact absurd z2 hno
          · omega
      refine ⟨fun h => ?_, fun h => ⟨fun h1 => nx τ s he h si (same (fun z => ?_)), fun h1 => ⟨NIm_e he h0, fun r τ' h2 h3 => ?_⟩⟩⟩
      · have : j = σ 67 32 := by omega
        subst this
        exact (hq2 hab).2 s τ _ he si hC hfl hs
      · rw [shr_bit1 j0 (by omega), hk j j0 (by omega)] at h1
        exact h1 ⟨by omega, z.1⟩
      · have kj : ktM σ j := by
          have := Classical.not_not.mp h1
          rw [shr_bit1 j0 (by omega), hk j j0 (by omega)] at this
          exact this.2
        have e : KM σ (inS (bAnd k (bXor (bShl 1 j) (-1)))) = KMm σ j := KM_S (fun i i0 i1 => by
          show (bAnd (bShr _ i) 1 = 1) ↔ _
          rw [shr_bit1 i0 (by omega), bb_and, bb_not _ i (by omega), bb_shl j0 (by omega) i0 (by omega)]
          have := hk i i0 (by omega)
          show _ ↔ (¬ σ 87 i = 0) ∧ _
          by_cases c : i = j
          · rw [decide_eq_true c]; simp [c]
          · rw [decide_eq_false c]
            simp only [Bool.not_false, Bool.and_true]
            rw [this]
            exact ⟨fun z => ⟨z.2, c⟩, fun z => ⟨i1, z.1⟩⟩)
        rw [KM_e he, e] at h3
        have hcl : CloK (KMm σ j) (ogM (τ' 91)) := by
          rcases h3.1 with ⟨-, z, -⟩ | ⟨-, z⟩
          · exact z
          · exact absurd (fun x y u v q => hC.2.1 x y u v (KM_mono (fun i z => z.1) x y u v q)) (z _ hC.1)
        have he' : ∀ p : Nat, p ≠ 91 → τ' p = σ p := fun p hp => by rw [h2 p hp, he p hp]
        have yes : difM (ogM (τ' 91)) (ogM g) a b → i32 (j + 1) ∧ ∃ m_1, m_1 < m ∧ P75 m_1 [] [vR 67, vI a, vI b, vI k, vI lo, vI hi, vI (bOr s (bShl 1 j)), vI (j + 1)] τ' := by
          intro hd
          refine nx τ' _ he' h (bOr_i _ _) (fun i i0 i1 => ?_)
          rw [bb_or, bb_shl j0 (by omega) i0 i1, Bool.or_eq_true, hs i i0 i1, decide_eq_true_eq]
          constructor
          · rintro (⟨z1, z2⟩ | e)
            · exact ⟨by omega, z2⟩
            · rw [e]; exact ⟨by omega, kj, _, hcl, hd⟩
          · rintro ⟨z1, z2⟩
            by_cases c : i = j
            · exact Or.inr c
            · exact Or.inl ⟨by omega, z2⟩
        refine ⟨⟨by omega, by omega⟩, ⟨by omega, by omega⟩, ⟨by omega, by omega⟩, fun h4 => yes (fun z => h4 (by rw [hhi]; exact ogM_i.mp z.1)), fun h4 => ⟨⟨by omega, by omega⟩, ⟨by omega, by omega⟩, ⟨by omega, by omega⟩, fun h5 => nx τ' _ he' h (bOr_i _ _) (fun i i0 i1 => ?_), fun h5 => yes (fun z => h5 (by rw [hlo]; exact ogM_i.mp z.2))⟩⟩
        rw [bb_or, bb_0, Bool.or_false]
        refine same ?_ i i0 i1
        rintro ⟨-, m1, z1, z2⟩
        have u := CloK_uni (fun _ _ => Iff.rfl) z1 hcl
        refine z2 ⟨(u a b na nb).trans (ogM_i.mpr ?_), (u b a nb na).trans (ogM_i.mpr ?_)⟩
        · rw [← hhi]; exact Classical.not_not.mp h4
        · rw [← hlo]; exact h5
    · simp only [sq_iconst, sq_jsr, sq_anewarray, sq_iload, sq_lload, sq_aload, sq_istore, sq_lstore, sq_astore, sq_iinc, sq_getfield, st_put0, st_put1, st_put3, sq_inv, sq_goto, sq_icmp, sq_ifc, sq_tsw, sq_iadd, sq_isub, sq_imul, sq_ineg, sq_idiv, sq_irem, sq_iand, sq_ior, sq_ixor, sq_ishl, sq_ishr, sq_iushr, sq_ladd, sq_lmul, sq_ldiv, sq_lrem, sq_land, sq_lor, sq_lshl, sq_lushr, sq_lcmp, sq_i2l, sq_l2i, sq_i2c, sq_i2b, sq_dupI, sq_dupR, sq_dup2, sq_pop, sq_iaload, sq_baload, sq_aaload, sq_iastore, sq_bastore, sq_alen, sq_ireturn, sq_lreturn, sq_return, wq_c, wq_n, wlq_s, lkp, tbl, dBk, nth, setL, canSet, cmpI, tk, swK, rdF, entL, catS, cat1, arg, rcv, ald, bld, aln, br, Ccopy, Cmax, Cmin, Cabs, List.take, List.drop, List.reverse, List.reverseAux, List.length, List.append, List.nil_append, List.cons_append, true_and, and_true, and_self, forall_const, true_implies, false_implies, not_true_eq_false, not_false_eq_true, Option.map, reduceCtorEq, reduceIte, or_true, true_or, false_or, or_false, false_and, and_false, List.map, List.append_nil, implies_true, yK, Nat.reduceBEq, beq_self_eq_true, Int.zero_ne_one, Nat.reduceDiv, Nat.reduceMod, Nat.reduceAdd, Nat.reduceSub, Nat.reduceMul, Nat.reduceEqDiff, Nat.reduceLeDiff, Int.reduceToNat, Int.reduceNeg, Int.reduceEq, Int.reduceLT, Int.reduceLE, Int.reduceNatCast, Int.reduceNatCast', Int.reduceAdd, Int.reduceSub, Int.reduceMul, eq_self, Prod.mk.injEq, A_X9_hangs, V_X9_hangs, B_X9_hangs, Y_X9_hangs, C_X9_isPit, C_X9_layKept, C_X9_floats, C_X9_keptSet, C_X9_layNet, shpT, rfsT, wjq_s, look, m8]
      refine ⟨hn, fun ha => ⟨hn, fun hb => ⟨h0, fun r τ h1 h2 => ⟨fun h3 => ?_, fun h3 => ⟨⟨⟨by omega, by omega⟩, ⟨by omega, by omega⟩⟩, fun h4 => ?_, fun h4 => ⟨by rw [h1 67 (by decide)]; exact hJ, fun k k0 hk => ?_⟩⟩⟩⟩, fun hb => hq1 (fun z => hb z.2)⟩, fun ha => hq1 (fun z => ha z.1)⟩
      · refine (hq2 ⟨ha, hb⟩).1 τ h1 (Or.inl ?_)
        rcases h2.1 with ⟨e, -⟩ | ⟨-, e⟩
        · omega
        · exact e
      · refine (hq2 ⟨ha, hb⟩).1 τ h1 (Or.inr ?_)
        rcases h2.1 with ⟨-, e, -⟩ | ⟨e, -⟩
        · exact ⟨_, e, ogM_n h4⟩
        · omega
      · have hC : CloK (KM σ (ktM σ)) (ogM (τ 91)) := by
          rcases h2.1 with ⟨-, e, -⟩ | ⟨e, -⟩
          · exact e
          · omega
        rw [h1 67 (by decide), h1 87 (by decide)] at hk
        rw [hP75]
        exact ⟨⟨by omega, by omega⟩, ⟨by omega, by omega⟩, ⟨by omega, by omega⟩, ⟨by omega, by omega⟩, ⟨by omega, by omega⟩, ⟨by omega, by omega⟩, _, k, _, _, 0, 0, τ 91, rfl, rfl, h1, ⟨ha, hb⟩, hC, fun z => h4 (ogM_z.mp z), rfl, rfl, hk, (by omega), hJ.1, i32_0, fun i i0 i1 => ⟨fun z => by rw [bb_0] at z; exact absurd z (by simp), fun z => by omega⟩, rfl⟩
theorem Conn_lab {K : Kn} {g : Int → Int} (h : Conn K g) : ∃ l : Int → Int, LabK K l ∧ ∀ i j, nd i → nd j → (¬ g (i * 8 + j) = 10000000 ↔ l i = l j) := by
  have rf : ∀ i, nd i → ¬ g (i * 8 + i) = 10000000 := fun i a => (h i i a a).mpr (fun _ _ => rfl)
  have sy : ∀ i j, nd i → nd j → ¬ g (i * 8 + j) = 10000000 → ¬ g (j * 8 + i) = 10000000 := fun i j a b q => (h j i b a).mpr (fun f hf => ((h i j a b).mp q f hf).symm)
  have tr : ∀ i k j, nd i → nd k → nd j → ¬ g (i * 8 + k) = 10000000 → ¬ g (k * 8 + j) = 10000000 → ¬ g (i * 8 + j) = 10000000 := fun i k j a b c q1 q2 => (h i j a c).mpr (fun f hf => ((h i k a b).mp q1 f hf).trans ((h k j b c).mp q2 f hf))
  have key : ∀ i j, nd i → nd j → (¬ g (i * 8 + j) = 10000000 ↔ ff (fun c => decide (¬ g (i * 8 + c) = 10000000)) 0 8 = ff (fun c => decide (¬ g (j * 8 + c) = 10000000)) 0 8) := by
    intro i j a b
    constructor
    · intro q
      refine ff_congr 8 0 (fun d h1 h2 => ?_)
      have hd : nd d := ⟨h1, by omega⟩
      simp only [decide_eq_decide]
      exact ⟨fun z => tr j i d b a hd (sy i j a b q) z, fun z => tr i j d a b hd q z⟩
    · intro e
      have n1 : ¬ ff (fun c => decide (¬ g (i * 8 + c) = 10000000)) 0 8 = -1 := ff_ex1 8 0 i (by omega) a.1 (by have := a.2; omega) (by simp only [decide_eq_true_eq]; exact rf i a)
      have n2 : ¬ ff (fun c => decide (¬ g (j * 8 + c) = 10000000)) 0 8 = -1 := by rw [← e]; exact n1
      have m1 := (ff_in (P := fun c => decide (¬ g (i * 8 + c) = 10000000)) 8 0).resolve_left n1
      have m2 := (ff_in (P := fun c => decide (¬ g (j * 8 + c) = 10000000)) 8 0).resolve_left n2
      have p1 := of_decide_eq_true m1.2.2
      have p2 := of_decide_eq_true m2.2.2
      rw [← e] at p2
      have hd : nd (ff (fun c => decide (¬ g (i * 8 + c) = 10000000)) 0 8) := ⟨m1.1, by have := m1.2.1; omega⟩
      exact tr i _ j a hd b p1 (sy j _ b hd p2)
  exact ⟨fun i => ff (fun c => decide (¬ g (i * 8 + c) = 10000000)) 0 8, fun i j a b => (key i j a b).symm.trans (h i j a b), key⟩
theorem nGr_s {l : Int → Int} {p : Int} (h : 0 ≤ p) : nGr l (p + 1) = nGr l p + (if nwP l p = true then 1 else 0) := sumI_s _ h
theorem nGr_in {l : Int → Int} {p : Int} (h : 0 ≤ p) : 0 ≤ nGr l p ∧ nGr l p ≤ p := by
  have := sumI_le (f := fun p => if nwP l p = true then (1 : Int) else 0) (lo := 0) (hi := 1) h (fun j _ _ => by show (0 : Int) ≤ (if nwP l j = true then 1 else 0) ∧ (if nwP l j = true then (1 : Int) else 0) ≤ 1; split <;> omega)
  unfold nGr
  omega
def A_X9_layCalendars : List (Nat × Ctr) := [(1, rcv 9 1 C_X9_layKept), (3, rcv 9 3 C_X9_floats)]
theorem e_X9_layCalendars (o : OM) : Ev o Y_X9_layCalendars 5 T_X9_layCalendars A_X9_layCalendars := ⟨rfl, List.forall_mem_cons.mpr ⟨Or.inl f_X9_109, List.forall_mem_cons.mpr ⟨Or.inl f_X9_83, fun _ h => absurd h List.not_mem_nil⟩⟩, fun _ h => absurd h List.not_mem_nil, fun _ h => absurd h List.not_mem_nil, fun _ h => absurd h List.not_mem_nil, List.forall_mem_cons.mpr ⟨cl_X9_layKept (s_X9_layKept o) (by decide) (Or.inl w_1517), List.forall_mem_cons.mpr ⟨cl_X9_floats (s_X9_floats o) (by decide) (Or.inl w_1548), fun _ h => absurd h List.not_mem_nil⟩⟩, fun _ h => absurd h List.not_mem_nil⟩
def C_X9_layCalendars : Ctr := fun A σ κ => match A with
  | [.inr (.inr (.inl 67))] => (NIm σ) ∧ ∀ (r : Int) (τ : Sto) (l : Int → Int), (∀ p : Nat, p ≠ 91 → p ≠ 92 → τ p = σ p) → LabK (KM σ (ktM σ)) l → r = nGr l (σ 67 0) → (∀ p, 0 ≤ p → p < σ 67 0 → (τ 92 p = 0 ↔ l p = l 0)) → κ [vI r] τ
  | _ => False
set_option maxRecDepth 20000 in
theorem s_X9_layCalendars (o : OM) : Sound o Y_X9_layCalendars 5 C_X9_layCalendars := by
  intro Q A σ hA hC
  match A, hA, hC with
  | [.inr (.inr (.inl 67))], hA, hC =>
    obtain ⟨h0, hq⟩ : (NIm σ) ∧ ∀ (r : Int) (τ : Sto) (l : Int → Int), (∀ p : Nat, p ≠ 91 → p ≠ 92 → τ p = σ p) → LabK (KM σ (ktM σ)) l → r = nGr l (σ 67 0) → (∀ p, 0 ≤ p → p < σ 67 0 → (τ 92 p = 0 ↔ l p = l 0)) → Q [vI r] τ := hC
    have hn := h0.1
    obtain ⟨P9, hP9⟩ : ∃ P : Nat → List AV → List AV → Sto → Prop, P = fun m S L τ => ∃ l : Int → Int, ∃ p : Int, S = [] ∧ L = [vR 67, vI (nGr l p), vI p] ∧ (∀ p : Nat, p ≠ 91 → p ≠ 92 → τ p = σ p) ∧ LabK (KM σ (ktM σ)) l ∧ (∀ i j, nd i → nd j → (¬ τ 91 (i * 8 + j) = 10000000 ↔ l i = l j)) ∧ 0 ≤ p ∧ p ≤ σ 67 0 ∧ (∀ q, 0 ≤ q → q < p → 0 ≤ τ 92 q ∧ τ 92 q < nGr l p) ∧ (∀ q q', 0 ≤ q → q < p → 0 ≤ q' → q' < p → (τ 92 q = τ 92 q' ↔ l q = l q')) ∧ (0 < p → τ 92 0 = 0) ∧ m = ((7 - p) * 100).toNat := ⟨_, rfl⟩
    obtain ⟨P26, hP26⟩ : ∃ P : Nat → List AV → List AV → Sto → Prop, P = fun m S L τ => ∃ l : Int → Int, ∃ p q : Int, S = [] ∧ L = [vR 67, vI (nGr l p), vI p, vI q] ∧ (∀ p : Nat, p ≠ 91 → p ≠ 92 → τ p = σ p) ∧ LabK (KM σ (ktM σ)) l ∧ (∀ i j, nd i → nd j → (¬ τ 91 (i * 8 + j) = 10000000 ↔ l i = l j)) ∧ 0 ≤ p ∧ p < σ 67 0 ∧ (∀ q, 0 ≤ q → q < p → 0 ≤ τ 92 q ∧ τ 92 q < nGr l p) ∧ (∀ q q', 0 ≤ q → q < p → 0 ≤ q' → q' < p → (τ 92 q = τ 92 q' ↔ l q = l q')) ∧ (0 < p → τ 92 0 = 0) ∧ 0 ≤ q ∧ q ≤ p ∧ ((τ 92 p = -1 ∧ ∀ q', 0 ≤ q' → q' < q → ¬ l q' = l p) ∨ (∃ q', 0 ≤ q' ∧ q' < q ∧ l q' = l p ∧ τ 92 p = τ 92 q')) ∧ m = ((6 - p) * 100 + 50 + (7 - q)).toNat := ⟨_, rfl⟩
    refine at_meth (lv := V_X9_layCalendars) (B := B_X9_layCalendars) (e_X9_layCalendars o) k_X9_layCalendars 5 [(9, P9), (26, P26)] (List.forall_mem_cons.mpr ⟨?_, List.forall_mem_cons.mpr ⟨?_, fun _ h => absurd h List.not_mem_nil⟩⟩) 0 [] _ σ ?_
    · intro m S L τ hI
      rw [hP9] at hI
      obtain ⟨l, p, rfl, rfl, he, hl, hc, p0, p1, h1, h2, h3, hm⟩ := hI
      simp only [sq_iconst, sq_jsr, sq_anewarray, sq_iload, sq_lload, sq_aload, sq_istore, sq_lstore, sq_astore, sq_iinc, sq_getfield, st_put0, st_put1, st_put3, sq_inv, sq_goto, sq_icmp, sq_ifc, sq_tsw, sq_iadd, sq_isub, sq_imul, sq_ineg, sq_idiv, sq_irem, sq_iand, sq_ior, sq_ixor, sq_ishl, sq_ishr, sq_iushr, sq_ladd, sq_lmul, sq_ldiv, sq_lrem, sq_land, sq_lor, sq_lshl, sq_lushr, sq_lcmp, sq_i2l, sq_l2i, sq_i2c, sq_i2b, sq_dupI, sq_dupR, sq_dup2, sq_pop, sq_iaload, sq_baload, sq_aaload, sq_iastore, sq_bastore, sq_alen, sq_ireturn, sq_lreturn, sq_return, wq_c, wq_n, wlq_s, lkp, tbl, dBk, nth, setL, canSet, cmpI, tk, swK, rdF, entL, catS, cat1, arg, rcv, ald, bld, aln, br, Ccopy, Cmax, Cmin, Cabs, List.take, List.drop, List.reverse, List.reverseAux, List.length, List.append, List.nil_append, List.cons_append, true_and, and_true, and_self, forall_const, true_implies, false_implies, not_true_eq_false, not_false_eq_true, Option.map, reduceCtorEq, reduceIte, or_true, true_or, false_or, or_false, false_and, and_false, List.map, List.append_nil, implies_true, yK, Nat.reduceBEq, beq_self_eq_true, Int.zero_ne_one, Nat.reduceDiv, Nat.reduceMod, Nat.reduceAdd, Nat.reduceSub, Nat.reduceMul, Nat.reduceEqDiff, Nat.reduceLeDiff, Int.reduceToNat, Int.reduceNeg, Int.reduceEq, Int.reduceLT, Int.reduceLE, Int.reduceNatCast, Int.reduceNatCast', Int.reduceAdd, Int.reduceSub, Int.reduceMul, eq_self, Prod.mk.injEq, A_X9_layCalendars, V_X9_layCalendars, B_X9_layCalendars, Y_X9_layCalendars, C_X9_layKept, C_X9_floats, shpT, rfsT, wjq_s, look, he 67 (by decide) (by decide)]
      have a20 : ¬ σ 67 0 ≤ p → ((6 - p) * 100 + 50 + (7 - 0)).toNat < m := fun h => by omega
      refine ⟨fun h => ?_, fun h => ⟨⟨by omega, by omega⟩, ?_⟩⟩
      · have e : p = σ 67 0 := by omega
        subst e
        refine hq _ τ l he hl rfl (fun x x0 x1 => ?_)
        have := h2 x 0 x0 x1 (by omega) (by omega)
        rw [h3 (by omega)] at this
        exact this
      · rw [hP26]
        have nz : ∀ x, ¬ x = p → su τ 92 p (-1) 92 x = τ 92 x := fun x hx => by rw [su_at, if_neg hx]
        exact ⟨_, a20 h, l, p, 0, rfl, rfl, fun x x1 x2 => by rw [su_r x2]; exact he x x1 x2, hl, by rw [su_r (by decide)]; exact hc, p0, (by omega), fun x x0 x1 => by rw [nz x (by omega)]; exact h1 x x0 x1, fun x y x0 x1 y0 y1 => by rw [nz x (by omega), nz y (by omega)]; exact h2 x y x0 x1 y0 y1, fun z => by rw [nz 0 (by omega)]; exact h3 z, (by omega), (by omega), Or.inl ⟨by rw [su_at, if_pos rfl], fun y y0 y1 => by omega⟩, rfl⟩
    · intro m S L τ hI
      rw [hP26] at hI
      obtain ⟨l, p, q, rfl, rfl, he, hl, hc, p0, p1, h1, h2, h3, q0, q1, hb, hm⟩ := hI
      simp only [sq_iconst, sq_jsr, sq_anewarray, sq_iload, sq_lload, sq_aload, sq_istore, sq_lstore, sq_astore, sq_iinc, sq_getfield, st_put0, st_put1, st_put3, sq_inv, sq_goto, sq_icmp, sq_ifc, sq_tsw, sq_iadd, sq_isub, sq_imul, sq_ineg, sq_idiv, sq_irem, sq_iand, sq_ior, sq_ixor, sq_ishl, sq_ishr, sq_iushr, sq_ladd, sq_lmul, sq_ldiv, sq_lrem, sq_land, sq_lor, sq_lshl, sq_lushr, sq_lcmp, sq_i2l, sq_l2i, sq_i2c, sq_i2b, sq_dupI, sq_dupR, sq_dup2, sq_pop, sq_iaload, sq_baload, sq_aaload, sq_iastore, sq_bastore, sq_alen, sq_ireturn, sq_lreturn, sq_return, wq_c, wq_n, wlq_s, lkp, tbl, dBk, nth, setL, canSet, cmpI, tk, swK, rdF, entL, catS, cat1, arg, rcv, ald, bld, aln, br, Ccopy, Cmax, Cmin, Cabs, List.take, List.drop, List.reverse, List.reverseAux, List.length, List.append, List.nil_append, List.cons_append, true_and, and_true, and_self, forall_const, true_implies, false_implies, not_true_eq_false, not_false_eq_true, Option.map, reduceCtorEq, reduceIte, or_true, true_or, false_or, or_false, false_and, and_false, List.map, List.append_nil, implies_true, yK, Nat.reduceBEq, beq_self_eq_true, Int.zero_ne_one, Nat.reduceDiv, Nat.reduceMod, Nat.reduceAdd, Nat.reduceSub, Nat.reduceMul, Nat.reduceEqDiff, Nat.reduceLeDiff, Int.reduceToNat, Int.reduceNeg, Int.reduceEq, Int.reduceLT, Int.reduceLE, Int.reduceNatCast, Int.reduceNatCast', Int.reduceAdd, Int.reduceSub, Int.reduceMul, eq_self, Prod.mk.injEq, A_X9_layCalendars, V_X9_layCalendars, B_X9_layCalendars, Y_X9_layCalendars, C_X9_layKept, C_X9_floats, shpT, rfsT, wjq_s, look, he 67 (by decide) (by decide)]
      have a20 : ¬ p ≤ q → ((6 - p) * 100 + 50 + (7 - (q + 1))).toNat < m := fun h => by omega
      have a21 : ((7 - (p + 1)) * 100).toNat < m := by omega
      have gi := nGr_in (l := l) p0
      have nz : ∀ v x, ¬ x = p → su τ 92 p v 92 x = τ 92 x := fun v x hx => by rw [su_at, if_neg hx]
      have nx : ∀ v, ¬ p ≤ q → ((v = -1 ∧ ∀ q', 0 ≤ q' → q' < q + 1 → ¬ l q' = l p) ∨ (∃ q', 0 ≤ q' ∧ q' < q + 1 ∧ l q' = l p ∧ v = τ 92 q')) → i32 (q + 1) ∧ ∃ m_1, m_1 < m ∧ P26 m_1 [] [vR 67, vI (nGr l p), vI p, vI (q + 1)] (su τ 92 p v) := by
        intro v h hv
        rw [hP26]
        refine ⟨⟨by omega, by omega⟩, _, a20 h, l, p, q + 1, rfl, rfl, fun x x1 x2 => by rw [su_r x2]; exact he x x1 x2, hl, by rw [su_r (by decide)]; exact hc, p0, p1, fun x x0 x1 => by rw [nz v x (by omega)]; exact h1 x x0 x1, fun x y x0 x1 y0 y1 => by rw [nz v x (by omega), nz v y (by omega)]; exact h2 x y x0 x1 y0 y1, fun z => by rw [nz v 0 (by omega)]; exact h3 z, (by omega), (by omega), ?_, rfl⟩
        rcases hv with ⟨z1, z2⟩ | ⟨y, y0, y1, y2, y3⟩
        · exact Or.inl ⟨by rw [su_at, if_pos rfl]; exact z1, z2⟩
        · exact Or.inr ⟨y, y0, y1, y2, by rw [su_at, if_pos rfl, nz v y (by omega)]; exact y3⟩
      have pp : nd p := ⟨by omega, by omega⟩
      refine ⟨fun h => ⟨⟨by omega, by omega⟩, fun h4 => ⟨⟨by omega, by omega⟩, ?_⟩, fun h4 => ⟨⟨by omega, by omega⟩, ⟨by omega, by omega⟩, ⟨by omega, by omega⟩, ?_⟩⟩, fun h => ⟨⟨by omega, by omega⟩, fun h4 => ⟨⟨by omega, by omega⟩, ⟨by omega, by omega⟩, nx _ h ?_⟩, fun h4 => ⟨⟨pp, ⟨by omega, by omega⟩⟩, fun h5 => ⟨⟨by omega, by omega⟩, ⟨by omega, by omega⟩, nx _ h ?_⟩, fun h5 => ⟨⟨by omega, by omega⟩, ⟨by omega, by omega⟩, nx _ h ?_⟩⟩⟩⟩
      · rcases hb with ⟨z, -⟩ | ⟨y, y0, y1, y2, y3⟩
        · exact absurd z h4
        · have en : nGr l (p + 1) = nGr l p := by
            rw [nGr_s p0, if_neg (fun z => nwP_t.mp z y y0 (by omega) y2)]
            omega
          rw [hP9]
          refine ⟨_, a21, l, p + 1, rfl, by rw [en], he, hl, hc, (by omega), (by omega), fun x x0 x1 => ?_, fun x z x0 x1 z0 z1 => ?_, fun _ => ?_, rfl⟩
          · rw [en]
            by_cases e : x = p
            · rw [e, y3]; exact h1 y y0 (by omega)
            · exact h1 x x0 (by omega)
          · by_cases e : x = p
            · by_cases e2 : z = p
              · rw [e, e2]; exact ⟨fun _ => rfl, fun _ => rfl⟩
              · rw [e, y3, ← y2]; exact h2 y z y0 (by omega) z0 (by omega)
            · by_cases e2 : z = p
              · rw [e2, y3, ← y2]; exact h2 x y x0 (by omega) y0 (by omega)
              · exact h2 x z x0 (by omega) z0 (by omega)
          · exact h3 (by omega)
      · rcases hb with ⟨-, z⟩ | ⟨y, y0, y1, y2, y3⟩
        · have en : nGr l (p + 1) = nGr l p + 1 := by
            rw [nGr_s p0, if_pos (nwP_t.mpr (fun y y0 y1 => z y y0 (by omega)))]
          rw [hP9]
          refine ⟨_, a21, l, p + 1, rfl, by rw [en], fun x x1 x2 => by rw [su_r x2]; exact he x x1 x2, hl, by rw [su_r (by decide)]; exact hc, (by omega), (by omega), fun x x0 x1 => ?_, fun x w x0 x1 w0 w1 => ?_, fun _ => ?_, rfl⟩
          · rw [en, su_at]
            split
            · omega
            · have := h1 x x0 (by omega); omega
          · by_cases e : x = p
            · by_cases e2 : w = p
              · rw [e, e2]; exact ⟨fun _ => rfl, fun _ => rfl⟩
              · rw [su_at, if_pos e, nz _ w e2, e]
                have := h1 w w0 (by omega)
                exact ⟨fun q => by omega, fun q => absurd q.symm (z w w0 (by omega))⟩
            · by_cases e2 : w = p
              · rw [nz _ x e, e2, su_at, if_pos rfl]
                have := h1 x x0 (by omega)
                exact ⟨fun q => by omega, fun q => absurd q (z x x0 (by omega))⟩
              · rw [nz _ x e, nz _ w e2]; exact h2 x w x0 (by omega) w0 (by omega)
          · rw [su_at]
            by_cases e : 0 = p
            · rw [if_pos e, ← e]; rfl
            · rw [if_neg e]; exact h3 (by omega)
        · have := h1 y y0 (by omega)
          omega
      · rcases hb with ⟨z, -⟩ | ⟨y, y0, y1, y2, y3⟩
        · exact absurd z h4
        · exact Or.inr ⟨y, y0, by omega, y2, y3⟩
      · rcases hb with ⟨z1, z2⟩ | ⟨y, y0, y1, y2, y3⟩
        · refine Or.inl ⟨z1, fun y y0 y1 => ?_⟩
          by_cases e : y = q
          · rw [e]
            intro z
            exact (hc p q pp ⟨by omega, by omega⟩).mpr z.symm h5
          · exact z2 y y0 (by omega)
        · exact Or.inr ⟨y, y0, by omega, y2, y3⟩
      · exact Or.inr ⟨q, q0, by omega, ((hc p q pp ⟨by omega, by omega⟩).mp h5).symm, rfl⟩
    · simp only [sq_iconst, sq_jsr, sq_anewarray, sq_iload, sq_lload, sq_aload, sq_istore, sq_lstore, sq_astore, sq_iinc, sq_getfield, st_put0, st_put1, st_put3, sq_inv, sq_goto, sq_icmp, sq_ifc, sq_tsw, sq_iadd, sq_isub, sq_imul, sq_ineg, sq_idiv, sq_irem, sq_iand, sq_ior, sq_ixor, sq_ishl, sq_ishr, sq_iushr, sq_ladd, sq_lmul, sq_ldiv, sq_lrem, sq_land, sq_lor, sq_lshl, sq_lushr, sq_lcmp, sq_i2l, sq_l2i, sq_i2c, sq_i2b, sq_dupI, sq_dupR, sq_dup2, sq_pop, sq_iaload, sq_baload, sq_aaload, sq_iastore, sq_bastore, sq_alen, sq_ireturn, sq_lreturn, sq_return, wq_c, wq_n, wlq_s, lkp, tbl, dBk, nth, setL, canSet, cmpI, tk, swK, rdF, entL, catS, cat1, arg, rcv, ald, bld, aln, br, Ccopy, Cmax, Cmin, Cabs, List.take, List.drop, List.reverse, List.reverseAux, List.length, List.append, List.nil_append, List.cons_append, true_and, and_true, and_self, forall_const, true_implies, false_implies, not_true_eq_false, not_false_eq_true, Option.map, reduceCtorEq, reduceIte, or_true, true_or, false_or, or_false, false_and, and_false, List.map, List.append_nil, implies_true, yK, Nat.reduceBEq, beq_self_eq_true, Int.zero_ne_one, Nat.reduceDiv, Nat.reduceMod, Nat.reduceAdd, Nat.reduceSub, Nat.reduceMul, Nat.reduceEqDiff, Nat.reduceLeDiff, Int.reduceToNat, Int.reduceNeg, Int.reduceEq, Int.reduceLT, Int.reduceLE, Int.reduceNatCast, Int.reduceNatCast', Int.reduceAdd, Int.reduceSub, Int.reduceMul, eq_self, Prod.mk.injEq, A_X9_layCalendars, V_X9_layCalendars, B_X9_layCalendars, Y_X9_layCalendars, C_X9_layKept, C_X9_floats, shpT, rfsT, wjq_s, look]
      refine ⟨h0, fun r τ h1 h2 => ?_⟩
      obtain ⟨l, l1, l2⟩ := Conn_lab h2.2
      rw [hP9]
      exact ⟨_, l, 0, rfl, rfl, fun x x1 x2 => h1 x x1, l1, l2, (by omega), hn.1, fun x x0 x1 => by omega, fun x y x0 x1 => by omega, fun z => by omega, rfl⟩
def A_X9_calendars : List (Nat × Ctr) := [(3, arg 6 C_X9_in), (1, rcv 9 4 C_X9_layCalendars)]
theorem e_X9_calendars (o : OM) : Ev o Y_X9_calendars 6 T_X9_calendars A_X9_calendars := ⟨rfl, List.forall_mem_cons.mpr ⟨Or.inl f_X9_109, List.forall_mem_cons.mpr ⟨Or.inl f_X9_83, fun _ h => absurd h List.not_mem_nil⟩⟩, fun _ h => absurd h List.not_mem_nil, fun _ h => absurd h List.not_mem_nil, fun _ h => absurd h List.not_mem_nil, List.forall_mem_cons.mpr ⟨cl_X9_layCalendars (s_X9_layCalendars o) (by decide) (Or.inl w_1560), fun _ h => absurd h List.not_mem_nil⟩, List.forall_mem_cons.mpr ⟨cl_X9_in (s_X9_in o) (by decide) (Or.inl w_1260), fun _ h => absurd h List.not_mem_nil⟩⟩
def C_X9_calendars : Ctr := fun A σ κ => match A with
  | [.inr (.inr (.inl 67)), .inl w] => (NIm σ) ∧ (¬ (0 ≤ w ∧ w ≤ 1) → κ [vI (-102)] σ) ∧ (0 ≤ w ∧ w ≤ 1 → ∀ (r : Int) (τ : Sto) (l : Int → Int), (∀ p : Nat, p ≠ 91 → p ≠ 92 → τ p = σ p) → LabK (KM σ (ktM σ)) l → (w = 0 → r = nGr l (σ 67 0)) → (w = 1 → i32 r ∧ ∀ i, 0 ≤ i → i < 32 → (bb r i = true ↔ i < σ 67 0 ∧ l i = l 0)) → κ [vI r] τ)
  | _ => False
set_option maxRecDepth 20000 in
theorem s_X9_calendars (o : OM) : Sound o Y_X9_calendars 6 C_X9_calendars := by
  intro Q A σ hA hC
  match A, hA, hC with
  | [.inr (.inr (.inl 67)), .inl w], hA, hC =>
    obtain ⟨h0, hq⟩ : (NIm σ) ∧ (¬ (0 ≤ w ∧ w ≤ 1) → Q [vI (-102)] σ) ∧ (0 ≤ w ∧ w ≤ 1 → ∀ (r : Int) (τ : Sto) (l : Int → Int), (∀ p : Nat, p ≠ 91 → p ≠ 92 → τ p = σ p) → LabK (KM σ (ktM σ)) l → (w = 0 → r = nGr l (σ 67 0)) → (w = 1 → i32 r ∧ ∀ i, 0 ≤ i → i < 32 → (bb r i = true ↔ i < σ 67 0 ∧ l i = l 0)) → Q [vI r] τ) := hC
    obtain ⟨hq1, hq2⟩ := hq
    have hn := h0.1
    obtain ⟨P23, hP23⟩ : ∃ P : Nat → List AV → List AV → Sto → Prop, P = fun m S L τ => ∃ l : Int → Int, ∃ s p : Int, S = [] ∧ L = [vR 67, vI w, vI (nGr l (σ 67 0)), vI s, vI p] ∧ (0 ≤ w ∧ w ≤ 1) ∧ (∀ p : Nat, p ≠ 91 → p ≠ 92 → τ p = σ p) ∧ LabK (KM σ (ktM σ)) l ∧ (∀ p, 0 ≤ p → p < σ 67 0 → (τ 92 p = 0 ↔ l p = l 0)) ∧ 0 ≤ p ∧ p ≤ σ 67 0 ∧ i32 s ∧ (∀ i, 0 ≤ i → i < 32 → (bb s i = true ↔ i < p ∧ l i = l 0)) ∧ m = (7 - p).toNat := ⟨_, rfl⟩
    refine at_meth (lv := V_X9_calendars) (B := B_X9_calendars) (e_X9_calendars o) k_X9_calendars 5 [(23, P23)] (List.forall_mem_cons.mpr ⟨?_, fun _ h => absurd h List.not_mem_nil⟩) 0 [] _ σ ?_
    · intro m S L τ hI
      rw [hP23] at hI
      obtain ⟨l, s, p, rfl, rfl, hw, he, hl, hz, p0, p1, si, hs, hm⟩ := hI
      simp only [sq_iconst, sq_jsr, sq_anewarray, sq_iload, sq_lload, sq_aload, sq_istore, sq_lstore, sq_astore, sq_iinc, sq_getfield, st_put0, st_put1, st_put3, sq_inv, sq_goto, sq_icmp, sq_ifc, sq_tsw, sq_iadd, sq_isub, sq_imul, sq_ineg, sq_idiv, sq_irem, sq_iand, sq_ior, sq_ixor, sq_ishl, sq_ishr, sq_iushr, sq_ladd, sq_lmul, sq_ldiv, sq_lrem, sq_land, sq_lor, sq_lshl, sq_lushr, sq_lcmp, sq_i2l, sq_l2i, sq_i2c, sq_i2b, sq_dupI, sq_dupR, sq_dup2, sq_pop, sq_iaload, sq_baload, sq_aaload, sq_iastore, sq_bastore, sq_alen, sq_ireturn, sq_lreturn, sq_return, wq_c, wq_n, wlq_s, lkp, tbl, dBk, nth, setL, canSet, cmpI, tk, swK, rdF, entL, catS, cat1, arg, rcv, ald, bld, aln, br, Ccopy, Cmax, Cmin, Cabs, List.take, List.drop, List.reverse, List.reverseAux, List.length, List.append, List.nil_append, List.cons_append, true_and, and_true, and_self, forall_const, true_implies, false_implies, not_true_eq_false, not_false_eq_true, Option.map, reduceCtorEq, reduceIte, or_true, true_or, false_or, or_false, false_and, and_false, List.map, List.append_nil, implies_true, yK, Nat.reduceBEq, beq_self_eq_true, Int.zero_ne_one, Nat.reduceDiv, Nat.reduceMod, Nat.reduceAdd, Nat.reduceSub, Nat.reduceMul, Nat.reduceEqDiff, Nat.reduceLeDiff, Int.reduceToNat, Int.reduceNeg, Int.reduceEq, Int.reduceLT, Int.reduceLE, Int.reduceNatCast, Int.reduceNatCast', Int.reduceAdd, Int.reduceSub, Int.reduceMul, eq_self, Prod.mk.injEq, A_X9_calendars, V_X9_calendars, B_X9_calendars, Y_X9_calendars, C_X9_in, C_X9_layCalendars, shpT, rfsT, wjq_s, look, he 67 (by decide) (by decide)]
      have a20 : ¬ σ 67 0 ≤ p → (7 - (p + 1)).toNat < m := fun h => by omega
      rw [hP23]
      refine ⟨fun h => ?_, fun h => ⟨⟨by omega, by omega⟩, fun h1 => ⟨⟨by omega, by omega⟩, _, a20 h, l, _, p + 1, rfl, rfl, hw, he, hl, hz, (by omega), (by omega), bOr_i _ _, fun i i0 i1 => ?_, rfl⟩, fun h1 => ⟨⟨by omega, by omega⟩, _, a20 h, l, _, p + 1, rfl, rfl, hw, he, hl, hz, (by omega), (by omega), bOr_i _ _, fun i i0 i1 => ?_, rfl⟩⟩⟩
      · have e : p = σ 67 0 := by omega
        subst e
        exact ⟨fun h1 => hq2 hw _ τ l he hl (fun z => absurd z h1) (fun _ => ⟨si, hs⟩), fun h1 => hq2 hw _ τ l he hl (fun _ => rfl) (fun z => by omega)⟩
      · rw [bb_or, bb_0, Bool.or_false, hs i i0 i1]
        constructor
        · rintro ⟨z1, z2⟩; exact ⟨by omega, z2⟩
        · rintro ⟨z1, z2⟩
          refine ⟨?_, z2⟩
          by_cases c : i = p
          · rw [c] at z2; exact absurd ((hz p p0 (by omega)).mpr z2) h1
          · omega
      · rw [bb_or, bb_shl p0 (by omega) i0 i1, Bool.or_eq_true, hs i i0 i1, decide_eq_true_eq]
        constructor
        · rintro (⟨z1, z2⟩ | e)
          · exact ⟨by omega, z2⟩
          · rw [e]; exact ⟨by omega, (hz p p0 (by omega)).mp (Classical.not_not.mp h1)⟩
        · rintro ⟨z1, z2⟩
          by_cases c : i = p
          · exact Or.inr c
          · exact Or.inl ⟨by omega, z2⟩
    · simp only [sq_iconst, sq_jsr, sq_anewarray, sq_iload, sq_lload, sq_aload, sq_istore, sq_lstore, sq_astore, sq_iinc, sq_getfield, st_put0, st_put1, st_put3, sq_inv, sq_goto, sq_icmp, sq_ifc, sq_tsw, sq_iadd, sq_isub, sq_imul, sq_ineg, sq_idiv, sq_irem, sq_iand, sq_ior, sq_ixor, sq_ishl, sq_ishr, sq_iushr, sq_ladd, sq_lmul, sq_ldiv, sq_lrem, sq_land, sq_lor, sq_lshl, sq_lushr, sq_lcmp, sq_i2l, sq_l2i, sq_i2c, sq_i2b, sq_dupI, sq_dupR, sq_dup2, sq_pop, sq_iaload, sq_baload, sq_aaload, sq_iastore, sq_bastore, sq_alen, sq_ireturn, sq_lreturn, sq_return, wq_c, wq_n, wlq_s, lkp, tbl, dBk, nth, setL, canSet, cmpI, tk, swK, rdF, entL, catS, cat1, arg, rcv, ald, bld, aln, br, Ccopy, Cmax, Cmin, Cabs, List.take, List.drop, List.reverse, List.reverseAux, List.length, List.append, List.nil_append, List.cons_append, true_and, and_true, and_self, forall_const, true_implies, false_implies, not_true_eq_false, not_false_eq_true, Option.map, reduceCtorEq, reduceIte, or_true, true_or, false_or, or_false, false_and, and_false, List.map, List.append_nil, implies_true, yK, Nat.reduceBEq, beq_self_eq_true, Int.zero_ne_one, Nat.reduceDiv, Nat.reduceMod, Nat.reduceAdd, Nat.reduceSub, Nat.reduceMul, Nat.reduceEqDiff, Nat.reduceLeDiff, Int.reduceToNat, Int.reduceNeg, Int.reduceEq, Int.reduceLT, Int.reduceLE, Int.reduceNatCast, Int.reduceNatCast', Int.reduceAdd, Int.reduceSub, Int.reduceMul, eq_self, Prod.mk.injEq, A_X9_calendars, V_X9_calendars, B_X9_calendars, Y_X9_calendars, C_X9_in, C_X9_layCalendars, shpT, rfsT, wjq_s, look]
      rw [hP23]
      refine ⟨fun hw => ⟨h0, fun r τ l h1 h2 h3 h4 => ⟨_, l, 0, 0, rfl, by rw [h3], hw, h1, h2, h4, (by omega), hn.1, i32_0, fun i i0 i1 => ⟨fun z => by rw [bb_0] at z; exact absurd z (by simp), fun z => by omega⟩, rfl⟩⟩, hq1⟩

