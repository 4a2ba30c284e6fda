-- ===== layTogether of the reference =====
theorem PrM_congr {ρ τ : Sto} (h : ∀ q : Nat, q ≠ 77 → q ≠ 78 → τ q = ρ q) (hP : PrM ρ) : PrM τ := by
  unfold PrM at *
  rw [h 67 (by decide) (by decide), h 69 (by decide) (by decide), h 70 (by decide) (by decide), h 71 (by decide) (by decide), h 72 (by decide) (by decide), h 75 (by decide) (by decide)]
  exact hP
theorem setM_PrM {σ : Sto} {l a b i0 j0 : Int} (hq : QI (σ 70) (σ 71) (σ 72) (σ 69) (σ 75)) (hl : 0 ≤ l ∧ l < 4) (ha : 0 ≤ a ∧ a < 7) (hb : 0 ≤ b ∧ b < 7) : PrM (setM σ l a b i0 j0) := by
  obtain ⟨-, -, -, q4⟩ := id hq
  unfold PrM setM
  simp [su_r, su_at]
  exact ⟨ha, hb, hq, q4 _ (by omega) (by omega), q4 _ (by omega) (by omega), q4 _ (by omega) (by omega), q4 _ (by omega) (by omega)⟩
theorem BM_step {x : Int × Int} {tp bt mn p w : Int} (h : BM x tp bt mn) (htp : tp = 0) (hx : -1 ≤ x.1 ∧ x.1 ≤ 700000 ∧ 0 ≤ x.2 ∧ x.2 ≤ 999999999) (hp : 0 ≤ p ∧ p ≤ 700000) (hw : 0 ≤ w ∧ w ≤ 999999999) {bt' mn' mo : Int} (h1 : (p < bt ∧ mn' = 0 ∧ bt' = p) ∨ (bt ≤ p ∧ mn' = mn ∧ bt' = bt)) (h2 : (p = bt' ∧ mo = mn' + w) ∨ (¬ p = bt' ∧ mo = mn')) {mn2 : Int} (h3 : (999999999 < mo ∧ mn2 = 999999999) ∨ (mo ≤ 999999999 ∧ mn2 = mo)) : BM (cbs x p w) tp bt' mn2 := by
  unfold BM at *
  unfold cbs
  rcases h with ⟨e1, ⟨e2, -, -⟩ | ⟨e2, e3, e4⟩⟩ | ⟨e1, e2, e3⟩
  · omega
  · rw [if_pos (Or.inl e1)]
    refine Or.inr ⟨by show ¬ p = -1; omega, ?_, ?_⟩
    · show bt' = p; omega
    · show mn2 = w; omega
  · by_cases hlt : p < x.1
    · rw [if_pos (Or.inr hlt)]
      refine Or.inr ⟨by show ¬ p = -1; omega, ?_, ?_⟩
      · show bt' = p; omega
      · show mn2 = w; omega
    · rw [if_neg (by omega)]
      by_cases he : p = x.1
      · rw [if_pos he]
        refine Or.inr ⟨e1, ?_, ?_⟩
        · show bt' = x.1; omega
        · show mn2 = min 999999999 (x.2 + w); omega
      · rw [if_neg he]
        exact Or.inr ⟨e1, by omega, by omega⟩
def A_X9_layTogether : List (Nat × Ctr) := [(4, rcv 9 7 C_X9_price), (4, rcv 9 4 C_X9_behind)]
theorem e_X9_layTogether (o : OM) : Ev o Y_X9_layTogether 2 T_X9_layTogether A_X9_layTogether := ⟨rfl, List.forall_mem_cons.mpr ⟨Or.inl f_X9_259, List.forall_mem_cons.mpr ⟨Or.inl f_X9_265, List.forall_mem_cons.mpr ⟨Or.inl f_X9_31, List.forall_mem_cons.mpr ⟨Or.inl f_X9_287, List.forall_mem_cons.mpr ⟨Or.inl f_X9_290, List.forall_mem_cons.mpr ⟨Or.inl f_X9_278, List.forall_mem_cons.mpr ⟨Or.inl f_X9_284, List.forall_mem_cons.mpr ⟨Or.inl f_X9_268, List.forall_mem_cons.mpr ⟨Or.inl f_X9_271, List.forall_mem_cons.mpr ⟨Or.inl f_X9_13, List.forall_mem_cons.mpr ⟨Or.inl f_X9_37, List.forall_mem_cons.mpr ⟨Or.inl f_X9_40, fun _ h => absurd h List.not_mem_nil⟩⟩⟩⟩⟩⟩⟩⟩⟩⟩⟩⟩, List.forall_mem_cons.mpr ⟨⟨w_1453, by decide, by decide⟩, List.forall_mem_cons.mpr ⟨⟨w_1476, by decide, by decide⟩, fun _ h => absurd h List.not_mem_nil⟩⟩, List.forall_mem_cons.mpr ⟨⟨w_1475, by decide, by decide⟩, fun _ h => absurd h List.not_mem_nil⟩, fun _ h => absurd h List.not_mem_nil, List.forall_mem_cons.mpr ⟨cl_X9_price (s_X9_price o) (by decide) (Or.inl w_1454), List.forall_mem_cons.mpr ⟨cl_X9_behind (s_X9_behind o) (by decide) (Or.inl w_1471), fun _ h => absurd h List.not_mem_nil⟩⟩, fun _ h => absurd h List.not_mem_nil⟩
def C_X9_layTogether : Ctr := fun A σ κ => match A with
  | [.inr (.inr (.inl 67)), .inl l, .inl a, .inl b, .inl i0, .inl j0] => ((0 ≤ l ∧ l < 4) ∧ (0 ≤ a ∧ a < 7) ∧ (0 ≤ b ∧ b < 7) ∧ QI (σ 70) (σ 71) (σ 72) (σ 69) (σ 75)) ∧ ∀ τ : Sto, (∀ q : Nat, q ≠ 77 → q ≠ 78 → τ q = setM σ l a b i0 j0 q) → TabM τ → κ [] τ
  | _ => False
set_option maxRecDepth 20000 in
theorem s_X9_layTogether (o : OM) : Sound o Y_X9_layTogether 2 C_X9_layTogether := by
  intro Q A σ hA hC
  match A, hA, hC with
  | [.inr (.inr (.inl 67)), .inl l, .inl a, .inl b, .inl i0, .inl j0], hA, hC =>
    obtain ⟨h0, hq⟩ : ((0 ≤ l ∧ l < 4) ∧ (0 ≤ a ∧ a < 7) ∧ (0 ≤ b ∧ b < 7) ∧ QI (σ 70) (σ 71) (σ 72) (σ 69) (σ 75)) ∧ ∀ τ : Sto, (∀ q : Nat, q ≠ 77 → q ≠ 78 → τ q = setM σ l a b i0 j0 q) → TabM τ → Q [] τ := hC
    obtain ⟨hl, ha, hb, hQI⟩ := h0
    have hP1 : PrM (setM σ l a b i0 j0) := setM_PrM hQI hl ha hb
    have za := hQI.2.2.1 a ha.1 ha.2
    have zb := hQI.2.2.1 b hb.1 hb.2
    have hw4 := hQI.2.2.2
    have s69 : setM σ l a b i0 j0 69 = σ 69 := by unfold setM; simp [su_r]
    have s19 : setM σ l a b i0 j0 67 19 = a := by unfold setM; simp [su_at]
    have s20 : setM σ l a b i0 j0 67 20 = b := by unfold setM; simp [su_at]
    have hN1 : mN1 (setM σ l a b i0 j0) = σ 69 a := by unfold mN1; rw [s69, s19]
    have hN2 : mN2 (setM σ l a b i0 j0) = σ 69 b := by unfold mN2; rw [s69, s20]
    generalize hρ : setM σ l a b i0 j0 = ρ at *
    have base : ∀ τ : Sto, (∀ q : Nat, q ≠ 77 → q ≠ 78 → τ q = ρ q) → PrM τ ∧ τ 69 = σ 69 ∧ τ 67 19 = a ∧ τ 67 20 = b ∧ mN1 τ = σ 69 a ∧ mN2 τ = σ 69 b := by
      intro τ h
      obtain ⟨-, -, c3, c4⟩ := cgM h
      exact ⟨PrM_congr h hP1, by rw [h 69 (by decide) (by decide), s69], by rw [h 67 (by decide) (by decide), s19], by rw [h 67 (by decide) (by decide), s20], by rw [c3, hN1], by rw [c4, hN2]⟩
    have cand : ∀ (τ : Sto) (i j : Int), (∀ q : Nat, q ≠ 77 → q ≠ 78 → τ q = ρ q) → 0 ≤ i → 0 ≤ j → (∀ c d, 0 ≤ c → c ≤ mN1 τ → 0 ≤ d → d ≤ mN2 τ → (i < c ∨ (c = i ∧ j < d)) → rcG (mP τ) (mOk τ) (mN1 τ) (mN2 τ) (τ 77) (τ 78) c d) → ∀ s : Int, 0 ≤ s → s < 5 → mOk τ s i j = true → (i + o1 s ≤ σ 69 a ∧ j + o2 s ≤ σ 69 b) ∧ (0 ≤ mP τ s i j ∧ mP τ s i j ≤ 20000) ∧ (0 ≤ τ 77 ((i + o1 s) * 17 + (j + o2 s)) ∧ τ 77 ((i + o1 s) * 17 + (j + o2 s)) ≤ 640000) ∧ (0 ≤ τ 78 ((i + o1 s) * 17 + (j + o2 s)) ∧ τ 78 ((i + o1 s) * 17 + (j + o2 s)) ≤ 999999999) := by
      intro τ i j he hi0 hj0 hd s h1 h2 h3
      obtain ⟨hP, e69, e19, e20, n1, n2⟩ := base τ he
      have hG := GI_M hP
      have hGo := hG.2.2
      have ho := o_in (s := s) ⟨h1, h2⟩
      obtain ⟨q1, q2, q3, q4⟩ := hGo s i j h1 h2 hi0 hj0 h3
      obtain ⟨-, -, r3, r4⟩ := hd (i + o1 s) (j + o2 s) (by omega) q1 (by omega) q2 (by omega)
      rw [n1] at q1 r3
      rw [n2] at q2 r3
      exact ⟨⟨q1, q2⟩, ⟨q3, q4⟩, by omega, r4⟩
    obtain ⟨P84, hP84⟩ : ∃ P : Nat → List AV → List AV → Sto → Prop, P = fun m S L τ => ∃ i : Int, S = [] ∧ L = [vR 67, vI l, vI a, vI b, vI i0, vI j0, vI i] ∧ (∀ q : Nat, q ≠ 77 → q ≠ 78 → τ q = ρ q) ∧ -1 ≤ i ∧ i ≤ σ 69 a ∧ m = ((i + 1) * 2000).toNat ∧ (∀ c d, 0 ≤ c → c ≤ mN1 τ → 0 ≤ d → d ≤ mN2 τ → i < c → rcG (mP τ) (mOk τ) (mN1 τ) (mN2 τ) (τ 77) (τ 78) c d) := ⟨_, rfl⟩
    obtain ⟨P97, hP97⟩ : ∃ P : Nat → List AV → List AV → Sto → Prop, P = fun m S L τ => ∃ i j : Int, S = [] ∧ L = [vR 67, vI l, vI a, vI b, vI i0, vI j0, vI i, vI j] ∧ (∀ q : Nat, q ≠ 77 → q ≠ 78 → τ q = ρ q) ∧ 0 ≤ i ∧ i ≤ σ 69 a ∧ -1 ≤ j ∧ j ≤ σ 69 b ∧ m = (i * 2000 + (j + 1) * 100 + 50).toNat ∧ (∀ c d, 0 ≤ c → c ≤ mN1 τ → 0 ≤ d → d ≤ mN2 τ → (i < c ∨ (c = i ∧ j < d)) → rcG (mP τ) (mOk τ) (mN1 τ) (mN2 τ) (τ 77) (τ 78) c d) := ⟨_, rfl⟩
    obtain ⟨P129, hP129⟩ : ∃ P : Nat → List AV → List AV → Sto → Prop, P = fun m S L τ => ∃ i j tp : Int, S = [vI tp] ∧ L = [vR 67, vI l, vI a, vI b, vI i0, vI j0, vI i, vI j] ∧ (∀ q : Nat, q ≠ 77 → q ≠ 78 → τ q = ρ q) ∧ 0 ≤ i ∧ i ≤ σ 69 a ∧ 0 ≤ j ∧ j ≤ σ 69 b ∧ m = (i * 2000 + j * 100 + 120).toNat ∧ ((tp = 1 ∧ i = σ 69 a ∧ j = σ 69 b) ∨ (tp = 0 ∧ ¬ (i = σ 69 a ∧ j = σ 69 b))) ∧ (∀ c d, 0 ≤ c → c ≤ mN1 τ → 0 ≤ d → d ≤ mN2 τ → (i < c ∨ (c = i ∧ j < d)) → rcG (mP τ) (mOk τ) (mN1 τ) (mN2 τ) (τ 77) (τ 78) c d) := ⟨_, rfl⟩
    obtain ⟨P160, hP160⟩ : ∃ P : Nat → List AV → List AV → Sto → Prop, P = fun m S L τ => ∃ (i j tp bt mn : Int) (n : Nat), S = [] ∧ L = [vR 67, vI l, vI a, vI b, vI i0, vI j0, vI i, vI j, vI tp, vI bt, vI mn, vI n] ∧ (∀ q : Nat, q ≠ 77 → q ≠ 78 → τ q = ρ q) ∧ 0 ≤ i ∧ i ≤ σ 69 a ∧ 0 ≤ j ∧ j ≤ σ 69 b ∧ n ≤ 5 ∧ m = (i * 2000 + j * 100 + 60 + (5 - n) * 10).toNat ∧ ((tp = 1 ∧ i = σ 69 a ∧ j = σ 69 b) ∨ (tp = 0 ∧ ¬ (i = σ 69 a ∧ j = σ 69 b))) ∧ BM (stM τ i j n) tp bt mn ∧ (∀ c d, 0 ≤ c → c ≤ mN1 τ → 0 ≤ d → d ≤ mN2 τ → (i < c ∨ (c = i ∧ j < d)) → rcG (mP τ) (mOk τ) (mN1 τ) (mN2 τ) (τ 77) (τ 78) c d) := ⟨_, rfl⟩
    obtain ⟨P210, hP210⟩ : ∃ P : Nat → List AV → List AV → Sto → Prop, P = fun m S L τ => ∃ (i j tp bt mn pr sm : Int) (n : Nat), S = [vI sm] ∧ L = [vR 67, vI l, vI a, vI b, vI i0, vI j0, vI i, vI j, vI tp, vI bt, vI mn, vI n, vI pr] ∧ (∀ q : Nat, q ≠ 77 → q ≠ 78 → τ q = ρ q) ∧ 0 ≤ i ∧ i ≤ σ 69 a ∧ 0 ≤ j ∧ j ≤ σ 69 b ∧ n ≤ 4 ∧ m = (i * 2000 + j * 100 + 59 + (5 - n) * 10).toNat ∧ ((tp = 1 ∧ i = σ 69 a ∧ j = σ 69 b) ∨ (tp = 0 ∧ ¬ (i = σ 69 a ∧ j = σ 69 b))) ∧ BM (stM τ i j n) tp bt mn ∧ ((mOk τ n i j = true ∧ pr = mP τ n i j ∧ sm = mP τ n i j + τ 77 ((i + o1 n) * 17 + (j + o2 n))) ∨ (mOk τ n i j = false ∧ pr = 100000000 ∧ sm = 100000000)) ∧ (∀ c d, 0 ≤ c → c ≤ mN1 τ → 0 ≤ d → d ≤ mN2 τ → (i < c ∨ (c = i ∧ j < d)) → rcG (mP τ) (mOk τ) (mN1 τ) (mN2 τ) (τ 77) (τ 78) c d) := ⟨_, rfl⟩
    obtain ⟨P257, hP257⟩ : ∃ P : Nat → List AV → List AV → Sto → Prop, P = fun m S L τ => ∃ (i j tp bt mn bt1 mn1 sm : Int) (pr : Int) (n : Nat), S = [vI bt1] ∧ L = [vR 67, vI l, vI a, vI b, vI i0, vI j0, vI i, vI j, vI tp, vI bt, vI mn1, vI n, vI pr, vI sm] ∧ (∀ q : Nat, q ≠ 77 → q ≠ 78 → τ q = ρ q) ∧ 0 ≤ i ∧ i ≤ σ 69 a ∧ 0 ≤ j ∧ j ≤ σ 69 b ∧ n ≤ 4 ∧ m = (i * 2000 + j * 100 + 58 + (5 - n) * 10).toNat ∧ ((tp = 1 ∧ i = σ 69 a ∧ j = σ 69 b) ∨ (tp = 0 ∧ ¬ (i = σ 69 a ∧ j = σ 69 b))) ∧ BM (stM τ i j n) tp bt mn ∧ mOk τ n i j = true ∧ sm = mP τ n i j + τ 77 ((i + o1 n) * 17 + (j + o2 n)) ∧ ((sm < bt ∧ mn1 = 0 ∧ bt1 = sm) ∨ (bt ≤ sm ∧ mn1 = mn ∧ bt1 = bt)) ∧ (∀ c d, 0 ≤ c → c ≤ mN1 τ → 0 ≤ d → d ≤ mN2 τ → (i < c ∨ (c = i ∧ j < d)) → rcG (mP τ) (mOk τ) (mN1 τ) (mN2 τ) (τ 77) (τ 78) c d) := ⟨_, rfl⟩
    obtain ⟨P314, hP314⟩ : ∃ P : Nat → List AV → List AV → Sto → Prop, P = fun m S L τ => ∃ (i j tp bt mn pr sm : Int) (n : Nat), S = [] ∧ L = [vR 67, vI l, vI a, vI b, vI i0, vI j0, vI i, vI j, vI tp, vI bt, vI mn, vI n, vI pr, vI sm] ∧ (∀ q : Nat, q ≠ 77 → q ≠ 78 → τ q = ρ q) ∧ 0 ≤ i ∧ i ≤ σ 69 a ∧ 0 ≤ j ∧ j ≤ σ 69 b ∧ n ≤ 4 ∧ m = (i * 2000 + j * 100 + 57 + (5 - n) * 10).toNat ∧ ((tp = 1 ∧ i = σ 69 a ∧ j = σ 69 b) ∨ (tp = 0 ∧ ¬ (i = σ 69 a ∧ j = σ 69 b))) ∧ BM (stM τ i j (n + 1)) tp bt mn ∧ (∀ c d, 0 ≤ c → c ≤ mN1 τ → 0 ≤ d → d ≤ mN2 τ → (i < c ∨ (c = i ∧ j < d)) → rcG (mP τ) (mOk τ) (mN1 τ) (mN2 τ) (τ 77) (τ 78) c d) := ⟨_, rfl⟩
    refine at_meth (lv := V_X9_layTogether) (B := B_X9_layTogether) (e_X9_layTogether o) k_X9_layTogether 14 [(84, P84), (97, P97), (129, P129), (160, P160), (210, P210), (257, P257), (314, P314)] (List.forall_mem_cons.mpr ⟨?_, List.forall_mem_cons.mpr ⟨?_, List.forall_mem_cons.mpr ⟨?_, List.forall_mem_cons.mpr ⟨?_, List.forall_mem_cons.mpr ⟨?_, List.forall_mem_cons.mpr ⟨?_, List.forall_mem_cons.mpr ⟨?_, fun _ h => absurd h List.not_mem_nil⟩⟩⟩⟩⟩⟩⟩) 0 [] _ σ ?_
    · intro m S L τ hI
      rw [hP84] at hI
      obtain ⟨i, rfl, rfl, he, hi0, hi1, hm, hd⟩ := hI
      obtain ⟨hP, e69, e19, e20, n1, n2⟩ := base τ he
      simp only [sq_iconst, sq_jsr, sq_anewarray, sq_iload, sq_lload, sq_aload, sq_istore, sq_lstore, sq_astore, sq_iinc, sq_getfield, st_put0, st_put1, st_put3, sq_inv, sq_goto, sq_icmp, sq_ifc, sq_tsw, sq_iadd, sq_isub, sq_imul, sq_ineg, sq_idiv, sq_irem, sq_iand, sq_ior, sq_ixor, sq_ishl, sq_ishr, sq_iushr, sq_ladd, sq_lmul, sq_ldiv, sq_lrem, sq_land, sq_lor, sq_lshl, sq_lushr, sq_lcmp, sq_i2l, sq_l2i, sq_i2c, sq_i2b, sq_dupI, sq_dupR, sq_dup2, sq_pop, sq_iaload, sq_baload, sq_aaload, sq_iastore, sq_bastore, sq_alen, sq_ireturn, sq_lreturn, sq_return, wq_c, wq_n, wlq_s, lkp, tbl, dBk, nth, setL, canSet, cmpI, tk, swK, rdF, entL, catS, cat1, arg, rcv, ald, bld, aln, br, Ccopy, Cmax, Cmin, Cabs, List.take, List.drop, List.reverse, List.reverseAux, List.length, List.append, List.nil_append, List.cons_append, true_and, and_true, and_self, forall_const, true_implies, false_implies, not_true_eq_false, not_false_eq_true, Option.map, reduceCtorEq, reduceIte, or_true, true_or, false_or, or_false, false_and, and_false, List.map, List.append_nil, implies_true, yK, Nat.reduceBEq, beq_self_eq_true, Int.zero_ne_one, Nat.reduceDiv, Nat.reduceMod, Nat.reduceAdd, Nat.reduceSub, Nat.reduceMul, Nat.reduceEqDiff, Nat.reduceLeDiff, Int.reduceToNat, Int.reduceNeg, Int.reduceEq, Int.reduceLT, Int.reduceLE, Int.reduceNatCast, Int.reduceNatCast', Int.reduceAdd, Int.reduceSub, Int.reduceMul, eq_self, Prod.mk.injEq, A_X9_layTogether, V_X9_layTogether, B_X9_layTogether, Y_X9_layTogether, C_X9_price, C_X9_behind, shpT, rfsT, wjq_s, look]
      rw [e69, hP97]
      refine ⟨fun h1 => hq τ he (fun c d h2 h3 h4 h5 => hd c d h2 h3 h4 h5 (by omega)), fun h1 => ⟨hb, _, ?_, i, σ 69 b, rfl, rfl, he, by omega, hi1, by omega, by omega, rfl, fun c d h2 h3 h4 h5 h6 => hd c d h2 h3 h4 h5 (by omega)⟩⟩
      omega
    · intro m S L τ hI
      rw [hP97] at hI
      obtain ⟨i, j, rfl, rfl, he, hi0, hi1, hj0, hj1, hm, hd⟩ := hI
      obtain ⟨hP, e69, e19, e20, n1, n2⟩ := base τ he
      simp only [sq_iconst, sq_jsr, sq_anewarray, sq_iload, sq_lload, sq_aload, sq_istore, sq_lstore, sq_astore, sq_iinc, sq_getfield, st_put0, st_put1, st_put3, sq_inv, sq_goto, sq_icmp, sq_ifc, sq_tsw, sq_iadd, sq_isub, sq_imul, sq_ineg, sq_idiv, sq_irem, sq_iand, sq_ior, sq_ixor, sq_ishl, sq_ishr, sq_iushr, sq_ladd, sq_lmul, sq_ldiv, sq_lrem, sq_land, sq_lor, sq_lshl, sq_lushr, sq_lcmp, sq_i2l, sq_l2i, sq_i2c, sq_i2b, sq_dupI, sq_dupR, sq_dup2, sq_pop, sq_iaload, sq_baload, sq_aaload, sq_iastore, sq_bastore, sq_alen, sq_ireturn, sq_lreturn, sq_return, wq_c, wq_n, wlq_s, lkp, tbl, dBk, nth, setL, canSet, cmpI, tk, swK, rdF, entL, catS, cat1, arg, rcv, ald, bld, aln, br, Ccopy, Cmax, Cmin, Cabs, List.take, List.drop, List.reverse, List.reverseAux, List.length, List.append, List.nil_append, List.cons_append, true_and, and_true, and_self, forall_const, true_implies, false_implies, not_true_eq_false, not_false_eq_true, Option.map, reduceCtorEq, reduceIte, or_true, true_or, false_or, or_false, false_and, and_false, List.map, List.append_nil, implies_true, yK, Nat.reduceBEq, beq_self_eq_true, Int.zero_ne_one, Nat.reduceDiv, Nat.reduceMod, Nat.reduceAdd, Nat.reduceSub, Nat.reduceMul, Nat.reduceEqDiff, Nat.reduceLeDiff, Int.reduceToNat, Int.reduceNeg, Int.reduceEq, Int.reduceLT, Int.reduceLE, Int.reduceNatCast, Int.reduceNatCast', Int.reduceAdd, Int.reduceSub, Int.reduceMul, eq_self, Prod.mk.injEq, A_X9_layTogether, V_X9_layTogether, B_X9_layTogether, Y_X9_layTogether, C_X9_price, C_X9_behind, shpT, rfsT, wjq_s, look]
      rw [e69]
      have nx : ∀ tp : Int, 0 ≤ j → ((tp = 1 ∧ i = σ 69 a ∧ j = σ 69 b) ∨ (tp = 0 ∧ ¬ (i = σ 69 a ∧ j = σ 69 b))) → ∃ m_1, m_1 < m ∧ P129 m_1 [vI tp] [vR 67, vI l, vI a, vI b, vI i0, vI j0, vI i, vI j] τ := by
        intro tp h0 htp
        rw [hP129]
        exact ⟨_, by omega, i, j, tp, rfl, rfl, he, hi0, hi1, h0, hj1, rfl, htp, hd⟩
      refine ⟨fun h1 => ?_, fun h1 => ⟨ha, fun h2 => nx 0 (by omega) (Or.inr ⟨rfl, by omega⟩), fun h2 => ⟨hb, fun h3 => nx 0 (by omega) (Or.inr ⟨rfl, by omega⟩), fun h3 => nx 1 (by omega) (Or.inl ⟨rfl, by omega, by omega⟩)⟩⟩⟩
      rw [hP84]
      refine ⟨⟨by omega, by omega⟩, _, ?_, i - 1, rfl, rfl, he, by omega, by omega, rfl, fun c d h2 h3 h4 h5 h6 => hd c d h2 h3 h4 h5 (by omega)⟩
      omega
    · intro m S L τ hI
      rw [hP129] at hI
      obtain ⟨i, j, tp, rfl, rfl, he, hi0, hi1, hj0, hj1, hm, htp, hd⟩ := hI
      simp only [sq_iconst, sq_jsr, sq_anewarray, sq_iload, sq_lload, sq_aload, sq_istore, sq_lstore, sq_astore, sq_iinc, sq_getfield, st_put0, st_put1, st_put3, sq_inv, sq_goto, sq_icmp, sq_ifc, sq_tsw, sq_iadd, sq_isub, sq_imul, sq_ineg, sq_idiv, sq_irem, sq_iand, sq_ior, sq_ixor, sq_ishl, sq_ishr, sq_iushr, sq_ladd, sq_lmul, sq_ldiv, sq_lrem, sq_land, sq_lor, sq_lshl, sq_lushr, sq_lcmp, sq_i2l, sq_l2i, sq_i2c, sq_i2b, sq_dupI, sq_dupR, sq_dup2, sq_pop, sq_iaload, sq_baload, sq_aaload, sq_iastore, sq_bastore, sq_alen, sq_ireturn, sq_lreturn, sq_return, wq_c, wq_n, wlq_s, lkp, tbl, dBk, nth, setL, canSet, cmpI, tk, swK, rdF, entL, catS, cat1, arg, rcv, ald, bld, aln, br, Ccopy, Cmax, Cmin, Cabs, List.take, List.drop, List.reverse, List.reverseAux, List.length, List.append, List.nil_append, List.cons_append, true_and, and_true, and_self, forall_const, true_implies, false_implies, not_true_eq_false, not_false_eq_true, Option.map, reduceCtorEq, reduceIte, or_true, true_or, false_or, or_false, false_and, and_false, List.map, List.append_nil, implies_true, yK, Nat.reduceBEq, beq_self_eq_true, Int.zero_ne_one, Nat.reduceDiv, Nat.reduceMod, Nat.reduceAdd, Nat.reduceSub, Nat.reduceMul, Nat.reduceEqDiff, Nat.reduceLeDiff, Int.reduceToNat, Int.reduceNeg, Int.reduceEq, Int.reduceLT, Int.reduceLE, Int.reduceNatCast, Int.reduceNatCast', Int.reduceAdd, Int.reduceSub, Int.reduceMul, eq_self, Prod.mk.injEq, A_X9_layTogether, V_X9_layTogether, B_X9_layTogether, Y_X9_layTogether, C_X9_price, C_X9_behind, shpT, rfsT, wjq_s, look]
      have nx : ∀ bt mn : Int, (tp = 1 ∧ bt = 0 ∧ mn = 1) ∨ (tp = 0 ∧ bt = 100000000 ∧ mn = 0) → ∃ m_1, m_1 < m ∧ P160 m_1 [] [vR 67, vI l, vI a, vI b, vI i0, vI j0, vI i, vI j, vI tp, vI bt, vI mn, vI 0] τ := by
        intro bt mn h
        rw [hP160]
        exact ⟨_, by omega, i, j, tp, bt, mn, 0, rfl, rfl, he, hi0, hi1, hj0, hj1, by omega, rfl, htp, Or.inl ⟨rfl, h⟩, hd⟩
      refine ⟨fun h1 => ⟨fun h2 => nx _ _ (by omega), fun h2 => absurd h1 h2⟩, fun h1 => ⟨fun h2 => absurd h2 h1, fun h2 => nx _ _ (by omega)⟩⟩
    · intro m S L τ hI
      rw [hP160] at hI
      obtain ⟨i, j, tp, bt, mn, n, rfl, rfl, he, hi0, hi1, hj0, hj1, hn, hm, htp, hBM, hd⟩ := hI
      obtain ⟨hP, e69, e19, e20, n1, n2⟩ := base τ he
      simp only [sq_iconst, sq_jsr, sq_anewarray, sq_iload, sq_lload, sq_aload, sq_istore, sq_lstore, sq_astore, sq_iinc, sq_getfield, st_put0, st_put1, st_put3, sq_inv, sq_goto, sq_icmp, sq_ifc, sq_tsw, sq_iadd, sq_isub, sq_imul, sq_ineg, sq_idiv, sq_irem, sq_iand, sq_ior, sq_ixor, sq_ishl, sq_ishr, sq_iushr, sq_ladd, sq_lmul, sq_ldiv, sq_lrem, sq_land, sq_lor, sq_lshl, sq_lushr, sq_lcmp, sq_i2l, sq_l2i, sq_i2c, sq_i2b, sq_dupI, sq_dupR, sq_dup2, sq_pop, sq_iaload, sq_baload, sq_aaload, sq_iastore, sq_bastore, sq_alen, sq_ireturn, sq_lreturn, sq_return, wq_c, wq_n, wlq_s, lkp, tbl, dBk, nth, setL, canSet, cmpI, tk, swK, rdF, entL, catS, cat1, arg, rcv, ald, bld, aln, br, Ccopy, Cmax, Cmin, Cabs, List.take, List.drop, List.reverse, List.reverseAux, List.length, List.append, List.nil_append, List.cons_append, true_and, and_true, and_self, forall_const, true_implies, false_implies, not_true_eq_false, not_false_eq_true, Option.map, reduceCtorEq, reduceIte, or_true, true_or, false_or, or_false, false_and, and_false, List.map, List.append_nil, implies_true, yK, Nat.reduceBEq, beq_self_eq_true, Int.zero_ne_one, Nat.reduceDiv, Nat.reduceMod, Nat.reduceAdd, Nat.reduceSub, Nat.reduceMul, Nat.reduceEqDiff, Nat.reduceLeDiff, Int.reduceToNat, Int.reduceNeg, Int.reduceEq, Int.reduceLT, Int.reduceLE, Int.reduceNatCast, Int.reduceNatCast', Int.reduceAdd, Int.reduceSub, Int.reduceMul, eq_self, Prod.mk.injEq, A_X9_layTogether, V_X9_layTogether, B_X9_layTogether, Y_X9_layTogether, C_X9_price, C_X9_behind, shpT, rfsT, wjq_s, look, m17]
      have hG := GI_M hP
      have hGo := hG.2.2
      rw [n1, n2] at hG hd
      have hcand : ∀ s : Int, 0 ≤ s → s < 5 → mOk τ s i j = true → (i + o1 s ≤ σ 69 a ∧ j + o2 s ≤ σ 69 b) ∧ (0 ≤ mP τ s i j ∧ mP τ s i j ≤ 20000) ∧ (0 ≤ τ 77 ((i + o1 s) * 17 + (j + o2 s)) ∧ τ 77 ((i + o1 s) * 17 + (j + o2 s)) ≤ 640000) := by
        intro s h1 h2 h3
        have ho := o_in (s := s) ⟨h1, h2⟩
        obtain ⟨q1, q2, q3, q4⟩ := hGo s i j h1 h2 hi0 hj0 h3
        rw [n1] at q1
        rw [n2] at q2
        obtain ⟨-, -, r3, -⟩ := hd (i + o1 s) (j + o2 s) (by omega) q1 (by omega) q2 (by omega)
        exact ⟨⟨q1, q2⟩, ⟨q3, q4⟩, by omega⟩
      refine ⟨fun h1 => ?_, fun h1 => ?_⟩
      · have hn5 : n = 5 := by omega
        subst hn5
        have hfin : (bt, mn) = finN (stM τ i j 5) := by
          unfold finN
          rcases hBM with ⟨e1, h⟩ | ⟨e1, e2, e3⟩
          · rw [if_pos e1]
            rcases h with ⟨-, e2, e3⟩ | ⟨e0, -, -⟩
            · rw [e2, e3]
            · exfalso
              have hno := stN_no 5 (fun s a b c => by have := hcand s a (by omega) c; omega) e1
              have g1 : ¬ okP (τ 69 (τ 67 19)) (τ 69 (τ 67 20)) (τ 67 25) (τ 67 26) 1 i j := fun z => hno 1 (by omega) (by omega) (okB_iff.mpr z)
              have g2 : ¬ okP (τ 69 (τ 67 19)) (τ 69 (τ 67 20)) (τ 67 25) (τ 67 26) 2 i j := fun z => hno 2 (by omega) (by omega) (okB_iff.mpr z)
              rw [e69, e19, e20] at g1 g2
              have f1 : ¬ (i + 1 ≤ σ 69 a) := fun z => g1 ⟨by omega, z, by show j + 0 ≤ _; omega⟩
              have f2 : ¬ (j + 1 ≤ σ 69 b) := fun z => g2 ⟨by omega, by show i + 0 ≤ _; omega, z⟩
              omega
          · rw [if_neg e1, e2, e3]
        refine ⟨⟨by omega, by omega⟩, ⟨by omega, by omega⟩, by omega, ⟨by omega, by omega⟩, ⟨by omega, by omega⟩, by omega, ⟨by omega, by omega⟩, ?_⟩
        rw [hP97]
        have hoff : ∀ q : Nat, q ≠ 77 → q ≠ 78 → su (su τ 77 (i * 17 + j) bt) 78 (i * 17 + j) mn q = τ q := fun q h2 h3 => by rw [su_r h3, su_r h2]
        obtain ⟨c1, c2, c3, c4⟩ := cgM hoff
        refine ⟨_, ?_, i, j + -1, rfl, rfl, fun q h2 h3 => by rw [hoff q h2 h3]; exact he q h2 h3, hi0, hi1, by omega, by omega, rfl, ?_⟩
        · omega
        · rw [c1, c2, c3, c4, n1, n2]
          intro c d h2 h3 h4 h5 h6
          exact rcG_put hG ⟨hi0, hi1⟩ ⟨hj0, hj1⟩ hd hfin (fun x hx => by rw [su_r (by decide), su_at, if_neg hx]) (fun x hx => by rw [su_at, if_neg hx, su_r (by decide)]) (by rw [su_r (by decide), su_at, if_pos rfl]) (by rw [su_at, if_pos rfl]) c d h2 h3 h4 h5 (by omega)
      · rw [hP210, e69, e19, e20]
        by_cases hok : mOk τ n i j = true
        · obtain ⟨⟨q1, q2⟩, q3, q4⟩ := hcand n (by omega) (by omega) hok
          have ho := o_in (s := n) ⟨by omega, by omega⟩
          rw [if_pos hok]
          refine ⟨⟨hP, ⟨hi0, hi1⟩, ⟨hj0, hj1⟩, by omega, by omega⟩, fun h2 => ⟨⟨by omega, by omega, by omega⟩, by omega, ⟨by omega, by omega⟩, _, ?_, i, j, tp, bt, mn, _, _, n, rfl, rfl, he, hi0, hi1, hj0, hj1, by omega, rfl, htp, hBM, Or.inl ⟨hok, rfl, rfl⟩, by rw [n1, n2]; exact hd⟩, fun h2 => by omega⟩
          omega
        · rw [if_neg hok]
          refine ⟨⟨hP, ⟨hi0, hi1⟩, ⟨hj0, hj1⟩, by omega, by omega⟩, fun h2 => absurd rfl h2, fun h2 => ⟨_, ?_, i, j, tp, bt, mn, _, _, n, rfl, rfl, he, hi0, hi1, hj0, hj1, by omega, rfl, htp, hBM, Or.inr ⟨by simpa using hok, rfl, rfl⟩, by rw [n1, n2]; exact hd⟩⟩
          omega
    · intro m S L τ hI
      rw [hP210] at hI
      obtain ⟨i, j, tp, bt, mn, pr, sm, n, rfl, rfl, he, hi0, hi1, hj0, hj1, hn, hm, htp, hBM, hpr, hd⟩ := hI
      simp only [sq_iconst, sq_jsr, sq_anewarray, sq_iload, sq_lload, sq_aload, sq_istore, sq_lstore, sq_astore, sq_iinc, sq_getfield, st_put0, st_put1, st_put3, sq_inv, sq_goto, sq_icmp, sq_ifc, sq_tsw, sq_iadd, sq_isub, sq_imul, sq_ineg, sq_idiv, sq_irem, sq_iand, sq_ior, sq_ixor, sq_ishl, sq_ishr, sq_iushr, sq_ladd, sq_lmul, sq_ldiv, sq_lrem, sq_land, sq_lor, sq_lshl, sq_lushr, sq_lcmp, sq_i2l, sq_l2i, sq_i2c, sq_i2b, sq_dupI, sq_dupR, sq_dup2, sq_pop, sq_iaload, sq_baload, sq_aaload, sq_iastore, sq_bastore, sq_alen, sq_ireturn, sq_lreturn, sq_return, wq_c, wq_n, wlq_s, lkp, tbl, dBk, nth, setL, canSet, cmpI, tk, swK, rdF, entL, catS, cat1, arg, rcv, ald, bld, aln, br, Ccopy, Cmax, Cmin, Cabs, List.take, List.drop, List.reverse, List.reverseAux, List.length, List.append, List.nil_append, List.cons_append, true_and, and_true, and_self, forall_const, true_implies, false_implies, not_true_eq_false, not_false_eq_true, Option.map, reduceCtorEq, reduceIte, or_true, true_or, false_or, or_false, false_and, and_false, List.map, List.append_nil, implies_true, yK, Nat.reduceBEq, beq_self_eq_true, Int.zero_ne_one, Nat.reduceDiv, Nat.reduceMod, Nat.reduceAdd, Nat.reduceSub, Nat.reduceMul, Nat.reduceEqDiff, Nat.reduceLeDiff, Int.reduceToNat, Int.reduceNeg, Int.reduceEq, Int.reduceLT, Int.reduceLE, Int.reduceNatCast, Int.reduceNatCast', Int.reduceAdd, Int.reduceSub, Int.reduceMul, eq_self, Prod.mk.injEq, A_X9_layTogether, V_X9_layTogether, B_X9_layTogether, Y_X9_layTogether, C_X9_price, C_X9_behind, shpT, rfsT, wjq_s, look, m17]
      rcases hpr with ⟨hok, hp, hs⟩ | ⟨hok, hp, hs⟩
      · obtain ⟨⟨q1, q2⟩, q3, q4, q5⟩ := cand τ i j he hi0 hj0 hd n (by omega) (by omega) hok
        have nx : ∀ bt1 mn1 : Int, ((sm < bt ∧ mn1 = 0 ∧ bt1 = sm) ∨ (bt ≤ sm ∧ mn1 = mn ∧ bt1 = bt)) → ∃ m_1, m_1 < m ∧ P257 m_1 [vI bt1] [vR 67, vI l, vI a, vI b, vI i0, vI j0, vI i, vI j, vI tp, vI bt, vI mn1, vI n, vI pr, vI sm] τ := by
          intro bt1 mn1 h
          rw [hP257]
          exact ⟨_, by omega, i, j, tp, bt, mn, bt1, mn1, sm, pr, n, rfl, rfl, he, hi0, hi1, hj0, hj1, hn, rfl, htp, hBM, hok, hs, h, hd⟩
        refine ⟨fun h => by omega, fun h => ⟨fun h1 => by omega, fun h1 => ⟨fun h2 => ⟨fun h3 => nx _ _ (Or.inr ⟨h2, rfl, rfl⟩), fun h3 => absurd h2 h3⟩, fun h2 => ⟨fun h3 => absurd h3 h2, fun h3 => nx _ _ (Or.inl ⟨by omega, rfl, rfl⟩)⟩⟩⟩⟩
      · have nx : ∃ m_1, m_1 < m ∧ P314 m_1 [] [vR 67, vI l, vI a, vI b, vI i0, vI j0, vI i, vI j, vI tp, vI bt, vI mn, vI n, vI pr, vI sm] τ := by
          rw [hP314]
          have e : stM τ i j (n + 1) = stM τ i j n := by
            unfold stM
            rw [stN]
            exact if_neg (by rw [hok]; decide)
          refine ⟨_, ?_, i, j, tp, bt, mn, pr, sm, n, rfl, rfl, he, hi0, hi1, hj0, hj1, hn, rfl, htp, by rw [e]; exact hBM, hd⟩
          omega
        exact ⟨fun _ => nx, fun h => absurd (by omega) h⟩
    · intro m S L τ hI
      rw [hP257] at hI
      obtain ⟨i, j, tp, bt, mn, bt1, mn1, sm, pr, n, rfl, rfl, he, hi0, hi1, hj0, hj1, hn, hm, htp, hBM, hok, hsm, hbm, hd⟩ := hI
      simp only [sq_iconst, sq_jsr, sq_anewarray, sq_iload, sq_lload, sq_aload, sq_istore, sq_lstore, sq_astore, sq_iinc, sq_getfield, st_put0, st_put1, st_put3, sq_inv, sq_goto, sq_icmp, sq_ifc, sq_tsw, sq_iadd, sq_isub, sq_imul, sq_ineg, sq_idiv, sq_irem, sq_iand, sq_ior, sq_ixor, sq_ishl, sq_ishr, sq_iushr, sq_ladd, sq_lmul, sq_ldiv, sq_lrem, sq_land, sq_lor, sq_lshl, sq_lushr, sq_lcmp, sq_i2l, sq_l2i, sq_i2c, sq_i2b, sq_dupI, sq_dupR, sq_dup2, sq_pop, sq_iaload, sq_baload, sq_aaload, sq_iastore, sq_bastore, sq_alen, sq_ireturn, sq_lreturn, sq_return, wq_c, wq_n, wlq_s, lkp, tbl, dBk, nth, setL, canSet, cmpI, tk, swK, rdF, entL, catS, cat1, arg, rcv, ald, bld, aln, br, Ccopy, Cmax, Cmin, Cabs, List.take, List.drop, List.reverse, List.reverseAux, List.length, List.append, List.nil_append, List.cons_append, true_and, and_true, and_self, forall_const, true_implies, false_implies, not_true_eq_false, not_false_eq_true, Option.map, reduceCtorEq, reduceIte, or_true, true_or, false_or, or_false, false_and, and_false, List.map, List.append_nil, implies_true, yK, Nat.reduceBEq, beq_self_eq_true, Int.zero_ne_one, Nat.reduceDiv, Nat.reduceMod, Nat.reduceAdd, Nat.reduceSub, Nat.reduceMul, Nat.reduceEqDiff, Nat.reduceLeDiff, Int.reduceToNat, Int.reduceNeg, Int.reduceEq, Int.reduceLT, Int.reduceLE, Int.reduceNatCast, Int.reduceNatCast', Int.reduceAdd, Int.reduceSub, Int.reduceMul, eq_self, Prod.mk.injEq, A_X9_layTogether, V_X9_layTogether, B_X9_layTogether, Y_X9_layTogether, C_X9_price, C_X9_behind, shpT, rfsT, wjq_s, look, m17, lc_le, lc_gt, lc_lt, lc_ge]
      have cd := cand τ i j he hi0 hj0 hd
      obtain ⟨⟨q1, q2⟩, q3, q4, q5⟩ := cd n (by omega) (by omega) hok
      have ho := o_in (s := n) ⟨by omega, by omega⟩
      have hx : -1 ≤ (stM τ i j n).1 ∧ (stM τ i j n).1 ≤ 700000 ∧ 0 ≤ (stM τ i j n).2 ∧ (stM τ i j n).2 ≤ 999999999 := stN_in n (fun s h1 h2 h3 => by obtain ⟨-, z2, z3, z4⟩ := cd s h1 (by omega) h3; exact ⟨by omega, z4⟩)
      have e : stM τ i j (n + 1) = cbs (stM τ i j n) (mP τ n i j + τ 77 ((i + o1 n) * 17 + (j + o2 n))) (τ 78 ((i + o1 n) * 17 + (j + o2 n))) := by
        unfold stM
        rw [stN]
        exact if_pos hok
      have hmn : 0 ≤ mn ∧ mn ≤ 999999999 := by
        unfold BM at hBM
        omega
      rw [← hsm] at e
      have nx : ∀ mo mn2 : Int, ((sm = bt1 ∧ mo = mn1 + τ 78 ((i + o1 n) * 17 + (j + o2 n))) ∨ (¬ sm = bt1 ∧ mo = mn1)) → ((999999999 < mo ∧ mn2 = 999999999) ∨ (mo ≤ 999999999 ∧ mn2 = mo)) → ∃ m_1, m_1 < m ∧ P314 m_1 [] [vR 67, vI l, vI a, vI b, vI i0, vI j0, vI i, vI j, vI tp, vI bt1, vI mn2, vI n, vI pr, vI sm] τ := by
        intro mo mn2 h1 h2
        rw [hP314]
        refine ⟨_, ?_, i, j, tp, bt1, mn2, pr, sm, n, rfl, rfl, he, hi0, hi1, hj0, hj1, hn, rfl, htp, ?_, hd⟩
        · omega
        · rw [e]
          exact BM_step hBM (by omega) hx (by omega) q5 hbm h1 h2
      have hm1 : 0 ≤ mn1 ∧ mn1 ≤ 999999999 := by omega
      have w1 : w32 mn1 = mn1 := i32_to ⟨by omega, by omega⟩
      have w2 : w64 (mn1 + τ 78 ((i + o1 n) * 17 + (j + o2 n))) = mn1 + τ 78 ((i + o1 n) * 17 + (j + o2 n)) := i64_to ⟨by omega, by omega⟩
      have w3 : w32 (mn1 + τ 78 ((i + o1 n) * 17 + (j + o2 n))) = mn1 + τ 78 ((i + o1 n) * 17 + (j + o2 n)) := i32_to ⟨by omega, by omega⟩
      rw [w2, w3, w1]
      refine ⟨fun h => ⟨fun h1 => nx mn1 mn1 (Or.inr ⟨h, rfl⟩) (Or.inr ⟨h1, rfl⟩), fun h1 => absurd hm1.2 h1⟩, fun h => ⟨⟨⟨by omega, by omega⟩, ⟨by omega, by omega⟩, by omega, by omega⟩, ⟨by omega, by omega⟩, fun h1 => nx _ _ (Or.inl ⟨Classical.not_not.mp h, rfl⟩) (Or.inr ⟨h1, rfl⟩), fun h1 => nx _ _ (Or.inl ⟨Classical.not_not.mp h, rfl⟩) (Or.inl ⟨by omega, rfl⟩)⟩⟩
    · intro m S L τ hI
      rw [hP314] at hI
      obtain ⟨i, j, tp, bt, mn, pr, sm, n, rfl, rfl, he, hi0, hi1, hj0, hj1, hn, hm, htp, hBM, hd⟩ := hI
      simp only [sq_iconst, sq_jsr, sq_anewarray, sq_iload, sq_lload, sq_aload, sq_istore, sq_lstore, sq_astore, sq_iinc, sq_getfield, st_put0, st_put1, st_put3, sq_inv, sq_goto, sq_icmp, sq_ifc, sq_tsw, sq_iadd, sq_isub, sq_imul, sq_ineg, sq_idiv, sq_irem, sq_iand, sq_ior, sq_ixor, sq_ishl, sq_ishr, sq_iushr, sq_ladd, sq_lmul, sq_ldiv, sq_lrem, sq_land, sq_lor, sq_lshl, sq_lushr, sq_lcmp, sq_i2l, sq_l2i, sq_i2c, sq_i2b, sq_dupI, sq_dupR, sq_dup2, sq_pop, sq_iaload, sq_baload, sq_aaload, sq_iastore, sq_bastore, sq_alen, sq_ireturn, sq_lreturn, sq_return, wq_c, wq_n, wlq_s, lkp, tbl, dBk, nth, setL, canSet, cmpI, tk, swK, rdF, entL, catS, cat1, arg, rcv, ald, bld, aln, br, Ccopy, Cmax, Cmin, Cabs, List.take, List.drop, List.reverse, List.reverseAux, List.length, List.append, List.nil_append, List.cons_append, true_and, and_true, and_self, forall_const, true_implies, false_implies, not_true_eq_false, not_false_eq_true, Option.map, reduceCtorEq, reduceIte, or_true, true_or, false_or, or_false, false_and, and_false, List.map, List.append_nil, implies_true, yK, Nat.reduceBEq, beq_self_eq_true, Int.zero_ne_one, Nat.reduceDiv, Nat.reduceMod, Nat.reduceAdd, Nat.reduceSub, Nat.reduceMul, Nat.reduceEqDiff, Nat.reduceLeDiff, Int.reduceToNat, Int.reduceNeg, Int.reduceEq, Int.reduceLT, Int.reduceLE, Int.reduceNatCast, Int.reduceNatCast', Int.reduceAdd, Int.reduceSub, Int.reduceMul, eq_self, Prod.mk.injEq, A_X9_layTogether, V_X9_layTogether, B_X9_layTogether, Y_X9_layTogether, C_X9_price, C_X9_behind, shpT, rfsT, wjq_s, look]
      rw [hP160]
      refine ⟨⟨by omega, by omega⟩, _, ?_, i, j, tp, bt, mn, n + 1, rfl, rfl, he, hi0, hi1, hj0, hj1, by omega, rfl, htp, hBM, hd⟩
      omega
    · simp only [sq_iconst, sq_jsr, sq_anewarray, sq_iload, sq_lload, sq_aload, sq_istore, sq_lstore, sq_astore, sq_iinc, sq_getfield, st_put0, st_put1, st_put3, sq_inv, sq_goto, sq_icmp, sq_ifc, sq_tsw, sq_iadd, sq_isub, sq_imul, sq_ineg, sq_idiv, sq_irem, sq_iand, sq_ior, sq_ixor, sq_ishl, sq_ishr, sq_iushr, sq_ladd, sq_lmul, sq_ldiv, sq_lrem, sq_land, sq_lor, sq_lshl, sq_lushr, sq_lcmp, sq_i2l, sq_l2i, sq_i2c, sq_i2b, sq_dupI, sq_dupR, sq_dup2, sq_pop, sq_iaload, sq_baload, sq_aaload, sq_iastore, sq_bastore, sq_alen, sq_ireturn, sq_lreturn, sq_return, wq_c, wq_n, wlq_s, lkp, tbl, dBk, nth, setL, canSet, cmpI, tk, swK, rdF, entL, catS, cat1, arg, rcv, ald, bld, aln, br, Ccopy, Cmax, Cmin, Cabs, List.take, List.drop, List.reverse, List.reverseAux, List.length, List.append, List.nil_append, List.cons_append, true_and, and_true, and_self, forall_const, true_implies, false_implies, not_true_eq_false, not_false_eq_true, Option.map, reduceCtorEq, reduceIte, or_true, true_or, false_or, or_false, false_and, and_false, List.map, List.append_nil, implies_true, yK, Nat.reduceBEq, beq_self_eq_true, Int.zero_ne_one, Nat.reduceDiv, Nat.reduceMod, Nat.reduceAdd, Nat.reduceSub, Nat.reduceMul, Nat.reduceEqDiff, Nat.reduceLeDiff, Int.reduceToNat, Int.reduceNeg, Int.reduceEq, Int.reduceLT, Int.reduceLE, Int.reduceNatCast, Int.reduceNatCast', Int.reduceAdd, Int.reduceSub, Int.reduceMul, eq_self, Prod.mk.injEq, A_X9_layTogether, V_X9_layTogether, B_X9_layTogether, Y_X9_layTogether, C_X9_price, C_X9_behind, shpT, rfsT, wjq_s, look, m4, su_r, su_at]
      refine ⟨⟨by omega, by omega⟩, ⟨by omega, by omega⟩, ⟨by omega, by omega⟩, ⟨by omega, by omega⟩, ⟨by omega, by omega⟩, ⟨by omega, by omega⟩, ⟨by omega, by omega⟩, ⟨by omega, by omega⟩, ⟨by omega, by omega⟩, ⟨by omega, by omega⟩, ⟨by omega, by omega⟩, ha, ?_⟩
      rw [hP84]
      have he : ∀ q : Nat, q ≠ 77 → q ≠ 78 → (su (su (su (su (su (su (su (su σ 67 19 a) 67 20 b) 67 21 (σ 75 (l * 4))) 67 22 (σ 75 (l * 4 + 1))) 67 23 (σ 75 (l * 4 + 2))) 67 24 (σ 75 (l * 4 + 3))) 67 25 i0) 67 26 j0) q = ρ q := fun q _ _ => by rw [← hρ]; rfl
      obtain ⟨-, -, -, -, n1, n2⟩ := base _ he
      refine ⟨_, σ 69 a, rfl, rfl, he, by omega, by omega, rfl, fun c d h1 h2 h3 h4 h5 => ?_⟩
      exfalso
      rw [n1] at h2
      omega

