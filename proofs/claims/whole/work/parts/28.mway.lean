-- ===== layWay of the reference =====
/-- the steps that the way may take -/
def fsQ (pr : Int → Int → Int → Int) (ok : Int → Int → Int → Bool) (T : Int → Int) (i j : Int) : Int → Bool := fun s => ok s i j && decide (pr s i j + T ((i + o1 s) * 17 + (j + o2 s)) = T (i * 17 + j))
def fsM (σ : Sto) (i j : Int) : Int := ff (fsQ (mP σ) (mOk σ) (σ 77) i j) 0 5
theorem fsM_in {σ : Sto} {i j : Int} (hP : PrM σ) (hT : TabM σ) (hi : 0 ≤ i ∧ i ≤ mN1 σ) (hj : 0 ≤ j ∧ j ≤ mN2 σ) : (fsM σ i j = -1 ∧ i = mN1 σ ∧ j = mN2 σ) ∨ (0 ≤ fsM σ i j ∧ fsM σ i j < 5 ∧ i + o1 (fsM σ i j) ≤ mN1 σ ∧ j + o2 (fsM σ i j) ≤ mN2 σ) := by
  have hG := GI_M hP
  rcases ff_in (P := fsQ (mP σ) (mOk σ) (σ 77) i j) 5 0 with h | ⟨h1, h2, h3⟩
  · refine Or.inl ⟨h, ?_⟩
    have hno : ∀ s : Int, 0 ≤ s → s < 5 → ¬ fsQ (mP σ) (mOk σ) (σ 77) i j s = true := fun s a b c => ff_ex 5 0 s a (by omega) (by omega) c h
    obtain ⟨t1, -, t3, -⟩ := hT i j hi.1 hi.2 hj.1 hj.2
    have hcand : ∀ s : Int, 0 ≤ s → s < 5 → mOk σ s i j = true → 0 ≤ mP σ s i j + σ 77 ((i + o1 s) * 17 + (j + o2 s)) := by
      intro s a b c
      obtain ⟨q1, q2, q3, q4⟩ := hG.2.2 s i j a b hi.1 hj.1 c
      have ho := o_in (s := s) ⟨a, b⟩
      obtain ⟨-, -, t3, -⟩ := hT (i + o1 s) (j + o2 s) (by omega) q1 (by omega) q2
      omega
    have hst : (stM σ i j 5).1 = -1 := by
      rcases Int.decEq (stM σ i j 5).1 (-1) with hne | he
      · exfalso
        obtain ⟨s, a, b, c, e⟩ := stN_at 5 hne
        refine hno s a (by omega) ?_
        unfold fsQ
        rw [c, t1]
        have : finN (stM σ i j 5) = stM σ i j 5 := if_neg hne
        unfold stM at this
        rw [this]
        simp only [Bool.true_and, decide_eq_true_eq]
        exact e
      · exact he
    have hnone := stN_no 5 (fun s a b => hcand s a (by omega)) hst
    have g1 : ¬ okP (σ 69 (σ 67 19)) (σ 69 (σ 67 20)) (σ 67 25) (σ 67 26) 1 i j := fun z => hnone 1 (by omega) (by omega) (okB_iff.mpr z)
    have g2 : ¬ okP (σ 69 (σ 67 19)) (σ 69 (σ 67 20)) (σ 67 25) (σ 67 26) 2 i j := fun z => hnone 2 (by omega) (by omega) (okB_iff.mpr z)
    unfold mN1 mN2 at *
    have f1 : ¬ (i + 1 ≤ σ 69 (σ 67 19)) := fun z => g1 ⟨by omega, z, by show j + 0 ≤ _; omega⟩
    have f2 : ¬ (j + 1 ≤ σ 69 (σ 67 20)) := fun z => g2 ⟨by omega, by show i + 0 ≤ _; omega, z⟩
    omega
  · have h2 : ff (fsQ (mP σ) (mOk σ) (σ 77) i j) 0 5 < 5 := by omega
    refine Or.inr ⟨h1, h2, ?_⟩
    have h4 : mOk σ (ff (fsQ (mP σ) (mOk σ) (σ 77) i j) 0 5) i j = true := by
      generalize ff (fsQ (mP σ) (mOk σ) (σ 77) i j) 0 5 = s at *
      unfold fsQ at h3
      simp only [Bool.and_eq_true] at h3
      exact h3.1
    obtain ⟨q1, q2, -⟩ := hG.2.2 _ i j h1 h2 hi.1 hj.1 h4
    exact ⟨q1, q2⟩
def WayM (fs : Int → Int → Int) (K : Nat) (wy lo pl : Int → Int) : Prop := ∀ k : Nat, k < K → ¬ fs (pth fs k).1 (pth fs k).2 = -1 ∧ wy k = fs (pth fs k).1 (pth fs k).2 ∧ ∀ x, (pth fs k).1 ≤ x → x < (pth fs (k + 1)).1 → pl x = (if fs (pth fs k).1 (pth fs k).2 = 0 then 1 else 0) ∧ lo x = if fs (pth fs k).1 (pth fs k).2 = 1 then -1 else (pth fs k).2
def offM (σ τ : Sto) : Prop := (∀ q : Nat, ¬ q = 67 → ¬ (78 < q ∧ q < 82) → τ q = σ q) ∧ ∀ x, ¬ x = 28 → τ 67 x = σ 67 x
theorem o1_nn (z : Int) : 0 ≤ o1 z := by
  unfold o1
  rw [List.getD_eq_getElem?_getD]
  rcases hz : z.toNat with _ | _ | _ | _ | _ | n <;> simp
theorem pth_mono {fs : Int → Int → Int} : ∀ (d n : Nat), (pth fs n).1 ≤ (pth fs (n + d)).1
  | 0, n => Int.le_refl _
  | d + 1, n => by
    refine Int.le_trans (pth_mono d n) ?_
    show (pth fs (n + d)).1 ≤ (pth fs (n + d + 1)).1
    rw [pth]
    split
    · exact Int.le_refl _
    · have := o1_nn (fs (pth fs (n + d)).1 (pth fs (n + d)).2)
      show (pth fs (n + d)).1 ≤ (pth fs (n + d)).1 + _
      omega
theorem cgW {σ τ : Sto} (h : offM σ τ) : mP τ = mP σ ∧ mOk τ = mOk σ ∧ τ 77 = σ 77 ∧ τ 69 = σ 69 ∧ τ 67 19 = σ 67 19 ∧ τ 67 20 = σ 67 20 ∧ (PrM σ → PrM τ) := by
  obtain ⟨h1, h2⟩ := h
  refine ⟨?_, ?_, h1 77 (by decide) (by decide), h1 69 (by decide) (by decide), h2 19 (by decide), h2 20 (by decide), fun hp => ?_⟩
  · funext s i j
    unfold mP
    rw [h1 70 (by decide) (by decide), h1 71 (by decide) (by decide), h1 72 (by decide) (by decide), h2 19 (by decide), h2 20 (by decide), h2 21 (by decide), h2 22 (by decide), h2 23 (by decide), h2 24 (by decide)]
  · funext s i j
    unfold mOk
    rw [h1 69 (by decide) (by decide), h2 19 (by decide), h2 20 (by decide), h2 25 (by decide), h2 26 (by decide)]
  · unfold PrM at *
    rw [h1 69 (by decide) (by decide), h1 70 (by decide) (by decide), h1 71 (by decide) (by decide), h1 72 (by decide) (by decide), h1 75 (by decide) (by decide), h2 19 (by decide), h2 20 (by decide), h2 21 (by decide), h2 22 (by decide), h2 23 (by decide), h2 24 (by decide)]
    exact hp
def A_X9_layWay : List (Nat × Ctr) := [(4, rcv 9 7 C_X9_price), (4, rcv 9 4 C_X9_behind), (1, arg 1 C_X9_wideA), (1, arg 1 C_X9_wideB)]
theorem e_X9_layWay (o : OM) : Ev o Y_X9_layWay 2 T_X9_layWay A_X9_layWay := ⟨rfl, List.forall_mem_cons.mpr ⟨Or.inl f_X9_302, List.forall_mem_cons.mpr ⟨Or.inl f_X9_13, List.forall_mem_cons.mpr ⟨Or.inl f_X9_259, List.forall_mem_cons.mpr ⟨Or.inl f_X9_265, List.forall_mem_cons.mpr ⟨Or.inl f_X9_37, List.forall_mem_cons.mpr ⟨Or.inl f_X9_46, List.forall_mem_cons.mpr ⟨Or.inl f_X9_49, List.forall_mem_cons.mpr ⟨Or.inl f_X9_43, fun _ h => absurd h List.not_mem_nil⟩⟩⟩⟩⟩⟩⟩⟩, List.forall_mem_cons.mpr ⟨⟨w_1453, by decide, by decide⟩, fun _ h => absurd h List.not_mem_nil⟩, fun _ h => absurd h List.not_mem_nil, fun _ h => absurd h List.not_mem_nil, List.forall_mem_cons.mpr ⟨cl_X9_price (s_X9_price o) (by decide) (Or.inl w_1454), List.forall_mem_cons.mpr ⟨cl_X9_behind (s_X9_behind o) (by decide) (Or.inl w_1471), fun _ h => absurd h List.not_mem_nil⟩⟩, List.forall_mem_cons.mpr ⟨cl_X9_wideA (s_X9_wideA o) (by decide) (Or.inl w_1458), List.forall_mem_cons.mpr ⟨cl_X9_wideB (s_X9_wideB o) (by decide) (Or.inl w_1461), fun _ h => absurd h List.not_mem_nil⟩⟩⟩
def C_X9_layWay : Ctr := fun A σ κ => match A with
  | [.inr (.inr (.inl 67))] => (PrM σ ∧ TabM σ) ∧ ∀ (τ : Sto) (K : Nat), offM σ τ → τ 67 28 = K → K ≤ 32 → fsM σ (pth (fsM σ) K).1 (pth (fsM σ) K).2 = -1 → pth (fsM σ) K = (mN1 σ, mN2 σ) → WayM (fsM σ) K (τ 79) (τ 80) (τ 81) → κ [] τ
  | _ => False
set_option maxRecDepth 20000 in
theorem s_X9_layWay (o : OM) : Sound o Y_X9_layWay 2 C_X9_layWay := by
  intro Q A σ hA hC
  match A, hA, hC with
  | [.inr (.inr (.inl 67))], hA, hC =>
    obtain ⟨h0, hq⟩ : (PrM σ ∧ TabM σ) ∧ ∀ (τ : Sto) (K : Nat), offM σ τ → τ 67 28 = K → K ≤ 32 → fsM σ (pth (fsM σ) K).1 (pth (fsM σ) K).2 = -1 → pth (fsM σ) K = (mN1 σ, mN2 σ) → WayM (fsM σ) K (τ 79) (τ 80) (τ 81) → Q [] τ := hC
    obtain ⟨hP, hT⟩ := h0
    have hcs := fun i j => @fsM_in σ i j hP hT
    have hff : ∀ i j, fsM σ i j = ff (fsQ (mP σ) (mOk σ) (σ 77) i j) 0 (5 - 0 : Int).toNat := fun i j => rfl
    have hG := GI_M hP
    obtain ⟨hn1, hn2, hGo⟩ := hG
    have u1 : mN1 σ = σ 69 (σ 67 19) := rfl
    have u2 : mN2 σ = σ 69 (σ 67 20) := rfl
    generalize fsM σ = f at *
    obtain ⟨P9, hP9⟩ : ∃ P : Nat → List AV → List AV → Sto → Prop, P = fun m S L τ => ∃ k : Nat, S = [] ∧ L = [vR 67, vI (pth f k).1, vI (pth f k).2] ∧ offM σ τ ∧ τ 67 28 = k ∧ WayM f k (τ 79) (τ 80) (τ 81) ∧ (0 ≤ (pth f k).1 ∧ (pth f k).1 ≤ mN1 σ) ∧ (0 ≤ (pth f k).2 ∧ (pth f k).2 ≤ mN2 σ) ∧ k ≤ (pth f k).1 + (pth f k).2 ∧ m = (33 - k) * 20 := ⟨_, rfl⟩
    obtain ⟨P37, hP37⟩ : ∃ P : Nat → List AV → List AV → Sto → Prop, P = fun m S L τ => ∃ (k : Nat) (s : Int), S = [] ∧ L = [vR 67, vI (pth f k).1, vI (pth f k).2, vI s] ∧ offM σ τ ∧ τ 67 28 = k ∧ k < 32 ∧ WayM f k (τ 79) (τ 80) (τ 81) ∧ (0 ≤ (pth f k).1 ∧ (pth f k).1 ≤ mN1 σ) ∧ (0 ≤ (pth f k).2 ∧ (pth f k).2 ≤ mN2 σ) ∧ k ≤ (pth f k).1 + (pth f k).2 ∧ ¬ f (pth f k).1 (pth f k).2 = -1 ∧ 0 ≤ s ∧ s ≤ f (pth f k).1 (pth f k).2 ∧ f (pth f k).1 (pth f k).2 = ff (fsQ (mP σ) (mOk σ) (σ 77) (pth f k).1 (pth f k).2) s (5 - s).toNat ∧ m = (32 - k) * 20 + 10 + (5 - s).toNat := ⟨_, rfl⟩
    obtain ⟨P93, hP93⟩ : ∃ P : Nat → List AV → List AV → Sto → Prop, P = fun m S L τ => ∃ (k : Nat) (s x : Int), S = [] ∧ L = [vR 67, vI (pth f k).1, vI (pth f k).2, vI s, vI x] ∧ offM σ τ ∧ τ 67 28 = k ∧ k < 32 ∧ WayM f k (τ 79) (τ 80) (τ 81) ∧ (0 ≤ (pth f k).1 ∧ (pth f k).1 ≤ mN1 σ) ∧ (0 ≤ (pth f k).2 ∧ (pth f k).2 ≤ mN2 σ) ∧ k ≤ (pth f k).1 + (pth f k).2 ∧ ¬ f (pth f k).1 (pth f k).2 = -1 ∧ s = f (pth f k).1 (pth f k).2 ∧ 0 ≤ x ∧ x ≤ o1 s ∧ (∀ y, (pth f k).1 ≤ y → y < (pth f k).1 + x → τ 81 y = (if s = 0 then 1 else 0) ∧ τ 80 y = if s = 1 then -1 else (pth f k).2) ∧ m = (32 - k) * 20 + (o1 s - x).toNat + 1 := ⟨_, rfl⟩
    refine at_meth (lv := V_X9_layWay) (B := B_X9_layWay) (e_X9_layWay o) k_X9_layWay 7 [(9, P9), (37, P37), (93, P93)] (List.forall_mem_cons.mpr ⟨?_, List.forall_mem_cons.mpr ⟨?_, List.forall_mem_cons.mpr ⟨?_, fun _ h => absurd h List.not_mem_nil⟩⟩⟩) 0 [] _ σ ?_
    · intro m S L τ hI
      rw [hP9] at hI
      obtain ⟨k, rfl, rfl, ho, h28, hW, hi, hj, hsum, hm⟩ := hI
      obtain ⟨c1, c2, c3, c4, c5, c6, c7⟩ := cgW ho
      obtain ⟨hpa, hpb, -⟩ := id hP
      have hc := hcs _ _ hi hj
      simp only [sq_iconst, sq_jsr, sq_anewarray, sq_iload, sq_lload, sq_aload, sq_istore, sq_lstore, sq_astore, sq_iinc, sq_getfield, st_put0, st_put1, st_put3, sq_inv, sq_goto, sq_icmp, sq_ifc, sq_tsw, sq_iadd, sq_isub, sq_imul, sq_ineg, sq_idiv, sq_irem, sq_iand, sq_ior, sq_ixor, sq_ishl, sq_ishr, sq_iushr, sq_ladd, sq_lmul, sq_ldiv, sq_lrem, sq_land, sq_lor, sq_lshl, sq_lushr, sq_lcmp, sq_i2l, sq_l2i, sq_i2c, sq_i2b, sq_dupI, sq_dupR, sq_dup2, sq_pop, sq_iaload, sq_baload, sq_aaload, sq_iastore, sq_bastore, sq_alen, sq_ireturn, sq_lreturn, sq_return, wq_c, wq_n, wlq_s, lkp, tbl, dBk, nth, setL, canSet, cmpI, tk, swK, rdF, entL, catS, cat1, arg, rcv, ald, bld, aln, br, Ccopy, Cmax, Cmin, Cabs, List.take, List.drop, List.reverse, List.reverseAux, List.length, List.append, List.nil_append, List.cons_append, true_and, and_true, and_self, forall_const, true_implies, false_implies, not_true_eq_false, not_false_eq_true, Option.map, reduceCtorEq, reduceIte, or_true, true_or, false_or, or_false, false_and, and_false, List.map, List.append_nil, implies_true, yK, Nat.reduceBEq, beq_self_eq_true, Int.zero_ne_one, Nat.reduceDiv, Nat.reduceMod, Nat.reduceAdd, Nat.reduceSub, Nat.reduceMul, Nat.reduceEqDiff, Nat.reduceLeDiff, Int.reduceToNat, Int.reduceNeg, Int.reduceEq, Int.reduceLT, Int.reduceLE, Int.reduceNatCast, Int.reduceNatCast', Int.reduceAdd, Int.reduceSub, Int.reduceMul, eq_self, Prod.mk.injEq, A_X9_layWay, V_X9_layWay, B_X9_layWay, Y_X9_layWay, C_X9_price, C_X9_behind, C_X9_wideA, C_X9_wideB, shpT, rfsT, wjq_s, look]
      rw [c4, c5, c6, ← u1, ← u2]
      have nx : ¬ ((pth f k).1 = mN1 σ ∧ (pth f k).2 = mN2 σ) → ∃ m_1, m_1 < m ∧ P37 m_1 [] [vR 67, vI (pth f k).1, vI (pth f k).2, vI 0] τ := by
        intro hne
        rw [hP37]
        rcases hc with ⟨e1, e2, e3⟩ | ⟨e1, e2, e3, e4⟩
        · exact absurd ⟨e2, e3⟩ hne
        · have ho2 := o_in ⟨e1, e2⟩
          refine ⟨_, ?_, k, 0, rfl, rfl, ho, h28, by omega, hW, hi, hj, hsum, by omega, by omega, e1, hff _ _, rfl⟩
          omega
      refine ⟨hpa, fun h1 => nx (by omega), fun h1 => ⟨hpb, fun h2 => ?_, fun h2 => nx (by omega)⟩⟩
      rcases hc with ⟨e1, e2, e3⟩ | ⟨e1, e2, e3, e4⟩
      · exact hq τ k ho h28 (by omega) e1 (by rw [← e2, ← e3]) hW
      · have ho2 := o_in ⟨e1, e2⟩
        omega
    · intro m S L τ hI
      rw [hP37] at hI
      obtain ⟨k, s, rfl, rfl, ho, h28, hk, hW, hi, hj, hsum, hne, hs0, hs1, hfs, hm⟩ := hI
      obtain ⟨c1, c2, c3, c4, c5, c6, c7⟩ := cgW ho
      simp only [sq_iconst, sq_jsr, sq_anewarray, sq_iload, sq_lload, sq_aload, sq_istore, sq_lstore, sq_astore, sq_iinc, sq_getfield, st_put0, st_put1, st_put3, sq_inv, sq_goto, sq_icmp, sq_ifc, sq_tsw, sq_iadd, sq_isub, sq_imul, sq_ineg, sq_idiv, sq_irem, sq_iand, sq_ior, sq_ixor, sq_ishl, sq_ishr, sq_iushr, sq_ladd, sq_lmul, sq_ldiv, sq_lrem, sq_land, sq_lor, sq_lshl, sq_lushr, sq_lcmp, sq_i2l, sq_l2i, sq_i2c, sq_i2b, sq_dupI, sq_dupR, sq_dup2, sq_pop, sq_iaload, sq_baload, sq_aaload, sq_iastore, sq_bastore, sq_alen, sq_ireturn, sq_lreturn, sq_return, wq_c, wq_n, wlq_s, lkp, tbl, dBk, nth, setL, canSet, cmpI, tk, swK, rdF, entL, catS, cat1, arg, rcv, ald, bld, aln, br, Ccopy, Cmax, Cmin, Cabs, List.take, List.drop, List.reverse, List.reverseAux, List.length, List.append, List.nil_append, List.cons_append, true_and, and_true, and_self, forall_const, true_implies, false_implies, not_true_eq_false, not_false_eq_true, Option.map, reduceCtorEq, reduceIte, or_true, true_or, false_or, or_false, false_and, and_false, List.map, List.append_nil, implies_true, yK, Nat.reduceBEq, beq_self_eq_true, Int.zero_ne_one, Nat.reduceDiv, Nat.reduceMod, Nat.reduceAdd, Nat.reduceSub, Nat.reduceMul, Nat.reduceEqDiff, Nat.reduceLeDiff, Int.reduceToNat, Int.reduceNeg, Int.reduceEq, Int.reduceLT, Int.reduceLE, Int.reduceNatCast, Int.reduceNatCast', Int.reduceAdd, Int.reduceSub, Int.reduceMul, eq_self, Prod.mk.injEq, A_X9_layWay, V_X9_layWay, B_X9_layWay, Y_X9_layWay, C_X9_price, C_X9_behind, C_X9_wideA, C_X9_wideB, shpT, rfsT, wjq_s, look, m17]
      rw [c1, c2, c3, c4, c5, c6, ← u1, ← u2]
      have hc := hcs _ _ hi hj
      generalize hfv : f (pth f k).1 (pth f k).2 = v at *
      have hv : 0 ≤ v ∧ v < 5 := by omega
      have hos := o_in (s := s) ⟨hs0, by omega⟩
      rw [ff_s (by omega)] at hfs
      have nx : ¬ fsQ (mP σ) (mOk σ) (σ 77) (pth f k).1 (pth f k).2 s = true → i32 (s + 1) ∧ ∃ m_1, m_1 < m ∧ P37 m_1 [] [vR 67, vI (pth f k).1, vI (pth f k).2, vI (s + 1)] τ := by
        intro hno
        rw [if_neg hno] at hfs
        rw [hP37]
        have hlt : s + 1 ≤ v := by
          rcases ff_in (P := fsQ (mP σ) (mOk σ) (σ 77) (pth f k).1 (pth f k).2) (5 - (s + 1)).toNat (s + 1) with h | ⟨h, -, -⟩
          · omega
          · omega
        refine ⟨⟨by omega, by omega⟩, _, ?_, k, s + 1, rfl, rfl, ho, h28, hk, hW, hi, hj, hsum, by omega, by omega, by omega, by rw [hfv]; exact hfs, rfl⟩
        omega
      by_cases hok : mOk σ s (pth f k).1 (pth f k).2 = true
      · rw [if_pos hok]
        obtain ⟨q1, q2, q3, q4⟩ := hGo s _ _ hs0 (by omega) hi.1 hj.1 hok
        obtain ⟨-, -, r3, -⟩ := hT ((pth f k).1 + o1 s) ((pth f k).2 + o2 s) (by omega) q1 (by omega) q2
        refine ⟨⟨c7 hP, hi, hj, hs0, by omega⟩, fun h => by omega, fun h => ⟨⟨c7 hP, hi, hj, hs0, by omega⟩, ⟨⟨by omega, by omega⟩, ⟨by omega, by omega⟩, hs0, by omega⟩, ⟨by omega, by omega⟩, ⟨by omega, by omega⟩, ⟨by omega, by omega⟩, ⟨by omega, by omega⟩, ⟨by omega, by omega⟩, fun h1 => ?_, fun h1 => nx (by unfold fsQ; rw [hok]; simpa using h1)⟩⟩
        rw [if_pos (by unfold fsQ; rw [hok]; simpa using h1)] at hfs
        rw [hP93]
        refine ⟨_, ?_, k, s, 0, rfl, rfl, ho, h28, hk, hW, hi, hj, hsum, by omega, by omega, by omega, hos.1, fun y g1 g2 => by omega, rfl⟩
        omega
      · rw [if_neg hok]
        exact ⟨⟨c7 hP, hi, hj, hs0, by omega⟩, fun h => nx (by unfold fsQ; simp [hok]), fun h => absurd rfl h⟩
    · intro m S L τ hI
      rw [hP93] at hI
      obtain ⟨k, s, x, rfl, rfl, ho, h28, hk, hW, hi, hj, hsum, hne, hs, hx0, hx1, hl, hm⟩ := hI
      simp only [sq_iconst, sq_jsr, sq_anewarray, sq_iload, sq_lload, sq_aload, sq_istore, sq_lstore, sq_astore, sq_iinc, sq_getfield, st_put0, st_put1, st_put3, sq_inv, sq_goto, sq_icmp, sq_ifc, sq_tsw, sq_iadd, sq_isub, sq_imul, sq_ineg, sq_idiv, sq_irem, sq_iand, sq_ior, sq_ixor, sq_ishl, sq_ishr, sq_iushr, sq_ladd, sq_lmul, sq_ldiv, sq_lrem, sq_land, sq_lor, sq_lshl, sq_lushr, sq_lcmp, sq_i2l, sq_l2i, sq_i2c, sq_i2b, sq_dupI, sq_dupR, sq_dup2, sq_pop, sq_iaload, sq_baload, sq_aaload, sq_iastore, sq_bastore, sq_alen, sq_ireturn, sq_lreturn, sq_return, wq_c, wq_n, wlq_s, lkp, tbl, dBk, nth, setL, canSet, cmpI, tk, swK, rdF, entL, catS, cat1, arg, rcv, ald, bld, aln, br, Ccopy, Cmax, Cmin, Cabs, List.take, List.drop, List.reverse, List.reverseAux, List.length, List.append, List.nil_append, List.cons_append, true_and, and_true, and_self, forall_const, true_implies, false_implies, not_true_eq_false, not_false_eq_true, Option.map, reduceCtorEq, reduceIte, or_true, true_or, false_or, or_false, false_and, and_false, List.map, List.append_nil, implies_true, yK, Nat.reduceBEq, beq_self_eq_true, Int.zero_ne_one, Nat.reduceDiv, Nat.reduceMod, Nat.reduceAdd, Nat.reduceSub, Nat.reduceMul, Nat.reduceEqDiff, Nat.reduceLeDiff, Int.reduceToNat, Int.reduceNeg, Int.reduceEq, Int.reduceLT, Int.reduceLE, Int.reduceNatCast, Int.reduceNatCast', Int.reduceAdd, Int.reduceSub, Int.reduceMul, eq_self, Prod.mk.injEq, A_X9_layWay, V_X9_layWay, B_X9_layWay, Y_X9_layWay, C_X9_price, C_X9_behind, C_X9_wideA, C_X9_wideB, shpT, rfsT, wjq_s, look]
      have hc := hcs _ _ hi hj
      have hps := pth_s hne
      rw [← hs] at hc hps
      have hs5 : 0 ≤ s ∧ s < 5 := by omega
      have hos := o_in hs5
      have hin : (pth f k).1 + o1 s ≤ mN1 σ ∧ (pth f k).2 + o2 s ≤ mN2 σ := by
        rcases hc with ⟨e1, -⟩ | ⟨-, -, e3⟩
        · omega
        · exact e3
      have nx : ∀ v w : Int, v = (if s = 1 then -1 else (pth f k).2) → w = (if s = 0 then 1 else 0) → x < o1 s → ∃ m_1, m_1 < m ∧ P93 m_1 [] [vR 67, vI (pth f k).1, vI (pth f k).2, vI s, vI (x + 1)] (su (su τ 80 ((pth f k).1 + x) v) 81 ((pth f k).1 + x) w) := by
        intro v w hv hw hlt
        rw [hP93]
        refine ⟨_, ?_, k, s, x + 1, rfl, rfl, ⟨fun q g1 g2 => by rw [su_r (by omega), su_r (by omega)]; exact ho.1 q g1 g2, fun y hy => by rw [su_r (by decide), su_r (by decide)]; exact ho.2 y hy⟩, by rw [su_r (by decide), su_r (by decide)]; exact h28, hk, ?_, hi, hj, hsum, hne, hs, by omega, by omega, fun y g1 g2 => ?_, rfl⟩
        · omega
        · intro k2 hk2
          obtain ⟨w1, w2, w3⟩ := hW k2 hk2
          have hmo := pth_mono (fs := f) (k - (k2 + 1)) (k2 + 1)
          rw [show k2 + 1 + (k - (k2 + 1)) = k by omega] at hmo
          refine ⟨w1, by rw [su_r (by decide), su_r (by decide)]; exact w2, fun y g1 g2 => ?_⟩
          have hy : ¬ y = (pth f k).1 + x := by omega
          rw [su_at, if_neg hy, su_r (by decide), su_r (by decide), su_at, if_neg hy]
          exact w3 y g1 g2
        · rw [su_at, su_r (show (80 : Nat) ≠ 81 by decide), su_at]
          by_cases hy : y = (pth f k).1 + x
          · rw [if_pos hy, if_pos hy]
            exact ⟨hw, hv⟩
          · rw [if_neg hy, if_neg hy, su_r (by decide)]
            exact hl y g1 (by omega)
      have r1 : 0 ≤ (pth f k).1 + x ∧ ¬ o1 s ≤ x → (0 ≤ (pth f k).1 + x ∧ (pth f k).1 + x < 16) := by omega
      refine ⟨hs5, fun h1 => ⟨⟨by omega, by omega⟩, by rw [su_r (by decide)]; exact ⟨by omega, by omega⟩, hs5, ⟨by omega, by omega⟩, hs5, ⟨by omega, by omega⟩, ?_⟩, fun h1 => ⟨⟨by omega, by omega⟩, fun h2 => ⟨⟨by omega, by omega⟩, ⟨by omega, by omega⟩, fun h3 => ⟨⟨by omega, by omega⟩, ⟨by omega, by omega⟩, nx _ _ (by rw [if_neg h2]) (by rw [if_neg h3]) (by omega)⟩, fun h3 => ⟨⟨by omega, by omega⟩, ⟨by omega, by omega⟩, nx _ _ (by rw [if_neg h2]) (by rw [if_pos (by omega)]) (by omega)⟩⟩, fun h2 => ⟨⟨by omega, by omega⟩, ⟨by omega, by omega⟩, fun h3 => ⟨⟨by omega, by omega⟩, ⟨by omega, by omega⟩, nx _ _ (by rw [if_pos (by omega)]) (by rw [if_neg h3]) (by omega)⟩, fun h3 => ⟨⟨by omega, by omega⟩, ⟨by omega, by omega⟩, nx _ _ (by rw [if_pos (by omega)]) (by rw [if_pos (by omega)]) (by omega)⟩⟩⟩⟩
      rw [hP9]
      refine ⟨_, ?_, k + 1, rfl, by rw [hps], ⟨fun q g1 g2 => by rw [su_r (by omega), su_r (by omega)]; exact ho.1 q g1 g2, fun y hy => by rw [su_at, if_neg hy, su_r (by decide)]; exact ho.2 y hy⟩, by rw [su_at, if_pos rfl, su_r (by decide), h28]; rfl, ?_, by rw [hps]; exact ⟨by show 0 ≤ (pth f k).1 + o1 s; omega, hin.1⟩, by rw [hps]; exact ⟨by show 0 ≤ (pth f k).2 + o2 s; omega, hin.2⟩, by rw [hps]; show ((k + 1 : Nat) : Int) ≤ (pth f k).1 + o1 s + ((pth f k).2 + o2 s); omega, rfl⟩
      · omega
      · intro k2 hk2
        by_cases hkk : k2 = k
        · subst hkk
          refine ⟨hne, by rw [su_r (by decide), su_at, if_pos h28.symm, hs], fun y g1 g2 => ?_⟩
          rw [su_r (by decide), su_r (by decide), su_r (by decide), su_r (by decide), ← hs]
          rw [hps] at g2
          have g2 : y < (pth f k2).1 + o1 s := g2
          exact hl y g1 (by omega)
        · obtain ⟨w1, w2, w3⟩ := hW k2 (by omega)
          refine ⟨w1, by rw [su_r (by decide), su_at, if_neg (by omega)]; exact w2, ?_⟩
          rw [su_r (by decide), su_r (by decide), su_r (by decide), su_r (by decide)]
          exact w3
    · simp only [sq_iconst, sq_jsr, sq_anewarray, sq_iload, sq_lload, sq_aload, sq_istore, sq_lstore, sq_astore, sq_iinc, sq_getfield, st_put0, st_put1, st_put3, sq_inv, sq_goto, sq_icmp, sq_ifc, sq_tsw, sq_iadd, sq_isub, sq_imul, sq_ineg, sq_idiv, sq_irem, sq_iand, sq_ior, sq_ixor, sq_ishl, sq_ishr, sq_iushr, sq_ladd, sq_lmul, sq_ldiv, sq_lrem, sq_land, sq_lor, sq_lshl, sq_lushr, sq_lcmp, sq_i2l, sq_l2i, sq_i2c, sq_i2b, sq_dupI, sq_dupR, sq_dup2, sq_pop, sq_iaload, sq_baload, sq_aaload, sq_iastore, sq_bastore, sq_alen, sq_ireturn, sq_lreturn, sq_return, wq_c, wq_n, wlq_s, lkp, tbl, dBk, nth, setL, canSet, cmpI, tk, swK, rdF, entL, catS, cat1, arg, rcv, ald, bld, aln, br, Ccopy, Cmax, Cmin, Cabs, List.take, List.drop, List.reverse, List.reverseAux, List.length, List.append, List.nil_append, List.cons_append, true_and, and_true, and_self, forall_const, true_implies, false_implies, not_true_eq_false, not_false_eq_true, Option.map, reduceCtorEq, reduceIte, or_true, true_or, false_or, or_false, false_and, and_false, List.map, List.append_nil, implies_true, yK, Nat.reduceBEq, beq_self_eq_true, Int.zero_ne_one, Nat.reduceDiv, Nat.reduceMod, Nat.reduceAdd, Nat.reduceSub, Nat.reduceMul, Nat.reduceEqDiff, Nat.reduceLeDiff, Int.reduceToNat, Int.reduceNeg, Int.reduceEq, Int.reduceLT, Int.reduceLE, Int.reduceNatCast, Int.reduceNatCast', Int.reduceAdd, Int.reduceSub, Int.reduceMul, eq_self, Prod.mk.injEq, A_X9_layWay, V_X9_layWay, B_X9_layWay, Y_X9_layWay, C_X9_price, C_X9_behind, C_X9_wideA, C_X9_wideB, shpT, rfsT, wjq_s, look]
      rw [hP9]
      exact ⟨_, 0, rfl, rfl, ⟨fun q g1 g2 => by rw [su_r g1], fun x hx => by rw [su_at, if_neg hx]⟩, by rw [su_at, if_pos rfl]; rfl, fun k2 hk2 => by omega, ⟨by show (0 : Int) ≤ 0; omega, by show (0 : Int) ≤ _; omega⟩, ⟨by show (0 : Int) ≤ 0; omega, by show (0 : Int) ≤ _; omega⟩, by show (0 : Int) ≤ 0 + 0; omega, rfl⟩

