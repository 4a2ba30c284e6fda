-- ===== the way, both sides; of the class =====
def pth (fs : Int → Int → Int) : Nat → Int × Int
  | 0 => (0, 0)
  | k + 1 => if fs (pth fs k).1 (pth fs k).2 = -1 then pth fs k else ((pth fs k).1 + o1 (fs (pth fs k).1 (pth fs k).2), (pth fs k).2 + o2 (fs (pth fs k).1 (pth fs k).2))
theorem pth_s {fs : Int → Int → Int} {k : Nat} (h : ¬ fs (pth fs k).1 (pth fs k).2 = -1) : pth fs (k + 1) = ((pth fs k).1 + o1 (fs (pth fs k).1 (pth fs k).2), (pth fs k).2 + o2 (fs (pth fs k).1 (pth fs k).2)) := if_neg h
/-- what is written of the first so many steps of the way -/
def WayR (fs : Int → Int → Int) (K : Nat) (wy lo lb : Int → Int) : Prop := ∀ k : Nat, k < K → ¬ fs (pth fs k).1 (pth fs k).2 = -1 ∧ wy k = fs (pth fs k).1 (pth fs k).2 ∧ ∀ x, (pth fs k).1 ≤ x → x < (pth fs (k + 1)).1 → lb x = fs (pth fs k).1 (pth fs k).2 ∧ lo x = if o2 (fs (pth fs k).1 (pth fs k).2) = 0 then -1 else (pth fs k).2
theorem ff_ex {P : Int → Bool} : ∀ (n : Nat) (lo s : Int), lo ≤ s → s < lo + n → 0 ≤ lo → P s = true → ¬ ff P lo n = -1
  | 0, lo, s, h1, h2, _, _ => by omega
  | n + 1, lo, s, h1, h2, h0, h3 => by
    unfold ff
    split
    · omega
    · rename_i hP
      exact ff_ex n (lo + 1) s (by rcases Int.lt_or_eq_of_le h1 with h | h; omega; exact absurd (h ▸ h3) hP) (by omega) (by omega) h3
theorem cbs_at {x : Int × Int} {p w : Int} : (cbs x p w).1 = p ∨ (cbs x p w).1 = x.1 := by
  unfold cbs
  split
  · exact Or.inl rfl
  · split
    · exact Or.inr rfl
    · exact Or.inr rfl
theorem stN_at {pr : Int → Int} {ok : Int → Bool} {L W : Int → Int} : ∀ n : Nat, ¬ (stN pr ok L W n).1 = -1 → ∃ s : Int, 0 ≤ s ∧ s < n ∧ ok s = true ∧ pr s + L s = (stN pr ok L W n).1
  | 0, h => absurd rfl h
  | n + 1, h => by
    unfold stN at *
    split
    · rename_i ho
      rw [if_pos ho] at h
      rcases cbs_at (x := stN pr ok L W n) (p := pr n + L n) (w := W n) with h1 | h1
      · exact ⟨n, by omega, by omega, ho, h1.symm⟩
      · rw [h1] at h ⊢
        obtain ⟨s, a, b, c, d⟩ := stN_at n h
        exact ⟨s, a, by omega, c, d⟩
    · rename_i ho
      rw [if_neg ho] at h
      obtain ⟨s, a, b, c, d⟩ := stN_at n h
      exact ⟨s, a, by omega, c, d⟩
theorem stN_no {pr : Int → Int} {ok : Int → Bool} {L W : Int → Int} : ∀ n : Nat, (∀ s : Int, 0 ≤ s → s < n → ok s = true → 0 ≤ pr s + L s) → (stN pr ok L W n).1 = -1 → ∀ s : Int, 0 ≤ s → s < n → ¬ ok s = true
  | 0, _, _, s, h1, h2 => by omega
  | n + 1, hc, h, s, h1, h2 => by
    unfold stN at h
    by_cases ho : ok n = true
    · rw [if_pos ho] at h
      have h3 := hc n (by omega) (by omega) ho
      exfalso
      rcases cbs_at (x := stN pr ok L W n) (p := pr n + L n) (w := W n) with h4 | h4
      · omega
      · unfold cbs at h h4
        split at h
        · have : pr n + L n = -1 := h
          omega
        · rename_i hn
          rw [if_neg hn] at h4
          split at h
          · exact hn (Or.inl h)
          · exact hn (Or.inl h)
    · rw [if_neg ho] at h
      by_cases hs : s = n
      · rw [hs]; exact ho
      · exact stN_no n (fun s a b => hc s a (by omega)) h s h1 (by omega)
/-- from below the top a step is found, at the top none -/
theorem fsC_in {σ : Sto} {i j : Int} (hP : PrI σ) (hT : TabC σ) (hi : 0 ≤ i ∧ i ≤ σ 9 6) (hj : 0 ≤ j ∧ j ≤ σ 9 7) : (fsC σ i j = -1 ∧ i = σ 9 6 ∧ j = σ 9 7) ∨ (0 ≤ fsC σ i j ∧ fsC σ i j < 5 ∧ i + o1 (fsC σ i j) ≤ σ 9 6 ∧ j + o2 (fsC σ i j) ≤ σ 9 7) := by
  obtain ⟨hn1, hn2, hR1, hR2, hL⟩ := hP
  rcases ff_in (P := fsP σ i j) 5 0 with h | ⟨h1, h2, h3⟩
  · refine Or.inl ⟨h, ?_⟩
    have hno : ∀ s : Int, 0 ≤ s → s < 5 → ¬ fsP σ i j s = true := fun s a b c => ff_ex 5 0 s a (by omega) (by omega) c h
    obtain ⟨t1, -, t3, -⟩ := hT i j hi.1 hi.2 hj.1 hj.2
    have hcand : ∀ s : Int, 0 ≤ s → s < 5 → okB (σ 9 6) (σ 9 7) (σ 9 12) (σ 9 13) s i j = true → 0 ≤ prS (σ 39) (σ 40) (σ 41) (σ 42) (σ 9 8) (σ 9 9) (σ 9 10) (σ 9 11) s i j + σ 43 ((i + o1 s) * 17 + (j + o2 s)) := by
      intro s a b c
      have c := okB_iff.mp c
      have hp := prS_in hR1 hR2 hL ⟨a, b⟩ hi.1 hj.1 c.2.1 c.2.2
      have ho := o_in (s := s) ⟨a, b⟩
      obtain ⟨-, -, t3, -⟩ := hT (i + o1 s) (j + o2 s) (by omega) c.2.1 (by omega) c.2.2
      omega
    have hst : (stC σ i j 5).1 = -1 := by
      rcases Int.decEq (stC σ i j 5).1 (-1) with hne | he
      · exfalso
        obtain ⟨s, a, b, c, e⟩ := stN_at 5 hne
        refine hno s a (by omega) ?_
        unfold fsP
        rw [c, t1]
        have : finN (stC σ i j 5) = stC σ i j 5 := if_neg hne
        rw [this]
        simp only [Bool.true_and, decide_eq_true_eq]
        exact e
      · exact he
    have hnone := stN_no 5 (fun s a b => hcand s a (by omega)) hst
    have h1 := hnone 1 (by omega) (by omega)
    have h2 := hnone 2 (by omega) (by omega)
    have g1 : ¬ okP (σ 9 6) (σ 9 7) (σ 9 12) (σ 9 13) 1 i j := fun z => h1 (okB_iff.mpr z)
    have g2 : ¬ okP (σ 9 6) (σ 9 7) (σ 9 12) (σ 9 13) 2 i j := fun z => h2 (okB_iff.mpr z)
    have f1 : ¬ (i + 1 ≤ σ 9 6) := fun z => g1 ⟨by omega, z, by show j + 0 ≤ _; omega⟩
    have f2 : ¬ (j + 1 ≤ σ 9 7) := fun z => g2 ⟨by omega, by show i + 0 ≤ _; omega, z⟩
    omega
  · refine Or.inr ⟨h1, by show ff (fsP σ i j) 0 5 < 5; omega, ?_⟩
    unfold fsP at h3
    simp only [Bool.and_eq_true] at h3
    exact (okB_iff.mp h3.1).2
theorem fsC_congr {σ τ : Sto} (h9 : ∀ x, ¬ x = 17 → τ 9 x = σ 9 x) (ho : ∀ q : Nat, 38 < q → q < 45 → τ q = σ q) (i j : Int) : fsC τ i j = fsC σ i j := by
  unfold fsC
  have : fsP τ i j = fsP σ i j := by
    funext s
    unfold fsP
    rw [h9 6 (by decide), h9 7 (by decide), h9 8 (by decide), h9 9 (by decide), h9 10 (by decide), h9 11 (by decide), h9 12 (by decide), h9 13 (by decide), ho 39 (by decide) (by decide), ho 40 (by decide) (by decide), ho 41 (by decide) (by decide), ho 42 (by decide) (by decide), ho 43 (by decide) (by decide)]
  rw [this]
theorem o1_get (s : Int) : ([1, 1, 0, 1, 2] : List Int).getD s.toNat 0 = o1 s := rfl
theorem o2_get (s : Int) : ([1, 0, 1, 2, 1] : List Int).getD s.toNat 0 = o2 s := rfl
/-- what the way's own places are, and the rest as it was -/
def offW (σ τ : Sto) : Prop := (∀ q : Nat, ¬ q = 9 → ¬ (44 < q ∧ q < 48) → τ q = σ q) ∧ ∀ x, ¬ x = 17 → τ 9 x = σ 9 x
theorem TabC_congr {σ τ : Sto} (h9 : ∀ x, ¬ x = 17 → τ 9 x = σ 9 x) (ho : ∀ q : Nat, 38 < q → q < 45 → τ q = σ q) (h : TabC σ) : TabC τ := by
  intro i j h1 h2 h3 h4
  rw [h9 6 (by decide)] at h2
  rw [h9 7 (by decide)] at h4
  have := h i j h1 h2 h3 h4
  unfold rcC stC at *
  rw [h9 6 (by decide), h9 7 (by decide), h9 8 (by decide), h9 9 (by decide), h9 10 (by decide), h9 11 (by decide), h9 12 (by decide), h9 13 (by decide), ho 39 (by decide) (by decide), ho 40 (by decide) (by decide), ho 41 (by decide) (by decide), ho 42 (by decide) (by decide), ho 43 (by decide) (by decide), ho 44 (by decide) (by decide)]
  exact this
def A_X5_goTheWay : List (Nat × Ctr) := [(3, rcv 5 4 C_X5_leastStepFrom)]
theorem e_X5_goTheWay (o : OM) : Ev o Y_X5_goTheWay 4 T_X5_goTheWay A_X5_goTheWay := ⟨rfl, List.forall_mem_cons.mpr ⟨Or.inl f_X5_58, List.forall_mem_cons.mpr ⟨Or.inl f_X5_55, List.forall_mem_cons.mpr ⟨Or.inl f_X5_64, List.forall_mem_cons.mpr ⟨Or.inl f_X5_61, fun _ h => absurd h List.not_mem_nil⟩⟩⟩⟩, fun _ h => absurd h List.not_mem_nil, fun _ h => absurd h List.not_mem_nil, List.forall_mem_cons.mpr ⟨ref_st w_712 (by decide) (by decide) (fun s h => h.2.2.2.1.2.2.1.1), List.forall_mem_cons.mpr ⟨ref_st w_714 (by decide) (by decide) (fun s h => h.2.2.2.1.2.2.2.1), fun _ h => absurd h List.not_mem_nil⟩⟩, List.forall_mem_cons.mpr ⟨cl_X5_leastStepFrom (s_X5_leastStepFrom o) (by decide) (Or.inl w_755), fun _ h => absurd h List.not_mem_nil⟩, fun _ h => absurd h List.not_mem_nil⟩
def C_X5_goTheWay : Ctr := fun A σ κ => match A with
  | [.inr (.inr (.inl 9))] => (PrI σ ∧ TabC σ) ∧ ∀ (τ : Sto) (K : Nat), offW σ τ → τ 9 17 = K → K ≤ 32 → fsC σ (pth (fsC σ) K).1 (pth (fsC σ) K).2 = -1 → pth (fsC σ) K = (σ 9 6, σ 9 7) → WayR (fsC σ) K (τ 45) (τ 46) (τ 47) → κ [] τ
  | _ => False
set_option maxRecDepth 20000 in
theorem s_X5_goTheWay (o : OM) : Sound o Y_X5_goTheWay 4 C_X5_goTheWay := by
  intro Q A σ hA hC
  match A, hA, hC with
  | [.inr (.inr (.inl 9))], hA, hC =>
    obtain ⟨h0, hq⟩ : (PrI σ ∧ TabC σ) ∧ ∀ (τ : Sto) (K : Nat), offW σ τ → τ 9 17 = K → K ≤ 32 → fsC σ (pth (fsC σ) K).1 (pth (fsC σ) K).2 = -1 → pth (fsC σ) K = (σ 9 6, σ 9 7) → WayR (fsC σ) K (τ 45) (τ 46) (τ 47) → Q [] τ := hC
    obtain ⟨hP, hT⟩ := h0
    obtain ⟨hn1, hn2, -⟩ := id hP
    refine at_meth (lv := V_X5_goTheWay) (B := B_X5_goTheWay) (e_X5_goTheWay o) k_X5_goTheWay 5 [(11, fun m S L τ => ∃ k : Nat, S = [] ∧ L = [vR 9, vI (pth (fsC σ) k).1, vI (pth (fsC σ) k).2, vI k] ∧ offW σ τ ∧ τ 9 17 = k ∧ k ≤ 32 ∧ WayR (fsC σ) k (τ 45) (τ 46) (τ 47) ∧ (0 ≤ (pth (fsC σ) k).1 ∧ (pth (fsC σ) k).1 ≤ σ 9 6) ∧ (0 ≤ (pth (fsC σ) k).2 ∧ (pth (fsC σ) k).2 ≤ σ 9 7) ∧ k ≤ (pth (fsC σ) k).1 + (pth (fsC σ) k).2 ∧ m = (33 - k) * 10),
      (56, fun m S L τ => ∃ (k : Nat) (s x : Int), S = [] ∧ L = [vR 9, vI (pth (fsC σ) k).1, vI (pth (fsC σ) k).2, vI k, vI s, vI x] ∧ offW σ τ ∧ τ 9 17 = k + 1 ∧ k < 32 ∧ WayR (fsC σ) k (τ 45) (τ 46) (τ 47) ∧ (0 ≤ (pth (fsC σ) k).1 ∧ (pth (fsC σ) k).1 ≤ σ 9 6) ∧ (0 ≤ (pth (fsC σ) k).2 ∧ (pth (fsC σ) k).2 ≤ σ 9 7) ∧ k ≤ (pth (fsC σ) k).1 + (pth (fsC σ) k).2 ∧ s = fsC σ (pth (fsC σ) k).1 (pth (fsC σ) k).2 ∧ (0 ≤ s ∧ s < 5) ∧ (pth (fsC σ) k).1 + o1 s ≤ σ 9 6 ∧ (pth (fsC σ) k).2 + o2 s ≤ σ 9 7 ∧ τ 45 k = s ∧ ((pth (fsC σ) k).1 ≤ x ∧ x ≤ (pth (fsC σ) k).1 + o1 s) ∧ (∀ y, (pth (fsC σ) k).1 ≤ y → y < x → τ 47 y = s ∧ τ 46 y = if o2 s = 0 then -1 else (pth (fsC σ) k).2) ∧ m = (32 - k) * 10 + ((pth (fsC σ) k).1 + o1 s - x).toNat + 1)] (List.forall_mem_cons.mpr ⟨?_, List.forall_mem_cons.mpr ⟨?_, fun _ h => absurd h List.not_mem_nil⟩⟩) 0 [] _ σ ?_
    · rintro m S L τ ⟨k, rfl, rfl, ho, h17, hk, hW, hi, hj, hsum, hm⟩
      simp only [sq_iconst, sq_jsr, sq_anewarray, sq_iload, sq_lload, sq_aload, sq_istore, sq_lstore, sq_astore, sq_iinc, sq_getfield, st_put0, st_put1, st_put3, sq_inv, sq_goto, sq_icmp, sq_ifc, sq_tsw, sq_iadd, sq_isub, sq_imul, sq_ineg, sq_idiv, sq_irem, sq_iand, sq_ior, sq_ixor, sq_ishl, sq_ishr, sq_iushr, sq_ladd, sq_lmul, sq_ldiv, sq_lrem, sq_land, sq_lor, sq_lshl, sq_lushr, sq_lcmp, sq_i2l, sq_l2i, sq_i2c, sq_i2b, sq_dupI, sq_dupR, sq_dup2, sq_pop, sq_iaload, sq_baload, sq_aaload, sq_iastore, sq_bastore, sq_alen, sq_ireturn, sq_lreturn, sq_return, wq_c, wq_n, wlq_s, lkp, tbl, dBk, nth, setL, canSet, cmpI, tk, swK, rdF, entL, catS, cat1, arg, rcv, ald, bld, aln, br, Ccopy, Cmax, Cmin, Cabs, List.take, List.drop, List.reverse, List.reverseAux, List.length, List.append, List.nil_append, List.cons_append, true_and, and_true, and_self, forall_const, true_implies, false_implies, not_true_eq_false, not_false_eq_true, Option.map, reduceCtorEq, reduceIte, or_true, true_or, false_or, or_false, false_and, and_false, List.map, List.append_nil, implies_true, yK, Nat.reduceBEq, beq_self_eq_true, Int.zero_ne_one, Nat.reduceDiv, Nat.reduceMod, Nat.reduceAdd, Nat.reduceSub, Nat.reduceMul, Nat.reduceEqDiff, Nat.reduceLeDiff, Int.reduceToNat, Int.reduceNeg, Int.reduceEq, Int.reduceLT, Int.reduceLE, Int.reduceNatCast, Int.reduceNatCast', Int.reduceAdd, Int.reduceSub, Int.reduceMul, eq_self, Prod.mk.injEq, A_X5_goTheWay, V_X5_goTheWay, B_X5_goTheWay, Y_X5_goTheWay, C_X5_leastStepFrom, shpT, rfsT, wjq_s, look]
      have hP2 : PrI τ := by
        unfold PrI at *
        rw [ho.2 6 (by decide), ho.2 7 (by decide), ho.2 8 (by decide), ho.2 9 (by decide), ho.2 10 (by decide), ho.2 11 (by decide), ho.1 39 (by decide) (by decide), ho.1 40 (by decide) (by decide), ho.1 41 (by decide) (by decide), ho.1 42 (by decide) (by decide)]
        exact hP
      have hfs := fsC_congr ho.2 (fun q a b => ho.1 q (by omega) (by omega))
      have hT2 : TabC τ := TabC_congr ho.2 (fun q a b => ho.1 q (by omega) (by omega)) hT
      have hcs := fsC_in hP hT hi hj
      have hend : fsC σ (pth (fsC σ) k).1 (pth (fsC σ) k).2 = -1 → (pth (fsC σ) k).1 = σ 9 6 → (pth (fsC σ) k).2 = σ 9 7 → Q [] τ := fun h1 h2 h3 => hq τ k ho h17 hk h1 (by rw [← h2, ← h3]) hW
      rw [hfs, ho.2 6 (by decide), ho.2 7 (by decide)]
      refine ⟨fun h1 => ?_, fun h1 => ⟨⟨hP2, hT2, hi, hj⟩, fun h2 => ?_, fun h2 => ?_⟩⟩
      · rcases hcs with ⟨a, b, c⟩ | ⟨a, b, c, d⟩
        · exact hend a b c
        · have := o_in ⟨a, b⟩
          omega
      · rcases hcs with ⟨a, b, c⟩ | ⟨a, b, c, d⟩
        · exact absurd a h2
        · generalize hs : fsC σ (pth (fsC σ) k).1 (pth (fsC σ) k).2 = s at *
          have hoo := o_in ⟨a, b⟩
          refine ⟨by omega, by rw [su_r (by decide)]; exact ⟨by omega, by omega⟩, _, ?_, k, s, (pth (fsC σ) k).1, rfl, ⟨fun q g1 g2 => by rw [su_r g1, su_r (by omega)]; exact ho.1 q g1 g2, fun x hx => by rw [su_at, if_neg hx, su_r (by decide)]; exact ho.2 x hx⟩, by rw [su_at, if_pos rfl, su_r (by decide), h17], by omega, ?_, hi, hj, hsum, hs.symm, ⟨a, b⟩, c, d, by rw [su_r (by decide), su_at, if_pos h17.symm], ⟨by omega, by omega⟩, fun y g1 g2 => by omega, rfl⟩
          · omega
          · intro k2 hk2
            obtain ⟨w1, w2, w3⟩ := hW k2 hk2
            refine ⟨w1, ?_, ?_⟩
            · rw [su_r (by decide), su_at, if_neg (by omega)]; exact w2
            · rw [su_r (by decide), su_r (by decide), su_r (by decide), su_r (by decide)]; exact w3
      · rcases hcs with ⟨a, b, c⟩ | ⟨a, b, c, d⟩
        · exact hend a b c
        · omega
    · rintro m S L τ ⟨k, s, x, rfl, rfl, ho, h17, hk, hW, hi, hj, hsum, hs, hs5, hi2, hj2, hw, hx, hl, hm⟩
      simp only [sq_iconst, sq_jsr, sq_anewarray, sq_iload, sq_lload, sq_aload, sq_istore, sq_lstore, sq_astore, sq_iinc, sq_getfield, st_put0, st_put1, st_put3, sq_inv, sq_goto, sq_icmp, sq_ifc, sq_tsw, sq_iadd, sq_isub, sq_imul, sq_ineg, sq_idiv, sq_irem, sq_iand, sq_ior, sq_ixor, sq_ishl, sq_ishr, sq_iushr, sq_ladd, sq_lmul, sq_ldiv, sq_lrem, sq_land, sq_lor, sq_lshl, sq_lushr, sq_lcmp, sq_i2l, sq_l2i, sq_i2c, sq_i2b, sq_dupI, sq_dupR, sq_dup2, sq_pop, sq_iaload, sq_baload, sq_aaload, sq_iastore, sq_bastore, sq_alen, sq_ireturn, sq_lreturn, sq_return, wq_c, wq_n, wlq_s, lkp, tbl, dBk, nth, setL, canSet, cmpI, tk, swK, rdF, entL, catS, cat1, arg, rcv, ald, bld, aln, br, Ccopy, Cmax, Cmin, Cabs, List.take, List.drop, List.reverse, List.reverseAux, List.length, List.append, List.nil_append, List.cons_append, true_and, and_true, and_self, forall_const, true_implies, false_implies, not_true_eq_false, not_false_eq_true, Option.map, reduceCtorEq, reduceIte, or_true, true_or, false_or, or_false, false_and, and_false, List.map, List.append_nil, implies_true, yK, Nat.reduceBEq, beq_self_eq_true, Int.zero_ne_one, Nat.reduceDiv, Nat.reduceMod, Nat.reduceAdd, Nat.reduceSub, Nat.reduceMul, Nat.reduceEqDiff, Nat.reduceLeDiff, Int.reduceToNat, Int.reduceNeg, Int.reduceEq, Int.reduceLT, Int.reduceLE, Int.reduceNatCast, Int.reduceNatCast', Int.reduceAdd, Int.reduceSub, Int.reduceMul, eq_self, Prod.mk.injEq, A_X5_goTheWay, V_X5_goTheWay, B_X5_goTheWay, Y_X5_goTheWay, C_X5_leastStepFrom, shpT, rfsT, wjq_s, look, stc, o1_get, o2_get]
      have hoo := o_in hs5
      have hne : ¬ fsC σ (pth (fsC σ) k).1 (pth (fsC σ) k).2 = -1 := by rw [← hs]; omega
      have hps := pth_s hne
      rw [← hs] at hps
      have nx : ∀ v, v = (if o2 s = 0 then -1 else (pth (fsC σ) k).2) → x < (pth (fsC σ) k).1 + o1 s → i32 (x + 1) ∧ ∃ m_1, m_1 < m ∧ ∃ (k_1 : Nat) (s_1 x_1 : Int), [vR 9, vI (pth (fsC σ) k).1, vI (pth (fsC σ) k).2, vI k, vI s, vI (x + 1)] = [vR 9, vI (pth (fsC σ) k_1).1, vI (pth (fsC σ) k_1).2, vI k_1, vI s_1, vI x_1] ∧ offW σ (su (su τ 47 x s) 46 x v) ∧ su (su τ 47 x s) 46 x v 9 17 = k_1 + 1 ∧ k_1 < 32 ∧ WayR (fsC σ) k_1 (su (su τ 47 x s) 46 x v 45) (su (su τ 47 x s) 46 x v 46) (su (su τ 47 x s) 46 x v 47) ∧ (0 ≤ (pth (fsC σ) k_1).1 ∧ (pth (fsC σ) k_1).1 ≤ σ 9 6) ∧ (0 ≤ (pth (fsC σ) k_1).2 ∧ (pth (fsC σ) k_1).2 ≤ σ 9 7) ∧ k_1 ≤ (pth (fsC σ) k_1).1 + (pth (fsC σ) k_1).2 ∧ s_1 = fsC σ (pth (fsC σ) k_1).1 (pth (fsC σ) k_1).2 ∧ (0 ≤ s_1 ∧ s_1 < 5) ∧ (pth (fsC σ) k_1).1 + o1 s_1 ≤ σ 9 6 ∧ (pth (fsC σ) k_1).2 + o2 s_1 ≤ σ 9 7 ∧ su (su τ 47 x s) 46 x v 45 k_1 = s_1 ∧ ((pth (fsC σ) k_1).1 ≤ x_1 ∧ x_1 ≤ (pth (fsC σ) k_1).1 + o1 s_1) ∧ (∀ y, (pth (fsC σ) k_1).1 ≤ y → y < x_1 → su (su τ 47 x s) 46 x v 47 y = s_1 ∧ su (su τ 47 x s) 46 x v 46 y = if o2 s_1 = 0 then -1 else (pth (fsC σ) k_1).2) ∧ m_1 = (32 - k_1) * 10 + ((pth (fsC σ) k_1).1 + o1 s_1 - x_1).toNat + 1 := by
        intro v hv hlt
        have hmono : ∀ k2 : Nat, k2 < k → (pth (fsC σ) (k2 + 1)).1 ≤ (pth (fsC σ) k).1 := by
          have step : ∀ n : Nat, n < k → (pth (fsC σ) n).1 ≤ (pth (fsC σ) (n + 1)).1 := by
            intro n hn
            obtain ⟨w1, -, -⟩ := hW n hn
            rw [pth_s w1]
            have hr : ∀ z : Int, 0 ≤ o1 z := by
              intro z
              unfold o1
              rw [List.getD_eq_getElem?_getD]
              rcases hz : z.toNat with _ | _ | _ | _ | _ | n <;> simp
            have := hr (fsC σ (pth (fsC σ) n).1 (pth (fsC σ) n).2)
            show (pth (fsC σ) n).1 ≤ (pth (fsC σ) n).1 + _
            omega
          have up : ∀ (d n : Nat), n + d ≤ k → (pth (fsC σ) n).1 ≤ (pth (fsC σ) (n + d)).1 := by
            intro d
            induction d with
            | zero => intro n _; exact Int.le_refl _
            | succ d ih => intro n hn; exact Int.le_trans (ih n (by omega)) (step (n + d) (by omega))
          intro k2 hk2
          have := up (k - (k2 + 1)) (k2 + 1) (by omega)
          rwa [show k2 + 1 + (k - (k2 + 1)) = k by omega] at this
        refine ⟨⟨by omega, by omega⟩, _, ?_, k, s, x + 1, rfl, ⟨fun q g1 g2 => by rw [su_r (by omega), su_r (by omega)]; exact ho.1 q g1 g2, fun y hy => by rw [su_r (by decide), su_r (by decide)]; exact ho.2 y hy⟩, by rw [su_r (by decide), su_r (by decide)]; exact h17, hk, ?_, hi, hj, hsum, hs, hs5, hi2, hj2, by rw [su_r (by decide), su_r (by decide)]; exact hw, ⟨by omega, by omega⟩, fun y g1 g2 => ?_, rfl⟩
        · omega
        · intro k2 hk2
          obtain ⟨w1, w2, w3⟩ := hW k2 hk2
          refine ⟨w1, by rw [su_r (by decide), su_r (by decide)]; exact w2, fun y g1 g2 => ?_⟩
          have hlt2 := hmono k2 hk2
          rw [su_r (by decide), su_at, if_neg (by omega), su_at, if_neg (by omega), su_r (by decide)]
          exact w3 y g1 g2
        · rw [su_r (by decide), su_at, su_at]
          by_cases hy : y = x
          · rw [if_pos hy, if_pos hy]
            exact ⟨rfl, hv⟩
          · rw [if_neg hy, if_neg hy, su_r (by decide)]
            exact hl y g1 (by omega)
      refine ⟨hs5, ⟨by omega, by omega⟩, fun h1 => ⟨hs5, ⟨by omega, by omega⟩, hs5, ⟨by omega, by omega⟩, ⟨by omega, by omega⟩, _, ?_, k + 1, by rw [hps]; rfl, ho, by rw [h17]; rfl, by omega, ?_, by rw [hps]; exact ⟨by show 0 ≤ (pth (fsC σ) k).1 + o1 s; omega, hi2⟩, by rw [hps]; exact ⟨by show 0 ≤ (pth (fsC σ) k).2 + o2 s; omega, hj2⟩, by rw [hps]; show ((k + 1 : Nat) : Int) ≤ (pth (fsC σ) k).1 + o1 s + ((pth (fsC σ) k).2 + o2 s); omega, rfl⟩, fun h1 => ⟨by omega, hs5, fun h2 => ⟨by omega, nx _ (by rw [if_neg h2]) (by omega)⟩, fun h2 => ⟨by omega, nx _ (by rw [if_pos (by omega)]) (by omega)⟩⟩⟩
      · omega
      · intro k2 hk2
        by_cases hkk : k2 = k
        · subst hkk
          refine ⟨hne, by rw [hw, hs], fun y g1 g2 => ?_⟩
          rw [← hs]
          rw [hps] at g2
          have g2 : y < (pth (fsC σ) k2).1 + o1 s := g2
          exact hl y g1 (by omega)
        · exact hW k2 (by omega)
    · simp only [sq_iconst, sq_jsr, sq_anewarray, sq_iload, sq_lload, sq_aload, sq_istore, sq_lstore, sq_astore, sq_iinc, sq_getfield, st_put0, st_put1, st_put3, sq_inv, sq_goto, sq_icmp, sq_ifc, sq_tsw, sq_iadd, sq_isub, sq_imul, sq_ineg, sq_idiv, sq_irem, sq_iand, sq_ior, sq_ixor, sq_ishl, sq_ishr, sq_iushr, sq_ladd, sq_lmul, sq_ldiv, sq_lrem, sq_land, sq_lor, sq_lshl, sq_lushr, sq_lcmp, sq_i2l, sq_l2i, sq_i2c, sq_i2b, sq_dupI, sq_dupR, sq_dup2, sq_pop, sq_iaload, sq_baload, sq_aaload, sq_iastore, sq_bastore, sq_alen, sq_ireturn, sq_lreturn, sq_return, wq_c, wq_n, wlq_s, lkp, tbl, dBk, nth, setL, canSet, cmpI, tk, swK, rdF, entL, catS, cat1, arg, rcv, ald, bld, aln, br, Ccopy, Cmax, Cmin, Cabs, List.take, List.drop, List.reverse, List.reverseAux, List.length, List.append, List.nil_append, List.cons_append, true_and, and_true, and_self, forall_const, true_implies, false_implies, not_true_eq_false, not_false_eq_true, Option.map, reduceCtorEq, reduceIte, or_true, true_or, false_or, or_false, false_and, and_false, List.map, List.append_nil, implies_true, yK, Nat.reduceBEq, beq_self_eq_true, Int.zero_ne_one, Nat.reduceDiv, Nat.reduceMod, Nat.reduceAdd, Nat.reduceSub, Nat.reduceMul, Nat.reduceEqDiff, Nat.reduceLeDiff, Int.reduceToNat, Int.reduceNeg, Int.reduceEq, Int.reduceLT, Int.reduceLE, Int.reduceNatCast, Int.reduceNatCast', Int.reduceAdd, Int.reduceSub, Int.reduceMul, eq_self, Prod.mk.injEq, A_X5_goTheWay, V_X5_goTheWay, B_X5_goTheWay, Y_X5_goTheWay, C_X5_leastStepFrom, shpT, rfsT, wjq_s, look]
      exact ⟨_, 0, rfl, ⟨fun q g1 g2 => by rw [su_r g1], fun x hx => by rw [su_at, if_neg hx]⟩, by rw [su_at, if_pos rfl]; rfl, by omega, fun k2 hk2 => by omega, ⟨by show (0 : Int) ≤ 0; omega, by show (0 : Int) ≤ _; omega⟩, ⟨by show (0 : Int) ≤ 0; omega, by show (0 : Int) ≤ _; omega⟩, by show (0 : Int) ≤ 0 + 0; omega, rfl⟩

