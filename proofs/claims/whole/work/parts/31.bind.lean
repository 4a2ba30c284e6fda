-- ===== bind of the class =====
def og (g : Int → Int) : Int → Int → OI := fun i j => if g (i * 8 + j) = 1000000000 then none else some (g (i * 8 + j))
/-- the grid is the closure of the edges E, all of them small -/
def NetC (E : Int → Int → Int → Prop) (g : Int → Int) : Prop := Clo E (og g) ∧ (∃ m0, Start E m0 ∧ inW m0 100000) ∧ ∀ a b c, E a b c → nd a ∧ nd b
theorem NetC_in {E : Int → Int → Int → Prop} {g : Int → Int} (h : NetC E g) : gIn g := by
  obtain ⟨h1, ⟨m0, h2, h3⟩, -⟩ := h
  intro i j a b
  by_cases hz : g (i * 8 + j) = 1000000000
  · exact Or.inl hz
  · have := Clo_in h2 (by omega) h3 h1 i j (g (i * 8 + j)) a b (if_neg hz)
    omega
theorem og_nb {g g' : Int → Int} {f t w : Int} (hg : gIn g) (hf : nd f) (ht : nd t) (hw : -1000000 ≤ w ∧ w ≤ 1000000) (h : ∀ i j, nd i → nd j → g' (i * 8 + j) = nbI g f t w i j) : ∀ i j, nd i → nd j → og g' i j = nb (og g) f t w i j := by
  intro i j a b
  have g1 := hg i f a hf
  have g2 := hg t j ht b
  have g3 := hg i j a b
  show (if g' (i * 8 + j) = 1000000000 then none else some (g' (i * 8 + j))) = omin (if g (i * 8 + j) = 1000000000 then none else some (g (i * 8 + j))) (oad (oad (if g (i * 8 + f) = 1000000000 then none else some (g (i * 8 + f))) (some w)) (if g (t * 8 + j) = 1000000000 then none else some (g (t * 8 + j))))
  have hv : nbI g f t w i j = if ¬ g (i * 8 + f) = 1000000000 ∧ ¬ g (t * 8 + j) = 1000000000 ∧ g (i * 8 + f) + w + g (t * 8 + j) < g (i * 8 + j) then g (i * 8 + f) + w + g (t * 8 + j) else g (i * 8 + j) := rfl
  rw [h i j a b]
  generalize nbI g f t w i j = v at *
  generalize g (i * 8 + f) = x at *
  generalize g (t * 8 + j) = y at *
  generalize g (i * 8 + j) = z at *
  by_cases hx : x = 1000000000
  · rw [if_neg (fun q => q.1 hx)] at hv
    rw [hv, if_pos hx]
    split <;> rfl
  · by_cases hy : y = 1000000000
    · rw [if_neg (fun q => q.2.1 hy)] at hv
      rw [hv, if_neg hx, if_pos hy]
      split <;> rfl
    · rw [if_neg hx, if_neg hy]
      by_cases hl : x + w + y < z
      · rw [if_pos ⟨hx, hy, hl⟩] at hv
        rw [hv, if_neg (by omega)]
        by_cases hz : z = 1000000000
        · rw [if_pos hz]
          rfl
        · rw [if_neg hz]
          simp only [oad, omin]
          congr 1
          omega
      · rw [if_neg (fun q => hl q.2.2)] at hv
        have hz : ¬ z = 1000000000 := by omega
        rw [hv, if_neg hz]
        simp only [oad, omin]
        congr 1
        omega
theorem inW_add1 {m0 : Int → Int → OI} {f t w W : Int} (h : inW m0 W) (hw : -W ≤ w ∧ w ≤ W) : inW (fun i j => if i = f ∧ j = t then omin (m0 i j) (some w) else m0 i j) W := by
  intro i j x hx
  have hh := h i j
  have hx : (if i = f ∧ j = t then omin (m0 i j) (some w) else m0 i j) = some x := hx
  split at hx
  · generalize m0 i j = y at *
    cases y
    · simp only [omin, Option.some.injEq] at hx
      omega
    · simp only [omin, Option.some.injEq] at hx
      have := hh _ rfl
      omega
  · exact hh x hx
theorem Net_edge {E : Int → Int → Int → Prop} {f t w : Int} (hE : (∃ m0, Start E m0 ∧ inW m0 100000) ∧ ∀ a b c, E a b c → nd a ∧ nd b) (hf : nd f) (ht : nd t) (hw : -100000 ≤ w ∧ w ≤ 100000) : (∃ m0, Start (add1 E f t w) m0 ∧ inW m0 100000) ∧ ∀ a b c, add1 E f t w a b c → nd a ∧ nd b := by
  obtain ⟨⟨m0, h1, h2⟩, h3⟩ := hE
  refine ⟨⟨_, Start_add1 h1, inW_add1 h2 hw⟩, fun a b c h => ?_⟩
  rcases h with h | ⟨rfl, rfl, rfl⟩
  · exact h3 a b c h
  · exact ⟨hf, ht⟩
theorem NetC_keep {E : Int → Int → Int → Prop} {f t w : Int} {g : Int → Int} (h : NetC E g) (hf : nd f) (ht : nd t) (hw : -100000 ≤ w ∧ w ≤ 100000) (hl : g (f * 8 + t) ≤ w) : NetC (add1 E f t w) g := by
  refine ⟨Clo_keep h.1 ?_, Net_edge h.2 hf ht hw⟩
  unfold og
  rw [if_neg (by omega)]
  exact hl
theorem NetC_none {E : Int → Int → Int → Prop} {f t w : Int} {g : Int → Int} (h : NetC E g) (hf : nd f) (ht : nd t) (hw : -100000 ≤ w ∧ w ≤ 100000) (hl : g (t * 8 + f) + w < 0) : ∀ M, ¬ Sat (add1 E f t w) M :=
  Clo_none h.1 hf ht (x := g (t * 8 + f)) (if_neg (by omega)) hl
theorem NetC_step {E : Int → Int → Int → Prop} {f t w : Int} {g g' : Int → Int} (h : NetC E g) (hf : nd f) (ht : nd t) (hw : -100000 ≤ w ∧ w ≤ 100000) (hl : 0 ≤ g (t * 8 + f) + w) (hg : ∀ i j, nd i → nd j → g' (i * 8 + j) = nbI g f t w i j) : NetC (add1 E f t w) g' := by
  refine ⟨Clo_step h.1 h.2.2 hf ht ?_ (og_nb (NetC_in h) hf ht (by omega) hg), Net_edge h.2 hf ht hw⟩
  intro x hx
  unfold og at hx
  split at hx
  · exact absurd hx (by simp)
  · simp only [Option.some.injEq] at hx
    omega
def add2 (E : Int → Int → Int → Prop) (a b lo hi : Int) : Int → Int → Int → Prop := add1 (add1 E a b hi) b a (-lo)
def A_X3_bind : List (Nat × Ctr) := [(4, arg 8 C_X3_bound)]
theorem e_X3_bind (o : OM) : Ev o Y_X3_bind 1 T_X3_bind A_X3_bind := ⟨rfl, fun _ h => absurd h List.not_mem_nil, fun _ h => absurd h List.not_mem_nil, fun _ h => absurd h List.not_mem_nil, fun _ h => absurd h List.not_mem_nil, fun _ h => absurd h List.not_mem_nil, List.forall_mem_cons.mpr ⟨cl_X3_bound (s_X3_bound o) (by decide) (Or.inl w_861), fun _ h => absurd h List.not_mem_nil⟩⟩
def C_X3_bind : Ctr := fun A σ κ => match A with
  | [.inr (.inr (.inl q)), .inl a, .inl b, .inl lo, .inl hi] => (shp q = (0, 64) ∧ nd a ∧ nd b ∧ (-100000 ≤ lo ∧ lo ≤ 100000) ∧ (-100000 ≤ hi ∧ hi ≤ 100000)) ∧ ∃ E : Int → Int → Int → Prop, NetC E (σ q) ∧ (∀ τ : Sto, (∀ p : Nat, p ≠ q → τ p = σ p) → NetC (add2 E a b lo hi) (τ q) → κ [vI 1] τ) ∧ (∀ τ : Sto, (∀ p : Nat, p ≠ q → τ p = σ p) → (∀ M, ¬ Sat (add2 E a b lo hi) M) → κ [vI 0] τ)
  | _ => False
set_option maxRecDepth 20000 in
theorem s_X3_bind (o : OM) : Sound o Y_X3_bind 1 C_X3_bind := by
  intro Q A σ hA hC
  match A, hA, hC with
  | [.inr (.inr (.inl q)), .inl a, .inl b, .inl lo, .inl hi], hA, hC =>
    obtain ⟨h0, hq⟩ : (shp q = (0, 64) ∧ nd a ∧ nd b ∧ (-100000 ≤ lo ∧ lo ≤ 100000) ∧ (-100000 ≤ hi ∧ hi ≤ 100000)) ∧ ∃ E : Int → Int → Int → Prop, NetC E (σ q) ∧ (∀ τ : Sto, (∀ p : Nat, p ≠ q → τ p = σ p) → NetC (add2 E a b lo hi) (τ q) → Q [vI 1] τ) ∧ (∀ τ : Sto, (∀ p : Nat, p ≠ q → τ p = σ p) → (∀ M, ¬ Sat (add2 E a b lo hi) M) → Q [vI 0] τ) := hC
    refine at_wpl (lv := V_X3_bind) (B := B_X3_bind) (e_X3_bind o) k_X3_bind 3 0 [] _ σ ?_
    simp only [sq_iconst, sq_jsr, sq_anewarray, sq_iload, sq_lload, sq_aload, sq_istore, sq_lstore, sq_astore, sq_iinc, sq_getfield, st_put0, st_put1, st_put3, sq_inv, sq_goto, sq_icmp, sq_ifc, sq_tsw, sq_iadd, sq_isub, sq_imul, sq_ineg, sq_idiv, sq_irem, sq_iand, sq_ior, sq_ixor, sq_ishl, sq_ishr, sq_iushr, sq_ladd, sq_lmul, sq_ldiv, sq_lrem, sq_land, sq_lor, sq_lshl, sq_lushr, sq_lcmp, sq_i2l, sq_l2i, sq_i2c, sq_i2b, sq_dupI, sq_dupR, sq_dup2, sq_pop, sq_iaload, sq_baload, sq_aaload, sq_iastore, sq_bastore, sq_alen, sq_ireturn, sq_lreturn, sq_return, wq_c, wq_n, wlq_s, lkp, tbl, dBk, nth, setL, canSet, cmpI, tk, swK, rdF, entL, catS, cat1, arg, rcv, ald, bld, aln, br, Ccopy, Cmax, Cmin, Cabs, List.take, List.drop, List.reverse, List.reverseAux, List.length, List.append, List.nil_append, List.cons_append, true_and, and_true, and_self, forall_const, true_implies, false_implies, not_true_eq_false, not_false_eq_true, Option.map, reduceCtorEq, reduceIte, or_true, true_or, false_or, or_false, false_and, and_false, List.map, List.append_nil, implies_true, yK, Nat.reduceBEq, beq_self_eq_true, Int.zero_ne_one, Nat.reduceDiv, Nat.reduceMod, Nat.reduceAdd, Nat.reduceSub, Nat.reduceMul, Nat.reduceEqDiff, Nat.reduceLeDiff, Int.reduceToNat, Int.reduceNeg, Int.reduceEq, Int.reduceLT, Int.reduceLE, Int.reduceNatCast, Int.reduceNatCast', Int.reduceAdd, Int.reduceSub, Int.reduceMul, eq_self, Prod.mk.injEq, A_X3_bind, V_X3_bind, B_X3_bind, Y_X3_bind, C_X3_bound, shpT, rfsT]
    obtain ⟨hs, ha, hb, hlo, hhi⟩ := h0
    obtain ⟨E, hN, hq1, hq2⟩ := hq
    have hl : -100000 ≤ -lo ∧ -lo ≤ 100000 := by omega
    have nx : ∀ τ : Sto, (∀ p : Nat, p ≠ q → τ p = σ p) → NetC (add1 E a b hi) (τ q) → i32 (-lo) ∧ (shp q = (0, 64) ∧ nd b ∧ nd a ∧ (-1000000 ≤ -lo ∧ -lo ≤ 1000000) ∧ gIn (τ q)) ∧ (τ q (b * 8 + a) ≤ -lo → Q [vI 1] τ) ∧ (-lo < τ q (b * 8 + a) → τ q (a * 8 + b) + -lo < 0 → Q [vI 0] τ) ∧ (-lo < τ q (b * 8 + a) → 0 ≤ τ q (a * 8 + b) + -lo → ∀ τ' : Sto, (∀ p : Nat, p ≠ q → τ' p = τ p) → (∀ i j, nd i → nd j → τ' q (i * 8 + j) = nbI (τ q) b a (-lo) i j) → Q [vI 1] τ') := by
      intro τ he hN1
      exact ⟨⟨by omega, by omega⟩, ⟨hs, hb, ha, ⟨by omega, by omega⟩, NetC_in hN1⟩, fun h => hq1 τ he (NetC_keep hN1 hb ha hl h), fun _ h => hq2 τ he (NetC_none hN1 hb ha hl h), fun _ h τ' he' h' => hq1 τ' (fun p hp => by rw [he' p hp, he p hp]) (NetC_step hN1 hb ha hl h h')⟩
    refine ⟨⟨hs, ha, hb, ⟨by omega, by omega⟩, NetC_in hN⟩, fun h => nx σ (fun _ _ => rfl) (NetC_keep hN ha hb hhi h), fun _ h => hq2 σ (fun _ _ => rfl) (fun M hM => NetC_none hN ha hb hhi h M (Sat_add1.mp hM).1), fun _ h τ he h' => nx τ he (NetC_step hN ha hb hhi h h')⟩

