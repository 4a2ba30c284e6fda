-- ===== where to dig: the reference =====
theorem leG_2 {g g' : Int → Int} {a b lo hi : Int} {M : Mx} (ha : nd a) (hb : nd b) (hab : ¬ a = b) (hh : hi < 10000000) (hl : -lo < 10000000) (hr : ∀ i j, nd i → nd j → g (i * 8 + j) ≤ 10000000) (h1 : ∀ i j, nd i → nd j → g' (i * 8 + j) = if i = b ∧ j = a then (if -lo < g (b * 8 + a) then -lo else g (b * 8 + a)) else if i = a ∧ j = b then (if hi < g (a * 8 + b) then hi else g (a * 8 + b)) else g (i * 8 + j)) : leG g' M ↔ leG g M ∧ ole (M a b) (some hi) ∧ ole (M b a) (some (-lo)) := by
  let g1 : Int → Int := fun x => if x = a * 8 + b then (if hi < g (a * 8 + b) then hi else g (a * 8 + b)) else g x
  have k1 : ∀ i j, nd i → nd j → g1 (i * 8 + j) = if i = a ∧ j = b then (if hi < g (a * 8 + b) then hi else g (a * 8 + b)) else g (i * 8 + j) := by
    intro i j c d
    unfold nd at c d ha hb
    show (if i * 8 + j = a * 8 + b then _ else _) = _
    by_cases n : i = a ∧ j = b
    · rw [if_pos n, if_pos (by omega)]
    · rw [if_neg n, if_neg (by omega)]
  have k2 : ∀ i j, nd i → nd j → g' (i * 8 + j) = if i = b ∧ j = a then (if -lo < g1 (b * 8 + a) then -lo else g1 (b * 8 + a)) else g1 (i * 8 + j) := by
    intro i j c d
    rw [h1 i j c d, k1 b a hb ha, if_neg (show ¬ (b = a ∧ a = b) by omega), k1 i j c d]
  rw [leG_u hb ha hl (fun i j c d => by rw [k1 i j c d]; have q := hr i j c d; have q2 := hr a b ha hb; split <;> (try split) <;> omega) k2, leG_u ha hb hh hr k1, and_assoc]
theorem dig_close {K : Kn} {g g1 : Int → Int} {a b v : Int} (hC : CloK K (ogM g)) (hE : ∀ x y u v, K x y u v → nd x ∧ nd y) (hin : ∀ i j, nd i → nd j → g (i * 8 + j) = 10000000 ∨ (-4999999 ≤ g (i * 8 + j) ∧ g (i * 8 + j) ≤ 4999999)) (na : nd a) (nb : nd b) (hab : ¬ a = b) (f : ¬ g (a * 8 + b) = 10000000) (v1 : -(g (b * 8 + a)) ≤ v) (v2 : v ≤ g (a * 8 + b))
    (h1 : ∀ i j, nd i → nd j → g1 (i * 8 + j) = if i = b ∧ j = a then (if -v < g (b * 8 + a) then -v else g (b * 8 + a)) else if i = a ∧ j = b then (if v < g (a * 8 + b) then v else g (a * 8 + b)) else g (i * 8 + j)) :
    rIn g1 ∧ (∀ i j, nd i → nd j → ogM (rnK g1 8) i j = dgM (ogM g) a b v i j) ∧ (∀ i j, nd i → nd j → rnK g1 8 (i * 8 + j) = 10000000 ∨ (-4999999 ≤ rnK g1 8 (i * 8 + j) ∧ rnK g1 8 (i * 8 + j) ≤ 4999999)) := by
  have hS := CloK_sym hE hC
  have fab : ¬ ogM g a b = none := fun z => f (ogM_z.mp z)
  have fba : ¬ ogM g b a = none := fun z => fab (hS b a nb na z)
  have f2 : ¬ g (b * 8 + a) = 10000000 := fun z => fba (ogM_z.mpr z)
  have i1 := hin a b na nb
  have i2 := hin b a nb na
  have hD := dgM_Clo hC.1 na nb (ogM_s f) (ogM_s f2) v1 v2
  have le2 : ∀ M : Mx, leG g1 M ↔ leG g M ∧ ole (M a b) (some v) ∧ ole (M b a) (some (-v)) := fun M => leG_2 na nb hab (by omega) (by omega) (fun i j c d => by have := hin i j c d; omega) h1
  have dl : leG g1 (dgM (ogM g) a b v) := (le2 _).mpr ⟨hD.2.1, hD.2.2.1, hD.2.2.2.1⟩
  have gz : ∀ i, nd i → g (i * 8 + i) = 0 := by
    intro i c
    have := hC.1.1 i c
    by_cases z : g (i * 8 + i) = 10000000
    · rw [ogM_n z] at this; simp at this
    · rw [ogM_s z] at this; simpa using this
  have hz1 : ∀ i, nd i → g1 (i * 8 + i) = 0 := by
    intro i c
    rw [h1 i i c c, if_neg (by omega), if_neg (by omega)]
    exact gz i c
  have in1 : ∀ i j, nd i → nd j → (g1 (i * 8 + j) = 10000000 ∧ g (i * 8 + j) = 10000000) ∨ ((-4999999 ≤ g1 (i * 8 + j) ∧ g1 (i * 8 + j) ≤ 4999999) ∧ ¬ g (i * 8 + j) = 10000000) := by
    intro i j c d
    have q := hin i j c d
    rw [h1 i j c d]
    by_cases n : i = b ∧ j = a
    · rw [if_pos n]
      rw [n.1, n.2] at q ⊢
      split <;> omega
    · rw [if_neg n]
      by_cases n2 : i = a ∧ j = b
      · rw [if_pos n2]
        rw [n2.1, n2.2] at q ⊢
        split <;> omega
      · rw [if_neg n2]
        omega
  have hr : rIn g1 := fun i j c d => by have := in1 i j c d; omega
  have m0 : ∀ i j, nd i → nd j → (clp (ogM g1) i j = none ↔ ogM g i j = none) := by
    intro i j c d
    rw [clp_at c d, ogM_z, ogM_z]
    have := in1 i j c d
    omega
  have fin : ∀ n : Nat, n ≤ 8 → ∀ i j, nd i → nd j → fwN (clp (ogM g1)) n i j ≠ none → ogM g i j ≠ none := by
    intro n
    induction n with
    | zero => exact fun _ i j c d q z => q ((m0 i j c d).mpr z)
    | succ n ih =>
      intro hn i j c d q
      have q : omin (fwN (clp (ogM g1)) n i j) (oad (fwN (clp (ogM g1)) n i n) (fwN (clp (ogM g1)) n n j)) ≠ none := q
      have hk : nd (n : Int) := ⟨by omega, by omega⟩
      by_cases z : fwN (clp (ogM g1)) n i j = none
      · rw [z] at q
        have z1 : fwN (clp (ogM g1)) n i n ≠ none := fun e => by rw [e] at q; exact q rfl
        have z2 : fwN (clp (ogM g1)) n n j ≠ none := fun e => by rw [e] at q; cases h : fwN (clp (ogM g1)) n i n <;> rw [h] at q <;> exact q rfl
        exact fin_tr hC.1 c hk d (ih (by omega) i n c hk z1) (ih (by omega) n j hk d z2)
      · exact ih (by omega) i j c d z
  have hSat : Sat (EgM g1) (dgM (ogM g) a b v) := EgM_Sat.mpr ⟨hD.1, dl⟩
  have hB : ∀ n : Nat, n ≤ 8 → ∀ i j x, nd i → nd j → fwN (clp (ogM g1)) n i j = some x → -4999999 ≤ x ∧ x ≤ 4999999 := by
    intro n hn i j x c d hx
    have fi := fin n hn i j c d (by rw [hx]; simp)
    have fj : ¬ ogM g j i = none := fun z => fi (hS j i d c z)
    have up := fwN_le (m0 := clp (ogM g1)) n 0 i j
    rw [Nat.zero_add, hx] at up
    have up : ole (some x) (clp (ogM g1) i j) := up
    rw [clp_at c d] at up
    have q := in1 i j c d
    have nf : ¬ g1 (i * 8 + j) = 10000000 := fun z => fi (ogM_z.mpr (by omega))
    rw [ogM_s nf] at up
    have dn := fwN_ge (EgM_Start hz1) hSat n hn i j c d
    rw [hx] at dn
    have t := hD.1.2 i j i c d c
    rw [hD.1.1 i c] at t
    have dj := hD.2.1 j i d c
    have nfj : ¬ g (j * 8 + i) = 10000000 := fun z => fj (ogM_z.mpr z)
    rw [ogM_s nfj] at dj
    have qj := hin j i d c
    generalize dgM (ogM g) a b v i j = A at *
    generalize dgM (ogM g) a b v j i = B at *
    cases A with
    | none => simp [ole] at dn
    | some A => cases B with
      | none => simp [ole] at dj
      | some B =>
        simp only [ole, oad] at *
        omega
  have hy := clos_yes hr hz1 hB (clos_no hr hD.1 dl)
  refine ⟨hr, fun i j c d => ole_anti ?_ ?_, hy.2.2.2⟩
  · have z := (le2 _).mp hy.2.1
    exact hD.2.2.2.2 _ hy.1 z.1 z.2.1 z.2.2 i j c d
  · exact hy.2.2.1 _ hD.1 dl i j c d
def A_X9_allWidths : List (Nat × Ctr) := [(3, rcv 9 3 C_X9_floats)]
theorem e_X9_allWidths (o : OM) : Ev o Y_X9_allWidths 1 T_X9_allWidths A_X9_allWidths := ⟨rfl, List.forall_mem_cons.mpr ⟨Or.inl f_X9_109, List.forall_mem_cons.mpr ⟨Or.inl f_X9_80, fun _ h => absurd h List.not_mem_nil⟩⟩, fun _ h => absurd h List.not_mem_nil, fun _ h => absurd h List.not_mem_nil, fun _ h => absurd h List.not_mem_nil, List.forall_mem_cons.mpr ⟨cl_X9_floats (s_X9_floats o) (by decide) (Or.inl w_1548), fun _ h => absurd h List.not_mem_nil⟩, fun _ h => absurd h List.not_mem_nil⟩
def C_X9_allWidths : Ctr := fun A σ κ => match A with
  | [.inr (.inr (.inl 67))] => ((0 ≤ σ 67 0 ∧ σ 67 0 ≤ 7) ∧ Base (ogM (σ 91)) ∧ (∀ i j, nd i → nd j → σ 91 (i * 8 + j) = 10000000 ∨ (-4999999 ≤ σ 91 (i * 8 + j) ∧ σ 91 (i * 8 + j) ≤ 4999999)) ∧ (∀ i j, nd i → nd j → ogM (σ 91) i j = none → ogM (σ 91) j i = none)) ∧ κ [vI (wdO (ogM (σ 91)) (σ 67 0))] σ
  | _ => False
set_option maxRecDepth 20000 in
theorem s_X9_allWidths (o : OM) : Sound o Y_X9_allWidths 1 C_X9_allWidths := by
  intro Q A σ hA hC
  match A, hA, hC with
  | [.inr (.inr (.inl 67))], hA, hC =>
    obtain ⟨h0, hq⟩ : ((0 ≤ σ 67 0 ∧ σ 67 0 ≤ 7) ∧ Base (ogM (σ 91)) ∧ (∀ i j, nd i → nd j → σ 91 (i * 8 + j) = 10000000 ∨ (-4999999 ≤ σ 91 (i * 8 + j) ∧ σ 91 (i * 8 + j) ≤ 4999999)) ∧ (∀ i j, nd i → nd j → ogM (σ 91) i j = none → ogM (σ 91) j i = none)) ∧ Q [vI (wdO (ogM (σ 91)) (σ 67 0))] σ := hC
    have hQ : ∀ r_ τ, r_ = (wdO (ogM (σ 91)) (σ 67 0)) → τ = (σ) → Q [vI r_] τ := fun r_ τ e e2 => e ▸ e2 ▸ hq
    obtain ⟨hn, hB, hin, hS⟩ := h0
    obtain ⟨m', hm'⟩ : ∃ m', m' = ogM (σ 91) := ⟨_, rfl⟩
    have pwB := pw_B (V := 4999999) (by omega) hB (fun i j _ _ => ole_refl _) (fun i j x c d e => by
      by_cases z : σ 91 (i * 8 + j) = 10000000
      · rw [ogM_n z] at e; simp at e
      · rw [ogM_s z] at e
        simp only [Option.some.injEq] at e
        have := hin i j c d
        omega) (fun c d _ _ z => z)
    have tm : ∀ c d, nd c → nd d → (σ 91 (c * 8 + d) = 10000000 → pw m' c d = 0) ∧ (¬ σ 91 (c * 8 + d) = 10000000 → pw m' c d = σ 91 (c * 8 + d) + σ 91 (d * 8 + c)) := by
      intro c d nc nd'
      rw [hm']
      unfold pw
      refine ⟨fun h => by rw [ogM_n h], fun h => ?_⟩
      have : ¬ σ 91 (d * 8 + c) = 10000000 := fun z => h (ogM_z.mp (hS d c nd' nc (ogM_n z)))
      rw [ogM_s h, ogM_s this]
    rw [← hm'] at pwB hQ hq
    have wI : ∀ c, 0 ≤ c → c < σ 67 0 → 0 ≤ wdI m' (σ 67 0) c ∧ wdI m' (σ 67 0) c ≤ 9999998 * 6 := by
      intro c c0 c1
      have := wdI_in (V := 2 * 4999999) pwB hn.2 c0 (k := σ 67 0 - (c + 1)) (by omega) (by omega) (by omega)
      unfold wdI
      omega
    obtain ⟨P4, hP4⟩ : ∃ P : Nat → List AV → List AV → Sto → Prop, P = fun m S L τ => ∃ c : Int, S = [] ∧ L = [vR 67, vI (sumI (wdI m' (σ 67 0)) c), vI c] ∧ τ = σ ∧ 0 ≤ c ∧ c ≤ σ 67 0 ∧ m = ((7 - c) * 100).toNat := ⟨_, rfl⟩
    obtain ⟨P16, hP16⟩ : ∃ P : Nat → List AV → List AV → Sto → Prop, P = fun m S L τ => ∃ c d : Int, S = [] ∧ L = [vR 67, vI (sumI (wdI m' (σ 67 0)) c + sumI (fun i => pw m' c (c + 1 + i)) (d - (c + 1))), vI c, vI d] ∧ τ = σ ∧ 0 ≤ c ∧ c < σ 67 0 ∧ c + 1 ≤ d ∧ d ≤ σ 67 0 ∧ m = ((6 - c) * 100 + 50 + (7 - d)).toNat := ⟨_, rfl⟩
    refine at_meth (lv := V_X9_allWidths) (B := B_X9_allWidths) (e_X9_allWidths o) k_X9_allWidths 5 [(4, P4), (16, P16)] (List.forall_mem_cons.mpr ⟨?_, List.forall_mem_cons.mpr ⟨?_, fun _ h => absurd h List.not_mem_nil⟩⟩) 0 [] _ σ ?_
    · intro m S L τ hI
      rw [hP4] at hI
      obtain ⟨c, rfl, rfl, rfl, c0, c1, hm⟩ := hI
      simp only [sq_iconst, sq_jsr, sq_anewarray, sq_iload, sq_lload, sq_aload, sq_istore, sq_lstore, sq_astore, sq_iinc, sq_getfield, st_put0, st_put1, st_put3, sq_inv, sq_goto, sq_icmp, sq_ifc, sq_tsw, sq_iadd, sq_isub, sq_imul, sq_ineg, sq_idiv, sq_irem, sq_iand, sq_ior, sq_ixor, sq_ishl, sq_ishr, sq_iushr, sq_ladd, sq_lmul, sq_ldiv, sq_lrem, sq_land, sq_lor, sq_lshl, sq_lushr, sq_lcmp, sq_i2l, sq_l2i, sq_i2c, sq_i2b, sq_dupI, sq_dupR, sq_dup2, sq_pop, sq_iaload, sq_baload, sq_aaload, sq_iastore, sq_bastore, sq_alen, sq_ireturn, sq_lreturn, sq_return, wq_c, wq_n, wlq_s, lkp, tbl, dBk, nth, setL, canSet, cmpI, tk, swK, rdF, entL, catS, cat1, arg, rcv, ald, bld, aln, br, Ccopy, Cmax, Cmin, Cabs, List.take, List.drop, List.reverse, List.reverseAux, List.length, List.append, List.nil_append, List.cons_append, true_and, and_true, and_self, forall_const, true_implies, false_implies, not_true_eq_false, not_false_eq_true, Option.map, reduceCtorEq, reduceIte, or_true, true_or, false_or, or_false, false_and, and_false, List.map, List.append_nil, implies_true, yK, Nat.reduceBEq, beq_self_eq_true, Int.zero_ne_one, Nat.reduceDiv, Nat.reduceMod, Nat.reduceAdd, Nat.reduceSub, Nat.reduceMul, Nat.reduceEqDiff, Nat.reduceLeDiff, Int.reduceToNat, Int.reduceNeg, Int.reduceEq, Int.reduceLT, Int.reduceLE, Int.reduceNatCast, Int.reduceNatCast', Int.reduceAdd, Int.reduceSub, Int.reduceMul, eq_self, Prod.mk.injEq, A_X9_allWidths, V_X9_allWidths, B_X9_allWidths, Y_X9_allWidths, C_X9_floats, shpT, rfsT, wjq_s, look]
      rw [hP16]
      refine ⟨fun h => ?_, fun h => ⟨⟨by omega, by omega⟩, _, ?_, c, c + 1, rfl, ?_, rfl, c0, (by omega), (by omega), (by omega), rfl⟩⟩
      · have e : c = τ 67 0 := by omega
        exact hQ _ _ (by rw [e]; rfl) rfl
      · omega
      · rw [show c + 1 - (c + 1) = 0 by omega, sumI_0, Int.add_zero]
    · intro m S L τ hI
      rw [hP16] at hI
      obtain ⟨c, d, rfl, rfl, rfl, c0, c1, d0, d1, hm⟩ := hI
      simp only [sq_iconst, sq_jsr, sq_anewarray, sq_iload, sq_lload, sq_aload, sq_istore, sq_lstore, sq_astore, sq_iinc, sq_getfield, st_put0, st_put1, st_put3, sq_inv, sq_goto, sq_icmp, sq_ifc, sq_tsw, sq_iadd, sq_isub, sq_imul, sq_ineg, sq_idiv, sq_irem, sq_iand, sq_ior, sq_ixor, sq_ishl, sq_ishr, sq_iushr, sq_ladd, sq_lmul, sq_ldiv, sq_lrem, sq_land, sq_lor, sq_lshl, sq_lushr, sq_lcmp, sq_i2l, sq_l2i, sq_i2c, sq_i2b, sq_dupI, sq_dupR, sq_dup2, sq_pop, sq_iaload, sq_baload, sq_aaload, sq_iastore, sq_bastore, sq_alen, sq_ireturn, sq_lreturn, sq_return, wq_c, wq_n, wlq_s, lkp, tbl, dBk, nth, setL, canSet, cmpI, tk, swK, rdF, entL, catS, cat1, arg, rcv, ald, bld, aln, br, Ccopy, Cmax, Cmin, Cabs, List.take, List.drop, List.reverse, List.reverseAux, List.length, List.append, List.nil_append, List.cons_append, true_and, and_true, and_self, forall_const, true_implies, false_implies, not_true_eq_false, not_false_eq_true, Option.map, reduceCtorEq, reduceIte, or_true, true_or, false_or, or_false, false_and, and_false, List.map, List.append_nil, implies_true, yK, Nat.reduceBEq, beq_self_eq_true, Int.zero_ne_one, Nat.reduceDiv, Nat.reduceMod, Nat.reduceAdd, Nat.reduceSub, Nat.reduceMul, Nat.reduceEqDiff, Nat.reduceLeDiff, Int.reduceToNat, Int.reduceNeg, Int.reduceEq, Int.reduceLT, Int.reduceLE, Int.reduceNatCast, Int.reduceNatCast', Int.reduceAdd, Int.reduceSub, Int.reduceMul, eq_self, Prod.mk.injEq, A_X9_allWidths, V_X9_allWidths, B_X9_allWidths, Y_X9_allWidths, C_X9_floats, shpT, rfsT, wjq_s, look, m8]
      have b1 := sumI_le (f := wdI m' (τ 67 0)) (lo := 0) (hi := 9999998 * 6) c0 (fun j j0 j1 => wI j j0 (by omega))
      have b2 := wdI_in (V := 2 * 4999999) pwB hn.2 c0 (k := d - (c + 1)) (by omega) (by omega) (by omega)
      have sS := sumI_s (fun i => pw m' c (c + 1 + i)) (n := d - (c + 1)) (by omega)
      rw [show d - (c + 1) + 1 = d + 1 - (c + 1) by omega, show c + 1 + (d - (c + 1)) = d by omega] at sS
      have a20 : ¬ τ 67 0 ≤ d → ((6 - c) * 100 + 50 + (7 - (d + 1))).toNat < m := fun h => by omega
      have a21 : ((7 - (c + 1)) * 100).toNat < m := by omega
      generalize hS1 : sumI (wdI m' (τ 67 0)) c = S1 at *
      generalize hS2 : sumI (fun i => pw m' c (c + 1 + i)) (d - (c + 1)) = S2 at *
      have nc : nd c := ⟨by omega, by omega⟩
      have nx : ∀ t, t = pw m' c d → ¬ τ 67 0 ≤ d → i32 (S1 + S2 + t) ∧ i32 (d + 1) ∧ ∃ m_1, m_1 < m ∧ P16 m_1 [] [vR 67, vI (S1 + S2 + t), vI c, vI (d + 1)] τ := by
        intro t ht h
        have b3 := pwB c d nc ⟨by omega, by omega⟩
        rw [hP16]
        refine ⟨⟨by omega, by omega⟩, ⟨by omega, by omega⟩, _, a20 h, c, d + 1, rfl, ?_, rfl, c0, c1, (by omega), (by omega), rfl⟩
        rw [hS1, sS, ht, Int.add_assoc]
      refine ⟨fun h => ⟨⟨by omega, by omega⟩, ?_⟩, fun h => ?_⟩
      · rw [hP4]
        refine ⟨_, a21, c + 1, rfl, ?_, rfl, (by omega), (by omega), rfl⟩
        have e : d = τ 67 0 := by omega
        rw [sumI_s _ c0, hS1, ← hS2, e]
        rfl
      · have nd' : nd d := ⟨by omega, by omega⟩
        have q1 := hin c d nc nd'
        have q2 := hin d c nd' nc
        unfold nd at nc nd'
        refine ⟨⟨nc, nd'⟩, fun h1 => nx 0 ((tm c d nc nd').1 h1).symm h, fun h1 => ⟨⟨by omega, by omega⟩, ⟨by omega, by omega⟩, ⟨by omega, by omega⟩, ⟨by omega, by omega⟩, ⟨by omega, by omega⟩, ⟨by omega, by omega⟩, ⟨by omega, by omega⟩, nx _ ((tm c d nc nd').2 h1).symm h⟩⟩
    · simp only [sq_iconst, sq_jsr, sq_anewarray, sq_iload, sq_lload, sq_aload, sq_istore, sq_lstore, sq_astore, sq_iinc, sq_getfield, st_put0, st_put1, st_put3, sq_inv, sq_goto, sq_icmp, sq_ifc, sq_tsw, sq_iadd, sq_isub, sq_imul, sq_ineg, sq_idiv, sq_irem, sq_iand, sq_ior, sq_ixor, sq_ishl, sq_ishr, sq_iushr, sq_ladd, sq_lmul, sq_ldiv, sq_lrem, sq_land, sq_lor, sq_lshl, sq_lushr, sq_lcmp, sq_i2l, sq_l2i, sq_i2c, sq_i2b, sq_dupI, sq_dupR, sq_dup2, sq_pop, sq_iaload, sq_baload, sq_aaload, sq_iastore, sq_bastore, sq_alen, sq_ireturn, sq_lreturn, sq_return, wq_c, wq_n, wlq_s, lkp, tbl, dBk, nth, setL, canSet, cmpI, tk, swK, rdF, entL, catS, cat1, arg, rcv, ald, bld, aln, br, Ccopy, Cmax, Cmin, Cabs, List.take, List.drop, List.reverse, List.reverseAux, List.length, List.append, List.nil_append, List.cons_append, true_and, and_true, and_self, forall_const, true_implies, false_implies, not_true_eq_false, not_false_eq_true, Option.map, reduceCtorEq, reduceIte, or_true, true_or, false_or, or_false, false_and, and_false, List.map, List.append_nil, implies_true, yK, Nat.reduceBEq, beq_self_eq_true, Int.zero_ne_one, Nat.reduceDiv, Nat.reduceMod, Nat.reduceAdd, Nat.reduceSub, Nat.reduceMul, Nat.reduceEqDiff, Nat.reduceLeDiff, Int.reduceToNat, Int.reduceNeg, Int.reduceEq, Int.reduceLT, Int.reduceLE, Int.reduceNatCast, Int.reduceNatCast', Int.reduceAdd, Int.reduceSub, Int.reduceMul, eq_self, Prod.mk.injEq, A_X9_allWidths, V_X9_allWidths, B_X9_allWidths, Y_X9_allWidths, C_X9_floats, shpT, rfsT, wjq_s, look]
      rw [hP4]
      exact ⟨_, 0, rfl, rfl, rfl, (by omega), hn.1, rfl⟩
theorem pw_congr {m m' : Mx} (h : ∀ i j, nd i → nd j → m i j = m' i j) {c d : Int} (nc : nd c) (nd' : nd d) : pw m c d = pw m' c d := by
  unfold pw
  rw [h c d nc nd', h d c nd' nc]
theorem wdO_congr {m m' : Mx} {n : Int} (h : ∀ i j, nd i → nd j → m i j = m' i j) (hn : n ≤ 8) : wdO m n = wdO m' n := by
  unfold wdO
  refine sumI_congr (fun c c0 c1 => ?_)
  unfold wdI
  exact sumI_congr (fun i i0 i1 => pw_congr h ⟨c0, by omega⟩ ⟨by omega, by omega⟩)
theorem KM_nd {σ : Sto} {S : Int → Prop} (h : NIm σ) : ∀ x y u v, KM σ S x y u v → nd x ∧ nd y := by
  obtain ⟨hn, hJ, hs, hPI, hTI, hji, hti⟩ := h
  rintro x y u v ((⟨j, z0, z1, z2, rfl, rfl, -⟩ | ⟨p, z0, z1, z2, rfl, rfl, -⟩) | ⟨q, p, n, ⟨-, z1⟩, -, -, rfl, rfl, -⟩)
  · have := hji j z0 z1
    unfold JI at this
    unfold nd
    omega
  · unfold nd
    omega
  · unfold bef at z1
    unfold nd
    omega
theorem LayP_1 {K : Kn} {g : Int → Int} {r : Int} {m : Mx} (h : LayP K g r) (hm : CloK K m) : CloK K (ogM g) ∧ ∀ i j, nd i → nd j → g (i * 8 + j) = 10000000 ∨ (-4999999 ≤ g (i * 8 + j) ∧ g (i * 8 + j) ≤ 4999999) := by
  rcases h.1 with ⟨-, e⟩ | ⟨-, e⟩
  · exact e
  · exact absurd hm.2.1 (e _ hm.1)
theorem LayP_g {K : Kn} {g g0 : Int → Int} {r : Int} (h : LayP K g r) (hm : CloK K (ogM g0)) : ∀ i j, nd i → nd j → g (i * 8 + j) = g0 (i * 8 + j) := fun i j a b => ogM_i.mp (CloK_uni (fun _ _ => Iff.rfl) (LayP_1 h hm).1 hm i j a b)
def A_X9_dig : List (Nat × Ctr) := [(3, arg 6 C_X9_in), (1, rcv 9 1 C_X9_layKept), (3, rcv 9 3 C_X9_floats), (5, rcv 9 5 C_X9_bound), (1, rcv 9 6 C_X9_close), (1, rcv 9 4 C_X9_allWidths)]
theorem e_X9_dig (o : OM) : Ev o Y_X9_dig 5 T_X9_dig A_X9_dig := ⟨rfl, List.forall_mem_cons.mpr ⟨Or.inl f_X9_368, List.forall_mem_cons.mpr ⟨Or.inl f_X9_109, List.forall_mem_cons.mpr ⟨Or.inl f_X9_80, fun _ h => absurd h List.not_mem_nil⟩⟩⟩, fun _ h => absurd h List.not_mem_nil, List.forall_mem_cons.mpr ⟨⟨w_1293, by decide, by decide⟩, List.forall_mem_cons.mpr ⟨⟨w_1584, by decide, by decide⟩, fun _ h => absurd h List.not_mem_nil⟩⟩, fun _ h => absurd h List.not_mem_nil, List.forall_mem_cons.mpr ⟨cl_X9_layKept (s_X9_layKept o) (by decide) (Or.inl w_1517), List.forall_mem_cons.mpr ⟨cl_X9_floats (s_X9_floats o) (by decide) (Or.inl w_1548), List.forall_mem_cons.mpr ⟨cl_X9_bound (s_X9_bound o) (by decide) (Or.inl w_1530), List.forall_mem_cons.mpr ⟨cl_X9_close (s_X9_close o) (by decide) (Or.inl w_1538), List.forall_mem_cons.mpr ⟨cl_X9_allWidths (s_X9_allWidths o) (by decide) (Or.inl w_1585), fun _ h => absurd h List.not_mem_nil⟩⟩⟩⟩⟩, List.forall_mem_cons.mpr ⟨cl_X9_in (s_X9_in o) (by decide) (Or.inl w_1260), fun _ h => absurd h List.not_mem_nil⟩⟩
def C_X9_dig : Ctr := fun A σ κ => match A with
  | [.inr (.inr (.inl 67)), .inl w] => (NIm σ ∧ (0 ≤ σ 67 45 ∧ σ 67 45 ≤ 8)) ∧ (¬ (0 ≤ w ∧ w ≤ 2) → κ [vI (-102)] σ) ∧ (0 ≤ w ∧ w ≤ 2 → (∀ τ : Sto, (∀ p : Nat, p ≠ 91 → τ p = σ p) → (NoM (KM σ (ktM σ)) ∨ σ 67 45 = 8) → κ [vI (-103)] τ) ∧ (∀ (τ : Sto) (m : Mx) (A B W : Int), (∀ p : Nat, p ≠ 91 → τ p = su σ 67 45 (σ 67 45 + 1) p) → CloK (KM σ (ktM σ)) m → ¬ σ 67 45 = 8 → DB (ahd (σ 67 0) (σ 67 0) (σ 67 0 + 1)) (dgE m) (dgW m (σ 67 0)) A B W → κ [vI (if w = 0 then A else if w = 1 then B else W)] τ))
  | _ => False
set_option maxRecDepth 20000 in
theorem s_X9_dig (o : OM) : Sound o Y_X9_dig 5 C_X9_dig := by
  intro Q A σ hA hC
  match A, hA, hC with
  | [.inr (.inr (.inl 67)), .inl w], hA, hC =>
    obtain ⟨h0, hq⟩ : (NIm σ ∧ (0 ≤ σ 67 45 ∧ σ 67 45 ≤ 8)) ∧ (¬ (0 ≤ w ∧ w ≤ 2) → Q [vI (-102)] σ) ∧ (0 ≤ w ∧ w ≤ 2 → (∀ τ : Sto, (∀ p : Nat, p ≠ 91 → τ p = σ p) → (NoM (KM σ (ktM σ)) ∨ σ 67 45 = 8) → Q [vI (-103)] τ) ∧ (∀ (τ : Sto) (m : Mx) (A B W : Int), (∀ p : Nat, p ≠ 91 → τ p = su σ 67 45 (σ 67 45 + 1) p) → CloK (KM σ (ktM σ)) m → ¬ σ 67 45 = 8 → DB (ahd (σ 67 0) (σ 67 0) (σ 67 0 + 1)) (dgE m) (dgW m (σ 67 0)) A B W → Q [vI (if w = 0 then A else if w = 1 then B else W)] τ)) := hC
    obtain ⟨hI0, hd0⟩ := h0
    obtain ⟨hq1, hq2⟩ := hq
    have hn := hI0.1
    obtain ⟨σ1, hσ1⟩ : ∃ s : Sto, s = su σ 67 45 (σ 67 45 + 1) := ⟨_, rfl⟩
    rw [← hσ1] at hq2
    have s67 : ∀ j, ¬ j = 45 → σ1 67 j = σ 67 j := fun j hj => by rw [hσ1, su_at, if_neg hj]
    have sr : ∀ p : Nat, p ≠ 67 → σ1 p = σ p := fun p hp => by rw [hσ1, su_r hp]
    have hI1 : NIm σ1 := by
      unfold NIm at hI0 ⊢
      rw [s67 0 (by decide), s67 32 (by decide), sr 69 (by decide), sr 70 (by decide), sr 72 (by decide), sr 74 (by decide), sr 82 (by decide), sr 83 (by decide), sr 84 (by decide), sr 85 (by decide), sr 88 (by decide), sr 89 (by decide), sr 90 (by decide)]
      exact hI0
    have eK : KM σ1 (ktM σ1) = KM σ (ktM σ) := by
      unfold KM KMd ktM
      simp only [s67 0 (by decide), s67 32 (by decide), s67 42 (by decide), sr 69 (by decide), sr 70 (by decide), sr 72 (by decide), sr 82 (by decide), sr 83 (by decide), sr 84 (by decide), sr 85 (by decide), sr 87 (by decide), sr 88 (by decide), sr 89 (by decide), sr 90 (by decide)]
    obtain ⟨K, hK⟩ : ∃ K, K = KM σ (ktM σ) := ⟨_, rfl⟩
    rw [← hK] at eK hq2
    have hE : ∀ x y u v, K x y u v → nd x ∧ nd y := by rw [hK]; exact KM_nd hI0
    obtain ⟨n, hnn⟩ : ∃ n, n = σ 67 0 := ⟨_, rfl⟩
    rw [← hnn] at hn hq2
    have n1 : σ1 67 0 = n := by rw [s67 0 (by decide), hnn]
    have eKt : ∀ τ : Sto, (∀ p : Nat, p ≠ 91 → τ p = σ1 p) → KM τ (ktM τ) = K := fun τ he => by
      rw [KM_e he, ← eK]
      unfold ktM
      rw [he 87 (by decide)]
    obtain ⟨P54, hP54⟩ : ∃ P : Nat → List AV → List AV → Sto → Prop, P = fun m S L τ => ∃ g : Int → Int, ∃ A B W a : Int, S = [] ∧ L = [vR 67, vI w, vI A, vI B, vI W, vI a] ∧ (∀ p : Nat, p ≠ 91 → τ p = σ1 p) ∧ (0 ≤ w ∧ w ≤ 2) ∧ ¬ σ 67 45 = 8 ∧ CloK K (ogM g) ∧ (∀ i j, nd i → nd j → g (i * 8 + j) = 10000000 ∨ (-4999999 ≤ g (i * 8 + j) ∧ g (i * 8 + j) ≤ 4999999)) ∧ 0 ≤ a ∧ a ≤ n ∧ DB (ahd n a (a + 1)) (dgE (ogM g)) (dgW (ogM g) n) A B W ∧ m = ((7 - a) * 1000).toNat := ⟨_, rfl⟩
    obtain ⟨P69, hP69⟩ : ∃ P : Nat → List AV → List AV → Sto → Prop, P = fun m S L τ => ∃ g : Int → Int, ∃ A B W a b : Int, S = [] ∧ L = [vR 67, vI w, vI A, vI B, vI W, vI a, vI b] ∧ (∀ p : Nat, p ≠ 91 → τ p = σ1 p) ∧ (0 ≤ w ∧ w ≤ 2) ∧ ¬ σ 67 45 = 8 ∧ CloK K (ogM g) ∧ (∀ i j, nd i → nd j → g (i * 8 + j) = 10000000 ∨ (-4999999 ≤ g (i * 8 + j) ∧ g (i * 8 + j) ≤ 4999999)) ∧ 0 ≤ a ∧ a < n ∧ a < b ∧ b ≤ n ∧ DB (ahd n a b) (dgE (ogM g)) (dgW (ogM g) n) A B W ∧ m = ((6 - a) * 1000 + 100 + (7 - b) * 100).toNat := ⟨_, rfl⟩
    obtain ⟨P148, hP148⟩ : ∃ P : Nat → List AV → List AV → Sto → Prop, P = fun m S L τ => ∃ g : Int → Int, ∃ A B W a b v : Int, S = [] ∧ L = [vR 67, vI w, vI A, vI B, vI W, vI a, vI b, vI (-(g (b * 8 + a))), vI (g (a * 8 + b)), vI (mxN (fun i => wdO (dgM (ogM g) a b (-(ov (ogM g b a)) + i)) n) (v + g (b * 8 + a)).toNat), vI v] ∧ (∀ p : Nat, p ≠ 91 → τ p = σ1 p) ∧ (0 ≤ w ∧ w ≤ 2) ∧ ¬ σ 67 45 = 8 ∧ CloK K (ogM g) ∧ (∀ i j, nd i → nd j → g (i * 8 + j) = 10000000 ∨ (-4999999 ≤ g (i * 8 + j) ∧ g (i * 8 + j) ≤ 4999999)) ∧ 0 ≤ a ∧ a < n ∧ a < b ∧ b < n ∧ DB (ahd n a b) (dgE (ogM g)) (dgW (ogM g) n) A B W ∧ ¬ g (a * 8 + b) = 10000000 ∧ ¬ g (b * 8 + a) = 10000000 ∧ dgE (ogM g) a b ∧ -(g (b * 8 + a)) ≤ v ∧ v ≤ g (a * 8 + b) + 1 ∧ m = ((6 - a) * 1000 + 100 + (6 - b) * 100 + 50 + (g (a * 8 + b) + 1 - v)).toNat := ⟨_, rfl⟩
    obtain ⟨P221, hP221⟩ : ∃ P : Nat → List AV → List AV → Sto → Prop, P = fun m S L τ => ∃ g : Int → Int, ∃ A B W a b lo hi v z : Int, S = [vI z] ∧ L = [vR 67, vI w, vI A, vI B, vI W, vI a, vI b, vI lo, vI hi, vI (dgW (ogM g) n a b), vI v] ∧ (∀ p : Nat, p ≠ 91 → τ p = σ1 p) ∧ (0 ≤ w ∧ w ≤ 2) ∧ ¬ σ 67 45 = 8 ∧ CloK K (ogM g) ∧ (∀ i j, nd i → nd j → g (i * 8 + j) = 10000000 ∨ (-4999999 ≤ g (i * 8 + j) ∧ g (i * 8 + j) ≤ 4999999)) ∧ 0 ≤ a ∧ a < n ∧ a < b ∧ b < n ∧ ((z = 1 ∧ DB (ahd n a (b + 1)) (dgE (ogM g)) (dgW (ogM g) n) a b (dgW (ogM g) n a b)) ∨ (z = 0 ∧ DB (ahd n a (b + 1)) (dgE (ogM g)) (dgW (ogM g) n) A B W)) ∧ m = ((6 - a) * 1000 + 100 + (6 - b) * 100 + 20).toNat := ⟨_, rfl⟩
    refine at_meth (lv := V_X9_dig) (B := B_X9_dig) (e_X9_dig o) k_X9_dig 13 [(54, P54), (69, P69), (148, P148), (221, P221)] (List.forall_mem_cons.mpr ⟨?_, List.forall_mem_cons.mpr ⟨?_, List.forall_mem_cons.mpr ⟨?_, List.forall_mem_cons.mpr ⟨?_, fun _ h => absurd h List.not_mem_nil⟩⟩⟩⟩) 0 [] _ σ ?_
    · intro m S L τ hI
      rw [hP54] at hI
      obtain ⟨g, A, B, W, a, rfl, rfl, he, hw, h8, hC, hin, a0, a1, hD, hm⟩ := hI
      simp only [sq_iconst, sq_jsr, sq_anewarray, sq_iload, sq_lload, sq_aload, sq_istore, sq_lstore, sq_astore, sq_iinc, sq_getfield, st_put0, st_put1, st_put3, sq_inv, sq_goto, sq_icmp, sq_ifc, sq_tsw, sq_iadd, sq_isub, sq_imul, sq_ineg, sq_idiv, sq_irem, sq_iand, sq_ior, sq_ixor, sq_ishl, sq_ishr, sq_iushr, sq_ladd, sq_lmul, sq_ldiv, sq_lrem, sq_land, sq_lor, sq_lshl, sq_lushr, sq_lcmp, sq_i2l, sq_l2i, sq_i2c, sq_i2b, sq_dupI, sq_dupR, sq_dup2, sq_pop, sq_iaload, sq_baload, sq_aaload, sq_iastore, sq_bastore, sq_alen, sq_ireturn, sq_lreturn, sq_return, wq_c, wq_n, wlq_s, lkp, tbl, dBk, nth, setL, canSet, cmpI, tk, swK, rdF, entL, catS, cat1, arg, rcv, ald, bld, aln, br, Ccopy, Cmax, Cmin, Cabs, List.take, List.drop, List.reverse, List.reverseAux, List.length, List.append, List.nil_append, List.cons_append, true_and, and_true, and_self, forall_const, true_implies, false_implies, not_true_eq_false, not_false_eq_true, Option.map, reduceCtorEq, reduceIte, or_true, true_or, false_or, or_false, false_and, and_false, List.map, List.append_nil, implies_true, yK, Nat.reduceBEq, beq_self_eq_true, Int.zero_ne_one, Nat.reduceDiv, Nat.reduceMod, Nat.reduceAdd, Nat.reduceSub, Nat.reduceMul, Nat.reduceEqDiff, Nat.reduceLeDiff, Int.reduceToNat, Int.reduceNeg, Int.reduceEq, Int.reduceLT, Int.reduceLE, Int.reduceNatCast, Int.reduceNatCast', Int.reduceAdd, Int.reduceSub, Int.reduceMul, eq_self, Prod.mk.injEq, A_X9_dig, V_X9_dig, B_X9_dig, Y_X9_dig, C_X9_in, C_X9_layKept, C_X9_floats, C_X9_bound, C_X9_close, C_X9_allWidths, shpT, rfsT, wjq_s, look, he 67 (by decide), n1]
      have a20 : ¬ n ≤ a → ((6 - a) * 1000 + 100 + (7 - (a + 1)) * 100).toNat < m := fun h => by omega
      refine ⟨fun h => ?_, fun h => ⟨⟨by omega, by omega⟩, ?_⟩⟩
      · have e : a = n := by omega
        rw [e] at hD
        have z := (hq2 hw).2 τ _ A B W he hC h8 hD
        refine ⟨fun h1 => ⟨fun h2 => ?_, fun h2 => ?_⟩, fun h1 => ?_⟩
        · rw [if_neg h1, if_neg h2] at z; exact z
        · rw [if_neg h1, if_pos (Classical.not_not.mp h2)] at z; exact z
        · rw [if_pos (Classical.not_not.mp h1)] at z; exact z
      · rw [hP69]
        exact ⟨_, a20 h, g, A, B, W, a, a + 1, rfl, rfl, he, hw, h8, hC, hin, a0, (by omega), (by omega), (by omega), hD, rfl⟩
    · intro m S L τ hI
      rw [hP69] at hI
      obtain ⟨g, A, B, W, a, b, rfl, rfl, he, hw, h8, hC, hin, a0, a1, b0, b1, hD, hm⟩ := hI
      simp only [sq_iconst, sq_jsr, sq_anewarray, sq_iload, sq_lload, sq_aload, sq_istore, sq_lstore, sq_astore, sq_iinc, sq_getfield, st_put0, st_put1, st_put3, sq_inv, sq_goto, sq_icmp, sq_ifc, sq_tsw, sq_iadd, sq_isub, sq_imul, sq_ineg, sq_idiv, sq_irem, sq_iand, sq_ior, sq_ixor, sq_ishl, sq_ishr, sq_iushr, sq_ladd, sq_lmul, sq_ldiv, sq_lrem, sq_land, sq_lor, sq_lshl, sq_lushr, sq_lcmp, sq_i2l, sq_l2i, sq_i2c, sq_i2b, sq_dupI, sq_dupR, sq_dup2, sq_pop, sq_iaload, sq_baload, sq_aaload, sq_iastore, sq_bastore, sq_alen, sq_ireturn, sq_lreturn, sq_return, wq_c, wq_n, wlq_s, lkp, tbl, dBk, nth, setL, canSet, cmpI, tk, swK, rdF, entL, catS, cat1, arg, rcv, ald, bld, aln, br, Ccopy, Cmax, Cmin, Cabs, List.take, List.drop, List.reverse, List.reverseAux, List.length, List.append, List.nil_append, List.cons_append, true_and, and_true, and_self, forall_const, true_implies, false_implies, not_true_eq_false, not_false_eq_true, Option.map, reduceCtorEq, reduceIte, or_true, true_or, false_or, or_false, false_and, and_false, List.map, List.append_nil, implies_true, yK, Nat.reduceBEq, beq_self_eq_true, Int.zero_ne_one, Nat.reduceDiv, Nat.reduceMod, Nat.reduceAdd, Nat.reduceSub, Nat.reduceMul, Nat.reduceEqDiff, Nat.reduceLeDiff, Int.reduceToNat, Int.reduceNeg, Int.reduceEq, Int.reduceLT, Int.reduceLE, Int.reduceNatCast, Int.reduceNatCast', Int.reduceAdd, Int.reduceSub, Int.reduceMul, eq_self, Prod.mk.injEq, A_X9_dig, V_X9_dig, B_X9_dig, Y_X9_dig, C_X9_in, C_X9_layKept, C_X9_floats, C_X9_bound, C_X9_close, C_X9_allWidths, shpT, rfsT, wjq_s, look, he 67 (by decide), n1, m8, eKt τ he]
      have na : nd a := ⟨by omega, by omega⟩
      have a20 : ¬ n ≤ b → ((6 - a) * 1000 + 100 + (7 - (b + 1)) * 100).toNat < m := fun h => by omega
      have a21 : ((7 - (a + 1)) * 1000).toNat < m := by omega
      refine ⟨fun h => ⟨⟨by omega, by omega⟩, ?_⟩, fun h => ⟨NIm_e he hI1, fun r τ' h1 h2 => ?_⟩⟩
      · rw [hP54]
        have e : b = n := by omega
        rw [e] at hD
        have hd2 := DB_row hD
        rw [show a + 2 = a + 1 + 1 by omega] at hd2
        exact ⟨_, a21, g, A, B, W, a + 1, rfl, rfl, he, hw, h8, hC, hin, (by omega), (by omega), hd2, rfl⟩
      · have nb : nd b := ⟨by omega, by omega⟩
        have eg := LayP_g h2 hC
        have he' : ∀ p : Nat, p ≠ 91 → τ' p = σ1 p := fun p hp => by rw [h1 p hp, he p hp]
        have hS := CloK_sym hE hC
        rw [eg a b na nb, eg b a nb na]
        have q1 := hin a b na nb
        have q2 := hin b a nb na
        have no : ¬ dgE (ogM g) a b → i32 (b + 1) ∧ ∃ m_1, m_1 < m ∧ P69 m_1 [] [vR 67, vI w, vI A, vI B, vI W, vI a, vI (b + 1)] τ' := by
          intro hno
          rw [hP69]
          exact ⟨⟨by omega, by omega⟩, _, a20 h, g, A, B, W, a, b + 1, rfl, rfl, he', hw, h8, hC, hin, a0, a1, (by omega), (by omega), DB_no hD hno, rfl⟩
        have aa : 0 ≤ a ∧ a < 8 := na
        have bb' : 0 ≤ b ∧ b < 8 := nb
        refine ⟨⟨by omega, by omega⟩, ⟨by omega, by omega⟩, ⟨by omega, by omega⟩, ⟨by omega, by omega⟩, ⟨by omega, by omega⟩, ⟨by omega, by omega⟩, ⟨by omega, by omega⟩, ⟨na, nb⟩, fun h3 => no (fun z => z.1 (ogM_n h3)), fun h3 => ?_⟩
        have f2 : ¬ g (b * 8 + a) = 10000000 := fun z => h3 (ogM_z.mp (hS b a nb na (ogM_z.mpr z)))
        have epw : pw (ogM g) a b = g (a * 8 + b) + g (b * 8 + a) := by
          unfold pw
          rw [ogM_s h3, ogM_s f2]
        refine ⟨⟨by omega, by omega⟩, fun h4 => ?_, fun h4 => no (fun z => h4 ?_)⟩
        · rw [hP148]
          refine ⟨_, ?_, g, A, B, W, a, b, -(g (b * 8 + a)), rfl, ?_, he', hw, h8, hC, hin, a0, a1, b0, (by omega), hD, h3, f2, ⟨fun z => h3 (ogM_z.mp z), by rw [epw]; omega, by rw [epw]; omega⟩, (by omega), (by omega), rfl⟩
          · omega
          · rw [show -(g (b * 8 + a)) + g (b * 8 + a) = 0 by omega]
            rfl
        · have := z.2
          rw [epw] at this
          omega
    · intro m S L τ hI
      rw [hP148] at hI
      obtain ⟨g, A, B, W, a, b, v, rfl, rfl, he, hw, h8, hC, hin, a0, a1, b0, b1, hD, f1, f2, he1, v0, v1, hm⟩ := hI
      simp only [sq_iconst, sq_jsr, sq_anewarray, sq_iload, sq_lload, sq_aload, sq_istore, sq_lstore, sq_astore, sq_iinc, sq_getfield, st_put0, st_put1, st_put3, sq_inv, sq_goto, sq_icmp, sq_ifc, sq_tsw, sq_iadd, sq_isub, sq_imul, sq_ineg, sq_idiv, sq_irem, sq_iand, sq_ior, sq_ixor, sq_ishl, sq_ishr, sq_iushr, sq_ladd, sq_lmul, sq_ldiv, sq_lrem, sq_land, sq_lor, sq_lshl, sq_lushr, sq_lcmp, sq_i2l, sq_l2i, sq_i2c, sq_i2b, sq_dupI, sq_dupR, sq_dup2, sq_pop, sq_iaload, sq_baload, sq_aaload, sq_iastore, sq_bastore, sq_alen, sq_ireturn, sq_lreturn, sq_return, wq_c, wq_n, wlq_s, lkp, tbl, dBk, nth, setL, canSet, cmpI, tk, swK, rdF, entL, catS, cat1, arg, rcv, ald, bld, aln, br, Ccopy, Cmax, Cmin, Cabs, List.take, List.drop, List.reverse, List.reverseAux, List.length, List.append, List.nil_append, List.cons_append, true_and, and_true, and_self, forall_const, true_implies, false_implies, not_true_eq_false, not_false_eq_true, Option.map, reduceCtorEq, reduceIte, or_true, true_or, false_or, or_false, false_and, and_false, List.map, List.append_nil, implies_true, yK, Nat.reduceBEq, beq_self_eq_true, Int.zero_ne_one, Nat.reduceDiv, Nat.reduceMod, Nat.reduceAdd, Nat.reduceSub, Nat.reduceMul, Nat.reduceEqDiff, Nat.reduceLeDiff, Int.reduceToNat, Int.reduceNeg, Int.reduceEq, Int.reduceLT, Int.reduceLE, Int.reduceNatCast, Int.reduceNatCast', Int.reduceAdd, Int.reduceSub, Int.reduceMul, eq_self, Prod.mk.injEq, A_X9_dig, V_X9_dig, B_X9_dig, Y_X9_dig, C_X9_in, C_X9_layKept, C_X9_floats, C_X9_bound, C_X9_close, C_X9_allWidths, shpT, rfsT, wjq_s, look, he 67 (by decide), n1, m8, eKt τ he]
      have na : nd a := ⟨by omega, by omega⟩
      have nb : nd b := ⟨by omega, by omega⟩
      have epw : pw (ogM g) a b = g (a * 8 + b) + g (b * 8 + a) := by
        unfold pw
        rw [ogM_s f1, ogM_s f2]
      have elo : -(ov (ogM g b a)) = -(g (b * 8 + a)) := by rw [ogM_s f2]; rfl
      have q1 := hin a b na nb
      have q2 := hin b a nb na
      obtain ⟨f, hf⟩ : ∃ f, f = fun i => wdO (dgM (ogM g) a b (-(ov (ogM g b a)) + i)) n := ⟨_, rfl⟩
      rw [← hf]
      have a20 : ((6 - a) * 1000 + 100 + (6 - b) * 100 + 20).toNat < m := by omega
      have a21 : ¬ g (a * 8 + b) < v → ((6 - a) * 1000 + 100 + (6 - b) * 100 + 50 + (g (a * 8 + b) + 1 - (v + 1))).toNat < m := fun h => by omega
      have bnd : ∀ x y, 0 ≤ dgW (ogM g) n x y := fun x y => mxN_0 _ _
      refine ⟨fun h => ?_, fun h => ⟨NIm_e he hI1, fun r τ' h1 h2 => ?_⟩⟩
      · have e : mxN f (v + g (b * 8 + a)).toNat = dgW (ogM g) n a b := by
          rw [show v + g (b * 8 + a) = pw (ogM g) a b + 1 by rw [epw]; omega, hf]
          rfl
        rw [e, hP221]
        refine ⟨fun h1 => ⟨_, a20, g, A, B, W, a, b, _, _, v, 1, rfl, rfl, he, hw, h8, hC, hin, a0, a1, b0, b1, Or.inl ⟨rfl, DB_new hD ⟨a0, b0, b1⟩ he1 bnd (Or.inl h1)⟩, rfl⟩, fun h1 => ⟨fun h2 => ⟨_, a20, g, A, B, W, a, b, _, _, v, 0, rfl, rfl, he, hw, h8, hC, hin, a0, a1, b0, b1, Or.inr ⟨rfl, DB_old hD (by omega)⟩, rfl⟩, fun h2 => ⟨_, a20, g, A, B, W, a, b, _, _, v, 1, rfl, rfl, he, hw, h8, hC, hin, a0, a1, b0, b1, Or.inl ⟨rfl, DB_new hD ⟨a0, b0, b1⟩ he1 bnd (Or.inr (by omega))⟩, rfl⟩⟩⟩
      · have eg := LayP_g h2 hC
        have hab : ¬ a = b := by omega
        have bd := bdS_at (σ := τ') (lo := v) (hi := v) na nb
        have dc := dig_close (g := g) (g1 := bdS τ' a b v v 91) hC hE hin na nb hab f1 v0 (by omega) (fun i j c d => by rw [bd i j c d, eg a b na nb, eg b a nb na, eg i j c d])
        have hS := CloK_sym hE hC
        have fab : ¬ ogM g a b = none := fun z => f1 (ogM_z.mp z)
        refine ⟨⟨na, nb, hab, (by omega), (by omega)⟩, dc.1, fun r2 τ2 h3 h4 h5 h6 => ?_⟩
        have he' : ∀ p : Nat, p ≠ 91 → τ2 p = σ1 p := fun p hp => by rw [h3 p hp, bdS_r hp, h1 p hp, he p hp]
        have hD2 := dgM_Clo hC.1 na nb (ogM_s f1) (ogM_s f2) v0 (by omega)
        rw [h4, he' 67 (by decide), n1]
        have ew : wdO (ogM (rnK (bdS τ' a b v v 91) 8)) n = f (v + g (b * 8 + a)) := by
          rw [wdO_congr dc.2.1 (by omega), hf]
          show _ = wdO (dgM (ogM g) a b (-(ov (ogM g b a)) + (v + g (b * 8 + a)))) n
          rw [elo, show -(g (b * 8 + a)) + (v + g (b * 8 + a)) = v by omega]
        have em : mxN f (v + 1 + g (b * 8 + a)).toNat = max (mxN f (v + g (b * 8 + a)).toNat) (f (v + g (b * 8 + a))) := by
          rw [show (v + 1 + g (b * 8 + a)).toNat = (v + g (b * 8 + a)).toNat + 1 by omega]
          show max (mxN f (v + g (b * 8 + a)).toNat) (f ((v + g (b * 8 + a)).toNat : Int)) = _
          rw [Int.toNat_of_nonneg (by omega)]
        have pre : (0 ≤ n ∧ n ≤ 7) ∧ Base (ogM (rnK (bdS τ' a b v v 91) 8)) ∧ (∀ i j, nd i → nd j → rnK (bdS τ' a b v v 91) 8 (i * 8 + j) = 10000000 ∨ (-4999999 ≤ rnK (bdS τ' a b v v 91) 8 (i * 8 + j) ∧ rnK (bdS τ' a b v v 91) 8 (i * 8 + j) ≤ 4999999)) ∧ (∀ i j, nd i → nd j → ogM (rnK (bdS τ' a b v v 91) 8) i j = none → ogM (rnK (bdS τ' a b v v 91) 8) j i = none) := by
          refine ⟨hn, ⟨fun i c => by rw [dc.2.1 i i c c]; exact hD2.1.1 i c, fun i k j c d e => by rw [dc.2.1 i j c e, dc.2.1 i k c d, dc.2.1 k j d e]; exact hD2.1.2 i k j c d e⟩, dc.2.2, fun i j c d z => ?_⟩
          rw [dc.2.1 i j c d] at z
          rw [dc.2.1 j i d c]
          by_cases q : ogM g j i = none
          · exact dg_n hC.1 hS na nb d c fab q
          · exfalso
            have := hD2.2.1 i j c d
            rw [z] at this
            have q' : ¬ ogM g i j = none := fun y => q (hS i j c d y)
            generalize ogM g i j = X at *
            cases X with
            | none => exact q' rfl
            | some X => simp [ole] at this
        rw [ew]
        have nx : ∀ x, x = mxN f (v + 1 + g (b * 8 + a)).toNat → i32 (v + 1) ∧ ∃ m_1, m_1 < m ∧ P148 m_1 [] [vR 67, vI w, vI A, vI B, vI W, vI a, vI b, vI (-g (b * 8 + a)), vI (g (a * 8 + b)), vI x, vI (v + 1)] τ2 := by
          intro x hx
          rw [hP148]
          exact ⟨⟨by omega, by omega⟩, _, a21 h, g, A, B, W, a, b, v + 1, rfl, by rw [hx, hf], he', hw, h8, hC, hin, a0, a1, b0, b1, hD, f1, f2, he1, (by omega), (by omega), rfl⟩
        exact ⟨pre, fun h7 => nx _ (by rw [em]; omega), fun h7 => ⟨pre, nx _ (by rw [em]; omega)⟩⟩
    · intro m S L τ hI
      rw [hP221] at hI
      obtain ⟨g, A, B, W, a, b, lo, hi, v, z, rfl, rfl, he, hw, h8, hC, hin, a0, a1, b0, b1, hD, hm⟩ := hI
      simp only [sq_iconst, sq_jsr, sq_anewarray, sq_iload, sq_lload, sq_aload, sq_istore, sq_lstore, sq_astore, sq_iinc, sq_getfield, st_put0, st_put1, st_put3, sq_inv, sq_goto, sq_icmp, sq_ifc, sq_tsw, sq_iadd, sq_isub, sq_imul, sq_ineg, sq_idiv, sq_irem, sq_iand, sq_ior, sq_ixor, sq_ishl, sq_ishr, sq_iushr, sq_ladd, sq_lmul, sq_ldiv, sq_lrem, sq_land, sq_lor, sq_lshl, sq_lushr, sq_lcmp, sq_i2l, sq_l2i, sq_i2c, sq_i2b, sq_dupI, sq_dupR, sq_dup2, sq_pop, sq_iaload, sq_baload, sq_aaload, sq_iastore, sq_bastore, sq_alen, sq_ireturn, sq_lreturn, sq_return, wq_c, wq_n, wlq_s, lkp, tbl, dBk, nth, setL, canSet, cmpI, tk, swK, rdF, entL, catS, cat1, arg, rcv, ald, bld, aln, br, Ccopy, Cmax, Cmin, Cabs, List.take, List.drop, List.reverse, List.reverseAux, List.length, List.append, List.nil_append, List.cons_append, true_and, and_true, and_self, forall_const, true_implies, false_implies, not_true_eq_false, not_false_eq_true, Option.map, reduceCtorEq, reduceIte, or_true, true_or, false_or, or_false, false_and, and_false, List.map, List.append_nil, implies_true, yK, Nat.reduceBEq, beq_self_eq_true, Int.zero_ne_one, Nat.reduceDiv, Nat.reduceMod, Nat.reduceAdd, Nat.reduceSub, Nat.reduceMul, Nat.reduceEqDiff, Nat.reduceLeDiff, Int.reduceToNat, Int.reduceNeg, Int.reduceEq, Int.reduceLT, Int.reduceLE, Int.reduceNatCast, Int.reduceNatCast', Int.reduceAdd, Int.reduceSub, Int.reduceMul, eq_self, Prod.mk.injEq, A_X9_dig, V_X9_dig, B_X9_dig, Y_X9_dig, C_X9_in, C_X9_layKept, C_X9_floats, C_X9_bound, C_X9_close, C_X9_allWidths, shpT, rfsT, wjq_s, look, he 67 (by decide), n1, m8]
      have a20 : ((6 - a) * 1000 + 100 + (7 - (b + 1)) * 100).toNat < m := by omega
      have nx : ∀ A' B' W', DB (ahd n a (b + 1)) (dgE (ogM g)) (dgW (ogM g) n) A' B' W' → i32 (b + 1) ∧ ∃ m_1, m_1 < m ∧ P69 m_1 [] [vR 67, vI w, vI A', vI B', vI W', vI a, vI (b + 1)] τ := by
        intro A' B' W' hD'
        rw [hP69]
        exact ⟨⟨by omega, by omega⟩, _, a20, g, A', B', W', a, b + 1, rfl, rfl, he, hw, h8, hC, hin, a0, a1, (by omega), (by omega), hD', rfl⟩
      rcases hD with ⟨rfl, hD⟩ | ⟨rfl, hD⟩
      · exact ⟨fun h => absurd h (by decide), fun _ => ⟨fun h => absurd h (by decide), fun _ => ⟨fun h => absurd h (by decide), fun _ => nx _ _ _ hD⟩⟩⟩
      · exact ⟨fun _ => ⟨fun _ => ⟨fun _ => nx _ _ _ hD, fun h => absurd rfl h⟩, fun h => absurd rfl h⟩, fun h => absurd rfl h⟩
    · simp only [sq_iconst, sq_jsr, sq_anewarray, sq_iload, sq_lload, sq_aload, sq_istore, sq_lstore, sq_astore, sq_iinc, sq_getfield, st_put0, st_put1, st_put3, sq_inv, sq_goto, sq_icmp, sq_ifc, sq_tsw, sq_iadd, sq_isub, sq_imul, sq_ineg, sq_idiv, sq_irem, sq_iand, sq_ior, sq_ixor, sq_ishl, sq_ishr, sq_iushr, sq_ladd, sq_lmul, sq_ldiv, sq_lrem, sq_land, sq_lor, sq_lshl, sq_lushr, sq_lcmp, sq_i2l, sq_l2i, sq_i2c, sq_i2b, sq_dupI, sq_dupR, sq_dup2, sq_pop, sq_iaload, sq_baload, sq_aaload, sq_iastore, sq_bastore, sq_alen, sq_ireturn, sq_lreturn, sq_return, wq_c, wq_n, wlq_s, lkp, tbl, dBk, nth, setL, canSet, cmpI, tk, swK, rdF, entL, catS, cat1, arg, rcv, ald, bld, aln, br, Ccopy, Cmax, Cmin, Cabs, List.take, List.drop, List.reverse, List.reverseAux, List.length, List.append, List.nil_append, List.cons_append, true_and, and_true, and_self, forall_const, true_implies, false_implies, not_true_eq_false, not_false_eq_true, Option.map, reduceCtorEq, reduceIte, or_true, true_or, false_or, or_false, false_and, and_false, List.map, List.append_nil, implies_true, yK, Nat.reduceBEq, beq_self_eq_true, Int.zero_ne_one, Nat.reduceDiv, Nat.reduceMod, Nat.reduceAdd, Nat.reduceSub, Nat.reduceMul, Nat.reduceEqDiff, Nat.reduceLeDiff, Int.reduceToNat, Int.reduceNeg, Int.reduceEq, Int.reduceLT, Int.reduceLE, Int.reduceNatCast, Int.reduceNatCast', Int.reduceAdd, Int.reduceSub, Int.reduceMul, eq_self, Prod.mk.injEq, A_X9_dig, V_X9_dig, B_X9_dig, Y_X9_dig, C_X9_in, C_X9_layKept, C_X9_floats, C_X9_bound, C_X9_close, C_X9_allWidths, shpT, rfsT, wjq_s, look, ← hσ1, ← hK]
      refine ⟨fun hw => ⟨hI0, fun r τ h1 h2 => ⟨fun h3 => ?_, fun h3 => ⟨fun h4 => ⟨by rw [h1 67 (by decide)]; exact ⟨by omega, by omega⟩, ?_⟩, fun h4 => ?_⟩⟩⟩, hq1⟩
      · refine (hq2 hw).1 τ h1 (Or.inl ?_)
        rcases h2.1 with ⟨e, -⟩ | ⟨-, e⟩
        · omega
        · exact e
      · have hC : CloK K (ogM (τ 91)) ∧ ∀ i j, nd i → nd j → τ 91 (i * 8 + j) = 10000000 ∨ (-4999999 ≤ τ 91 (i * 8 + j) ∧ τ 91 (i * 8 + j) ≤ 4999999) := by
          rcases h2.1 with ⟨-, e⟩ | ⟨e, -⟩
          · exact e
          · omega
        rw [hP54]
        refine ⟨_, τ 91, -1, -1, -1, 0, rfl, rfl, fun p hp => ?_, hw, by rw [← h1 67 (by decide)]; exact h4, hC.1, hC.2, (by omega), hn.1, DB_0, rfl⟩
        rw [hσ1, h1 67 (by decide)]
        by_cases e : p = 67
        · rw [e, su_eq, su_eq, h1 67 (by decide)]
        · rw [su_r e, su_r e, h1 p hp]
      · refine (hq2 hw).1 τ h1 (Or.inr ?_)
        rw [← h1 67 (by decide)]
        exact Classical.not_not.mp h4

