-- ===== the image: the reference's own rows =====
theorem m3 (p : Int) : 3 * p = p * 3 := Int.mul_comm _ _
theorem m6 (p : Int) : 6 * p = p * 6 := Int.mul_comm _ _
def b2 (v : Int) : Int := if v = 0 then 0 else 1
theorem blk3 {f : Int → Int} {p v0 v1 v2 x : Int} : upI (upI (upI f (p * 3) v0) (p * 3 + 1) v1) (p * 3 + 2) v2 (x * 3) = (if x = p then v0 else f (x * 3)) ∧ upI (upI (upI f (p * 3) v0) (p * 3 + 1) v1) (p * 3 + 2) v2 (x * 3 + 1) = (if x = p then v1 else f (x * 3 + 1)) ∧ upI (upI (upI f (p * 3) v0) (p * 3 + 1) v1) (p * 3 + 2) v2 (x * 3 + 2) = (if x = p then v2 else f (x * 3 + 2)) := by
  unfold upI
  by_cases e : x = p
  · subst e
    rw [if_neg (by omega), if_neg (by omega), if_pos rfl, if_pos rfl, if_neg (by omega), if_pos rfl, if_pos rfl, if_pos rfl, if_pos rfl]
    exact ⟨rfl, rfl, rfl⟩
  · rw [if_neg (by omega), if_neg (by omega), if_neg (by omega), if_neg e, if_neg (by omega), if_neg (by omega), if_neg (by omega), if_neg e, if_neg (by omega), if_neg (by omega), if_neg (by omega), if_neg e]
    exact ⟨rfl, rfl, rfl⟩
theorem blk6 {f : Int → Int} {p v0 v1 v2 v3 v4 v5 x i : Int} (hi : 0 ≤ i ∧ i < 6) : upI (upI (upI (upI (upI (upI f (p * 6) v0) (p * 6 + 1) v1) (p * 6 + 2) v2) (p * 6 + 3) v3) (p * 6 + 4) v4) (p * 6 + 5) v5 (x * 6 + i) = (if x = p then (if i = 0 then v0 else if i = 1 then v1 else if i = 2 then v2 else if i = 3 then v3 else if i = 4 then v4 else v5) else f (x * 6 + i)) := by
  unfold upI
  by_cases e : x = p
  · subst e
    have hc : i = 0 ∨ i = 1 ∨ i = 2 ∨ i = 3 ∨ i = 4 ∨ i = 5 := by omega
    rcases hc with rfl | rfl | rfl | rfl | rfl | rfl
    all_goals
      simp only [if_true, Int.reduceEq, if_false, reduceIte]
      repeat (first | rw [if_pos (by omega)] | rw [if_neg (by omega)])
  · rw [if_neg (by omega), if_neg (by omega), if_neg (by omega), if_neg (by omega), if_neg (by omega), if_neg (by omega), if_neg e]
def ImgP (σ τ : Sto) (n : Int) : Prop := ∀ x, 0 ≤ x → x < n → τ 93 x = σ 68 x ∧ τ 94 x = σ 69 x ∧ τ 97 (x * 3) = b2 (σ 88 x) ∧ τ 97 (x * 3 + 1) = σ 89 x ∧ τ 97 (x * 3 + 2) = σ 90 x
def ImgL (σ τ : Sto) (n : Int) : Prop := ∀ x, 0 ≤ x → x < n → τ 95 (x * 3) = σ 70 x ∧ τ 95 (x * 3 + 1) = σ 71 x ∧ τ 95 (x * 3 + 2) = σ 72 x
def ImgJ (σ τ : Sto) (n : Int) : Prop := ∀ x, 0 ≤ x → x < n → τ 96 (x * 6) = σ 82 x ∧ τ 96 (x * 6 + 1) = σ 83 x ∧ τ 96 (x * 6 + 2) = σ 84 x ∧ τ 96 (x * 6 + 3) = σ 85 x ∧ τ 96 (x * 6 + 4) = σ 86 x ∧ τ 96 (x * 6 + 5) = b2 (σ 87 x)
theorem imgP_s {σ τ : Sto} {p v : Int} (h : ImgP σ τ p) (hv : v = b2 (σ 88 p)) : ImgP σ (su (su (su (su (su τ 93 p (σ 68 p)) 94 p (σ 69 p)) 97 (p * 3) v) 97 (p * 3 + 1) (σ 89 p)) 97 (p * 3 + 2) (σ 90 p)) (p + 1) := by
  intro x x0 x1
  simp only [su_u, su_r, Nat.reduceEqDiff, not_false_eq_true]
  rw [blk3.1, blk3.2.1, blk3.2.2]
  unfold upI
  by_cases e : x = p
  · subst e
    simp only [if_true, hv, and_self]
  · have := h x x0 (by omega)
    simp only [if_neg e]
    exact this
theorem imgL_s {σ τ : Sto} {p : Int} (h : ImgL σ τ p) : ImgL σ (su (su (su τ 95 (p * 3) (σ 70 p)) 95 (p * 3 + 1) (σ 71 p)) 95 (p * 3 + 2) (σ 72 p)) (p + 1) := by
  intro x x0 x1
  simp only [su_u, su_r, Nat.reduceEqDiff, not_false_eq_true]
  rw [blk3.1, blk3.2.1, blk3.2.2]
  by_cases e : x = p
  · subst e
    simp only [if_true, and_self]
  · have := h x x0 (by omega)
    simp only [if_neg e]
    exact this
theorem imgJ_s {σ τ : Sto} {p v : Int} (h : ImgJ σ τ p) (hv : v = b2 (σ 87 p)) : ImgJ σ (su (su (su (su (su (su τ 96 (p * 6) (σ 82 p)) 96 (p * 6 + 1) (σ 83 p)) 96 (p * 6 + 2) (σ 84 p)) 96 (p * 6 + 3) (σ 85 p)) 96 (p * 6 + 4) (σ 86 p)) 96 (p * 6 + 5) v) (p + 1) := by
  intro x x0 x1
  have k0 := fun f => @blk6 f p (σ 82 p) (σ 83 p) (σ 84 p) (σ 85 p) (σ 86 p) v x 0 (by decide)
  simp only [Int.add_zero] at k0
  simp only [su_u]
  rw [k0, blk6 (i := 1) (by decide), blk6 (i := 2) (by decide), blk6 (i := 3) (by decide), blk6 (i := 4) (by decide), blk6 (i := 5) (by decide)]
  by_cases e : x = p
  · subst e
    simp only [if_true, Int.reduceEq, if_false, hv, and_self, reduceIte]
  · have := h x x0 (by omega)
    simp only [if_neg e]
    exact this
theorem imgP_e {σ τ τ' : Sto} {n : Int} (h : τ' 93 = τ 93 ∧ τ' 94 = τ 94 ∧ τ' 97 = τ 97) (hp : ImgP σ τ n) : ImgP σ τ' n := by
  unfold ImgP; rw [h.1, h.2.1, h.2.2]; exact hp
theorem imgL_e {σ τ τ' : Sto} {n : Int} (h : τ' 95 = τ 95) (hp : ImgL σ τ n) : ImgL σ τ' n := by
  unfold ImgL; rw [h]; exact hp
theorem imgJ_e {σ τ τ' : Sto} {n : Int} (h : τ' 96 = τ 96) (hp : ImgJ σ τ n) : ImgJ σ τ' n := by
  unfold ImgJ; rw [h]; exact hp
theorem su_f {σ : Sto} {q : Nat} {i v : Int} {k : Nat} (h : ¬ (93 ≤ k ∧ k ≤ 97)) (hq : 93 ≤ q ∧ q ≤ 97) : su σ q i v k = σ k := su_ne k (by omega)
def A_X9_image : List (Nat × Ctr) := []
theorem e_X9_image (o : OM) : Ev o Y_X9_image 0 T_X9_image A_X9_image := ⟨rfl, List.forall_mem_cons.mpr ⟨Or.inl f_X9_86, List.forall_mem_cons.mpr ⟨Or.inl f_X9_7, List.forall_mem_cons.mpr ⟨Or.inl f_X9_89, List.forall_mem_cons.mpr ⟨Or.inl f_X9_13, List.forall_mem_cons.mpr ⟨Or.inl f_X9_98, List.forall_mem_cons.mpr ⟨Or.inl f_X9_71, List.forall_mem_cons.mpr ⟨Or.inl f_X9_74, List.forall_mem_cons.mpr ⟨Or.inl f_X9_77, List.forall_mem_cons.mpr ⟨Or.inl f_X9_92, List.forall_mem_cons.mpr ⟨Or.inl f_X9_16, List.forall_mem_cons.mpr ⟨Or.inl f_X9_19, List.forall_mem_cons.mpr ⟨Or.inl f_X9_22, List.forall_mem_cons.mpr ⟨Or.inl f_X9_95, List.forall_mem_cons.mpr ⟨Or.inl f_X9_53, List.forall_mem_cons.mpr ⟨Or.inl f_X9_56, List.forall_mem_cons.mpr ⟨Or.inl f_X9_59, List.forall_mem_cons.mpr ⟨Or.inl f_X9_62, List.forall_mem_cons.mpr ⟨Or.inl f_X9_65, List.forall_mem_cons.mpr ⟨Or.inl f_X9_68, List.forall_mem_cons.mpr ⟨Or.inl f_X9_109, List.forall_mem_cons.mpr ⟨Or.inl f_X9_105, List.forall_mem_cons.mpr ⟨Or.inl f_X9_325, List.forall_mem_cons.mpr ⟨Or.inl f_X9_382, List.forall_mem_cons.mpr ⟨Or.inl f_X9_101, List.forall_mem_cons.mpr ⟨Or.inl f_X9_385, fun _ h => absurd h List.not_mem_nil⟩⟩⟩⟩⟩⟩⟩⟩⟩⟩⟩⟩⟩⟩⟩⟩⟩⟩⟩⟩⟩⟩⟩⟩⟩, fun _ h => absurd h List.not_mem_nil, fun _ h => absurd h List.not_mem_nil, fun _ h => absurd h List.not_mem_nil, fun _ h => absurd h List.not_mem_nil, fun _ h => absurd h List.not_mem_nil⟩
def C_X9_image : Ctr := fun A σ κ => match A with
  | [.inr (.inr (.inl 67))] => (0 ≤ σ 67 0 ∧ (σ 67 42 = 0 ∨ σ 67 42 = 1)) ∧ ∀ τ : Sto, (∀ q : Nat, ¬ (q = 67 ∨ (93 ≤ q ∧ q ≤ 97)) → τ q = σ q) → (∀ i, ¬ (i = 46 ∨ i = 47 ∨ i = 48) → τ 67 i = σ 67 i) → τ 67 46 = σ 67 0 → τ 67 47 = σ 67 32 → τ 67 48 = σ 67 42 → ImgP σ τ 7 → ImgL σ τ 112 → ImgJ σ τ 12 → κ [vI (σ 67 0)] τ
  | _ => False
set_option maxRecDepth 20000 in
theorem s_X9_image (o : OM) : Sound o Y_X9_image 0 C_X9_image := by
  intro Q A σ hA hC
  match A, hA, hC with
  | [.inr (.inr (.inl 67))], hA, hC =>
    obtain ⟨h0, hq⟩ : (0 ≤ σ 67 0 ∧ (σ 67 42 = 0 ∨ σ 67 42 = 1)) ∧ ∀ τ : Sto, (∀ q : Nat, ¬ (q = 67 ∨ (93 ≤ q ∧ q ≤ 97)) → τ q = σ q) → (∀ i, ¬ (i = 46 ∨ i = 47 ∨ i = 48) → τ 67 i = σ 67 i) → τ 67 46 = σ 67 0 → τ 67 47 = σ 67 32 → τ 67 48 = σ 67 42 → ImgP σ τ 7 → ImgL σ τ 112 → ImgJ σ τ 12 → Q [vI (σ 67 0)] τ := hC
    obtain ⟨P2, hP2⟩ : ∃ P : Nat → List AV → List AV → Sto → Prop, P = fun m S L τ => ∃ p : Int, S = [] ∧ L = [vR 67, vI p] ∧ (∀ q : Nat, ¬ (93 ≤ q ∧ q ≤ 97) → τ q = σ q) ∧ 0 ≤ p ∧ p ≤ 7 ∧ ImgP σ τ p ∧ m = (7 - p + 1000).toNat := ⟨_, rfl⟩
    obtain ⟨P94, hP94⟩ : ∃ P : Nat → List AV → List AV → Sto → Prop, P = fun m S L τ => ∃ p : Int, S = [] ∧ L = [vR 67, vI p] ∧ (∀ q : Nat, ¬ (93 ≤ q ∧ q ≤ 97) → τ q = σ q) ∧ 0 ≤ p ∧ p ≤ 112 ∧ ImgP σ τ 7 ∧ ImgL σ τ p ∧ m = (112 - p + 500).toNat := ⟨_, rfl⟩
    obtain ⟨P154, hP154⟩ : ∃ P : Nat → List AV → List AV → Sto → Prop, P = fun m S L τ => ∃ p : Int, S = [] ∧ L = [vR 67, vI p] ∧ (∀ q : Nat, ¬ (93 ≤ q ∧ q ≤ 97) → τ q = σ q) ∧ 0 ≤ p ∧ p ≤ 12 ∧ ImgP σ τ 7 ∧ ImgL σ τ 112 ∧ ImgJ σ τ p ∧ m = (12 - p).toNat := ⟨_, rfl⟩
    refine at_meth (lv := V_X9_image) (B := B_X9_image) (e_X9_image o) k_X9_image 5 [(2, P2), (94, P94), (154, P154)] (List.forall_mem_cons.mpr ⟨?_, List.forall_mem_cons.mpr ⟨?_, List.forall_mem_cons.mpr ⟨?_, fun _ h => absurd h List.not_mem_nil⟩⟩⟩) 0 [] _ σ ?_
    · intro m S L τ hI
      rw [hP2] at hI
      obtain ⟨p, rfl, rfl, he, p0, p1, hp, hm⟩ := hI
      simp only [sq_iconst, sq_jsr, sq_anewarray, sq_iload, sq_lload, sq_aload, sq_istore, sq_lstore, sq_astore, sq_iinc, sq_getfield, st_put0, st_put1, st_put3, sq_inv, sq_goto, sq_icmp, sq_ifc, sq_tsw, sq_iadd, sq_isub, sq_imul, sq_ineg, sq_idiv, sq_irem, sq_iand, sq_ior, sq_ixor, sq_ishl, sq_ishr, sq_iushr, sq_ladd, sq_lmul, sq_ldiv, sq_lrem, sq_land, sq_lor, sq_lshl, sq_lushr, sq_lcmp, sq_i2l, sq_l2i, sq_i2c, sq_i2b, sq_dupI, sq_dupR, sq_dup2, sq_pop, sq_iaload, sq_baload, sq_aaload, sq_iastore, sq_bastore, sq_alen, sq_ireturn, sq_lreturn, sq_return, wq_c, wq_n, wlq_s, lkp, tbl, dBk, nth, setL, canSet, cmpI, tk, swK, rdF, entL, catS, cat1, arg, rcv, ald, bld, aln, br, Ccopy, Cmax, Cmin, Cabs, List.take, List.drop, List.reverse, List.reverseAux, List.length, List.append, List.nil_append, List.cons_append, true_and, and_true, and_self, forall_const, true_implies, false_implies, not_true_eq_false, not_false_eq_true, Option.map, reduceCtorEq, reduceIte, or_true, true_or, false_or, or_false, false_and, and_false, List.map, List.append_nil, implies_true, yK, Nat.reduceBEq, beq_self_eq_true, Int.zero_ne_one, Nat.reduceDiv, Nat.reduceMod, Nat.reduceAdd, Nat.reduceSub, Nat.reduceMul, Nat.reduceEqDiff, Nat.reduceLeDiff, Int.reduceToNat, Int.reduceNeg, Int.reduceEq, Int.reduceLT, Int.reduceLE, Int.reduceNatCast, Int.reduceNatCast', Int.reduceAdd, Int.reduceSub, Int.reduceMul, eq_self, Prod.mk.injEq, A_X9_image, V_X9_image, B_X9_image, Y_X9_image, shpT, rfsT, wjq_s, look, m3, su_r, he 68 (by decide), he 69 (by decide), he 88 (by decide), he 89 (by decide), he 90 (by decide)]
      have mv : ∀ v : Int, v = b2 (σ 88 p) → ¬ 7 ≤ p → ∃ m_1, m_1 < m ∧ P2 m_1 [] [vR 67, vI (p + 1)] (su (su (su (su (su τ 93 p (σ 68 p)) 94 p (σ 69 p)) 97 (p * 3) v) 97 (p * 3 + 1) (σ 89 p)) 97 (p * 3 + 2) (σ 90 p)) := fun v hv h => by
        rw [hP2]
        refine ⟨_, ?_, p + 1, rfl, rfl, fun q hq => ?_, (by omega), (by omega), imgP_s hp hv, rfl⟩
        · omega
        · rw [su_f hq (by decide), su_f hq (by decide), su_f hq (by decide), su_f hq (by decide), su_f hq (by decide), he q hq]
      refine ⟨fun h => ?_, fun h => ⟨⟨by omega, by omega⟩, ⟨by omega, by omega⟩, ⟨by omega, by omega⟩, ⟨by omega, by omega⟩, ⟨by omega, by omega⟩, ⟨by omega, by omega⟩, fun z => ⟨⟨by omega, by omega⟩, ⟨by omega, by omega⟩, ⟨by omega, by omega⟩, ⟨by omega, by omega⟩, ⟨by omega, by omega⟩, ⟨by omega, by omega⟩, ⟨by omega, by omega⟩, ⟨by omega, by omega⟩, ⟨by omega, by omega⟩, ⟨by omega, by omega⟩, mv 0 (by unfold b2; rw [if_pos z]) h⟩, fun z => ⟨⟨by omega, by omega⟩, ⟨by omega, by omega⟩, ⟨by omega, by omega⟩, ⟨by omega, by omega⟩, ⟨by omega, by omega⟩, ⟨by omega, by omega⟩, ⟨by omega, by omega⟩, ⟨by omega, by omega⟩, ⟨by omega, by omega⟩, ⟨by omega, by omega⟩, mv 1 (by unfold b2; rw [if_neg z]) h⟩⟩⟩
      rw [hP94]
      have e : p = 7 := by omega
      subst e
      exact ⟨_, by omega, 0, rfl, rfl, he, (by omega), (by omega), hp, fun x x0 x1 => by omega, rfl⟩
    · intro m S L τ hI
      rw [hP94] at hI
      obtain ⟨p, rfl, rfl, he, p0, p1, hp, hl, hm⟩ := hI
      simp only [sq_iconst, sq_jsr, sq_anewarray, sq_iload, sq_lload, sq_aload, sq_istore, sq_lstore, sq_astore, sq_iinc, sq_getfield, st_put0, st_put1, st_put3, sq_inv, sq_goto, sq_icmp, sq_ifc, sq_tsw, sq_iadd, sq_isub, sq_imul, sq_ineg, sq_idiv, sq_irem, sq_iand, sq_ior, sq_ixor, sq_ishl, sq_ishr, sq_iushr, sq_ladd, sq_lmul, sq_ldiv, sq_lrem, sq_land, sq_lor, sq_lshl, sq_lushr, sq_lcmp, sq_i2l, sq_l2i, sq_i2c, sq_i2b, sq_dupI, sq_dupR, sq_dup2, sq_pop, sq_iaload, sq_baload, sq_aaload, sq_iastore, sq_bastore, sq_alen, sq_ireturn, sq_lreturn, sq_return, wq_c, wq_n, wlq_s, lkp, tbl, dBk, nth, setL, canSet, cmpI, tk, swK, rdF, entL, catS, cat1, arg, rcv, ald, bld, aln, br, Ccopy, Cmax, Cmin, Cabs, List.take, List.drop, List.reverse, List.reverseAux, List.length, List.append, List.nil_append, List.cons_append, true_and, and_true, and_self, forall_const, true_implies, false_implies, not_true_eq_false, not_false_eq_true, Option.map, reduceCtorEq, reduceIte, or_true, true_or, false_or, or_false, false_and, and_false, List.map, List.append_nil, implies_true, yK, Nat.reduceBEq, beq_self_eq_true, Int.zero_ne_one, Nat.reduceDiv, Nat.reduceMod, Nat.reduceAdd, Nat.reduceSub, Nat.reduceMul, Nat.reduceEqDiff, Nat.reduceLeDiff, Int.reduceToNat, Int.reduceNeg, Int.reduceEq, Int.reduceLT, Int.reduceLE, Int.reduceNatCast, Int.reduceNatCast', Int.reduceAdd, Int.reduceSub, Int.reduceMul, eq_self, Prod.mk.injEq, A_X9_image, V_X9_image, B_X9_image, Y_X9_image, shpT, rfsT, wjq_s, look, m3, su_r, he 70 (by decide), he 71 (by decide), he 72 (by decide)]
      refine ⟨fun h => ?_, fun h => ⟨⟨by omega, by omega⟩, ⟨by omega, by omega⟩, ⟨by omega, by omega⟩, ⟨by omega, by omega⟩, ⟨by omega, by omega⟩, ⟨by omega, by omega⟩, ⟨by omega, by omega⟩, ⟨by omega, by omega⟩, ⟨by omega, by omega⟩, ⟨by omega, by omega⟩, ⟨by omega, by omega⟩, ⟨by omega, by omega⟩, ?_⟩⟩
      · rw [hP154]
        have e : p = 112 := by omega
        subst e
        exact ⟨_, by omega, 0, rfl, rfl, he, (by omega), (by omega), hp, hl, fun x x0 x1 => by omega, rfl⟩
      · rw [hP94]
        refine ⟨_, ?_, p + 1, rfl, rfl, fun q hq => ?_, (by omega), (by omega), imgP_e ⟨by simp only [su_r, Nat.reduceEqDiff, not_false_eq_true], by simp only [su_r, Nat.reduceEqDiff, not_false_eq_true], by simp only [su_r, Nat.reduceEqDiff, not_false_eq_true]⟩ hp, imgL_s hl, rfl⟩
        · omega
        · rw [su_f hq (by decide), su_f hq (by decide), su_f hq (by decide), he q hq]
    · intro m S L τ hI
      rw [hP154] at hI
      obtain ⟨p, rfl, rfl, he, p0, p1, hp, hl, hj, hm⟩ := hI
      simp only [sq_iconst, sq_jsr, sq_anewarray, sq_iload, sq_lload, sq_aload, sq_istore, sq_lstore, sq_astore, sq_iinc, sq_getfield, st_put0, st_put1, st_put3, sq_inv, sq_goto, sq_icmp, sq_ifc, sq_tsw, sq_iadd, sq_isub, sq_imul, sq_ineg, sq_idiv, sq_irem, sq_iand, sq_ior, sq_ixor, sq_ishl, sq_ishr, sq_iushr, sq_ladd, sq_lmul, sq_ldiv, sq_lrem, sq_land, sq_lor, sq_lshl, sq_lushr, sq_lcmp, sq_i2l, sq_l2i, sq_i2c, sq_i2b, sq_dupI, sq_dupR, sq_dup2, sq_pop, sq_iaload, sq_baload, sq_aaload, sq_iastore, sq_bastore, sq_alen, sq_ireturn, sq_lreturn, sq_return, wq_c, wq_n, wlq_s, lkp, tbl, dBk, nth, setL, canSet, cmpI, tk, swK, rdF, entL, catS, cat1, arg, rcv, ald, bld, aln, br, Ccopy, Cmax, Cmin, Cabs, List.take, List.drop, List.reverse, List.reverseAux, List.length, List.append, List.nil_append, List.cons_append, true_and, and_true, and_self, forall_const, true_implies, false_implies, not_true_eq_false, not_false_eq_true, Option.map, reduceCtorEq, reduceIte, or_true, true_or, false_or, or_false, false_and, and_false, List.map, List.append_nil, implies_true, yK, Nat.reduceBEq, beq_self_eq_true, Int.zero_ne_one, Nat.reduceDiv, Nat.reduceMod, Nat.reduceAdd, Nat.reduceSub, Nat.reduceMul, Nat.reduceEqDiff, Nat.reduceLeDiff, Int.reduceToNat, Int.reduceNeg, Int.reduceEq, Int.reduceLT, Int.reduceLE, Int.reduceNatCast, Int.reduceNatCast', Int.reduceAdd, Int.reduceSub, Int.reduceMul, eq_self, Prod.mk.injEq, A_X9_image, V_X9_image, B_X9_image, Y_X9_image, shpT, rfsT, wjq_s, look, m6, su_r, he 82 (by decide), he 83 (by decide), he 84 (by decide), he 85 (by decide), he 86 (by decide), he 87 (by decide), he 67 (by decide), su_at, Int.reduceEq, reduceIte]
      have mv : ∀ v : Int, v = b2 (σ 87 p) → ¬ 12 ≤ p → ∃ m_1, m_1 < m ∧ P154 m_1 [] [vR 67, vI (p + 1)] (su (su (su (su (su (su τ 96 (p * 6) (σ 82 p)) 96 (p * 6 + 1) (σ 83 p)) 96 (p * 6 + 2) (σ 84 p)) 96 (p * 6 + 3) (σ 85 p)) 96 (p * 6 + 4) (σ 86 p)) 96 (p * 6 + 5) v) := fun v hv h => by
        rw [hP154]
        refine ⟨_, ?_, p + 1, rfl, rfl, fun q hq => ?_, (by omega), (by omega), imgP_e ⟨by simp only [su_r, Nat.reduceEqDiff, not_false_eq_true], by simp only [su_r, Nat.reduceEqDiff, not_false_eq_true], by simp only [su_r, Nat.reduceEqDiff, not_false_eq_true]⟩ hp, imgL_e (by simp only [su_r, Nat.reduceEqDiff, not_false_eq_true]) hl, imgJ_s hj hv, rfl⟩
        · omega
        · rw [su_f hq (by decide), su_f hq (by decide), su_f hq (by decide), su_f hq (by decide), su_f hq (by decide), su_f hq (by decide), he q hq]
      refine ⟨fun h => ⟨h0.2, ?_⟩, fun h => ⟨⟨by omega, by omega⟩, ⟨by omega, by omega⟩, ⟨by omega, by omega⟩, ⟨by omega, by omega⟩, ⟨by omega, by omega⟩, ⟨by omega, by omega⟩, ⟨by omega, by omega⟩, ⟨by omega, by omega⟩, ⟨by omega, by omega⟩, ⟨by omega, by omega⟩, ⟨by omega, by omega⟩, ⟨by omega, by omega⟩, ⟨by omega, by omega⟩, ⟨by omega, by omega⟩, ⟨by omega, by omega⟩, ⟨by omega, by omega⟩, ⟨by omega, by omega⟩, ⟨by omega, by omega⟩, ⟨by omega, by omega⟩, ⟨by omega, by omega⟩, ⟨by omega, by omega⟩, ⟨by omega, by omega⟩, fun z => ⟨⟨by omega, by omega⟩, ⟨by omega, by omega⟩, mv 0 (by unfold b2; rw [if_pos z]) h⟩, fun z => ⟨⟨by omega, by omega⟩, ⟨by omega, by omega⟩, mv 1 (by unfold b2; rw [if_neg z]) h⟩⟩⟩
      have e : p = 12 := by omega
      subst e
      refine hq _ (fun q hq => ?_) (fun i hi => ?_) ?_ ?_ ?_ (imgP_e ⟨by simp only [su_r, Nat.reduceEqDiff, not_false_eq_true], by simp only [su_r, Nat.reduceEqDiff, not_false_eq_true], by simp only [su_r, Nat.reduceEqDiff, not_false_eq_true]⟩ hp) (imgL_e (by simp only [su_r, Nat.reduceEqDiff, not_false_eq_true]) hl) (imgJ_e (by simp only [su_r, Nat.reduceEqDiff, not_false_eq_true]) hj)
      · rw [su_ne q (by omega), su_ne q (by omega), su_ne q (by omega), he q (by omega)]
      · rw [su_x (by omega), su_x (by omega), su_x (by omega), he 67 (by decide)]
      · simp only [su_at, Int.reduceEq, reduceIte]
      · simp only [su_at, Int.reduceEq, reduceIte]
      · simp only [su_at, Int.reduceEq, reduceIte]
    · simp only [sq_iconst, sq_jsr, sq_anewarray, sq_iload, sq_lload, sq_aload, sq_istore, sq_lstore, sq_astore, sq_iinc, sq_getfield, st_put0, st_put1, st_put3, sq_inv, sq_goto, sq_icmp, sq_ifc, sq_tsw, sq_iadd, sq_isub, sq_imul, sq_ineg, sq_idiv, sq_irem, sq_iand, sq_ior, sq_ixor, sq_ishl, sq_ishr, sq_iushr, sq_ladd, sq_lmul, sq_ldiv, sq_lrem, sq_land, sq_lor, sq_lshl, sq_lushr, sq_lcmp, sq_i2l, sq_l2i, sq_i2c, sq_i2b, sq_dupI, sq_dupR, sq_dup2, sq_pop, sq_iaload, sq_baload, sq_aaload, sq_iastore, sq_bastore, sq_alen, sq_ireturn, sq_lreturn, sq_return, wq_c, wq_n, wlq_s, lkp, tbl, dBk, nth, setL, canSet, cmpI, tk, swK, rdF, entL, catS, cat1, arg, rcv, ald, bld, aln, br, Ccopy, Cmax, Cmin, Cabs, List.take, List.drop, List.reverse, List.reverseAux, List.length, List.append, List.nil_append, List.cons_append, true_and, and_true, and_self, forall_const, true_implies, false_implies, not_true_eq_false, not_false_eq_true, Option.map, reduceCtorEq, reduceIte, or_true, true_or, false_or, or_false, false_and, and_false, List.map, List.append_nil, implies_true, yK, Nat.reduceBEq, beq_self_eq_true, Int.zero_ne_one, Nat.reduceDiv, Nat.reduceMod, Nat.reduceAdd, Nat.reduceSub, Nat.reduceMul, Nat.reduceEqDiff, Nat.reduceLeDiff, Int.reduceToNat, Int.reduceNeg, Int.reduceEq, Int.reduceLT, Int.reduceLE, Int.reduceNatCast, Int.reduceNatCast', Int.reduceAdd, Int.reduceSub, Int.reduceMul, eq_self, Prod.mk.injEq, A_X9_image, V_X9_image, B_X9_image, Y_X9_image, shpT, rfsT, wjq_s, look]
      rw [hP2]
      exact ⟨_, 0, rfl, rfl, fun _ _ => rfl, (by omega), (by omega), fun x x0 x1 => by omega, rfl⟩
def A_X6_copyFrom : List (Nat × Ctr) := [(5, Ccopy)]
theorem e_X6_copyFrom (o : OM) : Ev o Y_X6_copyFrom 1 T_X6_copyFrom A_X6_copyFrom := ⟨rfl, List.forall_mem_cons.mpr ⟨Or.inl f_X6_9, List.forall_mem_cons.mpr ⟨Or.inl f_X6_15, List.forall_mem_cons.mpr ⟨Or.inl f_X6_19, List.forall_mem_cons.mpr ⟨Or.inl f_X6_22, List.forall_mem_cons.mpr ⟨Or.inl f_X6_25, List.forall_mem_cons.mpr ⟨Or.inl f_X6_28, fun _ h => absurd h List.not_mem_nil⟩⟩⟩⟩⟩⟩, fun _ h => absurd h List.not_mem_nil, fun _ h => absurd h List.not_mem_nil, fun _ h => absurd h List.not_mem_nil, fun _ h => absurd h List.not_mem_nil, List.forall_mem_cons.mpr ⟨copy_ok w_1033 w_590 w_589 w_19, fun _ h => absurd h List.not_mem_nil⟩⟩
def C_X6_copyFrom : Ctr := fun A σ k => wpl A_X6_copyFrom V_X6_copyFrom (yK Y_X6_copyFrom) B_X6_copyFrom k 1 0 [] (entL A) σ
theorem s_X6_copyFrom (o : OM) : Sound o Y_X6_copyFrom 1 C_X6_copyFrom := fun Q A σ _ hC => at_wpl (e_X6_copyFrom o) k_X6_copyFrom 1 0 [] (entL A) σ hC
def A_X0_copyFrom : List (Nat × Ctr) := [(5, Ccopy)]
theorem e_X0_copyFrom (o : OM) : Ev o Y_X0_copyFrom 1 T_X0_copyFrom A_X0_copyFrom := ⟨rfl, List.forall_mem_cons.mpr ⟨Or.inl f_X0_9, List.forall_mem_cons.mpr ⟨Or.inl f_X0_15, List.forall_mem_cons.mpr ⟨Or.inl f_X0_19, List.forall_mem_cons.mpr ⟨Or.inl f_X0_22, List.forall_mem_cons.mpr ⟨Or.inl f_X0_25, List.forall_mem_cons.mpr ⟨Or.inl f_X0_28, List.forall_mem_cons.mpr ⟨Or.inl f_X0_31, List.forall_mem_cons.mpr ⟨Or.inl f_X0_34, List.forall_mem_cons.mpr ⟨Or.inl f_X0_37, List.forall_mem_cons.mpr ⟨Or.inl f_X0_40, List.forall_mem_cons.mpr ⟨Or.inl f_X0_43, fun _ h => absurd h List.not_mem_nil⟩⟩⟩⟩⟩⟩⟩⟩⟩⟩⟩, fun _ h => absurd h List.not_mem_nil, fun _ h => absurd h List.not_mem_nil, fun _ h => absurd h List.not_mem_nil, fun _ h => absurd h List.not_mem_nil, List.forall_mem_cons.mpr ⟨copy_ok w_1038 w_590 w_589 w_19, fun _ h => absurd h List.not_mem_nil⟩⟩
def C_X0_copyFrom : Ctr := fun A σ k => wpl A_X0_copyFrom V_X0_copyFrom (yK Y_X0_copyFrom) B_X0_copyFrom k 1 0 [] (entL A) σ
theorem s_X0_copyFrom (o : OM) : Sound o Y_X0_copyFrom 1 C_X0_copyFrom := fun Q A σ _ hC => at_wpl (e_X0_copyFrom o) k_X0_copyFrom 1 0 [] (entL A) σ hC
def A_X8_image : List (Nat × Ctr) := [(2, rcv 6 2 C_X6_copyFrom), (2, rcv 0 2 C_X0_copyFrom)]
theorem e_X8_image (o : OM) : Ev o Y_X8_image 2 T_X8_image A_X8_image := ⟨rfl, List.forall_mem_cons.mpr ⟨Or.inl f_X8_23, List.forall_mem_cons.mpr ⟨Or.inl f_X8_10, List.forall_mem_cons.mpr ⟨Or.inl f_X8_26, List.forall_mem_cons.mpr ⟨Or.inl f_X8_19, List.forall_mem_cons.mpr ⟨Or.inl f_X8_29, List.forall_mem_cons.mpr ⟨Or.inl f_X8_92, fun _ h => absurd h List.not_mem_nil⟩⟩⟩⟩⟩⟩, fun _ h => absurd h List.not_mem_nil, fun _ h => absurd h List.not_mem_nil, fun _ h => absurd h List.not_mem_nil, List.forall_mem_cons.mpr ⟨cl_X6_copyFrom (s_X6_copyFrom o) (by decide) (Or.inr ⟨_, wn_105⟩), List.forall_mem_cons.mpr ⟨cl_X0_copyFrom (s_X0_copyFrom o) (by decide) (Or.inr ⟨_, wn_106⟩), fun _ h => absurd h List.not_mem_nil⟩⟩, fun _ h => absurd h List.not_mem_nil⟩
def C_X8_image : Ctr := fun A σ k => wpl A_X8_image V_X8_image (yK Y_X8_image) B_X8_image k 1 0 [] (entL A) σ
theorem s_X8_image (o : OM) : Sound o Y_X8_image 2 C_X8_image := fun Q A σ _ hC => at_wpl (e_X8_image o) k_X8_image 1 0 [] (entL A) σ hC
def A_X8_restore : List (Nat × Ctr) := [(2, rcv 6 2 C_X6_copyFrom), (2, rcv 0 2 C_X0_copyFrom)]
theorem e_X8_restore (o : OM) : Ev o Y_X8_restore 2 T_X8_restore A_X8_restore := ⟨rfl, List.forall_mem_cons.mpr ⟨Or.inl f_X8_29, List.forall_mem_cons.mpr ⟨Or.inl f_X8_10, List.forall_mem_cons.mpr ⟨Or.inl f_X8_23, List.forall_mem_cons.mpr ⟨Or.inl f_X8_19, List.forall_mem_cons.mpr ⟨Or.inl f_X8_26, List.forall_mem_cons.mpr ⟨Or.inl f_X8_92, fun _ h => absurd h List.not_mem_nil⟩⟩⟩⟩⟩⟩, fun _ h => absurd h List.not_mem_nil, fun _ h => absurd h List.not_mem_nil, fun _ h => absurd h List.not_mem_nil, List.forall_mem_cons.mpr ⟨cl_X6_copyFrom (s_X6_copyFrom o) (by decide) (Or.inr ⟨_, wn_105⟩), List.forall_mem_cons.mpr ⟨cl_X0_copyFrom (s_X0_copyFrom o) (by decide) (Or.inr ⟨_, wn_106⟩), fun _ h => absurd h List.not_mem_nil⟩⟩, fun _ h => absurd h List.not_mem_nil⟩
def C_X8_restore : Ctr := fun A σ k => wpl A_X8_restore V_X8_restore (yK Y_X8_restore) B_X8_restore k 2 0 [] (entL A) σ
theorem s_X8_restore (o : OM) : Sound o Y_X8_restore 2 C_X8_restore := fun Q A σ _ hC => at_wpl (e_X8_restore o) k_X8_restore 2 0 [] (entL A) σ hC
def ovl (f g : Int → Int) (n : Int) : Int → Int := fun j => if 0 ≤ j ∧ j < n then f j else g j
theorem cp_r {σ : Sto} {a b k : Nat} {sp dp n : Int} (h : ¬ k = b) : cpS σ a sp b dp n k = σ k := cpS_ne k h
theorem cp_u {σ : Sto} {a b : Nat} {n : Int} : cpS σ a 0 b 0 n b = ovl (σ a) (σ b) n := by
  rw [cpS_eq]
  funext j
  unfold ovl
  show (if 0 ≤ j ∧ j < 0 + n then σ a (0 + (j - 0)) else σ b j) = _
  rw [Int.zero_add, Int.zero_add, Int.sub_zero]
theorem ovl_in {f g : Int → Int} {n j : Int} (h0 : 0 ≤ j) (h1 : j < n) : ovl f g n j = f j := if_pos ⟨h0, h1⟩
theorem cl_image {σ : Sto} {κ : List AV → Sto → Prop} (h : σ 2 10 = 0 ∨ σ 2 10 = 1) (hk : ∀ T : Sto, (∀ p : Nat, ¬ (p = 0 ∨ p = 3 ∨ p = 4 ∨ (23 ≤ p ∧ p ≤ 34)) → T p = σ p) → (∀ i, ¬ i = 4 → T 0 i = σ 0 i) → T 0 4 = 1 → T 3 0 = σ 1 0 → T 4 0 = σ 2 0 → T 4 6 = σ 2 6 → T 4 7 = σ 2 7 → T 4 10 = σ 2 10 → T 23 = ovl (σ 11) (σ 23) 7 → T 24 = ovl (σ 12) (σ 24) 7 → T 25 = ovl (σ 13) (σ 25) 112 → T 26 = ovl (σ 14) (σ 26) 112 → T 27 = ovl (σ 15) (σ 27) 112 → T 28 = ovl (σ 16) (σ 28) 12 → T 29 = ovl (σ 17) (σ 29) 12 → T 30 = ovl (σ 18) (σ 30) 12 → T 31 = ovl (σ 19) (σ 31) 12 → T 32 = ovl (σ 20) (σ 32) 12 → T 33 = ovl (σ 21) (σ 33) 7 → T 34 = ovl (σ 22) (σ 34) 7 → κ [vI (σ 1 0)] T) : C_X8_image [vR 0] σ κ := by
  simp only [C_X8_image, sq_iconst, sq_jsr, sq_anewarray, sq_iload, sq_lload, sq_aload, sq_istore, sq_lstore, sq_astore, sq_iinc, sq_getfield, st_put0, st_put1, st_put3, sq_inv, sq_goto, sq_icmp, sq_ifc, sq_tsw, sq_iadd, sq_isub, sq_imul, sq_ineg, sq_idiv, sq_irem, sq_iand, sq_ior, sq_ixor, sq_ishl, sq_ishr, sq_iushr, sq_ladd, sq_lmul, sq_ldiv, sq_lrem, sq_land, sq_lor, sq_lshl, sq_lushr, sq_lcmp, sq_i2l, sq_l2i, sq_i2c, sq_i2b, sq_dupI, sq_dupR, sq_dup2, sq_pop, sq_iaload, sq_baload, sq_aaload, sq_iastore, sq_bastore, sq_alen, sq_ireturn, sq_lreturn, sq_return, wq_c, wq_n, wlq_s, lkp, tbl, dBk, nth, setL, canSet, cmpI, tk, swK, rdF, entL, catS, cat1, arg, rcv, ald, bld, aln, br, Ccopy, Cmax, Cmin, Cabs, List.take, List.drop, List.reverse, List.reverseAux, List.length, List.append, List.nil_append, List.cons_append, true_and, and_true, and_self, forall_const, true_implies, false_implies, not_true_eq_false, not_false_eq_true, Option.map, reduceCtorEq, reduceIte, or_true, true_or, false_or, or_false, false_and, and_false, List.map, List.append_nil, implies_true, yK, Nat.reduceBEq, beq_self_eq_true, Int.zero_ne_one, Nat.reduceDiv, Nat.reduceMod, Nat.reduceAdd, Nat.reduceSub, Nat.reduceMul, Nat.reduceEqDiff, Nat.reduceLeDiff, Int.reduceToNat, Int.reduceNeg, Int.reduceEq, Int.reduceLT, Int.reduceLE, Int.reduceNatCast, Int.reduceNatCast', Int.reduceAdd, Int.reduceSub, Int.reduceMul, eq_self, Prod.mk.injEq, A_X8_image, V_X8_image, B_X8_image, Y_X8_image, C_X6_copyFrom, A_X6_copyFrom, V_X6_copyFrom, B_X6_copyFrom, Y_X6_copyFrom, C_X0_copyFrom, A_X0_copyFrom, V_X0_copyFrom, B_X0_copyFrom, Y_X0_copyFrom, shpT, rfsT, su_r, cp_r, su_at, Int.reduceEq, reduceIte]
  refine ⟨h, hk _ (fun p hp => ?_) (fun i hi => ?_) ?_ ?_ ?_ ?_ ?_ ?_ ?_ ?_ ?_ ?_ ?_ ?_ ?_ ?_ ?_ ?_ ?_ ?_ ⟩
  · repeat (first | rw [su_ne p (by omega)] | rw [cpS_ne p (by omega)])
  · rw [su_x hi]
    simp only [su_r, su_u, cp_r, cp_u, upI_s, upI_n, Nat.reduceEqDiff, Int.reduceEq, not_false_eq_true]
  all_goals simp only [su_r, su_u, cp_r, cp_u, upI_s, upI_n, Nat.reduceEqDiff, Int.reduceEq, not_false_eq_true]
theorem cl_restore {σ : Sto} {κ : List AV → Sto → Prop} (h : σ 4 10 = 0 ∨ σ 4 10 = 1) (h0 : ¬ σ 0 4 = 0) (hk : ∀ T : Sto, (∀ p : Nat, ¬ (p = 1 ∨ p = 2 ∨ (11 ≤ p ∧ p ≤ 22)) → T p = σ p) → T 1 0 = σ 3 0 → T 2 0 = σ 4 0 → T 2 6 = σ 4 6 → T 2 7 = σ 4 7 → T 2 10 = σ 4 10 → T 11 = ovl (σ 23) (σ 11) 7 → T 12 = ovl (σ 24) (σ 12) 7 → T 13 = ovl (σ 25) (σ 13) 112 → T 14 = ovl (σ 26) (σ 14) 112 → T 15 = ovl (σ 27) (σ 15) 112 → T 16 = ovl (σ 28) (σ 16) 12 → T 17 = ovl (σ 29) (σ 17) 12 → T 18 = ovl (σ 30) (σ 18) 12 → T 19 = ovl (σ 31) (σ 19) 12 → T 20 = ovl (σ 32) (σ 20) 12 → T 21 = ovl (σ 33) (σ 21) 7 → T 22 = ovl (σ 34) (σ 22) 7 → κ [vI (σ 3 0)] T) : C_X8_restore [vR 0] σ κ := by
  simp only [C_X8_restore, sq_iconst, sq_jsr, sq_anewarray, sq_iload, sq_lload, sq_aload, sq_istore, sq_lstore, sq_astore, sq_iinc, sq_getfield, st_put0, st_put1, st_put3, sq_inv, sq_goto, sq_icmp, sq_ifc, sq_tsw, sq_iadd, sq_isub, sq_imul, sq_ineg, sq_idiv, sq_irem, sq_iand, sq_ior, sq_ixor, sq_ishl, sq_ishr, sq_iushr, sq_ladd, sq_lmul, sq_ldiv, sq_lrem, sq_land, sq_lor, sq_lshl, sq_lushr, sq_lcmp, sq_i2l, sq_l2i, sq_i2c, sq_i2b, sq_dupI, sq_dupR, sq_dup2, sq_pop, sq_iaload, sq_baload, sq_aaload, sq_iastore, sq_bastore, sq_alen, sq_ireturn, sq_lreturn, sq_return, wq_c, wq_n, wlq_s, lkp, tbl, dBk, nth, setL, canSet, cmpI, tk, swK, rdF, entL, catS, cat1, arg, rcv, ald, bld, aln, br, Ccopy, Cmax, Cmin, Cabs, List.take, List.drop, List.reverse, List.reverseAux, List.length, List.append, List.nil_append, List.cons_append, true_and, and_true, and_self, forall_const, true_implies, false_implies, not_true_eq_false, not_false_eq_true, Option.map, reduceCtorEq, reduceIte, or_true, true_or, false_or, or_false, false_and, and_false, List.map, List.append_nil, implies_true, yK, Nat.reduceBEq, beq_self_eq_true, Int.zero_ne_one, Nat.reduceDiv, Nat.reduceMod, Nat.reduceAdd, Nat.reduceSub, Nat.reduceMul, Nat.reduceEqDiff, Nat.reduceLeDiff, Int.reduceToNat, Int.reduceNeg, Int.reduceEq, Int.reduceLT, Int.reduceLE, Int.reduceNatCast, Int.reduceNatCast', Int.reduceAdd, Int.reduceSub, Int.reduceMul, eq_self, Prod.mk.injEq, A_X8_restore, V_X8_restore, B_X8_restore, Y_X8_restore, C_X6_copyFrom, A_X6_copyFrom, V_X6_copyFrom, B_X6_copyFrom, Y_X6_copyFrom, C_X0_copyFrom, A_X0_copyFrom, V_X0_copyFrom, B_X0_copyFrom, Y_X0_copyFrom, shpT, rfsT, br, su_r, cp_r, su_at, Int.reduceEq, reduceIte]
  refine ⟨fun _ => ⟨h, hk _ (fun p hp => ?_) ?_ ?_ ?_ ?_ ?_ ?_ ?_ ?_ ?_ ?_ ?_ ?_ ?_ ?_ ?_ ?_ ?_ ⟩, fun z => absurd h0 z⟩
  · repeat (first | rw [su_ne p (by omega)] | rw [cpS_ne p (by omega)])
  all_goals simp only [su_r, su_u, cp_r, cp_u, upI_s, upI_n, Nat.reduceEqDiff, Int.reduceEq, not_false_eq_true]
def e1b (v : Int) : Int := if v = 1 then 1 else 0
def RstP (σ τ : Sto) (n : Int) : Prop := τ 68 = ovl (σ 93) (σ 68) n ∧ τ 69 = ovl (σ 94) (σ 69) n ∧ τ 88 = ovl (fun x => e1b (σ 97 (x * 3))) (σ 88) n ∧ τ 89 = ovl (fun x => σ 97 (x * 3 + 1)) (σ 89) n ∧ τ 90 = ovl (fun x => σ 97 (x * 3 + 2)) (σ 90) n
def RstL (σ τ : Sto) (n : Int) : Prop := τ 70 = ovl (fun x => σ 95 (x * 3)) (σ 70) n ∧ τ 71 = ovl (fun x => σ 95 (x * 3 + 1)) (σ 71) n ∧ τ 72 = ovl (fun x => σ 95 (x * 3 + 2)) (σ 72) n
def RstJ (σ τ : Sto) (n : Int) : Prop := τ 82 = ovl (fun x => σ 96 (x * 6)) (σ 82) n ∧ τ 83 = ovl (fun x => σ 96 (x * 6 + 1)) (σ 83) n ∧ τ 84 = ovl (fun x => σ 96 (x * 6 + 2)) (σ 84) n ∧ τ 85 = ovl (fun x => σ 96 (x * 6 + 3)) (σ 85) n ∧ τ 86 = ovl (fun x => σ 96 (x * 6 + 4)) (σ 86) n ∧ τ 87 = ovl (fun x => e1b (σ 96 (x * 6 + 5))) (σ 87) n
theorem ovl_0 {f g : Int → Int} : g = ovl f g 0 := by
  funext j; unfold ovl; rw [if_neg (by omega)]
theorem ovl_s {f g : Int → Int} {p v : Int} (h0 : 0 ≤ p) (hv : v = f p) : upI (ovl f g p) p v = ovl f g (p + 1) := by
  funext j
  unfold upI ovl
  by_cases e : j = p
  · subst e; rw [if_pos rfl, if_pos (by omega), hv]
  · rw [if_neg e]
    by_cases c : 0 ≤ j ∧ j < p
    · rw [if_pos c, if_pos (by omega)]
    · rw [if_neg c, if_neg (by omega)]
theorem ovl_c {f f' g g' : Int → Int} {n : Int} (h : ∀ j, 0 ≤ j → j < n → f j = f' j) (hg : g = g') : ovl f g n = ovl f' g' n := by
  subst hg
  funext j
  unfold ovl
  by_cases c : 0 ≤ j ∧ j < n
  · rw [if_pos c, if_pos c, h j c.1 c.2]
  · rw [if_neg c, if_neg c]
def fixR (τ σ : Sto) : Prop := ∀ q : Nat, ¬ ((68 ≤ q ∧ q ≤ 72) ∨ (82 ≤ q ∧ q ≤ 90)) → τ q = σ q
theorem rstP_s {σ τ : Sto} {p v : Int} (p0 : 0 ≤ p) (h : RstP σ τ p) (hv : v = e1b (σ 97 (p * 3))) : RstP σ (su (su (su (su (su τ 68 p (σ 93 p)) 69 p (σ 94 p)) 88 p v) 89 p (σ 97 (p * 3 + 1))) 90 p (σ 97 (p * 3 + 2))) (p + 1) := by
  unfold RstP
  simp only [su_r, su_u, Nat.reduceEqDiff, not_false_eq_true]
  rw [h.1, h.2.1, h.2.2.1, h.2.2.2.1, h.2.2.2.2]
  exact ⟨ovl_s p0 rfl, ovl_s p0 rfl, ovl_s p0 hv, ovl_s p0 rfl, ovl_s p0 rfl⟩
theorem rstL_s {σ τ : Sto} {p : Int} (p0 : 0 ≤ p) (h : RstL σ τ p) : RstL σ (su (su (su τ 70 p (σ 95 (p * 3))) 71 p (σ 95 (p * 3 + 1))) 72 p (σ 95 (p * 3 + 2))) (p + 1) := by
  unfold RstL
  simp only [su_r, su_u, Nat.reduceEqDiff, not_false_eq_true]
  rw [h.1, h.2.1, h.2.2]
  exact ⟨ovl_s p0 rfl, ovl_s p0 rfl, ovl_s p0 rfl⟩
theorem rstJ_s {σ τ : Sto} {p v : Int} (p0 : 0 ≤ p) (h : RstJ σ τ p) (hv : v = e1b (σ 96 (p * 6 + 5))) : RstJ σ (su (su (su (su (su (su τ 82 p (σ 96 (p * 6))) 83 p (σ 96 (p * 6 + 1))) 84 p (σ 96 (p * 6 + 2))) 85 p (σ 96 (p * 6 + 3))) 86 p (σ 96 (p * 6 + 4))) 87 p v) (p + 1) := by
  unfold RstJ
  simp only [su_r, su_u, Nat.reduceEqDiff, not_false_eq_true]
  rw [h.1, h.2.1, h.2.2.1, h.2.2.2.1, h.2.2.2.2.1, h.2.2.2.2.2]
  exact ⟨ovl_s p0 rfl, ovl_s p0 rfl, ovl_s p0 rfl, ovl_s p0 rfl, ovl_s p0 rfl, ovl_s p0 hv⟩
theorem rstP_e {σ τ τ' : Sto} {n : Int} (h : τ' 68 = τ 68 ∧ τ' 69 = τ 69 ∧ τ' 88 = τ 88 ∧ τ' 89 = τ 89 ∧ τ' 90 = τ 90) (hp : RstP σ τ n) : RstP σ τ' n := by
  unfold RstP; rw [h.1, h.2.1, h.2.2.1, h.2.2.2.1, h.2.2.2.2]; exact hp
theorem rstL_e {σ τ τ' : Sto} {n : Int} (h : τ' 70 = τ 70 ∧ τ' 71 = τ 71 ∧ τ' 72 = τ 72) (hp : RstL σ τ n) : RstL σ τ' n := by
  unfold RstL; rw [h.1, h.2.1, h.2.2]; exact hp
theorem rstJ_e {σ τ τ' : Sto} {n : Int} (h : τ' 82 = τ 82 ∧ τ' 83 = τ 83 ∧ τ' 84 = τ 84 ∧ τ' 85 = τ 85 ∧ τ' 86 = τ 86 ∧ τ' 87 = τ 87) (hp : RstJ σ τ n) : RstJ σ τ' n := by
  unfold RstJ; rw [h.1, h.2.1, h.2.2.1, h.2.2.2.1, h.2.2.2.2.1, h.2.2.2.2.2]; exact hp
def A_X9_restore : List (Nat × Ctr) := []
theorem e_X9_restore (o : OM) : Ev o Y_X9_restore 0 T_X9_restore A_X9_restore := ⟨rfl, List.forall_mem_cons.mpr ⟨Or.inl f_X9_105, List.forall_mem_cons.mpr ⟨Or.inl f_X9_7, List.forall_mem_cons.mpr ⟨Or.inl f_X9_86, List.forall_mem_cons.mpr ⟨Or.inl f_X9_13, List.forall_mem_cons.mpr ⟨Or.inl f_X9_89, List.forall_mem_cons.mpr ⟨Or.inl f_X9_71, List.forall_mem_cons.mpr ⟨Or.inl f_X9_98, List.forall_mem_cons.mpr ⟨Or.inl f_X9_74, List.forall_mem_cons.mpr ⟨Or.inl f_X9_77, List.forall_mem_cons.mpr ⟨Or.inl f_X9_16, List.forall_mem_cons.mpr ⟨Or.inl f_X9_92, List.forall_mem_cons.mpr ⟨Or.inl f_X9_19, List.forall_mem_cons.mpr ⟨Or.inl f_X9_22, List.forall_mem_cons.mpr ⟨Or.inl f_X9_53, List.forall_mem_cons.mpr ⟨Or.inl f_X9_95, List.forall_mem_cons.mpr ⟨Or.inl f_X9_56, List.forall_mem_cons.mpr ⟨Or.inl f_X9_59, List.forall_mem_cons.mpr ⟨Or.inl f_X9_62, List.forall_mem_cons.mpr ⟨Or.inl f_X9_65, List.forall_mem_cons.mpr ⟨Or.inl f_X9_68, List.forall_mem_cons.mpr ⟨Or.inl f_X9_109, List.forall_mem_cons.mpr ⟨Or.inl f_X9_382, List.forall_mem_cons.mpr ⟨Or.inl f_X9_325, List.forall_mem_cons.mpr ⟨Or.inl f_X9_385, List.forall_mem_cons.mpr ⟨Or.inl f_X9_101, fun _ h => absurd h List.not_mem_nil⟩⟩⟩⟩⟩⟩⟩⟩⟩⟩⟩⟩⟩⟩⟩⟩⟩⟩⟩⟩⟩⟩⟩⟩⟩, fun _ h => absurd h List.not_mem_nil, fun _ h => absurd h List.not_mem_nil, fun _ h => absurd h List.not_mem_nil, fun _ h => absurd h List.not_mem_nil, fun _ h => absurd h List.not_mem_nil⟩
def C_X9_restore : Ctr := fun A σ κ => match A with
  | [.inr (.inr (.inl 67))] => (σ 67 46 = -1 ∨ (0 ≤ σ 67 46 ∧ (σ 67 48 = 0 ∨ σ 67 48 = 1))) ∧ (σ 67 46 = -1 → κ [vI (-103)] σ) ∧ (¬ σ 67 46 = -1 → ∀ τ : Sto, (∀ q : Nat, ¬ (q = 67 ∨ (68 ≤ q ∧ q ≤ 72) ∨ (82 ≤ q ∧ q ≤ 90)) → τ q = σ q) → (∀ i, ¬ (i = 0 ∨ i = 32 ∨ i = 42) → τ 67 i = σ 67 i) → τ 67 0 = σ 67 46 → τ 67 32 = σ 67 47 → τ 67 42 = σ 67 48 → RstP σ τ 7 → RstL σ τ 112 → RstJ σ τ 12 → κ [vI (σ 67 46)] τ)
  | _ => False
set_option maxRecDepth 20000 in
theorem s_X9_restore (o : OM) : Sound o Y_X9_restore 0 C_X9_restore := by
  intro Q A σ hA hC
  match A, hA, hC with
  | [.inr (.inr (.inl 67))], hA, hC =>
    obtain ⟨h0, hq⟩ : (σ 67 46 = -1 ∨ (0 ≤ σ 67 46 ∧ (σ 67 48 = 0 ∨ σ 67 48 = 1))) ∧ (σ 67 46 = -1 → Q [vI (-103)] σ) ∧ (¬ σ 67 46 = -1 → ∀ τ : Sto, (∀ q : Nat, ¬ (q = 67 ∨ (68 ≤ q ∧ q ≤ 72) ∨ (82 ≤ q ∧ q ≤ 90)) → τ q = σ q) → (∀ i, ¬ (i = 0 ∨ i = 32 ∨ i = 42) → τ 67 i = σ 67 i) → τ 67 0 = σ 67 46 → τ 67 32 = σ 67 47 → τ 67 42 = σ 67 48 → RstP σ τ 7 → RstL σ τ 112 → RstJ σ τ 12 → Q [vI (σ 67 46)] τ) := hC
    obtain ⟨P2, hP2⟩ : ∃ P : Nat → List AV → List AV → Sto → Prop, P = fun m S L τ => ∃ p : Int, S = [] ∧ L = [vR 67, vI p] ∧ fixR τ σ ∧ ¬ σ 67 46 = -1 ∧ 0 ≤ p ∧ p ≤ 7 ∧ RstP σ τ p ∧ RstL σ τ 0 ∧ RstJ σ τ 0 ∧ m = (7 - p + 1000).toNat := ⟨_, rfl⟩
    obtain ⟨P94, hP94⟩ : ∃ P : Nat → List AV → List AV → Sto → Prop, P = fun m S L τ => ∃ p : Int, S = [] ∧ L = [vR 67, vI p] ∧ fixR τ σ ∧ ¬ σ 67 46 = -1 ∧ 0 ≤ p ∧ p ≤ 112 ∧ RstP σ τ 7 ∧ RstL σ τ p ∧ RstJ σ τ 0 ∧ m = (112 - p + 500).toNat := ⟨_, rfl⟩
    obtain ⟨P154, hP154⟩ : ∃ P : Nat → List AV → List AV → Sto → Prop, P = fun m S L τ => ∃ p : Int, S = [] ∧ L = [vR 67, vI p] ∧ fixR τ σ ∧ ¬ σ 67 46 = -1 ∧ 0 ≤ p ∧ p ≤ 12 ∧ RstP σ τ 7 ∧ RstL σ τ 112 ∧ RstJ σ τ p ∧ m = (12 - p).toNat := ⟨_, rfl⟩
    refine at_meth (lv := V_X9_restore) (B := B_X9_restore) (e_X9_restore o) k_X9_restore 5 [(13, P2), (106, P94), (166, P154)] (List.forall_mem_cons.mpr ⟨?_, List.forall_mem_cons.mpr ⟨?_, List.forall_mem_cons.mpr ⟨?_, fun _ h => absurd h List.not_mem_nil⟩⟩⟩) 0 [] _ σ ?_
    · intro m S L τ hI
      rw [hP2] at hI
      obtain ⟨p, rfl, rfl, he, hn, p0, p1, hp, hl, hj, hm⟩ := hI
      simp only [sq_iconst, sq_jsr, sq_anewarray, sq_iload, sq_lload, sq_aload, sq_istore, sq_lstore, sq_astore, sq_iinc, sq_getfield, st_put0, st_put1, st_put3, sq_inv, sq_goto, sq_icmp, sq_ifc, sq_tsw, sq_iadd, sq_isub, sq_imul, sq_ineg, sq_idiv, sq_irem, sq_iand, sq_ior, sq_ixor, sq_ishl, sq_ishr, sq_iushr, sq_ladd, sq_lmul, sq_ldiv, sq_lrem, sq_land, sq_lor, sq_lshl, sq_lushr, sq_lcmp, sq_i2l, sq_l2i, sq_i2c, sq_i2b, sq_dupI, sq_dupR, sq_dup2, sq_pop, sq_iaload, sq_baload, sq_aaload, sq_iastore, sq_bastore, sq_alen, sq_ireturn, sq_lreturn, sq_return, wq_c, wq_n, wlq_s, lkp, tbl, dBk, nth, setL, canSet, cmpI, tk, swK, rdF, entL, catS, cat1, arg, rcv, ald, bld, aln, br, Ccopy, Cmax, Cmin, Cabs, List.take, List.drop, List.reverse, List.reverseAux, List.length, List.append, List.nil_append, List.cons_append, true_and, and_true, and_self, forall_const, true_implies, false_implies, not_true_eq_false, not_false_eq_true, Option.map, reduceCtorEq, reduceIte, or_true, true_or, false_or, or_false, false_and, and_false, List.map, List.append_nil, implies_true, yK, Nat.reduceBEq, beq_self_eq_true, Int.zero_ne_one, Nat.reduceDiv, Nat.reduceMod, Nat.reduceAdd, Nat.reduceSub, Nat.reduceMul, Nat.reduceEqDiff, Nat.reduceLeDiff, Int.reduceToNat, Int.reduceNeg, Int.reduceEq, Int.reduceLT, Int.reduceLE, Int.reduceNatCast, Int.reduceNatCast', Int.reduceAdd, Int.reduceSub, Int.reduceMul, eq_self, Prod.mk.injEq, A_X9_restore, V_X9_restore, B_X9_restore, Y_X9_restore, shpT, rfsT, wjq_s, look, m3, su_r, he 93 (by decide), he 94 (by decide), he 97 (by decide)]
      have mv : ∀ v : Int, v = e1b (σ 97 (p * 3)) → ¬ 7 ≤ p → ∃ m_1, m_1 < m ∧ P2 m_1 [] [vR 67, vI (p + 1)] (su (su (su (su (su τ 68 p (σ 93 p)) 69 p (σ 94 p)) 88 p v) 89 p (σ 97 (p * 3 + 1))) 90 p (σ 97 (p * 3 + 2))) := fun v hv h => by
        rw [hP2]
        refine ⟨_, ?_, p + 1, rfl, rfl, fun q hq => ?_, hn, (by omega), (by omega), rstP_s p0 hp hv, rstL_e (by simp only [su_r, Nat.reduceEqDiff, not_false_eq_true, and_self]) hl, rstJ_e (by simp only [su_r, Nat.reduceEqDiff, not_false_eq_true, and_self]) hj, rfl⟩
        · omega
        · rw [su_ne q (by omega), su_ne q (by omega), su_ne q (by omega), su_ne q (by omega), su_ne q (by omega), he q hq]
      refine ⟨fun h => ?_, fun h => ⟨⟨by omega, by omega⟩, ⟨by omega, by omega⟩, ⟨by omega, by omega⟩, ⟨by omega, by omega⟩, ⟨by omega, by omega⟩, ⟨by omega, by omega⟩, fun z => ⟨⟨by omega, by omega⟩, ⟨by omega, by omega⟩, ⟨by omega, by omega⟩, ⟨by omega, by omega⟩, ⟨by omega, by omega⟩, ⟨by omega, by omega⟩, ⟨by omega, by omega⟩, ⟨by omega, by omega⟩, ⟨by omega, by omega⟩, ⟨by omega, by omega⟩, mv 0 (by unfold e1b; rw [if_neg z]) h⟩, fun z => ⟨⟨by omega, by omega⟩, ⟨by omega, by omega⟩, ⟨by omega, by omega⟩, ⟨by omega, by omega⟩, ⟨by omega, by omega⟩, ⟨by omega, by omega⟩, ⟨by omega, by omega⟩, ⟨by omega, by omega⟩, ⟨by omega, by omega⟩, ⟨by omega, by omega⟩, mv 1 (by unfold e1b; rw [if_pos (Classical.not_not.mp z)]) h⟩⟩⟩
      rw [hP94]
      have e : p = 7 := by omega
      subst e
      exact ⟨_, by omega, 0, rfl, rfl, he, hn, (by omega), (by omega), hp, hl, hj, rfl⟩
    · intro m S L τ hI
      rw [hP94] at hI
      obtain ⟨p, rfl, rfl, he, hn, p0, p1, hp, hl, hj, hm⟩ := hI
      simp only [sq_iconst, sq_jsr, sq_anewarray, sq_iload, sq_lload, sq_aload, sq_istore, sq_lstore, sq_astore, sq_iinc, sq_getfield, st_put0, st_put1, st_put3, sq_inv, sq_goto, sq_icmp, sq_ifc, sq_tsw, sq_iadd, sq_isub, sq_imul, sq_ineg, sq_idiv, sq_irem, sq_iand, sq_ior, sq_ixor, sq_ishl, sq_ishr, sq_iushr, sq_ladd, sq_lmul, sq_ldiv, sq_lrem, sq_land, sq_lor, sq_lshl, sq_lushr, sq_lcmp, sq_i2l, sq_l2i, sq_i2c, sq_i2b, sq_dupI, sq_dupR, sq_dup2, sq_pop, sq_iaload, sq_baload, sq_aaload, sq_iastore, sq_bastore, sq_alen, sq_ireturn, sq_lreturn, sq_return, wq_c, wq_n, wlq_s, lkp, tbl, dBk, nth, setL, canSet, cmpI, tk, swK, rdF, entL, catS, cat1, arg, rcv, ald, bld, aln, br, Ccopy, Cmax, Cmin, Cabs, List.take, List.drop, List.reverse, List.reverseAux, List.length, List.append, List.nil_append, List.cons_append, true_and, and_true, and_self, forall_const, true_implies, false_implies, not_true_eq_false, not_false_eq_true, Option.map, reduceCtorEq, reduceIte, or_true, true_or, false_or, or_false, false_and, and_false, List.map, List.append_nil, implies_true, yK, Nat.reduceBEq, beq_self_eq_true, Int.zero_ne_one, Nat.reduceDiv, Nat.reduceMod, Nat.reduceAdd, Nat.reduceSub, Nat.reduceMul, Nat.reduceEqDiff, Nat.reduceLeDiff, Int.reduceToNat, Int.reduceNeg, Int.reduceEq, Int.reduceLT, Int.reduceLE, Int.reduceNatCast, Int.reduceNatCast', Int.reduceAdd, Int.reduceSub, Int.reduceMul, eq_self, Prod.mk.injEq, A_X9_restore, V_X9_restore, B_X9_restore, Y_X9_restore, shpT, rfsT, wjq_s, look, m3, su_r, he 95 (by decide)]
      refine ⟨fun h => ?_, fun h => ⟨⟨by omega, by omega⟩, ⟨by omega, by omega⟩, ⟨by omega, by omega⟩, ⟨by omega, by omega⟩, ⟨by omega, by omega⟩, ⟨by omega, by omega⟩, ⟨by omega, by omega⟩, ⟨by omega, by omega⟩, ⟨by omega, by omega⟩, ⟨by omega, by omega⟩, ⟨by omega, by omega⟩, ⟨by omega, by omega⟩, ?_⟩⟩
      · rw [hP154]
        have e : p = 112 := by omega
        subst e
        exact ⟨_, by omega, 0, rfl, rfl, he, hn, (by omega), (by omega), hp, hl, hj, rfl⟩
      · rw [hP94]
        refine ⟨_, ?_, p + 1, rfl, rfl, fun q hq => ?_, hn, (by omega), (by omega), rstP_e (by simp only [su_r, Nat.reduceEqDiff, not_false_eq_true, and_self]) hp, rstL_s p0 hl, rstJ_e (by simp only [su_r, Nat.reduceEqDiff, not_false_eq_true, and_self]) hj, rfl⟩
        · omega
        · rw [su_ne q (by omega), su_ne q (by omega), su_ne q (by omega), he q hq]
    · intro m S L τ hI
      rw [hP154] at hI
      obtain ⟨p, rfl, rfl, he, hn, p0, p1, hp, hl, hj, hm⟩ := hI
      simp only [sq_iconst, sq_jsr, sq_anewarray, sq_iload, sq_lload, sq_aload, sq_istore, sq_lstore, sq_astore, sq_iinc, sq_getfield, st_put0, st_put1, st_put3, sq_inv, sq_goto, sq_icmp, sq_ifc, sq_tsw, sq_iadd, sq_isub, sq_imul, sq_ineg, sq_idiv, sq_irem, sq_iand, sq_ior, sq_ixor, sq_ishl, sq_ishr, sq_iushr, sq_ladd, sq_lmul, sq_ldiv, sq_lrem, sq_land, sq_lor, sq_lshl, sq_lushr, sq_lcmp, sq_i2l, sq_l2i, sq_i2c, sq_i2b, sq_dupI, sq_dupR, sq_dup2, sq_pop, sq_iaload, sq_baload, sq_aaload, sq_iastore, sq_bastore, sq_alen, sq_ireturn, sq_lreturn, sq_return, wq_c, wq_n, wlq_s, lkp, tbl, dBk, nth, setL, canSet, cmpI, tk, swK, rdF, entL, catS, cat1, arg, rcv, ald, bld, aln, br, Ccopy, Cmax, Cmin, Cabs, List.take, List.drop, List.reverse, List.reverseAux, List.length, List.append, List.nil_append, List.cons_append, true_and, and_true, and_self, forall_const, true_implies, false_implies, not_true_eq_false, not_false_eq_true, Option.map, reduceCtorEq, reduceIte, or_true, true_or, false_or, or_false, false_and, and_false, List.map, List.append_nil, implies_true, yK, Nat.reduceBEq, beq_self_eq_true, Int.zero_ne_one, Nat.reduceDiv, Nat.reduceMod, Nat.reduceAdd, Nat.reduceSub, Nat.reduceMul, Nat.reduceEqDiff, Nat.reduceLeDiff, Int.reduceToNat, Int.reduceNeg, Int.reduceEq, Int.reduceLT, Int.reduceLE, Int.reduceNatCast, Int.reduceNatCast', Int.reduceAdd, Int.reduceSub, Int.reduceMul, eq_self, Prod.mk.injEq, A_X9_restore, V_X9_restore, B_X9_restore, Y_X9_restore, shpT, rfsT, wjq_s, look, m6, su_r, he 96 (by decide), he 67 (by decide), su_at, Int.reduceEq, reduceIte]
      have mv : ∀ v : Int, v = e1b (σ 96 (p * 6 + 5)) → ¬ 12 ≤ p → ∃ m_1, m_1 < m ∧ P154 m_1 [] [vR 67, vI (p + 1)] (su (su (su (su (su (su τ 82 p (σ 96 (p * 6))) 83 p (σ 96 (p * 6 + 1))) 84 p (σ 96 (p * 6 + 2))) 85 p (σ 96 (p * 6 + 3))) 86 p (σ 96 (p * 6 + 4))) 87 p v) := fun v hv h => by
        rw [hP154]
        refine ⟨_, ?_, p + 1, rfl, rfl, fun q hq => ?_, hn, (by omega), (by omega), rstP_e (by simp only [su_r, Nat.reduceEqDiff, not_false_eq_true, and_self]) hp, rstL_e (by simp only [su_r, Nat.reduceEqDiff, not_false_eq_true, and_self]) hl, rstJ_s p0 hj hv, rfl⟩
        · omega
        · rw [su_ne q (by omega), su_ne q (by omega), su_ne q (by omega), su_ne q (by omega), su_ne q (by omega), su_ne q (by omega), he q hq]
      refine ⟨fun h => ⟨(h0.resolve_left hn).2, ?_⟩, fun h => ⟨⟨by omega, by omega⟩, ⟨by omega, by omega⟩, ⟨by omega, by omega⟩, ⟨by omega, by omega⟩, ⟨by omega, by omega⟩, ⟨by omega, by omega⟩, ⟨by omega, by omega⟩, ⟨by omega, by omega⟩, ⟨by omega, by omega⟩, ⟨by omega, by omega⟩, ⟨by omega, by omega⟩, ⟨by omega, by omega⟩, ⟨by omega, by omega⟩, ⟨by omega, by omega⟩, ⟨by omega, by omega⟩, ⟨by omega, by omega⟩, ⟨by omega, by omega⟩, ⟨by omega, by omega⟩, ⟨by omega, by omega⟩, ⟨by omega, by omega⟩, ⟨by omega, by omega⟩, ⟨by omega, by omega⟩, fun z => ⟨⟨by omega, by omega⟩, ⟨by omega, by omega⟩, mv 0 (by unfold e1b; rw [if_neg z]) h⟩, fun z => ⟨⟨by omega, by omega⟩, ⟨by omega, by omega⟩, mv 1 (by unfold e1b; rw [if_pos (Classical.not_not.mp z)]) h⟩⟩⟩
      have e : p = 12 := by omega
      subst e
      refine hq.2 hn _ (fun q hq => ?_) (fun i hi => ?_) ?_ ?_ ?_ (rstP_e (by simp only [su_r, Nat.reduceEqDiff, not_false_eq_true, and_self]) hp) (rstL_e (by simp only [su_r, Nat.reduceEqDiff, not_false_eq_true, and_self]) hl) (rstJ_e (by simp only [su_r, Nat.reduceEqDiff, not_false_eq_true, and_self]) hj)
      · rw [su_ne q (by omega), su_ne q (by omega), su_ne q (by omega), he q (by omega)]
      · rw [su_x (by omega), su_x (by omega), su_x (by omega), he 67 (by decide)]
      · simp only [su_at, Int.reduceEq, reduceIte]
      · simp only [su_at, Int.reduceEq, reduceIte]
      · simp only [su_at, Int.reduceEq, reduceIte]
    · simp only [sq_iconst, sq_jsr, sq_anewarray, sq_iload, sq_lload, sq_aload, sq_istore, sq_lstore, sq_astore, sq_iinc, sq_getfield, st_put0, st_put1, st_put3, sq_inv, sq_goto, sq_icmp, sq_ifc, sq_tsw, sq_iadd, sq_isub, sq_imul, sq_ineg, sq_idiv, sq_irem, sq_iand, sq_ior, sq_ixor, sq_ishl, sq_ishr, sq_iushr, sq_ladd, sq_lmul, sq_ldiv, sq_lrem, sq_land, sq_lor, sq_lshl, sq_lushr, sq_lcmp, sq_i2l, sq_l2i, sq_i2c, sq_i2b, sq_dupI, sq_dupR, sq_dup2, sq_pop, sq_iaload, sq_baload, sq_aaload, sq_iastore, sq_bastore, sq_alen, sq_ireturn, sq_lreturn, sq_return, wq_c, wq_n, wlq_s, lkp, tbl, dBk, nth, setL, canSet, cmpI, tk, swK, rdF, entL, catS, cat1, arg, rcv, ald, bld, aln, br, Ccopy, Cmax, Cmin, Cabs, List.take, List.drop, List.reverse, List.reverseAux, List.length, List.append, List.nil_append, List.cons_append, true_and, and_true, and_self, forall_const, true_implies, false_implies, not_true_eq_false, not_false_eq_true, Option.map, reduceCtorEq, reduceIte, or_true, true_or, false_or, or_false, false_and, and_false, List.map, List.append_nil, implies_true, yK, Nat.reduceBEq, beq_self_eq_true, Int.zero_ne_one, Nat.reduceDiv, Nat.reduceMod, Nat.reduceAdd, Nat.reduceSub, Nat.reduceMul, Nat.reduceEqDiff, Nat.reduceLeDiff, Int.reduceToNat, Int.reduceNeg, Int.reduceEq, Int.reduceLT, Int.reduceLE, Int.reduceNatCast, Int.reduceNatCast', Int.reduceAdd, Int.reduceSub, Int.reduceMul, eq_self, Prod.mk.injEq, A_X9_restore, V_X9_restore, B_X9_restore, Y_X9_restore, shpT, rfsT, wjq_s, look]
      rw [hP2]
      exact ⟨fun h => ⟨_, 0, rfl, rfl, fun _ _ => rfl, h, (by omega), (by omega), ⟨ovl_0, ovl_0, ovl_0, ovl_0, ovl_0⟩, ⟨ovl_0, ovl_0, ovl_0⟩, ⟨ovl_0, ovl_0, ovl_0, ovl_0, ovl_0, ovl_0⟩, rfl⟩, fun h => hq.1 (Classical.not_not.mp h)⟩
theorem Pic_congr {n J kb tb lk : Int} {mi sz kd th nm fa fb lo hi db tl tu kp td mi' sz' kd' th' nm' fa' fb' lo' hi' db' tl' tu' kp' td' : Int → Int} (h1 : ∀ p, 0 ≤ p → p < 7 → mi' p = mi p ∧ sz' p = sz p ∧ tl' p = tl p ∧ tu' p = tu p ∧ td' p = td p) (h2 : ∀ k, 0 ≤ k → k < 112 → kd' k = kd k ∧ th' k = th k ∧ nm' k = nm k) (h3 : ∀ j, 0 ≤ j → j < 12 → fa' j = fa j ∧ fb' j = fb j ∧ lo' j = lo j ∧ hi' j = hi j ∧ db' j = db j ∧ kp' j = kp j) (h : Pic n J kb tb lk mi sz kd th nm fa fb lo hi db tl tu kp td) : Pic n J kb tb lk mi' sz' kd' th' nm' fa' fb' lo' hi' db' tl' tu' kp' td' := by
  obtain ⟨c1, c2, c3, c4, c5, c6, c7, c8, c9, c10, c11, c12, c13, c14, c15, c16⟩ := h
  refine ⟨c1, fun p a b => by rw [(h1 p a b).2.1]; exact c2 p a b, fun k a b => by rw [(h2 k a b).1, (h2 k a b).2.2]; exact c3 k a b, fun k a b => by rw [(h2 k a b).2.1]; exact c4 k a b, fun p a b => by rw [(h1 p a b).1]; exact c5 p a b, c6, fun j a b => ?_, fun j a b => by rw [(h3 j a b).2.2.2.2.1]; exact c8 j a b, fun p a b => by rw [(h1 p a b).2.2.1, (h1 p a b).2.2.2.1]; exact c9 p a b, c10, fun j a b => ?_, fun j a b => by rw [(h3 j a b).2.2.2.2.2]; exact c12 j a b, c13, fun p a b => ?_, fun p a b => by rw [(h1 p a b).2.2.2.2]; exact c15 p a b, c16⟩
  · have z := h3 j a (by omega)
    rw [z.1, z.2.1, z.2.2.1, z.2.2.2.1]
    exact c7 j a b
  · rw [c11 j a b]
    by_cases y : j < J
    · rw [(h3 j a (by omega)).2.2.2.2.2]
    · exact ⟨fun z => absurd z.1 y, fun z => absurd z.1 y⟩
  · rw [c14 p a b]
    by_cases y : p < n
    · rw [(h1 p a (by omega)).2.2.2.2]
    · exact ⟨fun z => absurd z.1 y, fun z => absurd z.1 y⟩
theorem Rel_i {τ σ : Sto} (h1 : ∀ p : Nat, ¬ (p = 0 ∨ p = 3 ∨ p = 4 ∨ (23 ≤ p ∧ p ≤ 34) ∨ p = 67 ∨ (93 ≤ p ∧ p ≤ 97)) → τ p = σ p) (h2 : ∀ i, ¬ (i = 46 ∨ i = 47 ∨ i = 48) → τ 67 i = σ 67 i) (h3 : ∀ i, ¬ i = 4 → τ 0 i = σ 0 i) (hi : RImg τ) (hR : Rel σ) : Rel τ := by
  obtain ⟨r1, r2, r3, r4, r5, -, r7⟩ := hR
  refine ⟨?_, ?_, ?_, ?_, ?_, hi, ?_⟩
  · unfold RCur at *
    simp only [h1 1 (by decide), h1 2 (by decide), h1 11 (by decide), h1 12 (by decide), h1 13 (by decide), h1 14 (by decide), h1 15 (by decide), h1 16 (by decide), h1 17 (by decide), h1 18 (by decide), h1 19 (by decide), h1 20 (by decide), h1 21 (by decide), h1 22 (by decide), h1 87 (by decide), h1 88 (by decide), h1 68 (by decide), h1 69 (by decide), h1 70 (by decide), h1 71 (by decide), h1 72 (by decide), h1 82 (by decide), h1 83 (by decide), h1 84 (by decide), h1 85 (by decide), h1 86 (by decide), h1 89 (by decide), h1 90 (by decide)]
    exact r1
  · unfold REq at *
    simp only [h1 1 (by decide), h1 2 (by decide), h1 11 (by decide), h1 12 (by decide), h1 13 (by decide), h1 14 (by decide), h1 15 (by decide), h1 16 (by decide), h1 17 (by decide), h1 18 (by decide), h1 19 (by decide), h1 20 (by decide), h1 21 (by decide), h1 22 (by decide), h1 87 (by decide), h1 88 (by decide), h1 68 (by decide), h1 69 (by decide), h1 70 (by decide), h1 71 (by decide), h1 72 (by decide), h1 82 (by decide), h1 83 (by decide), h1 84 (by decide), h1 85 (by decide), h1 86 (by decide), h1 89 (by decide), h1 90 (by decide), h2 0 (by decide), h2 32 (by decide), h2 42 (by decide)]
    exact r2
  · unfold RPage at *
    rw [h2 8 (by decide), h1 5 (by decide), h1 73 (by decide), h1 35 (by decide)]
    exact r3
  · unfold RHand at *
    rw [h2 9 (by decide), h1 6 (by decide), h1 37 (by decide), h1 74 (by decide)]
    exact r4
  · unfold RLaw at *
    rw [h2 11 (by decide), h1 7 (by decide), h1 75 (by decide), h1 38 (by decide)]
    exact r5
  · unfold RCnt at *
    rw [h2 31 (by decide), h2 45 (by decide), h3 11 (by decide), h3 12 (by decide)]
    exact r7
theorem Rel_j {τ σ : Sto} (h1 : ∀ p : Nat, ¬ (p = 1 ∨ p = 2 ∨ (11 ≤ p ∧ p ≤ 22) ∨ (67 ≤ p ∧ p ≤ 72) ∨ (82 ≤ p ∧ p ≤ 90)) → τ p = σ p) (h2 : ∀ i, ¬ (i = 0 ∨ i = 32 ∨ i = 42) → τ 67 i = σ 67 i) (hc : RCur τ) (he : REq τ) (hR : Rel σ) : Rel τ := by
  obtain ⟨-, -, r3, r4, r5, r6, r7⟩ := hR
  refine ⟨hc, he, ?_, ?_, ?_, ?_, ?_⟩
  · unfold RPage at *
    rw [h2 8 (by decide), h1 5 (by decide), h1 73 (by decide), h1 35 (by decide)]
    exact r3
  · unfold RHand at *
    rw [h2 9 (by decide), h1 6 (by decide), h1 37 (by decide), h1 74 (by decide)]
    exact r4
  · unfold RLaw at *
    rw [h2 11 (by decide), h1 7 (by decide), h1 75 (by decide), h1 38 (by decide)]
    exact r5
  · unfold RImg at *
    simp only [h1 23 (by decide), h1 24 (by decide), h1 25 (by decide), h1 26 (by decide), h1 27 (by decide), h1 28 (by decide), h1 29 (by decide), h1 30 (by decide), h1 31 (by decide), h1 32 (by decide), h1 33 (by decide), h1 34 (by decide), h1 3 (by decide), h1 4 (by decide), h1 93 (by decide), h1 94 (by decide), h1 95 (by decide), h1 96 (by decide), h1 97 (by decide), h1 0 (by decide), h2 46 (by decide), h2 47 (by decide), h2 48 (by decide)]
    exact r6
  · unfold RCnt at *
    rw [h2 31 (by decide), h2 45 (by decide), h1 0 (by decide)]
    exact r7
theorem b2_id {v : Int} (h : v = 0 ∨ v = 1) : b2 v = v := by
  unfold b2
  rcases h with rfl | rfl <;> simp
theorem e1b_id {v : Int} (h : v = 0 ∨ v = 1) : e1b v = v := by
  unfold e1b
  rcases h with rfl | rfl <;> simp
theorem op_image {σ : Sto} (hR : Rel σ) {κ : List AV → Sto → Prop} (hκ : ∀ v τ, Mid C_X9_image [vR 67] (σ 102) v τ → κ [vI v] τ) : C_X8_image [vR 0] σ κ := by
  obtain ⟨⟨c1, c2, c3, c4, c5, c6, c7, c8, c9, c10, c11, c12, c13, c14, c15, c16⟩, ⟨e1, e2, e3, e4, e5, e6, e7, e8, e9, e10, e11, e12, e13, e14, e15⟩, ⟨g1, g2, g3, g4⟩, ⟨h1, h2, h3, h4, h5, h6⟩, ⟨l1, l2, l3, l4⟩, hImg, ⟨n1, n2, n3, n4⟩⟩ := id hR
  refine cl_image c16 (fun T f1 f2 f3 f4 f5 f6 f7 f8 t23 t24 t25 t26 t27 t28 t29 t30 t31 t32 t33 t34 => hκ _ _ (fun κ' hκ' => ?_))
  have T67 : T 67 = σ 67 := f1 67 (by decide)
  refine ⟨by rw [T67, e1, e3]; exact ⟨c1.1, c16⟩, fun τ g1 g2 g3 g4 g5 gP gL gJ => ?_⟩
  rw [T67] at g2 g3 g4 g5 ⊢
  rw [e1] at *
  refine hκ' τ (Rel_i (σ := σ) (fun p hp => ?_) g2 (fun i hi => by rw [g1 0 (by decide), f2 i hi]) ?_ hR) (by rw [g1 102 (by decide), f1 102 (by decide)])
  · rw [g1 p (by omega), f1 p (by omega)]
  · unfold ImgP at gP
    unfold ImgL at gL
    unfold ImgJ at gJ
    simp only [f1 68 (by decide), f1 69 (by decide), f1 88 (by decide), f1 89 (by decide), f1 90 (by decide), f1 70 (by decide), f1 71 (by decide), f1 72 (by decide), f1 82 (by decide), f1 83 (by decide), f1 84 (by decide), f1 85 (by decide), f1 86 (by decide), f1 87 (by decide), e4, e5, e6, e7, e8, e9, e10, e11, e12, e13, e14, e15] at gP gL gJ
    have v23 := (g1 23 (by decide)).trans t23
    have v24 := (g1 24 (by decide)).trans t24
    have v25 := (g1 25 (by decide)).trans t25
    have v26 := (g1 26 (by decide)).trans t26
    have v27 := (g1 27 (by decide)).trans t27
    have v28 := (g1 28 (by decide)).trans t28
    have v29 := (g1 29 (by decide)).trans t29
    have v30 := (g1 30 (by decide)).trans t30
    have v31 := (g1 31 (by decide)).trans t31
    have v32 := (g1 32 (by decide)).trans t32
    have v33 := (g1 33 (by decide)).trans t33
    have v34 := (g1 34 (by decide)).trans t34
    have q1 : ∀ p, 0 ≤ p → p < 7 → τ 23 p = σ 11 p ∧ τ 24 p = σ 12 p ∧ τ 33 p = σ 21 p ∧ τ 34 p = σ 22 p := fun p a b => by rw [v23, v24, v33, v34, ovl_in a b, ovl_in a b, ovl_in a b, ovl_in a b]; exact ⟨rfl, rfl, rfl, rfl⟩
    have q2 : ∀ p, 0 ≤ p → p < 112 → τ 25 p = σ 13 p ∧ τ 26 p = σ 14 p ∧ τ 27 p = σ 15 p := fun p a b => by rw [v25, v26, v27, ovl_in a b, ovl_in a b, ovl_in a b]; exact ⟨rfl, rfl, rfl⟩
    have q3 : ∀ p, 0 ≤ p → p < 12 → τ 28 p = σ 16 p ∧ τ 29 p = σ 17 p ∧ τ 30 p = σ 18 p ∧ τ 31 p = σ 19 p ∧ τ 32 p = σ 20 p := fun p a b => by rw [v28, v29, v30, v31, v32, ovl_in a b, ovl_in a b, ovl_in a b, ovl_in a b, ovl_in a b]; exact ⟨rfl, rfl, rfl, rfl, rfl⟩
    have k3 : τ 3 0 = σ 1 0 := by rw [g1 3 (by decide), f4]
    have k4 : τ 4 0 = σ 2 0 ∧ τ 4 6 = σ 2 6 ∧ τ 4 7 = σ 2 7 ∧ τ 4 10 = σ 2 10 := by rw [g1 4 (by decide)]; exact ⟨f5, f6, f7, f8⟩
    refine Or.inr ⟨by rw [g1 0 (by decide), f3], ?_, by rw [g3, k3], by rw [g4, e2, k4.1], by rw [g5, e3, k4.2.2.2], fun p a b => ?_, fun k a b => ?_, fun j a b => ?_⟩
    · rw [k3, k4.1, k4.2.1, k4.2.2.1, k4.2.2.2]
      refine Pic_congr (fun p a b => ⟨(q1 p a b).1, (q1 p a b).2.1, (q1 p a b).2.2.1, (q1 p a b).2.2.2, ?_⟩) q2 (fun j a b => ⟨(q3 j a b).1, (q3 j a b).2.1, (q3 j a b).2.2.1, (q3 j a b).2.2.2.1, (q3 j a b).2.2.2.2, ?_⟩) hR.1
      · show τ 97 (p * 3) = σ 88 p
        rw [(gP p a b).2.2.1, b2_id (c15 p a b)]
      · show τ 96 (j * 6 + 5) = σ 87 j
        rw [(gJ j a b).2.2.2.2.2, b2_id (c12 j a b)]
    · have z := gP p a b
      have y := q1 p a b
      rw [z.1, z.2.1, z.2.2.2.1, z.2.2.2.2, y.1, y.2.1, y.2.2.1, y.2.2.2]
      exact ⟨rfl, rfl, rfl, rfl⟩
    · have z := gL k a b
      have y := q2 k a b
      rw [z.1, z.2.1, z.2.2, y.1, y.2.1, y.2.2]
      exact ⟨rfl, rfl, rfl⟩
    · have z := gJ j a b
      have y := q3 j a b
      rw [z.1, z.2.1, z.2.2.1, z.2.2.2.1, z.2.2.2.2.1, y.1, y.2.1, y.2.2.1, y.2.2.2.1, y.2.2.2.2]
      exact ⟨rfl, rfl, rfl, rfl, rfl⟩
theorem op_restore {σ : Sto} (hR : Rel σ) {κ : List AV → Sto → Prop} (hκ : ∀ v τ, Mid C_X9_restore [vR 67] (σ 102) v τ → κ [vI v] τ) : C_X8_restore [vR 0] σ κ := by
  obtain ⟨⟨c1, c2, c3, c4, c5, c6, c7, c8, c9, c10, c11, c12, c13, c14, c15, c16⟩, ⟨e1, e2, e3, e4, e5, e6, e7, e8, e9, e10, e11, e12, e13, e14, e15⟩, ⟨g1, g2, g3, g4⟩, ⟨h1, h2, h3, h4, h5, h6⟩, ⟨l1, l2, l3, l4⟩, hImg, ⟨n1, n2, n3, n4⟩⟩ := id hR
  rcases hImg with ⟨i1, i2⟩ | ⟨i1, iP, i2, i3, i4, i5, i6, i7⟩
  · simp only [C_X8_restore, sq_iconst, sq_jsr, sq_anewarray, sq_iload, sq_lload, sq_aload, sq_istore, sq_lstore, sq_astore, sq_iinc, sq_getfield, st_put0, st_put1, st_put3, sq_inv, sq_goto, sq_icmp, sq_ifc, sq_tsw, sq_iadd, sq_isub, sq_imul, sq_ineg, sq_idiv, sq_irem, sq_iand, sq_ior, sq_ixor, sq_ishl, sq_ishr, sq_iushr, sq_ladd, sq_lmul, sq_ldiv, sq_lrem, sq_land, sq_lor, sq_lshl, sq_lushr, sq_lcmp, sq_i2l, sq_l2i, sq_i2c, sq_i2b, sq_dupI, sq_dupR, sq_dup2, sq_pop, sq_iaload, sq_baload, sq_aaload, sq_iastore, sq_bastore, sq_alen, sq_ireturn, sq_lreturn, sq_return, wq_c, wq_n, wlq_s, lkp, tbl, dBk, nth, setL, canSet, cmpI, tk, swK, rdF, entL, catS, cat1, arg, rcv, ald, bld, aln, br, Ccopy, Cmax, Cmin, Cabs, List.take, List.drop, List.reverse, List.reverseAux, List.length, List.append, List.nil_append, List.cons_append, true_and, and_true, and_self, forall_const, true_implies, false_implies, not_true_eq_false, not_false_eq_true, Option.map, reduceCtorEq, reduceIte, or_true, true_or, false_or, or_false, false_and, and_false, List.map, List.append_nil, implies_true, yK, Nat.reduceBEq, beq_self_eq_true, Int.zero_ne_one, Nat.reduceDiv, Nat.reduceMod, Nat.reduceAdd, Nat.reduceSub, Nat.reduceMul, Nat.reduceEqDiff, Nat.reduceLeDiff, Int.reduceToNat, Int.reduceNeg, Int.reduceEq, Int.reduceLT, Int.reduceLE, Int.reduceNatCast, Int.reduceNatCast', Int.reduceAdd, Int.reduceSub, Int.reduceMul, eq_self, Prod.mk.injEq, A_X8_restore, V_X8_restore, B_X8_restore, Y_X8_restore, C_X6_copyFrom, A_X6_copyFrom, V_X6_copyFrom, B_X6_copyFrom, Y_X6_copyFrom, C_X0_copyFrom, A_X0_copyFrom, V_X0_copyFrom, B_X0_copyFrom, Y_X0_copyFrom, shpT, rfsT, br]
    exact ⟨fun z => absurd i1 z, fun _ => hκ _ _ (fun κ' hκ' => ⟨Or.inl i2, fun _ => hκ' σ hR rfl, fun z => absurd i2 z⟩)⟩
  obtain ⟨d1, d2, d3, d4, d5, d6, d7, d8, d9, d10, d11, d12, d13, d14, d15, d16⟩ := id iP
  refine cl_restore d16 (by omega) (fun T f1 f4 f5 f6 f7 f8 t11 t12 t13 t14 t15 t16 t17 t18 t19 t20 t21 t22 => hκ _ _ (fun κ' hκ' => ?_))
  have T67 : T 67 = σ 67 := f1 67 (by decide)
  refine ⟨Or.inr (by rw [T67, i2, i4]; exact ⟨d1.1, d16⟩), fun z => ?_, fun z τ g1 g2 g3 g4 g5 gP gL gJ => ?_⟩
  · rw [T67] at z
    omega
  rw [T67] at g2 g3 g4 g5 ⊢
  rw [i2] at *
  unfold RstP at gP
  unfold RstL at gL
  unfold RstJ at gJ
  simp only [f1 93 (by decide), f1 94 (by decide), f1 95 (by decide), f1 96 (by decide), f1 97 (by decide), f1 68 (by decide), f1 69 (by decide), f1 88 (by decide), f1 89 (by decide), f1 90 (by decide), f1 70 (by decide), f1 71 (by decide), f1 72 (by decide), f1 82 (by decide), f1 83 (by decide), f1 84 (by decide), f1 85 (by decide), f1 86 (by decide), f1 87 (by decide), e4, e5, e6, e7, e8, e9, e10, e11, e12, e13, e14, e15] at gP gL gJ
  have v11 := (g1 11 (by decide)).trans t11
  have v12 := (g1 12 (by decide)).trans t12
  have v13 := (g1 13 (by decide)).trans t13
  have v14 := (g1 14 (by decide)).trans t14
  have v15 := (g1 15 (by decide)).trans t15
  have v16 := (g1 16 (by decide)).trans t16
  have v17 := (g1 17 (by decide)).trans t17
  have v18 := (g1 18 (by decide)).trans t18
  have v19 := (g1 19 (by decide)).trans t19
  have v20 := (g1 20 (by decide)).trans t20
  have v21 := (g1 21 (by decide)).trans t21
  have v22 := (g1 22 (by decide)).trans t22
  have k1 : τ 1 0 = σ 3 0 := by rw [g1 1 (by decide), f4]
  have k2 : τ 2 0 = σ 4 0 ∧ τ 2 6 = σ 4 6 ∧ τ 2 7 = σ 4 7 ∧ τ 2 10 = σ 4 10 := by rw [g1 2 (by decide)]; exact ⟨f5, f6, f7, f8⟩
  refine hκ' τ (Rel_j (σ := σ) (fun p hp => ?_) g2 ?_ ?_ hR) (by rw [g1 102 (by decide), f1 102 (by decide)])
  · rw [g1 p (by omega), f1 p (by omega)]
  · unfold RCur
    rw [k1, k2.1, k2.2.1, k2.2.2.1, k2.2.2.2]
    refine Pic_congr (fun p a b => ?_) (fun p a b => ?_) (fun j a b => ?_) iP
    · rw [v11, v12, v21, v22, gP.2.2.1, ovl_in a b, ovl_in a b, ovl_in a b, ovl_in a b, ovl_in a b]
      exact ⟨rfl, rfl, rfl, rfl, e1b_id (d15 p a b)⟩
    · rw [v13, v14, v15, ovl_in a b, ovl_in a b, ovl_in a b]
      exact ⟨rfl, rfl, rfl⟩
    · rw [v16, v17, v18, v19, v20, gJ.2.2.2.2.2, ovl_in a b, ovl_in a b, ovl_in a b, ovl_in a b, ovl_in a b, ovl_in a b]
      exact ⟨rfl, rfl, rfl, rfl, rfl, e1b_id (d12 j a b)⟩
  · refine ⟨by rw [g3, k1], by rw [g4, i3, k2.1], by rw [g5, i4, k2.2.2.2], ?_, ?_, ?_, ?_, ?_, ?_, ?_, ?_, ?_, ?_, ?_, ?_⟩
    · rw [gP.1, v11]; exact ovl_c (fun j a b => (i5 j a b).1) rfl
    · rw [gP.2.1, v12]; exact ovl_c (fun j a b => (i5 j a b).2.1) rfl
    · rw [gL.1, v13]; exact ovl_c (fun j a b => (i6 j a b).1) rfl
    · rw [gL.2.1, v14]; exact ovl_c (fun j a b => (i6 j a b).2.1) rfl
    · rw [gL.2.2, v15]; exact ovl_c (fun j a b => (i6 j a b).2.2) rfl
    · rw [gJ.1, v16]; exact ovl_c (fun j a b => (i7 j a b).1) rfl
    · rw [gJ.2.1, v17]; exact ovl_c (fun j a b => (i7 j a b).2.1) rfl
    · rw [gJ.2.2.1, v18]; exact ovl_c (fun j a b => (i7 j a b).2.2.1) rfl
    · rw [gJ.2.2.2.1, v19]; exact ovl_c (fun j a b => (i7 j a b).2.2.2.1) rfl
    · rw [gJ.2.2.2.2.1, v20]; exact ovl_c (fun j a b => (i7 j a b).2.2.2.2) rfl
    · rw [gP.2.2.2.1, v21]; exact ovl_c (fun j a b => (i5 j a b).2.2.1) rfl
    · rw [gP.2.2.2.2, v22]; exact ovl_c (fun j a b => (i5 j a b).2.2.2) rfl

