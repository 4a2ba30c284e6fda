-- ===== the reference lays its net =====
def JI (a b lo hi : Int) : Prop := (0 ≤ a ∧ a < 7) ∧ (0 ≤ b ∧ b < 7) ∧ ¬ a = b ∧ (-999 ≤ lo ∧ lo ≤ 999) ∧ (-999 ≤ hi ∧ hi ≤ 999)
def NIm (σ : Sto) : Prop := (0 ≤ σ 67 0 ∧ σ 67 0 ≤ 7) ∧ (0 ≤ σ 67 32 ∧ σ 67 32 ≤ 12) ∧ (∀ p, 0 ≤ p → p < 7 → 0 ≤ σ 69 p ∧ σ 69 p ≤ 16) ∧ PI (σ 70) (σ 72) ∧ TI (σ 74) 28 ∧ (∀ j, 0 ≤ j → j < σ 67 32 → JI (σ 82 j) (σ 83 j) (σ 84 j) (σ 85 j)) ∧ (∀ p, 0 ≤ p → p < σ 67 0 → ¬ σ 88 p = 0 → (-9999 ≤ σ 89 p ∧ σ 89 p ≤ 9999) ∧ (-9999 ≤ σ 90 p ∧ σ 90 p ≤ 9999))
def KMd (σ : Sto) (S : Int → Prop) (J P p q x : Int) : Kn := orK (orK (KJ S J (σ 82) (σ 83) (σ 84) (σ 85)) (KT (fun p => ¬ σ 88 p = 0) P (σ 89) (σ 90))) (KA (fun q' p' x' => ¬ σ 67 42 = 0 ∧ bef p q x q' p' x') (asM (σ 70) (σ 72) (σ 69)) (yrM (σ 70) (σ 72) (σ 69)))
def KM (σ : Sto) (S : Int → Prop) : Kn := KMd σ S (σ 67 32) (σ 67 0) (σ 67 0) 0 0
def inS (set : Int) : Int → Prop := fun j => bAnd (bShr set j) 1 = 1
theorem asM_e {kd nm sz : Int → Int} {p x : Int} : ff (ashP kd nm p x) 0 (sz p).toNat = asM kd nm sz p x := rfl
theorem yrM_e {kd nm sz : Int → Int} {p x : Int} : (hsum (fun _ => -1) kd nm p (asM kd nm sz p x)).tdiv 2 = yrM kd nm sz p x := rfl
theorem KJ_s {S : Int → Prop} {j : Int} {ja jb jl jh : Int → Int} (h : 0 ≤ j) {a b lo hi : Int} : KJ S (j + 1) ja jb jl jh a b lo hi ↔ KJ S j ja jb jl jh a b lo hi ∨ (S j ∧ a = ja j ∧ b = jb j ∧ lo = jl j ∧ hi = jh j) := by
  constructor
  · rintro ⟨i, h1, h2, h3⟩
    by_cases e : i = j
    · subst e; exact Or.inr h3
    · exact Or.inl ⟨i, h1, by omega, h3⟩
  · rintro (⟨i, h1, h2, h3⟩ | h3)
    · exact ⟨i, h1, by omega, h3⟩
    · exact ⟨j, h, by omega, h3⟩
theorem KT_s {T : Int → Prop} {j : Int} {tl th : Int → Int} (h : 0 ≤ j) {a b lo hi : Int} : KT T (j + 1) tl th a b lo hi ↔ KT T j tl th a b lo hi ∨ (T j ∧ a = 7 ∧ b = j ∧ lo = tl j ∧ hi = th j) := by
  constructor
  · rintro ⟨i, h1, h2, h3⟩
    by_cases e : i = j
    · subst e; exact Or.inr h3
    · exact Or.inl ⟨i, h1, by omega, h3⟩
  · rintro (⟨i, h1, h2, h3⟩ | h3)
    · exact ⟨i, h1, by omega, h3⟩
    · exact ⟨j, h, by omega, h3⟩
theorem KA_e {B B' : Int → Int → Int → Prop} {as yr : Int → Int → Int} (h : ∀ q p x, B' q p x ↔ B q p x) {a b lo hi : Int} : KA B' as yr a b lo hi ↔ KA B as yr a b lo hi := by
  constructor
  · rintro ⟨q, p, x, h1, h2⟩
    exact ⟨q, p, x, (h q p x).mp h1, h2⟩
  · rintro ⟨q, p, x, h1, h2⟩
    exact ⟨q, p, x, (h q p x).mpr h1, h2⟩
theorem KA_s {B B' : Int → Int → Int → Prop} {as yr : Int → Int → Int} {q0 p0 x0 : Int} (h : ∀ q p x, B' q p x ↔ B q p x ∨ (q = q0 ∧ p = p0 ∧ x = x0)) {a b lo hi : Int} : KA B' as yr a b lo hi ↔ KA B as yr a b lo hi ∨ (¬ as q0 x0 = -1 ∧ ¬ as p0 x0 = -1 ∧ a = q0 ∧ b = p0 ∧ lo = yr q0 x0 - yr p0 x0 ∧ hi = yr q0 x0 - yr p0 x0) := by
  constructor
  · rintro ⟨q, p, x, h1, h2⟩
    rcases (h q p x).mp h1 with h1 | ⟨rfl, rfl, rfl⟩
    · exact Or.inl ⟨q, p, x, h1, h2⟩
    · exact Or.inr h2
  · rintro (⟨q, p, x, h1, h2⟩ | h2)
    · exact ⟨q, p, x, (h q p x).mpr (Or.inl h1), h2⟩
    · exact ⟨q0, p0, x0, (h q0 p0 x0).mpr (Or.inr ⟨rfl, rfl, rfl⟩), h2⟩
theorem or_1 {A A' B C X : Prop} (h : A' ↔ A ∨ X) : ((A' ∨ B) ∨ C) ↔ (((A ∨ B) ∨ C) ∨ X) := by
  rw [h]
  constructor <;> intro z <;> (rcases z with ((z | z) | z) | z <;> simp [z])
theorem or_2 {A B B' C X : Prop} (h : B' ↔ B ∨ X) : ((A ∨ B') ∨ C) ↔ (((A ∨ B) ∨ C) ∨ X) := by
  rw [h]
  constructor
  · rintro ((z | z | z) | z) <;> simp [z]
  · rintro (((z | z) | z) | z) <;> simp [z]
theorem or_3 {A B C C' X : Prop} (h : C' ↔ C ∨ X) : ((A ∨ B) ∨ C') ↔ (((A ∨ B) ∨ C) ∨ X) := by
  rw [h]
  constructor
  · rintro ((z | z) | z | z) <;> simp [z]
  · rintro (((z | z) | z) | z) <;> simp [z]
theorem KM_0 {σ : Sto} {S : Int → Prop} : ∀ a b lo hi, noK a b lo hi ↔ KMd σ S 0 0 0 0 0 a b lo hi := by
  intro a b lo hi
  constructor
  · intro h; exact h.elim
  · rintro ((⟨i, h1, h2, -⟩ | ⟨i, h1, h2, -⟩) | ⟨q, p, x, ⟨-, h1, h2, h3, h4, h5⟩, -⟩)
    · omega
    · omega
    · omega
theorem KM_jn {σ : Sto} {S : Int → Prop} {j P p q x : Int} (h : 0 ≤ j) (hS : ¬ S j) : ∀ a b lo hi, KMd σ S j P p q x a b lo hi ↔ KMd σ S (j + 1) P p q x a b lo hi := by
  intro a b lo hi
  refine Iff.symm (Iff.trans (or_1 (KJ_s h)) ⟨fun z => z.elim id (fun z => absurd z.1 hS), Or.inl⟩)
theorem KM_jy {σ : Sto} {S : Int → Prop} {j P p q x : Int} (h : 0 ≤ j) (hS : S j) : ∀ a b lo hi, addK (KMd σ S j P p q x) (σ 82 j) (σ 83 j) (σ 84 j) (σ 85 j) a b lo hi ↔ KMd σ S (j + 1) P p q x a b lo hi := by
  intro a b lo hi
  refine Iff.symm (Iff.trans (or_1 (KJ_s h)) ⟨fun z => z.elim Or.inl (fun z => Or.inr z.2), fun z => z.elim Or.inl (fun z => Or.inr ⟨hS, z⟩)⟩)
theorem KM_tn {σ : Sto} {S : Int → Prop} {J p' p q x : Int} (h : 0 ≤ p') (hS : σ 88 p' = 0) : ∀ a b lo hi, KMd σ S J p' p q x a b lo hi ↔ KMd σ S J (p' + 1) p q x a b lo hi := by
  intro a b lo hi
  refine Iff.symm (Iff.trans (or_2 (KT_s h)) ⟨fun z => z.elim id (fun z => absurd hS z.1), Or.inl⟩)
theorem KM_ty {σ : Sto} {S : Int → Prop} {J p' p q x : Int} (h : 0 ≤ p') (hS : ¬ σ 88 p' = 0) : ∀ a b lo hi, addK (KMd σ S J p' p q x) 7 p' (σ 89 p') (σ 90 p') a b lo hi ↔ KMd σ S J (p' + 1) p q x a b lo hi := by
  intro a b lo hi
  refine Iff.symm (Iff.trans (or_2 (KT_s h)) ⟨fun z => z.elim Or.inl (fun z => Or.inr z.2), fun z => z.elim Or.inl (fun z => Or.inr ⟨hS, z⟩)⟩)
theorem KM_ae {σ : Sto} {S : Int → Prop} {J P p q x p' q' x' : Int} (h : ∀ q0 p0 x0, (¬ σ 67 42 = 0 ∧ bef p q x q0 p0 x0) ↔ (¬ σ 67 42 = 0 ∧ bef p' q' x' q0 p0 x0)) : ∀ a b lo hi, KMd σ S J P p q x a b lo hi ↔ KMd σ S J P p' q' x' a b lo hi := by
  intro a b lo hi
  unfold KMd orK
  rw [KA_e h]
theorem KM_an {σ : Sto} {S : Int → Prop} {J P p q x : Int} (hl : ¬ σ 67 42 = 0) (hq : 0 ≤ q ∧ q < p) (hx : 0 ≤ x ∧ x < 10) (hn : asM (σ 70) (σ 72) (σ 69) q x = -1 ∨ asM (σ 70) (σ 72) (σ 69) p x = -1) : ∀ a b lo hi, KMd σ S J P p q x a b lo hi ↔ KMd σ S J P p q (x + 1) a b lo hi := by
  intro a b lo hi
  refine Iff.symm (Iff.trans (or_3 (KA_s (B := fun q' p' x' => ¬ σ 67 42 = 0 ∧ bef p q x q' p' x') (q0 := q) (p0 := p) (x0 := x) (fun q' p' x' => ?_))) ⟨fun z => z.elim id (fun z => hn.elim (fun e => absurd e z.1) (fun e => absurd e z.2.1)), Or.inl⟩)
  unfold bef
  omega
theorem KM_ay {σ : Sto} {S : Int → Prop} {J P p q x : Int} (hl : ¬ σ 67 42 = 0) (hq : 0 ≤ q ∧ q < p) (hx : 0 ≤ x ∧ x < 10) (h1 : ¬ asM (σ 70) (σ 72) (σ 69) q x = -1) (h2 : ¬ asM (σ 70) (σ 72) (σ 69) p x = -1) : ∀ a b lo hi, addK (KMd σ S J P p q x) q p (yrM (σ 70) (σ 72) (σ 69) q x - yrM (σ 70) (σ 72) (σ 69) p x) (yrM (σ 70) (σ 72) (σ 69) q x - yrM (σ 70) (σ 72) (σ 69) p x) a b lo hi ↔ KMd σ S J P p q (x + 1) a b lo hi := by
  intro a b lo hi
  refine Iff.symm (Iff.trans (or_3 (KA_s (B := fun q' p' x' => ¬ σ 67 42 = 0 ∧ bef p q x q' p' x') (q0 := q) (p0 := p) (x0 := x) (fun q' p' x' => ?_))) ⟨fun z => z.elim Or.inl (fun z => Or.inr z.2.2), fun z => z.elim Or.inl (fun z => Or.inr ⟨h1, h2, z⟩)⟩)
  unfold bef
  omega
def A_X9_layNet : List (Nat × Ctr) := [(5, rcv 9 5 C_X9_bound), (3, rcv 9 4 C_X9_ashAt), (4, rcv 9 4 C_X9_atOf), (1, rcv 9 6 C_X9_close)]
theorem e_X9_layNet (o : OM) : Ev o Y_X9_layNet 3 T_X9_layNet A_X9_layNet := ⟨rfl, List.forall_mem_cons.mpr ⟨Or.inl f_X9_80, List.forall_mem_cons.mpr ⟨Or.inl f_X9_325, List.forall_mem_cons.mpr ⟨Or.inl f_X9_53, List.forall_mem_cons.mpr ⟨Or.inl f_X9_56, List.forall_mem_cons.mpr ⟨Or.inl f_X9_59, List.forall_mem_cons.mpr ⟨Or.inl f_X9_62, List.forall_mem_cons.mpr ⟨Or.inl f_X9_109, List.forall_mem_cons.mpr ⟨Or.inl f_X9_71, List.forall_mem_cons.mpr ⟨Or.inl f_X9_74, List.forall_mem_cons.mpr ⟨Or.inl f_X9_77, List.forall_mem_cons.mpr ⟨Or.inl f_X9_101, fun _ h => absurd h List.not_mem_nil⟩⟩⟩⟩⟩⟩⟩⟩⟩⟩⟩, List.forall_mem_cons.mpr ⟨⟨w_1529, by decide, by decide⟩, fun _ h => absurd h List.not_mem_nil⟩, fun _ h => absurd h List.not_mem_nil, fun _ h => absurd h List.not_mem_nil, List.forall_mem_cons.mpr ⟨cl_X9_bound (s_X9_bound o) (by decide) (Or.inl w_1530), List.forall_mem_cons.mpr ⟨cl_X9_ashAt (s_X9_ashAt o) (by decide) (Or.inl w_1534), List.forall_mem_cons.mpr ⟨cl_X9_atOf (s_X9_atOf o) (by decide) (Or.inl w_1381), List.forall_mem_cons.mpr ⟨cl_X9_close (s_X9_close o) (by decide) (Or.inl w_1538), fun _ h => absurd h List.not_mem_nil⟩⟩⟩⟩, fun _ h => absurd h List.not_mem_nil⟩
def C_X9_layNet : Ctr := fun A σ κ => match A with
  | [.inr (.inr (.inl 67)), .inl set] => (NIm σ) ∧ ∀ (r : Int) (τ : Sto), (∀ p : Nat, p ≠ 91 → τ p = σ p) → LayP (KM σ (inS set)) (τ 91) r → κ [vI r] τ
  | _ => False
set_option maxRecDepth 20000 in
theorem s_X9_layNet (o : OM) : Sound o Y_X9_layNet 3 C_X9_layNet := by
  intro Q A σ hA hC
  match A, hA, hC with
  | [.inr (.inr (.inl 67)), .inl set], hA, hC =>
    obtain ⟨h0, hq⟩ : (NIm σ) ∧ ∀ (r : Int) (τ : Sto), (∀ p : Nat, p ≠ 91 → τ p = σ p) → LayP (KM σ (inS set)) (τ 91) r → Q [vI r] τ := hC
    obtain ⟨hn, hJ, hs, hPI, hTI, hji, hti⟩ := h0
    obtain ⟨P2, hP2⟩ : ∃ P : Nat → List AV → List AV → Sto → Prop, P = fun m S L τ => ∃ k : Int, S = [] ∧ L = [vR 67, vI set, vI k] ∧ (∀ p : Nat, p ≠ 91 → τ p = σ p) ∧ 0 ≤ k ∧ k ≤ 64 ∧ (∀ x, 0 ≤ x → x < k → τ 91 x = if x % 9 = 0 then 0 else 10000000) ∧ m = (64 - k + 100000).toNat := ⟨_, rfl⟩
    obtain ⟨P36, hP36⟩ : ∃ P : Nat → List AV → List AV → Sto → Prop, P = fun m S L τ => ∃ j : Int, S = [] ∧ L = [vR 67, vI set, vI j] ∧ (∀ p : Nat, p ≠ 91 → τ p = σ p) ∧ 0 ≤ j ∧ j ≤ σ 67 32 ∧ StK (KMd σ (inS set) j 0 0 0 0) (τ 91) ∧ m = (12 - j + 90000).toNat := ⟨_, rfl⟩
    obtain ⟨P89, hP89⟩ : ∃ P : Nat → List AV → List AV → Sto → Prop, P = fun m S L τ => ∃ p : Int, S = [] ∧ L = [vR 67, vI set, vI p] ∧ (∀ p : Nat, p ≠ 91 → τ p = σ p) ∧ 0 ≤ p ∧ p ≤ σ 67 0 ∧ StK (KMd σ (inS set) (σ 67 32) p p 0 0) (τ 91) ∧ m = ((7 - p) * 1000).toNat := ⟨_, rfl⟩
    obtain ⟨P127, hP127⟩ : ∃ P : Nat → List AV → List AV → Sto → Prop, P = fun m S L τ => ∃ p q : Int, S = [] ∧ L = [vR 67, vI set, vI p, vI q] ∧ (∀ p : Nat, p ≠ 91 → τ p = σ p) ∧ 0 ≤ p ∧ p < σ 67 0 ∧ 0 ≤ q ∧ q ≤ p ∧ StK (KMd σ (inS set) (σ 67 32) (p + 1) p q 0) (τ 91) ∧ m = ((6 - p) * 1000 + 100 + (7 - q) * 50).toNat := ⟨_, rfl⟩
    obtain ⟨P142, hP142⟩ : ∃ P : Nat → List AV → List AV → Sto → Prop, P = fun m S L τ => ∃ p q x : Int, S = [] ∧ L = [vR 67, vI set, vI p, vI q, vI x] ∧ (∀ p : Nat, p ≠ 91 → τ p = σ p) ∧ 0 ≤ p ∧ p < σ 67 0 ∧ 0 ≤ q ∧ q < p ∧ 0 ≤ x ∧ x ≤ 10 ∧ ¬ σ 67 42 = 0 ∧ StK (KMd σ (inS set) (σ 67 32) (p + 1) p q x) (τ 91) ∧ m = ((6 - p) * 1000 + 100 + (6 - q) * 50 + 20 + (10 - x)).toNat := ⟨_, rfl⟩
    refine at_meth (lv := V_X9_layNet) (B := B_X9_layNet) (e_X9_layNet o) k_X9_layNet 5 [(2, P2), (36, P36), (89, P89), (127, P127), (142, P142)] (List.forall_mem_cons.mpr ⟨?_, List.forall_mem_cons.mpr ⟨?_, List.forall_mem_cons.mpr ⟨?_, List.forall_mem_cons.mpr ⟨?_, List.forall_mem_cons.mpr ⟨?_, fun _ h => absurd h List.not_mem_nil⟩⟩⟩⟩⟩) 0 [] _ σ ?_
    · intro m S L τ hI
      rw [hP2] at hI
      obtain ⟨k, rfl, rfl, he, k0, k1, hg, hm⟩ := hI
      simp only [sq_iconst, sq_jsr, sq_anewarray, sq_iload, sq_lload, sq_aload, sq_istore, sq_lstore, sq_astore, sq_iinc, sq_getfield, st_put0, st_put1, st_put3, sq_inv, sq_goto, sq_icmp, sq_ifc, sq_tsw, sq_iadd, sq_isub, sq_imul, sq_ineg, sq_idiv, sq_irem, sq_iand, sq_ior, sq_ixor, sq_ishl, sq_ishr, sq_iushr, sq_ladd, sq_lmul, sq_ldiv, sq_lrem, sq_land, sq_lor, sq_lshl, sq_lushr, sq_lcmp, sq_i2l, sq_l2i, sq_i2c, sq_i2b, sq_dupI, sq_dupR, sq_dup2, sq_pop, sq_iaload, sq_baload, sq_aaload, sq_iastore, sq_bastore, sq_alen, sq_ireturn, sq_lreturn, sq_return, wq_c, wq_n, wlq_s, lkp, tbl, dBk, nth, setL, canSet, cmpI, tk, swK, rdF, entL, catS, cat1, arg, rcv, ald, bld, aln, br, Ccopy, Cmax, Cmin, Cabs, List.take, List.drop, List.reverse, List.reverseAux, List.length, List.append, List.nil_append, List.cons_append, true_and, and_true, and_self, forall_const, true_implies, false_implies, not_true_eq_false, not_false_eq_true, Option.map, reduceCtorEq, reduceIte, or_true, true_or, false_or, or_false, false_and, and_false, List.map, List.append_nil, implies_true, yK, Nat.reduceBEq, beq_self_eq_true, Int.zero_ne_one, Nat.reduceDiv, Nat.reduceMod, Nat.reduceAdd, Nat.reduceSub, Nat.reduceMul, Nat.reduceEqDiff, Nat.reduceLeDiff, Int.reduceToNat, Int.reduceNeg, Int.reduceEq, Int.reduceLT, Int.reduceLE, Int.reduceNatCast, Int.reduceNatCast', Int.reduceAdd, Int.reduceSub, Int.reduceMul, eq_self, Prod.mk.injEq, A_X9_layNet, V_X9_layNet, B_X9_layNet, Y_X9_layNet, C_X9_bound, C_X9_ashAt, C_X9_atOf, C_X9_close, shpT, rfsT, wjq_s, look]
      rw [hP36, hP2, Int.tmod_eq_emod_of_nonneg k0]
      refine ⟨fun h => ⟨_, ?_, 0, rfl, rfl, he, (by omega), hJ.1, StK_ext KM_0 (StK_0 (fun i j c d => ?_)), rfl⟩, fun h => ⟨fun h1 => ⟨⟨by omega, by omega⟩, ⟨by omega, by omega⟩, _, ?_, k + 1, rfl, rfl, fun p hp => by rw [su_r hp]; exact he p hp, (by omega), (by omega), fun x x0 x1 => ?_, rfl⟩, fun h1 => ⟨⟨by omega, by omega⟩, ⟨by omega, by omega⟩, _, ?_, k + 1, rfl, rfl, fun p hp => by rw [su_r hp]; exact he p hp, (by omega), (by omega), fun x x0 x1 => ?_, rfl⟩⟩⟩
      · omega
      · unfold nd at c d
        rw [hg _ (by omega) (by omega)]
        by_cases e : i = j
        · rw [if_pos e, if_pos (by omega)]
        · rw [if_neg e, if_neg (by omega)]
      · omega
      · rw [su_at]
        by_cases e : x = k
        · rw [if_pos e, if_neg (by rw [e]; omega)]
        · rw [if_neg e, hg x x0 (by omega)]
      · omega
      · rw [su_at]
        by_cases e : x = k
        · rw [if_pos e, if_pos (by rw [e]; omega)]
        · rw [if_neg e, hg x x0 (by omega)]
    · intro m S L τ hI
      rw [hP36] at hI
      obtain ⟨j, rfl, rfl, he, j0, j1, hg, hm⟩ := hI
      simp only [sq_iconst, sq_jsr, sq_anewarray, sq_iload, sq_lload, sq_aload, sq_istore, sq_lstore, sq_astore, sq_iinc, sq_getfield, st_put0, st_put1, st_put3, sq_inv, sq_goto, sq_icmp, sq_ifc, sq_tsw, sq_iadd, sq_isub, sq_imul, sq_ineg, sq_idiv, sq_irem, sq_iand, sq_ior, sq_ixor, sq_ishl, sq_ishr, sq_iushr, sq_ladd, sq_lmul, sq_ldiv, sq_lrem, sq_land, sq_lor, sq_lshl, sq_lushr, sq_lcmp, sq_i2l, sq_l2i, sq_i2c, sq_i2b, sq_dupI, sq_dupR, sq_dup2, sq_pop, sq_iaload, sq_baload, sq_aaload, sq_iastore, sq_bastore, sq_alen, sq_ireturn, sq_lreturn, sq_return, wq_c, wq_n, wlq_s, lkp, tbl, dBk, nth, setL, canSet, cmpI, tk, swK, rdF, entL, catS, cat1, arg, rcv, ald, bld, aln, br, Ccopy, Cmax, Cmin, Cabs, List.take, List.drop, List.reverse, List.reverseAux, List.length, List.append, List.nil_append, List.cons_append, true_and, and_true, and_self, forall_const, true_implies, false_implies, not_true_eq_false, not_false_eq_true, Option.map, reduceCtorEq, reduceIte, or_true, true_or, false_or, or_false, false_and, and_false, List.map, List.append_nil, implies_true, yK, Nat.reduceBEq, beq_self_eq_true, Int.zero_ne_one, Nat.reduceDiv, Nat.reduceMod, Nat.reduceAdd, Nat.reduceSub, Nat.reduceMul, Nat.reduceEqDiff, Nat.reduceLeDiff, Int.reduceToNat, Int.reduceNeg, Int.reduceEq, Int.reduceLT, Int.reduceLE, Int.reduceNatCast, Int.reduceNatCast', Int.reduceAdd, Int.reduceSub, Int.reduceMul, eq_self, Prod.mk.injEq, A_X9_layNet, V_X9_layNet, B_X9_layNet, Y_X9_layNet, C_X9_bound, C_X9_ashAt, C_X9_atOf, C_X9_close, shpT, rfsT, wjq_s, look, he 67 (by decide), he 69 (by decide), he 70 (by decide), he 72 (by decide), he 74 (by decide), he 82 (by decide), he 83 (by decide), he 84 (by decide), he 85 (by decide), he 88 (by decide), he 89 (by decide), he 90 (by decide)]
      rw [hP36, hP89]
      refine ⟨fun h => ⟨_, ?_, 0, rfl, rfl, he, (by omega), hn.1, ?_, rfl⟩, fun h => ⟨fun h1 => ⟨⟨by omega, by omega⟩, _, ?_, j + 1, rfl, rfl, he, (by omega), (by omega), StK_ext (KM_jn j0 (show ¬ inS set j from h1)) hg, rfl⟩, fun h1 => ?_⟩⟩
      · omega
      · have : j = σ 67 32 := by omega
        rw [this] at hg
        exact hg
      · omega
      · have ji := hji j j0 (by omega)
        unfold JI at ji
        have n1 : nd (σ 82 j) := ⟨by omega, by omega⟩
        have n2 : nd (σ 83 j) := ⟨by omega, by omega⟩
        refine ⟨⟨by omega, by omega⟩, ⟨by omega, by omega⟩, ⟨by omega, by omega⟩, ⟨by omega, by omega⟩, ⟨n1, n2, (by omega), (by omega), (by omega)⟩, ⟨by omega, by omega⟩, _, ?_, j + 1, rfl, rfl, fun p hp => by rw [bdS_r hp]; exact he p hp, (by omega), (by omega), StK_ext (KM_jy j0 (show inS set j from Classical.not_not.mp h1)) (StK_add hg n1 n2 (by omega) ⟨by omega, by omega⟩ ⟨by omega, by omega⟩ (bdS_at n1 n2)), rfl⟩
        omega
    · intro m S L τ hI
      rw [hP89] at hI
      obtain ⟨p, rfl, rfl, he, p0, p1, hg, hm⟩ := hI
      simp only [sq_iconst, sq_jsr, sq_anewarray, sq_iload, sq_lload, sq_aload, sq_istore, sq_lstore, sq_astore, sq_iinc, sq_getfield, st_put0, st_put1, st_put3, sq_inv, sq_goto, sq_icmp, sq_ifc, sq_tsw, sq_iadd, sq_isub, sq_imul, sq_ineg, sq_idiv, sq_irem, sq_iand, sq_ior, sq_ixor, sq_ishl, sq_ishr, sq_iushr, sq_ladd, sq_lmul, sq_ldiv, sq_lrem, sq_land, sq_lor, sq_lshl, sq_lushr, sq_lcmp, sq_i2l, sq_l2i, sq_i2c, sq_i2b, sq_dupI, sq_dupR, sq_dup2, sq_pop, sq_iaload, sq_baload, sq_aaload, sq_iastore, sq_bastore, sq_alen, sq_ireturn, sq_lreturn, sq_return, wq_c, wq_n, wlq_s, lkp, tbl, dBk, nth, setL, canSet, cmpI, tk, swK, rdF, entL, catS, cat1, arg, rcv, ald, bld, aln, br, Ccopy, Cmax, Cmin, Cabs, List.take, List.drop, List.reverse, List.reverseAux, List.length, List.append, List.nil_append, List.cons_append, true_and, and_true, and_self, forall_const, true_implies, false_implies, not_true_eq_false, not_false_eq_true, Option.map, reduceCtorEq, reduceIte, or_true, true_or, false_or, or_false, false_and, and_false, List.map, List.append_nil, implies_true, yK, Nat.reduceBEq, beq_self_eq_true, Int.zero_ne_one, Nat.reduceDiv, Nat.reduceMod, Nat.reduceAdd, Nat.reduceSub, Nat.reduceMul, Nat.reduceEqDiff, Nat.reduceLeDiff, Int.reduceToNat, Int.reduceNeg, Int.reduceEq, Int.reduceLT, Int.reduceLE, Int.reduceNatCast, Int.reduceNatCast', Int.reduceAdd, Int.reduceSub, Int.reduceMul, eq_self, Prod.mk.injEq, A_X9_layNet, V_X9_layNet, B_X9_layNet, Y_X9_layNet, C_X9_bound, C_X9_ashAt, C_X9_atOf, C_X9_close, shpT, rfsT, wjq_s, look, he 67 (by decide), he 69 (by decide), he 70 (by decide), he 72 (by decide), he 74 (by decide), he 82 (by decide), he 83 (by decide), he 84 (by decide), he 85 (by decide), he 88 (by decide), he 89 (by decide), he 90 (by decide)]
      rw [hP127]
      refine ⟨fun h => ⟨StK_r hg, fun r τ' h1 h2 h3 h4 => ?_⟩, fun h => ⟨⟨by omega, by omega⟩, fun h1 => ⟨_, ?_, p, 0, rfl, rfl, he, p0, (by omega), (by omega), (by omega), StK_ext (KM_tn p0 h1) hg, rfl⟩, fun h1 => ?_⟩⟩
      · have e : p = σ 67 0 := by omega
        subst e
        have hL := StK_Lay hg h3 h4
        refine ⟨?_, hq r τ' (fun x hx => by rw [h1 x hx, he x hx]) (by rw [h2]; exact hL)⟩
        rcases hL.1 with ⟨e, -⟩ | ⟨e, -⟩
        · exact Or.inr e
        · exact Or.inl e
      · omega
      · have ti := hti p p0 (by omega) h1
        have n1 : nd (7 : Int) := ⟨by omega, by omega⟩
        have n2 : nd p := ⟨by omega, by omega⟩
        refine ⟨⟨by omega, by omega⟩, ⟨by omega, by omega⟩, ⟨n1, n2, (by omega), (by omega), (by omega)⟩, _, ?_, p, 0, rfl, rfl, fun x hx => by rw [bdS_r hx]; exact he x hx, p0, (by omega), (by omega), (by omega), StK_ext (KM_ty p0 h1) (StK_add hg n1 n2 (by omega) ⟨by omega, by omega⟩ ⟨by omega, by omega⟩ (bdS_at n1 n2)), rfl⟩
        omega
    · intro m S L τ hI
      rw [hP127] at hI
      obtain ⟨p, q, rfl, rfl, he, p0, p1, q0, q1, hg, hm⟩ := hI
      simp only [sq_iconst, sq_jsr, sq_anewarray, sq_iload, sq_lload, sq_aload, sq_istore, sq_lstore, sq_astore, sq_iinc, sq_getfield, st_put0, st_put1, st_put3, sq_inv, sq_goto, sq_icmp, sq_ifc, sq_tsw, sq_iadd, sq_isub, sq_imul, sq_ineg, sq_idiv, sq_irem, sq_iand, sq_ior, sq_ixor, sq_ishl, sq_ishr, sq_iushr, sq_ladd, sq_lmul, sq_ldiv, sq_lrem, sq_land, sq_lor, sq_lshl, sq_lushr, sq_lcmp, sq_i2l, sq_l2i, sq_i2c, sq_i2b, sq_dupI, sq_dupR, sq_dup2, sq_pop, sq_iaload, sq_baload, sq_aaload, sq_iastore, sq_bastore, sq_alen, sq_ireturn, sq_lreturn, sq_return, wq_c, wq_n, wlq_s, lkp, tbl, dBk, nth, setL, canSet, cmpI, tk, swK, rdF, entL, catS, cat1, arg, rcv, ald, bld, aln, br, Ccopy, Cmax, Cmin, Cabs, List.take, List.drop, List.reverse, List.reverseAux, List.length, List.append, List.nil_append, List.cons_append, true_and, and_true, and_self, forall_const, true_implies, false_implies, not_true_eq_false, not_false_eq_true, Option.map, reduceCtorEq, reduceIte, or_true, true_or, false_or, or_false, false_and, and_false, List.map, List.append_nil, implies_true, yK, Nat.reduceBEq, beq_self_eq_true, Int.zero_ne_one, Nat.reduceDiv, Nat.reduceMod, Nat.reduceAdd, Nat.reduceSub, Nat.reduceMul, Nat.reduceEqDiff, Nat.reduceLeDiff, Int.reduceToNat, Int.reduceNeg, Int.reduceEq, Int.reduceLT, Int.reduceLE, Int.reduceNatCast, Int.reduceNatCast', Int.reduceAdd, Int.reduceSub, Int.reduceMul, eq_self, Prod.mk.injEq, A_X9_layNet, V_X9_layNet, B_X9_layNet, Y_X9_layNet, C_X9_bound, C_X9_ashAt, C_X9_atOf, C_X9_close, shpT, rfsT, wjq_s, look, he 67 (by decide), he 69 (by decide), he 70 (by decide), he 72 (by decide), he 74 (by decide), he 82 (by decide), he 83 (by decide), he 84 (by decide), he 85 (by decide), he 88 (by decide), he 89 (by decide), he 90 (by decide)]
      rw [hP89, hP142]
      refine ⟨fun h => ⟨⟨by omega, by omega⟩, _, ?_, p + 1, rfl, rfl, he, (by omega), (by omega), StK_ext (KM_ae (fun q' p' x' => ?_)) hg, rfl⟩, fun h => ⟨fun h1 => ⟨⟨by omega, by omega⟩, _, ?_, p + 1, rfl, rfl, he, (by omega), (by omega), StK_ext (KM_ae (fun q' p' x' => ⟨fun z => absurd h1 z.1, fun z => absurd h1 z.1⟩)) hg, rfl⟩, fun h1 => ⟨_, ?_, p, q, 0, rfl, rfl, he, p0, p1, q0, (by omega), (by omega), (by omega), h1, hg, rfl⟩⟩⟩
      · omega
      · unfold bef
        omega
      · omega
      · omega
    · intro m S L τ hI
      rw [hP142] at hI
      obtain ⟨p, q, x, rfl, rfl, he, p0, p1, q0, q1, x0, x1, hl, hg, hm⟩ := hI
      simp only [sq_iconst, sq_jsr, sq_anewarray, sq_iload, sq_lload, sq_aload, sq_istore, sq_lstore, sq_astore, sq_iinc, sq_getfield, st_put0, st_put1, st_put3, sq_inv, sq_goto, sq_icmp, sq_ifc, sq_tsw, sq_iadd, sq_isub, sq_imul, sq_ineg, sq_idiv, sq_irem, sq_iand, sq_ior, sq_ixor, sq_ishl, sq_ishr, sq_iushr, sq_ladd, sq_lmul, sq_ldiv, sq_lrem, sq_land, sq_lor, sq_lshl, sq_lushr, sq_lcmp, sq_i2l, sq_l2i, sq_i2c, sq_i2b, sq_dupI, sq_dupR, sq_dup2, sq_pop, sq_iaload, sq_baload, sq_aaload, sq_iastore, sq_bastore, sq_alen, sq_ireturn, sq_lreturn, sq_return, wq_c, wq_n, wlq_s, lkp, tbl, dBk, nth, setL, canSet, cmpI, tk, swK, rdF, entL, catS, cat1, arg, rcv, ald, bld, aln, br, Ccopy, Cmax, Cmin, Cabs, List.take, List.drop, List.reverse, List.reverseAux, List.length, List.append, List.nil_append, List.cons_append, true_and, and_true, and_self, forall_const, true_implies, false_implies, not_true_eq_false, not_false_eq_true, Option.map, reduceCtorEq, reduceIte, or_true, true_or, false_or, or_false, false_and, and_false, List.map, List.append_nil, implies_true, yK, Nat.reduceBEq, beq_self_eq_true, Int.zero_ne_one, Nat.reduceDiv, Nat.reduceMod, Nat.reduceAdd, Nat.reduceSub, Nat.reduceMul, Nat.reduceEqDiff, Nat.reduceLeDiff, Int.reduceToNat, Int.reduceNeg, Int.reduceEq, Int.reduceLT, Int.reduceLE, Int.reduceNatCast, Int.reduceNatCast', Int.reduceAdd, Int.reduceSub, Int.reduceMul, eq_self, Prod.mk.injEq, A_X9_layNet, V_X9_layNet, B_X9_layNet, Y_X9_layNet, C_X9_bound, C_X9_ashAt, C_X9_atOf, C_X9_close, shpT, rfsT, wjq_s, look, rowS_m, he 67 (by decide), he 69 (by decide), he 70 (by decide), he 72 (by decide), he 74 (by decide), he 82 (by decide), he 83 (by decide), he 84 (by decide), he 85 (by decide), he 88 (by decide), he 89 (by decide), he 90 (by decide), asM_e, yrM_e]
      rw [hP127, hP142]
      have s1 := hs p p0 (by omega)
      have s2 := hs q q0 (by omega)
      refine ⟨fun h => ⟨⟨by omega, by omega⟩, _, ?_, p, q + 1, rfl, rfl, he, p0, p1, (by omega), (by omega), StK_ext (KM_ae (fun q' p' x' => ?_)) hg, rfl⟩, fun h => ⟨⟨⟨by omega, by omega⟩, s1⟩, ⟨⟨by omega, by omega⟩, s2⟩, fun h1 => ⟨⟨by omega, by omega⟩, _, ?_, p, q, x + 1, rfl, rfl, he, p0, p1, q0, q1, (by omega), (by omega), hl, StK_ext (KM_an hl ⟨by omega, by omega⟩ ⟨by omega, by omega⟩ (Or.inr h1)) hg, rfl⟩, fun h1 => ⟨fun h2 => ⟨⟨by omega, by omega⟩, _, ?_, p, q, x + 1, rfl, rfl, he, p0, p1, q0, q1, (by omega), (by omega), hl, StK_ext (KM_an hl ⟨by omega, by omega⟩ ⟨by omega, by omega⟩ (Or.inl h2)) hg, rfl⟩, fun h2 => ?_⟩⟩⟩
      · omega
      · unfold bef
        omega
      · omega
      · omega
      · have a1 := (asM_in (kd := σ 70) (nm := σ 72) (x := x) s1).resolve_left h1
        have a2 := (asM_in (kd := σ 70) (nm := σ 72) (x := x) s2).resolve_left h2
        have y1 := yrM_in hPI ⟨by omega, by omega⟩ s1 h1
        have y2 := yrM_in hPI ⟨by omega, by omega⟩ s2 h2
        have n1 : nd q := ⟨by omega, by omega⟩
        have n2 : nd p := ⟨by omega, by omega⟩
        refine ⟨⟨⟨by omega, by omega⟩, ⟨by omega, by omega⟩, hPI, hTI⟩, ⟨⟨by omega, by omega⟩, ⟨by omega, by omega⟩, hPI, hTI⟩, ⟨by omega, by omega⟩, ⟨n1, n2, (by omega), (by omega), (by omega)⟩, ⟨by omega, by omega⟩, _, ?_, p, q, x + 1, rfl, rfl, fun y hy => by rw [bdS_r hy]; exact he y hy, p0, p1, q0, q1, (by omega), (by omega), hl, StK_ext (KM_ay hl ⟨by omega, by omega⟩ ⟨by omega, by omega⟩ h2 h1) (StK_add hg n1 n2 (by omega) ⟨by omega, by omega⟩ ⟨by omega, by omega⟩ (bdS_at n1 n2)), rfl⟩
        omega
    · simp only [sq_iconst, sq_jsr, sq_anewarray, sq_iload, sq_lload, sq_aload, sq_istore, sq_lstore, sq_astore, sq_iinc, sq_getfield, st_put0, st_put1, st_put3, sq_inv, sq_goto, sq_icmp, sq_ifc, sq_tsw, sq_iadd, sq_isub, sq_imul, sq_ineg, sq_idiv, sq_irem, sq_iand, sq_ior, sq_ixor, sq_ishl, sq_ishr, sq_iushr, sq_ladd, sq_lmul, sq_ldiv, sq_lrem, sq_land, sq_lor, sq_lshl, sq_lushr, sq_lcmp, sq_i2l, sq_l2i, sq_i2c, sq_i2b, sq_dupI, sq_dupR, sq_dup2, sq_pop, sq_iaload, sq_baload, sq_aaload, sq_iastore, sq_bastore, sq_alen, sq_ireturn, sq_lreturn, sq_return, wq_c, wq_n, wlq_s, lkp, tbl, dBk, nth, setL, canSet, cmpI, tk, swK, rdF, entL, catS, cat1, arg, rcv, ald, bld, aln, br, Ccopy, Cmax, Cmin, Cabs, List.take, List.drop, List.reverse, List.reverseAux, List.length, List.append, List.nil_append, List.cons_append, true_and, and_true, and_self, forall_const, true_implies, false_implies, not_true_eq_false, not_false_eq_true, Option.map, reduceCtorEq, reduceIte, or_true, true_or, false_or, or_false, false_and, and_false, List.map, List.append_nil, implies_true, yK, Nat.reduceBEq, beq_self_eq_true, Int.zero_ne_one, Nat.reduceDiv, Nat.reduceMod, Nat.reduceAdd, Nat.reduceSub, Nat.reduceMul, Nat.reduceEqDiff, Nat.reduceLeDiff, Int.reduceToNat, Int.reduceNeg, Int.reduceEq, Int.reduceLT, Int.reduceLE, Int.reduceNatCast, Int.reduceNatCast', Int.reduceAdd, Int.reduceSub, Int.reduceMul, eq_self, Prod.mk.injEq, A_X9_layNet, V_X9_layNet, B_X9_layNet, Y_X9_layNet, C_X9_bound, C_X9_ashAt, C_X9_atOf, C_X9_close, shpT, rfsT, wjq_s, look]
      rw [hP2]
      exact ⟨_, 0, rfl, rfl, fun _ _ => rfl, (by omega), (by omega), fun x h1 h2 => by omega, rfl⟩

