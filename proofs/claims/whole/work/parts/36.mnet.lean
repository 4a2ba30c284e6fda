-- ===== the reference's net =====
def KJ (S : Int → Prop) (n : Int) (ja jb jl jh : Int → Int) : Kn := fun a b lo hi => ∃ j, 0 ≤ j ∧ j < n ∧ S j ∧ a = ja j ∧ b = jb j ∧ lo = jl j ∧ hi = jh j
def KT (T : Int → Prop) (n : Int) (tl th : Int → Int) : Kn := fun a b lo hi => ∃ p, 0 ≤ p ∧ p < n ∧ T p ∧ a = 7 ∧ b = p ∧ lo = tl p ∧ hi = th p
def KA (B : Int → Int → Int → Prop) (as yr : Int → Int → Int) : Kn := fun a b lo hi => ∃ q p x, B q p x ∧ ¬ as q x = -1 ∧ ¬ as p x = -1 ∧ a = q ∧ b = p ∧ lo = yr q x - yr p x ∧ hi = yr q x - yr p x
def orK (K K' : Kn) : Kn := fun a b lo hi => K a b lo hi ∨ K' a b lo hi
def bef (p0 q0 x0 : Int) : Int → Int → Int → Prop := fun q p x => 0 ≤ q ∧ q < p ∧ 0 ≤ x ∧ x < 10 ∧ (p < p0 ∨ (p = p0 ∧ (q < q0 ∨ (q = q0 ∧ x < x0))))
def asM (kd nm sz : Int → Int) (p x : Int) : Int := ff (ashP kd nm p x) 0 (sz p).toNat
def yrM (kd nm sz : Int → Int) (p x : Int) : Int := (hsum (fun _ => -1) kd nm p (asM kd nm sz p x)).tdiv 2
theorem rowS_m {f : Int → Int} : rowS f (-1) = fun _ => -1 := by funext c; unfold rowS; rw [if_pos rfl]
theorem TI_m : TI (fun _ => -1) 7 := fun x _ _ => show (-1 : Int) ≤ -1 ∧ (-1 : Int) ≤ 9 by decide
theorem asM_in {kd nm sz : Int → Int} {p x : Int} (hs : 0 ≤ sz p ∧ sz p ≤ 16) : asM kd nm sz p x = -1 ∨ (0 ≤ asM kd nm sz p x ∧ asM kd nm sz p x < sz p) := by
  unfold asM
  rcases ff_in (P := ashP kd nm p x) (sz p).toNat 0 with h | ⟨h1, h2, _⟩
  · exact Or.inl h
  · exact Or.inr ⟨h1, by omega⟩
theorem tdiv2 {a : Int} (h : 0 ≤ a) : a.tdiv 2 = a / 2 := Int.tdiv_eq_ediv_of_nonneg h
theorem yrM_in {kd nm sz : Int → Int} {p x : Int} (hP : PI kd nm) (hp : 0 ≤ p ∧ p < 7) (hs : 0 ≤ sz p ∧ sz p ≤ 16) (h : ¬ asM kd nm sz p x = -1) : 0 ≤ yrM kd nm sz p x ∧ yrM kd nm sz p x ≤ 144 := by
  have h1 := (asM_in (kd := kd) (nm := nm) (x := x) hs).resolve_left h
  have h2 := hsum_le (n := asM kd nm sz p x) hP TI_m hp ⟨h1.1, by omega⟩
  unfold yrM
  rw [tdiv2 h2.1]
  omega
theorem StK_ext {K K' : Kn} {g : Int → Int} (h : ∀ a b lo hi, K a b lo hi ↔ K' a b lo hi) (hS : StK K g) : StK K' g := by
  have : K = K' := by
    funext a b lo hi
    exact propext (h a b lo hi)
  rw [← this]
  exact hS
theorem leG_u {g g' : Int → Int} {a b hi : Int} {M : Mx} (ha : nd a) (hb : nd b) (hh : hi < 10000000) (hr : ∀ i j, nd i → nd j → g (i * 8 + j) ≤ 10000000) (h1 : ∀ i j, nd i → nd j → g' (i * 8 + j) = if i = a ∧ j = b then (if hi < g (a * 8 + b) then hi else g (a * 8 + b)) else g (i * 8 + j)) : leG g' M ↔ leG g M ∧ ole (M a b) (some hi) := by
  have e : ogM g' a b = omin (ogM g a b) (some hi) := by
    have r := hr a b ha hb
    have h := h1 a b ha hb
    rw [if_pos ⟨rfl, rfl⟩] at h
    unfold ogM
    rw [h]
    by_cases c : hi < g (a * 8 + b)
    · rw [if_pos c, if_neg (by omega)]
      by_cases c2 : g (a * 8 + b) = 10000000
      · rw [if_pos c2]; rfl
      · rw [if_neg c2]; simp only [omin]; congr 1; omega
    · rw [if_neg c]
      have c2 : ¬ g (a * 8 + b) = 10000000 := by omega
      rw [if_neg c2]; simp only [omin]; congr 1; omega
  have e2 : ∀ i j, nd i → nd j → ¬ (i = a ∧ j = b) → ogM g' i j = ogM g i j := by
    intro i j c d n
    unfold ogM
    rw [h1 i j c d, if_neg n]
  constructor
  · intro h
    refine ⟨fun i j c d => ?_, ?_⟩
    · by_cases n : i = a ∧ j = b
      · have := h i j c d
        rw [n.1, n.2] at this ⊢
        rw [e] at this
        exact ole_trans this (omin_l _ _)
      · rw [← e2 i j c d n]
        exact h i j c d
    · have := h a b ha hb
      rw [e] at this
      exact ole_trans this (omin_r _ _)
  · rintro ⟨h, h2⟩ i j c d
    by_cases n : i = a ∧ j = b
    · rw [n.1, n.2, e]
      exact omin_g (h a b ha hb) h2
    · rw [e2 i j c d n]
      exact h i j c d
theorem StK_add {K : Kn} {g g' : Int → Int} {a b lo hi : Int} (hS : StK K g) (ha : nd a) (hb : nd b) (hab : ¬ a = b) (hl : -9999 ≤ lo ∧ lo ≤ 9999) (hh : -9999 ≤ hi ∧ hi ≤ 9999) (h1 : ∀ i j, nd i → nd j → g' (i * 8 + j) = if i = b ∧ j = a then (if -lo < g (b * 8 + a) then -lo else g (b * 8 + a)) else if i = a ∧ j = b then (if hi < g (a * 8 + b) then hi else g (a * 8 + b)) else g (i * 8 + j)) : StK (addK K a b lo hi) g' := by
  obtain ⟨hz, hr, hP, hR, hs⟩ := hS
  have f1 : ∀ i j, nd i → nd j → g' (i * 8 + j) = 10000000 → g (i * 8 + j) = 10000000 ∧ ¬ (i = a ∧ j = b) ∧ ¬ (i = b ∧ j = a) := by
    intro i j c d h
    rw [h1 i j c d] at h
    split at h
    · rename_i n
      rw [n.1, n.2]
      split at h <;> omega
    · split at h
      · rename_i n
        rw [n.1, n.2]
        split at h <;> omega
      · rename_i n1 n2
        exact ⟨h, n2, n1⟩
  have f2 : ∀ i j, nd i → nd j → ¬ (i = a ∧ j = b) → ¬ (i = b ∧ j = a) → g' (i * 8 + j) = g (i * 8 + j) := by
    intro i j c d n1 n2
    rw [h1 i j c d, if_neg n2, if_neg n1]
  refine ⟨fun i c => ?_, fun i j c d => ?_, fun M hM => ?_, fun f => ?_, fun i j c d h => ?_⟩
  · rw [f2 i i c c (by omega) (by omega)]
    exact hz i c
  · have q := hr i j c d
    rw [h1 i j c d]
    split
    · rename_i n
      rw [n.1, n.2] at q
      split <;> omega
    · split
      · rename_i n
        rw [n.1, n.2] at q
        split <;> omega
      · exact q
  · let g1 : Int → Int := fun x => if x = a * 8 + b then (if hi < g (a * 8 + b) then hi else g (a * 8 + b)) else g x
    have k1 : ∀ i j, nd i → nd j → g1 (i * 8 + j) = if i = a ∧ j = b then (if hi < g (a * 8 + b) then hi else g (a * 8 + b)) else g (i * 8 + j) := by
      intro i j c d
      unfold nd at c d ha hb
      show (if i * 8 + j = a * 8 + b then _ else _) = _
      by_cases n : i = a ∧ j = b
      · rw [if_pos n, if_pos (by omega)]
      · rw [if_neg n, if_neg (by omega)]
    have k2 : ∀ i j, nd i → nd j → g' (i * 8 + j) = if i = b ∧ j = a then (if -lo < g1 (b * 8 + a) then -lo else g1 (b * 8 + a)) else g1 (i * 8 + j) := by
      intro i j c d
      rw [h1 i j c d, k1 b a hb ha, if_neg (show ¬ (b = a ∧ a = b) by omega), k1 i j c d]
    rw [AllC_add, hP M hM, leG_u hb ha (by omega) (fun i j c d => by rw [k1 i j c d]; have q := hr i j c d; have q2 := hr a b ha hb; split <;> (try split) <;> omega) k2, leG_u ha hb (by omega) (fun i j c d => by have := hr i j c d; omega) k1, and_assoc]
    rfl
  · rw [Rsp_add, hR]
    constructor
    · rintro ⟨q1, q2⟩ i j c d h
      by_cases n1 : i = a ∧ j = b
      · rw [n1.1, n1.2]; exact q2
      · by_cases n2 : i = b ∧ j = a
        · rw [n2.1, n2.2]; exact q2.symm
        · rw [f2 i j c d n1 n2] at h
          exact q1 i j c d h
    · intro q
      refine ⟨fun i j c d h => q i j c d (fun z => h (f1 i j c d z).1), q a b ha hb (fun z => (f1 a b ha hb z).2.1 ⟨rfl, rfl⟩)⟩
  · obtain ⟨q1, q2, q3⟩ := f1 i j c d h
    rw [f2 j i d c (fun z => q3 ⟨z.2, z.1⟩) (fun z => q2 ⟨z.2, z.1⟩)]
    exact hs i j c d q1
theorem StK_0 {g : Int → Int} (h : ∀ i j, nd i → nd j → g (i * 8 + j) = if i = j then 0 else 10000000) : StK noK g := by
  refine ⟨fun i a => by rw [h i i a a, if_pos rfl], fun i j a b => ?_, fun M hM => ⟨fun _ i j a b => ?_, fun _ _ _ _ _ z => z.elim⟩, fun f => ⟨fun _ i j a b c => ?_, fun _ _ _ _ _ z => z.elim⟩, fun i j a b c => ?_⟩
  · rw [h i j a b]
    split <;> omega
  · by_cases c : i = j
    · subst c
      rw [ogM_s (by rw [h i i a a, if_pos rfl]; omega), h i i a a, if_pos rfl, hM.1 i a]
      exact ole_refl _
    · rw [ogM_n (by rw [h i j a b, if_neg c])]
      cases M i j <;> simp [ole]
  · by_cases e : i = j
    · rw [e]
    · rw [h i j a b, if_neg e] at c
      exact absurd rfl c
  · by_cases e : i = j
    · rw [e] at c ⊢
      exact c
    · rw [h j i b a, if_neg (by omega)]
def bdS (σ : Sto) (a b lo hi : Int) : Sto := su (su σ 91 (a * 8 + b) (if hi < σ 91 (a * 8 + b) then hi else σ 91 (a * 8 + b))) 91 (b * 8 + a) (if -lo < σ 91 (b * 8 + a) then -lo else σ 91 (b * 8 + a))
theorem bdS_r {σ : Sto} {a b lo hi : Int} {p : Nat} (h : p ≠ 91) : bdS σ a b lo hi p = σ p := by unfold bdS; rw [su_r h, su_r h]
theorem bdS_at {σ : Sto} {a b lo hi : Int} (ha : nd a) (hb : nd b) (i j : Int) (c : nd i) (d : nd j) : bdS σ a b lo hi 91 (i * 8 + j) = if i = b ∧ j = a then (if -lo < σ 91 (b * 8 + a) then -lo else σ 91 (b * 8 + a)) else if i = a ∧ j = b then (if hi < σ 91 (a * 8 + b) then hi else σ 91 (a * 8 + b)) else σ 91 (i * 8 + j) := by
  unfold nd at *
  unfold bdS
  rw [su_at, su_at]
  by_cases n : i = b ∧ j = a
  · rw [if_pos n, if_pos (by omega)]
  · rw [if_neg n, if_neg (by omega)]
    by_cases n2 : i = a ∧ j = b
    · rw [if_pos n2, if_pos (by omega)]
    · rw [if_neg n2, if_neg (by omega)]
def A_X9_bound : List (Nat × Ctr) := []
theorem e_X9_bound (o : OM) : Ev o Y_X9_bound 0 T_X9_bound A_X9_bound := ⟨rfl, List.forall_mem_cons.mpr ⟨Or.inl f_X9_80, fun _ h => absurd h List.not_mem_nil⟩, fun _ h => absurd h List.not_mem_nil, fun _ h => absurd h List.not_mem_nil, fun _ h => absurd h List.not_mem_nil, fun _ h => absurd h List.not_mem_nil, fun _ h => absurd h List.not_mem_nil⟩
def C_X9_bound : Ctr := fun A σ κ => match A with
  | [.inr (.inr (.inl 67)), .inl a, .inl b, .inl lo, .inl hi] => (nd a ∧ nd b ∧ ¬ a = b ∧ (-100000000 ≤ lo ∧ lo ≤ 100000000)) ∧ κ [] (bdS σ a b lo hi)
  | _ => False
set_option maxRecDepth 20000 in
theorem s_X9_bound (o : OM) : Sound o Y_X9_bound 0 C_X9_bound := by
  intro Q A σ hA hC
  match A, hA, hC with
  | [.inr (.inr (.inl 67)), .inl a, .inl b, .inl lo, .inl hi], hA, hC =>
    obtain ⟨h0, hq⟩ : (nd a ∧ nd b ∧ ¬ a = b ∧ (-100000000 ≤ lo ∧ lo ≤ 100000000)) ∧ Q [] (bdS σ a b lo hi) := hC
    have hQ : ∀ τ, τ = (bdS σ a b lo hi) → Q [] τ := fun τ e2 => e2 ▸ hq
    refine at_wpl (lv := V_X9_bound) (B := B_X9_bound) (e_X9_bound o) k_X9_bound 5 0 [] _ σ ?_
    simp only [sq_iconst, sq_jsr, sq_anewarray, sq_iload, sq_lload, sq_aload, sq_istore, sq_lstore, sq_astore, sq_iinc, sq_getfield, st_put0, st_put1, st_put3, sq_inv, sq_goto, sq_icmp, sq_ifc, sq_tsw, sq_iadd, sq_isub, sq_imul, sq_ineg, sq_idiv, sq_irem, sq_iand, sq_ior, sq_ixor, sq_ishl, sq_ishr, sq_iushr, sq_ladd, sq_lmul, sq_ldiv, sq_lrem, sq_land, sq_lor, sq_lshl, sq_lushr, sq_lcmp, sq_i2l, sq_l2i, sq_i2c, sq_i2b, sq_dupI, sq_dupR, sq_dup2, sq_pop, sq_iaload, sq_baload, sq_aaload, sq_iastore, sq_bastore, sq_alen, sq_ireturn, sq_lreturn, sq_return, wq_c, wq_n, wlq_s, lkp, tbl, dBk, nth, setL, canSet, cmpI, tk, swK, rdF, entL, catS, cat1, arg, rcv, ald, bld, aln, br, Ccopy, Cmax, Cmin, Cabs, List.take, List.drop, List.reverse, List.reverseAux, List.length, List.append, List.nil_append, List.cons_append, true_and, and_true, and_self, forall_const, true_implies, false_implies, not_true_eq_false, not_false_eq_true, Option.map, reduceCtorEq, reduceIte, or_true, true_or, false_or, or_false, false_and, and_false, List.map, List.append_nil, implies_true, yK, Nat.reduceBEq, beq_self_eq_true, Int.zero_ne_one, Nat.reduceDiv, Nat.reduceMod, Nat.reduceAdd, Nat.reduceSub, Nat.reduceMul, Nat.reduceEqDiff, Nat.reduceLeDiff, Int.reduceToNat, Int.reduceNeg, Int.reduceEq, Int.reduceLT, Int.reduceLE, Int.reduceNatCast, Int.reduceNatCast', Int.reduceAdd, Int.reduceSub, Int.reduceMul, eq_self, Prod.mk.injEq, A_X9_bound, V_X9_bound, B_X9_bound, Y_X9_bound, shpT, rfsT, m8]
    obtain ⟨ha, hb, hab, hl⟩ := h0
    unfold nd at ha hb
    have e : ∀ v, su σ 91 (a * 8 + b) v 91 (b * 8 + a) = σ 91 (b * 8 + a) := fun v => by rw [su_at, if_neg (by omega)]
    simp only [e]
    clear hq
    repeat' (first | (intro _) | apply And.intro)
    all_goals first | omega | skip
    · rename_i h1 h2
      refine hQ _ ?_
      unfold bdS
      rw [if_neg (by omega), if_neg (by omega)]
    · rename_i h1 h2
      refine hQ _ ?_
      unfold bdS
      rw [if_neg (by omega), if_pos (by omega)]
    · rename_i h1 h2
      refine hQ _ ?_
      unfold bdS
      rw [if_pos (by omega), if_neg (by omega)]
    · rename_i h1 h2
      refine hQ _ ?_
      unfold bdS
      rw [if_pos (by omega), if_pos (by omega)]
def A_X9_close : List (Nat × Ctr) := []
theorem e_X9_close (o : OM) : Ev o Y_X9_close 0 T_X9_close A_X9_close := ⟨rfl, List.forall_mem_cons.mpr ⟨Or.inl f_X9_80, fun _ h => absurd h List.not_mem_nil⟩, List.forall_mem_cons.mpr ⟨⟨w_1542, by decide, by decide⟩, List.forall_mem_cons.mpr ⟨⟨w_1529, by decide, by decide⟩, fun _ h => absurd h List.not_mem_nil⟩⟩, fun _ h => absurd h List.not_mem_nil, fun _ h => absurd h List.not_mem_nil, fun _ h => absurd h List.not_mem_nil, fun _ h => absurd h List.not_mem_nil⟩
def C_X9_close : Ctr := fun A σ κ => match A with
  | [.inr (.inr (.inl 67))] => (rIn (σ 91)) ∧ ∀ (r : Int) (τ : Sto), (∀ p : Nat, p ≠ 91 → τ p = σ p) → τ 91 = rnK (σ 91) 8 → ((∀ i, nd i → 0 ≤ rnK (σ 91) 8 (i * 8 + i)) → r = 1) → ((¬ ∀ i, nd i → 0 ≤ rnK (σ 91) 8 (i * 8 + i)) → r = 0) → κ [vI r] τ
  | _ => False
set_option maxRecDepth 20000 in
theorem s_X9_close (o : OM) : Sound o Y_X9_close 0 C_X9_close := by
  intro Q A σ hA hC
  match A, hA, hC with
  | [.inr (.inr (.inl 67))], hA, hC =>
    obtain ⟨h0, hq⟩ : (rIn (σ 91)) ∧ ∀ (r : Int) (τ : Sto), (∀ p : Nat, p ≠ 91 → τ p = σ p) → τ 91 = rnK (σ 91) 8 → ((∀ i, nd i → 0 ≤ rnK (σ 91) 8 (i * 8 + i)) → r = 1) → ((¬ ∀ i, nd i → 0 ≤ rnK (σ 91) 8 (i * 8 + i)) → r = 0) → Q [vI r] τ := hC
    obtain ⟨P2, hP2⟩ : ∃ P : Nat → List AV → List AV → Sto → Prop, P = fun m S L τ => ∃ k : Int, S = [] ∧ L = [vR 67, vI k] ∧ (∀ p : Nat, p ≠ 91 → τ p = σ p) ∧ 0 ≤ k ∧ k ≤ 8 ∧ τ 91 = rnK (σ 91) k.toNat ∧ m = ((8 - k) * 10000 + 2000).toNat := ⟨_, rfl⟩
    obtain ⟨P10, hP10⟩ : ∃ P : Nat → List AV → List AV → Sto → Prop, P = fun m S L τ => ∃ k a : Int, S = [] ∧ L = [vR 67, vI k, vI a] ∧ (∀ p : Nat, p ≠ 91 → τ p = σ p) ∧ 0 ≤ k ∧ k < 8 ∧ 0 ≤ a ∧ a ≤ 8 ∧ τ 91 = rnS (rnK (σ 91) k.toNat) k (a * 8).toNat ∧ m = ((7 - k) * 10000 + 3000 + (8 - a) * 200).toNat := ⟨_, rfl⟩
    obtain ⟨P18, hP18⟩ : ∃ P : Nat → List AV → List AV → Sto → Prop, P = fun m S L τ => ∃ k a b : Int, S = [] ∧ L = [vR 67, vI k, vI a, vI b] ∧ (∀ p : Nat, p ≠ 91 → τ p = σ p) ∧ 0 ≤ k ∧ k < 8 ∧ 0 ≤ a ∧ a < 8 ∧ 0 ≤ b ∧ b ≤ 8 ∧ τ 91 = rnS (rnK (σ 91) k.toNat) k (a * 8 + b).toNat ∧ m = ((7 - k) * 10000 + 3000 + (7 - a) * 200 + 50 + (8 - b) * 10).toNat := ⟨_, rfl⟩
    obtain ⟨P82, hP82⟩ : ∃ P : Nat → List AV → List AV → Sto → Prop, P = fun m S L τ => ∃ k a b : Int, S = [vI (thr (τ 91 (a * 8 + k)) (τ 91 (k * 8 + b)))] ∧ L = [vR 67, vI k, vI a, vI b] ∧ (∀ p : Nat, p ≠ 91 → τ p = σ p) ∧ 0 ≤ k ∧ k < 8 ∧ 0 ≤ a ∧ a < 8 ∧ 0 ≤ b ∧ b < 8 ∧ τ 91 = rnS (rnK (σ 91) k.toNat) k (a * 8 + b).toNat ∧ m = ((7 - k) * 10000 + 3000 + (7 - a) * 200 + 50 + (8 - b) * 10 - 1).toNat := ⟨_, rfl⟩
    obtain ⟨P123, hP123⟩ : ∃ P : Nat → List AV → List AV → Sto → Prop, P = fun m S L τ => ∃ k a b z : Int, S = [vI z] ∧ L = [vR 67, vI k, vI a, vI b, vI (thr (τ 91 (a * 8 + k)) (τ 91 (k * 8 + b)))] ∧ (∀ p : Nat, p ≠ 91 → τ p = σ p) ∧ 0 ≤ k ∧ k < 8 ∧ 0 ≤ a ∧ a < 8 ∧ 0 ≤ b ∧ b < 8 ∧ τ 91 = rnS (rnK (σ 91) k.toNat) k (a * 8 + b).toNat ∧ ((z = 1 ∧ τ 91 (a * 8 + k) < 10000000 ∧ τ 91 (k * 8 + b) < 10000000) ∨ (z = 0 ∧ ¬ (τ 91 (a * 8 + k) < 10000000 ∧ τ 91 (k * 8 + b) < 10000000))) ∧ m = ((7 - k) * 10000 + 3000 + (7 - a) * 200 + 50 + (8 - b) * 10 - 2).toNat := ⟨_, rfl⟩
    obtain ⟨P172, hP172⟩ : ∃ P : Nat → List AV → List AV → Sto → Prop, P = fun m S L τ => ∃ k a b z w : Int, S = [vI (stI k a b (τ 91)), vI (a * 8 + b), vR 91] ∧ L = [vR 67, vI k, vI a, vI b, vI z, vI w] ∧ (∀ p : Nat, p ≠ 91 → τ p = σ p) ∧ 0 ≤ k ∧ k < 8 ∧ 0 ≤ a ∧ a < 8 ∧ 0 ≤ b ∧ b < 8 ∧ τ 91 = rnS (rnK (σ 91) k.toNat) k (a * 8 + b).toNat ∧ m = ((7 - k) * 10000 + 3000 + (7 - a) * 200 + 50 + (8 - b) * 10 - 3).toNat := ⟨_, rfl⟩
    obtain ⟨P195, hP195⟩ : ∃ P : Nat → List AV → List AV → Sto → Prop, P = fun m S L τ => ∃ r a : Int, S = [] ∧ L = [vR 67, vI r, vI a] ∧ (∀ p : Nat, p ≠ 91 → τ p = σ p) ∧ τ 91 = rnK (σ 91) 8 ∧ 0 ≤ a ∧ a ≤ 8 ∧ ((r = 1 ∧ ∀ i, 0 ≤ i → i < a → 0 ≤ rnK (σ 91) 8 (i * 8 + i)) ∨ (r = 0 ∧ ∃ i, nd i ∧ rnK (σ 91) 8 (i * 8 + i) < 0)) ∧ m = (8 - a).toNat := ⟨_, rfl⟩
    have rr : ∀ (k a b : Int), 0 ≤ k → k < 8 → 0 ≤ a → a < 8 → 0 ≤ b → b < 8 → rIn (rnS (rnK (σ 91) k.toNat) k (a * 8 + b).toNat) := fun k a b h1 h2 h3 h4 h5 h6 => (rnS_in (rnK_in h0 k.toNat (by omega)) ⟨h1, h2⟩ _ (by omega)).1
    refine at_meth (lv := V_X9_close) (B := B_X9_close) (e_X9_close o) k_X9_close 9 [(2, P2), (10, P10), (18, P18), (82, P82), (123, P123), (172, P172), (195, P195)] (List.forall_mem_cons.mpr ⟨?_, List.forall_mem_cons.mpr ⟨?_, List.forall_mem_cons.mpr ⟨?_, List.forall_mem_cons.mpr ⟨?_, List.forall_mem_cons.mpr ⟨?_, List.forall_mem_cons.mpr ⟨?_, List.forall_mem_cons.mpr ⟨?_, fun _ h => absurd h List.not_mem_nil⟩⟩⟩⟩⟩⟩⟩) 0 [] _ σ ?_
    · intro m S L τ hI
      rw [hP2] at hI
      obtain ⟨k, rfl, rfl, he, k0, k1, hg, hm⟩ := hI
      simp only [sq_iconst, sq_jsr, sq_anewarray, sq_iload, sq_lload, sq_aload, sq_istore, sq_lstore, sq_astore, sq_iinc, sq_getfield, st_put0, st_put1, st_put3, sq_inv, sq_goto, sq_icmp, sq_ifc, sq_tsw, sq_iadd, sq_isub, sq_imul, sq_ineg, sq_idiv, sq_irem, sq_iand, sq_ior, sq_ixor, sq_ishl, sq_ishr, sq_iushr, sq_ladd, sq_lmul, sq_ldiv, sq_lrem, sq_land, sq_lor, sq_lshl, sq_lushr, sq_lcmp, sq_i2l, sq_l2i, sq_i2c, sq_i2b, sq_dupI, sq_dupR, sq_dup2, sq_pop, sq_iaload, sq_baload, sq_aaload, sq_iastore, sq_bastore, sq_alen, sq_ireturn, sq_lreturn, sq_return, wq_c, wq_n, wlq_s, lkp, tbl, dBk, nth, setL, canSet, cmpI, tk, swK, rdF, entL, catS, cat1, arg, rcv, ald, bld, aln, br, Ccopy, Cmax, Cmin, Cabs, List.take, List.drop, List.reverse, List.reverseAux, List.length, List.append, List.nil_append, List.cons_append, true_and, and_true, and_self, forall_const, true_implies, false_implies, not_true_eq_false, not_false_eq_true, Option.map, reduceCtorEq, reduceIte, or_true, true_or, false_or, or_false, false_and, and_false, List.map, List.append_nil, implies_true, yK, Nat.reduceBEq, beq_self_eq_true, Int.zero_ne_one, Nat.reduceDiv, Nat.reduceMod, Nat.reduceAdd, Nat.reduceSub, Nat.reduceMul, Nat.reduceEqDiff, Nat.reduceLeDiff, Int.reduceToNat, Int.reduceNeg, Int.reduceEq, Int.reduceLT, Int.reduceLE, Int.reduceNatCast, Int.reduceNatCast', Int.reduceAdd, Int.reduceSub, Int.reduceMul, eq_self, Prod.mk.injEq, A_X9_close, V_X9_close, B_X9_close, Y_X9_close, shpT, rfsT, wjq_s, look]
      refine ⟨fun h => ?_, fun h => ?_⟩
      · rw [hP195]
        have : k = 8 := by omega
        subst this
        refine ⟨_, ?_, 1, 0, rfl, rfl, he, hg, by omega, by omega, Or.inl ⟨rfl, fun i h1 h2 => by omega⟩, rfl⟩
        omega
      · rw [hP10]
        refine ⟨_, ?_, k, 0, rfl, rfl, he, k0, by omega, by omega, by omega, hg, rfl⟩
        omega
    · intro m S L τ hI
      rw [hP10] at hI
      obtain ⟨k, a, rfl, rfl, he, k0, k1, a0, a1, hg, hm⟩ := hI
      simp only [sq_iconst, sq_jsr, sq_anewarray, sq_iload, sq_lload, sq_aload, sq_istore, sq_lstore, sq_astore, sq_iinc, sq_getfield, st_put0, st_put1, st_put3, sq_inv, sq_goto, sq_icmp, sq_ifc, sq_tsw, sq_iadd, sq_isub, sq_imul, sq_ineg, sq_idiv, sq_irem, sq_iand, sq_ior, sq_ixor, sq_ishl, sq_ishr, sq_iushr, sq_ladd, sq_lmul, sq_ldiv, sq_lrem, sq_land, sq_lor, sq_lshl, sq_lushr, sq_lcmp, sq_i2l, sq_l2i, sq_i2c, sq_i2b, sq_dupI, sq_dupR, sq_dup2, sq_pop, sq_iaload, sq_baload, sq_aaload, sq_iastore, sq_bastore, sq_alen, sq_ireturn, sq_lreturn, sq_return, wq_c, wq_n, wlq_s, lkp, tbl, dBk, nth, setL, canSet, cmpI, tk, swK, rdF, entL, catS, cat1, arg, rcv, ald, bld, aln, br, Ccopy, Cmax, Cmin, Cabs, List.take, List.drop, List.reverse, List.reverseAux, List.length, List.append, List.nil_append, List.cons_append, true_and, and_true, and_self, forall_const, true_implies, false_implies, not_true_eq_false, not_false_eq_true, Option.map, reduceCtorEq, reduceIte, or_true, true_or, false_or, or_false, false_and, and_false, List.map, List.append_nil, implies_true, yK, Nat.reduceBEq, beq_self_eq_true, Int.zero_ne_one, Nat.reduceDiv, Nat.reduceMod, Nat.reduceAdd, Nat.reduceSub, Nat.reduceMul, Nat.reduceEqDiff, Nat.reduceLeDiff, Int.reduceToNat, Int.reduceNeg, Int.reduceEq, Int.reduceLT, Int.reduceLE, Int.reduceNatCast, Int.reduceNatCast', Int.reduceAdd, Int.reduceSub, Int.reduceMul, eq_self, Prod.mk.injEq, A_X9_close, V_X9_close, B_X9_close, Y_X9_close, shpT, rfsT, wjq_s, look]
      refine ⟨fun h => ?_, fun h => ?_⟩
      · rw [hP2]
        have : a = 8 := by omega
        subst this
        refine ⟨⟨by omega, by omega⟩, _, ?_, k + 1, rfl, rfl, he, by omega, by omega, ?_, rfl⟩
        · omega
        · rw [hg, show (k + 1).toNat = k.toNat + 1 by omega]
          show _ = rnS (rnK (σ 91) k.toNat) (k.toNat : Int) 64
          rw [Int.toNat_of_nonneg k0]
          rfl
      · rw [hP18]
        refine ⟨_, ?_, k, a, 0, rfl, rfl, he, k0, k1, a0, by omega, by omega, by omega, by rw [hg, Int.add_zero], rfl⟩
        omega
    · intro m S L τ hI
      rw [hP18] at hI
      obtain ⟨k, a, b, rfl, rfl, he, k0, k1, a0, a1, b0, b1, hg, hm⟩ := hI
      simp only [sq_iconst, sq_jsr, sq_anewarray, sq_iload, sq_lload, sq_aload, sq_istore, sq_lstore, sq_astore, sq_iinc, sq_getfield, st_put0, st_put1, st_put3, sq_inv, sq_goto, sq_icmp, sq_ifc, sq_tsw, sq_iadd, sq_isub, sq_imul, sq_ineg, sq_idiv, sq_irem, sq_iand, sq_ior, sq_ixor, sq_ishl, sq_ishr, sq_iushr, sq_ladd, sq_lmul, sq_ldiv, sq_lrem, sq_land, sq_lor, sq_lshl, sq_lushr, sq_lcmp, sq_i2l, sq_l2i, sq_i2c, sq_i2b, sq_dupI, sq_dupR, sq_dup2, sq_pop, sq_iaload, sq_baload, sq_aaload, sq_iastore, sq_bastore, sq_alen, sq_ireturn, sq_lreturn, sq_return, wq_c, wq_n, wlq_s, lkp, tbl, dBk, nth, setL, canSet, cmpI, tk, swK, rdF, entL, catS, cat1, arg, rcv, ald, bld, aln, br, Ccopy, Cmax, Cmin, Cabs, List.take, List.drop, List.reverse, List.reverseAux, List.length, List.append, List.nil_append, List.cons_append, true_and, and_true, and_self, forall_const, true_implies, false_implies, not_true_eq_false, not_false_eq_true, Option.map, reduceCtorEq, reduceIte, or_true, true_or, false_or, or_false, false_and, and_false, List.map, List.append_nil, implies_true, yK, Nat.reduceBEq, beq_self_eq_true, Int.zero_ne_one, Nat.reduceDiv, Nat.reduceMod, Nat.reduceAdd, Nat.reduceSub, Nat.reduceMul, Nat.reduceEqDiff, Nat.reduceLeDiff, Int.reduceToNat, Int.reduceNeg, Int.reduceEq, Int.reduceLT, Int.reduceLE, Int.reduceNatCast, Int.reduceNatCast', Int.reduceAdd, Int.reduceSub, Int.reduceMul, eq_self, Prod.mk.injEq, A_X9_close, V_X9_close, B_X9_close, Y_X9_close, shpT, rfsT, wjq_s, look, m8]
      refine ⟨fun h => ?_, fun h => ?_⟩
      · rw [hP10]
        refine ⟨⟨by omega, by omega⟩, _, ?_, k, a + 1, rfl, rfl, he, k0, k1, by omega, by omega, ?_, rfl⟩
        · omega
        · rw [hg, show (a + 1) * 8 = a * 8 + b by omega]
      · have r := rr k a b k0 k1 a0 a1 b0 (by omega)
        rw [← hg] at r
        have r1 := r a k ⟨by omega, by omega⟩ ⟨by omega, by omega⟩
        have r2 := r k b ⟨by omega, by omega⟩ ⟨by omega, by omega⟩
        refine ⟨⟨by omega, by omega⟩, ⟨by omega, by omega⟩, ⟨by omega, by omega⟩, ⟨by omega, by omega⟩, ⟨by omega, by omega⟩, ⟨by omega, by omega⟩, ⟨by omega, by omega⟩, fun h1 => ⟨⟨by omega, by omega⟩, ⟨by omega, by omega⟩, ⟨by omega, by omega⟩, ⟨by omega, by omega⟩, ⟨by omega, by omega⟩, ⟨by omega, by omega⟩, ⟨by omega, by omega⟩, ?_⟩, fun h1 => ?_⟩
        · rw [hP82]
          refine ⟨_, ?_, k, a, b, ?_, rfl, he, k0, k1, a0, a1, b0, by omega, hg, rfl⟩
          · omega
          · unfold thr; rw [if_neg (by omega)]
        · rw [hP82]
          refine ⟨_, ?_, k, a, b, ?_, rfl, he, k0, k1, a0, a1, b0, by omega, hg, rfl⟩
          · omega
          · unfold thr; rw [if_pos (by omega)]
    · intro m S L τ hI
      rw [hP82] at hI
      obtain ⟨k, a, b, rfl, rfl, he, k0, k1, a0, a1, b0, b1, hg, hm⟩ := hI
      simp only [sq_iconst, sq_jsr, sq_anewarray, sq_iload, sq_lload, sq_aload, sq_istore, sq_lstore, sq_astore, sq_iinc, sq_getfield, st_put0, st_put1, st_put3, sq_inv, sq_goto, sq_icmp, sq_ifc, sq_tsw, sq_iadd, sq_isub, sq_imul, sq_ineg, sq_idiv, sq_irem, sq_iand, sq_ior, sq_ixor, sq_ishl, sq_ishr, sq_iushr, sq_ladd, sq_lmul, sq_ldiv, sq_lrem, sq_land, sq_lor, sq_lshl, sq_lushr, sq_lcmp, sq_i2l, sq_l2i, sq_i2c, sq_i2b, sq_dupI, sq_dupR, sq_dup2, sq_pop, sq_iaload, sq_baload, sq_aaload, sq_iastore, sq_bastore, sq_alen, sq_ireturn, sq_lreturn, sq_return, wq_c, wq_n, wlq_s, lkp, tbl, dBk, nth, setL, canSet, cmpI, tk, swK, rdF, entL, catS, cat1, arg, rcv, ald, bld, aln, br, Ccopy, Cmax, Cmin, Cabs, List.take, List.drop, List.reverse, List.reverseAux, List.length, List.append, List.nil_append, List.cons_append, true_and, and_true, and_self, forall_const, true_implies, false_implies, not_true_eq_false, not_false_eq_true, Option.map, reduceCtorEq, reduceIte, or_true, true_or, false_or, or_false, false_and, and_false, List.map, List.append_nil, implies_true, yK, Nat.reduceBEq, beq_self_eq_true, Int.zero_ne_one, Nat.reduceDiv, Nat.reduceMod, Nat.reduceAdd, Nat.reduceSub, Nat.reduceMul, Nat.reduceEqDiff, Nat.reduceLeDiff, Int.reduceToNat, Int.reduceNeg, Int.reduceEq, Int.reduceLT, Int.reduceLE, Int.reduceNatCast, Int.reduceNatCast', Int.reduceAdd, Int.reduceSub, Int.reduceMul, eq_self, Prod.mk.injEq, A_X9_close, V_X9_close, B_X9_close, Y_X9_close, shpT, rfsT, wjq_s, look, m8]
      rw [hP123]
      refine ⟨⟨by omega, by omega⟩, ⟨by omega, by omega⟩, ⟨by omega, by omega⟩, fun h1 => ?_, fun h1 => ⟨⟨by omega, by omega⟩, ⟨by omega, by omega⟩, ⟨by omega, by omega⟩, fun h2 => ?_, fun h2 => ?_⟩⟩
      · refine ⟨_, ?_, k, a, b, 0, rfl, rfl, he, k0, k1, a0, a1, b0, b1, hg, Or.inr ⟨rfl, by omega⟩, rfl⟩
        omega
      · refine ⟨_, ?_, k, a, b, 0, rfl, rfl, he, k0, k1, a0, a1, b0, b1, hg, Or.inr ⟨rfl, by omega⟩, rfl⟩
        omega
      · refine ⟨_, ?_, k, a, b, 1, rfl, rfl, he, k0, k1, a0, a1, b0, b1, hg, Or.inl ⟨rfl, by omega, by omega⟩, rfl⟩
        omega
    · intro m S L τ hI
      rw [hP123] at hI
      obtain ⟨k, a, b, z, rfl, rfl, he, k0, k1, a0, a1, b0, b1, hg, hz, hm⟩ := hI
      simp only [sq_iconst, sq_jsr, sq_anewarray, sq_iload, sq_lload, sq_aload, sq_istore, sq_lstore, sq_astore, sq_iinc, sq_getfield, st_put0, st_put1, st_put3, sq_inv, sq_goto, sq_icmp, sq_ifc, sq_tsw, sq_iadd, sq_isub, sq_imul, sq_ineg, sq_idiv, sq_irem, sq_iand, sq_ior, sq_ixor, sq_ishl, sq_ishr, sq_iushr, sq_ladd, sq_lmul, sq_ldiv, sq_lrem, sq_land, sq_lor, sq_lshl, sq_lushr, sq_lcmp, sq_i2l, sq_l2i, sq_i2c, sq_i2b, sq_dupI, sq_dupR, sq_dup2, sq_pop, sq_iaload, sq_baload, sq_aaload, sq_iastore, sq_bastore, sq_alen, sq_ireturn, sq_lreturn, sq_return, wq_c, wq_n, wlq_s, lkp, tbl, dBk, nth, setL, canSet, cmpI, tk, swK, rdF, entL, catS, cat1, arg, rcv, ald, bld, aln, br, Ccopy, Cmax, Cmin, Cabs, List.take, List.drop, List.reverse, List.reverseAux, List.length, List.append, List.nil_append, List.cons_append, true_and, and_true, and_self, forall_const, true_implies, false_implies, not_true_eq_false, not_false_eq_true, Option.map, reduceCtorEq, reduceIte, or_true, true_or, false_or, or_false, false_and, and_false, List.map, List.append_nil, implies_true, yK, Nat.reduceBEq, beq_self_eq_true, Int.zero_ne_one, Nat.reduceDiv, Nat.reduceMod, Nat.reduceAdd, Nat.reduceSub, Nat.reduceMul, Nat.reduceEqDiff, Nat.reduceLeDiff, Int.reduceToNat, Int.reduceNeg, Int.reduceEq, Int.reduceLT, Int.reduceLE, Int.reduceNatCast, Int.reduceNatCast', Int.reduceAdd, Int.reduceSub, Int.reduceMul, eq_self, Prod.mk.injEq, A_X9_close, V_X9_close, B_X9_close, Y_X9_close, shpT, rfsT, wjq_s, look, m8]
      rw [hP172]
      refine ⟨⟨by omega, by omega⟩, ⟨by omega, by omega⟩, fun h1 => ⟨⟨by omega, by omega⟩, ⟨by omega, by omega⟩, ⟨by omega, by omega⟩, ?_⟩, fun h1 => ⟨⟨by omega, by omega⟩, ⟨by omega, by omega⟩, ⟨by omega, by omega⟩, fun h2 => ⟨⟨by omega, by omega⟩, ⟨by omega, by omega⟩, ⟨by omega, by omega⟩, ?_⟩, fun h2 => ?_⟩⟩
      · refine ⟨_, ?_, k, a, b, _, _, ?_, rfl, he, k0, k1, a0, a1, b0, b1, hg, rfl⟩
        · omega
        · unfold stI; rw [if_neg (by omega)]
      · refine ⟨_, ?_, k, a, b, _, _, ?_, rfl, he, k0, k1, a0, a1, b0, b1, hg, rfl⟩
        · omega
        · unfold stI; rw [if_neg (by omega)]
      · refine ⟨_, ?_, k, a, b, _, _, ?_, rfl, he, k0, k1, a0, a1, b0, b1, hg, rfl⟩
        · omega
        · unfold stI; rw [if_pos (by omega)]
    · intro m S L τ hI
      rw [hP172] at hI
      obtain ⟨k, a, b, z, w, rfl, rfl, he, k0, k1, a0, a1, b0, b1, hg, hm⟩ := hI
      simp only [sq_iconst, sq_jsr, sq_anewarray, sq_iload, sq_lload, sq_aload, sq_istore, sq_lstore, sq_astore, sq_iinc, sq_getfield, st_put0, st_put1, st_put3, sq_inv, sq_goto, sq_icmp, sq_ifc, sq_tsw, sq_iadd, sq_isub, sq_imul, sq_ineg, sq_idiv, sq_irem, sq_iand, sq_ior, sq_ixor, sq_ishl, sq_ishr, sq_iushr, sq_ladd, sq_lmul, sq_ldiv, sq_lrem, sq_land, sq_lor, sq_lshl, sq_lushr, sq_lcmp, sq_i2l, sq_l2i, sq_i2c, sq_i2b, sq_dupI, sq_dupR, sq_dup2, sq_pop, sq_iaload, sq_baload, sq_aaload, sq_iastore, sq_bastore, sq_alen, sq_ireturn, sq_lreturn, sq_return, wq_c, wq_n, wlq_s, lkp, tbl, dBk, nth, setL, canSet, cmpI, tk, swK, rdF, entL, catS, cat1, arg, rcv, ald, bld, aln, br, Ccopy, Cmax, Cmin, Cabs, List.take, List.drop, List.reverse, List.reverseAux, List.length, List.append, List.nil_append, List.cons_append, true_and, and_true, and_self, forall_const, true_implies, false_implies, not_true_eq_false, not_false_eq_true, Option.map, reduceCtorEq, reduceIte, or_true, true_or, false_or, or_false, false_and, and_false, List.map, List.append_nil, implies_true, yK, Nat.reduceBEq, beq_self_eq_true, Int.zero_ne_one, Nat.reduceDiv, Nat.reduceMod, Nat.reduceAdd, Nat.reduceSub, Nat.reduceMul, Nat.reduceEqDiff, Nat.reduceLeDiff, Int.reduceToNat, Int.reduceNeg, Int.reduceEq, Int.reduceLT, Int.reduceLE, Int.reduceNatCast, Int.reduceNatCast', Int.reduceAdd, Int.reduceSub, Int.reduceMul, eq_self, Prod.mk.injEq, A_X9_close, V_X9_close, B_X9_close, Y_X9_close, shpT, rfsT, wjq_s, look, m8]
      rw [hP18]
      refine ⟨⟨by omega, by omega⟩, ⟨by omega, by omega⟩, _, ?_, k, a, b + 1, rfl, rfl, fun p hp => by rw [su_r hp]; exact he p hp, k0, k1, a0, a1, by omega, by omega, ?_, rfl⟩
      · omega
      · rw [su_eq, show (a * 8 + (b + 1)).toNat = (a * 8 + b).toNat + 1 by omega]
        show _ = upI (rnS (rnK (σ 91) k.toNat) k (a * 8 + b).toNat) ((a * 8 + b).toNat : Int) (stI k (((a * 8 + b).toNat / 8 : Nat) : Int) (((a * 8 + b).toNat % 8 : Nat) : Int) (rnS (rnK (σ 91) k.toNat) k (a * 8 + b).toNat))
        rw [← hg, show (((a * 8 + b).toNat / 8 : Nat) : Int) = a by omega, show (((a * 8 + b).toNat % 8 : Nat) : Int) = b by omega, show ((a * 8 + b).toNat : Int) = a * 8 + b by omega]
        rfl
    · intro m S L τ hI
      rw [hP195] at hI
      obtain ⟨r, a, rfl, rfl, he, hg, a0, a1, hz, hm⟩ := hI
      simp only [sq_iconst, sq_jsr, sq_anewarray, sq_iload, sq_lload, sq_aload, sq_istore, sq_lstore, sq_astore, sq_iinc, sq_getfield, st_put0, st_put1, st_put3, sq_inv, sq_goto, sq_icmp, sq_ifc, sq_tsw, sq_iadd, sq_isub, sq_imul, sq_ineg, sq_idiv, sq_irem, sq_iand, sq_ior, sq_ixor, sq_ishl, sq_ishr, sq_iushr, sq_ladd, sq_lmul, sq_ldiv, sq_lrem, sq_land, sq_lor, sq_lshl, sq_lushr, sq_lcmp, sq_i2l, sq_l2i, sq_i2c, sq_i2b, sq_dupI, sq_dupR, sq_dup2, sq_pop, sq_iaload, sq_baload, sq_aaload, sq_iastore, sq_bastore, sq_alen, sq_ireturn, sq_lreturn, sq_return, wq_c, wq_n, wlq_s, lkp, tbl, dBk, nth, setL, canSet, cmpI, tk, swK, rdF, entL, catS, cat1, arg, rcv, ald, bld, aln, br, Ccopy, Cmax, Cmin, Cabs, List.take, List.drop, List.reverse, List.reverseAux, List.length, List.append, List.nil_append, List.cons_append, true_and, and_true, and_self, forall_const, true_implies, false_implies, not_true_eq_false, not_false_eq_true, Option.map, reduceCtorEq, reduceIte, or_true, true_or, false_or, or_false, false_and, and_false, List.map, List.append_nil, implies_true, yK, Nat.reduceBEq, beq_self_eq_true, Int.zero_ne_one, Nat.reduceDiv, Nat.reduceMod, Nat.reduceAdd, Nat.reduceSub, Nat.reduceMul, Nat.reduceEqDiff, Nat.reduceLeDiff, Int.reduceToNat, Int.reduceNeg, Int.reduceEq, Int.reduceLT, Int.reduceLE, Int.reduceNatCast, Int.reduceNatCast', Int.reduceAdd, Int.reduceSub, Int.reduceMul, eq_self, Prod.mk.injEq, A_X9_close, V_X9_close, B_X9_close, Y_X9_close, shpT, rfsT, wjq_s, look, m8]
      rw [hP195, hg]
      rcases hz with ⟨rfl, hz⟩ | ⟨rfl, i, hi, hz⟩
      · refine ⟨fun h => ⟨(by omega), hq 1 τ he hg (fun _ => rfl) (fun z => absurd (fun i hi => hz i hi.1 (by have := hi.2; omega)) z)⟩, fun h => ⟨fun h1 => by omega, fun h1 => ⟨⟨by omega, by omega⟩, ⟨by omega, by omega⟩, ⟨by omega, by omega⟩, fun h2 => ⟨⟨by omega, by omega⟩, _, ?_, 0, a + 1, rfl, rfl, he, hg, (by omega), (by omega), Or.inr ⟨rfl, a, ⟨by omega, by omega⟩, h2⟩, rfl⟩, fun h2 => ⟨⟨by omega, by omega⟩, _, ?_, 1, a + 1, rfl, rfl, he, hg, (by omega), (by omega), Or.inl ⟨rfl, fun i q1 q2 => ?_⟩, rfl⟩⟩⟩⟩
        · omega
        · omega
        · by_cases c : i = a
          · rw [c]; omega
          · exact hz i q1 (by omega)
      · refine ⟨fun h => ⟨(by omega), hq 0 τ he hg (fun z => by have := z i hi; omega) (fun _ => rfl)⟩, fun h => ⟨fun h1 => ⟨⟨by omega, by omega⟩, _, ?_, 0, a + 1, rfl, rfl, he, hg, (by omega), (by omega), Or.inr ⟨rfl, i, hi, hz⟩, rfl⟩, fun h1 => by omega⟩⟩
        omega
    · simp only [sq_iconst, sq_jsr, sq_anewarray, sq_iload, sq_lload, sq_aload, sq_istore, sq_lstore, sq_astore, sq_iinc, sq_getfield, st_put0, st_put1, st_put3, sq_inv, sq_goto, sq_icmp, sq_ifc, sq_tsw, sq_iadd, sq_isub, sq_imul, sq_ineg, sq_idiv, sq_irem, sq_iand, sq_ior, sq_ixor, sq_ishl, sq_ishr, sq_iushr, sq_ladd, sq_lmul, sq_ldiv, sq_lrem, sq_land, sq_lor, sq_lshl, sq_lushr, sq_lcmp, sq_i2l, sq_l2i, sq_i2c, sq_i2b, sq_dupI, sq_dupR, sq_dup2, sq_pop, sq_iaload, sq_baload, sq_aaload, sq_iastore, sq_bastore, sq_alen, sq_ireturn, sq_lreturn, sq_return, wq_c, wq_n, wlq_s, lkp, tbl, dBk, nth, setL, canSet, cmpI, tk, swK, rdF, entL, catS, cat1, arg, rcv, ald, bld, aln, br, Ccopy, Cmax, Cmin, Cabs, List.take, List.drop, List.reverse, List.reverseAux, List.length, List.append, List.nil_append, List.cons_append, true_and, and_true, and_self, forall_const, true_implies, false_implies, not_true_eq_false, not_false_eq_true, Option.map, reduceCtorEq, reduceIte, or_true, true_or, false_or, or_false, false_and, and_false, List.map, List.append_nil, implies_true, yK, Nat.reduceBEq, beq_self_eq_true, Int.zero_ne_one, Nat.reduceDiv, Nat.reduceMod, Nat.reduceAdd, Nat.reduceSub, Nat.reduceMul, Nat.reduceEqDiff, Nat.reduceLeDiff, Int.reduceToNat, Int.reduceNeg, Int.reduceEq, Int.reduceLT, Int.reduceLE, Int.reduceNatCast, Int.reduceNatCast', Int.reduceAdd, Int.reduceSub, Int.reduceMul, eq_self, Prod.mk.injEq, A_X9_close, V_X9_close, B_X9_close, Y_X9_close, shpT, rfsT, wjq_s, look]
      rw [hP2]
      exact ⟨_, 0, rfl, rfl, fun _ _ => rfl, (by omega), (by omega), rfl, rfl⟩

