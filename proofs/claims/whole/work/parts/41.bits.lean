-- ===== bits of numbers (the first rows are the kit's own text on bits, pasted) =====
def bt (x : Int32) (i : Nat) : Bool := x.toBitVec.getLsbD i
theorem b_ext {x y : Int32} (h : ∀ i, i < 32 → bt x i = bt y i) : x = y := Int32.toBitVec_inj.mp (BitVec.eq_of_getLsbD_eq (fun i hi => h i hi))
theorem b_or (x y : Int32) (i : Nat) : bt (x ||| y) i = (bt x i || bt y i) := by unfold bt; rw [Int32.toBitVec_or, BitVec.getLsbD_or]
theorem b_and (x y : Int32) (i : Nat) : bt (x &&& y) i = (bt x i && bt y i) := by unfold bt; rw [Int32.toBitVec_and, BitVec.getLsbD_and]
theorem b_xor (x y : Int32) (i : Nat) : bt (x ^^^ y) i = (bt x i ^^ bt y i) := by unfold bt; rw [Int32.toBitVec_xor, BitVec.getLsbD_xor]
theorem b_m1 : ∀ i, i < 32 → bt (-1) i = true := by decide +kernel
theorem b_1 : ∀ i, i < 32 → bt 1 i = decide (i = 0) := by decide +kernel
theorem b_0 (i : Nat) : bt 0 i = false := BitVec.getLsbD_zero
theorem s_l : ∀ n, n < 32 → ((nI n &&& 31).toBitVec.smod 32).toNat = n := by decide +kernel
theorem b_shl (n : Nat) (hn : n < 32) (x : Int32) {i : Nat} (hi : i < 32) : bt (x <<< (nI n &&& 31)) i = (decide (n ≤ i) && bt x (i - n)) := by
  unfold bt
  rw [Int32.toBitVec_shiftLeft]
  show (x.toBitVec <<< ((nI n &&& 31).toBitVec.smod 32).toNat).getLsbD i = _
  rw [s_l n hn, BitVec.getLsbD_shiftLeft]
  rcases Nat.lt_or_ge i n with h | h
  · simp [h, Nat.not_le.mpr h]
  · simp [hi, h, Nat.not_lt.mpr h]
theorem b_sshr (n : Nat) (hn : n < 32) (x : Int32) {i : Nat} (hi : i < 32) : bt (x >>> (nI n &&& 31)) i = if n + i < 32 then bt x (n + i) else bt x 31 := by
  unfold bt
  rw [Int32.toBitVec_shiftRight]
  show (x.toBitVec.sshiftRight ((nI n &&& 31).toBitVec.smod 32).toNat).getLsbD i = _
  rw [s_l n hn, BitVec.getLsbD_sshiftRight, BitVec.msb_eq_getLsbD_last]
  simp [hi]
-- ----- the same over Int -----
def bb (a i : Int) : Bool := bt (Int32.ofInt a) i.toNat
theorem i32_t (x : Int32) : i32 x.toInt := ⟨Int32.le_toInt x, by have := Int32.toInt_lt x; omega⟩
theorem i32_1 : i32 1 := ⟨by decide, by decide⟩
theorem bAnd_i (a b : Int) : i32 (bAnd a b) := i32_t _
theorem bOr_i (a b : Int) : i32 (bOr a b) := i32_t _
theorem bb_and (a b i : Int) : bb (bAnd a b) i = (bb a i && bb b i) := by
  unfold bb bAnd
  rw [Int32.ofInt_toInt, b_and]
theorem bb_or (a b i : Int) : bb (bOr a b) i = (bb a i || bb b i) := by
  unfold bb bOr
  rw [Int32.ofInt_toInt, b_or]
theorem bb_not (b i : Int) (h : i < 32) : bb (bXor b (-1)) i = !bb b i := by
  unfold bb bXor
  rw [Int32.ofInt_toInt, b_xor, show Int32.ofInt (-1) = -1 from rfl, b_m1 _ (by omega)]
  cases bt (Int32.ofInt b) i.toNat <;> rfl
theorem ofI_n {j : Int} (h : 0 ≤ j) : Int32.ofInt j = nI j.toNat := by
  show _ = Int32.ofNat j.toNat
  rw [len_ofInt, Int.toNat_of_nonneg h]
theorem bb_shl {j i : Int} (h0 : 0 ≤ j) (h1 : j < 32) (h2 : 0 ≤ i) (h3 : i < 32) : bb (bShl 1 j) i = decide (i = j) := by
  unfold bb bShl
  rw [Int32.ofInt_toInt, ofI_n h0, b_shl j.toNat (by omega) _ (by omega), show Int32.ofInt 1 = 1 from rfl, b_1 _ (by omega)]
  by_cases c : i = j
  · rw [decide_eq_true c, decide_eq_true (by omega), decide_eq_true (by omega)]
    rfl
  · rw [decide_eq_false c]
    by_cases d : j.toNat ≤ i.toNat
    · rw [decide_eq_true d, decide_eq_false (by omega)]
      rfl
    · rw [decide_eq_false d]
      rfl
theorem bb_shr {a j i : Int} (h0 : 0 ≤ j) (h1 : j < 32) (h2 : 0 ≤ i) (h3 : i < 32) : bb (bShr a j) i = if j + i < 32 then bb a (j + i) else bb a 31 := by
  unfold bb bShr
  rw [Int32.ofInt_toInt, ofI_n h0, b_sshr j.toNat (by omega) _ (by omega)]
  by_cases c : j + i < 32
  · rw [if_pos c, if_pos (by omega), show (j + i).toNat = j.toNat + i.toNat by omega]
  · rw [if_neg c, if_neg (by omega)]
    rfl
theorem toI {a : Int} (h : i32 a) : (Int32.ofInt a).toInt = a := Int32.toInt_ofInt_of_le h.1 (by have := h.2; omega)
theorem bb_ext {a b : Int} (ha : i32 a) (hb : i32 b) (h : ∀ i, 0 ≤ i → i < 32 → bb a i = bb b i) : a = b := by
  have e : Int32.ofInt a = Int32.ofInt b := b_ext (fun i hi => h i (by omega) (by omega))
  rw [← toI ha, ← toI hb, e]
theorem tn_of {a : Int} (h0 : 0 ≤ a) (h1 : a < 2147483648) : (Int32.ofInt a).toBitVec.toNat = a.toNat := by
  rw [ofI_n h0]
  exact pk_tn (by omega)
theorem bb_hi {a i : Int} {n : Nat} (h0 : 0 ≤ a) (h1 : a < 2147483648) (h2 : a < 2 ^ n) (h3 : n ≤ i) : bb a i = false := by
  unfold bb bt
  rw [← BitVec.testBit_toNat, tn_of h0 h1]
  have h2' : a.toNat < 2 ^ n := by
    have : ((a.toNat : Nat) : Int) < ((2 ^ n : Nat) : Int) := by
      rw [Int.toNat_of_nonneg h0]
      push_cast
      exact h2
    exact Int.ofNat_lt.mp this
  exact Nat.testBit_lt_two_pow (Nat.lt_of_lt_of_le h2' (Nat.pow_le_pow_right (by omega) (by omega)))
theorem bb_lt {a : Int} {n : Nat} (h : i32 a) (hn : n ≤ 30) (hz : ∀ i : Int, n ≤ i → i < 32 → bb a i = false) : 0 ≤ a ∧ a < 2 ^ n := by
  have e : (Int32.ofInt a).toBitVec.toNat < 2 ^ n := by
    refine Nat.lt_pow_two_of_testBit _ (fun i hi => ?_)
    rw [BitVec.testBit_toNat]
    by_cases c : i < 32
    · exact hz i (by omega) (by omega)
    · exact BitVec.getLsbD_of_ge _ _ (by omega)
  have e2 : (2 : Nat) ^ n ≤ 2 ^ 30 := Nat.pow_le_pow_right (by omega) hn
  have e3 : a = ((Int32.ofInt a).toBitVec.toNat : Int) := by
    have t : a = (Int32.ofInt a).toBitVec.toInt := (toI h).symm
    exact t.trans (BitVec.toInt_eq_toNat_of_lt (by omega))
  rw [e3]
  refine ⟨by omega, ?_⟩
  have : (((Int32.ofInt a).toBitVec.toNat : Nat) : Int) < ((2 ^ n : Nat) : Int) := Int.ofNat_lt.mpr e
  push_cast at this
  exact this
theorem bb_0 (i : Int) : bb 0 i = false := b_0 _
/-- a single bit asked by and -/
theorem and_bit {a j : Int} (h0 : 0 ≤ j) (h1 : j < 32) : (¬ bAnd a (bShl 1 j) = 0) ↔ bb a j = true := by
  constructor
  · intro h
    by_cases c : bb a j = true
    · exact c
    · refine absurd (bb_ext (bAnd_i _ _) i32_0 (fun i i0 i1 => ?_)) h
      rw [bb_and, bb_0, bb_shl h0 h1 i0 i1]
      by_cases d : i = j
      · rw [d]; simp at c; rw [c]; rfl
      · rw [decide_eq_false d]; simp
  · intro h z
    have := bb_and a (bShl 1 j) j
    rw [z, bb_0, bb_shl h0 h1 h0 h1, h] at this
    simp at this
theorem shr_bit {a j : Int} (h0 : 0 ≤ j) (h1 : j < 32) : bAnd (bShr a j) 1 = if bb a j = true then 1 else 0 := by
  have e1 : ∀ i, 0 ≤ i → i < 32 → bb 1 i = decide (i = 0) := by
    intro i i0 i1
    unfold bb
    rw [show Int32.ofInt 1 = 1 from rfl, b_1 _ (by omega)]
    by_cases c : i = 0
    · rw [c]; rfl
    · rw [decide_eq_false c, decide_eq_false (by omega)]
  refine bb_ext (bAnd_i _ _) (by split; exact i32_1; exact i32_0) (fun i i0 i1 => ?_)
  rw [bb_and, e1 i i0 i1, bb_shr h0 h1 i0 i1]
  by_cases d : i = 0
  · subst d
    rw [if_pos (by omega), Int.add_zero]
    by_cases c : bb a j = true
    · rw [if_pos c, e1 0 (by omega) (by omega), c]; rfl
    · rw [if_neg c, bb_0]; simp at c; rw [c]; rfl
  · rw [decide_eq_false d]
    by_cases c : bb a j = true
    · rw [if_pos c, e1 i i0 i1, decide_eq_false d]; simp
    · rw [if_neg c, bb_0]; simp
theorem shr_bit1 {a j : Int} (h0 : 0 ≤ j) (h1 : j < 32) : bAnd (bShr a j) 1 = 1 ↔ bb a j = true := by
  rw [shr_bit h0 h1]
  split
  · simp [*]
  · simp [*]
/-- how many bits of twelve -/
def pop (a : Int) : Int := sumI (fun j => if bb a j = true then 1 else 0) 12
def bcC (a : Int) : Bool :=
  let b1 := bAnd (bUshr a 1) 1431655765
  let a1 := a - b1
  let c1 := bAnd a1 858993459
  let c2 := bAnd (bUshr a1 2) 858993459
  let a2 := c1 + c2
  let d1 := bUshr a2 4
  let a3 := bAnd (a2 + d1) 252645135
  let e1 := bUshr a3 8
  let a4 := a3 + e1
  let f1 := bUshr a4 16
  let a5 := a4 + f1
  let ok := fun z : Int => decide (-2147483648 ≤ z) && decide (z ≤ 2147483647)
  ok a1 && ok a2 && ok (a2 + d1) && ok a4 && ok a5 && decide (bAnd a5 63 = pop a)
theorem bc_all : ∀ i j : Fin 64, bcC ((i.val * 64 + j.val : Nat) : Int) = true := by decide +kernel
def A_J6_bitCount_0f7a4 : List (Nat × Ctr) := []
theorem e_J6_bitCount_0f7a4 (o : OM) : Ev o Y_J6_bitCount_0f7a4 0 T_J6_bitCount_0f7a4 A_J6_bitCount_0f7a4 := ⟨rfl, fun _ h => absurd h List.not_mem_nil, List.forall_mem_cons.mpr ⟨⟨w_919, by decide, by decide⟩, List.forall_mem_cons.mpr ⟨⟨w_920, by decide, by decide⟩, List.forall_mem_cons.mpr ⟨⟨w_921, by decide, by decide⟩, fun _ h => absurd h List.not_mem_nil⟩⟩⟩, fun _ h => absurd h List.not_mem_nil, fun _ h => absurd h List.not_mem_nil, fun _ h => absurd h List.not_mem_nil, fun _ h => absurd h List.not_mem_nil⟩
def C_J6_bitCount_0f7a4 : Ctr := fun A σ κ => match A with
  | [.inl a] => (0 ≤ a ∧ a < 4096) ∧ κ [vI (pop a)] σ
  | _ => False
set_option maxRecDepth 20000 in
theorem s_J6_bitCount_0f7a4 (o : OM) : Sound o Y_J6_bitCount_0f7a4 0 C_J6_bitCount_0f7a4 := by
  intro Q A σ hA hC
  match A, hA, hC with
  | [.inl a], hA, hC =>
    obtain ⟨h0, hq⟩ : (0 ≤ a ∧ a < 4096) ∧ Q [vI (pop a)] σ := hC
    have hQ : ∀ r_ τ, r_ = (pop a) → τ = (σ) → Q [vI r_] τ := fun r_ τ e e2 => e ▸ e2 ▸ hq
    refine at_wpl (lv := V_J6_bitCount_0f7a4) (B := B_J6_bitCount_0f7a4) (e_J6_bitCount_0f7a4 o) k_J6_bitCount_0f7a4 1 0 [] _ σ ?_
    simp only [sq_iconst, sq_jsr, sq_anewarray, sq_iload, sq_lload, sq_aload, sq_istore, sq_lstore, sq_astore, sq_iinc, sq_getfield, st_put0, st_put1, st_put3, sq_inv, sq_goto, sq_icmp, sq_ifc, sq_tsw, sq_iadd, sq_isub, sq_imul, sq_ineg, sq_idiv, sq_irem, sq_iand, sq_ior, sq_ixor, sq_ishl, sq_ishr, sq_iushr, sq_ladd, sq_lmul, sq_ldiv, sq_lrem, sq_land, sq_lor, sq_lshl, sq_lushr, sq_lcmp, sq_i2l, sq_l2i, sq_i2c, sq_i2b, sq_dupI, sq_dupR, sq_dup2, sq_pop, sq_iaload, sq_baload, sq_aaload, sq_iastore, sq_bastore, sq_alen, sq_ireturn, sq_lreturn, sq_return, wq_c, wq_n, wlq_s, lkp, tbl, dBk, nth, setL, canSet, cmpI, tk, swK, rdF, entL, catS, cat1, arg, rcv, ald, bld, aln, br, Ccopy, Cmax, Cmin, Cabs, List.take, List.drop, List.reverse, List.reverseAux, List.length, List.append, List.nil_append, List.cons_append, true_and, and_true, and_self, forall_const, true_implies, false_implies, not_true_eq_false, not_false_eq_true, Option.map, reduceCtorEq, reduceIte, or_true, true_or, false_or, or_false, false_and, and_false, List.map, List.append_nil, implies_true, yK, Nat.reduceBEq, beq_self_eq_true, Int.zero_ne_one, Nat.reduceDiv, Nat.reduceMod, Nat.reduceAdd, Nat.reduceSub, Nat.reduceMul, Nat.reduceEqDiff, Nat.reduceLeDiff, Int.reduceToNat, Int.reduceNeg, Int.reduceEq, Int.reduceLT, Int.reduceLE, Int.reduceNatCast, Int.reduceNatCast', Int.reduceAdd, Int.reduceSub, Int.reduceMul, eq_self, Prod.mk.injEq, A_J6_bitCount_0f7a4, V_J6_bitCount_0f7a4, B_J6_bitCount_0f7a4, Y_J6_bitCount_0f7a4, shpT, rfsT]
    have h := bc_all ⟨a.toNat / 64, by omega⟩ ⟨a.toNat % 64, by omega⟩
    have ea : ((a.toNat / 64 * 64 + a.toNat % 64 : Nat) : Int) = a := by omega
    simp only [ea] at h
    unfold bcC at h
    simp only [Bool.and_eq_true, decide_eq_true_eq] at h
    obtain ⟨⟨⟨⟨⟨h1, h2⟩, h3⟩, h4⟩, h5⟩, h6⟩ := h
    exact ⟨h1, h2, h3, h4, h5, hQ _ _ h6 rfl⟩

