-- ===== where to dig: the class =====
theorem NetK_in2 {K : Kn} {g : Int → Int} (h : NetK K g) : ∀ i j, nd i → nd j → g (i * 8 + j) = 1000000000 ∨ (-25600000 ≤ g (i * 8 + j) ∧ g (i * 8 + j) ≤ 25600000) := by
  obtain ⟨E, ⟨h1, ⟨m0, h2, h3⟩, -⟩, -⟩ := h
  intro i j a b
  by_cases hz : g (i * 8 + j) = 1000000000
  · exact Or.inl hz
  · have := Clo_in h2 (by omega) h3 h1 i j (g (i * 8 + j)) a b (if_neg hz)
    omega
theorem og_s {g : Int → Int} {i j : Int} (h : ¬ g (i * 8 + j) = 1000000000) : og g i j = some (g (i * 8 + j)) := if_neg h
theorem og_n {g : Int → Int} {i j : Int} (h : g (i * 8 + j) = 1000000000) : og g i j = none := if_pos h
theorem og_z {g : Int → Int} {i j : Int} : og g i j = none ↔ g (i * 8 + j) = 1000000000 := by
  unfold og
  split
  · simp [*]
  · simp [*]
theorem fin_tr {m : Mx} (hB : Base m) {i k j : Int} (a : nd i) (b : nd k) (c : nd j) (h1 : ¬ m i k = none) (h2 : ¬ m k j = none) : ¬ m i j = none := by
  intro z
  have t := hB.2 i k j a b c
  rw [z] at t
  generalize m i k = x at *
  generalize m k j = y at *
  cases x with
  | none => exact h1 rfl
  | some x => cases y with
    | none => exact h2 rfl
    | some y => simp [oad, ole] at t
theorem dg_n {m : Mx} {a b v c d : Int} (hB : Base m) (hs : ∀ i j, nd i → nd j → m i j = none → m j i = none) (na : nd a) (nb' : nd b) (nc : nd c) (nd' : nd d) (hab : ¬ m a b = none) (h : m c d = none) : dgM m a b v c d = none := by
  have hba : ¬ m b a = none := fun z => hab (hs b a nb' na z)
  have k1 : m c a = none ∨ m b d = none := by
    by_cases z1 : m c a = none
    · exact Or.inl z1
    · by_cases z2 : m b d = none
      · exact Or.inr z2
      · exact absurd h (fin_tr hB nc na nd' z1 (fin_tr hB na nb' nd' hab z2))
  have k2 : m c b = none ∨ m a d = none := by
    by_cases z1 : m c b = none
    · exact Or.inl z1
    · by_cases z2 : m a d = none
      · exact Or.inr z2
      · exact absurd h (fin_tr hB nc nb' nd' z1 (fin_tr hB nb' na nd' hba z2))
  have k3 : m c b = none ∨ m b d = none := by
    by_cases z1 : m c b = none
    · exact Or.inl z1
    · by_cases z2 : m b d = none
      · exact Or.inr z2
      · exact absurd h (fin_tr hB nc nb' nd' z1 z2)
  have k4 : m c a = none ∨ m a d = none := by
    by_cases z1 : m c a = none
    · exact Or.inl z1
    · by_cases z2 : m a d = none
      · exact Or.inr z2
      · exact absurd h (fin_tr hB nc na nd' z1 z2)
  unfold dgM nb
  rw [h, hB.1 a na, hB.1 b nb']
  generalize m c a = p at *
  generalize m c b = q at *
  generalize m b d = r at *
  generalize m a d = s at *
  cases p <;> cases q <;> cases r <;> cases s <;> first | rfl | (simp at k1 k2 k3 k4)
theorem dg_f {m : Mx} {a b v c d : Int} (hB : Base m) (hs : ∀ i j, nd i → nd j → m i j = none → m j i = none) (na : nd a) (nb' : nd b) (nc : nd c) (nd' : nd d) (hab : ¬ m a b = none) (h : ¬ m c d = none) (hf : m a c = none) : dgM m a b v c d = m c d := by
  have e1 : m c a = none := hs a c na nc hf
  have e2 : m c b = none := by
    by_cases z : m c b = none
    · exact z
    · exact absurd e1 (fin_tr hB nc nb' na z (fun z => hab (hs b a nb' na z)))
  unfold dgM nb
  rw [e1, e2]
  cases m c d <;> cases m b d <;> cases m a d <;> cases m b b <;> rfl
theorem dg_c {m : Mx} {a b v c d : Int} (hB : Base m) (na : nd a) (nb' : nd b) (nc : nd c) (nd' : nd d) {z p q r s : Int} (hz : m c d = some z) (hp : m c a = some p) (hq : m c b = some q) (hr : m b d = some r) (hs : m a d = some s) : dgM m a b v c d = some (min z (min (p + v + r) (q - v + s))) := by
  have t1 := hB.2 c b d nc nb' nd'
  have t2 := hB.2 c a d nc na nd'
  rw [hz, hq, hr] at t1
  rw [hz, hp, hs] at t2
  unfold dgM nb
  rw [hz, hp, hq, hr, hs, hB.1 a na, hB.1 b nb']
  simp only [oad, omin, ole] at *
  congr 1
  omega
def A_X3_endOfSpan : List (Nat × Ctr) := []
theorem e_X3_endOfSpan (o : OM) : Ev o Y_X3_endOfSpan 0 T_X3_endOfSpan A_X3_endOfSpan := ⟨rfl, List.forall_mem_cons.mpr ⟨Or.inl f_X3_11, fun _ h => absurd h List.not_mem_nil⟩, fun _ h => absurd h List.not_mem_nil, fun _ h => absurd h List.not_mem_nil, fun _ h => absurd h List.not_mem_nil, fun _ h => absurd h List.not_mem_nil, fun _ h => absurd h List.not_mem_nil⟩
def C_X3_endOfSpan : Ctr := fun A σ κ => match A with
  | [.inr (.inr (.inl 10)), .inl a, .inl b, .inl e] => (nd a ∧ nd b ∧ gIn (σ 48)) ∧ κ [vI (if e = 0 then -(σ 48 (b * 8 + a)) else σ 48 (a * 8 + b))] σ
  | _ => False
set_option maxRecDepth 20000 in
theorem s_X3_endOfSpan (o : OM) : Sound o Y_X3_endOfSpan 0 C_X3_endOfSpan := by
  intro Q A σ hA hC
  match A, hA, hC with
  | [.inr (.inr (.inl 10)), .inl a, .inl b, .inl e], hA, hC =>
    obtain ⟨h0, hq⟩ : (nd a ∧ nd b ∧ gIn (σ 48)) ∧ Q [vI (if e = 0 then -(σ 48 (b * 8 + a)) else σ 48 (a * 8 + b))] σ := hC
    have hQ : ∀ r_ τ, r_ = (if e = 0 then -(σ 48 (b * 8 + a)) else σ 48 (a * 8 + b)) → τ = (σ) → Q [vI r_] τ := fun r_ τ e e2 => e ▸ e2 ▸ hq
    refine at_wpl (lv := V_X3_endOfSpan) (B := B_X3_endOfSpan) (e_X3_endOfSpan o) k_X3_endOfSpan 3 0 [] _ σ ?_
    simp only [sq_iconst, sq_jsr, sq_anewarray, sq_iload, sq_lload, sq_aload, sq_istore, sq_lstore, sq_astore, sq_iinc, sq_getfield, st_put0, st_put1, st_put3, sq_inv, sq_goto, sq_icmp, sq_ifc, sq_tsw, sq_iadd, sq_isub, sq_imul, sq_ineg, sq_idiv, sq_irem, sq_iand, sq_ior, sq_ixor, sq_ishl, sq_ishr, sq_iushr, sq_ladd, sq_lmul, sq_ldiv, sq_lrem, sq_land, sq_lor, sq_lshl, sq_lushr, sq_lcmp, sq_i2l, sq_l2i, sq_i2c, sq_i2b, sq_dupI, sq_dupR, sq_dup2, sq_pop, sq_iaload, sq_baload, sq_aaload, sq_iastore, sq_bastore, sq_alen, sq_ireturn, sq_lreturn, sq_return, wq_c, wq_n, wlq_s, lkp, tbl, dBk, nth, setL, canSet, cmpI, tk, swK, rdF, entL, catS, cat1, arg, rcv, ald, bld, aln, br, Ccopy, Cmax, Cmin, Cabs, List.take, List.drop, List.reverse, List.reverseAux, List.length, List.append, List.nil_append, List.cons_append, true_and, and_true, and_self, forall_const, true_implies, false_implies, not_true_eq_false, not_false_eq_true, Option.map, reduceCtorEq, reduceIte, or_true, true_or, false_or, or_false, false_and, and_false, List.map, List.append_nil, implies_true, yK, Nat.reduceBEq, beq_self_eq_true, Int.zero_ne_one, Nat.reduceDiv, Nat.reduceMod, Nat.reduceAdd, Nat.reduceSub, Nat.reduceMul, Nat.reduceEqDiff, Nat.reduceLeDiff, Int.reduceToNat, Int.reduceNeg, Int.reduceEq, Int.reduceLT, Int.reduceLE, Int.reduceNatCast, Int.reduceNatCast', Int.reduceAdd, Int.reduceSub, Int.reduceMul, eq_self, Prod.mk.injEq, A_X3_endOfSpan, V_X3_endOfSpan, B_X3_endOfSpan, Y_X3_endOfSpan, shpT, rfsT]
    obtain ⟨na, nb, hg⟩ := h0
    have g1 := hg b a nb na
    unfold nd at na nb
    refine ⟨fun h => ⟨⟨by omega, by omega⟩, ⟨by omega, by omega⟩, ⟨by omega, by omega⟩, hQ _ _ (by rw [if_neg h]) rfl⟩, fun h => ⟨⟨by omega, by omega⟩, ⟨by omega, by omega⟩, ⟨by omega, by omega⟩, ⟨by omega, by omega⟩, hQ _ _ (by rw [if_pos (Classical.not_not.mp h)]) rfl⟩⟩
def A_X3_widthOf : List (Nat × Ctr) := []
theorem e_X3_widthOf (o : OM) : Ev o Y_X3_widthOf 0 T_X3_widthOf A_X3_widthOf := ⟨rfl, List.forall_mem_cons.mpr ⟨Or.inl f_X3_11, fun _ h => absurd h List.not_mem_nil⟩, fun _ h => absurd h List.not_mem_nil, fun _ h => absurd h List.not_mem_nil, fun _ h => absurd h List.not_mem_nil, fun _ h => absurd h List.not_mem_nil, fun _ h => absurd h List.not_mem_nil⟩
def C_X3_widthOf : Ctr := fun A σ κ => match A with
  | [.inr (.inr (.inl 10)), .inl a, .inl b] => (nd a ∧ nd b ∧ gIn (σ 48)) ∧ κ [vI (σ 48 (a * 8 + b) + σ 48 (b * 8 + a))] σ
  | _ => False
set_option maxRecDepth 20000 in
theorem s_X3_widthOf (o : OM) : Sound o Y_X3_widthOf 0 C_X3_widthOf := by
  intro Q A σ hA hC
  match A, hA, hC with
  | [.inr (.inr (.inl 10)), .inl a, .inl b], hA, hC =>
    obtain ⟨h0, hq⟩ : (nd a ∧ nd b ∧ gIn (σ 48)) ∧ Q [vI (σ 48 (a * 8 + b) + σ 48 (b * 8 + a))] σ := hC
    have hQ : ∀ r_ τ, r_ = (σ 48 (a * 8 + b) + σ 48 (b * 8 + a)) → τ = (σ) → Q [vI r_] τ := fun r_ τ e e2 => e ▸ e2 ▸ hq
    refine at_wpl (lv := V_X3_widthOf) (B := B_X3_widthOf) (e_X3_widthOf o) k_X3_widthOf 1 0 [] _ σ ?_
    simp only [sq_iconst, sq_jsr, sq_anewarray, sq_iload, sq_lload, sq_aload, sq_istore, sq_lstore, sq_astore, sq_iinc, sq_getfield, st_put0, st_put1, st_put3, sq_inv, sq_goto, sq_icmp, sq_ifc, sq_tsw, sq_iadd, sq_isub, sq_imul, sq_ineg, sq_idiv, sq_irem, sq_iand, sq_ior, sq_ixor, sq_ishl, sq_ishr, sq_iushr, sq_ladd, sq_lmul, sq_ldiv, sq_lrem, sq_land, sq_lor, sq_lshl, sq_lushr, sq_lcmp, sq_i2l, sq_l2i, sq_i2c, sq_i2b, sq_dupI, sq_dupR, sq_dup2, sq_pop, sq_iaload, sq_baload, sq_aaload, sq_iastore, sq_bastore, sq_alen, sq_ireturn, sq_lreturn, sq_return, wq_c, wq_n, wlq_s, lkp, tbl, dBk, nth, setL, canSet, cmpI, tk, swK, rdF, entL, catS, cat1, arg, rcv, ald, bld, aln, br, Ccopy, Cmax, Cmin, Cabs, List.take, List.drop, List.reverse, List.reverseAux, List.length, List.append, List.nil_append, List.cons_append, true_and, and_true, and_self, forall_const, true_implies, false_implies, not_true_eq_false, not_false_eq_true, Option.map, reduceCtorEq, reduceIte, or_true, true_or, false_or, or_false, false_and, and_false, List.map, List.append_nil, implies_true, yK, Nat.reduceBEq, beq_self_eq_true, Int.zero_ne_one, Nat.reduceDiv, Nat.reduceMod, Nat.reduceAdd, Nat.reduceSub, Nat.reduceMul, Nat.reduceEqDiff, Nat.reduceLeDiff, Int.reduceToNat, Int.reduceNeg, Int.reduceEq, Int.reduceLT, Int.reduceLE, Int.reduceNatCast, Int.reduceNatCast', Int.reduceAdd, Int.reduceSub, Int.reduceMul, eq_self, Prod.mk.injEq, A_X3_widthOf, V_X3_widthOf, B_X3_widthOf, Y_X3_widthOf, shpT, rfsT]
    obtain ⟨na, nb, hg⟩ := h0
    have g1 := hg b a nb na
    have g2 := hg a b na nb
    unfold nd at na nb
    exact ⟨⟨by omega, by omega⟩, ⟨by omega, by omega⟩, ⟨by omega, by omega⟩, ⟨by omega, by omega⟩, ⟨by omega, by omega⟩, ⟨by omega, by omega⟩, ⟨by omega, by omega⟩, hq⟩
def A_X3_mostIfApart : List (Nat × Ctr) := [(2, Cmin)]
theorem e_X3_mostIfApart (o : OM) : Ev o Y_X3_mostIfApart 1 T_X3_mostIfApart A_X3_mostIfApart := ⟨rfl, List.forall_mem_cons.mpr ⟨Or.inl f_X3_11, fun _ h => absurd h List.not_mem_nil⟩, fun _ h => absurd h List.not_mem_nil, fun _ h => absurd h List.not_mem_nil, fun _ h => absurd h List.not_mem_nil, fun _ h => absurd h List.not_mem_nil, List.forall_mem_cons.mpr ⟨min_ok w_985 w_522 w_15 w_523, fun _ h => absurd h List.not_mem_nil⟩⟩
def C_X3_mostIfApart : Ctr := fun A σ κ => match A with
  | [.inr (.inr (.inl 10)), .inl a, .inl b, .inl v, .inl c, .inl d] => ((nd a ∧ nd b ∧ nd c ∧ nd d) ∧ (-100000000 ≤ v ∧ v ≤ 100000000) ∧ gIn (σ 48) ∧ ¬ σ 48 (c * 8 + a) = 1000000000 ∧ ¬ σ 48 (b * 8 + d) = 1000000000 ∧ ¬ σ 48 (c * 8 + b) = 1000000000 ∧ ¬ σ 48 (a * 8 + d) = 1000000000) ∧ κ [vI (min (σ 48 (c * 8 + d)) (min (σ 48 (c * 8 + a) + v + σ 48 (b * 8 + d)) (σ 48 (c * 8 + b) - v + σ 48 (a * 8 + d))))] σ
  | _ => False
set_option maxRecDepth 20000 in
theorem s_X3_mostIfApart (o : OM) : Sound o Y_X3_mostIfApart 1 C_X3_mostIfApart := by
  intro Q A σ hA hC
  match A, hA, hC with
  | [.inr (.inr (.inl 10)), .inl a, .inl b, .inl v, .inl c, .inl d], hA, hC =>
    obtain ⟨h0, hq⟩ : ((nd a ∧ nd b ∧ nd c ∧ nd d) ∧ (-100000000 ≤ v ∧ v ≤ 100000000) ∧ gIn (σ 48) ∧ ¬ σ 48 (c * 8 + a) = 1000000000 ∧ ¬ σ 48 (b * 8 + d) = 1000000000 ∧ ¬ σ 48 (c * 8 + b) = 1000000000 ∧ ¬ σ 48 (a * 8 + d) = 1000000000) ∧ Q [vI (min (σ 48 (c * 8 + d)) (min (σ 48 (c * 8 + a) + v + σ 48 (b * 8 + d)) (σ 48 (c * 8 + b) - v + σ 48 (a * 8 + d))))] σ := hC
    have hQ : ∀ r_ τ, r_ = (min (σ 48 (c * 8 + d)) (min (σ 48 (c * 8 + a) + v + σ 48 (b * 8 + d)) (σ 48 (c * 8 + b) - v + σ 48 (a * 8 + d)))) → τ = (σ) → Q [vI r_] τ := fun r_ τ e e2 => e ▸ e2 ▸ hq
    refine at_wpl (lv := V_X3_mostIfApart) (B := B_X3_mostIfApart) (e_X3_mostIfApart o) k_X3_mostIfApart 1 0 [] _ σ ?_
    simp only [sq_iconst, sq_jsr, sq_anewarray, sq_iload, sq_lload, sq_aload, sq_istore, sq_lstore, sq_astore, sq_iinc, sq_getfield, st_put0, st_put1, st_put3, sq_inv, sq_goto, sq_icmp, sq_ifc, sq_tsw, sq_iadd, sq_isub, sq_imul, sq_ineg, sq_idiv, sq_irem, sq_iand, sq_ior, sq_ixor, sq_ishl, sq_ishr, sq_iushr, sq_ladd, sq_lmul, sq_ldiv, sq_lrem, sq_land, sq_lor, sq_lshl, sq_lushr, sq_lcmp, sq_i2l, sq_l2i, sq_i2c, sq_i2b, sq_dupI, sq_dupR, sq_dup2, sq_pop, sq_iaload, sq_baload, sq_aaload, sq_iastore, sq_bastore, sq_alen, sq_ireturn, sq_lreturn, sq_return, wq_c, wq_n, wlq_s, lkp, tbl, dBk, nth, setL, canSet, cmpI, tk, swK, rdF, entL, catS, cat1, arg, rcv, ald, bld, aln, br, Ccopy, Cmax, Cmin, Cabs, List.take, List.drop, List.reverse, List.reverseAux, List.length, List.append, List.nil_append, List.cons_append, true_and, and_true, and_self, forall_const, true_implies, false_implies, not_true_eq_false, not_false_eq_true, Option.map, reduceCtorEq, reduceIte, or_true, true_or, false_or, or_false, false_and, and_false, List.map, List.append_nil, implies_true, yK, Nat.reduceBEq, beq_self_eq_true, Int.zero_ne_one, Nat.reduceDiv, Nat.reduceMod, Nat.reduceAdd, Nat.reduceSub, Nat.reduceMul, Nat.reduceEqDiff, Nat.reduceLeDiff, Int.reduceToNat, Int.reduceNeg, Int.reduceEq, Int.reduceLT, Int.reduceLE, Int.reduceNatCast, Int.reduceNatCast', Int.reduceAdd, Int.reduceSub, Int.reduceMul, eq_self, Prod.mk.injEq, A_X3_mostIfApart, V_X3_mostIfApart, B_X3_mostIfApart, Y_X3_mostIfApart, shpT, rfsT]
    obtain ⟨⟨na, nb, nc, nd'⟩, hv, hg, f1, f2, f3, f4⟩ := h0
    have g1 := hg c a nc na
    have g2 := hg b d nb nd'
    have g3 := hg c b nc nb
    have g4 := hg a d na nd'
    unfold nd at na nb nc nd'
    exact ⟨⟨by omega, by omega⟩, ⟨by omega, by omega⟩, ⟨by omega, by omega⟩, ⟨by omega, by omega⟩, ⟨by omega, by omega⟩, ⟨by omega, by omega⟩, ⟨by omega, by omega⟩, ⟨by omega, by omega⟩, ⟨by omega, by omega⟩, ⟨by omega, by omega⟩, ⟨by omega, by omega⟩, ⟨by omega, by omega⟩, ⟨by omega, by omega⟩, ⟨by omega, by omega⟩, ⟨by omega, by omega⟩, ⟨by omega, by omega⟩, ⟨by omega, by omega⟩, ⟨by omega, by omega⟩, ⟨by omega, by omega⟩, hq⟩
theorem pw_B {m m' : Mx} {V : Int} (hV : 0 ≤ V) (hB' : Base m') (hle : ∀ i j, nd i → nd j → ole (m' i j) (m i j)) (hin : ∀ i j x, nd i → nd j → m i j = some x → x ≤ V) (hno : ∀ c d, nd c → nd d → m c d = none → m' c d = none) : ∀ c d, nd c → nd d → 0 ≤ pw m' c d ∧ pw m' c d ≤ 2 * V := by
  intro c d nc nd'
  have t := hB'.2 c d c nc nd' nc
  rw [hB'.1 c nc] at t
  have u1 := hle c d nc nd'
  have u2 := hle d c nd' nc
  have n1 := hno c d nc nd'
  have n2 := hno d c nd' nc
  have i1 := hin c d
  have i2 := hin d c
  unfold pw
  generalize m' c d = x at *
  generalize m' d c = y at *
  cases x with
  | none => simp only []; omega
  | some x =>
    cases y with
    | none => simp only []; omega
    | some y =>
      cases e1 : m c d with
      | none => have := n1 e1; simp at this
      | some X =>
        cases e2 : m d c with
        | none => have := n2 e2; simp at this
        | some Y =>
          have j1 := i1 X nc nd' e1
          have j2 := i2 Y nd' nc e2
          rw [e1] at u1
          rw [e2] at u2
          simp only [oad, ole] at t u1 u2 ⊢
          omega
def DgP (σ : Sto) (a b : Int) : Prop := (∃ K : Kn, NetK K (σ 48) ∧ ∀ x y u v, K x y u v → nd x ∧ nd y) ∧ (0 ≤ σ 1 0 ∧ σ 1 0 ≤ 7) ∧ nd a ∧ nd b ∧ ¬ σ 48 (a * 8 + b) = 1000000000
def mnI (g : Int → Int) (a b v c d : Int) : Int := min (g (c * 8 + d)) (min (g (c * 8 + a) + v + g (b * 8 + d)) (g (c * 8 + b) - v + g (a * 8 + d)))
theorem dg_tm {g : Int → Int} {a b v c d : Int} (hB : Base (og g)) (hS : ∀ i j, nd i → nd j → og g i j = none → og g j i = none) (na : nd a) (nb : nd b) (nc : nd c) (nd' : nd d) (hab : ¬ g (a * 8 + b) = 1000000000) :
    (g (c * 8 + d) = 1000000000 → pw (dgM (og g) a b v) c d = 0) ∧ (¬ g (c * 8 + d) = 1000000000 → g (a * 8 + c) = 1000000000 → pw (dgM (og g) a b v) c d = g (c * 8 + d) + g (d * 8 + c)) ∧ (¬ g (c * 8 + d) = 1000000000 → ¬ g (a * 8 + c) = 1000000000 → (¬ g (c * 8 + a) = 1000000000 ∧ ¬ g (b * 8 + d) = 1000000000 ∧ ¬ g (c * 8 + b) = 1000000000 ∧ ¬ g (a * 8 + d) = 1000000000 ∧ ¬ g (d * 8 + a) = 1000000000 ∧ ¬ g (b * 8 + c) = 1000000000 ∧ ¬ g (d * 8 + b) = 1000000000 ∧ ¬ g (a * 8 + c) = 1000000000) ∧ pw (dgM (og g) a b v) c d = mnI g a b v c d + mnI g a b v d c) := by
  have fab : ¬ og g a b = none := fun z => hab (og_z.mp z)
  have fba : ¬ og g b a = none := fun z => fab (hS b a nb na z)
  refine ⟨fun h => ?_, fun h h1 => ?_, fun h h1 => ?_⟩
  · unfold pw
    rw [dg_n hB hS na nb nc nd' fab (og_n h)]
  · have c1 : ¬ og g c d = none := fun z => h (og_z.mp z)
    have c2 : ¬ og g d c = none := fun z => c1 (hS d c nd' nc z)
    have c3 : og g a d = none := by
      by_cases z : og g a d = none
      · exact z
      · exact absurd (og_n h1) (fin_tr hB na nd' nc z c2)
    unfold pw
    rw [dg_f hB hS na nb nc nd' fab c1 (og_n h1), dg_f hB hS na nb nd' nc fab c2 c3, og_s h, og_s (fun z => c2 (og_z.mpr z))]
  · have c1 : ¬ og g c d = none := fun z => h (og_z.mp z)
    have c2 : ¬ og g d c = none := fun z => c1 (hS d c nd' nc z)
    have c3 : ¬ og g a c = none := fun z => h1 (og_z.mp z)
    have c4 : ¬ og g c a = none := fun z => c3 (hS c a nc na z)
    have c5 : ¬ og g c b = none := fin_tr hB nc na nb c4 fab
    have c6 : ¬ og g b c = none := fin_tr hB nb na nc fba c3
    have c7 : ¬ og g a d = none := fin_tr hB na nc nd' c3 c1
    have c8 : ¬ og g d a = none := fin_tr hB nd' nc na c2 c4
    have c9 : ¬ og g b d = none := fin_tr hB nb nc nd' c6 c1
    have c10 : ¬ og g d b = none := fin_tr hB nd' nc nb c2 c5
    have k : ∀ i j, ¬ og g i j = none → ¬ g (i * 8 + j) = 1000000000 := fun i j q z => q (og_z.mpr z)
    refine ⟨⟨k _ _ c4, k _ _ c9, k _ _ c5, k _ _ c7, k _ _ c8, k _ _ c6, k _ _ c10, h1⟩, ?_⟩
    unfold pw
    rw [dg_c hB na nb nc nd' (og_s h) (og_s (k _ _ c4)) (og_s (k _ _ c5)) (og_s (k _ _ c9)) (og_s (k _ _ c7)), dg_c hB na nb nd' nc (og_s (k _ _ c2)) (og_s (k _ _ c8)) (og_s (k _ _ c10)) (og_s (k _ _ c6)) (og_s (k _ _ c3))]
    rfl
theorem wdI_in {m : Mx} {n c V : Int} (h : ∀ c d, nd c → nd d → 0 ≤ pw m c d ∧ pw m c d ≤ V) (hn : n ≤ 7) (hc : 0 ≤ c) {k : Int} (k0 : 0 ≤ k) (k1 : c + 1 + k ≤ n) (hV : 0 ≤ V) : 0 ≤ sumI (fun i => pw m c (c + 1 + i)) k ∧ sumI (fun i => pw m c (c + 1 + i)) k ≤ V * k := by
  have := sumI_le (f := fun i => pw m c (c + 1 + i)) (lo := 0) (hi := V) k0 (fun j j0 j1 => h c (c + 1 + j) ⟨hc, by omega⟩ ⟨by omega, by omega⟩)
  rw [Int.zero_mul] at this
  exact this
def A_X3_widthsIfApart : List (Nat × Ctr) := [(3, rcv 3 3 C_X3_isFloating), (3, rcv 3 3 C_X3_widthOf), (6, rcv 3 8 C_X3_mostIfApart)]
theorem e_X3_widthsIfApart (o : OM) : Ev o Y_X3_widthsIfApart 2 T_X3_widthsIfApart A_X3_widthsIfApart := ⟨rfl, List.forall_mem_cons.mpr ⟨Or.inl f_X3_51, List.forall_mem_cons.mpr ⟨Or.inl f_X3_85, fun _ h => absurd h List.not_mem_nil⟩⟩, fun _ h => absurd h List.not_mem_nil, fun _ h => absurd h List.not_mem_nil, fun _ h => absurd h List.not_mem_nil, List.forall_mem_cons.mpr ⟨cl_X3_isFloating (s_X3_isFloating o) (by decide) (Or.inl w_966), List.forall_mem_cons.mpr ⟨cl_X3_widthOf (s_X3_widthOf o) (by decide) (Or.inl w_967), List.forall_mem_cons.mpr ⟨cl_X3_mostIfApart (s_X3_mostIfApart o) (by decide) (Or.inl w_981), fun _ h => absurd h List.not_mem_nil⟩⟩⟩, fun _ h => absurd h List.not_mem_nil⟩
def C_X3_widthsIfApart : Ctr := fun A σ κ => match A with
  | [.inr (.inr (.inl 10)), .inl a, .inl b, .inl v] => (DgP σ a b ∧ (-(σ 48 (b * 8 + a)) ≤ v ∧ v ≤ σ 48 (a * 8 + b))) ∧ κ [vI (wdO (dgM (og (σ 48)) a b v) (σ 1 0))] σ
  | _ => False
set_option maxRecDepth 20000 in
theorem s_X3_widthsIfApart (o : OM) : Sound o Y_X3_widthsIfApart 2 C_X3_widthsIfApart := by
  intro Q A σ hA hC
  match A, hA, hC with
  | [.inr (.inr (.inl 10)), .inl a, .inl b, .inl v], hA, hC =>
    obtain ⟨h0, hq⟩ : (DgP σ a b ∧ (-(σ 48 (b * 8 + a)) ≤ v ∧ v ≤ σ 48 (a * 8 + b))) ∧ Q [vI (wdO (dgM (og (σ 48)) a b v) (σ 1 0))] σ := hC
    have hQ : ∀ r_ τ, r_ = (wdO (dgM (og (σ 48)) a b v) (σ 1 0)) → τ = (σ) → Q [vI r_] τ := fun r_ τ e e2 => e ▸ e2 ▸ hq
    obtain ⟨⟨⟨K, hK, hE⟩, hn, na, nb, hab⟩, hv⟩ := h0
    have hC := NetK_Clo hK
    have hB := hC.1
    have hS := CloK_sym hE hC
    have hg := NetK_in hK
    have hg2 := NetK_in2 hK
    have fab : ¬ og (σ 48) a b = none := fun z => hab (og_z.mp z)
    have fba : ¬ og (σ 48) b a = none := fun z => fab (hS b a nb na z)
    have hba : ¬ σ 48 (b * 8 + a) = 1000000000 := fun z => fba (og_z.mpr z)
    have g1 := hg2 a b na nb
    have g2 := hg2 b a nb na
    have hD := dgM_Clo hB na nb (og_s hab) (og_s hba) hv.1 hv.2
    have pwB := pw_B (V := 25600000) (by omega) hD.1 hD.2.1 (fun i j x c d e => by
      by_cases z : σ 48 (i * 8 + j) = 1000000000
      · rw [og_n z] at e; simp at e
      · rw [og_s z] at e
        simp only [Option.some.injEq] at e
        have := hg2 i j c d
        omega) (fun c d nc nd' z => dg_n hB hS na nb nc nd' fab z)
    obtain ⟨m', hm'⟩ : ∃ m', m' = dgM (og (σ 48)) a b v := ⟨_, rfl⟩
    have tm := fun c d nc nd' => dg_tm (g := σ 48) (a := a) (b := b) (v := v) (c := c) (d := d) hB hS na nb nc nd' hab
    rw [← hm'] at pwB hQ hq tm
    have wI : ∀ c, 0 ≤ c → c < σ 1 0 → 0 ≤ wdI m' (σ 1 0) c ∧ wdI m' (σ 1 0) c ≤ 51200000 * 6 := by
      intro c c0 c1
      have := wdI_in (V := 2 * 25600000) pwB hn.2 c0 (k := σ 1 0 - (c + 1)) (by omega) (by omega) (by omega)
      unfold wdI
      omega
    obtain ⟨P6, hP6⟩ : ∃ P : Nat → List AV → List AV → Sto → Prop, P = fun m S L τ => ∃ c : Int, S = [] ∧ L = [vR 10, vI a, vI b, vI v, vI (sumI (wdI m' (σ 1 0)) c), vI c] ∧ τ = σ ∧ 0 ≤ c ∧ c ≤ σ 1 0 ∧ m = ((7 - c) * 100).toNat := ⟨_, rfl⟩
    obtain ⟨P24, hP24⟩ : ∃ P : Nat → List AV → List AV → Sto → Prop, P = fun m S L τ => ∃ c d : Int, S = [] ∧ L = [vR 10, vI a, vI b, vI v, vI (sumI (wdI m' (σ 1 0)) c + sumI (fun i => pw m' c (c + 1 + i)) (d - (c + 1))), vI c, vI d] ∧ τ = σ ∧ 0 ≤ c ∧ c < σ 1 0 ∧ c + 1 ≤ d ∧ d ≤ σ 1 0 ∧ m = ((6 - c) * 100 + 50 + (7 - d)).toNat := ⟨_, rfl⟩
    refine at_meth (lv := V_X3_widthsIfApart) (B := B_X3_widthsIfApart) (e_X3_widthsIfApart o) k_X3_widthsIfApart 6 [(6, P6), (24, P24)] (List.forall_mem_cons.mpr ⟨?_, List.forall_mem_cons.mpr ⟨?_, fun _ h => absurd h List.not_mem_nil⟩⟩) 0 [] _ σ ?_
    · intro m S L τ hI
      rw [hP6] at hI
      obtain ⟨c, rfl, rfl, rfl, c0, c1, hm⟩ := hI
      simp only [sq_iconst, sq_jsr, sq_anewarray, sq_iload, sq_lload, sq_aload, sq_istore, sq_lstore, sq_astore, sq_iinc, sq_getfield, st_put0, st_put1, st_put3, sq_inv, sq_goto, sq_icmp, sq_ifc, sq_tsw, sq_iadd, sq_isub, sq_imul, sq_ineg, sq_idiv, sq_irem, sq_iand, sq_ior, sq_ixor, sq_ishl, sq_ishr, sq_iushr, sq_ladd, sq_lmul, sq_ldiv, sq_lrem, sq_land, sq_lor, sq_lshl, sq_lushr, sq_lcmp, sq_i2l, sq_l2i, sq_i2c, sq_i2b, sq_dupI, sq_dupR, sq_dup2, sq_pop, sq_iaload, sq_baload, sq_aaload, sq_iastore, sq_bastore, sq_alen, sq_ireturn, sq_lreturn, sq_return, wq_c, wq_n, wlq_s, lkp, tbl, dBk, nth, setL, canSet, cmpI, tk, swK, rdF, entL, catS, cat1, arg, rcv, ald, bld, aln, br, Ccopy, Cmax, Cmin, Cabs, List.take, List.drop, List.reverse, List.reverseAux, List.length, List.append, List.nil_append, List.cons_append, true_and, and_true, and_self, forall_const, true_implies, false_implies, not_true_eq_false, not_false_eq_true, Option.map, reduceCtorEq, reduceIte, or_true, true_or, false_or, or_false, false_and, and_false, List.map, List.append_nil, implies_true, yK, Nat.reduceBEq, beq_self_eq_true, Int.zero_ne_one, Nat.reduceDiv, Nat.reduceMod, Nat.reduceAdd, Nat.reduceSub, Nat.reduceMul, Nat.reduceEqDiff, Nat.reduceLeDiff, Int.reduceToNat, Int.reduceNeg, Int.reduceEq, Int.reduceLT, Int.reduceLE, Int.reduceNatCast, Int.reduceNatCast', Int.reduceAdd, Int.reduceSub, Int.reduceMul, eq_self, Prod.mk.injEq, A_X3_widthsIfApart, V_X3_widthsIfApart, B_X3_widthsIfApart, Y_X3_widthsIfApart, C_X3_isFloating, C_X3_widthOf, C_X3_mostIfApart, shpT, rfsT, wjq_s, look]
      rw [hP24]
      refine ⟨fun h => ?_, fun h => ⟨⟨by omega, by omega⟩, _, ?_, c, c + 1, rfl, ?_, rfl, c0, (by omega), (by omega), (by omega), rfl⟩⟩
      · have e : c = τ 1 0 := by omega
        exact hQ _ _ (by rw [e]; rfl) rfl
      · omega
      · rw [show c + 1 - (c + 1) = 0 by omega, sumI_0, Int.add_zero]
    · intro m S L τ hI
      rw [hP24] at hI
      obtain ⟨c, d, rfl, rfl, rfl, c0, c1, d0, d1, hm⟩ := hI
      simp only [sq_iconst, sq_jsr, sq_anewarray, sq_iload, sq_lload, sq_aload, sq_istore, sq_lstore, sq_astore, sq_iinc, sq_getfield, st_put0, st_put1, st_put3, sq_inv, sq_goto, sq_icmp, sq_ifc, sq_tsw, sq_iadd, sq_isub, sq_imul, sq_ineg, sq_idiv, sq_irem, sq_iand, sq_ior, sq_ixor, sq_ishl, sq_ishr, sq_iushr, sq_ladd, sq_lmul, sq_ldiv, sq_lrem, sq_land, sq_lor, sq_lshl, sq_lushr, sq_lcmp, sq_i2l, sq_l2i, sq_i2c, sq_i2b, sq_dupI, sq_dupR, sq_dup2, sq_pop, sq_iaload, sq_baload, sq_aaload, sq_iastore, sq_bastore, sq_alen, sq_ireturn, sq_lreturn, sq_return, wq_c, wq_n, wlq_s, lkp, tbl, dBk, nth, setL, canSet, cmpI, tk, swK, rdF, entL, catS, cat1, arg, rcv, ald, bld, aln, br, Ccopy, Cmax, Cmin, Cabs, List.take, List.drop, List.reverse, List.reverseAux, List.length, List.append, List.nil_append, List.cons_append, true_and, and_true, and_self, forall_const, true_implies, false_implies, not_true_eq_false, not_false_eq_true, Option.map, reduceCtorEq, reduceIte, or_true, true_or, false_or, or_false, false_and, and_false, List.map, List.append_nil, implies_true, yK, Nat.reduceBEq, beq_self_eq_true, Int.zero_ne_one, Nat.reduceDiv, Nat.reduceMod, Nat.reduceAdd, Nat.reduceSub, Nat.reduceMul, Nat.reduceEqDiff, Nat.reduceLeDiff, Int.reduceToNat, Int.reduceNeg, Int.reduceEq, Int.reduceLT, Int.reduceLE, Int.reduceNatCast, Int.reduceNatCast', Int.reduceAdd, Int.reduceSub, Int.reduceMul, eq_self, Prod.mk.injEq, A_X3_widthsIfApart, V_X3_widthsIfApart, B_X3_widthsIfApart, Y_X3_widthsIfApart, C_X3_isFloating, C_X3_widthOf, C_X3_mostIfApart, shpT, rfsT, wjq_s, look]
      have b1 := sumI_le (f := wdI m' (τ 1 0)) (lo := 0) (hi := 51200000 * 6) c0 (fun j j0 j1 => wI j j0 (by omega))
      have b2 := wdI_in (V := 2 * 25600000) pwB hn.2 c0 (k := d - (c + 1)) (by omega) (by omega) (by omega)
      have sS := sumI_s (fun i => pw m' c (c + 1 + i)) (n := d - (c + 1)) (by omega)
      rw [show d - (c + 1) + 1 = d + 1 - (c + 1) by omega, show c + 1 + (d - (c + 1)) = d by omega] at sS
      have a20 : ¬ τ 1 0 ≤ d → ((6 - c) * 100 + 50 + (7 - (d + 1))).toNat < m := fun h => by omega
      have a21 : ((7 - (c + 1)) * 100).toNat < m := by omega
      generalize hS1 : sumI (wdI m' (τ 1 0)) c = S1 at *
      generalize hS2 : sumI (fun i => pw m' c (c + 1 + i)) (d - (c + 1)) = S2 at *
      have nc : nd c := ⟨by omega, by omega⟩
      have nx : ∀ t, t = pw m' c d → ¬ τ 1 0 ≤ d → i32 (S1 + S2 + t) ∧ i32 (d + 1) ∧ ∃ m_1, m_1 < m ∧ P24 m_1 [] [vR 10, vI a, vI b, vI v, vI (S1 + S2 + t), vI c, vI (d + 1)] τ := by
        intro t ht h
        have b3 := pwB c d nc ⟨by omega, by omega⟩
        rw [hP24]
        refine ⟨⟨by omega, by omega⟩, ⟨by omega, by omega⟩, _, a20 h, c, d + 1, rfl, ?_, rfl, c0, c1, (by omega), (by omega), rfl⟩
        rw [hS1, sS, ht, Int.add_assoc]
      refine ⟨fun h => ⟨⟨by omega, by omega⟩, ?_⟩, fun h => ?_⟩
      · rw [hP6]
        refine ⟨_, a21, c + 1, rfl, ?_, rfl, (by omega), (by omega), rfl⟩
        have e : d = τ 1 0 := by omega
        rw [sumI_s _ c0, hS1, ← hS2, e]
        rfl
      · have nd' : nd d := ⟨by omega, by omega⟩
        have b3 := pwB c d nc nd'
        have vb : -100000000 ≤ v ∧ v ≤ 100000000 := ⟨by omega, by omega⟩
        have ib : i32 (pw m' c d) := ⟨by omega, by omega⟩
        obtain ⟨t1, t2, t3⟩ := tm c d nc nd'
        refine ⟨⟨nc, nd'⟩, fun h1 => ?_, fun h1 => ⟨⟨na, nc⟩, fun h2 => ⟨⟨nc, nd', hg⟩, nx _ (t2 h1 h2).symm h⟩, fun h2 => ?_⟩⟩
        · have := (nx 0 (t1 h1).symm h).2
          rw [Int.add_zero] at this
          exact this
        · obtain ⟨⟨f1, f2, f3, f4, f5, f6, f7, f8⟩, f9⟩ := t3 h1 h2
          have f9' : pw m' c d = min (τ 48 (c * 8 + d)) (min (τ 48 (c * 8 + a) + v + τ 48 (b * 8 + d)) (τ 48 (c * 8 + b) - v + τ 48 (a * 8 + d))) + min (τ 48 (d * 8 + c)) (min (τ 48 (d * 8 + a) + v + τ 48 (b * 8 + c)) (τ 48 (d * 8 + b) - v + τ 48 (a * 8 + c))) := f9
          rw [← f9']
          exact ⟨⟨⟨na, nb, nc, nd'⟩, vb, hg, f1, f2, f3, f4⟩, ⟨⟨na, nb, nd', nc⟩, vb, hg, f5, f6, f7, f8⟩, ib, nx _ rfl h⟩
    · simp only [sq_iconst, sq_jsr, sq_anewarray, sq_iload, sq_lload, sq_aload, sq_istore, sq_lstore, sq_astore, sq_iinc, sq_getfield, st_put0, st_put1, st_put3, sq_inv, sq_goto, sq_icmp, sq_ifc, sq_tsw, sq_iadd, sq_isub, sq_imul, sq_ineg, sq_idiv, sq_irem, sq_iand, sq_ior, sq_ixor, sq_ishl, sq_ishr, sq_iushr, sq_ladd, sq_lmul, sq_ldiv, sq_lrem, sq_land, sq_lor, sq_lshl, sq_lushr, sq_lcmp, sq_i2l, sq_l2i, sq_i2c, sq_i2b, sq_dupI, sq_dupR, sq_dup2, sq_pop, sq_iaload, sq_baload, sq_aaload, sq_iastore, sq_bastore, sq_alen, sq_ireturn, sq_lreturn, sq_return, wq_c, wq_n, wlq_s, lkp, tbl, dBk, nth, setL, canSet, cmpI, tk, swK, rdF, entL, catS, cat1, arg, rcv, ald, bld, aln, br, Ccopy, Cmax, Cmin, Cabs, List.take, List.drop, List.reverse, List.reverseAux, List.length, List.append, List.nil_append, List.cons_append, true_and, and_true, and_self, forall_const, true_implies, false_implies, not_true_eq_false, not_false_eq_true, Option.map, reduceCtorEq, reduceIte, or_true, true_or, false_or, or_false, false_and, and_false, List.map, List.append_nil, implies_true, yK, Nat.reduceBEq, beq_self_eq_true, Int.zero_ne_one, Nat.reduceDiv, Nat.reduceMod, Nat.reduceAdd, Nat.reduceSub, Nat.reduceMul, Nat.reduceEqDiff, Nat.reduceLeDiff, Int.reduceToNat, Int.reduceNeg, Int.reduceEq, Int.reduceLT, Int.reduceLE, Int.reduceNatCast, Int.reduceNatCast', Int.reduceAdd, Int.reduceSub, Int.reduceMul, eq_self, Prod.mk.injEq, A_X3_widthsIfApart, V_X3_widthsIfApart, B_X3_widthsIfApart, Y_X3_widthsIfApart, C_X3_isFloating, C_X3_widthOf, C_X3_mostIfApart, shpT, rfsT, wjq_s, look]
      rw [hP6]
      exact ⟨_, 0, rfl, rfl, rfl, (by omega), hn.1, rfl⟩
def A_X3_worstOfDig : List (Nat × Ctr) := [(4, rcv 3 4 C_X3_endOfSpan), (3, rcv 3 3 C_X3_widthOf), (4, rcv 3 7 C_X3_widthsIfApart), (2, Cmax)]
theorem e_X3_worstOfDig (o : OM) : Ev o Y_X3_worstOfDig 3 T_X3_worstOfDig A_X3_worstOfDig := ⟨rfl, fun _ h => absurd h List.not_mem_nil, fun _ h => absurd h List.not_mem_nil, fun _ h => absurd h List.not_mem_nil, fun _ h => absurd h List.not_mem_nil, List.forall_mem_cons.mpr ⟨cl_X3_endOfSpan (s_X3_endOfSpan o) (by decide) (Or.inl w_976), List.forall_mem_cons.mpr ⟨cl_X3_widthOf (s_X3_widthOf o) (by decide) (Or.inl w_967), List.forall_mem_cons.mpr ⟨cl_X3_widthsIfApart (s_X3_widthsIfApart o) (by decide) (Or.inl w_977), fun _ h => absurd h List.not_mem_nil⟩⟩⟩, List.forall_mem_cons.mpr ⟨max_ok w_986 w_519 w_15 w_520, fun _ h => absurd h List.not_mem_nil⟩⟩
def C_X3_worstOfDig : Ctr := fun A σ κ => match A with
  | [.inr (.inr (.inl 10)), .inl a, .inl b] => (DgP σ a b ∧ pw (og (σ 48)) a b ≤ 40) ∧ κ [vI (dgW (og (σ 48)) (σ 1 0) a b)] σ
  | _ => False
set_option maxRecDepth 20000 in
theorem s_X3_worstOfDig (o : OM) : Sound o Y_X3_worstOfDig 3 C_X3_worstOfDig := by
  intro Q A σ hA hC
  match A, hA, hC with
  | [.inr (.inr (.inl 10)), .inl a, .inl b], hA, hC =>
    obtain ⟨h0, hq⟩ : (DgP σ a b ∧ pw (og (σ 48)) a b ≤ 40) ∧ Q [vI (dgW (og (σ 48)) (σ 1 0) a b)] σ := hC
    have hQ : ∀ r_ τ, r_ = (dgW (og (σ 48)) (σ 1 0) a b) → τ = (σ) → Q [vI r_] τ := fun r_ τ e e2 => e ▸ e2 ▸ hq
    obtain ⟨hD, hw⟩ := h0
    obtain ⟨⟨K, hK, hE⟩, hn, na, nb, hab⟩ := id hD
    have hC := NetK_Clo hK
    have hS := CloK_sym hE hC
    have hg := NetK_in hK
    have hg2 := NetK_in2 hK
    have hba : ¬ σ 48 (b * 8 + a) = 1000000000 := fun z => hab (og_z.mp (hS b a nb na (og_z.mpr z)))
    have epw : pw (og (σ 48)) a b = σ 48 (a * 8 + b) + σ 48 (b * 8 + a) := by
      unfold pw
      rw [og_s hab, og_s hba]
    have elo : -(ov (og (σ 48) b a)) = -(σ 48 (b * 8 + a)) := by rw [og_s hba]; rfl
    have g1 := hg2 a b na nb
    have g2 := hg2 b a nb na
    have t := hC.1.2 a b a na nb na
    rw [hC.1.1 a na, og_s hab, og_s hba] at t
    simp only [oad, ole] at t
    obtain ⟨f, hf⟩ : ∃ f, f = fun i => wdO (dgM (og (σ 48)) a b (-(ov (og (σ 48) b a)) + i)) (σ 1 0) := ⟨_, rfl⟩
    have eW : dgW (og (σ 48)) (σ 1 0) a b = mxN f (pw (og (σ 48)) a b + 1).toNat := by rw [hf]; rfl
    rw [epw] at hw eW
    rw [eW] at hQ hq
    refine at_meth (lv := V_X3_worstOfDig) (B := B_X3_worstOfDig) (e_X3_worstOfDig o) k_X3_worstOfDig 3 [(14, fun m S L τ => ∃ i : Int, S = [] ∧ L = [vR 10, vI a, vI b, vI (mxN f i.toNat), vI (-(σ 48 (b * 8 + a))), vI i] ∧ τ = σ ∧ 0 ≤ i ∧ i ≤ σ 48 (a * 8 + b) + σ 48 (b * 8 + a) + 1 ∧ m = (42 - i).toNat)] (List.forall_mem_cons.mpr ⟨?_, fun _ h => absurd h List.not_mem_nil⟩) 0 [] _ σ ?_
    · rintro m S L τ ⟨i, rfl, rfl, rfl, i0, i1, hm⟩
      simp only [sq_iconst, sq_jsr, sq_anewarray, sq_iload, sq_lload, sq_aload, sq_istore, sq_lstore, sq_astore, sq_iinc, sq_getfield, st_put0, st_put1, st_put3, sq_inv, sq_goto, sq_icmp, sq_ifc, sq_tsw, sq_iadd, sq_isub, sq_imul, sq_ineg, sq_idiv, sq_irem, sq_iand, sq_ior, sq_ixor, sq_ishl, sq_ishr, sq_iushr, sq_ladd, sq_lmul, sq_ldiv, sq_lrem, sq_land, sq_lor, sq_lshl, sq_lushr, sq_lcmp, sq_i2l, sq_l2i, sq_i2c, sq_i2b, sq_dupI, sq_dupR, sq_dup2, sq_pop, sq_iaload, sq_baload, sq_aaload, sq_iastore, sq_bastore, sq_alen, sq_ireturn, sq_lreturn, sq_return, wq_c, wq_n, wlq_s, lkp, tbl, dBk, nth, setL, canSet, cmpI, tk, swK, rdF, entL, catS, cat1, arg, rcv, ald, bld, aln, br, Ccopy, Cmax, Cmin, Cabs, List.take, List.drop, List.reverse, List.reverseAux, List.length, List.append, List.nil_append, List.cons_append, true_and, and_true, and_self, forall_const, true_implies, false_implies, not_true_eq_false, not_false_eq_true, Option.map, reduceCtorEq, reduceIte, or_true, true_or, false_or, or_false, false_and, and_false, List.map, List.append_nil, implies_true, yK, Nat.reduceBEq, beq_self_eq_true, Int.zero_ne_one, Nat.reduceDiv, Nat.reduceMod, Nat.reduceAdd, Nat.reduceSub, Nat.reduceMul, Nat.reduceEqDiff, Nat.reduceLeDiff, Int.reduceToNat, Int.reduceNeg, Int.reduceEq, Int.reduceLT, Int.reduceLE, Int.reduceNatCast, Int.reduceNatCast', Int.reduceAdd, Int.reduceSub, Int.reduceMul, eq_self, Prod.mk.injEq, A_X3_worstOfDig, V_X3_worstOfDig, B_X3_worstOfDig, Y_X3_worstOfDig, C_X3_endOfSpan, C_X3_widthOf, C_X3_widthsIfApart, shpT, rfsT, wjq_s, look]
      have a20 : ¬ 40 < i → (42 - (i + 1)).toNat < m := fun h => by omega
      refine ⟨⟨na, nb, hg⟩, fun h => ?_, fun h => ⟨fun h1 => by omega, fun h1 => ⟨⟨by omega, by omega⟩, ⟨hD, (by omega), (by omega)⟩, ⟨by omega, by omega⟩, _, a20 h1, i + 1, ?_, (by omega), (by omega), rfl⟩⟩⟩
      · have e : i = τ 48 (a * 8 + b) + τ 48 (b * 8 + a) + 1 := by omega
        exact hQ _ _ (by rw [e]) rfl
      · have e : mxN f (i + 1).toNat = max (mxN f i.toNat) (f i) := by
          rw [show (i + 1).toNat = i.toNat + 1 by omega]
          show max (mxN f i.toNat) (f (i.toNat : Int)) = _
          rw [Int.toNat_of_nonneg i0]
        have e2 : f i = wdO (dgM (og (τ 48)) a b (-(τ 48 (b * 8 + a)) + i)) (τ 1 0) := by rw [hf, ← elo]
        rw [e, e2]
    · simp only [sq_iconst, sq_jsr, sq_anewarray, sq_iload, sq_lload, sq_aload, sq_istore, sq_lstore, sq_astore, sq_iinc, sq_getfield, st_put0, st_put1, st_put3, sq_inv, sq_goto, sq_icmp, sq_ifc, sq_tsw, sq_iadd, sq_isub, sq_imul, sq_ineg, sq_idiv, sq_irem, sq_iand, sq_ior, sq_ixor, sq_ishl, sq_ishr, sq_iushr, sq_ladd, sq_lmul, sq_ldiv, sq_lrem, sq_land, sq_lor, sq_lshl, sq_lushr, sq_lcmp, sq_i2l, sq_l2i, sq_i2c, sq_i2b, sq_dupI, sq_dupR, sq_dup2, sq_pop, sq_iaload, sq_baload, sq_aaload, sq_iastore, sq_bastore, sq_alen, sq_ireturn, sq_lreturn, sq_return, wq_c, wq_n, wlq_s, lkp, tbl, dBk, nth, setL, canSet, cmpI, tk, swK, rdF, entL, catS, cat1, arg, rcv, ald, bld, aln, br, Ccopy, Cmax, Cmin, Cabs, List.take, List.drop, List.reverse, List.reverseAux, List.length, List.append, List.nil_append, List.cons_append, true_and, and_true, and_self, forall_const, true_implies, false_implies, not_true_eq_false, not_false_eq_true, Option.map, reduceCtorEq, reduceIte, or_true, true_or, false_or, or_false, false_and, and_false, List.map, List.append_nil, implies_true, yK, Nat.reduceBEq, beq_self_eq_true, Int.zero_ne_one, Nat.reduceDiv, Nat.reduceMod, Nat.reduceAdd, Nat.reduceSub, Nat.reduceMul, Nat.reduceEqDiff, Nat.reduceLeDiff, Int.reduceToNat, Int.reduceNeg, Int.reduceEq, Int.reduceLT, Int.reduceLE, Int.reduceNatCast, Int.reduceNatCast', Int.reduceAdd, Int.reduceSub, Int.reduceMul, eq_self, Prod.mk.injEq, A_X3_worstOfDig, V_X3_worstOfDig, B_X3_worstOfDig, Y_X3_worstOfDig, C_X3_endOfSpan, C_X3_widthOf, C_X3_widthsIfApart, shpT, rfsT, wjq_s, look]
      exact ⟨⟨na, nb, hg⟩, _, 0, rfl, (by omega), (by omega), rfl⟩
def A_X3_findDig : List (Nat × Ctr) := [(3, rcv 3 3 C_X3_isFloating), (3, rcv 3 3 C_X3_widthOf), (3, arg 3 C_X8_isWithin), (3, rcv 3 6 C_X3_worstOfDig)]
theorem e_X3_findDig (o : OM) : Ev o Y_X3_findDig 4 T_X3_findDig A_X3_findDig := ⟨rfl, List.forall_mem_cons.mpr ⟨Or.inl f_X3_42, List.forall_mem_cons.mpr ⟨Or.inl f_X3_45, List.forall_mem_cons.mpr ⟨Or.inl f_X3_48, List.forall_mem_cons.mpr ⟨Or.inl f_X3_51, List.forall_mem_cons.mpr ⟨Or.inl f_X3_85, fun _ h => absurd h List.not_mem_nil⟩⟩⟩⟩⟩, fun _ h => absurd h List.not_mem_nil, fun _ h => absurd h List.not_mem_nil, fun _ h => absurd h List.not_mem_nil, List.forall_mem_cons.mpr ⟨cl_X3_isFloating (s_X3_isFloating o) (by decide) (Or.inl w_966), List.forall_mem_cons.mpr ⟨cl_X3_widthOf (s_X3_widthOf o) (by decide) (Or.inl w_967), List.forall_mem_cons.mpr ⟨cl_X3_worstOfDig (s_X3_worstOfDig o) (by decide) (Or.inl w_972), fun _ h => absurd h List.not_mem_nil⟩⟩⟩, List.forall_mem_cons.mpr ⟨cl_X8_isWithin (s_X8_isWithin o) (by decide) (Or.inr ⟨_, wn_100⟩), fun _ h => absurd h List.not_mem_nil⟩⟩
def C_X3_findDig : Ctr := fun A σ κ => match A with
  | [.inr (.inr (.inl 10))] => ((∃ K : Kn, NetK K (σ 48) ∧ ∀ x y u v, K x y u v → nd x ∧ nd y) ∧ (0 ≤ σ 1 0 ∧ σ 1 0 ≤ 7)) ∧ ∀ τ : Sto, (∀ p : Nat, p ≠ 10 → τ p = σ p) → DB (ahd (σ 1 0) (σ 1 0) (σ 1 0 + 1)) (dgE (og (σ 48))) (dgW (og (σ 48)) (σ 1 0)) (τ 10 12) (τ 10 13) (τ 10 14) → κ [] τ
  | _ => False
set_option maxRecDepth 20000 in
theorem s_X3_findDig (o : OM) : Sound o Y_X3_findDig 4 C_X3_findDig := by
  intro Q A σ hA hC
  match A, hA, hC with
  | [.inr (.inr (.inl 10))], hA, hC =>
    obtain ⟨h0, hq⟩ : ((∃ K : Kn, NetK K (σ 48) ∧ ∀ x y u v, K x y u v → nd x ∧ nd y) ∧ (0 ≤ σ 1 0 ∧ σ 1 0 ≤ 7)) ∧ ∀ τ : Sto, (∀ p : Nat, p ≠ 10 → τ p = σ p) → DB (ahd (σ 1 0) (σ 1 0) (σ 1 0 + 1)) (dgE (og (σ 48))) (dgW (og (σ 48)) (σ 1 0)) (τ 10 12) (τ 10 13) (τ 10 14) → Q [] τ := hC
    obtain ⟨hK0, hn⟩ := h0
    obtain ⟨K, hK, hE⟩ := id hK0
    have hC := NetK_Clo hK
    have hS := CloK_sym hE hC
    have hg := NetK_in hK
    have hg2 := NetK_in2 hK
    obtain ⟨el, hel⟩ : ∃ e, e = dgE (og (σ 48)) := ⟨_, rfl⟩
    obtain ⟨W, hW⟩ : ∃ e, e = dgW (og (σ 48)) (σ 1 0) := ⟨_, rfl⟩
    rw [← hel, ← hW] at hq
    have W0 : ∀ x y, 0 ≤ W x y := by rw [hW]; exact fun x y => mxN_0 _ _
    obtain ⟨P17, hP17⟩ : ∃ P : Nat → List AV → List AV → Sto → Prop, P = fun m S L τ => ∃ a : Int, S = [] ∧ L = [vR 10, vI a] ∧ (∀ p : Nat, p ≠ 10 → τ p = σ p) ∧ 0 ≤ a ∧ a ≤ σ 1 0 ∧ DB (ahd (σ 1 0) a (a + 1)) el W (τ 10 12) (τ 10 13) (τ 10 14) ∧ m = ((7 - a) * 100).toNat := ⟨_, rfl⟩
    obtain ⟨P32, hP32⟩ : ∃ P : Nat → List AV → List AV → Sto → Prop, P = fun m S L τ => ∃ a b : Int, S = [] ∧ L = [vR 10, vI a, vI b] ∧ (∀ p : Nat, p ≠ 10 → τ p = σ p) ∧ 0 ≤ a ∧ a < σ 1 0 ∧ a < b ∧ b ≤ σ 1 0 ∧ DB (ahd (σ 1 0) a b) el W (τ 10 12) (τ 10 13) (τ 10 14) ∧ m = ((6 - a) * 100 + 50 + (7 - b)).toNat := ⟨_, rfl⟩
    refine at_meth (lv := V_X3_findDig) (B := B_X3_findDig) (e_X3_findDig o) k_X3_findDig 6 [(17, P17), (32, P32)] (List.forall_mem_cons.mpr ⟨?_, List.forall_mem_cons.mpr ⟨?_, fun _ h => absurd h List.not_mem_nil⟩⟩) 0 [] _ σ ?_
    · intro m S L τ hI
      rw [hP17] at hI
      obtain ⟨a, rfl, rfl, he, a0, a1, hd, hm⟩ := hI
      simp only [sq_iconst, sq_jsr, sq_anewarray, sq_iload, sq_lload, sq_aload, sq_istore, sq_lstore, sq_astore, sq_iinc, sq_getfield, st_put0, st_put1, st_put3, sq_inv, sq_goto, sq_icmp, sq_ifc, sq_tsw, sq_iadd, sq_isub, sq_imul, sq_ineg, sq_idiv, sq_irem, sq_iand, sq_ior, sq_ixor, sq_ishl, sq_ishr, sq_iushr, sq_ladd, sq_lmul, sq_ldiv, sq_lrem, sq_land, sq_lor, sq_lshl, sq_lushr, sq_lcmp, sq_i2l, sq_l2i, sq_i2c, sq_i2b, sq_dupI, sq_dupR, sq_dup2, sq_pop, sq_iaload, sq_baload, sq_aaload, sq_iastore, sq_bastore, sq_alen, sq_ireturn, sq_lreturn, sq_return, wq_c, wq_n, wlq_s, lkp, tbl, dBk, nth, setL, canSet, cmpI, tk, swK, rdF, entL, catS, cat1, arg, rcv, ald, bld, aln, br, Ccopy, Cmax, Cmin, Cabs, List.take, List.drop, List.reverse, List.reverseAux, List.length, List.append, List.nil_append, List.cons_append, true_and, and_true, and_self, forall_const, true_implies, false_implies, not_true_eq_false, not_false_eq_true, Option.map, reduceCtorEq, reduceIte, or_true, true_or, false_or, or_false, false_and, and_false, List.map, List.append_nil, implies_true, yK, Nat.reduceBEq, beq_self_eq_true, Int.zero_ne_one, Nat.reduceDiv, Nat.reduceMod, Nat.reduceAdd, Nat.reduceSub, Nat.reduceMul, Nat.reduceEqDiff, Nat.reduceLeDiff, Int.reduceToNat, Int.reduceNeg, Int.reduceEq, Int.reduceLT, Int.reduceLE, Int.reduceNatCast, Int.reduceNatCast', Int.reduceAdd, Int.reduceSub, Int.reduceMul, eq_self, Prod.mk.injEq, A_X3_findDig, V_X3_findDig, B_X3_findDig, Y_X3_findDig, C_X3_isFloating, C_X3_widthOf, C_X8_isWithin, C_X3_worstOfDig, shpT, rfsT, wjq_s, look, he 1 (by decide), he 48 (by decide)]
      have a20 : ¬ σ 1 0 ≤ a → ((6 - a) * 100 + 50 + (7 - (a + 1))).toNat < m := fun h => by omega
      rw [hP32]
      refine ⟨fun h => ?_, fun h => ⟨⟨by omega, by omega⟩, _, a20 h, a, a + 1, rfl, rfl, he, a0, (by omega), (by omega), (by omega), hd, rfl⟩⟩
      have e : a = σ 1 0 := by omega
      subst e
      exact hq τ he hd
    · intro m S L τ hI
      rw [hP32] at hI
      obtain ⟨a, b, rfl, rfl, he, a0, a1, b0, b1, hd, hm⟩ := hI
      simp only [sq_iconst, sq_jsr, sq_anewarray, sq_iload, sq_lload, sq_aload, sq_istore, sq_lstore, sq_astore, sq_iinc, sq_getfield, st_put0, st_put1, st_put3, sq_inv, sq_goto, sq_icmp, sq_ifc, sq_tsw, sq_iadd, sq_isub, sq_imul, sq_ineg, sq_idiv, sq_irem, sq_iand, sq_ior, sq_ixor, sq_ishl, sq_ishr, sq_iushr, sq_ladd, sq_lmul, sq_ldiv, sq_lrem, sq_land, sq_lor, sq_lshl, sq_lushr, sq_lcmp, sq_i2l, sq_l2i, sq_i2c, sq_i2b, sq_dupI, sq_dupR, sq_dup2, sq_pop, sq_iaload, sq_baload, sq_aaload, sq_iastore, sq_bastore, sq_alen, sq_ireturn, sq_lreturn, sq_return, wq_c, wq_n, wlq_s, lkp, tbl, dBk, nth, setL, canSet, cmpI, tk, swK, rdF, entL, catS, cat1, arg, rcv, ald, bld, aln, br, Ccopy, Cmax, Cmin, Cabs, List.take, List.drop, List.reverse, List.reverseAux, List.length, List.append, List.nil_append, List.cons_append, true_and, and_true, and_self, forall_const, true_implies, false_implies, not_true_eq_false, not_false_eq_true, Option.map, reduceCtorEq, reduceIte, or_true, true_or, false_or, or_false, false_and, and_false, List.map, List.append_nil, implies_true, yK, Nat.reduceBEq, beq_self_eq_true, Int.zero_ne_one, Nat.reduceDiv, Nat.reduceMod, Nat.reduceAdd, Nat.reduceSub, Nat.reduceMul, Nat.reduceEqDiff, Nat.reduceLeDiff, Int.reduceToNat, Int.reduceNeg, Int.reduceEq, Int.reduceLT, Int.reduceLE, Int.reduceNatCast, Int.reduceNatCast', Int.reduceAdd, Int.reduceSub, Int.reduceMul, eq_self, Prod.mk.injEq, A_X3_findDig, V_X3_findDig, B_X3_findDig, Y_X3_findDig, C_X3_isFloating, C_X3_widthOf, C_X8_isWithin, C_X3_worstOfDig, shpT, rfsT, wjq_s, look, DgP, he 1 (by decide), he 48 (by decide)]
      have na : nd a := ⟨by omega, by omega⟩
      have a20 : ¬ σ 1 0 ≤ b → ((6 - a) * 100 + 50 + (7 - (b + 1))).toNat < m := fun h => by omega
      have a21 : ((7 - (a + 1)) * 100).toNat < m := by omega
      refine ⟨fun h => ⟨⟨by omega, by omega⟩, ?_⟩, fun h => ?_⟩
      · rw [hP17]
        have e : b = σ 1 0 := by omega
        rw [e] at hd
        have hd2 := DB_row hd
        rw [show a + 2 = a + 1 + 1 by omega] at hd2
        exact ⟨_, a21, a + 1, rfl, rfl, he, (by omega), (by omega), hd2, rfl⟩
      · have nb : nd b := ⟨by omega, by omega⟩
        have stay : ∀ τ' : Sto, (∀ p : Nat, p ≠ 10 → τ' p = σ p) → DB (ahd (σ 1 0) a (b + 1)) el W (τ' 10 12) (τ' 10 13) (τ' 10 14) → i32 (b + 1) ∧ ∃ m_1, m_1 < m ∧ P32 m_1 [] [vR 10, vI a, vI (b + 1)] τ' := by
          intro τ' he' hd'
          rw [hP32]
          exact ⟨⟨by omega, by omega⟩, _, a20 h, a, b + 1, rfl, rfl, he', a0, a1, (by omega), (by omega), hd', rfl⟩
        refine ⟨⟨na, nb⟩, fun h1 => stay τ he (DB_no hd ?_), fun h1 => ?_⟩
        · rw [hel]
          exact fun z => z.1 (og_n h1)
        · have hba : ¬ σ 48 (b * 8 + a) = 1000000000 := fun z => h1 (og_z.mp (hS b a nb na (og_z.mpr z)))
          have epw : pw (og (σ 48)) a b = σ 48 (a * 8 + b) + σ 48 (b * 8 + a) := by
            unfold pw
            rw [og_s h1, og_s hba]
          have es : ∀ τ : Sto, ∀ w : Int, su (su (su τ 10 12 a) 10 13 b) 10 14 w 10 12 = a ∧ su (su (su τ 10 12 a) 10 13 b) 10 14 w 10 13 = b ∧ su (su (su τ 10 12 a) 10 13 b) 10 14 w 10 14 = w := fun τ w => ⟨rfl, rfl, rfl⟩
          have ee : (1 ≤ σ 48 (a * 8 + b) + σ 48 (b * 8 + a) ∧ σ 48 (a * 8 + b) + σ 48 (b * 8 + a) ≤ 40) → el a b := by
            intro z
            rw [hel]
            exact ⟨fun q => h1 (og_z.mp q), by rw [epw]; exact z⟩
          rw [show dgW (og (σ 48)) (σ 1 0) a b = W a b by rw [hW]]
          have new : el a b → (τ 10 14 = -1 ∨ W a b < τ 10 14) → i32 (b + 1) ∧ ∃ m_1, m_1 < m ∧ P32 m_1 [] [vR 10, vI a, vI (b + 1)] (su (su (su τ 10 12 a) 10 13 b) 10 14 (W a b)) := by
            intro z q
            refine stay _ (fun p hp => by rw [su_r hp, su_r hp, su_r hp]; exact he p hp) ?_
            rw [(es τ (W a b)).1, (es τ (W a b)).2.1, (es τ (W a b)).2.2]
            exact DB_new hd ⟨a0, b0, by omega⟩ z W0 q
          refine ⟨⟨na, nb, hg⟩, fun h2 => ⟨⟨⟨hK0, hn, na, nb, h1⟩, by rw [epw]; exact h2.2⟩, fun h3 => new (ee h2) (Or.inl h3), fun h3 => ⟨fun h4 => stay τ he (DB_old hd (fun z => by omega)), fun h4 => new (ee h2) (Or.inr (by omega))⟩⟩, fun h2 => stay τ he (DB_no hd ?_)⟩
          rw [hel]
          intro z
          have := z.2
          rw [epw] at this
          exact h2 this
    · simp only [sq_iconst, sq_jsr, sq_anewarray, sq_iload, sq_lload, sq_aload, sq_istore, sq_lstore, sq_astore, sq_iinc, sq_getfield, st_put0, st_put1, st_put3, sq_inv, sq_goto, sq_icmp, sq_ifc, sq_tsw, sq_iadd, sq_isub, sq_imul, sq_ineg, sq_idiv, sq_irem, sq_iand, sq_ior, sq_ixor, sq_ishl, sq_ishr, sq_iushr, sq_ladd, sq_lmul, sq_ldiv, sq_lrem, sq_land, sq_lor, sq_lshl, sq_lushr, sq_lcmp, sq_i2l, sq_l2i, sq_i2c, sq_i2b, sq_dupI, sq_dupR, sq_dup2, sq_pop, sq_iaload, sq_baload, sq_aaload, sq_iastore, sq_bastore, sq_alen, sq_ireturn, sq_lreturn, sq_return, wq_c, wq_n, wlq_s, lkp, tbl, dBk, nth, setL, canSet, cmpI, tk, swK, rdF, entL, catS, cat1, arg, rcv, ald, bld, aln, br, Ccopy, Cmax, Cmin, Cabs, List.take, List.drop, List.reverse, List.reverseAux, List.length, List.append, List.nil_append, List.cons_append, true_and, and_true, and_self, forall_const, true_implies, false_implies, not_true_eq_false, not_false_eq_true, Option.map, reduceCtorEq, reduceIte, or_true, true_or, false_or, or_false, false_and, and_false, List.map, List.append_nil, implies_true, yK, Nat.reduceBEq, beq_self_eq_true, Int.zero_ne_one, Nat.reduceDiv, Nat.reduceMod, Nat.reduceAdd, Nat.reduceSub, Nat.reduceMul, Nat.reduceEqDiff, Nat.reduceLeDiff, Int.reduceToNat, Int.reduceNeg, Int.reduceEq, Int.reduceLT, Int.reduceLE, Int.reduceNatCast, Int.reduceNatCast', Int.reduceAdd, Int.reduceSub, Int.reduceMul, eq_self, Prod.mk.injEq, A_X3_findDig, V_X3_findDig, B_X3_findDig, Y_X3_findDig, C_X3_isFloating, C_X3_widthOf, C_X8_isWithin, C_X3_worstOfDig, shpT, rfsT, wjq_s, look]
      rw [hP17]
      exact ⟨_, 0, rfl, rfl, fun p hp => by rw [su_r hp, su_r hp, su_r hp], (by omega), hn.1, DB_0, rfl⟩

