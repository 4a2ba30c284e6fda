-- ===== counts of the class =====
def PI (kd nm : Int → Int) : Prop := ∀ j, 0 ≤ j → j < 112 → 0 ≤ kd j ∧ kd j ≤ 6 ∧ 0 ≤ nm j ∧ nm j ≤ 9
def TI (f : Int → Int) (n : Int) : Prop := ∀ j, 0 ≤ j → j < n → -1 ≤ f j ∧ f j ≤ 9
/-- halves ahead of a leaf -/
def hsum (r kd nm : Int → Int) (p n : Int) : Int := sumI (fun i => hv r (kd (p * 16 + i)) (nm (p * 16 + i))) n
theorem hv_le {r : Int → Int} {c n : Int} (hc : 0 ≤ c ∧ c ≤ 6) (hn : 0 ≤ n ∧ n ≤ 9) (hr : -1 ≤ r c ∧ r c ≤ 9) : 0 ≤ hv r c n ∧ hv r c n ≤ 18 := by
  unfold hv
  split
  · split
    · omega
    · have : c = 0 ∨ c = 1 ∨ c = 2 ∨ c = 3 ∨ c = 4 ∨ c = 5 ∨ c = 6 := by omega
      rcases this with rfl | rfl | rfl | rfl | rfl | rfl | rfl <;> decide
  · omega
theorem hsum_le {r kd nm : Int → Int} {p n : Int} (h1 : PI kd nm) (h2 : TI r 7) (hp : 0 ≤ p ∧ p < 7) (hn : 0 ≤ n ∧ n ≤ 16) : 0 ≤ hsum r kd nm p n ∧ hsum r kd nm p n ≤ 18 * n := by
  have h := sumI_le (f := fun i => hv r (kd (p * 16 + i)) (nm (p * 16 + i))) (lo := 0) (hi := 18) hn.1 (fun j h3 h4 => by
    have h5 := h1 (p * 16 + j) (by omega) (by omega)
    exact hv_le ⟨h5.1, h5.2.1⟩ ⟨h5.2.2.1, h5.2.2.2⟩ (h2 _ h5.1 (by omega)))
  rw [Int.zero_mul] at h
  exact h
theorem TI_row {f : Int → Int} {h : Int} (hf : TI f 35) (h1 : -1 ≤ h ∧ h < 4) : TI (fun c => f ((h + 1) * 7 + c)) 7 := fun c h2 h3 => hf _ (by omega) (by omega)
theorem hsum_s {r kd nm : Int → Int} {p i : Int} (h : 0 ≤ i) : hsum r kd nm p (i + 1) = hsum r kd nm p i + hv r (kd (p * 16 + i)) (nm (p * 16 + i)) := sumI_s _ h
def A_X1_halvesAhead : List (Nat × Ctr) := [(3, rcv 6 3 C_X6_kindOf), (3, rcv 6 3 C_X6_nOf), (4, rcv 1 5 C_X1_halvesOf)]
theorem e_X1_halvesAhead (o : OM) : Ev o Y_X1_halvesAhead 1 T_X1_halvesAhead A_X1_halvesAhead := ⟨rfl, List.forall_mem_cons.mpr ⟨Or.inl f_X1_19, fun _ h => absurd h List.not_mem_nil⟩, fun _ h => absurd h List.not_mem_nil, fun _ h => absurd h List.not_mem_nil, fun _ h => absurd h List.not_mem_nil, List.forall_mem_cons.mpr ⟨cl_X6_kindOf (s_X6_kindOf o) (by decide) (Or.inr ⟨_, wn_47⟩), List.forall_mem_cons.mpr ⟨cl_X6_nOf (s_X6_nOf o) (by decide) (Or.inr ⟨_, wn_48⟩), List.forall_mem_cons.mpr ⟨cl_X1_halvesOf (s_X1_halvesOf o) (by decide) (Or.inl w_416), fun _ h => absurd h List.not_mem_nil⟩⟩⟩, fun _ h => absurd h List.not_mem_nil⟩
def C_X1_halvesAhead : Ctr := fun A σ κ => match A with
  | [.inr (.inr (.inl 6)), .inl h, .inl p, .inl n] => ((-1 ≤ h ∧ h < 4) ∧ (0 ≤ p ∧ p < 7) ∧ (0 ≤ n ∧ n ≤ 16) ∧ PI (σ 13) (σ 15) ∧ TI (σ 37) 35) ∧ κ [vI (hsum (fun c => σ 37 ((h + 1) * 7 + c)) (σ 13) (σ 15) p n)] σ
  | _ => False
set_option maxRecDepth 20000 in
theorem s_X1_halvesAhead (o : OM) : Sound o Y_X1_halvesAhead 1 C_X1_halvesAhead := by
  intro Q A σ hA hC
  match A, hA, hC with
  | [.inr (.inr (.inl 6)), .inl h, .inl p, .inl n], hA, hC =>
    obtain ⟨h0, hq⟩ : ((-1 ≤ h ∧ h < 4) ∧ (0 ≤ p ∧ p < 7) ∧ (0 ≤ n ∧ n ≤ 16) ∧ PI (σ 13) (σ 15) ∧ TI (σ 37) 35) ∧ Q [vI (hsum (fun c => σ 37 ((h + 1) * 7 + c)) (σ 13) (σ 15) p n)] σ := hC
    have hQ : ∀ r_ τ, r_ = (hsum (fun c => σ 37 ((h + 1) * 7 + c)) (σ 13) (σ 15) p n) → τ = (σ) → Q [vI r_] τ := fun r_ τ e e2 => e ▸ e2 ▸ hq
    obtain ⟨hh, hp, hn, hPI, hTI⟩ := h0
    refine at_meth (lv := V_X1_halvesAhead) (B := B_X1_halvesAhead) (e_X1_halvesAhead o) k_X1_halvesAhead 3 [(6, fun m S L τ => ∃ i : Int, S = [] ∧ L = [vR 6, vI h, vI p, vI n, vI (hsum (fun c => σ 37 ((h + 1) * 7 + c)) (σ 13) (σ 15) p i), vI i] ∧ τ = σ ∧ 0 ≤ i ∧ i ≤ n ∧ m = (n - i).toNat)] (List.forall_mem_cons.mpr ⟨?_, fun _ h => absurd h List.not_mem_nil⟩) 0 [] _ σ ?_
    · rintro m S L τ ⟨i, rfl, rfl, rfl, hi0, hin, hm⟩
      simp only [sq_iconst, sq_jsr, sq_anewarray, sq_iload, sq_lload, sq_aload, sq_istore, sq_lstore, sq_astore, sq_iinc, sq_getfield, st_put0, st_put1, st_put3, sq_inv, sq_goto, sq_icmp, sq_ifc, sq_tsw, sq_iadd, sq_isub, sq_imul, sq_ineg, sq_idiv, sq_irem, sq_iand, sq_ior, sq_ixor, sq_ishl, sq_ishr, sq_iushr, sq_ladd, sq_lmul, sq_ldiv, sq_lrem, sq_land, sq_lor, sq_lshl, sq_lushr, sq_lcmp, sq_i2l, sq_l2i, sq_i2c, sq_i2b, sq_dupI, sq_dupR, sq_dup2, sq_pop, sq_iaload, sq_baload, sq_aaload, sq_iastore, sq_bastore, sq_alen, sq_ireturn, sq_lreturn, sq_return, wq_c, wq_n, wlq_s, lkp, tbl, dBk, nth, setL, canSet, cmpI, tk, swK, rdF, entL, catS, cat1, arg, rcv, ald, bld, aln, br, Ccopy, Cmax, Cmin, Cabs, List.take, List.drop, List.reverse, List.reverseAux, List.length, List.append, List.nil_append, List.cons_append, true_and, and_true, and_self, forall_const, true_implies, false_implies, not_true_eq_false, not_false_eq_true, Option.map, reduceCtorEq, reduceIte, or_true, true_or, false_or, or_false, false_and, and_false, List.map, List.append_nil, implies_true, yK, Nat.reduceBEq, beq_self_eq_true, Int.zero_ne_one, Nat.reduceDiv, Nat.reduceMod, Nat.reduceAdd, Nat.reduceSub, Nat.reduceMul, Nat.reduceEqDiff, Nat.reduceLeDiff, Int.reduceToNat, Int.reduceNeg, Int.reduceEq, Int.reduceLT, Int.reduceLE, Int.reduceNatCast, Int.reduceNatCast', Int.reduceAdd, Int.reduceSub, Int.reduceMul, eq_self, Prod.mk.injEq, A_X1_halvesAhead, V_X1_halvesAhead, B_X1_halvesAhead, Y_X1_halvesAhead, C_X6_kindOf, C_X6_nOf, C_X1_halvesOf, shpT, rfsT, wjq_s, look]
      have hle := hsum_le hPI (TI_row hTI hh) hp ⟨hi0, by omega⟩
      refine ⟨fun h1 => ?_, fun h1 => ?_⟩
      · have : i = n := by omega
        subst this
        exact hq
      · have h5 := hPI (p * 16 + i) (by omega) (by omega)
        have h6 := hv_le (r := fun c => τ 37 ((h + 1) * 7 + c)) ⟨h5.1, h5.2.1⟩ ⟨h5.2.2.1, h5.2.2.2⟩ (TI_row hTI hh _ h5.1 (by omega))
        exact ⟨by omega, by omega, by omega, ⟨by omega, by omega⟩, ⟨by omega, by omega⟩, _, by omega, i + 1, by rw [hsum_s hi0], by omega, by omega, rfl⟩
    · simp only [sq_iconst, sq_jsr, sq_anewarray, sq_iload, sq_lload, sq_aload, sq_istore, sq_lstore, sq_astore, sq_iinc, sq_getfield, st_put0, st_put1, st_put3, sq_inv, sq_goto, sq_icmp, sq_ifc, sq_tsw, sq_iadd, sq_isub, sq_imul, sq_ineg, sq_idiv, sq_irem, sq_iand, sq_ior, sq_ixor, sq_ishl, sq_ishr, sq_iushr, sq_ladd, sq_lmul, sq_ldiv, sq_lrem, sq_land, sq_lor, sq_lshl, sq_lushr, sq_lcmp, sq_i2l, sq_l2i, sq_i2c, sq_i2b, sq_dupI, sq_dupR, sq_dup2, sq_pop, sq_iaload, sq_baload, sq_aaload, sq_iastore, sq_bastore, sq_alen, sq_ireturn, sq_lreturn, sq_return, wq_c, wq_n, wlq_s, lkp, tbl, dBk, nth, setL, canSet, cmpI, tk, swK, rdF, entL, catS, cat1, arg, rcv, ald, bld, aln, br, Ccopy, Cmax, Cmin, Cabs, List.take, List.drop, List.reverse, List.reverseAux, List.length, List.append, List.nil_append, List.cons_append, true_and, and_true, and_self, forall_const, true_implies, false_implies, not_true_eq_false, not_false_eq_true, Option.map, reduceCtorEq, reduceIte, or_true, true_or, false_or, or_false, false_and, and_false, List.map, List.append_nil, implies_true, yK, Nat.reduceBEq, beq_self_eq_true, Int.zero_ne_one, Nat.reduceDiv, Nat.reduceMod, Nat.reduceAdd, Nat.reduceSub, Nat.reduceMul, Nat.reduceEqDiff, Nat.reduceLeDiff, Int.reduceToNat, Int.reduceNeg, Int.reduceEq, Int.reduceLT, Int.reduceLE, Int.reduceNatCast, Int.reduceNatCast', Int.reduceAdd, Int.reduceSub, Int.reduceMul, eq_self, Prod.mk.injEq, A_X1_halvesAhead, V_X1_halvesAhead, B_X1_halvesAhead, Y_X1_halvesAhead, C_X6_kindOf, C_X6_nOf, C_X1_halvesOf, shpT, rfsT, wjq_s, look]
      exact ⟨_, 0, rfl, by omega, by omega, rfl⟩
def A_X1_yearsAhead : List (Nat × Ctr) := [(4, rcv 1 6 C_X1_halvesAhead)]
theorem e_X1_yearsAhead (o : OM) : Ev o Y_X1_yearsAhead 2 T_X1_yearsAhead A_X1_yearsAhead := ⟨rfl, fun _ h => absurd h List.not_mem_nil, fun _ h => absurd h List.not_mem_nil, fun _ h => absurd h List.not_mem_nil, fun _ h => absurd h List.not_mem_nil, List.forall_mem_cons.mpr ⟨cl_X1_halvesAhead (s_X1_halvesAhead o) (by decide) (Or.inl w_407), fun _ h => absurd h List.not_mem_nil⟩, fun _ h => absurd h List.not_mem_nil⟩
def C_X1_yearsAhead : Ctr := fun A σ κ => match A with
  | [.inr (.inr (.inl 6)), .inl h, .inl p, .inl n] => ((-1 ≤ h ∧ h < 4) ∧ (0 ≤ p ∧ p < 7) ∧ (0 ≤ n ∧ n ≤ 16) ∧ PI (σ 13) (σ 15) ∧ TI (σ 37) 35) ∧ κ [vI ((hsum (fun c => σ 37 ((h + 1) * 7 + c)) (σ 13) (σ 15) p n).tdiv 2)] σ
  | _ => False
set_option maxRecDepth 20000 in
theorem s_X1_yearsAhead (o : OM) : Sound o Y_X1_yearsAhead 2 C_X1_yearsAhead := by
  intro Q A σ hA hC
  match A, hA, hC with
  | [.inr (.inr (.inl 6)), .inl h, .inl p, .inl n], hA, hC =>
    obtain ⟨h0, hq⟩ : ((-1 ≤ h ∧ h < 4) ∧ (0 ≤ p ∧ p < 7) ∧ (0 ≤ n ∧ n ≤ 16) ∧ PI (σ 13) (σ 15) ∧ TI (σ 37) 35) ∧ Q [vI ((hsum (fun c => σ 37 ((h + 1) * 7 + c)) (σ 13) (σ 15) p n).tdiv 2)] σ := hC
    have hQ : ∀ r_ τ, r_ = ((hsum (fun c => σ 37 ((h + 1) * 7 + c)) (σ 13) (σ 15) p n).tdiv 2) → τ = (σ) → Q [vI r_] τ := fun r_ τ e e2 => e ▸ e2 ▸ hq
    refine at_wpl (lv := V_X1_yearsAhead) (B := B_X1_yearsAhead) (e_X1_yearsAhead o) k_X1_yearsAhead 1 0 [] _ σ ?_
    simp only [sq_iconst, sq_jsr, sq_anewarray, sq_iload, sq_lload, sq_aload, sq_istore, sq_lstore, sq_astore, sq_iinc, sq_getfield, st_put0, st_put1, st_put3, sq_inv, sq_goto, sq_icmp, sq_ifc, sq_tsw, sq_iadd, sq_isub, sq_imul, sq_ineg, sq_idiv, sq_irem, sq_iand, sq_ior, sq_ixor, sq_ishl, sq_ishr, sq_iushr, sq_ladd, sq_lmul, sq_ldiv, sq_lrem, sq_land, sq_lor, sq_lshl, sq_lushr, sq_lcmp, sq_i2l, sq_l2i, sq_i2c, sq_i2b, sq_dupI, sq_dupR, sq_dup2, sq_pop, sq_iaload, sq_baload, sq_aaload, sq_iastore, sq_bastore, sq_alen, sq_ireturn, sq_lreturn, sq_return, wq_c, wq_n, wlq_s, lkp, tbl, dBk, nth, setL, canSet, cmpI, tk, swK, rdF, entL, catS, cat1, arg, rcv, ald, bld, aln, br, Ccopy, Cmax, Cmin, Cabs, List.take, List.drop, List.reverse, List.reverseAux, List.length, List.append, List.nil_append, List.cons_append, true_and, and_true, and_self, forall_const, true_implies, false_implies, not_true_eq_false, not_false_eq_true, Option.map, reduceCtorEq, reduceIte, or_true, true_or, false_or, or_false, false_and, and_false, List.map, List.append_nil, implies_true, yK, Nat.reduceBEq, beq_self_eq_true, Int.zero_ne_one, Nat.reduceDiv, Nat.reduceMod, Nat.reduceAdd, Nat.reduceSub, Nat.reduceMul, Nat.reduceEqDiff, Nat.reduceLeDiff, Int.reduceToNat, Int.reduceNeg, Int.reduceEq, Int.reduceLT, Int.reduceLE, Int.reduceNatCast, Int.reduceNatCast', Int.reduceAdd, Int.reduceSub, Int.reduceMul, eq_self, Prod.mk.injEq, A_X1_yearsAhead, V_X1_yearsAhead, B_X1_yearsAhead, Y_X1_yearsAhead, C_X1_halvesAhead, shpT, rfsT]
    repeat' (first | assumption | (intro _) | apply And.intro)
    all_goals first | omega | assumption | (apply hQ <;> first | rfl | omega | (simp [*]; done) | (simp [*]; omega)) | skip
def A_X1_yearsOfAll : List (Nat × Ctr) := [(4, rcv 1 6 C_X1_halvesAhead)]
theorem e_X1_yearsOfAll (o : OM) : Ev o Y_X1_yearsOfAll 2 T_X1_yearsOfAll A_X1_yearsOfAll := ⟨rfl, List.forall_mem_cons.mpr ⟨Or.inl f_X1_19, List.forall_mem_cons.mpr ⟨Or.inl f_X1_54, fun _ h => absurd h List.not_mem_nil⟩⟩, fun _ h => absurd h List.not_mem_nil, fun _ h => absurd h List.not_mem_nil, fun _ h => absurd h List.not_mem_nil, List.forall_mem_cons.mpr ⟨cl_X1_halvesAhead (s_X1_halvesAhead o) (by decide) (Or.inl w_407), fun _ h => absurd h List.not_mem_nil⟩, fun _ h => absurd h List.not_mem_nil⟩
def C_X1_yearsOfAll : Ctr := fun A σ κ => match A with
  | [.inr (.inr (.inl 6)), .inl h, .inl p] => ((-1 ≤ h ∧ h < 4) ∧ (0 ≤ p ∧ p < 7) ∧ (0 ≤ σ 12 p ∧ σ 12 p ≤ 16) ∧ PI (σ 13) (σ 15) ∧ TI (σ 37) 35) ∧ κ [vI ((hsum (fun c => σ 37 ((h + 1) * 7 + c)) (σ 13) (σ 15) p (σ 12 p) + 1).tdiv 2)] σ
  | _ => False
set_option maxRecDepth 20000 in
theorem s_X1_yearsOfAll (o : OM) : Sound o Y_X1_yearsOfAll 2 C_X1_yearsOfAll := by
  intro Q A σ hA hC
  match A, hA, hC with
  | [.inr (.inr (.inl 6)), .inl h, .inl p], hA, hC =>
    obtain ⟨h0, hq⟩ : ((-1 ≤ h ∧ h < 4) ∧ (0 ≤ p ∧ p < 7) ∧ (0 ≤ σ 12 p ∧ σ 12 p ≤ 16) ∧ PI (σ 13) (σ 15) ∧ TI (σ 37) 35) ∧ Q [vI ((hsum (fun c => σ 37 ((h + 1) * 7 + c)) (σ 13) (σ 15) p (σ 12 p) + 1).tdiv 2)] σ := hC
    have hQ : ∀ r_ τ, r_ = ((hsum (fun c => σ 37 ((h + 1) * 7 + c)) (σ 13) (σ 15) p (σ 12 p) + 1).tdiv 2) → τ = (σ) → Q [vI r_] τ := fun r_ τ e e2 => e ▸ e2 ▸ hq
    refine at_wpl (lv := V_X1_yearsOfAll) (B := B_X1_yearsOfAll) (e_X1_yearsOfAll o) k_X1_yearsOfAll 1 0 [] _ σ ?_
    simp only [sq_iconst, sq_jsr, sq_anewarray, sq_iload, sq_lload, sq_aload, sq_istore, sq_lstore, sq_astore, sq_iinc, sq_getfield, st_put0, st_put1, st_put3, sq_inv, sq_goto, sq_icmp, sq_ifc, sq_tsw, sq_iadd, sq_isub, sq_imul, sq_ineg, sq_idiv, sq_irem, sq_iand, sq_ior, sq_ixor, sq_ishl, sq_ishr, sq_iushr, sq_ladd, sq_lmul, sq_ldiv, sq_lrem, sq_land, sq_lor, sq_lshl, sq_lushr, sq_lcmp, sq_i2l, sq_l2i, sq_i2c, sq_i2b, sq_dupI, sq_dupR, sq_dup2, sq_pop, sq_iaload, sq_baload, sq_aaload, sq_iastore, sq_bastore, sq_alen, sq_ireturn, sq_lreturn, sq_return, wq_c, wq_n, wlq_s, lkp, tbl, dBk, nth, setL, canSet, cmpI, tk, swK, rdF, entL, catS, cat1, arg, rcv, ald, bld, aln, br, Ccopy, Cmax, Cmin, Cabs, List.take, List.drop, List.reverse, List.reverseAux, List.length, List.append, List.nil_append, List.cons_append, true_and, and_true, and_self, forall_const, true_implies, false_implies, not_true_eq_false, not_false_eq_true, Option.map, reduceCtorEq, reduceIte, or_true, true_or, false_or, or_false, false_and, and_false, List.map, List.append_nil, implies_true, yK, Nat.reduceBEq, beq_self_eq_true, Int.zero_ne_one, Nat.reduceDiv, Nat.reduceMod, Nat.reduceAdd, Nat.reduceSub, Nat.reduceMul, Nat.reduceEqDiff, Nat.reduceLeDiff, Int.reduceToNat, Int.reduceNeg, Int.reduceEq, Int.reduceLT, Int.reduceLE, Int.reduceNatCast, Int.reduceNatCast', Int.reduceAdd, Int.reduceSub, Int.reduceMul, eq_self, Prod.mk.injEq, A_X1_yearsOfAll, V_X1_yearsOfAll, B_X1_yearsOfAll, Y_X1_yearsOfAll, C_X1_halvesAhead, shpT, rfsT]
    obtain ⟨hh, hp, hn, hPI, hTI⟩ := h0
    have hle := hsum_le hPI (TI_row hTI hh) hp hn
    exact ⟨by omega, ⟨hh, hp, hn, hPI, hTI⟩, ⟨by omega, by omega⟩, hq⟩
/-- the first place from lo on, of so many -/
def ff (P : Int → Bool) : Int → Nat → Int
  | _, 0 => -1
  | lo, n + 1 => if P lo then lo else ff P (lo + 1) n
/-- the first place from hi down, of so many -/
def fb (P : Int → Bool) : Int → Nat → Int
  | _, 0 => -1
  | hi, n + 1 => if P hi then hi else fb P (hi - 1) n
theorem ff_in {P : Int → Bool} : ∀ (n : Nat) (lo : Int), ff P lo n = -1 ∨ (lo ≤ ff P lo n ∧ ff P lo n < lo + n ∧ P (ff P lo n) = true)
  | 0, lo => Or.inl rfl
  | n + 1, lo => by
    unfold ff
    split
    · exact Or.inr ⟨by omega, by omega, by assumption⟩
    · rcases ff_in n (lo + 1) with h | ⟨h1, h2, h3⟩
      · exact Or.inl h
      · exact Or.inr ⟨by omega, by omega, h3⟩
theorem fb_in {P : Int → Bool} : ∀ (n : Nat) (hi : Int), fb P hi n = -1 ∨ (hi - n < fb P hi n ∧ fb P hi n ≤ hi ∧ P (fb P hi n) = true)
  | 0, hi => Or.inl rfl
  | n + 1, hi => by
    unfold fb
    split
    · exact Or.inr ⟨by omega, by omega, by assumption⟩
    · rcases fb_in n (hi - 1) with h | ⟨h1, h2, h3⟩
      · exact Or.inl h
      · exact Or.inr ⟨by omega, by omega, h3⟩
theorem ff_s {P : Int → Bool} {i e : Int} (h : i < e) : ff P i (e - i).toNat = if P i then i else ff P (i + 1) (e - (i + 1)).toNat := by
  rw [show (e - i).toNat = (e - (i + 1)).toNat + 1 by omega]
  rfl
theorem ff_e {P : Int → Bool} {i e : Int} (h : e ≤ i) : ff P i (e - i).toNat = -1 := by
  rw [show (e - i).toNat = 0 by omega]
  rfl
theorem fb_s {P : Int → Bool} {i : Int} (h : 0 ≤ i) : fb P i (i + 1).toNat = if P i then i else fb P (i - 1) i.toNat := by
  rw [show (i + 1).toNat = i.toNat + 1 by omega]
  rfl
def ashP (kd nm : Int → Int) (p n : Int) : Int → Bool := fun i => decide (kd (p * 16 + i) = 5 ∧ nm (p * 16 + i) = n)
def A_X6_firstAsh : List (Nat × Ctr) := [(3, rcv 6 3 C_X6_isAsh), (3, rcv 6 3 C_X6_nOf)]
theorem e_X6_firstAsh (o : OM) : Ev o Y_X6_firstAsh 2 T_X6_firstAsh A_X6_firstAsh := ⟨rfl, List.forall_mem_cons.mpr ⟨Or.inl f_X6_19, fun _ h => absurd h List.not_mem_nil⟩, fun _ h => absurd h List.not_mem_nil, fun _ h => absurd h List.not_mem_nil, fun _ h => absurd h List.not_mem_nil, List.forall_mem_cons.mpr ⟨cl_X6_isAsh (s_X6_isAsh o) (by decide) (Or.inl w_1010), List.forall_mem_cons.mpr ⟨cl_X6_nOf (s_X6_nOf o) (by decide) (Or.inl w_1011), fun _ h => absurd h List.not_mem_nil⟩⟩, fun _ h => absurd h List.not_mem_nil⟩
def C_X6_firstAsh : Ctr := fun A σ κ => match A with
  | [.inr (.inr (.inl 1)), .inl p, .inl n] => ((0 ≤ p ∧ p < 7) ∧ (0 ≤ σ 12 p ∧ σ 12 p ≤ 16)) ∧ κ [vI (ff (ashP (σ 13) (σ 15) p n) 0 (σ 12 p).toNat)] σ
  | _ => False
set_option maxRecDepth 20000 in
theorem s_X6_firstAsh (o : OM) : Sound o Y_X6_firstAsh 2 C_X6_firstAsh := by
  intro Q A σ hA hC
  match A, hA, hC with
  | [.inr (.inr (.inl 1)), .inl p, .inl n], hA, hC =>
    obtain ⟨h0, hq⟩ : ((0 ≤ p ∧ p < 7) ∧ (0 ≤ σ 12 p ∧ σ 12 p ≤ 16)) ∧ Q [vI (ff (ashP (σ 13) (σ 15) p n) 0 (σ 12 p).toNat)] σ := hC
    have hQ : ∀ r_ τ, r_ = (ff (ashP (σ 13) (σ 15) p n) 0 (σ 12 p).toNat) → τ = (σ) → Q [vI r_] τ := fun r_ τ e e2 => e ▸ e2 ▸ hq
    obtain ⟨hp, hn⟩ := h0
    refine at_meth (lv := V_X6_firstAsh) (B := B_X6_firstAsh) (e_X6_firstAsh o) k_X6_firstAsh 4 [(2, fun m S L τ => ∃ i : Int, S = [] ∧ L = [vR 1, vI p, vI n, vI i] ∧ τ = σ ∧ 0 ≤ i ∧ i ≤ σ 12 p ∧ m = (σ 12 p - i).toNat ∧ ff (ashP (σ 13) (σ 15) p n) 0 (σ 12 p).toNat = ff (ashP (σ 13) (σ 15) p n) i (σ 12 p - i).toNat)] (List.forall_mem_cons.mpr ⟨?_, fun _ h => absurd h List.not_mem_nil⟩) 0 [] _ σ ?_
    · rintro m S L τ ⟨i, rfl, rfl, rfl, hi0, hin, hm, he⟩
      simp only [sq_iconst, sq_jsr, sq_anewarray, sq_iload, sq_lload, sq_aload, sq_istore, sq_lstore, sq_astore, sq_iinc, sq_getfield, st_put0, st_put1, st_put3, sq_inv, sq_goto, sq_icmp, sq_ifc, sq_tsw, sq_iadd, sq_isub, sq_imul, sq_ineg, sq_idiv, sq_irem, sq_iand, sq_ior, sq_ixor, sq_ishl, sq_ishr, sq_iushr, sq_ladd, sq_lmul, sq_ldiv, sq_lrem, sq_land, sq_lor, sq_lshl, sq_lushr, sq_lcmp, sq_i2l, sq_l2i, sq_i2c, sq_i2b, sq_dupI, sq_dupR, sq_dup2, sq_pop, sq_iaload, sq_baload, sq_aaload, sq_iastore, sq_bastore, sq_alen, sq_ireturn, sq_lreturn, sq_return, wq_c, wq_n, wlq_s, lkp, tbl, dBk, nth, setL, canSet, cmpI, tk, swK, rdF, entL, catS, cat1, arg, rcv, ald, bld, aln, br, Ccopy, Cmax, Cmin, Cabs, List.take, List.drop, List.reverse, List.reverseAux, List.length, List.append, List.nil_append, List.cons_append, true_and, and_true, and_self, forall_const, true_implies, false_implies, not_true_eq_false, not_false_eq_true, Option.map, reduceCtorEq, reduceIte, or_true, true_or, false_or, or_false, false_and, and_false, List.map, List.append_nil, implies_true, yK, Nat.reduceBEq, beq_self_eq_true, Int.zero_ne_one, Nat.reduceDiv, Nat.reduceMod, Nat.reduceAdd, Nat.reduceSub, Nat.reduceMul, Nat.reduceEqDiff, Nat.reduceLeDiff, Int.reduceToNat, Int.reduceNeg, Int.reduceEq, Int.reduceLT, Int.reduceLE, Int.reduceNatCast, Int.reduceNatCast', Int.reduceAdd, Int.reduceSub, Int.reduceMul, eq_self, Prod.mk.injEq, A_X6_firstAsh, V_X6_firstAsh, B_X6_firstAsh, Y_X6_firstAsh, C_X6_isAsh, C_X6_nOf, shpT, rfsT, wjq_s, look]
      have nx : i < τ 12 p → ashP (τ 13) (τ 15) p n i = false → i32 (i + 1) ∧ ∃ m_1, m_1 < m ∧ ∃ i_1, [vR 1, vI p, vI n, vI (i + 1)] = [vR 1, vI p, vI n, vI i_1] ∧ 0 ≤ i_1 ∧ i_1 ≤ τ 12 p ∧ m_1 = (τ 12 p - i_1).toNat ∧ ff (ashP (τ 13) (τ 15) p n) 0 (τ 12 p).toNat = ff (ashP (τ 13) (τ 15) p n) i_1 (τ 12 p - i_1).toNat := by
        intro h1 h2
        refine ⟨⟨by omega, by omega⟩, _, ?_, i + 1, rfl, by omega, by omega, rfl, ?_⟩
        · omega
        · rw [he, ff_s h1, h2]; rfl
      refine ⟨by omega, fun h1 => ?_, fun h1 => ?_⟩
      · exact hQ _ _ (by rw [he, ff_e h1]) rfl
      · have h2 : i < τ 12 p := by omega
        refine ⟨by omega, fun h3 => ⟨by omega, fun h4 => ?_, fun h4 => ?_⟩, fun h3 => ?_⟩
        · exact nx h2 (by simp [ashP, h3, h4])
        · have h5 : ashP (τ 13) (τ 15) p n i = true := by simp only [ashP, decide_eq_true_eq]; exact ⟨h3, by omega⟩
          exact hQ _ _ (by rw [he, ff_s h2, h5]; rfl) rfl
        · exact nx h2 (by simp [ashP, h3])
    · simp only [sq_iconst, sq_jsr, sq_anewarray, sq_iload, sq_lload, sq_aload, sq_istore, sq_lstore, sq_astore, sq_iinc, sq_getfield, st_put0, st_put1, st_put3, sq_inv, sq_goto, sq_icmp, sq_ifc, sq_tsw, sq_iadd, sq_isub, sq_imul, sq_ineg, sq_idiv, sq_irem, sq_iand, sq_ior, sq_ixor, sq_ishl, sq_ishr, sq_iushr, sq_ladd, sq_lmul, sq_ldiv, sq_lrem, sq_land, sq_lor, sq_lshl, sq_lushr, sq_lcmp, sq_i2l, sq_l2i, sq_i2c, sq_i2b, sq_dupI, sq_dupR, sq_dup2, sq_pop, sq_iaload, sq_baload, sq_aaload, sq_iastore, sq_bastore, sq_alen, sq_ireturn, sq_lreturn, sq_return, wq_c, wq_n, wlq_s, lkp, tbl, dBk, nth, setL, canSet, cmpI, tk, swK, rdF, entL, catS, cat1, arg, rcv, ald, bld, aln, br, Ccopy, Cmax, Cmin, Cabs, List.take, List.drop, List.reverse, List.reverseAux, List.length, List.append, List.nil_append, List.cons_append, true_and, and_true, and_self, forall_const, true_implies, false_implies, not_true_eq_false, not_false_eq_true, Option.map, reduceCtorEq, reduceIte, or_true, true_or, false_or, or_false, false_and, and_false, List.map, List.append_nil, implies_true, yK, Nat.reduceBEq, beq_self_eq_true, Int.zero_ne_one, Nat.reduceDiv, Nat.reduceMod, Nat.reduceAdd, Nat.reduceSub, Nat.reduceMul, Nat.reduceEqDiff, Nat.reduceLeDiff, Int.reduceToNat, Int.reduceNeg, Int.reduceEq, Int.reduceLT, Int.reduceLE, Int.reduceNatCast, Int.reduceNatCast', Int.reduceAdd, Int.reduceSub, Int.reduceMul, eq_self, Prod.mk.injEq, A_X6_firstAsh, V_X6_firstAsh, B_X6_firstAsh, Y_X6_firstAsh, C_X6_isAsh, C_X6_nOf, shpT, rfsT, wjq_s, look]
      exact ⟨_, 0, rfl, by omega, by omega, rfl, by rw [Int.sub_zero]⟩
def shP (kd nm sz : Int → Int) (p q : Int) : Int → Bool := fun i => decide (kd (p * 16 + i) = 5 ∧ ¬ ff (ashP kd nm q (nm (p * 16 + i))) 0 (sz q).toNat = -1)
def A_X6_isSharedAsh : List (Nat × Ctr) := [(3, rcv 6 3 C_X6_isAsh), (3, rcv 6 3 C_X6_nOf), (3, rcv 6 4 C_X6_firstAsh)]
theorem e_X6_isSharedAsh (o : OM) : Ev o Y_X6_isSharedAsh 3 T_X6_isSharedAsh A_X6_isSharedAsh := ⟨rfl, fun _ h => absurd h List.not_mem_nil, fun _ h => absurd h List.not_mem_nil, fun _ h => absurd h List.not_mem_nil, fun _ h => absurd h List.not_mem_nil, List.forall_mem_cons.mpr ⟨cl_X6_isAsh (s_X6_isAsh o) (by decide) (Or.inl w_1010), List.forall_mem_cons.mpr ⟨cl_X6_nOf (s_X6_nOf o) (by decide) (Or.inl w_1011), List.forall_mem_cons.mpr ⟨cl_X6_firstAsh (s_X6_firstAsh o) (by decide) (Or.inl w_1012), fun _ h => absurd h List.not_mem_nil⟩⟩⟩, fun _ h => absurd h List.not_mem_nil⟩
def C_X6_isSharedAsh : Ctr := fun A σ κ => match A with
  | [.inr (.inr (.inl 1)), .inl p, .inl i, .inl q] => ((0 ≤ p ∧ p < 7) ∧ (0 ≤ i ∧ i < 16) ∧ (0 ≤ q ∧ q < 7) ∧ (0 ≤ σ 12 q ∧ σ 12 q ≤ 16)) ∧ br (shP (σ 13) (σ 15) (σ 12) p q i = true) κ σ
  | _ => False
set_option maxRecDepth 20000 in
theorem s_X6_isSharedAsh (o : OM) : Sound o Y_X6_isSharedAsh 3 C_X6_isSharedAsh := by
  intro Q A σ hA hC
  match A, hA, hC with
  | [.inr (.inr (.inl 1)), .inl p, .inl i, .inl q], hA, hC =>
    obtain ⟨h0, hq⟩ : ((0 ≤ p ∧ p < 7) ∧ (0 ≤ i ∧ i < 16) ∧ (0 ≤ q ∧ q < 7) ∧ (0 ≤ σ 12 q ∧ σ 12 q ≤ 16)) ∧ br (shP (σ 13) (σ 15) (σ 12) p q i = true) Q σ := hC
    have hT : (shP (σ 13) (σ 15) (σ 12) p q i = true) → ∀ r_, r_ = 1 → Q [vI r_] σ := fun c_ r_ e => e ▸ hq.1 c_
    have hF : ¬ (shP (σ 13) (σ 15) (σ 12) p q i = true) → ∀ r_, r_ = 0 → Q [vI r_] σ := fun c_ r_ e => e ▸ hq.2 c_
    refine at_wpl (lv := V_X6_isSharedAsh) (B := B_X6_isSharedAsh) (e_X6_isSharedAsh o) k_X6_isSharedAsh 3 0 [] _ σ ?_
    simp only [sq_iconst, sq_jsr, sq_anewarray, sq_iload, sq_lload, sq_aload, sq_istore, sq_lstore, sq_astore, sq_iinc, sq_getfield, st_put0, st_put1, st_put3, sq_inv, sq_goto, sq_icmp, sq_ifc, sq_tsw, sq_iadd, sq_isub, sq_imul, sq_ineg, sq_idiv, sq_irem, sq_iand, sq_ior, sq_ixor, sq_ishl, sq_ishr, sq_iushr, sq_ladd, sq_lmul, sq_ldiv, sq_lrem, sq_land, sq_lor, sq_lshl, sq_lushr, sq_lcmp, sq_i2l, sq_l2i, sq_i2c, sq_i2b, sq_dupI, sq_dupR, sq_dup2, sq_pop, sq_iaload, sq_baload, sq_aaload, sq_iastore, sq_bastore, sq_alen, sq_ireturn, sq_lreturn, sq_return, wq_c, wq_n, wlq_s, lkp, tbl, dBk, nth, setL, canSet, cmpI, tk, swK, rdF, entL, catS, cat1, arg, rcv, ald, bld, aln, br, Ccopy, Cmax, Cmin, Cabs, List.take, List.drop, List.reverse, List.reverseAux, List.length, List.append, List.nil_append, List.cons_append, true_and, and_true, and_self, forall_const, true_implies, false_implies, not_true_eq_false, not_false_eq_true, Option.map, reduceCtorEq, reduceIte, or_true, true_or, false_or, or_false, false_and, and_false, List.map, List.append_nil, implies_true, yK, Nat.reduceBEq, beq_self_eq_true, Int.zero_ne_one, Nat.reduceDiv, Nat.reduceMod, Nat.reduceAdd, Nat.reduceSub, Nat.reduceMul, Nat.reduceEqDiff, Nat.reduceLeDiff, Int.reduceToNat, Int.reduceNeg, Int.reduceEq, Int.reduceLT, Int.reduceLE, Int.reduceNatCast, Int.reduceNatCast', Int.reduceAdd, Int.reduceSub, Int.reduceMul, eq_self, Prod.mk.injEq, A_X6_isSharedAsh, V_X6_isSharedAsh, B_X6_isSharedAsh, Y_X6_isSharedAsh, C_X6_isAsh, C_X6_nOf, C_X6_firstAsh, shpT, rfsT, shP]
    repeat' (first | assumption | (intro _) | apply And.intro)
    all_goals first | omega | assumption | (apply hT <;> first | rfl | omega | assumption | (simp [shP, *]; done)) | (apply hF <;> first | rfl | omega | assumption | (simp [shP, *]; done)) | skip
def A_X6_sharedAshAhead : List (Nat × Ctr) := [(4, rcv 6 4 C_X6_isSharedAsh)]
theorem e_X6_sharedAshAhead (o : OM) : Ev o Y_X6_sharedAshAhead 4 T_X6_sharedAshAhead A_X6_sharedAshAhead := ⟨rfl, fun _ h => absurd h List.not_mem_nil, fun _ h => absurd h List.not_mem_nil, fun _ h => absurd h List.not_mem_nil, fun _ h => absurd h List.not_mem_nil, List.forall_mem_cons.mpr ⟨cl_X6_isSharedAsh (s_X6_isSharedAsh o) (by decide) (Or.inl w_1006), fun _ h => absurd h List.not_mem_nil⟩, fun _ h => absurd h List.not_mem_nil⟩
def C_X6_sharedAshAhead : Ctr := fun A σ κ => match A with
  | [.inr (.inr (.inl 1)), .inl p, .inl i, .inl q] => ((0 ≤ p ∧ p < 7) ∧ (0 ≤ i ∧ i < 16) ∧ (0 ≤ q ∧ q < 7) ∧ (0 ≤ σ 12 q ∧ σ 12 q ≤ 16)) ∧ κ [vI (fb (shP (σ 13) (σ 15) (σ 12) p q) (i - 1) i.toNat)] σ
  | _ => False
set_option maxRecDepth 20000 in
theorem s_X6_sharedAshAhead (o : OM) : Sound o Y_X6_sharedAshAhead 4 C_X6_sharedAshAhead := by
  intro Q A σ hA hC
  match A, hA, hC with
  | [.inr (.inr (.inl 1)), .inl p, .inl i, .inl q], hA, hC =>
    obtain ⟨h0, hq⟩ : ((0 ≤ p ∧ p < 7) ∧ (0 ≤ i ∧ i < 16) ∧ (0 ≤ q ∧ q < 7) ∧ (0 ≤ σ 12 q ∧ σ 12 q ≤ 16)) ∧ Q [vI (fb (shP (σ 13) (σ 15) (σ 12) p q) (i - 1) i.toNat)] σ := hC
    have hQ : ∀ r_ τ, r_ = (fb (shP (σ 13) (σ 15) (σ 12) p q) (i - 1) i.toNat) → τ = (σ) → Q [vI r_] τ := fun r_ τ e e2 => e ▸ e2 ▸ hq
    obtain ⟨hp, hi, hq1, hn⟩ := h0
    refine at_meth (lv := V_X6_sharedAshAhead) (B := B_X6_sharedAshAhead) (e_X6_sharedAshAhead o) k_X6_sharedAshAhead 4 [(5, fun m S L τ => ∃ j : Int, S = [] ∧ L = [vR 1, vI p, vI i, vI q, vI j] ∧ τ = σ ∧ -1 ≤ j ∧ j < 16 ∧ m = (j + 1).toNat ∧ fb (shP (σ 13) (σ 15) (σ 12) p q) (i - 1) i.toNat = fb (shP (σ 13) (σ 15) (σ 12) p q) j (j + 1).toNat)] (List.forall_mem_cons.mpr ⟨?_, fun _ h => absurd h List.not_mem_nil⟩) 0 [] _ σ ?_
    · rintro m S L τ ⟨j, rfl, rfl, rfl, hj0, hj1, hm, he⟩
      simp only [sq_iconst, sq_jsr, sq_anewarray, sq_iload, sq_lload, sq_aload, sq_istore, sq_lstore, sq_astore, sq_iinc, sq_getfield, st_put0, st_put1, st_put3, sq_inv, sq_goto, sq_icmp, sq_ifc, sq_tsw, sq_iadd, sq_isub, sq_imul, sq_ineg, sq_idiv, sq_irem, sq_iand, sq_ior, sq_ixor, sq_ishl, sq_ishr, sq_iushr, sq_ladd, sq_lmul, sq_ldiv, sq_lrem, sq_land, sq_lor, sq_lshl, sq_lushr, sq_lcmp, sq_i2l, sq_l2i, sq_i2c, sq_i2b, sq_dupI, sq_dupR, sq_dup2, sq_pop, sq_iaload, sq_baload, sq_aaload, sq_iastore, sq_bastore, sq_alen, sq_ireturn, sq_lreturn, sq_return, wq_c, wq_n, wlq_s, lkp, tbl, dBk, nth, setL, canSet, cmpI, tk, swK, rdF, entL, catS, cat1, arg, rcv, ald, bld, aln, br, Ccopy, Cmax, Cmin, Cabs, List.take, List.drop, List.reverse, List.reverseAux, List.length, List.append, List.nil_append, List.cons_append, true_and, and_true, and_self, forall_const, true_implies, false_implies, not_true_eq_false, not_false_eq_true, Option.map, reduceCtorEq, reduceIte, or_true, true_or, false_or, or_false, false_and, and_false, List.map, List.append_nil, implies_true, yK, Nat.reduceBEq, beq_self_eq_true, Int.zero_ne_one, Nat.reduceDiv, Nat.reduceMod, Nat.reduceAdd, Nat.reduceSub, Nat.reduceMul, Nat.reduceEqDiff, Nat.reduceLeDiff, Int.reduceToNat, Int.reduceNeg, Int.reduceEq, Int.reduceLT, Int.reduceLE, Int.reduceNatCast, Int.reduceNatCast', Int.reduceAdd, Int.reduceSub, Int.reduceMul, eq_self, Prod.mk.injEq, A_X6_sharedAshAhead, V_X6_sharedAshAhead, B_X6_sharedAshAhead, Y_X6_sharedAshAhead, C_X6_isSharedAsh, shpT, rfsT, wjq_s, look]
      refine ⟨fun h1 => ?_, fun h1 => ⟨by omega, fun h2 => ?_, fun h2 => ?_⟩⟩
      · have : j = -1 := by omega
        subst this
        exact hQ _ _ (by rw [he]; rfl) rfl
      · exact hQ _ _ (by rw [he, fb_s (by omega), h2]; rfl) rfl
      · refine ⟨⟨by omega, by omega⟩, _, ?_, j - 1, rfl, by omega, by omega, rfl, ?_⟩
        · omega
        · rw [he, fb_s (by omega), if_neg h2, show j - 1 + 1 = j by omega]
    · simp only [sq_iconst, sq_jsr, sq_anewarray, sq_iload, sq_lload, sq_aload, sq_istore, sq_lstore, sq_astore, sq_iinc, sq_getfield, st_put0, st_put1, st_put3, sq_inv, sq_goto, sq_icmp, sq_ifc, sq_tsw, sq_iadd, sq_isub, sq_imul, sq_ineg, sq_idiv, sq_irem, sq_iand, sq_ior, sq_ixor, sq_ishl, sq_ishr, sq_iushr, sq_ladd, sq_lmul, sq_ldiv, sq_lrem, sq_land, sq_lor, sq_lshl, sq_lushr, sq_lcmp, sq_i2l, sq_l2i, sq_i2c, sq_i2b, sq_dupI, sq_dupR, sq_dup2, sq_pop, sq_iaload, sq_baload, sq_aaload, sq_iastore, sq_bastore, sq_alen, sq_ireturn, sq_lreturn, sq_return, wq_c, wq_n, wlq_s, lkp, tbl, dBk, nth, setL, canSet, cmpI, tk, swK, rdF, entL, catS, cat1, arg, rcv, ald, bld, aln, br, Ccopy, Cmax, Cmin, Cabs, List.take, List.drop, List.reverse, List.reverseAux, List.length, List.append, List.nil_append, List.cons_append, true_and, and_true, and_self, forall_const, true_implies, false_implies, not_true_eq_false, not_false_eq_true, Option.map, reduceCtorEq, reduceIte, or_true, true_or, false_or, or_false, false_and, and_false, List.map, List.append_nil, implies_true, yK, Nat.reduceBEq, beq_self_eq_true, Int.zero_ne_one, Nat.reduceDiv, Nat.reduceMod, Nat.reduceAdd, Nat.reduceSub, Nat.reduceMul, Nat.reduceEqDiff, Nat.reduceLeDiff, Int.reduceToNat, Int.reduceNeg, Int.reduceEq, Int.reduceLT, Int.reduceLE, Int.reduceNatCast, Int.reduceNatCast', Int.reduceAdd, Int.reduceSub, Int.reduceMul, eq_self, Prod.mk.injEq, A_X6_sharedAshAhead, V_X6_sharedAshAhead, B_X6_sharedAshAhead, Y_X6_sharedAshAhead, C_X6_isSharedAsh, shpT, rfsT, wjq_s, look]
      exact ⟨⟨by omega, by omega⟩, _, i - 1, rfl, by omega, by omega, rfl, by rw [show i - 1 + 1 = i by omega]⟩
def A_X6_sharedAshBehind : List (Nat × Ctr) := [(4, rcv 6 4 C_X6_isSharedAsh)]
theorem e_X6_sharedAshBehind (o : OM) : Ev o Y_X6_sharedAshBehind 4 T_X6_sharedAshBehind A_X6_sharedAshBehind := ⟨rfl, List.forall_mem_cons.mpr ⟨Or.inl f_X6_19, fun _ h => absurd h List.not_mem_nil⟩, fun _ h => absurd h List.not_mem_nil, fun _ h => absurd h List.not_mem_nil, fun _ h => absurd h List.not_mem_nil, List.forall_mem_cons.mpr ⟨cl_X6_isSharedAsh (s_X6_isSharedAsh o) (by decide) (Or.inl w_1006), fun _ h => absurd h List.not_mem_nil⟩, fun _ h => absurd h List.not_mem_nil⟩
def C_X6_sharedAshBehind : Ctr := fun A σ κ => match A with
  | [.inr (.inr (.inl 1)), .inl p, .inl i, .inl q] => ((0 ≤ p ∧ p < 7) ∧ (0 ≤ i ∧ i < 16) ∧ (0 ≤ q ∧ q < 7) ∧ (0 ≤ σ 12 q ∧ σ 12 q ≤ 16) ∧ (i < σ 12 p ∧ σ 12 p ≤ 16)) ∧ κ [vI (ff (shP (σ 13) (σ 15) (σ 12) p q) (i + 1) (σ 12 p - (i + 1)).toNat)] σ
  | _ => False
set_option maxRecDepth 20000 in
theorem s_X6_sharedAshBehind (o : OM) : Sound o Y_X6_sharedAshBehind 4 C_X6_sharedAshBehind := by
  intro Q A σ hA hC
  match A, hA, hC with
  | [.inr (.inr (.inl 1)), .inl p, .inl i, .inl q], hA, hC =>
    obtain ⟨h0, hq⟩ : ((0 ≤ p ∧ p < 7) ∧ (0 ≤ i ∧ i < 16) ∧ (0 ≤ q ∧ q < 7) ∧ (0 ≤ σ 12 q ∧ σ 12 q ≤ 16) ∧ (i < σ 12 p ∧ σ 12 p ≤ 16)) ∧ Q [vI (ff (shP (σ 13) (σ 15) (σ 12) p q) (i + 1) (σ 12 p - (i + 1)).toNat)] σ := hC
    have hQ : ∀ r_ τ, r_ = (ff (shP (σ 13) (σ 15) (σ 12) p q) (i + 1) (σ 12 p - (i + 1)).toNat) → τ = (σ) → Q [vI r_] τ := fun r_ τ e e2 => e ▸ e2 ▸ hq
    obtain ⟨hp, hi, hq1, hn, hz⟩ := h0
    refine at_meth (lv := V_X6_sharedAshBehind) (B := B_X6_sharedAshBehind) (e_X6_sharedAshBehind o) k_X6_sharedAshBehind 4 [(5, fun m S L τ => ∃ j : Int, S = [] ∧ L = [vR 1, vI p, vI i, vI q, vI j] ∧ τ = σ ∧ 0 ≤ j ∧ j ≤ σ 12 p ∧ m = (σ 12 p - j).toNat ∧ ff (shP (σ 13) (σ 15) (σ 12) p q) (i + 1) (σ 12 p - (i + 1)).toNat = ff (shP (σ 13) (σ 15) (σ 12) p q) j (σ 12 p - j).toNat)] (List.forall_mem_cons.mpr ⟨?_, fun _ h => absurd h List.not_mem_nil⟩) 0 [] _ σ ?_
    · rintro m S L τ ⟨j, rfl, rfl, rfl, hj0, hj1, hm, he⟩
      simp only [sq_iconst, sq_jsr, sq_anewarray, sq_iload, sq_lload, sq_aload, sq_istore, sq_lstore, sq_astore, sq_iinc, sq_getfield, st_put0, st_put1, st_put3, sq_inv, sq_goto, sq_icmp, sq_ifc, sq_tsw, sq_iadd, sq_isub, sq_imul, sq_ineg, sq_idiv, sq_irem, sq_iand, sq_ior, sq_ixor, sq_ishl, sq_ishr, sq_iushr, sq_ladd, sq_lmul, sq_ldiv, sq_lrem, sq_land, sq_lor, sq_lshl, sq_lushr, sq_lcmp, sq_i2l, sq_l2i, sq_i2c, sq_i2b, sq_dupI, sq_dupR, sq_dup2, sq_pop, sq_iaload, sq_baload, sq_aaload, sq_iastore, sq_bastore, sq_alen, sq_ireturn, sq_lreturn, sq_return, wq_c, wq_n, wlq_s, lkp, tbl, dBk, nth, setL, canSet, cmpI, tk, swK, rdF, entL, catS, cat1, arg, rcv, ald, bld, aln, br, Ccopy, Cmax, Cmin, Cabs, List.take, List.drop, List.reverse, List.reverseAux, List.length, List.append, List.nil_append, List.cons_append, true_and, and_true, and_self, forall_const, true_implies, false_implies, not_true_eq_false, not_false_eq_true, Option.map, reduceCtorEq, reduceIte, or_true, true_or, false_or, or_false, false_and, and_false, List.map, List.append_nil, implies_true, yK, Nat.reduceBEq, beq_self_eq_true, Int.zero_ne_one, Nat.reduceDiv, Nat.reduceMod, Nat.reduceAdd, Nat.reduceSub, Nat.reduceMul, Nat.reduceEqDiff, Nat.reduceLeDiff, Int.reduceToNat, Int.reduceNeg, Int.reduceEq, Int.reduceLT, Int.reduceLE, Int.reduceNatCast, Int.reduceNatCast', Int.reduceAdd, Int.reduceSub, Int.reduceMul, eq_self, Prod.mk.injEq, A_X6_sharedAshBehind, V_X6_sharedAshBehind, B_X6_sharedAshBehind, Y_X6_sharedAshBehind, C_X6_isSharedAsh, shpT, rfsT, wjq_s, look]
      refine ⟨by omega, fun h1 => ?_, fun h1 => ⟨by omega, fun h2 => ?_, fun h2 => ?_⟩⟩
      · exact hQ _ _ (by rw [he, ff_e h1]) rfl
      · exact hQ _ _ (by rw [he, ff_s (by omega), h2]; rfl) rfl
      · refine ⟨⟨by omega, by omega⟩, _, ?_, j + 1, rfl, by omega, by omega, rfl, ?_⟩
        · omega
        · rw [he, ff_s (by omega), if_neg h2]
    · simp only [sq_iconst, sq_jsr, sq_anewarray, sq_iload, sq_lload, sq_aload, sq_istore, sq_lstore, sq_astore, sq_iinc, sq_getfield, st_put0, st_put1, st_put3, sq_inv, sq_goto, sq_icmp, sq_ifc, sq_tsw, sq_iadd, sq_isub, sq_imul, sq_ineg, sq_idiv, sq_irem, sq_iand, sq_ior, sq_ixor, sq_ishl, sq_ishr, sq_iushr, sq_ladd, sq_lmul, sq_ldiv, sq_lrem, sq_land, sq_lor, sq_lshl, sq_lushr, sq_lcmp, sq_i2l, sq_l2i, sq_i2c, sq_i2b, sq_dupI, sq_dupR, sq_dup2, sq_pop, sq_iaload, sq_baload, sq_aaload, sq_iastore, sq_bastore, sq_alen, sq_ireturn, sq_lreturn, sq_return, wq_c, wq_n, wlq_s, lkp, tbl, dBk, nth, setL, canSet, cmpI, tk, swK, rdF, entL, catS, cat1, arg, rcv, ald, bld, aln, br, Ccopy, Cmax, Cmin, Cabs, List.take, List.drop, List.reverse, List.reverseAux, List.length, List.append, List.nil_append, List.cons_append, true_and, and_true, and_self, forall_const, true_implies, false_implies, not_true_eq_false, not_false_eq_true, Option.map, reduceCtorEq, reduceIte, or_true, true_or, false_or, or_false, false_and, and_false, List.map, List.append_nil, implies_true, yK, Nat.reduceBEq, beq_self_eq_true, Int.zero_ne_one, Nat.reduceDiv, Nat.reduceMod, Nat.reduceAdd, Nat.reduceSub, Nat.reduceMul, Nat.reduceEqDiff, Nat.reduceLeDiff, Int.reduceToNat, Int.reduceNeg, Int.reduceEq, Int.reduceLT, Int.reduceLE, Int.reduceNatCast, Int.reduceNatCast', Int.reduceAdd, Int.reduceSub, Int.reduceMul, eq_self, Prod.mk.injEq, A_X6_sharedAshBehind, V_X6_sharedAshBehind, B_X6_sharedAshBehind, Y_X6_sharedAshBehind, C_X6_isSharedAsh, shpT, rfsT, wjq_s, look]
      exact ⟨⟨by omega, by omega⟩, _, i + 1, rfl, by omega, by omega, rfl, rfl⟩
def flP (kd : Int → Int) (p : Int) : Int → Bool := fun i => decide (kd (p * 16 + i) = 4)
def A_X6_hasFloodBetween : List (Nat × Ctr) := [(3, rcv 6 3 C_X6_kindOf)]
theorem e_X6_hasFloodBetween (o : OM) : Ev o Y_X6_hasFloodBetween 1 T_X6_hasFloodBetween A_X6_hasFloodBetween := ⟨rfl, fun _ h => absurd h List.not_mem_nil, fun _ h => absurd h List.not_mem_nil, fun _ h => absurd h List.not_mem_nil, fun _ h => absurd h List.not_mem_nil, List.forall_mem_cons.mpr ⟨cl_X6_kindOf (s_X6_kindOf o) (by decide) (Or.inl w_649), fun _ h => absurd h List.not_mem_nil⟩, fun _ h => absurd h List.not_mem_nil⟩
def C_X6_hasFloodBetween : Ctr := fun A σ κ => match A with
  | [.inr (.inr (.inl 1)), .inl p, .inl a, .inl b] => ((0 ≤ p ∧ p < 7) ∧ (0 ≤ a ∧ a < 16) ∧ (a < b ∧ b ≤ 16)) ∧ br (¬ ff (flP (σ 13) p) (a + 1) (b - (a + 1)).toNat = -1) κ σ
  | _ => False
set_option maxRecDepth 20000 in
theorem s_X6_hasFloodBetween (o : OM) : Sound o Y_X6_hasFloodBetween 1 C_X6_hasFloodBetween := by
  intro Q A σ hA hC
  match A, hA, hC with
  | [.inr (.inr (.inl 1)), .inl p, .inl a, .inl b], hA, hC =>
    obtain ⟨h0, hq⟩ : ((0 ≤ p ∧ p < 7) ∧ (0 ≤ a ∧ a < 16) ∧ (a < b ∧ b ≤ 16)) ∧ br (¬ ff (flP (σ 13) p) (a + 1) (b - (a + 1)).toNat = -1) Q σ := hC
    have hT : (¬ ff (flP (σ 13) p) (a + 1) (b - (a + 1)).toNat = -1) → ∀ r_, r_ = 1 → Q [vI r_] σ := fun c_ r_ e => e ▸ hq.1 c_
    have hF : ¬ (¬ ff (flP (σ 13) p) (a + 1) (b - (a + 1)).toNat = -1) → ∀ r_, r_ = 0 → Q [vI r_] σ := fun c_ r_ e => e ▸ hq.2 c_
    obtain ⟨hp, ha, hb⟩ := h0
    refine at_meth (lv := V_X6_hasFloodBetween) (B := B_X6_hasFloodBetween) (e_X6_hasFloodBetween o) k_X6_hasFloodBetween 4 [(5, fun m S L τ => ∃ j : Int, S = [] ∧ L = [vR 1, vI p, vI a, vI b, vI j] ∧ τ = σ ∧ 0 ≤ j ∧ j ≤ b ∧ m = (b - j).toNat ∧ ff (flP (σ 13) p) (a + 1) (b - (a + 1)).toNat = ff (flP (σ 13) p) j (b - j).toNat)] (List.forall_mem_cons.mpr ⟨?_, fun _ h => absurd h List.not_mem_nil⟩) 0 [] _ σ ?_
    · rintro m S L τ ⟨j, rfl, rfl, rfl, hj0, hj1, hm, he⟩
      simp only [sq_iconst, sq_jsr, sq_anewarray, sq_iload, sq_lload, sq_aload, sq_istore, sq_lstore, sq_astore, sq_iinc, sq_getfield, st_put0, st_put1, st_put3, sq_inv, sq_goto, sq_icmp, sq_ifc, sq_tsw, sq_iadd, sq_isub, sq_imul, sq_ineg, sq_idiv, sq_irem, sq_iand, sq_ior, sq_ixor, sq_ishl, sq_ishr, sq_iushr, sq_ladd, sq_lmul, sq_ldiv, sq_lrem, sq_land, sq_lor, sq_lshl, sq_lushr, sq_lcmp, sq_i2l, sq_l2i, sq_i2c, sq_i2b, sq_dupI, sq_dupR, sq_dup2, sq_pop, sq_iaload, sq_baload, sq_aaload, sq_iastore, sq_bastore, sq_alen, sq_ireturn, sq_lreturn, sq_return, wq_c, wq_n, wlq_s, lkp, tbl, dBk, nth, setL, canSet, cmpI, tk, swK, rdF, entL, catS, cat1, arg, rcv, ald, bld, aln, br, Ccopy, Cmax, Cmin, Cabs, List.take, List.drop, List.reverse, List.reverseAux, List.length, List.append, List.nil_append, List.cons_append, true_and, and_true, and_self, forall_const, true_implies, false_implies, not_true_eq_false, not_false_eq_true, Option.map, reduceCtorEq, reduceIte, or_true, true_or, false_or, or_false, false_and, and_false, List.map, List.append_nil, implies_true, yK, Nat.reduceBEq, beq_self_eq_true, Int.zero_ne_one, Nat.reduceDiv, Nat.reduceMod, Nat.reduceAdd, Nat.reduceSub, Nat.reduceMul, Nat.reduceEqDiff, Nat.reduceLeDiff, Int.reduceToNat, Int.reduceNeg, Int.reduceEq, Int.reduceLT, Int.reduceLE, Int.reduceNatCast, Int.reduceNatCast', Int.reduceAdd, Int.reduceSub, Int.reduceMul, eq_self, Prod.mk.injEq, A_X6_hasFloodBetween, V_X6_hasFloodBetween, B_X6_hasFloodBetween, Y_X6_hasFloodBetween, C_X6_kindOf, shpT, rfsT, wjq_s, look]
      refine ⟨fun h1 => ?_, fun h1 => ⟨by omega, fun h2 => ?_, fun h2 => ?_⟩⟩
      · exact hF (by rw [he, ff_e h1]; simp) _ rfl
      · refine ⟨⟨by omega, by omega⟩, _, ?_, j + 1, rfl, by omega, by omega, rfl, ?_⟩
        · omega
        · rw [he, ff_s (by omega), show flP (τ 13) p j = false by simp [flP, h2]]; rfl
      · exact hT (by rw [he, ff_s (by omega), show flP (τ 13) p j = true by simp only [flP, decide_eq_true_eq]; omega]; simp; omega) _ rfl
    · simp only [sq_iconst, sq_jsr, sq_anewarray, sq_iload, sq_lload, sq_aload, sq_istore, sq_lstore, sq_astore, sq_iinc, sq_getfield, st_put0, st_put1, st_put3, sq_inv, sq_goto, sq_icmp, sq_ifc, sq_tsw, sq_iadd, sq_isub, sq_imul, sq_ineg, sq_idiv, sq_irem, sq_iand, sq_ior, sq_ixor, sq_ishl, sq_ishr, sq_iushr, sq_ladd, sq_lmul, sq_ldiv, sq_lrem, sq_land, sq_lor, sq_lshl, sq_lushr, sq_lcmp, sq_i2l, sq_l2i, sq_i2c, sq_i2b, sq_dupI, sq_dupR, sq_dup2, sq_pop, sq_iaload, sq_baload, sq_aaload, sq_iastore, sq_bastore, sq_alen, sq_ireturn, sq_lreturn, sq_return, wq_c, wq_n, wlq_s, lkp, tbl, dBk, nth, setL, canSet, cmpI, tk, swK, rdF, entL, catS, cat1, arg, rcv, ald, bld, aln, br, Ccopy, Cmax, Cmin, Cabs, List.take, List.drop, List.reverse, List.reverseAux, List.length, List.append, List.nil_append, List.cons_append, true_and, and_true, and_self, forall_const, true_implies, false_implies, not_true_eq_false, not_false_eq_true, Option.map, reduceCtorEq, reduceIte, or_true, true_or, false_or, or_false, false_and, and_false, List.map, List.append_nil, implies_true, yK, Nat.reduceBEq, beq_self_eq_true, Int.zero_ne_one, Nat.reduceDiv, Nat.reduceMod, Nat.reduceAdd, Nat.reduceSub, Nat.reduceMul, Nat.reduceEqDiff, Nat.reduceLeDiff, Int.reduceToNat, Int.reduceNeg, Int.reduceEq, Int.reduceLT, Int.reduceLE, Int.reduceNatCast, Int.reduceNatCast', Int.reduceAdd, Int.reduceSub, Int.reduceMul, eq_self, Prod.mk.injEq, A_X6_hasFloodBetween, V_X6_hasFloodBetween, B_X6_hasFloodBetween, Y_X6_hasFloodBetween, C_X6_kindOf, shpT, rfsT, wjq_s, look]
      exact ⟨⟨by omega, by omega⟩, _, a + 1, rfl, by omega, by omega, rfl, rfl⟩
def A_X6_leavesOfAll : List (Nat × Ctr) := []
theorem e_X6_leavesOfAll (o : OM) : Ev o Y_X6_leavesOfAll 0 T_X6_leavesOfAll A_X6_leavesOfAll := ⟨rfl, List.forall_mem_cons.mpr ⟨Or.inl f_X6_9, List.forall_mem_cons.mpr ⟨Or.inl f_X6_19, fun _ h => absurd h List.not_mem_nil⟩⟩, fun _ h => absurd h List.not_mem_nil, fun _ h => absurd h List.not_mem_nil, fun _ h => absurd h List.not_mem_nil, fun _ h => absurd h List.not_mem_nil, fun _ h => absurd h List.not_mem_nil⟩
def C_X6_leavesOfAll : Ctr := fun A σ κ => match A with
  | [.inr (.inr (.inl 1))] => ((0 ≤ σ 1 0 ∧ σ 1 0 ≤ 7) ∧ (∀ p, 0 ≤ p → p < 7 → 0 ≤ σ 12 p ∧ σ 12 p ≤ 16)) ∧ κ [vI (sumI (σ 12) (σ 1 0))] σ
  | _ => False
set_option maxRecDepth 20000 in
theorem s_X6_leavesOfAll (o : OM) : Sound o Y_X6_leavesOfAll 0 C_X6_leavesOfAll := by
  intro Q A σ hA hC
  match A, hA, hC with
  | [.inr (.inr (.inl 1))], hA, hC =>
    obtain ⟨h0, hq⟩ : ((0 ≤ σ 1 0 ∧ σ 1 0 ≤ 7) ∧ (∀ p, 0 ≤ p → p < 7 → 0 ≤ σ 12 p ∧ σ 12 p ≤ 16)) ∧ Q [vI (sumI (σ 12) (σ 1 0))] σ := hC
    have hQ : ∀ r_ τ, r_ = (sumI (σ 12) (σ 1 0)) → τ = (σ) → Q [vI r_] τ := fun r_ τ e e2 => e ▸ e2 ▸ hq
    obtain ⟨hz, hs⟩ := h0
    refine at_meth (lv := V_X6_leavesOfAll) (B := B_X6_leavesOfAll) (e_X6_leavesOfAll o) k_X6_leavesOfAll 3 [(4, fun m S L τ => ∃ j : Int, S = [] ∧ L = [vR 1, vI (sumI (σ 12) j), vI j] ∧ τ = σ ∧ 0 ≤ j ∧ j ≤ σ 1 0 ∧ m = (σ 1 0 - j).toNat)] (List.forall_mem_cons.mpr ⟨?_, fun _ h => absurd h List.not_mem_nil⟩) 0 [] _ σ ?_
    · rintro m S L τ ⟨j, rfl, rfl, rfl, hj0, hj1, hm⟩
      simp only [sq_iconst, sq_jsr, sq_anewarray, sq_iload, sq_lload, sq_aload, sq_istore, sq_lstore, sq_astore, sq_iinc, sq_getfield, st_put0, st_put1, st_put3, sq_inv, sq_goto, sq_icmp, sq_ifc, sq_tsw, sq_iadd, sq_isub, sq_imul, sq_ineg, sq_idiv, sq_irem, sq_iand, sq_ior, sq_ixor, sq_ishl, sq_ishr, sq_iushr, sq_ladd, sq_lmul, sq_ldiv, sq_lrem, sq_land, sq_lor, sq_lshl, sq_lushr, sq_lcmp, sq_i2l, sq_l2i, sq_i2c, sq_i2b, sq_dupI, sq_dupR, sq_dup2, sq_pop, sq_iaload, sq_baload, sq_aaload, sq_iastore, sq_bastore, sq_alen, sq_ireturn, sq_lreturn, sq_return, wq_c, wq_n, wlq_s, lkp, tbl, dBk, nth, setL, canSet, cmpI, tk, swK, rdF, entL, catS, cat1, arg, rcv, ald, bld, aln, br, Ccopy, Cmax, Cmin, Cabs, List.take, List.drop, List.reverse, List.reverseAux, List.length, List.append, List.nil_append, List.cons_append, true_and, and_true, and_self, forall_const, true_implies, false_implies, not_true_eq_false, not_false_eq_true, Option.map, reduceCtorEq, reduceIte, or_true, true_or, false_or, or_false, false_and, and_false, List.map, List.append_nil, implies_true, yK, Nat.reduceBEq, beq_self_eq_true, Int.zero_ne_one, Nat.reduceDiv, Nat.reduceMod, Nat.reduceAdd, Nat.reduceSub, Nat.reduceMul, Nat.reduceEqDiff, Nat.reduceLeDiff, Int.reduceToNat, Int.reduceNeg, Int.reduceEq, Int.reduceLT, Int.reduceLE, Int.reduceNatCast, Int.reduceNatCast', Int.reduceAdd, Int.reduceSub, Int.reduceMul, eq_self, Prod.mk.injEq, A_X6_leavesOfAll, V_X6_leavesOfAll, B_X6_leavesOfAll, Y_X6_leavesOfAll, shpT, rfsT, wjq_s, look]
      have hle := sumI_le (f := τ 12) (lo := 0) (hi := 16) hj0 (fun q h1 h2 => hs q h1 (by omega))
      refine ⟨fun h1 => ?_, fun h1 => ?_⟩
      · have : j = τ 1 0 := by omega
        exact hQ _ _ (by rw [this]) rfl
      · have h2 := hs j hj0 (by omega)
        refine ⟨by omega, ⟨by omega, by omega⟩, ⟨by omega, by omega⟩, _, ?_, j + 1, by rw [sumI_s _ hj0], by omega, by omega, rfl⟩
        omega
    · simp only [sq_iconst, sq_jsr, sq_anewarray, sq_iload, sq_lload, sq_aload, sq_istore, sq_lstore, sq_astore, sq_iinc, sq_getfield, st_put0, st_put1, st_put3, sq_inv, sq_goto, sq_icmp, sq_ifc, sq_tsw, sq_iadd, sq_isub, sq_imul, sq_ineg, sq_idiv, sq_irem, sq_iand, sq_ior, sq_ixor, sq_ishl, sq_ishr, sq_iushr, sq_ladd, sq_lmul, sq_ldiv, sq_lrem, sq_land, sq_lor, sq_lshl, sq_lushr, sq_lcmp, sq_i2l, sq_l2i, sq_i2c, sq_i2b, sq_dupI, sq_dupR, sq_dup2, sq_pop, sq_iaload, sq_baload, sq_aaload, sq_iastore, sq_bastore, sq_alen, sq_ireturn, sq_lreturn, sq_return, wq_c, wq_n, wlq_s, lkp, tbl, dBk, nth, setL, canSet, cmpI, tk, swK, rdF, entL, catS, cat1, arg, rcv, ald, bld, aln, br, Ccopy, Cmax, Cmin, Cabs, List.take, List.drop, List.reverse, List.reverseAux, List.length, List.append, List.nil_append, List.cons_append, true_and, and_true, and_self, forall_const, true_implies, false_implies, not_true_eq_false, not_false_eq_true, Option.map, reduceCtorEq, reduceIte, or_true, true_or, false_or, or_false, false_and, and_false, List.map, List.append_nil, implies_true, yK, Nat.reduceBEq, beq_self_eq_true, Int.zero_ne_one, Nat.reduceDiv, Nat.reduceMod, Nat.reduceAdd, Nat.reduceSub, Nat.reduceMul, Nat.reduceEqDiff, Nat.reduceLeDiff, Int.reduceToNat, Int.reduceNeg, Int.reduceEq, Int.reduceLT, Int.reduceLE, Int.reduceNatCast, Int.reduceNatCast', Int.reduceAdd, Int.reduceSub, Int.reduceMul, eq_self, Prod.mk.injEq, A_X6_leavesOfAll, V_X6_leavesOfAll, B_X6_leavesOfAll, Y_X6_leavesOfAll, shpT, rfsT, wjq_s, look]
      exact ⟨_, 0, rfl, by omega, by omega, rfl⟩

