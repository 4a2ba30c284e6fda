-- ===== arraycopy, static rows, texts; a method without loops is its own contract =====
/-- a stretch of one row into another -/
def cpS (σ : Sto) (a : Nat) (sp : Int) (b : Nat) (dp n : Int) : Sto := fun q => if q = b then (fun j => if dp ≤ j ∧ j < dp + n then σ a (sp + (j - dp)) else σ b j) else σ q
def Ccopy : Ctr := fun A σ k => match A with
  | [.inr (.inr (.inl a)), .inl sp, .inr (.inr (.inl b)), .inl dp, .inl n] => (shp a).1 = 0 ∧ (shp b).1 = 0 ∧ 0 ≤ sp ∧ 0 ≤ dp ∧ 0 ≤ n ∧ sp + n ≤ ((shp a).2 : Int) ∧ dp + n ≤ ((shp b).2 : Int) ∧ k [] (cpS σ a sp b dp n)
  | _ => False
theorem cpS_ne {σ : Sto} {a b : Nat} {sp dp n : Int} : ∀ k, k ≠ b → cpS σ a sp b dp n k = σ k := fun k hk => by unfold cpS; rw [if_neg hk]
theorem cpS_eq {σ : Sto} {a b : Nat} {sp dp n : Int} : cpS σ a sp b dp n b = fun j => if dp ≤ j ∧ j < dp + n then σ a (sp + (j - dp)) else σ b j := by unfold cpS; rw [if_pos rfl]
theorem copy_ok {o : OM} {Y : Pk} {d idx : Nat} (hl : Cond.methodLink (yN Y).cls idx arraycopyName ∈ wsG) (h1 : Cond.native arraycopyName ∈ wsG) (h2 : Cond.static arraycopyName ∈ wsG) (h3 : Cond.initialized "java/lang/System" ∈ wsG) : CallOK o Y d (.invokestatic idx) (5, Ccopy) := by
  intro Q p e R s m args below meth c cells slots Z C0 H locs ls pc A rest σ k hdec hH hS hls hA hrest hAn hcat hC kk
  obtain ⟨hx, hb, hml, hown, hts, hst, ⟨hR1, hR2, hR3, hR4⟩, hret⟩ := id C0
  match A, hA, hC with
  | [.inr (.inr (.inl a)), .inl sp, .inr (.inr (.inl b)), .inl dp, .inl n], hA, hC =>
    obtain ⟨ka, kb, s0, d0, n0, l1, l2, hk⟩ : (shp a).1 = 0 ∧ (shp b).1 = 0 ∧ 0 ≤ sp ∧ 0 ≤ dp ∧ 0 ≤ n ∧ sp + n ≤ ((shp a).2 : Int) ∧ dp + n ≤ ((shp b).2 : Int) ∧ k [] (cpS σ a sp b dp n) := hC
    have hsp : i32 sp := hA (vI sp) (by simp)
    have hdp : i32 dp := hA (vI dp) (by simp)
    have hnn : i32 n := hA (vI n) (by simp)
    have ha := wsO_get o σ (shp_012 a (by omega))
    have hbN := shp_012 b (by omega)
    have hb' := wsO_get o σ hbN
    rw [cel_0 ka] at ha
    rw [cel_0 kb] at hb'
    have e0 : ∀ x : Int, i32 x → 0 ≤ x → ¬ Int32.ofInt x < 0 := fun x h1 h2 z => by have := (i32_lt h1 i32_0).mp z; omega
    have hnw : nativeFrameWords "java/lang/System" "arraycopy" 5 ≤ 60 := by decide +kernel
    have hloc : ((rest.map (cv o)).map fun v => v.category).sum + (nativeFrameWords "java/lang/System" "arraycopy" 5 + 11) ≤ R.locals := by
      have h1 := cat_sum o rest
      have h2 : 100 * (d + 1) ≤ R.locals := hR2
      omega
    refine va_copyi (ty := .int) hx hb (by rw [hml, hls]) hown (hts _ hl) (hts _ h1) (hts _ h2) (hts _ h3) hst.1 hH.1.1 (wsO_D o σ hst.2.2.1) hS a b 0 0 ha hb' rfl rfl rfl (e0 sp hsp s0) (e0 dp hdp d0) (e0 n hnn n0) (by rw [clampI hsp s0, clampI hnn n0]; omega) (by rw [clampI hdp d0, clampI hnn n0]; omega) (fun _ _ => rfl) (Nat.le_trans (show 1 ≤ d + 1 by omega) hR1) hloc hdec ?_
    intro H1 locs1 hP1 hD1 hS1
    have he : va_cpy (fun j : Nat => Int32.ofInt (σ a (j : Int))) (fun j : Nat => Int32.ofInt (σ b (j : Int))) (Int32.ofInt sp).toNatClampNeg (Int32.ofInt dp).toNatClampNeg (Int32.ofInt n).toNatClampNeg = fun j : Nat => Int32.ofInt (cpS σ a sp b dp n b (j : Int)) := by
      funext j
      rw [clampI hsp s0, clampI hdp d0, clampI hnn n0, cpS_eq]
      unfold va_cpy
      by_cases h : dp.toNat ≤ j ∧ j < dp.toNat + n.toNat
      · have h' : dp ≤ (j : Int) ∧ (j : Int) < dp + n := by omega
        rw [if_pos h]
        show _ = Int32.ofInt (if dp ≤ (j : Int) ∧ (j : Int) < dp + n then _ else _)
        rw [if_pos h']
        show Int32.ofInt (σ a ((sp.toNat + (j - dp.toNat) : Nat) : Int)) = _
        rw [show ((sp.toNat + (j - dp.toNat) : Nat) : Int) = sp + ((j : Int) - dp) by omega]
      · have h' : ¬ (dp ≤ (j : Int) ∧ (j : Int) < dp + n) := by omega
        rw [if_neg h]
        show _ = Int32.ofInt (if dp ≤ (j : Int) ∧ (j : Int) < dp + n then _ else _)
        rw [if_neg h']
    rw [he, ← cel_0 kb, wsO_set o σ _ hbN cpS_ne] at hP1
    refine kk [] _ H1 locs1 hk (fun v hv => by cases hv) ⟨⟨hP1, ?_⟩, ?_⟩ hS1
    · intro q j
      by_cases hq : q = b
      · subst hq
        rw [cpS_eq]
        refine ⟨fun z => absurd z (lng_not (by omega)), fun _ => ?_⟩
        show i32 (if _ then _ else _)
        split
        · exact okS_at hH.1.2 (by omega)
        · exact okS_at hH.1.2 (by omega)
      · rw [cpS_ne q hq]
        exact hH.1.2 q j
    · have hne : ∀ k, NP ≤ k → cpS σ a sp b dp n k = σ k := fun k hk => cpS_ne k (by omega)
      unfold scr
      rw [hne 102 (by decide), hne 103 (by decide), hne 104 (by decide)]
      exact hH.2
theorem ref_st {o : OM} {Y : Pk} {d i q : Nat} {C f : String} (hl : Cond.fieldLink (yN Y).cls i C f "[I" ∈ wsG) (h9 : ¬ q = 999) (h3 : ¬ (q = 103 ∨ q = 104)) (hz : ∀ s, Std o s → va_Z C f "[I" (.ref (oA o q)) (aA o) s s.heap) : RefOK o Y d i q := by
  intro op n hop Q p e R s m args below meth c cells slots Z C0 H locs ls pc rest hS hdec hk
  obtain ⟨hx, hb, hml, hown, hts, hst, hR, hret⟩ := id C0
  rcases hop with ⟨rfl, rfl, -⟩ | ⟨rfl, rfl, h⟩
  · rw [rfv_ne h9] at hk
    exact va_gets hx hb (hz s hst) hS hown (hts _ hl) (fun x h => h) hdec hk
  · exact absurd h h3
theorem ref_co {o : OM} {Y : Pk} {d i : Nat} (hl : Cond.fieldLink (yN Y).cls i "java/lang/String" "COMPACT_STRINGS" "Z" ∈ wsG) : RefOK o Y d i 999 := by
  intro op n hop Q p e R s m args below meth c cells slots Z C0 H locs ls pc rest hS hdec hk
  obtain ⟨hx, hb, hml, hown, hts, hst, hR, hret⟩ := id C0
  rcases hop with ⟨rfl, rfl, -⟩ | ⟨rfl, rfl, h⟩
  · exact va_gets hx hb hst.2.2.2.2.2.2.2.2.2 hS hown (hts _ hl) (fun x h => h) hdec hk
  · exact absurd h (by decide)
theorem ref_tx {o : OM} {Y : Pk} {d i q : Nat} {tx : String} (h3 : q = 103 ∨ q = 104) (hz : ∀ s, Std o s → vk_R (yN Y).cls i tx (oA o q) s) : RefOK o Y d i q := by
  intro op n hop Q p e R s m args below meth c cells slots Z C0 H locs ls pc rest hS hdec hk
  obtain ⟨hx, hb, hml, hown, hts, hst, hR, hret⟩ := id C0
  rcases hop with ⟨rfl, rfl, h⟩ | ⟨rfl, rfl, -⟩
  · exact absurd h3 h
  · rw [rfv_ne (by omega)] at hk
    exact va_ldcS hx hb hown (hz s hst) hdec hk
/-- a method's blocks: a label's instructions, and the label that comes next -/
abbrev Bk : Type := List (Nat × List Instr × Nat)
def dBk : List Instr × Nat := ([.athrow], 0)
/-- the demand of a label, forward jumps followed, n jumps at most -/
def wpl (ca : List (Nat × Ctr)) (lv : List (Nat × Nat)) (rt : Nat) (B : Bk) (Q : List AV → Sto → Prop) : Nat → Nat → List AV → List AV → Sto → Prop
  | 0, _, _, _, _ => False
  | n + 1, t, S, L, σ => wp ca lv rt (wpl ca lv rt B Q n) Q (lkp dBk B t).2 (lkp dBk B t).1 S L σ
def chkB (T : Tb) (cc : ByteArray) (B : Bk) : Bool := B.all (fun b => chk T cc b.2.2 b.2.1 b.1)
theorem lkp_mem {α : Type} {d : α} : ∀ {B : List (Nat × α)} {t : Nat}, (t, lkp d B t) ∈ B ∨ lkp d B t = d
  | [], t => Or.inr rfl
  | (a, b) :: B, t => by
    unfold lkp
    by_cases h : a = t
    · rw [if_pos h]
      subst h
      exact Or.inl List.mem_cons_self
    · rw [if_neg h]
      rcases lkp_mem (d := d) (B := B) (t := t) with h | h
      · exact Or.inl (List.mem_cons_of_mem _ h)
      · exact Or.inr h
theorem chkB_at {T : Tb} {cc : ByteArray} {B : Bk} (h : chkB T cc B = true) {t : Nat} {b : List Instr × Nat} (hm : (t, b) ∈ B) : chk T cc b.2 b.1 t = true := List.all_eq_true.mp h (t, b) hm
/-- a label's demand, where the label is one of the blocks -/
theorem at_blk {o : OM} {Y : Pk} {d : Nat} {Q : List AV → Sto → Prop} {T : Tb} {ca : List (Nat × Ctr)} {lv : List (Nat × Nat)} {B : Bk} (hEv : Ev o Y d T ca) (hB : chkB T (yB Y) B = true) {K : Nat → List AV → List AV → Sto → Prop} (hK : ∀ t S L σ, K t S L σ → At o Y d Q t S L σ)
    {t : Nat} {S L : List AV} {σ : Sto} (hm : (t, lkp dBk B t) ∈ B) (h : wp ca lv (yK Y) K Q (lkp dBk B t).2 (lkp dBk B t).1 S L σ) : At o Y d Q t S L σ := at_wp hEv hK _ t S L σ (chkB_at hB hm) h
theorem at_wpl {o : OM} {Y : Pk} {d : Nat} {Q : List AV → Sto → Prop} {T : Tb} {ca : List (Nat × Ctr)} {lv : List (Nat × Nat)} {B : Bk} (hEv : Ev o Y d T ca) (hB : chkB T (yB Y) B = true) :
    ∀ (n t : Nat) (S L : List AV) (σ : Sto), wpl ca lv (yK Y) B Q n t S L σ → At o Y d Q t S L σ
  | 0, _, _, _, _, h => h.elim
  | n + 1, t, S, L, σ, h => by
    have h : wp ca lv (yK Y) (wpl ca lv (yK Y) B Q n) Q (lkp dBk B t).2 (lkp dBk B t).1 S L σ := h
    rcases lkp_mem (d := dBk) (B := B) (t := t) with hm | hm
    · exact at_blk hEv hB (fun t S L σ => at_wpl hEv hB n t S L σ) hm h
    · rw [hm] at h
      exact False.elim h
-- Math
def iabs (a : Int) : Int := if 0 ≤ a then a else -a
def Cmax : Ctr := fun A σ k => match A with
  | [.inl a, .inl b] => k [vI (max a b)] σ
  | _ => False
def Cmin : Ctr := fun A σ k => match A with
  | [.inl a, .inl b] => k [vI (min a b)] σ
  | _ => False
def Cabs : Ctr := fun A σ k => match A with
  | [.inl a] => i32 (-a) ∧ k [vI (iabs a)] σ
  | _ => False
theorem max_ok {o : OM} {Y : Pk} {d idx : Nat} (hl : Cond.methodLink (yN Y).cls idx Lib.Math.max.name ∈ wsG) (h1 : Cond.static Lib.Math.max.name ∈ wsG) (h2 : Cond.initialized "java/lang/Math" ∈ wsG) (h3 : Cond.code Lib.Math.max.name Lib.Math.max.code 2 (some .int) ∈ wsG) : CallOK o Y d (.invokestatic idx) (2, Cmax) := by
  intro Q p e R s m args below meth c cells slots Z C0 H locs ls pc A rest σ k hdec hH hS hls hA hrest hAn hcat hC kk
  obtain ⟨hx, hb, hml, hown, hts, hst, ⟨hR1, hR2, hR3, hR4⟩, hret⟩ := id C0
  match A, hA, hC with
  | [.inl a, .inl b], hA, hC =>
    have ha : i32 a := hA (vI a) (by simp)
    have hb2 : i32 b := hA (vI b) (by simp)
    have hloc : ((rest.map (cv o)).map fun v => v.category).sum + 13 ≤ R.locals := by
      have h1 := cat_sum o rest
      have h2 : 100 * (d + 1) ≤ R.locals := hR2
      omega
    refine va_mmax hx hb (by rw [hml, hls]) hown (hts _ hl) (hts _ h1) (hts _ h2) (hts _ h3) (Nat.le_trans (show 1 ≤ d + 1 by omega) hR1) hloc hR3 hR4 hdec ?_
    have hv : (if Int32.ofInt a < Int32.ofInt b then Int32.ofInt b else Int32.ofInt a) = Int32.ofInt (max a b) := by
      by_cases h : a < b
      · rw [if_pos ((i32_lt ha hb2).mpr h), Int.max_eq_right (by omega)]
      · rw [if_neg (fun z => h ((i32_lt ha hb2).mp z)), Int.max_eq_left (by omega)]
    rw [hv]
    exact kk [vI (max a b)] σ H locs hC (fun v hv => by rw [List.mem_singleton.mp hv]; show i32 _; unfold i32 at *; omega) hH hS
theorem min_ok {o : OM} {Y : Pk} {d idx : Nat} (hl : Cond.methodLink (yN Y).cls idx Lib.Math.min.name ∈ wsG) (h1 : Cond.static Lib.Math.min.name ∈ wsG) (h2 : Cond.initialized "java/lang/Math" ∈ wsG) (h3 : Cond.code Lib.Math.min.name Lib.Math.min.code 2 (some .int) ∈ wsG) : CallOK o Y d (.invokestatic idx) (2, Cmin) := by
  intro Q p e R s m args below meth c cells slots Z C0 H locs ls pc A rest σ k hdec hH hS hls hA hrest hAn hcat hC kk
  obtain ⟨hx, hb, hml, hown, hts, hst, ⟨hR1, hR2, hR3, hR4⟩, hret⟩ := id C0
  match A, hA, hC with
  | [.inl a, .inl b], hA, hC =>
    have ha : i32 a := hA (vI a) (by simp)
    have hb2 : i32 b := hA (vI b) (by simp)
    have hloc : ((rest.map (cv o)).map fun v => v.category).sum + 13 ≤ R.locals := by
      have h1 := cat_sum o rest
      have h2 : 100 * (d + 1) ≤ R.locals := hR2
      omega
    refine va_mmin hx hb (by rw [hml, hls]) hown (hts _ hl) (hts _ h1) (hts _ h2) (hts _ h3) (Nat.le_trans (show 1 ≤ d + 1 by omega) hR1) hloc hR3 hR4 hdec ?_
    have hv : (if Int32.ofInt b < Int32.ofInt a then Int32.ofInt b else Int32.ofInt a) = Int32.ofInt (min a b) := by
      by_cases h : b < a
      · rw [if_pos ((i32_lt hb2 ha).mpr h), Int.min_eq_right (by omega)]
      · rw [if_neg (fun z => h ((i32_lt hb2 ha).mp z)), Int.min_eq_left (by omega)]
    rw [hv]
    exact kk [vI (min a b)] σ H locs hC (fun v hv => by rw [List.mem_singleton.mp hv]; show i32 _; unfold i32 at *; omega) hH hS
theorem abs_ok {o : OM} {Y : Pk} {d idx : Nat} (hl : Cond.methodLink (yN Y).cls idx Lib.Math.abs.name ∈ wsG) (h1 : Cond.static Lib.Math.abs.name ∈ wsG) (h2 : Cond.initialized "java/lang/Math" ∈ wsG) (h3 : Cond.code Lib.Math.abs.name Lib.Math.abs.code 1 (some .int) ∈ wsG) : CallOK o Y d (.invokestatic idx) (1, Cabs) := by
  intro Q p e R s m args below meth c cells slots Z C0 H locs ls pc A rest σ k hdec hH hS hls hA hrest hAn hcat hC kk
  obtain ⟨hx, hb, hml, hown, hts, hst, ⟨hR1, hR2, hR3, hR4⟩, hret⟩ := id C0
  match A, hA, hC with
  | [.inl a], hA, hC =>
    obtain ⟨hn, hC⟩ : i32 (-a) ∧ k [vI (iabs a)] σ := hC
    have ha : i32 a := hA (vI a) (by simp)
    have hloc : ((rest.map (cv o)).map fun v => v.category).sum + 13 ≤ R.locals := by
      have h1 := cat_sum o rest
      have h2 : 100 * (d + 1) ≤ R.locals := hR2
      omega
    refine va_mabs hx hb (by rw [hml, hls]) hown (hts _ hl) (hts _ h1) (hts _ h2) (hts _ h3) (Nat.le_trans (show 1 ≤ d + 1 by omega) hR1) hloc hR3 hR4 hdec ?_
    have hv : (if 0 ≤ Int32.ofInt a then Int32.ofInt a else 0 - Int32.ofInt a) = Int32.ofInt (iabs a) := by
      unfold iabs
      rw [show (0 : Int32) = Int32.ofInt 0 from rfl]
      by_cases h : 0 ≤ a
      · rw [if_pos h, if_pos ((i32_le i32_0 ha).mpr h)]
      · rw [if_neg h, if_neg (fun z => h ((i32_le i32_0 ha).mp z)), ← Int32.ofInt_sub, Int.zero_sub]
    rw [hv]
    exact kk [vI (iabs a)] σ H locs hC (fun v hv => by rw [List.mem_singleton.mp hv]; show i32 _; unfold iabs; split; exact ha; exact hn) hH hS
