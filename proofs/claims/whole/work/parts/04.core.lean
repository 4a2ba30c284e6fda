-- ===== the world of the places, what a block asks (wp), and that the machine does it =====
abbrev OM : Type := Launch × va_G × (Nat → Nat) × (Nat → ClassId) × Nat × (Nat → Int32)
abbrev oL (o : OM) : Launch := o.1
abbrev oD (o : OM) : va_G := o.2.1
abbrev oA (o : OM) : Nat → Nat := o.2.2.1
abbrev oC (o : OM) : Nat → ClassId := o.2.2.2.1
abbrev oN (o : OM) : Nat := o.2.2.2.2.1
abbrev oX (o : OM) : Nat → Int32 := o.2.2.2.2.2
def cv (o : OM) : AV → Value
  | .inl n => .int (Int32.ofInt n)
  | .inr (.inl n) => .long (Int64.ofInt n)
  | .inr (.inr (.inl q)) => .ref (oA o q)
  | .inr (.inr (.inr ())) => .null
def cvL (o : OM) : Nat → List AV → List (Nat × Value)
  | _, [] => []
  | i, .inr (.inr (.inr ())) :: t => cvL o (i + 1) t
  | i, a :: t => (i, cv o a) :: cvL o (i + 1) t
def okv : AV → Prop
  | .inl n => i32 n
  | .inr (.inl n) => i64 n
  | _ => True
def okL (L : List AV) : Prop := ∀ v ∈ L, okv v
def lng (q : Nat) (j : Int) : Prop := (shp q).1 = 3 ∧ ftg (shp q).2 j.toNat = 1
def okS (σ : Sto) : Prop := ∀ q j, (lng q j → i64 (σ q j)) ∧ (¬ lng q j → i32 (σ q j))
def fld (o : OM) (σ : Sto) (k j : Nat) : Value := match ftg (shp k).2 j with
  | 1 => .long (Int64.ofInt (σ k j))
  | 2 => .ref (oA o (rfs k j))
  | _ => .int (Int32.ofInt (σ k j))
def cel (o : OM) (σ : Sto) (k : Nat) : va_E := match (shp k).1 with
  | 0 => .inl (oC o 0, (shp k).2, .inl (fun j => Int32.ofInt (σ k j)))
  | 1 => .inl (oC o 1, (shp k).2, .inl (fun j => Int32.ofInt (σ k j)))
  | 2 => .inl (oC o 2, (shp k).2, .inr (.inr (.inr (.inr (fun j => some (oA o (rfs k j)))))))
  | _ => .inr ((shp k).2, (List.range (nfl (shp k).2)).map (fld o σ k))
def wsO (o : OM) (σ : Sto) : va_W := (List.range NP).map (fun k => (oA o k, cel o σ k))
def aA (o : OM) : Nat → Prop := fun q => ∃ k, k < NP ∧ q = oA o k
def tyO (o : OM) : List (ClassId × FieldType) := [(oC o 0, .int), (oC o 1, .boolean), (oC o 2, .array .int)]
def inj (o : OM) : Prop := ∀ i j, i < NP → j < NP → oA o i = oA o j → i = j
theorem wsO_get (o : OM) (σ : Sto) {k : Nat} (h : k < NP) : (wsO o σ)[k]? = some (oA o k, cel o σ k) := by
  unfold wsO
  rw [List.getElem?_map, List.getElem?_range h]
  rfl
theorem wsO_inv {o : OM} {σ : Sto} {k : Nat} {q : Nat × va_E} (h : (wsO o σ)[k]? = some q) : k < NP ∧ q = (oA o k, cel o σ k) := by
  unfold wsO at h
  rw [List.getElem?_map] at h
  by_cases hk : k < NP
  · rw [List.getElem?_range hk] at h
    cases h
    exact ⟨hk, rfl⟩
  · rw [List.getElem?_eq_none (by rw [List.length_range]; omega)] at h
    cases h
theorem wsO_D (o : OM) (σ : Sto) (hi : inj o) : va_D (aA o) (wsO o σ) := by
  refine ⟨fun i j p q h1 h2 he => ?_, fun k q h => ?_⟩
  · obtain ⟨a1, rfl⟩ := wsO_inv h1
    obtain ⟨a2, rfl⟩ := wsO_inv h2
    exact hi i j a1 a2 he
  · obtain ⟨a1, rfl⟩ := wsO_inv h
    exact ⟨k, a1, rfl⟩
theorem wsO_set (o : OM) (σ σ' : Sto) {q : Nat} (hq : q < NP) (hne : ∀ k, k ≠ q → σ' k = σ k) : (wsO o σ).set q (oA o q, cel o σ' q) = wsO o σ' := by
  apply List.ext_getElem?
  intro k
  by_cases hk : k = q
  · subst hk
    rw [List.getElem?_set_self (by simp [wsO, hq]), wsO_get o σ' hq]
  · rw [List.getElem?_set_ne (Ne.symm hk)]
    by_cases hN : k < NP
    · rw [wsO_get o σ hN, wsO_get o σ' hN]
      have : cel o σ k = cel o σ' k := by
        have := hne k hk
        unfold cel fld
        rw [this]
      rw [this]
    · rw [List.getElem?_eq_none (by simp [wsO]; omega), List.getElem?_eq_none (by simp [wsO]; omega)]
def HX (o : OM) (σ : Sto) (H : Heap) : Prop := va_P (oD o) vwCl (wsO o σ) H ∧ okS σ
theorem su_ne {σ : Sto} {q : Nat} {i v : Int} : ∀ k, k ≠ q → su σ q i v k = σ k := fun k hk => by unfold su; rw [if_neg hk]
theorem su_eq {σ : Sto} {q : Nat} {i v : Int} : su σ q i v q = fun j => if j = i then v else σ q j := by unfold su; rw [if_pos rfl]
theorem okS_su {σ : Sto} {q : Nat} {i v : Int} (h : okS σ) (hv : (lng q i → i64 v) ∧ (¬ lng q i → i32 v)) : okS (su σ q i v) := by
  intro k j
  by_cases hk : k = q
  · subst hk
    rw [su_eq]
    by_cases hj : j = i
    · subst hj
      simp only [if_pos]
      exact hv
    · simp only [if_neg hj]
      exact h k j
  · rw [su_ne k hk]
    exact h k j
/-- numbers of the machine and of the integers -/
theorem i32_to {a : Int} (h : i32 a) : (Int32.ofInt a).toInt = a := by
  rw [Int32.toInt_ofInt]
  exact Int.bmod_eq_of_le (by have := h.1; simp [Int32.size]; omega) (by have := h.2; simp [Int32.size]; omega)
theorem i64_to {a : Int} (h : i64 a) : (Int64.ofInt a).toInt = a := by
  rw [Int64.toInt_ofInt]
  exact Int.bmod_eq_of_le (by have := h.1; simp [Int64.size]; omega) (by have := h.2; simp [Int64.size]; omega)
theorem i32_in (x : Int32) : i32 x.toInt := by
  have h1 := x.le_toInt
  have h2 := x.toInt_lt
  constructor <;> omega
theorem i64_in (x : Int64) : i64 x.toInt := by
  have h1 := x.le_toInt
  have h2 := x.toInt_lt
  constructor <;> omega
theorem i32_lt {a b : Int} (ha : i32 a) (hb : i32 b) : Int32.ofInt a < Int32.ofInt b ↔ a < b := by rw [Int32.lt_iff_toInt_lt, i32_to ha, i32_to hb]
theorem i32_le {a b : Int} (ha : i32 a) (hb : i32 b) : Int32.ofInt a ≤ Int32.ofInt b ↔ a ≤ b := by rw [Int32.le_iff_toInt_le, i32_to ha, i32_to hb]
theorem i32_eq {a b : Int} (ha : i32 a) (hb : i32 b) : Int32.ofInt a = Int32.ofInt b ↔ a = b := by rw [← Int32.toInt_inj, i32_to ha, i32_to hb]
theorem i64_lt {a b : Int} (ha : i64 a) (hb : i64 b) : Int64.ofInt a < Int64.ofInt b ↔ a < b := by rw [Int64.lt_iff_toInt_lt, i64_to ha, i64_to hb]
theorem i64_eq {a b : Int} (ha : i64 a) (hb : i64 b) : Int64.ofInt a = Int64.ofInt b ↔ a = b := by rw [← Int64.toInt_inj, i64_to ha, i64_to hb]
theorem i32_0 : i32 0 := ⟨by decide, by decide⟩
theorem of32 (x : Int32) : Int32.ofInt x.toInt = x := Int32.ofInt_toInt x
theorem of64 (x : Int64) : Int64.ofInt x.toInt = x := Int64.ofInt_toInt x
theorem tdiv_in {a b : Int} (ha : i32 a) (hb : 0 < b) : i32 (a.tdiv b) := by
  have h1 : (a.tdiv b).natAbs ≤ a.natAbs := by rw [Int.natAbs_tdiv]; exact Nat.div_le_self _ _
  have h2 := ha.1
  have h3 := ha.2
  by_cases h0 : 0 ≤ a
  · have : 0 ≤ a.tdiv b := Int.tdiv_nonneg h0 (by omega)
    constructor <;> omega
  · have : a.tdiv b ≤ 0 := by
      have := Int.tdiv_nonneg (a := -a) (b := b) (by omega) (by omega)
      rw [Int.neg_tdiv] at this
      omega
    constructor <;> omega
theorem i32_div {a b : Int} (ha : i32 a) (hb : i32 b) (h0 : 0 < b) : Int32.ofInt a / Int32.ofInt b = Int32.ofInt (a.tdiv b) := by
  rw [← Int32.toInt_inj, Int32.toInt_div, i32_to ha, i32_to hb, Int32.toInt_ofInt]
theorem i32_rem {a b : Int} (ha : i32 a) (hb : i32 b) (h0 : 0 < b) : Int32.ofInt a - Int32.ofInt a / Int32.ofInt b * Int32.ofInt b = Int32.ofInt (a.tmod b) := by
  rw [i32_div ha hb h0, ← Int32.ofInt_mul, ← Int32.ofInt_sub, Int.tmod_def, Int.mul_comm]
theorem i64_div {a b : Int} (ha : i64 a) (hb : i64 b) (h0 : 0 < b) : Int64.ofInt a / Int64.ofInt b = Int64.ofInt (a.tdiv b) := by
  rw [← Int64.toInt_inj, Int64.toInt_div, i64_to ha, i64_to hb, Int64.toInt_ofInt]
theorem i64_rem {a b : Int} (ha : i64 a) (hb : i64 b) (h0 : 0 < b) : Int64.ofInt a - Int64.ofInt a / Int64.ofInt b * Int64.ofInt b = Int64.ofInt (a.tmod b) := by
  rw [i64_div ha hb h0, ← Int64.ofInt_mul, ← Int64.ofInt_sub, Int.tmod_def, Int.mul_comm]
theorem tmod_in {a b : Int} (ha : i32 a) (hb : 0 < b) : i32 (a.tmod b) := by
  have h1 : (a.tmod b).natAbs ≤ a.natAbs := by rw [Int.natAbs_tmod]; exact Nat.mod_le _ _
  have h2 := ha.1
  have h3 := ha.2
  by_cases h0 : 0 ≤ a
  · have : 0 ≤ a.tmod b := Int.tmod_nonneg b h0
    constructor <;> omega
  · have : a.tmod b ≤ 0 := by
      have := Int.tmod_nonneg (a := -a) b (by omega)
      rw [Int.neg_tmod] at this
      omega
    constructor <;> omega
theorem tdiv_in64 {a b : Int} (ha : i64 a) (hb : 0 < b) : i64 (a.tdiv b) := by
  have h1 : (a.tdiv b).natAbs ≤ a.natAbs := by rw [Int.natAbs_tdiv]; exact Nat.div_le_self _ _
  have h2 := ha.1
  have h3 := ha.2
  by_cases h0 : 0 ≤ a
  · have : 0 ≤ a.tdiv b := Int.tdiv_nonneg h0 (by omega)
    constructor <;> omega
  · have : a.tdiv b ≤ 0 := by
      have := Int.tdiv_nonneg (a := -a) (b := b) (by omega) (by omega)
      rw [Int.neg_tdiv] at this
      omega
    constructor <;> omega
theorem tmod_in64 {a b : Int} (ha : i64 a) (hb : 0 < b) : i64 (a.tmod b) := by
  have h1 : (a.tmod b).natAbs ≤ a.natAbs := by rw [Int.natAbs_tmod]; exact Nat.mod_le _ _
  have h2 := ha.1
  have h3 := ha.2
  by_cases h0 : 0 ≤ a
  · have : 0 ≤ a.tmod b := Int.tmod_nonneg b h0
    constructor <;> omega
  · have : a.tmod b ≤ 0 := by
      have := Int.tmod_nonneg (a := -a) b (by omega)
      rw [Int.neg_tmod] at this
      omega
    constructor <;> omega
theorem in_vp {i : Int} {n : Nat} (hi : i32 i) (h0 : 0 ≤ i) (h1 : i < n) : vp_in (Int32.ofInt i) n := by
  rw [vp_in_iff, i32_to hi]
  exact ⟨h0, h1⟩
theorem clampI {i : Int} (hi : i32 i) (h0 : 0 ≤ i) : (Int32.ofInt i).toNatClampNeg = i.toNat := by
  show (Int32.ofInt i).toInt.toNat = i.toNat
  rw [i32_to hi]
theorem i32_i64 {a : Int} (h : i32 a) : (Int32.ofInt a).toInt64 = Int64.ofInt a := by
  rw [← Int64.toInt_inj, Int32.toInt_toInt64, i32_to h, i64_to ⟨by have := h.1; omega, by have := h.2; omega⟩]
