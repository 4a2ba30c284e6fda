-- ===== a block's demand brings the machine to its end =====
theorem grd_s {α : Type} {b : Bool} {x : Option α} {y : α} (h : grd b x = some y) : b = true ∧ x = some y := by
  unfold grd at h
  split at h
  · exact ⟨by assumption, h⟩
  · cases h
theorem map_s {α β : Type} {x : Option α} {f : α → β} {y : β} (h : x.map f = some y) : ∃ a, x = some a ∧ f a = y := by
  cases x with
  | none => cases h
  | some a => exact ⟨a, rfl, by cases h; rfl⟩
theorem shp_3 : ∀ q ci : Nat, shp q = (3, ci) → ci < 10 → q < NP := by
  intro q ci h hc
  have h1 : ∀ q, q < 107 → (shp q).1 = 3 → (shp q).2 < 10 → q < NP := by decide +kernel
  by_cases hq : q < 107
  · exact h1 q hq (by rw [h]) (by rw [h]; exact hc)
  · exfalso
    unfold shp at h
    split at h <;> first | omega | (cases h)
theorem shp_012 : ∀ q : Nat, (shp q).1 ≤ 2 → q < NP := by
  intro q h
  have h1 : ∀ q, q < 107 → (shp q).1 ≤ 2 → q < NP := by decide +kernel
  by_cases hq : q < 107
  · exact h1 q hq h
  · exfalso
    unfold shp at h
    split at h <;> first | omega | (revert h; decide)
theorem shp_4 : ∀ q : Nat, (shp q).1 = 4 → q = 98 ∨ q = 99 ∨ q = 100 ∨ q = 101 := by
  intro q h
  have h1 : ∀ q, q < 107 → (shp q).1 = 4 → q = 98 ∨ q = 99 ∨ q = 100 ∨ q = 101 := by decide +kernel
  by_cases hq : q < 107
  · exact h1 q hq h
  · exfalso
    unfold shp at h
    split at h <;> first | omega | (revert h; decide)
theorem shp_5 : ∀ q : Nat, (shp q).1 = 5 → q = 102 := by
  intro q h
  have h1 : ∀ q, q < 107 → (shp q).1 = 5 → q = 102 := by decide +kernel
  by_cases hq : q < 107
  · exact h1 q hq h
  · exfalso
    unfold shp at h
    split at h <;> first | omega | (revert h; decide)
theorem shp_7 : ∀ q : Nat, (shp q).1 = 7 → q = 105 ∨ q = 106 := by
  intro q h
  have h1 : ∀ q, q < 107 → (shp q).1 = 7 → q = 105 ∨ q = 106 := by decide +kernel
  by_cases hq : q < 107
  · exact h1 q hq h
  · exfalso
    unfold shp at h
    split at h <;> first | omega | (revert h; decide)
theorem shp_20 : ∀ q : Nat, shp q = (3, 20) → q = 103 ∨ q = 104 := by
  intro q h
  have h1 : ∀ q, q < 107 → shp q = (3, 20) → q = 103 ∨ q = 104 := by decide +kernel
  by_cases hq : q < 107
  · exact h1 q hq h
  · exfalso
    unfold shp at h
    split at h <;> first | omega | (revert h; decide)
theorem stc_in : ∀ q j : Nat, i32 ((stc q).getD j 0) := by
  intro q j
  have h0 : ∀ (l : List Int), (∀ v ∈ l, i32 v) → i32 (l.getD j 0) := by
    intro l hl
    rw [List.getD_eq_getElem?_getD]
    cases h : l[j]? with
    | none => exact i32_0
    | some v => exact hl v (List.mem_of_getElem? h)
  apply h0
  unfold stc
  split <;> (unfold i32; decide)
theorem lng_not {q : Nat} {i : Int} (h : ¬ (shp q).1 = 3) : ¬ lng q i := fun z => h z.1
theorem su_okv {σ : Sto} {q : Nat} {i x : Int} (h : okS σ) (hk : ¬ (shp q).1 = 3) (hx : i32 x) : okS (su σ q i x) := okS_su h ⟨fun z => absurd z (lng_not hk), fun _ => hx⟩
theorem okS_at {σ : Sto} {q : Nat} {i : Int} (h : okS σ) (hk : ¬ (shp q).1 = 3) : i32 (σ q i) := (h q i).2 (lng_not hk)
theorem scr_su {o : OM} {σ : Sto} {q : Nat} {i x : Int} (h : scr o σ) (hq : q < NP) : scr o (su σ q i x) := by
  have hne : ∀ k, NP ≤ k → su σ q i x k = σ k := fun k hk => su_ne k (by omega)
  unfold scr
  rw [hne 102 (by decide), hne 103 (by decide), hne 104 (by decide)]
  exact h
theorem nar_z {x : Int} (h : x = 0 ∨ x = 1) : vp_nar .boolean (Int32.ofInt x) = Int32.ofInt x := by rcases h with rfl | rfl <;> decide
theorem nar_z2 {x : Int} (h : x = 0 ∨ x = 1) : narrow .boolean (.int (Int32.ofInt x)) = .int (Int32.ofInt x) ∧ fits .boolean (.int (Int32.ofInt x)) = true := by rcases h with rfl | rfl <;> exact ⟨by decide, by decide⟩
theorem upd_of {σ : Sto} {q : Nat} {i x : Int} (hi : i32 i) (h0 : 0 ≤ i) : upd (fun j : Nat => Int32.ofInt (σ q (j : Int))) (Int32.ofInt i).toNatClampNeg (Int32.ofInt x) = fun j : Nat => Int32.ofInt (su σ q i x q (j : Int)) := by
  funext j
  rw [clampI hi h0, su_eq]
  unfold upd
  by_cases h : j = i.toNat
  · have : (j : Int) = i := by omega
    rw [if_pos h]
    show _ = Int32.ofInt (if (j : Int) = i then x else σ q j)
    rw [if_pos this]
  · have : ¬ (j : Int) = i := by omega
    rw [if_neg h]
    show _ = Int32.ofInt (if (j : Int) = i then x else σ q j)
    rw [if_neg this]
theorem fld_cv {o : OM} {σ : Sto} {q c ci : Nat} (hq : shp q = (3, ci)) (ht : ftg ci (c / 10 % 100) = c % 10) : fld o σ q (c / 10 % 100) = cv o (rdF c q σ) := by
  unfold fld rdF
  rw [hq]
  show (match ftg ci (c / 10 % 100) with | 1 => _ | 2 => _ | _ => _) = _
  rw [ht]
  generalize c % 10 = t
  rcases t with _ | _ | _ | t <;> rfl
theorem rdF_ok {σ : Sto} {q c ci : Nat} (h : okS σ) (hq : shp q = (3, ci)) (ht : ftg ci (c / 10 % 100) = c % 10) : okv (rdF c q σ) := by
  have hl : ∀ x : Int, x = ((c / 10 % 100 : Nat) : Int) → (lng q x ↔ c % 10 = 1) := by
    intro x hx
    subst hx
    unfold lng
    rw [hq, Int.toNat_natCast, ht]
    simp
  have h1 := h q ((c / 10 % 100 : Nat) : Int)
  rw [hl _ rfl] at h1
  unfold rdF
  generalize hc : c % 10 = t at h1
  rcases t with _ | _ | _ | t
  · exact h1.2 (by omega)
  · exact h1.1 rfl
  · trivial
  · exact h1.2 (by omega)
theorem fs_at {o : OM} {σ : Sto} {q N k : Nat} (hk : k < N) : ((List.range N).map (fld o σ q))[k]? = some (fld o σ q k) := by
  rw [List.getElem?_map, List.getElem?_range hk]
  rfl
theorem fs_set {o : OM} {σ σ' : Sto} {q N k : Nat} {v : Value} (hv : v = fld o σ' q k) (hne : ∀ j, j ≠ k → fld o σ' q j = fld o σ q j) : ((List.range N).map (fld o σ q)).set k v = (List.range N).map (fld o σ' q) := by
  apply List.ext_getElem?
  intro j
  by_cases hj : j = k
  · subst hj
    by_cases hN : j < N
    · rw [List.getElem?_set_self (by simp [hN]), fs_at hN, hv]
    · rw [List.getElem?_eq_none (by simp; omega), List.getElem?_eq_none (by simp; omega)]
  · rw [List.getElem?_set_ne (Ne.symm hj), List.getElem?_map, List.getElem?_map]
    by_cases hN : j < N
    · rw [List.getElem?_range hN]
      simp [hne j hj]
    · rw [List.getElem?_eq_none (by simp; omega)]
      rfl
theorem cel_3 {o : OM} {σ : Sto} {q ci : Nat} (h : shp q = (3, ci)) : cel o σ q = .inr (ci, (List.range (nfl ci)).map (fld o σ q)) := by
  unfold cel
  rw [h]; rfl
theorem cel_0 {o : OM} {σ : Sto} {q : Nat} (h : (shp q).1 = 0) : cel o σ q = .inl (oC o 0, (shp q).2, .inl (fun j => Int32.ofInt (σ q j))) := by
  unfold cel
  rw [h]; rfl
theorem cel_1 {o : OM} {σ : Sto} {q : Nat} (h : (shp q).1 = 1) : cel o σ q = .inl (oC o 1, (shp q).2, .inl (fun j => Int32.ofInt (σ q j))) := by
  unfold cel
  rw [h]; rfl
theorem cel_2 {o : OM} {σ : Sto} {q : Nat} (h : (shp q).1 = 2) : cel o σ q = .inl (oC o 2, (shp q).2, .inr (.inr (.inr (.inr (fun j => some (oA o (rfs q j))))))) := by
  unfold cel
  rw [h]; rfl
theorem lg_c {a b : Int} (ha : i64 a) (hb : i64 b) : lg_cmp (Int64.ofInt a) (Int64.ofInt b) = Int32.ofInt (lCmp a b) := by
  unfold lg_cmp lCmp
  by_cases h : b < a
  · rw [if_pos h, if_pos ((i64_lt hb ha).mpr h)]; rfl
  · rw [if_neg h, if_neg (fun z => h ((i64_lt hb ha).mp z))]
    by_cases e : a = b
    · rw [if_pos e, if_pos ((i64_eq ha hb).mpr e)]; rfl
    · rw [if_neg e, if_neg (fun z => e ((i64_eq ha hb).mp z))]; rfl
theorem lCmp_in (a b : Int) : i32 (lCmp a b) := by
  unfold lCmp i32
  split
  · decide
  · split <;> decide
theorem swK_at {lv : List (Nat × Nat)} {K : Nat → List AV → List AV → Sto → Prop} {S L : List AV} {σ : Sto} : ∀ (os : List Int) (x lo : Int), swK lv K S L σ x lo os → ∀ (j : Nat) (t : Int), os[j]? = some t → x = lo + j → K t.toNat S (tk lv t.toNat L) σ
  | [], _, _, _, j, t, h, _ => by simp at h
  | a :: os, x, lo, h, 0, t, hj, hx => by
    have : a = t := by simpa using hj
    subst this
    exact h.1 (by simpa using hx)
  | a :: os, x, lo, h, j + 1, t, hj, hx => swK_at os x (lo + 1) h.2 j t (by simpa using hj) (by rw [hx]; push_cast; omega)
theorem b8 {v : Int} (h1 : -128 ≤ v) (h2 : v ≤ 127) : (Int8.ofInt v).toInt32 = Int32.ofInt v := by
  rw [← Int32.toInt_inj, Int8.toInt_toInt32, i32_to ⟨by omega, by omega⟩, Int8.toInt_ofInt]
  exact Int.bmod_eq_of_le (by simp [Int8.size]; omega) (by simp [Int8.size]; omega)
theorem b16 {v : Int} (h1 : -32768 ≤ v) (h2 : v ≤ 32767) : (Int16.ofInt v).toInt32 = Int32.ofInt v := by
  rw [← Int32.toInt_inj, Int16.toInt_toInt32, i32_to ⟨by omega, by omega⟩, Int16.toInt_ofInt]
  exact Int.bmod_eq_of_le (by simp [Int16.size]; omega) (by simp [Int16.size]; omega)
theorem rfv_ne {o : OM} {q : Nat} (h : ¬ q = 999) : rfv o q = .ref (oA o q) := by
  unfold rfv
  split
  · exact absurd rfl h
  · rfl
theorem len_ofInt (n : Nat) : Int32.ofNat n = Int32.ofInt (n : Int) := rfl
theorem len_in (q : Nat) : i32 ((shp q).2 : Int) := by
  have h : (shp q).2 ≤ 3072 := by
    unfold shp
    split <;> decide
  constructor <;> omega
theorem putf_c {ca : List (Nat × Ctr)} {lv : List (Nat × Nat)} {rt : Nat} {K : Nat → List AV → List AV → Sto → Prop} {Q : List AV → Sto → Prop} {cd : Nat} {S L : List AV} {σ : Sto} {k : List AV → List AV → Sto → Prop} (hw : step ca lv rt K Q (.putfield cd) S L σ k) :
    ∃ (v : AV) (x : Int) (q : Nat) (S1 : List AV), S = v :: vR q :: S1 ∧ shp q = (3, cd / 1000) ∧ k S1 L (su σ q ((cd / 10 % 100 : Nat) : Int) x) ∧ ((cd % 10 = 0 ∧ v = vI x) ∨ (cd % 10 = 1 ∧ v = vL x) ∨ (cd % 10 = 3 ∧ v = vI x ∧ (x = 0 ∨ x = 1))) := by
  simp only [step] at hw
  split at hw
  · rename_i h; exact ⟨_, _, _, _, rfl, hw.1, hw.2, Or.inl ⟨h, rfl⟩⟩
  · rename_i h; exact ⟨_, _, _, _, rfl, hw.1, hw.2, Or.inr (Or.inl ⟨h, rfl⟩)⟩
  · rename_i h; exact ⟨_, _, _, _, rfl, hw.1, hw.2.2, Or.inr (Or.inr ⟨h, rfl, hw.2.1⟩)⟩
  · exact hw.elim
