-- ===== the net: what a closure asks, as a set of constraints =====
abbrev Mx := Int → Int → OI
abbrev Kn := Int → Int → Int → Int → Prop
def Base (M : Mx) : Prop := (∀ i, nd i → M i i = some 0) ∧ (∀ i k j, nd i → nd k → nd j → ole (M i j) (oad (M i k) (M k j)))
def Con (M : Mx) (a b lo hi : Int) : Prop := ole (M a b) (some hi) ∧ ole (M b a) (some (-lo))
def AllC (K : Kn) (M : Mx) : Prop := ∀ a b lo hi, K a b lo hi → Con M a b lo hi
def Rsp (K : Kn) (f : Int → Int) : Prop := ∀ a b lo hi, K a b lo hi → f a = f b
def addK (K : Kn) (a b lo hi : Int) : Kn := fun x y u v => K x y u v ∨ (x = a ∧ y = b ∧ u = lo ∧ v = hi)
theorem AllC_add {K : Kn} {a b lo hi : Int} {M : Mx} : AllC (addK K a b lo hi) M ↔ AllC K M ∧ Con M a b lo hi := by
  constructor
  · intro h
    exact ⟨fun x y u v k => h x y u v (Or.inl k), h a b lo hi (Or.inr ⟨rfl, rfl, rfl, rfl⟩)⟩
  · rintro ⟨h1, h2⟩ x y u v (k | ⟨rfl, rfl, rfl, rfl⟩)
    · exact h1 x y u v k
    · exact h2
theorem Rsp_add {K : Kn} {a b lo hi : Int} {f : Int → Int} : Rsp (addK K a b lo hi) f ↔ Rsp K f ∧ f a = f b := by
  constructor
  · intro h
    exact ⟨fun x y u v k => h x y u v (Or.inl k), h a b lo hi (Or.inr ⟨rfl, rfl, rfl, rfl⟩)⟩
  · rintro ⟨h1, h2⟩ x y u v (k | ⟨rfl, rfl, rfl, rfl⟩)
    · exact h1 x y u v k
    · exact h2
theorem Sat_B {E : Int → Int → Int → Prop} {M : Mx} : Sat E M ↔ Base M ∧ ∀ f t w, E f t w → ole (M f t) (some w) := ⟨fun h => ⟨⟨h.1, h.2.1⟩, h.2.2⟩, fun h => ⟨h.1.1, h.1.2, h.2⟩⟩
theorem Sat_add2 {E : Int → Int → Int → Prop} {M : Mx} {a b lo hi : Int} : Sat (add2 E a b lo hi) M ↔ Sat E M ∧ Con M a b lo hi := by
  unfold add2 Con
  rw [Sat_add1, Sat_add1, and_assoc]
/-- the class's grid is the closure of K -/
def NetK (K : Kn) (g : Int → Int) : Prop := ∃ E, NetC E g ∧ ∀ M, Sat E M ↔ Base M ∧ AllC K M
def NoM (K : Kn) : Prop := ∀ M, Base M → ¬ AllC K M
def CloK (K : Kn) (m : Mx) : Prop := Base m ∧ AllC K m ∧ ∀ M, Base M → AllC K M → ∀ i j, nd i → nd j → ole (M i j) (m i j)
theorem NetK_Clo {K : Kn} {g : Int → Int} (h : NetK K g) : CloK K (og g) := by
  obtain ⟨E, h1, h2⟩ := h
  have h3 := (h2 _).mp h1.1.1
  exact ⟨h3.1, h3.2, fun M a b => h1.1.2 M ((h2 M).mpr ⟨a, b⟩)⟩
theorem NetK_in {K : Kn} {g : Int → Int} (h : NetK K g) : gIn g := by
  obtain ⟨E, h1, h2⟩ := h
  exact NetC_in h1
def sameK (K K' : Kn) : Prop := ∀ M, Base M → (AllC K M ↔ AllC K' M)
theorem CloK_uni {K K' : Kn} {m m' : Mx} (he : sameK K K') (h1 : CloK K m) (h2 : CloK K' m') : ∀ i j, nd i → nd j → m i j = m' i j :=
  fun i j a b => ole_anti (h2.2.2 m h1.1 ((he m h1.1).mp h1.2.1) i j a b) (h1.2.2 m' h2.1 ((he m' h2.1).mpr h2.2.1) i j a b)
theorem NetK_same {K K' : Kn} {g : Int → Int} (he : sameK K K') (h : NetK K g) : NetK K' g := by
  obtain ⟨E, h1, h2⟩ := h
  refine ⟨E, h1, fun M => ?_⟩
  rw [h2]
  exact ⟨fun ⟨a, b⟩ => ⟨a, (he M a).mp b⟩, fun ⟨a, b⟩ => ⟨a, (he M a).mpr b⟩⟩
theorem NoM_same {K K' : Kn} (he : sameK K K') (h : NoM K) : NoM K' := fun M a b => h M a ((he M a).mpr b)
theorem sameK_of {K K' : Kn} (h : ∀ a b lo hi, K a b lo hi ↔ K' a b lo hi) : sameK K K' := fun M _ => ⟨fun q a b lo hi k => q a b lo hi ((h a b lo hi).mpr k), fun q a b lo hi k => q a b lo hi ((h a b lo hi).mp k)⟩
theorem NetK_add {K : Kn} {E : Int → Int → Int → Prop} {a b lo hi : Int} (h : ∀ M, Sat E M ↔ Base M ∧ AllC K M) : ∀ M, Sat (add2 E a b lo hi) M ↔ Base M ∧ AllC (addK K a b lo hi) M := by
  intro M
  rw [Sat_add2, h, AllC_add, and_assoc]
/-- what bind of the class does, in these words -/
theorem bindK {q : Nat} {a b lo hi : Int} {σ : Sto} {κ : List AV → Sto → Prop} {K : Kn} (h0 : shp q = (0, 64) ∧ nd a ∧ nd b ∧ (-100000 ≤ lo ∧ lo ≤ 100000) ∧ (-100000 ≤ hi ∧ hi ≤ 100000)) (hK : NetK K (σ q))
    (h1 : ∀ τ : Sto, (∀ p : Nat, p ≠ q → τ p = σ p) → NetK (addK K a b lo hi) (τ q) → κ [vI 1] τ) (h2 : ∀ τ : Sto, (∀ p : Nat, p ≠ q → τ p = σ p) → NoM (addK K a b lo hi) → κ [vI 0] τ) : C_X3_bind [vR q, vI a, vI b, vI lo, vI hi] σ κ := by
  obtain ⟨E, e1, e2⟩ := hK
  exact ⟨h0, E, e1, fun τ hf hn => h1 τ hf ⟨_, hn, NetK_add e2⟩, fun τ hf hn => h2 τ hf (fun M hb hp => hn M ((NetK_add e2 M).mpr ⟨hb, hp⟩))⟩
theorem bindJK {q : Nat} {j : Int} {σ : Sto} {κ : List AV → Sto → Prop} {K : Kn} (h0 : shp q = (0, 64) ∧ (0 ≤ j ∧ j < 12) ∧ JnI σ j) (hK : NetK K (σ q))
    (h1 : ∀ τ : Sto, (∀ p : Nat, p ≠ q → τ p = σ p) → NetK (addK K (σ 16 j) (σ 17 j) (σ 18 j) (σ 19 j)) (τ q) → κ [vI 1] τ) (h2 : ∀ τ : Sto, (∀ p : Nat, p ≠ q → τ p = σ p) → NoM (addK K (σ 16 j) (σ 17 j) (σ 18 j) (σ 19 j)) → κ [vI 0] τ) : C_X3_bindJoin [vR 10, vR q, vI j] σ κ := by
  obtain ⟨E, e1, e2⟩ := hK
  exact ⟨h0, E, e1, fun τ hf hn => h1 τ hf ⟨_, hn, NetK_add e2⟩, fun τ hf hn => h2 τ hf (fun M hb hp => hn M ((NetK_add e2 M).mpr ⟨hb, hp⟩))⟩
def noK : Kn := fun _ _ _ _ => False
theorem NetK_0 {g : Int → Int} (h : ∀ i j, nd i → nd j → g (i * 8 + j) = if i = j then 0 else 1000000000) : NetK noK g := by
  have e : ∀ i j, nd i → nd j → og g i j = if i = j then some 0 else none := by
    intro i j a b
    unfold og
    rw [h i j a b]
    by_cases c : i = j
    · rw [if_pos c, if_pos c, if_neg (by omega)]
    · rw [if_neg c, if_neg c, if_pos rfl]
  have hB : Base (og g) := by
    refine ⟨fun i a => by rw [e i i a a, if_pos rfl], fun i k j a b c => ?_⟩
    rw [e i j a c, e i k a b, e k j b c]
    by_cases c1 : i = k
    · subst c1
      rw [if_pos rfl]
      by_cases c2 : i = j
      · rw [if_pos c2]; simp [ole, oad]
      · rw [if_neg c2]; simp [ole, oad]
    · rw [if_neg c1]; simp [ole, oad]
  have hG : ∀ M : Mx, Base M → ∀ i j, nd i → nd j → ole (M i j) (if i = j then some 0 else none) := by
    intro M hM i j a b
    by_cases c : i = j
    · subst c
      rw [if_pos rfl, hM.1 i a]
      simp [ole]
    · rw [if_neg c]
      simp [ole]
  refine ⟨fun _ _ _ => False, ⟨⟨Sat_B.mpr ⟨hB, fun _ _ _ z => z.elim⟩, fun M hM i j a b => ?_⟩, ⟨fun i j => if i = j then some 0 else none, ⟨fun i a => ?_, fun _ _ _ z => z.elim, fun M hM => hG M (Sat_B.mp hM).1⟩, fun i j x hx => ?_⟩, fun _ _ _ z => z.elim⟩, fun M => ⟨fun hM => ⟨(Sat_B.mp hM).1, fun _ _ _ _ z => z.elim⟩, fun hM => Sat_B.mpr ⟨hM.1, fun _ _ _ z => z.elim⟩⟩⟩
  · rw [e i j a b]
    exact hG M (Sat_B.mp hM).1 i j a b
  · show ole (if i = i then some 0 else none) (some 0)
    rw [if_pos rfl]
    simp [ole]
  · by_cases c : i = j
    · have hx : (if i = j then some (0 : Int) else none) = some x := hx
      rw [if_pos c] at hx
      simp only [Option.some.injEq] at hx
      omega
    · have hx : (if i = j then some (0 : Int) else none) = some x := hx
      rw [if_neg c] at hx
      exact absurd hx (by simp)

