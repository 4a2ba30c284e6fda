-- ===== the net: bounds, pure =====
abbrev OI := Option Int
/-- at or below, none above all -/
def ole : OI → OI → Prop
  | _, none => True
  | none, some _ => False
  | some a, some b => a ≤ b
def oad : OI → OI → OI
  | some a, some b => some (a + b)
  | _, _ => none
def nd (i : Int) : Prop := 0 ≤ i ∧ i < 8
def Sat (E : Int → Int → Int → Prop) (m : Int → Int → OI) : Prop :=
  (∀ i, nd i → m i i = some 0) ∧ (∀ i k j, nd i → nd k → nd j → ole (m i j) (oad (m i k) (m k j))) ∧ (∀ f t w, E f t w → ole (m f t) (some w))
def Clo (E : Int → Int → Int → Prop) (m : Int → Int → OI) : Prop := Sat E m ∧ ∀ M, Sat E M → ∀ i j, nd i → nd j → ole (M i j) (m i j)
theorem ole_anti {a b : OI} (h1 : ole a b) (h2 : ole b a) : a = b := by
  cases a <;> cases b <;> simp only [ole] at h1 h2 ⊢ <;> first | rfl | exact h1.elim | exact h2.elim | (congr 1; omega)
theorem ole_trans {a b c : OI} (h1 : ole a b) (h2 : ole b c) : ole a c := by
  cases a <;> cases b <;> cases c <;> simp only [ole] at h1 h2 ⊢ <;> first | exact h1.elim | exact h2.elim | omega
theorem oad_mono {a b c d : OI} (h1 : ole a b) (h2 : ole c d) : ole (oad a c) (oad b d) := by
  cases a <;> cases b <;> cases c <;> cases d <;> simp only [ole, oad] at h1 h2 ⊢ <;> first | exact h1.elim | exact h2.elim | omega
theorem ole_refl (a : OI) : ole a a := by cases a <;> simp [ole]
theorem Clo_uni {E E' : Int → Int → Int → Prop} {g h : Int → Int → OI} (he : ∀ M, Sat E M ↔ Sat E' M) (h1 : Clo E g) (h2 : Clo E' h) : ∀ i j, nd i → nd j → g i j = h i j :=
  fun i j a b => ole_anti (h2.2 g ((he g).mp h1.1) i j a b) (h1.2 h ((he h).mpr h2.1) i j a b)
/-- one edge more -/
def add1 (E : Int → Int → Int → Prop) (f t w : Int) : Int → Int → Int → Prop := fun a b c => E a b c ∨ (a = f ∧ b = t ∧ c = w)
theorem Sat_add1 {E : Int → Int → Int → Prop} {f t w : Int} {g : Int → Int → OI} : Sat (add1 E f t w) g ↔ Sat E g ∧ ole (g f t) (some w) := by
  constructor
  · rintro ⟨a, b, d⟩
    exact ⟨⟨a, b, fun x y z h => d x y z (Or.inl h)⟩, d f t w (Or.inr ⟨rfl, rfl, rfl⟩)⟩
  · rintro ⟨⟨a, b, d⟩, e⟩
    refine ⟨a, b, fun x y z h => ?_⟩
    rcases h with h | ⟨rfl, rfl, rfl⟩
    · exact d x y z h
    · exact e
theorem Clo_keep {E : Int → Int → Int → Prop} {f t w : Int} {g : Int → Int → OI} (h : Clo E g) (hw : ole (g f t) (some w)) : Clo (add1 E f t w) g :=
  ⟨Sat_add1.mpr ⟨h.1, hw⟩, fun M hM => h.2 M (Sat_add1.mp hM).1⟩
theorem Clo_none {E : Int → Int → Int → Prop} {f t w x : Int} {g : Int → Int → OI} (h : Clo E g) (hf : nd f) (ht : nd t) (hx : g t f = some x) (hn : x + w < 0) : ∀ M, ¬ Sat (add1 E f t w) M := by
  intro M hM
  obtain ⟨h1, h2⟩ := Sat_add1.mp hM
  have a := h.2 M h1 t f ht hf
  obtain ⟨s1, s2, -⟩ := h1
  have b := s2 f t f hf ht hf
  rw [s1 f hf] at b
  rw [hx] at a
  have c := ole_trans b (oad_mono h2 a)
  simp only [ole, oad] at c
  omega
def omin (a b : OI) : OI := match a, b with
  | none, b => b
  | a, none => a
  | some a, some b => some (min a b)
theorem omin_l (a b : OI) : ole (omin a b) a := by cases a <;> cases b <;> simp only [ole, omin] <;> omega
theorem omin_r (a b : OI) : ole (omin a b) b := by cases a <;> cases b <;> simp only [ole, omin] <;> omega
theorem omin_g {a b c : OI} (h1 : ole c a) (h2 : ole c b) : ole c (omin a b) := by cases a <;> cases b <;> cases c <;> simp only [ole, omin] at h1 h2 ⊢ <;> first | exact h1.elim | exact h2.elim | omega
theorem oad_omin {a a' b b' c : OI} (h1 : ole c (oad a b)) (h2 : ole c (oad a b')) (h3 : ole c (oad a' b)) (h4 : ole c (oad a' b')) : ole c (oad (omin a a') (omin b b')) := by
  cases a <;> cases a' <;> cases b <;> cases b' <;> cases c <;> simp only [ole, omin, oad] at h1 h2 h3 h4 ⊢ <;> first | exact h1.elim | exact h2.elim | exact h3.elim | exact h4.elim | omega
/-- the new bound between i and j -/
def nb (g : Int → Int → OI) (f t w i j : Int) : OI := omin (g i j) (oad (oad (g i f) (some w)) (g t j))
theorem Clo_step {E : Int → Int → Int → Prop} {f t w : Int} {g g' : Int → Int → OI} (h : Clo E g) (hE : ∀ a b c, E a b c → nd a ∧ nd b) (hf : nd f) (ht : nd t) (hn : ∀ x, g t f = some x → 0 ≤ x + w) (hg : ∀ i j, nd i → nd j → g' i j = nb g f t w i j) : Clo (add1 E f t w) g' := by
  obtain ⟨⟨s1, s3, s4⟩, hgr⟩ := h
  refine ⟨Sat_add1.mpr ⟨⟨?_, ?_, ?_⟩, ?_⟩, ?_⟩
  · intro i a
    rw [hg i i a a]
    have z := s1 i a
    have u := s3 t i f ht a hf
    unfold nb
    rw [z]
    generalize g t f = gtf at *
    generalize g i f = gif at *
    generalize g t i = gti at *
    cases gif <;> cases gti <;> cases gtf <;> simp only [ole, oad, omin] at u ⊢
    · rename_i x y z
      have := hn z rfl
      congr 1
      omega
  · intro i k j a b c
    rw [hg i k a b, hg k j b c, hg i j a c]
    have t1 := s3 i k j a b c
    have t2 := s3 i k f a b hf
    have t3 := s3 t k j ht b c
    have t4 := s3 t k f ht b hf
    unfold nb
    generalize g i k = gik at *
    generalize g k j = gkj at *
    generalize g i j = gij at *
    generalize g i f = gif at *
    generalize g t j = gtj at *
    generalize g k f = gkf at *
    generalize g t k = gtk at *
    generalize g t f = gtf at *
    refine oad_omin (ole_trans (omin_l _ _) t1) (ole_trans (omin_r _ _) ?_) (ole_trans (omin_r _ _) ?_) (ole_trans (omin_r _ _) ?_)
    · clear t1 t3 t4 hn
      cases gif <;> cases gik <;> cases gkf <;> cases gtj <;> simp only [ole, oad] at t2 ⊢ <;> first | exact t2.elim | omega
    · clear t1 t2 t4 hn
      cases gif <;> cases gtk <;> cases gkj <;> cases gtj <;> simp only [ole, oad] at t3 ⊢ <;> first | exact t3.elim | omega
    · clear t1 t2 t3
      cases gif <;> cases gtk <;> cases gkf <;> cases gtj <;> cases gtf <;> simp only [ole, oad] at t4 ⊢ <;> first | exact t4.elim | (rename_i x; have := hn x rfl; omega)
  · intro x y z hz
    rw [hg x y (hE x y z hz).1 (hE x y z hz).2]
    exact ole_trans (omin_l _ _) (s4 x y z hz)
  · rw [hg f t hf ht]
    unfold nb
    refine ole_trans (omin_r _ _) ?_
    rw [s1 f hf, s1 t ht]
    simp only [oad, ole]
    omega
  · intro M hM i j a b
    obtain ⟨h1, h2⟩ := Sat_add1.mp hM
    rw [hg i j a b]
    refine omin_g (hgr M h1 i j a b) ?_
    refine ole_trans (h1.2.1 i t j a ht b) (oad_mono (ole_trans (h1.2.1 i f t a hf ht) (oad_mono (hgr M h1 i f a hf) h2)) (hgr M h1 t j ht b))

