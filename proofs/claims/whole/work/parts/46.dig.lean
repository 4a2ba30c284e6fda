-- ===== where to dig, pure =====
def ov : OI → Int
  | some x => x
  | none => 0
def pw (m : Mx) (c d : Int) : Int := match m c d, m d c with
  | some x, some y => x + y
  | _, _ => 0
def wdI (m : Mx) (n c : Int) : Int := sumI (fun i => pw m c (c + 1 + i)) (n - (c + 1))
def wdO (m : Mx) (n : Int) : Int := sumI (wdI m n) n
def dgM (m : Mx) (a b v : Int) : Mx := nb (nb m a b v) b a (-v)
def mxN (f : Int → Int) : Nat → Int
  | 0 => 0
  | k + 1 => max (mxN f k) (f k)
def dgW (m : Mx) (n a b : Int) : Int := mxN (fun i => wdO (dgM m a b (-(ov (m b a)) + i)) n) (pw m a b + 1).toNat
def dgE (m : Mx) (a b : Int) : Prop := ¬ m a b = none ∧ 1 ≤ pw m a b ∧ pw m a b ≤ 40
theorem mxN_0 (f : Int → Int) : ∀ k : Nat, 0 ≤ mxN f k
  | 0 => by show (0 : Int) ≤ 0; omega
  | k + 1 => by have := mxN_0 f k; show 0 ≤ max _ _; omega
def DB (S : Int → Int → Prop) (el : Int → Int → Prop) (W : Int → Int → Int) (A B w : Int) : Prop := (A = -1 ∧ B = -1 ∧ w = -1 ∧ ∀ a b, S a b → ¬ el a b) ∨ (S A B ∧ el A B ∧ w = W A B ∧ ∀ a b, S a b → el a b → (W A B < W a b ∨ (W A B = W a b ∧ (A < a ∨ (A = a ∧ B ≤ b)))))
theorem DB_uni {S : Int → Int → Prop} {el el' : Int → Int → Prop} {W W' : Int → Int → Int} {A B w A' B' w' : Int} (he : ∀ a b, S a b → (el a b ↔ el' a b)) (hW : ∀ a b, S a b → W a b = W' a b) (h : DB S el W A B w) (h' : DB S el' W' A' B' w') : A = A' ∧ B = B' ∧ w = w' := by
  rcases h with ⟨h1, h2, h3, h4⟩ | ⟨h1, h2, h3, h4⟩
  · rcases h' with ⟨g1, g2, g3, g4⟩ | ⟨g1, g2, g3, g4⟩
    · omega
    · exact absurd ((he _ _ g1).mpr g2) (h4 _ _ g1)
  · rcases h' with ⟨g1, g2, g3, g4⟩ | ⟨g1, g2, g3, g4⟩
    · exact absurd ((he _ _ h1).mp h2) (g4 _ _ h1)
    · have a := h4 A' B' g1 ((he _ _ g1).mpr g2)
      have b := g4 A B h1 ((he _ _ h1).mp h2)
      have c := hW A B h1
      have d := hW A' B' g1
      have e : A = A' := by omega
      have f : B = B' := by omega
      subst e f
      omega
/-- pairs ahead of (a, b) -/
def ahd (n a b : Int) : Int → Int → Prop := fun x y => 0 ≤ x ∧ x < y ∧ y < n ∧ (x < a ∨ (x = a ∧ y < b))
theorem DB_no {n a b : Int} {el : Int → Int → Prop} {W : Int → Int → Int} {A B w : Int} (h : DB (ahd n a b) el W A B w) (hn : ¬ el a b) : DB (ahd n a (b + 1)) el W A B w := by
  rcases h with ⟨h1, h2, h3, h4⟩ | ⟨h1, h2, h3, h4⟩
  · refine Or.inl ⟨h1, h2, h3, fun x y z e => ?_⟩
    by_cases c : x = a ∧ y = b
    · rw [c.1, c.2] at e; exact hn e
    · exact h4 x y (by unfold ahd at *; omega) e
  · refine Or.inr ⟨by unfold ahd at *; omega, h2, h3, fun x y z e => ?_⟩
    by_cases c : x = a ∧ y = b
    · rw [c.1, c.2] at e; exact absurd e hn
    · exact h4 x y (by unfold ahd at *; omega) e
theorem DB_new {n a b : Int} {el : Int → Int → Prop} {W : Int → Int → Int} {A B w : Int} (h : DB (ahd n a b) el W A B w) (hs : 0 ≤ a ∧ a < b ∧ b < n) (he : el a b) (hW : ∀ x y, 0 ≤ W x y) (hw : w = -1 ∨ W a b < w) : DB (ahd n a (b + 1)) el W a b (W a b) := by
  refine Or.inr ⟨by unfold ahd; omega, he, rfl, fun x y z e => ?_⟩
  by_cases c : x = a ∧ y = b
  · rw [c.1, c.2]; exact Or.inr ⟨rfl, Or.inr ⟨rfl, Int.le_refl _⟩⟩
  · have z' : ahd n a b x y := by unfold ahd at *; omega
    rcases h with ⟨h1, h2, h3, h4⟩ | ⟨h1, h2, h3, h4⟩
    · exact absurd e (h4 x y z')
    · have := h4 x y z' e
      have := hW A B
      omega
theorem DB_old {n a b : Int} {el : Int → Int → Prop} {W : Int → Int → Int} {A B w : Int} (h : DB (ahd n a b) el W A B w) (hw : ¬ (w = -1 ∨ W a b < w)) : DB (ahd n a (b + 1)) el W A B w := by
  rcases h with ⟨h1, h2, h3, h4⟩ | ⟨h1, h2, h3, h4⟩
  · exact absurd (Or.inl h3) hw
  · refine Or.inr ⟨by unfold ahd at *; omega, h2, h3, fun x y z e => ?_⟩
    by_cases c : x = a ∧ y = b
    · rw [c.1, c.2]
      unfold ahd at h1
      omega
    · exact h4 x y (by unfold ahd at *; omega) e
theorem DB_row {n a : Int} {el : Int → Int → Prop} {W : Int → Int → Int} {A B w : Int} (h : DB (ahd n a n) el W A B w) : DB (ahd n (a + 1) (a + 2)) el W A B w := by
  have : ahd n a n = ahd n (a + 1) (a + 2) := by
    funext x y
    refine propext ?_
    unfold ahd
    omega
  rw [← this]
  exact h
theorem DB_0 {n : Int} {el : Int → Int → Prop} {W : Int → Int → Int} : DB (ahd n 0 1) el W (-1) (-1) (-1) := Or.inl ⟨rfl, rfl, rfl, fun x y z => by unfold ahd at z; omega⟩
/-- whoever stands above is bound below too -/
theorem CloK_sym {K : Kn} {m : Mx} (hE : ∀ a b lo hi, K a b lo hi → nd a ∧ nd b) (h : CloK K m) : ∀ i j, nd i → nd j → m i j = none → m j i = none := by
  intro i j a b hz
  have hB : Base (fun i j => if m j i = none then none else m i j) := by
    refine ⟨fun i a => ?_, fun i k j a b c => ?_⟩
    · show (if m i i = none then none else m i i) = some 0
      rw [h.1.1 i a, if_neg (by simp)]
    · show ole (if m j i = none then none else m i j) (oad (if m k i = none then none else m i k) (if m j k = none then none else m k j))
      by_cases c1 : m k i = none
      · rw [if_pos c1]; cases (if m j i = none then none else m i j) <;> simp [oad, ole]
      · by_cases c2 : m j k = none
        · rw [if_neg c1, if_pos c2]; cases (if m j i = none then none else m i j) <;> cases m i k <;> simp [oad, ole]
        · rw [if_neg c1, if_neg c2]
          have t := h.1.2 j k i c b a
          have c3 : ¬ m j i = none := by
            intro z
            rw [z] at t
            generalize m j k = x at *
            generalize m k i = y at *
            cases x with
            | none => exact c2 rfl
            | some x => cases y with
              | none => exact c1 rfl
              | some y => simp [oad, ole] at t
          rw [if_neg c3]
          exact h.1.2 i k j a b c
  have hA : AllC K (fun i j => if m j i = none then none else m i j) := by
    intro x y lo hi k
    have q := h.2.1 x y lo hi k
    have q1 : ¬ m x y = none := fun z => by have := q.1; rw [z] at this; simp [ole] at this
    have q2 : ¬ m y x = none := fun z => by have := q.2; rw [z] at this; simp [ole] at this
    refine ⟨?_, ?_⟩
    · show ole (if m y x = none then none else m x y) _
      rw [if_neg q2]; exact q.1
    · show ole (if m x y = none then none else m y x) _
      rw [if_neg q1]; exact q.2
  by_cases c : m j i = none
  · exact c
  · have t := h.2.2 _ hB hA j i b a
    have t : ole (if m i j = none then none else m j i) (m j i) := t
    rw [if_pos hz] at t
    generalize m j i = x at *
    cases x with
    | none => rfl
    | some x => simp [ole] at t
/-- the closure of a closure and one row more -/
theorem dgM_Clo {m : Mx} {a b v x y : Int} (hB : Base m) (ha : nd a) (hb : nd b) (hx : m a b = some x) (hy : m b a = some y) (h1 : -y ≤ v) (h2 : v ≤ x) : Base (dgM m a b v) ∧ (∀ i j, nd i → nd j → ole (dgM m a b v i j) (m i j)) ∧ ole (dgM m a b v a b) (some v) ∧ ole (dgM m a b v b a) (some (-v)) ∧ ∀ M, Base M → (∀ i j, nd i → nd j → ole (M i j) (m i j)) → ole (M a b) (some v) → ole (M b a) (some (-v)) → ∀ i j, nd i → nd j → ole (M i j) (dgM m a b v i j) := by
  have hS : ∀ M : Mx, Sat (fun f t w => nd f ∧ nd t ∧ m f t = some w) M ↔ Base M ∧ ∀ i j, nd i → nd j → ole (M i j) (m i j) := by
    intro M
    rw [Sat_B]
    refine ⟨fun h => ⟨h.1, fun i j c d => ?_⟩, fun h => ⟨h.1, ?_⟩⟩
    · cases e : m i j with
      | none => cases M i j <;> simp [ole]
      | some w => exact h.2 i j w ⟨c, d, e⟩
    · rintro f t w ⟨c, d, e⟩
      rw [← e]; exact h.2 f t c d
  have c0 : Clo (fun f t w => nd f ∧ nd t ∧ m f t = some w) m := ⟨(hS m).mpr ⟨hB, fun i j _ _ => ole_refl _⟩, fun M hM => ((hS M).mp hM).2⟩
  have c1 := Clo_step c0 (fun a b c z => ⟨z.1, z.2.1⟩) ha hb (w := v) (fun z hz => by rw [hy] at hz; simp only [Option.some.injEq] at hz; omega) (g' := nb m a b v) (fun _ _ _ _ => rfl)
  have e1 : nb m a b v a b = some v := by
    unfold nb
    rw [hx, hB.1 a ha, hB.1 b hb]
    simp only [oad, omin]
    congr 1
    omega
  have c2 := Clo_step c1 (fun x y c z => z.elim (fun z => ⟨z.1, z.2.1⟩) (fun z => ⟨by rw [z.1]; exact ha, by rw [z.2.1]; exact hb⟩)) hb ha (w := -v) (fun z hz => by rw [e1] at hz; simp only [Option.some.injEq] at hz; omega) (g' := dgM m a b v) (fun _ _ _ _ => rfl)
  have s2 := Sat_add1.mp c2.1
  have s1 := Sat_add1.mp s2.1
  have s0 := (hS _).mp s1.1
  exact ⟨s0.1, s0.2, s1.2, s2.2, fun M m1 m2 m3 m4 => c2.2 M (Sat_add1.mpr ⟨Sat_add1.mpr ⟨(hS M).mpr ⟨m1, m2⟩, m3⟩, m4⟩)⟩

