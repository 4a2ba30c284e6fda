-- ===== the table of the reference =====
/-- a table that holds at a place what the steps from there give; any prices, any steps that can be done -/
def rcG (pr : Int → Int → Int → Int) (ok : Int → Int → Int → Bool) (n1 n2 : Int) (T W : Int → Int) (i j : Int) : Prop :=
  T (i * 17 + j) = (finN (stN (fun s => pr s i j) (fun s => ok s i j) (fun s => T ((i + o1 s) * 17 + (j + o2 s))) (fun s => W ((i + o1 s) * 17 + (j + o2 s))) 5)).1 ∧ W (i * 17 + j) = (finN (stN (fun s => pr s i j) (fun s => ok s i j) (fun s => T ((i + o1 s) * 17 + (j + o2 s))) (fun s => W ((i + o1 s) * 17 + (j + o2 s))) 5)).2 ∧ (0 ≤ T (i * 17 + j) ∧ T (i * 17 + j) ≤ 20000 * ((n1 - i) + (n2 - j))) ∧ (0 ≤ W (i * 17 + j) ∧ W (i * 17 + j) ≤ 999999999)
/-- prices and steps in order -/
def GI (pr : Int → Int → Int → Int) (ok : Int → Int → Int → Bool) (n1 n2 : Int) : Prop := (0 ≤ n1 ∧ n1 ≤ 16) ∧ (0 ≤ n2 ∧ n2 ≤ 16) ∧ ∀ s i j, 0 ≤ s → s < 5 → 0 ≤ i → 0 ≤ j → ok s i j = true → i + o1 s ≤ n1 ∧ j + o2 s ≤ n2 ∧ 0 ≤ pr s i j ∧ pr s i j ≤ 20000
theorem rcG_put {pr : Int → Int → Int → Int} {ok : Int → Int → Int → Bool} {n1 n2 : Int} {T W : Int → Int} {i j : Int} (hG : GI pr ok n1 n2) (hi : 0 ≤ i ∧ i ≤ n1) (hj : 0 ≤ j ∧ j ≤ n2) (hd : ∀ a b, 0 ≤ a → a ≤ n1 → 0 ≤ b → b ≤ n2 → (i < a ∨ (a = i ∧ j < b)) → rcG pr ok n1 n2 T W a b)
    {T' W' : Int → Int} {p w : Int} (hpw : (p, w) = finN (stN (fun s => pr s i j) (fun s => ok s i j) (fun s => T ((i + o1 s) * 17 + (j + o2 s))) (fun s => W ((i + o1 s) * 17 + (j + o2 s))) 5)) (e43 : ∀ x, ¬ x = i * 17 + j → T' x = T x) (e44 : ∀ x, ¬ x = i * 17 + j → W' x = W x) (f43 : T' (i * 17 + j) = p) (f44 : W' (i * 17 + j) = w) :
    ∀ a b, 0 ≤ a → a ≤ n1 → 0 ≤ b → b ≤ n2 → (i < a ∨ (a = i ∧ j ≤ b)) → rcG pr ok n1 n2 T' W' a b := by
  intro a b ha1 ha2 hb1 hb2 hab
  obtain ⟨hn1, hn2, hok⟩ := hG
  have est : stN (fun s => pr s a b) (fun s => ok s a b) (fun s => T' ((a + o1 s) * 17 + (b + o2 s))) (fun s => W' ((a + o1 s) * 17 + (b + o2 s))) 5 = stN (fun s => pr s a b) (fun s => ok s a b) (fun s => T ((a + o1 s) * 17 + (b + o2 s))) (fun s => W ((a + o1 s) * 17 + (b + o2 s))) 5 := stN_congr 5 (fun s h1 h2 => ⟨rfl, fun h3 => by
    have ho := o_in (s := s) ⟨h1, by omega⟩
    have q := hok s a b h1 (by omega) ha1 hb1 h3
    exact ⟨rfl, e43 _ (by omega), e44 _ (by omega)⟩⟩)
  unfold rcG
  rw [est]
  by_cases hab2 : a = i ∧ b = j
  · obtain ⟨rfl, rfl⟩ := hab2
    rw [← hpw, f43, f44]
    have hcand : ∀ s : Int, 0 ≤ s → s < 5 → ok s a b = true → (0 ≤ pr s a b + T ((a + o1 s) * 17 + (b + o2 s)) ∧ pr s a b + T ((a + o1 s) * 17 + (b + o2 s)) ≤ 20000 * ((n1 - a) + (n2 - b))) ∧ (0 ≤ W ((a + o1 s) * 17 + (b + o2 s)) ∧ W ((a + o1 s) * 17 + (b + o2 s)) ≤ 999999999) := by
      intro s h1 h2 h3
      have ho := o_in (s := s) ⟨h1, h2⟩
      obtain ⟨q1, q2, hp⟩ := hok s a b h1 h2 ha1 hb1 h3
      obtain ⟨-, -, r3, r4⟩ := hd (a + o1 s) (b + o2 s) (by omega) q1 (by omega) q2 (by omega)
      exact ⟨by omega, r4⟩
    have hin := stN_in (pr := fun s => pr s a b) (ok := fun s => ok s a b) (L := fun s => T ((a + o1 s) * 17 + (b + o2 s))) (W := fun s => W ((a + o1 s) * 17 + (b + o2 s))) 5 (fun s h1 h2 h3 => by
      have := hcand s h1 (by omega) h3
      exact ⟨by omega, this.2⟩)
    have hle := stN_le (pr := fun s => pr s a b) (ok := fun s => ok s a b) (L := fun s => T ((a + o1 s) * 17 + (b + o2 s))) (W := fun s => W ((a + o1 s) * 17 + (b + o2 s))) (B := 20000 * ((n1 - a) + (n2 - b))) (by omega) 5 (fun s h1 h2 h3 => (hcand s h1 (by omega) h3).1.2)
    refine ⟨rfl, rfl, ?_, ?_⟩
    · have : p = (finN (stN (fun s => pr s a b) (fun s => ok s a b) (fun s => T ((a + o1 s) * 17 + (b + o2 s))) (fun s => W ((a + o1 s) * 17 + (b + o2 s))) 5)).1 := by rw [← hpw]
      rw [this]
      unfold finN
      split
      · exact ⟨by decide, by show (0 : Int) ≤ _; omega⟩
      · omega
    · have : w = (finN (stN (fun s => pr s a b) (fun s => ok s a b) (fun s => T ((a + o1 s) * 17 + (b + o2 s))) (fun s => W ((a + o1 s) * 17 + (b + o2 s))) 5)).2 := by rw [← hpw]
      rw [this]
      unfold finN
      split
      · decide
      · exact hin.2.2
  · have hx : ¬ a * 17 + b = i * 17 + j := by omega
    rw [e43 _ hx, e44 _ hx]
    exact hd a b ha1 ha2 hb1 hb2 (by omega)
/-- tables of like prices are alike -/
theorem rcG_uni {pr : Int → Int → Int → Int} {ok : Int → Int → Int → Bool} {n1 n2 : Int} {T W T' W' : Int → Int} (hG : GI pr ok n1 n2) (h : ∀ a b, 0 ≤ a → a ≤ n1 → 0 ≤ b → b ≤ n2 → rcG pr ok n1 n2 T W a b) (h' : ∀ a b, 0 ≤ a → a ≤ n1 → 0 ≤ b → b ≤ n2 → rcG pr ok n1 n2 T' W' a b) :
    ∀ (n : Nat) (a b : Int), 0 ≤ a → a ≤ n1 → 0 ≤ b → b ≤ n2 → (n1 - a) + (n2 - b) < n → T (a * 17 + b) = T' (a * 17 + b) ∧ W (a * 17 + b) = W' (a * 17 + b)
  | 0, a, b, h1, h2, h3, h4, h5 => by omega
  | n + 1, a, b, h1, h2, h3, h4, h5 => by
    have e : stN (fun s => pr s a b) (fun s => ok s a b) (fun s => T ((a + o1 s) * 17 + (b + o2 s))) (fun s => W ((a + o1 s) * 17 + (b + o2 s))) 5 = stN (fun s => pr s a b) (fun s => ok s a b) (fun s => T' ((a + o1 s) * 17 + (b + o2 s))) (fun s => W' ((a + o1 s) * 17 + (b + o2 s))) 5 := stN_congr 5 (fun s g1 g2 => ⟨rfl, fun g3 => by
      have ho := o_in (s := s) ⟨g1, by omega⟩
      obtain ⟨q1, q2, -⟩ := hG.2.2 s a b g1 (by omega) h1 h3 g3
      have ih := rcG_uni hG h h' n (a + o1 s) (b + o2 s) (by omega) q1 (by omega) q2 (by omega)
      exact ⟨rfl, ih.1, ih.2⟩⟩)
    obtain ⟨r1, r2, -⟩ := h a b h1 h2 h3 h4
    obtain ⟨r1', r2', -⟩ := h' a b h1 h2 h3 h4
    rw [r1, r2, r1', r2', e]
    exact ⟨rfl, rfl⟩
def mN1 (σ : Sto) : Int := σ 69 (σ 67 19)
def mN2 (σ : Sto) : Int := σ 69 (σ 67 20)
def stM (σ : Sto) (i j : Int) (n : Nat) : Int × Int := stN (fun s => mP σ s i j) (fun s => mOk σ s i j) (fun s => σ 77 ((i + o1 s) * 17 + (j + o2 s))) (fun s => σ 78 ((i + o1 s) * 17 + (j + o2 s))) n
def TabM (σ : Sto) : Prop := ∀ a b, 0 ≤ a → a ≤ mN1 σ → 0 ≤ b → b ≤ mN2 σ → rcG (mP σ) (mOk σ) (mN1 σ) (mN2 σ) (σ 77) (σ 78) a b
theorem GI_M {σ : Sto} (h : PrM σ) : GI (mP σ) (mOk σ) (mN1 σ) (mN2 σ) := by
  obtain ⟨h1, h2, ⟨q1, q2, q3, q4⟩, hl⟩ := id h
  exact ⟨q3 _ h1.1 h1.2, q3 _ h2.1 h2.2, fun s i j a b c d e => by
    have e := okB_iff.mp e
    have := mP_in h ⟨a, b⟩ c d e.2.1 e.2.2
    exact ⟨e.2.1, e.2.2, this.1, this.2⟩⟩
/-- the reference set together -/
def setM (σ : Sto) (l a b i0 j0 : Int) : Sto := su (su (su (su (su (su (su (su σ 67 19 a) 67 20 b) 67 21 (σ 75 (l * 4))) 67 22 (σ 75 (l * 4 + 1))) 67 23 (σ 75 (l * 4 + 2))) 67 24 (σ 75 (l * 4 + 3))) 67 25 i0) 67 26 j0
/-- the running least beside the steps' own -/
def BM (x : Int × Int) (tp bt mn : Int) : Prop := (x.1 = -1 ∧ ((tp = 1 ∧ bt = 0 ∧ mn = 1) ∨ (tp = 0 ∧ bt = 100000000 ∧ mn = 0))) ∨ (¬ x.1 = -1 ∧ bt = x.1 ∧ mn = x.2)
theorem cgM {ρ τ : Sto} (h : ∀ q : Nat, q ≠ 77 → q ≠ 78 → τ q = ρ q) : mP τ = mP ρ ∧ mOk τ = mOk ρ ∧ mN1 τ = mN1 ρ ∧ mN2 τ = mN2 ρ := by
  have e67 := h 67 (by decide) (by decide)
  have e69 := h 69 (by decide) (by decide)
  have e70 := h 70 (by decide) (by decide)
  have e71 := h 71 (by decide) (by decide)
  have e72 := h 72 (by decide) (by decide)
  refine ⟨?_, ?_, ?_, ?_⟩
  · funext s i j
    unfold mP
    rw [e67, e70, e71, e72]
  · funext s i j
    unfold mOk
    rw [e67, e69]
  · unfold mN1; rw [e67, e69]
  · unfold mN2; rw [e67, e69]

