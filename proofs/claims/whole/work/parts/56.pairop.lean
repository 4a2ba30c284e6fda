-- ===== both tables are alike, both ways are alike =====
/-- the reference is set together just as the class is -/
def SetM (σ ρ : Sto) (l a b bi bj : Int) : Prop := (ρ 67 19 = a ∧ ρ 67 20 = b) ∧ (ρ 67 21 = σ 38 (l * 4) ∧ ρ 67 22 = σ 38 (l * 4 + 1) ∧ ρ 67 23 = σ 38 (l * 4 + 2) ∧ ρ 67 24 = σ 38 (l * 4 + 3)) ∧ (ρ 67 25 = bi ∧ ρ 67 26 = bj) ∧ ρ 69 = σ 12 ∧ ρ 70 = σ 13 ∧ ρ 71 = σ 14 ∧ ρ 72 = σ 15
theorem two_ok {σ τ ρ : Sto} {l a b bi bj : Int} (hC : SetC σ τ l a b bi bj) (hM : SetM σ ρ l a b bi bj) (s i j : Int) : okB (τ 9 6) (τ 9 7) (τ 9 12) (τ 9 13) s i j = mOk ρ s i j := by
  obtain ⟨⟨c1, c2⟩, -, -, -, c3, c4⟩ := hC
  obtain ⟨⟨m1, m2⟩, -, ⟨m3, m4⟩, m5, -⟩ := hM
  unfold mOk
  rw [c1, c2, c3, c4, m1, m2, m3, m4, m5]
theorem two_pr {σ τ ρ : Sto} {l a b bi bj : Int} (hC : SetC σ τ l a b bi bj) (hM : SetM σ ρ l a b bi bj) {s i j : Int} (hs : 0 ≤ s ∧ s < 5) (hi : 0 ≤ i) (hj : 0 ≤ j) (ho : mOk ρ s i j = true) : prS (τ 39) (τ 40) (τ 41) (τ 42) (τ 9 8) (τ 9 9) (τ 9 10) (τ 9 11) s i j = mP ρ s i j := by
  have ok := okB_iff.mp ho
  obtain ⟨-, k1, k2, ⟨p1, p2, p3, p4⟩, -⟩ := hC
  obtain ⟨⟨m1, m2⟩, ⟨m6, m7, m8', m9⟩, -, m5, m10, m11, m12⟩ := hM
  unfold mP
  rw [p1, p2, p3, p4, m1, m2, m6, m7, m8', m9, m10, m11, m12]
  obtain ⟨-, o1', o2'⟩ := ok
  rw [m1, m5] at o1'
  rw [m2, m5] at o2'
  unfold prS
  have hc : s = 0 ∨ s = 1 ∨ s = 2 ∨ s = 3 ∨ s = 4 := by omega
  rcases hc with rfl | rfl | rfl | rfl | rfl
  · have q1 : i + 1 ≤ σ 12 a := o1'
    have q2 : j + 1 ≤ σ 12 b := o2'
    have u := k1 i hi (by omega)
    have v := k2 j hj (by omega)
    simp only [Int.reduceEq, if_true, if_false, reduceIte, u.1, u.2, v.1, v.2]
  · rfl
  · rfl
  · have q1 : i + 1 ≤ σ 12 a := o1'
    have q2 : j + 2 ≤ σ 12 b := o2'
    have u := k1 i hi (by omega)
    have v := k2 j hj (by omega)
    have w := k2 (j + 1) (by omega) (by omega)
    simp only [Int.reduceEq, if_true, if_false, reduceIte, u.1, u.2, v.1, v.2, w.1, w.2]
  · have q1 : i + 2 ≤ σ 12 a := o1'
    have q2 : j + 1 ≤ σ 12 b := o2'
    have u := k1 i hi (by omega)
    have w := k1 (i + 1) (by omega) (by omega)
    have v := k2 j hj (by omega)
    simp only [Int.reduceEq, if_true, if_false, reduceIte, u.1, u.2, v.1, v.2, w.1, w.2]
theorem two_tab {σ τ ρ : Sto} {l a b bi bj : Int} (hC : SetC σ τ l a b bi bj) (hM : SetM σ ρ l a b bi bj) (hT : TabC τ) (hU : TabM ρ) (hP : PrM ρ) : mN1 ρ = τ 9 6 ∧ mN2 ρ = τ 9 7 ∧ ∀ i j, 0 ≤ i → i ≤ τ 9 6 → 0 ≤ j → j ≤ τ 9 7 → τ 43 (i * 17 + j) = ρ 77 (i * 17 + j) ∧ τ 44 (i * 17 + j) = ρ 78 (i * 17 + j) := by
  have n1 : mN1 ρ = τ 9 6 := by
    unfold mN1
    rw [hM.1.1, hM.2.2.2.1, hC.1.1]
  have n2 : mN2 ρ = τ 9 7 := by
    unfold mN2
    rw [hM.1.2, hM.2.2.2.1, hC.1.2]
  have hG := GI_M hP
  have g1 := hG.1
  have g2 := hG.2.1
  refine ⟨n1, n2, fun i j i0 i1 j0 j1 => ?_⟩
  refine rcG_uni hG (T := τ 43) (W := τ 44) (fun x y x0 x1 y0 y1 => ?_) hU 100 i j i0 (by rw [n1]; exact i1) j0 (by rw [n2]; exact j1) (by omega)
  obtain ⟨r1, r2, r3, r4⟩ := hT x y x0 (by rw [← n1]; exact x1) y0 (by rw [← n2]; exact y1)
  have e : stC τ x y 5 = stN (fun s => mP ρ s x y) (fun s => mOk ρ s x y) (fun s => τ 43 ((x + o1 s) * 17 + (y + o2 s))) (fun s => τ 44 ((x + o1 s) * 17 + (y + o2 s))) 5 := stN_congr 5 (fun s s0 s1 => ⟨two_ok hC hM s x y, fun ho => ⟨two_pr hC hM ⟨s0, by omega⟩ x0 y0 (by rw [← two_ok hC hM]; exact ho), rfl, rfl⟩⟩)
  rw [e] at r1 r2
  rw [← n1, ← n2] at r3
  exact ⟨r1, r2, r3, r4⟩
theorem two_fs {σ τ ρ : Sto} {l a b bi bj : Int} (hC : SetC σ τ l a b bi bj) (hM : SetM σ ρ l a b bi bj) (hT : TabC τ) (hU : TabM ρ) (hP : PrM ρ) {i j : Int} (i0 : 0 ≤ i) (i1 : i ≤ τ 9 6) (j0 : 0 ≤ j) (j1 : j ≤ τ 9 7) : fsC τ i j = fsM ρ i j := by
  obtain ⟨n1, n2, tt⟩ := two_tab hC hM hT hU hP
  refine ff_congr 5 0 (fun s s0 s1 => ?_)
  unfold fsP fsQ
  rw [two_ok hC hM]
  cases ho : mOk ρ s i j with
  | false => rfl
  | true =>
    have ok := okB_iff.mp ho
    have hso := o_in (s := s) ⟨s0, by omega⟩
    have q1 : i + o1 s ≤ τ 9 6 := by rw [← n1]; exact ok.2.1
    have q2 : j + o2 s ≤ τ 9 7 := by rw [← n2]; exact ok.2.2
    rw [two_pr hC hM ⟨s0, by omega⟩ i0 j0 ho, (tt i j i0 i1 j0 j1).1, (tt (i + o1 s) (j + o2 s) (by omega) q1 (by omega) q2).1]
theorem two_pth {σ τ ρ : Sto} {l a b bi bj : Int} (hC : SetC σ τ l a b bi bj) (hM : SetM σ ρ l a b bi bj) (hT : TabC τ) (hI : PrI τ) (hU : TabM ρ) (hP : PrM ρ) : ∀ k : Nat, pth (fsC τ) k = pth (fsM ρ) k ∧ (0 ≤ (pth (fsC τ) k).1 ∧ (pth (fsC τ) k).1 ≤ τ 9 6) ∧ (0 ≤ (pth (fsC τ) k).2 ∧ (pth (fsC τ) k).2 ≤ τ 9 7)
  | 0 => ⟨rfl, ⟨Int.le_refl _, hI.1.1⟩, ⟨Int.le_refl _, hI.2.1.1⟩⟩
  | k + 1 => by
    obtain ⟨h1, h2, h3⟩ := two_pth hC hM hT hI hU hP k
    have e := two_fs hC hM hT hU hP h2.1 h2.2 h3.1 h3.2
    have u := fsC_in hI hT h2 h3
    show (if fsC τ (pth (fsC τ) k).1 (pth (fsC τ) k).2 = -1 then pth (fsC τ) k else _) = (if fsM ρ (pth (fsM ρ) k).1 (pth (fsM ρ) k).2 = -1 then pth (fsM ρ) k else _) ∧ (0 ≤ (if fsC τ (pth (fsC τ) k).1 (pth (fsC τ) k).2 = -1 then pth (fsC τ) k else _).1 ∧ (if fsC τ (pth (fsC τ) k).1 (pth (fsC τ) k).2 = -1 then pth (fsC τ) k else _).1 ≤ τ 9 6) ∧ (0 ≤ (if fsC τ (pth (fsC τ) k).1 (pth (fsC τ) k).2 = -1 then pth (fsC τ) k else _).2 ∧ (if fsC τ (pth (fsC τ) k).1 (pth (fsC τ) k).2 = -1 then pth (fsC τ) k else _).2 ≤ τ 9 7)
    rw [← h1, ← e]
    by_cases c : fsC τ (pth (fsC τ) k).1 (pth (fsC τ) k).2 = -1
    · rw [if_pos c]
      exact ⟨rfl, h2, h3⟩
    · rw [if_neg c]
      have u2 := u.resolve_left (fun z => c z.1)
      have ho := o_in (s := fsC τ (pth (fsC τ) k).1 (pth (fsC τ) k).2) ⟨u2.1, u2.2.1⟩
      refine ⟨rfl, ⟨?_, u2.2.2.1⟩, ⟨?_, u2.2.2.2⟩⟩
      · show 0 ≤ (pth (fsC τ) k).1 + _
        omega
      · show 0 ≤ (pth (fsC τ) k).2 + _
        omega
/-- the step that a leaf lies under -/
theorem pth_at {fs : Int → Int → Int} {x : Int} (x0 : 0 ≤ x) : ∀ K : Nat, x < (pth fs K).1 → ∃ k : Nat, k < K ∧ (pth fs k).1 ≤ x ∧ x < (pth fs (k + 1)).1
  | 0, h => by
    have h : x < 0 := h
    omega
  | K + 1, h => by
    by_cases c : x < (pth fs K).1
    · obtain ⟨k, h1, h2, h3⟩ := pth_at x0 K c
      exact ⟨k, by omega, h2, h3⟩
    · exact ⟨K, by omega, by omega, h⟩
theorem two_way {σ τ τ2 ρ ρ2 : Sto} {l a b bi bj : Int} {K K' : Nat} (hC : SetC σ τ l a b bi bj) (hM : SetM σ ρ l a b bi bj) (hT : TabC τ) (hI : PrI τ) (hU : TabM ρ) (hP : PrM ρ)
    (c1 : fsC τ (pth (fsC τ) K).1 (pth (fsC τ) K).2 = -1) (c2 : pth (fsC τ) K = (τ 9 6, τ 9 7)) (c3 : WayR (fsC τ) K (τ2 45) (τ2 46) (τ2 47))
    (m1 : fsM ρ (pth (fsM ρ) K').1 (pth (fsM ρ) K').2 = -1) (m3 : WayM (fsM ρ) K' (ρ2 79) (ρ2 80) (ρ2 81)) :
    K = K' ∧ (∀ k : Nat, k < K → τ2 45 k = ρ2 79 k) ∧ ∀ x, 0 ≤ x → x < τ 9 6 → τ2 46 x = ρ2 80 x ∧ (τ2 47 x = 0 ↔ ρ2 81 x = 1) ∧ (ρ2 81 x = 0 ∨ ρ2 81 x = 1) ∧ (τ2 47 x = 0 → -1 ≤ τ2 46 x ∧ τ2 46 x ≤ 16) := by
  have tp := two_pth hC hM hT hI hU hP
  have ef : ∀ k : Nat, fsM ρ (pth (fsM ρ) k).1 (pth (fsM ρ) k).2 = fsC τ (pth (fsC τ) k).1 (pth (fsC τ) k).2 := fun k => by
    obtain ⟨h1, h2, h3⟩ := tp k
    rw [← h1, two_fs hC hM hT hU hP h2.1 h2.2 h3.1 h3.2]
  have eK : K = K' := by
    rcases Nat.lt_trichotomy K K' with h | h | h
    · exact absurd (by rw [ef K]; exact c1) (m3 K h).1
    · exact h
    · exact absurd (by rw [← ef K']; exact m1) (c3 K' h).1
  subst eK
  refine ⟨rfl, fun k hk => by rw [(c3 k hk).2.1, (m3 k hk).2.1, ef k], fun x x0 x1 => ?_⟩
  obtain ⟨k, k1, k2, k3⟩ := pth_at (fs := fsC τ) x0 K (by rw [c2]; exact x1)
  obtain ⟨h1, h2, h3⟩ := tp k
  obtain ⟨h1', -, -⟩ := tp (k + 1)
  have hi2 := hI.2.1
  have cc := (c3 k k1).2.2 x k2 k3
  have mm := (m3 k k1).2.2 x (by rw [← h1]; exact k2) (by rw [← h1']; exact k3)
  rw [ef k] at mm
  have u := (fsC_in hI hT h2 h3).resolve_left (fun z => (c3 k k1).1 z.1)
  rw [cc.1, cc.2, mm.1, mm.2, ← h1]
  generalize fsC τ (pth (fsC τ) k).1 (pth (fsC τ) k).2 = s at *
  have hc : s = 0 ∨ s = 1 ∨ s = 2 ∨ s = 3 ∨ s = 4 := by omega
  rcases hc with rfl | rfl | rfl | rfl | rfl
  · rw [if_neg (by decide), if_neg (by decide), if_pos rfl]
    exact ⟨rfl, ⟨fun _ => rfl, fun _ => rfl⟩, Or.inr rfl, fun _ => by omega⟩
  all_goals
    refine ⟨by simp [o2], ⟨fun z => absurd z (by decide), fun z => ?_⟩, ?_, fun z => absurd z (by decide)⟩
    · rw [if_neg (by decide)] at z; exact absurd z (by decide)
    · rw [if_neg (by decide)]; exact Or.inl rfl
theorem SetM_of {σ τ ρ : Sto} {l a b bi bj : Int} (hR : Rel σ) (hs : sameS τ σ) (h : ∀ q : Nat, q ≠ 77 → q ≠ 78 → ρ q = setM τ l a b bi bj q) : SetM σ ρ l a b bi bj := by
  obtain ⟨-, ⟨e1, e2, e3, e4, e5, e6, e7, e8, -⟩, -, -, ⟨l1, l2, l3, l4⟩, -⟩ := hR
  have h75 : τ 75 = σ 38 := by rw [hs.1 75 rfl, l3]
  unfold SetM
  rw [h 67 (by decide) (by decide), h 69 (by decide) (by decide), h 70 (by decide) (by decide), h 71 (by decide) (by decide), h 72 (by decide) (by decide)]
  unfold setM
  rw [h75]
  refine ⟨⟨rfl, rfl⟩, ⟨rfl, rfl, rfl, rfl⟩, ⟨rfl, rfl⟩, ?_, ?_, ?_, ?_⟩
  · rw [su_r (by decide), su_r (by decide), su_r (by decide), su_r (by decide), su_r (by decide), su_r (by decide), su_r (by decide), su_r (by decide), hs.1 69 rfl, e5]
  · rw [su_r (by decide), su_r (by decide), su_r (by decide), su_r (by decide), su_r (by decide), su_r (by decide), su_r (by decide), su_r (by decide), hs.1 70 rfl, e6]
  · rw [su_r (by decide), su_r (by decide), su_r (by decide), su_r (by decide), su_r (by decide), su_r (by decide), su_r (by decide), su_r (by decide), hs.1 71 rfl, e7]
  · rw [su_r (by decide), su_r (by decide), su_r (by decide), su_r (by decide), su_r (by decide), su_r (by decide), su_r (by decide), su_r (by decide), hs.1 72 rfl, e8]
theorem setM_same {τ ρ : Sto} {l a b bi bj : Int} (h : ∀ q : Nat, q ≠ 77 → q ≠ 78 → ρ q = setM τ l a b bi bj q) : sameS ρ τ := by
  have k : ∀ q : Nat, q ≠ 67 → q ≠ 77 → q ≠ 78 → ρ q = τ q := fun q q1 q2 q3 => by
    rw [h q q2 q3]
    unfold setM
    rw [su_r q1, su_r q1, su_r q1, su_r q1, su_r q1, su_r q1, su_r q1, su_r q1]
  refine ⟨fun p hp => k p (by rintro rfl; exact absurd hp (by decide)) (by rintro rfl; exact absurd hp (by decide)) (by rintro rfl; exact absurd hp (by decide)), fun i hi => ?_, by rw [k 5 (by decide) (by decide) (by decide)], by rw [k 0 (by decide) (by decide) (by decide)], by rw [k 0 (by decide) (by decide) (by decide)], by rw [k 0 (by decide) (by decide) (by decide)]⟩
  rw [h 67 (by decide) (by decide)]
  unfold slM at hi
  have hi := of_decide_eq_true hi
  unfold setM
  rw [su_at, if_neg (by omega), su_at, if_neg (by omega), su_at, if_neg (by omega), su_at, if_neg (by omega), su_at, if_neg (by omega), su_at, if_neg (by omega), su_at, if_neg (by omega), su_at, if_neg (by omega)]
theorem offP_same {σ τ : Sto} (h : offP σ τ) : sameS τ σ := sameS_p (fun p hp => h p (fun z => by
  rcases z with rfl | ⟨z1, z2⟩
  · rcases hp with hp | hp | hp | hp <;> first | omega | exact absurd hp (by decide)
  · have hz : stP p = false := by
      have : p = 39 ∨ p = 40 ∨ p = 41 ∨ p = 42 ∨ p = 43 ∨ p = 44 ∨ p = 45 ∨ p = 46 ∨ p = 47 := by omega
      rcases this with rfl | rfl | rfl | rfl | rfl | rfl | rfl | rfl | rfl <;> rfl
    rcases hp with hp | hp | hp | hp
    · rw [hz] at hp; exact absurd hp (by simp)
    · omega
    · omega
    · omega))
theorem offW_off {σ τ : Sto} (h : offW σ τ) : offP σ τ := fun q hq => h.1 q (by omega) (by omega)
theorem offM_same {σ τ : Sto} (h : offM σ τ) : sameS τ σ := by
  have k : ∀ p : Nat, stP p = true ∨ p = 5 ∨ p = 0 → τ p = σ p := fun p hp => h.1 p (by
    rintro rfl
    rcases hp with hp | hp | hp
    · exact absurd hp (by decide)
    · omega
    · omega) (fun z => by
    have hz : stP p = false := by
      have : p = 79 ∨ p = 80 ∨ p = 81 := by omega
      rcases this with rfl | rfl | rfl <;> rfl
    rcases hp with hp | hp | hp
    · rw [hz] at hp; exact absurd hp (by simp)
    · omega
    · omega)
  refine ⟨fun p hp => k p (Or.inl hp), fun i hi => h.2 i (by rintro rfl; exact absurd hi (by decide)), by rw [k 5 (Or.inr (Or.inl rfl))], by rw [k 0 (Or.inr (Or.inr rfl))], by rw [k 0 (Or.inr (Or.inr rfl))], by rw [k 0 (Or.inr (Or.inr rfl))]⟩
theorem Rel_QC {σ : Sto} (h : Rel σ) : QI (σ 13) (σ 14) (σ 15) (σ 12) (σ 38) := ⟨h.1.2.2.1, h.1.2.2.2.1, h.1.2.1, h.2.2.2.2.1.2.2.2⟩
theorem Rel_QM {σ : Sto} (h : Rel σ) : QI (σ 70) (σ 71) (σ 72) (σ 69) (σ 75) := by
  have q := Rel_QC h
  obtain ⟨-, ⟨e1, e2, e3, e4, e5, e6, e7, e8, -⟩, -, -, ⟨l1, l2, l3, l4⟩, -⟩ := h
  rw [e5, e6, e7, e8, l3]
  exact q

