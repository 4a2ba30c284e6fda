-- ===== class and reference hold the same =====
/-- a picture of pits and bonds is in order; kb and tb are the class's bits of what kp and td say -/
def Pic (n J kb tb lk : Int) (mi sz kd th nm fa fb lo hi db tl tu kp td : Int → Int) : Prop :=
  (0 ≤ n ∧ n ≤ 7) ∧ (∀ p, 0 ≤ p → p < 7 → 0 ≤ sz p ∧ sz p ≤ 16) ∧ PI kd nm ∧ (∀ j, 0 ≤ j → j < 112 → 0 ≤ th j ∧ th j ≤ 99) ∧ (∀ p, 0 ≤ p → p < 7 → 0 ≤ mi p ∧ mi p ≤ 240) ∧
  (0 ≤ J ∧ J ≤ 12) ∧ (∀ j, 0 ≤ j → j < J → JI (fa j) (fb j) (lo j) (hi j) ∧ (fa j < n ∧ fb j < n)) ∧ (∀ j, 0 ≤ j → j < 12 → 0 ≤ db j ∧ db j ≤ 99) ∧ (∀ p, 0 ≤ p → p < 7 → (-9999 ≤ tl p ∧ tl p ≤ 9999) ∧ (-9999 ≤ tu p ∧ tu p ≤ 9999)) ∧
  (0 ≤ kb ∧ kb < 4096) ∧ (∀ j, 0 ≤ j → j < 32 → (bb kb j = true ↔ j < J ∧ ¬ kp j = 0)) ∧ (∀ j, 0 ≤ j → j < 12 → kp j = 0 ∨ kp j = 1) ∧
  (0 ≤ tb ∧ tb < 128) ∧ (∀ p, 0 ≤ p → p < 32 → (bb tb p = true ↔ p < n ∧ ¬ td p = 0)) ∧ (∀ p, 0 ≤ p → p < 7 → td p = 0 ∨ td p = 1) ∧ (lk = 0 ∨ lk = 1)
def RCur (σ : Sto) : Prop := Pic (σ 1 0) (σ 2 0) (σ 2 6) (σ 2 7) (σ 2 10) (σ 11) (σ 12) (σ 13) (σ 14) (σ 15) (σ 16) (σ 17) (σ 18) (σ 19) (σ 20) (σ 21) (σ 22) (σ 87) (σ 88)
def REq (σ : Sto) : Prop := σ 67 0 = σ 1 0 ∧ σ 67 32 = σ 2 0 ∧ σ 67 42 = σ 2 10 ∧ σ 68 = σ 11 ∧ σ 69 = σ 12 ∧ σ 70 = σ 13 ∧ σ 71 = σ 14 ∧ σ 72 = σ 15 ∧ σ 82 = σ 16 ∧ σ 83 = σ 17 ∧ σ 84 = σ 18 ∧ σ 85 = σ 19 ∧ σ 86 = σ 20 ∧ σ 89 = σ 21 ∧ σ 90 = σ 22
def RPage (σ : Sto) : Prop := σ 67 8 = σ 5 0 ∧ (0 ≤ σ 5 0 ∧ σ 5 0 ≤ 30) ∧ σ 73 = σ 35 ∧ (∀ j, 0 ≤ j → j < 30 → 0 ≤ σ 35 j ∧ σ 35 j ≤ 126)
def RHand (σ : Sto) : Prop := σ 67 9 = σ 6 1 ∧ (0 ≤ σ 6 1 ∧ σ 6 1 ≤ 4) ∧ TI (σ 37) 35 ∧ TI (σ 74) 28 ∧ (∀ c, 0 ≤ c → c < 7 → σ 37 c = -1) ∧ (∀ h c, 0 ≤ h → h < σ 6 1 → 0 ≤ c → c < 7 → σ 37 ((h + 1) * 7 + c) = σ 74 (h * 7 + c))
def RLaw (σ : Sto) : Prop := σ 67 11 = σ 7 0 ∧ (0 ≤ σ 7 0 ∧ σ 7 0 ≤ 4) ∧ σ 75 = σ 38 ∧ (∀ j, 0 ≤ j → j < 16 → 0 ≤ σ 38 j ∧ σ 38 j ≤ 99)
def RImg (σ : Sto) : Prop := (σ 0 4 = 0 ∧ σ 67 46 = -1) ∨ (σ 0 4 = 1 ∧ Pic (σ 3 0) (σ 4 0) (σ 4 6) (σ 4 7) (σ 4 10) (σ 23) (σ 24) (σ 25) (σ 26) (σ 27) (σ 28) (σ 29) (σ 30) (σ 31) (σ 32) (σ 33) (σ 34) (fun j => σ 96 (j * 6 + 5)) (fun p => σ 97 (p * 3)) ∧ σ 67 46 = σ 3 0 ∧ σ 67 47 = σ 4 0 ∧ σ 67 48 = σ 4 10 ∧ (∀ p, 0 ≤ p → p < 7 → σ 93 p = σ 23 p ∧ σ 94 p = σ 24 p ∧ σ 97 (p * 3 + 1) = σ 33 p ∧ σ 97 (p * 3 + 2) = σ 34 p) ∧ (∀ k, 0 ≤ k → k < 112 → σ 95 (k * 3) = σ 25 k ∧ σ 95 (k * 3 + 1) = σ 26 k ∧ σ 95 (k * 3 + 2) = σ 27 k) ∧ (∀ j, 0 ≤ j → j < 12 → σ 96 (j * 6) = σ 28 j ∧ σ 96 (j * 6 + 1) = σ 29 j ∧ σ 96 (j * 6 + 2) = σ 30 j ∧ σ 96 (j * 6 + 3) = σ 31 j ∧ σ 96 (j * 6 + 4) = σ 32 j))
def RCnt (σ : Sto) : Prop := σ 67 31 = σ 0 11 ∧ (0 ≤ σ 0 11 ∧ σ 0 11 ≤ 100) ∧ σ 67 45 = σ 0 12 ∧ (0 ≤ σ 0 12 ∧ σ 0 12 ≤ 8)
def Rel (σ : Sto) : Prop := RCur σ ∧ REq σ ∧ RPage σ ∧ RHand σ ∧ RLaw σ ∧ RImg σ ∧ RCnt σ
/-- what the second call of a pair must do -/
def Mid (C : Ctr) (A : List AV) (S : Int → Int) (v : Int) (τ : Sto) : Prop := ∀ κ : List AV → Sto → Prop, (∀ τ' : Sto, Rel τ' → τ' 102 = S → κ [vI v] τ') → C A τ κ
def MidL (C : Ctr) (A : List AV) (S : Int → Int) (v : Int) (τ : Sto) : Prop := ∀ κ : List AV → Sto → Prop, (∀ τ' : Sto, Rel τ' → τ' 102 = S → κ [vL v] τ') → C A τ κ
/-- places and slots that hold the state -/
def stP (p : Nat) : Bool := decide ((1 ≤ p ∧ p ≤ 4) ∨ p = 6 ∨ p = 7 ∨ (11 ≤ p ∧ p ≤ 38 ∧ ¬ p = 36) ∨ (68 ≤ p ∧ p ≤ 75) ∨ (82 ≤ p ∧ p ≤ 90) ∨ (93 ≤ p ∧ p ≤ 102))
def slM (i : Int) : Bool := decide (i = 0 ∨ i = 8 ∨ i = 9 ∨ i = 11 ∨ i = 31 ∨ i = 32 ∨ i = 42 ∨ i = 45 ∨ i = 46 ∨ i = 47 ∨ i = 48)
def sameS (τ σ : Sto) : Prop := (∀ p : Nat, stP p = true → τ p = σ p) ∧ (∀ i, slM i = true → τ 67 i = σ 67 i) ∧ τ 5 0 = σ 5 0 ∧ τ 0 4 = σ 0 4 ∧ τ 0 11 = σ 0 11 ∧ τ 0 12 = σ 0 12
theorem Rel_e {τ σ : Sto} (h : sameS τ σ) (hR : Rel σ) : Rel τ := by
  obtain ⟨h1, h2, h3, h4, h5, h6⟩ := h
  unfold Rel RCur REq RPage RHand RLaw RImg RCnt at *
  simp only [h1 1 rfl, h1 2 rfl, h1 3 rfl, h1 4 rfl, h1 6 rfl, h1 7 rfl, h1 11 rfl, h1 12 rfl, h1 13 rfl, h1 14 rfl, h1 15 rfl, h1 16 rfl, h1 17 rfl, h1 18 rfl, h1 19 rfl, h1 20 rfl, h1 21 rfl, h1 22 rfl, h1 23 rfl, h1 24 rfl, h1 25 rfl, h1 26 rfl, h1 27 rfl, h1 28 rfl, h1 29 rfl, h1 30 rfl, h1 31 rfl, h1 32 rfl, h1 33 rfl, h1 34 rfl, h1 35 rfl, h1 37 rfl, h1 38 rfl, h1 68 rfl, h1 69 rfl, h1 70 rfl, h1 71 rfl, h1 72 rfl, h1 73 rfl, h1 74 rfl, h1 75 rfl, h1 82 rfl, h1 83 rfl, h1 84 rfl, h1 85 rfl, h1 86 rfl, h1 87 rfl, h1 88 rfl, h1 89 rfl, h1 90 rfl, h1 93 rfl, h1 94 rfl, h1 95 rfl, h1 96 rfl, h1 97 rfl, h2 0 rfl, h2 8 rfl, h2 9 rfl, h2 11 rfl, h2 31 rfl, h2 32 rfl, h2 42 rfl, h2 45 rfl, h2 46 rfl, h2 47 rfl, h2 48 rfl, h3, h4, h5, h6]
  exact hR
theorem sameS_r (σ : Sto) : sameS σ σ := ⟨fun _ _ => rfl, fun _ _ => rfl, rfl, rfl, rfl, rfl⟩
theorem sameS_t {τ σ ρ : Sto} (h : sameS τ σ) (h' : sameS σ ρ) : sameS τ ρ := ⟨fun p hp => (h.1 p hp).trans (h'.1 p hp), fun i hi => (h.2.1 i hi).trans (h'.2.1 i hi), h.2.2.1.trans h'.2.2.1, h.2.2.2.1.trans h'.2.2.2.1, h.2.2.2.2.1.trans h'.2.2.2.2.1, h.2.2.2.2.2.trans h'.2.2.2.2.2⟩
/-- other places may change -/
theorem sameS_p {τ σ : Sto} (h : ∀ p : Nat, (stP p = true ∨ p = 67 ∨ p = 5 ∨ p = 0) → τ p = σ p) : sameS τ σ := ⟨fun p hp => h p (Or.inl hp), fun i _ => by rw [h 67 (Or.inr (Or.inl rfl))], by rw [h 5 (Or.inr (Or.inr (Or.inl rfl)))], by rw [h 0 (Or.inr (Or.inr (Or.inr rfl)))], by rw [h 0 (Or.inr (Or.inr (Or.inr rfl)))], by rw [h 0 (Or.inr (Or.inr (Or.inr rfl)))]⟩
theorem stP_n {p q : Nat} (hq : stP q = false) (h67 : ¬ q = 67) (h5 : ¬ q = 5) (h0 : ¬ q = 0) (h : stP p = true ∨ p = 67 ∨ p = 5 ∨ p = 0) : p ≠ q := by
  rintro rfl
  rcases h with h | h | h | h
  · rw [hq] at h; exact absurd h (by simp)
  · exact h67 h
  · exact h5 h
  · exact h0 h
theorem Rel_cI {σ : Sto} (h : Rel σ) : NIc σ := by
  obtain ⟨⟨c1, c2, c3, c4, c5, c6, c7, c8, c9, c10, c11, c12, c13, c14, c15, c16⟩, -, -, ⟨h1, h2, h3, h4, h5, h6⟩, -⟩ := h
  exact ⟨c1, c6, c2, c3, h3, h5, fun j j0 j1 => (c7 j j0 j1).1, fun p p0 p1 _ => c9 p p0 (by omega)⟩
theorem Rel_mI {σ : Sto} (h : Rel σ) : NIm σ := by
  obtain ⟨⟨c1, c2, c3, c4, c5, c6, c7, c8, c9, c10, c11, c12, c13, c14, c15, c16⟩, ⟨e1, e2, e3, e4, e5, e6, e7, e8, e9, e10, e11, e12, e13, e14, e15⟩, -, ⟨h1, h2, h3, h4, h5, h6⟩, -⟩ := h
  unfold NIm
  rw [e1, e2, e5, e6, e8, e9, e10, e11, e12, e14, e15]
  exact ⟨c1, c6, c2, c3, h4, fun j j0 j1 => (c7 j j0 j1).1, fun p p0 p1 _ => c9 p p0 (by omega)⟩
/-- a hand's row is the same on both sides -/
theorem Rel_hs {σ : Sto} (h : Rel σ) {d p n : Int} (hd : -1 ≤ d ∧ d < σ 6 1) (hp : 0 ≤ p ∧ p < 7) (hn : 0 ≤ n ∧ n ≤ 16) : hsum (rowS (σ 74) d) (σ 70) (σ 72) p n = hsum (fun c => σ 37 ((d + 1) * 7 + c)) (σ 13) (σ 15) p n := by
  obtain ⟨⟨c1, c2, c3, -⟩, ⟨e1, e2, e3, e4, e5, e6, e7, e8, -⟩, -, ⟨h1, h2, h3, h4, h5, h6⟩, -⟩ := h
  rw [e6, e8]
  refine sumI_congr (fun i i0 i1 => ?_)
  have k := c3 (p * 16 + i) (by omega) (by omega)
  have e : rowS (σ 74) d (σ 13 (p * 16 + i)) = σ 37 ((d + 1) * 7 + σ 13 (p * 16 + i)) := by
    unfold rowS
    by_cases c : d = -1
    · rw [if_pos c, c, show (-1 + 1 : Int) * 7 + σ 13 (p * 16 + i) = σ 13 (p * 16 + i) by omega, h5 _ k.1 (by omega)]
    · rw [if_neg c, h6 d _ (by omega) hd.2 k.1 (by omega)]
  show hv (rowS (σ 74) d) _ _ = hv (fun c => σ 37 ((d + 1) * 7 + c)) _ _
  unfold hv
  rw [e]
theorem Rel_hp {σ : Sto} (h : Rel σ) {p n : Int} (hp : 0 ≤ p ∧ p < 7) (hn : 0 ≤ n ∧ n ≤ 16) : hsum (fun c => σ 37 ((-1 + 1) * 7 + c)) (σ 13) (σ 15) p n = hsum (fun _ => -1) (σ 13) (σ 15) p n := by
  obtain ⟨⟨c1, c2, c3, -⟩, -, -, ⟨h1, h2, h3, h4, h5, h6⟩, -⟩ := h
  refine sumI_congr (fun i i0 i1 => ?_)
  have k := c3 (p * 16 + i) (by omega) (by omega)
  exact hv_pl (by show σ 37 ((-1 + 1) * 7 + _) = -1; rw [show (-1 + 1 : Int) * 7 + σ 13 (p * 16 + i) = σ 13 (p * 16 + i) by omega]; exact h5 _ k.1 (by omega))
/-- the sets of constraints are the same on both sides -/
theorem Rel_kt {σ : Sto} (h : Rel σ) {j : Int} (j0 : 0 ≤ j) (j1 : j < σ 2 0) : ktC σ j ↔ ktM σ j := by
  obtain ⟨⟨c1, c2, c3, c4, c5, c6, c7, c8, c9, c10, c11, c12, c13, c14, c15, c16⟩, -⟩ := h
  unfold ktC ktM
  rw [and_bit j0 (by omega), c11 j j0 (by omega)]
  exact ⟨fun z => z.2, fun z => ⟨j1, z⟩⟩
theorem Rel_td {σ : Sto} (h : Rel σ) {p : Int} (p0 : 0 ≤ p) (p1 : p < σ 1 0) : tdC σ p ↔ ¬ σ 88 p = 0 := by
  obtain ⟨⟨c1, c2, c3, c4, c5, c6, c7, c8, c9, c10, c11, c12, c13, c14, c15, c16⟩, -⟩ := h
  unfold tdC
  rw [and_bit p0 (by omega), c14 p p0 (by omega)]
  exact ⟨fun z => z.2, fun z => ⟨p1, z⟩⟩
theorem Rel_K {σ : Sto} (h : Rel σ) {S S' : Int → Prop} (hS : ∀ j, 0 ≤ j → j < σ 2 0 → (S j ↔ S' j)) : ∀ a b lo hi, orK (KF σ) (KJc σ S) a b lo hi ↔ KM σ S' a b lo hi := by
  have ht := fun p p0 p1 => Rel_td h (p := p) p0 p1
  obtain ⟨-, ⟨e1, e2, e3, e4, e5, e6, e7, e8, e9, e10, e11, e12, e13, e14, e15⟩, -⟩ := h
  intro a b lo hi
  unfold KM KMd KF KTc KAc KJc orK
  rw [e1, e2, e3, e5, e6, e8, e9, e10, e11, e12, e14, e15]
  have k1 : KJ S (σ 2 0) (σ 16) (σ 17) (σ 18) (σ 19) a b lo hi ↔ KJ S' (σ 2 0) (σ 16) (σ 17) (σ 18) (σ 19) a b lo hi := ⟨fun ⟨j, z0, z1, z2, z3⟩ => ⟨j, z0, z1, (hS j z0 z1).mp z2, z3⟩, fun ⟨j, z0, z1, z2, z3⟩ => ⟨j, z0, z1, (hS j z0 z1).mpr z2, z3⟩⟩
  have k2 : KT (tdC σ) (σ 1 0) (σ 21) (σ 22) a b lo hi ↔ KT (fun p => ¬ σ 88 p = 0) (σ 1 0) (σ 21) (σ 22) a b lo hi := ⟨fun ⟨j, z0, z1, z2, z3⟩ => ⟨j, z0, z1, (ht j z0 z1).mp z2, z3⟩, fun ⟨j, z0, z1, z2, z3⟩ => ⟨j, z0, z1, (ht j z0 z1).mpr z2, z3⟩⟩
  rw [k1, k2]
  constructor
  · rintro ((z | z) | z) <;> simp [z]
  · rintro ((z | z) | z) <;> simp [z]
theorem Rel_KC {σ : Sto} (h : Rel σ) : KC σ = KM σ (ktM σ) := by
  funext a b lo hi
  exact propext (Rel_K h (fun j j0 j1 => Rel_kt h j0 j1) a b lo hi)
theorem Rel_KCm {σ : Sto} (h : Rel σ) (i : Int) : KCm σ i = KMm σ i := by
  funext a b lo hi
  exact propext (Rel_K h (fun j j0 j1 => by rw [Rel_kt h j0 j1]) a b lo hi)
theorem Rel_Fea {σ : Sto} (h : Rel σ) (c : Int) : FeaC σ c ↔ FeaM σ c := by
  unfold FeaC FeaM
  have e2 : σ 67 32 = σ 2 0 := h.2.1.2.1
  rw [e2]
  have : (orK (KF σ) (KJc σ (fun j => ktC σ j ∧ bb c j = false))) = KM σ (fun j => ktM σ j ∧ bb c j = false) := by
    funext a b lo hi
    exact propext (Rel_K h (fun j j0 j1 => by rw [Rel_kt h j0 j1]) a b lo hi)
  rw [this]
  refine and_congr Iff.rfl (and_congr ⟨fun z i i0 i1 q => ⟨(z i i0 i1 q).1, (Rel_kt h i0 (z i i0 i1 q).1).mp (z i i0 i1 q).2⟩, fun z i i0 i1 q => ⟨(z i i0 i1 q).1, (Rel_kt h i0 (z i i0 i1 q).1).mpr (z i i0 i1 q).2⟩⟩ Iff.rfl)

