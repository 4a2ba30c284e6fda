-- ===== what the page says: pure =====
/-- item (-1: none yet), items so far, digits of the item, numbers -/
abbrev Zr := Int × Int × Int × (Int → Int)
def ltm (ml c : Int) : Int := if ml = 1 then hlt c else llt c
def nnm (ml : Int) : Int := if ml = 1 then 7 else 4
def mxm (ml : Int) : Int := if ml = 1 then 9 else 99
def stp (ml c : Int) (z : Zr) : Option Zr :=
  if z.1 = -1 then (if 0 ≤ ltm ml c ∧ z.2.2.2 (ltm ml c) = -1 then some (ltm ml c, z.2.1 + 1, 0, z.2.2.2) else none)
  else if (48 ≤ c ∧ c ≤ 57) ∧ z.2.2.1 < ml then some (z.1, z.2.1, z.2.2.1 + 1, upI z.2.2.2 z.1 ((if z.2.2.1 = 0 then 0 else 10 * z.2.2.2 z.1) + c - 48))
  else if c = 44 ∧ 0 < z.2.2.1 ∧ z.2.1 < nnm ml then some (-1, z.2.1, z.2.2.1, z.2.2.2) else none
def rdk (ml : Int) (f : Int → Int) : Nat → Option Zr
  | 0 => some (-1, 0, 0, fun _ => -1)
  | k + 1 => (rdk ml f k).bind (stp ml (f (k : Int)))
def ZI (ml : Int) (z : Zr) : Prop := (-1 ≤ z.1 ∧ z.1 < nnm ml) ∧ (0 ≤ z.2.1 ∧ z.2.1 ≤ 7 ∧ (z.1 = -1 → z.2.1 ≤ 6)) ∧ (0 ≤ z.2.2.1 ∧ z.2.2.1 ≤ ml) ∧ (∀ j, 0 ≤ j → j < 7 → -1 ≤ z.2.2.2 j ∧ z.2.2.2 j ≤ mxm ml) ∧ (¬ z.1 = -1 → z.2.2.1 = 1 → 0 ≤ z.2.2.2 z.1 ∧ z.2.2.2 z.1 ≤ 9)
theorem hlt_in (c : Int) : -1 ≤ hlt c ∧ hlt c < 7 := by unfold hlt; repeat' split <;> try omega
theorem llt_in (c : Int) : -1 ≤ llt c ∧ llt c < 4 := by unfold llt; repeat' split <;> try omega
theorem ltm_in (ml c : Int) : -1 ≤ ltm ml c ∧ ltm ml c < nnm ml := by
  unfold ltm nnm
  split
  · exact hlt_in c
  · exact llt_in c
theorem nnm_in (ml : Int) : 4 ≤ nnm ml ∧ nnm ml ≤ 7 := by unfold nnm; split <;> omega
theorem stp_I {ml c : Int} {z z' : Zr} (hm : ml = 1 ∨ ml = 2) (h : ZI ml z) (e : stp ml c z = some z') : ZI ml z' := by
  obtain ⟨h1, h2, h3, h4, h5⟩ := h
  have hl := ltm_in ml c
  have hn := nnm_in ml
  have hx : (ml = 1 ∧ mxm ml = 9) ∨ (ml = 2 ∧ mxm ml = 99) := by
    rcases hm with rfl | rfl
    · exact Or.inl ⟨rfl, rfl⟩
    · exact Or.inr ⟨rfl, rfl⟩
  unfold stp at e
  split at e
  · rename_i c1
    split at e
    · rename_i c2
      cases e
      refine ⟨⟨by show -1 ≤ ltm ml c; omega, hl.2⟩, ⟨by show 0 ≤ z.2.1 + 1; omega, by show z.2.1 + 1 ≤ 7; have := h2.2.2 c1; omega, fun w => by have w : ltm ml c = -1 := w; omega⟩, ⟨by show (0 : Int) ≤ 0; decide, by show 0 ≤ ml; omega⟩, h4, fun _ w => absurd w (by show ¬ (0 : Int) = 1; decide)⟩
    · cases e
  · rename_i c1
    split at e
    · rename_i c2
      cases e
      have c1 : ¬ z.1 = -1 := c1
      have hv : 0 ≤ (if z.2.2.1 = 0 then 0 else 10 * z.2.2.2 z.1) + c - 48 ∧ (if z.2.2.1 = 0 then 0 else 10 * z.2.2.2 z.1) + c - 48 ≤ mxm ml ∧ (z.2.2.1 = 0 → (if z.2.2.1 = 0 then 0 else 10 * z.2.2.2 z.1) + c - 48 ≤ 9) := by
        split
        · omega
        · rename_i c3
          have c4 : z.2.2.1 = 1 := by omega
          have := h5 c1 c4
          omega
      refine ⟨h1, ⟨h2.1, h2.2.1, fun w => absurd w c1⟩, ⟨by show 0 ≤ z.2.2.1 + 1; omega, by show z.2.2.1 + 1 ≤ ml; omega⟩, fun j j0 j1 => ?_, fun _ w => ?_⟩
      · show -1 ≤ upI z.2.2.2 z.1 _ j ∧ upI z.2.2.2 z.1 _ j ≤ mxm ml
        have := h4 j j0 j1
        generalize (if z.2.2.1 = 0 then 0 else 10 * z.2.2.2 z.1) + c - 48 = v at *
        unfold upI
        split <;> omega
      · have w : z.2.2.1 + 1 = 1 := w
        show 0 ≤ upI z.2.2.2 z.1 _ z.1 ∧ upI z.2.2.2 z.1 _ z.1 ≤ 9
        rw [upI_s]
        exact ⟨hv.1, hv.2.2 (by omega)⟩
    · split at e
      · rename_i c3
        cases e
        exact ⟨⟨by show (-1 : Int) ≤ -1; decide, by show -1 < nnm ml; omega⟩, ⟨h2.1, h2.2.1, fun _ => by show z.2.1 ≤ 6; omega⟩, h3, h4, fun w => absurd rfl w⟩
      · cases e
theorem rdk_I {ml : Int} {f : Int → Int} (hm : ml = 1 ∨ ml = 2) : ∀ (k : Nat) (z : Zr), rdk ml f k = some z → ZI ml z
  | 0, z, e => by
    cases e
    have hn := nnm_in ml
    have hx : (ml = 1 ∧ mxm ml = 9) ∨ (ml = 2 ∧ mxm ml = 99) := by
      rcases hm with rfl | rfl
      · exact Or.inl ⟨rfl, rfl⟩
      · exact Or.inr ⟨rfl, rfl⟩
    exact ⟨⟨by show (-1 : Int) ≤ -1; decide, by show -1 < nnm ml; omega⟩, ⟨by decide, by decide, fun _ => by decide⟩, ⟨by decide, by show 0 ≤ ml; omega⟩, fun j _ _ => ⟨by show (-1 : Int) ≤ -1; decide, by show -1 ≤ mxm ml; omega⟩, fun w => absurd rfl w⟩
  | k + 1, z, e => by
    unfold rdk at e
    cases h : rdk ml f k with
    | none => rw [h] at e; cases e
    | some y => rw [h] at e; exact stp_I hm (rdk_I hm k y h) e
theorem rdk_s {ml : Int} {f : Int → Int} {k : Nat} {z : Zr} (h : rdk ml f k = some z) : rdk ml f (k + 1) = stp ml (f k) z := by
  show (rdk ml f k).bind _ = _
  rw [h]; rfl
theorem rdk_n {ml : Int} {f : Int → Int} {k : Nat} (h : rdk ml f k = none) : ∀ d, rdk ml f (k + d) = none
  | 0 => h
  | d + 1 => by
    show (rdk ml f (k + d)).bind _ = _
    rw [rdk_n h d]; rfl
/-- where the first fault lies -/
def Fl (ml : Int) (f : Int → Int) (n : Int) (k : Nat) : Prop := (k : Int) < n ∧ (∃ z, rdk ml f k = some z) ∧ rdk ml f (k + 1) = none
theorem Fl_uni {ml : Int} {f : Int → Int} {n : Int} {k l : Nat} (h : Fl ml f n k) (h' : Fl ml f n l) : k = l := by
  obtain ⟨-, ⟨z, e⟩, e'⟩ := h
  obtain ⟨-, ⟨y, g⟩, g'⟩ := h'
  by_cases c : k < l
  · have := rdk_n e' (l - (k + 1))
    rw [show k + 1 + (l - (k + 1)) = l by omega, g] at this
    cases this
  · by_cases c' : l < k
    · have := rdk_n g' (k - (l + 1))
      rw [show l + 1 + (k - (l + 1)) = k by omega, e] at this
      cases this
    · omega
theorem Fl_not {ml : Int} {f : Int → Int} {n : Int} {k : Nat} {z : Zr} (h : Fl ml f n k) (e : rdk ml f n.toNat = some z) : False := by
  obtain ⟨h1, -, e'⟩ := h
  have := rdk_n e' (n.toNat - (k + 1))
  rw [show k + 1 + (n.toNat - (k + 1)) = n.toNat by omega, e] at this
  cases this
/-- the class's page while it reads; row as told -/
def CP (σ : Sto) (τ : Sto) : Prop := (∀ p : Nat, ¬ p = 5 → ¬ p = 36 → τ p = σ p) ∧ (∀ i, ¬ i = 2 → τ 5 i = σ 5 i)
def rdC (ml : Int) (σ : Sto) (κ : List AV → Sto → Prop) : Prop := (∀ k : Nat, Fl ml (σ 35) (σ 5 0) k → ∀ τ, CP σ τ → τ 5 2 = 0 → κ [vI (k : Int)] τ) ∧
  (∀ z, rdk ml (σ 35) (σ 5 0).toNat = some z → ∀ τ, CP σ τ → (∀ j, 0 ≤ j → j < 7 → τ 36 j = z.2.2.2 j) → τ 5 2 = (if ¬ z.1 = -1 ∧ 0 < z.2.2.1 then 1 else 0) → κ [vI (σ 5 0)] τ)
def RZ (z : Zr) (τ : Sto) : Prop := (z.1 = -1 → τ 67 14 = 0) ∧ (¬ z.1 = -1 → τ 67 14 = z.2.2.1 + 1 ∧ τ 67 15 = z.1) ∧ τ 67 16 = z.2.1 ∧ ∀ j, 0 ≤ j → j < 7 → τ 76 j = z.2.2.2 j
def MP (σ : Sto) (τ : Sto) : Prop := (∀ p : Nat, ¬ p = 67 → ¬ p = 76 → τ p = σ p) ∧ (∀ i, ¬ (i = 14 ∨ i = 15 ∨ i = 16) → τ 67 i = σ 67 i)
def rdM (ml : Int) (σ : Sto) (κ : List AV → Sto → Prop) : Prop := (∀ k : Nat, Fl ml (σ 73) (σ 67 8) k → ∀ τ, MP σ τ → κ [vI (k : Int)] τ) ∧
  (∀ z, rdk ml (σ 73) (σ 67 8).toNat = some z → ∀ τ, MP σ τ → RZ z τ → κ [vI (σ 67 8)] τ)

