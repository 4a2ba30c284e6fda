-- ===== bind of the class =====
def og (g : Int → Int) : Int → Int → OI := fun i j => if g (i * 8 + j) = 1000000000 then none else some (g (i * 8 + j))
/-- the grid is the closure of the edges E, all of them small -/
def NetC (E : Int → Int → Int → Prop) (g : Int → Int) : Prop := Clo E (og g) ∧ (∃ m0, Start E m0 ∧ inW m0 100000) ∧ ∀ a b c, E a b c → nd a ∧ nd b
theorem NetC_in {E : Int → Int → Int → Prop} {g : Int → Int} (h : NetC E g) : gIn g := by
  obtain ⟨h1, ⟨m0, h2, h3⟩, -⟩ := h
  intro i j a b
  by_cases hz : g (i * 8 + j) = 1000000000
  · exact Or.inl hz
  · have := Clo_in h2 (by omega) h3 h1 i j (g (i * 8 + j)) a b (if_neg hz)
    omega
theorem og_nb {g g' : Int → Int} {f t w : Int} (hg : gIn g) (hf : nd f) (ht : nd t) (hw : -1000000 ≤ w ∧ w ≤ 1000000) (h : ∀ i j, nd i → nd j → g' (i * 8 + j) = nbI g f t w i j) : ∀ i j, nd i → nd j → og g' i j = nb (og g) f t w i j := by
  intro i j a b
  have g1 := hg i f a hf
  have g2 := hg t j ht b
  have g3 := hg i j a b
  show (if g' (i * 8 + j) = 1000000000 then none else some (g' (i * 8 + j))) = omin (if g (i * 8 + j) = 1000000000 then none else some (g (i * 8 + j))) (oad (oad (if g (i * 8 + f) = 1000000000 then none else some (g (i * 8 + f))) (some w)) (if g (t * 8 + j) = 1000000000 then none else some (g (t * 8 + j))))
  have hv : nbI g f t w i j = if ¬ g (i * 8 + f) = 1000000000 ∧ ¬ g (t * 8 + j) = 1000000000 ∧ g (i * 8 + f) + w + g (t * 8 + j) < g (i * 8 + j) then g (i * 8 + f) + w + g (t * 8 + j) else g (i * 8 + j) := rfl
  rw [h i j a b]
  generalize nbI g f t w i j = v at *
  generalize g (i * 8 + f) = x at *
  generalize g (t * 8 + j) = y at *
  generalize g (i * 8 + j) = z at *
  by_cases hx : x = 1000000000
  · rw [if_neg (fun q => q.1 hx)] at hv
    rw [hv, if_pos hx]
    split <;> rfl
  · by_cases hy : y = 1000000000
    · rw [if_neg (fun q => q.2.1 hy)] at hv
      rw [hv, if_neg hx, if_pos hy]
      split <;> rfl
    · rw [if_neg hx, if_neg hy]
      by_cases hl : x + w + y < z
      · rw [if_pos ⟨hx, hy, hl⟩] at hv
        rw [hv, if_neg (by omega)]
        by_cases hz : z = 1000000000
        · rw [if_pos hz]
          rfl
        · rw [if_neg hz]
          simp only [oad, omin]
          congr 1
          omega
      · rw [if_neg (fun q => hl q.2.2)] at hv
        have hz : ¬ z = 1000000000 := by omega
        rw [hv, if_neg hz]
        simp only [oad, omin]
        congr 1
        omega
theorem inW_add1 {m0 : Int → Int → OI} {f t w W : Int} (h : inW m0 W) (hw : -W ≤ w ∧ w ≤ W) : inW (fun i j => if i = f ∧ j = t then omin (m0 i j) (some w) else m0 i j) W := by
  intro i j x hx
  have hh := h i j
  have hx : (if i = f ∧ j = t then omin (m0 i j) (some w) else m0 i j) = some x := hx
  split at hx
  · generalize m0 i j = y at *
    cases y
    · simp only [omin, Option.some.injEq] at hx
      omega
    · simp only [omin, Option.some.injEq] at hx
      have := hh _ rfl
      omega
  · exact hh x hx
theorem Net_edge {E : Int → Int → Int → Prop} {f t w : Int} (hE : (∃ m0, Start E m0 ∧ inW m0 100000) ∧ ∀ a b c, E a b c → nd a ∧ nd b) (hf : nd f) (ht : nd t) (hw : -100000 ≤ w ∧ w ≤ 100000) : (∃ m0, Start (add1 E f t w) m0 ∧ inW m0 100000) ∧ ∀ a b c, add1 E f t w a b c → nd a ∧ nd b := by
  obtain ⟨⟨m0, h1, h2⟩, h3⟩ := hE
  refine ⟨⟨_, Start_add1 h1, inW_add1 h2 hw⟩, fun a b c h => ?_⟩
  rcases h with h | ⟨rfl, rfl, rfl⟩
  · exact h3 a b c h
  · exact ⟨hf, ht⟩
theorem NetC_keep {E : Int → Int → Int → Prop} {f t w : Int} {g : Int → Int} (h : NetC E g) (hf : nd f) (ht : nd t) (hw : -100000 ≤ w ∧ w ≤ 100000) (hl : g (f * 8 + t) ≤ w) : NetC (add1 E f t w) g := by
  refine ⟨Clo_keep h.1 ?_, Net_edge h.2 hf ht hw⟩
  unfold og
  rw [if_neg (by omega)]
  exact hl
theorem NetC_none {E : Int → Int → Int → Prop} {f t w : Int} {g : Int → Int} (h : NetC E g) (hf : nd f) (ht : nd t) (hw : -100000 ≤ w ∧ w ≤ 100000) (hl : g (t * 8 + f) + w < 0) : ∀ M, ¬ Sat (add1 E f t w) M :=
  Clo_none h.1 hf ht (x := g (t * 8 + f)) (if_neg (by omega)) hl
theorem NetC_step {E : Int → Int → Int → Prop} {f t w : Int} {g g' : Int → Int} (h : NetC E g) (hf : nd f) (ht : nd t) (hw : -100000 ≤ w ∧ w ≤ 100000) (hl : 0 ≤ g (t * 8 + f) + w) (hg : ∀ i j, nd i → nd j → g' (i * 8 + j) = nbI g f t w i j) : NetC (add1 E f t w) g' := by
  refine ⟨Clo_step h.1 h.2.2 hf ht ?_ (og_nb (NetC_in h) hf ht (by omega) hg), Net_edge h.2 hf ht hw⟩
  intro x hx
  unfold og at hx
  split at hx
  · exact absurd hx (by simp)
  · simp only [Option.some.injEq] at hx
    omega

