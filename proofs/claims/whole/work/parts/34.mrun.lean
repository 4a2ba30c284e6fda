-- ===== the reference's closing, pure: so many steps, one behind the other =====
def ogM (g : Int → Int) : Mx := fun i j => if g (i * 8 + j) = 10000000 then none else some (g (i * 8 + j))
def thr (x y : Int) : Int := if x + y < -10000000 then -10000000 else x + y
def stI (k a b : Int) (g : Int → Int) : Int := if g (a * 8 + k) < 10000000 ∧ g (k * 8 + b) < 10000000 ∧ thr (g (a * 8 + k)) (g (k * 8 + b)) < g (a * 8 + b) then thr (g (a * 8 + k)) (g (k * 8 + b)) else g (a * 8 + b)
def upI (g : Int → Int) (x v : Int) : Int → Int := fun y => if y = x then v else g y
/-- so many steps of stage k -/
def rnS (g : Int → Int) (k : Int) : Nat → Int → Int
  | 0 => g
  | s + 1 => upI (rnS g k s) s (stI k ((s / 8 : Nat) : Int) ((s % 8 : Nat) : Int) (rnS g k s))
/-- so many stages -/
def rnK (g : Int → Int) : Nat → Int → Int
  | 0 => g
  | k + 1 => rnS (rnK g k) k 64
def rIn (g : Int → Int) : Prop := ∀ i j, nd i → nd j → -10000000 ≤ g (i * 8 + j) ∧ g (i * 8 + j) ≤ 10000000
theorem upI_at {g : Int → Int} {x v a b : Int} (ha : nd a) (hb : nd b) {s : Nat} (hs : s < 64) (hx : x = s) : upI g x v (a * 8 + b) = if a = ((s / 8 : Nat) : Int) ∧ b = ((s % 8 : Nat) : Int) then v else g (a * 8 + b) := by
  unfold nd at ha hb
  unfold upI
  by_cases h : a = ((s / 8 : Nat) : Int) ∧ b = ((s % 8 : Nat) : Int)
  · rw [if_pos h, if_pos (by omega)]
  · rw [if_neg h, if_neg (by omega)]
theorem stI_in {g : Int → Int} {k a b : Int} (h : rIn g) (hk : nd k) (ha : nd a) (hb : nd b) : -10000000 ≤ stI k a b g ∧ stI k a b g ≤ 10000000 ∧ stI k a b g ≤ g (a * 8 + b) := by
  have h1 := h a b ha hb
  unfold stI thr
  split
  · split <;> omega
  · omega
theorem rnS_in {g : Int → Int} {k : Int} (h : rIn g) (hk : nd k) : ∀ s : Nat, s ≤ 64 → rIn (rnS g k s) ∧ ∀ i j, nd i → nd j → rnS g k s (i * 8 + j) ≤ g (i * 8 + j)
  | 0, _ => ⟨h, fun _ _ _ _ => Int.le_refl _⟩
  | s + 1, hs => by
    obtain ⟨i1, i2⟩ := rnS_in h hk s (by omega)
    have q := stI_in (a := ((s / 8 : Nat) : Int)) (b := ((s % 8 : Nat) : Int)) i1 hk ⟨by omega, by omega⟩ ⟨by omega, by omega⟩
    have e : ∀ i j, nd i → nd j → rnS g k (s + 1) (i * 8 + j) = if i = ((s / 8 : Nat) : Int) ∧ j = ((s % 8 : Nat) : Int) then stI k ((s / 8 : Nat) : Int) ((s % 8 : Nat) : Int) (rnS g k s) else rnS g k s (i * 8 + j) := fun i j a b => upI_at a b (by omega) rfl
    refine ⟨fun i j a b => ?_, fun i j a b => ?_⟩
    · rw [e i j a b]
      split
      · exact ⟨q.1, q.2.1⟩
      · exact i1 i j a b
    · rw [e i j a b]
      split
      · rename_i hh
        have := i2 i j a b
        rw [hh.1, hh.2] at this ⊢
        omega
      · exact i2 i j a b
theorem rnK_in {g : Int → Int} (h : rIn g) : ∀ k : Nat, k ≤ 8 → rIn (rnK g k)
  | 0, _ => h
  | k + 1, hk => (rnS_in (rnK_in h k (by omega)) ⟨by omega, by omega⟩ 64 (by omega)).1
theorem rnK_le {g : Int → Int} (h : rIn g) (i j : Int) (a : nd i) (b : nd j) : ∀ d k : Nat, k + d ≤ 8 → rnK g (k + d) (i * 8 + j) ≤ rnK g k (i * 8 + j)
  | 0, k, _ => Int.le_refl _
  | d + 1, k, hk => by
    have hn : nd ((k + d : Nat) : Int) := ⟨by omega, by omega⟩
    exact Int.le_trans ((rnS_in (rnK_in h (k + d) (by omega)) hn 64 (by omega)).2 i j a b) (rnK_le h i j a b d k (by omega))
/-- what is below all at first is below all at last -/
theorem rnS_ge {g : Int → Int} {k : Int} {M : Mx} (h : rIn g) (hk : nd k) (hM : Base M) (hg : ∀ i j, nd i → nd j → ole (M i j) (ogM g i j)) : ∀ s : Nat, s ≤ 64 → ∀ i j, nd i → nd j → ole (M i j) (ogM (rnS g k s) i j)
  | 0, _, i, j, a, b => hg i j a b
  | s + 1, hs, i, j, a, b => by
    have ih := rnS_ge h hk hM hg s (by omega)
    have hr := (rnS_in h hk s (by omega)).1
    have e : rnS g k (s + 1) (i * 8 + j) = if i = ((s / 8 : Nat) : Int) ∧ j = ((s % 8 : Nat) : Int) then stI k ((s / 8 : Nat) : Int) ((s % 8 : Nat) : Int) (rnS g k s) else rnS g k s (i * 8 + j) := upI_at a b (by omega) rfl
    by_cases hh : i = ((s / 8 : Nat) : Int) ∧ j = ((s % 8 : Nat) : Int)
    · rw [if_pos hh, ← hh.1, ← hh.2] at e
      have h1 := ih i j a b
      have h2 := ih i k a hk
      have h3 := ih k j hk b
      have h4 := hM.2 i k j a hk b
      have r1 := hr i j a b
      have r2 := hr i k a hk
      have r3 := hr k j hk b
      unfold ogM at h1 h2 h3 ⊢
      rw [e]
      unfold stI
      generalize rnS g k s (i * 8 + j) = x at *
      generalize rnS g k s (i * 8 + k) = y at *
      generalize rnS g k s (k * 8 + j) = z at *
      by_cases c : y < 10000000 ∧ z < 10000000 ∧ thr y z < x
      · rw [if_pos c]
        rw [if_neg (by omega)] at h2 h3
        have t := ole_trans h4 (oad_mono h2 h3)
        unfold thr at c ⊢
        by_cases c2 : y + z < -10000000
        · rw [if_pos c2, if_neg (by omega)]
          refine ole_trans t ?_
          simp only [oad, ole]
          omega
        · rw [if_neg c2] at c ⊢
          rw [if_neg (by omega)]
          exact t
      · rw [if_neg c]
        exact h1
    · rw [if_neg hh] at e
      unfold ogM at *
      rw [e]
      exact ih i j a b
theorem rnK_ge {g : Int → Int} {M : Mx} (h : rIn g) (hM : Base M) (hg : ∀ i j, nd i → nd j → ole (M i j) (ogM g i j)) : ∀ k : Nat, k ≤ 8 → ∀ i j, nd i → nd j → ole (M i j) (ogM (rnK g k) i j)
  | 0, _ => hg
  | k + 1, hk => rnS_ge (rnK_in h k (by omega)) ⟨by omega, by omega⟩ hM (rnK_ge h hM hg k (by omega)) 64 (by omega)
/-- a stage, exact where the middle's own entry is 0 and all is small -/
theorem rnS_fw {g : Int → Int} {k : Int} (hk : nd k) (hz : g (k * 8 + k) = 0) (hb : ∀ i j, nd i → nd j → g (i * 8 + j) = 10000000 ∨ (-4999999 ≤ g (i * 8 + j) ∧ g (i * 8 + j) ≤ 4999999)) : ∀ s : Nat, s ≤ 64 → ∀ i j, nd i → nd j → ogM (rnS g k s) i j = if i * 8 + j < s then fw (ogM g) k i j else ogM g i j
  | 0, _, i, j, a, b => by
    unfold nd at a b
    rw [if_neg (by omega)]
    rfl
  | s + 1, hs, i, j, a, b => by
    have ih := rnS_fw hk hz hb s (by omega)
    have zk : ogM g k k = some 0 := by unfold ogM; rw [hz, if_neg (by omega)]
    have e : rnS g k (s + 1) (i * 8 + j) = if i = ((s / 8 : Nat) : Int) ∧ j = ((s % 8 : Nat) : Int) then stI k ((s / 8 : Nat) : Int) ((s % 8 : Nat) : Int) (rnS g k s) else rnS g k s (i * 8 + j) := upI_at a b (by omega) rfl
    by_cases hh : i = ((s / 8 : Nat) : Int) ∧ j = ((s % 8 : Nat) : Int)
    · rw [if_pos hh, ← hh.1, ← hh.2] at e
      have h1 : ogM (rnS g k s) i j = ogM g i j := by rw [ih i j a b, if_neg (by omega)]
      have h2 : ogM (rnS g k s) i k = ogM g i k := by
        rw [ih i k a hk]
        split
        · unfold fw; rw [zk, omin_self]
        · rfl
      have h3 : ogM (rnS g k s) k j = ogM g k j := by
        rw [ih k j hk b]
        split
        · unfold fw; rw [zk, omin_self']
        · rfl
      have b1 := hb i j a b
      have b2 := hb i k a hk
      have b3 := hb k j hk b
      rw [if_pos (by unfold nd at a b; omega)]
      unfold fw
      unfold ogM at h1 h2 h3 ⊢
      rw [e]
      unfold stI
      generalize rnS g k s (i * 8 + j) = x at *
      generalize rnS g k s (i * 8 + k) = y at *
      generalize rnS g k s (k * 8 + j) = z at *
      generalize g (i * 8 + j) = x' at *
      generalize g (i * 8 + k) = y' at *
      generalize g (k * 8 + j) = z' at *
      have inj : ∀ u v : Int, (if u = 10000000 then (none : OI) else some u) = (if v = 10000000 then none else some v) → u = v := by
        intro u v huv
        by_cases c1 : u = 10000000 <;> by_cases c2 : v = 10000000
        · omega
        · rw [if_pos c1, if_neg c2] at huv; exact absurd huv (by simp)
        · rw [if_neg c1, if_pos c2] at huv; exact absurd huv (by simp)
        · rw [if_neg c1, if_neg c2] at huv; simpa using huv
      have h1 := inj _ _ h1
      have h2 := inj _ _ h2
      have h3 := inj _ _ h3
      subst h1 h2 h3
      by_cases c1 : y = 10000000
      · have hv : (if y < 10000000 ∧ z < 10000000 ∧ thr y z < x then thr y z else x) = x := if_neg (by omega)
        rw [hv, if_pos c1]
        by_cases c3 : x = 10000000
        · rw [if_pos c3]; rfl
        · rw [if_neg c3]; rfl
      · by_cases c2 : z = 10000000
        · have hv : (if y < 10000000 ∧ z < 10000000 ∧ thr y z < x then thr y z else x) = x := if_neg (by omega)
          rw [hv, if_pos c2, if_neg c1]
          by_cases c3 : x = 10000000
          · rw [if_pos c3]; rfl
          · rw [if_neg c3]; rfl
        · have ht : thr y z = y + z := by unfold thr; rw [if_neg (by omega)]
          rw [ht, if_neg c1, if_neg c2]
          by_cases c4 : y + z < x
          · have hv : (if y < 10000000 ∧ z < 10000000 ∧ y + z < x then y + z else x) = y + z := if_pos (by omega)
            rw [hv, if_neg (show ¬ y + z = 10000000 by omega)]
            by_cases c3 : x = 10000000
            · rw [if_pos c3]; rfl
            · rw [if_neg c3]
              simp only [oad, omin]
              congr 1
              omega
          · have hv : (if y < 10000000 ∧ z < 10000000 ∧ y + z < x then y + z else x) = x := if_neg (by omega)
            rw [hv]
            have c3 : ¬ x = 10000000 := by omega
            rw [if_neg c3]
            simp only [oad, omin]
            congr 1
            omega
    · rw [if_neg hh] at e
      have e2 : ogM (rnS g k (s + 1)) i j = ogM (rnS g k s) i j := by unfold ogM; rw [e]
      rw [e2, ih i j a b]
      unfold nd at a b
      by_cases c : i * 8 + j < s
      · rw [if_pos c, if_pos (by omega)]
      · rw [if_neg c, if_neg (by omega)]

