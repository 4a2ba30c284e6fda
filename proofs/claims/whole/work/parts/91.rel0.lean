-- ===== the store at the law's start =====
def s0 (N : Int) (xs : Int → Int) : Nat → Int → Int
  | 102 => fun j => if j = -1 then N else xs j
  | 2 => fun j => if j = 10 then 1 else 0
  | 4 => fun j => if j = 10 then 1 else 0
  | 9 => fun j => if j = 12 ∨ j = 13 then -1 else 0
  | 10 => fun j => if j = 9 ∨ j = 12 ∨ j = 13 ∨ j = 14 then -1 else 0
  | 37 => fun j => if j < 35 then -1 else 0
  | 67 => fun j => if j = 42 then 1 else if j = 46 then -1 else 0
  | _ => fun _ => 0
theorem s0_ok {N : Int} {xs : Int → Int} (hN : i32 N) (hx : ∀ j, i32 (xs j)) : okS (s0 N xs) := by
  have key : ∀ q j, i32 (s0 N xs q j) := by
    intro q j
    unfold s0
    split <;> dsimp only <;> (repeat' split) <;> first | exact hN | exact hx j | exact ⟨by decide, by decide⟩
  intro q j
  have := key q j
  exact ⟨fun _ => ⟨by have := this.1; omega, by have := this.2; omega⟩, fun _ => this⟩
theorem bb_00 {j : Int} (h0 : 0 ≤ j) (h1 : j < 32) : ¬ bb 0 j = true := by
  rw [← and_bit h0 h1]
  intro h
  apply h
  unfold bAnd
  simp
theorem Rel_0 (N : Int) (xs : Int → Int) : Rel (s0 N xs) := by
  refine ⟨⟨?_, fun p _ _ => ?_, fun j _ _ => ?_, fun j _ _ => ?_, fun p _ _ => ?_, ?_, fun j j0 j1 => ?_, fun j _ _ => ?_, fun p _ _ => ?_, ?_, fun j j0 j1 => ?_, fun j _ _ => Or.inl rfl, ?_, fun j j0 j1 => ?_, fun p _ _ => Or.inl rfl, Or.inr rfl⟩, ⟨rfl, rfl, rfl, rfl, rfl, rfl, rfl, rfl, rfl, rfl, rfl, rfl, rfl, rfl, rfl⟩, ⟨rfl, ?_, rfl, fun j _ _ => ?_⟩, ⟨rfl, ?_, fun j j0 j1 => ?_, fun j _ _ => ?_, fun c c0 c1 => ?_, fun h c a1 a2 c0 c1 => ?_⟩, ⟨rfl, ?_, rfl, fun j _ _ => ?_⟩, Or.inl ⟨rfl, rfl⟩, ⟨rfl, ?_, rfl, ?_⟩⟩
  · show (0 : Int) ≤ 0 ∧ (0 : Int) ≤ 7; decide
  · show (0 : Int) ≤ 0 ∧ (0 : Int) ≤ 16; decide
  · show (0 : Int) ≤ 0 ∧ (0 : Int) ≤ 6 ∧ (0 : Int) ≤ 0 ∧ (0 : Int) ≤ 9; decide
  · show (0 : Int) ≤ 0 ∧ (0 : Int) ≤ 99; decide
  · show (0 : Int) ≤ 0 ∧ (0 : Int) ≤ 240; decide
  · show (0 : Int) ≤ 0 ∧ (0 : Int) ≤ 12; decide
  · have j1 : j < (0 : Int) := j1
    omega
  · show (0 : Int) ≤ 0 ∧ (0 : Int) ≤ 99; decide
  · show (-9999 ≤ (0 : Int) ∧ (0 : Int) ≤ 9999) ∧ (-9999 ≤ (0 : Int) ∧ (0 : Int) ≤ 9999); decide
  · show (0 : Int) ≤ 0 ∧ (0 : Int) < 4096; decide
  · show bb 0 j = true ↔ j < (0 : Int) ∧ ¬ (0 : Int) = 0
    exact ⟨fun h => absurd h (bb_00 j0 j1), fun h => absurd rfl h.2⟩
  · show (0 : Int) ≤ 0 ∧ (0 : Int) < 128; decide
  · show bb 0 j = true ↔ j < (0 : Int) ∧ ¬ (0 : Int) = 0
    exact ⟨fun h => absurd h (bb_00 j0 j1), fun h => absurd rfl h.2⟩
  · show (0 : Int) ≤ 0 ∧ (0 : Int) ≤ 30; decide
  · show (0 : Int) ≤ 0 ∧ (0 : Int) ≤ 126; decide
  · show (0 : Int) ≤ 0 ∧ (0 : Int) ≤ 4; decide
  · show -1 ≤ (if j < 35 then (-1 : Int) else 0) ∧ (if j < 35 then (-1 : Int) else 0) ≤ 9
    rw [if_pos j1]
    decide
  · show (-1 : Int) ≤ 0 ∧ (0 : Int) ≤ 9; decide
  · show (if c < 35 then (-1 : Int) else 0) = -1
    rw [if_pos (by omega)]
  · have a2 : h < (0 : Int) := a2
    omega
  · show (0 : Int) ≤ 0 ∧ (0 : Int) ≤ 4; decide
  · show (0 : Int) ≤ 0 ∧ (0 : Int) ≤ 99; decide
  · show (0 : Int) ≤ 0 ∧ (0 : Int) ≤ 100; decide
  · show (0 : Int) ≤ 0 ∧ (0 : Int) ≤ 8; decide

