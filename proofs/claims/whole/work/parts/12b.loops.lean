-- ===== methods with loops: invariants at labels, a measure that falls =====
abbrev Hd : Type := List (Nat × (Nat → List AV → List AV → Sto → Prop))
def wpj (ca : List (Nat × Ctr)) (lv : List (Nat × Nat)) (rt : Nat) (B : Bk) (Q : List AV → Sto → Prop) (H : Hd) (bd : Nat → Prop) : Nat → Nat → List AV → List AV → Sto → Prop
  | 0, _, _, _, _ => False
  | n + 1, t, S, L, σ => match look H t with
    | some P => ∃ m, bd m ∧ P m S L σ
    | none => wp ca lv rt (wpj ca lv rt B Q H bd n) Q (lkp dBk B t).2 (lkp dBk B t).1 S L σ
theorem wpj_s {ca : List (Nat × Ctr)} {lv : List (Nat × Nat)} {rt : Nat} {B : Bk} {Q : List AV → Sto → Prop} {H : Hd} {bd : Nat → Prop} {n t : Nat} {S L : List AV} {σ : Sto} : wpj ca lv rt B Q H bd (n + 1) t S L σ = (match look H t with
    | some P => ∃ m, bd m ∧ P m S L σ
    | none => wp ca lv rt (wpj ca lv rt B Q H bd n) Q (lkp dBk B t).2 (lkp dBk B t).1 S L σ) := rfl
theorem wpj_at {o : OM} {Y : Pk} {d : Nat} {Q : List AV → Sto → Prop} {T : Tb} {ca : List (Nat × Ctr)} {lv : List (Nat × Nat)} {B : Bk} {H : Hd} {bd : Nat → Prop} (hEv : Ev o Y d T ca) (hB : chkB T (yB Y) B = true) (hH : ∀ q ∈ H, ∀ m S L σ, bd m → q.2 m S L σ → At o Y d Q q.1 S L σ) :
    ∀ (n t : Nat) (S L : List AV) (σ : Sto), wpj ca lv (yK Y) B Q H bd n t S L σ → At o Y d Q t S L σ
  | 0, _, _, _, _, h => h.elim
  | n + 1, t, S, L, σ, h => by
    rw [wpj_s] at h
    cases hl : look H t with
    | some P =>
      rw [hl] at h
      obtain ⟨m, h1, h2⟩ := h
      exact hH _ (look_mem hl) m S L σ h1 h2
    | none =>
      rw [hl] at h
      have h : wp ca lv (yK Y) (wpj ca lv (yK Y) B Q H bd n) Q (lkp dBk B t).2 (lkp dBk B t).1 S L σ := h
      rcases lkp_mem (d := dBk) (B := B) (t := t) with hm | hm
      · exact at_blk hEv hB (fun t S L σ => wpj_at hEv hB hH n t S L σ) hm h
      · rw [hm] at h
        exact False.elim h
/-- a method by its loops' invariants -/
theorem at_meth {o : OM} {Y : Pk} {d : Nat} {Q : List AV → Sto → Prop} {T : Tb} {ca : List (Nat × Ctr)} {lv : List (Nat × Nat)} {B : Bk} (hEv : Ev o Y d T ca) (hB : chkB T (yB Y) B = true) (n : Nat) (H : Hd)
    (hH : ∀ q ∈ H, ∀ (m : Nat) (S L : List AV) (σ : Sto), q.2 m S L σ → wp ca lv (yK Y) (wpj ca lv (yK Y) B Q H (fun m' => m' < m) n) Q (lkp dBk B q.1).2 (lkp dBk B q.1).1 S L σ) (t : Nat) (S L : List AV) (σ : Sto) (h : wpj ca lv (yK Y) B Q H (fun _ => True) n t S L σ) : At o Y d Q t S L σ := by
  have key : ∀ (m : Nat), ∀ q ∈ H, ∀ (S L : List AV) (σ : Sto), q.2 m S L σ → At o Y d Q q.1 S L σ := by
    intro m
    induction m using Nat.strongRecOn with
    | ind m ih =>
      intro q hq S L σ hp
      have hw := hH q hq m S L σ hp
      rcases lkp_mem (d := dBk) (B := B) (t := q.1) with hm | hm
      · exact at_blk hEv hB (fun t S L σ => wpj_at hEv hB (fun q hq m' S L σ hlt hp => ih m' hlt q hq S L σ hp) n t S L σ) hm hw
      · rw [hm] at hw
        exact False.elim hw
  exact wpj_at hEv hB (fun q hq m S L σ _ hp => key m q hq S L σ hp) n t S L σ h
/-- sums -/
def sumN (f : Int → Int) : Nat → Int
  | 0 => 0
  | n + 1 => sumN f n + f n
def sumI (f : Int → Int) (n : Int) : Int := sumN f n.toNat
theorem sumI_0 (f : Int → Int) : sumI f 0 = 0 := rfl
theorem sumI_s (f : Int → Int) {n : Int} (h : 0 ≤ n) : sumI f (n + 1) = sumI f n + f n := by
  unfold sumI
  rw [show (n + 1).toNat = n.toNat + 1 by omega]
  show sumN f n.toNat + f (n.toNat : Int) = _
  rw [Int.toNat_of_nonneg h]
theorem sumN_le {f : Int → Int} {lo hi : Int} : ∀ n : Nat, (∀ j : Int, 0 ≤ j → j < n → lo ≤ f j ∧ f j ≤ hi) → lo * n ≤ sumN f n ∧ sumN f n ≤ hi * n
  | 0, _ => by simp [sumN]
  | n + 1, h => by
    have ih := sumN_le n (fun j h1 h2 => h j h1 (by omega))
    have h1 := h n (by omega) (by omega)
    simp only [sumN]
    push_cast
    rw [Int.mul_add, Int.mul_add]
    omega
theorem sumI_le {f : Int → Int} {lo hi : Int} {n : Int} (hn : 0 ≤ n) (h : ∀ j : Int, 0 ≤ j → j < n → lo ≤ f j ∧ f j ≤ hi) : lo * n ≤ sumI f n ∧ sumI f n ≤ hi * n := by
  have := sumN_le n.toNat (f := f) (lo := lo) (hi := hi) (fun j h1 h2 => h j h1 (by omega))
  rw [Int.toNat_of_nonneg hn] at this
  exact this
theorem sumN_congr {f g : Int → Int} : ∀ n : Nat, (∀ j : Int, 0 ≤ j → j < n → f j = g j) → sumN f n = sumN g n
  | 0, _ => rfl
  | n + 1, h => by
    simp only [sumN]
    rw [sumN_congr n (fun j h1 h2 => h j h1 (by omega)), h n (by omega) (by omega)]
theorem sumI_congr {f g : Int → Int} {n : Int} (h : ∀ j : Int, 0 ≤ j → j < n → f j = g j) : sumI f n = sumI g n := sumN_congr n.toNat (fun j h1 h2 => h j h1 (by omega))
