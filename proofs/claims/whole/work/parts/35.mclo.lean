-- ===== the reference's closing, pure: what comes out =====
def clp (m : Mx) : Mx := fun i j => if 0 ≤ i ∧ i < 8 ∧ 0 ≤ j ∧ j < 8 then m i j else none
theorem clp_at {m : Mx} {i j : Int} (a : nd i) (b : nd j) : clp m i j = m i j := by
  unfold nd at a b
  unfold clp
  rw [if_pos (by omega)]
theorem fw_congr {m m' : Mx} {k : Int} (hk : nd k) (h : ∀ i j, nd i → nd j → m i j = m' i j) : ∀ i j, nd i → nd j → fw m k i j = fw m' k i j := by
  intro i j a b
  unfold fw
  rw [h i j a b, h i k a hk, h k j hk b]
def leG (g : Int → Int) (M : Mx) : Prop := ∀ i j, nd i → nd j → ole (M i j) (ogM g i j)
theorem ogM_s {g : Int → Int} {i j : Int} (h : ¬ g (i * 8 + j) = 10000000) : ogM g i j = some (g (i * 8 + j)) := if_neg h
theorem ogM_n {g : Int → Int} {i j : Int} (h : g (i * 8 + j) = 10000000) : ogM g i j = none := if_pos h
theorem rnK_fw {g : Int → Int} (hr : rIn g) (hz : ∀ i, nd i → g (i * 8 + i) = 0) (hB : ∀ n : Nat, n ≤ 8 → ∀ i j x, nd i → nd j → fwN (clp (ogM g)) n i j = some x → -4999999 ≤ x ∧ x ≤ 4999999) (he : ∀ i, nd i → 0 ≤ rnK g 8 (i * 8 + i)) : ∀ n : Nat, n ≤ 8 → ∀ i j, nd i → nd j → ogM (rnK g n) i j = fwN (clp (ogM g)) n i j
  | 0, _, i, j, a, b => (clp_at a b).symm
  | n + 1, hn, i, j, a, b => by
    have ih := rnK_fw hr hz hB he n (by omega)
    have hk : nd (n : Int) := ⟨by omega, by omega⟩
    have z1 := rnK_le hr n n hk hk n 0 (by omega)
    have z2 := rnK_le hr n n hk hk (8 - n) n (by omega)
    rw [show n + (8 - n) = 8 by omega] at z2
    have z3 := he n hk
    have z4 := hz n hk
    rw [Nat.zero_add] at z1
    have z5 : rnK g n ((n : Int) * 8 + n) = 0 := by
      have z1 : rnK g n ((n : Int) * 8 + n) ≤ g ((n : Int) * 8 + n) := z1
      omega
    have hb : ∀ i j, nd i → nd j → rnK g n (i * 8 + j) = 10000000 ∨ (-4999999 ≤ rnK g n (i * 8 + j) ∧ rnK g n (i * 8 + j) ≤ 4999999) := by
      intro i j a b
      by_cases c : rnK g n (i * 8 + j) = 10000000
      · exact Or.inl c
      · exact Or.inr (hB n (by omega) i j _ a b (by rw [← ih i j a b]; exact ogM_s c))
    have h := rnS_fw hk z5 hb 64 (by omega) i j a b
    rw [if_pos (by unfold nd at a b; omega)] at h
    exact h.trans (fw_congr hk ih i j a b)
def EgM (g : Int → Int) : Int → Int → Int → Prop := fun f t w => nd f ∧ nd t ∧ ogM g f t = some w
theorem EgM_Sat {g : Int → Int} {M : Mx} : Sat (EgM g) M ↔ Base M ∧ leG g M := by
  rw [Sat_B]
  constructor
  · rintro ⟨h1, h2⟩
    refine ⟨h1, fun i j a b => ?_⟩
    by_cases c : g (i * 8 + j) = 10000000
    · rw [ogM_n c]; cases M i j <;> simp [ole]
    · rw [ogM_s c]; exact h2 i j _ ⟨a, b, ogM_s c⟩
  · rintro ⟨h1, h2⟩
    refine ⟨h1, ?_⟩
    rintro f t w ⟨a, b, c⟩
    rw [← c]
    exact h2 f t a b
theorem EgM_Start {g : Int → Int} (hz : ∀ i, nd i → g (i * 8 + i) = 0) : Start (EgM g) (clp (ogM g)) := by
  refine ⟨fun i a => ?_, ?_, fun M hM i j a b => ?_⟩
  · rw [clp_at a a]
    have := hz i a
    rw [ogM_s (by omega), this]
    exact ole_refl _
  · rintro f t w ⟨a, b, c⟩
    rw [clp_at a b, c]
    exact ole_refl _
  · rw [clp_at a b]
    exact (EgM_Sat.mp hM).2 i j a b
/-- the end of the closing: no row round is below 0, or nothing fits -/
theorem clos_yes {g : Int → Int} (hr : rIn g) (hz : ∀ i, nd i → g (i * 8 + i) = 0) (hB : ∀ n : Nat, n ≤ 8 → ∀ i j x, nd i → nd j → fwN (clp (ogM g)) n i j = some x → -4999999 ≤ x ∧ x ≤ 4999999) (he : ∀ i, nd i → 0 ≤ rnK g 8 (i * 8 + i)) :
    Base (ogM (rnK g 8)) ∧ leG g (ogM (rnK g 8)) ∧ (∀ M, Base M → leG g M → ∀ i j, nd i → nd j → ole (M i j) (ogM (rnK g 8) i j)) ∧ ∀ i j, nd i → nd j → rnK g 8 (i * 8 + j) = 10000000 ∨ (-4999999 ≤ rnK g 8 (i * 8 + j) ∧ rnK g 8 (i * 8 + j) ≤ 4999999) := by
  have e := rnK_fw hr hz hB he
  have hd : ∀ n : Nat, n ≤ 8 → ∀ i, nd i → fwN (clp (ogM g)) n i i = some 0 := by
    intro n hn i a
    have z1 := rnK_le hr i i a a n 0 (by omega)
    have z2 := rnK_le hr i i a a (8 - n) n (by omega)
    rw [show n + (8 - n) = 8 by omega] at z2
    rw [Nat.zero_add] at z1
    have z1 : rnK g n (i * 8 + i) ≤ g (i * 8 + i) := z1
    have z3 := he i a
    have z4 := hz i a
    rw [← e n hn i i a a, ogM_s (by omega)]
    congr 1
    omega
  have hC := fwN_Clo (EgM_Start hz) hd
  have hS : Sat (EgM g) (ogM (rnK g 8)) := by
    obtain ⟨⟨s1, s2, s3⟩, -⟩ := hC
    refine ⟨fun i a => by rw [e 8 (by omega) i i a a]; exact s1 i a, fun i k j a b c => ?_, ?_⟩
    · rw [e 8 (by omega) i k a b, e 8 (by omega) k j b c, e 8 (by omega) i j a c]
      exact s2 i k j a b c
    · rintro f t w ⟨a, b, c⟩
      rw [e 8 (by omega) f t a b]
      exact s3 f t w ⟨a, b, c⟩
  obtain ⟨h1, h2⟩ := EgM_Sat.mp hS
  refine ⟨h1, h2, fun M a b i j c d => ?_, fun i j a b => ?_⟩
  · rw [e 8 (by omega) i j c d]
    exact hC.2 M (EgM_Sat.mpr ⟨a, b⟩) i j c d
  · by_cases c : rnK g 8 (i * 8 + j) = 10000000
    · exact Or.inl c
    · exact Or.inr (hB 8 (by omega) i j _ a b (by rw [← e 8 (by omega) i j a b]; exact ogM_s c))
theorem clos_no {g : Int → Int} (hr : rIn g) {M : Mx} (h1 : Base M) (h2 : leG g M) : ∀ i, nd i → 0 ≤ rnK g 8 (i * 8 + i) := by
  intro i a
  have h := rnK_ge hr h1 h2 8 (by omega) i i a a
  rw [h1.1 i a] at h
  by_cases c : rnK g 8 (i * 8 + i) = 10000000
  · omega
  · rw [ogM_s c] at h
    exact h
theorem p2_le (n : Nat) (h : n ≤ 8) : (9999 : Int) * 2 ^ n ≤ 2559744 ∧ 0 ≤ (9999 : Int) * 2 ^ n := by
  have : n = 0 ∨ n = 1 ∨ n = 2 ∨ n = 3 ∨ n = 4 ∨ n = 5 ∨ n = 6 ∨ n = 7 ∨ n = 8 := by omega
  rcases this with rfl | rfl | rfl | rfl | rfl | rfl | rfl | rfl | rfl <;> decide
theorem small_B {g : Int → Int} (h : ∀ i j, nd i → nd j → g (i * 8 + j) = 10000000 ∨ (-9999 ≤ g (i * 8 + j) ∧ g (i * 8 + j) ≤ 9999)) : ∀ n : Nat, n ≤ 8 → ∀ i j x, nd i → nd j → fwN (clp (ogM g)) n i j = some x → -4999999 ≤ x ∧ x ≤ 4999999 := by
  intro n hn i j x _ _ hx
  have hw : inW (clp (ogM g)) 9999 := by
    intro i j x hx
    unfold clp at hx
    split at hx
    · rename_i c
      have q := h i j ⟨by omega, by omega⟩ ⟨by omega, by omega⟩
      by_cases c2 : g (i * 8 + j) = 10000000
      · rw [ogM_n c2] at hx
        exact absurd hx (by simp)
      · rw [ogM_s c2] at hx
        simp only [Option.some.injEq] at hx
        omega
    · exact absurd hx (by simp)
  have := fwN_in (by omega) hw n i j x hx
  have := p2_le n hn
  omega
-- ----- what hangs together -----
def phi (g : Int → Int) : Mx := fun i j => if g (i * 8 + j) = 10000000 then none else some 0
theorem phi_s {g : Int → Int} {i j : Int} (h : ¬ g (i * 8 + j) = 10000000) : phi g i j = some 0 := if_neg h
theorem phi_n {g : Int → Int} {i j : Int} (h : g (i * 8 + j) = 10000000) : phi g i j = none := if_pos h
theorem phi_q {g g' : Int → Int} {i j : Int} (h : phi g i j = phi g' i j) : g (i * 8 + j) = 10000000 ↔ g' (i * 8 + j) = 10000000 := by
  unfold phi at h
  by_cases c1 : g (i * 8 + j) = 10000000 <;> by_cases c2 : g' (i * 8 + j) = 10000000
  · exact ⟨fun _ => c2, fun _ => c1⟩
  · rw [if_pos c1, if_neg c2] at h; exact absurd h (by simp)
  · rw [if_neg c1, if_pos c2] at h; exact absurd h (by simp)
  · exact ⟨fun z => absurd z c1, fun z => absurd z c2⟩
theorem rnS_ph {g : Int → Int} {k V : Int} (hr : rIn g) (hk : nd k) (hz : g (k * 8 + k) ≤ 0) (hV : 0 ≤ V) (hV2 : 2 * V < 10000000) (hb : ∀ i j, nd i → nd j → g (i * 8 + j) = 10000000 ∨ g (i * 8 + j) ≤ V) : ∀ s : Nat, s ≤ 64 → (∀ i j, nd i → nd j → phi (rnS g k s) i j = if i * 8 + j < s then fw (phi g) k i j else phi g i j) ∧ (∀ i j, nd i → nd j → rnS g k s (i * 8 + j) = 10000000 ∨ (((i = k ∨ j = k) → rnS g k s (i * 8 + j) ≤ V) ∧ rnS g k s (i * 8 + j) ≤ 2 * V))
  | 0, _ => by
    refine ⟨fun i j a b => ?_, fun i j a b => ?_⟩
    · unfold nd at a b
      rw [if_neg (by omega)]
      rfl
    · rcases hb i j a b with h | h
      · exact Or.inl h
      · exact Or.inr ⟨fun _ => h, by show g (i * 8 + j) ≤ _; omega⟩
  | s + 1, hs => by
    obtain ⟨ih, ih2⟩ := rnS_ph hr hk hz hV hV2 hb s (by omega)
    have zk : phi g k k = some 0 := phi_s (by omega)
    have hkk := (rnS_in hr hk s (by omega)).2 k k hk hk
    have e : ∀ i j, nd i → nd j → rnS g k (s + 1) (i * 8 + j) = if i = ((s / 8 : Nat) : Int) ∧ j = ((s % 8 : Nat) : Int) then stI k ((s / 8 : Nat) : Int) ((s % 8 : Nat) : Int) (rnS g k s) else rnS g k s (i * 8 + j) := fun i j a b => upI_at a b (by omega) rfl
    have key : ∀ i j, nd i → nd j → i = ((s / 8 : Nat) : Int) → j = ((s % 8 : Nat) : Int) → (phi (rnS g k (s + 1)) i j = fw (phi g) k i j) ∧ (rnS g k (s + 1) (i * 8 + j) = 10000000 ∨ (((i = k ∨ j = k) → rnS g k (s + 1) (i * 8 + j) ≤ V) ∧ rnS g k (s + 1) (i * 8 + j) ≤ 2 * V)) := by
      intro i j a b e1 e2
      have ee := e i j a b
      rw [if_pos ⟨e1, e2⟩, ← e1, ← e2] at ee
      have h1 : phi (rnS g k s) i j = phi g i j := by rw [ih i j a b, if_neg (by omega)]
      have h2 : phi (rnS g k s) i k = phi g i k := by
        rw [ih i k a hk]
        split
        · unfold fw; rw [zk, omin_self]
        · rfl
      have h3 : phi (rnS g k s) k j = phi g k j := by
        rw [ih k j hk b]
        split
        · unfold fw; rw [zk, omin_self']
        · rfl
      have b1 := ih2 i j a b
      have b2 := ih2 i k a hk
      have b3 := ih2 k j hk b
      have fwe : fw (phi g) k i j = fw (phi (rnS g k s)) k i j := by unfold fw; rw [h1, h2, h3]
      rw [fwe]
      have s1 : i = k → rnS g k s (i * 8 + k) ≤ 0 := fun q => by rw [q]; omega
      have s2 : j = k → rnS g k s (k * 8 + j) ≤ 0 := fun q => by rw [q]; omega
      unfold fw phi
      rw [ee]
      unfold stI
      generalize rnS g k s (i * 8 + j) = x at *
      generalize rnS g k s (i * 8 + k) = y at *
      generalize rnS g k s (k * 8 + j) = z at *
      clear ih ih2 h1 h2 h3 fwe ee e hkk
      by_cases c1 : y = 10000000
      · have hv : (if y < 10000000 ∧ z < 10000000 ∧ thr y z < x then thr y z else x) = x := if_neg (by omega)
        rw [hv, if_pos c1]
        refine ⟨?_, b1⟩
        by_cases c3 : x = 10000000
        · rw [if_pos c3]; rfl
        · rw [if_neg c3]; rfl
      · by_cases c2 : z = 10000000
        · have hv : (if y < 10000000 ∧ z < 10000000 ∧ thr y z < x then thr y z else x) = x := if_neg (by omega)
          rw [hv, if_pos c2, if_neg c1]
          refine ⟨?_, b1⟩
          by_cases c3 : x = 10000000
          · rw [if_pos c3]; rfl
          · rw [if_neg c3]; rfl
        · have y1 : y ≤ V := (b2.resolve_left c1).1 (Or.inr rfl)
          have z1 : z ≤ V := (b3.resolve_left c2).1 (Or.inl rfl)
          rw [if_neg c1, if_neg c2]
          have tt : thr y z ≤ V + V ∧ (i = k → thr y z ≤ V) ∧ (j = k → thr y z ≤ V) := by
            unfold thr
            split
            · exact ⟨by omega, fun _ => by omega, fun _ => by omega⟩
            · exact ⟨by omega, fun q => by have := s1 q; omega, fun q => by have := s2 q; omega⟩
          by_cases c4 : thr y z < x
          · have hv : (if y < 10000000 ∧ z < 10000000 ∧ thr y z < x then thr y z else x) = thr y z := if_pos ⟨by omega, by omega, c4⟩
            rw [hv, if_neg (show ¬ thr y z = 10000000 by omega)]
            refine ⟨?_, Or.inr ⟨fun q => q.elim tt.2.1 tt.2.2, by omega⟩⟩
            by_cases c3 : x = 10000000
            · rw [if_pos c3]; rfl
            · rw [if_neg c3]; rfl
          · have hv : (if y < 10000000 ∧ z < 10000000 ∧ thr y z < x then thr y z else x) = x := if_neg (fun q => c4 q.2.2)
            rw [hv]
            have c3 : ¬ x = 10000000 := by omega
            rw [if_neg c3]
            exact ⟨rfl, b1⟩
    refine ⟨fun i j a b => ?_, fun i j a b => ?_⟩
    · by_cases hh : i = ((s / 8 : Nat) : Int) ∧ j = ((s % 8 : Nat) : Int)
      · rw [if_pos (by unfold nd at a b; omega)]
        exact (key i j a b hh.1 hh.2).1
      · have ee := e i j a b
        rw [if_neg hh] at ee
        have e2 : phi (rnS g k (s + 1)) i j = phi (rnS g k s) i j := by unfold phi; rw [ee]
        rw [e2, ih i j a b]
        unfold nd at a b
        by_cases c : i * 8 + j < s
        · rw [if_pos c, if_pos (by omega)]
        · rw [if_neg c, if_neg (by omega)]
    · by_cases hh : i = ((s / 8 : Nat) : Int) ∧ j = ((s % 8 : Nat) : Int)
      · exact (key i j a b hh.1 hh.2).2
      · have ee := e i j a b
        rw [if_neg hh] at ee
        rw [ee]
        exact ih2 i j a b
theorem rnK_ph {g : Int → Int} (hr : rIn g) (hz : ∀ i, nd i → g (i * 8 + i) = 0) (hb : ∀ i j, nd i → nd j → g (i * 8 + j) = 10000000 ∨ g (i * 8 + j) ≤ 9999) : ∀ n : Nat, n ≤ 8 → (∀ i j, nd i → nd j → phi (rnK g n) i j = fwN (clp (phi g)) n i j) ∧ (∀ i j, nd i → nd j → rnK g n (i * 8 + j) = 10000000 ∨ rnK g n (i * 8 + j) ≤ 9999 * 2 ^ n)
  | 0, _ => ⟨fun i j a b => (clp_at a b).symm, fun i j a b => by have := hb i j a b; rw [Int.pow_zero]; exact this⟩
  | n + 1, hn => by
    obtain ⟨ih, ih2⟩ := rnK_ph hr hz hb n (by omega)
    have hk : nd (n : Int) := ⟨by omega, by omega⟩
    have z1 := rnK_le hr n n hk hk n 0 (by omega)
    rw [Nat.zero_add] at z1
    have z1 : rnK g n ((n : Int) * 8 + n) ≤ g ((n : Int) * 8 + n) := z1
    have z4 := hz n hk
    have p1 := p2_le n (by omega)
    have p2 := p2_le n (by omega)
    have h := rnS_ph (rnK_in hr n (by omega)) hk (by omega) p1.2 (by omega) ih2 64 (by omega)
    refine ⟨fun i j a b => ?_, fun i j a b => ?_⟩
    · have q := h.1 i j a b
      rw [if_pos (by unfold nd at a b; omega)] at q
      exact q.trans (fw_congr hk ih i j a b)
    · have q := h.2 i j a b
      rw [Int.pow_succ, ← Int.mul_assoc]
      have q : rnK g (n + 1) (i * 8 + j) = 10000000 ∨ (((i = (n : Int) ∨ j = (n : Int)) → rnK g (n + 1) (i * 8 + j) ≤ 9999 * 2 ^ n) ∧ rnK g (n + 1) (i * 8 + j) ≤ 2 * (9999 * 2 ^ n)) := q
      omega
theorem fwN_sym {m : Mx} (h : ∀ i j, m i j = none → m j i = none) : ∀ (n : Nat) (i j : Int), fwN m n i j = none → fwN m n j i = none
  | 0, i, j, q => h i j q
  | n + 1, i, j, q => by
    have ih := fwN_sym h n
    have q : omin (fwN m n i j) (oad (fwN m n i n) (fwN m n n j)) = none := q
    show omin (fwN m n j i) (oad (fwN m n j n) (fwN m n n i)) = none
    have a1 := ih i j
    have a2 := ih i n
    have a3 := ih n j
    generalize fwN m n i j = x at *
    generalize fwN m n i n = y at *
    generalize fwN m n n j = z at *
    cases x with
    | some x => cases y <;> cases z <;> simp [omin, oad] at q
    | none =>
      rw [a1 rfl]
      cases y with
      | none => rw [a2 rfl]; cases fwN m n j n <;> rfl
      | some y =>
        cases z with
        | none => rw [a3 rfl]; rfl
        | some z => simp [omin, oad] at q
def Conn (K : Kn) (g : Int → Int) : Prop := ∀ i j, nd i → nd j → (¬ g (i * 8 + j) = 10000000 ↔ ∀ f, Rsp K f → f i = f j)
def StK (K : Kn) (g : Int → Int) : Prop := (∀ i, nd i → g (i * 8 + i) = 0) ∧ (∀ i j, nd i → nd j → g (i * 8 + j) = 10000000 ∨ (-9999 ≤ g (i * 8 + j) ∧ g (i * 8 + j) ≤ 9999)) ∧ (∀ M, Base M → (AllC K M ↔ leG g M)) ∧ (∀ f, Rsp K f ↔ ∀ i j, nd i → nd j → ¬ g (i * 8 + j) = 10000000 → f i = f j) ∧ (∀ i j, nd i → nd j → g (i * 8 + j) = 10000000 → g (j * 8 + i) = 10000000)
theorem StK_r {K : Kn} {g : Int → Int} (h : StK K g) : rIn g := fun i j a b => by
  have := h.2.1 i j a b
  omega
theorem ff_congr {P P' : Int → Bool} : ∀ (n : Nat) (lo : Int), (∀ c, lo ≤ c → c < lo + n → P c = P' c) → ff P lo n = ff P' lo n
  | 0, _, _ => rfl
  | n + 1, lo, h => by
    unfold ff
    rw [h lo (by omega) (by omega), ff_congr n (lo + 1) (fun c h1 h2 => h c (by omega) (by omega))]
theorem ff_ex1 {P : Int → Bool} : ∀ (n : Nat) (lo c : Int), 0 ≤ lo → lo ≤ c → c < lo + n → P c = true → ¬ ff P lo n = -1
  | 0, lo, c, _, h1, h2, _ => by omega
  | n + 1, lo, c, h0, h1, h2, h3 => by
    unfold ff
    split
    · omega
    · rename_i h4
      by_cases e : lo = c
      · rw [e, h3] at h4
        exact absurd rfl h4
      · exact ff_ex1 n (lo + 1) c (by omega) (by omega) (by omega) h3
theorem StK_Conn {K : Kn} {g : Int → Int} (h : StK K g) : Conn K (rnK g 8) := by
  obtain ⟨hz, hb, -, hR, hs⟩ := id h
  have hph := (rnK_ph (StK_r h) hz (fun i j a b => by have := hb i j a b; omega) 8 (by omega)).1
  have hE : Start (fun f t w => nd f ∧ nd t ∧ w = 0 ∧ ¬ g (f * 8 + t) = 10000000) (clp (phi g)) := by
    refine ⟨fun i a => ?_, ?_, fun M hM i j a b => ?_⟩
    · rw [clp_at a a, phi_s (by have := hz i a; omega)]
      exact ole_refl _
    · rintro f t w ⟨a, b, rfl, c⟩
      rw [clp_at a b, phi_s c]
      exact ole_refl _
    · rw [clp_at a b]
      by_cases c : g (i * 8 + j) = 10000000
      · rw [phi_n c]; cases M i j <;> simp [ole]
      · rw [phi_s c]; exact hM.2.2 i j 0 ⟨a, b, rfl, c⟩
  have hS0 : Sat (fun f t w => nd f ∧ nd t ∧ w = 0 ∧ ¬ g (f * 8 + t) = 10000000) (fun _ _ => some 0) := by
    refine ⟨fun _ _ => rfl, fun _ _ _ _ _ _ => by simp [ole, oad], ?_⟩
    rintro f t w ⟨a, b, rfl, c⟩
    exact ole_refl _
  have hC := fwN_Clo hE (fwN_diag hE hS0)
  have hsy : ∀ i j, fwN (clp (phi g)) 8 i j = none → fwN (clp (phi g)) 8 j i = none := by
    refine fwN_sym (fun i j q => ?_) 8
    unfold clp at q ⊢
    by_cases c : 0 ≤ i ∧ i < 8 ∧ 0 ≤ j ∧ j < 8
    · rw [if_pos c] at q
      rw [if_pos (by omega)]
      by_cases c2 : g (i * 8 + j) = 10000000
      · exact phi_n (hs i j ⟨by omega, by omega⟩ ⟨by omega, by omega⟩ c2)
      · rw [phi_s c2] at q
        exact absurd q (by simp)
    · rw [if_neg (by omega)]
  have fin : ∀ i j, nd i → nd j → (¬ rnK g 8 (i * 8 + j) = 10000000 ↔ ¬ fwN (clp (phi g)) 8 i j = none) := by
    intro i j a b
    rw [← hph i j a b]
    by_cases c : rnK g 8 (i * 8 + j) = 10000000
    · rw [phi_n c]; simp [c]
    · rw [phi_s c]; simp [c]
  have rf : ∀ i, nd i → ¬ rnK g 8 (i * 8 + i) = 10000000 := fun i a => (fin i i a a).mpr (by rw [hC.1.1 i a]; simp)
  have sy : ∀ i j, nd i → nd j → ¬ rnK g 8 (i * 8 + j) = 10000000 → ¬ rnK g 8 (j * 8 + i) = 10000000 := fun i j a b q => (fin j i b a).mpr (fun z => (fin i j a b).mp q (hsy j i z))
  have tr : ∀ i k j, nd i → nd k → nd j → ¬ rnK g 8 (i * 8 + k) = 10000000 → ¬ rnK g 8 (k * 8 + j) = 10000000 → ¬ rnK g 8 (i * 8 + j) = 10000000 := by
    intro i k j a b c q1 q2
    have q1 := (fin i k a b).mp q1
    have q2 := (fin k j b c).mp q2
    refine (fin i j a c).mpr (fun z => ?_)
    have t := hC.1.2.1 i k j a b c
    rw [z] at t
    generalize fwN (clp (phi g)) 8 i k = y at *
    generalize fwN (clp (phi g)) 8 k j = w at *
    cases y with
    | none => exact q1 rfl
    | some y => cases w with
      | none => exact q2 rfl
      | some w => simp [oad, ole] at t
  intro i j a b
  constructor
  · intro q f hf
    have hf := (hR f).mp hf
    have hM : Sat (fun f t w => nd f ∧ nd t ∧ w = 0 ∧ ¬ g (f * 8 + t) = 10000000) (fun i j => if f i = f j then some 0 else none) := by
      refine ⟨fun i _ => if_pos rfl, fun i k j _ _ _ => ?_, ?_⟩
      · show ole (if f i = f j then some 0 else none) (oad (if f i = f k then some 0 else none) (if f k = f j then some 0 else none))
        by_cases c1 : f i = f k
        · by_cases c2 : f k = f j
          · rw [if_pos c1, if_pos c2, if_pos (by rw [c1, c2])]; simp [ole, oad]
          · rw [if_neg c2]; cases (if f i = f j then some (0 : Int) else none) <;> simp [ole, oad, c1]
        · rw [if_neg c1]; cases (if f i = f j then some (0 : Int) else none) <;> simp [ole, oad]
      · rintro x y w ⟨a, b, rfl, c⟩
        show ole (if f x = f y then some 0 else none) (some 0)
        rw [if_pos (hf x y a b c)]
        exact ole_refl _
    have t := hC.2 _ hM i j a b
    have q := (fin i j a b).mp q
    have t : ole (if f i = f j then some 0 else none) (fwN (clp (phi g)) 8 i j) := t
    by_cases c : f i = f j
    · exact c
    · rw [if_neg c] at t
      generalize fwN (clp (phi g)) 8 i j = y at *
      cases y with
      | none => exact absurd rfl q
      | some y => simp [ole] at t
  · intro q
    have hf : Rsp K (fun i => ff (fun c => decide (¬ rnK g 8 (i * 8 + c) = 10000000)) 0 8) := by
      refine (hR _).mpr (fun x y a b c => ?_)
      have c1 : ¬ rnK g 8 (x * 8 + y) = 10000000 := by
        refine (fin x y a b).mpr (fun z => ?_)
        have t := fwN_le (m0 := clp (phi g)) 8 0 x y
        rw [Nat.zero_add, z] at t
        have t : ole none (clp (phi g) x y) := t
        rw [clp_at a b, phi_s c] at t
        simp [ole] at t
      have c2 := sy x y a b c1
      refine ff_congr 8 0 (fun d h1 h2 => ?_)
      have hd : nd d := ⟨h1, by omega⟩
      have : (¬ rnK g 8 (x * 8 + d) = 10000000) ↔ (¬ rnK g 8 (y * 8 + d) = 10000000) := ⟨fun z => tr y x d b a hd c2 z, fun z => tr x y d a b hd c1 z⟩
      simp only [decide_eq_decide]
      exact this
    have e := q _ hf
    have e : ff (fun c => decide (¬ rnK g 8 (i * 8 + c) = 10000000)) 0 8 = ff (fun c => decide (¬ rnK g 8 (j * 8 + c) = 10000000)) 0 8 := e
    have n1 : ¬ ff (fun c => decide (¬ rnK g 8 (i * 8 + c) = 10000000)) 0 8 = -1 := ff_ex1 8 0 i (by omega) a.1 (by have := a.2; omega) (by simp only [decide_eq_true_eq]; exact rf i a)
    have n2 : ¬ ff (fun c => decide (¬ rnK g 8 (j * 8 + c) = 10000000)) 0 8 = -1 := by rw [← e]; exact n1
    have m1 := (ff_in (P := fun c => decide (¬ rnK g 8 (i * 8 + c) = 10000000)) 8 0).resolve_left n1
    have m2 := (ff_in (P := fun c => decide (¬ rnK g 8 (j * 8 + c) = 10000000)) 8 0).resolve_left n2
    have p1 := of_decide_eq_true m1.2.2
    have p2 := of_decide_eq_true m2.2.2
    rw [← e] at p2
    have hd : nd (ff (fun c => decide (¬ rnK g 8 (i * 8 + c) = 10000000)) 0 8) := ⟨m1.1, by have := m1.2.1; omega⟩
    exact tr i _ j a hd b p1 (sy j _ b hd p2)
def LayP (K : Kn) (g : Int → Int) (r : Int) : Prop := ((r = 1 ∧ CloK K (ogM g) ∧ ∀ i j, nd i → nd j → g (i * 8 + j) = 10000000 ∨ (-4999999 ≤ g (i * 8 + j) ∧ g (i * 8 + j) ≤ 4999999)) ∨ (r = 0 ∧ NoM K)) ∧ Conn K g
theorem StK_Lay {K : Kn} {g : Int → Int} (h : StK K g) {r : Int} (h1 : (∀ i, nd i → 0 ≤ rnK g 8 (i * 8 + i)) → r = 1) (h2 : (¬ ∀ i, nd i → 0 ≤ rnK g 8 (i * 8 + i)) → r = 0) : LayP K (rnK g 8) r := by
  refine ⟨?_, StK_Conn h⟩
  obtain ⟨hz, hb, hP, -, -⟩ := id h
  by_cases c : ∀ i, nd i → 0 ≤ rnK g 8 (i * 8 + i)
  · obtain ⟨q1, q2, q3, q4⟩ := clos_yes (StK_r h) hz (small_B hb) c
    exact Or.inl ⟨h1 c, ⟨q1, (hP _ q1).mpr q2, fun M a b => q3 M a ((hP M a).mp b)⟩, q4⟩
  · exact Or.inr ⟨h2 c, fun M a b => c (clos_no (StK_r h) a ((hP M a).mp b))⟩

