-- ===== the net: bounds, pure =====
abbrev OI := Option Int
/-- at or below, none above all -/
def ole : OI → OI → Prop
  | _, none => True
  | none, some _ => False
  | some a, some b => a ≤ b
def oad : OI → OI → OI
  | some a, some b => some (a + b)
  | _, _ => none
def nd (i : Int) : Prop := 0 ≤ i ∧ i < 8
def Sat (E : Int → Int → Int → Prop) (m : Int → Int → OI) : Prop :=
  (∀ i, nd i → m i i = some 0) ∧ (∀ i k j, nd i → nd k → nd j → ole (m i j) (oad (m i k) (m k j))) ∧ (∀ f t w, E f t w → ole (m f t) (some w))
def Clo (E : Int → Int → Int → Prop) (m : Int → Int → OI) : Prop := Sat E m ∧ ∀ M, Sat E M → ∀ i j, nd i → nd j → ole (M i j) (m i j)
theorem ole_anti {a b : OI} (h1 : ole a b) (h2 : ole b a) : a = b := by
  cases a <;> cases b <;> simp only [ole] at h1 h2 ⊢ <;> first | rfl | exact h1.elim | exact h2.elim | (congr 1; omega)
theorem ole_trans {a b c : OI} (h1 : ole a b) (h2 : ole b c) : ole a c := by
  cases a <;> cases b <;> cases c <;> simp only [ole] at h1 h2 ⊢ <;> first | exact h1.elim | exact h2.elim | omega
theorem oad_mono {a b c d : OI} (h1 : ole a b) (h2 : ole c d) : ole (oad a c) (oad b d) := by
  cases a <;> cases b <;> cases c <;> cases d <;> simp only [ole, oad] at h1 h2 ⊢ <;> first | exact h1.elim | exact h2.elim | omega
theorem ole_refl (a : OI) : ole a a := by cases a <;> simp [ole]
theorem Clo_uni {E E' : Int → Int → Int → Prop} {g h : Int → Int → OI} (he : ∀ M, Sat E M ↔ Sat E' M) (h1 : Clo E g) (h2 : Clo E' h) : ∀ i j, nd i → nd j → g i j = h i j :=
  fun i j a b => ole_anti (h2.2 g ((he g).mp h1.1) i j a b) (h1.2 h ((he h).mpr h2.1) i j a b)
/-- one edge more -/
def add1 (E : Int → Int → Int → Prop) (f t w : Int) : Int → Int → Int → Prop := fun a b c => E a b c ∨ (a = f ∧ b = t ∧ c = w)
theorem Sat_add1 {E : Int → Int → Int → Prop} {f t w : Int} {g : Int → Int → OI} : Sat (add1 E f t w) g ↔ Sat E g ∧ ole (g f t) (some w) := by
  constructor
  · rintro ⟨a, b, d⟩
    exact ⟨⟨a, b, fun x y z h => d x y z (Or.inl h)⟩, d f t w (Or.inr ⟨rfl, rfl, rfl⟩)⟩
  · rintro ⟨⟨a, b, d⟩, e⟩
    refine ⟨a, b, fun x y z h => ?_⟩
    rcases h with h | ⟨rfl, rfl, rfl⟩
    · exact d x y z h
    · exact e
theorem Clo_keep {E : Int → Int → Int → Prop} {f t w : Int} {g : Int → Int → OI} (h : Clo E g) (hw : ole (g f t) (some w)) : Clo (add1 E f t w) g :=
  ⟨Sat_add1.mpr ⟨h.1, hw⟩, fun M hM => h.2 M (Sat_add1.mp hM).1⟩
theorem Clo_none {E : Int → Int → Int → Prop} {f t w x : Int} {g : Int → Int → OI} (h : Clo E g) (hf : nd f) (ht : nd t) (hx : g t f = some x) (hn : x + w < 0) : ∀ M, ¬ Sat (add1 E f t w) M := by
  intro M hM
  obtain ⟨h1, h2⟩ := Sat_add1.mp hM
  have a := h.2 M h1 t f ht hf
  obtain ⟨s1, s2, -⟩ := h1
  have b := s2 f t f hf ht hf
  rw [s1 f hf] at b
  rw [hx] at a
  have c := ole_trans b (oad_mono h2 a)
  simp only [ole, oad] at c
  omega
def omin (a b : OI) : OI := match a, b with
  | none, b => b
  | a, none => a
  | some a, some b => some (min a b)
theorem omin_l (a b : OI) : ole (omin a b) a := by cases a <;> cases b <;> simp only [ole, omin] <;> omega
theorem omin_r (a b : OI) : ole (omin a b) b := by cases a <;> cases b <;> simp only [ole, omin] <;> omega
theorem omin_g {a b c : OI} (h1 : ole c a) (h2 : ole c b) : ole c (omin a b) := by cases a <;> cases b <;> cases c <;> simp only [ole, omin] at h1 h2 ⊢ <;> first | exact h1.elim | exact h2.elim | omega
theorem oad_omin {a a' b b' c : OI} (h1 : ole c (oad a b)) (h2 : ole c (oad a b')) (h3 : ole c (oad a' b)) (h4 : ole c (oad a' b')) : ole c (oad (omin a a') (omin b b')) := by
  cases a <;> cases a' <;> cases b <;> cases b' <;> cases c <;> simp only [ole, omin, oad] at h1 h2 h3 h4 ⊢ <;> first | exact h1.elim | exact h2.elim | exact h3.elim | exact h4.elim | omega
/-- the new bound between i and j -/
def nb (g : Int → Int → OI) (f t w i j : Int) : OI := omin (g i j) (oad (oad (g i f) (some w)) (g t j))
theorem Clo_step {E : Int → Int → Int → Prop} {f t w : Int} {g g' : Int → Int → OI} (h : Clo E g) (hE : ∀ a b c, E a b c → nd a ∧ nd b) (hf : nd f) (ht : nd t) (hn : ∀ x, g t f = some x → 0 ≤ x + w) (hg : ∀ i j, nd i → nd j → g' i j = nb g f t w i j) : Clo (add1 E f t w) g' := by
  obtain ⟨⟨s1, s3, s4⟩, hgr⟩ := h
  refine ⟨Sat_add1.mpr ⟨⟨?_, ?_, ?_⟩, ?_⟩, ?_⟩
  · intro i a
    rw [hg i i a a]
    have z := s1 i a
    have u := s3 t i f ht a hf
    unfold nb
    rw [z]
    generalize g t f = gtf at *
    generalize g i f = gif at *
    generalize g t i = gti at *
    cases gif <;> cases gti <;> cases gtf <;> simp only [ole, oad, omin] at u ⊢
    · rename_i x y z
      have := hn z rfl
      congr 1
      omega
  · intro i k j a b c
    rw [hg i k a b, hg k j b c, hg i j a c]
    have t1 := s3 i k j a b c
    have t2 := s3 i k f a b hf
    have t3 := s3 t k j ht b c
    have t4 := s3 t k f ht b hf
    unfold nb
    generalize g i k = gik at *
    generalize g k j = gkj at *
    generalize g i j = gij at *
    generalize g i f = gif at *
    generalize g t j = gtj at *
    generalize g k f = gkf at *
    generalize g t k = gtk at *
    generalize g t f = gtf at *
    refine oad_omin (ole_trans (omin_l _ _) t1) (ole_trans (omin_r _ _) ?_) (ole_trans (omin_r _ _) ?_) (ole_trans (omin_r _ _) ?_)
    · clear t1 t3 t4 hn
      cases gif <;> cases gik <;> cases gkf <;> cases gtj <;> simp only [ole, oad] at t2 ⊢ <;> first | exact t2.elim | omega
    · clear t1 t2 t4 hn
      cases gif <;> cases gtk <;> cases gkj <;> cases gtj <;> simp only [ole, oad] at t3 ⊢ <;> first | exact t3.elim | omega
    · clear t1 t2 t3
      cases gif <;> cases gtk <;> cases gkf <;> cases gtj <;> cases gtf <;> simp only [ole, oad] at t4 ⊢ <;> first | exact t4.elim | (rename_i x; have := hn x rfl; omega)
  · intro x y z hz
    rw [hg x y (hE x y z hz).1 (hE x y z hz).2]
    exact ole_trans (omin_l _ _) (s4 x y z hz)
  · rw [hg f t hf ht]
    unfold nb
    refine ole_trans (omin_r _ _) ?_
    rw [s1 f hf, s1 t ht]
    simp only [oad, ole]
    omega
  · intro M hM i j a b
    obtain ⟨h1, h2⟩ := Sat_add1.mp hM
    rw [hg i j a b]
    refine omin_g (hgr M h1 i j a b) ?_
    refine ole_trans (h1.2.1 i t j a ht b) (oad_mono (ole_trans (h1.2.1 i f t a hf ht) (oad_mono (hgr M h1 i f a hf) h2)) (hgr M h1 t j ht b))
-- ----- stage by stage (Floyd and Warshall), pure -----
def fw (m : Int → Int → OI) (k : Int) : Int → Int → OI := fun i j => omin (m i j) (oad (m i k) (m k j))
def fwN (m0 : Int → Int → OI) : Nat → Int → Int → OI
  | 0 => m0
  | n + 1 => fw (fwN m0 n) n
def Start (E : Int → Int → Int → Prop) (m0 : Int → Int → OI) : Prop := (∀ i, nd i → ole (m0 i i) (some 0)) ∧ (∀ f t w, E f t w → ole (m0 f t) (some w)) ∧ ∀ M, Sat E M → ∀ i j, nd i → nd j → ole (M i j) (m0 i j)
theorem fwN_ge {E : Int → Int → Int → Prop} {m0 M : Int → Int → OI} (hS : Start E m0) (hM : Sat E M) : ∀ n : Nat, n ≤ 8 → ∀ i j, nd i → nd j → ole (M i j) (fwN m0 n i j)
  | 0, _, i, j, a, b => hS.2.2 M hM i j a b
  | n + 1, hn, i, j, a, b => by
    have hk : nd n := ⟨by omega, by omega⟩
    exact omin_g (fwN_ge hS hM n (by omega) i j a b) (ole_trans (hM.2.1 i n j a hk b) (oad_mono (fwN_ge hS hM n (by omega) i n a hk) (fwN_ge hS hM n (by omega) n j hk b)))
theorem fwN_le {m0 : Int → Int → OI} : ∀ (d n : Nat) (i j : Int), ole (fwN m0 (n + d) i j) (fwN m0 n i j)
  | 0, n, i, j => ole_refl _
  | d + 1, n, i, j => ole_trans (omin_l _ _) (fwN_le d n i j)
theorem omin_self {a : OI} : omin a (oad a (some 0)) = a := by cases a <;> simp [omin, oad]
theorem omin_self' {a : OI} : omin a (oad (some 0) a) = a := by cases a <;> simp [omin, oad]
theorem fwN_tri {m0 : Int → Int → OI} (hd : ∀ n : Nat, n ≤ 8 → ∀ i, nd i → fwN m0 n i i = some 0) : ∀ n : Nat, n ≤ 8 → ∀ i c j : Int, nd i → 0 ≤ c → c < n → nd j → ole (fwN m0 n i j) (oad (fwN m0 n i c) (fwN m0 n c j))
  | 0, _, i, c, j, _, h1, h2, _ => by omega
  | n + 1, hn, i, c, j, a, h1, h2, b => by
    have hk : nd n := ⟨by omega, by omega⟩
    have hz := hd n (by omega) n hk
    have ih := fwN_tri hd n (by omega)
    show ole (omin (fwN m0 n i j) (oad (fwN m0 n i n) (fwN m0 n n j))) (oad (omin (fwN m0 n i c) (oad (fwN m0 n i n) (fwN m0 n n c))) (omin (fwN m0 n c j) (oad (fwN m0 n c n) (fwN m0 n n j))))
    by_cases hc : c = n
    · subst hc
      rw [hz, omin_self, omin_self']
      exact omin_r _ _
    · have hcn : nd c := ⟨h1, by omega⟩
      have t1 := ih i c j a h1 (by omega) b
      have t2 := ih i c n a h1 (by omega) hk
      have t3 := ih n c j hk h1 (by omega) b
      have t4 := ih n c n hk h1 (by omega) hk
      rw [hz] at t4
      generalize fwN m0 n i j = ij at *
      generalize fwN m0 n i n = iN at *
      generalize fwN m0 n n j = nj at *
      generalize fwN m0 n i c = ic at *
      generalize fwN m0 n n c = nc at *
      generalize fwN m0 n c j = cj at *
      generalize fwN m0 n c n = cn at *
      refine oad_omin (ole_trans (omin_l _ _) t1) (ole_trans (omin_r _ _) ?_) (ole_trans (omin_r _ _) ?_) (ole_trans (omin_r _ _) ?_)
      · clear t1 t3 t4 ih hz
        cases iN <;> cases ic <;> cases cn <;> cases nj <;> simp only [ole, oad] at t2 ⊢ <;> first | exact t2.elim | omega
      · clear t1 t2 t4 ih hz
        cases iN <;> cases nj <;> cases nc <;> cases cj <;> simp only [ole, oad] at t3 ⊢ <;> first | exact t3.elim | omega
      · clear t1 t2 t3 ih hz
        cases iN <;> cases nj <;> cases nc <;> cases cn <;> simp only [ole, oad] at t4 ⊢ <;> first | exact t4.elim | omega
theorem fwN_Clo {E : Int → Int → Int → Prop} {m0 : Int → Int → OI} (hS : Start E m0) (hd : ∀ n : Nat, n ≤ 8 → ∀ i, nd i → fwN m0 n i i = some 0) : Clo E (fwN m0 8) :=
  ⟨⟨fun i a => hd 8 (by omega) i a, fun i k j a b c => fwN_tri hd 8 (by omega) i k j a b.1 b.2 c, fun f t w h => ole_trans (fwN_le 8 0 f t) (hS.2.1 f t w h)⟩, fun M hM => fwN_ge hS hM 8 (by omega)⟩
theorem fwN_diag {E : Int → Int → Int → Prop} {m0 M : Int → Int → OI} (hS : Start E m0) (hM : Sat E M) : ∀ n : Nat, n ≤ 8 → ∀ i, nd i → fwN m0 n i i = some 0 := by
  intro n hn i a
  have h1 := fwN_ge hS hM n hn i i a a
  rw [hM.1 i a] at h1
  have h2 := ole_trans (fwN_le n 0 i i) (hS.1 i a)
  rw [Nat.zero_add] at h2
  exact ole_anti h2 h1
/-- finite entries lie within W -/
def inW (m : Int → Int → OI) (W : Int) : Prop := ∀ i j x, m i j = some x → -W ≤ x ∧ x ≤ W
theorem fwN_in {m0 : Int → Int → OI} {W : Int} (h0 : 0 ≤ W) (h : inW m0 W) : ∀ n : Nat, inW (fwN m0 n) (W * 2 ^ n)
  | 0 => by rw [Int.pow_zero, Int.mul_one]; exact h
  | n + 1 => by
    intro i j x hx
    have ih := fwN_in h0 h n
    have hp : 0 ≤ W * 2 ^ n := Int.mul_nonneg h0 (Int.pow_nonneg (by omega))
    rw [Int.pow_succ, ← Int.mul_assoc]
    generalize W * 2 ^ n = V at *
    have hx : omin (fwN m0 n i j) (oad (fwN m0 n i n) (fwN m0 n n j)) = some x := hx
    have a := ih i j
    have b := ih i n
    have c := ih n j
    generalize fwN m0 n i j = ij at *
    generalize fwN m0 n i n = iN at *
    generalize fwN m0 n n j = nj at *
    cases ij <;> cases iN <;> cases nj <;> simp only [omin, oad, reduceCtorEq, Option.some.injEq] at hx a b c <;> first | (have := a _ rfl; omega) | skip
    all_goals try have a := a _ rfl
    all_goals try have b := b _ rfl
    all_goals try have c := c _ rfl
    all_goals omega
/-- every closure of edges within W lies within 256 W -/
theorem Clo_in {E : Int → Int → Int → Prop} {m0 g : Int → Int → OI} {W : Int} (hS : Start E m0) (h0 : 0 ≤ W) (h : inW m0 W) (hC : Clo E g) : ∀ i j x, nd i → nd j → g i j = some x → -(W * 256) ≤ x ∧ x ≤ W * 256 := by
  intro i j x a b hx
  rw [Clo_uni (fun M => Iff.rfl) hC (fwN_Clo hS (fwN_diag hS hC.1)) i j a b] at hx
  have := fwN_in h0 h 8 i j x hx
  exact this
theorem Start_add1 {E : Int → Int → Int → Prop} {m0 : Int → Int → OI} {f t w : Int} (hS : Start E m0) : Start (add1 E f t w) (fun i j => if i = f ∧ j = t then omin (m0 i j) (some w) else m0 i j) := by
  obtain ⟨h1, h2, h3⟩ := hS
  have up : ∀ i j, ole (if i = f ∧ j = t then omin (m0 i j) (some w) else m0 i j) (m0 i j) := by
    intro i j
    split
    · exact omin_l _ _
    · exact ole_refl _
  refine ⟨fun i a => ole_trans (up i i) (h1 i a), fun x y z h => ?_, fun M hM i j a b => ?_⟩
  · rcases h with h | ⟨rfl, rfl, rfl⟩
    · exact ole_trans (up x y) (h2 x y z h)
    · show ole (if x = x ∧ y = y then _ else _) _
      rw [if_pos ⟨rfl, rfl⟩]
      exact omin_r _ _
  · obtain ⟨q1, q2⟩ := Sat_add1.mp hM
    show ole _ (if i = f ∧ j = t then _ else _)
    split
    · rename_i e
      exact omin_g (h3 M q1 i j a b) (by rw [e.1, e.2]; exact q2)
    · exact h3 M q1 i j a b

