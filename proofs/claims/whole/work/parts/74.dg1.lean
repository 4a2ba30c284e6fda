-- ===== digest: pure words =====
def fdl (h v : Int) : Int := w64 (w64 (31 * h) + v)
def itr (g : Int → Int → Int) (h : Int) : Nat → Int
  | 0 => h
  | n + 1 => g (n : Int) (itr g h n)
theorem itr_s {g : Int → Int → Int} {h : Int} {n : Nat} : itr g h (n + 1) = g (n : Int) (itr g h n) := rfl
theorem itr_congr {g g' : Int → Int → Int} {h : Int} : ∀ n : Nat, (∀ i x, 0 ≤ i → i < (n : Int) → g i x = g' i x) → itr g h n = itr g' h n
  | 0, _ => rfl
  | n + 1, H => by
    rw [itr_s, itr_s, itr_congr n (fun i x i0 i1 => H i x i0 (by omega)), H _ _ (by omega) (by omega)]
theorem itr_z {g : Int → Int → Int} {h : Int} {m : Nat} (hz : ∀ i x, (m : Int) ≤ i → g i x = x) : ∀ d : Nat, itr g h (m + d) = itr g h m
  | 0 => rfl
  | d + 1 => by
    show g ((m + d : Nat) : Int) (itr g h (m + d)) = _
    rw [hz _ _ (by omega), itr_z hz d]
/-- tables by the steps left -/
def tbF (pr : Int → Int → Int → Int) (ok : Int → Int → Int → Bool) : Nat → Int → Int → Int × Int
  | 0, _, _ => (0, 0)
  | n + 1, i, j => finN (stN (fun s => pr s i j) (fun s => ok s i j) (fun s => (tbF pr ok n (i + o1 s) (j + o2 s)).1) (fun s => (tbF pr ok n (i + o1 s) (j + o2 s)).2) 5)
theorem rcG_tb {pr : Int → Int → Int → Int} {ok : Int → Int → Int → Bool} {n1 n2 : Int} {T W : Int → Int} (hG : GI pr ok n1 n2) (h : ∀ a b, 0 ≤ a → a ≤ n1 → 0 ≤ b → b ≤ n2 → rcG pr ok n1 n2 T W a b) :
    ∀ (n : Nat) (a b : Int), 0 ≤ a → a ≤ n1 → 0 ≤ b → b ≤ n2 → (n1 - a) + (n2 - b) < n → T (a * 17 + b) = (tbF pr ok n a b).1 ∧ W (a * 17 + b) = (tbF pr ok n a b).2
  | 0, a, b, h1, h2, h3, h4, h5 => by omega
  | n + 1, a, b, h1, h2, h3, h4, h5 => by
    have e : stN (fun s => pr s a b) (fun s => ok s a b) (fun s => T ((a + o1 s) * 17 + (b + o2 s))) (fun s => W ((a + o1 s) * 17 + (b + o2 s))) 5 = stN (fun s => pr s a b) (fun s => ok s a b) (fun s => (tbF pr ok n (a + o1 s) (b + o2 s)).1) (fun s => (tbF pr ok n (a + o1 s) (b + o2 s)).2) 5 := stN_congr 5 (fun s g1 g2 => ⟨rfl, fun g3 => by
      have ho := o_in (s := s) ⟨g1, by omega⟩
      obtain ⟨q1, q2, -⟩ := hG.2.2 s a b g1 (by omega) h1 h3 g3
      have ih := rcG_tb hG h n (a + o1 s) (b + o2 s) (by omega) q1 (by omega) q2 (by omega)
      exact ⟨rfl, ih.1, ih.2⟩⟩)
    obtain ⟨r1, r2, -⟩ := h a b h1 h2 h3 h4
    rw [r1, r2, e]
    exact ⟨rfl, rfl⟩
def lsf (σ : Sto) (l a b : Int) : Int := (tbF (mP (setM σ l a b (-1) (-1))) (mOk (setM σ l a b (-1) (-1))) 100 0 0).1
theorem SetM_u {σ ρ ρ' : Sto} {l a b bi bj : Int} (h : SetM σ ρ l a b bi bj) (h' : SetM σ ρ' l a b bi bj) : mP ρ = mP ρ' ∧ mOk ρ = mOk ρ' := by
  obtain ⟨⟨a1, a2⟩, ⟨a3, a4, a5, a6⟩, ⟨a7, a8⟩, a9, a10, a11, a12⟩ := h
  obtain ⟨⟨b1, b2⟩, ⟨b3, b4, b5, b6⟩, ⟨b7, b8⟩, b9, b10, b11, b12⟩ := h'
  refine ⟨?_, ?_⟩
  · funext s i j
    unfold mP
    rw [a1, a2, a3, a4, a5, a6, a10, a11, a12, b1, b2, b3, b4, b5, b6, b10, b11, b12]
  · funext s i j
    unfold mOk
    rw [a1, a2, a7, a8, a9, b1, b2, b7, b8, b9]
theorem lsf_e {τ σ : Sto} (hR : Rel σ) (hs : sameS τ σ) (l a b : Int) : lsf τ l a b = lsf σ l a b := by
  obtain ⟨u, v⟩ := SetM_u (SetM_of (bi := -1) (bj := -1) (l := l) (a := a) (b := b) hR hs (fun _ _ _ => rfl)) (SetM_of hR (sameS_r σ) (fun _ _ _ => rfl))
  unfold lsf
  rw [u, v]
/-- what the reference's table says first -/
theorem lsf_M {σ ρ : Sto} {l a b : Int} (hR : Rel σ) (hl : 0 ≤ l ∧ l < 4) (ha : 0 ≤ a ∧ a < 7) (hb : 0 ≤ b ∧ b < 7) (h : ∀ q : Nat, q ≠ 77 → q ≠ 78 → ρ q = setM σ l a b (-1) (-1) q) (hT : TabM ρ) : ρ 77 0 = lsf σ l a b := by
  have hP : PrM ρ := PrM_congr h (setM_PrM (Rel_QM hR) hl ha hb)
  have hG := GI_M hP
  have g1 := hG.1
  have g2 := hG.2.1
  have := (rcG_tb hG hT 100 0 0 (Int.le_refl _) g1.1 (Int.le_refl _) g2.1 (by omega)).1
  obtain ⟨u, v, -⟩ := cgM h
  rw [u, v] at this
  exact this
/-- what the class's table says first -/
theorem lsf_C {σ τ : Sto} {l a b : Int} (hR : Rel σ) (hl : 0 ≤ l ∧ l < 4) (ha : 0 ≤ a ∧ a < 7) (hb : 0 ≤ b ∧ b < 7) (hC : SetC σ τ l a b (-1) (-1)) (hT : TabC τ) : τ 43 0 = lsf σ l a b := by
  have hM : SetM σ (setM σ l a b (-1) (-1)) l a b (-1) (-1) := SetM_of hR (sameS_r σ) (fun _ _ _ => rfl)
  have hP : PrM (setM σ l a b (-1) (-1)) := setM_PrM (Rel_QM hR) hl ha hb
  have hG := GI_M hP
  have g1 := hG.1
  have g2 := hG.2.1
  have n1 : mN1 (setM σ l a b (-1) (-1)) = τ 9 6 := by
    unfold mN1
    rw [hM.1.1, hM.2.2.2.1, hC.1.1]
  have n2 : mN2 (setM σ l a b (-1) (-1)) = τ 9 7 := by
    unfold mN2
    rw [hM.1.2, hM.2.2.2.1, hC.1.2]
  have := (rcG_tb hG (T := τ 43) (W := τ 44) (fun x y x0 x1 y0 y1 => by
    obtain ⟨r1, r2, r3, r4⟩ := hT x y x0 (by rw [← n1]; exact x1) y0 (by rw [← n2]; exact y1)
    have e : stC τ x y 5 = stN (fun s => mP (setM σ l a b (-1) (-1)) s x y) (fun s => mOk (setM σ l a b (-1) (-1)) s x y) (fun s => τ 43 ((x + o1 s) * 17 + (y + o2 s))) (fun s => τ 44 ((x + o1 s) * 17 + (y + o2 s))) 5 := stN_congr 5 (fun s s0 s1 => ⟨two_ok hC hM s x y, fun ho => ⟨two_pr hC hM ⟨s0, by omega⟩ x0 y0 (by rw [← two_ok hC hM]; exact ho), rfl, rfl⟩⟩)
    rw [e] at r1 r2
    rw [← n1, ← n2] at r3
    exact ⟨r1, r2, r3, r4⟩) 100 0 0 (Int.le_refl _) g1.1 (Int.le_refl _) g2.1 (by omega)).1
  exact this
def yrf (σ : Sto) (d p : Int) : Int := (hsum (fun c => σ 37 ((d + 1) * 7 + c)) (σ 13) (σ 15) p (σ 12 p) + 1).tdiv 2
def lfH (σ : Sto) (p : Int) : Int → Int → Int := fun i h => fdl (fdl (fdl h (σ 13 (p * 16 + i))) (σ 14 (p * 16 + i))) (σ 15 (p * 16 + i))
def yrH (σ : Sto) (p : Int) : Int → Int → Int := fun i h => fdl h (yrf σ (i - 1) p)
def pitH (σ : Sto) : Int → Int → Int := fun p h => itr (yrH σ p) (itr (lfH σ p) (fdl h (σ 11 p)) (σ 12 p).toNat) (σ 6 1 + 1).toNat
/-- over all that lie behind a -/
def prH (f : Int → Int → Int → Int) (n : Int) : Int → Int → Int := fun a h => itr (fun k h => f a (a + 1 + k) h) h (n - (a + 1)).toNat
def lawH (σ : Sto) : Int → Int → Int := fun l h => itr (prH (fun a b h => fdl h (lsf σ l a b)) (σ 1 0)) h (σ 1 0).toNat
def jnH (σ : Sto) : Int → Int → Int := fun j h => fdl (fdl (fdl (fdl (fdl (fdl h (σ 16 j)) (σ 17 j)) (σ 18 j)) (σ 19 j)) (σ 20 j)) (if bb (σ 2 6) j = true then 1 else 0)
def tiH (σ : Sto) : Int → Int → Int := fun p h => if bb (σ 2 7) p = true then fdl (fdl (fdl h p) (σ 21 p)) (σ 22 p) else h
def bdH (σ : Sto) (h : Int) : Int := itr (tiH σ) (itr (jnH σ) h (σ 2 0).toNat) 7
noncomputable def clM (σ : Sto) : Mx := Classical.epsilon (fun m => CloK (KC σ) m)
noncomputable def clN (σ : Sto) : Int := @ite _ (∃ m, CloK (KC σ) m) (Classical.propDecidable _) 1 0
def spv (m : Mx) (e a b : Int) : Int := if m a b = none then -100004 else if e = 0 then -((m b a).getD 0) else (m a b).getD 0
noncomputable def grN (σ : Sto) : Int := nGr (Classical.epsilon (fun l => LabK (KC σ) l)) (σ 1 0)
noncomputable def spH (σ : Sto) (h : Int) : Int := @ite _ (clN σ = 1) (Classical.propDecidable _) (itr (prH (fun a b h => fdl (fdl h (spv (clM σ) 0 a b)) (spv (clM σ) 1 a b)) (σ 1 0)) h (σ 1 0).toNat) h
noncomputable def netH (σ : Sto) (h : Int) : Int := fdl (spH σ (fdl (fdl h (σ 2 10)) (clN σ))) (grN σ)
def cnf (σ : Sto) (a : Int) : Int := if a = 0 then σ 1 0 else if a = 1 then sumI (σ 12) (σ 1 0) else if a = 2 then σ 6 1 else if a = 3 then σ 7 0 else if a = 4 then σ 2 0 else if a = 5 then pop (σ 2 6) else if a = 6 then pop (σ 2 7) else if a = 7 then σ 5 0 else if a = 8 then σ 0 11 else σ 0 12
noncomputable def dgs (σ : Sto) : Int := itr (fun i h => fdl h (cnf σ i)) (itr (fun i h => fdl h (σ 35 i)) (netH σ (bdH σ (itr (lawH σ) (itr (pitH σ) 379 (σ 1 0).toNat) (σ 7 0).toNat))) (σ 5 0).toNat) 10
theorem KC_s {τ σ : Sto} (h : sameS τ σ) : KC τ = KC σ := by
  unfold KC KF KJc KTc KAc ktC tdC
  simp only [h.1 1 rfl, h.1 2 rfl, h.1 12 rfl, h.1 13 rfl, h.1 15 rfl, h.1 16 rfl, h.1 17 rfl, h.1 18 rfl, h.1 19 rfl, h.1 21 rfl, h.1 22 rfl]
theorem yrf_e {τ σ : Sto} (h : sameS τ σ) : yrf τ = yrf σ := by
  funext d p
  unfold yrf
  rw [h.1 37 rfl, h.1 13 rfl, h.1 15 rfl, h.1 12 rfl]
theorem pitH_e {τ σ : Sto} (h : sameS τ σ) : pitH τ = pitH σ := by
  funext p x
  unfold pitH yrH lfH
  rw [yrf_e h, h.1 11 rfl, h.1 13 rfl, h.1 14 rfl, h.1 15 rfl, h.1 12 rfl, h.1 6 rfl]
theorem lawH_e {τ σ : Sto} (hR : Rel σ) (h : sameS τ σ) : lawH τ = lawH σ := by
  funext l x
  unfold lawH
  have : (fun a b h => fdl h (lsf τ l a b)) = fun a b h => fdl h (lsf σ l a b) := by
    funext a b y
    rw [lsf_e hR h]
  rw [this, h.1 1 rfl]
theorem bdH_e {τ σ : Sto} (h : sameS τ σ) : bdH τ = bdH σ := by
  funext x
  unfold bdH tiH jnH
  rw [h.1 2 rfl, h.1 16 rfl, h.1 17 rfl, h.1 18 rfl, h.1 19 rfl, h.1 20 rfl, h.1 21 rfl, h.1 22 rfl]
theorem netH_e {τ σ : Sto} (h : sameS τ σ) : netH τ = netH σ := by
  funext x
  unfold netH spH grN clN clM
  rw [KC_s h, h.1 1 rfl, h.1 2 rfl]
theorem cnf_e {τ σ : Sto} (h : sameS τ σ) : cnf τ = cnf σ := by
  funext a
  unfold cnf
  rw [h.1 1 rfl, h.1 12 rfl, h.1 6 rfl, h.1 7 rfl, h.1 2 rfl, h.2.2.1, h.2.2.2.2.1, h.2.2.2.2.2]
/-- what the net's words say -/
theorem clN_y {σ : Sto} {m : Mx} (h : CloK (KC σ) m) : clN σ = 1 := by
  unfold clN
  rw [if_pos ⟨m, h⟩]
theorem clN_n {σ : Sto} (h : NoM (KC σ)) : clN σ = 0 := by
  unfold clN
  rw [if_neg (fun ⟨m, z⟩ => h m z.1 z.2.1)]
theorem clM_e {σ : Sto} {m : Mx} (h : CloK (KC σ) m) : ∀ i j, nd i → nd j → m i j = clM σ i j := CloK_uni (fun _ _ => Iff.rfl) h (Classical.epsilon_spec (p := fun m => CloK (KC σ) m) ⟨m, h⟩)
theorem spv_e {σ : Sto} {m : Mx} (h : CloK (KC σ) m) {e a b : Int} (ha : nd a) (hb : nd b) : spv m e a b = spv (clM σ) e a b := by
  unfold spv
  rw [clM_e h a b ha hb, clM_e h b a hb ha]
theorem grN_e {σ : Sto} (hn : 0 ≤ σ 1 0 ∧ σ 1 0 ≤ 7) {l : Int → Int} (h : LabK (KC σ) l) : nGr l (σ 1 0) = grN σ := by
  have hE := Classical.epsilon_spec (p := fun l => LabK (KC σ) l) ⟨l, h⟩
  have hE : LabK (KC σ) (Classical.epsilon (fun l => LabK (KC σ) l)) := hE
  unfold grN
  generalize Classical.epsilon (fun l => LabK (KC σ) l) = l' at *
  have hl : ∀ i j, nd i → nd j → (l i = l j ↔ l' i = l' j) := fun i j c d => (h i j c d).trans (hE i j c d).symm
  refine sumI_congr (fun p p0 p1 => ?_)
  have : nwP l p = true ↔ nwP l' p = true := by
    rw [nwP_t, nwP_t]
    exact ⟨fun z x x0 x1 y => z x x0 x1 ((hl x p ⟨x0, by omega⟩ ⟨p0, by omega⟩).mpr y), fun z x x0 x1 y => z x x0 x1 ((hl x p ⟨x0, by omega⟩ ⟨p0, by omega⟩).mp y)⟩
  by_cases y : nwP l p = true
  · rw [if_pos y, if_pos (this.mp y)]
  · rw [if_neg y, if_neg (fun z => y (this.mpr z))]

