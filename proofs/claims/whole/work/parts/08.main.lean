-- ===== THE MACHINE DOES WHAT A BLOCK ASKS =====
set_option maxHeartbeats 8000000 in
set_option maxRecDepth 20000 in
theorem at_wp {o : OM} {Y : Pk} {d : Nat} {Q : List AV → Sto → Prop} {T : Tb} {ca : List (Nat × Ctr)} {lv : List (Nat × Nat)} {K : Nat → List AV → List AV → Sto → Prop} {f : Nat} (hEv : Ev o Y d T ca) (hK : ∀ t S L σ, K t S L σ → At o Y d Q t S L σ) :
    ∀ (is : List Instr) (pc : Nat) (S L : List AV) (σ : Sto), chk T (yB Y) f is pc = true → wp ca lv (yK Y) K Q f is S L σ → At o Y d Q pc S L σ
  | [], pc, S, L, σ, hc, hw => by
    have hc : pc = f := by simpa [chk] using hc
    subst hc
    intro p e R s m args below meth c cells slots Z C0 H locs ls hH hS hl hoS hoL
    exact hK _ _ _ _ hw p e R s m args below meth c cells slots Z C0 H locs ls hH hS (lv_mono hl (fun q hq => cvL_take o L _ 0 q hq)) hoS (okL_take hoL _)
  | i :: r, pc, S, L, σ, hc, hw => by
    intro p e R s m args below meth c cells slots Z C0 H locs ls hH hS hl hoS hoL
    obtain ⟨hx, hb, hml, hown, hts, hst, hR, hret⟩ := id C0
    obtain ⟨hEM, hEF, hEI, hEJ, hER, hEV, hES⟩ := id hEv
    unfold chk at hc
    cases hdec : decode (yB Y) pc with
    | error x => rw [hdec] at hc; cases hc
    | ok jn =>
    obtain ⟨j, n⟩ := jn
    rw [hdec] at hc
    have hc2 : rz T pc n j = some i ∧ chk T (yB Y) f r (pc + n) = true := by simpa using hc
    obtain ⟨hz, hchk⟩ := hc2
    have go : ∀ (S L : List AV) (σ : Sto) (H : Heap) (locs : List Loc) (ls : Array Slot), wp ca lv (yK Y) K Q f r S L σ → Hs o σ H → va_S (aA o) s.heap H locs → lv_has ls (yL Y) (cvL o 0 L) → okL S → okL L → W p (oL o) e R s m args below meth c H locs cells slots Z (F0 m (pc + n) ls (S.map (cv o))) := fun S L σ H locs ls h1 h2 h3 h4 h5 h6 => at_wp hEv hK r (pc + n) S L σ hchk h1 p e R s m args below meth c cells slots Z C0 H locs ls h2 h3 h4 h5 h6
    have jmp : ∀ (t : Nat) (S : List AV), K t S (tk lv t L) σ → okL S → W p (oL o) e R s m args below meth c H locs cells slots Z (F0 m t ls (S.map (cv o))) := fun t S h1 h2 => hK _ _ _ _ h1 p e R s m args below meth c cells slots Z C0 H locs ls hH hS (lv_mono hl (fun q hq => cvL_take o L _ 0 q hq)) h2 (okL_take hoL _)
    have hw : step ca lv (yK Y) K Q i S L σ (wp ca lv (yK Y) K Q f r) := hw
    cases j

    case iconst v =>
      obtain ⟨hn, hi⟩ := grd_s hz
      cases hi
      simp only [Bool.and_eq_true, beq_iff_eq, decide_eq_true_eq] at hn
      obtain ⟨⟨hn, h1⟩, h2⟩ := hn
      subst hn
      exact lv_iconst hx hb hdec rfl (go (vI v :: S) L σ H locs ls hw hH hS hl (okL_cons.mpr ⟨⟨by omega, by omega⟩, hoS⟩) hoL)
    case bipush v =>
      obtain ⟨hn, hi⟩ := grd_s hz
      cases hi
      simp only [Bool.and_eq_true, beq_iff_eq, decide_eq_true_eq] at hn
      obtain ⟨⟨hn, h1⟩, h2⟩ := hn
      subst hn
      exact lv_bipush hx hb hdec (b8 h1 h2) (go (vI v :: S) L σ H locs ls hw hH hS hl (okL_cons.mpr ⟨⟨by omega, by omega⟩, hoS⟩) hoL)
    case sipush v =>
      obtain ⟨hn, hi⟩ := grd_s hz
      cases hi
      simp only [Bool.and_eq_true, beq_iff_eq, decide_eq_true_eq] at hn
      obtain ⟨⟨hn, h1⟩, h2⟩ := hn
      subst hn
      exact lv_sipush hx hb hdec (b16 h1 h2) (go (vI v :: S) L σ H locs ls hw hH hS hl (okL_cons.mpr ⟨⟨by omega, by omega⟩, hoS⟩) hoL)
    case ldc ix =>
      obtain ⟨hn, hi⟩ := grd_s hz
      have hn : n = 2 := by simpa using hn
      subst hn
      cases hlk : look (tI T) ix with
      | some v =>
        rw [hlk] at hi
        cases hi
        obtain ⟨h1, h2⟩ := hEI _ (look_mem hlk)
        exact lv_ldc hx hb hown (hts _ h1) hdec (go (vI v :: S) L σ H locs ls hw hH hS hl (okL_cons.mpr ⟨h2, hoS⟩) hoL)
      | none =>
        rw [hlk] at hi
        have hi : (match look (tR T) ix with
          | some q => grd (q == 103 || q == 104) (some (Instr.anewarray q))
          | none => none) = some i := hi
        cases hq : look (tR T) ix with
        | none => rw [hq] at hi; cases hi
        | some q =>
          rw [hq] at hi
          obtain ⟨h3, hi⟩ := grd_s hi
          cases hi
          have h3 : q = 103 ∨ q = 104 := by simpa using h3
          have h9 : ¬ q = 999 := by omega
          have h := go (vR q :: S) L σ H locs ls hw hH hS hl (okL_cons.mpr ⟨trivial, hoS⟩) hoL
          exact hER _ (look_mem hq) _ _ (Or.inr ⟨rfl, rfl, h3⟩) Q p e R s m args below meth c cells slots Z C0 H locs ls pc _ hS hdec (by rw [rfv_ne h9]; exact h)
    case ldc_w ix =>
      obtain ⟨hn, hi⟩ := grd_s hz
      have hn : n = 3 := by simpa using hn
      subst hn
      obtain ⟨v, hq, rfl⟩ := map_s hi
      obtain ⟨h1, h2⟩ := hEI _ (look_mem hq)
      exact lv_ldcw hx hb hown (hts _ h1) hdec (go (vI v :: S) L σ H locs ls hw hH hS hl (okL_cons.mpr ⟨h2, hoS⟩) hoL)
    case ldc2_w ix =>
      obtain ⟨hn, hi⟩ := grd_s hz
      have hn : n = 3 := by simpa using hn
      subst hn
      obtain ⟨v, hq, rfl⟩ := map_s hi
      obtain ⟨h1, h2⟩ := hEJ _ (look_mem hq)
      exact lv_ldc2 hx hb hown (hts _ h1) hdec (go (vL v :: S) L σ H locs ls hw hH hS hl (okL_cons.mpr ⟨h2, hoS⟩) hoL)
    case lconst v =>
      obtain ⟨hn, hi⟩ := grd_s hz
      have hn : n = 1 := by simpa using hn
      subst hn
      cases hi
      exact lv_lconst hx hb hdec rfl (go (vL v.val :: S) L σ H locs ls hw hH hS hl (okL_cons.mpr ⟨⟨by omega, by omega⟩, hoS⟩) hoL)
    case getstatic ix =>
      obtain ⟨hn, hi⟩ := grd_s hz
      have hn : n = 3 := by simpa using hn
      subst hn
      have hi : (match look (tR T) ix with
        | some q => if q = 999 then some (.iconst 1) else grd (!(q == 103 || q == 104)) (some (Instr.anewarray q))
        | none => none) = some i := hi
      cases hlk : look (tR T) ix with
      | none => rw [hlk] at hi; cases hi
      | some q =>
        rw [hlk] at hi
        have hi : (if q = 999 then some (.iconst 1) else grd (!(q == 103 || q == 104)) (some (Instr.anewarray q))) = some i := hi
        by_cases h9 : q = 999
        · subst h9
          cases hi
          exact hER _ (look_mem hlk) _ _ (Or.inl ⟨rfl, rfl, show ¬ ((999 : Nat) = 103 ∨ (999 : Nat) = 104) by decide⟩) Q p e R s m args below meth c cells slots Z C0 H locs ls pc _ hS hdec (go (vI 1 :: S) L σ H locs ls hw hH hS hl (okL_cons.mpr ⟨⟨by decide, by decide⟩, hoS⟩) hoL)
        · rw [if_neg h9] at hi
          obtain ⟨h3, hi⟩ := grd_s hi
          cases hi
          have h3 : ¬ (q = 103 ∨ q = 104) := by simpa using h3
          have h := go (vR q :: S) L σ H locs ls hw hH hS hl (okL_cons.mpr ⟨trivial, hoS⟩) hoL
          exact hER _ (look_mem hlk) _ _ (Or.inl ⟨rfl, rfl, h3⟩) Q p e R s m args below meth c cells slots Z C0 H locs ls pc _ hS hdec (by rw [rfv_ne h9]; exact h)
    case iload_n v =>
      obtain ⟨hn, hi⟩ := grd_s hz
      have hn : n = 1 := by simpa using hn
      subst hn
      cases hi
      have hv := okL_nth hoL (v.val)
      have hm : ∀ w, nth L (v.val) = w → w ≠ vX → ls[(v.val)]? = some (.val (cv o w)) := fun w h1 h2 => by
        have := hl.2.2 _ (cvL_nth o L (v.val) 0 w h1 h2)
        rwa [Nat.zero_add] at this
      have hw : (match nth L (v.val) with | .inl x => wp ca lv (yK Y) K Q f r (vI x :: S) L σ | _ => False) := hw
      generalize hnt : nth L (v.val) = w at hw hv
      rcases w with x | x | x | x
      · exact lv_iload_n hx hb hdec rfl (hm _ hnt (by intro z; cases z)) (go (vI x :: S) L σ H locs ls hw hH hS hl (okL_cons.mpr ⟨hv, hoS⟩) hoL)
      · exact False.elim hw
      · exact False.elim hw
      · exact False.elim hw
    case iload v =>
      obtain ⟨hn, hi⟩ := grd_s hz
      have hn : n = 2 := by simpa using hn
      subst hn
      cases hi
      have hv := okL_nth hoL (v)
      have hm : ∀ w, nth L (v) = w → w ≠ vX → ls[(v)]? = some (.val (cv o w)) := fun w h1 h2 => by
        have := hl.2.2 _ (cvL_nth o L (v) 0 w h1 h2)
        rwa [Nat.zero_add] at this
      have hw : (match nth L (v) with | .inl x => wp ca lv (yK Y) K Q f r (vI x :: S) L σ | _ => False) := hw
      generalize hnt : nth L (v) = w at hw hv
      rcases w with x | x | x | x
      · exact lv_iload hx hb hdec (hm _ hnt (by intro z; cases z)) (go (vI x :: S) L σ H locs ls hw hH hS hl (okL_cons.mpr ⟨hv, hoS⟩) hoL)
      · exact False.elim hw
      · exact False.elim hw
      · exact False.elim hw
    case lload_n v =>
      obtain ⟨hn, hi⟩ := grd_s hz
      have hn : n = 1 := by simpa using hn
      subst hn
      cases hi
      have hv := okL_nth hoL (v.val)
      have hm : ∀ w, nth L (v.val) = w → w ≠ vX → ls[(v.val)]? = some (.val (cv o w)) := fun w h1 h2 => by
        have := hl.2.2 _ (cvL_nth o L (v.val) 0 w h1 h2)
        rwa [Nat.zero_add] at this
      have hw : (match nth L (v.val) with | .inr (.inl x) => wp ca lv (yK Y) K Q f r (vL x :: S) L σ | _ => False) := hw
      generalize hnt : nth L (v.val) = w at hw hv
      rcases w with x | x | x | x
      · exact False.elim hw
      · exact lv_lload_n hx hb hdec rfl (hm _ hnt (by intro z; cases z)) (go (vL x :: S) L σ H locs ls hw hH hS hl (okL_cons.mpr ⟨hv, hoS⟩) hoL)
      · exact False.elim hw
      · exact False.elim hw
    case lload v =>
      obtain ⟨hn, hi⟩ := grd_s hz
      have hn : n = 2 := by simpa using hn
      subst hn
      cases hi
      have hv := okL_nth hoL (v)
      have hm : ∀ w, nth L (v) = w → w ≠ vX → ls[(v)]? = some (.val (cv o w)) := fun w h1 h2 => by
        have := hl.2.2 _ (cvL_nth o L (v) 0 w h1 h2)
        rwa [Nat.zero_add] at this
      have hw : (match nth L (v) with | .inr (.inl x) => wp ca lv (yK Y) K Q f r (vL x :: S) L σ | _ => False) := hw
      generalize hnt : nth L (v) = w at hw hv
      rcases w with x | x | x | x
      · exact False.elim hw
      · exact lv_lload hx hb hdec (hm _ hnt (by intro z; cases z)) (go (vL x :: S) L σ H locs ls hw hH hS hl (okL_cons.mpr ⟨hv, hoS⟩) hoL)
      · exact False.elim hw
      · exact False.elim hw
    case aload_n v =>
      obtain ⟨hn, hi⟩ := grd_s hz
      have hn : n = 1 := by simpa using hn
      subst hn
      cases hi
      have hv := okL_nth hoL (v.val)
      have hm : ∀ w, nth L (v.val) = w → w ≠ vX → ls[(v.val)]? = some (.val (cv o w)) := fun w h1 h2 => by
        have := hl.2.2 _ (cvL_nth o L (v.val) 0 w h1 h2)
        rwa [Nat.zero_add] at this
      have hw : (match nth L (v.val) with | .inr (.inr (.inl x)) => wp ca lv (yK Y) K Q f r (vR x :: S) L σ | _ => False) := hw
      generalize hnt : nth L (v.val) = w at hw hv
      rcases w with x | x | x | x
      · exact False.elim hw
      · exact False.elim hw
      · exact lv_aload_n hx hb hdec rfl (hm _ hnt (by intro z; cases z)) (go (vR x :: S) L σ H locs ls hw hH hS hl (okL_cons.mpr ⟨hv, hoS⟩) hoL)
      · exact False.elim hw
    case aload v =>
      obtain ⟨hn, hi⟩ := grd_s hz
      have hn : n = 2 := by simpa using hn
      subst hn
      cases hi
      have hv := okL_nth hoL (v)
      have hm : ∀ w, nth L (v) = w → w ≠ vX → ls[(v)]? = some (.val (cv o w)) := fun w h1 h2 => by
        have := hl.2.2 _ (cvL_nth o L (v) 0 w h1 h2)
        rwa [Nat.zero_add] at this
      have hw : (match nth L (v) with | .inr (.inr (.inl x)) => wp ca lv (yK Y) K Q f r (vR x :: S) L σ | _ => False) := hw
      generalize hnt : nth L (v) = w at hw hv
      rcases w with x | x | x | x
      · exact False.elim hw
      · exact False.elim hw
      · exact lv_aload hx hb hdec (hm _ hnt (by intro z; cases z)) (go (vR x :: S) L σ H locs ls hw hH hS hl (okL_cons.mpr ⟨hv, hoS⟩) hoL)
      · exact False.elim hw
    case istore_n v =>
      obtain ⟨hn, hi⟩ := grd_s hz
      cases hi
      simp only [Bool.and_eq_true, beq_iff_eq, decide_eq_true_eq] at hn
      obtain ⟨hn, hlt⟩ := hn
      subst hn
      rw [hEM] at hlt
      rcases S with _ | ⟨x | x | x | x, S⟩ <;> try exact False.elim hw
      obtain ⟨hx1, hoS⟩ := okL_cons.mp hoS
      obtain ⟨hc1, hw⟩ : canSet L (v.val) = true ∧ wp ca lv (yK Y) K Q f r S (setL L (v.val) (vI x)) σ := hw
      exact lv_istore_n hx hb hdec rfl hl hlt rfl (fun ls2 hl2 => go S _ σ H locs ls2 hw hH hS (lv_st (v := vI x) hc1 rfl hl2) hoS (okL_set hoL hx1 _))
    case istore v =>
      obtain ⟨hn, hi⟩ := grd_s hz
      cases hi
      simp only [Bool.and_eq_true, beq_iff_eq, decide_eq_true_eq] at hn
      obtain ⟨hn, hlt⟩ := hn
      subst hn
      rw [hEM] at hlt
      rcases S with _ | ⟨x | x | x | x, S⟩ <;> try exact False.elim hw
      obtain ⟨hx1, hoS⟩ := okL_cons.mp hoS
      obtain ⟨hc1, hw⟩ : canSet L (v) = true ∧ wp ca lv (yK Y) K Q f r S (setL L (v) (vI x)) σ := hw
      exact lv_istore hx hb hdec hl hlt rfl (fun ls2 hl2 => go S _ σ H locs ls2 hw hH hS (lv_st (v := vI x) hc1 rfl hl2) hoS (okL_set hoL hx1 _))
    case lstore_n v =>
      obtain ⟨hn, hi⟩ := grd_s hz
      cases hi
      simp only [Bool.and_eq_true, beq_iff_eq, decide_eq_true_eq] at hn
      obtain ⟨hn, hlt⟩ := hn
      subst hn
      rw [hEM] at hlt
      rcases S with _ | ⟨x | x | x | x, S⟩ <;> try exact False.elim hw
      obtain ⟨hx1, hoS⟩ := okL_cons.mp hoS
      obtain ⟨hc1, hw⟩ : canSet L (v.val) = true ∧ wp ca lv (yK Y) K Q f r S (setL (setL L (v.val) (vL x)) (v.val + 1) vX) σ := hw
      exact lv_lstore_n hx hb hdec rfl hl hlt rfl (fun ls2 hl2 => go S _ σ H locs ls2 hw hH hS (lv_st2 (v := vL x) hc1 rfl hl2) hoS (okL_set (okL_set hoL hx1 _) (v := vX) trivial _))
    case lstore v =>
      obtain ⟨hn, hi⟩ := grd_s hz
      cases hi
      simp only [Bool.and_eq_true, beq_iff_eq, decide_eq_true_eq] at hn
      obtain ⟨hn, hlt⟩ := hn
      subst hn
      rw [hEM] at hlt
      rcases S with _ | ⟨x | x | x | x, S⟩ <;> try exact False.elim hw
      obtain ⟨hx1, hoS⟩ := okL_cons.mp hoS
      obtain ⟨hc1, hw⟩ : canSet L (v) = true ∧ wp ca lv (yK Y) K Q f r S (setL (setL L (v) (vL x)) (v + 1) vX) σ := hw
      exact lv_lstore hx hb hdec hl hlt rfl (fun ls2 hl2 => go S _ σ H locs ls2 hw hH hS (lv_st2 (v := vL x) hc1 rfl hl2) hoS (okL_set (okL_set hoL hx1 _) (v := vX) trivial _))
    case astore_n v =>
      obtain ⟨hn, hi⟩ := grd_s hz
      cases hi
      simp only [Bool.and_eq_true, beq_iff_eq, decide_eq_true_eq] at hn
      obtain ⟨hn, hlt⟩ := hn
      subst hn
      rw [hEM] at hlt
      rcases S with _ | ⟨x | x | x | x, S⟩ <;> try exact False.elim hw
      obtain ⟨hx1, hoS⟩ := okL_cons.mp hoS
      obtain ⟨hc1, hw⟩ : canSet L (v.val) = true ∧ wp ca lv (yK Y) K Q f r S (setL L (v.val) (vR x)) σ := hw
      exact lv_astore_n hx hb hdec rfl hl hlt rfl (fun ls2 hl2 => go S _ σ H locs ls2 hw hH hS (lv_st (v := vR x) hc1 rfl hl2) hoS (okL_set hoL hx1 _))
    case astore v =>
      obtain ⟨hn, hi⟩ := grd_s hz
      cases hi
      simp only [Bool.and_eq_true, beq_iff_eq, decide_eq_true_eq] at hn
      obtain ⟨hn, hlt⟩ := hn
      subst hn
      rw [hEM] at hlt
      rcases S with _ | ⟨x | x | x | x, S⟩ <;> try exact False.elim hw
      obtain ⟨hx1, hoS⟩ := okL_cons.mp hoS
      obtain ⟨hc1, hw⟩ : canSet L (v) = true ∧ wp ca lv (yK Y) K Q f r S (setL L (v) (vR x)) σ := hw
      exact lv_astore hx hb hdec hl hlt rfl (fun ls2 hl2 => go S _ σ H locs ls2 hw hH hS (lv_st (v := vR x) hc1 rfl hl2) hoS (okL_set hoL hx1 _))
    case iinc v k =>
      obtain ⟨hn, hi⟩ := grd_s hz
      cases hi
      simp only [Bool.and_eq_true, beq_iff_eq, decide_eq_true_eq] at hn
      obtain ⟨hn, hlt⟩ := hn
      subst hn
      rw [hEM] at hlt
      have hw : (match nth L v with | .inl x => canSet L v = true ∧ i32 (x + k) ∧ wp ca lv (yK Y) K Q f r S (setL L v (vI (x + k))) σ | _ => False) := hw
      generalize hnt : nth L v = w at hw
      rcases w with x | x | x | x
      · obtain ⟨hc1, hi1, hw⟩ := hw
        obtain ⟨k0, hk0⟩ := List.getElem?_of_mem (cvL_nth o L v 0 _ hnt (by intro z; cases z))
        rw [Nat.zero_add] at hk0
        exact lv_iinc (v := Int32.ofInt (x + k)) hx hb hdec hl hk0 (Int32.ofInt_add x k).symm hlt rfl (fun ls2 hl2 => go S _ σ H locs ls2 hw hH hS (lv_st (v := vI (x + k)) hc1 rfl hl2) hoS (okL_set hoL (v := vI (x + k)) hi1 _))
      · exact False.elim hw
      · exact False.elim hw
      · exact False.elim hw
    case iadd =>
      obtain ⟨hn, hi⟩ := grd_s hz
      have hn : n = 1 := by simpa using hn
      subst hn
      cases hi
      rcases S with _ | ⟨b | b | b | b, S⟩ <;> try exact False.elim hw
      rcases S with _ | ⟨a | a | a | a, S⟩ <;> try exact False.elim hw
      obtain ⟨hb1, hoS⟩ := okL_cons.mp hoS
      obtain ⟨ha1, hoS⟩ := okL_cons.mp hoS
      obtain ⟨hi1, hw⟩ : i32 (a + b) ∧ wp ca lv (yK Y) K Q f r (vI (a + b) :: S) L σ := hw
      refine lv_iadd hx hb hdec ?_
      rw [← Int32.ofInt_add]
      exact go (vI (a + b) :: S) L σ H locs ls hw hH hS hl (okL_cons.mpr ⟨hi1, hoS⟩) hoL
    case isub =>
      obtain ⟨hn, hi⟩ := grd_s hz
      have hn : n = 1 := by simpa using hn
      subst hn
      cases hi
      rcases S with _ | ⟨b | b | b | b, S⟩ <;> try exact False.elim hw
      rcases S with _ | ⟨a | a | a | a, S⟩ <;> try exact False.elim hw
      obtain ⟨hb1, hoS⟩ := okL_cons.mp hoS
      obtain ⟨ha1, hoS⟩ := okL_cons.mp hoS
      obtain ⟨hi1, hw⟩ : i32 (a - b) ∧ wp ca lv (yK Y) K Q f r (vI (a - b) :: S) L σ := hw
      refine lv_isub hx hb hdec ?_
      rw [← Int32.ofInt_sub]
      exact go (vI (a - b) :: S) L σ H locs ls hw hH hS hl (okL_cons.mpr ⟨hi1, hoS⟩) hoL
    case imul =>
      obtain ⟨hn, hi⟩ := grd_s hz
      have hn : n = 1 := by simpa using hn
      subst hn
      cases hi
      rcases S with _ | ⟨b | b | b | b, S⟩ <;> try exact False.elim hw
      rcases S with _ | ⟨a | a | a | a, S⟩ <;> try exact False.elim hw
      obtain ⟨hb1, hoS⟩ := okL_cons.mp hoS
      obtain ⟨ha1, hoS⟩ := okL_cons.mp hoS
      obtain ⟨hi1, hw⟩ : i32 (a * b) ∧ wp ca lv (yK Y) K Q f r (vI (a * b) :: S) L σ := hw
      refine lv_imul hx hb hdec ?_
      rw [← Int32.ofInt_mul]
      exact go (vI (a * b) :: S) L σ H locs ls hw hH hS hl (okL_cons.mpr ⟨hi1, hoS⟩) hoL
    case ineg =>
      obtain ⟨hn, hi⟩ := grd_s hz
      have hn : n = 1 := by simpa using hn
      subst hn
      cases hi
      rcases S with _ | ⟨a | a | a | a, S⟩ <;> try exact False.elim hw
      obtain ⟨ha1, hoS⟩ := okL_cons.mp hoS
      obtain ⟨hi1, hw⟩ : i32 (-a) ∧ wp ca lv (yK Y) K Q f r (vI (-a) :: S) L σ := hw
      refine lv_ineg hx hb hdec ?_
      rw [← Int32.ofInt_neg]
      exact go (vI (-a) :: S) L σ H locs ls hw hH hS hl (okL_cons.mpr ⟨hi1, hoS⟩) hoL
    case idiv =>
      obtain ⟨hn, hi⟩ := grd_s hz
      have hn : n = 1 := by simpa using hn
      subst hn
      cases hi
      rcases S with _ | ⟨b | b | b | b, S⟩ <;> try exact False.elim hw
      rcases S with _ | ⟨a | a | a | a, S⟩ <;> try exact False.elim hw
      obtain ⟨hb1, hoS⟩ := okL_cons.mp hoS
      obtain ⟨ha1, hoS⟩ := okL_cons.mp hoS
      obtain ⟨h0, hw⟩ : 0 < b ∧ wp ca lv (yK Y) K Q f r (vI (Int.tdiv a b) :: S) L σ := hw
      refine lv_idiv hx hb hdec (fun z => by have := (i32_eq hb1 i32_0).mp z; omega) ?_
      rw [i32_div ha1 hb1 h0]
      exact go (vI (Int.tdiv a b) :: S) L σ H locs ls hw hH hS hl (okL_cons.mpr ⟨tdiv_in ha1 h0, hoS⟩) hoL
    case irem =>
      obtain ⟨hn, hi⟩ := grd_s hz
      have hn : n = 1 := by simpa using hn
      subst hn
      cases hi
      rcases S with _ | ⟨b | b | b | b, S⟩ <;> try exact False.elim hw
      rcases S with _ | ⟨a | a | a | a, S⟩ <;> try exact False.elim hw
      obtain ⟨hb1, hoS⟩ := okL_cons.mp hoS
      obtain ⟨ha1, hoS⟩ := okL_cons.mp hoS
      obtain ⟨h0, hw⟩ : 0 < b ∧ wp ca lv (yK Y) K Q f r (vI (Int.tmod a b) :: S) L σ := hw
      refine lv_irem hx hb hdec (fun z => by have := (i32_eq hb1 i32_0).mp z; omega) ?_
      rw [i32_rem ha1 hb1 h0]
      exact go (vI (Int.tmod a b) :: S) L σ H locs ls hw hH hS hl (okL_cons.mpr ⟨tmod_in ha1 h0, hoS⟩) hoL
    case ldiv =>
      obtain ⟨hn, hi⟩ := grd_s hz
      have hn : n = 1 := by simpa using hn
      subst hn
      cases hi
      rcases S with _ | ⟨b | b | b | b, S⟩ <;> try exact False.elim hw
      rcases S with _ | ⟨a | a | a | a, S⟩ <;> try exact False.elim hw
      obtain ⟨hb1, hoS⟩ := okL_cons.mp hoS
      obtain ⟨ha1, hoS⟩ := okL_cons.mp hoS
      obtain ⟨h0, hw⟩ : 0 < b ∧ wp ca lv (yK Y) K Q f r (vL (Int.tdiv a b) :: S) L σ := hw
      refine lv_ldiv hx hb hdec (fun z => by have := (i64_eq (b := 0) hb1 ⟨by decide, by decide⟩).mp z; omega) ?_
      rw [i64_div ha1 hb1 h0]
      exact go (vL (Int.tdiv a b) :: S) L σ H locs ls hw hH hS hl (okL_cons.mpr ⟨tdiv_in64 ha1 h0, hoS⟩) hoL
    case lrem =>
      obtain ⟨hn, hi⟩ := grd_s hz
      have hn : n = 1 := by simpa using hn
      subst hn
      cases hi
      rcases S with _ | ⟨b | b | b | b, S⟩ <;> try exact False.elim hw
      rcases S with _ | ⟨a | a | a | a, S⟩ <;> try exact False.elim hw
      obtain ⟨hb1, hoS⟩ := okL_cons.mp hoS
      obtain ⟨ha1, hoS⟩ := okL_cons.mp hoS
      obtain ⟨h0, hw⟩ : 0 < b ∧ wp ca lv (yK Y) K Q f r (vL (Int.tmod a b) :: S) L σ := hw
      refine lv_lrem hx hb hdec (fun z => by have := (i64_eq (b := 0) hb1 ⟨by decide, by decide⟩).mp z; omega) ?_
      rw [i64_rem ha1 hb1 h0]
      exact go (vL (Int.tmod a b) :: S) L σ H locs ls hw hH hS hl (okL_cons.mpr ⟨tmod_in64 ha1 h0, hoS⟩) hoL
    case iand =>
      obtain ⟨hn, hi⟩ := grd_s hz
      have hn : n = 1 := by simpa using hn
      subst hn
      cases hi
      rcases S with _ | ⟨b | b | b | b, S⟩ <;> try exact False.elim hw
      rcases S with _ | ⟨a | a | a | a, S⟩ <;> try exact False.elim hw
      obtain ⟨hb1, hoS⟩ := okL_cons.mp hoS
      obtain ⟨ha1, hoS⟩ := okL_cons.mp hoS
      have h := go (vI (bAnd a b) :: S) L σ H locs ls hw hH hS hl (okL_cons.mpr ⟨i32_in _, hoS⟩) hoL
      refine lv_iand hx hb hdec ?_
      rw [List.map_cons, show cv o (vI (bAnd a b)) = .int _ from congrArg Value.int (of32 _)] at h
      exact h
    case ior =>
      obtain ⟨hn, hi⟩ := grd_s hz
      have hn : n = 1 := by simpa using hn
      subst hn
      cases hi
      rcases S with _ | ⟨b | b | b | b, S⟩ <;> try exact False.elim hw
      rcases S with _ | ⟨a | a | a | a, S⟩ <;> try exact False.elim hw
      obtain ⟨hb1, hoS⟩ := okL_cons.mp hoS
      obtain ⟨ha1, hoS⟩ := okL_cons.mp hoS
      have h := go (vI (bOr a b) :: S) L σ H locs ls hw hH hS hl (okL_cons.mpr ⟨i32_in _, hoS⟩) hoL
      refine lv_ior hx hb hdec ?_
      rw [List.map_cons, show cv o (vI (bOr a b)) = .int _ from congrArg Value.int (of32 _)] at h
      exact h
    case ixor =>
      obtain ⟨hn, hi⟩ := grd_s hz
      have hn : n = 1 := by simpa using hn
      subst hn
      cases hi
      rcases S with _ | ⟨b | b | b | b, S⟩ <;> try exact False.elim hw
      rcases S with _ | ⟨a | a | a | a, S⟩ <;> try exact False.elim hw
      obtain ⟨hb1, hoS⟩ := okL_cons.mp hoS
      obtain ⟨ha1, hoS⟩ := okL_cons.mp hoS
      have h := go (vI (bXor a b) :: S) L σ H locs ls hw hH hS hl (okL_cons.mpr ⟨i32_in _, hoS⟩) hoL
      refine lv_ixor hx hb hdec ?_
      rw [List.map_cons, show cv o (vI (bXor a b)) = .int _ from congrArg Value.int (of32 _)] at h
      exact h
    case ishl =>
      obtain ⟨hn, hi⟩ := grd_s hz
      have hn : n = 1 := by simpa using hn
      subst hn
      cases hi
      rcases S with _ | ⟨b | b | b | b, S⟩ <;> try exact False.elim hw
      rcases S with _ | ⟨a | a | a | a, S⟩ <;> try exact False.elim hw
      obtain ⟨hb1, hoS⟩ := okL_cons.mp hoS
      obtain ⟨ha1, hoS⟩ := okL_cons.mp hoS
      have h := go (vI (bShl a b) :: S) L σ H locs ls hw hH hS hl (okL_cons.mpr ⟨i32_in _, hoS⟩) hoL
      refine lv_ishl hx hb hdec ?_
      rw [List.map_cons, show cv o (vI (bShl a b)) = .int _ from congrArg Value.int (of32 _)] at h
      exact h
    case ishr =>
      obtain ⟨hn, hi⟩ := grd_s hz
      have hn : n = 1 := by simpa using hn
      subst hn
      cases hi
      rcases S with _ | ⟨b | b | b | b, S⟩ <;> try exact False.elim hw
      rcases S with _ | ⟨a | a | a | a, S⟩ <;> try exact False.elim hw
      obtain ⟨hb1, hoS⟩ := okL_cons.mp hoS
      obtain ⟨ha1, hoS⟩ := okL_cons.mp hoS
      have h := go (vI (bShr a b) :: S) L σ H locs ls hw hH hS hl (okL_cons.mpr ⟨i32_in _, hoS⟩) hoL
      refine lv_ishr hx hb hdec ?_
      rw [List.map_cons, show cv o (vI (bShr a b)) = .int _ from congrArg Value.int (of32 _)] at h
      exact h
    case iushr =>
      obtain ⟨hn, hi⟩ := grd_s hz
      have hn : n = 1 := by simpa using hn
      subst hn
      cases hi
      rcases S with _ | ⟨b | b | b | b, S⟩ <;> try exact False.elim hw
      rcases S with _ | ⟨a | a | a | a, S⟩ <;> try exact False.elim hw
      obtain ⟨hb1, hoS⟩ := okL_cons.mp hoS
      obtain ⟨ha1, hoS⟩ := okL_cons.mp hoS
      exact lv_iushr (v := Int32.ofInt (bUshr a b)) hx hb hdec (of32 _).symm (go (vI (bUshr a b) :: S) L σ H locs ls hw hH hS hl (okL_cons.mpr ⟨i32_in _, hoS⟩) hoL)
    case ladd =>
      obtain ⟨hn, hi⟩ := grd_s hz
      have hn : n = 1 := by simpa using hn
      subst hn
      cases hi
      rcases S with _ | ⟨b | b | b | b, S⟩ <;> try exact False.elim hw
      rcases S with _ | ⟨a | a | a | a, S⟩ <;> try exact False.elim hw
      obtain ⟨hb1, hoS⟩ := okL_cons.mp hoS
      obtain ⟨ha1, hoS⟩ := okL_cons.mp hoS
      have h := go (vL (w64 (a + b)) :: S) L σ H locs ls hw hH hS hl (okL_cons.mpr ⟨i64_in _, hoS⟩) hoL
      refine lv_ladd hx hb hdec ?_
      rw [← Int64.ofInt_add]
      rw [List.map_cons, show cv o (vL (w64 (a + b))) = .long _ from congrArg Value.long (of64 _)] at h
      exact h
    case lmul =>
      obtain ⟨hn, hi⟩ := grd_s hz
      have hn : n = 1 := by simpa using hn
      subst hn
      cases hi
      rcases S with _ | ⟨b | b | b | b, S⟩ <;> try exact False.elim hw
      rcases S with _ | ⟨a | a | a | a, S⟩ <;> try exact False.elim hw
      obtain ⟨hb1, hoS⟩ := okL_cons.mp hoS
      obtain ⟨ha1, hoS⟩ := okL_cons.mp hoS
      have h := go (vL (w64 (a * b)) :: S) L σ H locs ls hw hH hS hl (okL_cons.mpr ⟨i64_in _, hoS⟩) hoL
      refine lv_lmul hx hb hdec ?_
      rw [← Int64.ofInt_mul]
      rw [List.map_cons, show cv o (vL (w64 (a * b))) = .long _ from congrArg Value.long (of64 _)] at h
      exact h
    case land =>
      obtain ⟨hn, hi⟩ := grd_s hz
      have hn : n = 1 := by simpa using hn
      subst hn
      cases hi
      rcases S with _ | ⟨b | b | b | b, S⟩ <;> try exact False.elim hw
      rcases S with _ | ⟨a | a | a | a, S⟩ <;> try exact False.elim hw
      obtain ⟨hb1, hoS⟩ := okL_cons.mp hoS
      obtain ⟨ha1, hoS⟩ := okL_cons.mp hoS
      have h := go (vL (lAnd a b) :: S) L σ H locs ls hw hH hS hl (okL_cons.mpr ⟨i64_in _, hoS⟩) hoL
      refine lv_land hx hb hdec ?_
      rw [List.map_cons, show cv o (vL (lAnd a b)) = .long _ from congrArg Value.long (of64 _)] at h
      exact h
    case lor =>
      obtain ⟨hn, hi⟩ := grd_s hz
      have hn : n = 1 := by simpa using hn
      subst hn
      cases hi
      rcases S with _ | ⟨b | b | b | b, S⟩ <;> try exact False.elim hw
      rcases S with _ | ⟨a | a | a | a, S⟩ <;> try exact False.elim hw
      obtain ⟨hb1, hoS⟩ := okL_cons.mp hoS
      obtain ⟨ha1, hoS⟩ := okL_cons.mp hoS
      have h := go (vL (lOr a b) :: S) L σ H locs ls hw hH hS hl (okL_cons.mpr ⟨i64_in _, hoS⟩) hoL
      refine lv_lor hx hb hdec ?_
      rw [List.map_cons, show cv o (vL (lOr a b)) = .long _ from congrArg Value.long (of64 _)] at h
      exact h
    case lshl =>
      obtain ⟨hn, hi⟩ := grd_s hz
      have hn : n = 1 := by simpa using hn
      subst hn
      cases hi
      rcases S with _ | ⟨b | b | b | b, S⟩ <;> try exact False.elim hw
      rcases S with _ | ⟨a | a | a | a, S⟩ <;> try exact False.elim hw
      obtain ⟨hb1, hoS⟩ := okL_cons.mp hoS
      obtain ⟨ha1, hoS⟩ := okL_cons.mp hoS
      exact lv_lshl (v := Int64.ofInt (lShl a b)) hx hb hdec (of64 _).symm (go (vL (lShl a b) :: S) L σ H locs ls hw hH hS hl (okL_cons.mpr ⟨i64_in _, hoS⟩) hoL)
    case lushr =>
      obtain ⟨hn, hi⟩ := grd_s hz
      have hn : n = 1 := by simpa using hn
      subst hn
      cases hi
      rcases S with _ | ⟨b | b | b | b, S⟩ <;> try exact False.elim hw
      rcases S with _ | ⟨a | a | a | a, S⟩ <;> try exact False.elim hw
      obtain ⟨hb1, hoS⟩ := okL_cons.mp hoS
      obtain ⟨ha1, hoS⟩ := okL_cons.mp hoS
      exact lv_lushr (v := Int64.ofInt (lUshr a b)) hx hb hdec (of64 _).symm (go (vL (lUshr a b) :: S) L σ H locs ls hw hH hS hl (okL_cons.mpr ⟨i64_in _, hoS⟩) hoL)
    case lcmp =>
      obtain ⟨hn, hi⟩ := grd_s hz
      have hn : n = 1 := by simpa using hn
      subst hn
      cases hi
      rcases S with _ | ⟨b | b | b | b, S⟩ <;> try exact False.elim hw
      rcases S with _ | ⟨a | a | a | a, S⟩ <;> try exact False.elim hw
      obtain ⟨hb1, hoS⟩ := okL_cons.mp hoS
      obtain ⟨ha1, hoS⟩ := okL_cons.mp hoS
      refine W.lcmp hx hb hdec ?_
      rw [lg_c ha1 hb1]
      exact go (vI (lCmp a b) :: S) L σ H locs ls hw hH hS hl (okL_cons.mpr ⟨lCmp_in a b, hoS⟩) hoL
    case i2l =>
      obtain ⟨hn, hi⟩ := grd_s hz
      have hn : n = 1 := by simpa using hn
      subst hn
      cases hi
      rcases S with _ | ⟨a | a | a | a, S⟩ <;> try exact False.elim hw
      obtain ⟨ha1, hoS⟩ := okL_cons.mp hoS
      have ha1 : i32 a := ha1
      exact lv_i2l hx hb hdec (i32_i64 ha1) (go (vL a :: S) L σ H locs ls hw hH hS hl (okL_cons.mpr ⟨⟨by have := ha1.1; omega, by have := ha1.2; omega⟩, hoS⟩) hoL)
    case l2i =>
      obtain ⟨hn, hi⟩ := grd_s hz
      have hn : n = 1 := by simpa using hn
      subst hn
      cases hi
      rcases S with _ | ⟨a | a | a | a, S⟩ <;> try exact False.elim hw
      obtain ⟨ha1, hoS⟩ := okL_cons.mp hoS
      exact lv_l2i (v := Int32.ofInt (w32 a)) hx hb hdec (by unfold w32; rw [of32]; exact Int64.toInt32_ofInt) (go (vI (w32 a) :: S) L σ H locs ls hw hH hS hl (okL_cons.mpr ⟨i32_in _, hoS⟩) hoL)
    case i2c =>
      obtain ⟨hn, hi⟩ := grd_s hz
      have hn : n = 1 := by simpa using hn
      subst hn
      cases hi
      rcases S with _ | ⟨a | a | a | a, S⟩ <;> try exact False.elim hw
      obtain ⟨ha1, hoS⟩ := okL_cons.mp hoS
      exact lv_i2c (v := Int32.ofInt (bChr a)) hx hb hdec (of32 _).symm (go (vI (bChr a) :: S) L σ H locs ls hw hH hS hl (okL_cons.mpr ⟨i32_in _, hoS⟩) hoL)
    case i2b =>
      obtain ⟨hn, hi⟩ := grd_s hz
      have hn : n = 1 := by simpa using hn
      subst hn
      cases hi
      rcases S with _ | ⟨a | a | a | a, S⟩ <;> try exact False.elim hw
      obtain ⟨ha1, hoS⟩ := okL_cons.mp hoS
      exact lv_i2b (v := Int32.ofInt (bI8 a)) hx hb hdec (of32 _).symm (go (vI (bI8 a) :: S) L σ H locs ls hw hH hS hl (okL_cons.mpr ⟨i32_in _, hoS⟩) hoL)
    case dup =>
      obtain ⟨hn, hi⟩ := grd_s hz
      have hn : n = 1 := by simpa using hn
      subst hn
      cases hi
      rcases S with _ | ⟨a | a | a | a, S⟩ <;> try exact False.elim hw
      · obtain ⟨ha1, hoS'⟩ := okL_cons.mp hoS
        exact lv_dup hx hb hdec rfl (go (vI a :: vI a :: S) L σ H locs ls hw hH hS hl (okL_cons.mpr ⟨ha1, hoS⟩) hoL)
      · obtain ⟨ha1, hoS'⟩ := okL_cons.mp hoS
        exact lv_dup hx hb hdec rfl (go (vR a :: vR a :: S) L σ H locs ls hw hH hS hl (okL_cons.mpr ⟨ha1, hoS⟩) hoL)
    case dup2 =>
      obtain ⟨hn, hi⟩ := grd_s hz
      have hn : n = 1 := by simpa using hn
      subst hn
      cases hi
      rcases S with _ | ⟨a | a | a | a, S⟩ <;> try exact False.elim hw
      rcases S with _ | ⟨b | b | b | b, S⟩ <;> try exact False.elim hw
      obtain ⟨ha1, hoS1⟩ := okL_cons.mp hoS
      obtain ⟨hb1, hoS2⟩ := okL_cons.mp hoS1
      exact lv_dup2_11 hx hb hdec rfl rfl (go (vI a :: vR b :: vI a :: vR b :: S) L σ H locs ls hw hH hS hl (okL_cons.mpr ⟨ha1, okL_cons.mpr ⟨hb1, hoS⟩⟩) hoL)
    case pop =>
      obtain ⟨hn, hi⟩ := grd_s hz
      have hn : n = 1 := by simpa using hn
      subst hn
      cases hi
      rcases S with _ | ⟨a | a | a | a, S⟩ <;> try exact False.elim hw
      obtain ⟨ha1, hoS⟩ := okL_cons.mp hoS
      exact lv_pop hx hb hdec rfl (go S L σ H locs ls hw hH hS hl hoS hoL)
    case goto of =>
      obtain ⟨hn, hi⟩ := grd_s hz
      cases hi
      simp only [Bool.and_eq_true, beq_iff_eq, decide_eq_true_eq] at hn
      obtain ⟨hn, ht⟩ := hn
      subst hn
      have htt : (pc : Int) + of = ((abso pc of).toNat : Int) := by rw [Int.toNat_of_nonneg ht]; rfl
      exact lv_goto hx hb hdec htt (jmp _ S hw hoS)
    case if_icmp cd of =>
      obtain ⟨hn, hi⟩ := grd_s hz
      cases hi
      simp only [Bool.and_eq_true, beq_iff_eq, decide_eq_true_eq] at hn
      obtain ⟨hn, ht⟩ := hn
      subst hn
      have htt : (pc : Int) + of = ((abso pc of).toNat : Int) := by rw [Int.toNat_of_nonneg ht]; rfl
      rcases S with _ | ⟨b | b | b | b, S⟩ <;> try exact False.elim hw
      rcases S with _ | ⟨a | a | a | a, S⟩ <;> try exact False.elim hw
      obtain ⟨hb1, hoS⟩ := okL_cons.mp hoS
      obtain ⟨ha1, hoS⟩ := okL_cons.mp hoS
      obtain ⟨k1, k2⟩ : (cmpI cd a b → K (abso pc of).toNat S (tk lv (abso pc of).toNat L) σ) ∧ (¬ cmpI cd a b → wp ca lv (yK Y) K Q f r S L σ) := hw
      cases cd
      · exact lv_icmp_eq hx hb hdec htt (fun z => jmp _ S (k1 ((i32_eq ha1 hb1).mp z)) hoS) (fun z => go S L σ H locs ls (k2 (fun y => z ((i32_eq ha1 hb1).mpr y))) hH hS hl hoS hoL)
      · exact lv_icmp_ne hx hb hdec htt (fun z => jmp _ S (k1 (fun y => z ((i32_eq ha1 hb1).mpr y))) hoS) (fun z => go S L σ H locs ls (k2 (fun y => y ((i32_eq ha1 hb1).mp z))) hH hS hl hoS hoL)
      · exact lv_icmp_lt hx hb hdec htt (fun z => jmp _ S (k1 ((i32_lt ha1 hb1).mp z)) hoS) (fun z => go S L σ H locs ls (k2 (fun y => z ((i32_lt ha1 hb1).mpr y))) hH hS hl hoS hoL)
      · exact lv_icmp_ge hx hb hdec htt (fun z => jmp _ S (k1 ((i32_le hb1 ha1).mp z)) hoS) (fun z => go S L σ H locs ls (k2 (fun y => z ((i32_le hb1 ha1).mpr y))) hH hS hl hoS hoL)
      · exact lv_icmp_gt hx hb hdec htt (fun z => jmp _ S (k1 ((i32_lt hb1 ha1).mp z)) hoS) (fun z => go S L σ H locs ls (k2 (fun y => z ((i32_lt hb1 ha1).mpr y))) hH hS hl hoS hoL)
      · exact lv_icmp_le hx hb hdec htt (fun z => jmp _ S (k1 ((i32_le ha1 hb1).mp z)) hoS) (fun z => go S L σ H locs ls (k2 (fun y => z ((i32_le ha1 hb1).mpr y))) hH hS hl hoS hoL)
    case ifCond cd of =>
      obtain ⟨hn, hi⟩ := grd_s hz
      cases hi
      simp only [Bool.and_eq_true, beq_iff_eq, decide_eq_true_eq] at hn
      obtain ⟨hn, ht⟩ := hn
      subst hn
      have htt : (pc : Int) + of = ((abso pc of).toNat : Int) := by rw [Int.toNat_of_nonneg ht]; rfl
      rcases S with _ | ⟨a | a | a | a, S⟩ <;> try exact False.elim hw
      obtain ⟨ha1, hoS⟩ := okL_cons.mp hoS
      obtain ⟨k1, k2⟩ : (cmpI cd a 0 → K (abso pc of).toNat S (tk lv (abso pc of).toNat L) σ) ∧ (¬ cmpI cd a 0 → wp ca lv (yK Y) K Q f r S L σ) := hw
      cases cd
      · exact lv_if_eq hx hb hdec htt (fun z => jmp _ S (k1 ((i32_eq ha1 i32_0).mp z)) hoS) (fun z => go S L σ H locs ls (k2 (fun y => z ((i32_eq ha1 i32_0).mpr y))) hH hS hl hoS hoL)
      · exact lv_if_ne hx hb hdec htt (fun z => jmp _ S (k1 (fun y => z ((i32_eq ha1 i32_0).mpr y))) hoS) (fun z => go S L σ H locs ls (k2 (fun y => y ((i32_eq ha1 i32_0).mp z))) hH hS hl hoS hoL)
      · exact lv_if_lt hx hb hdec htt (fun z => jmp _ S (k1 ((i32_lt ha1 i32_0).mp z)) hoS) (fun z => go S L σ H locs ls (k2 (fun y => z ((i32_lt ha1 i32_0).mpr y))) hH hS hl hoS hoL)
      · exact lv_if_ge hx hb hdec htt (fun z => jmp _ S (k1 ((i32_le i32_0 ha1).mp z)) hoS) (fun z => go S L σ H locs ls (k2 (fun y => z ((i32_le i32_0 ha1).mpr y))) hH hS hl hoS hoL)
      · exact lv_if_gt hx hb hdec htt (fun z => jmp _ S (k1 ((i32_lt i32_0 ha1).mp z)) hoS) (fun z => go S L σ H locs ls (k2 (fun y => z ((i32_lt i32_0 ha1).mpr y))) hH hS hl hoS hoL)
      · exact lv_if_le hx hb hdec htt (fun z => jmp _ S (k1 ((i32_le ha1 i32_0).mp z)) hoS) (fun z => go S L σ H locs ls (k2 (fun y => z ((i32_le ha1 i32_0).mpr y))) hH hS hl hoS hoL)
    case tableswitch df lo hi os =>
      obtain ⟨hn, hi⟩ := grd_s hz
      cases hi
      simp only [Bool.and_eq_true, decide_eq_true_eq, List.all_eq_true] at hn
      obtain ⟨⟨hd0, hall⟩, hlen⟩ := hn
      rcases S with _ | ⟨x | x | x | x, S⟩ <;> try exact False.elim hw
      obtain ⟨hx1, hoS⟩ := okL_cons.mp hoS
      have hx1 : i32 x := hx1
      obtain ⟨k1, k2⟩ : swK lv K S L σ x lo (os.toList.map (abso pc)).toArray.toList ∧ (x < lo ∨ hi < x → K (abso pc df).toNat S (tk lv (abso pc df).toNat L) σ) := hw
      by_cases hin : x < lo ∨ hi < x
      · exact lv_tableOut (tgt := (abso pc df).toNat) hx hb hdec (by rw [i32_to hx1]; exact hin) (by rw [Int.toNat_of_nonneg hd0]; rfl) (jmp _ S (k2 hin) hoS)
      · have hj : (x - lo).toNat < os.toList.length := by omega
        have ho : os.toList[(x - lo).toNat]? = some (os.toList[(x - lo).toNat]) := List.getElem?_eq_getElem hj
        have h0 := hall _ (List.mem_of_getElem? ho)
        exact lv_tableIn (tgt := (abso pc (os.toList[(x - lo).toNat])).toNat) hx hb hdec (by rw [i32_to hx1]; omega) (by rw [i32_to hx1]; omega) (by rw [i32_to hx1, ← Array.getElem?_toList]; exact ho) (by rw [Int.toNat_of_nonneg h0]; rfl) (jmp _ S (swK_at _ x lo k1 (x - lo).toNat _ (by rw [List.toList_toArray, List.getElem?_map, ho]; rfl) (by omega)) hoS)
    case getfield ix =>
      obtain ⟨hn, hi⟩ := grd_s hz
      have hn : n = 3 := by simpa using hn
      subst hn
      obtain ⟨cd, hq, rfl⟩ := map_s hi
      rcases S with _ | ⟨q | q | q | q, S⟩ <;> try exact False.elim hw
      replace hoS := (okL_cons.mp hoS).2
      obtain ⟨hs1, hw⟩ : shp q = (3, cd / 1000) ∧ wp ca lv (yK Y) K Q f r (rdF cd q σ :: S) L σ := hw
      rcases hEF _ (look_mem hq) with hF | hF
      · obtain ⟨C, TT, N, ty, g1, g2, g3, g4, g5, g6, g7, g8, g9, g10, g11, g12, g13⟩ := hF
        have hci : cd / 1000 < 10 := (List.getElem?_eq_some_iff.mp g1).1
        have hqN := shp_3 q _ hs1 hci
        have he := wsO_get o σ hqN
        rw [cel_3 hs1, g2] at he
        have hk : W p (oL o) e R s m args below meth c H locs cells slots Z (F0 m (pc + 3) ls (fld o σ q (cd / 10 % 100) :: S.map (cv o))) := by
          rw [fld_cv hs1 g4]
          exact go (rdF cd q σ :: S) L σ H locs ls hw hH hS hl (okL_cons.mpr ⟨rdF_ok hH.1.2 hs1 g4, hoS⟩) hoL
        rcases g13 with g | ⟨host, g⟩
        · exact va_get hx hb hts g6 hown hst.1 hH.1.1 q he g1 _ g3 (hts _ g) (by rw [g5]; exact fun x h => h) (fs_at g3) hdec hk
        · exact va_getN hx hb hts g6 hown hst.1 hH.1.1 q he g1 _ g3 (va_Nw.use rfl (hst.2.1 _ g)) (by rw [g5]; exact fun x h => h) (fs_at g3) hdec hk
      · obtain ⟨hos, hF⟩ := hF
        have hst6 := hst.2.2.2.2.2
        rcases hF with ⟨rfl, hF⟩ | ⟨rfl, hF⟩
        · rcases shp_20 q hs1 with rfl | rfl
          · exact vk_getf hx hb hst6.2.2.1.2.2.1 hS hown (hts _ hF) (fun x h => h) hdec (go (vR 105 :: S) L σ H locs ls hw hH hS hl (okL_cons.mpr ⟨trivial, hoS⟩) hoL)
          · exact vk_getf hx hb hst6.2.2.2.1.2.2.1 hS hown (hts _ hF) (fun x h => h) hdec (go (vR 106 :: S) L σ H locs ls hw hH hS hl (okL_cons.mpr ⟨trivial, hoS⟩) hoL)
        · rcases shp_20 q hs1 with rfl | rfl
          · have hw : wp ca lv (yK Y) K Q f r (vI (σ 103 1) :: S) L σ := hw
            rw [hH.2.1.1] at hw
            exact vk_getf hx hb hst6.2.2.1.2.1 hS hown (hts _ hF) (fun x h => h) hdec (go (vI 0 :: S) L σ H locs ls hw hH hS hl (okL_cons.mpr ⟨i32_0, hoS⟩) hoL)
          · have hw : wp ca lv (yK Y) K Q f r (vI (σ 104 1) :: S) L σ := hw
            rw [hH.2.1.2] at hw
            exact vk_getf hx hb hst6.2.2.2.1.2.1 hS hown (hts _ hF) (fun x h => h) hdec (go (vI 0 :: S) L σ H locs ls hw hH hS hl (okL_cons.mpr ⟨i32_0, hoS⟩) hoL)
    case putfield ix =>
      obtain ⟨hn, hi⟩ := grd_s hz
      have hn : n = 3 := by simpa using hn
      subst hn
      obtain ⟨cd, hq, rfl⟩ := map_s hi
      have key : ∃ (v : AV) (x : Int) (q : Nat) (S1 : List AV), S = v :: vR q :: S1 ∧ shp q = (3, cd / 1000) ∧ wp ca lv (yK Y) K Q f r S1 L (su σ q ((cd / 10 % 100 : Nat) : Int) x) ∧ ((cd % 10 = 0 ∧ v = vI x) ∨ (cd % 10 = 1 ∧ v = vL x) ∨ (cd % 10 = 3 ∧ v = vI x ∧ (x = 0 ∨ x = 1))) := putf_c hw
      obtain ⟨v, x, q, S, rfl, hs1, hw, hv⟩ := key
      obtain ⟨hv1, hoS⟩ := okL_cons.mp hoS
      replace hoS := (okL_cons.mp hoS).2
      rcases hEF _ (look_mem hq) with hF | hF
      · obtain ⟨C, TT, N, ty, g1, g2, g3, g4, g5, g6, g7, g8, g9, g10, g11, g12, g13⟩ := hF
        have hci : cd / 1000 < 10 := (List.getElem?_eq_some_iff.mp g1).1
        have hqN := shp_3 q _ hs1 hci
        have he := wsO_get o σ hqN
        rw [cel_3 hs1, g2] at he
        have ht2 : ¬ cd % 10 = 2 := by rcases hv with h | h | h <;> omega
        have hnar : narrow (ty (cd / 10 % 100)) (cv o v) = cv o v ∧ fits (ty (cd / 10 % 100)) (cv o v) = true := by
          rcases hv with ⟨h, rfl⟩ | ⟨h, rfl⟩ | ⟨h, rfl, hx1⟩
          · rw [g9 h]; exact ⟨rfl, rfl⟩
          · rw [g10 h]; exact ⟨rfl, rfl⟩
          · rw [g11 h]; exact nar_z2 hx1
        have hlg : lng q ((cd / 10 % 100 : Nat) : Int) ↔ cd % 10 = 1 := by
          unfold lng
          rw [hs1, Int.toNat_natCast, g4]
          simp
        have hoσ : okS (su σ q ((cd / 10 % 100 : Nat) : Int) x) := okS_su hH.1.2 (by
          rw [hlg]
          rcases hv with ⟨h, rfl⟩ | ⟨h, rfl⟩ | ⟨h, rfl, hx1⟩
          · exact ⟨fun z => by omega, fun _ => hv1⟩
          · exact ⟨fun _ => hv1, fun z => absurd h z⟩
          · exact ⟨fun z => by omega, fun _ => hv1⟩)
        have hfv : cv o v = fld o (su σ q ((cd / 10 % 100 : Nat) : Int) x) q (cd / 10 % 100) := by
          rw [fld_cv hs1 g4]
          unfold rdF
          rw [su_eq]
          rcases hv with ⟨h, rfl⟩ | ⟨h, rfl⟩ | ⟨h, rfl, hx1⟩ <;> rw [h] <;> simp
        have hne : ∀ j, j ≠ cd / 10 % 100 → fld o (su σ q ((cd / 10 % 100 : Nat) : Int) x) q j = fld o σ q j := by
          intro j hj
          unfold fld
          rw [su_eq]
          have : ¬ (j : Int) = ((cd / 10 % 100 : Nat) : Int) := by omega
          simp only [if_neg this]
        have hset : (wsO o σ).set q (oA o q, .inr (cd / 1000, ((List.range N).map (fld o σ q)).set (cd / 10 % 100) (cv o v))) = wsO o (su σ q ((cd / 10 % 100 : Nat) : Int) x) := by
          rw [fs_set hfv hne, ← g2, ← cel_3 hs1]
          exact wsO_set o σ _ hqN su_ne
        have hk : ∀ (H1 : Heap) (locs1 : List Loc), va_P (oD o) vwCl ((wsO o σ).set q (oA o q, .inr (cd / 1000, ((List.range N).map (fld o σ q)).set (cd / 10 % 100) (cv o v)))) H1 → va_D (aA o) ((wsO o σ).set q (oA o q, .inr (cd / 1000, ((List.range N).map (fld o σ q)).set (cd / 10 % 100) (cv o v)))) → va_S (aA o) s.heap H1 locs1 → W p (oL o) e R s m args below meth c H1 locs1 cells slots Z (F0 m (pc + 3) ls (S.map (cv o))) := by
          intro H1 locs1 hP1 hD1 hS1
          rw [hset] at hP1
          exact go S L _ H1 locs1 ls hw ⟨⟨hP1, hoσ⟩, scr_su hH.2 hqN⟩ hS1 hl hoS hoL
        rcases g13 with g | ⟨host, g⟩
        · exact va_put hx hb hts g6 ty g7 g8 hown hst.1 hH.1.1 (wsO_D o σ hst.2.2.1) hS q he g1 _ g3 (hts _ g) (by rw [g5]; exact fun x h => h) (g12 ht2) (g7 _ g3) hnar.1 hnar.2 (by simpa using g3) hdec hk
        · exact va_putN hx hb hts g6 ty g7 g8 hown hst.1 hH.1.1 (wsO_D o σ hst.2.2.1) hS q he g1 _ g3 (va_Nw.use rfl (hst.2.1 _ g)) (by rw [g5]; exact fun x h => h) (g12 ht2) (g7 _ g3) hnar.1 hnar.2 (by simpa using g3) hdec hk
      · obtain ⟨hos, hF⟩ := hF
        rcases hF with ⟨rfl, hF⟩ | ⟨rfl, hF⟩
        · rcases hv with h | h | h <;> exact absurd h.1 (by decide)
        · rcases hv with h | h | h <;> exact absurd h.1 (by decide)
    case iaload =>
      obtain ⟨hn, hi⟩ := grd_s hz
      have hn : n = 1 := by simpa using hn
      subst hn
      cases hi
      rcases S with _ | ⟨i | i | i | i, S⟩ <;> try exact False.elim hw
      rcases S with _ | ⟨q | q | q | q, S⟩ <;> try exact False.elim hw
      have hi1 := (okL_cons.mp hoS).1
      replace hoS := (okL_cons.mp hoS).2
      have hi1 : i32 i := hi1
      replace hoS := (okL_cons.mp hoS).2
      rcases ald_c hw with ⟨hk, ⟨h0, h1⟩, hw⟩ | ⟨hk, ⟨h0, h1⟩, hw⟩ | ⟨hk, ⟨h0, h1⟩, hw⟩
      · have hqN := shp_012 q (by omega)
        have he := wsO_get o σ hqN
        rw [cel_0 hk] at he
        refine va_iald hx hb hst.1 hH.1.1 q 0 he rfl (in_vp hi1 h0 h1) hdec ?_
        rw [clampI hi1 h0, Int.toNat_of_nonneg h0]
        exact go (vI (σ q i) :: S) L σ H locs ls hw hH hS hl (okL_cons.mpr ⟨okS_at hH.1.2 (by omega), hoS⟩) hoL
      · obtain ⟨z1, z2, z3, z4⟩ := hst.2.2.2.1
        have hT : va_T .int (oA o q) (shp q).2 (fun j => .int (Int32.ofInt ((stc q).getD j 0))) (aA o) s s.heap := by
          rcases shp_4 q hk with rfl | rfl | rfl | rfl
          · exact z1.2
          · exact z2.2
          · exact z3.2
          · exact z4.2
        exact va_ti hx hb hT hS (in_vp hi1 h0 h1) (by rw [clampI hi1 h0]; rfl) hdec (go (vI ((stc q).getD i.toNat 0) :: S) L σ H locs ls hw hH hS hl (okL_cons.mpr ⟨stc_in q _, hoS⟩) hoL)
      · have hq2 := shp_5 q hk
        subst hq2
        obtain ⟨z1, z2, z3⟩ := hst.2.2.2.2.1
        have hn1 : i.toNat < oN o := by have := hH.2.2.1; omega
        have hv := hH.2.2.2.2 i.toNat hn1
        rw [Int.toNat_of_nonneg h0] at hv
        refine va_sld hx hb z1 z2 z3 hS (in_vp hi1 h0 (by omega)) hdec ?_
        rw [clampI hi1 h0, show (Value.int (oX o i.toNat)) = cv o (vI (σ 102 i)) from by rw [hv]; exact congrArg Value.int (of32 _).symm]
        exact go (vI (σ 102 i) :: S) L σ H locs ls hw hH hS hl (okL_cons.mpr ⟨okS_at hH.1.2 (by omega), hoS⟩) hoL
    case baload =>
      obtain ⟨hn, hi⟩ := grd_s hz
      have hn : n = 1 := by simpa using hn
      subst hn
      cases hi
      rcases S with _ | ⟨i | i | i | i, S⟩ <;> try exact False.elim hw
      rcases S with _ | ⟨q | q | q | q, S⟩ <;> try exact False.elim hw
      have hi1 := (okL_cons.mp hoS).1
      replace hoS := (okL_cons.mp hoS).2
      have hi1 : i32 i := hi1
      replace hoS := (okL_cons.mp hoS).2
      rcases bld_c hw with ⟨hk, ⟨h0, h1⟩, hw⟩ | ⟨hk, ⟨h0, h1⟩, hw⟩
      · have hqN := shp_012 q (by omega)
        have he := wsO_get o σ hqN
        rw [cel_1 hk] at he
        refine va_zald hx hb hst.1 hH.1.1 q 1 he rfl (in_vp hi1 h0 h1) hdec ?_
        rw [clampI hi1 h0, Int.toNat_of_nonneg h0]
        exact go (vI (σ q i) :: S) L σ H locs ls hw hH hS hl (okL_cons.mpr ⟨okS_at hH.1.2 (by omega), hoS⟩) hoL
      · have hst6 := hst.2.2.2.2.2
        have hT : va_T .byte (oA o q) (shp q).2 (fun j => .int (Int32.ofInt ((stc q).getD j 0))) (aA o) s s.heap := by
          rcases shp_7 q hk with rfl | rfl
          · exact hst6.2.2.1.2.2.2
          · exact hst6.2.2.2.1.2.2.2
        exact va_tb hx hb hT hS (in_vp hi1 h0 h1) (by rw [clampI hi1 h0]; rfl) hdec (go (vI ((stc q).getD i.toNat 0) :: S) L σ H locs ls hw hH hS hl (okL_cons.mpr ⟨stc_in q _, hoS⟩) hoL)
    case aaload =>
      obtain ⟨hn, hi⟩ := grd_s hz
      have hn : n = 1 := by simpa using hn
      subst hn
      cases hi
      rcases S with _ | ⟨i | i | i | i, S⟩ <;> try exact False.elim hw
      rcases S with _ | ⟨q | q | q | q, S⟩ <;> try exact False.elim hw
      have hi1 := (okL_cons.mp hoS).1
      replace hoS := (okL_cons.mp hoS).2
      have hi1 : i32 i := hi1
      replace hoS := (okL_cons.mp hoS).2
      obtain ⟨hk, ⟨h0, h1⟩, hw⟩ : (shp q).1 = 2 ∧ (0 ≤ i ∧ i < ((shp q).2 : Int)) ∧ wp ca lv (yK Y) K Q f r (vR (rfs q i.toNat) :: S) L σ := hw
      have hqN := shp_012 q (by omega)
      have he := wsO_get o σ hqN
      rw [cel_2 hk] at he
      have hin := in_vp hi1 h0 h1
      have hlt : (Int32.ofInt i).toNatClampNeg < (shp q).2 := Nat.not_le.mp fun z => hin (Or.inr z)
      refine W.aald (v := va_rf (some (oA o (rfs q (Int32.ofInt i).toNatClampNeg)))) (ty := .array .int) hx hb (hH.1.1 q _ he) ((hst.1.2 2 _ rfl).1 (shp q).2 (fun j => va_rf (some (oA o (rfs q j))))) rfl (fun z => by cases z) (by show ¬ (Int32.ofInt i < 0 ∨ (arrV _ _ _).slots.size ≤ _); rw [arrV_size]; exact hin) (by show (arrV _ _ _).slots[_]? = _; rw [arrV_read _ _ hlt]) rfl rfl hdec ?_
      rw [clampI hi1 h0]
      exact go (vR (rfs q i.toNat) :: S) L σ H locs ls hw hH hS hl (okL_cons.mpr ⟨trivial, hoS⟩) hoL
    case iastore =>
      obtain ⟨hn, hi⟩ := grd_s hz
      have hn : n = 1 := by simpa using hn
      subst hn
      cases hi
      rcases S with _ | ⟨x | x | x | x, S⟩ <;> try exact False.elim hw
      rcases S with _ | ⟨i | i | i | i, S⟩ <;> try exact False.elim hw
      rcases S with _ | ⟨q | q | q | q, S⟩ <;> try exact False.elim hw
      obtain ⟨hx1, hoS⟩ := okL_cons.mp hoS
      have hi1 := (okL_cons.mp hoS).1
      replace hoS := (okL_cons.mp hoS).2
      have hi1 : i32 i := hi1
      replace hoS := (okL_cons.mp hoS).2
      obtain ⟨hk, ⟨h0, h1⟩, hw⟩ : (shp q).1 = 0 ∧ (0 ≤ i ∧ i < ((shp q).2 : Int)) ∧ wp ca lv (yK Y) K Q f r S L (su σ q i x) := hw
      have hqN := shp_012 q (by omega)
      have he := wsO_get o σ hqN
      rw [cel_0 hk] at he
      refine va_iast hx hb hst.1 hH.1.1 (wsO_D o σ hst.2.2.1) hS q 0 he rfl (in_vp hi1 h0 h1) hdec ?_
      intro H1 locs1 hP1 hD1 hS1
      rw [upd_of hi1 h0, ← cel_0 hk, wsO_set o σ _ hqN su_ne] at hP1
      exact go S L _ H1 locs1 ls hw ⟨⟨hP1, su_okv hH.1.2 (by omega) hx1⟩, scr_su hH.2 hqN⟩ hS1 hl hoS hoL
    case bastore =>
      obtain ⟨hn, hi⟩ := grd_s hz
      have hn : n = 1 := by simpa using hn
      subst hn
      cases hi
      rcases S with _ | ⟨x | x | x | x, S⟩ <;> try exact False.elim hw
      rcases S with _ | ⟨i | i | i | i, S⟩ <;> try exact False.elim hw
      rcases S with _ | ⟨q | q | q | q, S⟩ <;> try exact False.elim hw
      obtain ⟨hx1, hoS⟩ := okL_cons.mp hoS
      have hi1 := (okL_cons.mp hoS).1
      replace hoS := (okL_cons.mp hoS).2
      have hi1 : i32 i := hi1
      replace hoS := (okL_cons.mp hoS).2
      obtain ⟨hk, ⟨h0, h1⟩, hxz, hw⟩ : (shp q).1 = 1 ∧ (0 ≤ i ∧ i < ((shp q).2 : Int)) ∧ (x = 0 ∨ x = 1) ∧ wp ca lv (yK Y) K Q f r S L (su σ q i x) := hw
      have hqN := shp_012 q (by omega)
      have he := wsO_get o σ hqN
      rw [cel_1 hk] at he
      refine va_zast hx hb hst.1 hH.1.1 (wsO_D o σ hst.2.2.1) hS q 1 he rfl (in_vp hi1 h0 h1) hdec ?_
      intro H1 locs1 hP1 hD1 hS1
      rw [nar_z hxz, upd_of hi1 h0, ← cel_1 hk, wsO_set o σ _ hqN su_ne] at hP1
      exact go S L _ H1 locs1 ls hw ⟨⟨hP1, su_okv hH.1.2 (by omega) hx1⟩, scr_su hH.2 hqN⟩ hS1 hl hoS hoL
    case arraylength =>
      obtain ⟨hn, hi⟩ := grd_s hz
      have hn : n = 1 := by simpa using hn
      subst hn
      cases hi
      rcases S with _ | ⟨q | q | q | q, S⟩ <;> try exact False.elim hw
      replace hoS := (okL_cons.mp hoS).2
      rcases aln_c hw with ⟨hk, hw⟩ | ⟨hk, hw⟩ | ⟨hk, hw⟩
      · have hqN := shp_012 q (by omega)
        have he := wsO_get o σ hqN
        rw [cel_0 hk] at he
        exact va_alen (ty := .int) hx hb hst.1 hH.1.1 q 0 he rfl (len_ofInt _) hdec (go (vI ((shp q).2 : Int) :: S) L σ H locs ls hw hH hS hl (okL_cons.mpr ⟨len_in q, hoS⟩) hoL)
      · have hst6 := hst.2.2.2.2.2
        have hT : va_T .byte (oA o q) (shp q).2 (fun j => .int (Int32.ofInt ((stc q).getD j 0))) (aA o) s s.heap := by
          rcases shp_7 q hk with rfl | rfl
          · exact hst6.2.2.1.2.2.2
          · exact hst6.2.2.2.1.2.2.2
        exact va_tlen hx hb hT hS (len_ofInt _) hdec (go (vI ((shp q).2 : Int) :: S) L σ H locs ls hw hH hS hl (okL_cons.mpr ⟨len_in q, hoS⟩) hoL)
      · have hq2 := shp_5 q hk
        subst hq2
        obtain ⟨z1, z2, z3⟩ := hst.2.2.2.2.1
        refine va_slen hx hb z1 z2 z3 hS hdec ?_
        rw [show (Value.int (Int32.ofNat (oN o))) = cv o (vI (σ 102 (-1))) from by rw [hH.2.2.1]; exact congrArg Value.int (len_ofInt _)]
        exact go (vI (σ 102 (-1)) :: S) L σ H locs ls hw hH hS hl (okL_cons.mpr ⟨okS_at hH.1.2 (by omega), hoS⟩) hoL
    case invokevirtual ix =>
      obtain ⟨hn, hi⟩ := grd_s hz
      have hn : n = 3 := by simpa using hn
      subst hn
      obtain ⟨cd, hq, rfl⟩ := map_s hi
      obtain ⟨k1, k2, k3⟩ : (tbl dCa ca cd).1 ≤ S.length ∧ catS (S.drop (tbl dCa ca cd).1) ≤ 8 ∧ (tbl dCa ca cd).2 (S.take (tbl dCa ca cd).1).reverse σ (fun rr σ => wp ca lv (yK Y) K Q f r (rr ++ S.drop (tbl dCa ca cd).1) L σ) := hw
      have hdr : okL (S.drop (tbl dCa ca cd).1) := fun v hv => hoS v (List.mem_of_mem_drop hv)
      have h := hEV _ (look_mem hq) Q p e R s m args below meth c cells slots Z C0 H locs ls pc (S.take (tbl dCa ca cd).1).reverse (S.drop (tbl dCa ca cd).1) σ _ hdec hH hS hl.1 (fun v hv => hoS v (List.mem_of_mem_take (List.mem_reverse.mp hv))) hdr (by rw [List.length_reverse, List.length_take]; exact Nat.min_eq_left k1) k2 k3 (fun rr σ1 H1 locs1 h1 h2 h3 h4 => go _ L σ1 H1 locs1 ls h1 h3 h4 hl (okL_app h2 hdr) hoL)
      rw [List.reverse_reverse, List.take_append_drop] at h
      exact h
    case invokestatic ix =>
      obtain ⟨hn, hi⟩ := grd_s hz
      have hn : n = 3 := by simpa using hn
      subst hn
      obtain ⟨cd, hq, rfl⟩ := map_s hi
      obtain ⟨k1, k2, k3⟩ : (tbl dCa ca cd).1 ≤ S.length ∧ catS (S.drop (tbl dCa ca cd).1) ≤ 8 ∧ (tbl dCa ca cd).2 (S.take (tbl dCa ca cd).1).reverse σ (fun rr σ => wp ca lv (yK Y) K Q f r (rr ++ S.drop (tbl dCa ca cd).1) L σ) := hw
      have hdr : okL (S.drop (tbl dCa ca cd).1) := fun v hv => hoS v (List.mem_of_mem_drop hv)
      have h := hES _ (look_mem hq) Q p e R s m args below meth c cells slots Z C0 H locs ls pc (S.take (tbl dCa ca cd).1).reverse (S.drop (tbl dCa ca cd).1) σ _ hdec hH hS hl.1 (fun v hv => hoS v (List.mem_of_mem_take (List.mem_reverse.mp hv))) hdr (by rw [List.length_reverse, List.length_take]; exact Nat.min_eq_left k1) k2 k3 (fun rr σ1 H1 locs1 h1 h2 h3 h4 => go _ L σ1 H1 locs1 ls h1 h3 h4 hl (okL_app h2 hdr) hoL)
      rw [List.reverse_reverse, List.take_append_drop] at h
      exact h
    case ireturn =>
      obtain ⟨hn, hi⟩ := grd_s hz
      have hn : n = 1 := by simpa using hn
      subst hn
      cases hi
      rcases S with _ | ⟨v | v | v | v, S⟩ <;> try exact False.elim hw
      rcases S with _ | ⟨a, S⟩ <;> try exact False.elim hw
      obtain ⟨k1, k2⟩ : (yK Y = 1 ∨ (yK Y = 2 ∧ (v = 0 ∨ v = 1)) ∨ (yK Y = 4 ∧ v = 0)) ∧ Q [vI v] σ := hw
      exact hret H locs ls pc [vI v] σ hH hS hoS k2 ⟨k1, hdec⟩
    case lreturn =>
      obtain ⟨hn, hi⟩ := grd_s hz
      have hn : n = 1 := by simpa using hn
      subst hn
      cases hi
      rcases S with _ | ⟨v | v | v | v, S⟩ <;> try exact False.elim hw
      rcases S with _ | ⟨a, S⟩ <;> try exact False.elim hw
      obtain ⟨k1, k2⟩ : yK Y = 3 ∧ Q [vL v] σ := hw
      exact hret H locs ls pc [vL v] σ hH hS hoS k2 ⟨k1, hdec⟩
    case return_ =>
      obtain ⟨hn, hi⟩ := grd_s hz
      have hn : n = 1 := by simpa using hn
      subst hn
      cases hi
      rcases S with _ | ⟨v, S⟩ <;> try exact False.elim hw
      obtain ⟨k1, k2⟩ : yK Y = 0 ∧ Q [] σ := hw
      exact hret H locs ls pc [] σ hH hS hoS k2 ⟨k1, hdec⟩
    all_goals exact absurd hz (by simp [rz])
