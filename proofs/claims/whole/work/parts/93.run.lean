-- ===== the law from behind the constructors =====
theorem law_run {p : Program} {e : Env} {s : State} {m : MethodId} {below : List Frame} {meth : Method} {c : Code} (l : Launch) {b L : Nat} {xs : Nat → Int32} (hL : L ≤ 3072) (C0 : lw_At p s m meth c b L xs)
    {D : va_G} {cI cZ cJ : ClassId} (hK : va_K D vwCl (tyL cI cZ cJ) s) (hNw : ∀ w ∈ nestW, va_Nw w s) {t kS vS : Nat → Nat}
    (hst : (va_Z "LeavesOfMud$Hands" "PLAIN" "[I" (.ref (t 0)) (A0 s) s s.heap ∧ va_T .int (t 0) 7 (fun j => .int (Int32.ofInt ((stc 98).getD j 0))) (A0 s) s s.heap) ∧
      (va_Z "LeavesOfMud$Laws" "PLAIN" "[I" (.ref (t 1)) (A0 s) s s.heap ∧ va_T .int (t 1) 4 (fun j => .int (Int32.ofInt ((stc 99).getD j 0))) (A0 s) s s.heap) ∧
      (va_Z "LeavesOfMud$Pairing" "OF_FIRST" "[I" (.ref (t 2)) (A0 s) s s.heap ∧ va_T .int (t 2) 5 (fun j => .int (Int32.ofInt ((stc 100).getD j 0))) (A0 s) s s.heap) ∧
      (va_Z "LeavesOfMud$Pairing" "OF_SECOND" "[I" (.ref (t 3)) (A0 s) s s.heap ∧ va_T .int (t 3) 5 (fun j => .int (Int32.ofInt ((stc 101).getD j 0))) (A0 s) s s.heap))
    (hsr : vk_R "LeavesOfMud$Page" 26 "lwnhfas" (kS 0) s ∧ vk_R "LeavesOfMud$Page" 32 "ldua" (kS 1) s ∧
      (va_O "java/lang/String" (kS 0) (A0 s) s s.heap ∧ va_OF "java/lang/String" "coder" "B" (.int 0) (kS 0) (A0 s) s s.heap ∧ va_OF "java/lang/String" "value" "[B" (.ref (vS 0)) (kS 0) (A0 s) s s.heap ∧ va_T .byte (vS 0) 7 (fun j => .int (Int32.ofInt ((stc 105).getD j 0))) (A0 s) s s.heap) ∧
      (va_O "java/lang/String" (kS 1) (A0 s) s s.heap ∧ va_OF "java/lang/String" "coder" "B" (.int 0) (kS 1) (A0 s) s s.heap ∧ va_OF "java/lang/String" "value" "[B" (.ref (vS 1)) (kS 1) (A0 s) s s.heap ∧ va_T .byte (vS 1) 4 (fun j => .int (Int32.ofInt ((stc 106).getD j 0))) (A0 s) s s.heap) ∧
      va_Z "java/lang/String" "COMPACT_STRINGS" "Z" (.int 1) (A0 s) s s.heap)
    {x mm : Nat} {z : (Nat → Nat) × (Nat → Nat → Nat) × (Nat → Nat)} {y : Nat → Nat} {H : Heap} {locs : List Loc} {ls : Array Slot} (hP : va_P D vwCl (wsF cI cZ cJ x mm z y) H) (hD : va_D (A0 s) (wsF cI cZ cJ x mm z y)) (hS : va_S (A0 s) s.heap H locs) (hl : lv_has ls 4 [(3, .int 0), (2, .ref mm), (1, .ref x), (0, .ref b)]) :
    W p l e room_1 s m #[Value.ref b] below meth c H locs 98 4584 (lw_Z below #[Value.ref b] s) (F0 m 18 ls []) := by
  obtain ⟨hx, hb, hr, hml, hown, hts, hX, hbl, hlocks, hgv⟩ := id C0
  have hat := at_all l D cI cZ cJ L xs b t kS vS x mm z y hP
  have hpo := pos_all l D cI cZ cJ L xs b t kS vS x mm z y
  obtain ⟨o, ho⟩ : ∃ o : OM, o = mkO l D cI cZ cJ L xs b t kS vS x mm z y := ⟨_, rfl⟩
  have hadr : ∀ k, k < 98 → s.heap.size ≤ oA o k := fun k hk => by
    obtain ⟨e, he⟩ := hpo k hk
    rw [ho]
    exact hD.2 _ _ he
  have hinj : inj o := fun i j hi hj e => by
    obtain ⟨e1, he1⟩ := hpo i hi
    obtain ⟨e2, he2⟩ := hpo j hj
    rw [ho] at e
    have := hD.1 _ _ _ _ he1 he2 e
    have := prm_inj ⟨i, hi⟩ ⟨j, hj⟩ this
    exact congrArg Fin.val this
  have hAA : ∀ q, aA o q → A0 s q := fun q ⟨k, hk, e⟩ => by rw [e]; exact hadr k hk
  obtain ⟨⟨z98, t98⟩, ⟨z99, t99⟩, ⟨z100, t100⟩, ⟨z101, t101⟩⟩ := hst
  obtain ⟨r0, r1, ⟨a1, a2, a3, a4⟩, ⟨b1, b2, b3, b4⟩, zc⟩ := hsr
  have hStd : Std o s := by
    subst ho
    exact ⟨hK, hNw, hinj, ⟨⟨z98.narrow hAA, t98.narrow hAA⟩, ⟨z99.narrow hAA, t99.narrow hAA⟩, ⟨z100.narrow hAA, t100.narrow hAA⟩, ⟨z101.narrow hAA, t101.narrow hAA⟩⟩, ⟨hX, hbl, fun h => absurd (hAA _ h) (Nat.not_le.mpr hbl)⟩, r0, r1, ⟨a1.narrow hAA, a2.narrow hAA, a3.narrow hAA, a4.narrow hAA⟩, ⟨b1.narrow hAA, b2.narrow hAA, b3.narrow hAA, b4.narrow hAA⟩, zc.narrow hAA⟩
  have hHs : Hs o (sg0 L xs) H := by
    subst ho
    refine ⟨⟨fun k q hq => ?_, s0_ok ⟨by omega, by omega⟩ (fun j => ⟨?_, ?_⟩)⟩, ⟨rfl, rfl⟩, rfl, ?_, fun j hj => ?_⟩
    · obtain ⟨hk, rfl⟩ := wsO_inv hq
      exact hat k hk
    · have := (xs j.toNat).le_toInt
      omega
    · have := (xs j.toNat).toInt_lt
      omega
    · show (L : Int) ≤ 3072
      omega
    · show (if (j : Int) = -1 then (L : Int) else (xs (j : Int).toNat).toInt) = (xs j).toInt
      rw [if_neg (by omega), Int.toNat_natCast]
  have hG : ∀ w ∈ wsG, w.before #[Value.ref b] s = true := fun w h => hts w (wsG_tbl h)
  have hrun := law_at o (Q := fun r _ => r = [vI 1]) (fun _ => rfl) ((sg0 L xs 102 (-1) - 0).toNat) 0 (sg0 L xs) (Rel_0 _ _) (Int.le_refl 0) (Nat.le_refl _)
  have hlo : oL o = l := by rw [ho]; rfl
  have hC : Cx o Y_L_law 18 (fun r _ => r = [vI 1]) p e room_1 s m #[Value.ref b] below meth c 98 4584 (lw_Z below #[Value.ref b] s) := by
    refine ⟨hx, hb, hml, hown, hG, hStd, ⟨by decide, by decide, by decide, by decide⟩, ?_⟩
    intro H1 locs1 ls1 pc r σ g1 g2 g3 g4 g5
    subst g4
    obtain ⟨-, g5⟩ := g5
    rw [hlo]
    refine va_forget (fun q hq => hAA _ (g2.2.2 q hq)) ?_
    refine W.widen (k := 600000) (n := 7302250) (by decide) (by decide) ?_
    exact lw_ret hx hb hr hlocks g5
  rw [← hlo]
  refine va_forget hS.2.2 ?_
  refine hrun p e room_1 s m #[Value.ref b] below meth c 98 4584 _ hC H [] ls hHs ⟨hS.1, fun q h1 _ => hS.2.1 q h1 (Nat.not_le.mpr h1), fun _ h => by cases h⟩ ?_ (fun v hv => by cases hv) ?_
  · subst ho
    exact lv_sub hl [3, 2, 1, 0] rfl
  · exact okL_cons.mpr ⟨trivial, okL_cons.mpr ⟨trivial, okL_cons.mpr ⟨trivial, okL_cons.mpr ⟨⟨by decide, by decide⟩, fun v hv => by cases hv⟩⟩⟩⟩

