-- ===== new int[13][64]: the instruction by the model's own words =====
/-- a row of 13 references, the first i of them told: to the cells behind it -/
def mg_o (cA : ClassId) (h i : Nat) : Cell := arrV cA 13 (fun j => va_rf (if j < i then some (h + 1 + j) else none))
/-- a row of 64 zeros -/
def mg_r (cI : ClassId) : Cell := arrV cI 64 (fun _ => .int 0)
/-- U with the row of references and i rows of zeros behind its heap -/
def mg_S (cA cI : ClassId) (U : State) : Nat → State
  | 0 => U.pushCell (mg_o cA U.heap.size 0)
  | i + 1 => ((mg_S cA cI U i).pushCell (mg_r cI)).setCell U.heap.size (mg_o cA U.heap.size (i + 1))
theorem mg_next (cA : ClassId) (h i : Nat) : mg_o cA h (i + 1) = (mg_o cA h i).setSlot i (.ref (h + 1 + i)) := by
  unfold mg_o
  rw [arrV_store]
  refine congrArg (arrV cA 13) (funext fun j => ?_)
  unfold updV
  by_cases e : j = i
  · rw [if_pos e, if_pos (by omega), e]
    rfl
  · rw [if_neg e]
    show _ = va_rf (if j < i then some (h + 1 + j) else none)
    by_cases q : j < i
    · rw [if_pos q, if_pos (by omega)]
    · rw [if_neg q, if_neg (by omega)]
theorem mg_none (cA : ClassId) (h : Nat) : mg_o cA h 0 = ({ cls := cA, slots := Array.replicate 13 .null, vm := .none } : Cell) := by
  rw [arrV_new]
  rfl
theorem mg_zero (cI : ClassId) : mg_r cI = ({ cls := cI, slots := Array.replicate 64 (.int 0), vm := .none } : Cell) := (arrV_new cI 64 (.int 0)).symm
theorem mg_top (cA cI : ClassId) (U : State) (f : JFrame) (i : Nat) : mg_S cA cI (U.setTop f) i = (mg_S cA cI U i).setTop f := by
  induction i with
  | zero => rfl
  | succ i ih =>
    show ((mg_S cA cI (U.setTop f) i).pushCell (mg_r cI)).setCell _ _ = _
    rw [ih]
    rfl
section MGA
variable {p : Program} {l : Launch} {e : Env} {R : Room} {s : State} {m : MethodId} {args : Array Value} {below : List Frame} {meth : Method} {c : Code} {U : State} {locs : List Loc} {cells slots : Nat}
/-- what stands there after i rows, and that the walk stands there -/
def mg_I (U : State) (cA cI : ClassId) (i : Nat) (V : State) : Prop := V.vm = U.vm ∧ V.heap.size = U.heap.size + 1 + i ∧ V.heap[U.heap.size]? = some (mg_o cA U.heap.size i) ∧ (∀ a : Nat, a < U.heap.size → V.heap[a]? = U.heap[a]?) ∧ ∀ j : Nat, j < i → V.heap[U.heap.size + 1 + j]? = some (mg_r cI)
theorem mg_is (U : State) (cA cI : ClassId) (i : Nat) : mg_I U cA cI i (mg_S cA cI U i) := by
  induction i with
  | zero => exact ⟨rfl, by simp [mg_S], State.heap_pushCell_size _ _, fun a ha => State.heap_pushCell_of_lt _ _ ha, fun j hj => absurd hj (Nat.not_lt_zero j)⟩
  | succ i ih =>
    obtain ⟨h1, h2, h3, h4, h5⟩ := ih
    have hb : ∀ a : Nat, a < U.heap.size + 1 + i → ((mg_S cA cI U i).pushCell (mg_r cI)).heap[a]? = (mg_S cA cI U i).heap[a]? := fun a ha => State.heap_pushCell_of_lt _ _ (by rw [h2]; exact ha)
    have ho : ∀ a : Nat, U.heap.size ≠ a → (mg_S cA cI U (i + 1)).heap[a]? = ((mg_S cA cI U i).pushCell (mg_r cI)).heap[a]? := fun a ha => State.heap_setCell_other ha
    refine ⟨h1, ?_, State.heap_setCell_self ((hb _ (by omega)).trans h3), fun a ha => ?_, fun j hj => ?_⟩
    · simp [mg_S, h2]
      omega
    · rw [ho a (by omega), hb a (by omega), h4 a ha]
    · rw [ho _ (by omega)]
      by_cases e : j = i
      · subst e
        rw [← h2]
        exact State.heap_pushCell_size _ _
      · rw [hb _ (by omega)]
        exact h5 j (by omega)
theorem mg_st (X : Stand p l e R s m args below meth c U locs cells slots) (cA cI : ClassId) (i : Nat) : ∃ L : List Loc, Stand p l e R s m args below meth c (mg_S cA cI U i) L (cells + 1 + i) (slots + 13 + 64 * i) ∧ ∀ x ∈ L, x ∈ locs ∨ x.base = U.heap.size := by
  induction i with
  | zero =>
    have h := X.pushed (mg_o cA U.heap.size 0)
    rw [show (mg_o cA U.heap.size 0).slots.size = 13 from arrV_size _ _ _] at h
    exact ⟨locs, h, fun x hx => Or.inl hx⟩
  | succ i ih =>
    obtain ⟨L, hX, hL⟩ := ih
    obtain ⟨-, h2, h3, -, -⟩ := mg_is U cA cI i
    have h := hX.pushed (mg_r cI)
    rw [show (mg_r cI).slots.size = 64 from arrV_size _ _ _] at h
    have hlt : U.heap.size < (mg_S cA cI U i).heap.size := by omega
    have hc : ((mg_S cA cI U i).pushCell (mg_r cI)).heap[U.heap.size]? = some (mg_o cA U.heap.size i) := (State.heap_pushCell_of_lt _ _ hlt).trans h3
    have h' := h.stored hc i (.ref (U.heap.size + 1 + i))
    rw [← mg_next] at h'
    refine ⟨_, h', fun x hx => ?_⟩
    rcases List.mem_append.mp hx with q | q
    · exact hL x q
    · rw [List.mem_singleton.mp q]
      exact Or.inr rfl
end MGA
section MGW
variable {E : CtlPost} {e : Env} {d : Bool} {acts : List Action} {S U : State} {cA cI c0 : ClassId} {kA kI : Class}
theorem mg_row (hk : S.vm.classes[cI]? = some kI) (hkind : kI.kind = .array c0 .int) (hl : 64 ≤ e.platform.arrayLengthLimit) (hh : 256 ≤ e.platform.maxHeapBytes) (h1 : S.heap.size + 1 ≤ e.platform.maxCells) (h2 : S.slotsUsed + 64 ≤ e.platform.maxSlots)
    {Q : Addr → Pre} (hq : ∀ acts' : List Action, Q S.heap.size d acts' (S.pushCell (mg_r cI))) : Jvm.Sem.wp (Op.multianewarray.make cI [64]) Q E e d acts S := by
  rw [Op.multianewarray.make]
  simp only [wp_bind', W.ite, show ¬ (64 : Int32) < 0 by decide, if_false, wp_pure', W.theClass, hk, hkind, Option.some.injEq, exists_eq_left']
  refine W.newArray_of (howMany := 64) hk hkind (by omega) (show ¬ 64 * 4 > _ by omega) (by omega) h2 rfl (fun acts' => ?_)
  have h := hq acts'
  rw [mg_zero] at h
  exact h
/-- both dimensions: the row of references, and 13 times a row of zeros hung into it -/
theorem mg_both (hA : U.vm.classes[cA]? = some kA) (hkA : kA.kind = .array cI (.array .int)) (hI : U.vm.classes[cI]? = some kI) (hkI : kI.kind = .array c0 .int) (hl : 64 ≤ e.platform.arrayLengthLimit) (hh : 256 ≤ e.platform.maxHeapBytes)
    (h1 : U.heap.size + 1 ≤ e.platform.maxCells ∧ U.slotsUsed + 13 ≤ e.platform.maxSlots) (h2 : ∀ i : Nat, i < 13 → (mg_S cA cI U i).heap.size + 1 ≤ e.platform.maxCells ∧ (mg_S cA cI U i).slotsUsed + 64 ≤ e.platform.maxSlots)
    {Q : Addr → Pre} (hq : ∀ (d' : Bool) (acts' : List Action), Q U.heap.size d' acts' (mg_S cA cI U 13)) : Jvm.Sem.wp (Op.multianewarray.make cA [13, 64]) Q E e d acts U := by
  rw [Op.multianewarray.make]
  simp only [wp_bind', W.ite, show ¬ (13 : Int32) < 0 by decide, if_false, wp_pure', W.theClass, hA, hkA, Option.some.injEq, exists_eq_left', show (13 : Int32).toNatClampNeg = 13 from rfl, show ((13 : Int32) == 0) = false from rfl, Bool.false_eq_true]
  refine W.newArray_of (howMany := 13) hA hkA (by omega) (show ¬ 13 * 4 > _ by omega) (by omega) h1.2 rfl (fun acts' => ?_)
  rw [← mg_none cA U.heap.size]
  rw [wp_bind', Std.Legacy.Range.forIn_eq_forIn_range']
  show Jvm.Sem.wp (forIn (List.range' 0 13) PUnit.unit _) _ E e d acts' (mg_S cA cI U 0)
  refine wp_forIn_inv (fun (left : List Nat) (V : State) => ∃ n i : Nat, n + i = 13 ∧ left = List.range' i n ∧ V = mg_S cA cI U i) _ _ ⟨13, 0, rfl, rfl, rfl⟩ ?_ ?_
  · rintro x left V d1 a1 Q1 ⟨n, i, hn, hx, rfl⟩ go
    obtain _ | n := n
    · cases hx
    · rw [List.range'_succ] at hx
      obtain ⟨rfl, rfl⟩ := List.cons.inj hx
      obtain ⟨f1, f2, f3, -, -⟩ := mg_is U cA cI x
      obtain ⟨r1, r2⟩ := h2 x (by omega)
      have hb : U.heap.size < (mg_S cA cI U x).heap.size := by omega
      rw [wp_bind']
      refine mg_row (kI := kI) (c0 := c0) (by rw [f1]; exact hI) hkI hl hh r1 r2 (fun a2 => ?_)
      simp only [wp_bind', W.writeLoc, wp_pure']
      refine ⟨mg_o cA U.heap.size x, (State.heap_pushCell_of_lt _ _ hb).trans f3, ?_, ?_, ?_, ?_⟩
      · intro q
        cases q
      · rw [show (mg_o cA U.heap.size x).slots.size = 13 from arrV_size _ _ _]
        omega
      · show ((mg_S cA cI U x).pushCell (mg_r cI)).fitsSlot cA .none x _ = true
        simp [State.fitsSlot, State.slotType?, f1, hA, hkA, fits]
      · refine go _ _ _ ⟨n, x + 1, by omega, rfl, ?_⟩
        rw [f2, ← mg_next]
        rfl
  · rintro V d1 a1 ⟨n, i, hn, hx, rfl⟩
    obtain _ | n := n
    · rw [Nat.zero_add] at hn
      subst hn
      exact hq _ _
    · rw [List.range'_succ] at hx
      cases hx
end MGW
section MGR
variable {p : Program} {l : Launch} {e : Env} {R : Room} {s : State} {m : MethodId} {args : Array Value} {below : List Frame} {meth : Method} {c : Code} {T : State} {locs : List Loc} {cells slots : Nat}
/-- the array class over int[], as the premise tells it -/
theorem mg_over {args : Array Value} (h : (Cond.arrayOver (.array .int)).before args s = true) : ∃ (cI cA : ClassId) (kA : Class), s.vm.findClass "[I" = some cI ∧ s.vm.findClass "[[I" = some cA ∧ s.vm.classes[cA]? = some kA ∧ kA.kind = .array cI (.array .int) := by
  have h' : (Cond.arrayOver (.array .int)).holds args s none s [] = true := h
  simp only [Cond.holds, Cond.value, beq_iff_eq, Option.bind_eq_some_iff, Option.map_eq_some_iff] at h'
  obtain ⟨cI, q1, cA, q2, kA, q3, q4⟩ := h'
  refine ⟨cI, cA, kA, q1, ?_⟩
  cases hk : kA.kind with
  | array c1 t1 =>
    rw [hk] at q4
    obtain ⟨r1, r2⟩ := Bool.and_eq_true_iff.mp q4
    have e1 : t1 = .array .int := of_decide_eq_true r1
    have e2 := of_decide_eq_true r2
    have e3 : c1 = cI := by
      have h3 := (Array.findIdx?_eq_some_iff_getElem.mp q2).2.1
      rw [(Array.getElem?_eq_some_iff.mp q3).2, hk] at h3
      exact beq_iff_eq.mp h3
    subst e1
    subst e3
    exact ⟨e2, q3, rfl⟩
  | _ =>
    rw [hk] at q4
    cases q4
theorem mg_run (X : Stand p l e R s m args below meth c T locs cells slots) (hexec : p.tables.exec = Jvm.exec) {own : String} {index : Nat} (hown : s.vm.findClass own = some m.cls) (hlink : (Cond.classLink own index "[[I").before args s = true)
    {cA cI c0 : ClassId} {kA kI : Class} (hf : s.vm.findClass "[[I" = some cA) (hA : s.vm.classes[cA]? = some kA) (hkA : kA.kind = .array cI (.array .int)) (hI : s.vm.classes[cI]? = some kI) (hkI : kI.kind = .array c0 .int)
    {g : JFrame} (hg : g.method = m) (hd : decode c.code g.pc = .ok (.multianewarray index 2, 4)) {st : List Value} (hst : g.stack = .int 64 :: .int 13 :: st) (hc : cells + 14 ≤ R.cells) (hs : slots + 845 ≤ R.slots) :
    ∃ (V : State) (L : List Loc), Stand p l e R s m args below meth c V L (cells + 14) (slots + 845) ∧ (∀ x ∈ L, x ∈ locs ∨ x.base = T.heap.size) ∧ V.heap.size = T.heap.size + 14 ∧ V.heap[T.heap.size]? = some (mg_o cA T.heap.size 13) ∧ (∀ a : Nat, a < T.heap.size → V.heap[a]? = T.heap[a]?) ∧ (∀ j : Nat, j < 13 → V.heap[T.heap.size + 1 + j]? = some (mg_r cI)) ∧
      ∀ t : State, Steps p.tables e below (V.setTop { g with pc := g.pc + 4, stack := .ref T.heap.size :: st }) t → Steps p.tables e below (T.setTop g) t := by
  subst hg
  have hpl : e.platform.magicAccessors = ({} : Platform).magicAccessors := by rw [X.admits.platform]
  obtain ⟨c1, hf1, hcl⟩ := Cond.classLink_spec hown hlink e.platform hpl
  cases hf.symm.trans hf1
  obtain ⟨hgv, hw, hrd⟩ := State.classEntry (e := e) X.warmed hcl
  generalize T.vm.noted g.method.cls index (.cls cA) = vm1 at hgv hw hrd
  obtain ⟨kA1, hA1, hea⟩ := hw.alike.2.2 _ _ hA
  obtain ⟨kI1, hI1, hei⟩ := hw.alike.2.2 _ _ hI
  have hkA1 : kA1.kind = .array cI (.array .int) := by rw [hea]; exact hkA
  have hkI1 : kI1.kind = .array c0 .int := by rw [hei]; exact hkI
  have hl : 64 ≤ e.platform.arrayLengthLimit := by rw [Launch.admits_arrayLengthLimit X.admits]; omega
  have hh : 256 ≤ e.platform.maxHeapBytes := by rw [Launch.admits_maxHeapBytes X.admits]; omega
  have X1 := X.noted hw
  obtain ⟨L, X2, hL⟩ := mg_st X1 cA cI 13
  obtain ⟨-, i2, i3, i4, i5⟩ := mg_is (T.setVm vm1) cA cI 13
  refine ⟨mg_S cA cI (T.setVm vm1) 13, L, X2, hL, i2, i3, i4, i5, fun t ht => ?_⟩
  refine Steps.instr (c := c) (by simpa using X.here) ?_
  rw [hd]
  show wpRun (p.tables.exec (.multianewarray index 2)) _ _ e (T.setTop g)
  rw [hexec]
  show Jvm.Sem.wp (Op.multianewarray.sem index 2) _ _ e false [] (T.setTop g)
  unfold Op.multianewarray.sem
  rw [wp_bind', W.resolveClassAt_links (t := T.setTop g) (State.method?_setTop g X.here.top) hgv (X.warmed.alike.symm.trans hw.alike).size_le]
  rw [show (T.setTop g).setVm vm1 = (T.setVm vm1).setTop g from rfl]
  have htop : ∀ f : JFrame, ((T.setVm vm1).setTop f).topJava? = some f := fun f => State.topJava?_setTop' f X1.here.top
  simp only [Jvm.popN, wp_bind', W.pop, wp_pure', htop, Option.some.injEq, exists_eq_left', hst, List.cons.injEq, exists_cons_eq, State.setTop_setTop, List.nil_append, List.cons_append, List.mapM_cons, List.mapM_nil]
  have hroom : ∀ i : Nat, i < 13 → (mg_S cA cI (T.setVm vm1) i).heap.size + 1 ≤ e.platform.maxCells ∧ (mg_S cA cI (T.setVm vm1) i).slotsUsed + 64 ≤ e.platform.maxSlots := fun i hi => by
    obtain ⟨L9, X9, -⟩ := mg_st X1 cA cI i
    exact X9.roomAbove (by omega) (by omega)
  refine mg_both (U := (T.setVm vm1).setTop { g with stack := st }) (kA := kA1) (kI := kI1) (c0 := c0) hA1 hkA1 hI1 hkI1 hl hh (X1.roomAbove (a := 1) (b := 13) (by omega) (by omega)) (fun i hi => ?_) (fun d1 a1 => ?_)
  · rw [mg_top]
    exact hroom i hi
  · rw [mg_top]
    simp only [wp_bind', W.mark, W.pushRef, State.topJava?_setTop' _ X2.here.top, Option.some.injEq, exists_eq_left', State.setTop_setTop]
    intro a2
    rw [afterInstr_ok]
    exact ht
end MGR
section MGV
variable {p : Program} {l : Launch} {e : Env} {R : Room} {s : State} {m : MethodId} {args : Array Value} {below : List Frame} {meth : Method} {c : Code} {Z : State → Prop} {D : va_G} {cl : List vw_C} {A : Nat → Prop} {ls : Array Slot} {cI cJ : ClassId} {cc : ByteArray} {own : String} {ws : va_W} {cells slots pc : Nat} {st : List Value} {H H0 : Heap} {locs : List Loc}
/-- the cells made: the row of references at h, the rows of zeros behind it -/
abbrev mg_w (cI cJ : ClassId) (h : Nat) (r : Nat → Nat) : va_W := (h, .inl (cJ, 13, .inr (.inr (.inr (.inr (fun i => if i < 13 then some (r i) else none)))))) :: (List.range 13).map (fun i => (r i, .inl (cI, 64, .inl (fun _ => 0))))
theorem mg_wat {cI cJ : ClassId} {h j : Nat} {q : Nat × va_E} (hq : (mg_w cI cJ h (fun i => h + 1 + i))[j]? = some q) : q.1 = h + j ∧ j < 14 ∧ (j = 0 → q = (h, .inl (cJ, 13, .inr (.inr (.inr (.inr (fun i => if i < 13 then some (h + 1 + i) else none))))))) ∧ (j ≠ 0 → q = (h + j, .inl (cI, 64, .inl (fun _ => 0)))) := by
  obtain _ | j := j
  · rw [List.getElem?_cons_zero] at hq
    cases hq
    exact ⟨rfl, by omega, fun _ => rfl, fun q => absurd rfl q⟩
  · rw [List.getElem?_cons_succ, List.getElem?_map] at hq
    by_cases hj : j < 13
    · rw [List.getElem?_range hj] at hq
      cases hq
      have e : h + 1 + j = h + (j + 1) := by omega
      exact ⟨e, by omega, fun q => absurd q (by omega), fun _ => by rw [← e]⟩
    · rw [List.getElem?_eq_none (by rw [List.length_range]; omega)] at hq
      cases hq
theorem mg_apart (hP : va_P D cl ws H) (hD : va_D A ws) (hA : ∀ q : Nat, H.size ≤ q → A q) : va_D A (ws ++ mg_w cI cJ H.size (fun i => H.size + 1 + i)) := by
  have key : ∀ (k : Nat) (q : Nat × va_E), (ws ++ mg_w cI cJ H.size (fun i => H.size + 1 + i))[k]? = some q → (ws[k]? = some q ∧ k < ws.length ∧ q.1 < H.size) ∨ (ws.length ≤ k ∧ q.1 = H.size + (k - ws.length)) := fun k q hk => by
    by_cases h : k < ws.length
    · rw [List.getElem?_append_left h] at hk
      exact Or.inl ⟨hk, h, (hP k q hk).lt⟩
    · rw [List.getElem?_append_right (by omega)] at hk
      exact Or.inr ⟨by omega, (mg_wat hk).1⟩
  refine ⟨fun i j x y hi hj hxy => ?_, fun k q hk => ?_⟩
  · rcases key i x hi with ⟨a1, a2, a3⟩ | ⟨a1, a2⟩ <;> rcases key j y hj with ⟨b1, b2, b3⟩ | ⟨b1, b2⟩
    · exact hD.1 i j x y a1 b1 hxy
    · omega
    · omega
    · omega
  · rcases key k q hk with ⟨a1, -, -⟩ | ⟨-, a2⟩
    · exact hD.2 k q a1
    · exact hA _ (by omega)
theorem mg_W (hx : p.tables.exec = Jvm.exec) (hb : c.code = cc) (hown : s.vm.findClass own = some m.cls) {index : Nat} (hl : (Cond.classLink own index "[[I").before args s = true) (hO : (Cond.arrayOver (.array .int)).before #[] s = true) (hI : ArrOfT s cI .int ∧ va_RA s cI .int) (hJ : va_RA s cJ (.array .int))
    (hP : va_P D cl ws H) (hD : va_D A ws) (hS : va_S A H0 H locs) (hA : ∀ q : Nat, H0.size ≤ q → A q) (hc : cells + 14 ≤ R.cells) (hs : slots + 845 ≤ R.slots) (hd : decode cc pc = .ok (.multianewarray index 2, 4))
    (kk : ∀ (q : Nat) (r : Nat → Nat) (H1 : Heap) (L : List Loc), va_P D cl (ws ++ mg_w cI cJ q r) H1 → va_D A (ws ++ mg_w cI cJ q r) → va_S A H0 H1 L → W p l e R s m args below meth c H1 L (cells + 14) (slots + 845) Z (F0 m (pc + 4) ls (.ref q :: st))) : W p l e R s m args below meth c H locs cells slots Z (F0 m pc ls (.int 64 :: .int 13 :: st)) := by
  intro T hT X
  obtain ⟨c1, c2, kA, f1, f2, hkA, hA2⟩ := mg_over hO
  obtain ⟨hI1, hI2⟩ := hI
  have e1 : c1 = cI := Option.some.inj (f1.symm.trans hI2)
  have e2 : c2 = cJ := Option.some.inj (f2.symm.trans hJ)
  subst e1
  subst e2
  obtain ⟨-, kI, hkI, c0, hI0⟩ := hI1 0 (fun _ => .null)
  obtain ⟨V, L, XV, hL, v1, v2, v3, v4, step⟩ := mg_run X hx hown hl f2 hkA hA2 hkI hI0 (g := F0 m pc ls (.int 64 :: .int 13 :: st)) rfl (by rw [hb]; exact hd) rfl hc hs
  rw [hT] at hL v1 v2 v3 v4
  have hP0 : va_P D cl ws V.heap := hP.kept (fun k q hk => v3 _ ((hP k q hk).lt))
  have hP1 : va_P D cl (mg_w c1 c2 H.size (fun i => H.size + 1 + i)) V.heap := fun k q hk => by
    obtain ⟨-, w1, w2, w3⟩ := mg_wat hk
    obtain _ | k := k
    · rw [w2 rfl]
      exact v2
    · rw [w3 (by omega)]
      have h := v4 k (by omega)
      rw [show H.size + 1 + k = H.size + (k + 1) by omega] at h
      exact h
  have hA' : ∀ q : Nat, H.size ≤ q → A q := fun q hq => hA q (Nat.le_trans hS.1 hq)
  have hS1 : va_S A H0 V.heap L := ⟨by have := hS.1; omega, fun q h1 h2 => (v3 q (Nat.lt_of_lt_of_le h1 hS.1)).trans (hS.2.1 q h1 h2), fun x hx => by
    rcases hL x hx with q | q
    · exact hS.2.2 x q
    · rw [q]
      exact hA' _ (Nat.le_refl _)⟩
  obtain ⟨t, a1, b1⟩ := kk H.size (fun i => H.size + 1 + i) V.heap L (hP0.app hP1) (mg_apart hP hD hA') hS1 V rfl XV
  refine ⟨t, step t ?_, b1⟩
  rw [hT]
  exact a1
end MGV
section CSM
variable {p : Program} {l : Launch} {e : Env} {R : Room} {s : State} {m : MethodId} {args : Array Value} {below : List Frame} {meth : Method} {c : Code} {Z : State → Prop} {D : va_G} {A : Nat → Prop} {ls : Array Slot} {cI cZ cJ : ClassId} {cc : ByteArray} {own : String} {ws : va_W} {cells slots pc : Nat} {st : List Value}
theorem cs_mna (C : CC p s m args c D A cI cZ cJ cc own) {index : Nat} (hl : Cond.classLink own index "[[I" ∈ wsG) (hc : cells + 14 ≤ R.cells) (hs : slots + 845 ≤ R.slots) (hd : decode cc pc = .ok (.multianewarray index 2, 4))
    (kk : ∀ (q : Nat) (r : Nat → Nat), CS p l e R s m args below meth c Z D A ls ((ws ++ [(q, .inl (cJ, 13, .inr (.inr (.inr (.inr (fun i => if i < 13 then some (r i) else none))))))]) ++ (List.range 13).map (fun i => (r i, .inl (cI, 64, .inl (fun _ => 0))))) (cells + 14) (slots + 845) (pc + 4) (.ref q :: st)) : CS p l e R s m args below meth c Z D A ls ws cells slots pc (.int 64 :: .int 13 :: st) := by
  intro H locs hP hD hS
  obtain ⟨hx, hb, hown, hts, hK, hA, hNw, hAO⟩ := id C
  refine mg_W hx hb hown (hts _ hl) hAO (hK.2 0 (cI, .int) rfl) (hK.2 2 (cJ, .array .int) rfl).2 hP hD hS hA hc hs hd (fun q r H1 L hP1 hD1 hS1 => ?_)
  have e := List.append_assoc ws [(q, .inl (cJ, 13, .inr (.inr (.inr (.inr (fun i => if i < 13 then some (r i) else none))))))] ((List.range 13).map (fun i => ((r i, .inl (cI, 64, .inl (fun _ => 0))) : Nat × va_E)))
  refine kk q r H1 L ?_ ?_ hS1
  · rw [e]
    exact hP1
  · rw [e]
    exact hD1
end CSM

