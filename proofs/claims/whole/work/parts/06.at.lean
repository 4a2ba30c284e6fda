-- ===== the machine at a place of a method's code; a block's demand brings it there =====
def wsG : List Cond := lw_tbl.filter goodWord
theorem wsG_mem {w : Cond} (h : w ∈ lw_tbl) (g : goodWord w = true) : w ∈ wsG := List.mem_filter.mpr ⟨h, g⟩
theorem wsG_good : GoodIn wsG wsG := fun w h => ⟨h, good_of_word (List.mem_filter.mp h).2⟩
/-- a method: its name, code, number of locals, what it returns, and the kind of that: 0 nothing, 1 int, 2 boolean, 3 long -/
abbrev Pk : Type := MethodName × ByteArray × Nat × Option FieldType × Nat
abbrev yN (Y : Pk) : MethodName := Y.1
abbrev yB (Y : Pk) : ByteArray := Y.2.1
abbrev yL (Y : Pk) : Nat := Y.2.2.1
abbrev yR (Y : Pk) : Option FieldType := Y.2.2.2.1
abbrev yK (Y : Pk) : Nat := Y.2.2.2.2
def rm (d : Nat) : Room := { frames := d + 1, cells := 0, slots := 0, locals := 100 * (d + 1) }
/-- a static row of ints: where it lies, what it holds -/
def stF (o : OM) (C f : String) (q : Nat) (U : State) : Prop := va_Z C f "[I" (.ref (oA o q)) (aA o) U U.heap ∧ va_T .int (oA o q) (shp q).2 (fun j => .int (Int32.ofInt ((stc q).getD j 0))) (aA o) U U.heap
def Std (o : OM) (U : State) : Prop := va_K (oD o) vwCl (tyO o) U ∧ (∀ w ∈ nestW, va_Nw w U) ∧ inj o ∧
  (stF o "LeavesOfMud$Hands" "PLAIN" 98 U ∧ stF o "LeavesOfMud$Laws" "PLAIN" 99 U ∧ stF o "LeavesOfMud$Pairing" "OF_FIRST" 100 U ∧ stF o "LeavesOfMud$Pairing" "OF_SECOND" 101 U) ∧
  (va_X (oA o 102) (oN o) (oX o) U U.heap ∧ oA o 102 < U.heap.size ∧ ¬ aA o (oA o 102)) ∧ strF o U
/-- the script stands in the store too, at its place; its length at -1 -/
def scr (o : OM) (σ : Sto) : Prop := (σ 103 1 = 0 ∧ σ 104 1 = 0) ∧ σ 102 (-1) = (oN o : Int) ∧ (oN o : Int) ≤ 3072 ∧ ∀ j : Nat, j < oN o → σ 102 j = (oX o j).toInt
def Hs (o : OM) (σ : Sto) (H : Heap) : Prop := HX o σ H ∧ scr o σ
def Wld (o : OM) (σ : Sto) (U : State) : Prop := Std o U ∧ Hs o σ U.heap
def rtk (rt : Nat) (cc : ByteArray) (pc : Nat) : List AV → Prop
  | [] => rt = 0 ∧ decode cc pc = .ok (.return_, 1)
  | [.inl v] => (rt = 1 ∨ (rt = 2 ∧ (v = 0 ∨ v = 1)) ∨ (rt = 4 ∧ v = 0)) ∧ decode cc pc = .ok (.ireturn, 1)
  | [.inr (.inl _)] => rt = 3 ∧ decode cc pc = .ok (.lreturn, 1)
  | _ => False
section CX
variable (o : OM) (Y : Pk) (d : Nat) (Q : List AV → Sto → Prop) (p : Program) (e : Env) (R : Room) (s : State) (m : MethodId) (args : Array Value) (below : List Frame) (meth : Method) (c : Code) (cells slots : Nat) (Z : State → Prop)
def Cx : Prop := p.tables.exec = Jvm.exec ∧ c.code = yB Y ∧ c.maxLocals = yL Y ∧ s.vm.findClass (yN Y).cls = some m.cls ∧ (∀ w ∈ wsG, w.before args s = true) ∧ Std o s ∧ ((rm d).frames ≤ R.frames ∧ (rm d).locals ≤ R.locals ∧ cells ≤ R.cells ∧ slots ≤ R.slots) ∧
  ∀ (H : Heap) (locs : List Loc) (ls : Array Slot) (pc : Nat) (r : List AV) (σ : Sto), Hs o σ H → va_S (aA o) s.heap H locs → okL r → Q r σ → rtk (yK Y) (yB Y) pc r → W p (oL o) e R s m args below meth c H locs cells slots Z (F0 m pc ls (r.map (cv o)))
end CX
def At (o : OM) (Y : Pk) (d : Nat) (Q : List AV → Sto → Prop) (pc : Nat) (S L : List AV) (σ : Sto) : Prop :=
  ∀ (p : Program) (e : Env) (R : Room) (s : State) (m : MethodId) (args : Array Value) (below : List Frame) (meth : Method) (c : Code) (cells slots : Nat) (Z : State → Prop), Cx o Y d Q p e R s m args below meth c cells slots Z →
    ∀ (H : Heap) (locs : List Loc) (ls : Array Slot), Hs o σ H → va_S (aA o) s.heap H locs → lv_has ls (yL Y) (cvL o 0 L) → okL S → okL L → W p (oL o) e R s m args below meth c H locs cells slots Z (F0 m pc ls (S.map (cv o)))
/-- a call that a method makes: the arguments' demand, then what comes back -/
def CallOK (o : OM) (Y : Pk) (d : Nat) (op : Instr) (E : Nat × Ctr) : Prop :=
  ∀ (Q : List AV → Sto → Prop) (p : Program) (e : Env) (R : Room) (s : State) (m : MethodId) (args : Array Value) (below : List Frame) (meth : Method) (c : Code) (cells slots : Nat) (Z : State → Prop), Cx o Y d Q p e R s m args below meth c cells slots Z →
    ∀ (H : Heap) (locs : List Loc) (ls : Array Slot) (pc : Nat) (A rest : List AV) (σ : Sto) (k : List AV → Sto → Prop), decode (yB Y) pc = .ok (op, 3) → Hs o σ H → va_S (aA o) s.heap H locs → ls.size = yL Y → okL A → okL rest → A.length = E.1 → catS rest ≤ 8 → E.2 A σ k →
      (∀ (r : List AV) (σ : Sto) (H : Heap) (locs : List Loc), k r σ → okL r → Hs o σ H → va_S (aA o) s.heap H locs → W p (oL o) e R s m args below meth c H locs cells slots Z (F0 m (pc + 3) ls ((r ++ rest).map (cv o)))) →
      W p (oL o) e R s m args below meth c H locs cells slots Z (F0 m pc ls ((A.reverse ++ rest).map (cv o)))
def rfv (o : OM) (q : Nat) : Value := match q with
  | 999 => .int 1
  | _ => .ref (oA o q)
/-- a reference out of the tables: a static row, a text -/
def RefOK (o : OM) (Y : Pk) (d : Nat) (i q : Nat) : Prop :=
  ∀ (op : Instr) (n : Nat), (op = .getstatic i ∧ n = 3 ∧ ¬ (q = 103 ∨ q = 104)) ∨ (op = .ldc i ∧ n = 2 ∧ (q = 103 ∨ q = 104)) → ∀ (Q : List AV → Sto → Prop) (p : Program) (e : Env) (R : Room) (s : State) (m : MethodId) (args : Array Value) (below : List Frame) (meth : Method) (c : Code) (cells slots : Nat) (Z : State → Prop), Cx o Y d Q p e R s m args below meth c cells slots Z →
    ∀ (H : Heap) (locs : List Loc) (ls : Array Slot) (pc : Nat) (rest : List Value), va_S (aA o) s.heap H locs → decode (yB Y) pc = .ok (op, n) →
      W p (oL o) e R s m args below meth c H locs cells slots Z (F0 m (pc + n) ls (rfv o q :: rest)) → W p (oL o) e R s m args below meth c H locs cells slots Z (F0 m pc ls rest)
/-- a field out of the tables: the code c says class, slot, kind -/
def FldOK (own : String) (i c : Nat) : Prop := ∃ (C : String) (T : u_T) (N : Nat) (ty : Nat → FieldType), vwCl[c / 1000]? = some (C, T, N) ∧ nfl (c / 1000) = N ∧ c / 10 % 100 < N ∧ ftg (c / 1000) (c / 10 % 100) = c % 10 ∧ (T (c / 10 % 100)).1 = C ∧ (∀ w ∈ u_ws C T N, w ∈ wsG) ∧
  (∀ k, k < N → parseFieldDescriptor (T k).2.2.1 = some (ty k)) ∧ (∀ a, a < N → ∀ b, b < N → a ≠ b → (T a).2.1 ≠ (T b).2.1) ∧
  (c % 10 = 0 → ty (c / 10 % 100) = .int) ∧ (c % 10 = 1 → ty (c / 10 % 100) = .long) ∧ (c % 10 = 3 → ty (c / 10 % 100) = .boolean) ∧ (¬ c % 10 = 2 → (T (c / 10 % 100)).2.2.2 = false) ∧
  (Cond.fieldLink own i C (T (c / 10 % 100)).2.1 (T (c / 10 % 100)).2.2.1 ∈ wsG ∨ ∃ host, Cond.fieldLinkNest own i C (T (c / 10 % 100)).2.1 (T (c / 10 % 100)).2.2.1 host ∈ nestW)
/-- a field of a text: value, coder -/
def StrOK (own : String) (i c : Nat) : Prop := own = "java/lang/String" ∧ ((c = 20002 ∧ Cond.fieldLink own i "java/lang/String" "value" "[B" ∈ wsG) ∨ (c = 20015 ∧ Cond.fieldLink own i "java/lang/String" "coder" "B" ∈ wsG))
def Ev (o : OM) (Y : Pk) (d : Nat) (T : Tb) (ca : List (Nat × Ctr)) : Prop := tM T = yL Y ∧ (∀ q ∈ tF T, FldOK (yN Y).cls q.1 q.2 ∨ StrOK (yN Y).cls q.1 q.2) ∧ (∀ q ∈ tI T, Cond.constant (yN Y).cls q.1 (Int32.ofInt q.2) ∈ wsG ∧ i32 q.2) ∧ (∀ q ∈ tJ T, Cond.constantLong (yN Y).cls q.1 (Int64.ofInt q.2) ∈ wsG ∧ i64 q.2) ∧
  (∀ q ∈ tR T, RefOK o Y d q.1 q.2) ∧ (∀ q ∈ tV T, CallOK o Y d (.invokevirtual q.1) (tbl dCa ca q.2)) ∧ (∀ q ∈ tS T, CallOK o Y d (.invokestatic q.1) (tbl dCa ca q.2))
-- the locals
theorem cvL_nth (o : OM) : ∀ (L : List AV) (i k : Nat) (v : AV), nth L i = v → v ≠ vX → (k + i, cv o v) ∈ cvL o k L
  | [], i, k, v, h, hv => by
    cases i <;> exact absurd h.symm hv
  | a :: t, 0, k, v, h, hv => by
    have h : a = v := h
    subst h
    rcases a with a | a | a | a
    · exact List.mem_cons_self
    · exact List.mem_cons_self
    · exact List.mem_cons_self
    · exact absurd rfl hv
  | a :: t, i + 1, k, v, h, hv => by
    have h1 := cvL_nth o t i (k + 1) v h hv
    rw [show k + 1 + i = k + (i + 1) by omega] at h1
    rcases a with a | a | a | a
    · exact List.mem_cons_of_mem _ h1
    · exact List.mem_cons_of_mem _ h1
    · exact List.mem_cons_of_mem _ h1
    · exact h1
theorem cvL_lo (o : OM) : ∀ (L : List AV) (k : Nat) (q : Nat × Value), q ∈ cvL o k L → k ≤ q.1
  | [], _, _, h => by cases h
  | a :: t, k, q, h => by
    rcases a with a | a | a | a
    all_goals first
      | (rcases List.mem_cons.mp h with rfl | h1
         · exact Nat.le_refl _
         · exact Nat.le_of_succ_le (cvL_lo o t (k + 1) q h1))
      | exact Nat.le_of_succ_le (cvL_lo o t (k + 1) q h)
theorem cvL_set (o : OM) : ∀ (L : List AV) (i k : Nat) (v : AV), canSet L i = true → ∀ q ∈ cvL o k (setL L i v), q = (k + i, cv o v) ∨ (q ∈ cvL o k L ∧ q.1 ≠ k + i ∧ (q.1 + 1 = k + i → q.2.category ≠ 2))
  | [], i, k, v, h, q, hq => by
    have h0 : i = 0 := by simpa [canSet] using h
    subst h0
    have hq : q ∈ cvL o k [v] := hq
    rcases v with a | a | a | a
    · exact Or.inl (by simpa [cvL] using hq)
    · exact Or.inl (by simpa [cvL] using hq)
    · exact Or.inl (by simpa [cvL] using hq)
    · cases hq
  | a :: t, 0, k, v, h, q, hq => by
    have hq : q ∈ cvL o k (v :: t) := hq
    have key : q = (k + 0, cv o v) ∨ q ∈ cvL o (k + 1) t := by
      rcases v with b | b | b | b
      · exact List.mem_cons.mp hq
      · exact List.mem_cons.mp hq
      · exact List.mem_cons.mp hq
      · exact Or.inr hq
    rcases key with h1 | h1
    · exact Or.inl h1
    · have h2 := cvL_lo o t (k + 1) q h1
      refine Or.inr ⟨?_, by omega, by omega⟩
      rcases a with b | b | b | b
      · exact List.mem_cons_of_mem _ h1
      · exact List.mem_cons_of_mem _ h1
      · exact List.mem_cons_of_mem _ h1
      · exact h1
  | a :: t, i + 1, k, v, h, q, hq => by
    have hq : q ∈ cvL o k (a :: setL t i v) := hq
    have key : ∀ w, cv o a = w → a ≠ vX → (q = (k, w) ∨ q ∈ cvL o (k + 1) (setL t i v)) := by
      intro w hw ha
      rcases a with b | b | b | b
      · subst hw; exact List.mem_cons.mp hq
      · subst hw; exact List.mem_cons.mp hq
      · subst hw; exact List.mem_cons.mp hq
      · exact absurd rfl ha
    have hcs : canSet t i = true := by
      rcases a with b | b | b | b
      · cases i <;> exact h
      · cases i with
        | zero => cases h
        | succ i => exact h
      · cases i <;> exact h
      · cases i <;> exact h
    have up : ∀ q, q ∈ cvL o (k + 1) t → q ∈ cvL o k (a :: t) := by
      intro q h1
      rcases a with b | b | b | b
      · exact List.mem_cons_of_mem _ h1
      · exact List.mem_cons_of_mem _ h1
      · exact List.mem_cons_of_mem _ h1
      · exact h1
    by_cases ha : a = vX
    · subst ha
      have hq : q ∈ cvL o (k + 1) (setL t i v) := hq
      rcases cvL_set o t i (k + 1) v hcs q hq with h1 | ⟨h1, h2, h3⟩
      · exact Or.inl (by rw [h1]; congr 1; omega)
      · exact Or.inr ⟨up q h1, by omega, fun e => h3 (by omega)⟩
    · rcases key _ rfl ha with h1 | hq
      · refine Or.inr ⟨?_, by rw [h1]; show k ≠ _; omega, ?_⟩
        · rw [h1]
          rcases a with b | b | b | b
          · exact List.mem_cons_self
          · exact List.mem_cons_self
          · exact List.mem_cons_self
          · exact absurd rfl ha
        · intro e hc
          rw [h1] at e hc
          have e : i = 0 := by have : k + 1 = k + (i + 1) := e; omega
          subst e
          rcases a with b | b | b | b
          · simp [cv, Value.category] at hc
          · cases h
          · simp [cv, Value.category] at hc
          · exact absurd rfl ha
      · rcases cvL_set o t i (k + 1) v hcs q hq with h1 | ⟨h1, h2, h3⟩
        · exact Or.inl (by rw [h1]; congr 1; omega)
        · exact Or.inr ⟨up q h1, by omega, fun e => h3 (by omega)⟩
theorem cvL_take (o : OM) : ∀ (L : List AV) (n k : Nat) (q : Nat × Value), q ∈ cvL o k (L.take n) → q ∈ cvL o k L
  | [], n, k, q, h => by simpa using h
  | a :: t, 0, k, q, h => by cases h
  | a :: t, n + 1, k, q, h => by
    have h : q ∈ cvL o k (a :: t.take n) := h
    rcases a with b | b | b | b
    · rcases List.mem_cons.mp h with h | h
      · exact List.mem_cons.mpr (Or.inl h)
      · exact List.mem_cons_of_mem _ (cvL_take o t n (k + 1) q h)
    · rcases List.mem_cons.mp h with h | h
      · exact List.mem_cons.mpr (Or.inl h)
      · exact List.mem_cons_of_mem _ (cvL_take o t n (k + 1) q h)
    · rcases List.mem_cons.mp h with h | h
      · exact List.mem_cons.mpr (Or.inl h)
      · exact List.mem_cons_of_mem _ (cvL_take o t n (k + 1) q h)
    · exact cvL_take o t n (k + 1) q h
theorem lv_mono {ls : Array Slot} {n : Nat} {l l' : List (Nat × Value)} (h : lv_has ls n l) (hs : ∀ q ∈ l', q ∈ l) : lv_has ls n l' := ⟨h.1, h.2.1, fun q hq => h.2.2 q (hs q hq)⟩
theorem okL_take {L : List AV} (h : okL L) (n : Nat) : okL (L.take n) := fun v hv => h v (List.mem_of_mem_take hv)
theorem okL_nth {L : List AV} (h : okL L) (n : Nat) : okv (nth L n) := by
  induction L generalizing n with
  | nil => cases n <;> exact trivial
  | cons a t ih =>
    cases n with
    | zero => exact h a List.mem_cons_self
    | succ n => exact ih (fun v hv => h v (List.mem_cons_of_mem _ hv)) n
theorem okL_set {L : List AV} (h : okL L) {v : AV} (hv : okv v) (n : Nat) : okL (setL L n v) := by
  induction L generalizing n with
  | nil => intro w hw; rw [List.mem_singleton.mp hw]; exact hv
  | cons a t ih =>
    cases n with
    | zero =>
      intro w hw
      rcases List.mem_cons.mp hw with rfl | hw
      · exact hv
      · exact h w (List.mem_cons_of_mem _ hw)
    | succ n =>
      intro w hw
      rcases List.mem_cons.mp hw with rfl | hw
      · exact h w List.mem_cons_self
      · exact ih (fun v hv => h v (List.mem_cons_of_mem _ hv)) n w hw
theorem okL_cons {v : AV} {L : List AV} : okL (v :: L) ↔ okv v ∧ okL L := ⟨fun h => ⟨h v List.mem_cons_self, fun w hw => h w (List.mem_cons_of_mem _ hw)⟩, fun h w hw => (List.mem_cons.mp hw).elim (fun e => e ▸ h.1) (h.2 w)⟩
theorem okL_app {L M : List AV} (h : okL L) (g : okL M) : okL (L ++ M) := fun v hv => (List.mem_append.mp hv).elim (h v) (g v)
/-- storing one value into the locals -/
theorem lv_st {o : OM} {n i : Nat} {L : List AV} {v : AV} (h : canSet L i = true) {lv' : List (Nat × Value)} {ls' : Array Slot} (hl : lv' = (i, cv o v) :: (cvL o 0 L).filter (fun q => !(q.1 == i) && !(q.1 + 1 == i && q.2.category == 2))) (hh : lv_has ls' n lv') : lv_has ls' n (cvL o 0 (setL L i v)) := by
  refine lv_mono hh fun q hq => ?_
  rw [hl]
  rcases cvL_set o L i 0 v h q hq with h1 | ⟨h1, h2, h3⟩
  · rw [h1, Nat.zero_add]; exact List.mem_cons_self
  · refine List.mem_cons_of_mem _ (List.mem_filter.mpr ⟨h1, ?_⟩)
    rw [Nat.zero_add] at h2 h3
    by_cases e : q.1 + 1 = i
    · simp [h2, e, h3 e]
    · simp [h2, e]
theorem setL_X {o : OM} : ∀ (L : List AV) (i k : Nat) (q : Nat × Value), q ∈ cvL o k (setL L i vX) → (q ∈ cvL o k L ∧ q.1 ≠ k + i)
  | [], i, k, q, h => by cases h
  | a :: t, 0, k, q, h => by
    have h : q ∈ cvL o (k + 1) t := h
    have h2 := cvL_lo o t (k + 1) q h
    refine ⟨?_, by omega⟩
    rcases a with b | b | b | b
    · exact List.mem_cons_of_mem _ h
    · exact List.mem_cons_of_mem _ h
    · exact List.mem_cons_of_mem _ h
    · exact h
  | a :: t, i + 1, k, q, h => by
    have h : q ∈ cvL o k (a :: setL t i vX) := h
    rcases a with b | b | b | b
    all_goals first
      | (rcases List.mem_cons.mp h with h1 | h1
         · exact ⟨by rw [h1]; exact List.mem_cons_self, by rw [h1]; show k ≠ _; omega⟩
         · obtain ⟨h2, h3⟩ := setL_X t i (k + 1) q h1
           exact ⟨List.mem_cons_of_mem _ h2, by omega⟩)
      | (obtain ⟨h2, h3⟩ := setL_X t i (k + 1) q h
         exact ⟨h2, by omega⟩)
theorem lv_st2 {o : OM} {n i : Nat} {L : List AV} {v : AV} (h : canSet L i = true) {lv' : List (Nat × Value)} {ls' : Array Slot} (hl : lv' = (i, cv o v) :: (cvL o 0 L).filter (fun q => !(q.1 == i) && (!(q.1 == i + 1) && !(q.1 + 1 == i && q.2.category == 2)))) (hh : lv_has ls' n lv') : lv_has ls' n (cvL o 0 (setL (setL L i v) (i + 1) vX)) := by
  refine lv_mono hh fun q hq => ?_
  rw [hl]
  obtain ⟨hq, hq2⟩ := setL_X _ _ _ q hq
  rcases cvL_set o L i 0 v h q hq with h1 | ⟨h1, h2, h3⟩
  · rw [h1, Nat.zero_add]; exact List.mem_cons_self
  · refine List.mem_cons_of_mem _ (List.mem_filter.mpr ⟨h1, ?_⟩)
    rw [Nat.zero_add] at h2 h3 hq2
    by_cases e : q.1 + 1 = i
    · simp [h2, e, h3 e, hq2]
    · simp [h2, e, hq2]
