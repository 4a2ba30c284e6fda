-- ===== constructors: straight stretches over a list of cells =====
abbrev tyL (cI cZ cJ : ClassId) : List (ClassId × FieldType) := [(cI, .int), (cZ, .boolean), (cJ, .array .int)]
def AOI (U : State) : Prop := (Cond.arrayOver (.array .int)).before #[] U = true
section CSD
variable (p : Program) (l : Launch) (e : Env) (R : Room) (s : State) (m : MethodId) (args : Array Value) (below : List Frame) (meth : Method) (c : Code) (Z : State → Prop) (D : va_G) (A : Nat → Prop) (ls : Array Slot) (cI cZ cJ : ClassId) (cc : ByteArray) (own : String)
def CS (ws : va_W) (cells slots pc : Nat) (st : List Value) : Prop := ∀ (H : Heap) (locs : List Loc), va_P D vwCl ws H → va_D A ws → va_S A s.heap H locs → W p l e R s m args below meth c H locs cells slots Z (F0 m pc ls st)
def CC : Prop := p.tables.exec = Jvm.exec ∧ c.code = cc ∧ s.vm.findClass own = some m.cls ∧ (∀ w ∈ wsG, w.before args s = true) ∧ va_K D vwCl (tyL cI cZ cJ) s ∧ (∀ q, s.heap.size ≤ q → A q) ∧ (∀ w ∈ nestW, va_Nw w s) ∧ AOI s
end CSD
theorem ww_61 : Cond.arrayClass .int ∈ wsG := wsG_mem (List.mem_append_right _ (tm1 (List.mem_of_getElem? (i := 61) rfl))) rfl
theorem ww_1254 : Cond.arrayClass .boolean ∈ wsG := wsG_mem (List.mem_append_right _ (tm6 (List.mem_of_getElem? (i := 54) rfl))) rfl
section CSL
variable {p : Program} {l : Launch} {e : Env} {R : Room} {s : State} {m : MethodId} {args : Array Value} {below : List Frame} {meth : Method} {c : Code} {Z : State → Prop} {D : va_G} {A : Nat → Prop} {ls : Array Slot} {cI cZ cJ : ClassId} {cc : ByteArray} {own : String} {ws : va_W} {cells slots pc : Nat} {st : List Value}
theorem cs_ald (C : CC p s m args c D A cI cZ cJ cc own) {k : Fin 4} {i x : Nat} (hd : decode cc pc = .ok (.aload_n k, 1)) (hi : (k : Nat) = i) (hl : ls[i]? = some (.val (.ref x))) (kk : CS p l e R s m args below meth c Z D A ls ws cells slots (pc + 1) (.ref x :: st)) : CS p l e R s m args below meth c Z D A ls ws cells slots pc st :=
  fun H locs hP hD hS => lv_aload_n C.1 C.2.1 hd hi hl (kk H locs hP hD hS)
theorem cs_ic (C : CC p s m args c D A cI cZ cJ cc own) {n : Int} {v : Int32} (hd : decode cc pc = .ok (.iconst n, 1)) (hv : Int32.ofInt n = v) (kk : CS p l e R s m args below meth c Z D A ls ws cells slots (pc + 1) (.int v :: st)) : CS p l e R s m args below meth c Z D A ls ws cells slots pc st :=
  fun H locs hP hD hS => lv_iconst C.1 C.2.1 hd hv (kk H locs hP hD hS)
theorem cs_bi (C : CC p s m args c D A cI cZ cJ cc own) {n : Int} {v : Int32} (hd : decode cc pc = .ok (.bipush n, 2)) (hv : (Int8.ofInt n).toInt32 = v) (kk : CS p l e R s m args below meth c Z D A ls ws cells slots (pc + 2) (.int v :: st)) : CS p l e R s m args below meth c Z D A ls ws cells slots pc st :=
  fun H locs hP hD hS => lv_bipush C.1 C.2.1 hd hv (kk H locs hP hD hS)
theorem cs_si (C : CC p s m args c D A cI cZ cJ cc own) {n : Int} {v : Int32} (hd : decode cc pc = .ok (.sipush n, 3)) (hv : (Int16.ofInt n).toInt32 = v) (kk : CS p l e R s m args below meth c Z D A ls ws cells slots (pc + 3) (.int v :: st)) : CS p l e R s m args below meth c Z D A ls ws cells slots pc st :=
  fun H locs hP hD hS => lv_sipush C.1 C.2.1 hd hv (kk H locs hP hD hS)
theorem cs_dup (C : CC p s m args c D A cI cZ cJ cc own) {a : Nat} (hd : decode cc pc = .ok (.dup, 1)) (kk : CS p l e R s m args below meth c Z D A ls ws cells slots (pc + 1) (.ref a :: .ref a :: st)) : CS p l e R s m args below meth c Z D A ls ws cells slots pc (.ref a :: st) :=
  fun H locs hP hD hS => lv_dup C.1 C.2.1 hd rfl (kk H locs hP hD hS)
theorem cs_widen {k n : Nat} (h1 : cells ≤ k) (h2 : slots ≤ n) (kk : CS p l e R s m args below meth c Z D A ls ws k n pc st) : CS p l e R s m args below meth c Z D A ls ws cells slots pc st :=
  fun H locs hP hD hS => W.widen h1 h2 (kk H locs hP hD hS)
theorem cs_na (C : CC p s m args c D A cI cZ cJ cc own) {N : Nat} {n : Int32} (hn : ¬ n < 0) (hN : n.toNatClampNeg = N) (hb : N * 4 ≤ 536870912) (hc : cells + 1 ≤ R.cells) (hs : slots + N ≤ R.slots) (hd : decode cc pc = .ok (.newarray .int, 2))
    (kk : ∀ q : Nat, CS p l e R s m args below meth c Z D A ls (ws ++ [(q, .inl (cI, N, .inl (fun _ => 0)))]) (cells + 1) (slots + N) (pc + 2) (.ref q :: st)) : CS p l e R s m args below meth c Z D A ls ws cells slots pc (.int n :: st) := by
  intro H locs hP hD hS
  refine va_newa C.1 C.2.1 (atype := .int) (C.2.2.2.1 _ ww_61) (ty := .int) rfl C.2.2.2.2.1 hP hD hS C.2.2.2.2.2.1 (a0 := (N, .inl (fun _ => 0))) (fun _ => rfl) hn hN hb hc hs hd (fun q cA H1 hK hP hD hS => ?_)
  have e1 : s.vm.findClass ("[" ++ FieldType.int.toString) = some cA := (hK.2 3 (cA, .int) rfl).2
  have e2 : s.vm.findClass ("[" ++ FieldType.int.toString) = some cI := (hK.2 0 (cI, .int) rfl).2
  have : cI = cA := Option.some.inj (e2.symm.trans e1)
  subst this
  exact kk q H1 locs hP hD hS
theorem cs_nz (C : CC p s m args c D A cI cZ cJ cc own) {N : Nat} {n : Int32} (hn : ¬ n < 0) (hN : n.toNatClampNeg = N) (hb : N * 1 ≤ 536870912) (hc : cells + 1 ≤ R.cells) (hs : slots + N ≤ R.slots) (hd : decode cc pc = .ok (.newarray .boolean, 2))
    (kk : ∀ q : Nat, CS p l e R s m args below meth c Z D A ls (ws ++ [(q, .inl (cZ, N, .inl (fun _ => 0)))]) (cells + 1) (slots + N) (pc + 2) (.ref q :: st)) : CS p l e R s m args below meth c Z D A ls ws cells slots pc (.int n :: st) := by
  intro H locs hP hD hS
  refine va_newa C.1 C.2.1 (atype := .boolean) (C.2.2.2.1 _ ww_1254) (ty := .boolean) rfl C.2.2.2.2.1 hP hD hS C.2.2.2.2.2.1 (a0 := (N, .inl (fun _ => 0))) (fun _ => rfl) hn hN hb hc hs hd (fun q cA H1 hK hP hD hS => ?_)
  have e1 : s.vm.findClass ("[" ++ FieldType.boolean.toString) = some cA := (hK.2 3 (cA, .boolean) rfl).2
  have e2 : s.vm.findClass ("[" ++ FieldType.boolean.toString) = some cZ := (hK.2 1 (cZ, .boolean) rfl).2
  have : cZ = cA := Option.some.inj (e2.symm.trans e1)
  subst this
  exact kk q H1 locs hP hD hS
theorem cs_put (C : CC p s m args c D A cI cZ cJ cc own) {Cn : String} {T : u_T} {N ci index : Nat} {ty0 : Nat → FieldType} (hin : ∀ w ∈ u_ws Cn T N, w ∈ wsG) (hty : ∀ k, k < N → parseFieldDescriptor (T k).2.2.1 = some (ty0 k)) (hnm : ∀ a, a < N → ∀ b, b < N → a ≠ b → (T a).2.1 ≠ (T b).2.1) (hc : vwCl[ci]? = some (Cn, T, N)) (k : Nat) (hk : k < N) (hl : Cond.fieldLink own index Cn (T k).2.1 (T k).2.2.1 ∈ wsG) (hdc : (T k).1 = Cn) (hfin : (T k).2.2.2 = false)
    {a : Nat} {fs : List Value} {v : Value} (hn : narrow (ty0 k) v = v) (hfit : fits (ty0 k) v = true) (hlen : k < fs.length) (hd : decode cc pc = .ok (.putfield index, 3)) (kk : CS p l e R s m args below meth c Z D A ls ((a, .inr (ci, fs.set k v)) :: ws) cells slots (pc + 3) st) : CS p l e R s m args below meth c Z D A ls ((a, .inr (ci, fs)) :: ws) cells slots pc (v :: .ref a :: st) :=
  fun H locs hP hD hS => va_put C.1 C.2.1 C.2.2.2.1 hin ty0 hty hnm C.2.2.1 C.2.2.2.2.1 hP hD hS 0 rfl hc k hk (C.2.2.2.1 _ hl) (by rw [hdc]; exact fun x h => h) hfin (hty k hk) hn hfit hlen hd (fun H1 locs1 hP hD hS => kk H1 locs1 hP hD hS)
theorem cs_putF (C : CC p s m args c D A cI cZ cJ cc own) (hini : meth.name = "<init>") {T : u_T} {N ci index : Nat} {ty0 : Nat → FieldType} (hin : ∀ w ∈ u_ws own T N, w ∈ wsG) (hty : ∀ k, k < N → parseFieldDescriptor (T k).2.2.1 = some (ty0 k)) (hnm : ∀ a, a < N → ∀ b, b < N → a ≠ b → (T a).2.1 ≠ (T b).2.1) (hc : vwCl[ci]? = some (own, T, N)) (k : Nat) (hk : k < N) (hl : Cond.fieldLink own index own (T k).2.1 (T k).2.2.1 ∈ wsG) (hdc : (T k).1 = own) (hfin : (T k).2.2.2 = true)
    {a : Nat} {fs : List Value} {v : Value} (hn : narrow (ty0 k) v = v) (hfit : fits (ty0 k) v = true) (hlen : k < fs.length) (hd : decode cc pc = .ok (.putfield index, 3)) (kk : CS p l e R s m args below meth c Z D A ls ((a, .inr (ci, fs.set k v)) :: ws) cells slots (pc + 3) st) : CS p l e R s m args below meth c Z D A ls ((a, .inr (ci, fs)) :: ws) cells slots pc (v :: .ref a :: st) :=
  fun H locs hP hD hS => va_putF C.1 C.2.1 C.2.2.2.1 hin ty0 hty hnm C.2.2.1 C.2.2.2.2.1 hP hD hS 0 rfl hc k hk (C.2.2.2.1 _ hl) (by rw [hdc]; exact fun x h => h) hfin hini hdc (hty k hk) hn hfit hlen hd (fun H1 locs1 hP hD hS => kk H1 locs1 hP hD hS)
theorem cs_get (C : CC p s m args c D A cI cZ cJ cc own) {T : u_T} {N ci index : Nat} (hin : ∀ w ∈ u_ws own T N, w ∈ wsG) (hc : vwCl[ci]? = some (own, T, N)) (k : Nat) (hk : k < N) (hl : Cond.fieldLink own index own (T k).2.1 (T k).2.2.1 ∈ wsG) (hdc : (T k).1 = own)
    {a : Nat} {fs : List Value} {v : Value} (hv : fs[k]? = some v) (hd : decode cc pc = .ok (.getfield index, 3)) (kk : CS p l e R s m args below meth c Z D A ls ((a, .inr (ci, fs)) :: ws) cells slots (pc + 3) (v :: st)) : CS p l e R s m args below meth c Z D A ls ((a, .inr (ci, fs)) :: ws) cells slots pc (.ref a :: st) :=
  fun H locs hP hD hS => va_get C.1 C.2.1 C.2.2.2.1 hin C.2.2.1 C.2.2.2.2.1 hP 0 rfl hc k hk (C.2.2.2.1 _ hl) (by rw [hdc]; exact fun x h => h) hv hd (kk H locs hP hD hS)
theorem cs_new (C : CC p s m args c D A cI cZ cJ cc own) {Cn : String} {T : u_T} {N ci index : Nat} {ty0 : Nat → FieldType} (hin : ∀ w ∈ u_ws Cn T N, w ∈ wsG) (hty : ∀ k, k < N → parseFieldDescriptor (T k).2.2.1 = some (ty0 k)) (hc : vwCl[ci]? = some (Cn, T, N)) (h1 : Cond.classLink own index Cn ∈ wsG) (h2 : Cond.instantiable Cn N ∈ wsG) (h3 : Cond.initialized Cn ∈ wsG) {fs : List Value} (hfs : ∀ j, j < N → defaultValue (ty0 j) = vp_V fs j) (hcl : cells + 1 ≤ R.cells) (hs : slots + N ≤ R.slots) (hd : decode cc pc = .ok (.new index, 3))
    (kk : ∀ q : Nat, CS p l e R s m args below meth c Z D A ls (ws ++ [(q, .inr (ci, fs))]) (cells + 1) (slots + N) (pc + 3) (.ref q :: st)) : CS p l e R s m args below meth c Z D A ls ws cells slots pc st :=
  fun H locs hP hD hS => va_new C.1 C.2.1 C.2.2.2.1 hin ty0 hty C.2.2.1 (C.2.2.2.1 _ h1) (C.2.2.2.1 _ h2) (C.2.2.2.1 _ h3) C.2.2.2.2.1 hP hD hS C.2.2.2.2.2.1 hc hfs hcl hs hd (fun q H1 hP hD hS => kk q H1 locs hP hD hS)
theorem cs_obj (C : CC p s m args c D A cI cZ cJ cc own) (hml : ls.size = c.maxLocals) {idx a : Nat} (h1 : Cond.methodLink own idx Lib.objectInit ∈ wsG) (h2 : Cond.instanceMethod Lib.objectInit ∈ wsG) (h3 : Cond.code Lib.objectInit ⟨#[0xb1]⟩ 1 none ∈ wsG) (hd : decode cc pc = .ok (.invokespecial idx, 3)) (hf : 1 ≤ R.frames) (hlo : 12 ≤ R.locals) (kk : CS p l e R s m args below meth c Z D A ls ws cells slots (pc + 3) []) : CS p l e R s m args below meth c Z D A ls ws cells slots pc [.ref a] :=
  fun H locs hP hD hS => W.objInit C.1 C.2.1 C.2.2.1 (C.2.2.2.1 _ h1) (C.2.2.2.1 _ h2) (C.2.2.2.1 _ h3) rfl hml rfl hd hf (Nat.le_trans (Nat.le_of_ble_eq_true rfl : 2 * (F0 m pc ls [.ref a]).monitorRoom + (([] : List Value).map fun v => v.category).sum + 12 ≤ 12) hlo) (W.eq (g2 := F0 m (pc + 3) ls []) rfl (kk H locs hP hD hS))
/-- what a constructor of one object is: from the cell with its defaults to the cells that it makes -/
def NMet {S : Type} (l : Launch) (Y : Pk) (D : va_G) (cI cZ cJ : ClassId) (fr lo mc ms b : Nat) (As : List Value) (ce : va_E) (out : S → va_W) : Prop := ∀ sz : Nat, Met l (yN Y) (wsY Y) ({ frames := fr, cells := mc, slots := ms, locals := lo }) (va_Pc (.ref b :: As) (fun U => U.heap.size = sz ∧ va_P D vwCl [(b, ce)] U.heap ∧ va_K D vwCl (tyL cI cZ cJ) U ∧ (∀ w ∈ nestW, va_Nw w U) ∧ AOI U ∧ va_D (fun _ => True) [(b, ce)])) (va_Qv (fun _ : S => True) (fun u t => va_P D vwCl (out u) t.heap ∧ va_D (va_A [(b, ce)] sz) (out u)) (va_A [(b, ce)] sz)) mc ms (va_A [(b, ce)] sz)
theorem nd_of : ∀ l : List Nat, l.Nodup → va_nd l = true
  | [], _ => rfl
  | a :: l, h => by
    obtain ⟨h1, h2⟩ := List.nodup_cons.mp h
    show (decide (a ∉ l) && va_nd l) = true
    rw [nd_of l h2, decide_eq_true h1]
    rfl
theorem nd_range (n : Nat) : va_nd (List.range n) = true := nd_of _ List.nodup_range
theorem AOI_vm {s U : State} (hv : s.vm = U.vm) (h : AOI s) : AOI U := by
  unfold AOI at *
  simp only [Cond.before, Cond.holds, Cond.value] at h ⊢
  rw [← hv]
  exact h
theorem AOI_move {s U : State} (ha : s.vm.Alike U.vm) (h : AOI s) : AOI U := AOI_vm (s := s.setVm U.vm) rfl (by unfold AOI; rw [Cond.arrayOver_setVmC ha]; exact h)
theorem cs_call (C : CC p s m args c D A cI cZ cJ cc own) (hml : c.maxLocals = ls.size) {Y' : Pk} {S : Type} {fr lo mc ms b idx na : Nat} {As : List Value} {ce : va_E} {out : S → va_W} (hM : NMet l Y' D cI cZ cJ fr lo mc ms b As ce out) (hy : (yN Y').name = "<init>") (hr : yR Y' = none) (h1 : Cond.code (yN Y') (yB Y') (yL Y') (yR Y') ∈ wsG) (h2 : Cond.initialized (yN Y').cls ∈ wsG) (h3 : (yN Y').cls ≠ "java/lang/invoke/MethodHandle" ∧ (yN Y').cls ≠ "java/lang/invoke/VarHandle") (h4 : Cond.instanceMethod (yN Y') ∈ wsG)
    (hl : Cond.methodLink own idx (yN Y') ∈ wsG ∨ ∃ host, Cond.methodLinkNest own idx (yN Y') host ∈ nestW) (hn : (parseMethodDescriptor (yN Y').desc).map (fun d => d.parameters.length) = some As.length) (hfr : fr + 1 ≤ R.frames) (hlo : 8 + (yL Y' + 11) + lo ≤ R.locals) (hcat : (st.map fun v => v.category).sum ≤ 8) (hcl : cells + mc ≤ R.cells) (hsl : slots + ms ≤ R.slots) (hd : decode cc pc = .ok (.invokespecial idx, 3)) {sk : List Value} (hsk : sk = As.reverse ++ .ref b :: st)
    (kk : ∀ u : S, CS p l e R s m args below meth c Z D A ls (ws ++ out u) (cells + mc) (slots + ms) (pc + 3) st) : CS p l e R s m args below meth c Z D A ls (ws ++ [(b, ce)]) cells slots pc sk := by
  subst hsk
  intro H locs hP hD hS
  obtain ⟨hx, hb, hown, hts, hK, hA, hNw, hAO⟩ := C
  have hC : [ws.length].map (fun i => (ws ++ [(b, ce)])[i]?) = [(b, ce)].map some := by simp
  have hR : (List.range ws.length).map (fun i => (ws ++ [(b, ce)])[i]?) = ws.map some := by
    apply List.ext_getElem?
    intro k
    rw [List.getElem?_map, List.getElem?_map]
    by_cases hk : k < ws.length
    · rw [List.getElem?_range hk]
      show some ((ws ++ [(b, ce)])[k]?) = Option.map some ws[k]?
      rw [List.getElem?_append_left hk, List.getElem?_eq_getElem hk]
      rfl
    · rw [List.getElem?_eq_none (by simp; omega), List.getElem?_eq_none (by omega)]
      rfl
  have hPc := hP.sub (ws' := [(b, ce)]) [ws.length] (by simp)
  have hDc := hD.sub (ws' := [(b, ce)]) [ws.length] (by rfl) (by simp)
  have hFc := va_free (wc := [(b, ce)]) hD hS hA [ws.length] hC
  have hsig : ∀ sig, parseMethodDescriptor (yN Y').desc = some sig → As.length = sig.parameters.length := by
    intro sig h
    rw [h] at hn
    exact (Option.some.inj hn).symm
  have hpay := pay_in hts (good_Y h1)
  have hpre : PreS s H (va_Pc (.ref b :: As) (fun U => U.heap.size = H.size ∧ va_P D vwCl [(b, ce)] U.heap ∧ va_K D vwCl (tyL cI cZ cJ) U ∧ (∀ w ∈ nestW, va_Nw w U) ∧ AOI U ∧ va_D (fun _ => True) [(b, ce)])) (.ref b :: As) :=
    ⟨fun a U g mk q => by
      obtain ⟨q0, q1, qP, qK, qN, qO, qD⟩ := q
      exact ⟨q0, q1, qP, va_K.moved (u := U) (U := U.calling g mk a) (Vm.Alike.refl U.vm) qK, fun w hw => nest_same (s := U) (U := U.calling g mk a) (List.all_eq_true.mp nestW_all w hw) rfl (qN w hw), AOI_move (U := U.calling g mk a) (Vm.Alike.refl U.vm) qO, qD⟩,
    fun U hU hW => ⟨rfl, by rw [hU], by rw [hU]; exact hPc, va_K.moved hW.alike hK, fun w hw => nest_warm (List.all_eq_true.mp nestW_all w hw) hW (hNw w hw), AOI_move hW.alike hAO, hDc.weaken (fun _ _ _ _ => trivial)⟩⟩
  have hwd : 2 * (F0 m pc ls (As.reverse ++ .ref b :: st)).monitorRoom + (st.map fun v => v.category).sum ≤ 8 := lv_room hcat
  have fin : ∀ (u : S) (t : State) (H1 : Heap) (locs1 : List Loc), t.heap = H1 → s.vm.Alike t.vm → True → (va_P D vwCl (out u) t.heap ∧ va_D (va_A [(b, ce)] H.size) (out u)) → H.size ≤ H1.size → (∀ q : Nat, q < H.size → ¬ va_A [(b, ce)] H.size q → H1[q]? = H[q]?) → va_S A s.heap H1 locs1 → W p l e R s m args below meth c H1 locs1 (cells + mc) (slots + ms) Z (F0 m (pc + 3) ls st) := by
    intro u t H1 locs1 ht hvm _ hB hz hk hS1
    obtain ⟨hP1, hD1⟩ := hB
    rw [ht] at hP1
    obtain ⟨hP2, hD2⟩ := va_join (wr := ws) (w1 := out u) hP hD [ws.length] (List.range ws.length) hC hR (nd_range _) (fun i hi hj => by
      have := List.mem_range.mp hi
      rw [List.mem_singleton.mp hj] at this
      omega) hk hFc hP1 hD1
    exact kk u H1 locs1 hP2 hD2 hS1
  rw [hr] at h1
  rcases hl with hl | ⟨host, hl⟩
  · exact va_callv (va_runI (n := As.length) (As := As) (rest := st) (bytes := yB Y') (maxL := yL Y') ⟨hx, hb, hml, hown, hts⟩ (hM H.size) ⟨⟨rfl, rfl, hfr, hlo, hpay, by unfold wsY; rw [hr]; exact List.mem_cons_self, hts _ h1, hts _ h2, h3, hsig, hts _ hl⟩, hy, hts _ h4⟩ hpre rfl rfl rfl rfl hwd hd ⟨hcl, hsl⟩) hS (fun q _ h => hFc q h) hFc fin
  · exact va_callv (va_runIN (n := As.length) (As := As) (rest := st) (host := host) (bytes := yB Y') (maxL := yL Y') ⟨hx, hb, hml, hown, hts⟩ (hM H.size) ⟨⟨⟨rfl, rfl, hfr, hlo, hpay, by unfold wsY; rw [hr]; exact List.mem_cons_self⟩, hts _ h1, hts _ h2, h3, hsig, va_Nw.use rfl (hNw _ hl)⟩, hy, hts _ h4⟩ hpre rfl rfl rfl rfl hwd hd ⟨hcl, hsl⟩) hS (fun q _ h => hFc q h) hFc fin
/-- a constructor's contract out of its stretch -/
theorem nmet_of {S : Type} {Y : Pk} {fr lo mc ms b : Nat} {As : List Value} {ce : va_E} {out : S → va_W} (hp : plainName (yN Y).cls = true) (hr : yR Y = none) (hn : (lg_sl (Value.ref b :: As)).length ≤ yL Y) (hy : (yN Y).name = "<init>")
    (h : ∀ (p : Program) (e : Env) (s : State) (m : MethodId) (args : Array Value) (below : List Frame) (meth : Method) (c : Code) (Z : State → Prop) (A : Nat → Prop) (ls : Array Slot), CC p s m args c D A cI cZ cJ (yB Y) (yN Y).cls → meth.name = "<init>" → ls.size = c.maxLocals → lv_has ls (yL Y) (lv_args 0 (.ref b :: As)) → (∀ (pc : Nat) (u : S), decode (yB Y) pc = .ok (.return_, 1) → CS p l e { frames := fr, cells := mc, slots := ms, locals := lo } s m args below meth c Z D A ls (out u) mc ms pc []) → CS p l e { frames := fr, cells := mc, slots := ms, locals := lo } s m args below meth c Z D A ls [(b, ce)] 0 0 0 []) : NMet l Y D cI cZ cJ fr lo mc ms b As ce out := by
  intro sz
  refine Met.ofW (cc := yB Y) (maxL := yL Y) (ret := yR Y) hp rfl ?_
  intro p e s m args below meth c s₁ B hml hv
  obtain ⟨rfl, hsz, hP, hK, hNw, hAO, hD0⟩ := hv
  subst hsz
  have hx := B.exec
  have hb := B.bytes
  have hr' := B.returns
  have hlocks := B.notSynchronized
  have hts0 := atoms_spec (ws := wsY Y) B.pre
  have hts : ∀ w ∈ wsG, w.before _ s = true := fun w hw => hts0 w (List.mem_cons_of_mem _ hw)
  have hown : s.vm.findClass (yN Y).cls = some m.cls := findClass_of_methodNamed B.named
  have hini : meth.name = "<init>" := by rw [(name_of_methodNamed B.named B.method).1]; exact hy
  have hD := hD0.self (sz := s.heap.size)
  have hA : ∀ q : Nat, s.heap.size ≤ q → va_A [(b, ce)] s.heap.size q := fun q h => Or.inr h
  have hl := lv_entry (Value.ref b :: As) (n := yL Y) hn
  rw [lg_entry_eq]
  refine h p e s m _ below meth c _ (va_A [(b, ce)] s.heap.size) _ ⟨hx, hb, hown, hts, hK, hA, hNw, hAO⟩ hini (by rw [hml]; exact hl.1) hl (fun pc u hd => ?_) s.heap [] hP hD va_S.rf
  intro H locs hP1 hD1 hS1
  exact W.vret hx hb (by rw [hr', hr]) (fun t ht hW => ⟨⟨u, rfl, trivial, by rw [ht]; exact hP1, hD1⟩, hS1.F ht⟩) hS1.2.2 hd
end CSL

