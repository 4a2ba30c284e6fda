-- ===== methods' contracts, and calls =====
def Sound (o : OM) (Y : Pk) (d : Nat) (C : Ctr) : Prop := ∀ (Q : List AV → Sto → Prop) (A : List AV) (σ : Sto), okL A → C A σ Q → At o Y d Q 0 [] (entL A) σ
def isNest : Cond → Bool
  | .fieldLinkNest .. => true
  | .methodLinkNest .. => true
  | _ => false
theorem nestW_all : nestW.all isNest = true := by decide +kernel
theorem nest_warm {w : Cond} (hw : isNest w = true) {s U : State} (hW : s.WarmedH U.vm) (h : va_Nw w s) : va_Nw w U := by
  cases w <;> first | exact va_Nw.warmF hW h | exact va_Nw.warmM hW h | cases hw
theorem nest_same {w : Cond} (hw : isNest w = true) {s U : State} (hv : s.vm = U.vm) (h : va_Nw w s) : va_Nw w U := by
  cases w <;> first | exact va_Nw.same rfl hv h | cases hw
theorem stF_move {o : OM} {C f : String} {q : Nat} {s U : State} {locs : List Loc} (ha : s.vm.Alike U.vm) (hS : va_S (aA o) s.heap U.heap locs) (h : stF o C f q s) : stF o C f q U :=
  ⟨va_Z.moved ha (h.1.kept hS.2.1), va_T.moved ha (h.2.kept hS.2.1)⟩
theorem strF1_move {o : OM} {q b : Nat} {s U : State} {locs : List Loc} (ha : s.vm.Alike U.vm) (hS : va_S (aA o) s.heap U.heap locs) (h : strF1 o q b s) : strF1 o q b U :=
  ⟨va_O.moved ha (h.1.kept hS.2.1), va_OF.moved ha (h.2.1.kept hS.2.1), va_OF.moved ha (h.2.2.1.kept hS.2.1), va_T.moved ha (h.2.2.2.kept hS.2.1)⟩
theorem Std_move {o : OM} {s U : State} {locs : List Loc} (h : Std o s) (hW : s.WarmedH U.vm) (hS : va_S (aA o) s.heap U.heap locs) : Std o U := by
  obtain ⟨h1, h2, h3, ⟨z1, z2, z3, z4⟩, ⟨x1, x2, x3⟩, t1, t2, t3, t4, t5⟩ := h
  have ha := hW.alike
  exact ⟨va_K.moved ha h1, fun w hw => nest_warm (List.all_eq_true.mp nestW_all w hw) hW (h2 w hw), h3, ⟨stF_move ha hS z1, stF_move ha hS z2, stF_move ha hS z3, stF_move ha hS z4⟩,
    ⟨va_X.moved ha (x1.kept (hS.2.1 _ x2 x3)), Nat.lt_of_lt_of_le x2 hS.1, x3⟩, vk_R.warm hW t1, vk_R.warm hW t2, strF1_move ha hS t3, strF1_move ha hS t4, va_Z.moved ha (t5.kept hS.2.1)⟩
theorem Std_same {o : OM} {s U : State} (h : Std o s) (hv : U.vm = s.vm) (hh : U.heap = s.heap) : Std o U := by
  obtain ⟨h1, h2, h3, ⟨z1, z2, z3, z4⟩, ⟨x1, x2, x3⟩, t1, t2, t3, t4, t5⟩ := h
  have ha : s.vm.Alike U.vm := by rw [hv]; exact Vm.Alike.refl _
  have hS : va_S (aA o) s.heap U.heap [] := by rw [hh]; exact va_S.rf
  exact ⟨va_K.moved ha h1, fun w hw => nest_same (List.all_eq_true.mp nestW_all w hw) hv.symm (h2 w hw), h3, ⟨stF_move ha hS z1, stF_move ha hS z2, stF_move ha hS z3, stF_move ha hS z4⟩,
    ⟨va_X.moved ha (x1.kept (hS.2.1 _ x2 x3)), Nat.lt_of_lt_of_le x2 hS.1, x3⟩, vk_R.same hv t1, vk_R.same hv t2, strF1_move ha hS t3, strF1_move ha hS t4, va_Z.moved ha (t5.kept hS.2.1)⟩
/-- a method's end, by the kind of what it returns -/
def QQ (o : OM) (rt : Nat) (Q : List AV → Sto → Prop) : Array Value → State → Outcome → State → Prop := match rt with
  | 0 => va_Qv (fun σ : Sto => Q [] σ) (fun σ t => Wld o σ t) (aA o)
  | 3 => va_Ql (fun r (σ : Sto) => Q [vL r.toInt] σ) (fun σ t => Wld o σ t) (aA o)
  | _ => va_Qi (fun r (σ : Sto) => Q [vI r.toInt] σ) (fun σ t => Wld o σ t) (aA o)
def kndOK (rt : Nat) (ret : Option FieldType) : Prop := (rt = 0 ∧ ret = none) ∨ (rt = 1 ∧ ret = some .int) ∨ (rt = 2 ∧ ret = some .boolean) ∨ (rt = 3 ∧ ret = some .long) ∨ (rt = 4 ∧ ret = some .byte)
def wsY (Y : Pk) : List Cond := Cond.code (yN Y) (yB Y) (yL Y) (yR Y) :: wsG
theorem ent_args (o : OM) : ∀ (A : List AV) (k : Nat) (q : Nat × Value), q ∈ cvL o k (entL A) → q ∈ lv_args k (A.map (cv o))
  | [], k, q, h => by cases h
  | a :: t, k, q, h => by
    rcases a with a | a | a | a
    · rcases List.mem_cons.mp h with rfl | h
      · exact List.mem_cons_self
      · exact List.mem_cons_of_mem _ (ent_args o t (k + 1) q h)
    · rcases List.mem_cons.mp h with rfl | h
      · exact List.mem_cons_self
      · exact List.mem_cons_of_mem _ (ent_args o t (k + 2) q h)
    · rcases List.mem_cons.mp h with rfl | h
      · exact List.mem_cons_self
      · exact List.mem_cons_of_mem _ (ent_args o t (k + 1) q h)
    · exact List.mem_cons_of_mem _ (ent_args o t (k + 1) q h)
theorem ent_len (o : OM) : ∀ A : List AV, (lg_sl (A.map (cv o))).length = (entL A).length
  | [] => rfl
  | a :: t => by
    have ih := ent_len o t
    rcases a with a | a | a | a <;> simp [lg_sl, entL, cv, Value.category] at ih ⊢ <;> omega
theorem ent_ok {A : List AV} (h : okL A) : okL (entL A) := by
  induction A with
  | nil => exact h
  | cons a t ih =>
    obtain ⟨h1, h2⟩ := okL_cons.mp h
    rcases a with a | a | a | a
    · exact okL_cons.mpr ⟨h1, ih h2⟩
    · exact okL_cons.mpr ⟨h1, okL_cons.mpr ⟨trivial, ih h2⟩⟩
    · exact okL_cons.mpr ⟨h1, ih h2⟩
    · exact okL_cons.mpr ⟨h1, ih h2⟩
theorem met_of {o : OM} {Y : Pk} {d : Nat} {C : Ctr} (hS : Sound o Y d C) (hp : plainName (yN Y).cls = true) (hk : kndOK (yK Y) (yR Y)) {Q : List AV → Sto → Prop} {A : List AV} {σ : Sto} (hA : okL A) (hn : (entL A).length ≤ yL Y) (hC : C A σ Q) :
    Met (oL o) (yN Y) (wsY Y) (rm d) (va_Pc (A.map (cv o)) (fun U => Wld o σ U)) (QQ o (yK Y) Q) 0 0 (aA o) := by
  refine Met.ofW (cc := yB Y) (maxL := yL Y) (ret := yR Y) hp rfl ?_
  intro p e s m args below meth c s₁ B hml hv
  obtain ⟨rfl, hst, hHs⟩ := hv
  have hx := B.exec
  have hb := B.bytes
  have hr := B.returns
  have hlocks := B.notSynchronized
  have hts0 := atoms_spec (ws := wsY Y) B.pre
  have hts : ∀ w ∈ wsG, w.before _ s = true := fun w hw => hts0 w (List.mem_cons_of_mem _ hw)
  have hown : s.vm.findClass (yN Y).cls = some m.cls := findClass_of_methodNamed B.named
  have hend : ∀ (H : Heap) (locs : List Loc) (σ : Sto) (t : State), Hs o σ H → va_S (aA o) s.heap H locs → t.heap = H → s.WarmedH t.vm → Wld o σ t ∧ va_F (aA o) s t := by
    intro H locs σ t h1 h2 h3 h4
    subst h3
    exact ⟨⟨Std_move hst h4 h2, h1⟩, h2.F rfl⟩
  have C0 : Cx o Y d Q p e (headSpec (wsY Y) (rm d)).room s m (A.map (cv o)).toArray below meth c 0 0 (MQ below (QQ o (yK Y) Q) (A.map (cv o)).toArray s 0 0 (aA o)) := by
    refine ⟨hx, hb, hml, hown, hts, hst, ⟨Nat.le_refl _, Nat.le_refl _, Nat.zero_le _, Nat.zero_le _⟩, ?_⟩
    intro H locs ls pc r σ h1 h2 h3 h4 h5
    match r, h3, h4, h5 with
    | [], h3, h4, h5 =>
      obtain ⟨e1, e2⟩ := h5
      have hr0 : meth.sig.returnType = none := by
        rw [hr]
        rcases hk with ⟨a, b⟩ | ⟨a, b⟩ | ⟨a, b⟩ | ⟨a, b⟩ | ⟨a, b⟩ <;> first | exact b | omega
      refine W.vret hx hb hr0 (fun t ht hW => ?_) h2.2.2 e2
      rw [e1]
      obtain ⟨g1, g2⟩ := hend H locs σ t h1 h2 ht hW
      exact ⟨⟨σ, rfl, h4, g1⟩, g2⟩
    | [.inl v], h3, h4, h5 =>
      obtain ⟨e1, e2⟩ := h5
      have hv1 : i32 v := h3 _ List.mem_cons_self
      have key : ∀ t : State, t.heap = H → s.WarmedH t.vm → QQ o (yK Y) Q (A.map (cv o)).toArray s (.returned (some (.int (Int32.ofInt v)))) t := by
        intro t ht hW
        obtain ⟨g1, g2⟩ := hend H locs σ t h1 h2 ht hW
        have hq : va_Qi (fun r (σ : Sto) => Q [vI r.toInt] σ) (fun σ t => Wld o σ t) (aA o) (A.map (cv o)).toArray s (.returned (some (.int (Int32.ofInt v)))) t :=
          ⟨⟨Int32.ofInt v, σ, rfl, by show Q [vI (Int32.ofInt v).toInt] σ; rw [i32_to hv1]; exact h4, g1⟩, g2⟩
        rcases e1 with e | ⟨e, -⟩ | ⟨e, -⟩ <;> rw [e] <;> exact hq
      rcases e1 with e | ⟨e, hz⟩ | ⟨e, hz⟩
      · have hr0 : meth.sig.returnType = some .int := by
          rw [hr]
          rcases hk with ⟨a, b⟩ | ⟨a, b⟩ | ⟨a, b⟩ | ⟨a, b⟩ | ⟨a, b⟩ <;> first | exact b | omega
        exact W.iret hx hb hr0 key h2.2.2 e2
      · have hr0 : meth.sig.returnType = some .boolean := by
          rw [hr]
          rcases hk with ⟨a, b⟩ | ⟨a, b⟩ | ⟨a, b⟩ | ⟨a, b⟩ | ⟨a, b⟩ <;> first | exact b | omega
        exact W.zret hx hb hr0 (nar_z2 hz).1 key h2.2.2 e2
      · have hr0 : meth.sig.returnType = some .byte := by
          rw [hr]
          rcases hk with ⟨a, b⟩ | ⟨a, b⟩ | ⟨a, b⟩ | ⟨a, b⟩ | ⟨a, b⟩ <;> first | exact b | omega
        exact W.zret hx hb hr0 (by rw [hz]; rfl) key h2.2.2 e2
    | [.inr (.inl v)], h3, h4, h5 =>
      obtain ⟨e1, e2⟩ := h5
      have hv1 : i64 v := h3 _ List.mem_cons_self
      have hr0 : meth.sig.returnType = some .long := by
        rw [hr]
        rcases hk with ⟨a, b⟩ | ⟨a, b⟩ | ⟨a, b⟩ | ⟨a, b⟩ | ⟨a, b⟩ <;> first | exact b | omega
      refine W.lret hx hb hr0 (fun t ht hW => ?_) h2.2.2 e2
      rw [e1]
      obtain ⟨g1, g2⟩ := hend H locs σ t h1 h2 ht hW
      exact ⟨⟨Int64.ofInt v, σ, rfl, by show Q [vL (Int64.ofInt v).toInt] σ; rw [i64_to hv1]; exact h4, g1⟩, g2⟩
  have hl := lv_entry (A.map (cv o)) (n := yL Y) (by rw [ent_len]; exact hn)
  rw [lg_entry_eq]
  exact hS Q A σ hA hC p e _ s m _ below meth c 0 0 _ C0 s.heap [] _ hHs va_S.rf (lv_mono hl (fun q hq => ent_args o A 0 q hq)) (fun v hv => by cases hv) (ent_ok hA)
-- calls
def arg (n : Nat) (C : Ctr) : Ctr := fun A σ k => (entL A).length ≤ n ∧ C A σ k
def rcv (ci n : Nat) (C : Ctr) : Ctr := fun A σ k => (match A with
  | .inr (.inr (.inl q)) :: _ => shp q = (3, ci)
  | _ => False) ∧ (entL A).length ≤ n ∧ C A σ k
theorem cat_sum (o : OM) : ∀ S : List AV, ((S.map (cv o)).map fun v => v.category).sum ≤ catS S
  | [] => Nat.le_refl _
  | a :: t => by
    have ih := cat_sum o t
    rcases a with a | a | a | a <;> simp [catS, cat1, cv, Value.category] at ih ⊢ <;> omega
/-- the words of a callee, whatever the call -/
def calW (Y' : Pk) : Prop := plainName (yN Y').cls = true ∧ kndOK (yK Y') (yR Y') ∧ Cond.code (yN Y') (yB Y') (yL Y') (yR Y') ∈ wsG ∧ Cond.initialized (yN Y').cls ∈ wsG ∧ ((yN Y').cls ≠ "java/lang/invoke/MethodHandle" ∧ (yN Y').cls ≠ "java/lang/invoke/VarHandle") ∧ yL Y' ≤ 60
theorem good_Y {Y' : Pk} (h : Cond.code (yN Y') (yB Y') (yL Y') (yR Y') ∈ wsG) : GoodIn wsG (wsY Y') := fun w hw => by
  rcases List.mem_cons.mp hw with rfl | hw
  · exact wsG_good _ h
  · exact wsG_good _ hw
/-- behind the call -/
theorem call_end {o : OM} {rt : Nat} {Q : List AV → Sto → Prop} {p : Program} {e : Env} {R : Room} {s : State} {m : MethodId} {args : Array Value} {below : List Frame} {meth : Method} {c : Code} {cells slots : Nat} {Z : State → Prop} {H : Heap} {locs : List Loc} {ls : Array Slot} {pc : Nat} {st0 : List Value} {rest : List AV} {a : Array Value} {ret : Option FieldType} (hk : kndOK rt ret)
    (hr : va_Run p (oL o) e R s m args below meth c H locs cells slots 0 0 (F0 m pc ls st0) (rest.map (cv o)) (QQ o rt Q a) (aA o)) (hS : va_S (aA o) s.heap H locs)
    (kk : ∀ (r : List AV) (σ : Sto) (H : Heap) (locs : List Loc), Q r σ → okL r → Hs o σ H → va_S (aA o) s.heap H locs → W p (oL o) e R s m args below meth c H locs cells slots Z (F0 m (pc + 3) ls ((r ++ rest).map (cv o)))) :
    W p (oL o) e R s m args below meth c H locs cells slots Z (F0 m pc ls st0) := by
  have key : rt ≠ 0 → rt ≠ 3 → va_Run p (oL o) e R s m args below meth c H locs cells slots 0 0 (F0 m pc ls st0) (rest.map (cv o)) (va_Qi (fun r (σ : Sto) => Q [vI r.toInt] σ) (fun σ t => Wld o σ t) (aA o) a) (aA o) := by
    intro h1 h2
    rcases hk with ⟨rfl, -⟩ | ⟨rfl, -⟩ | ⟨rfl, -⟩ | ⟨rfl, -⟩ | ⟨rfl, -⟩
    · exact absurd rfl h1
    · exact hr
    · exact hr
    · exact absurd rfl h2
    · exact hr
  by_cases h0 : rt = 0
  · subst h0
    refine va_callv (a := a) hr hS (fun q _ h => h) (fun q h => h) ?_
    intro σ t H1 locs1 ht hvm hq hB hz hk hS1
    subst ht
    exact kk [] σ _ locs1 hq (fun v hv => by cases hv) hB.2 hS1
  · by_cases h3 : rt = 3
    · subst h3
      refine va_calll (a := a) hr hS (fun q _ h => h) (fun q h => h) ?_
      intro r σ t H1 locs1 ht hvm hq hB hz hk hS1
      subst ht
      have h := kk [vL r.toInt] σ _ locs1 hq (fun v hv => by rw [List.mem_singleton.mp hv]; exact i64_in r) hB.2 hS1
      rw [show ([vL r.toInt] ++ rest).map (cv o) = Value.long r :: rest.map (cv o) from congrArg (fun z => Value.long z :: rest.map (cv o)) (of64 r)] at h
      exact h
    · refine va_calli (a := a) (key h0 h3) hS (fun q _ h => h) (fun q h => h) ?_
      intro r σ t H1 locs1 ht hvm hq hB hz hk hS1
      subst ht
      have h := kk [vI r.toInt] σ _ locs1 hq (fun v hv => by rw [List.mem_singleton.mp hv]; exact i32_in r) hB.2 hS1
      rw [show ([vI r.toInt] ++ rest).map (cv o) = Value.int r :: rest.map (cv o) from congrArg (fun z => Value.int z :: rest.map (cv o)) (of32 r)] at h
      exact h
theorem blind (o : OM) (av : List Value) (σ : Sto) : FrameBlind (va_Pc av (fun U => Wld o σ U)) := fun a U g mk h => ⟨h.1, Std_same h.2.1 rfl rfl, h.2.2⟩
theorem pre_at {o : OM} {s : State} {H : Heap} {locs : List Loc} {σ : Sto} (hst : Std o s) (hS : va_S (aA o) s.heap H locs) (hH : Hs o σ H) : ∀ U : State, U.heap = H → s.WarmedH U.vm → Wld o σ U := fun U hU hW => by
  subst hU
  exact ⟨Std_move hst hW hS, hH⟩
theorem recv_at {o : OM} {s : State} {H : Heap} {locs : List Loc} {σ : Sto} (hst : Std o s) (hS : va_S (aA o) s.heap H locs) (hH : Hs o σ H) {q ci : Nat} {C : String} (hq : shp q = (3, ci)) (hc : (∃ T N, vwCl[ci]? = some (C, T, N)) ∨ (ci = 20 ∧ C = "java/lang/String")) : ∃ cell : Cell, H[oA o q]? = some cell ∧ cell.vm.isStatics = false ∧ s.vm.findClass C = some cell.cls := by
  rcases hc with ⟨T, N, hc⟩ | ⟨rfl, rfl⟩
  · have hci : ci < 10 := (List.getElem?_eq_some_iff.mp hc).1
    have he := wsO_get o σ (shp_3 q _ hq hci)
    rw [cel_3 hq] at he
    exact va_recv hst.1 hH.1.1 hc he
  · have h6 := hst.2.2.2.2.2
    have key : ∀ a, va_O "java/lang/String" a (aA o) s s.heap → ∃ cell : Cell, H[a]? = some cell ∧ cell.vm.isStatics = false ∧ s.vm.findClass "java/lang/String" = some cell.cls := by
      intro a h
      obtain ⟨cell, h1, h2, h3, -⟩ := h.kept hS.2.1
      exact ⟨cell, h1, h2, h3⟩
    rcases shp_20 q hq with rfl | rfl
    · exact key _ h6.2.2.1.1
    · exact key _ h6.2.2.2.1.1
set_option maxHeartbeats 2000000 in
theorem callV_ok {o : OM} {Y Y' : Pk} {d d' ci idx na : Nat} {C : Ctr} (hS' : Sound o Y' d' C) (hd : d' + 1 ≤ d) (hw : calW Y')
    (hl : Cond.methodLink (yN Y).cls idx (yN Y') ∈ wsG ∨ ∃ host, Cond.methodLinkNest (yN Y).cls idx (yN Y') host ∈ nestW) (hin : Cond.instanceMethod (yN Y') ∈ wsG) (hsel : Cond.selects (yN Y').cls (yN Y') (yN Y') ∈ wsG)
    (hc : (∃ T N, vwCl[ci]? = some ((yN Y').cls, T, N)) ∨ (ci = 20 ∧ (yN Y').cls = "java/lang/String")) (hn : (parseMethodDescriptor (yN Y').desc).map (fun d => d.parameters.length + 1) = some na) :
    CallOK o Y d (.invokevirtual idx) (na, rcv ci (yL Y') C) := by
  intro Q p e R s m args below meth c cells slots Z C0 H locs ls pc A rest σ k hdec hH hS hls hA hrest hAn hcat hC kk
  obtain ⟨hx, hb, hml, hown, hts, hst, ⟨hR1, hR2, hR3, hR4⟩, hret⟩ := id C0
  obtain ⟨w1, w2, w3, w4, w5, w6⟩ := hw
  obtain ⟨c1, c2, c3⟩ := hC
  rcases A with _ | ⟨q | q | q | q, A⟩ <;> try exact False.elim c1
  have c1 : shp q = (3, ci) := c1
  have hM := met_of hS' w1 w2 hA c2 c3
  have hfr : (rm d').frames + 1 ≤ R.frames := Nat.le_trans (by simp [rm]; omega) hR1
  have hlo : 8 + (yL Y' + 11) + (rm d').locals ≤ R.locals := Nat.le_trans (by simp [rm]; omega) hR2
  have hpay := pay_in hts (good_Y w3)
  have hsig : ∀ sig, parseMethodDescriptor (yN Y').desc = some sig → A.length = sig.parameters.length := by
    intro sig h
    rw [h] at hn
    have hn : sig.parameters.length + 1 = na := by simpa using hn
    have : A.length + 1 = na := hAn
    omega
  have hpre : PreV s H (yN Y').cls (oA o q) (va_Pc ((vR q :: A).map (cv o)) (fun U => Wld o σ U)) (A.map (cv o)) := ⟨blind o _ σ, recv_at hst hS hH c1 hc, fun U hU hW => ⟨rfl, pre_at hst hS hH U hU hW⟩⟩
  have hstk : ((vR q :: A).reverse ++ rest).map (cv o) = (A.map (cv o)).reverse ++ .ref (oA o q) :: rest.map (cv o) := by simp [cv]
  have hwd : 2 * (F0 m pc ls (((vR q :: A).reverse ++ rest).map (cv o))).monitorRoom + ((rest.map (cv o)).map fun v => v.category).sum ≤ 8 := lv_room (Nat.le_trans (cat_sum o rest) hcat)
  rcases hl with hl | ⟨host, hl⟩
  · refine call_end (a := (Value.ref (oA o q) :: A.map (cv o)).toArray) w2 (va_runV (n := A.length) (C := (yN Y').cls) (bytes := yB Y') (maxL := yL Y') (ret := yR Y') ⟨hx, hb, hml, hown, hts⟩ hM ⟨⟨rfl, rfl, hfr, hlo, hpay, List.mem_cons_self, hts _ w3, hts _ w4, w5, hsig, hts _ hl⟩, hts _ hin, hts _ hsel⟩ hpre rfl (by simp) hls hstk hwd hdec ⟨hR3, hR4⟩) hS kk
  · refine call_end (a := (Value.ref (oA o q) :: A.map (cv o)).toArray) w2 (va_runVN (n := A.length) (C := (yN Y').cls) (host := host) (bytes := yB Y') (maxL := yL Y') (ret := yR Y') ⟨hx, hb, hml, hown, hts⟩ hM ⟨⟨⟨rfl, rfl, hfr, hlo, hpay, List.mem_cons_self⟩, hts _ w3, hts _ w4, w5, hsig, va_Nw.use rfl (hst.2.1 _ hl)⟩, hts _ hin, hts _ hsel⟩ hpre rfl (by simp) hls hstk hwd hdec ⟨hR3, hR4⟩) hS kk
set_option maxHeartbeats 2000000 in
theorem callS_ok {o : OM} {Y Y' : Pk} {d d' idx na : Nat} {C : Ctr} (hS' : Sound o Y' d' C) (hd : d' + 1 ≤ d) (hw : calW Y')
    (hl : Cond.methodLink (yN Y).cls idx (yN Y') ∈ wsG ∨ ∃ host, Cond.methodLinkNest (yN Y).cls idx (yN Y') host ∈ nestW) (hstt : Cond.static (yN Y') ∈ wsG)
    (hn : (parseMethodDescriptor (yN Y').desc).map (fun d => d.parameters.length) = some na) :
    CallOK o Y d (.invokestatic idx) (na, arg (yL Y') C) := by
  intro Q p e R s m args below meth c cells slots Z C0 H locs ls pc A rest σ k hdec hH hS hls hA hrest hAn hcat hC kk
  obtain ⟨hx, hb, hml, hown, hts, hst, ⟨hR1, hR2, hR3, hR4⟩, hret⟩ := id C0
  obtain ⟨w1, w2, w3, w4, w5, w6⟩ := hw
  obtain ⟨c2, c3⟩ := hC
  have hM := met_of hS' w1 w2 hA c2 c3
  have hfr : (rm d').frames + 1 ≤ R.frames := Nat.le_trans (by simp [rm]; omega) hR1
  have hlo : 8 + (yL Y' + 11) + (rm d').locals ≤ R.locals := Nat.le_trans (by simp [rm]; omega) hR2
  have hpay := pay_in hts (good_Y w3)
  have hsig : ∀ sig, parseMethodDescriptor (yN Y').desc = some sig → A.length = sig.parameters.length := by
    intro sig h
    rw [h] at hn
    have hn : sig.parameters.length = na := by simpa using hn
    have : A.length = na := hAn
    omega
  have hpre : PreS s H (va_Pc (A.map (cv o)) (fun U => Wld o σ U)) (A.map (cv o)) := ⟨blind o _ σ, fun U hU hW => ⟨rfl, pre_at hst hS hH U hU hW⟩⟩
  have hstk : (A.reverse ++ rest).map (cv o) = (A.map (cv o)).reverse ++ rest.map (cv o) := by simp
  have hwd : 2 * (F0 m pc ls ((A.reverse ++ rest).map (cv o))).monitorRoom + ((rest.map (cv o)).map fun v => v.category).sum ≤ 8 := lv_room (Nat.le_trans (cat_sum o rest) hcat)
  rcases hl with hl | ⟨host, hl⟩
  · refine call_end (a := (A.map (cv o)).toArray) w2 (va_runS (n := A.length) (bytes := yB Y') (maxL := yL Y') (ret := yR Y') ⟨hx, hb, hml, hown, hts⟩ hM ⟨⟨rfl, rfl, hfr, hlo, hpay, List.mem_cons_self, hts _ w3, hts _ w4, w5, hsig, hts _ hl⟩, hts _ hstt⟩ hpre rfl (by simp) hls hstk hwd hdec ⟨hR3, hR4⟩) hS kk
  · refine call_end (a := (A.map (cv o)).toArray) w2 (va_runSN (n := A.length) (host := host) (bytes := yB Y') (maxL := yL Y') (ret := yR Y') ⟨hx, hb, hml, hown, hts⟩ hM ⟨⟨⟨rfl, rfl, hfr, hlo, hpay, List.mem_cons_self⟩, hts _ w3, hts _ w4, w5, hsig, va_Nw.use rfl (hst.2.1 _ hl)⟩, hts _ hstt, trivial⟩ hpre rfl (by simp) hls hstk hwd hdec ⟨hR3, hR4⟩) hS kk
