-- ===== whole_start (printed by wip/tools: see NOTES) =====
theorem w_20 : (Jvm.Cond.classLink "LeavesOfMudLaw" (7 : Nat) "LeavesOfMud") ∈ wsG := wsG_mem (List.mem_append_right _ (tm1 (List.mem_of_getElem? (i := 20) rfl))) rfl
theorem w_21 : (Jvm.Cond.instantiable "LeavesOfMud" (13 : Nat)) ∈ wsG := wsG_mem (List.mem_append_right _ (tm1 (List.mem_of_getElem? (i := 21) rfl))) rfl
theorem w_24 : (Jvm.Cond.code ({ cls := "LeavesOfMud", name := "<init>", desc := "()V" } : Jvm.MethodName) prog_1_method_1_code (1 : Nat) (Option.none : Option Jvm.ClassFile.FieldType)) ∈ wsG := wsG_mem (List.mem_append_right _ (tm1 (List.mem_of_getElem? (i := 24) rfl))) rfl
theorem w_23 : (Jvm.Cond.instanceMethod ({ cls := "LeavesOfMud", name := "<init>", desc := "()V" } : Jvm.MethodName)) ∈ wsG := wsG_mem (List.mem_append_right _ (tm1 (List.mem_of_getElem? (i := 23) rfl))) rfl
theorem w_22 : (Jvm.Cond.methodLink "LeavesOfMudLaw" (9 : Nat) ({ cls := "LeavesOfMud", name := "<init>", desc := "()V" } : Jvm.MethodName)) ∈ wsG := wsG_mem (List.mem_append_right _ (tm1 (List.mem_of_getElem? (i := 22) rfl))) rfl
theorem w_1082 : (Jvm.Cond.classLink "LeavesOfMudLaw" (10 : Nat) "LeavesOfMudModel") ∈ wsG := wsG_mem (List.mem_append_right _ (tm5 (List.mem_of_getElem? (i := 122) rfl))) rfl
theorem w_1083 : (Jvm.Cond.instantiable "LeavesOfMudModel" (55 : Nat)) ∈ wsG := wsG_mem (List.mem_append_right _ (tm5 (List.mem_of_getElem? (i := 123) rfl))) rfl
theorem w_1086 : (Jvm.Cond.code ({ cls := "LeavesOfMudModel", name := "<init>", desc := "()V" } : Jvm.MethodName) prog_11_method_1_code (1 : Nat) (Option.none : Option Jvm.ClassFile.FieldType)) ∈ wsG := wsG_mem (List.mem_append_right _ (tm5 (List.mem_of_getElem? (i := 126) rfl))) rfl
theorem w_1085 : (Jvm.Cond.instanceMethod ({ cls := "LeavesOfMudModel", name := "<init>", desc := "()V" } : Jvm.MethodName)) ∈ wsG := wsG_mem (List.mem_append_right _ (tm5 (List.mem_of_getElem? (i := 125) rfl))) rfl
theorem w_1084 : (Jvm.Cond.methodLink "LeavesOfMudLaw" (12 : Nat) ({ cls := "LeavesOfMudModel", name := "<init>", desc := "()V" } : Jvm.MethodName)) ∈ wsG := wsG_mem (List.mem_append_right _ (tm5 (List.mem_of_getElem? (i := 124) rfl))) rfl
theorem dlw_0 : decode code 0 = .ok (.new 7, 3) := by decide +kernel
theorem dlw_3 : decode code 3 = .ok (.dup, 1) := by decide +kernel
theorem dlw_4 : decode code 4 = .ok (.invokespecial 9, 3) := by decide +kernel
theorem dlw_7 : decode code 7 = .ok (.astore_n 1, 1) := by decide +kernel
theorem dlw_8 : decode code 8 = .ok (.new 10, 3) := by decide +kernel
theorem dlw_11 : decode code 11 = .ok (.dup, 1) := by decide +kernel
theorem dlw_12 : decode code 12 = .ok (.invokespecial 12, 3) := by decide +kernel
theorem dlw_15 : decode code 15 = .ok (.astore_n 2, 1) := by decide +kernel
theorem dlw_16 : decode code 16 = .ok (.iconst 0, 1) := by decide +kernel
theorem dlw_17 : decode code 17 = .ok (.istore_n 3, 1) := by decide +kernel
theorem pdX8 : (parseMethodDescriptor (yN Y_X8_init).desc).map (fun d => d.parameters.length) = some 0 := by decide +kernel
theorem pdX9 : (parseMethodDescriptor (yN Y_X9_init).desc).map (fun d => d.parameters.length) = some 0 := by decide +kernel
section CSA
variable {p : Program} {l : Launch} {e : Env} {R : Room} {s : State} {m : MethodId} {args : Array Value} {below : List Frame} {meth : Method} {c : Code} {Z : State → Prop} {D : va_G} {A : Nat → Prop} {ls : Array Slot} {cI cZ cJ : ClassId} {cc : ByteArray} {own : String} {ws : va_W} {cells slots pc : Nat} {st : List Value}
theorem cs_ast (C : CC p s m args c D A cI cZ cJ cc own) {k : Fin 4} {i nL x : Nat} {lv lv' : List (Nat × Value)} (hd : decode cc pc = .ok (.astore_n k, 1)) (hi : (k : Nat) = i) (h : lv_has ls nL lv) (hn : i < nL) (hl : (i, Value.ref x) :: lv.filter (fun q => !(q.1 == i) && !(q.1 + 1 == i && q.2.category == 2)) = lv') (kk : ∀ ls' : Array Slot, lv_has ls' nL lv' → CS p l e R s m args below meth c Z D A ls' ws cells slots (pc + 1) st) : CS p l e R s m args below meth c Z D A ls ws cells slots pc (.ref x :: st) :=
  fun H locs hP hD hS => lv_astore_n C.1 C.2.1 hd hi h hn hl (fun ls' h' => kk ls' h' H locs hP hD hS)
theorem cs_ist (C : CC p s m args c D A cI cZ cJ cc own) {k : Fin 4} {i nL : Nat} {x : Int32} {lv lv' : List (Nat × Value)} (hd : decode cc pc = .ok (.istore_n k, 1)) (hi : (k : Nat) = i) (h : lv_has ls nL lv) (hn : i < nL) (hl : (i, Value.int x) :: lv.filter (fun q => !(q.1 == i) && !(q.1 + 1 == i && q.2.category == 2)) = lv') (kk : ∀ ls' : Array Slot, lv_has ls' nL lv' → CS p l e R s m args below meth c Z D A ls' ws cells slots (pc + 1) st) : CS p l e R s m args below meth c Z D A ls ws cells slots pc (.int x :: st) :=
  fun H locs hP hD hS => lv_istore_n C.1 C.2.1 hd hi h hn hl (fun ls' h' => kk ls' h' H locs hP hD hS)
end CSA
set_option maxHeartbeats 4000000 in
set_option maxRecDepth 100000 in
theorem whole_start {p : Program} {e : Env} {s : State} {m : MethodId} {below : List Frame} {meth : Method} {c : Code} (l : Launch) {b L : Nat} {xs : Nat → Int32} (hL : L ≤ 3072) (C0 : lw_At p s m meth c b L xs) : W p l e room_1 s m #[Value.ref b] below meth c s.heap [] 0 0 (lw_Z below #[Value.ref b] s) (entryFrame m ([Value.ref b] : List Value).toArray 4) := by
  obtain ⟨hx, hb, hr, hml, hown, hts, hX, hbl, hlocks, hgv⟩ := id C0
  obtain ⟨t, hst⟩ := start_stat hts hgv
  obtain ⟨kS, vS, hsr⟩ := start_str hts hgv
  obtain ⟨D, cI, cZ, cJ, hK, hNw, hAO⟩ := start_cls hts
  have hG : ∀ w ∈ wsG, w.before #[Value.ref b] s = true := fun w h => hts w (wsG_tbl h)
  have C : CC p s m #[Value.ref b] c D (A0 s) cI cZ cJ code R_law := ⟨hx, hb, hown, hG, hK, fun q h => h, hNw, hAO⟩
  have hl := lv_entry ([.ref b]) (n := 4) (Nat.le_of_ble_eq_true rfl)
  rw [lg_entry_eq]
  generalize (lg_sl ([.ref b]) ++ List.replicate (4 - (lg_sl ([.ref b])).length) Slot.unset).toArray = ls at hl ⊢
  have hl : lv_has ls 4 [(0, .ref b)] := hl
  have hls : c.maxLocals = ls.size := by rw [hml]; exact hl.1.symm
  have key : CS p l e room_1 s m #[Value.ref b] below meth c (lw_Z below #[Value.ref b] s) D (A0 s) ls [] 0 0 0 [] := by
    refine cs_new C (Cn := RX8) (T := TX8) (N := 13) (ci := 8) (ty0 := tyX8) inW8 tyX8_ok rfl w_20 w_21 w_1 (fs := [.null, .null, .null, .null, .int 0, .null, .null, .null, .null, .null, .null, .int 0, .int 0]) dfX8 (Nat.le_of_ble_eq_true rfl) (Nat.le_of_ble_eq_true rfl) dlw_0 (fun x => ?_)
    refine cs_cast (ws' := [] ++ [(x, .inr (8, [.null, .null, .null, .null, .int 0, .null, .null, .null, .null, .null, .null, .int 0, .int 0]))]) (cells' := 1) (slots' := 13) (pc' := 3) rfl rfl rfl rfl ?_
    refine cs_dup C dlw_3 ?_
    refine cs_call (na := 0) C hls (n_X8 l D cI cZ cJ x) rfl rfl w_24 w_1 ⟨by decide +kernel, by decide +kernel⟩ w_23 (Or.inl w_22) pdX8 (Nat.le_of_ble_eq_true rfl) (Nat.le_of_ble_eq_true rfl) (Nat.le_of_ble_eq_true rfl) (Nat.le_of_ble_eq_true rfl) (Nat.le_of_ble_eq_true rfl) dlw_4 rfl (fun z => ?_)
    refine cs_cast (ws' := o_X8 cI cZ cJ x z) (cells' := 67) (slots' := 2849) (pc' := 7) rfl rfl rfl rfl ?_
    refine cs_ast (lv' := [(1, .ref x), (0, .ref b)]) C dlw_7 (i := 1) rfl hl (by decide) rfl (fun ls hl => ?_)
    have hls : c.maxLocals = ls.size := by rw [hml]; exact hl.1.symm
    refine cs_new C (Cn := RX9) (T := TX9) (N := 55) (ci := 9) (ty0 := tyX9) inW9 tyX9_ok rfl w_1082 w_1083 w_11 (fs := [.int 0, .null, .null, .null, .null, .null, .int 0, .null, .int 0, .int 0, .null, .int 0, .null, .null, .int 0, .int 0, .int 0, .null, .null, .int 0, .int 0, .int 0, .int 0, .int 0, .int 0, .int 0, .int 0, .null, .int 0, .null, .null, .int 0, .int 0, .null, .null, .null, .null, .null, .null, .null, .null, .null, .int 0, .null, .null, .int 0, .int 0, .int 0, .int 0, .null, .null, .null, .null, .null, .long 0]) dfX9 (Nat.le_of_ble_eq_true rfl) (Nat.le_of_ble_eq_true rfl) dlw_8 (fun mm => ?_)
    refine cs_cast (ws' := o_X8 cI cZ cJ x z ++ [(mm, .inr (9, [.int 0, .null, .null, .null, .null, .null, .int 0, .null, .int 0, .int 0, .null, .int 0, .null, .null, .int 0, .int 0, .int 0, .null, .null, .int 0, .int 0, .int 0, .int 0, .int 0, .int 0, .int 0, .int 0, .null, .int 0, .null, .null, .int 0, .int 0, .null, .null, .null, .null, .null, .null, .null, .null, .null, .int 0, .null, .null, .int 0, .int 0, .int 0, .int 0, .null, .null, .null, .null, .null, .long 0]))]) (cells' := 68) (slots' := 2904) (pc' := 11) rfl rfl rfl rfl ?_
    refine cs_dup C dlw_11 ?_
    refine cs_call (na := 0) C hls (n_X9 l D cI cZ cJ mm) rfl rfl w_1086 w_11 ⟨by decide +kernel, by decide +kernel⟩ w_1085 (Or.inl w_1084) pdX9 (Nat.le_of_ble_eq_true rfl) (Nat.le_of_ble_eq_true rfl) (Nat.le_of_ble_eq_true rfl) (Nat.le_of_ble_eq_true rfl) (Nat.le_of_ble_eq_true rfl) dlw_12 rfl (fun y => ?_)
    refine cs_cast (ws' := wsF cI cZ cJ x mm z y) (cells' := 98) (slots' := 4584) (pc' := 15) rfl rfl rfl rfl ?_
    refine cs_ast (lv' := [(2, .ref mm), (1, .ref x), (0, .ref b)]) C dlw_15 (i := 2) rfl hl (by decide) rfl (fun ls hl => ?_)
    refine cs_ic (v := 0) C dlw_16 (by decide) ?_
    refine cs_ist (lv' := [(3, .int 0), (2, .ref mm), (1, .ref x), (0, .ref b)]) C dlw_17 (i := 3) rfl hl (by decide) rfl (fun ls hl => ?_)
    intro H locs hP hD hS
    exact law_run l hL C0 hK hNw hst hsr hP hD hS hl
  exact key s.heap [] (fun k q h => by simp at h) ⟨fun i j p q h => by simp at h, fun k q h => by simp at h⟩ va_S.rf
