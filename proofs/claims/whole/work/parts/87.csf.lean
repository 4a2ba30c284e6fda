-- ===== the call of fill in a constructor =====
section CSF
variable {p : Program} {l : Launch} {e : Env} {R : Room} {s : State} {m : MethodId} {args : Array Value} {below : List Frame} {meth : Method} {c : Code} {Z : State → Prop} {D : va_G} {A : Nat → Prop} {ls : Array Slot} {cI cZ cJ : ClassId} {cc : ByteArray} {own : String} {ws : va_W} {cells slots pc : Nat} {st : List Value}
theorem cs_fill (C : CC p s m args c D A cI cZ cJ cc own) (hml : c.maxLocals = ls.size) {idx q : Nat} (hl : Cond.methodLink own idx yJ7_fill_53178 ∈ wsG) (h4 : Cond.static yJ7_fill_53178 ∈ wsG) (hfr : 2 ≤ R.frames) (hlo : 73 ≤ R.locals) (hcat : (st.map fun v => v.category).sum ≤ 8) (hcl : cells + 0 ≤ R.cells) (hsl : slots + 0 ≤ R.slots) (hd : decode cc pc = .ok (.invokestatic idx, 3))
    (kk : CS p l e R s m args below meth c Z D A ls (ws ++ [(q, .inl (cI, 35, .inl (flF 35)))]) cells slots (pc + 3) st) : CS p l e R s m args below meth c Z D A ls (ws ++ [(q, .inl (cI, 35, .inl (fun _ => 0)))]) cells slots pc (.int (-1) :: .ref q :: st) := by
  intro H locs hP hD hS
  obtain ⟨hx, hb, hown, hts, hK, hA, hNw, hAO⟩ := C
  obtain ⟨-, -, h1, h2, h3, -⟩ := cw_J7_fill_53178
  generalize hce : (.inl (cI, 35, .inl (fun _ => 0)) : va_E) = ce at hP hD
  have hC : [ws.length].map (fun i => (ws ++ [(q, ce)])[i]?) = [(q, ce)].map some := by simp
  have hR : (List.range ws.length).map (fun i => (ws ++ [(q, ce)])[i]?) = ws.map some := by
    apply List.ext_getElem?
    intro k
    rw [List.getElem?_map, List.getElem?_map]
    by_cases hk : k < ws.length
    · rw [List.getElem?_range hk]
      show some ((ws ++ [(q, ce)])[k]?) = Option.map some ws[k]?
      rw [List.getElem?_append_left hk, List.getElem?_eq_getElem hk]
      rfl
    · rw [List.getElem?_eq_none (by simp; omega), List.getElem?_eq_none (by omega)]
      rfl
  have hPc := hP.sub (ws' := [(q, ce)]) [ws.length] (by simp)
  have hDc := hD.sub (ws' := [(q, ce)]) [ws.length] (by rfl) (by simp)
  have hFc := va_free (wc := [(q, ce)]) hD hS hA [ws.length] hC
  have hsig : ∀ sig, parseMethodDescriptor yJ7_fill_53178.desc = some sig → ([Value.ref q, .int (-1)] : List Value).length = sig.parameters.length := by
    intro sig h
    have hn : (parseMethodDescriptor yJ7_fill_53178.desc).map (fun d => d.parameters.length) = some 2 := by decide +kernel
    rw [h] at hn
    exact (Option.some.inj hn).symm
  have hpay := pay_in hts (good_Y h1)
  have hpre : PreS s H (va_Pc [.ref q, .int (-1)] (fun U => U.heap.size = H.size ∧ va_P D vwCl [(q, ce)] U.heap ∧ va_K D vwCl (tyL cI cZ cJ) U ∧ va_D (fun _ => True) [(q, ce)])) [.ref q, .int (-1)] :=
    ⟨fun a U g mk z => by
      obtain ⟨q0, q1, qP, qK, qD⟩ := z
      exact ⟨q0, q1, qP, va_K.moved (u := U) (U := U.calling g mk a) (Vm.Alike.refl U.vm) qK, qD⟩,
    fun U hU hW => ⟨rfl, by rw [hU], by rw [hU]; exact hPc, va_K.moved hW.alike hK, hDc.weaken (fun _ _ _ _ => trivial)⟩⟩
  have hwd : 2 * (F0 m pc ls (.int (-1) :: .ref q :: st)).monitorRoom + (st.map fun v => v.category).sum ≤ 8 := lv_room hcat
  have hM := m_fill l D cI cZ cJ q H.size
  rw [hce] at hM
  refine va_callv (va_runS (n := 2) (As := [.ref q, .int (-1)]) (rest := st) (bytes := cJ7_fill_53178) (maxL := 4) (ret := none) ⟨hx, hb, hml, hown, hts⟩ hM ⟨⟨rfl, rfl, hfr, hlo, hpay, List.mem_cons_self, hts _ h1, hts _ h2, h3, hsig, hts _ hl⟩, hts _ h4⟩ hpre rfl rfl rfl rfl hwd hd ⟨hcl, hsl⟩) hS (fun q _ h => hFc q h) hFc ?_
  intro u t H1 locs1 ht hvm _ hB hz hk hS1
  obtain ⟨hP1, hD1⟩ := hB
  rw [ht] at hP1
  obtain ⟨hP2, hD2⟩ := va_join (wr := ws) (w1 := [(q, .inl (cI, 35, .inl (flF 35)))]) hP hD [ws.length] (List.range ws.length) hC hR (nd_range _) (fun i hi hj => by
    have := List.mem_range.mp hi
    rw [List.mem_singleton.mp hj] at this
    omega) hk hFc hP1 hD1
  exact kk H1 locs1 hP2 hD2 hS1
end CSF

