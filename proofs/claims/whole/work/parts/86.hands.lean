-- ===== Arrays.fill on a fresh row, and the constructor of Hands =====
def flF (i : Nat) : Nat → Int32 := fun j => if j < i then -1 else 0
theorem flF_s {i : Nat} (hi : i < 35) : upd (flF i) (Int32.ofInt (i : Int)).toNatClampNeg (-1) = flF (i + 1) := by
  rw [clampI ⟨by omega, by omega⟩ (by omega), show ((i : Int)).toNat = i by omega]
  funext j
  unfold upd flF
  by_cases e : j = i
  · rw [if_pos e, if_pos (by omega)]
  · rw [if_neg e]
    by_cases e2 : j < i
    · rw [if_pos e2, if_pos (by omega)]
    · rw [if_neg e2, if_neg (by omega)]
theorem dfl_0 : decode cJ7_fill_53178 0 = .ok (.iconst 0, 1) := by decide +kernel
theorem dfl_1 : decode cJ7_fill_53178 1 = .ok (.istore_n 2, 1) := by decide +kernel
theorem dfl_2 : decode cJ7_fill_53178 2 = .ok (.aload_n 0, 1) := by decide +kernel
theorem dfl_3 : decode cJ7_fill_53178 3 = .ok (.arraylength, 1) := by decide +kernel
theorem dfl_4 : decode cJ7_fill_53178 4 = .ok (.istore_n 3, 1) := by decide +kernel
theorem dfl_5 : decode cJ7_fill_53178 5 = .ok (.iload_n 2, 1) := by decide +kernel
theorem dfl_6 : decode cJ7_fill_53178 6 = .ok (.iload_n 3, 1) := by decide +kernel
theorem dfl_7 : decode cJ7_fill_53178 7 = .ok (.if_icmp .ge 13, 3) := by decide +kernel
theorem dfl_10 : decode cJ7_fill_53178 10 = .ok (.aload_n 0, 1) := by decide +kernel
theorem dfl_11 : decode cJ7_fill_53178 11 = .ok (.iload_n 2, 1) := by decide +kernel
theorem dfl_12 : decode cJ7_fill_53178 12 = .ok (.iload_n 1, 1) := by decide +kernel
theorem dfl_13 : decode cJ7_fill_53178 13 = .ok (.iastore, 1) := by decide +kernel
theorem dfl_14 : decode cJ7_fill_53178 14 = .ok (.iinc 2 1, 3) := by decide +kernel
theorem dfl_17 : decode cJ7_fill_53178 17 = .ok (.goto (-12), 3) := by decide +kernel
theorem dfl_20 : decode cJ7_fill_53178 20 = .ok (.return_, 1) := by decide +kernel
section FLL
variable {p : Program} {l : Launch} {e : Env} {R : Room} {s : State} {m : MethodId} {args : Array Value} {below : List Frame} {meth : Method} {c : Code} {Z : State → Prop} {D : va_G} {A : Nat → Prop} {cI cZ cJ : ClassId} {a : Nat}
theorem fill_loop (hx : p.tables.exec = Jvm.exec) (hb : c.code = cJ7_fill_53178) (hK : va_K D vwCl (tyL cI cZ cJ) s)
    (kk : ∀ (H : Heap) (locs : List Loc) (ls : Array Slot), va_P D vwCl [(a, .inl (cI, 35, .inl (flF 35)))] H → va_D A [(a, .inl (cI, 35, .inl (flF 35)))] → va_S A s.heap H locs → W p l e R s m args below meth c H locs 0 0 Z (F0 m 20 ls [])) :
    ∀ (n i : Nat), i + n = 35 → ∀ (H : Heap) (locs : List Loc) (ls : Array Slot), va_P D vwCl [(a, .inl (cI, 35, .inl (flF i)))] H → va_D A [(a, .inl (cI, 35, .inl (flF i)))] → va_S A s.heap H locs → lv_has ls 4 [(0, .ref a), (1, .int (-1)), (2, .int (Int32.ofInt (i : Int))), (3, .int (Int32.ofInt 35))] → W p l e R s m args below meth c H locs 0 0 Z (F0 m 5 ls []) := by
  intro n
  induction n with
  | zero =>
    intro i hi H locs ls hP hD hS hl
    have e : i = 35 := by omega
    subst e
    refine lv_iload_n hx hb dfl_5 (i := 2) rfl (lv_at hl 2 rfl) ?_
    refine lv_iload_n hx hb dfl_6 (i := 3) rfl (lv_at hl 3 rfl) ?_
    refine lv_icmp_ge hx hb dfl_7 (tgt := 20) rfl (fun _ => kk H locs ls hP hD hS) (fun z => absurd (Int32.le_refl _) z)
  | succ n ih =>
    intro i hi H locs ls hP hD hS hl
    refine lv_iload_n hx hb dfl_5 (i := 2) rfl (lv_at hl 2 rfl) ?_
    refine lv_iload_n hx hb dfl_6 (i := 3) rfl (lv_at hl 3 rfl) ?_
    refine lv_icmp_ge hx hb dfl_7 (tgt := 20) rfl (fun z => absurd ((i32_le (a := 35) (b := (i : Int)) ⟨by omega, by omega⟩ ⟨by omega, by omega⟩).mp z) (by omega)) (fun _ => ?_)
    refine lv_aload_n hx hb dfl_10 (i := 0) rfl (lv_at hl 0 rfl) ?_
    refine lv_iload_n hx hb dfl_11 (i := 2) rfl (lv_at hl 2 rfl) ?_
    refine lv_iload_n hx hb dfl_12 (i := 1) rfl (lv_at hl 1 rfl) ?_
    refine va_iast hx hb hK hP hD hS 0 0 rfl rfl (in_vp (i := (i : Int)) ⟨by omega, by omega⟩ (by omega) (by omega)) dfl_13 (fun H1 locs1 hP1 hD1 hS1 => ?_)
    have hP1 : va_P D vwCl [(a, .inl (cI, 35, .inl (upd (flF i) (Int32.ofInt (i : Int)).toNatClampNeg (-1))))] H1 := hP1
    have hD1 : va_D A [(a, .inl (cI, 35, .inl (upd (flF i) (Int32.ofInt (i : Int)).toNatClampNeg (-1))))] := hD1
    rw [flF_s (by omega)] at hP1 hD1
    refine lv_iinc (k := 2) (v := Int32.ofInt ((i + 1 : Nat) : Int)) hx hb dfl_14 hl rfl (Int32.ofInt_add (i : Int) 1).symm (by decide) rfl (fun ls' hl' => ?_)
    refine lv_goto hx hb dfl_17 (tgt := 5) rfl ?_
    exact ih (i + 1) (by omega) H1 locs1 ls' hP1 hD1 hS1 (lv_sub hl' [1, 2, 0, 3] rfl)
end FLL
theorem m_fill (l : Launch) (D : va_G) (cI cZ cJ : ClassId) (a sz : Nat) : Met l yJ7_fill_53178 (wsY Y_J7_fill_53178) ({ frames := 1, cells := 0, slots := 0, locals := 50 }) (va_Pc [.ref a, .int (-1)] (fun U => U.heap.size = sz ∧ va_P D vwCl [(a, .inl (cI, 35, .inl (fun _ => 0)))] U.heap ∧ va_K D vwCl (tyL cI cZ cJ) U ∧ va_D (fun _ => True) [(a, .inl (cI, 35, .inl (fun _ => 0)))])) (va_Qv (fun _ : Unit => True) (fun _ t => va_P D vwCl [(a, .inl (cI, 35, .inl (flF 35)))] t.heap ∧ va_D (va_A [(a, .inl (cI, 35, .inl (fun _ => 0)))] sz) [(a, .inl (cI, 35, .inl (flF 35)))]) (va_A [(a, .inl (cI, 35, .inl (fun _ => 0)))] sz)) 0 0 (va_A [(a, .inl (cI, 35, .inl (fun _ => 0)))] sz) := by
  refine Met.ofW (cc := cJ7_fill_53178) (maxL := 4) (ret := none) (by decide +kernel) rfl ?_
  intro p e s m args below meth c s₁ B hml hv
  obtain ⟨rfl, hsz, hP, hK, hD0⟩ := hv
  subst hsz
  have hx := B.exec
  have hb := B.bytes
  have hr' := B.returns
  have hlocks := B.notSynchronized
  have hD := hD0.self (sz := s.heap.size)
  have hl := lv_entry [Value.ref a, .int (-1)] (n := 4) (Nat.le_of_ble_eq_true rfl)
  rw [lg_entry_eq]
  generalize (lg_sl [Value.ref a, .int (-1)] ++ List.replicate (4 - (lg_sl [Value.ref a, .int (-1)]).length) Slot.unset).toArray = ls at hl ⊢
  have hl : lv_has ls 4 [(0, .ref a), (1, .int (-1))] := hl
  refine lv_iconst (v := 0) hx hb dfl_0 (by decide) ?_
  refine lv_istore_n (lv' := [(2, .int 0), (0, .ref a), (1, .int (-1))]) hx hb dfl_1 rfl hl (by decide) rfl (fun ls hl => ?_)
  refine lv_aload_n hx hb dfl_2 (i := 0) rfl (lv_at hl 1 rfl) ?_
  refine va_alen hx hb hK hP 0 0 rfl rfl (v := Int32.ofInt 35) rfl dfl_3 ?_
  refine lv_istore_n (lv' := [(3, .int (Int32.ofInt 35)), (2, .int 0), (0, .ref a), (1, .int (-1))]) hx hb dfl_4 rfl hl (by decide) rfl (fun ls hl => ?_)
  refine fill_loop (a := a) (cI := cI) (cZ := cZ) (cJ := cJ) (D := D) (A := va_A [(a, .inl (cI, 35, .inl (fun _ => 0)))] s.heap.size) hx hb hK (fun H locs ls' hP1 hD1 hS1 => ?_) 35 0 rfl s.heap [] ls hP hD va_S.rf (lv_sub hl [2, 3, 1, 0] rfl)
  exact W.vret hx hb hr' (fun t ht hW => ⟨⟨(), rfl, trivial, by rw [ht]; exact hP1, hD1⟩, hS1.F ht⟩) hS1.2.2 dfl_20

