-- ===== instructions resolved, what one asks, what a block asks =====
/-- a method's tables: fields, int constants, long constants, references, virtual calls, static calls; and how many locals -/
abbrev Tb : Type := List (Nat × Nat) × List (Nat × Int) × List (Nat × Int) × List (Nat × Nat) × List (Nat × Nat) × List (Nat × Nat) × Nat
def tF (T : Tb) : List (Nat × Nat) := T.1
def tI (T : Tb) : List (Nat × Int) := T.2.1
def tJ (T : Tb) : List (Nat × Int) := T.2.2.1
def tR (T : Tb) : List (Nat × Nat) := T.2.2.2.1
def tV (T : Tb) : List (Nat × Nat) := T.2.2.2.2.1
def tS (T : Tb) : List (Nat × Nat) := T.2.2.2.2.2.1
def tM (T : Tb) : Nat := T.2.2.2.2.2.2
def grd {α : Type} (b : Bool) (x : Option α) : Option α := if b = true then x else none
def abso (pc : Nat) (o : Int) : Int := (pc : Int) + o
def rz (T : Tb) (pc n : Nat) : Instr → Option Instr
  | .iconst v => grd (n == 1 && decide (-1 ≤ v) && decide (v ≤ 5)) (some (.iconst v))
  | .bipush v => grd (n == 2 && decide (-128 ≤ v) && decide (v ≤ 127)) (some (.iconst v))
  | .sipush v => grd (n == 3 && decide (-32768 ≤ v) && decide (v ≤ 32767)) (some (.iconst v))
  | .ldc i => grd (n == 2) (match look (tI T) i with
    | some v => some (.iconst v)
    | none => match look (tR T) i with
      | some q => grd (q == 103 || q == 104) (some (.anewarray q))
      | none => none)
  | .ldc_w i => grd (n == 3) ((look (tI T) i).map .iconst)
  | .ldc2_w i => grd (n == 3) ((look (tJ T) i).map .jsr)
  | .lconst v => grd (n == 1) (some (.jsr v.val))
  | .getstatic i => grd (n == 3) (match look (tR T) i with
    | some q => if q = 999 then some (.iconst 1) else grd (!(q == 103 || q == 104)) (some (.anewarray q))
    | none => none)
  | .iload_n v => grd (n == 1) (some (.iload v.val))
  | .lload_n v => grd (n == 1) (some (.lload v.val))
  | .aload_n v => grd (n == 1) (some (.aload v.val))
  | .iload v => grd (n == 2) (some (.iload v))
  | .lload v => grd (n == 2) (some (.lload v))
  | .aload v => grd (n == 2) (some (.aload v))
  | .istore_n v => grd (n == 1 && decide (v.val < tM T)) (some (.istore v.val))
  | .lstore_n v => grd (n == 1 && decide (v.val + 1 < tM T)) (some (.lstore v.val))
  | .astore_n v => grd (n == 1 && decide (v.val < tM T)) (some (.astore v.val))
  | .istore v => grd (n == 2 && decide (v < tM T)) (some (.istore v))
  | .lstore v => grd (n == 2 && decide (v + 1 < tM T)) (some (.lstore v))
  | .astore v => grd (n == 2 && decide (v < tM T)) (some (.astore v))
  | .iinc v c => grd (n == 3 && decide (v < tM T)) (some (.iinc v c))
  | .getfield i => grd (n == 3) ((look (tF T) i).map .getfield)
  | .putfield i => grd (n == 3) ((look (tF T) i).map .putfield)
  | .invokevirtual i => grd (n == 3) ((look (tV T) i).map .invokestatic)
  | .invokestatic i => grd (n == 3) ((look (tS T) i).map .invokestatic)
  | .goto o => grd (n == 3 && decide (0 ≤ abso pc o)) (some (.goto (abso pc o)))
  | .if_icmp c o => grd (n == 3 && decide (0 ≤ abso pc o)) (some (.if_icmp c (abso pc o)))
  | .ifCond c o => grd (n == 3 && decide (0 ≤ abso pc o)) (some (.ifCond c (abso pc o)))
  | .tableswitch d lo hi os => grd (decide (0 ≤ abso pc d) && os.toList.all (fun o => decide (0 ≤ abso pc o)) && decide (hi + 1 = lo + os.toList.length)) (some (.tableswitch (abso pc d) lo hi (os.toList.map (abso pc)).toArray))
  | .iadd => grd (n == 1) (some .iadd)
  | .isub => grd (n == 1) (some .isub)
  | .imul => grd (n == 1) (some .imul)
  | .ineg => grd (n == 1) (some .ineg)
  | .idiv => grd (n == 1) (some .idiv)
  | .irem => grd (n == 1) (some .irem)
  | .iand => grd (n == 1) (some .iand)
  | .ior => grd (n == 1) (some .ior)
  | .ixor => grd (n == 1) (some .ixor)
  | .ishl => grd (n == 1) (some .ishl)
  | .ishr => grd (n == 1) (some .ishr)
  | .iushr => grd (n == 1) (some .iushr)
  | .ladd => grd (n == 1) (some .ladd)
  | .lmul => grd (n == 1) (some .lmul)
  | .ldiv => grd (n == 1) (some .ldiv)
  | .lrem => grd (n == 1) (some .lrem)
  | .land => grd (n == 1) (some .land)
  | .lor => grd (n == 1) (some .lor)
  | .lshl => grd (n == 1) (some .lshl)
  | .lushr => grd (n == 1) (some .lushr)
  | .lcmp => grd (n == 1) (some .lcmp)
  | .i2l => grd (n == 1) (some .i2l)
  | .l2i => grd (n == 1) (some .l2i)
  | .i2c => grd (n == 1) (some .i2c)
  | .i2b => grd (n == 1) (some .i2b)
  | .dup => grd (n == 1) (some .dup)
  | .dup2 => grd (n == 1) (some .dup2)
  | .pop => grd (n == 1) (some .pop)
  | .iaload => grd (n == 1) (some .iaload)
  | .baload => grd (n == 1) (some .baload)
  | .aaload => grd (n == 1) (some .aaload)
  | .iastore => grd (n == 1) (some .iastore)
  | .bastore => grd (n == 1) (some .bastore)
  | .arraylength => grd (n == 1) (some .arraylength)
  | .ireturn => grd (n == 1) (some .ireturn)
  | .lreturn => grd (n == 1) (some .lreturn)
  | .return_ => grd (n == 1) (some .return_)
  | _ => none
def chk (T : Tb) (cc : ByteArray) (f : Nat) : List Instr → Nat → Bool
  | [], pc => pc == f
  | i :: r, pc => match decode cc pc with
    | .ok (j, n) => decide (rz T pc n j = some i) && chk T cc f r (pc + n)
    | _ => false
/-- the comparison of a branch -/
def cmpI (c : ClassFile.Cond) (a b : Int) : Prop := match c with
  | .eq => a = b
  | .ne => ¬ a = b
  | .lt => a < b
  | .ge => b ≤ a
  | .gt => b < a
  | .le => a ≤ b
/-- a field's value: the code says class, slot, kind -/
def rdF (c q : Nat) (σ : Sto) : AV := match c % 10 with
  | 1 => vL (σ q ((c / 10 % 100 : Nat) : Int))
  | 2 => vR (rfs q (c / 10 % 100))
  | _ => vI (σ q ((c / 10 % 100 : Nat) : Int))
def dCa : Nat × Ctr := (0, fun _ _ _ => False)
def ald (kd : Nat) (P0 P4 P5 : Prop) : Prop := match kd with
  | 0 => P0
  | 4 => P4
  | 5 => P5
  | _ => False
def bld (kd : Nat) (P1 P7 : Prop) : Prop := match kd with
  | 1 => P1
  | 7 => P7
  | _ => False
def aln (kd : Nat) (P0 P5 : Prop) : Prop := match kd with
  | 0 => P0
  | 7 => P0
  | 5 => P5
  | _ => False
theorem ald_c {kd : Nat} {P0 P4 P5 : Prop} (h : ald kd P0 P4 P5) : (kd = 0 ∧ P0) ∨ (kd = 4 ∧ P4) ∨ (kd = 5 ∧ P5) := by
  unfold ald at h
  split at h
  · exact Or.inl ⟨rfl, h⟩
  · exact Or.inr (Or.inl ⟨rfl, h⟩)
  · exact Or.inr (Or.inr ⟨rfl, h⟩)
  · exact h.elim
theorem bld_c {kd : Nat} {P1 P7 : Prop} (h : bld kd P1 P7) : (kd = 1 ∧ P1) ∨ (kd = 7 ∧ P7) := by
  unfold bld at h
  split at h
  · exact Or.inl ⟨rfl, h⟩
  · exact Or.inr ⟨rfl, h⟩
  · exact h.elim
theorem aln_c {kd : Nat} {P0 P5 : Prop} (h : aln kd P0 P5) : (kd = 0 ∧ P0) ∨ (kd = 7 ∧ P0) ∨ (kd = 5 ∧ P5) := by
  unfold aln at h
  split at h
  · exact Or.inl ⟨rfl, h⟩
  · exact Or.inr (Or.inl ⟨rfl, h⟩)
  · exact Or.inr (Or.inr ⟨rfl, h⟩)
  · exact h.elim
def step (ca : List (Nat × Ctr)) (lv : List (Nat × Nat)) (rt : Nat) (K : Nat → List AV → List AV → Sto → Prop) (Q : List AV → Sto → Prop) (i : Instr) (S L : List AV) (σ : Sto) (k : List AV → List AV → Sto → Prop) : Prop := match i with
  | .iconst n => k (vI n :: S) L σ
  | .jsr n => k (vL n :: S) L σ
  | .anewarray q => k (vR q :: S) L σ
  | .iload n => match nth L n with
    | .inl x => k (vI x :: S) L σ
    | _ => False
  | .lload n => match nth L n with
    | .inr (.inl x) => k (vL x :: S) L σ
    | _ => False
  | .aload n => match nth L n with
    | .inr (.inr (.inl x)) => k (vR x :: S) L σ
    | _ => False
  | .istore n => match S with
    | .inl x :: S => canSet L n = true ∧ k S (setL L n (vI x)) σ
    | _ => False
  | .lstore n => match S with
    | .inr (.inl x) :: S => canSet L n = true ∧ k S (setL (setL L n (vL x)) (n + 1) vX) σ
    | _ => False
  | .astore n => match S with
    | .inr (.inr (.inl x)) :: S => canSet L n = true ∧ k S (setL L n (vR x)) σ
    | _ => False
  | .iinc n c => match nth L n with
    | .inl x => canSet L n = true ∧ i32 (x + c) ∧ k S (setL L n (vI (x + c))) σ
    | _ => False
  | .getfield c => match S with
    | .inr (.inr (.inl q)) :: S => shp q = (3, c / 1000) ∧ k (rdF c q σ :: S) L σ
    | _ => False
  | .putfield c => match c % 10, S with
    | 0, .inl x :: .inr (.inr (.inl q)) :: S => shp q = (3, c / 1000) ∧ k S L (su σ q ((c / 10 % 100 : Nat) : Int) x)
    | 1, .inr (.inl x) :: .inr (.inr (.inl q)) :: S => shp q = (3, c / 1000) ∧ k S L (su σ q ((c / 10 % 100 : Nat) : Int) x)
    | 3, .inl x :: .inr (.inr (.inl q)) :: S => shp q = (3, c / 1000) ∧ (x = 0 ∨ x = 1) ∧ k S L (su σ q ((c / 10 % 100 : Nat) : Int) x)
    | _, _ => False
  | .invokestatic c => (tbl dCa ca c).1 ≤ S.length ∧ catS (S.drop (tbl dCa ca c).1) ≤ 8 ∧ (tbl dCa ca c).2 (S.take (tbl dCa ca c).1).reverse σ (fun r σ => k (r ++ S.drop (tbl dCa ca c).1) L σ)
  | .goto t => K t.toNat S (tk lv t.toNat L) σ
  | .if_icmp c t => match S with
    | .inl b :: .inl a :: S => (cmpI c a b → K t.toNat S (tk lv t.toNat L) σ) ∧ (¬ cmpI c a b → k S L σ)
    | _ => False
  | .ifCond c t => match S with
    | .inl a :: S => (cmpI c a 0 → K t.toNat S (tk lv t.toNat L) σ) ∧ (¬ cmpI c a 0 → k S L σ)
    | _ => False
  | .tableswitch d lo hi os => match S with
    | .inl x :: S => swK lv K S L σ x lo os.toList ∧ (x < lo ∨ hi < x → K d.toNat S (tk lv d.toNat L) σ)
    | _ => False
  | .iadd => match S with
    | .inl b :: .inl a :: S => i32 (a + b) ∧ k (vI (a + b) :: S) L σ
    | _ => False
  | .isub => match S with
    | .inl b :: .inl a :: S => i32 (a - b) ∧ k (vI (a - b) :: S) L σ
    | _ => False
  | .imul => match S with
    | .inl b :: .inl a :: S => i32 (a * b) ∧ k (vI (a * b) :: S) L σ
    | _ => False
  | .ineg => match S with
    | .inl a :: S => i32 (-a) ∧ k (vI (-a) :: S) L σ
    | _ => False
  | .idiv => match S with
    | .inl b :: .inl a :: S => 0 < b ∧ k (vI (a.tdiv b) :: S) L σ
    | _ => False
  | .irem => match S with
    | .inl b :: .inl a :: S => 0 < b ∧ k (vI (a.tmod b) :: S) L σ
    | _ => False
  | .iand => match S with
    | .inl b :: .inl a :: S => k (vI (bAnd a b) :: S) L σ
    | _ => False
  | .ior => match S with
    | .inl b :: .inl a :: S => k (vI (bOr a b) :: S) L σ
    | _ => False
  | .ixor => match S with
    | .inl b :: .inl a :: S => k (vI (bXor a b) :: S) L σ
    | _ => False
  | .ishl => match S with
    | .inl b :: .inl a :: S => k (vI (bShl a b) :: S) L σ
    | _ => False
  | .ishr => match S with
    | .inl b :: .inl a :: S => k (vI (bShr a b) :: S) L σ
    | _ => False
  | .iushr => match S with
    | .inl b :: .inl a :: S => k (vI (bUshr a b) :: S) L σ
    | _ => False
  | .ladd => match S with
    | .inr (.inl b) :: .inr (.inl a) :: S => k (vL (w64 (a + b)) :: S) L σ
    | _ => False
  | .lmul => match S with
    | .inr (.inl b) :: .inr (.inl a) :: S => k (vL (w64 (a * b)) :: S) L σ
    | _ => False
  | .ldiv => match S with
    | .inr (.inl b) :: .inr (.inl a) :: S => 0 < b ∧ k (vL (a.tdiv b) :: S) L σ
    | _ => False
  | .lrem => match S with
    | .inr (.inl b) :: .inr (.inl a) :: S => 0 < b ∧ k (vL (a.tmod b) :: S) L σ
    | _ => False
  | .land => match S with
    | .inr (.inl b) :: .inr (.inl a) :: S => k (vL (lAnd a b) :: S) L σ
    | _ => False
  | .lor => match S with
    | .inr (.inl b) :: .inr (.inl a) :: S => k (vL (lOr a b) :: S) L σ
    | _ => False
  | .lshl => match S with
    | .inl b :: .inr (.inl a) :: S => k (vL (lShl a b) :: S) L σ
    | _ => False
  | .lushr => match S with
    | .inl b :: .inr (.inl a) :: S => k (vL (lUshr a b) :: S) L σ
    | _ => False
  | .lcmp => match S with
    | .inr (.inl b) :: .inr (.inl a) :: S => k (vI (lCmp a b) :: S) L σ
    | _ => False
  | .i2l => match S with
    | .inl a :: S => k (vL a :: S) L σ
    | _ => False
  | .l2i => match S with
    | .inr (.inl a) :: S => k (vI (w32 a) :: S) L σ
    | _ => False
  | .i2c => match S with
    | .inl a :: S => k (vI (bChr a) :: S) L σ
    | _ => False
  | .i2b => match S with
    | .inl a :: S => k (vI (bI8 a) :: S) L σ
    | _ => False
  | .dup => match S with
    | .inl a :: S => k (vI a :: vI a :: S) L σ
    | .inr (.inr (.inl a)) :: S => k (vR a :: vR a :: S) L σ
    | _ => False
  | .dup2 => match S with
    | .inl a :: .inr (.inr (.inl b)) :: S => k (vI a :: vR b :: vI a :: vR b :: S) L σ
    | _ => False
  | .pop => match S with
    | .inl _ :: S => k S L σ
    | _ => False
  | .iaload => match S with
    | .inl i :: .inr (.inr (.inl q)) :: S => ald (shp q).1 ((0 ≤ i ∧ i < ((shp q).2 : Int)) ∧ k (vI (σ q i) :: S) L σ) ((0 ≤ i ∧ i < ((shp q).2 : Int)) ∧ k (vI ((stc q).getD i.toNat 0) :: S) L σ) ((0 ≤ i ∧ i < σ q (-1)) ∧ k (vI (σ q i) :: S) L σ)
    | _ => False
  | .baload => match S with
    | .inl i :: .inr (.inr (.inl q)) :: S => bld (shp q).1 ((0 ≤ i ∧ i < ((shp q).2 : Int)) ∧ k (vI (σ q i) :: S) L σ) ((0 ≤ i ∧ i < ((shp q).2 : Int)) ∧ k (vI ((stc q).getD i.toNat 0) :: S) L σ)
    | _ => False
  | .aaload => match S with
    | .inl i :: .inr (.inr (.inl q)) :: S => (shp q).1 = 2 ∧ (0 ≤ i ∧ i < ((shp q).2 : Int)) ∧ k (vR (rfs q i.toNat) :: S) L σ
    | _ => False
  | .iastore => match S with
    | .inl x :: .inl i :: .inr (.inr (.inl q)) :: S => (shp q).1 = 0 ∧ (0 ≤ i ∧ i < ((shp q).2 : Int)) ∧ k S L (su σ q i x)
    | _ => False
  | .bastore => match S with
    | .inl x :: .inl i :: .inr (.inr (.inl q)) :: S => (shp q).1 = 1 ∧ (0 ≤ i ∧ i < ((shp q).2 : Int)) ∧ (x = 0 ∨ x = 1) ∧ k S L (su σ q i x)
    | _ => False
  | .arraylength => match S with
    | .inr (.inr (.inl q)) :: S => aln (shp q).1 (k (vI ((shp q).2 : Int) :: S) L σ) (k (vI (σ q (-1)) :: S) L σ)
    | _ => False
  | .ireturn => match S with
    | [.inl v] => (rt = 1 ∨ (rt = 2 ∧ (v = 0 ∨ v = 1)) ∨ (rt = 4 ∧ v = 0)) ∧ Q [vI v] σ
    | _ => False
  | .lreturn => match S with
    | [.inr (.inl v)] => rt = 3 ∧ Q [vL v] σ
    | _ => False
  | .return_ => match S with
    | [] => rt = 0 ∧ Q [] σ
    | _ => False
  | _ => False
def wp (ca : List (Nat × Ctr)) (lv : List (Nat × Nat)) (rt : Nat) (K : Nat → List AV → List AV → Sto → Prop) (Q : List AV → Sto → Prop) (f : Nat) : List Instr → List AV → List AV → Sto → Prop
  | [], S, L, σ => K f S (tk lv f L) σ
  | i :: r, S, L, σ => step ca lv rt K Q i S L σ (wp ca lv rt K Q f r)
