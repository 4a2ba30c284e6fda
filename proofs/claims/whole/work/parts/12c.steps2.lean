-- ===== the rows of 10b once more, so that simp lays them as equations, not as rfl (the kernel then needn't evaluate) =====
section ST2
variable {ca : List (Nat × Ctr)} {lv : List (Nat × Nat)} {rt : Nat} {K : Nat → List AV → List AV → Sto → Prop} {Q : List AV → Sto → Prop} {S L : List AV} {σ : Sto} {k : List AV → List AV → Sto → Prop} {f : Nat}
theorem sq_iconst {n : Int} : step ca lv rt K Q (.iconst n) S L σ k = (k (vI n :: S) L σ) := propext ⟨fun h => h, fun h => h⟩
theorem sq_jsr {n : Int} : step ca lv rt K Q (.jsr n) S L σ k = (k (vL n :: S) L σ) := propext ⟨fun h => h, fun h => h⟩
theorem sq_anewarray {q : Nat} : step ca lv rt K Q (.anewarray q) S L σ k = (k (vR q :: S) L σ) := propext ⟨fun h => h, fun h => h⟩
theorem sq_iload {n : Nat} : step ca lv rt K Q (.iload n) S L σ k = (match nth L n with | .inl x => k (vI x :: S) L σ | _ => False) := propext ⟨fun h => h, fun h => h⟩
theorem sq_lload {n : Nat} : step ca lv rt K Q (.lload n) S L σ k = (match nth L n with | .inr (.inl x) => k (vL x :: S) L σ | _ => False) := propext ⟨fun h => h, fun h => h⟩
theorem sq_aload {n : Nat} : step ca lv rt K Q (.aload n) S L σ k = (match nth L n with | .inr (.inr (.inl x)) => k (vR x :: S) L σ | _ => False) := propext ⟨fun h => h, fun h => h⟩
theorem sq_istore {n : Nat} {x : Int} : step ca lv rt K Q (.istore n) (.inl x :: S) L σ k = (canSet L n = true ∧ k S (setL L n (vI x)) σ) := propext ⟨fun h => h, fun h => h⟩
theorem sq_lstore {n : Nat} {x : Int} : step ca lv rt K Q (.lstore n) (.inr (.inl x) :: S) L σ k = (canSet L n = true ∧ k S (setL (setL L n (vL x)) (n + 1) vX) σ) := propext ⟨fun h => h, fun h => h⟩
theorem sq_astore {n x : Nat} : step ca lv rt K Q (.astore n) (.inr (.inr (.inl x)) :: S) L σ k = (canSet L n = true ∧ k S (setL L n (vR x)) σ) := propext ⟨fun h => h, fun h => h⟩
theorem sq_iinc {n : Nat} {c : Int} : step ca lv rt K Q (.iinc n c) S L σ k = (match nth L n with | .inl x => canSet L n = true ∧ i32 (x + c) ∧ k S (setL L n (vI (x + c))) σ | _ => False) := propext ⟨fun h => h, fun h => h⟩
theorem sq_getfield {c q : Nat} : step ca lv rt K Q (.getfield c) (.inr (.inr (.inl q)) :: S) L σ k = (shp q = (3, c / 1000) ∧ k (rdF c q σ :: S) L σ) := propext ⟨fun h => h, fun h => h⟩
theorem sq_inv {c : Nat} : step ca lv rt K Q (.invokestatic c) S L σ k = ((tbl dCa ca c).1 ≤ S.length ∧ catS (S.drop (tbl dCa ca c).1) ≤ 8 ∧ (tbl dCa ca c).2 (S.take (tbl dCa ca c).1).reverse σ (fun r σ => k (r ++ S.drop (tbl dCa ca c).1) L σ)) := propext ⟨fun h => h, fun h => h⟩
theorem sq_goto {t : Int} : step ca lv rt K Q (.goto t) S L σ k = (K t.toNat S (tk lv t.toNat L) σ) := propext ⟨fun h => h, fun h => h⟩
theorem sq_icmp {c : ClassFile.Cond} {t a b : Int} : step ca lv rt K Q (.if_icmp c t) (.inl b :: .inl a :: S) L σ k = ((cmpI c a b → K t.toNat S (tk lv t.toNat L) σ) ∧ (¬ cmpI c a b → k S L σ)) := propext ⟨fun h => h, fun h => h⟩
theorem sq_ifc {c : ClassFile.Cond} {t a : Int} : step ca lv rt K Q (.ifCond c t) (.inl a :: S) L σ k = ((cmpI c a 0 → K t.toNat S (tk lv t.toNat L) σ) ∧ (¬ cmpI c a 0 → k S L σ)) := propext ⟨fun h => h, fun h => h⟩
theorem sq_tsw {d lo hi x : Int} {os : Array Int} : step ca lv rt K Q (.tableswitch d lo hi os) (.inl x :: S) L σ k = (swK lv K S L σ x lo os.toList ∧ (x < lo ∨ hi < x → K d.toNat S (tk lv d.toNat L) σ)) := propext ⟨fun h => h, fun h => h⟩
theorem sq_iadd {a b : Int} : step ca lv rt K Q .iadd (.inl b :: .inl a :: S) L σ k = (i32 (a + b) ∧ k (vI (a + b) :: S) L σ) := propext ⟨fun h => h, fun h => h⟩
theorem sq_isub {a b : Int} : step ca lv rt K Q .isub (.inl b :: .inl a :: S) L σ k = (i32 (a - b) ∧ k (vI (a - b) :: S) L σ) := propext ⟨fun h => h, fun h => h⟩
theorem sq_imul {a b : Int} : step ca lv rt K Q .imul (.inl b :: .inl a :: S) L σ k = (i32 (a * b) ∧ k (vI (a * b) :: S) L σ) := propext ⟨fun h => h, fun h => h⟩
theorem sq_ineg {a : Int} : step ca lv rt K Q .ineg (.inl a :: S) L σ k = (i32 (-a) ∧ k (vI (-a) :: S) L σ) := propext ⟨fun h => h, fun h => h⟩
theorem sq_idiv {a b : Int} : step ca lv rt K Q .idiv (.inl b :: .inl a :: S) L σ k = (0 < b ∧ k (vI (Int.tdiv a b) :: S) L σ) := propext ⟨fun h => h, fun h => h⟩
theorem sq_irem {a b : Int} : step ca lv rt K Q .irem (.inl b :: .inl a :: S) L σ k = (0 < b ∧ k (vI (Int.tmod a b) :: S) L σ) := propext ⟨fun h => h, fun h => h⟩
theorem sq_iand {a b : Int} : step ca lv rt K Q .iand (.inl b :: .inl a :: S) L σ k = (k (vI (bAnd a b) :: S) L σ) := propext ⟨fun h => h, fun h => h⟩
theorem sq_ior {a b : Int} : step ca lv rt K Q .ior (.inl b :: .inl a :: S) L σ k = (k (vI (bOr a b) :: S) L σ) := propext ⟨fun h => h, fun h => h⟩
theorem sq_ixor {a b : Int} : step ca lv rt K Q .ixor (.inl b :: .inl a :: S) L σ k = (k (vI (bXor a b) :: S) L σ) := propext ⟨fun h => h, fun h => h⟩
theorem sq_ishl {a b : Int} : step ca lv rt K Q .ishl (.inl b :: .inl a :: S) L σ k = (k (vI (bShl a b) :: S) L σ) := propext ⟨fun h => h, fun h => h⟩
theorem sq_ishr {a b : Int} : step ca lv rt K Q .ishr (.inl b :: .inl a :: S) L σ k = (k (vI (bShr a b) :: S) L σ) := propext ⟨fun h => h, fun h => h⟩
theorem sq_iushr {a b : Int} : step ca lv rt K Q .iushr (.inl b :: .inl a :: S) L σ k = (k (vI (bUshr a b) :: S) L σ) := propext ⟨fun h => h, fun h => h⟩
theorem sq_ladd {a b : Int} : step ca lv rt K Q .ladd (.inr (.inl b) :: .inr (.inl a) :: S) L σ k = (k (vL (w64 (a + b)) :: S) L σ) := propext ⟨fun h => h, fun h => h⟩
theorem sq_lmul {a b : Int} : step ca lv rt K Q .lmul (.inr (.inl b) :: .inr (.inl a) :: S) L σ k = (k (vL (w64 (a * b)) :: S) L σ) := propext ⟨fun h => h, fun h => h⟩
theorem sq_ldiv {a b : Int} : step ca lv rt K Q .ldiv (.inr (.inl b) :: .inr (.inl a) :: S) L σ k = (0 < b ∧ k (vL (Int.tdiv a b) :: S) L σ) := propext ⟨fun h => h, fun h => h⟩
theorem sq_lrem {a b : Int} : step ca lv rt K Q .lrem (.inr (.inl b) :: .inr (.inl a) :: S) L σ k = (0 < b ∧ k (vL (Int.tmod a b) :: S) L σ) := propext ⟨fun h => h, fun h => h⟩
theorem sq_land {a b : Int} : step ca lv rt K Q .land (.inr (.inl b) :: .inr (.inl a) :: S) L σ k = (k (vL (lAnd a b) :: S) L σ) := propext ⟨fun h => h, fun h => h⟩
theorem sq_lor {a b : Int} : step ca lv rt K Q .lor (.inr (.inl b) :: .inr (.inl a) :: S) L σ k = (k (vL (lOr a b) :: S) L σ) := propext ⟨fun h => h, fun h => h⟩
theorem sq_lshl {a b : Int} : step ca lv rt K Q .lshl (.inl b :: .inr (.inl a) :: S) L σ k = (k (vL (lShl a b) :: S) L σ) := propext ⟨fun h => h, fun h => h⟩
theorem sq_lushr {a b : Int} : step ca lv rt K Q .lushr (.inl b :: .inr (.inl a) :: S) L σ k = (k (vL (lUshr a b) :: S) L σ) := propext ⟨fun h => h, fun h => h⟩
theorem sq_lcmp {a b : Int} : step ca lv rt K Q .lcmp (.inr (.inl b) :: .inr (.inl a) :: S) L σ k = (k (vI (lCmp a b) :: S) L σ) := propext ⟨fun h => h, fun h => h⟩
theorem sq_i2l {a : Int} : step ca lv rt K Q .i2l (.inl a :: S) L σ k = (k (vL a :: S) L σ) := propext ⟨fun h => h, fun h => h⟩
theorem sq_l2i {a : Int} : step ca lv rt K Q .l2i (.inr (.inl a) :: S) L σ k = (k (vI (w32 a) :: S) L σ) := propext ⟨fun h => h, fun h => h⟩
theorem sq_i2c {a : Int} : step ca lv rt K Q .i2c (.inl a :: S) L σ k = (k (vI (bChr a) :: S) L σ) := propext ⟨fun h => h, fun h => h⟩
theorem sq_i2b {a : Int} : step ca lv rt K Q .i2b (.inl a :: S) L σ k = (k (vI (bI8 a) :: S) L σ) := propext ⟨fun h => h, fun h => h⟩
theorem sq_dupI {a : Int} : step ca lv rt K Q .dup (.inl a :: S) L σ k = (k (vI a :: vI a :: S) L σ) := propext ⟨fun h => h, fun h => h⟩
theorem sq_dupR {a : Nat} : step ca lv rt K Q .dup (.inr (.inr (.inl a)) :: S) L σ k = (k (vR a :: vR a :: S) L σ) := propext ⟨fun h => h, fun h => h⟩
theorem sq_dup2 {a : Int} {b : Nat} : step ca lv rt K Q .dup2 (.inl a :: .inr (.inr (.inl b)) :: S) L σ k = (k (vI a :: vR b :: vI a :: vR b :: S) L σ) := propext ⟨fun h => h, fun h => h⟩
theorem sq_pop {a : Int} : step ca lv rt K Q .pop (.inl a :: S) L σ k = (k S L σ) := propext ⟨fun h => h, fun h => h⟩
theorem sq_iaload {i : Int} {q : Nat} : step ca lv rt K Q .iaload (.inl i :: .inr (.inr (.inl q)) :: S) L σ k = (ald (shp q).1 ((0 ≤ i ∧ i < ((shp q).2 : Int)) ∧ k (vI (σ q i) :: S) L σ) ((0 ≤ i ∧ i < ((shp q).2 : Int)) ∧ k (vI ((stc q).getD i.toNat 0) :: S) L σ) ((0 ≤ i ∧ i < σ q (-1)) ∧ k (vI (σ q i) :: S) L σ)) := propext ⟨fun h => h, fun h => h⟩
theorem sq_baload {i : Int} {q : Nat} : step ca lv rt K Q .baload (.inl i :: .inr (.inr (.inl q)) :: S) L σ k = (bld (shp q).1 ((0 ≤ i ∧ i < ((shp q).2 : Int)) ∧ k (vI (σ q i) :: S) L σ) ((0 ≤ i ∧ i < ((shp q).2 : Int)) ∧ k (vI ((stc q).getD i.toNat 0) :: S) L σ)) := propext ⟨fun h => h, fun h => h⟩
theorem sq_aaload {i : Int} {q : Nat} : step ca lv rt K Q .aaload (.inl i :: .inr (.inr (.inl q)) :: S) L σ k = ((shp q).1 = 2 ∧ (0 ≤ i ∧ i < ((shp q).2 : Int)) ∧ k (vR (rfs q i.toNat) :: S) L σ) := propext ⟨fun h => h, fun h => h⟩
theorem sq_iastore {i x : Int} {q : Nat} : step ca lv rt K Q .iastore (.inl x :: .inl i :: .inr (.inr (.inl q)) :: S) L σ k = ((shp q).1 = 0 ∧ (0 ≤ i ∧ i < ((shp q).2 : Int)) ∧ k S L (su σ q i x)) := propext ⟨fun h => h, fun h => h⟩
theorem sq_bastore {i x : Int} {q : Nat} : step ca lv rt K Q .bastore (.inl x :: .inl i :: .inr (.inr (.inl q)) :: S) L σ k = ((shp q).1 = 1 ∧ (0 ≤ i ∧ i < ((shp q).2 : Int)) ∧ (x = 0 ∨ x = 1) ∧ k S L (su σ q i x)) := propext ⟨fun h => h, fun h => h⟩
theorem sq_alen {q : Nat} : step ca lv rt K Q .arraylength (.inr (.inr (.inl q)) :: S) L σ k = (aln (shp q).1 (k (vI ((shp q).2 : Int) :: S) L σ) (k (vI (σ q (-1)) :: S) L σ)) := propext ⟨fun h => h, fun h => h⟩
theorem sq_ireturn {v : Int} : step ca lv rt K Q .ireturn [.inl v] L σ k = ((rt = 1 ∨ (rt = 2 ∧ (v = 0 ∨ v = 1)) ∨ (rt = 4 ∧ v = 0)) ∧ Q [vI v] σ) := propext ⟨fun h => h, fun h => h⟩
theorem sq_lreturn {v : Int} : step ca lv rt K Q .lreturn [.inr (.inl v)] L σ k = (rt = 3 ∧ Q [vL v] σ) := propext ⟨fun h => h, fun h => h⟩
theorem sq_return : step ca lv rt K Q .return_ [] L σ k = (rt = 0 ∧ Q [] σ) := propext ⟨fun h => h, fun h => h⟩
theorem wq_c {i : Instr} {r : List Instr} : wp ca lv rt K Q f (i :: r) S L σ = step ca lv rt K Q i S L σ (wp ca lv rt K Q f r) := propext ⟨fun h => h, fun h => h⟩
theorem wq_n : wp ca lv rt K Q f [] S L σ = K f S (tk lv f L) σ := propext ⟨fun h => h, fun h => h⟩
theorem wlq_s {B : Bk} {n t : Nat} : wpl ca lv rt B Q (n + 1) t S L σ = wp ca lv rt (wpl ca lv rt B Q n) Q (lkp dBk B t).2 (lkp dBk B t).1 S L σ := propext ⟨fun h => h, fun h => h⟩
end ST2
theorem wjq_s {ca : List (Nat × Ctr)} {lv : List (Nat × Nat)} {rt : Nat} {B : Bk} {Q : List AV → Sto → Prop} {H : Hd} {bd : Nat → Prop} {n t : Nat} {S L : List AV} {σ : Sto} : wpj ca lv rt B Q H bd (n + 1) t S L σ = (match look H t with
    | some P => ∃ m, bd m ∧ P m S L σ
    | none => wp ca lv rt (wpj ca lv rt B Q H bd n) Q (lkp dBk B t).2 (lkp dBk B t).1 S L σ) := propext ⟨fun h => h, fun h => h⟩
