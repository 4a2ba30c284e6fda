-- ===== the abstract machine: values, stores, shapes by parameters, one-step predicate, blocks =====
abbrev AV : Type := Int ⊕ Int ⊕ Nat ⊕ Unit
abbrev vI (n : Int) : AV := .inl n
abbrev vL (n : Int) : AV := .inr (.inl n)
abbrev vR (q : Nat) : AV := .inr (.inr (.inl q))
abbrev vX : AV := .inr (.inr (.inr ()))
abbrev Sto : Type := Nat → Int → Int
abbrev Ctr : Type := List AV → Sto → (List AV → Sto → Prop) → Prop
def i32 (n : Int) : Prop := -2147483648 ≤ n ∧ n ≤ 2147483647
def i64 (n : Int) : Prop := -9223372036854775808 ≤ n ∧ n ≤ 9223372036854775807
def w64 (n : Int) : Int := (Int64.ofInt n).toInt
def w32 (n : Int) : Int := (Int32.ofInt n).toInt
def su (σ : Sto) (q : Nat) (i v : Int) : Sto := fun q' => if q' = q then (fun j => if j = i then v else σ q j) else σ q'
def bAnd (a b : Int) : Int := (Int32.ofInt a &&& Int32.ofInt b).toInt
def bOr (a b : Int) : Int := (Int32.ofInt a ||| Int32.ofInt b).toInt
def bXor (a b : Int) : Int := (Int32.ofInt a ^^^ Int32.ofInt b).toInt
def bShl (a b : Int) : Int := (Int32.ofInt a <<< (Int32.ofInt b &&& 31)).toInt
def bShr (a b : Int) : Int := (Int32.ofInt a >>> (Int32.ofInt b &&& 31)).toInt
def bUshr (a b : Int) : Int := ((Int32.ofInt a).toUInt32 >>> ((Int32.ofInt b).toUInt32 &&& Int32.toUInt32 31)).toInt32.toInt
def bChr (a : Int) : Int := ((Int32.ofInt a).toUInt32 % 65536).toInt32.toInt
def bI8 (a : Int) : Int := (Int32.ofInt a).toInt8.toInt32.toInt
def lAnd (a b : Int) : Int := (Int64.ofInt a &&& Int64.ofInt b).toInt
def lOr (a b : Int) : Int := (Int64.ofInt a ||| Int64.ofInt b).toInt
def lShl (a b : Int) : Int := (Int64.ofInt a <<< ((Int32.ofInt b).toInt64 &&& 63)).toInt
def lUshr (a b : Int) : Int := ((Int64.ofInt a).toUInt64 >>> ((Int32.ofInt b).toInt64.toUInt64 &&& Int64.toUInt64 63)).toInt64.toInt
def lCmp (a b : Int) : Int := if b < a then 1 else if a = b then 0 else -1
def nth : List AV → Nat → AV
  | [], _ => vX
  | a :: _, 0 => a
  | _ :: t, n + 1 => nth t n
def setL : List AV → Nat → AV → List AV
  | [], _, v => [v]
  | _ :: t, 0, v => v :: t
  | a :: t, n + 1, v => a :: setL t n v
/-- a place may be stored to: it lies within, or is the next, and no long stands just ahead of it -/
def canSet : List AV → Nat → Bool
  | [], n => n == 0
  | _ :: _, 0 => true
  | .inr (.inl _) :: _, 1 => false
  | _ :: t, n + 1 => canSet t n
def cat1 : AV → Nat
  | .inr (.inl _) => 2
  | .inr (.inr (.inr ())) => 9
  | _ => 1
def catS : List AV → Nat
  | [] => 0
  | a :: t => cat1 a + catS t
def entL : List AV → List AV
  | [] => []
  | .inr (.inl n) :: t => vL n :: vX :: entL t
  | a :: t => a :: entL t
def lkp {α : Type} (d : α) : List (Nat × α) → Nat → α
  | [], _ => d
  | (a, b) :: t, n => if a = n then b else lkp d t n
def tbl {α : Type} (d : α) : List α → Nat → α
  | [], _ => d
  | a :: _, 0 => a
  | _ :: t, n + 1 => tbl d t n
/-- a label's own locals: so many of those there are -/
def tk (lv : List (Nat × Nat)) (t : Nat) (L : List AV) : List AV := L.take (lkp 999 lv t)
/-- the conjunction of a table's branches -/
def swK (lv : List (Nat × Nat)) (K : Nat → List AV → List AV → Sto → Prop) (S L : List AV) (σ : Sto) (x : Int) : Int → List Int → Prop
  | _, [] => True
  | lo, o :: t => (x = lo → K o.toNat S (tk lv o.toNat L) σ) ∧ swK lv K S L σ x (lo + 1) t
def look {α : Type} : List (Nat × α) → Nat → Option α
  | [], _ => none
  | (a, b) :: t, n => if a = n then some b else look t n
theorem look_mem {α : Type} {t : List (Nat × α)} {n : Nat} {v : α} (h : look t n = some v) : (n, v) ∈ t := by
  induction t with
  | nil => cases h
  | cons a t ih =>
    obtain ⟨a, b⟩ := a
    unfold look at h
    by_cases e : a = n
    · rw [if_pos e] at h
      cases h
      subst e
      exact List.mem_cons_self
    · rw [if_neg e] at h
      exact List.mem_cons_of_mem _ (ih h)
