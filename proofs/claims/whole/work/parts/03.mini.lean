/-! ===== THE SMALL MACHINE: methods run over a memory of numbers; what it answers, the real machine answers (soundness: the parts behind) ===== -/
/-- memory: shapes (a class number, or 100 + the kind of an array, and its length), ints, longs, refs; by address and place -/
abbrev mM : Type := List (Nat × Nat) × (Nat → Nat → Int32) × (Nat → Nat → Int64) × (Nat → Nat → Option Nat)
/-- an instruction: number, three numbers, a constant, targets -/
abbrev mO : Type := Nat × Nat × Nat × Nat × Value × List Nat
/-- a method: name, bytes, locals, what it returns, frames, words of locals, program -/
abbrev mE : Type := MethodName × ByteArray × Nat × Option FieldType × Nat × Nat × List (Nat × mO)
/-- addresses from here on are not the memory's: string constants, the script -/
def mBIG : Nat := 1000000
/-- an unset place -/
abbrev mU : Value := .retAddr 0
def m_cnd (k : Nat) (x y : Int32) : Bool := match k with
  | 0 => decide (x = y)
  | 1 => decide (¬ x = y)
  | 2 => decide (x < y)
  | 3 => decide (y ≤ x)
  | 4 => decide (y < x)
  | _ => decide (x ≤ y)
def m_bin (k : Nat) (x y : Int32) : Int32 := match k with
  | 0 => x + y
  | 1 => x - y
  | 2 => x * y
  | 3 => x &&& y
  | 4 => x ||| y
  | 5 => x ^^^ y
  | 6 => x <<< (y &&& 31)
  | 7 => x >>> (y &&& 31)
  | _ => (x.toUInt32 >>> (y.toUInt32 &&& Int32.toUInt32 31)).toInt32
/-- a method's locals at its entry -/
def m_ent : List Value → List Value
  | [] => []
  | v :: r => if v.category = 2 then v :: mU :: m_ent r else v :: m_ent r
def m_entry (As : List Value) (n : Nat) : List Value := m_ent As ++ List.replicate (n - (m_ent As).length) mU
/-- storing a local: a long takes two places, and a long whose second place is written is gone -/
def m_brk (ls : List Value) (i : Nat) : List Value := match i with
  | 0 => ls
  | j + 1 => if (ls.getD j mU).category = 2 then ls.set j mU else ls
def m_put (ls : List Value) (i : Nat) (v : Value) : List Value := match v with
  | .long _ => ((m_brk ls i).set i v).set (i + 1) mU
  | _ => (m_brk ls i).set i v
def m_wd (v : Value) : Nat := match v with
  | .long _ => 2
  | _ => 1
/-- the fields of each class: a reference (1), a boolean (2), a number (0) -/
def m_cls : List (List Nat) := [[0, 0, 1, 1, 1, 1, 0, 0, 1], [0, 1, 2, 1], [0, 0, 1], [0, 1, 1, 0, 1, 1, 1], [1], [0, 0, 1, 1, 0, 1, 1, 1, 1, 0, 0, 0, 0, 1, 1, 1, 0], [0, 0, 0, 0, 0, 0, 0, 0, 0, 0, 1, 1, 1, 1], [0, 1, 0, 1, 1, 1, 1], [2, 0, 0, 0, 1], [1, 1, 1, 1, 0], [1, 1, 1, 1, 0, 1, 2, 1, 2, 1, 1, 1, 1, 1, 1, 1], [0, 1, 0, 1, 0, 1, 1, 1, 1, 1, 0, 0, 0, 0, 0, 0, 0, 0, 0, 0, 0, 0, 1, 1, 1, 1, 0, 0, 1, 1, 2, 1, 1, 1, 0, 1, 1, 1, 1, 1, 1, 1, 1, 1, 1, 1, 0, 1, 0, 0, 0, 0, 1, 0, 0, 0, 0, 1, 1, 1, 1, 1, 0, 1]]
def m_ft (ci k : Nat) : Nat := (m_cls.getD ci []).getD k 0
def m_nf (ci : Nat) : Nat := (m_cls.getD ci []).length
/-- the string constants' bytes, by their places -/
def m_str : List (List Int32) := [[], [112, 111, 115, 116], [108, 105, 110, 107], [111, 102, 102], [114, 111, 111, 116], [100, 111, 119, 110], [110, 59], [110, 110, 105, 59], [110, 110, 59]]
/-- an index within a row -/
def m_in (i : Int32) (n : Nat) : Bool := decide (¬ i < 0) && decide (i.toNatClampNeg < n)
/-- all but calls and returns -/
def m_step (fm : Value) (L : Nat) (xs : Nat → Int32) (op a b c : Nat) (v : Value) (ts : List Nat) (pc : Nat) (ls st : List Value) (mem : mM) : Option (Nat × List Value × List Value × mM) := match op with
  | 0 => some (pc + a, ls, v :: st, mem)
  | 1 => match c, ls.getD b mU with
    | 0, .int x => some (pc + a, ls, .int x :: st, mem)
    | 1, .long x => some (pc + a, ls, .long x :: st, mem)
    | 2, .ref x => some (pc + a, ls, .ref x :: st, mem)
    | _, _ => none
  | 2 => match c, st with
    | 0, .int x :: r => if b < ls.length then some (pc + a, m_put ls b (.int x), r, mem) else none
    | 1, .long x :: r => if b + 1 < ls.length then some (pc + a, m_put ls b (.long x), r, mem) else none
    | 2, .ref x :: r => if b < ls.length then some (pc + a, m_put ls b (.ref x), r, mem) else none
    | _, _ => none
  | 3 => match ls.getD b mU, v with
    | .int x, .int k => some (pc + 3, ls.set b (.int (x + k)), st, mem)
    | _, _ => none
  | 4 => match st with
    | .int y :: .int x :: r => some (pc + 1, ls, .int (m_bin b x y) :: r, mem)
    | _ => none
  | 5 => match st with
    | .int y :: .int x :: r => if y = 0 then none else some (pc + 1, ls, .int (match b with | 0 => x / y | _ => x - x / y * y) :: r, mem)
    | _ => none
  | 6 => match st with
    | .long y :: .long x :: r => some (pc + 1, ls, .long (match b with | 0 => x + y | _ => x * y) :: r, mem)
    | _ => none
  | 7 => match st with
    | .long y :: .long x :: r => some (pc + 1, ls, .int (lg_cmp x y) :: r, mem)
    | _ => none
  | 8 => match b, st with
    | 0, .int x :: r => some (pc + 1, ls, .long x.toInt64 :: r, mem)
    | 1, .long x :: r => some (pc + 1, ls, .int x.toInt32 :: r, mem)
    | 2, .int x :: r => some (pc + 1, ls, .int x.toInt8.toInt32 :: r, mem)
    | 3, .int x :: r => some (pc + 1, ls, .int (x.toUInt32 % 65536).toInt32 :: r, mem)
    | _, _ => none
  | 9 => match st with
    | .int x :: r => some (pc + 1, ls, .int x :: .int x :: r, mem)
    | .ref x :: r => some (pc + 1, ls, .ref x :: .ref x :: r, mem)
    | _ => none
  | 10 => match st with
    | .int x :: .ref q :: r => some (pc + 1, ls, .int x :: .ref q :: .int x :: .ref q :: r, mem)
    | _ => none
  | 11 => match st with
    | .int _ :: r => some (pc + 1, ls, r, mem)
    | .ref _ :: r => some (pc + 1, ls, r, mem)
    | _ => none
  | 12 => match st with
    | .ref q :: r => match mem.1[q]? with
      | some sh => if sh.1 = b ∧ q < mBIG then (match m_ft b c with
        | 1 => match mem.2.2.2 q c with
          | some x => some (pc + 3, ls, .ref x :: r, mem)
          | none => some (pc + 3, ls, .null :: r, mem)
        | _ => some (pc + 3, ls, .int (mem.2.1 q c) :: r, mem)) else none
      | none => none
    | _ => none
  | 13 => match st with
    | .int x :: .ref q :: r => match mem.1[q]? with
      | some sh => if sh.1 = b ∧ q < mBIG then (match m_ft b c with
        | 0 => some (pc + 3, ls, r, (mem.1, va_up mem.2.1 q (va_up (mem.2.1 q) c x), mem.2.2.1, mem.2.2.2))
        | 2 => if x = 0 ∨ x = 1 then some (pc + 3, ls, r, (mem.1, va_up mem.2.1 q (va_up (mem.2.1 q) c x), mem.2.2.1, mem.2.2.2)) else none
        | _ => none) else none
      | none => none
    | .ref x :: .ref q :: r => match mem.1[q]? with
      | some sh => if sh.1 = b ∧ q < mBIG ∧ m_ft b c = 1 then some (pc + 3, ls, r, (mem.1, mem.2.1, mem.2.2.1, va_up mem.2.2.2 q (va_up (mem.2.2.2 q) c (some x)))) else none
      | none => none
    | _ => none
  | 14 => match st with
    | .int i :: .ref q :: r => match mem.1[q]? with
      | some sh => if sh.1 = 100 + b ∧ q < mBIG ∧ m_in i sh.2 = true then (match b with
        | 1 => some (pc + 1, ls, .long (mem.2.2.1 q i.toNatClampNeg) :: r, mem)
        | 4 => match mem.2.2.2 q i.toNatClampNeg with
          | some x => some (pc + 1, ls, .ref x :: r, mem)
          | none => some (pc + 1, ls, .null :: r, mem)
        | _ => some (pc + 1, ls, .int (mem.2.1 q i.toNatClampNeg) :: r, mem)) else none
      | none => none
    | _ => none
  | 15 => match st with
    | .int x :: .int i :: .ref q :: r => match mem.1[q]? with
      | some sh => if sh.1 = 100 + b ∧ q < mBIG ∧ m_in i sh.2 = true then (match b with
        | 0 => some (pc + 1, ls, r, (mem.1, va_up mem.2.1 q (va_up (mem.2.1 q) i.toNatClampNeg x), mem.2.2.1, mem.2.2.2))
        | 2 => some (pc + 1, ls, r, (mem.1, va_up mem.2.1 q (va_up (mem.2.1 q) i.toNatClampNeg (vp_nar .byte x)), mem.2.2.1, mem.2.2.2))
        | 3 => some (pc + 1, ls, r, (mem.1, va_up mem.2.1 q (va_up (mem.2.1 q) i.toNatClampNeg (vp_nar .boolean x)), mem.2.2.1, mem.2.2.2))
        | _ => none) else none
      | none => none
    | .long x :: .int i :: .ref q :: r => match mem.1[q]? with
      | some sh => if sh.1 = 100 + b ∧ q < mBIG ∧ m_in i sh.2 = true ∧ b = 1 then some (pc + 1, ls, r, (mem.1, mem.2.1, va_up mem.2.2.1 q (va_up (mem.2.2.1 q) i.toNatClampNeg x), mem.2.2.2)) else none
      | none => none
    | .ref x :: .int i :: .ref q :: r => match mem.1[q]?, mem.1[x]? with
      | some sh, some sx => if sh.1 = 100 + b ∧ q < mBIG ∧ x < mBIG ∧ m_in i sh.2 = true ∧ b = 4 ∧ sx.1 = 6 then some (pc + 1, ls, r, (mem.1, mem.2.1, mem.2.2.1, va_up mem.2.2.2 q (va_up (mem.2.2.2 q) i.toNatClampNeg (some x)))) else none
      | _, _ => none
    | _ => none
  | 16 => match st with
    | .ref q :: r => match mem.1[q]? with
      | some sh => if sh.1 = 100 + b ∧ q < mBIG then some (pc + 1, ls, .int (Int32.ofNat sh.2) :: r, mem) else none
      | none => none
    | _ => none
  | 17 => if mem.1.length < mBIG then some (pc + 3, ls, .ref mem.1.length :: st, (mem.1 ++ [(b, m_nf b)], va_up mem.2.1 mem.1.length (fun _ => 0), mem.2.2.1, va_up mem.2.2.2 mem.1.length (fun _ => none))) else none
  | 18 => match st with
    | .int n :: r => if mem.1.length < mBIG ∧ ¬ n < 0 ∧ n.toNatClampNeg ≤ 100000 then some (pc + a, ls, .ref mem.1.length :: r, (mem.1 ++ [(100 + b, n.toNatClampNeg)], va_up mem.2.1 mem.1.length (fun _ => 0), va_up mem.2.2.1 mem.1.length (fun _ => 0), va_up mem.2.2.2 mem.1.length (fun _ => none))) else none
    | _ => none
  | 20 => match st with
    | .int x :: r => some (bif m_cnd b x 0 then c else pc + 3, ls, r, mem)
    | _ => none
  | 21 => match st with
    | .int y :: .int x :: r => some (bif m_cnd b x y then c else pc + 3, ls, r, mem)
    | _ => none
  | 22 => some (c, ls, st, mem)
  | 23 => match st, v with
    | .int x :: r, .int lo => if x.toInt < lo.toInt ∨ lo.toInt + ts.length ≤ x.toInt then some (c, ls, r, mem) else (match ts[(x.toInt - lo.toInt).toNat]? with
      | some t => some (t, ls, r, mem)
      | none => none)
    | _, _ => none
  | 24 => match st with
    | .ref _ :: r => if (r.map fun v => v.category).sum ≤ 8 then some (pc + 3, ls, r, mem) else none
    | _ => none
  | 25 => match st with
    | .ref q :: r => if q = mBIG + 100 then some (pc + 1, ls, .int (Int32.ofNat L) :: r, mem) else none
    | _ => none
  | 26 => match st with
    | .int i :: .ref q :: r => if q = mBIG + 100 ∧ m_in i L = true then some (pc + 1, ls, .int (xs i.toNatClampNeg) :: r, mem) else none
    | _ => none
  | 33 => match st with
    | .ref q :: r => if mBIG ≤ q ∧ q < mBIG + 9 then some (pc + 3, ls, .ref (q + 50) :: r, mem) else none
    | _ => none
  | 34 => match st with
    | .ref q :: r => if mBIG ≤ q ∧ q < mBIG + 9 then some (pc + 3, ls, .int 0 :: r, mem) else none
    | _ => none
  | 35 => some (pc + 3, ls, .int 1 :: st, mem)
  | 36 => some (pc + 3, ls, fm :: st, mem)
  | 38 => match st with
    | .ref q :: r => if mBIG + 50 ≤ q ∧ q < mBIG + 59 then some (pc + 1, ls, .int (Int32.ofNat (m_str.getD (q - (mBIG + 50)) []).length) :: r, mem) else none
    | _ => none
  | 40 => match st with
    | .int y :: .int x :: r => if (r.map fun v => v.category).sum ≤ 8 then some (pc + 3, ls, .int (if x < y then y else x) :: r, mem) else none
    | _ => none
  | 41 => match st with
    | .int y :: .int x :: r => if (r.map fun v => v.category).sum ≤ 8 then some (pc + 3, ls, .int (if y < x then y else x) :: r, mem) else none
    | _ => none
  | 39 => match st with
    | .int i :: .ref q :: r => if mBIG + 50 ≤ q ∧ q < mBIG + 59 ∧ m_in i (m_str.getD (q - (mBIG + 50)) []).length = true then some (pc + 1, ls, .int ((m_str.getD (q - (mBIG + 50)) []).getD i.toNatClampNeg 0) :: r, mem) else none
    | _ => none
  | _ => none
/-- an int that a method of a small type returns as it is -/
def m_nr (b : Nat) (x : Int32) : Bool := match b with
  | 0 => true
  | 1 => decide (x = 0 ∨ x = 1)
  | 2 => decide (x.toInt8.toInt32 = x)
  | _ => decide (x.toUInt32.toUInt16.toUInt32.toInt32 = x)
/-- the receiver of a call that chooses its method: an object of the class (2, 3), a text (6), any (4, 5) -/
def m_rcv (k ci : Nat) (As : List Value) (mem : mM) : Bool := match k with
  | 0 => true
  | 1 => true
  | 2 => match As with
    | .ref q :: _ => decide (q < mBIG) && (match mem.1[q]? with
      | some sh => decide (sh.1 = ci)
      | none => false)
    | _ => false
  | 3 => match As with
    | .ref q :: _ => decide (q < mBIG) && (match mem.1[q]? with
      | some sh => decide (sh.1 = ci)
      | none => false)
    | _ => false
  | 6 => match As with
    | .ref q :: _ => decide (mBIG ≤ q) && decide (q < mBIG + 9)
    | _ => false
  | _ => match As with
    | .ref _ :: _ => true
    | _ => false
/-- what a call leaves on the stack -/
def m_rst (r : Value) : List Value := match r with
  | .retAddr _ => []
  | v => [v]
/-- one instruction, what comes behind it given -/
def m_one (TT : List mE) (fm : Value) (L : Nat) (xs : Nat → Int32) (rec : List (Nat × mO) → Nat → List Value → List Value → mM → Option (Value × mM)) (pg : List (Nat × mO)) (pc : Nat) (ls st : List Value) (mem : mM) : Option (Value × mM) := match pg.lookup pc with
    | none => none
    | some (op, a, b, c, v, ts) =>
      if op = 90 then (match st with
        | [.int x] => if m_nr b x = true then some (.int x, mem) else none
        | _ => none)
      else if op = 91 then (match st with
        | [] => some (mU, mem)
        | _ => none)
      else if op = 92 then (match st with
        | [.long x] => some (.long x, mem)
        | _ => none)
      else if op = 93 then (match st with
        | [.ref x] => some (.ref x, mem)
        | _ => none)
      else if op = 80 then (match TT[a]? with
        | none => none
        | some (_, _, nL, _, _, _, pg') => if b ≤ st.length ∧ ((st.drop b).map fun v => v.category).sum ≤ 8 ∧ (m_ent (st.take b).reverse).length ≤ nL ∧ m_rcv (ts.getD 0 9) (ts.getD 6 99) (st.take b).reverse mem = true then
            (match rec pg' 0 (m_entry (st.take b).reverse nL) [] mem with
            | none => none
            | some (r, mem') => rec pg (pc + 3) ls (m_rst r ++ st.drop b) mem')
          else none)
      else match m_step fm L xs op a b c v ts pc ls st mem with
        | none => none
        | some (pc', ls', st', mem') => rec pg pc' ls' st' mem'
/-- the machine: what a method returns (mU: nothing), and the memory behind it; none: it fails, or the fuel is out -/
def m_exec (TT : List mE) (fm : Value) (L : Nat) (xs : Nat → Int32) : Nat → List (Nat × mO) → Nat → List Value → List Value → mM → Option (Value × mM)
  | 0 => fun _ _ _ _ _ => none
  | n + 1 => m_one TT fm L xs (m_exec TT fm L xs n)
