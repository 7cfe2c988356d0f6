/-! A pure machine for the claim's methods: addresses are triples (kind, which, place), memory is three functions; its programs are the methods' instructions with their references resolved. -/
abbrev QA : Type := Nat × Nat × Nat
abbrev QV : Type := Int32 ⊕ Int64 ⊕ Option QA
abbrev QM : Type := (QA → Nat → Int32) × (QA → Nat → Int64) × (QA → Nat → Option QA)
abbrev QL : Type := List (Option QV)
abbrev QR : Type := Option (Option QV × QM)
abbrev QC : Type := Nat → List QV → QM → QR
abbrev QE : Type := Nat × Option (List Bool) × Instr
abbrev qI (x : Int32) : QV := .inl x
abbrev qL (x : Int64) : QV := .inr (.inl x)
abbrev qO (x : Option QA) : QV := .inr (.inr x)
abbrev qR (a : QA) : QV := .inr (.inr (some a))
def qsi (μ : QM) (a : QA) (k : Nat) (v : Int32) : QM := (fun b j => if b = a ∧ j = k then v else μ.1 b j, μ.2.1, μ.2.2)
def qsl (μ : QM) (a : QA) (k : Nat) (v : Int64) : QM := (μ.1, fun b j => if b = a ∧ j = k then v else μ.2.1 b j, μ.2.2)
def qsr (μ : QM) (a : QA) (k : Nat) (v : Option QA) : QM := (μ.1, μ.2.1, fun b j => if b = a ∧ j = k then v else μ.2.2 b j)
def qbz (x : Int32) : Int32 := if x = 0 then 0 else 1
/-- an index that is no place of a row of n -/
def qoob (x : Int32) (n : Nat) : Bool := decide (x < 0) || decide (n ≤ x.toNatClampNeg)
abbrev qix (x : Int32) : Nat := x.toNatClampNeg
/-! the kinds of addresses: how many of each; fields (0 int, 1 boolean, 2 a final reference); arrays (1 int, 2 long, 3 boolean, 4 references that stay, 5 references that change) -/
def qbnds : List (Nat × Nat) := [(1, 1), (11, 12), (11, 1), (11, 2), (11, 1), (2, 1), (2, 12), (2, 1), (2, 1), (2, 1), (2, 1), (2, 1), (2, 1), (1, 1), (1, 1), (1, 1), (1, 1), (1, 1), (1, 1), (1, 1), (1, 1), (1, 1), (1, 1), (1, 1), (1, 1), (1, 1), (1, 1), (1, 1), (1, 1), (1, 1), (1, 1), (1, 1), (1, 1), (1, 1), (1, 1), (1, 1), (1, 1), (1, 1), (1, 1), (1, 1), (1, 1), (1, 1), (1, 1), (1, 1), (1, 1), (1, 1), (1, 1), (1, 1), (1, 1), (1, 1)]
def qbnd (t : Nat) : Nat × Nat := qbnds.getD t (0, 0)
def qdom (a : QA) : Bool := decide (a.2.1 < (qbnd a.1).1) && decide (a.2.2 < (qbnd a.1).2)
def qfks : List (List Nat) := [[2, 2, 2, 1, 2, 0, 2, 0, 2, 0, 2, 2, 2, 2, 2, 2, 2], [0, 0, 0, 0, 1, 0, 0], [0, 2, 2, 2, 0], [0, 0, 0, 0, 1], [], [2, 0, 2, 2, 0, 0, 2, 0, 0, 2, 2], [0, 0, 0, 0], [], [], [], [], [], [], [2, 2, 2, 0], [], [], [], [], [], [], [], [], [], [], [2, 2, 2, 2, 2, 2, 2, 2, 2, 2, 2, 0, 0, 2, 2, 2, 2, 0, 0, 0, 2, 1, 1, 0, 0, 2, 2, 0, 2, 0, 0, 2, 2, 0, 2, 2, 2, 2], [], [], [], [], [], [], [], [], [], [], [], [], [], [], [], [], [], [], [], [], [], [], [], [], []]
def qfK (t k : Nat) : Nat := (qfks.getD t []).getD k 9
def qfrs : List (List (Option (Nat × Bool × Nat × Nat))) := [[some (2, false, 0, 0), some (2, false, 1, 0), some (2, false, 2, 0), none, some (17, false, 0, 0), none, some (18, false, 0, 0), none, some (19, false, 0, 0), none, some (20, false, 0, 0), some (5, false, 0, 0), some (5, false, 1, 0), some (21, false, 0, 0), some (22, false, 0, 0), some (23, false, 0, 0), some (13, false, 0, 0)], [none, none, none, none, none, none, none], [none, some (3, true, 0, 0), some (3, true, 0, 1), some (4, true, 0, 0), none], [none, none, none, none, none], [], [some (7, true, 0, 0), none, some (8, true, 0, 0), some (9, true, 0, 0), none, none, some (10, true, 0, 0), none, none, some (11, true, 0, 0), some (12, true, 0, 0)], [none, none, none, none], [], [], [], [], [], [], [some (14, false, 0, 0), some (15, false, 0, 0), some (16, false, 0, 0), none], [], [], [], [], [], [], [], [], [], [], [some (25, false, 0, 0), some (26, false, 0, 0), some (27, false, 0, 0), some (28, false, 0, 0), some (29, false, 0, 0), some (30, false, 0, 0), some (31, false, 0, 0), some (32, false, 0, 0), some (33, false, 0, 0), some (34, false, 0, 0), some (35, false, 0, 0), none, none, some (36, false, 0, 0), some (37, false, 0, 0), some (38, false, 0, 0), some (39, false, 0, 0), none, none, none, some (40, false, 0, 0), none, none, none, none, some (41, false, 0, 0), some (42, false, 0, 0), none, some (43, false, 0, 0), none, none, some (44, false, 0, 0), some (45, false, 0, 0), none, some (46, false, 0, 0), some (47, false, 0, 0), some (48, false, 0, 0), some (49, false, 0, 0)], [], [], [], [], [], [], [], [], [], [], [], [], [], [], [], [], [], [], [], [], [], [], [], [], []]
def qfR (a : QA) (k : Nat) : Option QA := match (qfrs.getD a.1 []).getD k none with
  | none => none
  | some (t, b, j, c) => some (t, bif b then a.2.1 else j, c)
def qarrs : List (Nat × Nat × Nat) := [(0, 0, 0), (0, 0, 0), (0, 0, 0), (0, 0, 0), (4, 12, 1), (0, 0, 0), (0, 0, 0), (1, 12, 0), (4, 12, 6), (5, 12, 6), (5, 12, 6), (1, 12, 0), (1, 12, 0), (0, 0, 0), (1, 26, 0), (1, 26, 0), (3, 26, 0), (5, 8, 2), (1, 96, 0), (1, 12, 0), (1, 7, 0), (1, 7, 0), (1, 7, 0), (2, 256, 0), (0, 0, 0), (1, 7, 0), (1, 2, 0), (1, 2, 0), (1, 2, 0), (1, 2, 0), (1, 2, 0), (1, 12, 0), (1, 12, 0), (1, 12, 0), (1, 12, 0), (1, 12, 0), (1, 96, 0), (1, 48, 0), (1, 48, 0), (1, 192, 0), (1, 800, 0), (1, 12, 0), (1, 12, 0), (1, 53248, 0), (1, 14, 0), (1, 12, 0), (2, 4096, 0), (1, 7, 0), (1, 4096, 0), (1, 84, 0)]
def qarr (t : Nat) : Nat × Nat × Nat := qarrs.getD t (0, 0, 0)
abbrev qeK (t : Nat) : Nat := (qarr t).1
abbrev qeL (t : Nat) : Nat := (qarr t).2.1
abbrev qeT (t : Nat) : Nat := (qarr t).2.2
def qcat : QV → Nat
  | .inr (.inl _) => 2
  | _ => 1
def qwd (st : List QV) : Nat := st.foldr (fun v n => qcat v + n) 0
def qput (ls : QL) (i : Nat) (v : QV) : QL := match i with
  | 0 => ls.set 0 (some v)
  | j + 1 => match ls[j]? with
    | some (some (.inr (.inl _))) => (ls.set j none).set (j + 1) (some v)
    | _ => ls.set (j + 1) (some v)
def qpop : Nat → List QV → List QV → Option (List QV × List QV)
  | 0, st, acc => some (acc, st)
  | _ + 1, [], _ => none
  | n + 1, v :: st, acc => qpop n st (v :: acc)
def qmask : List Bool → QL → QL
  | b :: bs, v :: vs => (bif b then v else none) :: qmask bs vs
  | [], vs => vs
  | _ :: _, [] => []
def qmskOf (code : List QE) (t : Nat) : List Bool := match code.find? (fun e => e.1 == t) with
  | some (_, some m, _) => m
  | _ => []
def qsw (jp : Int → QR) (x : Int32) (d : Int) : List (Int × Int) → QR
  | [] => jp d
  | (a, o) :: r => if x = Int32.ofInt a then jp o else qsw jp x d r
def qtab (lo : Int) : List Int → List (Int × Int)
  | [] => []
  | o :: r => (lo, o) :: qtab (lo + 1) r
/-- behind a call: kinds 0 nothing, 1 an int, 2 a long, 3 a reference of a kind, 4 such a one or null -/
def qbV (c : QR) (f : QM → QR) : QR := match c with
  | some (none, μ) => f μ
  | _ => none
def qbI (c : QR) (f : Int32 → QM → QR) : QR := match c with
  | some (some (.inl x), μ) => f x μ
  | _ => none
def qbL (c : QR) (f : Int64 → QM → QR) : QR := match c with
  | some (some (.inr (.inl x)), μ) => f x μ
  | _ => none
def qbR (t : Nat) (c : QR) (f : Nat → Nat → QM → QR) : QR := match c with
  | some (some (.inr (.inr (some a))), μ) => if a.1 = t ∧ qdom a = true then f a.2.1 a.2.2 μ else none
  | _ => none
def qbN (t : Nat) (c : QR) (f : Nat → Nat → QM → QR) (g : QM → QR) : QR := match c with
  | some (some (.inr (.inr (some a))), μ) => if a.1 = t ∧ qdom a = true then f a.2.1 a.2.2 μ else none
  | some (some (.inr (.inr none)), μ) => g μ
  | _ => none
def qcond (c : ClassFile.Cond) (x y : Int32) (A B : QR) : QR := match c with
  | .eq => if x = y then A else B
  | .ne => if x = y then B else A
  | .lt => if x < y then A else B
  | .ge => if y ≤ x then A else B
  | .gt => if y < x then A else B
  | .le => if x ≤ y then A else B
/-- one instruction: on to the next (nx), or a jump (jp) -/
def qop (call : QC) (nx : QL → List QV → QM → QR) (jp : Int → QL → List QV → QM → QR) (o : Instr) (ls : QL) (st : List QV) (μ : QM) : QR :=
  match o with
  | .sipush n => nx ls (qI (Int32.ofInt n) :: st) μ
  | .goto_w n => nx ls (qL (Int64.ofInt n) :: st) μ
  | .aconst_null => nx ls (qO none :: st) μ
  | .iload i => match ls[i]? with
    | some (some (.inl x)) => nx ls (qI x :: st) μ
    | _ => none
  | .lload i => match ls[i]? with
    | some (some (.inr (.inl x))) => nx ls (qL x :: st) μ
    | _ => none
  | .aload i => match ls[i]? with
    | some (some (.inr (.inr x))) => nx ls (qO x :: st) μ
    | _ => none
  | .istore i => match st with
    | .inl x :: st => if i < ls.length then nx (qput ls i (qI x)) st μ else none
    | _ => none
  | .astore i => match st with
    | .inr (.inr x) :: st => if i < ls.length then nx (qput ls i (qO x)) st μ else none
    | _ => none
  | .lstore i => match st with
    | .inr (.inl x) :: st => if i + 1 < ls.length then nx ((qput ls i (qL x)).set (i + 1) none) st μ else none
    | _ => none
  | .iinc i n => match ls[i]? with
    | some (some (.inl x)) => nx (qput ls i (qI (x + Int32.ofInt n))) st μ
    | _ => none
  | .dup => match st with
    | .inl x :: st => nx ls (qI x :: qI x :: st) μ
    | .inr (.inr x) :: st => nx ls (qO x :: qO x :: st) μ
    | _ => none
  | .dup2 => match st with
    | .inl x :: .inr (.inr y) :: st => nx ls (qI x :: qO y :: qI x :: qO y :: st) μ
    | _ => none
  | .pop => match st with
    | .inl _ :: st => nx ls st μ
    | .inr (.inr _) :: st => nx ls st μ
    | _ => none
  | .iadd => match st with
    | .inl y :: .inl x :: st => nx ls (qI (x + y) :: st) μ
    | _ => none
  | .isub => match st with
    | .inl y :: .inl x :: st => nx ls (qI (x - y) :: st) μ
    | _ => none
  | .imul => match st with
    | .inl y :: .inl x :: st => nx ls (qI (x * y) :: st) μ
    | _ => none
  | .iand => match st with
    | .inl y :: .inl x :: st => nx ls (qI (x &&& y) :: st) μ
    | _ => none
  | .ior => match st with
    | .inl y :: .inl x :: st => nx ls (qI (x ||| y) :: st) μ
    | _ => none
  | .ixor => match st with
    | .inl y :: .inl x :: st => nx ls (qI (x ^^^ y) :: st) μ
    | _ => none
  | .ishl => match st with
    | .inl y :: .inl x :: st => nx ls (qI (x <<< (y &&& 31)) :: st) μ
    | _ => none
  | .ishr => match st with
    | .inl y :: .inl x :: st => nx ls (qI (x >>> (y &&& 31)) :: st) μ
    | _ => none
  | .iushr => match st with
    | .inl y :: .inl x :: st => nx ls (qI (x.toUInt32 >>> (y.toUInt32 &&& Int32.toUInt32 31)).toInt32 :: st) μ
    | _ => none
  | .idiv => match st with
    | .inl y :: .inl x :: st => if y = 0 then none else nx ls (qI (x / y) :: st) μ
    | _ => none
  | .irem => match st with
    | .inl y :: .inl x :: st => if y = 0 then none else nx ls (qI (x - x / y * y) :: st) μ
    | _ => none
  | .ineg => match st with
    | .inl x :: st => nx ls (qI (-x) :: st) μ
    | _ => none
  | .ladd => match st with
    | .inr (.inl y) :: .inr (.inl x) :: st => nx ls (qL (x + y) :: st) μ
    | _ => none
  | .lsub => match st with
    | .inr (.inl y) :: .inr (.inl x) :: st => nx ls (qL (x - y) :: st) μ
    | _ => none
  | .lmul => match st with
    | .inr (.inl y) :: .inr (.inl x) :: st => nx ls (qL (x * y) :: st) μ
    | _ => none
  | .lor => match st with
    | .inr (.inl y) :: .inr (.inl x) :: st => nx ls (qL (x ||| y) :: st) μ
    | _ => none
  | .ldiv => match st with
    | .inr (.inl y) :: .inr (.inl x) :: st => if y = 0 then none else nx ls (qL (x / y) :: st) μ
    | _ => none
  | .lrem => match st with
    | .inr (.inl y) :: .inr (.inl x) :: st => if y = 0 then none else nx ls (qL (x - x / y * y) :: st) μ
    | _ => none
  | .lshl => match st with
    | .inl y :: .inr (.inl x) :: st => nx ls (qL (x <<< (y.toInt64 &&& 63)) :: st) μ
    | _ => none
  | .i2l => match st with
    | .inl x :: st => nx ls (qL x.toInt64 :: st) μ
    | _ => none
  | .lcmp => match st with
    | .inr (.inl y) :: .inr (.inl x) :: st => nx ls (qI (lg_cmp x y) :: st) μ
    | _ => none
  | .fadd => match st with
    | .inl y :: .inl x :: st => if qwd st ≤ 8 then nx ls (qI (if x < y then y else x) :: st) μ else none
    | _ => none
  | .fsub => match st with
    | .inl y :: .inl x :: st => if qwd st ≤ 8 then nx ls (qI (if y < x then y else x) :: st) μ else none
    | _ => none
  | .fneg => match st with
    | .inl x :: st => if qwd st ≤ 8 then nx ls (qI (if 0 ≤ x then x else 0 - x) :: st) μ else none
    | _ => none
  | .ifCond c off => match st with
    | .inl x :: st => qcond c x 0 (jp off ls st μ) (nx ls st μ)
    | _ => none
  | .if_icmp c off => match st with
    | .inl y :: .inl x :: st => qcond c x y (jp off ls st μ) (nx ls st μ)
    | _ => none
  | .if_acmp c off => match st with
    | .inr (.inr y) :: .inr (.inr x) :: st => (match c with
      | .eq => if x = y then jp off ls st μ else nx ls st μ
      | .ne => if x = y then nx ls st μ else jp off ls st μ)
    | _ => none
  | .ifnull off => match st with
    | .inr (.inr none) :: st => jp off ls st μ
    | .inr (.inr (some _)) :: st => nx ls st μ
    | _ => none
  | .ifnonnull off => match st with
    | .inr (.inr none) :: st => nx ls st μ
    | .inr (.inr (some _)) :: st => jp off ls st μ
    | _ => none
  | .goto off => jp off ls st μ
  | .tableswitch d lo _ offs => match st with
    | .inl x :: st => qsw (fun off => jp off ls st μ) x d (qtab lo offs.toList)
    | _ => none
  | .lookupswitch d ps => match st with
    | .inl x :: st => qsw (fun off => jp off ls st μ) x d ps.toList
    | _ => none
  | .getfield r => match st with
    | .inr (.inr (some a)) :: st => if a.1 = r / 64 then
        (match qfK (r / 64) (r % 64) with
        | 0 => nx ls (qI (μ.1 a (r % 64)) :: st) μ
        | 1 => nx ls (qI (qbz (μ.1 a (r % 64))) :: st) μ
        | 2 => nx ls (qO (qfR a (r % 64)) :: st) μ
        | _ => none) else none
    | _ => none
  | .putfield r => match st with
    | .inl x :: .inr (.inr (some a)) :: st => if a.1 = r / 64 then
        (match qfK (r / 64) (r % 64) with
        | 0 => nx ls st (qsi μ a (r % 64) x)
        | 1 => if x = 0 ∨ x = 1 then nx ls st (qsi μ a (r % 64) x) else none
        | _ => none) else none
    | _ => none
  | .arraylength => match st with
    | .inr (.inr (some a)) :: st => if qeK a.1 = 0 then none else nx ls (qI (Int32.ofInt (qeL a.1 : Nat)) :: st) μ
    | _ => none
  | .iaload => match st with
    | .inl i :: .inr (.inr (some a)) :: st => if qeK a.1 = 1 then (bif qoob i (qeL a.1) then none else nx ls (qI (μ.1 a (qix i)) :: st) μ) else none
    | _ => none
  | .baload => match st with
    | .inl i :: .inr (.inr (some a)) :: st => if qeK a.1 = 3 then (bif qoob i (qeL a.1) then none else nx ls (qI (μ.1 a (qix i)) :: st) μ) else none
    | _ => none
  | .laload => match st with
    | .inl i :: .inr (.inr (some a)) :: st => if qeK a.1 = 2 then (bif qoob i (qeL a.1) then none else nx ls (qL (μ.2.1 a (qix i)) :: st) μ) else none
    | _ => none
  | .aaload => match st with
    | .inl i :: .inr (.inr (some a)) :: st => bif qoob i (qeL a.1) then none else
        if qeK a.1 = 4 then nx ls (qR (qeT a.1, a.2.1, qix i) :: st) μ
        else if qeK a.1 = 5 then (match μ.2.2 a (qix i) with
          | none => nx ls (qO none :: st) μ
          | some b => if b.1 = qeT a.1 ∧ qdom b = true then nx ls (qR (qeT a.1, b.2.1, b.2.2) :: st) μ else none)
        else none
    | _ => none
  | .iastore => match st with
    | .inl x :: .inl i :: .inr (.inr (some a)) :: st => if qeK a.1 = 1 then (bif qoob i (qeL a.1) then none else nx ls st (qsi μ a (qix i) x)) else none
    | _ => none
  | .bastore => match st with
    | .inl x :: .inl i :: .inr (.inr (some a)) :: st => if qeK a.1 = 3 ∧ (x = 0 ∨ x = 1) then (bif qoob i (qeL a.1) then none else nx ls st (qsi μ a (qix i) x)) else none
    | _ => none
  | .lastore => match st with
    | .inr (.inl x) :: .inl i :: .inr (.inr (some a)) :: st => if qeK a.1 = 2 then (bif qoob i (qeL a.1) then none else nx ls st (qsl μ a (qix i) x)) else none
    | _ => none
  | .aastore => match st with
    | .inr (.inr none) :: .inl i :: .inr (.inr (some a)) :: st => if qeK a.1 = 5 then (bif qoob i (qeL a.1) then none else nx ls st (qsr μ a (qix i) none)) else none
    | .inr (.inr (some b)) :: .inl i :: .inr (.inr (some a)) :: st => if qeK a.1 = 5 ∧ b.1 = qeT a.1 then (bif qoob i (qeL a.1) then none else nx ls st (qsr μ a (qix i) (some b))) else none
    | _ => none
  | .faload => match st with
    | .inl i :: .inr (.inr (some a)) :: st => if a = (99, 0, 0) then qbI (call 9999 [qI i] μ) (fun x _ => nx ls (qI x :: st) μ) else none
    | _ => none
  | .fload _ => match st with
    | .inr (.inr (some a)) :: st => if a = (99, 0, 0) then qbI (call 9998 [] μ) (fun x _ => nx ls (qI x :: st) μ) else none
    | _ => none
  | .invokeinterface y c => match qpop (c / 8 % 8) st [] with
    | some (av, st) => if qwd st ≤ 8 then
        (match c % 8 with
        | 0 => qbV (call y av μ) (fun μ => nx ls st μ)
        | 1 => qbI (call y av μ) (fun x μ => nx ls (qI x :: st) μ)
        | 2 => qbL (call y av μ) (fun x μ => nx ls (qL x :: st) μ)
        | 3 => qbR (c / 64) (call y av μ) (fun j k μ => nx ls (qR (c / 64, j, k) :: st) μ)
        | 4 => qbN (c / 64) (call y av μ) (fun j k μ => nx ls (qR (c / 64, j, k) :: st) μ) (fun μ => nx ls (qO none :: st) μ)
        | _ => none) else none
    | none => none
  | .ireturn => match st with
    | [.inl x] => some (some (qI x), μ)
    | _ => none
  | .freturn => match st with
    | [.inl x] => if x = 0 ∨ x = 1 then some (some (qI x), μ) else none
    | _ => none
  | .lreturn => match st with
    | [.inr (.inl x)] => some (some (qL x), μ)
    | _ => none
  | .areturn => match st with
    | [.inr (.inr x)] => some (some (qO x), μ)
    | _ => none
  | .return_ => match st with
    | [] => some (none, μ)
    | _ => none
  | _ => none
def qjmp (k : Nat → QL → List QV → QM → QR) (code : List QE) (pc : Nat) (off : Int) (ls : QL) (st : List QV) (μ : QM) : QR :=
  k ((pc : Int) + off).toNat (qmask (qmskOf code ((pc : Int) + off).toNat) ls) st μ
def qsem (call : QC) (k : Nat → QL → List QV → QM → QR) (code : List QE) : List QE → Bool → QL → List QV → QM → QR
  | [] => fun _ _ _ _ => none
  | e :: rest => fun b ls st μ => match b, e.2.1 with
    | true, some m => k e.1 (qmask m ls) st μ
    | _, _ => qop call (qsem call k code rest true) (qjmp k code e.1) e.2.2 ls st μ
def qfrom (code : List QE) (pc : Nat) : List QE := code.dropWhile (fun e => !(e.1 == pc))
def qrunF (call : QC) (code : List QE) : Nat → Nat → QL → List QV → QM → QR
  | 0 => fun _ _ _ _ => none
  | n + 1 => fun pc ls st μ => qsem call (qrunF call code n) code (qfrom code pc) false ls st μ
noncomputable def qsup (f : Nat → QR) : QR := @dite _ (∃ n, (f n).isSome = true) (Classical.propDecidable _) (fun h => f h.choose) (fun _ => none)
noncomputable def qrun (call : QC) (code : List QE) (pc : Nat) (ls : QL) (st : List QV) (μ : QM) : QR := qsup (fun n => qrunF call code n pc ls st μ)
