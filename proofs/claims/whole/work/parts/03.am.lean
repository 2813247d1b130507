/-! THE SMALL MACHINE: ints and longs as integers, cells by their numbers in a fixed layout; a method's text between two cut points is told as one proposition (wp), and wp is sound for the machine (part 04). -/
abbrev AV : Type := Int ⊕ Int ⊕ Nat
abbrev vI (z : Int) : AV := .inl z
abbrev vJ (z : Int) : AV := .inr (.inl z)
abbrev vR (k : Nat) : AV := .inr (.inr k)
/-- scalars (cell, slot); rows (cell, place) -/
abbrev AH : Type := (Nat → Nat → Int) × (Nat → Nat → Int)
abbrev AL : Type := List (Option AV)
abbrev inR (z : Int) : Prop := -2147483648 ≤ z ∧ z ≤ 2147483647
abbrev inJ (z : Int) : Prop := -9223372036854775808 ≤ z ∧ z ≤ 9223372036854775807
/-- a layout: how many cells; (0, class, 0) or (1, kind of element, length); which cell a reference field holds -/
abbrev WD : Type := Nat × (Nat → Nat × Nat × Nat) × (Nat → Nat → Nat)
def isO (w : WD) (k ci : Nat) : Prop := k < w.1 ∧ w.2.1 k = (0, ci, 0)
def isA (w : WD) (k ty : Nat) : Prop := k < w.1 ∧ (w.2.1 k).1 = 1 ∧ (w.2.1 k).2.1 = ty
abbrev alen (w : WD) (k : Nat) : Int := (((w.2.1 k).2.2 : Nat) : Int)
abbrev rfk (w : WD) (k j : Nat) : Nat := w.2.2 k j
def pS (h : AH) (k j : Nat) (z : Int) : AH := (fun k' j' => if j' = j ∧ k' = k then z else h.1 k' j', h.2)
def pA (h : AH) (k i : Nat) (z : Int) : AH := (h.1, fun k' i' => if k' = k ∧ i' = i then z else h.2 k' i')
abbrev gS (h : AH) (k j : Nat) : Int := h.1 k j
abbrev gA (h : AH) (k : Nat) (i : Int) : Int := h.2 k i.toNat
def lgt : AL → Nat → Option AV
  | [], _ => none
  | v :: _, 0 => v
  | _ :: L, n + 1 => lgt L n
def lst : AL → Nat → Option AV → AL
  | [], _, _ => []
  | _ :: L, 0, v => v :: L
  | u :: L, n + 1, v => u :: lst L n v
def is2 : Option AV → Bool
  | some (.inr (.inl _)) => true
  | _ => false
/-- what stands at k - 1 is forgotten if it was a long -/
def lcl (L : AL) : Nat → AL
  | 0 => L
  | k + 1 => bif is2 (lgt L k) then lst L k none else L
def lmk : AL → List Bool → AL
  | v :: L, b :: bs => (bif b then v else none) :: lmk L bs
  | _, _ => []
/-- the low 32 bits, as a signed number -/
def wrI (z : Int) : Int := (Int32.ofInt z).toInt
def wrJ (z : Int) : Int := (Int64.ofInt z).toInt
def andI (a b : Int) : Int := (Int32.ofInt a &&& Int32.ofInt b).toInt
def orI (a b : Int) : Int := (Int32.ofInt a ||| Int32.ofInt b).toInt
def shlI (a b : Int) : Int := (Int32.ofInt a <<< (Int32.ofInt b &&& 31)).toInt
def shrI (a b : Int) : Int := (Int32.ofInt a >>> (Int32.ofInt b &&& 31)).toInt
def andJ (a b : Int) : Int := (Int64.ofInt a &&& Int64.ofInt b).toInt
def orJ (a b : Int) : Int := (Int64.ofInt a ||| Int64.ofInt b).toInt
def shlJ (a b : Int) : Int := (Int64.ofInt a <<< ((Int32.ofInt b).toInt64 &&& 63)).toInt
def shrJ (a b : Int) : Int := (Int64.ofInt a >>> ((Int32.ofInt b).toInt64 &&& 63)).toInt
def p1 (st : List AV) (f : Int → List AV → Prop) : Prop := match st with
  | .inl a :: st' => f a st'
  | _ => False
def p2 (st : List AV) (f : Int → Int → List AV → Prop) : Prop := match st with
  | .inl b :: .inl a :: st' => f a b st'
  | _ => False
def j1 (st : List AV) (f : Int → List AV → Prop) : Prop := match st with
  | .inr (.inl a) :: st' => f a st'
  | _ => False
def j2 (st : List AV) (f : Int → Int → List AV → Prop) : Prop := match st with
  | .inr (.inl b) :: .inr (.inl a) :: st' => f a b st'
  | _ => False
def r1 (st : List AV) (f : Nat → List AV → Prop) : Prop := match st with
  | .inr (.inr k) :: st' => f k st'
  | _ => False
/-- int over reference (index over array) -/
def ir (st : List AV) (f : Int → Nat → List AV → Prop) : Prop := match st with
  | .inl i :: .inr (.inr k) :: st' => f i k st'
  | _ => False
/-- int, index, array -/
def iir (st : List AV) (f : Int → Int → Nat → List AV → Prop) : Prop := match st with
  | .inl x :: .inl i :: .inr (.inr k) :: st' => f x i k st'
  | _ => False
def jir (st : List AV) (f : Int → Int → Nat → List AV → Prop) : Prop := match st with
  | .inr (.inl x) :: .inl i :: .inr (.inr k) :: st' => f x i k st'
  | _ => False
def br (c A B : Prop) : Prop := (c → A) ∧ (¬ c → B)
def cmpI (c : ClassFile.Cond) (a b : Int) : Prop := match c with
  | .eq => a = b
  | .ne => a ≠ b
  | .lt => a < b
  | .ge => b ≤ a
  | .gt => b < a
  | .le => a ≤ b
/-- the places of a switch, from z = k on -/
def swT (pc : Nat) (z : Int) (jp : Nat → Prop) : Int → List Int → Prop
  | _, [] => True
  | k, o :: os => (z = k → jp ((pc : Int) + o).toNat) ∧ swT pc z jp (k + 1) os
def swL (pc : Nat) (z : Int) (jp : Nat → Prop) (d : Int) : List (Int × Int) → Prop
  | [] => jp ((pc : Int) + d).toNat
  | q :: qs => br (z = q.1) (jp ((pc : Int) + q.2).toNat) (swL pc z jp d qs)
def cmpJ (a b : Int) : Int := if a < b then -1 else if a = b then 0 else 1
/-- a check that is decided by the layout: gone where the cell is known -/
def ob (b : Bool) (P : Prop) : Prop := match b with
  | true => P
  | false => False
/-- 0 or 1: gone where the number is written out -/
def zok (z : Int) (P : Prop) : Prop := match z with
  | .ofNat 0 => P
  | .ofNat 1 => P
  | _ => False
def isOb (w : WD) (k ci : Nat) : Bool := Nat.blt k w.1 && ((w.2.1 k).1 == 0 && (w.2.1 k).2.1 == ci)
def isAb (w : WD) (k ty : Nat) : Bool := Nat.blt k w.1 && ((w.2.1 k).1 == 1 && (w.2.1 k).2.1 == ty)
def isAn (w : WD) (k : Nat) : Bool := Nat.blt k w.1 && ((w.2.1 k).1 == 1 && (Nat.blt (w.2.1 k).2.1 4 && Nat.ble (w.2.1 k).2.2 2147483647))
abbrev isStr (k : Nat) : Bool := Nat.ble 1000 k && Nat.blt k 1175
abbrev isEn (k : Nat) : Bool := Nat.ble 2000 k && Nat.blt k 2133
/-- an instruction: plain, or resolved: (kind, pool entry, x, y, place of its word, number) -/
abbrev AI : Type := Instr ⊕ (Nat × Nat × Nat × Nat × Nat × Int)
/-- what a method's end must meet -/
abbrev AR : Type := Option AV → AH → Prop
def rV (Q : AH → Prop) : AR := fun o h => match o with
  | none => Q h
  | _ => False
def rI (Q : Int → AH → Prop) : AR := fun o h => match o with
  | some (.inl z) => Q z h
  | _ => False
def rJ (Q : Int → AH → Prop) : AR := fun o h => match o with
  | some (.inr (.inl z)) => Q z h
  | _ => False
def rR (Q : Nat → AH → Prop) : AR := fun o h => match o with
  | some (.inr (.inr k)) => Q k h
  | _ => False
section WPI
variable (wd : WD) (call : Nat → List AV → AH → AR → Prop) (R : AR) (pc : Nat) (L : AL) (st : List AV) (h : AH) (nx : AL → List AV → AH → Prop) (jp : Nat → AL → List AV → AH → Prop)
def ldI (k : Nat) : Prop := match lgt L k with
  | some (.inl z) => nx L (.inl z :: st) h
  | _ => False
def ldJ (k : Nat) : Prop := match lgt L k with
  | some (.inr (.inl z)) => nx L (.inr (.inl z) :: st) h
  | _ => False
def ldR (k : Nat) : Prop := match lgt L k with
  | some (.inr (.inr z)) => nx L (.inr (.inr z) :: st) h
  | _ => False
def stI (k : Nat) : Prop := p1 st fun z st' => nx (lst (lcl L k) k (some (.inl z))) st' h
def stR (k : Nat) : Prop := r1 st fun z st' => nx (lst (lcl L k) k (some (.inr (.inr z)))) st' h
def stJ (k : Nat) : Prop := j1 st fun z st' => nx (lst (lst (lcl L k) k (some (.inr (.inl z)))) (k + 1) none) st' h
def bop (f : Int → Int → Int) : Prop := p2 st fun a b st' => inR (f a b) ∧ nx L (.inl (f a b) :: st') h
def bof (f : Int → Int → Int) : Prop := p2 st fun a b st' => nx L (.inl (f a b) :: st') h
def jop (f : Int → Int → Int) : Prop := j2 st fun a b st' => inJ (f a b) ∧ nx L (.inr (.inl (f a b)) :: st') h
def jof (f : Int → Int → Int) : Prop := j2 st fun a b st' => nx L (.inr (.inl (f a b)) :: st') h
/-- long under int (shifts) -/
def jsh (f : Int → Int → Int) : Prop := match st with
  | .inl b :: .inr (.inl a) :: st' => nx L (.inr (.inl (f a b)) :: st') h
  | _ => False
def arL (ty : Nat) : Prop := ir st fun i k st' => ob (isAb wd k ty) ((0 ≤ i ∧ i < alen wd k) ∧ nx L (.inl (gA h k i) :: st') h)
def arS (ty : Nat) : Prop := iir st fun x i k st' => ob (isAb wd k ty) ((0 ≤ i ∧ i < alen wd k) ∧ nx L st' (pA h k i.toNat x))
def wpP (i : Instr) : Prop := match i with
  | .aaload => ir st fun i k st' => ob (Nat.beq k 3000) ((0 ≤ i ∧ i < 133) ∧ nx L (.inr (.inr (2000 + i.toNat)) :: st') h)
  | .aload k => ldR L st h nx k
  | .aload_n k => ldR L st h nx k
  | .areturn => match st with
    | [.inr (.inr k)] => R (some (.inr (.inr k))) h
    | _ => False
  | .arraylength => r1 st fun k st' => ob (isAn wd k) (nx L (.inl (alen wd k) :: st') h)
  | .astore k => stR L st h nx k
  | .astore_n k => stR L st h nx k
  | .baload => arL wd L st h nx 2
  | .bastore => iir st fun x i k st' => ob (isAb wd k 2) ((0 ≤ i ∧ i < alen wd k) ∧ zok x (nx L st' (pA h k i.toNat x)))
  | .bipush n => nx L (.inl n :: st) h
  | .caload => arL wd L st h nx 3
  | .castore => iir st fun x i k st' => ob (isAb wd k 3) ((0 ≤ i ∧ i < alen wd k) ∧ (0 ≤ x ∧ x < 65536) ∧ nx L st' (pA h k i.toNat x))
  | .dup => match st with
    | .inl z :: st' => nx L (.inl z :: .inl z :: st') h
    | .inr (.inr z) :: st' => nx L (.inr (.inr z) :: .inr (.inr z) :: st') h
    | _ => False
  | .dup2 => match st with
    | .inl z :: .inr (.inr y) :: st' => nx L (.inl z :: .inr (.inr y) :: .inl z :: .inr (.inr y) :: st') h
    | _ => False
  | .goto o => jp ((pc : Int) + o).toNat L st h
  | .i2c => p1 st fun z st' => (0 ≤ z ∧ z < 65536) ∧ nx L (.inl z :: st') h
  | .i2l => p1 st fun z st' => nx L (.inr (.inl z) :: st') h
  | .iadd => bop L st h nx (fun a b => a + b)
  | .iaload => arL wd L st h nx 0
  | .iand => bof L st h nx andI
  | .iastore => arS wd L st h nx 0
  | .iconst n => nx L (.inl n :: st) h
  | .idiv => p2 st fun a b st' => (b ≠ 0 ∧ inR (a.tdiv b)) ∧ nx L (.inl (a.tdiv b) :: st') h
  | .if_icmp c o => p2 st fun a b st' => br (cmpI c a b) (jp ((pc : Int) + o).toNat L st' h) (nx L st' h)
  | .ifCond c o => p1 st fun a st' => br (cmpI c a 0) (jp ((pc : Int) + o).toNat L st' h) (nx L st' h)
  | .iinc k n => match lgt L k with
    | some (.inl z) => inR (z + n) ∧ nx (lst L k (some (.inl (z + n)))) st h
    | _ => False
  | .iload k => ldI L st h nx k
  | .iload_n k => ldI L st h nx k
  | .imul => bop L st h nx (fun a b => a * b)
  | .ineg => p1 st fun a st' => inR (-a) ∧ nx L (.inl (-a) :: st') h
  | .ior => bof L st h nx orI
  | .irem => p2 st fun a b st' => b ≠ 0 ∧ nx L (.inl (a.tmod b) :: st') h
  | .ireturn => match st with
    | [.inl z] => R (some (.inl z)) h
    | _ => False
  | .ishl => bof L st h nx shlI
  | .ishr => bof L st h nx shrI
  | .istore k => stI L st h nx k
  | .istore_n k => stI L st h nx k
  | .isub => bop L st h nx (fun a b => a - b)
  | .l2i => j1 st fun z st' => inR z ∧ nx L (.inl z :: st') h
  | .ladd => jop L st h nx (fun a b => a + b)
  | .laload => ir st fun i k st' => ob (isAb wd k 1) ((0 ≤ i ∧ i < alen wd k) ∧ nx L (.inr (.inl (gA h k i)) :: st') h)
  | .land => jof L st h nx andJ
  | .lastore => jir st fun x i k st' => ob (isAb wd k 1) ((0 ≤ i ∧ i < alen wd k) ∧ nx L st' (pA h k i.toNat x))
  | .lcmp => j2 st fun a b st' => nx L (.inl (cmpJ a b) :: st') h
  | .lconst n => nx L (.inr (.inl ((n : Nat) : Int)) :: st) h
  | .ldiv => j2 st fun a b st' => (b ≠ 0 ∧ inJ (a.tdiv b)) ∧ nx L (.inr (.inl (a.tdiv b)) :: st') h
  | .lload k => ldJ L st h nx k
  | .lload_n k => ldJ L st h nx k
  | .lmul => jop L st h nx (fun a b => a * b)
  | .lookupswitch d ps => p1 st fun z st' => swL pc z (fun t => jp t L st' h) d ps.toList
  | .lor => jof L st h nx orJ
  | .lrem => j2 st fun a b st' => b ≠ 0 ∧ nx L (.inr (.inl (a.tmod b)) :: st') h
  | .lreturn => match st with
    | [.inr (.inl z)] => R (some (.inr (.inl z))) h
    | _ => False
  | .lshl => jsh L st h nx shlJ
  | .lshr => jsh L st h nx shrJ
  | .lstore k => stJ L st h nx k
  | .lstore_n k => stJ L st h nx k
  | .lsub => jop L st h nx (fun a b => a - b)
  | .return_ => match st with
    | [] => R none h
    | _ => False
  | .sipush n => nx L (.inl n :: st) h
  | .tableswitch d lo hi os => p1 st fun z st' => (z < lo ∨ hi < z → jp ((pc : Int) + d).toNat L st' h) ∧ swT pc z (fun t => jp t L st' h) lo os.toList
  | _ => False
/-- the n top entries, the deepest first -/
def popN : Nat → List AV → List AV → Option (List AV × List AV)
  | 0, acc, st => some (acc, st)
  | n + 1, acc, v :: st => popN n (v :: acc) st
  | _ + 1, _, [] => none
def catS : List AV → Nat
  | [] => 0
  | .inl _ :: st => catS st + 1
  | .inr (.inl _) :: st => catS st + 2
  | .inr (.inr _) :: st => catS st + 1
/-- the receiver is of the class; 8: a text; 99: there is none -/
def rcv (cc : Nat) (as : List AV) (P : Prop) : Prop := match cc with
  | 99 => P
  | 8 => (match as with
    | .inr (.inr k) :: _ => ob (isStr k) P
    | _ => False)
  | n => (match as with
    | .inr (.inr k) :: _ => ob (isOb wd k n) P
    | _ => False)
def wpC (mid y : Nat) (z : Int) : Prop := match popN (y % 100) [] st with
  | some (as, st') => rcv wd (y / 100) as (ob (Nat.ble (catS st') 8) (match z with
    | 0 => call mid as h (rV fun h' => nx L st' h')
    | 1 => call mid as h (rI fun v h' => nx L (.inl v :: st') h')
    | 2 => call mid as h (rJ fun v h' => nx L (.inr (.inl v) :: st') h')
    | _ => call mid as h (rR fun v h' => nx L (.inr (.inr v) :: st') h')))
  | none => False
def wpX (q : Nat × Nat × Nat × Nat × Nat × Int) : Prop := match q with
  | (0, _, x, y, _, _) => r1 st fun k st' => ob (isOb wd k x) (nx L (.inl (gS h k y) :: st') h)
  | (1, _, x, y, _, _) => r1 st fun k st' => ob (isOb wd k x) (nx L (.inr (.inr (rfk wd k y)) :: st') h)
  | (2, _, x, y, _, _) => ir st fun z k st' => ob (isOb wd k x) (nx L st' (pS h k y z))
  | (3, _, x, y, _, _) => ir st fun z k st' => ob (isOb wd k x) (zok z (nx L st' (pS h k y z)))
  | (4, _, x, y, _, z) => wpC wd call L st h nx x y z
  | (5, _, _, _, _, z) => nx L (.inr (.inl z) :: st) h
  | (6, _, _, _, _, z) => nx L (.inl z :: st) h
  | (7, _, x, _, _, _) => nx L (.inr (.inr (1000 + x)) :: st) h
  | (8, _, _, _, _, _) => nx L (.inr (.inr 3000) :: st) h
  | (9, _, _, y, _, _) => r1 st fun k st' => ob (isEn k) (nx L (.inl (efI y (k - 2000)) :: st') h)
  | (10, _, _, _, _, _) => r1 st fun k st' => ob (isEn k) (nx L (.inr (.inr (1000 + efS (k - 2000))) :: st') h)
  | (11, _, _, _, _, _) => (match st with
    | [.inl z] => zok z (R (some (.inl z)) h)
    | _ => False)
  | (13, _, _, _, _, _) => r1 st fun k st' => ob (Nat.beq k 3000) (nx L (.inl 133 :: st') h)
  | (12, _, _, _, _, _) => ir st fun n k st' => ob (isEn k) (nx L (.inl (if efI 0 (k - 2000) ≤ n ∧ n ≤ efI 1 (k - 2000) then 1 else 0) :: st') h)
  | _ => False
end WPI
