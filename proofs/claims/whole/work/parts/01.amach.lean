/-! THE ABSTRACT MACHINE: places instead of addresses, blocks of resolved instructions; what it answers is shown (part sound) to be what the machine does. Own work. -/
/-- heap: how many cells, how many slots, the cells by place (array: number of its type, length, contents; object: number of its class, fields) -/
abbrev AH : Type := Nat × Nat × (Nat → va_E)
abbrev Res : Type := Option Value × AH
/-- an operand: a constant, two numbers, a table, places of words -/
abbrev Opd : Type := Value × Nat × Nat × List (Nat × Nat × Nat) × List Nat
abbrev Ins : Type := Nat × Nat × Instr × Opd
/-- a local that holds nothing -/
abbrev Jk : Value := .float 0
def hcell (h : AH) (p : Nat) : Option va_E := if p < h.1 then some (h.2.2 p) else none
def hset (h : AH) (p : Nat) (c : va_E) : AH := (h.1, h.2.1, va_up h.2.2 p c)
def hpush (h : AH) (c : va_E) (n : Nat) : AH := (h.1 + 1, h.2.1 + n, va_up h.2.2 h.1 c)
def gI (h : AH) (p ci k : Nat) : Option Int32 := match hcell h p with
  | some (.inr (c, fs)) => if c = ci then (match fs[k]? with | some (.int x) => some x | _ => none) else none
  | _ => none
def gR (h : AH) (p ci k : Nat) : Option Nat := match hcell h p with
  | some (.inr (c, fs)) => if c = ci then (match fs[k]? with | some (.ref x) => some x | _ => none) else none
  | _ => none
def pV (h : AH) (p ci k : Nat) (v : Value) : Option AH := match hcell h p with
  | some (.inr (c, fs)) => if c = ci ∧ k < fs.length then some (hset h p (.inr (c, fs.set k v))) else none
  | _ => none
def aI (h : AH) (p : Nat) (i : Int32) : Option Int32 := match hcell h p with
  | some (.inl (t, n, .inl f)) => if t = 0 then (if i < 0 ∨ n ≤ i.toNatClampNeg then none else some (f i.toNatClampNeg)) else none
  | _ => none
def sI (h : AH) (p : Nat) (i x : Int32) : Option AH := match hcell h p with
  | some (.inl (t, n, .inl f)) => if t = 0 then (if i < 0 ∨ n ≤ i.toNatClampNeg then none else some (hset h p (.inl (t, n, .inl (upd f i.toNatClampNeg x))))) else none
  | _ => none
def aR (h : AH) (p t : Nat) (i : Int32) : Option Nat := match hcell h p with
  | some (.inl (t', n, .inr (.inr (.inr (.inr f))))) => if t' = t then (if i < 0 ∨ n ≤ i.toNatClampNeg then none else f i.toNatClampNeg) else none
  | _ => none
def sR (h : AH) (p : Nat) (i : Int32) (q : Nat) : Option AH := match hcell h p with
  | some (.inl (t, n, .inr (.inr (.inr (.inr f))))) => if i < 0 ∨ n ≤ i.toNatClampNeg then none else some (hset h p (.inl (t, n, .inr (.inr (.inr (.inr (va_up f i.toNatClampNeg (some q)))))))) 
  | _ => none
/-- System.arraycopy of ints -/
def cpA (h : AH) (s : Nat) (sp : Int32) (d : Nat) (dp n : Int32) : Option AH := match hcell h s with
  | some (.inl (t0, n0, .inl f)) => (match hcell h d with
    | some (.inl (t1, n1, .inl g)) => if t0 = 0 ∧ t1 = 0 ∧ ¬ sp < 0 ∧ ¬ dp < 0 ∧ ¬ n < 0 ∧ sp.toNatClampNeg + n.toNatClampNeg ≤ n0 ∧ dp.toNatClampNeg + n.toNatClampNeg ≤ n1 then some (hset h d (.inl (t1, n1, .inl (va_cpy f g sp.toNatClampNeg dp.toNatClampNeg n.toNatClampNeg)))) else none
    | _ => none)
  | _ => none
/-- the number of an object's class -/
def clsOf (h : AH) (p : Nat) : Option Nat := match hcell h p with
  | some (.inr (c, _)) => some c
  | _ => none
def dfl (L : List (Nat × Nat × Nat)) : List Value := L.map fun q => if q.1 = 0 then .int 0 else .null
def newO (h : AH) (ci : Nat) (L : List (Nat × Nat × Nat)) : AH := hpush h (.inr (ci, dfl L)) L.length
def newI (h : AH) (n : Nat) : AH := hpush h (.inl (0, n, .inl (fun _ => 0))) n
def newR (h : AH) (t n : Nat) : AH := hpush h (.inl (t, n, .inr (.inr (.inr (.inr (fun _ => none)))))) n
def newM (h : AH) (n k : Nat) : AH := (h.1 + 1 + n, h.2.1 + (n + n * k), fun j => if j = h.1 then .inl (3, n, .inr (.inr (.inr (.inr (fun i => if i < n then some (h.1 + 1 + i) else none))))) else if h.1 < j ∧ j ≤ h.1 + n then .inl (0, k, .inl (fun _ => 0)) else h.2.2 j)
-- locals
def mskN : Nat → List Value → List Value
  | _, [] => []
  | m, v :: r => (if m % 2 = 1 then v else Jk) :: mskN (m / 2) r
def killL (i : Nat) (ls : List Value) : List Value := match i with
  | 0 => ls
  | j + 1 => match ls[j]? with
    | some (.long _) => ls.set j Jk
    | some (.double _) => ls.set j Jk
    | _ => ls
def st1 (i : Nat) (v : Value) (ls : List Value) : Option (List Value) := if i < ls.length then some ((killL i ls).set i v) else none
def st2 (i : Nat) (v : Value) (ls : List Value) : Option (List Value) := if i + 1 < ls.length then some (((killL i ls).set i v).set (i + 1) Jk) else none
def layL : List Value → List Value
  | [] => []
  | .long x :: r => .long x :: Jk :: layL r
  | .double x :: r => .double x :: Jk :: layL r
  | v :: r => v :: layL r
def entL (n : Nat) (as : List Value) : List Value := layL as ++ List.replicate (n - (layL as).length) Jk
def popN : Nat → List Value → List Value → Option (List Value × List Value)
  | 0, acc, st => some (acc, st)
  | n + 1, acc, v :: st => popN n (v :: acc) st
  | _ + 1, _, [] => none
def catS (l : List Value) : Nat := (l.map fun v => v.category).sum
-- what comes behind a call
def cV (o : Option Res) (F : AH → Option Res) : Option Res := match o with
  | some (none, h) => F h
  | _ => none
def cI (o : Option Res) (F : Int32 → AH → Option Res) : Option Res := match o with
  | some (some (.int x), h) => F x h
  | _ => none
def cL (o : Option Res) (F : Int64 → AH → Option Res) : Option Res := match o with
  | some (some (.long x), h) => F x h
  | _ => none
def cR (o : Option Res) (F : Nat → AH → Option Res) : Option Res := match o with
  | some (some (.ref x), h) => F x h
  | _ => none
def retK (k : Nat) (o : Option Res) (r : List Value) (F : List Value → AH → Option Res) : Option Res := match k with
  | 0 => cV o (fun h => F r h)
  | 1 => cI o (fun x h => F (.int x :: r) h)
  | 2 => cL o (fun x h => F (.long x :: r) h)
  | _ => cR o (fun x h => F (.ref x :: r) h)
/-- instructions that touch locals and stack alone -/
def pst (i : Instr) (o : Opd) (ls st : List Value) : Option (List Value × List Value) := match i with
  | .iconst _ | .bipush _ | .sipush _ | .ldc _ | .ldc_w _ | .lconst _ | .ldc2_w _ => some (ls, o.1 :: st)
  | .iload_n _ | .iload _ => (match ls[o.2.1]? with | some (.int x) => some (ls, .int x :: st) | _ => none)
  | .lload_n _ | .lload _ => (match ls[o.2.1]? with | some (.long x) => some (ls, .long x :: st) | _ => none)
  | .aload_n _ | .aload _ => (match ls[o.2.1]? with | some (.ref x) => some (ls, .ref x :: st) | some (.retAddr x) => some (ls, .retAddr x :: st) | _ => none)
  | .istore_n _ | .istore _ => (match st with | .int x :: r => (match st1 o.2.1 (.int x) ls with | some l => some (l, r) | none => none) | _ => none)
  | .astore_n _ | .astore _ => (match st with | .ref x :: r => (match st1 o.2.1 (.ref x) ls with | some l => some (l, r) | none => none) | _ => none)
  | .lstore_n _ | .lstore _ => (match st with | .long x :: r => (match st2 o.2.1 (.long x) ls with | some l => some (l, r) | none => none) | _ => none)
  | .iinc _ _ => (match ls[o.2.1]? with | some (.int x) => (match o.1 with | .int y => (match st1 o.2.1 (.int (x + y)) ls with | some l => some (l, st) | none => none) | _ => none) | _ => none)
  | .iadd => (match st with | .int y :: .int x :: r => some (ls, .int (x + y) :: r) | _ => none)
  | .isub => (match st with | .int y :: .int x :: r => some (ls, .int (x - y) :: r) | _ => none)
  | .imul => (match st with | .int y :: .int x :: r => some (ls, .int (x * y) :: r) | _ => none)
  | .iand => (match st with | .int y :: .int x :: r => some (ls, .int (x &&& y) :: r) | _ => none)
  | .ior => (match st with | .int y :: .int x :: r => some (ls, .int (x ||| y) :: r) | _ => none)
  | .ixor => (match st with | .int y :: .int x :: r => some (ls, .int (x ^^^ y) :: r) | _ => none)
  | .ineg => (match st with | .int x :: r => some (ls, .int (-x) :: r) | _ => none)
  | .ishl => (match st with | .int y :: .int x :: r => some (ls, .int (x <<< (y &&& 31)) :: r) | _ => none)
  | .ishr => (match st with | .int y :: .int x :: r => some (ls, .int (x >>> (y &&& 31)) :: r) | _ => none)
  | .iushr => (match st with | .int y :: .int x :: r => some (ls, .int (x.toUInt32 >>> (y.toUInt32 &&& Int32.toUInt32 31)).toInt32 :: r) | _ => none)
  | .i2l => (match st with | .int x :: r => some (ls, .long x.toInt64 :: r) | _ => none)
  | .l2i => (match st with | .long x :: r => some (ls, .int x.toInt32 :: r) | _ => none)
  | .i2b => (match st with | .int x :: r => some (ls, .int x.toInt8.toInt32 :: r) | _ => none)
  | .i2s => (match st with | .int x :: r => some (ls, .int x.toInt16.toInt32 :: r) | _ => none)
  | .ladd => (match st with | .long y :: .long x :: r => some (ls, .long (x + y) :: r) | _ => none)
  | .lmul => (match st with | .long y :: .long x :: r => some (ls, .long (x * y) :: r) | _ => none)
  | .lcmp => (match st with | .long y :: .long x :: r => some (ls, .int (lg_cmp x y) :: r) | _ => none)
  | .dup => (match st with | v :: r => if v.category = 1 then some (ls, v :: v :: r) else none | _ => none)
  | .dup2 => (match st with | v :: w :: r => if v.category = 1 ∧ w.category = 1 then some (ls, v :: w :: v :: w :: r) else none | _ => none)
  | _ => none
/-- which way a branch goes -/
def icc (c : Jvm.ClassFile.Cond) (x y : Int32) (A B : Option Res) : Option Res := match c with
  | .eq => if x = y then A else B
  | .ne => if x = y then B else A
  | .lt => if x < y then A else B
  | .ge => if y ≤ x then A else B
  | .gt => if y < x then A else B
  | .le => if x ≤ y then A else B
def swk (x : Int) (L : List (Nat × Nat × Nat)) (K : Nat → Nat → Option Res) (dB dM : Nat) : Option Res := match L with
  | [] => K dB dM
  | (k, b, m) :: r => if x = (k : Int) then K b m else swk x r K dB dM
/-- what comes behind a value that there may be -/
def oB {α : Type} (o : Option α) (F : α → Option Res) : Option Res := match o with
  | some x => F x
  | none => none
/-- the static methods of the JDK that are taken as told: min, max, max of longs, arraycopy -/
def intr (o : Nat) (st : List Value) (h : AH) (F : List Value → AH → Option Res) : Option Res := match o with
  | 1 => (match st with | .int y :: .int x :: r => if catS r ≤ 8 then F (.int (if y < x then y else x) :: r) h else none | _ => none)
  | 2 => (match st with | .int y :: .int x :: r => if catS r ≤ 8 then F (.int (if x < y then y else x) :: r) h else none | _ => none)
  | 3 => (match st with | .long y :: .long x :: r => if catS r ≤ 8 then F (.long (if y < x then x else y) :: r) h else none | _ => none)
  | 4 => (match st with | .int n :: .int dp :: .ref d :: .int sp :: .ref s :: r => if catS r ≤ 8 then oB (cpA h s sp d dp n) (fun h' => F r h') else none | _ => none)
  | _ => none
def look (L : List (Nat × Nat × Nat)) (c : Nat) : Option (Nat × Nat) := match L with
  | [] => none
  | q :: r => if q.1 = c then some q.2 else look r c
/-- which method a receiver's class selects -/
def vdis (L : List (Nat × Nat × Nat)) (c : Option Nat) (F : Nat → Nat → Option Res) : Option Res := match L with
  | [] => none
  | q :: r => if c = some q.1 then F q.2.1 q.2.2 else vdis r c F
/-- heap instructions (and divisions) that neither call nor jump -/
def hst (sc : Nat × (Nat → Int32)) (z : Bool) (i : Instr) (o : Opd) (st : List Value) (h : AH) (F : List Value → AH → Option Res) : Option Res := match i with
  | .idiv => (match st with | .int y :: .int x :: r => if y = 0 then none else F (.int (x / y) :: r) h | _ => none)
  | .irem => (match st with | .int y :: .int x :: r => if y = 0 then none else F (.int (x - x / y * y) :: r) h | _ => none)
  | .ldiv => (match st with | .long y :: .long x :: r => if y = 0 then none else F (.long (x / y) :: r) h | _ => none)
  | .lrem => (match st with | .long y :: .long x :: r => if y = 0 then none else F (.long (x - x / y * y) :: r) h | _ => none)
  | .getfield _ => (match st with
    | .ref p :: r => (match o.1 with
      | .int _ => oB (gI h p o.2.1 o.2.2.1) (fun x => F (.int x :: r) h)
      | _ => oB (gR h p o.2.1 o.2.2.1) (fun x => F (.ref x :: r) h))
    | _ => none)
  | .putfield _ => (match st with
    | .int x :: .ref p :: r => (match o.1 with
      | .int y => if y = 1 then (if x = 0 ∨ x = 1 then oB (pV h p o.2.1 o.2.2.1 (.int x)) (fun h' => F r h') else none) else oB (pV h p o.2.1 o.2.2.1 (.int x)) (fun h' => F r h')
      | _ => none)
    | .ref x :: .ref p :: r => (match o.1 with
      | .null => oB (pV h p o.2.1 o.2.2.1 (.ref x)) (fun h' => F r h')
      | _ => none)
    | _ => none)
  | .iaload => (match st with
    | .int i :: .ref p :: r => oB (aI h p i) (fun x => F (.int x :: r) h)
    | .int i :: .retAddr _ :: r => if i < 0 ∨ sc.1 ≤ i.toNatClampNeg then none else F (.int (sc.2 i.toNatClampNeg) :: r) h
    | _ => none)
  | .iastore => (match st with
    | .int x :: .int i :: .ref p :: r => oB (sI h p i x) (fun h' => F r h')
    | _ => none)
  | .aaload => (match st with
    | .int i :: .ref p :: r => oB (aR h p o.2.1 i) (fun x => F (.ref x :: r) h)
    | _ => none)
  | .aastore => (match st with
    | .ref x :: .int i :: .ref p :: r => (match hcell h p with
      | some (.inl (t, _)) => if t = o.2.1 then oB (clsOf h x) (fun c => oB (look o.2.2.2.1 c) (fun _ => oB (sR h p i x) (fun h' => F r h'))) else none
      | _ => none)
    | _ => none)
  | .arraylength => (match st with
    | .retAddr _ :: r => F (.int (Int32.ofNat sc.1) :: r) h
    | _ => none)
  | .instanceof _ => (match st with
    | .ref p :: r => vdis o.2.2.2.1 (clsOf h p) (fun q _ => F (.int (Int32.ofNat q) :: r) h)
    | _ => none)
  | .new _ => F (.ref h.1 :: st) (newO h o.2.1 o.2.2.2.1)
  | .newarray .int => (match st with
    | .int n :: r => if n < 0 ∨ ¬ n.toNatClampNeg ≤ 100000 then none else F (.ref h.1 :: r) (newI h n.toNatClampNeg)
    | _ => none)
  | .anewarray _ => (match st with
    | .int n :: r => if n < 0 ∨ ¬ n.toNatClampNeg ≤ 100000 then none else F (.ref h.1 :: r) (newR h o.2.1 n.toNatClampNeg)
    | _ => none)
  | .multianewarray _ _ => (match st with
    | .int k :: .int n :: r => if n < 0 ∨ k < 0 ∨ ¬ n.toNatClampNeg ≤ 1000 ∨ ¬ k.toNatClampNeg ≤ 1000 then none else F (.ref h.1 :: r) (newM h n.toNatClampNeg k.toNatClampNeg)
    | _ => none)
  | _ => none
/-- a call: its arguments laid out as locals -/
def callE (C : Nat → List Value → AH → Option Res) (c mL : Nat) (as : List Value) (h : AH) : Option Res := if (layL as).length ≤ mL then C c (entL mL as) h else none
def runL (sc : Nat × (Nat → Int32)) (z : Bool) (C : Nat → List Value → AH → Option Res) (K : Nat → List Value → List Value → AH → Option Res) : List Ins → List Value → List Value → AH → Option Res
  | [], _, _, _ => none
  | (_, _, i, o) :: is, ls, st, h => match i with
    | .nop => K o.2.1 (mskN o.2.2.1 ls) st h
    | .goto _ => (match o.1 with | .null => runL sc z C K is ls st h | _ => K o.2.1 (mskN o.2.2.1 ls) st h)
    | .ifCond c _ => (match st with | .int x :: r => icc c x 0 (K o.2.1 (mskN o.2.2.1 ls) r h) (runL sc z C K is ls r h) | _ => none)
    | .if_icmp c _ => (match st with | .int y :: .int x :: r => icc c x y (K o.2.1 (mskN o.2.2.1 ls) r h) (runL sc z C K is ls r h) | _ => none)
    | .tableswitch _ _ _ _ => (match st with | .int x :: r => swk x.toInt o.2.2.2.1 (fun b m => K b (mskN m ls) r h) o.2.1 o.2.2.1 | _ => none)
    | .lookupswitch _ _ => (match st with | .int x :: r => swk x.toInt o.2.2.2.1 (fun b m => K b (mskN m ls) r h) o.2.1 o.2.2.1 | _ => none)
    | .invokestatic _ => (match o.2.2.2.1 with
      | [(_, c, mL)] => (match popN o.2.1 [] st with
        | some (as, r) => if catS r ≤ 8 then retK o.2.2.1 (callE C c mL as h) r (fun st' h' => runL sc z C K is ls st' h') else none
        | none => none)
      | _ => if z = true then intr o.2.1 st h (fun st' h' => runL sc z C K is ls st' h') else none)
    | .invokevirtual _ => (match popN o.2.1 [] st with
      | some (as, .ref p :: r) => if catS r ≤ 8 then vdis o.2.2.2.1 (clsOf h p) (fun c mL => retK o.2.2.1 (callE C c mL (.ref p :: as) h) r (fun st' h' => runL sc z C K is ls st' h')) else none
      | _ => none)
    | .invokespecial _ => (match popN o.2.1 [] st with
      | some (as, .ref p :: r) => if catS r ≤ 8 then (match o.2.2.2.1 with
        | [(_, c, mL)] => oB (clsOf h p) (fun _ => retK o.2.2.1 (callE C c mL (.ref p :: as) h) r (fun st' h' => runL sc z C K is ls st' h'))
        | _ => if z = true then runL sc z C K is ls r h else none) else none
      | _ => none)
    | .ireturn => (match st with | [.int v] => if o.2.1 = 1 then (if v = 0 ∨ v = 1 then some (some (.int v), h) else none) else some (some (.int v), h) | _ => none)
    | .lreturn => (match st with | [.long v] => some (some (.long v), h) | _ => none)
    | .areturn => (match st with | [.ref v] => some (some (.ref v), h) | _ => none)
    | .return_ => (match st with | [] => some (none, h) | _ => none)
    | .idiv | .irem | .ldiv | .lrem | .getfield _ | .putfield _ | .iaload | .iastore | .aaload | .aastore | .arraylength | .instanceof _ | .new _ | .newarray _ | .anewarray _ | .multianewarray _ _ =>
      hst sc z i o st h (fun st' h' => runL sc z C K is ls st' h')
    | _ => (match pst i o ls st with | some (ls', st') => runL sc z C K is ls' st' h | none => none)
/-- fuel, depth (how many calls may stand open), method, block -/
def exec (P : Nat → Nat → List Ins) (sc : Nat × (Nat → Int32)) : Nat → Nat → Nat → Nat → List Value → List Value → AH → Option Res
  | 0, _, _, _, _, _, _ => none
  | n + 1, d, m, b, ls, st, h => runL sc (decide (d ≠ 0)) (fun c as h' => match d with | 0 => none | d' + 1 => exec P sc n d' c 0 as [] h') (fun b' ls' st' h' => exec P sc n d m b' ls' st' h') (P m b) ls st h
