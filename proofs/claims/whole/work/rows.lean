section
/-! THE ABSTRACT MACHINE: places instead of addresses, blocks of resolved instructions; what it answers is shown (part sound) to be what the machine does. Own work. -/
/-- heap: how many cells, how many slots, the cells by place (array: number of its type, length, contents; object: number of its class, fields) -/
abbrev AH : Type := Nat × Nat × (Nat → va_E)
abbrev Res : Type := Option Value × AH
/-- an operand: a constant, two numbers, a table, places of words -/
abbrev Opd : Type := Value × Nat × Nat × List (Nat × Nat × Nat) × List Nat
abbrev Ins : Type := Nat × Nat × Instr × Opd
/-- a local that holds nothing -/
abbrev Jk : Value := .float 0
def hcell (h : AH) (p : Nat) : Option va_E := if p < h.1 then some (h.2.2 p) else none
def hset (h : AH) (p : Nat) (c : va_E) : AH := (h.1, h.2.1, va_up h.2.2 p c)
def hpush (h : AH) (c : va_E) (n : Nat) : AH := (h.1 + 1, h.2.1 + n, va_up h.2.2 h.1 c)
def gI (h : AH) (p ci k : Nat) : Option Int32 := match hcell h p with
  | some (.inr (c, fs)) => if c = ci then (match fs[k]? with | some (.int x) => some x | _ => none) else none
  | _ => none
def gR (h : AH) (p ci k : Nat) : Option Nat := match hcell h p with
  | some (.inr (c, fs)) => if c = ci then (match fs[k]? with | some (.ref x) => some x | _ => none) else none
  | _ => none
def pV (h : AH) (p ci k : Nat) (v : Value) : Option AH := match hcell h p with
  | some (.inr (c, fs)) => if c = ci ∧ k < fs.length then some (hset h p (.inr (c, fs.set k v))) else none
  | _ => none
def aI (h : AH) (p : Nat) (i : Int32) : Option Int32 := match hcell h p with
  | some (.inl (t, n, .inl f)) => if t = 0 then (if i < 0 ∨ n ≤ i.toNatClampNeg then none else some (f i.toNatClampNeg)) else none
  | _ => none
def sI (h : AH) (p : Nat) (i x : Int32) : Option AH := match hcell h p with
  | some (.inl (t, n, .inl f)) => if t = 0 then (if i < 0 ∨ n ≤ i.toNatClampNeg then none else some (hset h p (.inl (t, n, .inl (upd f i.toNatClampNeg x))))) else none
  | _ => none
def aR (h : AH) (p t : Nat) (i : Int32) : Option Nat := match hcell h p with
  | some (.inl (t', n, .inr (.inr (.inr (.inr f))))) => if t' = t then (if i < 0 ∨ n ≤ i.toNatClampNeg then none else f i.toNatClampNeg) else none
  | _ => none
def sR (h : AH) (p : Nat) (i : Int32) (q : Nat) : Option AH := match hcell h p with
  | some (.inl (t, n, .inr (.inr (.inr (.inr f))))) => if i < 0 ∨ n ≤ i.toNatClampNeg then none else some (hset h p (.inl (t, n, .inr (.inr (.inr (.inr (va_up f i.toNatClampNeg (some q)))))))) 
  | _ => none
/-- System.arraycopy of ints -/
def cpA (h : AH) (s : Nat) (sp : Int32) (d : Nat) (dp n : Int32) : Option AH := match hcell h s with
  | some (.inl (t0, n0, .inl f)) => (match hcell h d with
    | some (.inl (t1, n1, .inl g)) => if t0 = 0 ∧ t1 = 0 ∧ ¬ sp < 0 ∧ ¬ dp < 0 ∧ ¬ n < 0 ∧ sp.toNatClampNeg + n.toNatClampNeg ≤ n0 ∧ dp.toNatClampNeg + n.toNatClampNeg ≤ n1 then some (hset h d (.inl (t1, n1, .inl (va_cpy f g sp.toNatClampNeg dp.toNatClampNeg n.toNatClampNeg)))) else none
    | _ => none)
  | _ => none
/-- the number of an object's class -/
def clsOf (h : AH) (p : Nat) : Option Nat := match hcell h p with
  | some (.inr (c, _)) => some c
  | _ => none
def dfl (L : List (Nat × Nat × Nat)) : List Value := L.map fun q => if q.1 = 0 then .int 0 else .null
def newO (h : AH) (ci : Nat) (L : List (Nat × Nat × Nat)) : AH := hpush h (.inr (ci, dfl L)) L.length
def newI (h : AH) (n : Nat) : AH := hpush h (.inl (0, n, .inl (fun _ => 0))) n
def newR (h : AH) (t n : Nat) : AH := hpush h (.inl (t, n, .inr (.inr (.inr (.inr (fun _ => none)))))) n
def newM (h : AH) (n k : Nat) : AH := (h.1 + 1 + n, h.2.1 + (n + n * k), fun j => if j = h.1 then .inl (3, n, .inr (.inr (.inr (.inr (fun i => if i < n then some (h.1 + 1 + i) else none))))) else if h.1 < j ∧ j ≤ h.1 + n then .inl (0, k, .inl (fun _ => 0)) else h.2.2 j)
-- locals
def mskN : Nat → List Value → List Value
  | _, [] => []
  | m, v :: r => (if m % 2 = 1 then v else Jk) :: mskN (m / 2) r
def killL (i : Nat) (ls : List Value) : List Value := match i with
  | 0 => ls
  | j + 1 => match ls[j]? with
    | some (.long _) => ls.set j Jk
    | some (.double _) => ls.set j Jk
    | _ => ls
def st1 (i : Nat) (v : Value) (ls : List Value) : Option (List Value) := if i < ls.length then some ((killL i ls).set i v) else none
def st2 (i : Nat) (v : Value) (ls : List Value) : Option (List Value) := if i + 1 < ls.length then some (((killL i ls).set i v).set (i + 1) Jk) else none
def layL : List Value → List Value
  | [] => []
  | .long x :: r => .long x :: Jk :: layL r
  | .double x :: r => .double x :: Jk :: layL r
  | v :: r => v :: layL r
def entL (n : Nat) (as : List Value) : List Value := layL as ++ List.replicate (n - (layL as).length) Jk
def popN : Nat → List Value → List Value → Option (List Value × List Value)
  | 0, acc, st => some (acc, st)
  | n + 1, acc, v :: st => popN n (v :: acc) st
  | _ + 1, _, [] => none
def catS (l : List Value) : Nat := (l.map fun v => v.category).sum
-- what comes behind a call
def cV (o : Option Res) (F : AH → Option Res) : Option Res := match o with
  | some (none, h) => F h
  | _ => none
def cI (o : Option Res) (F : Int32 → AH → Option Res) : Option Res := match o with
  | some (some (.int x), h) => F x h
  | _ => none
def cL (o : Option Res) (F : Int64 → AH → Option Res) : Option Res := match o with
  | some (some (.long x), h) => F x h
  | _ => none
def cR (o : Option Res) (F : Nat → AH → Option Res) : Option Res := match o with
  | some (some (.ref x), h) => F x h
  | _ => none
def retK (k : Nat) (o : Option Res) (r : List Value) (F : List Value → AH → Option Res) : Option Res := match k with
  | 0 => cV o (fun h => F r h)
  | 1 => cI o (fun x h => F (.int x :: r) h)
  | 2 => cL o (fun x h => F (.long x :: r) h)
  | _ => cR o (fun x h => F (.ref x :: r) h)
/-- instructions that touch locals and stack alone -/
def pst (i : Instr) (o : Opd) (ls st : List Value) : Option (List Value × List Value) := match i with
  | .iconst _ | .bipush _ | .sipush _ | .ldc _ | .ldc_w _ | .lconst _ | .ldc2_w _ => some (ls, o.1 :: st)
  | .iload_n _ | .iload _ => (match ls[o.2.1]? with | some (.int x) => some (ls, .int x :: st) | _ => none)
  | .lload_n _ | .lload _ => (match ls[o.2.1]? with | some (.long x) => some (ls, .long x :: st) | _ => none)
  | .aload_n _ | .aload _ => (match ls[o.2.1]? with | some (.ref x) => some (ls, .ref x :: st) | some (.retAddr x) => some (ls, .retAddr x :: st) | _ => none)
  | .istore_n _ | .istore _ => (match st with | .int x :: r => (match st1 o.2.1 (.int x) ls with | some l => some (l, r) | none => none) | _ => none)
  | .astore_n _ | .astore _ => (match st with | .ref x :: r => (match st1 o.2.1 (.ref x) ls with | some l => some (l, r) | none => none) | _ => none)
  | .lstore_n _ | .lstore _ => (match st with | .long x :: r => (match st2 o.2.1 (.long x) ls with | some l => some (l, r) | none => none) | _ => none)
  | .iinc _ _ => (match ls[o.2.1]? with | some (.int x) => (match o.1 with | .int y => (match st1 o.2.1 (.int (x + y)) ls with | some l => some (l, st) | none => none) | _ => none) | _ => none)
  | .iadd => (match st with | .int y :: .int x :: r => some (ls, .int (x + y) :: r) | _ => none)
  | .isub => (match st with | .int y :: .int x :: r => some (ls, .int (x - y) :: r) | _ => none)
  | .imul => (match st with | .int y :: .int x :: r => some (ls, .int (x * y) :: r) | _ => none)
  | .iand => (match st with | .int y :: .int x :: r => some (ls, .int (x &&& y) :: r) | _ => none)
  | .ior => (match st with | .int y :: .int x :: r => some (ls, .int (x ||| y) :: r) | _ => none)
  | .ixor => (match st with | .int y :: .int x :: r => some (ls, .int (x ^^^ y) :: r) | _ => none)
  | .ineg => (match st with | .int x :: r => some (ls, .int (-x) :: r) | _ => none)
  | .ishl => (match st with | .int y :: .int x :: r => some (ls, .int (x <<< (y &&& 31)) :: r) | _ => none)
  | .ishr => (match st with | .int y :: .int x :: r => some (ls, .int (x >>> (y &&& 31)) :: r) | _ => none)
  | .iushr => (match st with | .int y :: .int x :: r => some (ls, .int (x.toUInt32 >>> (y.toUInt32 &&& Int32.toUInt32 31)).toInt32 :: r) | _ => none)
  | .i2l => (match st with | .int x :: r => some (ls, .long x.toInt64 :: r) | _ => none)
  | .l2i => (match st with | .long x :: r => some (ls, .int x.toInt32 :: r) | _ => none)
  | .i2b => (match st with | .int x :: r => some (ls, .int x.toInt8.toInt32 :: r) | _ => none)
  | .i2s => (match st with | .int x :: r => some (ls, .int x.toInt16.toInt32 :: r) | _ => none)
  | .ladd => (match st with | .long y :: .long x :: r => some (ls, .long (x + y) :: r) | _ => none)
  | .lmul => (match st with | .long y :: .long x :: r => some (ls, .long (x * y) :: r) | _ => none)
  | .lcmp => (match st with | .long y :: .long x :: r => some (ls, .int (lg_cmp x y) :: r) | _ => none)
  | .dup => (match st with | v :: r => if v.category = 1 then some (ls, v :: v :: r) else none | _ => none)
  | .dup2 => (match st with | v :: w :: r => if v.category = 1 ∧ w.category = 1 then some (ls, v :: w :: v :: w :: r) else none | _ => none)
  | _ => none
/-- which way a branch goes -/
def icc (c : Jvm.ClassFile.Cond) (x y : Int32) (A B : Option Res) : Option Res := match c with
  | .eq => if x = y then A else B
  | .ne => if x = y then B else A
  | .lt => if x < y then A else B
  | .ge => if y ≤ x then A else B
  | .gt => if y < x then A else B
  | .le => if x ≤ y then A else B
def swk (x : Int) (L : List (Nat × Nat × Nat)) (K : Nat → Nat → Option Res) (dB dM : Nat) : Option Res := match L with
  | [] => K dB dM
  | (k, b, m) :: r => if x = (k : Int) then K b m else swk x r K dB dM
/-- what comes behind a value that there may be -/
def oB {α : Type} (o : Option α) (F : α → Option Res) : Option Res := match o with
  | some x => F x
  | none => none
/-- the static methods of the JDK that are taken as told: min, max, max of longs, arraycopy -/
def intr (o : Nat) (st : List Value) (h : AH) (F : List Value → AH → Option Res) : Option Res := match o with
  | 1 => (match st with | .int y :: .int x :: r => if catS r ≤ 8 then F (.int (if y < x then y else x) :: r) h else none | _ => none)
  | 2 => (match st with | .int y :: .int x :: r => if catS r ≤ 8 then F (.int (if x < y then y else x) :: r) h else none | _ => none)
  | 3 => (match st with | .long y :: .long x :: r => if catS r ≤ 8 then F (.long (if y < x then x else y) :: r) h else none | _ => none)
  | 4 => (match st with | .int n :: .int dp :: .ref d :: .int sp :: .ref s :: r => if catS r ≤ 8 then oB (cpA h s sp d dp n) (fun h' => F r h') else none | _ => none)
  | _ => none
def look (L : List (Nat × Nat × Nat)) (c : Nat) : Option (Nat × Nat) := match L with
  | [] => none
  | q :: r => if q.1 = c then some q.2 else look r c
/-- which method a receiver's class selects -/
def vdis (L : List (Nat × Nat × Nat)) (c : Option Nat) (F : Nat → Nat → Option Res) : Option Res := match L with
  | [] => none
  | q :: r => if c = some q.1 then F q.2.1 q.2.2 else vdis r c F
/-- heap instructions (and divisions) that neither call nor jump -/
def hst (sc : Nat × (Nat → Int32)) (z : Bool) (i : Instr) (o : Opd) (st : List Value) (h : AH) (F : List Value → AH → Option Res) : Option Res := match i with
  | .idiv => (match st with | .int y :: .int x :: r => if y = 0 then none else F (.int (x / y) :: r) h | _ => none)
  | .irem => (match st with | .int y :: .int x :: r => if y = 0 then none else F (.int (x - x / y * y) :: r) h | _ => none)
  | .ldiv => (match st with | .long y :: .long x :: r => if y = 0 then none else F (.long (x / y) :: r) h | _ => none)
  | .lrem => (match st with | .long y :: .long x :: r => if y = 0 then none else F (.long (x - x / y * y) :: r) h | _ => none)
  | .getfield _ => (match st with
    | .ref p :: r => (match o.1 with
      | .int _ => oB (gI h p o.2.1 o.2.2.1) (fun x => F (.int x :: r) h)
      | _ => oB (gR h p o.2.1 o.2.2.1) (fun x => F (.ref x :: r) h))
    | _ => none)
  | .putfield _ => (match st with
    | .int x :: .ref p :: r => (match o.1 with
      | .int y => if y = 1 then (if x = 0 ∨ x = 1 then oB (pV h p o.2.1 o.2.2.1 (.int x)) (fun h' => F r h') else none) else oB (pV h p o.2.1 o.2.2.1 (.int x)) (fun h' => F r h')
      | _ => none)
    | .ref x :: .ref p :: r => (match o.1 with
      | .null => oB (pV h p o.2.1 o.2.2.1 (.ref x)) (fun h' => F r h')
      | _ => none)
    | _ => none)
  | .iaload => (match st with
    | .int i :: .ref p :: r => oB (aI h p i) (fun x => F (.int x :: r) h)
    | .int i :: .retAddr _ :: r => if i < 0 ∨ sc.1 ≤ i.toNatClampNeg then none else F (.int (sc.2 i.toNatClampNeg) :: r) h
    | _ => none)
  | .iastore => (match st with
    | .int x :: .int i :: .ref p :: r => oB (sI h p i x) (fun h' => F r h')
    | _ => none)
  | .aaload => (match st with
    | .int i :: .ref p :: r => oB (aR h p o.2.1 i) (fun x => F (.ref x :: r) h)
    | _ => none)
  | .aastore => (match st with
    | .ref x :: .int i :: .ref p :: r => (match hcell h p with
      | some (.inl (t, _)) => if t = o.2.1 then oB (clsOf h x) (fun c => oB (look o.2.2.2.1 c) (fun _ => oB (sR h p i x) (fun h' => F r h'))) else none
      | _ => none)
    | _ => none)
  | .arraylength => (match st with
    | .retAddr _ :: r => F (.int (Int32.ofNat sc.1) :: r) h
    | _ => none)
  | .instanceof _ => (match st with
    | .ref p :: r => vdis o.2.2.2.1 (clsOf h p) (fun q _ => F (.int (Int32.ofNat q) :: r) h)
    | _ => none)
  | .new _ => F (.ref h.1 :: st) (newO h o.2.1 o.2.2.2.1)
  | .newarray .int => (match st with
    | .int n :: r => if n < 0 ∨ ¬ n.toNatClampNeg ≤ 100000 then none else F (.ref h.1 :: r) (newI h n.toNatClampNeg)
    | _ => none)
  | .anewarray _ => (match st with
    | .int n :: r => if n < 0 ∨ ¬ n.toNatClampNeg ≤ 100000 then none else F (.ref h.1 :: r) (newR h o.2.1 n.toNatClampNeg)
    | _ => none)
  | .multianewarray _ _ => (match st with
    | .int k :: .int n :: r => if n < 0 ∨ k < 0 ∨ ¬ n.toNatClampNeg ≤ 1000 ∨ ¬ k.toNatClampNeg ≤ 1000 then none else F (.ref h.1 :: r) (newM h n.toNatClampNeg k.toNatClampNeg)
    | _ => none)
  | _ => none
/-- a call: its arguments laid out as locals -/
def callE (C : Nat → List Value → AH → Option Res) (c mL : Nat) (as : List Value) (h : AH) : Option Res := if (layL as).length ≤ mL then C c (entL mL as) h else none
def runL (sc : Nat × (Nat → Int32)) (z : Bool) (C : Nat → List Value → AH → Option Res) (K : Nat → List Value → List Value → AH → Option Res) : List Ins → List Value → List Value → AH → Option Res
  | [], _, _, _ => none
  | (_, _, i, o) :: is, ls, st, h => match i with
    | .nop => K o.2.1 (mskN o.2.2.1 ls) st h
    | .goto _ => (match o.1 with | .null => runL sc z C K is ls st h | _ => K o.2.1 (mskN o.2.2.1 ls) st h)
    | .ifCond c _ => (match st with | .int x :: r => icc c x 0 (K o.2.1 (mskN o.2.2.1 ls) r h) (runL sc z C K is ls r h) | _ => none)
    | .if_icmp c _ => (match st with | .int y :: .int x :: r => icc c x y (K o.2.1 (mskN o.2.2.1 ls) r h) (runL sc z C K is ls r h) | _ => none)
    | .tableswitch _ _ _ _ => (match st with | .int x :: r => swk x.toInt o.2.2.2.1 (fun b m => K b (mskN m ls) r h) o.2.1 o.2.2.1 | _ => none)
    | .lookupswitch _ _ => (match st with | .int x :: r => swk x.toInt o.2.2.2.1 (fun b m => K b (mskN m ls) r h) o.2.1 o.2.2.1 | _ => none)
    | .invokestatic _ => (match o.2.2.2.1 with
      | [(_, c, mL)] => (match popN o.2.1 [] st with
        | some (as, r) => if catS r ≤ 8 then retK o.2.2.1 (callE C c mL as h) r (fun st' h' => runL sc z C K is ls st' h') else none
        | none => none)
      | _ => if z = true then intr o.2.1 st h (fun st' h' => runL sc z C K is ls st' h') else none)
    | .invokevirtual _ => (match popN o.2.1 [] st with
      | some (as, .ref p :: r) => if catS r ≤ 8 then vdis o.2.2.2.1 (clsOf h p) (fun c mL => retK o.2.2.1 (callE C c mL (.ref p :: as) h) r (fun st' h' => runL sc z C K is ls st' h')) else none
      | _ => none)
    | .invokespecial _ => (match popN o.2.1 [] st with
      | some (as, .ref p :: r) => if catS r ≤ 8 then (match o.2.2.2.1 with
        | [(_, c, mL)] => oB (clsOf h p) (fun _ => retK o.2.2.1 (callE C c mL (.ref p :: as) h) r (fun st' h' => runL sc z C K is ls st' h'))
        | _ => if z = true then runL sc z C K is ls r h else none) else none
      | _ => none)
    | .ireturn => (match st with | [.int v] => if o.2.1 = 1 then (if v = 0 ∨ v = 1 then some (some (.int v), h) else none) else some (some (.int v), h) | _ => none)
    | .lreturn => (match st with | [.long v] => some (some (.long v), h) | _ => none)
    | .areturn => (match st with | [.ref v] => some (some (.ref v), h) | _ => none)
    | .return_ => (match st with | [] => some (none, h) | _ => none)
    | .idiv | .irem | .ldiv | .lrem | .getfield _ | .putfield _ | .iaload | .iastore | .aaload | .aastore | .arraylength | .instanceof _ | .new _ | .newarray _ | .anewarray _ | .multianewarray _ _ =>
      hst sc z i o st h (fun st' h' => runL sc z C K is ls st' h')
    | _ => (match pst i o ls st with | some (ls', st') => runL sc z C K is ls' st' h | none => none)
/-- fuel, depth (how many calls may stand open), method, block -/
def exec (P : Nat → Nat → List Ins) (sc : Nat × (Nat → Int32)) : Nat → Nat → Nat → Nat → List Value → List Value → AH → Option Res
  | 0, _, _, _, _, _, _ => none
  | n + 1, d, m, b, ls, st, h => runL sc (decide (d ≠ 0)) (fun c as h' => match d with | 0 => none | d' + 1 => exec P sc n d' c 0 as [] h') (fun b' ls' st' h' => exec P sc n d m b' ls' st' h') (P m b) ls st h
end
section
/-! the abstract machine without fuel -/
theorem retK_mono {k : Nat} {o o' : Option Res} {r : List Value} {F F' : List Value → AH → Option Res} {x : Res} (ho : ∀ y, o = some y → o' = some y) (hF : ∀ st h y, F st h = some y → F' st h = some y) (hx : retK k o r F = some x) : retK k o' r F' = some x := by
  unfold retK at hx ⊢
  split at hx
  · unfold cV at hx ⊢
    split at hx
    · rw [ho _ rfl]; exact hF _ _ _ hx
    · cases hx
  · unfold cI at hx ⊢
    split at hx
    · rw [ho _ rfl]; exact hF _ _ _ hx
    · cases hx
  · unfold cL at hx ⊢
    split at hx
    · rw [ho _ rfl]; exact hF _ _ _ hx
    · cases hx
  · next h0 h1 h2 =>
    unfold cR at hx
    split at hx
    · unfold cR
      rw [ho _ rfl]; exact hF _ _ _ hx
    · cases hx
theorem icc_mono {c : Jvm.ClassFile.Cond} {x y : Int32} {A B A' B' : Option Res} {z : Res} (hA : A = some z → A' = some z) (hB : B = some z → B' = some z) (h : icc c x y A B = some z) : icc c x y A' B' = some z := by
  revert h
  unfold icc
  cases c <;> dsimp only <;> split <;> (first | exact hA | exact hB)
theorem swk_mono {x : Int} {L : List (Nat × Nat × Nat)} {K K' : Nat → Nat → Option Res} {a b : Nat} {z : Res} (hK : ∀ p q, K p q = some z → K' p q = some z) (h : swk x L K a b = some z) : swk x L K' a b = some z := by
  induction L with
  | nil => exact hK _ _ h
  | cons q r ih =>
    obtain ⟨k, b1, m⟩ := q
    revert h
    unfold swk
    split
    · exact hK _ _
    · exact ih
theorem oB_mono {α : Type} {o : Option α} {F F' : α → Option Res} {x : Res} (hF : ∀ a, F a = some x → F' a = some x) (hx : oB o F = some x) : oB o F' = some x := by
  cases o with
  | none => cases hx
  | some a => exact hF a hx
theorem vdis_mono {L : List (Nat × Nat × Nat)} {c : Option Nat} {F F' : Nat → Nat → Option Res} {x : Res} (hF : ∀ a b, F a b = some x → F' a b = some x) (hx : vdis L c F = some x) : vdis L c F' = some x := by
  induction L with
  | nil => cases hx
  | cons q r ih =>
    revert hx
    unfold vdis
    split
    · exact hF _ _
    · exact ih
theorem intr_mono {o : Nat} {st : List Value} {h : AH} {F F' : List Value → AH → Option Res} {x : Res} (hF : ∀ st h, F st h = some x → F' st h = some x) (hx : intr o st h F = some x) : intr o st h F' = some x := by
  revert hx
  unfold intr
  split
  all_goals (repeat' split)
  all_goals (first | exact hF _ _ | exact oB_mono (fun _ => hF _ _) | exact fun hx => hx)
theorem hst_mono {sc : Nat × (Nat → Int32)} {z : Bool} {i : Instr} {o : Opd} {st : List Value} {h : AH} {F F' : List Value → AH → Option Res} {x : Res} (hF : ∀ st h, F st h = some x → F' st h = some x) (hx : hst sc z i o st h F = some x) : hst sc z i o st h F' = some x := by
  revert hx
  unfold hst
  split
  all_goals (repeat' split)
  all_goals (first | exact hF _ _ | exact oB_mono (fun _ => hF _ _) | exact vdis_mono (fun _ _ => hF _ _) | exact oB_mono (fun _ => oB_mono (fun _ => oB_mono (fun _ => hF _ _))) | exact fun hx => hx)
theorem callE_mono {C C' : Nat → List Value → AH → Option Res} (hC : ∀ c as h x, C c as h = some x → C' c as h = some x) {c mL : Nat} {as : List Value} {h : AH} (x : Res) (hx : callE C c mL as h = some x) : callE C' c mL as h = some x := by
  revert hx
  unfold callE
  split
  · exact hC _ _ _ _
  · exact fun hx => hx
theorem runL_mono {sc : Nat × (Nat → Int32)} {z : Bool} {C C' : Nat → List Value → AH → Option Res} {K K' : Nat → List Value → List Value → AH → Option Res} (hC : ∀ c as h x, C c as h = some x → C' c as h = some x) (hK : ∀ b ls st h x, K b ls st h = some x → K' b ls st h = some x) :
    ∀ (is : List Ins) (ls st : List Value) (h : AH) (x : Res), runL sc z C K is ls st h = some x → runL sc z C' K' is ls st h = some x := by
  intro is
  induction is with
  | nil => intro ls st h x hx; cases hx
  | cons a is ih =>
    obtain ⟨pc, len, i, o⟩ := a
    intro ls st h x
    unfold runL
    split
    all_goals (repeat' split)
    all_goals first
      | exact hK _ _ _ _ _
      | exact ih _ _ _ _
      | exact icc_mono (hK _ _ _ _ _) (ih _ _ _ _)
      | exact swk_mono (fun _ _ => hK _ _ _ _ _)
      | exact hst_mono (fun _ _ => ih _ _ _ _)
      | exact retK_mono (callE_mono hC) (fun _ _ _ => ih _ _ _ _)
      | exact intr_mono (fun _ _ => ih _ _ _ _)
      | exact vdis_mono (fun _ _ => retK_mono (callE_mono hC) (fun _ _ _ => ih _ _ _ _))
      | exact oB_mono (fun _ => retK_mono (callE_mono hC) (fun _ _ _ => ih _ _ _ _))
      | exact fun hx => hx
/-- from some fuel on -/
def Evt (P : Nat → Prop) : Prop := ∃ n, ∀ m, n ≤ m → P m
theorem Evt.const {P : Prop} (h : P) : Evt (fun _ => P) := ⟨0, fun _ _ => h⟩
theorem retK_cont {k : Nat} {o : Option Res} {on : Nat → Option Res} {r : List Value} {F : List Value → AH → Option Res} {Fn : Nat → List Value → AH → Option Res} {x : Res} (ho : ∀ y, o = some y → Evt fun m => on m = some y) (hF : ∀ st h y, F st h = some y → Evt fun m => Fn m st h = some y) (hx : retK k o r F = some x) : Evt fun m => retK k (on m) r (Fn m) = some x := by
  unfold retK at hx
  split at hx
  · unfold cV at hx
    split at hx
    · obtain ⟨a, ha⟩ := ho _ rfl
      obtain ⟨b, hb⟩ := hF _ _ _ hx
      exact ⟨a + b, fun m hm => by unfold retK cV; simp only; rw [ha m (by omega)]; exact hb m (by omega)⟩
    · cases hx
  · unfold cI at hx
    split at hx
    · obtain ⟨a, ha⟩ := ho _ rfl
      obtain ⟨b, hb⟩ := hF _ _ _ hx
      exact ⟨a + b, fun m hm => by unfold retK cI; simp only; rw [ha m (by omega)]; exact hb m (by omega)⟩
    · cases hx
  · unfold cL at hx
    split at hx
    · obtain ⟨a, ha⟩ := ho _ rfl
      obtain ⟨b, hb⟩ := hF _ _ _ hx
      exact ⟨a + b, fun m hm => by unfold retK cL; simp only; rw [ha m (by omega)]; exact hb m (by omega)⟩
    · cases hx
  · next h0 h1 h2 =>
    unfold cR at hx
    split at hx
    · obtain ⟨a, ha⟩ := ho _ rfl
      obtain ⟨b, hb⟩ := hF _ _ _ hx
      refine ⟨a + b, fun m hm => ?_⟩
      have e : retK k (on m) r (Fn m) = cR (on m) (fun x h => Fn m (.ref x :: r) h) := by
        unfold retK
        split
        · exact absurd rfl h0
        · exact absurd rfl h1
        · exact absurd rfl h2
        · rfl
      show retK k (on m) r (Fn m) = some x
      rw [e]
      unfold cR
      rw [ha m (by omega)]
      exact hb m (by omega)
    · cases hx
theorem icc_cont {c : Jvm.ClassFile.Cond} {x y : Int32} {A B : Option Res} {An Bn : Nat → Option Res} {z : Res} (hA : A = some z → Evt fun m => An m = some z) (hB : B = some z → Evt fun m => Bn m = some z) (h : icc c x y A B = some z) : Evt fun m => icc c x y (An m) (Bn m) = some z := by
  revert h
  unfold icc
  cases c <;> dsimp only <;> split <;> (first | exact hA | exact hB)
theorem swk_cont {x : Int} {L : List (Nat × Nat × Nat)} {K : Nat → Nat → Option Res} {Kn : Nat → Nat → Nat → Option Res} {a b : Nat} {z : Res} (hK : ∀ p q, K p q = some z → Evt fun m => Kn m p q = some z) (h : swk x L K a b = some z) : Evt fun m => swk x L (Kn m) a b = some z := by
  induction L with
  | nil => exact hK _ _ h
  | cons q r ih =>
    obtain ⟨k, b1, m⟩ := q
    revert h
    unfold swk
    split
    · exact hK _ _
    · exact ih
theorem oB_cont {α : Type} {o : Option α} {F : α → Option Res} {Fn : Nat → α → Option Res} {x : Res} (hF : ∀ a, F a = some x → Evt fun m => Fn m a = some x) (hx : oB o F = some x) : Evt fun m => oB o (Fn m) = some x := by
  cases o with
  | none => cases hx
  | some a => exact hF a hx
theorem vdis_cont {L : List (Nat × Nat × Nat)} {c : Option Nat} {F : Nat → Nat → Option Res} {Fn : Nat → Nat → Nat → Option Res} {x : Res} (hF : ∀ a b, F a b = some x → Evt fun m => Fn m a b = some x) (hx : vdis L c F = some x) : Evt fun m => vdis L c (Fn m) = some x := by
  induction L with
  | nil => cases hx
  | cons q r ih =>
    revert hx
    unfold vdis
    split
    · exact hF _ _
    · exact ih
theorem intr_cont {o : Nat} {st : List Value} {h : AH} {F : List Value → AH → Option Res} {Fn : Nat → List Value → AH → Option Res} {x : Res} (hF : ∀ st h, F st h = some x → Evt fun m => Fn m st h = some x) (hx : intr o st h F = some x) : Evt fun m => intr o st h (Fn m) = some x := by
  revert hx
  unfold intr
  split
  all_goals (repeat' split)
  all_goals (first | exact hF _ _ | exact oB_cont (fun _ => hF _ _) | exact fun hx => Evt.const hx)
theorem hst_cont {sc : Nat × (Nat → Int32)} {z : Bool} {i : Instr} {o : Opd} {st : List Value} {h : AH} {F : List Value → AH → Option Res} {Fn : Nat → List Value → AH → Option Res} {x : Res} (hF : ∀ st h, F st h = some x → Evt fun m => Fn m st h = some x) (hx : hst sc z i o st h F = some x) : Evt fun m => hst sc z i o st h (Fn m) = some x := by
  revert hx
  unfold hst
  split
  all_goals (repeat' split)
  all_goals (first | exact hF _ _ | exact oB_cont (fun _ => hF _ _) | exact vdis_cont (fun _ _ => hF _ _) | exact oB_cont (fun _ => oB_cont (fun _ => oB_cont (fun _ => hF _ _))) | exact fun hx => Evt.const hx)
theorem callE_cont {C : Nat → List Value → AH → Option Res} {Cn : Nat → Nat → List Value → AH → Option Res} (hC : ∀ c as h x, C c as h = some x → Evt fun m => Cn m c as h = some x) {c mL : Nat} {as : List Value} {h : AH} (x : Res) (hx : callE C c mL as h = some x) : Evt fun m => callE (Cn m) c mL as h = some x := by
  revert hx
  unfold callE
  split
  · exact hC _ _ _ _
  · exact fun hx => Evt.const hx
theorem runL_cont {sc : Nat × (Nat → Int32)} {z : Bool} {C : Nat → List Value → AH → Option Res} {K : Nat → List Value → List Value → AH → Option Res} {Cn : Nat → Nat → List Value → AH → Option Res} {Kn : Nat → Nat → List Value → List Value → AH → Option Res} (hC : ∀ c as h x, C c as h = some x → Evt fun m => Cn m c as h = some x) (hK : ∀ b ls st h x, K b ls st h = some x → Evt fun m => Kn m b ls st h = some x) :
    ∀ (is : List Ins) (ls st : List Value) (h : AH) (x : Res), runL sc z C K is ls st h = some x → Evt fun m => runL sc z (Cn m) (Kn m) is ls st h = some x := by
  intro is
  induction is with
  | nil => intro ls st h x hx; cases hx
  | cons a is ih =>
    obtain ⟨pc, len, i, o⟩ := a
    intro ls st h x
    unfold runL
    split
    all_goals (repeat' split)
    all_goals first
      | exact hK _ _ _ _ _
      | exact ih _ _ _ _
      | exact icc_cont (hK _ _ _ _ _) (ih _ _ _ _)
      | exact swk_cont (fun _ _ => hK _ _ _ _ _)
      | exact hst_cont (fun _ _ => ih _ _ _ _)
      | exact retK_cont (callE_cont hC) (fun _ _ _ => ih _ _ _ _)
      | exact intr_cont (fun _ _ => ih _ _ _ _)
      | exact vdis_cont (fun _ _ => retK_cont (callE_cont hC) (fun _ _ _ => ih _ _ _ _))
      | exact oB_cont (fun _ => retK_cont (callE_cont hC) (fun _ _ _ => ih _ _ _ _))
      | exact fun hx => Evt.const hx
theorem exec_mono1 (P : Nat → Nat → List Ins) (sc : Nat × (Nat → Int32)) : ∀ (n d m b : Nat) (ls st : List Value) (h : AH) (x : Res), exec P sc n d m b ls st h = some x → exec P sc (n + 1) d m b ls st h = some x := by
  intro n
  induction n with
  | zero => intro d m b ls st h x hx; cases hx
  | succ n ih =>
    intro d m b ls st h x hx
    refine runL_mono ?_ ?_ _ _ _ _ _ hx
    · intro c as h x hx
      cases d with
      | zero => cases hx
      | succ d => exact ih _ _ _ _ _ _ _ hx
    · intro b ls st h x hx
      exact ih _ _ _ _ _ _ _ hx
theorem exec_mono (P : Nat → Nat → List Ins) (sc : Nat × (Nat → Int32)) {n n' d m b : Nat} {ls st : List Value} {h : AH} {x : Res} (hn : n ≤ n') (hx : exec P sc n d m b ls st h = some x) : exec P sc n' d m b ls st h = some x := by
  induction hn with
  | refl => exact hx
  | step _ ih => exact exec_mono1 _ _ _ _ _ _ _ _ _ _ ih
/-- what the abstract machine answers, with fuel enough -/
noncomputable def Exec (P : Nat → Nat → List Ins) (sc : Nat × (Nat → Int32)) (d m b : Nat) (ls st : List Value) (h : AH) : Option Res :=
  @dite _ (∃ (x : Res) (n : Nat), exec P sc n d m b ls st h = some x) (Classical.propDecidable _) (fun e => some (Classical.choose e)) (fun _ => none)
theorem Exec_iff {P : Nat → Nat → List Ins} {sc : Nat × (Nat → Int32)} {d m b : Nat} {ls st : List Value} {h : AH} {x : Res} : Exec P sc d m b ls st h = some x ↔ ∃ n, exec P sc n d m b ls st h = some x := by
  unfold Exec
  constructor
  · intro hx
    split at hx
    · next e =>
      have := Classical.choose_spec e
      cases hx
      exact this
    · cases hx
  · rintro ⟨n, hn⟩
    have e : ∃ (x : Res) (n : Nat), exec P sc n d m b ls st h = some x := ⟨x, n, hn⟩
    rw [dif_pos e]
    obtain ⟨n', hn'⟩ := Classical.choose_spec e
    have h1 := exec_mono P sc (Nat.le_max_left n n') hn
    have h2 := exec_mono P sc (Nat.le_max_right n n') hn'
    exact h2.symm.trans h1
theorem Exec_eq (P : Nat → Nat → List Ins) (sc : Nat × (Nat → Int32)) (d m b : Nat) (ls st : List Value) (h : AH) :
    Exec P sc d m b ls st h = runL sc (decide (d ≠ 0)) (fun c as h' => match d with | 0 => none | d' + 1 => Exec P sc d' c 0 as [] h') (fun b' ls' st' h' => Exec P sc d m b' ls' st' h') (P m b) ls st h := by
  refine Option.ext fun x => ?_
  show _ = some x ↔ _ = some x
  constructor
  · intro hx
    obtain ⟨n, hn⟩ := Exec_iff.mp hx
    cases n with
    | zero => cases hn
    | succ n =>
      refine runL_mono ?_ ?_ _ _ _ _ _ hn
      · intro c as h x hx
        cases d with
        | zero => cases hx
        | succ d => exact Exec_iff.mpr ⟨n, hx⟩
      · intro b ls st h x hx
        exact Exec_iff.mpr ⟨n, hx⟩
  · intro hx
    obtain ⟨n, hn⟩ := runL_cont (Cn := fun n c as h' => match (generalizing := false) d with | 0 => none | d' + 1 => exec P sc n d' c 0 as [] h') (Kn := fun n b' ls' st' h' => exec P sc n d m b' ls' st' h') (fun c as h x hx => by
        cases d with
        | zero => cases hx
        | succ d =>
          obtain ⟨n, hn⟩ := Exec_iff.mp hx
          exact ⟨n, fun k hk => exec_mono P sc hk hn⟩) (fun b ls st h x hx => by
        obtain ⟨n, hn⟩ := Exec_iff.mp hx
        exact ⟨n, fun k hk => exec_mono P sc hk hn⟩) _ _ _ _ _ hx
    exact Exec_iff.mpr ⟨n + 1, hn n (Nat.le_refl n)⟩
/-- with a call to spare -/
theorem Exec_eqS (P : Nat → Nat → List Ins) (sc : Nat × (Nat → Int32)) (d m b : Nat) (ls st : List Value) (h : AH) :
    Exec P sc (d + 1) m b ls st h = runL sc true (fun c as h' => Exec P sc d c 0 as [] h') (fun b' ls' st' h' => Exec P sc (d + 1) m b' ls' st' h') (P m b) ls st h := Exec_eq P sc (d + 1) m b ls st h
end
section
/-! the abstract heap as a world of the kit: place k is the cell at address b + k; the script is the cell at bs -/
def vmv (b bs : Nat) : Value → Value
  | .ref k => .ref (b + k)
  | .retAddr _ => .ref bs
  | v => v
theorem vmv_cat (b bs : Nat) (v : Value) : (vmv b bs v).category = v.category := by cases v <;> rfl
def trX (b : Nat) (x : (Nat → Int32) ⊕ (Nat → Int64) ⊕ (Nat → UInt32) ⊕ (Nat → UInt64) ⊕ (Nat → Option Nat)) : (Nat → Int32) ⊕ (Nat → Int64) ⊕ (Nat → UInt32) ⊕ (Nat → UInt64) ⊕ (Nat → Option Nat) := match x with
  | .inl f => .inl f
  | .inr (.inl f) => .inr (.inl f)
  | .inr (.inr (.inl f)) => .inr (.inr (.inl f))
  | .inr (.inr (.inr (.inl f))) => .inr (.inr (.inr (.inl f)))
  | .inr (.inr (.inr (.inr f))) => .inr (.inr (.inr (.inr (fun i => (f i).map (b + ·)))))
def trE (b bs : Nat) (cA : Nat → ClassId) : va_E → va_E
  | .inr (ci, fs) => .inr (ci, fs.map (vmv b bs))
  | .inl (t, n, x) => .inl (cA t, n, trX b x)
def wld (b bs : Nat) (cA : Nat → ClassId) (h : AH) : va_W := (List.range h.1).map fun k => (b + k, trE b bs cA (h.2.2 k))
theorem wld_get {b bs : Nat} {cA : Nat → ClassId} {h : AH} {k : Nat} (hk : k < h.1) : (wld b bs cA h)[k]? = some (b + k, trE b bs cA (h.2.2 k)) := by
  unfold wld
  simp [hk]
theorem wld_set {b bs : Nat} {cA : Nat → ClassId} {h : AH} {k : Nat} {c : va_E} : (wld b bs cA h).set k (b + k, trE b bs cA c) = wld b bs cA (hset h k c) := by
  apply List.ext_getElem?
  intro i
  unfold wld hset
  simp only [List.getElem?_set, List.getElem?_map, List.length_map, List.length_range]
  by_cases hi : k = i
  · subst hi
    by_cases h1 : k < h.1
    · simp [h1, va_up]
    · simp [h1]
  · have hi' : ¬ i = k := fun q => hi q.symm
    by_cases h1 : i < h.1
    · simp [hi, h1, va_up, hi']
    · simp [hi, h1]
theorem wld_push {b bs : Nat} {cA : Nat → ClassId} {h : AH} {c : va_E} {n : Nat} : wld b bs cA (hpush h c n) = wld b bs cA h ++ [(b + h.1, trE b bs cA c)] := by
  unfold wld hpush
  dsimp only
  rw [List.range_succ, List.map_append]
  congr 1
  · apply List.map_congr_left
    intro k hk
    have : k < h.1 := List.mem_range.mp hk
    simp [va_up, show ¬ k = h.1 by omega]
  · simp [va_up]
theorem wld_D {b bs : Nat} {cA : Nat → ClassId} {h : AH} : va_D (fun q => b ≤ q) (wld b bs cA h) := by
  have key : ∀ (i : Nat) (q : Nat × va_E), (wld b bs cA h)[i]? = some q → q.1 = b + i := by
    intro i q hq
    unfold wld at hq
    rw [List.getElem?_map] at hq
    cases hr : (List.range h.1)[i]? with
    | none => rw [hr] at hq; cases hq
    | some j =>
      rw [hr] at hq
      have hj : j = i := by
        obtain ⟨h1, h2⟩ := List.getElem?_eq_some_iff.mp hr
        simpa using h2.symm
      cases hq
      rw [hj]
  refine ⟨fun i j p q hp hq e => ?_, fun k q hq => ?_⟩
  · have h1 := key i p hp
    have h2 := key j q hq
    omega
  · have h1 := key k q hq
    show b ≤ q.1
    omega
theorem hcell_some {h : AH} {p : Nat} {c : va_E} (e : hcell h p = some c) : p < h.1 ∧ h.2.2 p = c := by
  unfold hcell at e
  split at e
  · next hp => cases e; exact ⟨hp, rfl⟩
  · cases e
theorem wld_at {b bs : Nat} {cA : Nat → ClassId} {h : AH} {p : Nat} {c : va_E} (e : hcell h p = some c) : (wld b bs cA h)[p]? = some (b + p, trE b bs cA c) := by
  obtain ⟨h1, h2⟩ := hcell_some e
  rw [wld_get h1, h2]
-- locals
def isJ (v : Value) : Bool := match v with
  | .float _ => true
  | _ => false
def prs (b bs : Nat) (ls : List Value) : List (Nat × Value) := (List.range ls.length).filterMap fun i => match ls[i]? with
  | some v => if isJ v = true then none else some (i, vmv b bs v)
  | none => none
theorem prs_mem {b bs : Nat} {ls : List Value} {i : Nat} {w : Value} : (i, w) ∈ prs b bs ls ↔ ∃ v, ls[i]? = some v ∧ isJ v = false ∧ w = vmv b bs v := by
  unfold prs
  rw [List.mem_filterMap]
  constructor
  · rintro ⟨j, hj, e⟩
    cases hv : ls[j]? with
    | none => rw [hv] at e; cases e
    | some v =>
      rw [hv] at e
      dsimp only at e
      split at e
      · cases e
      · next hJ => cases e; exact ⟨v, hv, by simpa using hJ, rfl⟩
  · rintro ⟨v, hv, hJ, rfl⟩
    have hl : i < ls.length := (List.getElem?_eq_some_iff.mp hv).1
    exact ⟨i, List.mem_range.mpr hl, by rw [hv]; simp [hJ]⟩
/-- the real locals hold what the abstract ones say -/
def LR (b bs nL : Nat) (ls : List Value) (lr : Array Slot) : Prop := ls.length = nL ∧ lv_has lr nL (prs b bs ls)
theorem LR.at {b bs nL : Nat} {ls : List Value} {lr : Array Slot} (h : LR b bs nL ls lr) {i : Nat} {v : Value} (hv : ls[i]? = some v) (hJ : isJ v = false) : lr[i]? = some (.val (vmv b bs v)) := h.2.2.2 (i, vmv b bs v) (prs_mem.mpr ⟨v, hv, hJ, rfl⟩)
theorem LR.weak {b bs nL : Nat} {ls' : List Value} {lr : Array Slot} {l : List (Nat × Value)} (h : lv_has lr nL l) (hl : ls'.length = nL) (hs : ∀ i v, ls'[i]? = some v → isJ v = false → (i, vmv b bs v) ∈ l) : LR b bs nL ls' lr := by
  refine ⟨hl, h.1, h.2.1, fun q hq => ?_⟩
  obtain ⟨i, w⟩ := q
  obtain ⟨v, hv, hJ, rfl⟩ := prs_mem.mp hq
  exact h.2.2 _ (hs i v hv hJ)
theorem killL_len (i : Nat) (ls : List Value) : (killL i ls).length = ls.length := by
  unfold killL
  split
  · rfl
  · split <;> simp
theorem killL_at {i j : Nat} {ls : List Value} {v : Value} (h : (killL i ls)[j]? = some v) (hJ : isJ v = false) : ls[j]? = some v ∧ (j + 1 = i → ¬ v.category = 2) := by
  unfold killL at h
  split at h
  · exact ⟨h, fun q => by omega⟩
  · next k =>
    split at h
    · next x hx =>
      rw [List.getElem?_set] at h
      split at h
      · split at h
        · cases h; cases hJ
        · cases h
      · next hne => exact ⟨h, fun q => absurd (show k = j by omega) hne⟩
    · next x hx =>
      rw [List.getElem?_set] at h
      split at h
      · split at h
        · cases h; cases hJ
        · cases h
      · next hne => exact ⟨h, fun q => absurd (show k = j by omega) hne⟩
    · next hx hy =>
      refine ⟨h, fun q => ?_⟩
      have hjk : j = k := by omega
      subst hjk
      cases v with
      | long x => exact absurd h (hx x)
      | double d => exact absurd h (hy d)
      | _ => simp [Value.category]
theorem st1_len {i : Nat} {v : Value} {ls l : List Value} (h : st1 i v ls = some l) : i < ls.length ∧ l = (killL i ls).set i v := by
  unfold st1 at h
  split at h
  · next hi => cases h; exact ⟨hi, rfl⟩
  · cases h
theorem st2_len {i : Nat} {v : Value} {ls l : List Value} (h : st2 i v ls = some l) : i + 1 < ls.length ∧ l = ((killL i ls).set i v).set (i + 1) Jk := by
  unfold st2 at h
  split at h
  · next hi => cases h; exact ⟨hi, rfl⟩
  · cases h
theorem LR.st1 {b bs nL i : Nat} {v : Value} {ls l : List Value} {lr lr' : Array Slot} (h : LR b bs nL ls lr) (hs : st1 i v ls = some l) (h' : lv_has lr' nL ((i, vmv b bs v) :: (prs b bs ls).filter (fun q => !(q.1 == i) && !(q.1 + 1 == i && q.2.category == 2)))) : LR b bs nL l lr' := by
  obtain ⟨hi, rfl⟩ := st1_len hs
  refine LR.weak h' (by rw [List.length_set, killL_len]; exact h.1) fun j w hw hJ => ?_
  rw [List.getElem?_set] at hw
  split at hw
  · next e =>
    subst e
    split at hw
    · cases hw; exact List.mem_cons_self
    · cases hw
  · next e =>
    obtain ⟨h1, h2⟩ := killL_at hw hJ
    refine List.mem_cons_of_mem _ (List.mem_filter.mpr ⟨prs_mem.mpr ⟨w, h1, hJ, rfl⟩, ?_⟩)
    have e' : ¬ j = i := fun q => e q.symm
    simp only [Bool.and_eq_true, Bool.not_eq_true', beq_eq_false_iff_ne, ne_eq, Bool.and_eq_false_iff]
    refine ⟨e', ?_⟩
    by_cases q : j + 1 = i
    · right; rw [vmv_cat]; exact h2 q
    · left; exact q
theorem LR.st2 {b bs nL i : Nat} {v : Value} {ls l : List Value} {lr lr' : Array Slot} (h : LR b bs nL ls lr) (hs : st2 i v ls = some l) (h' : lv_has lr' nL ((i, vmv b bs v) :: (prs b bs ls).filter (fun q => !(q.1 == i) && (!(q.1 == i + 1) && !(q.1 + 1 == i && q.2.category == 2))))) : LR b bs nL l lr' := by
  obtain ⟨hi, rfl⟩ := st2_len hs
  refine LR.weak h' (by rw [List.length_set, List.length_set, killL_len]; exact h.1) fun j w hw hJ => ?_
  rw [List.getElem?_set] at hw
  split at hw
  · next e =>
    split at hw
    · cases hw; cases hJ
    · cases hw
  · next e0 =>
    rw [List.getElem?_set] at hw
    split at hw
    · next e =>
      subst e
      split at hw
      · cases hw; exact List.mem_cons_self
      · cases hw
    · next e =>
      obtain ⟨h1, h2⟩ := killL_at hw hJ
      refine List.mem_cons_of_mem _ (List.mem_filter.mpr ⟨prs_mem.mpr ⟨w, h1, hJ, rfl⟩, ?_⟩)
      have e' : ¬ j = i := fun q => e q.symm
      have e0' : ¬ j = i + 1 := fun q => e0 q.symm
      simp only [Bool.and_eq_true, Bool.not_eq_true', beq_eq_false_iff_ne, ne_eq, Bool.and_eq_false_iff]
      refine ⟨e', e0', ?_⟩
      by_cases q : j + 1 = i
      · right; rw [vmv_cat]; exact h2 q
      · left; exact q
theorem mskN_len (m : Nat) (ls : List Value) : (mskN m ls).length = ls.length := by
  induction ls generalizing m with
  | nil => rfl
  | cons v r ih => simp [mskN, ih]
theorem mskN_at {m i : Nat} {ls : List Value} {v : Value} (h : (mskN m ls)[i]? = some v) (hJ : isJ v = false) : ls[i]? = some v := by
  induction ls generalizing m i with
  | nil => simp [mskN] at h
  | cons w r ih =>
    cases i with
    | zero =>
      simp only [mskN, List.getElem?_cons_zero, Option.some.injEq] at h
      split at h
      · subst h; rfl
      · subst h; cases hJ
    | succ i =>
      simp only [mskN, List.getElem?_cons_succ] at h ⊢
      exact ih h
theorem LR.msk {b bs nL : Nat} {ls : List Value} {lr : Array Slot} (h : LR b bs nL ls lr) (m : Nat) : LR b bs nL (mskN m ls) lr :=
  LR.weak h.2 (by rw [mskN_len]; exact h.1) fun i v hv hJ => prs_mem.mpr ⟨v, mskN_at hv hJ, hJ, rfl⟩
-- a method's entry
theorem layL_len (b bs : Nat) (as : List Value) : (lg_sl (as.map (vmv b bs))).length = (layL as).length := by
  induction as with
  | nil => rfl
  | cons v r ih =>
    unfold lg_sl at ih ⊢
    rw [List.map_cons, List.flatMap_cons, List.length_append, ih]
    cases v <;> simp [layL, vmv, Value.category] <;> omega
theorem layL_at (b bs : Nat) : ∀ (as : List Value) (k i : Nat) (v : Value), (layL as)[i]? = some v → isJ v = false → (k + i, vmv b bs v) ∈ lv_args k (as.map (vmv b bs)) := by
  intro as
  induction as with
  | nil => intro k i v h; simp [layL] at h
  | cons w r ih =>
    intro k i v h hJ
    rw [List.map_cons]
    unfold lv_args
    have one : ∀ (hw : w.category = 1) (hl : layL (w :: r) = w :: layL r), (k + i, vmv b bs v) ∈ (k, vmv b bs w) :: lv_args (if (vmv b bs w).category = 2 then k + 2 else k + 1) (r.map (vmv b bs)) := by
      intro hw hl
      rw [hl] at h
      cases i with
      | zero => simp at h; subst h; exact List.mem_cons_self
      | succ i =>
        rw [List.getElem?_cons_succ] at h
        refine List.mem_cons_of_mem _ ?_
        rw [vmv_cat, if_neg (by rw [hw]; decide)]
        have := ih (k + 1) i v h hJ
        rw [show k + (i + 1) = k + 1 + i by omega]
        exact this
    cases w with
    | long x =>
      have hl : layL (.long x :: r) = .long x :: Jk :: layL r := rfl
      rw [hl] at h
      match i, h with
      | 0, h => simp at h; subst h; exact List.mem_cons_self
      | 1, h => simp at h; subst h; cases hJ
      | i + 2, h =>
        rw [List.getElem?_cons_succ, List.getElem?_cons_succ] at h
        refine List.mem_cons_of_mem _ ?_
        rw [vmv_cat, if_pos (show (Value.long x).category = 2 from rfl)]
        have := ih (k + 2) i v h hJ
        rw [show k + (i + 2) = k + 2 + i by omega]
        exact this
    | double x =>
      have hl : layL (.double x :: r) = .double x :: Jk :: layL r := rfl
      rw [hl] at h
      match i, h with
      | 0, h => simp at h; subst h; exact List.mem_cons_self
      | 1, h => simp at h; subst h; cases hJ
      | i + 2, h =>
        rw [List.getElem?_cons_succ, List.getElem?_cons_succ] at h
        refine List.mem_cons_of_mem _ ?_
        rw [vmv_cat, if_pos (show (Value.double x).category = 2 from rfl)]
        have := ih (k + 2) i v h hJ
        rw [show k + (i + 2) = k + 2 + i by omega]
        exact this
    | int x => exact one rfl rfl
    | float x => exact one rfl rfl
    | null => exact one rfl rfl
    | ref x => exact one rfl rfl
    | retAddr x => exact one rfl rfl
theorem LR.entry {b bs nL : Nat} {as : List Value} (hn : (layL as).length ≤ nL) : LR b bs nL (entL nL as) ((lg_sl (as.map (vmv b bs)) ++ List.replicate (nL - (lg_sl (as.map (vmv b bs))).length) Slot.unset).toArray) := by
  refine LR.weak (lv_entry (as.map (vmv b bs)) (n := nL) (by rw [layL_len]; exact hn)) (by unfold entL; rw [List.length_append, List.length_replicate]; omega) fun i v hv hJ => ?_
  unfold entL at hv
  by_cases hi : i < (layL as).length
  · rw [List.getElem?_append_left hi] at hv
    have := layL_at b bs as 0 i v hv hJ
    rwa [Nat.zero_add] at this
  · rw [List.getElem?_append_right (by omega)] at hv
    have := List.getElem?_replicate (n := nL - (layL as).length) (a := Jk) (i := i - (layL as).length)
    rw [hv] at this
    split at this
    · cases this; cases hJ
    · cases this
end
section
/-! rows of the kit for the abstract heap's world: allocation at a known address, calls that bring the whole world back -/
section RowsA
variable {p : Program} {l : Launch} {e : Env} {R : Room} {s : State} {m : MethodId} {args : Array Value} {below : List Frame} {meth : Method} {c : Code} {H : Heap} {locs : List Loc} {cells slots : Nat} {Q : State → Prop}
variable {cc : ByteArray} {pc : Nat} {ls : Array Slot} {rest : List Value} {D : va_G} {cl : List vw_C} {A : Nat → Prop} {a : Nat} {tys : List (ClassId × FieldType)} {ws : va_W} {H0 : Heap}
theorem rw_new (hexec : p.tables.exec = Jvm.exec) (hb : c.code = cc) {own C : String} {T : u_T} {N ci index : Nat} {Ts : List Cond} (hts : ∀ w ∈ Ts, w.before args s = true) (hin : ∀ w ∈ u_ws C T N, w ∈ Ts) (ty : Nat → FieldType) (hty : ∀ k, k < N → parseFieldDescriptor (T k).2.2.1 = some (ty k)) (hown : s.vm.findClass own = some m.cls) (hcl : (Cond.classLink own index C).before args s = true) (hinst : (Cond.instantiable C N).before args s = true) (hini : (Cond.initialized C).before args s = true)
    (hK : va_K D cl tys s) (hP : va_P D cl ws H) (hS : va_S A H0 H locs) (hc : cl[ci]? = some (C, T, N)) {fs : List Value} (hfs : ∀ j, j < N → defaultValue (ty j) = vp_V fs j) (hcells : cells + 1 ≤ R.cells) (hslots : slots + N ≤ R.slots) (hdg : decode cc pc = .ok (.new index, 3))
    (kk : ∀ (H1 : Heap), H1.size = H.size + 1 → va_P D cl (ws ++ [(H.size, .inr (ci, fs))]) H1 → va_S A H0 H1 locs →
      W p l e R s m args below meth c H1 locs (cells + 1) (slots + N) Q (F0 m (pc + 3) ls (.ref H.size :: rest))) : W p l e R s m args below meth c H locs cells slots Q (F0 m pc ls rest) := by
  have hKn := hK.1 ci _ hc
  refine W.newcK hexec hb hown hcl hinst hini rfl hdg hcells hslots hKn.2.1 rfl fun H1 kC hkC e1 z1 o1 => ?_
  have hk : ∀ (k : Nat) (x : Nat × va_E), ws[k]? = some x → H1[x.1]? = H[x.1]? := fun k x hx => o1 x.1 ((hP k x hx).lt)
  refine kk H1 z1 ((hP.kept hk).app (fun k x hx => ?_)) ⟨Nat.le_trans hS.1 (by omega), fun x h1 h2 => (o1 x (Nat.lt_of_lt_of_le h1 hS.1)).trans (hS.2.1 x h1 h2), hS.2.2⟩
  have hz : k < 1 := (List.getElem?_eq_some_iff.mp hx).1
  rw [show k = 0 by omega] at hx
  cases hx
  exact ⟨_, hc, (u_born ty hts hin hKn hkC e1 hty).to hfs⟩
theorem rw_newI (hexec : p.tables.exec = Jvm.exec) (hb : c.code = cc) (harr : (Cond.arrayClass .int).before args s = true) (hP : va_P D cl ws H) (hS : va_S A H0 H locs) {cI : ClassId} (hcI : s.vm.findClass ("[" ++ (FieldType.int).toString) = some cI)
    {n : Int32} (hn : ¬ n < 0) (hbytes : n.toNatClampNeg * 4 ≤ 536870912) (hcells : cells + 1 ≤ R.cells) (hslots : slots + n.toNatClampNeg ≤ R.slots) (hdg : decode cc pc = .ok (.newarray .int, 2))
    (kk : ∀ (H1 : Heap), H1.size = H.size + 1 → va_P D cl (ws ++ [(H.size, .inl (cI, n.toNatClampNeg, .inl (fun _ => 0)))]) H1 → va_S A H0 H1 locs →
      W p l e R s m args below meth c H1 locs (cells + 1) (slots + n.toNatClampNeg) Q (F0 m (pc + 2) ls (.ref H.size :: rest))) : W p l e R s m args below meth c H locs cells slots Q (F0 m pc ls (.int n :: rest)) := by
  refine va_newaK (atype := .int) hexec hb harr rfl hdg rfl hn rfl hbytes hcells hslots rfl fun H1 cA e1 z1 o1 hAr hNm => ?_
  have hk : ∀ (k : Nat) (x : Nat × va_E), ws[k]? = some x → H1[x.1]? = H[x.1]? := fun k x hx => o1 x.1 ((hP k x hx).lt)
  have hc : cA = cI := Option.some.inj (hNm.symm.trans hcI)
  subst hc
  refine kk H1 z1 ((hP.kept hk).app (fun k x hx => ?_)) ⟨Nat.le_trans hS.1 (by omega), fun x h1 h2 => (o1 x (Nat.lt_of_lt_of_le h1 hS.1)).trans (hS.2.1 x h1 h2), hS.2.2⟩
  have hz : k < 1 := (List.getElem?_eq_some_iff.mp hx).1
  rw [show k = 0 by omega] at hx
  cases hx
  show H1[H.size]? = some (vp_cell _ _)
  rw [vp_cell_i]
  exact e1
theorem rw_newR (hexec : p.tables.exec = Jvm.exec) (hb : c.code = cc) {own C : String} {index : Nat} (hown : s.vm.findClass own = some m.cls) (hclink : (Cond.classLink own index C).before args s = true) (hover : va_AO C s) (hP : va_P D cl ws H) (hS : va_S A H0 H locs) {cR : ClassId} (hcR : s.vm.findClass ("[" ++ (FieldType.object C).toString) = some cR)
    {n : Int32} (hn : ¬ n < 0) (hbytes : n.toNatClampNeg * 4 ≤ 536870912) (hcells : cells + 1 ≤ R.cells) (hslots : slots + n.toNatClampNeg ≤ R.slots) (hdg : decode cc pc = .ok (.anewarray index, 3))
    (kk : ∀ (H1 : Heap), H1.size = H.size + 1 → va_P D cl (ws ++ [(H.size, .inl (cR, n.toNatClampNeg, .inr (.inr (.inr (.inr (fun _ => none))))))]) H1 → va_S A H0 H1 locs →
      W p l e R s m args below meth c H1 locs (cells + 1) (slots + n.toNatClampNeg) Q (F0 m (pc + 3) ls (.ref H.size :: rest))) : W p l e R s m args below meth c H locs cells slots Q (F0 m pc ls (.int n :: rest)) := by
  refine W.anew hexec hb hown hclink (va_AO.use hover) rfl hdg rfl hn hbytes hcells hslots fun cA kA comp f1 f2 f3 f4 => ?_
  generalize hH1 : H.push ({ cls := cA, slots := Array.replicate n.toNatClampNeg .null, vm := .none } : Cell) = H1
  have z1 : H1.size = H.size + 1 := by rw [← hH1, Array.size_push]
  have e1 : H1[H.size]? = some (arrV cA n.toNatClampNeg (fun _ => .null)) := by rw [← hH1, Array.getElem?_push_size, ← arrV_new]
  have o1 : ∀ q : Nat, q < H.size → H1[q]? = H[q]? := fun q hq => by rw [← hH1, Array.getElem?_push, if_neg (Nat.ne_of_lt hq)]
  have hk : ∀ (k : Nat) (x : Nat × va_E), ws[k]? = some x → H1[x.1]? = H[x.1]? := fun k x hx => o1 x.1 ((hP k x hx).lt)
  have hc : cA = cR := Option.some.inj (f1.symm.trans hcR)
  subst hc
  refine kk H1 z1 ((hP.kept hk).app (fun k x hx => ?_)) ⟨Nat.le_trans hS.1 (by omega), fun x h1 h2 => (o1 x (Nat.lt_of_lt_of_le h1 hS.1)).trans (hS.2.1 x h1 h2), hS.2.2⟩
  have hz : k < 1 := (List.getElem?_eq_some_iff.mp hx).1
  rw [show k = 0 by omega] at hx
  cases hx
  show H1[H.size]? = some (vp_cell _ _)
  rw [vp_cell_q]
  exact e1
/-- aaload of any array of references -/
theorem rw_aald (hexec : p.tables.exec = Jvm.exec) (hb : c.code = cc) (hK : va_K D cl tys s) (hP : va_P D cl ws H) (q0 t0 : Nat) {cA : ClassId} {ty : FieldType} {n : Nat} {f : Nat → Option Nat} (ha : ws[q0]? = some (a, .inl (cA, n, .inr (.inr (.inr (.inr f)))))) (ht : tys[t0]? = some (cA, ty)) (hty : ty.isReference = true) {i : Int32} (hin : vp_in i n) (hdg : decode cc pc = .ok (.aaload, 1))
    (kk : W p l e R s m args below meth c H locs cells slots Q (F0 m (pc + 1) ls (va_rf (f i.toNatClampNeg) :: rest))) : W p l e R s m args below meth c H locs cells slots Q (F0 m pc ls (.int i :: .ref a :: rest)) := by
  have hlt : i.toNatClampNeg < n := Nat.not_le.mp fun q => hin (Or.inr q)
  exact W.aald (v := va_rf (f i.toNatClampNeg)) (ty := ty) hexec hb (hP q0 _ ha) ((hK.2 t0 _ ht).1 n (fun j => va_rf (f j))) hty (fun q => by cases q) (by show ¬ (i < 0 ∨ (arrV _ _ _).slots.size ≤ _); rw [arrV_size]; exact hin) (by show (arrV _ _ _).slots[_]? = _; rw [arrV_read _ _ hlt]) rfl rfl hdg kk
/-- behind a call: the whole world as the callee leaves it -/
def Post (D : va_G) (cl : List vw_C) (b bs : Nat) (cA : Nat → ClassId) (r : Option Value) (h' : AH) : Array Value → State → Outcome → State → Prop := fun _ st oc t =>
  (oc = .returned (r.map (vmv b bs)) ∧ va_P D cl (wld b bs cA h') t.heap) ∧ va_F (fun q => b ≤ q) st t
theorem rw_call {b bs : Nat} {cA : Nat → ClassId} {r : Option Value} {h' : AH} {mc ms : Nat} {st0 : List Value} {av : Array Value} {free : Addr → Prop} (hr : va_Run p l e R s m args below meth c H locs cells slots mc ms (F0 m pc ls st0) rest (Post D cl b bs cA r h' av) free) (hS : va_S (fun q => b ≤ q) H0 H locs) (hf : ∀ q, free q → b ≤ q)
    (kk : ∀ (H1 : Heap) (locs1 : List Loc), va_P D cl (wld b bs cA h') H1 → va_S (fun q => b ≤ q) H0 H1 locs1 → H.size ≤ H1.size → W p l e R s m args below meth c H1 locs1 (cells + mc) (slots + ms) Q (F0 m (pc + 3) ls ((r.map (vmv b bs)).toList ++ rest))) : W p l e R s m args below meth c H locs cells slots Q (F0 m pc ls st0) := by
  intro T hT X
  obtain ⟨v, st₀, t, T', L, h0, X', hL, e1, e2, ⟨⟨hv, hp⟩, hs, hk⟩, st⟩ := hr T hT X
  cases hv
  rw [h0] at hs hk
  obtain ⟨t2, a1, b1⟩ := kk T'.heap (locs ++ L) (by rw [e1]; exact hp)
    ⟨Nat.le_trans hS.1 (by rw [e1]; exact hs), fun q h1 h2 => by rw [e1, hk q (Nat.lt_of_lt_of_le h1 hS.1) h2]; exact hS.2.1 q h1 h2, fun q hq => by
      rcases List.mem_append.mp hq with h | h
      · exact hS.2.2 q h
      · exact hf _ (hL q h)⟩ (by rw [e1]; exact hs) T' rfl X'
  exact ⟨t2, st t2 a1, b1⟩
/-- how large the heap can be: what was there, and what was made -/
theorem rw_size {g : JFrame} (kk : H.size ≤ s.heap.size + cells → W p l e R s m args below meth c H locs cells slots Q g) : W p l e R s m args below meth c H locs cells slots Q g := fun T hT X => kk (by rw [← hT]; exact X.heapSize) T hT X
end RowsA
end
section
/-! what a program decides of each instruction: that it stands in the bytes as told, and which words of the tables it needs -/
/-- a method: name, bytes, locals, answer, blocks -/
abbrev MI : Type := MethodName × ByteArray × Nat × Option FieldType × List (List Ins)
def PB (M : Nat → MI) (mi b : Nat) : List Ins := (M mi).2.2.2.2.getD b []
def bpc (M : Nat → MI) (mi b : Nat) : Nat := match PB M mi b with
  | [] => 0
  | a :: _ => a.1
def nxt (is : List Ins) : Nat := match is with
  | [] => 0
  | a :: _ => a.1
/-- the word at a place of the tables, one that goes along -/
def wat (T0 : List Cond) (k : Nat) (w : Cond) : Bool := decide (T0[k]? = some w) && goodWord w
theorem wat_spec {T0 : List Cond} {k : Nat} {w : Cond} (h : wat T0 k w = true) : w ∈ T0.filter goodWord := by
  simp only [wat, Bool.and_eq_true, decide_eq_true_eq] at h
  exact List.mem_filter.mpr ⟨List.mem_of_getElem? h.1, h.2⟩
def xat (xw : List Cond) (k : Nat) (w : Cond) : Bool := decide (xw[k]? = some w)
theorem xat_spec {xw : List Cond} {k : Nat} {w : Cond} (h : xat xw k w = true) : w ∈ xw := by
  simp only [xat, decide_eq_true_eq] at h
  exact List.mem_of_getElem? h
def clN (cl : List vw_C) (ci : Nat) : vw_C := cl.getD ci ("", fun _ => ("", "", "", false), 0)
/-- the program: methods, how many may be called, tables, classes, their fields' types, words of nests, pairs of classes that don't cast, element types of arrays -/
abbrev PG : Type := (Nat → MI) × Nat × List Cond × List vw_C × (Nat → Nat → FieldType) × List Cond × List (String × String) × List FieldType
abbrev PG.M (G : PG) : Nat → MI := G.1
abbrev PG.nM (G : PG) : Nat := G.2.1
abbrev PG.T0 (G : PG) : List Cond := G.2.2.1
abbrev PG.cl (G : PG) : List vw_C := G.2.2.2.1
abbrev PG.ty0 (G : PG) : Nat → Nat → FieldType := G.2.2.2.2.1
abbrev PG.xw (G : PG) : List Cond := G.2.2.2.2.2.1
abbrev PG.nc (G : PG) : List (String × String) := G.2.2.2.2.2.2.1
abbrev PG.tyL (G : PG) : List FieldType := G.2.2.2.2.2.2.2
def dcd (G : PG) (mi pc len : Nat) (i : Instr) : Bool := decide (decode (G.M mi).2.1 pc = .ok (i, len))
def retOk (G : PG) (c k : Nat) : Bool := match (G.M c).2.2.2.1 with
  | none => decide (k = 0)
  | some .int => decide (k = 1)
  | some .boolean => decide (k = 1)
  | some .long => decide (k = 2)
  | some (.object _) => decide (k = 3)
  | _ => false
/-- of a callee: callable, its locals as told, so many arguments -/
def cleOk (G : PG) (c mL n k : Nat) : Bool := decide (c < G.nM) && decide ((G.M c).2.2.1 = mL) && decide (mL ≤ 21) && retOk G c k && decide ((parseMethodDescriptor (G.M c).1.desc).map (fun d => d.parameters.length) = some n)
/-- casting a class to another, exactly or by a word -/
def casts (G : PG) (k : Nat) (C E : String) : Bool := decide (C = E) || xat G.xw k (.castable C E)
/-- the receivers of a call that may be overridden: class, callee; words: which it selects, that this is a method of objects -/
def polyOk (G : PG) (xm n k : Nat) : List (Nat × Nat × Nat) → List Nat → Bool
  | [], _ => true
  | (ci, c, mL) :: r, a :: b :: ws => decide (ci < G.cl.length) && cleOk G c mL n k && wat G.T0 a (.selects (clN G.cl ci).1 (G.M xm).1 (G.M c).1) && wat G.T0 b (.instanceMethod (G.M c).1) && polyOk G xm n k r ws
  | _, _ => false
def okI (G : PG) (mi pc len : Nat) (i : Instr) (o : Opd) (nx : Nat) : Bool :=
  let own := (G.M mi).1.cls
  let fall := decide (nx = pc + len)
  let d := dcd G mi pc len i
  match i with
  | .nop => decide (pc = bpc G.M mi o.2.1)
  | .iconst n => d && fall && decide (len = 1) && decide (o.1 = .int (Int32.ofInt n))
  | .bipush n => d && fall && decide (len = 2) && decide (o.1 = .int (Int8.ofInt n).toInt32)
  | .sipush n => d && fall && decide (len = 3) && decide (o.1 = .int (Int16.ofInt n).toInt32)
  | .lconst n => d && fall && decide (len = 1) && decide (o.1 = .long (Int64.ofNat (n : Nat)))
  | .ldc k => d && fall && decide (len = 2) && (match o.1, o.2.2.2.2 with | .int v, w :: _ => wat G.T0 w (.constant own k v) | _, _ => false)
  | .ldc_w k => d && fall && decide (len = 3) && (match o.1, o.2.2.2.2 with | .int v, w :: _ => wat G.T0 w (.constant own k v) | _, _ => false)
  | .ldc2_w k => d && fall && decide (len = 3) && (match o.1, o.2.2.2.2 with | .long v, w :: _ => wat G.T0 w (.constantLong own k v) | _, _ => false)
  | .iload_n k => d && fall && decide (len = 1) && decide ((k : Nat) = o.2.1)
  | .lload_n k => d && fall && decide (len = 1) && decide ((k : Nat) = o.2.1)
  | .aload_n k => d && fall && decide (len = 1) && decide ((k : Nat) = o.2.1)
  | .istore_n k => d && fall && decide (len = 1) && decide ((k : Nat) = o.2.1)
  | .lstore_n k => d && fall && decide (len = 1) && decide ((k : Nat) = o.2.1)
  | .astore_n k => d && fall && decide (len = 1) && decide ((k : Nat) = o.2.1)
  | .iload k => d && fall && decide (len = 2) && decide (k = o.2.1)
  | .lload k => d && fall && decide (len = 2) && decide (k = o.2.1)
  | .aload k => d && fall && decide (len = 2) && decide (k = o.2.1)
  | .istore k => d && fall && decide (len = 2) && decide (k = o.2.1)
  | .lstore k => d && fall && decide (len = 2) && decide (k = o.2.1)
  | .astore k => d && fall && decide (len = 2) && decide (k = o.2.1)
  | .iinc k n => d && fall && decide (len = 3) && decide (k = o.2.1) && decide (o.1 = .int (Int32.ofInt n))
  | .iadd | .isub | .imul | .iand | .ior | .ixor | .idiv | .irem | .ineg | .ishl | .ishr | .iushr | .i2l | .l2i | .i2b | .i2s | .ladd | .lmul | .ldiv | .lrem | .lcmp | .dup | .dup2 => d && fall && decide (len = 1)
  | .goto off => d && decide (len = 3) && (match o.1 with | .null => decide ((pc : Int) + off = (nx : Int)) | _ => decide ((pc : Int) + off = (bpc G.M mi o.2.1 : Int)))
  | .ifCond _ off => d && fall && decide (len = 3) && decide ((pc : Int) + off = (bpc G.M mi o.2.1 : Int))
  | .if_icmp _ off => d && fall && decide (len = 3) && decide ((pc : Int) + off = (bpc G.M mi o.2.1 : Int))
  | .tableswitch dflt lo hi offs => d && decide ((pc : Int) + dflt = (bpc G.M mi o.2.1 : Int)) && decide (o.2.2.2.1.map (fun q => (q.1 : Int)) = (List.range o.2.2.2.1.length).map (fun (j : Nat) => lo + (j : Int))) && decide (hi = lo + (o.2.2.2.1.length : Int) - 1) && decide (o.2.2.2.1.map (fun q => some ((bpc G.M mi q.2.1 : Int) - (pc : Int))) = (List.range o.2.2.2.1.length).map (fun (j : Nat) => offs[j]?))
  | .lookupswitch dflt ps => d && decide ((pc : Int) + dflt = (bpc G.M mi o.2.1 : Int)) && decide ((ps.toList.zip (ps.toList.drop 1)).all (fun (a, next) => a.1 < next.1) = true) && decide (o.2.2.2.1.map (fun q => ((q.1 : Int), (bpc G.M mi q.2.1 : Int) - (pc : Int))) = ps.toList)
  | .getfield k => d && fall && decide (len = 3) && decide (o.2.1 < G.cl.length) && decide (o.2.2.1 < (clN G.cl o.2.1).2.2) && (match o.2.2.2.2 with | w :: _ => wat G.T0 w (.fieldLink own k ((clN G.cl o.2.1).2.1 o.2.2.1).1 ((clN G.cl o.2.1).2.1 o.2.2.1).2.1 ((clN G.cl o.2.1).2.1 o.2.2.1).2.2.1) | _ => false)
  | .putfield k => d && fall && decide (len = 3) && decide (o.2.1 < G.cl.length) && decide (o.2.2.1 < (clN G.cl o.2.1).2.2) && (match o.2.2.2.2 with | w :: _ => wat G.T0 w (.fieldLink own k ((clN G.cl o.2.1).2.1 o.2.2.1).1 ((clN G.cl o.2.1).2.1 o.2.2.1).2.1 ((clN G.cl o.2.1).2.1 o.2.2.1).2.2.1) | _ => false)
      && (match ((clN G.cl o.2.1).2.1 o.2.2.1).2.2.2 with | false => true | true => decide ((G.M mi).1.name = "<init>") && decide (((clN G.cl o.2.1).2.1 o.2.2.1).1 = own))
      && (match o.1, parseFieldDescriptor ((clN G.cl o.2.1).2.1 o.2.2.1).2.2.1 with | .int v, some .int => decide (v = 0) | .int v, some .boolean => decide (v = 1) | .null, some (.object _) => true | .null, some (.array _) => true | _, _ => false)
  | .iaload | .iastore | .arraylength => d && fall && decide (len = 1)
  | .aaload => d && fall && decide (len = 1) && (match G.tyL[o.2.1]? with | some ty => ty.isReference | none => false)
  | .aastore => d && fall && decide (len = 1) && (match G.tyL[o.2.1]? with | some (.object E) => o.2.2.2.1.all (fun q => decide (q.1 < G.cl.length) && casts G q.2.1 (clN G.cl q.1).1 E) | _ => false)
  | .instanceof k => d && fall && decide (len = 3) && (match o.2.2.2.2 with | w :: nm :: _ => decide (nm < G.cl.length) && wat G.T0 w (.classLink own k (clN G.cl nm).1) && o.2.2.2.1.all (fun q => decide (q.1 < G.cl.length) && (if q.2.1 = 1 then casts G q.2.2 (clN G.cl q.1).1 (clN G.cl nm).1 else decide (q.2.1 = 0) && decide (G.nc[q.2.2]? = some ((clN G.cl q.1).1, (clN G.cl nm).1)))) | _ => false)
  | .new k => d && fall && decide (len = 3) && decide (o.2.1 < G.cl.length) && decide (o.2.2.2.1.length = (clN G.cl o.2.1).2.2) && (match o.2.2.2.2 with | w1 :: w2 :: w3 :: _ => wat G.T0 w1 (.classLink own k (clN G.cl o.2.1).1) && wat G.T0 w2 (.instantiable (clN G.cl o.2.1).1 (clN G.cl o.2.1).2.2) && wat G.T0 w3 (.initialized (clN G.cl o.2.1).1) | _ => false)
      && (List.range (clN G.cl o.2.1).2.2).all (fun j => decide (defaultValue (G.ty0 o.2.1 j) = vp_V (dfl o.2.2.2.1) j))
  | .newarray .int => d && fall && decide (len = 2) && (match o.2.2.2.2 with | w :: _ => wat G.T0 w (.arrayClass .int) | _ => false)
  | .anewarray k => d && fall && decide (len = 3) && (match G.tyL[o.2.1]?, o.2.2.2.2 with | some (.object C), w :: x :: _ => wat G.T0 w (.classLink own k C) && xat G.xw x (.arrayOver (.object C)) | _, _ => false)
  | .multianewarray k n => d && fall && decide (len = 4) && decide (n = 2) && (match o.2.2.2.2 with | w :: x :: y :: _ => wat G.T0 w (.classLink own k "[[I") && xat G.xw x (.arrayOver (.array .int)) && wat G.T0 y (.arrayClass .int) | _ => false)
  | .invokestatic k => d && fall && decide (len = 3) && (match o.2.2.2.1, o.2.2.2.2 with
    | [(nst, c, mL)], w :: v :: _ => cleOk G c mL o.2.1 o.2.2.1 && wat G.T0 v (.static (G.M c).1) && (if nst = 0 then wat G.T0 w (.methodLink own k (G.M c).1) else xat G.xw w (.methodLinkNest own k (G.M c).1 "LetterChute"))
    | [], w :: v :: u :: t :: _ => (match o.2.1 with
      | 1 => wat G.T0 w (.methodLink own k Lib.Math.min.name) && wat G.T0 v (.static Lib.Math.min.name) && wat G.T0 u (.initialized "java/lang/Math") && wat G.T0 t (.code Lib.Math.min.name Lib.Math.min.code 2 (some .int))
      | 2 => wat G.T0 w (.methodLink own k Lib.Math.max.name) && wat G.T0 v (.static Lib.Math.max.name) && wat G.T0 u (.initialized "java/lang/Math") && wat G.T0 t (.code Lib.Math.max.name Lib.Math.max.code 2 (some .int))
      | 3 => wat G.T0 w (.methodLink own k Lib.MathLoose.max_long.x) && wat G.T0 v (.static Lib.MathLoose.max_long.x) && wat G.T0 u (.initialized "java/lang/Math") && wat G.T0 t (.code Lib.MathLoose.max_long.x Lib.MathLoose.max_long.code 4 (some .long))
      | 4 => wat G.T0 w (.methodLink own k arraycopyName) && wat G.T0 v (.static arraycopyName) && wat G.T0 u (.initialized "java/lang/System") && wat G.T0 t (.native arraycopyName)
      | _ => false)
    | _, _ => false)
  | .invokevirtual k => d && fall && decide (len = 3) && (match o.2.2.2.2 with
    | [w, v, u] => (match o.2.2.2.1 with
      | [(ci, c, mL)] => decide (ci < G.cl.length) && cleOk G c mL o.2.1 o.2.2.1 && decide ((G.M c).1.cls = (clN G.cl ci).1) && wat G.T0 w (.methodLink own k (G.M c).1) && wat G.T0 v (.instanceMethod (G.M c).1) && wat G.T0 u (.selects (clN G.cl ci).1 (G.M c).1 (G.M c).1)
      | _ => false)
    | w :: sm :: ix :: xm :: ws => decide (xm < G.nM) && decide ((parseMethodDescriptor (G.M xm).1.desc).map (fun d => d.parameters.length) = some o.2.1) && wat G.T0 w (.methodLink own k (G.M xm).1) && wat G.T0 sm (.sameMethod (G.M xm).1.cls (G.M xm).1.cls (G.M xm).1.name (G.M xm).1.desc) && wat G.T0 ix (.instanceMethod (G.M xm).1) && polyOk G xm o.2.1 o.2.2.1 o.2.2.2.1 ws
    | _ => false)
  | .invokespecial k => d && fall && decide (len = 3) && (match o.2.2.2.1, o.2.2.2.2 with
    | [(ks, c, mL)], w :: v :: ws => cleOk G c mL o.2.1 o.2.2.1 && wat G.T0 v (.instanceMethod (G.M c).1) && (match ks with
      | 0 => decide ((G.M c).1.name = "<init>") && decide ((G.M c).2.2.2.1 = none) && wat G.T0 w (.methodLink own k (G.M c).1)
      | 1 => decide ((G.M c).1.name = "<init>") && decide ((G.M c).2.2.2.1 = none) && xat G.xw w (.methodLinkNest own k (G.M c).1 "LetterChute")
      | _ => (match ws with | [a, b] => decide (¬ (G.M c).1.name = "<init>") && wat G.T0 w (.methodLink own k (G.M c).1) && wat G.T0 a (.sameMethod (G.M c).1.cls (G.M c).1.cls (G.M c).1.name (G.M c).1.desc) && wat G.T0 b (.superclass own (G.M c).1.cls) | _ => false))
    | [], w :: v :: u :: _ => decide (o.2.1 = 0) && wat G.T0 w (.methodLink own k Lib.objectInit) && wat G.T0 v (.instanceMethod Lib.objectInit) && wat G.T0 u (.code Lib.objectInit ⟨#[0xb1]⟩ 1 none)
    | _, _ => false)
  | .ireturn => d && decide (len = 1) && (match (G.M mi).2.2.2.1 with | some .int => decide (o.2.1 = 0) | some .boolean => decide (o.2.1 = 1) | _ => false)
  | .lreturn => d && decide (len = 1) && decide ((G.M mi).2.2.2.1 = some .long)
  | .areturn => d && decide (len = 1) && (match (G.M mi).2.2.2.1 with | some (.object _) => true | _ => false)
  | .return_ => d && decide (len = 1) && decide ((G.M mi).2.2.2.1 = none)
  | _ => false
def okL (G : PG) (mi : Nat) : List Ins → Bool
  | [] => true
  | (pc, len, i, o) :: is => okI G mi pc len i o (nxt is) && okL G mi is
/-- a method and all its blocks -/
def okM (G : PG) (mi : Nat) : Bool := (G.M mi).2.2.2.2.all (okL G mi)
/-- of a method that may be called: its words, its first block at its first byte -/
def okC (G : PG) (mi : Nat) (q : Nat × Nat) : Bool := wat G.T0 q.1 (.code (G.M mi).1 (G.M mi).2.1 (G.M mi).2.2.1 (G.M mi).2.2.2.1) && wat G.T0 q.2 (.initialized (G.M mi).1.cls) && plainName (G.M mi).1.cls && decide ((G.M mi).1.cls ≠ "java/lang/invoke/MethodHandle") && decide ((G.M mi).1.cls ≠ "java/lang/invoke/VarHandle") && decide (bpc G.M mi 0 = 0)
theorem okM_blk {G : PG} {mi : Nat} (h : okM G mi = true) (b : Nat) : okL G mi (PB G.M mi b) = true := by
  unfold PB
  by_cases hb : b < (G.M mi).2.2.2.2.length
  · have := List.all_eq_true.mp h ((G.M mi).2.2.2.2[b]) (List.getElem_mem hb)
    rw [List.getD_eq_getElem?_getD, List.getElem?_eq_getElem hb]
    exact this
  · rw [List.getD_eq_getElem?_getD, List.getElem?_eq_none (by omega)]
    rfl
end
section
/-! the abstract heap only grows -/
def Gr (h h' : AH) : Prop := h.1 ≤ h'.1 ∧ h.2.1 ≤ h'.2.1
theorem Gr.rf {h : AH} : Gr h h := ⟨Nat.le_refl _, Nat.le_refl _⟩
theorem Gr.tr {a b c : AH} (h1 : Gr a b) (h2 : Gr b c) : Gr a c := ⟨Nat.le_trans h1.1 h2.1, Nat.le_trans h1.2 h2.2⟩
theorem Gr.set {h : AH} {p : Nat} {c : va_E} : Gr h (hset h p c) := ⟨Nat.le_refl _, Nat.le_refl _⟩
theorem Gr.push {h : AH} {c : va_E} {n : Nat} : Gr h (hpush h c n) := ⟨Nat.le_succ _, Nat.le_add_right _ _⟩
theorem pV_set {h h' : AH} {p ci k : Nat} {v : Value} (e : pV h p ci k v = some h') : ∃ fs, hcell h p = some (.inr (ci, fs)) ∧ k < fs.length ∧ h' = hset h p (.inr (ci, fs.set k v)) := by
  unfold pV at e
  split at e
  · next c fs hc =>
    split at e
    · next hk =>
      obtain ⟨rfl, hk⟩ := hk
      cases e
      exact ⟨fs, hc, hk, rfl⟩
    · cases e
  · cases e
theorem sI_set {h h' : AH} {p : Nat} {i x : Int32} (e : sI h p i x = some h') : ∃ n f, hcell h p = some (.inl (0, n, .inl f)) ∧ vp_in i n ∧ h' = hset h p (.inl (0, n, .inl (upd f i.toNatClampNeg x))) := by
  unfold sI at e
  split at e
  · next t n f hc =>
    split at e
    · next ht =>
      subst ht
      split at e
      · cases e
      · next hi => cases e; exact ⟨n, f, hc, hi, rfl⟩
    · cases e
  · cases e
theorem aI_get {h : AH} {p : Nat} {i x : Int32} (e : aI h p i = some x) : ∃ n f, hcell h p = some (.inl (0, n, .inl f)) ∧ vp_in i n ∧ x = f i.toNatClampNeg := by
  unfold aI at e
  split at e
  · next t n f hc =>
    split at e
    · next ht =>
      subst ht
      split at e
      · cases e
      · next hi => cases e; exact ⟨n, f, hc, hi, rfl⟩
    · cases e
  · cases e
theorem aR_get {h : AH} {p t : Nat} {i : Int32} {x : Nat} (e : aR h p t i = some x) : ∃ n f, hcell h p = some (.inl (t, n, .inr (.inr (.inr (.inr f))))) ∧ vp_in i n ∧ f i.toNatClampNeg = some x := by
  unfold aR at e
  split at e
  · next t' n f hc =>
    split at e
    · next ht =>
      subst ht
      split at e
      · cases e
      · next hi => exact ⟨n, f, hc, hi, e⟩
    · cases e
  · cases e
theorem sR_set {h h' : AH} {p q : Nat} {i : Int32} (e : sR h p i q = some h') : ∃ t n f, hcell h p = some (.inl (t, n, .inr (.inr (.inr (.inr f))))) ∧ vp_in i n ∧ h' = hset h p (.inl (t, n, .inr (.inr (.inr (.inr (va_up f i.toNatClampNeg (some q))))))) := by
  unfold sR at e
  split at e
  · next t n f hc =>
    split at e
    · cases e
    · next hi => cases e; exact ⟨t, n, f, hc, hi, rfl⟩
  · cases e
theorem gI_get {h : AH} {p ci k : Nat} {x : Int32} (e : gI h p ci k = some x) : ∃ fs, hcell h p = some (.inr (ci, fs)) ∧ fs[k]? = some (.int x) := by
  unfold gI at e
  split at e
  · next c fs hc =>
    split at e
    · next ht =>
      subst ht
      split at e
      · next y hk => cases e; exact ⟨fs, hc, hk⟩
      · cases e
    · cases e
  · cases e
theorem gR_get {h : AH} {p ci k : Nat} {x : Nat} (e : gR h p ci k = some x) : ∃ fs, hcell h p = some (.inr (ci, fs)) ∧ fs[k]? = some (.ref x) := by
  unfold gR at e
  split at e
  · next c fs hc =>
    split at e
    · next ht =>
      subst ht
      split at e
      · next y hk => cases e; exact ⟨fs, hc, hk⟩
      · cases e
    · cases e
  · cases e
theorem cpA_set {h h' : AH} {s d : Nat} {sp dp n : Int32} (e : cpA h s sp d dp n = some h') : ∃ n0 f n1 g, hcell h s = some (.inl (0, n0, .inl f)) ∧ hcell h d = some (.inl (0, n1, .inl g)) ∧ ¬ sp < 0 ∧ ¬ dp < 0 ∧ ¬ n < 0 ∧ sp.toNatClampNeg + n.toNatClampNeg ≤ n0 ∧ dp.toNatClampNeg + n.toNatClampNeg ≤ n1 ∧ h' = hset h d (.inl (0, n1, .inl (va_cpy f g sp.toNatClampNeg dp.toNatClampNeg n.toNatClampNeg))) := by
  unfold cpA at e
  split at e
  · next t0 n0 f hs =>
    split at e
    · next t1 n1 g hd =>
      split at e
      · next hk =>
        obtain ⟨rfl, rfl, a1, a2, a3, a4, a5⟩ := hk
        cases e
        exact ⟨n0, f, n1, g, hs, hd, a1, a2, a3, a4, a5, rfl⟩
      · cases e
    · cases e
  · cases e
theorem clsOf_get {h : AH} {p c : Nat} (e : clsOf h p = some c) : ∃ fs, hcell h p = some (.inr (c, fs)) := by
  unfold clsOf at e
  split at e
  · next c fs hc => cases e; exact ⟨fs, hc⟩
  · cases e
theorem pV_gr {h h' : AH} {p ci k : Nat} {v : Value} (e : pV h p ci k v = some h') : Gr h h' := by
  obtain ⟨fs, -, -, rfl⟩ := pV_set e
  exact Gr.set
theorem sI_gr {h h' : AH} {p : Nat} {i x : Int32} (e : sI h p i x = some h') : Gr h h' := by
  obtain ⟨n, f, -, -, rfl⟩ := sI_set e
  exact Gr.set
theorem sR_gr {h h' : AH} {p q : Nat} {i : Int32} (e : sR h p i q = some h') : Gr h h' := by
  obtain ⟨t, n, f, -, -, rfl⟩ := sR_set e
  exact Gr.set
theorem cpA_gr {h h' : AH} {s d : Nat} {sp dp n : Int32} (e : cpA h s sp d dp n = some h') : Gr h h' := by
  obtain ⟨n0, f, n1, g, -, -, -, -, -, -, -, rfl⟩ := cpA_set e
  exact Gr.set
theorem oB_inv {α : Type} {o : Option α} {F : α → Option Res} {x : Res} (hx : oB o F = some x) : ∃ a, o = some a ∧ F a = some x := by
  cases o with
  | none => cases hx
  | some a => exact ⟨a, rfl, hx⟩
theorem vdis_inv {L : List (Nat × Nat × Nat)} {c : Option Nat} {F : Nat → Nat → Option Res} {x : Res} (hx : vdis L c F = some x) : ∃ ci q, c = some ci ∧ look L ci = some q ∧ F q.1 q.2 = some x := by
  induction L with
  | nil => cases hx
  | cons q r ih =>
    unfold vdis at hx
    split at hx
    · next e => exact ⟨q.1, q.2, e, by unfold look; rw [if_pos rfl], hx⟩
    · next e =>
      obtain ⟨ci, q', h1, h2, h3⟩ := ih hx
      refine ⟨ci, q', h1, ?_, h3⟩
      unfold look
      rw [if_neg (fun e' => e (by rw [h1, e']))]
      exact h2
theorem intr_gr {o : Nat} {st : List Value} {h : AH} {F : List Value → AH → Option Res} {x : Res} (hF : ∀ st h1, F st h1 = some x → Gr h1 x.2) (hx : intr o st h F = some x) : Gr h x.2 := by
  unfold intr at hx
  split at hx
  all_goals (repeat' split at hx)
  all_goals first
    | (cases hx; done)
    | exact hF _ _ hx
    | (obtain ⟨h', hc, hx⟩ := oB_inv hx; exact (cpA_gr hc).tr (hF _ _ hx))
theorem retK_gr {k : Nat} {o : Option Res} {r : List Value} {F : List Value → AH → Option Res} {x : Res} {h : AH} (ho : ∀ y, o = some y → Gr h y.2) (hF : ∀ st h1, F st h1 = some x → Gr h1 x.2) (hx : retK k o r F = some x) : Gr h x.2 := by
  unfold retK at hx
  split at hx
  · unfold cV at hx
    split at hx
    · exact (ho _ rfl).tr (hF _ _ hx)
    · cases hx
  · unfold cI at hx
    split at hx
    · exact (ho _ rfl).tr (hF _ _ hx)
    · cases hx
  · unfold cL at hx
    split at hx
    · exact (ho _ rfl).tr (hF _ _ hx)
    · cases hx
  · unfold cR at hx
    split at hx
    · exact (ho _ rfl).tr (hF _ _ hx)
    · cases hx
theorem icc_gr {c : Jvm.ClassFile.Cond} {x y : Int32} {A B : Option Res} {z : Res} {P : Prop} (hA : A = some z → P) (hB : B = some z → P) (h : icc c x y A B = some z) : P := by
  revert h
  unfold icc
  cases c <;> dsimp only <;> split <;> (first | exact hA | exact hB)
theorem swk_gr {x : Int} {L : List (Nat × Nat × Nat)} {K : Nat → Nat → Option Res} {a b : Nat} {z : Res} {P : Prop} (hK : ∀ p q, K p q = some z → P) (h : swk x L K a b = some z) : P := by
  induction L with
  | nil => exact hK _ _ h
  | cons q r ih =>
    obtain ⟨k, b1, m⟩ := q
    revert h
    unfold swk
    split
    · exact hK _ _
    · exact ih
theorem hst_gr {sc : Nat × (Nat → Int32)} {z : Bool} {i : Instr} {o : Opd} {st : List Value} {h : AH} {F : List Value → AH → Option Res} {x : Res} (hF : ∀ st h1, F st h1 = some x → Gr h1 x.2) (hx : hst sc z i o st h F = some x) : Gr h x.2 := by
  unfold hst at hx
  split at hx
  all_goals (repeat' split at hx)
  all_goals first
    | (cases hx; done)
    | exact hF _ _ hx
    | exact Gr.tr Gr.push (hF _ _ hx)
    | (obtain ⟨h', hc, hx⟩ := oB_inv hx; exact hF _ _ hx)
    | (obtain ⟨h', hc, hx⟩ := oB_inv hx; exact (pV_gr hc).tr (hF _ _ hx))
    | (obtain ⟨h', hc, hx⟩ := oB_inv hx; exact (sI_gr hc).tr (hF _ _ hx))
    | (obtain ⟨_, _, hx⟩ := oB_inv hx; obtain ⟨_, _, hx⟩ := oB_inv hx; obtain ⟨h', hc, hx⟩ := oB_inv hx; exact (sR_gr hc).tr (hF _ _ hx))
    | (obtain ⟨_, _, _, _, hx⟩ := vdis_inv hx; exact hF _ _ hx)
    | exact Gr.tr ⟨by unfold newM; dsimp only; omega, by unfold newM; dsimp only; omega⟩ (hF _ _ hx)
theorem callE_gr {C : Nat → List Value → AH → Option Res} (hC : ∀ c as h x, C c as h = some x → Gr h x.2) {c mL : Nat} {as : List Value} {h : AH} (x : Res) (hx : callE C c mL as h = some x) : Gr h x.2 := by
  revert hx
  unfold callE
  split
  · exact hC _ _ _ _
  · exact fun hx => by cases hx
theorem runL_gr {sc : Nat × (Nat → Int32)} {z : Bool} {C : Nat → List Value → AH → Option Res} {K : Nat → List Value → List Value → AH → Option Res} (hC : ∀ c as h x, C c as h = some x → Gr h x.2) (hK : ∀ b ls st h x, K b ls st h = some x → Gr h x.2) :
    ∀ (is : List Ins) (ls st : List Value) (h : AH) (x : Res), runL sc z C K is ls st h = some x → Gr h x.2 := by
  intro is
  induction is with
  | nil => intro ls st h x hx; cases hx
  | cons a is ih =>
    obtain ⟨pc, len, i, o⟩ := a
    intro ls st h x hx
    unfold runL at hx
    split at hx
    all_goals (repeat' split at hx)
    all_goals first
      | (cases hx; done)
      | exact hK _ _ _ _ _ hx
      | exact ih _ _ _ _ hx
      | exact icc_gr (hK _ _ _ _ _) (ih _ _ _ _) hx
      | exact swk_gr (fun _ _ => hK _ _ _ _ _) hx
      | exact hst_gr (fun _ _ => ih _ _ _ _) hx
      | exact retK_gr (callE_gr hC) (fun _ _ => ih _ _ _ _) hx
      | exact intr_gr (fun _ _ => ih _ _ _ _) hx
      | (obtain ⟨_, _, _, _, hx⟩ := vdis_inv hx; exact retK_gr (callE_gr hC) (fun _ _ => ih _ _ _ _) hx)
      | (obtain ⟨_, _, hx⟩ := oB_inv hx; exact retK_gr (callE_gr hC) (fun _ _ => ih _ _ _ _) hx)
      | (cases hx; exact Gr.rf)
theorem exec_gr (P : Nat → Nat → List Ins) (sc : Nat × (Nat → Int32)) : ∀ (n d m b : Nat) (ls st : List Value) (h : AH) (x : Res), exec P sc n d m b ls st h = some x → Gr h x.2 := by
  intro n
  induction n with
  | zero => intro d m b ls st h x hx; cases hx
  | succ n ih =>
    intro d m b ls st h x hx
    refine runL_gr ?_ ?_ _ _ _ _ _ hx
    · intro c as h x hx
      cases d with
      | zero => cases hx
      | succ d => exact ih _ _ _ _ _ _ _ hx
    · intro b ls st h x hx
      exact ih _ _ _ _ _ _ _ hx
end
section
/-! the machine does what the abstract one says: locals and stack -/
/-- the words that go along -/
def TS (G : PG) : List Cond := G.T0.filter goodWord
/-- what is known of the state: classes, nest words, pairs that don't cast -/
def KS (G : PG) (D : va_G) (tys : List (ClassId × FieldType)) (U : State) : Prop := va_K D G.cl tys U ∧ (∀ w ∈ G.xw, va_Nw w U) ∧ (∀ q ∈ G.nc, va_Nc q.1 q.2 U)
/-- a method's frame: the machine, its code, the tables' words, the state at its start -/
def FC (G : PG) (D : va_G) (tys : List (ClassId × FieldType)) (b bs : Nat) (sc : Nat × (Nat → Int32)) (mi : Nat) (p : Program) (s : State) (m : MethodId) (args : Array Value) (meth : Method) (c : Code) (h0 : AH) : Prop :=
  p.tables.exec = Jvm.exec ∧ c.code = (G.M mi).2.1 ∧ c.maxLocals = (G.M mi).2.2.1 ∧ meth.sig.returnType = (G.M mi).2.2.2.1 ∧ s.vm.findClass (G.M mi).1.cls = some m.cls ∧ (∀ w ∈ TS G, w.before args s = true) ∧ meth.name = (G.M mi).1.name ∧ meth.locks = false ∧ KS G D tys s ∧ va_X bs sc.1 sc.2 s s.heap ∧ bs < b ∧ s.heap.size = b + h0.1
section Pure
variable {G : PG} {D : va_G} {tys : List (ClassId × FieldType)} {b bs : Nat} {sc : Nat × (Nat → Int32)} {mi : Nat} {h0 : AH}
variable {p : Program} {l : Launch} {e : Env} {R : Room} {s : State} {m : MethodId} {args : Array Value} {below : List Frame} {meth : Method} {c : Code} {H : Heap} {locs : List Loc} {cells slots : Nat} {Q : State → Prop}
set_option maxHeartbeats 4000000 in
theorem pst_sound (hF : FC G D tys b bs sc mi p s m args meth c h0) {pc len nx : Nat} {i : Instr} {o : Opd} {ls st ls' st' : List Value} {lr : Array Slot} (hok : okI G mi pc len i o nx = true) (hp : pst i o ls st = some (ls', st')) (hL : LR b bs (G.M mi).2.2.1 ls lr)
    (kk : ∀ lr', LR b bs (G.M mi).2.2.1 ls' lr' → W p l e R s m args below meth c H locs cells slots Q (F0 m nx lr' (st'.map (vmv b bs)))) : W p l e R s m args below meth c H locs cells slots Q (F0 m pc lr (st.map (vmv b bs))) := by
  obtain ⟨hx, hb, hml, hr, hown, hts, hnm, hlk, hK, hX, hbs, hsz⟩ := hF
  cases i
  case iconst n =>
    simp only [okI, dcd, Bool.and_eq_true, decide_eq_true_eq] at hok
    obtain ⟨⟨⟨hd, rfl⟩, rfl⟩, hv⟩ := hok
    cases hp
    exact lv_iconst hx hb hd rfl (by rw [hv] at kk; exact kk _ hL)
  case bipush n =>
    simp only [okI, dcd, Bool.and_eq_true, decide_eq_true_eq] at hok
    obtain ⟨⟨⟨hd, rfl⟩, rfl⟩, hv⟩ := hok
    cases hp
    exact lv_bipush hx hb hd rfl (by rw [hv] at kk; exact kk _ hL)
  case sipush n =>
    simp only [okI, dcd, Bool.and_eq_true, decide_eq_true_eq] at hok
    obtain ⟨⟨⟨hd, rfl⟩, rfl⟩, hv⟩ := hok
    cases hp
    exact lv_sipush hx hb hd rfl (by rw [hv] at kk; exact kk _ hL)
  case lconst n =>
    simp only [okI, dcd, Bool.and_eq_true, decide_eq_true_eq] at hok
    obtain ⟨⟨⟨hd, rfl⟩, rfl⟩, hv⟩ := hok
    cases hp
    exact lv_lconst hx hb hd rfl (by rw [hv] at kk; exact kk _ hL)
  case ldc n =>
    simp only [okI, dcd, Bool.and_eq_true, decide_eq_true_eq] at hok
    obtain ⟨⟨⟨hd, rfl⟩, rfl⟩, hw⟩ := hok
    cases hp
    split at hw
    · next v w _ hv _ => exact lv_ldc hx hb hown (hts _ (wat_spec hw)) hd (by rw [hv] at kk; exact kk _ hL)
    · cases hw
  case ldc_w n =>
    simp only [okI, dcd, Bool.and_eq_true, decide_eq_true_eq] at hok
    obtain ⟨⟨⟨hd, rfl⟩, rfl⟩, hw⟩ := hok
    cases hp
    split at hw
    · next v w _ hv _ => exact lv_ldcw hx hb hown (hts _ (wat_spec hw)) hd (by rw [hv] at kk; exact kk _ hL)
    · cases hw
  case ldc2_w n =>
    simp only [okI, dcd, Bool.and_eq_true, decide_eq_true_eq] at hok
    obtain ⟨⟨⟨hd, rfl⟩, rfl⟩, hw⟩ := hok
    cases hp
    split at hw
    · next v w _ hv _ => exact lv_ldc2 hx hb hown (hts _ (wat_spec hw)) hd (by rw [hv] at kk; exact kk _ hL)
    · cases hw
  case iload_n n =>
    simp only [okI, dcd, Bool.and_eq_true, decide_eq_true_eq] at hok
    obtain ⟨⟨⟨hd, rfl⟩, rfl⟩, hv⟩ := hok
    simp only [pst] at hp
    split at hp
    · next x hx1 => cases hp; exact lv_iload_n hx hb hd hv (hL.at hx1 rfl) (kk _ hL)
    · cases hp
  case iload n =>
    simp only [okI, dcd, Bool.and_eq_true, decide_eq_true_eq] at hok
    obtain ⟨⟨⟨hd, rfl⟩, rfl⟩, hv⟩ := hok
    simp only [pst] at hp
    split at hp
    · next x hx1 => cases hp; exact lv_iload hx hb hd (by rw [hv]; exact hL.at hx1 rfl) (kk _ hL)
    · cases hp
  case lload_n n =>
    simp only [okI, dcd, Bool.and_eq_true, decide_eq_true_eq] at hok
    obtain ⟨⟨⟨hd, rfl⟩, rfl⟩, hv⟩ := hok
    simp only [pst] at hp
    split at hp
    · next x hx1 => cases hp; exact lv_lload_n hx hb hd hv (hL.at hx1 rfl) (kk _ hL)
    · cases hp
  case lload n =>
    simp only [okI, dcd, Bool.and_eq_true, decide_eq_true_eq] at hok
    obtain ⟨⟨⟨hd, rfl⟩, rfl⟩, hv⟩ := hok
    simp only [pst] at hp
    split at hp
    · next x hx1 => cases hp; exact lv_lload hx hb hd (by rw [hv]; exact hL.at hx1 rfl) (kk _ hL)
    · cases hp
  case aload_n n =>
    simp only [okI, dcd, Bool.and_eq_true, decide_eq_true_eq] at hok
    obtain ⟨⟨⟨hd, rfl⟩, rfl⟩, hv⟩ := hok
    simp only [pst] at hp
    split at hp
    · next x hx1 => cases hp; exact lv_aload_n hx hb hd hv (hL.at hx1 rfl) (kk _ hL)
    · next x hx1 => cases hp; exact lv_aload_n hx hb hd hv (hL.at hx1 rfl) (kk _ hL)
    · cases hp
  case aload n =>
    simp only [okI, dcd, Bool.and_eq_true, decide_eq_true_eq] at hok
    obtain ⟨⟨⟨hd, rfl⟩, rfl⟩, hv⟩ := hok
    simp only [pst] at hp
    split at hp
    · next x hx1 => cases hp; exact lv_aload hx hb hd (by rw [hv]; exact hL.at hx1 rfl) (kk _ hL)
    · next x hx1 => cases hp; exact lv_aload hx hb hd (by rw [hv]; exact hL.at hx1 rfl) (kk _ hL)
    · cases hp
  case istore_n n =>
    simp only [okI, dcd, Bool.and_eq_true, decide_eq_true_eq] at hok
    obtain ⟨⟨⟨hd, rfl⟩, rfl⟩, hv⟩ := hok
    simp only [pst] at hp
    split at hp
    · split at hp
      · next hs => cases hp; exact lv_istore_n hx hb hd hv hL.2 (by rw [← hL.1]; exact (st1_len hs).1) rfl (fun lr' h' => kk lr' (hL.st1 hs h'))
      · cases hp
    · cases hp
  case istore n =>
    simp only [okI, dcd, Bool.and_eq_true, decide_eq_true_eq] at hok
    obtain ⟨⟨⟨hd, rfl⟩, rfl⟩, hv⟩ := hok
    subst hv
    simp only [pst] at hp
    split at hp
    · split at hp
      · next hs => cases hp; exact lv_istore hx hb hd hL.2 (by rw [← hL.1]; exact (st1_len hs).1) rfl (fun lr' h' => kk lr' (hL.st1 hs h'))
      · cases hp
    · cases hp
  case astore_n n =>
    simp only [okI, dcd, Bool.and_eq_true, decide_eq_true_eq] at hok
    obtain ⟨⟨⟨hd, rfl⟩, rfl⟩, hv⟩ := hok
    simp only [pst] at hp
    split at hp
    · split at hp
      · next hs => cases hp; exact lv_astore_n hx hb hd hv hL.2 (by rw [← hL.1]; exact (st1_len hs).1) rfl (fun lr' h' => kk lr' (hL.st1 hs h'))
      · cases hp
    · cases hp
  case astore n =>
    simp only [okI, dcd, Bool.and_eq_true, decide_eq_true_eq] at hok
    obtain ⟨⟨⟨hd, rfl⟩, rfl⟩, hv⟩ := hok
    subst hv
    simp only [pst] at hp
    split at hp
    · split at hp
      · next hs => cases hp; exact lv_astore hx hb hd hL.2 (by rw [← hL.1]; exact (st1_len hs).1) rfl (fun lr' h' => kk lr' (hL.st1 hs h'))
      · cases hp
    · cases hp
  case lstore_n n =>
    simp only [okI, dcd, Bool.and_eq_true, decide_eq_true_eq] at hok
    obtain ⟨⟨⟨hd, rfl⟩, rfl⟩, hv⟩ := hok
    simp only [pst] at hp
    split at hp
    · split at hp
      · next hs => cases hp; exact lv_lstore_n hx hb hd hv hL.2 (by rw [← hL.1]; exact (st2_len hs).1) rfl (fun lr' h' => kk lr' (hL.st2 hs h'))
      · cases hp
    · cases hp
  case lstore n =>
    simp only [okI, dcd, Bool.and_eq_true, decide_eq_true_eq] at hok
    obtain ⟨⟨⟨hd, rfl⟩, rfl⟩, hv⟩ := hok
    subst hv
    simp only [pst] at hp
    split at hp
    · split at hp
      · next hs => cases hp; exact lv_lstore hx hb hd hL.2 (by rw [← hL.1]; exact (st2_len hs).1) rfl (fun lr' h' => kk lr' (hL.st2 hs h'))
      · cases hp
    · cases hp
  case iinc k n =>
    simp only [okI, dcd, Bool.and_eq_true, decide_eq_true_eq] at hok
    obtain ⟨⟨⟨⟨hd, rfl⟩, rfl⟩, hv⟩, ho⟩ := hok
    subst hv
    simp only [pst] at hp
    split at hp
    · next x hx1 =>
      rw [ho] at hp
      dsimp only at hp
      split at hp
      · next hs =>
        cases hp
        obtain ⟨q, hq⟩ := List.getElem?_of_mem (prs_mem.mpr ⟨_, hx1, rfl, rfl⟩ : (o.2.1, vmv b bs (.int x)) ∈ prs b bs ls)
        exact lv_iinc hx hb hd hL.2 hq rfl (by rw [← hL.1]; exact (st1_len hs).1) rfl (fun lr' h' => kk lr' (hL.st1 hs h'))
      · cases hp
    · cases hp
  case iadd =>
    simp only [okI, dcd, Bool.and_eq_true, decide_eq_true_eq] at hok
    obtain ⟨⟨hd, rfl⟩, rfl⟩ := hok
    simp only [pst] at hp
    split at hp
    · cases hp; exact lv_iadd hx hb hd (kk _ hL)
    · cases hp
  case isub =>
    simp only [okI, dcd, Bool.and_eq_true, decide_eq_true_eq] at hok
    obtain ⟨⟨hd, rfl⟩, rfl⟩ := hok
    simp only [pst] at hp
    split at hp
    · cases hp; exact lv_isub hx hb hd (kk _ hL)
    · cases hp
  case imul =>
    simp only [okI, dcd, Bool.and_eq_true, decide_eq_true_eq] at hok
    obtain ⟨⟨hd, rfl⟩, rfl⟩ := hok
    simp only [pst] at hp
    split at hp
    · cases hp; exact lv_imul hx hb hd (kk _ hL)
    · cases hp
  case iand =>
    simp only [okI, dcd, Bool.and_eq_true, decide_eq_true_eq] at hok
    obtain ⟨⟨hd, rfl⟩, rfl⟩ := hok
    simp only [pst] at hp
    split at hp
    · cases hp; exact lv_iand hx hb hd (kk _ hL)
    · cases hp
  case ior =>
    simp only [okI, dcd, Bool.and_eq_true, decide_eq_true_eq] at hok
    obtain ⟨⟨hd, rfl⟩, rfl⟩ := hok
    simp only [pst] at hp
    split at hp
    · cases hp; exact lv_ior hx hb hd (kk _ hL)
    · cases hp
  case ixor =>
    simp only [okI, dcd, Bool.and_eq_true, decide_eq_true_eq] at hok
    obtain ⟨⟨hd, rfl⟩, rfl⟩ := hok
    simp only [pst] at hp
    split at hp
    · cases hp; exact lv_ixor hx hb hd (kk _ hL)
    · cases hp
  case ineg =>
    simp only [okI, dcd, Bool.and_eq_true, decide_eq_true_eq] at hok
    obtain ⟨⟨hd, rfl⟩, rfl⟩ := hok
    simp only [pst] at hp
    split at hp
    · cases hp; exact lv_ineg hx hb hd (kk _ hL)
    · cases hp
  case ishl =>
    simp only [okI, dcd, Bool.and_eq_true, decide_eq_true_eq] at hok
    obtain ⟨⟨hd, rfl⟩, rfl⟩ := hok
    simp only [pst] at hp
    split at hp
    · cases hp; exact lv_ishl hx hb hd (kk _ hL)
    · cases hp
  case ishr =>
    simp only [okI, dcd, Bool.and_eq_true, decide_eq_true_eq] at hok
    obtain ⟨⟨hd, rfl⟩, rfl⟩ := hok
    simp only [pst] at hp
    split at hp
    · cases hp; exact lv_ishr hx hb hd (kk _ hL)
    · cases hp
  case iushr =>
    simp only [okI, dcd, Bool.and_eq_true, decide_eq_true_eq] at hok
    obtain ⟨⟨hd, rfl⟩, rfl⟩ := hok
    simp only [pst] at hp
    split at hp
    · cases hp; exact lv_iushr hx hb hd rfl (kk _ hL)
    · cases hp
  case i2l =>
    simp only [okI, dcd, Bool.and_eq_true, decide_eq_true_eq] at hok
    obtain ⟨⟨hd, rfl⟩, rfl⟩ := hok
    simp only [pst] at hp
    split at hp
    · cases hp; exact lv_i2l hx hb hd rfl (kk _ hL)
    · cases hp
  case l2i =>
    simp only [okI, dcd, Bool.and_eq_true, decide_eq_true_eq] at hok
    obtain ⟨⟨hd, rfl⟩, rfl⟩ := hok
    simp only [pst] at hp
    split at hp
    · cases hp; exact lv_l2i hx hb hd rfl (kk _ hL)
    · cases hp
  case i2b =>
    simp only [okI, dcd, Bool.and_eq_true, decide_eq_true_eq] at hok
    obtain ⟨⟨hd, rfl⟩, rfl⟩ := hok
    simp only [pst] at hp
    split at hp
    · cases hp; exact lv_i2b hx hb hd rfl (kk _ hL)
    · cases hp
  case i2s =>
    simp only [okI, dcd, Bool.and_eq_true, decide_eq_true_eq] at hok
    obtain ⟨⟨hd, rfl⟩, rfl⟩ := hok
    simp only [pst] at hp
    split at hp
    · cases hp; exact lv_i2s hx hb hd rfl (kk _ hL)
    · cases hp
  case ladd =>
    simp only [okI, dcd, Bool.and_eq_true, decide_eq_true_eq] at hok
    obtain ⟨⟨hd, rfl⟩, rfl⟩ := hok
    simp only [pst] at hp
    split at hp
    · cases hp; exact lv_ladd hx hb hd (kk _ hL)
    · cases hp
  case lmul =>
    simp only [okI, dcd, Bool.and_eq_true, decide_eq_true_eq] at hok
    obtain ⟨⟨hd, rfl⟩, rfl⟩ := hok
    simp only [pst] at hp
    split at hp
    · cases hp; exact lv_lmul hx hb hd (kk _ hL)
    · cases hp
  case lcmp =>
    simp only [okI, dcd, Bool.and_eq_true, decide_eq_true_eq] at hok
    obtain ⟨⟨hd, rfl⟩, rfl⟩ := hok
    simp only [pst] at hp
    split at hp
    · cases hp; exact W.lcmp hx hb hd (kk _ hL)
    · cases hp
  case dup =>
    simp only [okI, dcd, Bool.and_eq_true, decide_eq_true_eq] at hok
    obtain ⟨⟨hd, rfl⟩, rfl⟩ := hok
    simp only [pst] at hp
    split at hp
    · split at hp
      · next hv => cases hp; exact lv_dup hx hb hd (by rw [vmv_cat]; exact hv) (kk _ hL)
      · cases hp
    · cases hp
  case dup2 =>
    simp only [okI, dcd, Bool.and_eq_true, decide_eq_true_eq] at hok
    obtain ⟨⟨hd, rfl⟩, rfl⟩ := hok
    simp only [pst] at hp
    split at hp
    · split at hp
      · next hv => cases hp; exact lv_dup2_11 hx hb hd (by rw [vmv_cat]; exact hv.1) (by rw [vmv_cat]; exact hv.2) (kk _ hL)
      · cases hp
    · cases hp
  all_goals (exact absurd hp (by simp [pst]))
end Pure
end
section
/-! the machine does what the abstract one says: the heap -/
def cAt (tys : List (ClassId × FieldType)) (t : Nat) : ClassId := (tys.getD t (0, .int)).1
/-- what is decided of the program once -/
def GOK (G : PG) (tys : List (ClassId × FieldType)) : Prop :=
  (∀ ci, ci < G.cl.length → (∀ w ∈ u_ws (clN G.cl ci).1 (clN G.cl ci).2.1 (clN G.cl ci).2.2, w ∈ TS G) ∧ (∀ k, k < (clN G.cl ci).2.2 → parseFieldDescriptor ((clN G.cl ci).2.1 k).2.2.1 = some (G.ty0 ci k)) ∧ (∀ a, a < (clN G.cl ci).2.2 → ∀ b, b < (clN G.cl ci).2.2 → a ≠ b → ((clN G.cl ci).2.1 a).2.1 ≠ ((clN G.cl ci).2.1 b).2.1)) ∧
  tys.map (fun q => q.2) = G.tyL ∧ G.tyL[0]? = some .int ∧ G.tyL[3]? = some (.array .int)
theorem clN_at {cl : List vw_C} {ci : Nat} (h : ci < cl.length) : cl[ci]? = some ((clN cl ci).1, (clN cl ci).2.1, (clN cl ci).2.2) := by
  unfold clN
  rw [List.getD_eq_getElem?_getD, List.getElem?_eq_getElem h]
  rfl
theorem tys_at {G : PG} {tys : List (ClassId × FieldType)} (h : tys.map (fun q => q.2) = G.tyL) {t : Nat} {ty : FieldType} (ht : G.tyL[t]? = some ty) : tys[t]? = some (cAt tys t, ty) := by
  rw [← h, List.getElem?_map] at ht
  cases hq : tys[t]? with
  | none => rw [hq] at ht; cases ht
  | some q =>
    rw [hq] at ht
    cases ht
    unfold cAt
    rw [List.getD_eq_getElem?_getD, hq]
    rfl
/-- the heap of the machine against the abstract one; cells and slots made since the method began -/
def SR (G : PG) (D : va_G) (tys : List (ClassId × FieldType)) (b bs : Nat) (s : State) (h0 h : AH) (H : Heap) (locs : List Loc) (cells slots : Nat) : Prop :=
  va_P D G.cl (wld b bs (cAt tys) h) H ∧ va_S (fun q => b ≤ q) s.heap H locs ∧ cells = h.1 - h0.1 ∧ slots = h.2.1 - h0.2.1 ∧ Gr h0 h
theorem fs_map {b bs : Nat} {fs : List Value} {k : Nat} {v : Value} (h : fs[k]? = some v) : (fs.map (vmv b bs))[k]? = some (vmv b bs v) := by
  rw [List.getElem?_map, h]
  rfl
theorem look_mem {L : List (Nat × Nat × Nat)} {c : Nat} {q : Nat × Nat} (h : look L c = some q) : (c, q.1, q.2) ∈ L := by
  induction L with
  | nil => cases h
  | cons a r ih =>
    unfold look at h
    split at h
    · next e => cases h; rw [← e]; exact List.mem_cons_self
    · exact List.mem_cons_of_mem _ (ih h)
theorem dfl_map (b bs : Nat) (L : List (Nat × Nat × Nat)) : (dfl L).map (vmv b bs) = dfl L := by
  unfold dfl
  rw [List.map_map]
  apply List.map_congr_left
  intro q _
  show vmv b bs (if q.1 = 0 then .int 0 else .null) = _
  split <;> rfl
theorem casts_spec {G : PG} {k : Nat} {C E : String} (h : casts G k C E = true) : C = E ∨ Cond.castable C E ∈ G.xw := by
  unfold casts at h
  rw [Bool.or_eq_true, decide_eq_true_eq] at h
  exact h.imp id xat_spec
section HeapS
variable {G : PG} {D : va_G} {tys : List (ClassId × FieldType)} {b bs : Nat} {sc : Nat × (Nat → Int32)} {mi : Nat} {h0 : AH}
variable {p : Program} {l : Launch} {e : Env} {R : Room} {s : State} {m : MethodId} {args : Array Value} {below : List Frame} {meth : Method} {c : Code} {H : Heap} {locs : List Loc} {cells slots : Nat} {Q : State → Prop}
/-- one cell written -/
theorem SR.put {h : AH} {q : Nat} {cq : va_E} {H1 : Heap} {locs1 : List Loc} (hR : SR G D tys b bs s h0 h H locs cells slots) (hP : va_P D G.cl ((wld b bs (cAt tys) h).set q (b + q, trE b bs (cAt tys) cq)) H1) (hS : va_S (fun q => b ≤ q) s.heap H1 locs1) : SR G D tys b bs s h0 (hset h q cq) H1 locs1 cells slots := by
  rw [wld_set] at hP
  exact ⟨hP, hS, hR.2.2.1, hR.2.2.2.1, hR.2.2.2.2⟩
theorem SR.lo {h : AH} (hR : SR G D tys b bs s h0 h H locs cells slots) (hsz : s.heap.size = b + h0.1) : b + h.1 ≤ H.size := by
  have h1 : s.heap.size ≤ H.size := hR.2.1.1
  by_cases hz : h.1 = 0
  · omega
  · have hk : h.1 - 1 < h.1 := by omega
    have h2 := (hR.1 (h.1 - 1) _ (wld_get hk)).lt
    dsimp only at h2
    omega
theorem SR.size {h : AH} (hR : SR G D tys b bs s h0 h H locs cells slots) (hsz : s.heap.size = b + h0.1) (hu : H.size ≤ s.heap.size + cells) : H.size = b + h.1 := by
  have h1 := hR.lo hsz
  have h2 := hR.2.2.1
  have h3 := hR.2.2.2.2.1
  omega
/-- one cell made -/
theorem SR.push {h : AH} {cq : va_E} {n : Nat} {H1 : Heap} (hR : SR G D tys b bs s h0 h H locs cells slots) (hz : H.size = b + h.1) (hP : va_P D G.cl (wld b bs (cAt tys) h ++ [(H.size, trE b bs (cAt tys) cq)]) H1) (hS : va_S (fun q => b ≤ q) s.heap H1 locs) : SR G D tys b bs s h0 (hpush h cq n) H1 locs (cells + 1) (slots + n) := by
  rw [hz, ← wld_push (n := n)] at hP
  obtain ⟨-, -, h3, h4, h5, h6⟩ := hR
  exact ⟨hP, hS, by show cells + 1 = h.1 + 1 - h0.1; omega, by show slots + n = h.2.1 + n - h0.2.1; omega, Nat.le_succ_of_le h5, Nat.le_add_right_of_le h6⟩
set_option maxHeartbeats 4000000 in
/-- an instruction of the heap -/
theorem hst_sound (hG : GOK G tys) (hF : FC G D tys b bs sc mi p s m args meth c h0) {z : Bool} {pc len nx : Nat} {i : Instr} {o : Opd} {st : List Value} {h : AH} {lr : Array Slot} {F : List Value → AH → Option Res} {x : Res} (hok : okI G mi pc len i o nx = true) (hp : hst sc z i o st h F = some x) (hR : SR G D tys b bs s h0 h H locs cells slots) (hgr : ∀ st' h', F st' h' = some x → Gr h' x.2) (hRc : x.2.1 - h0.1 ≤ R.cells) (hRs : x.2.2.1 - h0.2.1 ≤ R.slots)
    (kk : ∀ (st' : List Value) (h' : AH) (H' : Heap) (locs' : List Loc) (cells' slots' : Nat), F st' h' = some x → SR G D tys b bs s h0 h' H' locs' cells' slots' → W p l e R s m args below meth c H' locs' cells' slots' Q (F0 m nx lr (st'.map (vmv b bs)))) : W p l e R s m args below meth c H locs cells slots Q (F0 m pc lr (st.map (vmv b bs))) := by
  obtain ⟨hx, hb, hml, hr, hown, hts, hnm, hlk, hK, hX, hbs, hsz⟩ := hF
  obtain ⟨gC, gT, g0, g3⟩ := hG
  have hP := hR.1
  have hS := hR.2.1
  have hD := wld_D (b := b) (bs := bs) (cA := cAt tys) (h := h)
  cases i
  case idiv =>
    simp only [okI, dcd, Bool.and_eq_true, decide_eq_true_eq] at hok
    obtain ⟨⟨hd, rfl⟩, rfl⟩ := hok
    simp only [hst] at hp
    split at hp
    · split at hp
      · cases hp
      · next hy => exact lv_idiv hx hb hd hy (kk _ _ _ _ _ _ hp hR)
    · cases hp
  case irem =>
    simp only [okI, dcd, Bool.and_eq_true, decide_eq_true_eq] at hok
    obtain ⟨⟨hd, rfl⟩, rfl⟩ := hok
    simp only [hst] at hp
    split at hp
    · split at hp
      · cases hp
      · next hy => exact lv_irem hx hb hd hy (kk _ _ _ _ _ _ hp hR)
    · cases hp
  case ldiv =>
    simp only [okI, dcd, Bool.and_eq_true, decide_eq_true_eq] at hok
    obtain ⟨⟨hd, rfl⟩, rfl⟩ := hok
    simp only [hst] at hp
    split at hp
    · split at hp
      · cases hp
      · next hy => exact lv_ldiv hx hb hd hy (kk _ _ _ _ _ _ hp hR)
    · cases hp
  case lrem =>
    simp only [okI, dcd, Bool.and_eq_true, decide_eq_true_eq] at hok
    obtain ⟨⟨hd, rfl⟩, rfl⟩ := hok
    simp only [hst] at hp
    split at hp
    · split at hp
      · cases hp
      · next hy => exact lv_lrem hx hb hd hy (kk _ _ _ _ _ _ hp hR)
    · cases hp
  case getfield k =>
    simp only [okI, dcd, Bool.and_eq_true, decide_eq_true_eq] at hok
    obtain ⟨⟨⟨⟨⟨hd, rfl⟩, rfl⟩, hci⟩, hkk⟩, hw⟩ := hok
    split at hw
    · next w _ =>
      have hl := hts _ (wat_spec hw)
      simp only [hst, oB] at hp
      split at hp
      · next q r =>
        split at hp
        · split at hp
          · next y hy =>
            obtain ⟨fs, hc, hf⟩ := gI_get hy
            exact va_get hx hb hts (gC _ hci).1 hown hK.1 hP q (wld_at hc) (clN_at hci) _ hkk hl (fun _ h9 => h9) (fs_map hf) hd (kk _ _ _ _ _ _ hp hR)
          · cases hp
        · split at hp
          · next y hy =>
            obtain ⟨fs, hc, hf⟩ := gR_get hy
            exact va_get hx hb hts (gC _ hci).1 hown hK.1 hP q (wld_at hc) (clN_at hci) _ hkk hl (fun _ h9 => h9) (fs_map hf) hd (kk _ _ _ _ _ _ hp hR)
          · cases hp
      · cases hp
    · cases hw
  case putfield k =>
    simp only [okI, dcd, Bool.and_eq_true, decide_eq_true_eq] at hok
    obtain ⟨⟨⟨⟨⟨⟨⟨hd, rfl⟩, rfl⟩, hci⟩, hkk⟩, hw⟩, hfin⟩, hty⟩ := hok
    split at hw
    · next w _ =>
      have hl := hts _ (wat_spec hw)
      obtain ⟨g1, g2, g3'⟩ := gC _ hci
      have key : ∀ (q : Nat) (v : Value) (h' : AH) (r : List Value) (ty : FieldType), pV h q o.2.1 o.2.2.1 v = some h' → F r h' = some x → parseFieldDescriptor ((clN G.cl o.2.1).2.1 o.2.2.1).2.2.1 = some ty → narrow ty (vmv b bs v) = vmv b bs v → fits ty (vmv b bs v) = true → W p l e R s m args below meth c H locs cells slots Q (F0 m pc lr (vmv b bs v :: .ref (b + q) :: r.map (vmv b bs))) := by
        intro q v h' r ty hpv hF' hpd hn hft
        obtain ⟨fs, hc, hlt, rfl⟩ := pV_set hpv
        have hlt' : o.2.2.1 < (fs.map (vmv b bs)).length := by rw [List.length_map]; exact hlt
        have kk' : ∀ (H1 : Heap) (locs1 : List Loc), va_P D G.cl ((wld b bs (cAt tys) h).set q (b + q, .inr (o.2.1, (fs.map (vmv b bs)).set o.2.2.1 (vmv b bs v)))) H1 → va_D (fun q => b ≤ q) ((wld b bs (cAt tys) h).set q (b + q, .inr (o.2.1, (fs.map (vmv b bs)).set o.2.2.1 (vmv b bs v)))) → va_S (fun q => b ≤ q) s.heap H1 locs1 → W p l e R s m args below meth c H1 locs1 cells slots Q (F0 m (pc + 3) lr (r.map (vmv b bs))) := by
          intro H1 locs1 hP1 _ hS1
          rw [← List.map_set] at hP1
          exact kk _ _ _ _ _ _ hF' (hR.put (cq := .inr (o.2.1, fs.set o.2.2.1 v)) hP1 hS1)
        cases hfl : ((clN G.cl o.2.1).2.1 o.2.2.1).2.2.2 with
        | false => exact va_put hx hb hts g1 _ g2 g3' hown hK.1 hP hD hS q (wld_at hc) (clN_at hci) _ hkk hl (fun _ h9 => h9) hfl hpd hn hft hlt' hd kk'
        | true =>
          rw [hfl] at hfin
          simp only [Bool.and_eq_true, decide_eq_true_eq] at hfin
          exact va_putF hx hb hts g1 _ g2 g3' hown hK.1 hP hD hS q (wld_at hc) (clN_at hci) _ hkk hl (fun _ h9 => h9) hfl (hnm.trans hfin.1) hfin.2 hpd hn hft hlt' hd kk'
      simp only [hst, oB] at hp
      split at hp
      · next y q r =>
        split at hp
        · next v hv =>
          rw [hv] at hty
          split at hp
          · next hv1 =>
            subst hv1
            split at hp
            · next hy =>
              split at hp
              · next h' hpv =>
                split at hty
                · next e1 _ => cases e1; simp at hty
                · next e1 e2 => exact key q (.int y) h' r .boolean hpv hp e2 (by rcases hy with rfl | rfl <;> rfl) (by rcases hy with rfl | rfl <;> rfl)
                · next e1 _ => cases e1
                · next e1 _ => cases e1
                · cases hty
              · cases hp
            · cases hp
          · next hv1 =>
            split at hp
            · next h' hpv =>
              split at hty
              · next e1 e2 => exact key q (.int y) h' r .int hpv hp e2 rfl rfl
              · next e1 _ => cases e1; exact absurd (by simpa using hty) hv1
              · next e1 _ => cases e1
              · next e1 _ => cases e1
              · cases hty
            · cases hp
        · cases hp
      · next y q r =>
        split at hp
        · next hv =>
          rw [hv] at hty
          split at hp
          · next h' hpv =>
            split at hty
            · next e1 _ => cases e1
            · next e1 _ => cases e1
            · next e1 e2 => exact key q (.ref y) h' r _ hpv hp e2 rfl rfl
            · next e1 e2 => exact key q (.ref y) h' r _ hpv hp e2 rfl rfl
            · cases hty
          · cases hp
        · cases hp
      · cases hp
    · cases hw
  case iaload =>
    simp only [okI, dcd, Bool.and_eq_true, decide_eq_true_eq] at hok
    obtain ⟨⟨hd, rfl⟩, rfl⟩ := hok
    simp only [hst, oB] at hp
    split at hp
    · next i q r =>
      split at hp
      · next y hy =>
        obtain ⟨n, f, hc, hin, rfl⟩ := aI_get hy
        exact va_iald hx hb hK.1 hP q 0 (wld_at hc) (tys_at gT g0) hin hd (kk _ _ _ _ _ _ hp hR)
      · cases hp
    · next i q r =>
      split at hp
      · cases hp
      · next hin => exact va_sld hx hb hX (by omega) (by show ¬ b ≤ bs; omega) hS hin hd (kk _ _ _ _ _ _ hp hR)
    · cases hp
  case iastore =>
    simp only [okI, dcd, Bool.and_eq_true, decide_eq_true_eq] at hok
    obtain ⟨⟨hd, rfl⟩, rfl⟩ := hok
    simp only [hst, oB] at hp
    split at hp
    · next y i q r =>
      split at hp
      · next h' hy =>
        obtain ⟨n, f, hc, hin, rfl⟩ := sI_set hy
        exact va_iast hx hb hK.1 hP hD hS q 0 (wld_at hc) (tys_at gT g0) hin hd (fun H1 locs1 hP1 _ hS1 => kk _ _ _ _ _ _ hp (hR.put (cq := .inl (0, n, .inl (upd f i.toNatClampNeg y))) hP1 hS1))
      · cases hp
    · cases hp
  case aaload =>
    simp only [okI, dcd, Bool.and_eq_true, decide_eq_true_eq] at hok
    obtain ⟨⟨⟨hd, rfl⟩, rfl⟩, hty⟩ := hok
    simp only [hst, oB] at hp
    split at hp
    · next i q r =>
      split at hp
      · next y hy =>
        obtain ⟨n, f, hc, hin, hf⟩ := aR_get hy
        split at hty
        · next ty ht =>
          refine rw_aald hx hb hK.1 hP q o.2.1 (wld_at hc) (tys_at gT ht) hty hin hd ?_
          rw [hf]
          exact kk _ _ _ _ _ _ hp hR
        · cases hty
      · cases hp
    · cases hp
  case aastore =>
    simp only [okI, dcd, Bool.and_eq_true, decide_eq_true_eq] at hok
    obtain ⟨⟨⟨hd, rfl⟩, rfl⟩, hty⟩ := hok
    split at hty
    · next E hE =>
      simp only [hst, oB] at hp
      split at hp
      · next v i q r =>
        split at hp
        · next t _ hcq =>
          split at hp
          · next ht =>
            subst ht
            split at hp
            · next cv hcv =>
              split at hp
              · next qv hlook =>
                split at hp
                · next h' hs =>
                  obtain ⟨fv, hfv⟩ := clsOf_get hcv
                  have hall := List.all_eq_true.mp hty _ (look_mem hlook)
                  simp only [Bool.and_eq_true, decide_eq_true_eq] at hall
                  obtain ⟨hcl, hcs⟩ := hall
                  obtain ⟨t', n, f, hc, hin, rfl⟩ := sR_set hs
                  have ht' : t' = o.2.1 := by rw [hcq] at hc; cases hc; rfl
                  subst ht'
                  have hany : va_Any E s H (b + v) := by
                    refine va_rAny hK.1 hP (wld_at hfv) (clN_at hcl) fun comp c0 h1 h2 => ?_
                    rcases casts_spec hcs with hce | hce
                    · have hcat := (hK.1.1 _ _ (clN_at hcl)).2
                      dsimp only at hcat h2
                      have e1 : c0 = D.1 cv := Option.some.inj (h2.symm.trans hcat.1)
                      have e2 : comp = c0 := by
                        rw [hce] at h2
                        exact Option.some.inj (h1.symm.trans h2)
                      rw [e2, e1]
                      exact va_assign hcat
                    · obtain ⟨c1, t1, f1, f2, f3⟩ := Cond.castable_spec (va_Nw.use (A := args) rfl (hK.2.1 _ hce))
                      cases h2.symm.trans f1
                      cases h1.symm.trans f2
                      exact f3
                  refine va_astqM hx hb hK.1 hP hD hS q o.2.1 (wld_at hc) (tys_at gT hE) hany hin hd fun H1 locs1 hP1 _ hS1 => kk _ _ _ _ _ _ hp (hR.put (cq := .inl (o.2.1, n, .inr (.inr (.inr (.inr (va_up f i.toNatClampNeg (some v))))))) ?_ hS1)
                  have e9 : (fun i_1 => Option.map (fun x => b + x) (va_up f i.toNatClampNeg (some v) i_1)) = va_up (fun i => Option.map (fun x => b + x) (f i)) i.toNatClampNeg (some (b + v)) := by
                    funext j
                    unfold va_up
                    split <;> rfl
                  show va_P D G.cl ((wld b bs (cAt tys) h).set q (b + q, .inl (cAt tys o.2.1, n, .inr (.inr (.inr (.inr (fun i_1 => Option.map (fun x => b + x) (va_up f i.toNatClampNeg (some v) i_1)))))))) H1
                  rw [e9]
                  exact hP1
                · cases hp
              · cases hp
            · cases hp
          · cases hp
        · cases hp
      · cases hp
    · cases hty
  case arraylength =>
    simp only [okI, dcd, Bool.and_eq_true, decide_eq_true_eq] at hok
    obtain ⟨⟨hd, rfl⟩, rfl⟩ := hok
    simp only [hst, oB] at hp
    split at hp
    · exact va_slen hx hb hX (by omega) (by show ¬ b ≤ bs; omega) hS hd (kk _ _ _ _ _ _ hp hR)
    · cases hp
  case instanceof k =>
    simp only [okI, dcd, Bool.and_eq_true, decide_eq_true_eq] at hok
    obtain ⟨⟨⟨hd, rfl⟩, rfl⟩, hw⟩ := hok
    split at hw
    · next w nm _ =>
      simp only [Bool.and_eq_true, decide_eq_true_eq] at hw
      obtain ⟨⟨hnm', hlk'⟩, hall⟩ := hw
      have hl := hts _ (wat_spec hlk')
      simp only [hst, oB] at hp
      split at hp
      · next q r =>
        obtain ⟨cv, qv, hcv, hlook, hp⟩ := vdis_inv hp
        obtain ⟨fv, hfv⟩ := clsOf_get hcv
        have ha := List.all_eq_true.mp hall _ (look_mem hlook)
        simp only [Bool.and_eq_true, decide_eq_true_eq] at ha
        obtain ⟨hcl, ha⟩ := ha
        have hrec := va_recv hK.1 hP (clN_at hcl) (wld_at hfv)
        split at ha
        · next h1 =>
          rw [h1] at hp
          rcases casts_spec ha with hce | hce
          · have hcat := (hK.1.1 _ _ (clN_at hnm')).2
            dsimp only at hrec
            rw [hce] at hrec
            exact va_instS hx hb hown hl hcat hrec hd (kk _ _ _ _ _ _ hp hR)
          · exact va_instY hx hb hown hl (hK.2.1 _ hce) hrec hd (kk _ _ _ _ _ _ hp hR)
        · simp only [Bool.and_eq_true, decide_eq_true_eq] at ha
          rw [ha.1] at hp
          exact va_instNo hx hb hown hl (hK.2.2 _ (List.mem_of_getElem? ha.2)) hrec hd (kk _ _ _ _ _ _ hp hR)
      · cases hp
    · cases hw
  case new k =>
    simp only [okI, dcd, Bool.and_eq_true, decide_eq_true_eq] at hok
    obtain ⟨⟨⟨⟨⟨⟨hd, rfl⟩, rfl⟩, hci⟩, hln⟩, hw⟩, hdf⟩ := hok
    split at hw
    · next w1 w2 w3 _ _ =>
      simp only [Bool.and_eq_true] at hw
      obtain ⟨⟨hw1, hw2⟩, hw3⟩ := hw
      simp only [hst, oB] at hp
      have hg := hgr _ _ hp
      have hn1 : (newO h o.2.1 o.2.2.2.1).1 = h.1 + 1 := rfl
      have hn2 : (newO h o.2.1 o.2.2.2.1).2.1 = h.2.1 + o.2.2.2.1.length := rfl
      have hc1 := hR.2.2.1
      have hc2 := hR.2.2.2.1
      have hc3 := hR.2.2.2.2
      have q1 := hg.1
      have q2 := hg.2
      rw [hn1] at q1
      rw [hn2] at q2
      have q3 := hc3.1
      have q4 := hc3.2
      refine rw_size fun hu => ?_
      have hz := hR.size hsz hu
      refine rw_new (ci := o.2.1) (fs := dfl o.2.2.2.1) hx hb hts (gC _ hci).1 _ (gC _ hci).2.1 hown (hts _ (wat_spec hw1)) (hts _ (wat_spec hw2)) (hts _ (wat_spec hw3)) hK.1 hP hS (clN_at hci) (fun j hj => ?_) (by omega) (by rw [← hln]; omega) hd fun H1 hz1 hP1 hS1 => ?_
      · have := List.all_eq_true.mp hdf j (List.mem_range.mpr hj)
        exact of_decide_eq_true this
      · rw [← hln]
        have hP2 : va_P D G.cl (wld b bs (cAt tys) h ++ [(H.size, trE b bs (cAt tys) (.inr (o.2.1, dfl o.2.2.2.1)))]) H1 := by
          show va_P D G.cl (wld b bs (cAt tys) h ++ [(H.size, .inr (o.2.1, (dfl o.2.2.2.1).map (vmv b bs)))]) H1
          rw [dfl_map]
          exact hP1
        have := kk _ _ _ _ _ _ hp (hR.push (n := o.2.2.2.1.length) hz hP2 hS1)
        rw [hz]
        exact this
    · cases hw
  case newarray k =>
    cases k
    case int =>
      simp only [okI, dcd, Bool.and_eq_true, decide_eq_true_eq] at hok
      obtain ⟨⟨⟨hd, rfl⟩, rfl⟩, hw⟩ := hok
      split at hw
      · next w _ =>
        simp only [hst, oB] at hp
        split at hp
        · next n r =>
          split at hp
          · cases hp
          · next hn =>
            have hn0 : ¬ n < 0 := fun q => hn (Or.inl q)
            have hn1 : n.toNatClampNeg ≤ 100000 := Decidable.byContradiction fun q => hn (Or.inr q)
            have hg := hgr _ _ hp
            have q1 : h.1 + 1 ≤ x.2.1 := hg.1
            have q2 : h.2.1 + n.toNatClampNeg ≤ x.2.2.1 := hg.2
            have hc1 := hR.2.2.1
            have hc2 := hR.2.2.2.1
            have q3 := hR.2.2.2.2.1
            have q4 := hR.2.2.2.2.2
            refine rw_size fun hu => ?_
            have hz := hR.size hsz hu
            refine rw_newI hx hb (hts _ (wat_spec hw)) hP hS (hK.1.2 0 _ (tys_at gT g0)).2 hn0 (by omega) (by omega) (by omega) hd fun H1 hz1 hP1 hS1 => ?_
            have := kk _ _ _ _ _ _ hp (hR.push (cq := .inl (0, n.toNatClampNeg, .inl (fun _ => 0))) (n := n.toNatClampNeg) hz hP1 hS1)
            rw [hz]
            exact this
        · cases hp
      · cases hw
    all_goals (exact absurd hp (by simp [hst]))
  case anewarray k =>
    simp only [okI, dcd, Bool.and_eq_true, decide_eq_true_eq] at hok
    obtain ⟨⟨⟨hd, rfl⟩, rfl⟩, hw⟩ := hok
    split at hw
    · next C w y _ hC _ =>
      simp only [Bool.and_eq_true] at hw
      obtain ⟨hw1, hw2⟩ := hw
      simp only [hst, oB] at hp
      split at hp
      · next n r =>
        split at hp
        · cases hp
        · next hn =>
          have hn0 : ¬ n < 0 := fun q => hn (Or.inl q)
          have hn1 : n.toNatClampNeg ≤ 100000 := Decidable.byContradiction fun q => hn (Or.inr q)
          have hg := hgr _ _ hp
          have q1 : h.1 + 1 ≤ x.2.1 := hg.1
          have q2 : h.2.1 + n.toNatClampNeg ≤ x.2.2.1 := hg.2
          have hc1 := hR.2.2.1
          have hc2 := hR.2.2.2.1
          have q3 := hR.2.2.2.2.1
          have q4 := hR.2.2.2.2.2
          obtain ⟨kA, comp, r1, r2, r3, r4⟩ := (hK.1.2 o.2.1 _ (tys_at gT hC)).2
          refine rw_size fun hu => ?_
          have hz := hR.size hsz hu
          refine rw_newR hx hb hown (hts _ (wat_spec hw1)) (hK.2.1 _ (xat_spec hw2)) hP hS r4 hn0 (by omega) (by omega) (by omega) hd fun H1 hz1 hP1 hS1 => ?_
          have := kk _ _ _ _ _ _ hp (hR.push (cq := .inl (o.2.1, n.toNatClampNeg, .inr (.inr (.inr (.inr (fun _ => none)))))) (n := n.toNatClampNeg) hz hP1 hS1)
          rw [hz]
          exact this
      · cases hp
    · cases hw
  case multianewarray k n => sorry
  all_goals (exact absurd hp (by simp [hst]))
end HeapS
end
section
/-! the machine does what the abstract one says: jumps, calls, returns; a block -/
def PreA (G : PG) (D : va_G) (tys : List (ClassId × FieldType)) (b bs : Nat) (sc : Nat × (Nat → Int32)) (as : List Value) (h : AH) : Array Value → State → Prop := va_Pc (as.map (vmv b bs)) (fun U => U.heap.size = b + h.1 ∧ va_P D G.cl (wld b bs (cAt tys) h) U.heap ∧ KS G D tys U ∧ va_X bs sc.1 sc.2 U U.heap)
/-- the contract of a method, of one run of the abstract machine -/
def MetA (G : PG) (D : va_G) (tys : List (ClassId × FieldType)) (b bs : Nat) (sc : Nat × (Nat → Int32)) (l : Launch) (c : Nat) (as : List Value) (h : AH) (r : Option Value) (h' : AH) (d : Nat) : Prop :=
  Met l (G.M c).1 (.code (G.M c).1 (G.M c).2.1 (G.M c).2.2.1 (G.M c).2.2.2.1 :: TS G) ({ frames := d, cells := h'.1 - h.1, slots := h'.2.1 - h.2.1, locals := 40 * d }) (PreA G D tys b bs sc as h) (Post D G.cl b bs (cAt tys) r h') (h'.1 - h.1) (h'.2.1 - h.2.1) (fun q => b ≤ q)
/-- the words of nests keep as the tables warm -/
def XwOk (G : PG) : Prop := ∀ w ∈ G.xw, ∀ u U : State, u.WarmedH U.vm → va_Nw w u → va_Nw w U
def MOk (G : PG) : Prop := ∀ mi, mi < G.nM → (∃ q, okC G mi q = true) ∧ okM G mi = true
theorem KS.moved {G : PG} {D : va_G} {tys : List (ClassId × FieldType)} {u U : State} (hx : XwOk G) (hW : u.WarmedH U.vm) (h : KS G D tys u) : KS G D tys U := ⟨va_K.moved hW.alike h.1, fun w hw => hx w hw u U hW (h.2.1 w hw), fun q hq => va_Nc.moved hW.alike (h.2.2 q hq)⟩
theorem PreA.blind {G : PG} {D : va_G} {tys : List (ClassId × FieldType)} {b bs : Nat} {sc : Nat × (Nat → Int32)} (hx : XwOk G) (as : List Value) (h : AH) : FrameBlind (PreA G D tys b bs sc as h) := by
  intro a U g mk q
  obtain ⟨q1, q2, q3, q4, q5⟩ := q
  exact ⟨q1, q2, q3, KS.moved (u := U) (U := U.calling g mk a) hx (State.WarmedH.refl U) q4, va_X.moved (u := U) (U := U.calling g mk a) (Vm.Alike.refl U.vm) q5⟩
theorem retK_inv {k : Nat} {o : Option Res} {r : List Value} {F : List Value → AH → Option Res} {x : Res} (hx : retK k o r F = some x) : ∃ v h', o = some (v, h') ∧ F (v.toList ++ r) h' = some x := by
  unfold retK at hx
  split at hx
  · unfold cV at hx
    split at hx
    · exact ⟨_, _, rfl, hx⟩
    · cases hx
  · unfold cI at hx
    split at hx
    · exact ⟨_, _, rfl, hx⟩
    · cases hx
  · unfold cL at hx
    split at hx
    · exact ⟨_, _, rfl, hx⟩
    · cases hx
  · unfold cR at hx
    split at hx
    · exact ⟨_, _, rfl, hx⟩
    · cases hx
theorem popN_spec : ∀ (n : Nat) (acc st as r : List Value), popN n acc st = some (as, r) → ∃ l, l.length = n ∧ as = l ++ acc ∧ st = l.reverse ++ r := by
  intro n
  induction n with
  | zero => intro acc st as r h; cases h; exact ⟨[], rfl, rfl, rfl⟩
  | succ n ih =>
    intro acc st as r h
    cases st with
    | nil => cases h
    | cons v st =>
      obtain ⟨l, h1, h2, h3⟩ := ih _ _ _ _ h
      exact ⟨l ++ [v], by simp [h1], by simp [h2], by simp [h3]⟩
theorem popN_at {n : Nat} {st as r : List Value} (h : popN n [] st = some (as, r)) : as.length = n ∧ st = as.reverse ++ r := by
  obtain ⟨l, h1, h2, h3⟩ := popN_spec n [] st as r h
  rw [List.append_nil] at h2
  subst h2
  exact ⟨h1, h3⟩
theorem catS_map (b bs : Nat) (r : List Value) : ((r.map (vmv b bs)).map fun v => v.category).sum = catS r := by
  unfold catS
  rw [List.map_map]
  congr 1
  apply List.map_congr_left
  intro v _
  exact vmv_cat b bs v
theorem toL_map (b bs : Nat) (v : Option Value) (r : List Value) : (v.map (vmv b bs)).toList ++ r.map (vmv b bs) = (v.toList ++ r).map (vmv b bs) := by
  cases v <;> simp
theorem good_TS {G : PG} {w : Cond} (h : w ∈ TS G) : goodWord w = true := (List.mem_filter.mp h).2
theorem goodIn_TS {G : PG} {w : Cond} (hw : w ∈ TS G) : GoodIn (TS G) (w :: TS G) := by
  intro v hv
  have hm : v ∈ TS G := by
    rcases List.mem_cons.mp hv with rfl | h
    · exact hw
    · exact h
  exact ⟨hm, good_of_word (good_TS hm)⟩
theorem tsw_spec {x : Int} {L : List (Nat × Nat × Nat)} {K : Nat → Nat → Option Res} {a m : Nat} {z : Res} (h : swk x L K a m = some z) : (∃ q ∈ L, x = (q.1 : Int) ∧ K q.2.1 q.2.2 = some z) ∨ ((∀ q ∈ L, ¬ x = (q.1 : Int)) ∧ K a m = some z) := by
  induction L with
  | nil => exact Or.inr ⟨fun _ h => absurd h List.not_mem_nil, h⟩
  | cons q r ih =>
    obtain ⟨k, b1, m1⟩ := q
    unfold swk at h
    split at h
    · next e => exact Or.inl ⟨_, List.mem_cons_self, e, h⟩
    · next e =>
      rcases ih h with ⟨q, h1, h2⟩ | ⟨h1, h2⟩
      · exact Or.inl ⟨q, List.mem_cons_of_mem _ h1, h2⟩
      · refine Or.inr ⟨fun q hq => ?_, h2⟩
        rcases List.mem_cons.mp hq with rfl | hq
        · exact e
        · exact h1 q hq
section Lst
variable {G : PG} {D : va_G} {tys : List (ClassId × FieldType)} {b bs : Nat} {sc : Nat × (Nat → Int32)} {mi : Nat} {h0 : AH}
variable {p : Program} {l : Launch} {e : Env} {R : Room} {s : State} {m : MethodId} {args : Array Value} {below : List Frame} {meth : Method} {c : Code} {H : Heap} {locs : List Loc} {cells slots : Nat} {Q : State → Prop}
/-- the method's end, as its caller wants it -/
def RetOk (G : PG) (D : va_G) (tys : List (ClassId × FieldType)) (b bs : Nat) (mi : Nat) (h0 : AH) (p : Program) (l : Launch) (e : Env) (R : Room) (s : State) (m : MethodId) (args : Array Value) (below : List Frame) (meth : Method) (c : Code) (Q : State → Prop) (x : Res) : Prop :=
  (∀ (H : Heap) (locs : List Loc) (cells slots pc : Nat) (lr : Array Slot) (v : Int32) (ty : FieldType), x.1 = some (.int v) → (G.M mi).2.2.2.1 = some ty → narrow ty (.int v) = .int v → decode (G.M mi).2.1 pc = .ok (.ireturn, 1) → SR G D tys b bs s h0 x.2 H locs cells slots → W p l e R s m args below meth c H locs cells slots Q (F0 m pc lr [.int v])) ∧
  (∀ (H : Heap) (locs : List Loc) (cells slots pc : Nat) (lr : Array Slot) (v : Int64), x.1 = some (.long v) → (G.M mi).2.2.2.1 = some .long → decode (G.M mi).2.1 pc = .ok (.lreturn, 1) → SR G D tys b bs s h0 x.2 H locs cells slots → W p l e R s m args below meth c H locs cells slots Q (F0 m pc lr [.long v])) ∧
  (∀ (H : Heap) (locs : List Loc) (cells slots pc : Nat) (lr : Array Slot) (v : Nat) (n : String), x.1 = some (.ref v) → (G.M mi).2.2.2.1 = some (.object n) → decode (G.M mi).2.1 pc = .ok (.areturn, 1) → SR G D tys b bs s h0 x.2 H locs cells slots → W p l e R s m args below meth c H locs cells slots Q (F0 m pc lr [.ref (b + v)])) ∧
  (∀ (H : Heap) (locs : List Loc) (cells slots pc : Nat) (lr : Array Slot), x.1 = none → (G.M mi).2.2.2.1 = none → decode (G.M mi).2.1 pc = .ok (.return_, 1) → SR G D tys b bs s h0 x.2 H locs cells slots → W p l e R s m args below meth c H locs cells slots Q (F0 m pc lr []))
/-- behind a call -/
theorem SR.called {h h' : AH} {H1 : Heap} {locs1 : List Loc} (hR : SR G D tys b bs s h0 h H locs cells slots) (hg : Gr h h') (hP : va_P D G.cl (wld b bs (cAt tys) h') H1) (hS : va_S (fun q => b ≤ q) s.heap H1 locs1) : SR G D tys b bs s h0 h' H1 locs1 (cells + (h'.1 - h.1)) (slots + (h'.2.1 - h.2.1)) := by
  obtain ⟨-, -, h3, h4, h5, h6⟩ := hR
  have g1 := hg.1
  have g2 := hg.2
  exact ⟨hP, hS, by omega, by omega, Nat.le_trans h5 g1, Nat.le_trans h6 g2⟩
/-- what the callee may take for granted -/
theorem SR.pre {h : AH} (hF : FC G D tys b bs sc mi p s m args meth c h0) (hx : XwOk G) (hR : SR G D tys b bs s h0 h H locs cells slots) (hu : H.size ≤ s.heap.size + cells) (as : List Value) : ∀ U : State, U.heap = H → s.WarmedH U.vm → PreA G D tys b bs sc as h (as.map (vmv b bs)).toArray U := by
  obtain ⟨-, -, -, -, -, -, -, -, hK, hX, hbs, hsz⟩ := hF
  intro U hU hW
  refine ⟨rfl, ?_, ?_, KS.moved hx hW hK, ?_⟩
  · rw [hU]; exact hR.size hsz hu
  · rw [hU]; exact hR.1
  · rw [hU]
    exact va_X.moved hW.alike (hX.kept (hR.2.1.2.1 bs (by omega) (by show ¬ b ≤ bs; omega)))
end Lst
end
section
/-! a block of instructions, walked by the machine -/
section Blk
variable {G : PG} {D : va_G} {tys : List (ClassId × FieldType)} {b bs : Nat} {sc : Nat × (Nat → Int32)} {mi : Nat} {h0 : AH}
variable {p : Program} {l : Launch} {e : Env} {R : Room} {s : State} {m : MethodId} {args : Array Value} {below : List Frame} {meth : Method} {c : Code} {Q : State → Prop}
/-- the callee's place in the tables -/
theorem cle_facts (hM : MOk G) {cl mL n k : Nat} (h : cleOk G cl mL n k = true) : cl < G.nM ∧ (G.M cl).2.2.1 = mL ∧ mL ≤ 21 ∧ (parseMethodDescriptor (G.M cl).1.desc).map (fun d => d.parameters.length) = some n ∧ Cond.code (G.M cl).1 (G.M cl).2.1 (G.M cl).2.2.1 (G.M cl).2.2.2.1 ∈ TS G ∧ Cond.initialized (G.M cl).1.cls ∈ TS G ∧ (G.M cl).1.cls ≠ "java/lang/invoke/MethodHandle" ∧ (G.M cl).1.cls ≠ "java/lang/invoke/VarHandle" := by
  unfold cleOk at h
  simp only [Bool.and_eq_true, decide_eq_true_eq] at h
  obtain ⟨⟨⟨⟨h1, h2⟩, h3⟩, -⟩, h4⟩ := h
  obtain ⟨⟨q, hq⟩, -⟩ := hM cl h1
  unfold okC at hq
  simp only [Bool.and_eq_true, decide_eq_true_eq] at hq
  obtain ⟨⟨⟨⟨⟨q1, q2⟩, -⟩, q3⟩, q4⟩, -⟩ := hq
  exact ⟨h1, h2, h3, h4, wat_spec q1, wat_spec q2, q3, q4⟩
set_option maxHeartbeats 8000000 in
theorem blk_sound (hG : GOK G tys) (hM : MOk G) (hXw : XwOk G) (hF : FC G D tys b bs sc mi p s m args meth c h0) {d : Nat} (hRf : d ≤ R.frames) (hRl : 40 * d ≤ R.locals) {z : Bool} (hz : z = true → 1 ≤ d) {C : Nat → List Value → AH → Option Res} {K : Nat → List Value → List Value → AH → Option Res} {x : Res}
    (hCg : ∀ c as h x, C c as h = some x → Gr h x.2) (hKg : ∀ b ls st h x, K b ls st h = some x → Gr h x.2) (hRc : x.2.1 - h0.1 ≤ R.cells) (hRs : x.2.2.1 - h0.2.1 ≤ R.slots)
    (hC : ∀ (cl : Nat) (as : List Value) (h : AH) (r : Option Value) (h' : AH), cl < G.nM → callE C cl (G.M cl).2.2.1 as h = some (r, h') → ∃ d', d = d' + 1 ∧ MetA G D tys b bs sc l cl as h r h' d')
    (hK : ∀ (bk : Nat) (ls st : List Value) (h : AH), K bk ls st h = some x → ∀ (H : Heap) (locs : List Loc) (cells slots : Nat) (lr : Array Slot), SR G D tys b bs s h0 h H locs cells slots → LR b bs (G.M mi).2.2.1 ls lr → W p l e R s m args below meth c H locs cells slots Q (F0 m (bpc G.M mi bk) lr (st.map (vmv b bs))))
    (hRet : RetOk G D tys b bs mi h0 p l e R s m args below meth c Q x) :
    ∀ (is : List Ins) (ls st : List Value) (h : AH), okL G mi is = true → runL sc z C K is ls st h = some x → ∀ (H : Heap) (locs : List Loc) (cells slots : Nat) (lr : Array Slot), SR G D tys b bs s h0 h H locs cells slots → LR b bs (G.M mi).2.2.1 ls lr → W p l e R s m args below meth c H locs cells slots Q (F0 m (nxt is) lr (st.map (vmv b bs))) := by
  intro is
  induction is with
  | nil => intro ls st h _ hx; cases hx
  | cons a is ih =>
    obtain ⟨pc, len, i, o⟩ := a
    intro ls st h hok hp H locs cells slots lr hR hL
    have hrg : ∀ (ls st : List Value) (h : AH), runL sc z C K is ls st h = some x → Gr h x.2 := fun ls st h q => runL_gr hCg hKg is ls st h x q
    have hF0 := hF
    obtain ⟨hx, hb, hml, hr, hown, hts, hnm, hlk, hKS, hX, hbs, hsz⟩ := hF
    unfold okL at hok
    rw [Bool.and_eq_true] at hok
    obtain ⟨hok, hoks⟩ := hok
    have ih' := fun ls st h q => ih ls st h hoks q
    show W p l e R s m args below meth c H locs cells slots Q (F0 m pc lr (st.map (vmv b bs)))
    -- a call that comes back
    have hcall : ∀ (cl : Nat) (as : List Value) (r : Option Value) (h' : AH) (rest : List Value) (av : Array Value), Gr h h' → runL sc z C K is ls (r.toList ++ rest) h' = some x → nxt is = pc + 3 → va_Run p l e R s m args below meth c H locs cells slots (h'.1 - h.1) (h'.2.1 - h.2.1) (F0 m pc lr (st.map (vmv b bs))) (rest.map (vmv b bs)) (Post D G.cl b bs (cAt tys) r h' av) (fun q => b ≤ q) → W p l e R s m args below meth c H locs cells slots Q (F0 m pc lr (st.map (vmv b bs))) := by
      intro cl as r h' rest av hg hq hn hrun
      refine rw_call hrun hR.2.1 (fun q hq => hq) fun H1 locs1 hP1 hS1 _ => ?_
      rw [toL_map, ← hn]
      exact ih' _ _ _ hq _ _ _ _ _ (hR.called hg hP1 hS1) hL
    have hroom : ∀ (d' : Nat) (r : Option Value) (h' : AH) (mL : Nat), d = d' + 1 → mL ≤ 21 → ({ frames := d', cells := h'.1 - h.1, slots := h'.2.1 - h.2.1, locals := 40 * d' } : Room).frames + 1 ≤ R.frames ∧ 8 + (mL + 11) + ({ frames := d', cells := h'.1 - h.1, slots := h'.2.1 - h.2.1, locals := 40 * d' } : Room).locals ≤ R.locals := by
      intro d' r h' mL hd hm
      constructor
      · show d' + 1 ≤ R.frames
        omega
      · show 8 + (mL + 11) + 40 * d' ≤ R.locals
        omega
    have hfit : ∀ (h' : AH), Gr h h' → Gr h' x.2 → cells + (h'.1 - h.1) ≤ R.cells ∧ slots + (h'.2.1 - h.2.1) ≤ R.slots := by
      intro h' g1 g2
      have a1 := hR.2.2.1
      have a2 := hR.2.2.2.1
      have a3 := hR.2.2.2.2.1
      have a4 := hR.2.2.2.2.2
      have a5 := g1.1
      have a6 := g1.2
      have a7 := g2.1
      have a8 := g2.2
      exact ⟨by omega, by omega⟩
    cases i
    case nop =>
      simp only [okI, decide_eq_true_eq] at hok
      rw [hok]
      exact hK _ _ _ _ hp _ _ _ _ _ hR (hL.msk _)
    case goto off =>
      simp only [okI, dcd, Bool.and_eq_true, decide_eq_true_eq] at hok
      obtain ⟨⟨hd, rfl⟩, ht⟩ := hok
      simp only [runL] at hp
      split at hp
      · next hv =>
        rw [hv] at ht
        simp only [decide_eq_true_eq] at ht
        exact lv_goto hx hb hd ht (ih' _ _ _ hp _ _ _ _ _ hR hL)
      · next hv =>
        split at ht
        · next hv' => exact absurd hv' hv
        · simp only [decide_eq_true_eq] at ht
          exact lv_goto hx hb hd ht (hK _ _ _ _ hp _ _ _ _ _ hR (hL.msk _))
    case ifCond cc off =>
      simp only [okI, dcd, Bool.and_eq_true, decide_eq_true_eq] at hok
      obtain ⟨⟨⟨hd, hn⟩, rfl⟩, ht⟩ := hok
      simp only [runL] at hp
      split at hp
      · next y r =>
        have kt : K o.2.1 (mskN o.2.2.1 ls) r h = some x → W p l e R s m args below meth c H locs cells slots Q (F0 m (bpc G.M mi o.2.1) lr (r.map (vmv b bs))) := fun q => hK _ _ _ _ q _ _ _ _ _ hR (hL.msk _)
        have kf : runL sc z C K is ls r h = some x → W p l e R s m args below meth c H locs cells slots Q (F0 m (pc + 3) lr (r.map (vmv b bs))) := fun q => by rw [← hn]; exact ih' _ _ _ q _ _ _ _ _ hR hL
        cases cc
        · exact lv_if_eq hx hb hd ht (fun q => kt (by rw [icc, if_pos q] at hp; exact hp)) (fun q => kf (by rw [icc, if_neg q] at hp; exact hp))
        · exact lv_if_ne hx hb hd ht (fun q => kt (by rw [icc, if_neg q] at hp; exact hp)) (fun q => kf (by rw [icc, if_pos q] at hp; exact hp))
        · exact lv_if_lt hx hb hd ht (fun q => kt (by rw [icc, if_pos q] at hp; exact hp)) (fun q => kf (by rw [icc, if_neg q] at hp; exact hp))
        · exact lv_if_ge hx hb hd ht (fun q => kt (by rw [icc, if_pos q] at hp; exact hp)) (fun q => kf (by rw [icc, if_neg q] at hp; exact hp))
        · exact lv_if_gt hx hb hd ht (fun q => kt (by rw [icc, if_pos q] at hp; exact hp)) (fun q => kf (by rw [icc, if_neg q] at hp; exact hp))
        · exact lv_if_le hx hb hd ht (fun q => kt (by rw [icc, if_pos q] at hp; exact hp)) (fun q => kf (by rw [icc, if_neg q] at hp; exact hp))
      · cases hp
    case if_icmp cc off =>
      simp only [okI, dcd, Bool.and_eq_true, decide_eq_true_eq] at hok
      obtain ⟨⟨⟨hd, hn⟩, rfl⟩, ht⟩ := hok
      simp only [runL] at hp
      split at hp
      · next y1 y r =>
        have kt : K o.2.1 (mskN o.2.2.1 ls) r h = some x → W p l e R s m args below meth c H locs cells slots Q (F0 m (bpc G.M mi o.2.1) lr (r.map (vmv b bs))) := fun q => hK _ _ _ _ q _ _ _ _ _ hR (hL.msk _)
        have kf : runL sc z C K is ls r h = some x → W p l e R s m args below meth c H locs cells slots Q (F0 m (pc + 3) lr (r.map (vmv b bs))) := fun q => by rw [← hn]; exact ih' _ _ _ q _ _ _ _ _ hR hL
        cases cc
        · exact lv_icmp_eq hx hb hd ht (fun q => kt (by rw [icc, if_pos q] at hp; exact hp)) (fun q => kf (by rw [icc, if_neg q] at hp; exact hp))
        · exact lv_icmp_ne hx hb hd ht (fun q => kt (by rw [icc, if_neg q] at hp; exact hp)) (fun q => kf (by rw [icc, if_pos q] at hp; exact hp))
        · exact lv_icmp_lt hx hb hd ht (fun q => kt (by rw [icc, if_pos q] at hp; exact hp)) (fun q => kf (by rw [icc, if_neg q] at hp; exact hp))
        · exact lv_icmp_ge hx hb hd ht (fun q => kt (by rw [icc, if_pos q] at hp; exact hp)) (fun q => kf (by rw [icc, if_neg q] at hp; exact hp))
        · exact lv_icmp_gt hx hb hd ht (fun q => kt (by rw [icc, if_pos q] at hp; exact hp)) (fun q => kf (by rw [icc, if_neg q] at hp; exact hp))
        · exact lv_icmp_le hx hb hd ht (fun q => kt (by rw [icc, if_pos q] at hp; exact hp)) (fun q => kf (by rw [icc, if_neg q] at hp; exact hp))
      · cases hp
    case tableswitch dflt lo hi offs =>
      simp only [okI, dcd, Bool.and_eq_true, decide_eq_true_eq] at hok
      obtain ⟨⟨⟨⟨hd, ht⟩, hkeys⟩, hhi⟩, htg⟩ := hok
      simp only [runL] at hp
      split at hp
      · next y r =>
        have at' : ∀ (j : Nat) (q : Nat × Nat × Nat), o.2.2.2.1[j]? = some q → (q.1 : Int) = lo + (j : Int) ∧ offs[j]? = some ((bpc G.M mi q.2.1 : Int) - (pc : Int)) := by
          intro j q hq
          have hj : j < o.2.2.2.1.length := (List.getElem?_eq_some_iff.mp hq).1
          have e1 := congrArg (fun l => l[j]?) hkeys
          have e2 := congrArg (fun l => l[j]?) htg
          simp only [List.getElem?_map, hq, List.getElem?_range hj, Option.map_some, Option.some.injEq] at e1 e2
          exact ⟨e1, e2.symm⟩
        rcases tsw_spec hp with ⟨q, hq, hy, hk⟩ | ⟨hno, hk⟩
        · obtain ⟨j, hj⟩ := List.getElem?_of_mem hq
          obtain ⟨e1, e2⟩ := at' j q hj
          have hjl : j < o.2.2.2.1.length := (List.getElem?_eq_some_iff.mp hj).1
          have hyj : y.toInt - lo = (j : Int) := by omega
          exact lv_tableIn hx hb hd (by omega) (by omega) (off := (bpc G.M mi q.2.1 : Int) - (pc : Int)) (tgt := bpc G.M mi q.2.1) (by rw [hyj]; exact e2) (by omega) (hK _ _ _ _ hk _ _ _ _ _ hR (hL.msk _))
        · refine lv_tableOut hx hb hd ?_ ht (hK _ _ _ _ hk _ _ _ _ _ hR (hL.msk _))
          rcases Int.lt_or_le y.toInt lo with hlo | hlo
          · exact Or.inl hlo
          · rcases Int.lt_or_le hi y.toInt with hh | hh
            · exact Or.inr hh
            · exfalso
              have hj : (y.toInt - lo).toNat < o.2.2.2.1.length := by omega
              obtain ⟨e1, -⟩ := at' _ _ (List.getElem?_eq_getElem hj)
              exact hno _ (List.getElem_mem hj) (by omega)
      · cases hp
    case lookupswitch dflt ps =>
      simp only [okI, dcd, Bool.and_eq_true, decide_eq_true_eq] at hok
      obtain ⟨⟨⟨hd, ht⟩, hso⟩, hps⟩ := hok
      simp only [runL] at hp
      split at hp
      · next y r =>
        have key : ∀ (L : List (Nat × Nat × Nat)), swk y.toInt L (fun b' m' => K b' (mskN m' ls) r h) o.2.1 o.2.2.1 = some x → ∃ bk mk, K bk (mskN mk ls) r h = some x ∧ (pc : Int) + Op.lookupswitch.offset (L.map (fun q => ((q.1 : Int), (bpc G.M mi q.2.1 : Int) - (pc : Int)))) dflt y.toInt = (bpc G.M mi bk : Int) := by
          intro L
          induction L with
          | nil => intro q; exact ⟨_, _, q, ht⟩
          | cons q r' ihL =>
            obtain ⟨k1, b1, m1⟩ := q
            intro hq
            unfold swk at hq
            rw [List.map_cons, Op.lookupswitch.offset_cons]
            split at hq
            · next e1 =>
              refine ⟨b1, m1, hq, ?_⟩
              rw [if_pos (by simpa using e1.symm)]
              dsimp only
              omega
            · next e1 =>
              rw [if_neg (by intro q9; exact e1 (by simpa using q9.symm))]
              exact ihL hq
        obtain ⟨bk, mk, hk, htg⟩ := key _ hp
        rw [hps] at htg
        exact lv_lookup hx hb hd hso rfl htg (hK _ _ _ _ hk _ _ _ _ _ hR (hL.msk _))
      · cases hp
    case ireturn =>
      simp only [okI, dcd, Bool.and_eq_true, decide_eq_true_eq] at hok
      obtain ⟨⟨hd, rfl⟩, ht⟩ := hok
      simp only [runL] at hp
      split at hp
      · next v =>
        split at ht
        · next e1 =>
          simp only [decide_eq_true_eq] at ht
          rw [ht] at hp
          simp at hp
          subst hp
          exact hRet.1 _ _ _ _ _ _ v _ rfl e1 rfl hd hR
        · next e1 =>
          simp only [decide_eq_true_eq] at ht
          rw [ht] at hp
          simp at hp
          obtain ⟨hv, hp⟩ := hp
          subst hp
          exact hRet.1 _ _ _ _ _ _ v _ rfl e1 (by rcases hv with rfl | rfl <;> rfl) hd hR
        · cases ht
      · cases hp
    case lreturn =>
      simp only [okI, dcd, Bool.and_eq_true, decide_eq_true_eq] at hok
      obtain ⟨⟨hd, rfl⟩, ht⟩ := hok
      simp only [runL] at hp
      split at hp
      · next v => cases hp; exact hRet.2.1 _ _ _ _ _ _ v rfl ht hd hR
      · cases hp
    case areturn =>
      simp only [okI, dcd, Bool.and_eq_true, decide_eq_true_eq] at hok
      obtain ⟨⟨hd, rfl⟩, ht⟩ := hok
      simp only [runL] at hp
      split at hp
      · next v =>
        cases hp
        split at ht
        · next n e1 => exact hRet.2.2.1 _ _ _ _ _ _ v n rfl e1 hd hR
        · cases ht
      · cases hp
    case return_ =>
      simp only [okI, dcd, Bool.and_eq_true, decide_eq_true_eq] at hok
      obtain ⟨⟨hd, rfl⟩, ht⟩ := hok
      simp only [runL] at hp
      split at hp
      · cases hp; exact hRet.2.2.2 _ _ _ _ _ _ rfl ht hd hR
      · cases hp
    case invokestatic k =>
      simp only [okI, dcd, Bool.and_eq_true, decide_eq_true_eq] at hok
      obtain ⟨⟨⟨hd, hn⟩, rfl⟩, hw⟩ := hok
      split at hw
      · next nst cl mL w v _ hL1 hL2 =>
        simp only [Bool.and_eq_true] at hw
        obtain ⟨⟨hw1, hw2⟩, hw3⟩ := hw
        obtain ⟨f1, f2, f3, f4, f5, f6, f7, f8⟩ := cle_facts hM hw1
        simp only [runL, hL1] at hp
        split at hp
        · next as r hpop =>
          split at hp
          · next hcs =>
            obtain ⟨v', h', hcl, hq⟩ := retK_inv hp
            have hg := callE_gr hCg _ hcl
            rw [← f2] at hcl
            obtain ⟨d', hd', hmet⟩ := hC _ _ _ _ _ f1 hcl
            obtain ⟨hlen, hst⟩ := popN_at hpop
            refine rw_size fun hu => ?_
            refine hcall cl as v' h' r (as.map (vmv b bs)).toArray hg hq hn ?_
            have hstk : (F0 m pc lr (st.map (vmv b bs))).stack = (as.map (vmv b bs)).reverse ++ r.map (vmv b bs) := by
              show st.map (vmv b bs) = _
              rw [hst, List.map_append, List.map_reverse]
            have hlen' : (as.map (vmv b bs)).length = o.2.1 := by rw [List.length_map]; exact hlen
            split at hw3
            · exact va_runS (As := as.map (vmv b bs)) (rest := r.map (vmv b bs)) ⟨hx, hb, hml, hown, hts⟩ hmet ⟨callB_of o.2.1 hts (goodIn_TS f5) rfl rfl rfl (hts _ f6) (hts _ (wat_spec hw3)) ⟨f7, f8, f4⟩ (hroom d' v' h' _ hd' (by rw [f2]; exact f3)), hts _ (wat_spec hw2)⟩ ⟨PreA.blind hXw _ _, hR.pre hF0 hXw hu as⟩ rfl hlen' hL.2.1 hstk (lv_room (by rw [catS_map]; exact hcs)) hd (hfit h' hg (hrg _ _ _ hq))
            · exact va_runSN (As := as.map (vmv b bs)) (rest := r.map (vmv b bs)) ⟨hx, hb, hml, hown, hts⟩ hmet ⟨va_cnB o.2.1 hts (goodIn_TS f5) rfl rfl rfl (hKS.2.1 _ (xat_spec hw3)) (hts _ f6) ⟨f7, f8, f4⟩ (hroom d' v' h' _ hd' (by rw [f2]; exact f3)), hts _ (wat_spec hw2), trivial⟩ ⟨PreA.blind hXw _ _, hR.pre hF0 hXw hu as⟩ rfl hlen' hL.2.1 hstk (lv_room (by rw [catS_map]; exact hcs)) hd (hfit h' hg (hrg _ _ _ hq))
          · cases hp
        · cases hp
      · next w v u t _ hL1 hL2 =>
        simp only [runL, hL1] at hp
        split at hp
        · next hz1 =>
          have hd1 := hz hz1
          have hsz1 : c.maxLocals = lr.size := by rw [hml]; exact hL.2.1.symm
          have hgx := intr_gr (fun _ _ => hrg _ _ _) hp
          have hfx := hfit h Gr.rf hgx
          have hc0 : cells ≤ R.cells := by omega
          have hs0 : slots ≤ R.slots := by omega
          split at hw
          · next e1 =>
            simp only [Bool.and_eq_true] at hw
            rw [e1] at hp
            simp only [intr] at hp
            split at hp
            · next y1 y r =>
              split at hp
              · next hcs => exact va_mmin hx hb hsz1 hown (hts _ (wat_spec hw.1.1.1)) (hts _ (wat_spec hw.1.1.2)) (hts _ (wat_spec hw.1.2)) (hts _ (wat_spec hw.2)) (by omega) (by rw [catS_map]; omega) hc0 hs0 hd (by rw [← hn]; exact ih' _ _ _ hp _ _ _ _ _ hR hL)
              · cases hp
            · cases hp
          · next e1 =>
            simp only [Bool.and_eq_true] at hw
            rw [e1] at hp
            simp only [intr] at hp
            split at hp
            · next y1 y r =>
              split at hp
              · next hcs => exact va_mmax hx hb hsz1 hown (hts _ (wat_spec hw.1.1.1)) (hts _ (wat_spec hw.1.1.2)) (hts _ (wat_spec hw.1.2)) (hts _ (wat_spec hw.2)) (by omega) (by rw [catS_map]; omega) hc0 hs0 hd (by rw [← hn]; exact ih' _ _ _ hp _ _ _ _ _ hR hL)
              · cases hp
            · cases hp
          · next e1 =>
            simp only [Bool.and_eq_true] at hw
            rw [e1] at hp
            simp only [intr] at hp
            split at hp
            · next y1 y r =>
              split at hp
              · next hcs => exact va_mmax_long hx hb hsz1 hown (hts _ (wat_spec hw.1.1.1)) (hts _ (wat_spec hw.1.1.2)) (hts _ (wat_spec hw.1.2)) (hts _ (wat_spec hw.2)) (by omega) (by rw [catS_map]; omega) hc0 hs0 hd (by rw [← hn]; exact ih' _ _ _ hp _ _ _ _ _ hR hL)
              · cases hp
            · cases hp
          · next e1 =>
            simp only [Bool.and_eq_true] at hw
            rw [e1] at hp
            simp only [intr] at hp
            split at hp
            · next nn dp dd sp ss r =>
              split at hp
              · next hcs =>
                obtain ⟨h2, hcp, hp⟩ := oB_inv hp
                obtain ⟨n0, f, n1, g, q1, q2, q3, q4, q5, q6, q7, rfl⟩ := cpA_set hcp
                have hnf : nativeFrameWords "java/lang/System" "arraycopy" 5 ≤ 19 := by decide
                refine va_copyi hx hb hsz1 hown (hts _ (wat_spec hw.1.1.1)) (hts _ (wat_spec hw.2)) (hts _ (wat_spec hw.1.1.2)) (hts _ (wat_spec hw.1.2)) hKS.1 hR.1 wld_D hR.2.1 ss dd 0 0 (wld_at q1) (wld_at q2) (tys_at hG.2.1 hG.2.2.1) (tys_at hG.2.1 hG.2.2.1) rfl q3 q4 q5 q6 q7 (fun _ _ => rfl) (by omega) (by rw [catS_map]; omega) hd fun H1 locs1 hP1 _ hS1 => ?_
                rw [← hn]
                exact ih' _ _ _ hp _ _ _ _ _ (hR.put (cq := .inl (0, n1, .inl (va_cpy f g sp.toNatClampNeg dp.toNatClampNeg nn.toNatClampNeg))) hP1 hS1) hL
              · cases hp
            · cases hp
          · cases hw
        · cases hp
      · cases hw
    case invokevirtual k =>
      simp only [okI, dcd, Bool.and_eq_true, decide_eq_true_eq] at hok
      obtain ⟨⟨⟨hd, hn⟩, rfl⟩, hw⟩ := hok
      simp only [runL] at hp
      split at hp
      · next as q r hpop =>
        split at hp
        · next hcs =>
          obtain ⟨ci, ⟨cl, mL⟩, hci, hlook, hp⟩ := vdis_inv hp
          obtain ⟨v', h', hcl, hq⟩ := retK_inv hp
          obtain ⟨hlen, hst⟩ := popN_at hpop
          obtain ⟨fv, hfv⟩ := clsOf_get hci
          have hg := callE_gr hCg _ hcl
          have hlen' : (as.map (vmv b bs)).length = o.2.1 := by rw [List.length_map]; exact hlen
          have hstk : (F0 m pc lr (st.map (vmv b bs))).stack = (as.map (vmv b bs)).reverse ++ .ref (b + q) :: r.map (vmv b bs) := by
            show st.map (vmv b bs) = _
            rw [hst, List.map_append, List.map_reverse]
            rfl
          refine rw_size fun hu => ?_
          refine hcall cl as v' h' r ((.ref q :: as).map (vmv b bs)).toArray hg hq hn ?_
          split at hw
          · next w v u _ =>
            split at hw
            · next ci' cl' mL' hL1 =>
              simp only [Bool.and_eq_true, decide_eq_true_eq] at hw
              obtain ⟨⟨⟨⟨⟨w0, w1⟩, w2⟩, w3⟩, w4⟩, w5⟩ := hw
              rw [hL1] at hlook
              unfold look at hlook
              split at hlook
              · next hce =>
                cases hlook
                have hce' : ci' = ci := hce
                subst hce'
                obtain ⟨f1, f2, f3, f4, f5, f6, f7, f8⟩ := cle_facts hM w1
                rw [← f2] at hcl
                obtain ⟨d', hd', hmet⟩ := hC _ _ _ _ _ f1 hcl
                exact va_runV (C := (clN G.cl ci').1) (As := as.map (vmv b bs)) (rest := r.map (vmv b bs)) ⟨hx, hb, hml, hown, hts⟩ hmet ⟨callB_of o.2.1 hts (goodIn_TS f5) rfl rfl rfl (hts _ f6) (hts _ (wat_spec w3)) ⟨f7, f8, f4⟩ (hroom d' v' h' _ hd' (by rw [f2]; exact f3)), hts _ (wat_spec w4), hts _ (wat_spec w5)⟩ ⟨PreA.blind hXw _ _, va_recv hKS.1 hR.1 (clN_at w0) (wld_at hfv), hR.pre hF0 hXw hu (.ref q :: as)⟩ rfl hlen' hL.2.1 hstk (lv_room (by rw [catS_map]; exact hcs)) hd (hfit h' hg (hrg _ _ _ hq))
              · cases hlook
            · cases hw
          · next w sm ix xm ws _ =>
            simp only [Bool.and_eq_true, decide_eq_true_eq] at hw
            obtain ⟨⟨⟨⟨⟨w0, w1⟩, w2⟩, w3⟩, w4⟩, w5⟩ := hw
            have hpoly : ∀ (L : List (Nat × Nat × Nat)) (ws : List Nat), polyOk G xm o.2.1 o.2.2.1 L ws = true → look L ci = some (cl, mL) → ci < G.cl.length ∧ cleOk G cl mL o.2.1 o.2.2.1 = true ∧ Cond.selects (clN G.cl ci).1 (G.M xm).1 (G.M cl).1 ∈ TS G ∧ Cond.instanceMethod (G.M cl).1 ∈ TS G := by
              intro L
              induction L with
              | nil => intro ws _ hl; cases hl
              | cons a r' ihL =>
                intro ws hw hl
                obtain ⟨c1, c2, c3⟩ := a
                match ws, hw with
                | a1 :: b1 :: ws, hw =>
                  simp only [polyOk, Bool.and_eq_true, decide_eq_true_eq] at hw
                  obtain ⟨⟨⟨⟨u0, u1⟩, u2⟩, u3⟩, u4⟩ := hw
                  unfold look at hl
                  split at hl
                  · next hce =>
                    cases hl
                    have hce' : c1 = ci := hce
                    subst hce'
                    exact ⟨u0, u1, wat_spec u2, wat_spec u3⟩
                  · exact ihL ws u4 hl
                | [], hw => simp [polyOk] at hw
                | [_], hw => simp [polyOk] at hw
            obtain ⟨u0, u1, u2, u3⟩ := hpoly _ _ w5 hlook
            obtain ⟨f1, f2, f3, f4, f5, f6, f7, f8⟩ := cle_facts hM u1
            obtain ⟨⟨qx, hqx⟩, -⟩ := hM xm w0
            unfold okC at hqx
            simp only [Bool.and_eq_true, decide_eq_true_eq] at hqx
            obtain ⟨⟨⟨⟨⟨x1, x2⟩, -⟩, x3⟩, x4⟩, -⟩ := hqx
            rw [← f2] at hcl
            obtain ⟨d', hd', hmet⟩ := hC _ _ _ _ _ f1 hcl
            have hGo : GoodIn (TS G) (va_wsO (G.M mi).1.cls k (clN G.cl ci).1 (G.M xm).1.cls (G.M xm).1 (G.M cl).1 (.code (G.M cl).1 (G.M cl).2.1 (G.M cl).2.2.1 (G.M cl).2.2.2.1 :: TS G)) := by
              intro v9 hv9
              have hm9 : v9 ∈ TS G := by
                unfold va_wsO at hv9
                rcases List.mem_append.mp hv9 with h9 | h9
                · simp only [List.mem_cons, List.not_mem_nil, or_false] at h9
                  rcases h9 with rfl | rfl | rfl | rfl | rfl | rfl
                  · exact wat_spec w2
                  · exact wat_spec w3
                  · exact wat_spec w4
                  · exact u2
                  · exact u3
                  · exact f6
                · rcases List.mem_cons.mp h9 with rfl | h9
                  · exact f5
                  · exact h9
              exact ⟨hm9, good_of_word (good_TS hm9)⟩
            exact va_runU (C := (clN G.cl ci).1) (As := as.map (vmv b bs)) (rest := r.map (vmv b bs)) ⟨hx, hb, hml, hown, hts⟩ hmet (va_cwO o.2.1 hts hGo rfl rfl rfl (wat_spec x1) ⟨x3, x4, w1⟩ (hroom d' v' h' _ hd' (by rw [f2]; exact f3))) ⟨PreA.blind hXw _ _, va_recv hKS.1 hR.1 (clN_at u0) (wld_at hfv), hR.pre hF0 hXw hu (.ref q :: as)⟩ rfl hlen' hL.2.1 hstk (lv_room (by rw [catS_map]; exact hcs)) hd (hfit h' hg (hrg _ _ _ hq))
          · cases hw
        · cases hp
      · cases hp
    case invokespecial k =>
      simp only [okI, dcd, Bool.and_eq_true, decide_eq_true_eq] at hok
      obtain ⟨⟨⟨hd, hn⟩, rfl⟩, hw⟩ := hok
      simp only [runL] at hp
      split at hp
      · next as q r hpop =>
        split at hp
        · next hcs =>
          obtain ⟨hlen, hst⟩ := popN_at hpop
          have hlen' : (as.map (vmv b bs)).length = o.2.1 := by rw [List.length_map]; exact hlen
          have hstk : (F0 m pc lr (st.map (vmv b bs))).stack = (as.map (vmv b bs)).reverse ++ .ref (b + q) :: r.map (vmv b bs) := by
            show st.map (vmv b bs) = _
            rw [hst, List.map_append, List.map_reverse]
            rfl
          split at hw
          · next ks cl mL w v ws hL1 hL2 =>
            rw [hL1] at hp
            dsimp only at hp
            obtain ⟨ci, hci, hp⟩ := oB_inv hp
            · obtain ⟨v', h', hcl, hq⟩ := retK_inv hp
              obtain ⟨fv, hfv⟩ := clsOf_get hci
              have hg := callE_gr hCg _ hcl
              simp only [Bool.and_eq_true] at hw
              obtain ⟨⟨w1, w2⟩, w3⟩ := hw
              obtain ⟨f1, f2, f3, f4, f5, f6, f7, f8⟩ := cle_facts hM w1
              rw [← f2] at hcl
              obtain ⟨d', hd', hmet⟩ := hC _ _ _ _ _ f1 hcl
              refine rw_size fun hu => ?_
              refine hcall cl as v' h' r ((.ref q :: as).map (vmv b bs)).toArray hg hq hn ?_
              have hrm := hroom d' v' h' (G.M cl).2.2.1 hd' (by rw [f2]; exact f3)
              unfold MetA at hmet
              split at w3
              · simp only [Bool.and_eq_true, decide_eq_true_eq] at w3
                obtain ⟨⟨y1, y2⟩, y3⟩ := w3
                rw [y2] at hmet f5
                exact va_runI (As := as.map (vmv b bs)) (rest := r.map (vmv b bs)) ⟨hx, hb, hml, hown, hts⟩ hmet ⟨callB_of o.2.1 hts (goodIn_TS f5) rfl rfl rfl (hts _ f6) (hts _ (wat_spec y3)) ⟨f7, f8, f4⟩ hrm, y1, hts _ (wat_spec w2)⟩ ⟨PreA.blind hXw _ _, hR.pre hF0 hXw hu (.ref q :: as)⟩ rfl hlen' hL.2.1 hstk (lv_room (by rw [catS_map]; exact hcs)) hd (hfit h' hg (hrg _ _ _ hq))
              · simp only [Bool.and_eq_true, decide_eq_true_eq] at w3
                obtain ⟨⟨y1, y2⟩, y3⟩ := w3
                rw [y2] at hmet f5
                exact va_runIN (As := as.map (vmv b bs)) (rest := r.map (vmv b bs)) ⟨hx, hb, hml, hown, hts⟩ hmet ⟨va_cnB o.2.1 hts (goodIn_TS f5) rfl rfl rfl (hKS.2.1 _ (xat_spec y3)) (hts _ f6) ⟨f7, f8, f4⟩ hrm, y1, hts _ (wat_spec w2)⟩ ⟨PreA.blind hXw _ _, hR.pre hF0 hXw hu (.ref q :: as)⟩ rfl hlen' hL.2.1 hstk (lv_room (by rw [catS_map]; exact hcs)) hd (hfit h' hg (hrg _ _ _ hq))
              · split at w3
                · next a1 b1 =>
                  simp only [Bool.and_eq_true, decide_eq_true_eq] at w3
                  obtain ⟨⟨⟨y1, y2⟩, y3⟩, y4⟩ := w3
                  have hcl9 : ci < G.cl.length := by
                    obtain ⟨r9, h9, -⟩ := hR.1 q _ (wld_at hfv)
                    exact (List.getElem?_eq_some_iff.mp h9).1
                  have hGo : GoodIn (TS G) (va_wsSU (G.M mi).1.cls k (G.M cl).1 (.code (G.M cl).1 (G.M cl).2.1 (G.M cl).2.2.1 (G.M cl).2.2.2.1 :: TS G)) := by
                    intro v9 hv9
                    have hm9 : v9 ∈ TS G := by
                      unfold va_wsSU at hv9
                      rcases List.mem_append.mp hv9 with h9 | h9
                      · simp only [List.mem_cons, List.not_mem_nil, or_false] at h9
                        rcases h9 with rfl | rfl | rfl | rfl | rfl
                        · exact wat_spec y2
                        · exact wat_spec y3
                        · exact wat_spec y4
                        · exact wat_spec w2
                        · exact f6
                      · rcases List.mem_cons.mp h9 with rfl | h9
                        · exact f5
                        · exact h9
                    exact ⟨hm9, good_of_word (good_TS hm9)⟩
                  exact va_runSU (C := (clN G.cl ci).1) (As := as.map (vmv b bs)) (rest := r.map (vmv b bs)) (hKS.1.1 _ _ (clN_at hcl9)).2 ⟨hx, hb, hml, hown, hts⟩ hmet (va_cwSU o.2.1 hts hGo rfl rfl rfl ⟨y1, f4⟩ hrm) ⟨PreA.blind hXw _ _, va_recv hKS.1 hR.1 (clN_at hcl9) (wld_at hfv), hR.pre hF0 hXw hu (.ref q :: as)⟩ rfl hlen' hL.2.1 hstk (lv_room (by rw [catS_map]; exact hcs)) hd (hfit h' hg (hrg _ _ _ hq))
                · cases w3
          · next w v u _ hL1 hL2 =>
            rw [hL1] at hp
            dsimp only at hp
            split at hp
            · next hz1 =>
              have hd1 := hz hz1
              simp only [Bool.and_eq_true, decide_eq_true_eq] at hw
              obtain ⟨⟨⟨w0, w1⟩, w2⟩, w3⟩ := hw
              have has : as = [] := List.eq_nil_of_length_eq_zero (hlen.trans w0)
              subst has
              refine W.objInit hx hb hown (hts _ (wat_spec w1)) (hts _ (wat_spec w2)) (hts _ (wat_spec w3)) rfl (by rw [hml]; exact hL.2.1) (a := b + q) (rest := r.map (vmv b bs)) hstk hd (by omega) ?_ ?_
              · have hro := lv_room (m := m) (pc := pc) (ls := lr) (rest := st.map (vmv b bs)) (st := r.map (vmv b bs)) (by rw [catS_map]; exact hcs)
                omega
              · have := ih' _ _ _ hp _ _ _ _ _ hR hL
                rw [hn] at this
                exact this
            · cases hp
          · cases hw
        · cases hp
      · cases hp
    case idiv => exact hst_sound (z := z) hG hF0 hok hp hR (fun _ _ => hrg _ _ _) hRc hRs (fun _ _ _ _ _ _ q hR' => ih' _ _ _ q _ _ _ _ _ hR' hL)
    case irem => exact hst_sound (z := z) hG hF0 hok hp hR (fun _ _ => hrg _ _ _) hRc hRs (fun _ _ _ _ _ _ q hR' => ih' _ _ _ q _ _ _ _ _ hR' hL)
    case ldiv => exact hst_sound (z := z) hG hF0 hok hp hR (fun _ _ => hrg _ _ _) hRc hRs (fun _ _ _ _ _ _ q hR' => ih' _ _ _ q _ _ _ _ _ hR' hL)
    case lrem => exact hst_sound (z := z) hG hF0 hok hp hR (fun _ _ => hrg _ _ _) hRc hRs (fun _ _ _ _ _ _ q hR' => ih' _ _ _ q _ _ _ _ _ hR' hL)
    case getfield k => exact hst_sound (z := z) hG hF0 hok hp hR (fun _ _ => hrg _ _ _) hRc hRs (fun _ _ _ _ _ _ q hR' => ih' _ _ _ q _ _ _ _ _ hR' hL)
    case putfield k => exact hst_sound (z := z) hG hF0 hok hp hR (fun _ _ => hrg _ _ _) hRc hRs (fun _ _ _ _ _ _ q hR' => ih' _ _ _ q _ _ _ _ _ hR' hL)
    case iaload => exact hst_sound (z := z) hG hF0 hok hp hR (fun _ _ => hrg _ _ _) hRc hRs (fun _ _ _ _ _ _ q hR' => ih' _ _ _ q _ _ _ _ _ hR' hL)
    case iastore => exact hst_sound (z := z) hG hF0 hok hp hR (fun _ _ => hrg _ _ _) hRc hRs (fun _ _ _ _ _ _ q hR' => ih' _ _ _ q _ _ _ _ _ hR' hL)
    case aaload => exact hst_sound (z := z) hG hF0 hok hp hR (fun _ _ => hrg _ _ _) hRc hRs (fun _ _ _ _ _ _ q hR' => ih' _ _ _ q _ _ _ _ _ hR' hL)
    case aastore => exact hst_sound (z := z) hG hF0 hok hp hR (fun _ _ => hrg _ _ _) hRc hRs (fun _ _ _ _ _ _ q hR' => ih' _ _ _ q _ _ _ _ _ hR' hL)
    case arraylength => exact hst_sound (z := z) hG hF0 hok hp hR (fun _ _ => hrg _ _ _) hRc hRs (fun _ _ _ _ _ _ q hR' => ih' _ _ _ q _ _ _ _ _ hR' hL)
    case instanceof k => exact hst_sound (z := z) hG hF0 hok hp hR (fun _ _ => hrg _ _ _) hRc hRs (fun _ _ _ _ _ _ q hR' => ih' _ _ _ q _ _ _ _ _ hR' hL)
    case new k => exact hst_sound (z := z) hG hF0 hok hp hR (fun _ _ => hrg _ _ _) hRc hRs (fun _ _ _ _ _ _ q hR' => ih' _ _ _ q _ _ _ _ _ hR' hL)
    case newarray k => exact hst_sound (z := z) hG hF0 hok hp hR (fun _ _ => hrg _ _ _) hRc hRs (fun _ _ _ _ _ _ q hR' => ih' _ _ _ q _ _ _ _ _ hR' hL)
    case anewarray k => exact hst_sound (z := z) hG hF0 hok hp hR (fun _ _ => hrg _ _ _) hRc hRs (fun _ _ _ _ _ _ q hR' => ih' _ _ _ q _ _ _ _ _ hR' hL)
    case multianewarray k n => exact hst_sound (z := z) hG hF0 hok hp hR (fun _ _ => hrg _ _ _) hRc hRs (fun _ _ _ _ _ _ q hR' => ih' _ _ _ q _ _ _ _ _ hR' hL)
    all_goals (
      simp only [runL] at hp
      split at hp
      · next ls' st' hps => exact pst_sound hF0 hok hps hL (fun lr' hL' => ih' _ _ _ hp _ _ _ _ _ hR hL')
      · cases hp)
end Blk
end
section
/-! what the abstract machine answers of a method, the machine does: contracts, by induction on the fuel -/
section Snd
variable {G : PG} {D : va_G} {tys : List (ClassId × FieldType)} {b bs : Nat} {sc : Nat × (Nat → Int32)}
/-- a frame, from a block on -/
def FrmOk (G : PG) (D : va_G) (tys : List (ClassId × FieldType)) (b bs : Nat) (sc : Nat × (Nat → Int32)) (l : Launch) (n : Nat) : Prop :=
  ∀ (mi : Nat) (h0 : AH) (p : Program) (e : Env) (R : Room) (s : State) (m : MethodId) (args : Array Value) (below : List Frame) (meth : Method) (c : Code) (Q : State → Prop) (d bk : Nat) (ls st : List Value) (h : AH) (x : Res),
    okM G mi = true → FC G D tys b bs sc mi p s m args meth c h0 → d ≤ R.frames → 40 * d ≤ R.locals → x.2.1 - h0.1 ≤ R.cells → x.2.2.1 - h0.2.1 ≤ R.slots → RetOk G D tys b bs mi h0 p l e R s m args below meth c Q x → exec (PB G.M) sc n d mi bk ls st h = some x →
    ∀ (H : Heap) (locs : List Loc) (cells slots : Nat) (lr : Array Slot), SR G D tys b bs s h0 h H locs cells slots → LR b bs (G.M mi).2.2.1 ls lr → W p l e R s m args below meth c H locs cells slots Q (F0 m (bpc G.M mi bk) lr (st.map (vmv b bs)))
def MetOk (G : PG) (D : va_G) (tys : List (ClassId × FieldType)) (b bs : Nat) (sc : Nat × (Nat → Int32)) (l : Launch) (n : Nat) : Prop :=
  ∀ (cl d : Nat) (as : List Value) (h : AH) (r : Option Value) (h' : AH), cl < G.nM → (layL as).length ≤ (G.M cl).2.2.1 → exec (PB G.M) sc n d cl 0 (entL (G.M cl).2.2.1 as) [] h = some (r, h') → MetA G D tys b bs sc l cl as h r h' d
set_option maxHeartbeats 2000000 in
theorem met_of_frm (hM : MOk G) (hbs : bs < b) {l : Launch} {n : Nat} (hFr : FrmOk G D tys b bs sc l n) : MetOk G D tys b bs sc l n := by
  intro cl d as h r h' hcl hlen hex
  obtain ⟨⟨q, hq⟩, hokm⟩ := hM cl hcl
  have hcw := hq
  unfold okC at hq
  simp only [Bool.and_eq_true, decide_eq_true_eq] at hq
  obtain ⟨⟨⟨⟨⟨q1, q2⟩, q3⟩, q4⟩, q5⟩, q6⟩ := hq
  have hg := exec_gr _ _ _ _ _ _ _ _ _ _ hex
  unfold MetA
  refine Met.ofW (cc := (G.M cl).2.1) (maxL := (G.M cl).2.2.1) (ret := (G.M cl).2.2.2.1) q3 rfl ?_
  intro p e s m args below meth c s₁ B hml hv
  obtain ⟨rfl, hsz, hP, hK, hX⟩ := hv
  have hts0 := atoms_spec (ws := .code (G.M cl).1 (G.M cl).2.1 (G.M cl).2.2.1 (G.M cl).2.2.2.1 :: TS G) B.pre
  have hts : ∀ w ∈ TS G, w.before (as.map (vmv b bs)).toArray s = true := fun w hw => hts0 w (List.mem_cons_of_mem _ hw)
  have hlocks := B.notSynchronized
  have hFC : FC G D tys b bs sc cl p s m (as.map (vmv b bs)).toArray meth c h := ⟨B.exec, B.bytes, hml, B.returns, findClass_of_methodNamed B.named, hts, (name_of_methodNamed B.named B.method).1, hlocks, hK, hX, hbs, hsz⟩
  have hS0 : SR G D tys b bs s h h s.heap [] 0 0 := ⟨hP, va_S.rf, by omega, by omega, Gr.rf⟩
  rw [lg_entry_eq]
  have key := hFr cl h p e ({ frames := d, cells := h'.1 - h.1, slots := h'.2.1 - h.2.1, locals := 40 * d }) s m (as.map (vmv b bs)).toArray below meth c (MQ below (Post D G.cl b bs (cAt tys) r h') (as.map (vmv b bs)).toArray s (h'.1 - h.1) (h'.2.1 - h.2.1) (fun q => b ≤ q)) d 0 (entL (G.M cl).2.2.1 as) [] h (r, h') hokm hFC (Nat.le_refl _) (Nat.le_refl _) (Nat.le_refl _) (Nat.le_refl _) ?_ hex s.heap [] 0 0 _ hS0 (LR.entry hlen)
  · rw [q6] at key
    exact key
  · have hend : ∀ (H : Heap) (locs : List Loc) (t : State), t.heap = H → va_P D G.cl (wld b bs (cAt tys) h') H → va_S (fun q => b ≤ q) s.heap H locs → Post D G.cl b bs (cAt tys) r h' (as.map (vmv b bs)).toArray s (.returned (r.map (vmv b bs))) t := fun H locs t ht hP1 hS1 => ⟨⟨rfl, by rw [ht]; exact hP1⟩, hS1.F ht⟩
    refine ⟨?_, ?_, ?_, ?_⟩
    · intro H locs cells slots pc lr v ty hr hty hn hd hR
      obtain ⟨hP1, hS1, rfl, rfl, -⟩ := hR
      have hr' : r = some (.int v) := hr
      refine W.zret (v := v) B.exec B.bytes (B.returns.trans hty) hn (fun t ht _ => ?_) hS1.2.2 hd
      have := hend H locs t ht hP1 hS1
      rw [hr'] at this ⊢
      exact this
    · intro H locs cells slots pc lr v hr hty hd hR
      obtain ⟨hP1, hS1, rfl, rfl, -⟩ := hR
      have hr' : r = some (.long v) := hr
      refine W.lret (v := v) B.exec B.bytes (B.returns.trans hty) (fun t ht _ => ?_) hS1.2.2 hd
      have := hend H locs t ht hP1 hS1
      rw [hr'] at this ⊢
      exact this
    · intro H locs cells slots pc lr v n hr hty hd hR
      obtain ⟨hP1, hS1, rfl, rfl, -⟩ := hR
      have hr' : r = some (.ref v) := hr
      refine W.aret (v := .ref (b + v)) B.exec B.bytes (B.returns.trans hty) (Or.inl ⟨n, rfl⟩) (Or.inr ⟨_, rfl⟩) (fun t ht _ => ?_) hS1.2.2 hd
      have := hend H locs t ht hP1 hS1
      rw [hr'] at this ⊢
      exact this
    · intro H locs cells slots pc lr hr hty hd hR
      obtain ⟨hP1, hS1, rfl, rfl, -⟩ := hR
      have hr' : r = none := hr
      refine W.vret B.exec B.bytes (B.returns.trans hty) (fun t ht _ => ?_) hS1.2.2 hd
      have := hend H locs t ht hP1 hS1
      rw [hr'] at this ⊢
      exact this
theorem frm_sound (hG : GOK G tys) (hM : MOk G) (hXw : XwOk G) (hbs : bs < b) (l : Launch) : ∀ n, FrmOk G D tys b bs sc l n := by
  intro n
  induction n with
  | zero => intro mi h0 p e R s m args below meth c Q d bk ls st h x _ _ _ _ _ _ _ hex; cases hex
  | succ n ih =>
    intro mi h0 p e R s m args below meth c Q d bk ls st h x hok hF hRf hRl hRc hRs hRet hex H locs cells slots lr hR hL
    have hmet := met_of_frm hM hbs ih
    have hblk := blk_sound (Q := Q) (x := x) hG hM hXw hF hRf hRl (z := decide (d ≠ 0)) (fun q => by have := of_decide_eq_true q; omega) (C := fun c as h' => match (generalizing := false) d with | 0 => none | d' + 1 => exec (PB G.M) sc n d' c 0 as [] h') (K := fun b' ls' st' h' => exec (PB G.M) sc n d mi b' ls' st' h')
      (fun c as h x hx => by
        cases d with
        | zero => cases hx
        | succ d => exact exec_gr _ _ _ _ _ _ _ _ _ _ hx)
      (fun b' ls st h x hx => exec_gr _ _ _ _ _ _ _ _ _ _ hx) hRc hRs
      (fun cl as h r h' hcl hx => by
        unfold callE at hx
        split at hx
        · next hlen =>
          cases d with
          | zero => cases hx
          | succ d => exact ⟨d, rfl, hmet cl d as h r h' hcl hlen hx⟩
        · cases hx)
      (fun bk ls st h hx H locs cells slots lr hR hL => ih mi h0 p e R s m args below meth c Q d bk ls st h x hok hF hRf hRl hRc hRs hRet hx H locs cells slots lr hR hL)
      hRet (PB G.M mi bk) ls st h (okM_blk hok bk) hex H locs cells slots lr hR hL
    exact hblk
end Snd
end
